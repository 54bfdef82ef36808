theorem pm_ex (T : List Int) : ∃ z vs, pm T 0 (-1) [] = (z, vs) := ⟨_, _, rfl⟩
theorem Val_one {R : Type} [Lean.Grind.CommRing R] {p : Nat} {co : R → Nat → Int} {mk : (Nat → Int) → R} (H : PD p co mk) {f F : R} {g : Nat → R} {L : List R} (hV : Val p co mk f g L) (hm : mon co F) (hd : 2 ≤ dd co F ∧ dd co F ≤ 7) (hs : SF p co mk F) : Val p co mk F (fun k => rm co (g k) F) [F] := by
  refine ⟨hm, hd, hs, fun k _ => (rm_spec H (g k) (mon_ne H hm)).2, ⟨fun x hx => ?_, ?_⟩, ?_⟩
  · rw [List.mem_singleton.mp hx]; exact ⟨hm, hd.1⟩
  · show F * 1 = F
    grind
  · exact List.pairwise_cons.mpr ⟨(fun b hb => by cases hb), List.Pairwise.nil⟩
theorem gop_readModulus {R : Type} [Lean.Grind.CommRing R] {p : Nat} {co : R → Nat → Int} {mk : (Nat → Int) → R} (H : PD p co mk) {sv : R → (Nat → R) → List R → SV} (E : EN p co mk sv) {σ : SG} {f : R} {g : Nat → R} {L : List R} {h : List SV} {m : Option SV} {T : List Int} {Q : Int → Int → SG → Prop} (hS : Scn co σ 1 p f g L) (hA : Awn co (σ 305) p f g L) (hV : Val p co mk f g L) (hR : Rst σ h h m T) (hQ : ∀ r σ2 f g L h, Scn co σ2 1 p f g L → Awn co (σ2 305) p f g L → Val p co mk f g L → Rst σ2 h h m T → Q r r σ2) : wp_X9_readModulus σ (fun r σ1 => wp_X10_readModulus σ1 (fun r2 σ2 => Q r r2 σ2)) := by
  unfold wp_X9_readModulus
  have hp := pd_p H
  have same : ∀ {r : Int} {σ' : SG}, FrR σ σ' → Q r r σ' := fun f1 => hQ _ _ f g L h (Scn_cgr hS (fun i a b => f1.1 i (by omega))) (Awn_R hA f1) hV (Rst_X hR (FrX.ofR f1))
  refine spec_X8_polynomialFault hR.2.2.1.2 (fun σ1 a1 a2 z vs hpm hz1 hz2 => ?_)
  have f1 : FrR σ σ1 := ⟨fun i hi => a1 i (by omega) (by omega), a2 1 (by decide), fun k _ => by rw [a1 304 (by omega) (by omega)]⟩
  have hzb : ∀ z', (pm T 0 (-1) []).1 = z' → z' ≠ -1 → 0 ≤ z' ∧ z' ≤ 60 := fun z' h1 h2 => by
    rw [hpm] at h1
    have h1 : z = z' := h1
    subst h1
    exact hz2 h2
  have hS1 := Scn_cgr hS (fun i a b => f1.1 i (by omega))
  refine ⟨fun hneg => ?_, fun hpos => ?_⟩
  · have hz : z = -1 := by
      apply Decidable.byContradiction
      intro h9
      have := hz2 h9
      omega
    subst hz
    obtain ⟨t3, tl1, tl7, tV⟩ := hz1 rfl
    -- the reference, from a picture behind the class
    have hM : ∀ (σ3 : SG) (hc : List SV) (K : Int → SG → Prop), Awn co (σ3 305) p f g L → Rst σ3 hc h m T → (¬ mok p vs → ∀ σ', FrR σ3 σ' → K (-2) σ') → (mok p vs → ¬ SF p co mk (vp mk vs vs.length : R) → ∀ σ', FrR σ3 σ' → K (-4) σ') → (mok p vs → SF p co mk (vp mk vs vs.length : R) → (vp mk vs vs.length = f → ∀ σ', FrR σ3 σ' → K (-5) σ') ∧ (vp mk vs vs.length ≠ f → ∀ σ' : SG, (∀ i, i < 304 → σ' i = σ3 i) → Awn co (σ' 305) p (vp mk vs vs.length) (fun k => rm co (g k) (vp mk vs vs.length)) [vp mk vs vs.length] → Rst σ' hc (push h (sv f g L)) m T → K ((vs.length : Int) - 1) σ')) → wp_X10_readModulus σ3 K := by
      intro σ3 hc K A3 R3 hk2 hk4 hk
      refine spec_rmM H E A3 hV R3 hzb (fun z' h1 h2 => absurd (by rw [← h1, hpm]) h2) (fun vs' h1 h2 => ?_) (fun vs' h1 h2 _ => ?_)
      · rw [hpm] at h1
        injection h1 with _ e
        subst e
        exact hk2 h2
      · rw [hpm] at h1
        injection h1 with _ e
        subst e
        exact ⟨hk4 h2, hk h2⟩
    refine spec_X9_isModulusTold hS1.1 t3 tl7 tV (fun hmok => ⟨fun _ => ?_, fun h => absurd h (by decide)⟩) (fun hmok => ⟨fun h => absurd rfl h, fun _ => ?_⟩)
    · obtain ⟨n, hn⟩ : ∃ n, vs.length = n + 1 := ⟨vs.length - 1, by omega⟩
      have hv := hmok.1
      obtain ⟨hdF, hmF⟩ := vp_mon H hv hn (by have := hmok.2.2; rw [hn] at this; exact this)
      have h2n := hmok.2.1
      refine spec_X8_copyPolynomial H t3 tl7 tV hv kt302 (by decide) (fun σ2 k2 m2 => ?_)
      have f2 := f1.tr (FrR.ofL (FrL.of1 k2) (by decide))
      have hF0 := mon_ne H hmF
      have hS2 := Scn_cgr hS (fun i a b => f2.1 i (by omega))
      refine spec_X2_hasSquare H hS2.1 m2 (by decide) hF0 (fun z7 σ3 k3 hz7 => ?_)
      have f3 := f2.tr (FrR.ofL k3 (by decide))
      have hS3 := Scn_cgr hS (fun i a b => f3.1 i (by omega))
      have A3 := Awn_R hA f3
      have m3 := Rp_frL m2 (by decide +kernel) (by decide) k3
      rcases hz7 with ⟨rfl, hsf⟩ | ⟨rfl, hsf⟩
      · refine ⟨fun _ => spec_X4_sameAs H m3 hS3.2.1 (fun z9 hz9 => ?_), fun h => absurd rfl h⟩
        rcases hz9 with ⟨rfl, hne⟩ | ⟨rfl, heq⟩
        · refine ⟨fun _ => ?_, fun h => absurd rfl h⟩
          refine rec_c (Rst_X hR (FrX.ofR f3)) ((E.1 _ _ _ _ _).mp hS3) ((E.2.2 _ _ _).mp hV) (fun σ4 e4 R4 => ?_)
          have hS4 : Scn co σ4 1 p f g L := Scn_cgr hS3 (fun i a b => e4 i (by omega))
          have m4 := Rp_cg m3 (e4 302 (by omega)) (e4 303 (by omega))
          refine spec_X7_takeModulus H (by decide +kernel) hS4.2.2.2.2.1 m4 (fun σ5 k5 S5 m5 => ?_)
          have P2 : ∀ t ∈ [1 + 1], KT.getD t 99 = 4 := by decide +kernel
          have hn5 : ∀ k, k < 6 → 1 + 3 + 1 + 2 * k ∉ brs 1 ++ [1 + 1] := fun k hk => nin_app (reg_st hk).1 (fun e => by simp at e; omega)
          have p5 : σ5 1 0 = p := by rw [k5.p (by decide +kernel) P2]; exact hS4.1
          have x5 : FrX σ4 σ5 := FrX.ofB k5 (by decide)
          have o5 : σ5 305 = σ4 305 := k5.1 305 (by decide) (by decide) (by decide +kernel)
          refine Lp1_up 6 (fun n' σ' => FrX σ5 σ' ∧ σ' 305 = σ5 305 ∧ σ' 1 = σ5 1 ∧ Rp co σ' 2 (vp mk vs vs.length : R) ∧ Sb co σ' 1 [(vp mk vs vs.length : R)] ∧ ∀ k, k < 6 → Rp co σ' (1 + 3 + 1 + 2 * k) (if k < n' then rm co (g k) (vp mk vs vs.length) else g k)) ⟨FrX.rf _, rfl, rfl, m5, S5, fun k hk => by rw [if_neg (by omega)]; exact Rp_frB (by decide +kernel) (hS4.2.2.1 k hk) P2 (hn5 k hk) k5⟩ ?_ ?_
          · rintro n' σ6 r hn' ⟨b1, b2, b3, b4, b5, b6⟩ hr
            have hr0 := reg_st hn'
            refine ⟨fun h => by omega, fun _ => ⟨by omega, ?_⟩⟩
            rw [Int.toNat_natCast]
            have r6 := b6 n' hn'
            rw [if_neg (by omega)] at r6
            refine spec_X2_reduce H (by rw [b3]; exact p5) r6 b4 (by omega) (by decide) (by omega) hF0 (fun σ7 k7 m7 => ⟨by omega, hr _ ⟨b1.tr ?_, ?_, ?_, ?_, ?_, fun k hk => ?_⟩⟩)
            · have h36 : ∀ i, i ≠ 1 + 3 + 1 + 2 * n' → i ≠ 1 + 3 + 1 + 2 * n' + 1 → i ≠ 36 → i ≠ 37 → σ7 i = σ6 i := fun i i1 i2 i3 i4 => k7 i (fun t ht => by
                rcases List.mem_cons.mp ht with rfl | ht
                · exact ⟨i1, i2⟩
                · rw [List.mem_singleton.mp ht]; exact ⟨i3, i4⟩)
              exact ⟨fun i hi => h36 i (by omega) (by omega) (by omega) (by omega), by rw [h36 30 (by omega) (by omega) (by omega) (by omega)], fun k _ => by rw [h36 304 (by omega) (by omega) (by omega) (by omega)]⟩
            · rw [k7 305 (fun t ht => by simp at ht; omega)]; exact b2
            · rw [k7 1 (fun t ht => by simp at ht; omega)]; exact b3
            · exact Rp_frL b4 (cons_P r6.1 (by decide +kernel)) (fun e => by simp at e; omega) k7
            · exact Sb_frL b5 (cons_P r6.1 (by decide +kernel)) (fun t ht => by
                rcases List.mem_cons.mp ht with rfl | ht
                · exact hr0.1
                · rw [List.mem_singleton.mp ht]; decide) k7
            · by_cases q : k = n'
              · subst q
                rw [if_pos (by omega)]; exact m7
              · have hk8 := Rp_frL (b6 k hk) (cons_P r6.1 (by decide +kernel)) (fun e => by simp at e; omega) k7
                by_cases q2 : k < n'
                · rw [if_pos q2] at hk8; rw [if_pos (by omega)]; exact hk8
                · rw [if_neg q2] at hk8; rw [if_neg (by omega)]; exact hk8
          · rintro σ6 r ⟨b1, b2, b3, b4, b5, b6⟩
            refine ⟨fun _ => ?_, fun h => absurd (Int.le_refl _) h⟩
            have hS6 : Scn co σ6 1 p (vp mk vs vs.length) (fun k => rm co (g k) (vp mk vs vs.length)) [(vp mk vs vs.length : R)] := ⟨by rw [b3]; exact p5, b4, fun k hk => by have := b6 k hk; rw [if_pos hk] at this; exact this, b5⟩
            have R6 := Rst_X R4 (x5.tr b1)
            have A6 : Awn co (σ6 305) p f g L := by rw [b2, o5, e4 305 (by omega)]; exact A3
            rw [b4.2.2.2, hdF]
            refine hM σ6 _ _ A6 R6 (fun h => absurd hmok h) (fun _ h => absurd hsf h) (fun _ _ => ⟨fun e => absurd e hne, fun _ σ7 e7 A7 R7 => ?_⟩)
            rw [show ((n + 1 : Nat) : Int) = (vs.length : Int) by omega]
            exact hQ _ _ _ _ _ _ (Scn_cgr hS6 (fun i a b => e7 i (by omega))) A7 (Val_one H hV hmF (by omega) hsf) R7
        · exact ⟨fun h => absurd h (by decide), fun _ => hM σ3 _ _ A3 (Rst_X hR (FrX.ofR f3)) (fun h => absurd hmok h) (fun _ h => absurd hsf h) (fun _ _ => ⟨fun _ σ7 f7 => same (f3.tr f7), fun e => absurd heq e⟩)⟩
      · exact ⟨fun h => absurd h (by decide), fun _ => hM σ3 _ _ A3 (Rst_X hR (FrX.ofR f3)) (fun h => absurd hmok h) (fun _ _ σ7 f7 => same (f3.tr f7)) (fun _ h => absurd h hsf)⟩
    · exact hM σ1 _ _ (Awn_R hA f1) (Rst_X hR (FrX.ofR f1)) (fun _ σ7 f7 => same (f1.tr f7)) (fun h => absurd h hmok) (fun h => absurd h hmok)
  · have hz9 : z ≠ -1 := by omega
    have hb := hz2 hz9
    refine ⟨by omega, ?_⟩
    refine spec_rmM H E (Awn_R hA f1) hV (Rst_X hR (FrX.ofR f1)) hzb (fun z' h1 h2 σ7 f7 => ?_) (fun vs' h1 => ?_) (fun vs' h1 => ?_)
    · rw [hpm] at h1
      have h1 : z = z' := h1
      subst h1
      exact same (f1.tr f7)
    · rw [hpm] at h1
      injection h1 with e _
      exact absurd e hz9
    · rw [hpm] at h1
      injection h1 with e _
      exact absurd e hz9
