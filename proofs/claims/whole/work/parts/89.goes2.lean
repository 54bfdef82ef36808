/-! the reference goes along: behind a product -/
theorem xb_j {c e : Int} (he : e = 1 ∨ e = 3) : (c = 41 ∧ xb c e = 1) ∨ (c ≠ 41 ∧ (c = 42 ∨ c = 43 ∨ c = 45 ∨ c = 47) ∧ xb c e = 0) ∨ (c = 94 ∧ e = 1) ∨ (c ≠ 41 ∧ c ≠ 42 ∧ c ≠ 43 ∧ c ≠ 45 ∧ c ≠ 47 ∧ xb c e < 0) := by
  have h : xb c e = if c = 41 then 1 else if c = 42 ∨ c = 43 ∨ c = 45 ∨ c = 47 then 0 else if c = 94 then (if e = 1 then 2 else -1) else -1 := by
    unfold xb
    rw [if_neg (by omega), if_neg (by omega)]
  by_cases q1 : c = 41
  · rw [if_pos q1] at h; exact Or.inl ⟨q1, h⟩
  · rw [if_neg q1] at h
    by_cases q2 : c = 42 ∨ c = 43 ∨ c = 45 ∨ c = 47
    · rw [if_pos q2] at h; exact Or.inr (Or.inl ⟨q1, q2, h⟩)
    · rw [if_neg q2] at h
      by_cases q3 : c = 94
      · rw [if_pos q3] at h
        by_cases q4 : e = 1
        · exact Or.inr (Or.inr (Or.inl ⟨q3, q4⟩))
        · rw [if_neg q4] at h
          exact Or.inr (Or.inr (Or.inr ⟨q1, by omega, by omega, by omega, by omega, by omega⟩))
      · rw [if_neg q3] at h
        exact Or.inr (Or.inr (Or.inr ⟨q1, by omega, by omega, by omega, by omega, by omega⟩))
theorem ga_tail_spec {R : Type} [Lean.Grind.CommRing R] {p : Nat} {co : R → Nat → Int} {mk : (Nat → Int) → R} (H : PD p co mk) {σ0 σ : SG} {T : List Int} {f : R} {g : Nat → R} {a1 : Int} {Z : R × List R} {k d : Nat} {e : Int} {lev : Nat → R × R × Int × Int} {w : R} {L : List R} {Q : Int → SG → Prop} {rec12 : Int → SG → Prop} (hT0 : Txt σ0 T) (hJ : GJ p co mk σ0 T f g a1 Z σ k e d lev w L) (hd : d = 0 ∨ T[k]? ≠ some 41) (h0 : G0 σ0 T a1 Q) (h1 : G1 p co mk σ0 T f g a1 Z Q) (hr : ∀ (σ' : SG) k' lev' w' L', k < k' → GH p co mk σ0 T f g a1 Z σ' k' d lev' w' L' → rec12 d σ') : ga_tail a1 d rec12 Q σ := by
  unfold ga_tail
  obtain ⟨hB, ⟨hA, hE⟩, hv⟩ := hJ
  obtain ⟨⟨b1, b2, b3, b4⟩, ⟨b5, b6, b7⟩, ⟨b8, b9⟩, b10⟩ := hB
  have hT := FG.txt hT0 b1
  have t3 := hT0.1.2.2
  have hf0 := Val_ne H b6
  have hfd := b6.2.1
  have he13 : e = 1 ∨ e = 3 := by omega
  have hyd := js_dd H (b8 d (Nat.le_refl _)) (jq_dd H hf0 (lev d) w)
  have hs : a1 ≠ 0 → σ 313 d ≠ 0 → Rr co σ (20 + (d : Int)) (lev d).1 := fun h h3 => by
    rcases (b10 h).2.2 with ⟨q, _⟩ | ⟨_, q⟩
    · exact absurd q h3
    · exact q
  rw [b2, hT.1.2.1]
  simp only [Int.toNat_natCast]
  refine ⟨fun hne => ⟨by omega, ?_⟩, fun heq => jn1_self ?_⟩
  · have hlt : k < T.length := by omega
    have hc : T[k]? = some T[k] := List.getElem?_eq_getElem hlt
    generalize T[k] = c at hc
    rw [(hT.2 k c hc).2.1]
    rintro v rfl
    rw [drop_some hc] at hA hv
    -- a sign
    have sign : (v = 43 ∨ v = 45) → wp_X10_joinsSum σ d a1 (fun (σ27 : SG) => ((0 ≤ (d : Int) ∧ (d : Int) < 6) ∧ (∀ σ29 : SG, σ29 = ug σ27 313 d v → ((0 ≤ (d : Int) ∧ (d : Int) < 6) ∧ (∀ σ31 : SG, σ31 = ug σ29 314 d 0 → (inR ((σ31 304 10) + 1) ∧ (∀ σ33 : SG, σ33 = ug σ31 304 10 ((σ31 304 10) + 1) → rec12 d σ33))))))) := by
      intro hc2
      refine spec_X10_joinsSum H b5.1 (by omega) hs (fun h => (hv h).1) (fun σ1 k1 m1 => ⟨by omega, ?_⟩)
      intro σ2 e2
      refine ⟨by omega, ?_⟩
      intro σ3 e3
      have a3 : σ3 304 10 = k := by rw [e3, ug_ne _ (by decide), e2, ug_ne _ (by decide), k1.1 304 (by decide) (by decide)]; exact b2
      rw [a3]
      refine ⟨by omega, ?_⟩
      intro σ4 e4
      have e305 : σ4 305 = σ 305 := by rw [e4, ug_ne _ (by decide), e3, ug_ne _ (by decide), e2, ug_ne _ (by decide), k1.p]
      have tr : ∀ (r : Int) (a : R), Rr co σ1 r a → Rr co σ4 r a := fun r a h => Rr_ug (Rr_tab (σ' := σ3) (Rr_tab (σ' := σ2) h (by rw [e2, ug_ne _ (by decide)])) (by rw [e3, ug_ne _ (by decide)])) e4
      have tr2 : ∀ (r : Int) (a : R), r ≠ 20 + (d : Int) → Rr co σ r a → Rr co σ4 r a := fun r a hr h => tr r a (Rr_ft h k1 (by simp; omega))
      have g13 : ∀ v, v ≠ d → σ4 313 v = σ 313 v := fun v hv => by rw [e4, ug_ne _ (by decide), e3, ug_ne _ (by decide), e2, ug_k _ _ hv, k1.1 313 (by decide) (by decide)]
      have g14 : ∀ v, v ≠ d → σ4 314 v = σ 314 v := fun v hv => by rw [e4, ug_ne _ (by decide), e3, ug_k _ _ hv, e2, ug_ne _ (by decide), k1.1 314 (by decide) (by decide)]
      obtain ⟨x1, x2, x3⟩ : v ≠ 41 ∧ v ≠ 40 ∧ xb v e = 0 := by
        rcases xb_j (c := v) he13 with q | q | q | q <;> omega
      rw [af_ok (by omega) (by rw [xd_0 x2 x1]; omega) (by rw [xd_0 x2 x1]; omega), x3, xd_0 x2 x1, Int.add_zero] at hA
      refine hr σ4 (k + 1) (us lev d (js (lev d) (jq co f (lev d) w), 1, if v = 45 then 1 else 0, 0)) w L (by omega) ⟨⟨⟨b1.tr ((FG.ofA (FA.of k1)).tr ((FG.of13 e2).tr ((FG.of14 e3).tr (FG.at e4)))), by rw [e4, ug_eq]; omega, by omega, b4⟩, ⟨by rw [e305]; exact b5, b6, fun h => by rw [e305]; exact b7 h⟩, ⟨fun i hi => ?_, b9⟩, fun h => ⟨tr2 _ _ (by omega) (b10 h).1, fun i hi => ?_, ?_⟩⟩, hA, fun h => ⟨?_, ?_⟩⟩
      · by_cases q : i = d
        · rw [q, us_eq]; exact ⟨hyd, (Dl_0 H hfd.1).2⟩
        · rw [us_ne _ q]; exact b8 i hi
      · rw [us_ne _ (by omega)]
        exact ⟨RLs_cg ((b10 h).2.1 i hi).1 (g13 i (by omega)) (fun a => tr2 _ a (by omega)), RLp_cg ((b10 h).2.1 i hi).2 (g14 i (by omega)) (fun a => tr2 _ a (by omega))⟩
      · rw [us_eq]
        have m2 := m1 h
        rw [js_tp (b10 h).2.2] at m2
        have z13 : σ4 313 d = v := by rw [e4, ug_ne _ (by decide), e3, ug_ne _ (by decide), e2, ug_eq]
        refine Or.inr ⟨?_, tr _ _ m2⟩
        rw [z13]
        rcases hc2 with q | q
        · exact Or.inl ⟨q, if_neg (by omega)⟩
        · exact Or.inr ⟨q, if_pos q⟩
      · rw [us_eq]
        exact Or.inl ⟨by rw [e4, ug_ne _ (by decide), e3, ug_eq], rfl, rfl⟩
      · obtain ⟨-, L0, eL, hz⟩ := hv h
        rw [rk, if_neg x2, if_neg x1, if_pos hc2, ← eL] at hz
        exact hz
    have mul : (v = 42 ∨ v = 47) → ((0 ≤ (d : Int) ∧ (d : Int) < 6) ∧ (∀ σ35 : SG, σ35 = ug σ 314 d v → (inR ((σ35 304 10) + 1) ∧ (∀ σ37 : SG, σ37 = ug σ35 304 10 ((σ35 304 10) + 1) → rec12 d σ37)))) := by
      intro hc2
      refine ⟨by omega, ?_⟩
      intro σ3 e3
      have a3 : σ3 304 10 = k := by rw [e3, ug_ne _ (by decide)]; exact b2
      rw [a3]
      refine ⟨by omega, ?_⟩
      intro σ4 e4
      have e305 : σ4 305 = σ 305 := by rw [e4, ug_ne _ (by decide), e3, ug_ne _ (by decide)]
      have tr : ∀ (r : Int) (a : R), Rr co σ r a → Rr co σ4 r a := fun r a h => Rr_ug (Rr_tab (σ' := σ3) h (by rw [e3, ug_ne _ (by decide)])) e4
      have g13 : ∀ v, σ4 313 v = σ 313 v := fun v => by rw [e4, ug_ne _ (by decide), e3, ug_ne _ (by decide)]
      have g14 : ∀ v, v ≠ d → σ4 314 v = σ 314 v := fun v hv => by rw [e4, ug_ne _ (by decide), e3, ug_k _ _ hv]
      obtain ⟨x1, x2, x3⟩ : v ≠ 41 ∧ v ≠ 40 ∧ xb v e = 0 := by
        rcases xb_j (c := v) he13 with q | q | q | q <;> omega
      rw [af_ok (by omega) (by rw [xd_0 x2 x1]; omega) (by rw [xd_0 x2 x1]; omega), x3, xd_0 x2 x1, Int.add_zero] at hA
      refine hr σ4 (k + 1) (us lev d ((lev d).1, jq co f (lev d) w, (lev d).2.2.1, if v = 47 then 1 else 0)) w L (by omega) ⟨⟨⟨b1.tr ((FG.of14 e3).tr (FG.at e4)), by rw [e4, ug_eq]; omega, by omega, b4⟩, ⟨by rw [e305]; exact b5, b6, fun h => by rw [e305]; exact b7 h⟩, ⟨fun i hi => ?_, b9⟩, fun h => ⟨tr _ _ (b10 h).1, fun i hi => ?_, ?_⟩⟩, hA, fun h => ⟨?_, ?_⟩⟩
      · by_cases q : i = d
        · rw [q, us_eq]; exact ⟨(b8 d (Nat.le_refl _)).1, jq_dd H hf0 _ _⟩
        · rw [us_ne _ q]; exact b8 i hi
      · rw [us_ne _ (by omega)]
        exact ⟨RLs_cg ((b10 h).2.1 i hi).1 (g13 i) (fun a => tr _ a), RLp_cg ((b10 h).2.1 i hi).2 (g14 i (by omega)) (fun a => tr _ a)⟩
      · rw [us_eq]
        have := RLs_cg (σ' := σ4) (b10 h).2.2 (g13 d) (fun a => tr _ a)
        exact this
      · rw [us_eq]
        have z14 : σ4 314 d = v := by rw [e4, ug_ne _ (by decide), e3, ug_eq]
        refine Or.inr ⟨?_, tr _ _ (hv h).1⟩
        rw [z14]
        rcases hc2 with q | q
        · exact Or.inl ⟨q, if_neg (by omega)⟩
        · exact Or.inr ⟨q, if_pos q⟩
      · obtain ⟨-, L0, eL, hz⟩ := hv h
        rw [rk, if_neg x2, if_neg x1, if_neg (by omega), if_pos hc2, ← eL] at hz
        exact hz
    refine ⟨fun h => sign (Or.inl h), fun h43 => ⟨fun h45 => ⟨fun h => mul (Or.inl h), fun h42 => ⟨fun h47 => ?_, fun h => mul (Or.inr h)⟩⟩, fun h => sign (Or.inr h)⟩⟩
    have hAk : (k : Int) = asf T := by
      rw [← hA]
      refine (af_bad ?_).symm
      rcases xb_j (c := v) he13 with q | q | q | q
      · have hd0 : d = 0 := by
          rcases hd with q2 | q2
          · exact q2
          · rw [hc, q.1] at q2; exact absurd rfl q2
        rw [q.1, show xd 41 = -1 by decide]
        omega
      · omega
      · rcases hE with q2 | q2
        · rw [hc, q.1] at q2; exact absurd rfl q2.2
        · omega
      · exact Or.inl q.2.2.2.2.2
    exact h0 σ b1 b7 (by rw [b2]; exact hAk) (by omega)
  · have hkl : k = T.length := by omega
    have hnil : T.drop k = [] := by rw [hkl, List.drop_length]
    rw [hnil] at hA hv
    by_cases hd0 : d = 0
    · subst hd0
      have hA1 : asf T = -1 := by
        rw [← hA, af, if_neg (by omega), if_pos he13]
      have same : ∀ {σ1 : SG}, FT σ σ1 [20 + ((0 : Nat) : Int)] → FG σ0 σ1 ∧ (a1 = 0 → σ1 305 = σ0 305) ∧ Awn co (σ1 305) p f g L := fun k1 => ⟨b1.tr (FG.ofA (FA.of k1)), fun h => by rw [k1.p]; exact b7 h, by rw [k1.p]; exact b5⟩
      refine ⟨fun ha => ?_, fun ha => ⟨fun h => absurd rfl h, fun _ => ?_⟩⟩
      · refine spec_X10_joinsSum H (d := 0) (s := 0) (q := 0) b5.1 (by omega) (fun h => absurd rfl h) (fun h => absurd rfl h) (fun σ1 k1 _ => ⟨fun h => absurd rfl h, fun _ => ?_⟩)
        obtain ⟨s1, s2, s3⟩ := same k1
        exact h1 σ1 L s1 s2 s3 b6 hA1 (fun h => absurd ha h)
      · refine spec_X10_joinsSum H (d := 0) (s := (lev 0).1) (q := jq co f (lev 0) w) b5.1 (by omega) (fun _ h3 => hs ha h3) (fun _ => (hv ha).1) (fun σ1 k1 m1 => ⟨fun h => absurd rfl h, fun _ => ?_⟩)
        obtain ⟨s1, s2, s3⟩ := same k1
        obtain ⟨-, L0, eL, hz⟩ := hv ha
        have m2 := m1 (by decide)
        rw [js_tp (b10 ha).2.2] at m2
        rw [rk, ← eL] at hz
        exact h1 σ1 L s1 s2 s3 b6 hA1 (fun _ => ⟨_, hz, m2, hyd⟩)
    · have hA1 : (k : Int) = asf T := by
        rw [← hA, af, if_pos (by omega)]
      have fin : wp_X10_joinsSum σ 0 0 (fun (σ56 : SG) => ((¬ (d : Int) = 0 → Q 0 σ56) ∧ ((d : Int) = 0 → Q 1 σ56))) := by
        refine spec_X10_joinsSum H (d := 0) (s := 0) (q := 0) b5.1 (by omega) (fun h => absurd rfl h) (fun h => absurd rfl h) (fun σ1 k1 _ => ⟨fun _ => ?_, fun h => by omega⟩)
        exact h0 σ1 (b1.tr (FG.ofA (FA.of k1))) (fun h => by rw [k1.p]; exact b7 h) (by rw [k1.1 304 (by decide) (by decide), b2]; exact hA1) (by omega)
      exact ⟨fun _ => fin, fun _ => ⟨fun _ => fin, fun h => by omega⟩⟩
theorem ga_inner {R : Type} [Lean.Grind.CommRing R] {p : Nat} {co : R → Nat → Int} {mk : (Nat → Int) → R} (H : PD p co mk) {σ0 σ : SG} {T : List Int} {f : R} {g : Nat → R} {a1 : Int} {Z : R × List R} {k0 k d : Nat} {e : Int} {lev : Nat → R × R × Int × Int} {w : R} {L : List R} {Q : Int → SG → Prop} {rec12 : Int → SG → Prop} (hT0 : Txt σ0 T) (hJ : GJ p co mk σ0 T f g a1 Z σ k e d lev w L) (hk0 : k0 < k) (h0 : G0 σ0 T a1 Q) (h1 : G1 p co mk σ0 T f g a1 Z Q) (hr : ∀ (σ' : SG) k' d' lev' w' L', k0 < k' → GH p co mk σ0 T f g a1 Z σ' k' d' lev' w' L' → rec12 (d' : Nat) σ') : Lp1 (fun (rec22 : Int → SG → Prop) (x20 : Int) (σ21 : SG) => ga_in a1 rec12 Q rec22 x20 σ21) (d : Int) σ := by
  have t3 := hT0.1.2.2
  refine Lp1_m (fun x σ' => ∃ (k : Nat) (e : Int) (d : Nat) (lev : Nat → R × R × Int × Int) (w : R) (L : List R), x = d ∧ k0 < k ∧ GJ p co mk σ0 T f g a1 Z σ' k e d lev w L) (fun _ σ' => (61 - σ' 304 10).toNat) ⟨k, e, d, lev, w, L, rfl, hk0, hJ⟩ ?_
  rintro x σ1 r ⟨k1, e1, d1, lev1, w1, L1, rfl, hk1, hJ1⟩ hrec
  unfold ga_in
  have hJ2 := hJ1
  obtain ⟨hB, ⟨hA, hE⟩, hv⟩ := hJ1
  obtain ⟨⟨b1, b2, b3, b4⟩, ⟨b5, b6, b7⟩, ⟨b8, b9⟩, b10⟩ := id hB
  have hT1 := FG.txt hT0 b1
  have hf0 := Val_ne H b6
  have hfd := b6.2.1
  have he13 : e1 = 1 ∨ e1 = 3 := by omega
  refine ⟨fun hd => ga_tail_spec H hT0 hJ2 (Or.inl (by omega)) h0 h1 (fun σ' k' lev' w' L' hk hG => hr σ' k' d1 lev' w' L' (by omega) hG), fun hd => spec_X10_takes hT1 b2 b3.2 (fun hc σ2 e2 => ⟨fun h => absurd h (by decide), fun _ => ?_⟩) (fun hc σ2 e2 => ⟨fun _ => ?_, fun h => absurd rfl h⟩)⟩
  · have hlt := (List.getElem?_eq_some_iff.mp hc).1
    rw [drop_some hc] at hA hv
    have x1 : xb 41 e1 = 1 := by rcases xb_j (c := 41) he13 with q | q | q | q <;> omega
    have x2 : xd 41 = -1 := by decide
    rw [af_ok (by omega) (by omega) (by omega), x1, x2] at hA
    obtain ⟨B2, -⟩ := GB_A (S := []) (k' := k1 + 1) hB (FA.at e2 _) (by simp) (by rw [e2, ug_eq]; omega) (by omega) b9
    obtain ⟨⟨c1, c2, c3, c4⟩, ⟨c5, c6, c7⟩, ⟨c8, c9⟩, c10⟩ := B2
    have hyd := js_dd H (b8 d1 (Nat.le_refl _)) (jq_dd H hf0 (lev1 d1) w1)
    have r26 : a1 ≠ 0 → Rr co σ2 (26 + (d1 : Int)) (jq co f (lev1 d1) w1) := fun h => Rr_ug (hv h).1 e2
    have hs : a1 ≠ 0 → σ2 313 d1 ≠ 0 → Rr co σ2 (20 + (d1 : Int)) (lev1 d1).1 := fun h h3 => by
      rcases (c10 h).2.2 with ⟨q, _⟩ | ⟨_, q⟩
      · exact absurd q h3
      · exact q
    refine spec_X10_joinsSum H c5.1 (by omega) hs r26 (fun σ3 k3 m3 => ⟨by omega, ?_⟩)
    refine spec_X10_copiesRaw (by omega) (by omega) (by omega) (fun σ4 k4 m4 => ?_)
    rw [show (d1 : Int) + -1 = ((d1 - 1 : Nat) : Int) by omega]
    refine ⟨by omega, ?_⟩
    have t4 : ∀ (r : Int) (a : R), r ≠ 20 + (d1 : Int) → r ≠ 32 → Rr co σ2 r a → Rr co σ4 r a := fun r a h1 h2 h => Rr_ft (Rr_ft h k3 (by simp; omega)) k4 (by simp; omega)
    have e305 : σ4 305 = σ2 305 := by rw [k4.p, k3.p]
    have e313 : σ4 313 = σ2 313 := by rw [k4.1 313 (by decide) (by decide), k3.1 313 (by decide) (by decide)]
    have e314 : σ4 314 = σ2 314 := by rw [k4.1 314 (by decide) (by decide), k3.1 314 (by decide) (by decide)]
    have a4 : σ4 304 10 = ((k1 + 1 : Nat) : Int) := by rw [k4.1 304 (by decide) (by decide), k3.1 304 (by decide) (by decide)]; exact c2
    have s4 : ∀ v, v < d1 → a1 ≠ 0 → RLs co σ4 v (lev1 v) ∧ RLp co σ4 v (lev1 v) := fun v hv h => ⟨RLs_cg ((c10 h).2.1 v hv).1 (by rw [e313]) (fun a => t4 _ a (by omega) (by omega)), RLp_cg ((c10 h).2.1 v hv).2 (by rw [e314]) (fun a => t4 _ a (by omega) (by omega))⟩
    have hP : GP p co mk σ0 T f g a1 Z σ4 (k1 + 1) (d1 - 1) lev1 (js (lev1 d1) (jq co f (lev1 d1) w1)) L1 := by
      refine ⟨⟨⟨c1.tr ((FG.ofA (FA.of k3)).tr (FG.ofA (FA.of k4))), a4, c3, by omega⟩, ⟨by rw [e305]; exact c5, c6, fun h => by rw [e305]; exact c7 h⟩, ⟨fun v hv => c8 v (by omega), hyd⟩, fun h => ⟨t4 _ _ (by omega) (by decide) (c10 h).1, fun v hv => s4 v (by omega) h, (s4 (d1 - 1) (by omega) h).1⟩⟩, ?_, fun h => ⟨(s4 (d1 - 1) (by omega) h).2, ?_, ?_⟩⟩
      · rw [show ((d1 - 1 : Nat) : Int) = (d1 : Int) + -1 by omega]
        exact hA
      · have m5 := m3 h
        rw [js_tp (c10 h).2.2] at m5
        exact ⟨by decide, fun j hj => by rw [m4 j hj]; exact m5.2.1 j hj, m5.2.2⟩
      · obtain ⟨-, L0, eL, hz⟩ := hv h
        rw [rk, if_neg (by decide), if_pos rfl, ← eL] at hz
        exact hz
    refine ga_power H hT0 hP h0 (fun σ' k' e' w' L' hle hJ' => hrec _ _ ⟨k', e', d1 - 1, lev1, w', L', rfl, by omega, hJ'⟩ ?_)
    have := hJ'.1.1.2.1
    have := hJ'.1.1.2.2.1
    show (61 - σ' 304 10).toNat < (61 - σ1 304 10).toNat
    omega
  · obtain ⟨B2, p2⟩ := GB_A (S := []) (k' := k1) (w' := w1) hB (FA.at e2 _) (by simp) (by rw [e2, ug_eq]) b3 b9
    exact ga_tail_spec H hT0 ⟨B2, ⟨hA, hE⟩, fun h => ⟨Rr_ug (hv h).1 e2, (hv h).2⟩⟩ (Or.inr hc) h0 h1 (fun σ' k' lev' w' L' hk hG => hr σ' k' d1 lev' w' L' (by omega) hG)
theorem ga_body_spec {R : Type} [Lean.Grind.CommRing R] {p : Nat} {co : R → Nat → Int} {mk : (Nat → Int) → R} (H : PD p co mk) {σ0 σ : SG} {T : List Int} {f : R} {g : Nat → R} {a1 : Int} {Z : R × List R} {k d : Nat} {lev : Nat → R × R × Int × Int} {w : R} {L : List R} {Q : Int → SG → Prop} {rec12 : Int → SG → Prop} (hT0 : Txt σ0 T) (hH : GH p co mk σ0 T f g a1 Z σ k d lev w L) (hd : d = 5 ∨ T[k]? ≠ some 40) (h0 : G0 σ0 T a1 Q) (h1 : G1 p co mk σ0 T f g a1 Z Q) (hr : ∀ (σ' : SG) k' d' lev' w' L', k < k' → GH p co mk σ0 T f g a1 Z σ' k' d' lev' w' L' → rec12 (d' : Nat) σ') : ga_body a1 d rec12 Q σ := by
  unfold ga_body
  obtain ⟨hB, hA, hv⟩ := hH
  obtain ⟨⟨b1, b2, b3, b4⟩, ⟨b5, b6, b7⟩, ⟨b8, b9⟩, b10⟩ := id hB
  have hT := FG.txt hT0 b1
  have hf0 := Val_ne H b6
  have hS : ∀ r ∈ [(32 : Int)], r ≠ 0 ∧ (r < 20 ∨ 31 < r) := by decide
  refine spec_X10_takesSimple H hT b2 b5 b6 (fun h => (b10 h).1) (fun c hc hx σ1 f1 a1' r1 => ⟨fun h => absurd h (by decide), fun _ => ?_⟩) (fun hno => ⟨fun _ => ?_, fun h => absurd rfl h⟩)
  · have hlt := (List.getElem?_eq_some_iff.mp hc).1
    obtain ⟨x40, x41, x42, x43, x45, x47, x94⟩ : c ≠ 40 ∧ c ≠ 41 ∧ c ≠ 42 ∧ c ≠ 43 ∧ c ≠ 45 ∧ c ≠ 47 ∧ c ≠ 94 := by
      unfold xb at hx
      rw [if_pos rfl] at hx
      by_cases q : (97 ≤ c ∧ c ≤ 102) ∨ (48 ≤ c ∧ c ≤ 57) ∨ c = 120
      · omega
      · rw [if_neg q] at hx
        by_cases q2 : c = 40
        · rw [if_pos q2] at hx; omega
        · rw [if_neg q2] at hx; omega
    obtain ⟨B1, p1⟩ := GB_A (k' := k + 1) (w' := rm co (smp p mk g c) f) hB f1 hS (by rw [a1']; omega) (by omega) (rm_spec H _ hf0).2
    rw [drop_some hc] at hA hv
    rw [af_ok (by omega) (by rw [xd_0 x40 x41]; omega) (by rw [xd_0 x40 x41]; omega), hx, xd_0 x40 x41, Int.add_zero] at hA
    have hP : GP p co mk σ0 T f g a1 Z σ1 (k + 1) d lev (rm co (smp p mk g c) f) L := by
      refine ⟨B1, hA, fun h => ⟨p1 (hv h).1, r1 h, ?_⟩⟩
      have hz := (hv h).2
      rw [rk, if_neg x40, if_neg x41, if_neg (by omega), if_neg (by omega), if_neg x94, if_neg (by decide)] at hz
      exact hz
    exact ga_power H hT0 hP h0 (fun σ' k' e' w' L' hle hJ => ga_inner H hT0 hJ (k0 := k) (by omega) h0 h1 hr)
  · have hAk : (k : Int) = asf T := by
      rcases hno with hn | ⟨c, hc, hx⟩
      · rw [drop_none hn, af_none (Or.inl rfl)] at hA
        exact hA
      · rw [drop_some hc] at hA
        rw [← hA]
        refine (af_bad ?_).symm
        by_cases q : c = 40
        · rcases hd with q2 | q2
          · rw [q, show xd 40 = 1 by decide]
            omega
          · rw [hc, q] at q2; exact absurd rfl q2
        · left
          unfold xb at hx ⊢
          rw [if_pos rfl] at hx ⊢
          by_cases q3 : (97 ≤ c ∧ c ≤ 102) ∨ (48 ≤ c ∧ c ≤ 57) ∨ c = 120
          · rw [if_pos q3] at hx; exact absurd rfl hx
          · rw [if_neg q3, if_neg q]; decide
    exact h0 σ b1 b7 (by rw [b2]; exact hAk) (by omega)
