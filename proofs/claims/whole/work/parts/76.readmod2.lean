theorem ior01 (a b : Int) (ha : a = 0 ∨ a = 1) (hb : b = 0 ∨ b = 1) : (ior a b = 0 ∨ ior a b = 1) ∧ (ior a b = 0 ↔ a = 0 ∧ b = 0) := by
  rcases ha with rfl | rfl <;> rcases hb with rfl | rfl <;> decide
/-- the reference, behind its reading of the text -/
theorem spec_rmM {R : Type} [Lean.Grind.CommRing R] {p : Nat} {co : R → Nat → Int} {mk : (Nat → Int) → R} (H : PD p co mk) {sv : R → (Nat → R) → List R → SV} (E : EN p co mk sv) {σ : SG} {f : R} {g : Nat → R} {L : List R} {h hc : List SV} {m : Option SV} {T : List Int} {Q : Int → SG → Prop} (hA : Awn co (σ 305) p f g L) (hV : Val p co mk f g L) (hR : Rst σ hc h m T) (hzb : ∀ z, (pm T 0 (-1) []).1 = z → z ≠ -1 → 0 ≤ z ∧ z ≤ 60) (hz : ∀ z, (pm T 0 (-1) []).1 = z → z ≠ -1 → ∀ σ', FrR σ σ' → Q (-100 - z) σ') (h2 : ∀ vs, pm T 0 (-1) [] = (-1, vs) → ¬ mok p vs → ∀ σ', FrR σ σ' → Q (-2) σ') (hok : ∀ vs, pm T 0 (-1) [] = (-1, vs) → mok p vs → vs.length ≤ 7 → (¬ SF p co mk (vp mk vs vs.length : R) → ∀ σ', FrR σ σ' → Q (-4) σ') ∧ (SF p co mk (vp mk vs vs.length : R) → (vp mk vs vs.length = f → ∀ σ', FrR σ σ' → Q (-5) σ') ∧ (vp mk vs vs.length ≠ f → ∀ σ' : SG, (∀ i, i < 304 → σ' i = σ i) → Awn co (σ' 305) p (vp mk vs vs.length) (fun k => rm co (g k) (vp mk vs vs.length)) [vp mk vs vs.length] → Rst σ' hc (push h (sv f g L)) m T → Q ((vs.length : Int) - 1) σ'))) : wp_X10_readModulus σ Q := by
  unfold wp_X10_readModulus
  have hp := pd_p H
  have hT := hR.2.2.1.2
  refine spec_X10_coefficients hT (fun σ1 a1 a2 z vs hpm => ⟨fun hz1 hvs => ⟨fun _ => ?_, fun h => absurd h (by omega)⟩, fun hz1 hat => ⟨fun h => absurd rfl h, fun _ => ?_⟩⟩)
  · obtain ⟨hVs, hl1, hl7⟩ := hvs
    subst hz1
    have f1 : FrR σ σ1 := ⟨fun i hi => a1 i (by omega) (by omega), by rw [a1 30 (by omega) (by omega)], fun k hk => a2 k hk⟩
    refine spec_X10_clears H (by omega) (fun σ2 k2 m2 => ?_)
    have f2 := f1.tr (FrR.ofT k2)
    have A2 := Awn_R hA f2
    have h312 : σ2 312 = σ1 312 := k2.1 312 (by decide) (by decide)
    obtain ⟨n, hn⟩ : ∃ n, vs.length = n + 1 := ⟨vs.length - 1, by omega⟩
    have hgl := Vs_get hVs (k := n) (by omega)
    refine ⟨fun x s => s = σ2 ∧ (x = 0 ∧ (2 ≤ vs.length ∧ vs.getD (vs.length - 1) 0 = 1) ∨ x = 1 ∧ ¬ (2 ≤ vs.length ∧ vs.getD (vs.length - 1) 0 = 1)), ?_, fun h1 => ⟨rfl, Or.inr ⟨rfl, fun h => by omega⟩⟩, fun h1 => ?_⟩
    · rintro x σs ⟨es, hx⟩
      rw [es]
      have hx01 : x = 0 ∨ x = 1 := by rcases hx with hx | hx <;> omega
      refine Lp2_m (fun y z σ' => ∃ k : Nat, y = k ∧ k ≤ vs.length ∧ FT σ2 σ' [2] ∧ (z = 0 ∨ z = 1) ∧ (z = 0 ↔ x = 0 ∧ ∀ j, j < k → vs.getD j 0 < p) ∧ (∀ j : Nat, j < 14 → σ' 308 (14 * 2 + (j : Int)).toNat = if j < k then vs.getD j 0 % p else 0)) (fun y _ _ => (8 - y).toNat) ⟨0, rfl, by omega, FT.rf _ _, hx01, ⟨fun h => ⟨h, fun j hj => by omega⟩, fun h => h.1⟩, fun j hj => by rw [m2.2.1 j hj, co_zero H, if_neg (by omega)]⟩ ?_
      rintro y z σ3 r ⟨k, rfl, hk, f3, hz01, hziff, hrow⟩ hr
      have h312b : σ3 312 = σ1 312 := (f3.1 312 (by decide) (by decide)).trans h312
      have p3 : σ3 305 0 = p := by rw [f3.p]; exact A2.1
      refine ⟨fun hend => ?_, fun hlt => ?_⟩
      · have hkl : k = vs.length := by omega
        have hvsb : ∀ j, j < vs.length → 0 ≤ vs.getD j 0 := fun j hj => by have := Vs_get hVs hj; omega
        refine ⟨fun hz0 => ?_, fun hz0 => h2 vs hpm (fun hm => hz0 (hziff.mpr ⟨?_, fun j hj => (hm.1 j (by omega)).2⟩)) σ3 (f2.tr (FrR.ofT f3))⟩
        · obtain ⟨hx0, hall⟩ := hziff.mp hz0
          have hml : 2 ≤ vs.length ∧ vs.getD (vs.length - 1) 0 = 1 := by
            rcases hx with ⟨-, hx⟩ | ⟨hx, -⟩
            · exact hx
            · omega
          have hv : vok p vs := fun j hj => ⟨hvsb j hj, hall j (by omega)⟩
          have hmok : mok p vs := ⟨hv, hml⟩
          obtain ⟨hdF, hmF⟩ := vp_mon H hv hn (by have := hml.2; rw [hn] at this; exact this)
          obtain ⟨o4, oR⟩ := hok vs hpm hmok hl7
          have r2 : Rr co σ3 2 (vp mk vs vs.length : R) := ⟨by omega, fun j hj => by
            rw [hrow j hj, co_vp H hv (Nat.le_refl _), hkl]
            by_cases q : j < vs.length
            · rw [if_pos q, if_pos q]
              exact Int.emod_eq_of_lt (hv j q).1 (hv j q).2
            · rw [if_neg q, if_neg q], by omega⟩
          have hFv : ∀ j, co (vp mk vs vs.length : R) j = co (vp mk vs vs.length : R) j := fun _ => rfl
          generalize (vp mk vs vs.length : R) = F at *
          have hF0 := mon_ne H hmF
          have fr3 := f2.tr (FrR.ofT f3)
          refine spec_X10_derives H p3 r2 (by omega) (by decide) (fun σ4 k4 m4 => ?_)
          refine spec_X10_common H (by rw [k4.p]; exact p3) (Rr_ft r2 k4 (by decide)) m4 (by omega) (by decide) (Or.inl hF0) (fun σ5 k5 m5 => ?_)
          have fr5 := fr3.tr ((FrR.ofT k4).tr (FrR.ofT k5))
          have r5 := Rr_ft (Rr_ft r2 k4 (by decide)) k5 (by decide)
          have hsf := gc_dd1 H (a := F) (b := der p co mk F) (Or.inl hF0)
          have hpos := dd_pos H (mon_ne H (gc_mon H (a := F) (b := der p co mk F) (Or.inl hF0)))
          refine spec_X10_degree H m5 ⟨fun hle => ?_, fun hgt => o4 (fun hS => by have := hsf.mpr hS; omega) σ5 fr5⟩
          obtain ⟨o5, oN⟩ := oR (hsf.mp (by omega))
          have A5 := Awn_R hA fr5
          refine Lp2_m (fun y z σ' => ∃ k : Nat, y = k ∧ k ≤ 7 ∧ σ' = σ5 ∧ (z = 0 ∧ F ≠ f ∨ z = 1 ∧ ∀ j, j < k → co f j = co F j)) (fun y _ _ => (8 - y).toNat) ⟨0, rfl, by omega, rfl, Or.inr ⟨rfl, fun j hj => by omega⟩⟩ ?_
          rintro y z σ6 rr ⟨c, rfl, hc7, rfl, hz6⟩ hrr
          refine ⟨fun hend => ?_, fun hlt => ?_⟩
          · refine ⟨fun hz0 => ?_, fun hz0 => o5 ?_ σ6 fr5⟩
            · have hne : F ≠ f := by
                rcases hz6 with ⟨-, hz6⟩ | ⟨e, -⟩
                · exact hz6
                · omega
              have hK := oN hne
              have R6 := Rst_X hR (FrX.ofR fr5)
              refine rec_m R6 ((E.2.1 _ _ _ _).mp A5) ((E.2.2 _ _ _).mp hV) (fun σ7 e7 R7 => ?_)
              have r7 : Rr co σ7 2 F := ⟨r5.1, fun k hk => by rw [e7 308 (by decide) (by decide)]; exact r5.2.1 k hk, r5.2.2⟩
              have A7 : Awn co (σ7 305) p f g L := by rw [e7 305 (by decide) (by decide)]; exact A5
              refine Lp1_up 7 (fun n σ' => (∀ i, i ≠ 305 → σ' i = σ7 i) ∧ (∀ j, j < n → σ' 305 (1 + j) = co F j) ∧ ∀ k, (k < 1 ∨ 8 ≤ k) → σ' 305 k = σ7 305 k) ⟨fun _ _ => rfl, fun j hj => by omega, fun _ _ => rfl⟩ ?_ ?_
              · rintro n' σ8 rr2 hn' ⟨b1, b2, b3⟩ hrr2
                have r8 : Rr co σ8 2 F := ⟨r7.1, fun k hk => by rw [b1 308 (by decide)]; exact r7.2.1 k hk, r7.2.2⟩
                refine ⟨fun h => by omega, fun _ => ⟨by omega, spec_X10_of H r8 (by omega) ⟨by omega, ?_⟩⟩⟩
                rintro σ9 e9
                rw [show (1 + (n' : Int)).toNat = 1 + n' by omega, Int.toNat_natCast] at e9
                refine ⟨by omega, hrr2 _ ⟨fun i hi => by rw [e9, ug_ne _ hi]; exact b1 i hi, fun j hj => ?_, fun k hk => by rw [e9, ug_k _ _ (by omega)]; exact b3 k hk⟩⟩
                by_cases q : j = n'
                · rw [q, e9, ug_eq]
                · rw [e9, ug_k _ _ (by omega)]; exact b2 j (by omega)
              · rintro σ8 rr2 ⟨b1, b2, b3⟩
                refine ⟨fun _ => ?_, fun h => absurd (Int.le_refl _) h⟩
                have r8 : Rr co σ8 2 F := ⟨r7.1, fun k hk => by rw [b1 308 (by decide)]; exact r7.2.1 k hk, r7.2.2⟩
                have hfd := hV.2.1
                refine Lp1_up 6 (fun n σ' => (∀ i, i ≠ 305 → i ≠ 308 → i ≠ 309 → σ' i = σ7 i) ∧ Rr co σ' 2 F ∧ (∀ k, (k < 8 ∨ 44 ≤ k) → σ' 305 k = σ8 305 k) ∧ ∀ r k, r < 6 → k < 6 → σ' 305 (8 + 6 * r + k) = co (if r < n then rm co (g r) F else g r) k) ⟨fun i i1 _ _ => b1 i i1, r8, fun _ _ => rfl, fun r k hr hk => by rw [if_neg (by omega), b3 _ (by omega)]; exact A7.2.2.1 r k hr hk⟩ ?_ ?_
                · rintro n' σ9 rr3 hn' ⟨c1, c2, c3, c4⟩ hrr3
                  have p9 : σ9 305 0 = p := by rw [c3 0 (by omega), b3 0 (by omega)]; exact A7.1
                  refine ⟨fun h => by omega, fun _ => ?_⟩
                  unfold wp_X10_loadsNumber
                  refine ⟨by omega, by omega, spec_X10_loads H (a := g n') (by omega) (by omega) (by omega) (by omega) (fun k hk => ?_) (by have := hV.2.2.2.1 n' hn'; omega) (fun σA kA mA => ?_)⟩
                  · rw [show (8 + 6 * (n' : Int) + k).toNat = 8 + 6 * n' + k by omega, c4 n' k hn' (by omega), if_neg (by omega)]
                  · have rA := Rr_ft c2 kA (by decide)
                    refine spec_X10_divides H (by rw [kA.p]; exact p9) mA rA (by decide) (by decide) (by decide) (by decide) hF0 (fun σB kB mB _ => ?_)
                    have kB : FT σA σB [3] := FT_w kB (by decide)
                    have rB := Rr_ft rA kB (by decide)
                    refine spec_X10_stores H mB hn' (fun σC d1 d2 d3 => ⟨by omega, hrr3 _ ⟨fun i i1 i2 i3 => by rw [d1 i i1, kB.1 i i2 i3, kA.1 i i2 i3]; exact c1 i i1 i2 i3, ⟨rB.1, fun k hk => by rw [d1 308 (by decide)]; exact rB.2.1 k hk, rB.2.2⟩, fun k hk => by rw [d2 k (by omega), kB.p, kA.p]; exact c3 k hk, fun r k hr hk => ?_⟩⟩)
                    by_cases q : r = n'
                    · subst q
                      rw [if_pos (by omega)]
                      exact d3 k hk
                    · rw [d2 _ (by omega), kB.p, kA.p, c4 r k hr hk]
                      by_cases q2 : r < n'
                      · rw [if_pos q2, if_pos (by omega)]
                      · rw [if_neg q2, if_neg (by omega)]
                · rintro σ9 rr3 ⟨c1, c2, c3, c4⟩
                  refine ⟨fun _ => ?_, fun h => absurd (Int.le_refl _) h⟩
                  rintro σA eA
                  have uA : ∀ i, i ≠ 305 → σA i = σ9 i := fun i hi => by rw [eA, ug_ne _ hi]
                  have vA : ∀ k, k ≠ 44 → σA 305 k = σ9 305 k := fun k hk => by rw [eA, ug_k _ _ hk]
                  have BA : Bl co σA ([] : List R) := ⟨by rw [eA, ug_eq]; rfl, by simp, fun i x hx => by simp at hx⟩
                  have rA : Rr co σA 2 F := ⟨c2.1, fun k hk => by rw [uA 308 (by decide)]; exact c2.2.1 k hk, c2.2.2⟩
                  refine spec_X10_comes H BA rA (by omega) (by simp) (fun σB fB BB => ⟨by omega, ?_⟩)
                  refine hK σB (fun i hi => ?_) ⟨?_, fun k hk => ?_, fun r k hr hk => ?_, ?_, fun i x hx k hk => (BB.2.2 i x hx).1 k hk⟩ (Rst_X R7 ?_)
                  · rw [fB.1 i (by omega) (by omega) (by omega), uA i (by omega), c1 i (by omega) (by omega) (by omega), e7 i (by omega) (by omega)]
                    have h1 := k5.1 i (by omega) (by omega)
                    have h2' := k4.1 i (by omega) (by omega)
                    have h3 := f3.1 i (by omega) (by omega)
                    have h4 := k2.1 i (by omega) (by omega)
                    rw [h1, h2', h3, h4, a1 i (by omega) (by omega)]
                  · rw [fB.2.1 0 (by omega), vA 0 (by omega), c3 0 (by omega), b3 0 (by omega)]; exact A7.1
                  · rw [fB.2.1 _ (by omega), vA _ (by omega), c3 _ (by omega)]; exact b2 k hk
                  · rw [fB.2.1 _ (by omega), vA _ (by omega), c4 r k hr hk, if_pos hr]
                  · exact BB.1
                  · exact ⟨fun i hi => by rw [fB.1 i (by omega) (by omega) (by omega), uA i (by omega), c1 i (by omega) (by omega) (by omega)], by rw [fB.1 30 (by omega) (by omega) (by omega), uA 30 (by omega), c1 30 (by omega) (by omega) (by omega)], fun k _ => by rw [fB.1 304 (by omega) (by omega) (by omega), uA 304 (by omega), c1 304 (by omega) (by omega) (by omega)]⟩
            · rcases hz6 with ⟨e, -⟩ | ⟨-, hz6⟩
              · exact absurd e hz0
              · exact pd_ext H (fun j => by
                  rcases Nat.lt_or_ge j 7 with q | q
                  · exact (hz6 j (by omega)).symm
                  · rw [dd_out H F (by omega), dd_out H f (by have := hV.2.1; omega)])
          · have hfc : σ6 305 (1 + (c : Int)).toNat = co f c := by rw [show (1 + (c : Int)).toNat = 1 + c by omega]; exact A5.2.1 c (by omega)
            rw [hfc]
            refine ⟨by omega, by omega, spec_X10_of H r5 (by omega) ?_⟩
            rw [Int.toNat_natCast]
            refine ⟨fun hne => ?_, fun he => ?_⟩
            · rintro w hw
              have hw0 : w = 0 := by rcases hz6 with ⟨rfl, -⟩ | ⟨rfl, -⟩ <;> (rw [hw]; decide)
              exact ⟨by omega, hrr _ _ _ ⟨c + 1, by omega, by omega, rfl, Or.inl ⟨hw0, fun e => hne (by rw [e])⟩⟩ (by omega)⟩
            · rintro w hw
              refine ⟨by omega, hrr _ _ _ ⟨c + 1, by omega, by omega, rfl, ?_⟩ (by omega)⟩
              rcases hz6 with ⟨rfl, hz6⟩ | ⟨rfl, hz6⟩
              · exact Or.inl ⟨by rw [hw]; decide, hz6⟩
              · refine Or.inr ⟨by rw [hw]; decide, fun j hj => ?_⟩
                by_cases q : j = c
                · rw [q]; exact he
                · exact hz6 j (by omega)
        · rcases hx with ⟨hx, -⟩ | ⟨-, hx⟩
          · exact hx
          · exact absurd hm.2 hx
      · have hg := Vs_get hVs (k := k) (by omega)
        rw [Int.toNat_natCast, h312b, p3, ← hg.1]
        refine ⟨by omega, jn1_self ?_⟩
        have hstep : ∀ b : Int, (b = 0 ∨ b = 1) → (b = 0 ↔ vs.getD k 0 < p) → ∀ v72 : Int, v72 = ior z b → (0 ≤ (k : Int) ∧ (k : Int) < 7) ∧ (σ3 305 0 ≠ 0 ∧ wp_X10_puts σ3 2 k (Int.tmod (σ3 312 k) (σ3 305 0)) (fun σ75 => inR ((k : Int) + 1) ∧ r (k + 1) v72 σ75)) := by
          intro b hb01 hbiff v72 hv72
          have h01 := ior01 z b hz01 hb01
          rw [h312b, p3, ← hg.1, tmod_nn (by omega)]
          refine ⟨by omega, by omega, spec_X10_puts (by omega) (by omega) ⟨by omega, hr _ _ _ ⟨k + 1, by omega, by omega, f3.tr (FT.put σ3 (by omega) (by omega) _ List.mem_cons_self), by rw [hv72]; exact h01.1, ?_, fun j hj => ?_⟩ (by omega)⟩⟩
          · rw [hv72, h01.2, hziff, hbiff]
            constructor
            · rintro ⟨⟨u1, u2⟩, u3⟩
              refine ⟨u1, fun j hj => ?_⟩
              by_cases q : j = k
              · rw [q]; exact u3
              · exact u2 j (by omega)
            · rintro ⟨u1, u2⟩
              exact ⟨⟨u1, fun j hj => u2 j (by omega)⟩, u2 k (by omega)⟩
          · by_cases q : j = k
            · rw [q, ug_eq, if_pos (by omega)]
            · rw [ug_k _ _ (by omega), hrow j hj]
              by_cases q2 : j < k
              · rw [if_pos q2, if_pos (by omega)]
              · rw [if_neg q2, if_neg (by omega)]
        exact ⟨fun h => hstep 0 (Or.inl rfl) ⟨fun _ => h, fun _ => rfl⟩, fun h => hstep 1 (Or.inr rfl) ⟨fun e => absurd e (by decide), fun h' => absurd h' h⟩⟩
    · rw [show ((vs.length : Int) - 1).toNat = n by omega, h312, ← hgl.1]
      have e : vs.getD (vs.length - 1) 0 = vs.getD n 0 := by rw [hn, Nat.add_sub_cancel]
      exact ⟨by omega, by omega, fun he => ⟨rfl, Or.inl ⟨rfl, by omega, by rw [e]; exact he⟩⟩, fun he => ⟨rfl, Or.inr ⟨rfl, fun hh => he (by rw [← e]; exact hh.2)⟩⟩⟩
  · have hb := hzb z (by rw [hpm]) hz1
    rw [hat]
    exact ⟨by omega, hz z (by rw [hpm]) hz1 σ1 ⟨fun i hi => a1 i (by omega) (by omega), by rw [a1 30 (by omega) (by omega)], fun k hk => a2 k hk⟩⟩
