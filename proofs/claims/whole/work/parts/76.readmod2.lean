theorem ior01 (a b : Int) (ha : a = 0 ∨ a = 1) (hb : b = 0 ∨ b = 1) : (ior a b = 0 ∨ ior a b = 1) ∧ (ior a b = 0 ↔ a = 0 ∧ b = 0) := by
  rcases ha with rfl | rfl <;> rcases hb with rfl | rfl <;> decide
/-- the reference, behind its reading of the text -/
theorem spec_rmM {R : Type} [Lean.Grind.CommRing R] {p : Nat} {co : R → Nat → Int} {mk : (Nat → Int) → R} (H : PD p co mk) {sv : R → (Nat → R) → List R → SV} (E : EN p co mk sv) {σ : SG} {f : R} {g : Nat → R} {L : List R} {h hc : List SV} {m : Option SV} {T : List Int} {Q : Int → SG → Prop} (hA : Awn co (σ 305) p f g L) (hV : Val p co mk f g L) (hR : Rst σ hc h m T) (hz : ∀ z, (pm T 0 (-1) []).1 = z → z ≠ -1 → ∀ σ', FrR σ σ' → Q (-100 - z) σ') (h2 : ∀ vs, pm T 0 (-1) [] = (-1, vs) → ¬ mok p vs → ∀ σ', FrR σ σ' → Q (-2) σ') (hok : ∀ vs, pm T 0 (-1) [] = (-1, vs) → mok p vs → vs.length ≤ 7 → (¬ SF p co mk (vp mk vs vs.length : R) → ∀ σ', FrR σ σ' → Q (-4) σ') ∧ (SF p co mk (vp mk vs vs.length : R) → (vp mk vs vs.length = f → ∀ σ', FrR σ σ' → Q (-5) σ') ∧ (vp mk vs vs.length ≠ f → ∀ σ' : SG, (∀ i, i < 304 → σ' i = σ i) → Awn co (σ' 305) p (vp mk vs vs.length) (fun k => rm co (g k) (vp mk vs vs.length)) [vp mk vs vs.length] → Rst σ' hc (push h (sv f g L)) m T → Q ((vs.length : Int) - 1) σ'))) : wp_X10_readModulus σ Q := by
  unfold wp_X10_readModulus
  have hp := pd_p H
  have hT := hR.2.2.1.2
  refine spec_X10_coefficients hT (fun σ1 a1 a2 z vs hpm => ⟨fun hz1 hvs => ⟨fun _ => ?_, fun h => absurd h (by omega)⟩, fun hz1 hat => ⟨fun h => absurd rfl h, fun _ => ?_⟩⟩)

  obtain ⟨hVs, hl1, hl7⟩ := hvs
  subst hz1
  have f1 : FrR σ σ1 := ⟨fun i hi => a1 i (by omega) (by omega), by rw [a1 30 (by omega) (by omega)], fun k hk => a2 k hk⟩
  refine spec_X10_clears H (by omega) (fun σ2 k2 m2 => ?_)
  have f2 := f1.tr (FrR.ofT k2)
  have A2 := Awn_R hA f2
  have h312 : σ2 312 = σ1 312 := k2.1 312 (by decide) (by decide)
  obtain ⟨n, hn⟩ : ∃ n, vs.length = n + 1 := ⟨vs.length - 1, by omega⟩
  have hgl := Vs_get hVs (k := n) (by omega)
  refine ⟨fun x s => s = σ2 ∧ (x = 0 ∧ (2 ≤ vs.length ∧ vs.getD (vs.length - 1) 0 = 1) ∨ x = 1 ∧ ¬ (2 ≤ vs.length ∧ vs.getD (vs.length - 1) 0 = 1)), ?_, fun h1 => ⟨rfl, Or.inr ⟨rfl, fun h => by omega⟩⟩, fun h1 => ?_⟩
  · rintro x σs ⟨es, hx⟩
    rw [es]
    have hx01 : x = 0 ∨ x = 1 := by rcases hx with hx | hx <;> omega
    refine Lp2_m (fun y z σ' => ∃ k : Nat, y = k ∧ k ≤ vs.length ∧ FT σ2 σ' [2] ∧ (z = 0 ∨ z = 1) ∧ (z = 0 ↔ x = 0 ∧ ∀ j, j < k → vs.getD j 0 < p) ∧ (∀ j : Nat, j < 14 → σ' 308 (14 * 2 + (j : Int)).toNat = if j < k then vs.getD j 0 % p else 0)) (fun y _ _ => (8 - y).toNat) ⟨0, rfl, by omega, FT.rf _ _, hx01, ⟨fun h => ⟨h, fun j hj => by omega⟩, fun h => h.1⟩, fun j hj => by rw [m2.2.1 j hj, co_zero H, if_neg (by omega)]⟩ ?_
    rintro y z σ3 r ⟨k, rfl, hk, f3, hz01, hziff, hrow⟩ hr
    have h312b : σ3 312 = σ1 312 := (f3.1 312 (by decide) (by decide)).trans h312
    have p3 : σ3 305 0 = p := by rw [f3.p]; exact A2.1
    refine ⟨fun hend => ?_, fun hlt => ?_⟩
    · have hkl : k = vs.length := by omega
      have hvsb : ∀ j, j < vs.length → 0 ≤ vs.getD j 0 := fun j hj => by have := Vs_get hVs hj; omega
      refine ⟨fun hz0 => ?_, fun hz0 => h2 vs hpm (fun hm => hz0 (hziff.mpr ⟨?_, fun j hj => (hm.1 j (by omega)).2⟩)) σ3 (f2.tr (FrR.ofT f3))⟩
      · obtain ⟨hx0, hall⟩ := hziff.mp hz0
        have hml : 2 ≤ vs.length ∧ vs.getD (vs.length - 1) 0 = 1 := by
          rcases hx with ⟨-, hx⟩ | ⟨hx, -⟩
          · exact hx
          · omega
        have hv : vok p vs := fun j hj => ⟨hvsb j hj, hall j (by omega)⟩
        have hmok : mok p vs := ⟨hv, hml⟩
        obtain ⟨hdF, hmF⟩ := vp_mon H hv hn (by have := hml.2; rw [hn] at this; exact this)
        obtain ⟨o4, oR⟩ := hok vs hpm hmok hl7
        have r2 : Rr co σ3 2 (vp mk vs vs.length : R) := ⟨by omega, fun j hj => by
          rw [hrow j hj, co_vp H hv (Nat.le_refl _), hkl]
          by_cases q : j < vs.length
          · rw [if_pos q, if_pos q]
            exact Int.emod_eq_of_lt (hv j q).1 (hv j q).2
          · rw [if_neg q, if_neg q], by omega⟩
        have hFv : ∀ j, co (vp mk vs vs.length : R) j = co (vp mk vs vs.length : R) j := fun _ => rfl
        generalize (vp mk vs vs.length : R) = F at *
        have hF0 := mon_ne H hmF
        have fr3 := f2.tr (FrR.ofT f3)
        refine spec_X10_derives H p3 r2 (by omega) (by decide) (fun σ4 k4 m4 => ?_)
        refine spec_X10_common H (by rw [k4.p]; exact p3) (Rr_ft r2 k4 (by decide)) m4 (by omega) (by decide) (Or.inl hF0) (fun σ5 k5 m5 => ?_)
        have fr5 := fr3.tr ((FrR.ofT k4).tr (FrR.ofT k5))
        have r5 := Rr_ft (Rr_ft r2 k4 (by decide)) k5 (by decide)
        have hsf := gc_dd1 H (a := F) (b := der p co mk F) (Or.inl hF0)
        have hpos := dd_pos H (mon_ne H (gc_mon H (a := F) (b := der p co mk F) (Or.inl hF0)))
        refine spec_X10_degree H m5 ⟨fun hle => ?_, fun hgt => o4 (fun hS => by have := hsf.mpr hS; omega) σ5 fr5⟩
        obtain ⟨o5, oN⟩ := oR (hsf.mp (by omega))
        have A5 := Awn_R hA fr5
        refine Lp2_m (fun y z σ' => ∃ k : Nat, y = k ∧ k ≤ 7 ∧ σ' = σ5 ∧ (z = 0 ∧ F ≠ f ∨ z = 1 ∧ ∀ j, j < k → co f j = co F j)) (fun y _ _ => (8 - y).toNat) ⟨0, rfl, by omega, rfl, Or.inr ⟨rfl, fun j hj => by omega⟩⟩ ?_
        rintro y z σ6 rr ⟨c, rfl, hc7, rfl, hz6⟩ hrr
        refine ⟨fun hend => ?_, fun hlt => ?_⟩
        · refine ⟨fun hz0 => ?_, fun hz0 => o5 ?_ σ6 fr5⟩
          · sorry
          · rcases hz6 with ⟨e, -⟩ | ⟨-, hz6⟩
            · exact absurd e hz0
            · exact pd_ext H (fun j => by
                rcases Nat.lt_or_ge j 7 with q | q
                · exact (hz6 j (by omega)).symm
                · rw [dd_out H F (by omega), dd_out H f (by have := hV.2.1; omega)])
        · have hfc : σ6 305 (1 + (c : Int)).toNat = co f c := by rw [show (1 + (c : Int)).toNat = 1 + c by omega]; exact A5.2.1 c (by omega)
          rw [hfc]
          refine ⟨by omega, by omega, spec_X10_of H r5 (by omega) ?_⟩
          rw [Int.toNat_natCast]
          refine ⟨fun hne => ?_, fun he => ?_⟩
          · rintro w hw
            have hw0 : w = 0 := by rcases hz6 with ⟨rfl, -⟩ | ⟨rfl, -⟩ <;> (rw [hw]; decide)
            exact ⟨by omega, hrr _ _ _ ⟨c + 1, by omega, by omega, rfl, Or.inl ⟨hw0, fun e => hne (by rw [e])⟩⟩ (by omega)⟩
          · rintro w hw
            refine ⟨by omega, hrr _ _ _ ⟨c + 1, by omega, by omega, rfl, ?_⟩ (by omega)⟩
            rcases hz6 with ⟨rfl, hz6⟩ | ⟨rfl, hz6⟩
            · exact Or.inl ⟨by rw [hw]; decide, hz6⟩
            · refine Or.inr ⟨by rw [hw]; decide, fun j hj => ?_⟩
              by_cases q : j = c
              · rw [q]; exact he
              · exact hz6 j (by omega)
      · rcases hx with ⟨hx, -⟩ | ⟨-, hx⟩
        · exact hx
        · exact absurd hm.2 hx
    · have hg := Vs_get hVs (k := k) (by omega)
      rw [Int.toNat_natCast, h312b, p3, ← hg.1]
      refine ⟨by omega, jn1_self ?_⟩
      have hstep : ∀ b : Int, (b = 0 ∨ b = 1) → (b = 0 ↔ vs.getD k 0 < p) → ∀ v72 : Int, v72 = ior z b → (0 ≤ (k : Int) ∧ (k : Int) < 7) ∧ (σ3 305 0 ≠ 0 ∧ wp_X10_puts σ3 2 k (Int.tmod (σ3 312 k) (σ3 305 0)) (fun σ75 => inR ((k : Int) + 1) ∧ r (k + 1) v72 σ75)) := by
        intro b hb01 hbiff v72 hv72
        have h01 := ior01 z b hz01 hb01
        rw [h312b, p3, ← hg.1, tmod_nn (by omega)]
        refine ⟨by omega, by omega, spec_X10_puts (by omega) (by omega) ⟨by omega, hr _ _ _ ⟨k + 1, by omega, by omega, f3.tr (FT.put σ3 (by omega) (by omega) _ List.mem_cons_self), by rw [hv72]; exact h01.1, ?_, fun j hj => ?_⟩ (by omega)⟩⟩
        · rw [hv72, h01.2, hziff, hbiff]
          constructor
          · rintro ⟨⟨u1, u2⟩, u3⟩
            refine ⟨u1, fun j hj => ?_⟩
            by_cases q : j = k
            · rw [q]; exact u3
            · exact u2 j (by omega)
          · rintro ⟨u1, u2⟩
            exact ⟨⟨u1, fun j hj => u2 j (by omega)⟩, u2 k (by omega)⟩
        · by_cases q : j = k
          · rw [q, ug_eq, if_pos (by omega)]
          · rw [ug_k _ _ (by omega), hrow j hj]
            by_cases q2 : j < k
            · rw [if_pos q2, if_pos (by omega)]
            · rw [if_neg q2, if_neg (by omega)]
      sorry
  · sorry
