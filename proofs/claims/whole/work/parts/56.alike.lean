/-! joinAlike, put -/
theorem prk_len {R : Type} [Lean.Grind.CommRing R] {co : R → Nat → Int} {a : R} {L : List R} : (L.filter (fun g => (kd co a g == 0) == true)).length = cnt co a 0 L ∧ (L.filter (fun g => (kd co a g == 0) == false)).length + cnt co a 0 L = L.length := by
  induction L with
  | nil => exact ⟨rfl, rfl⟩
  | cons x l ih =>
    unfold cnt at ih ⊢
    by_cases q : kd co a x = 0
    · rw [List.filter_cons_of_pos (by simp [q]), List.filter_cons_of_neg (by simp [q]), List.countP_cons_of_pos (by simp [q])]
      simp only [List.length_cons]
      omega
    · rw [List.filter_cons_of_neg (by simp [q]), List.filter_cons_of_pos (by simp [q]), List.countP_cons_of_neg (by simp [q])]
      simp only [List.length_cons]
      omega
theorem dd_prk {R : Type} [Lean.Grind.CommRing R] {p : Nat} {co : R → Nat → Int} {mk : (Nat → Int) → R} (H : PD p co mk) {a f : R} {b : Bool} {L : List R} (hL : GL co f L) : dd co (prk co a b L) ≤ 1 ↔ (L.filter (fun g => (kd co a g == 0) == b)).length = 0 := by
  constructor
  · intro h
    apply Decidable.byContradiction
    intro h0
    have hne : L.filter (fun g => (kd co a g == 0) == b) ≠ [] := fun e => h0 (by rw [e]; rfl)
    obtain ⟨x, hx⟩ := List.exists_mem_of_ne_nil _ hne
    have h1 : Dv x (prk co a b L) := pr_mem hx
    have hm := hL.1 x (List.mem_filter.mp hx).1
    have hp := prk_mon H (a := a) (b := b) (fun g hg => (hL.1 g hg).1)
    have := Dv_dd H (mon_ne H hp) h1
    omega
  · intro h
    have e := List.eq_nil_of_length_eq_zero h
    unfold prk
    rw [e]
    show dd co (1 : R) ≤ 1
    rw [dd_one H]
    omega
theorem spec_X10_joinAlike {R : Type} [Lean.Grind.CommRing R] {p : Nat} {co : R → Nat → Int} {mk : (Nat → Int) → R} (H : PD p co mk) {sv : R → (Nat → R) → List R → SV} (E : EN p co mk sv) {σ : SG} {f : R} {g : Nat → R} {L : List R} {a : Nat} {h hc : List SV} {m : Option SV} {T : List Int} {Q : Int → SG → Prop} (hA : Awn co (σ 305) p f g L) (hV : Val p co mk f g L) (hR : Rst σ hc h m T) (ha : a < 6) (h4 : cnt co (g a) 2 L ≠ 0 → ∀ σ', FrR σ σ' → Q (-4) σ') (h5 : cnt co (g a) 2 L = 0 → cnt co (g a) 0 L < 2 → L.length - cnt co (g a) 0 L < 2 → ∀ σ', FrR σ σ' → Q (-5) σ') (hok : cnt co (g a) 2 L = 0 → 2 ≤ cnt co (g a) 0 L ∨ 2 ≤ L.length - cnt co (g a) 0 L → ∀ σ' L', (∀ i, i < 304 → σ' i = σ i) → Bl co σ' L' → L'.Perm (jkl co (g a) L) → Srt co L' → GL co f L' → Awn co (σ' 305) p f g L' → Rst σ' hc (push h (sv f g L)) m T → Q L'.length σ') : wp_X10_joinAlike σ a Q := by
  unfold wp_X10_joinAlike
  have hd := hV.2.1
  have hGL := hV.2.2.2.2.1
  have hB := Bl_of H hA hV
  have b2 := hB.2.1
  have hf0 := Val_ne H hV
  refine noReg_ok ha ⟨fun _ => ?_, fun h => absurd rfl h⟩
  refine spec_X10_loadsNumber H hA hV ha (by omega) (fun σ1 k1 m1 => ?_)
  refine spec_X10_constant H (by rw [k1.p]; exact hA.1) (by omega) (by omega) (fun σ2 k2 m2 => ?_)
  refine spec_X10_constant H (by rw [k2.p, k1.p]; exact hA.1) (by omega) (by omega) (fun σ3 k3 m3 => ?_)
  rw [mo_1 H] at m2 m3
  have e305 : σ3 305 = σ 305 := by rw [k3.p, k2.p, k1.p]
  rintro v hv
  rw [e305, hB.1] at hv
  subst hv
  have JT : ∀ t ∈ ([2, 8, 9] : List Int), t ∈ ([2, 8, 9, 1, 4, 11, 12, 13] : List Int) := by decide
  have hbd : ∀ b k, dd co (prk co (g a) b (L.take k)) ≤ 7 := fun b k => by
    have h1 : Dv (prk co (g a) b (L.take k)) f := by rw [← hGL.2]; exact Dv_tr prk_dv (pr_take_dv k)
    have := Dv_dd H hf0 h1
    omega
  refine Lp2_m (fun x z σ' => ∃ k : Nat, x = k ∧ k ≤ L.length ∧ FT σ σ' [2, 8, 9, 1, 4, 11, 12, 13] ∧ Rr co σ' 2 (g a) ∧ Rr co σ' 8 (prk co (g a) true (L.take k)) ∧ Rr co σ' 9 (prk co (g a) false (L.take k)) ∧ z = cnt co (g a) 0 (L.take k) ∧ cnt co (g a) 2 (L.take k) = 0) (fun x _ _ => (6 - x).toNat) ⟨0, rfl, by omega, ((k1.mono (by simp)).tr (k2.mono (by simp))).tr (k3.mono (by simp)), Rr_ft (Rr_ft m1 k2 (by decide)) k3 (by decide), by rw [List.take_zero]; exact Rr_ft m2 k3 (by decide), by rw [List.take_zero]; exact m3, by simp [cnt], by simp [cnt]⟩ ?_
  rintro x z σ4 r ⟨k, rfl, hk, f4, r2, r8, r9, rfl, hc2⟩ hr
  have B4 : Bl co σ4 L := Bl_eq hB f4.p
  have p4 : σ4 305 0 = p := by rw [f4.p]; exact hA.1
  have A4 : Awn co (σ4 305) p f g L := by rw [f4.p]; exact hA
  refine ⟨fun hend => ?_, fun hlt => ?_⟩
  · have hkL : k = L.length := by omega
    subst hkL
    rw [List.take_of_length_le (Nat.le_refl _)] at r8 r9 hc2 ⊢
    obtain ⟨hl1, hl2⟩ := prk_len (co := co) (a := g a) (L := L)
    have hcle := cnt_le (co := co) (a := g a) (c := 0) (L := L)
    have hJ : 2 ≤ cnt co (g a) 0 L ∨ 2 ≤ L.length - cnt co (g a) 0 L → wp_X10_record σ4 (fun (σ13 : SG) => (∀ σ14 : SG, σ14 = ug σ13 305 44 0 → Jn0 (fun  (σ15 : SG) => Jn0 (fun  (σ17 : SG) => wp_X10_sorts σ17 (fun (σ19 : SG) => Q (σ19 305 44) σ19)) (fun J18 => (((L.length : Int) ≤ (cnt co (g a) 0 L : Nat) → J18 σ15) ∧ (¬ (L.length : Int) ≤ (cnt co (g a) 0 L : Nat) → wp_X10_comes σ15 9 (fun (σ20 : SG) => J18 σ20))))) (fun J16 => ((((cnt co (g a) 0 L : Nat) : Int) ≤ 0 → J16 σ14) ∧ (¬ ((cnt co (g a) 0 L : Nat) : Int) ≤ 0 → wp_X10_comes σ14 8 (fun (σ22 : SG) => J16 σ22)))))) := by
      intro hcond
      have R4 := Rst_X hR (FrX.ofR (FrR.ofT f4))
      refine rec_m R4 ((E.2.1 _ _ _ _).mp A4) ((E.2.2 _ _ _).mp hV) (fun σ5 e5 R5 => ?_)
      rintro σ6 e6
      have u6 : ∀ i, i ≠ 305 → σ6 i = σ5 i := fun i hi => by rw [e6, ug_ne _ hi]
      have v6 : ∀ j, j ≠ 44 → σ6 305 j = σ4 305 j := fun j hj => by rw [e6, ug_k _ _ hj, e5 305 (by decide) (by decide)]
      have e308 : σ6 308 = σ4 308 := by rw [u6 308 (by decide), e5 308 (by decide) (by decide)]
      have n8 : Rr co σ6 8 (prk co (g a) true L) := ⟨r8.1, fun k hk => by rw [e308]; exact r8.2.1 k hk, r8.2.2⟩
      have n9 : Rr co σ6 9 (prk co (g a) false L) := ⟨r9.1, fun k hk => by rw [e308]; exact r9.2.1 k hk, r9.2.2⟩
      have B6 : Bl co σ6 ([] : List R) := ⟨by rw [e6, ug_eq]; rfl, by simp, fun i x hx => by simp at hx⟩
      have hb7 : ∀ b, dd co (prk co (g a) b L) ≤ 7 := fun b => by have := hbd b L.length; rw [List.take_of_length_le (Nat.le_refl _)] at this; exact this
      have hd1 := dd_prk H (a := g a) (b := true) hGL
      have hd2 := dd_prk H (a := g a) (b := false) hGL
      have hfin : ∀ σ9, FN σ6 σ9 [] → Bl co σ9 (jkl co (g a) L) → wp_X10_sorts σ9 (fun σ19 => Q (σ19 305 44) σ19) := fun σ9 f9 B9 => spec_X10_sorts H B9 (fun σA LA fA BA pA sA => by
        have fN := f9.tr fA
        rw [BA.1]
        refine hok hc2 hcond σA LA (fun i hi => ?_) BA pA sA (GL_perm (GL_jk H hGL) pA) ?_ (Rst_X R5 ((FrX.of305 u6).tr (FrX.ofN fN)))
        · rw [fN.1 i (by omega) (by omega) (by omega), u6 i (by omega), e5 i (by omega) (by omega), f4.1 i (by omega) (by omega)]
        · obtain ⟨a1, a2, a3, a4, a5⟩ := A4
          exact ⟨by rw [fN.2.1 0 (by omega), v6 _ (by omega)]; exact a1, fun k hk => by rw [fN.2.1 _ (by omega), v6 _ (by omega)]; exact a2 k hk, fun r k hr hk => by rw [fN.2.1 _ (by omega), v6 _ (by omega)]; exact a3 r k hr hk, BA.1, fun i x hx k hk => (BA.2.2 i x hx).1 k hk⟩)
      have hmid : ∀ σ7, FN σ6 σ7 [] → Bl co σ7 (bit1 co (prk co (g a) true L)) → Jn0 (fun  (σ17 : SG) => wp_X10_sorts σ17 (fun (σ19 : SG) => Q (σ19 305 44) σ19)) (fun J18 => (((L.length : Int) ≤ (cnt co (g a) 0 L : Nat) → J18 σ7) ∧ (¬ (L.length : Int) ≤ (cnt co (g a) 0 L : Nat) → wp_X10_comes σ7 9 (fun (σ20 : SG) => J18 σ20)))) := fun σ7 f7 B7 => jn0_self (by
        refine ⟨fun h6 => hfin σ7 f7 ?_, fun h6 => ?_⟩
        · unfold jkl
          have e : bit1 co (prk co (g a) false L) = [] := by unfold bit1; rw [if_pos (hd2.mpr (by omega))]
          rw [e, List.append_nil]
          exact B7
        · refine spec_X10_comes H B7 (Rr_fn n9 f7 (by simp)) (hb7 false) (by unfold bit1; split <;> simp) (fun σ8 f8 B8 => hfin σ8 (f7.tr f8) ?_)
          unfold jkl
          have e : bit1 co (prk co (g a) false L) = [prk co (g a) false L] := by unfold bit1; rw [if_neg (fun h => by have := hd2.mp h; omega)]
          rw [e]
          exact B8)
      refine jn0_self ⟨fun h6 => hmid σ6 (FN.rf _ _) ?_, fun h6 => ?_⟩
      · have e : bit1 co (prk co (g a) true L) = [] := by unfold bit1; rw [if_pos (hd1.mpr (by omega))]
        rw [e]
        exact B6
      · refine spec_X10_comes H B6 n8 (hb7 true) (by simp) (fun σ8 f8 B8 => hmid σ8 f8 ?_)
        have e : bit1 co (prk co (g a) true L) = [prk co (g a) true L] := by unfold bit1; rw [if_neg (fun h => by have := hd1.mp h; omega)]
        rw [e]
        exact B8
    refine ⟨fun h2 => hJ (Or.inl (by omega)), fun h2 => ⟨by omega, fun h3 => hJ (Or.inr (by omega)), fun h3 => h5 hc2 (by omega) (by omega) _ (FrR.ofT f4)⟩⟩
  · have hlt : k < L.length := by omega
    have hg : L[k]? = some L[k] := List.getElem?_eq_getElem hlt
    have hm := GL_mem H hGL (List.mem_of_getElem? hg)
    generalize L[k] = x at hg hm
    refine spec_X10_loadsBranch H B4 hg (by omega) (fun σ5 k5 m5 => ?_)
    refine spec_X10_kindIn H (by rw [k5.p]; exact p4) m5 (Rr_ft r2 k5 (by decide)) (by decide) (mon_ne H hm.1) (fun σ6 k6 => ?_)
    have f6 : FT σ σ6 [2, 8, 9, 1, 4, 11, 12, 13] := f4.tr ((k5.mono (by simp)).tr (k6.mono (by simp)))
    have c2 := cnt_take (co := co) (a := g a) (c := 2) hg
    have c0 := cnt_take (co := co) (a := g a) (c := 0) hg
    have n2 := Rr_ft (Rr_ft r2 k5 (by decide)) k6 (by decide)
    have n8 := Rr_ft (Rr_ft r8 k5 (by decide)) k6 (by decide)
    have n9 := Rr_ft (Rr_ft r9 k5 (by decide)) k6 (by decide)
    have n1 := Rr_ft m5 k6 (by decide)
    have p6 : σ6 305 0 = p := by rw [f6.p]; exact hA.1
    have hle : cnt co (g a) 0 (L.take k) ≤ 6 := by
      have := cnt_le (co := co) (a := g a) (c := 0) (L := L.take k)
      rw [List.length_take] at this
      omega
    refine ⟨fun h3 => ?_, fun h3 => h4 (fun h0 => ?_) σ6 (FrR.ofT f6)⟩
    · refine jn1_self ?_
      have hc2' : cnt co (g a) 2 (L.take (k + 1)) = 0 := by rw [c2, if_neg h3, hc2]
      refine ⟨fun hz => ⟨by omega, ?_⟩, fun hz => ⟨by omega, ?_⟩⟩
      · rintro v rfl
        refine jn1_self ⟨fun _ => jn1_self ⟨fun _ => ?_, fun h => absurd h hz⟩, fun h => absurd h hz⟩
        refine spec_X10_multiplies H p6 n1 n9 (by omega) (by have := hbd false k; omega) (fun σ7 k7 m7 => ⟨by omega, hr _ _ _ ⟨k + 1, by omega, by omega, f6.tr (k7.mono (by simp)), Rr_ft n2 k7 (by decide), ?_, ?_, ?_, hc2'⟩ (by omega)⟩)
        · rw [prk_take hg, if_neg (by simp [hz])]
          exact Rr_ft n8 k7 (by decide)
        · rw [prk_take hg, if_pos (by simp [hz]), Lean.Grind.CommSemiring.mul_comm]
          exact m7
        · rw [c0, if_neg hz]; omega
      · rintro v rfl
        refine jn1_self ⟨fun h => absurd hz h, fun _ => jn1_self ⟨fun h => absurd hz h, fun _ => ?_⟩⟩
        refine spec_X10_multiplies H p6 n1 n8 (by omega) (by have := hbd true k; omega) (fun σ7 k7 m7 => ⟨by omega, hr _ _ _ ⟨k + 1, by omega, by omega, f6.tr (k7.mono (by simp)), Rr_ft n2 k7 (by decide), ?_, ?_, ?_, hc2'⟩ (by omega)⟩)
        · rw [prk_take hg, if_pos (by rw [hz]; rfl), Lean.Grind.CommSemiring.mul_comm]
          exact m7
        · rw [prk_take hg, if_neg (by rw [hz]; decide)]
          exact Rr_ft n9 k7 (by decide)
        · rw [c0, if_pos hz]; omega
    · unfold cnt at h0
      have := List.countP_eq_zero.mp h0 x (List.mem_of_getElem? hg)
      rw [h3] at this
      exact this rfl
theorem cnt_sum {R : Type} [Lean.Grind.CommRing R] {co : R → Nat → Int} {a : R} {L : List R} (h : cnt co a 2 L = 0) : cnt co a 0 L + cnt co a 1 L = L.length := by
  induction L with
  | nil => rfl
  | cons x l ih =>
    unfold cnt at h ih ⊢
    rcases kd_cases co a x with q | q | q
    · rw [List.countP_cons_of_neg (by simp [q])] at h
      rw [List.countP_cons_of_pos (by simp [q]), List.countP_cons_of_neg (by simp [q]), List.length_cons]
      have := ih h
      omega
    · rw [List.countP_cons_of_neg (by simp [q])] at h
      rw [List.countP_cons_of_neg (by simp [q]), List.countP_cons_of_pos (by simp [q]), List.length_cons]
      have := ih h
      omega
    · rw [List.countP_cons_of_pos (by simp [q])] at h
      omega
theorem noAlike {σ : SG} {a : Int} {Q : Int → SG → Prop} (ha : ¬ (0 ≤ a ∧ a < 6)) (h : Q (-1) σ) : wp_X10_joinAlike σ a Q := by
  unfold wp_X10_joinAlike
  exact noReg_no ha ⟨fun h => absurd h (by decide), fun _ => h⟩
theorem gop_joinAlike {R : Type} [Lean.Grind.CommRing R] {p : Nat} {co : R → Nat → Int} {mk : (Nat → Int) → R} (H : PD p co mk) {sv : R → (Nat → R) → List R → SV} (E : EN p co mk sv) {σ : SG} {f : R} {g : Nat → R} {L : List R} {a : Int} {h : List SV} {m : Option SV} {T : List Int} {Q : Int → Int → SG → Prop} (hS : Scn co σ 1 p f g L) (hA : Awn co (σ 305) p f g L) (hV : Val p co mk f g L) (hR : Rst σ h h m T) (hQ : ∀ r σ2 f g L h, Scn co σ2 1 p f g L → Awn co (σ2 305) p f g L → Val p co mk f g L → Rst σ2 h h m T → Q r r σ2) : wp_X9_joinAlike σ a (fun r σ1 => wp_X10_joinAlike σ1 a (fun r2 σ2 => Q r r2 σ2)) := by
  unfold wp_X9_joinAlike
  have hd := hV.2.1
  have hGL := hV.2.2.2.2.1
  refine spec_X9_isRegister (fun a0 a6 => ⟨fun _ => ⟨by omega, ?_⟩, fun h => absurd h (by decide)⟩) (fun h1 => ⟨fun h => absurd rfl h, fun _ => noAlike h1 (hQ _ _ f g L h hS hA hV hR)⟩)
  obtain ⟨a, rfl⟩ := Int.eq_ofNat_of_zero_le a0
  have ha : a < 6 := by omega
  have hst := reg_st ha
  have hL0 : ∀ x ∈ L, x ≠ 0 := fun x hx => mon_ne H (hGL.1 x hx).1
  rw [Int.toNat_natCast]
  have hnin : ∀ T : List Nat, (∀ t ∈ T, 33 ≤ t) → 1 + 3 + 1 + 2 * a ∉ T := fun T hT e => by have := hT _ e; omega
  have same : ∀ {r : Int} {σ' : SG}, FrR σ σ' → Q r r σ' := fun f1 => hQ _ _ f g L h (Scn_cgr hS (fun i a b => f1.1 i (by omega))) (Awn_R hA f1) hV (Rst_X hR (FrX.ofR f1))
  have hcle := cnt_le (co := co) (a := g a) (c := 0) (L := L)
  have hJ : cnt co (g a) 2 L = 0 → 2 ≤ cnt co (g a) 0 L ∨ 2 ≤ L.length - cnt co (g a) 0 L → ∀ σ1, FrR σ σ1 → wp_X3_record σ1 1 (fun (σ8 : SG) => wp_X0_joinByKind σ8 (1 + 3 + 1 + 2 * a) (fun (σ9 : SG) => wp_X10_joinAlike σ9 a (fun r2 σ2 => Q (σ9 1 4) r2 σ2))) := by
    intro hc hcond σ1 f1
    have hS1 := Scn_cgr hS (fun i a b => f1.1 i (by omega))
    have A1 := Awn_R hA f1
    refine rec_c (Rst_X hR (FrX.ofR f1)) ((E.1 _ _ _ _ _).mp hS1) ((E.2.2 _ _ _).mp hV) (fun σ2 e2 R2 => ?_)
    have hS2 : Scn co σ2 1 p f g L := Scn_cgr hS1 (fun i a b => e2 i (by omega))
    refine spec_X0_joinByKind H hS2.1 hS2.2.2.2 hGL hd.2 (hS2.2.2.1 a ha) (hnin JS (by decide)) (fun σ3 L3 f3 S3 p3 s3 G3 => ?_)
    have hS3 := Scn_B H hS2 JS_P (by decide) f3 S3
    have R3 := Rst_X R2 (FrX.ofB f3 (by decide))
    have e305 : σ3 305 = σ1 305 := by rw [f3.1 305 (by decide) (by decide) (by decide +kernel), e2 305 (by omega)]
    have A3 : Awn co (σ3 305) p f g L := by rw [e305]; exact A1
    rw [S3.2.2.1]
    refine spec_X10_joinAlike H E A3 hV R3 ha (fun h => absurd hc h) (fun _ h6 h7 => by omega) (fun _ _ σ4 L4 e4 B4 p4 s4 G4 A4 R4 => ?_)
    have eL : L4 = L3 := Srt_uniq H (p4.trans p3.symm) s4 s3
    subst eL
    exact hQ _ _ _ _ _ _ (Scn_cgr hS3 (fun i i1 i2 => e4 i (by omega))) A4 (Val_L H hV G4 s4) R4
  have hKS := hnin KS (by decide)
  refine spec_X0_countOfKind H hS.1 hS.2.2.2 hL0 (hS.2.2.1 a ha) hKS (fun σ1 h1 => ?_)
  have f1 := KS_R h1
  have hS1 := Scn_cgr hS (fun i a b => f1.1 i (by omega))
  refine ⟨fun h2 => ?_, fun h2 => ?_⟩
  · have hc : cnt co (g a) 2 L = 0 := by omega
    have hsum := cnt_sum hc
    refine spec_X0_countOfKind H hS1.1 hS1.2.2.2 hL0 (hS1.2.2.1 a ha) hKS (fun σ2 h3 => ?_)
    have f2 := f1.tr (KS_R h3)
    have hS2 := Scn_cgr hS (fun i a b => f2.1 i (by omega))
    refine ⟨fun h4 => hJ hc (Or.inl (by omega)) σ2 f2, fun h4 => ?_⟩
    refine spec_X0_countOfKind H hS2.1 hS2.2.2.2 hL0 (hS2.2.2.1 a ha) hKS (fun σ3 h5 => ?_)
    have f3 := f2.tr (KS_R h5)
    refine ⟨fun h6 => hJ hc (Or.inr (by omega)) σ3 f3, fun h6 => ?_⟩
    exact spec_X10_joinAlike H E (Awn_R hA f3) hV (Rst_X hR (FrX.ofR f3)) ha (fun h => absurd hc h) (fun _ _ _ σ4 f4 => same (f3.tr f4)) (fun _ h7 => by omega)
  · exact spec_X10_joinAlike H E (Awn_R hA f1) hV (Rst_X hR (FrX.ofR f1)) ha (fun _ σ4 f4 => same (f1.tr f4)) (fun h => by omega) (fun h => by omega)
theorem gc_neg {R : Type} [Lean.Grind.CommRing R] {p : Nat} {co : R → Nat → Int} {mk : (Nat → Int) → R} (H : PD p co mk) {a b : R} : gc co a (-b) = gc co a b := by
  obtain ⟨h1, h2, ⟨u, v, h3⟩, h4⟩ := gc_spec H a b
  refine gc_of H ⟨h1, ?_, ⟨u, -v, ?_⟩, ?_⟩
  · obtain ⟨c, hc⟩ := h2
    exact ⟨-c, by grind⟩
  · rw [h3]; grind
  · rcases h4 with h4 | ⟨h5, h6, h7⟩
    · exact Or.inl h4
    · exact Or.inr ⟨h5, by grind, h7⟩
theorem kd_neg {R : Type} [Lean.Grind.CommRing R] {p : Nat} {co : R → Nat → Int} {mk : (Nat → Int) → R} (H : PD p co mk) {a b g : R} : kd co (a - b) g = kd co (b - a) g := by
  unfold kd
  rw [show a - b = -(b - a) by grind, gc_neg H]
theorem spec_X10_stores {R : Type} [Lean.Grind.CommRing R] {p : Nat} {co : R → Nat → Int} {mk : (Nat → Int) → R} (H : PD p co mk) {σ : SG} {r : Int} {a : Nat} {x : R} {Q : SG → Prop} (hx : Rr co σ r x) (ha : a < 6) (hQ : ∀ σ' : SG, (∀ i, i ≠ 305 → σ' i = σ i) → (∀ k, k < 8 + 6 * a ∨ 8 + 6 * a + 6 ≤ k → σ' 305 k = σ 305 k) → (∀ k, k < 6 → σ' 305 (8 + 6 * a + k) = co x k) → Q σ') : wp_X10_stores σ r a Q := by
  unfold wp_X10_stores
  refine Lp1_up 6 (fun n σ' => (∀ i, i ≠ 305 → σ' i = σ i) ∧ (∀ k, k < 8 + 6 * a ∨ 8 + 6 * a + 6 ≤ k → σ' 305 k = σ 305 k) ∧ ∀ k, k < n → σ' 305 (8 + 6 * a + k) = co x k) ⟨fun _ _ => rfl, fun _ _ => rfl, fun k hk => by omega⟩ ?_ ?_
  · rintro n σ1 rr hn ⟨h1, h2, h3⟩ hr
    have hx1 : Rr co σ1 r x := ⟨hx.1, fun k hk => by rw [h1 308 (by decide)]; exact hx.2.1 k hk, hx.2.2⟩
    refine ⟨fun h => by omega, fun _ => ⟨by omega, by omega, by omega, spec_X10_of H hx1 (by omega) ⟨by omega, ?_⟩⟩⟩
    rintro σ2 e2
    rw [show (8 + 6 * (a : Int) + n).toNat = 8 + 6 * a + n by omega, Int.toNat_natCast] at e2
    refine ⟨by omega, hr _ ⟨fun i hi => by rw [e2, ug_ne _ hi]; exact h1 i hi, fun k hk => by rw [e2, ug_k _ _ (by omega)]; exact h2 k hk, fun k hk => ?_⟩⟩
    by_cases q : k = n
    · rw [q, e2, ug_eq]
    · rw [e2, ug_k _ _ (by omega)]; exact h3 k (by omega)
  · rintro σ1 rr ⟨h1, h2, h3⟩
    exact ⟨fun _ => hQ σ1 h1 h2 h3, fun h => absurd (Int.le_refl _) h⟩
theorem put_st {R : Type} [Lean.Grind.CommRing R] {p : Nat} {co : R → Nat → Int} {mk : (Nat → Int) → R} (H : PD p co mk) {e a b f v : R} (h : v = rm co (e * (a - b)) f + b) : v - a = rm co (e * (a - b)) f + b - a := by rw [h]
theorem gop_put {R : Type} [Lean.Grind.CommRing R] {p : Nat} {co : R → Nat → Int} {mk : (Nat → Int) → R} (H : PD p co mk) {sv : R → (Nat → R) → List R → SV} (E : EN p co mk sv) {σ : SG} {f : R} {g : Nat → R} {L : List R} {a b c : Int} {h : List SV} {m : Option SV} {T : List Int} {Q : Int → Int → SG → Prop} (hS : Scn co σ 1 p f g L) (hA : Awn co (σ 305) p f g L) (hV : Val p co mk f g L) (hR : Rst σ h h m T) (hQ : ∀ r σ2 f g L h, Scn co σ2 1 p f g L → Awn co (σ2 305) p f g L → Val p co mk f g L → Rst σ2 h h m T → Q r r σ2) : wp_X9_put σ a b c (fun r σ1 => wp_X10_put σ1 a b c (fun r2 σ2 => Q r r2 σ2)) := by
  unfold wp_X9_put wp_X10_put
  have hd := hV.2.1
  have hp := pd_p H
  have hGL := hV.2.2.2.2.1
  have hB := Bl_of H hA hV
  have b2 := hB.2.1
  have hb := hS.2.2.2
  have hf0 := Val_ne H hV
  have same0 : ∀ {r : Int}, Q r r σ := hQ _ _ f g L h hS hA hV hR
  refine spec_X9_isRegister (fun a0 a6 => ⟨fun h => absurd h (by decide), fun _ => ?_⟩) (fun h1 => ⟨fun _ => noReg_no h1 ⟨fun _ => same0, fun h => absurd h (by decide)⟩, fun h => absurd rfl h⟩)
  obtain ⟨a, rfl⟩ := Int.eq_ofNat_of_zero_le a0
  have ha : a < 6 := by omega
  refine spec_X9_isBranch hb.2.2.1 (fun i hi hil => ⟨fun h => absurd h (by decide), fun _ => ?_⟩) (fun h1 => ⟨fun _ => noReg_ok ha ⟨fun h => absurd rfl h, fun _ => noBr_no hB h1 ⟨fun _ => same0, fun h => absurd h (by decide)⟩⟩, fun h => absurd rfl h⟩)
  subst hi
  refine spec_X9_isRegister (fun c0 c6 => ⟨fun _ => ?_, fun h => absurd h (by decide)⟩) (fun h1 => ⟨fun h => absurd rfl h, fun _ => noReg_ok ha ⟨fun h => absurd rfl h, fun _ => noBr_ok hB hil ⟨fun h => absurd rfl h, fun _ => noReg_no h1 ⟨fun h => absurd h (by decide), fun _ => same0⟩⟩⟩⟩)
  obtain ⟨c, rfl⟩ := Int.eq_ofNat_of_zero_le c0
  have hc : c < 6 := by omega
  refine ⟨fun hac => ?_, fun heq => noReg_ok ha ⟨fun h => absurd rfl h, fun _ => noBr_ok hB hil ⟨fun h => absurd rfl h, fun _ => noReg_ok hc ⟨fun _ => ⟨fun h => absurd heq h, fun _ => same0⟩, fun h => absurd rfl h⟩⟩⟩⟩
  have hgi : L[i]? = some L[i] := List.getElem?_eq_getElem hil
  obtain ⟨_, i6, i1, i2⟩ := Sb_get hb hgi
  have hm := GL_mem H hGL (List.mem_of_getElem? hgi)
  generalize L[i] = x at hgi i2 hm
  have sa := reg_st ha
  have sc := reg_st hc
  have hda := hV.2.2.2.1 a ha
  have hdc := hV.2.2.2.1 c hc
  rw [Int.toNat_natCast, Int.toNat_natCast, Int.toNat_natCast]
  have nRS : ∀ k, k < 6 → 1 + 3 + 1 + 2 * k ∉ RS := fun k hk e => by have := (by decide : ∀ t ∈ RS, 33 ≤ t) _ e; omega
  refine ⟨by omega, by omega, i1, by omega, ?_⟩
  refine spec_X6_putTogether H (Md_of H hS hV) hV.2.2.1 kt302 (hS.2.2.1 a ha) i2 (hS.2.2.1 c hc) hm.1 hm.2.2.1 hm.2.1 (brs_nin (T := RS) (by decide) i1) (nRS c hc) (by decide) (by decide) (by omega) hda hdc (fun σ1 e h1 he r1 => ?_)
  have f1 : FrR σ σ1 := FrR.ofL h1 (by decide)
  have hS1 := Scn_cgr hS (fun i a b => f1.1 i (by omega))
  have A1 := Awn_R hA f1
  have hdv : dd co (rm co (e * (g a - g c)) f + g c) < dd co f := by
    have h3 := (rm_spec H (e * (g a - g c)) hf0).2
    have := dd_add_le H (a := rm co (e * (g a - g c)) f) (b := g c) (n := dd co f - 1) (by omega) (by omega)
    omega
  have hL0 : ∀ x ∈ L, x ≠ 0 := fun x hx => mon_ne H (hGL.1 x hx).1
  refine spec_X0_countDifferent H hS1.1 hS1.2.2.2 hL0 (hS1.2.2.1 a ha) r1 (by decide) (fun σ2 h2 => ?_)
  have r2 := Rp_frL r1 ES_P (by decide) h2
  have f2 : FrR σ σ2 := f1.tr (FrR.ofL h2 (by decide))
  have hS2 := Scn_cgr hS (fun i a b => f2.1 i (by omega))
  have A2 := Awn_R hA f2
  have hcle := cnt_le (co := co) (a := g a - (rm co (e * (g a - g c)) f + g c)) (c := 0) (L := L)
  -- the reference, from any picture that holds this state
  have hmod : ∀ (σ3 : SG) (K : Int → SG → Prop), Awn co (σ3 305) p f g L → (∀ σ' w, FrR σ3 σ' → w = rm co (e * (g a - g c)) f + g c → Rr co σ' 2 w → (((L.length - cnt co (g a - (rm co (e * (g a - g c)) f + g c)) 0 L : Nat) : Int) ≠ 0 → wp_X10_record σ' (fun σ27 => wp_X10_stores σ27 2 a (fun σ28 => K ((L.length - cnt co (g a - (rm co (e * (g a - g c)) f + g c)) 0 L : Nat) : Int) σ28))) ∧ (((L.length - cnt co (g a - (rm co (e * (g a - g c)) f + g c)) 0 L : Nat) : Int) = 0 → K (-5) σ')) → wp_X10_put σ3 a i c K := by
    intro σ3 K A3 hK
    unfold wp_X10_put
    have B3 := Bl_of H A3 hV
    refine noReg_ok ha ⟨fun h => absurd rfl h, fun _ => noBr_ok B3 hil ⟨fun h => absurd rfl h, fun _ => noReg_ok hc ⟨fun _ => ⟨fun _ => ?_, fun h => absurd h hac⟩, fun h => absurd rfl h⟩⟩⟩
    refine spec_X10_loadsModulus H A3 hV (fun σ4 k4 m4 => ?_)
    refine spec_X10_loadsBranch H (Bl_eq B3 k4.p) hgi (by omega) (fun σ5 k5 m5 => ?_)
    have A5 := Awn_R (Awn_R A3 (FrR.ofT k4)) (FrR.ofT k5)
    have z5 := Rr_ft m4 k5 (by decide)
    refine spec_X10_unitOf H A5.1 z5 m5 hV.1 hd.2 hV.2.2.1 hm.1 hm.2.2.1 hm.2.1 (by omega) (by decide) (by decide) (fun σ6 e6 k6 hu6 m6 => ?_)
    have ee := Ue_uniq H hV.1 hV.2.2.1 hm.1 hm.2.2.1 hu6 he
    subst ee
    have A6 := Awn_R A5 (FrR.ofT k6)
    have z6 := Rr_ft z5 k6 (by decide)
    refine spec_X10_loadsNumber H A6 hV ha (by omega) (fun σ7 k7 m7 => ?_)
    have A7 := Awn_R A6 (FrR.ofT k7)
    refine spec_X10_loadsNumber H A7 hV hc (by omega) (fun σ8 k8 m8 => ?_)
    have A8 := Awn_R A7 (FrR.ofT k8)
    have y8 := Rr_ft m7 k8 (by decide)
    have u8 := Rr_ft (Rr_ft m6 k7 (by decide)) k8 (by decide)
    have z8 := Rr_ft (Rr_ft z6 k7 (by decide)) k8 (by decide)
    rw [A8.1]
    refine ⟨by omega, spec_X10_adds H A8.1 m8 y8 (by decide) (by omega) (fun σ9 k9 m9 => ?_)⟩
    rw [mo_pm1 H] at m9
    have A9 := Awn_R A8 (FrR.ofT k9)
    have hed := hu6.1
    have hdac := dd_sub_le H (n := dd co f - 1) (a := g a) (b := g c) (by omega) (by omega)
    refine spec_X10_multiplies H A9.1 (Rr_ft u8 k9 (by decide)) m9 (by omega) (by omega) (fun σA kA mA => ?_)
    have AA := Awn_R A9 (FrR.ofT kA)
    refine spec_X10_divides H AA.1 mA (Rr_ft (Rr_ft z8 k9 (by decide)) kA (by decide)) (by decide) (by decide) (by decide) (by decide) hf0 (fun σB kB mB _ => ?_)
    have kB : FT σA σB [2] := FT_w kB (by decide)
    have AB2 := Awn_R AA (FrR.ofT kB)
    have n3 := Rr_ft (Rr_ft (Rr_ft m8 k9 (by decide)) kA (by decide)) kB (by decide)
    refine spec_X10_adds H AB2.1 n3 mB (by decide) (by decide) (fun σC kC mC => ?_)
    rw [mo_1 H, show rm co (e6 * (g a - g c)) f + 1 * g c = rm co (e6 * (g a - g c)) f + g c by grind] at mC
    have AC := Awn_R AB2 (FrR.ofT kC)
    refine spec_X10_loadsNumber H AC hV ha (by omega) (fun σD kD mD => ?_)
    have AD := Awn_R AC (FrR.ofT kD)
    have mC2 := Rr_ft mC kD (by decide)
    refine spec_X10_copies H mC2 (by omega) (fun σE kE mE => ?_)
    have AE := Awn_R AD (FrR.ofT kE)
    have mD2 := Rr_ft mD kE (by decide)
    rw [AE.1]
    refine ⟨by omega, spec_X10_adds H AE.1 mD2 mE (by decide) (by omega) (fun σF kF mF => ?_)⟩
    rw [mo_pm1 H] at mF
    have fF : FrR σ3 σF := (FrR.ofT k4).tr ((FrR.ofT k5).tr ((FrR.ofT k6).tr ((FrR.ofT k7).tr ((FrR.ofT k8).tr ((FrR.ofT k9).tr ((FrR.ofT kA).tr ((FrR.ofT kB).tr ((FrR.ofT kC).tr ((FrR.ofT kD).tr ((FrR.ofT kE).tr (FrR.ofT kF)))))))))))
    have m2F := Rr_ft (Rr_ft mC2 kE (by decide)) kF (by decide)
    generalize hw : rm co (e6 * (g a - g c)) f + g c = w at mF m2F hK hcle
    have BF : Bl co σF L := Bl_of H (Awn_R A3 fF) hV
    refine Lp2_m (fun x z σ' => ∃ k : Nat, x = k ∧ k ≤ L.length ∧ FrR σ3 σ' ∧ Rr co σ' 5 (w - g a) ∧ Rr co σ' 2 w ∧ z = ((k - cnt co (g a - w) 0 (L.take k) : Nat) : Int)) (fun x _ _ => (6 - x).toNat) ⟨0, rfl, by omega, fF, mF, m2F, by simp⟩ ?_
    rintro y z σG r ⟨k, rfl, hk, fG, n5, n2, rfl⟩ hr
    have AG := Awn_R A3 fG
    have BG := Bl_of H AG hV
    rw [BG.1]
    refine ⟨fun hend => ?_, fun hlt => ?_⟩
    · have hkL : k = L.length := by omega
      rw [hkL, List.take_of_length_le (Nat.le_refl _)]
      exact hK σG w fG rfl n2
    · have hlt : k < L.length := by omega
      have hg : L[k]? = some L[k] := List.getElem?_eq_getElem hlt
      have hmk := GL_mem H hGL (List.mem_of_getElem? hg)
      generalize L[k] = y at hg hmk
      refine spec_X10_loadsBranch H BG hg (by omega) (fun σH kH mH => ?_)
      refine spec_X10_kindIn H (by rw [kH.p]; exact AG.1) mH (Rr_ft n5 kH (by decide)) (by decide) (mon_ne H hmk.1) (fun σI kI => ?_)
      have fI := fG.tr ((FrR.ofT kH).tr (FrR.ofT kI))
      have o5 := Rr_ft (Rr_ft n5 kH (by decide)) kI (by decide)
      have o2 := Rr_ft (Rr_ft n2 kH (by decide)) kI (by decide)
      have hct := cnt_take (co := co) (a := g a - w) (c := 0) hg
      have hle := cnt_le (co := co) (a := g a - w) (c := 0) (L := L.take k)
      rw [List.length_take] at hle
      rw [kd_neg H (a := w) (b := g a)]
      refine ⟨fun h3 => ⟨by omega, ?_⟩, fun h3 => ⟨by omega, ?_⟩⟩
      · rintro v rfl
        refine ⟨by omega, hr _ _ _ ⟨k + 1, by omega, by omega, fI, o5, o2, ?_⟩ (by omega)⟩
        rw [hct, if_neg h3]; omega
      · rintro v rfl
        refine ⟨by omega, hr _ _ _ ⟨k + 1, by omega, by omega, fI, o5, o2, ?_⟩ (by omega)⟩
        rw [hct, if_pos h3]; omega
  have fold : ∀ (K : Int → SG → Prop) (σ3 : SG), wp_X10_put σ3 a i c K → wp_X10_put σ3 a i c K := fun _ _ h => h
  refine ⟨fun hne => ?_, fun h0 => ?_⟩
  · refine rec_c (Rst_X hR (FrX.ofR f2)) ((E.1 _ _ _ _ _).mp hS2) ((E.2.2 _ _ _).mp hV) (fun σ3 e3 R3 => ?_)
    have hS3 : Scn co σ3 1 p f g L := Scn_cgr hS2 (fun i a b => e3 i (by omega))
    have r3 : Rp co σ3 302 _ := Rp_cg r2 (e3 302 (by omega)) (e3 303 (by omega))
    refine spec_X4_copy H (hS3.2.2.1 a ha).1 r3 (fun σ4 k4 m4 => ?_)
    have hS4 := Scn_set H hS3 ha k4 m4
    have R4 := Rst_X R3 (FrX.of1 k4 (by omega))
    have e305 : σ4 305 = σ2 305 := by rw [k4 305 (by omega) (by omega), e3 305 (by omega)]
    have A4 : Awn co (σ4 305) p f g L := by rw [e305]; exact A2
    refine fold _ _ (hmod σ4 _ A4 (fun σ5 w f5 hw r5 => ⟨fun _ => ?_, fun h => by omega⟩))
    have A5 := Awn_R A4 f5
    have R5 := Rst_X R4 (FrX.ofR f5)
    refine rec_m R5 ((E.2.1 _ _ _ _).mp A5) ((E.2.2 _ _ _).mp hV) (fun σ6 e6 R6 => ?_)
    have r6 : Rr co σ6 2 w := ⟨r5.1, fun k hk => by rw [e6 308 (by decide) (by decide)]; exact r5.2.1 k hk, r5.2.2⟩
    refine spec_X10_stores H r6 ha (fun σ7 e7 u7 v7 => ?_)
    have hS7 := Scn_cgr (σ' := σ7) hS4 (fun i i1 i2 => by rw [e7 i (by omega), e6 i (by omega) (by omega), f5.1 i (by omega)])
    rw [← hw] at hS7
    have A6 : Awn co (σ6 305) p f g L := by rw [e6 305 (by decide) (by decide)]; exact A5
    have hret : ((L.length : Int) - (cnt co (g a - (rm co (e * (g a - g c)) f + g c)) 0 L : Nat)) = ((L.length - cnt co (g a - (rm co (e * (g a - g c)) f + g c)) 0 L : Nat) : Int) := by omega
    rw [hret]
    exact hQ _ _ _ _ _ _ hS7 (Awn_set A6 ha u7 v7) (Val_set H hV (by rw [hw]; exact hdv)) (Rst_X R6 (FrX.of305 e7))
  · refine fold _ _ (hmod σ2 _ A2 (fun σ5 w f5 hw r5 => ⟨fun h => by omega, fun _ => ?_⟩))
    have f25 := f2.tr f5
    exact hQ _ _ f g L h (Scn_cgr hS (fun i a b => f25.1 i (by omega))) (Awn_R hA f25) hV (Rst_X hR (FrX.ofR f25))
