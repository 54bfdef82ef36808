/-! least polynomials: the reference -/
/-- rows 34 + 2 j (values, without zero) and 35 + 2 j (relations), j < k; each value is zero at the tops of those before it -/
def RM {R : Type} [Lean.Grind.CommRing R] (p : Nat) (co : R → Nat → Int) (mk : (Nat → Int) → R) (f a : R) (σ : SG) (row rel : Nat → R) (k : Nat) : Prop := ∀ j, j < k → Rr co σ (34 + 2 * j) (row j) ∧ Rr co σ (34 + 2 * j + 1) (rel j) ∧ row j ≠ 0 ∧ Ev p co mk f a (rel j) = row j ∧ dd co (rel j) ≤ j + 1 ∧ dd co (row j) < dd co f ∧ ∀ i, i < j → co (row j) (dd co (row i) - 1) = 0
theorem RM_ft {R : Type} [Lean.Grind.CommRing R] {p : Nat} {co : R → Nat → Int} {mk : (Nat → Int) → R} {f a : R} {σ σ' : SG} {row rel : Nat → R} {k : Nat} {T : List Int} (h : RM p co mk f a σ row rel k) (hf : FT σ σ' T) (hT : ∀ j : Nat, j < k → (34 + 2 * (j : Int)) ∉ T ∧ (34 + 2 * (j : Int) + 1) ∉ T) : RM p co mk f a σ' row rel k := fun j hj => by
  obtain ⟨h1, h2, h3⟩ := h j hj
  exact ⟨Rr_ft h1 hf (hT j hj).1, Rr_ft h2 hf (hT j hj).2, h3⟩
theorem ndT {k j : Nat} (h : j < k) : (34 + 2 * (j : Int)) ∉ [34 + 2 * (k : Int), 34 + 2 * (k : Int) + 1] ∧ (34 + 2 * (j : Int) + 1) ∉ [34 + 2 * (k : Int), 34 + 2 * (k : Int) + 1] := by
  refine ⟨fun e => ?_, fun e => ?_⟩ <;> (simp only [List.mem_cons, List.not_mem_nil, or_false] at e; omega)
noncomputable def piv {R : Type} (co : R → Nat → Int) (row : Nat → R) : Nat → List Nat
  | 0 => []
  | k + 1 => (dd co (row k) - 1) :: piv co row k
theorem piv_mem {R : Type} {co : R → Nat → Int} {row : Nat → R} {i : Nat} : ∀ {k : Nat}, i ∈ piv co row k → ∃ j, j < k ∧ i = dd co (row j) - 1 := by
  intro k
  induction k with
  | zero => intro h; cases h
  | succ k ih =>
    intro h
    rcases List.mem_cons.mp h with e | e
    · exact ⟨k, by omega, e⟩
    · obtain ⟨j, j1, j2⟩ := ih e
      exact ⟨j, by omega, j2⟩
theorem piv_cg {R : Type} {co : R → Nat → Int} {row row' : Nat → R} : ∀ {k : Nat}, (∀ j, j < k → row' j = row j) → piv co row' k = piv co row k := by
  intro k
  induction k with
  | zero => intro _; rfl
  | succ k ih =>
    intro h
    show (dd co (row' k) - 1) :: piv co row' k = (dd co (row k) - 1) :: piv co row k
    rw [h k (by omega), ih (fun j hj => h j (by omega))]
theorem spec_X10_findsLeast {R : Type} [Lean.Grind.CommRing R] {p : Nat} {co : R → Nat → Int} {mk : (Nat → Int) → R} (H : PD p co mk) {σ : SG} {f a : R} {Q : SG → Prop} (hσ : σ 305 0 = p) (h0 : Rr co σ 0 f) (h2 : Rr co σ 2 a) (hd : 2 ≤ dd co f ∧ dd co f ≤ 7) (hda : dd co a < dd co f) (hQ : ∀ σ' k m, FrR σ σ' → Lst p co mk f a k m → Rr co σ' 3 m → Q σ') : wp_X10_findsLeast σ Q := by
  unfold wp_X10_findsLeast
  have hp := pd_p H
  have hf0 := dd_ne0 H (a := f) (by omega)
  refine spec_X10_degree H h0 ?_
  rintro v hv
  rw [hσ] at hv
  subst hv
  refine spec_X10_constant H hσ (by omega) (by omega) (fun σ1 k1 m1 => ?_)
  rw [mo_1 H] at m1
  refine Lp1_m (fun x σ' => ∃ (k : Nat) (row rel : Nat → R), x = k ∧ k ≤ 7 ∧ FrR σ σ' ∧ RM p co mk f a σ' row rel k ∧ Ind p co mk f a k (piv co row k) ∧ Rr co σ' 4 (rm co (a ^ k) f) ∧ Rr co σ' 0 f ∧ Rr co σ' 2 a) (fun x _ => (9 - x).toNat) ⟨0, fun _ => 0, fun _ => 0, rfl, by omega, FrR.ofT k1, fun j hj => by omega, Ind_0 H, by rw [pw_0, rm_small H (by rw [dd_one H]; omega)]; exact m1, Rr_ft h0 k1 (by decide), Rr_ft h2 k1 (by decide)⟩ ?_
  rintro x σ2 rr ⟨k, row, rel, rfl, k7, f2, R2, I2, m4, c0, c2⟩ hr
  have hkb := Ind_bd H I2
  have p2 : σ2 305 0 = p := by rw [f2.1 305 (by omega)]; exact hσ
  refine ⟨fun h => by omega, fun _ => ⟨by omega, by omega, ?_⟩⟩
  rintro v rfl
  refine spec_X10_copies H m4 (by omega) (fun σ3 k3 m3 => ⟨by omega, ?_⟩)
  refine spec_X10_clears H (by omega) (fun σ4 k4 m4' => ⟨by omega, spec_X10_puts (by omega) (by omega) ?_⟩)
  generalize e5 : ug σ4 308 (14 * (34 + 2 * (k : Int) + 1) + k).toNat 1 = σ5
  have k5 : FT σ4 σ5 [34 + 2 * (k : Int) + 1] := by rw [← e5]; exact FT.put σ4 (by omega) (by omega) 1 List.mem_cons_self
  have hrel : Rr co σ5 (34 + 2 * (k : Int) + 1) (mo p mk 1 k : R) := by
    refine ⟨by omega, fun j hj => ?_, by have := dd_mo_le H (co := co) (mk := mk) 1 k; omega⟩
    rw [co_mo H, ← e5]
    by_cases q : j = k
    · rw [if_pos q, q, ug_eq, Int.emod_eq_of_lt (by decide) (by omega)]
    · rw [if_neg q, ug_k _ _ (by omega), m4'.2.1 j hj, co_zero H]
  have hrow : Rr co σ5 (34 + 2 * (k : Int)) (rm co (a ^ k) f) := Rr_ft (Rr_ft m3 k4 (by simp; omega)) k5 (by simp; omega)
  have f25 : FT σ2 σ5 [34 + 2 * (k : Int), 34 + 2 * (k : Int) + 1] := (k3.mono (by simp)).tr ((k4.mono (by simp)).tr (k5.mono (by simp)))
  -- the rows before it are taken away
  refine Lp1_m (fun x σ' => ∃ (j : Nat) (w m : R), x = j ∧ j ≤ k ∧ FT σ2 σ' [34 + 2 * (k : Int), 34 + 2 * (k : Int) + 1] ∧ Rr co σ' (34 + 2 * (k : Int)) w ∧ Rr co σ' (34 + 2 * (k : Int) + 1) m ∧ dd co m = k + 1 ∧ co m k = 1 ∧ Ev p co mk f a m = w ∧ ∀ i, i < j → co w (dd co (row i) - 1) = 0) (fun x _ => (k - x).toNat) ⟨0, _, _, rfl, by omega, f25, hrow, hrel, dd_of H (fun j hj => by rw [co_mo H, if_neg (by omega)]) (Or.inr (by rw [Nat.add_sub_cancel, co_mo H, if_pos rfl, Int.emod_eq_of_lt (by decide) (by omega)]; decide)), by rw [co_mo H, if_pos rfl, Int.emod_eq_of_lt (by decide) (by omega)], Ev_mo H a (by omega), fun i hi => by omega⟩ ?_
  rintro x σ6 r2 ⟨j, w, m, rfl, hj, f6, hw, hm, d1, d2, d3, hz⟩ hr2
  have p6 : σ6 305 0 = p := by rw [f6.p]; exact p2
  have R6 := RM_ft R2 f6 (fun j hj => ndT hj)
  have hwd : dd co w < dd co f := by rw [← d3]; exact (rm_spec H _ hf0).2
  have fr6 : FrR σ σ6 := f2.tr (FrR.ofT f6)
  have nin : ∀ q : Int, q < 34 → q ∉ [34 + 2 * (k : Int), 34 + 2 * (k : Int) + 1] := fun q hq e => by simp only [List.mem_cons, List.not_mem_nil, or_false] at e; omega
  refine ⟨fun hend => ?_, fun hlt => ?_⟩
  · have hjk : j = k := by omega
    subst hjk
    refine spec_X10_degree H hw ⟨fun hpos => ?_, fun hneg => ⟨by omega, ?_⟩⟩
    · have n4 := Rr_ft m4 f6 (nin 4 (by omega))
      have n0 := Rr_ft c0 f6 (nin 0 (by omega))
      have n2 := Rr_ft c2 f6 (nin 2 (by omega))
      have hdr := (rm_spec H (a ^ j) hf0).2
      refine spec_X10_multiplies H p6 n4 n2 (by omega) (by omega) (fun σ7 k7' m7 => ?_)
      refine spec_X10_divides H (by rw [k7'.p]; exact p6) m7 (Rr_ft n0 k7' (by decide)) (by decide) (by decide) (by decide) (by decide) hf0 (fun σ8 k8 m8 _ => ?_)
      have k8 : FT σ7 σ8 [4] := FT_w k8 (by decide)
      have f78 : FT σ6 σ8 [4] := k7'.tr k8
      have hw0 : w ≠ 0 := dd_ne0 H (by omega)
      have htop : co w (dd co w - 1) ≠ 0 := dd_top H (by omega)
      have R8 := RM_ft R6 f78 (fun i hi => ⟨by simp; omega, by simp; omega⟩)
      have hpc : piv co (fun i => if i = j then w else row i) j = piv co row j := piv_cg (fun i hi => if_neg (by omega))
      refine ⟨by omega, hr _ _ ⟨j + 1, fun i => if i = j then w else row i, fun i => if i = j then m else rel i, by omega, by omega, fr6.tr (FrR.ofT f78), fun i hi => ?_, ?_, ?_, Rr_ft n0 f78 (by decide), Rr_ft n2 f78 (by decide)⟩ (by omega)⟩
      · show Rr co σ8 (34 + 2 * (i : Int)) (if i = j then w else row i) ∧ Rr co σ8 (34 + 2 * (i : Int) + 1) (if i = j then m else rel i) ∧ (if i = j then w else row i) ≠ 0 ∧ Ev p co mk f a (if i = j then m else rel i) = (if i = j then w else row i) ∧ dd co (if i = j then m else rel i) ≤ i + 1 ∧ dd co (if i = j then w else row i) < dd co f ∧ ∀ l, l < i → co (if i = j then w else row i) (dd co (if l = j then w else row l) - 1) = 0
        by_cases q : i = j
        · subst q
          rw [if_pos rfl, if_pos rfl]
          exact ⟨Rr_ft hw f78 (by simp; omega), Rr_ft hm f78 (by simp; omega), hw0, d3, by omega, hwd, fun l hl => by rw [if_neg (by omega)]; exact hz l hl⟩
        · rw [if_neg q, if_neg q]
          obtain ⟨u1, u2, u3, u4, u5, u6, u7⟩ := R8 i (by omega)
          exact ⟨u1, u2, u3, u4, u5, u6, fun l hl => by rw [if_neg (by omega)]; exact u7 l hl⟩
      · show Ind p co mk f a (j + 1) ((dd co (if j = j then w else row j) - 1) :: piv co (fun i => if i = j then w else row i) j)
        rw [if_pos rfl, hpc]
        refine Ind_step H hf0 I2 d1 d2 d3 (fun i hi => ?_) htop
        obtain ⟨l, l1, l2⟩ := piv_mem hi
        rw [l2]
        exact hz l l1
      · have e : rm co (a ^ (j + 1)) f = rm co (rm co (a ^ j) f * a) f := by
          refine rm_eq H hf0 ?_
          rw [pw_s]
          exact cg_mul (rm_dv H _ hf0) (cg_rf f _)
        rw [e]
        exact m8
    · have hw0 : w = 0 := dd_eq0 H (by omega)
      subst hw0
      exact spec_X10_copies H hm (by omega) (fun σ7 k7' m7 => hQ σ7 j m (fr6.tr (FrR.ofT k7')) (Ind_end H I2 d1 d2 d3) m7)
  · have hjk : j < k := by omega
    obtain ⟨u1, u2, u3, u4, u5, u6, u7⟩ := R6 j hjk
    have hrd := dd_pos H u3
    refine ⟨by omega, by omega, ?_⟩
    rintro v rfl
    refine spec_X10_degree H u1 (spec_X10_of H hw (by omega) (spec_X10_of H u1 (by omega) ?_))
    rw [show ((dd co (row j) : Int) - 1).toNat = dd co (row j) - 1 by omega]
    have bw := pd_rng H w (dd co (row j) - 1)
    have br := pd_rng H (row j) (dd co (row j) - 1)
    have btop := dd_top H (a := row j) (by omega)
    generalize hwc : co w (dd co (row j) - 1) = cw at bw
    generalize hrc : co (row j) (dd co (row j) - 1) = cr at br btop
    refine spec_X10_inverse H.1 p6 (by omega) (fun z z0 zp zi => ?_)
    have bm := mul_bd (f := cw) (c := z) (F := 13) (by omega) (by omega) (by omega) (by omega)
    refine ⟨by omega, by omega, ?_⟩
    rintro v hv
    have hnn : 0 ≤ cw * z := Int.mul_nonneg bw.1 (by omega)
    rw [tmod_nn hnn] at hv
    have hv0 : 0 ≤ v ∧ v < p := by rw [hv]; exact ⟨Int.emod_nonneg _ (by omega), Int.emod_lt_of_pos _ (by omega)⟩
    rw [tmod_nn (show 0 ≤ (p : Int) - v by omega)]
    have hn : 0 ≤ ((p : Int) - v) % p ∧ ((p : Int) - v) % p < p := ⟨Int.emod_nonneg _ (by omega), Int.emod_lt_of_pos _ (by omega)⟩
    refine ⟨by omega, by omega, spec_X10_adds H p6 u1 hw (by omega) (by omega) (fun σ7 k7' m7 => ⟨by omega, by omega, by omega, by omega, ?_⟩)⟩
    refine spec_X10_adds H (by rw [k7'.p]; exact p6) (Rr_ft u2 k7' (by simp; omega)) (Rr_ft hm k7' (by simp; omega)) (by omega) (by omega) (fun σ8 k8 m8 => ⟨by omega, hr2 _ _ ⟨j + 1, _, _, by omega, by omega, f6.tr ((k7'.mono (by simp)).tr (k8.mono (by simp))), Rr_ft m7 k8 (by simp; omega), m8, ?_, ?_, ?_, fun i hi => ?_⟩ (by omega)⟩)
    · refine dd_of H (fun l hl => ?_) (Or.inr ?_)
      · rw [co_add H, co_mo_mul H, if_neg (by omega), Nat.sub_zero, dd_out H m (by omega), dd_out H (rel j) (by omega)]
        simp
      · rw [Nat.add_sub_cancel, co_add H, co_mo_mul H, if_neg (by omega), Nat.sub_zero, d2, dd_out H (rel j) (by omega), Int.mul_zero, Int.zero_emod, Int.add_zero, Int.emod_eq_of_lt (by decide) (by omega)]
        decide
    · rw [co_add H, co_mo_mul H, if_neg (by omega), Nat.sub_zero, d2, dd_out H (rel j) (by omega), Int.mul_zero, Int.zero_emod, Int.add_zero, Int.emod_eq_of_lt (by decide) (by omega)]
    · rw [Ev_add H hf0, Ev_smul H hf0, d3, u4]
    · rw [co_add H, co_mo_mul H, if_neg (by omega), Nat.sub_zero]
      by_cases q : i = j
      · subst q
        rw [hwc, hrc, Int.add_emod, Int.emod_emod, ← Int.add_emod]
        have e1 : (cw + ((p : Int) - v) % p * cr) % p = (cw + ((p : Int) - v) * cr) % p := by
          rw [Int.add_emod, Int.mul_emod, Int.emod_emod, ← Int.mul_emod, ← Int.add_emod]
        have e2 : (cw + ((p : Int) - v) * cr) % p = (cw - v * cr) % p := by
          rw [show cw + ((p : Int) - v) * cr = cw - v * cr + p * cr by grind, Int.add_mul_emod_self_left]
        have e3 : (cw - v * cr) % p = (cw * (1 - cr * z)) % p := by
          rw [hv, Int.sub_emod, Int.mul_emod (cw * z % p), Int.emod_emod, ← Int.mul_emod, ← Int.sub_emod]
          congr 1
          grind
        rw [e1, e2, e3, Int.mul_emod, Int.sub_emod, zi, Int.emod_eq_of_lt (show (0 : Int) ≤ 1 by decide) (by omega)]
        simp
      · rw [hz i (by omega), u7 i (by omega)]
        simp
theorem gop_least {R : Type} [Lean.Grind.CommRing R] {p : Nat} {co : R → Nat → Int} {mk : (Nat → Int) → R} (H : PD p co mk) {σ : SG} {f : R} {g : Nat → R} {L : List R} {a k : Int} {Q : Int → Int → SG → Prop} (hS : Scn co σ 1 p f g L) (hA : Awn co (σ 305) p f g L) (hV : Val p co mk f g L) (hQ : ∀ r σ2, FrR σ σ2 → Q r r σ2) : wp_X9_leastPolynomial σ a k (fun r σ1 => wp_X10_leastPolynomial σ1 a k (fun r2 σ2 => Q r r2 σ2)) := by
  unfold wp_X9_leastPolynomial wp_X9_coefficientTold
  have hd := hV.2.1
  have hf0 := Val_ne H hV
  have hno : ¬ (0 ≤ a ∧ a < 6) → wp_X10_leastPolynomial σ a k (fun r2 σ2 => Q (-1) r2 σ2) := fun h => by
    unfold wp_X10_leastPolynomial
    exact noReg_no h ⟨fun h => absurd h (by decide), fun _ => hQ _ _ (FrR.rf σ)⟩
  refine spec_X9_isRegister (fun a0 a6 => ⟨fun _ => ?_, fun h => absurd h (by decide)⟩) (fun h1 => ⟨fun h => absurd rfl h, fun _ => hno h1⟩)
  obtain ⟨a, rfl⟩ := Int.eq_ofNat_of_zero_le a0
  have ha : a < 6 := by omega
  have hda := hV.2.2.2.1 a ha
  have hsa := reg_st ha
  have hbad : ¬ 0 ≤ k → wp_X10_leastPolynomial σ a k (fun r2 σ2 => Q (-2) r2 σ2) := fun h => by
    unfold wp_X10_leastPolynomial
    exact noReg_ok ha ⟨fun _ => ⟨fun h2 => absurd h2 h, fun _ => hQ _ _ (FrR.rf σ)⟩, fun h => absurd rfl h⟩
  refine ⟨fun k0 => ⟨by omega, ?_⟩, fun k0 => hbad k0⟩
  obtain ⟨k, rfl⟩ := Int.eq_ofNat_of_zero_le k0
  rw [Int.toNat_natCast]
  have hnL : 1 + 3 + 1 + 2 * a ∉ LPS := fun e => by have := (by decide : ∀ t ∈ LPS, 33 ≤ t) _ e; omega
  refine spec_X6_findLeast H (Md_of H hS hV) (hS.2.2.1 a ha) hda hnL (fun σ1 n m h1 hL m1 => ?_)
  have f1 : FrR σ σ1 := FrR.ofL h1 (by decide)
  have A1 := Awn_R hA f1
  have hdm := hL.1
  have hmod : ∀ K : Int → SG → Prop, (∀ σ', FrR σ1 σ' → (¬ k < n + 1 → K (-5) σ') ∧ (k < n + 1 → K (co m k) σ')) → wp_X10_leastPolynomial σ1 a k K := by
    intro K hK
    unfold wp_X10_leastPolynomial
    refine noReg_ok ha ⟨fun _ => ⟨fun _ => ?_, fun h => absurd k0 h⟩, fun h => absurd rfl h⟩
    refine spec_X10_loadsModulus H A1 hV (fun σ2 k2 m2 => ?_)
    refine spec_X10_loadsNumber H (Awn_R A1 (FrR.ofT k2)) hV ha (by omega) (fun σ3 k3 m3 => ?_)
    refine spec_X10_findsLeast H (by rw [k3.p, k2.p]; exact A1.1) (Rr_ft m2 k3 (by decide)) m3 hd hda (fun σ4 n' m' f4 hL' m4 => ?_)
    obtain ⟨e1, e2⟩ := Lst_uniq H hf0 hL' hL
    subst e1
    subst e2
    have f14 : FrR σ1 σ4 := (FrR.ofT k2).tr ((FrR.ofT k3).tr f4)
    have hk4 := hK σ4 f14
    refine spec_X10_degree H m4 ⟨fun h => hk4.1 (by omega), fun h => spec_X10_of H m4 ?_ ?_⟩
    · have := m4.2.2
      omega
    · rw [Int.toNat_natCast]
      exact hk4.2 (by omega)
  refine ⟨fun _ => ?_, fun h => absurd k0 h⟩
  rw [m1.2.2.2]
  refine ⟨fun h => spec_X4_at H m1 (fun z hz => hmod _ (fun σ' f' => ⟨fun h2 => by omega, fun _ => ?_⟩)), fun h => hmod _ (fun σ' f' => ⟨fun _ => hQ _ _ (f1.tr f'), fun h2 => by omega⟩)⟩
  rw [if_neg (by omega), Int.toNat_natCast] at hz
  rw [hz]
  exact hQ _ _ (f1.tr f')
