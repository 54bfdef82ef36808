/-! least polynomials: the class -/
theorem rw_P {i : Nat} (h : i < 6) : KT.getD (65 + 2 + 4 * i) 99 = 4 ∧ KT.getD (66 + 3 + 4 * i) 99 = 4 := by
  rcases (show i = 0 ∨ i = 1 ∨ i = 2 ∨ i = 3 ∨ i = 4 ∨ i = 5 by omega) with e | e | e | e | e | e <;> subst e <;> exact ⟨by decide +kernel, by decide +kernel⟩
def RW {R : Type} [Lean.Grind.CommRing R] (p : Nat) (co : R → Nat → Int) (mk : (Nat → Int) → R) (f a : R) (σ : SG) (row rel : Nat → R) (k : Nat) : Prop := ∀ i, i < 6 → Rp co σ (65 + 2 + 4 * i) (row i) ∧ (row i = 0 ∨ (dd co (row i) = i + 1 ∧ Rp co σ (66 + 3 + 4 * i) (rel i) ∧ Ev p co mk f a (rel i) = row i ∧ dd co (rel i) ≤ k))
def LPS : List Nat := [302, 59, 61, 63, 34, 49, 67, 71, 75, 79, 83, 87, 69, 73, 77, 81, 85, 89]
theorem LPS_P : ∀ t ∈ LPS, KT.getD t 99 = 4 := by decide +kernel
theorem rw_LPS {i : Nat} (h : i < 6) : 65 + 2 + 4 * i ∈ LPS ∧ 66 + 3 + 4 * i ∈ LPS := by
  rcases (show i = 0 ∨ i = 1 ∨ i = 2 ∨ i = 3 ∨ i = 4 ∨ i = 5 by omega) with e | e | e | e | e | e <;> subst e <;> exact ⟨by decide, by decide⟩
theorem RW_frL {R : Type} [Lean.Grind.CommRing R] {p : Nat} {co : R → Nat → Int} {mk : (Nat → Int) → R} {f a : R} {σ σ' : SG} {row rel : Nat → R} {k : Nat} {T : List Nat} (h : RW p co mk f a σ row rel k) (hT : ∀ t ∈ T, KT.getD t 99 = 4) (hn : ∀ i, i < 6 → 65 + 2 + 4 * i ∉ T ∧ 66 + 3 + 4 * i ∉ T) (hf : FrL σ σ' T) : RW p co mk f a σ' row rel k := fun i hi => by
  obtain ⟨h1, h2⟩ := h i hi
  refine ⟨Rp_frL h1 hT (hn i hi).1 hf, ?_⟩
  rcases h2 with h2 | ⟨a1, a2, a3⟩
  · exact Or.inl h2
  · exact Or.inr ⟨a1, Rp_frL a2 hT (hn i hi).2 hf, a3⟩
theorem spec_X6_reduceByRows {R : Type} [Lean.Grind.CommRing R] {p : Nat} {co : R → Nat → Int} {mk : (Nat → Int) → R} (H : PD p co mk) {σ : SG} {f a w m : R} {row rel : Nat → R} {k : Nat} {Q : SG → Prop} (hσ : σ 1 0 = p) (hf : f ≠ 0) (hk : k ≤ 7) (hR : RW p co mk f a σ row rel k) (hw : Rp co σ 61 w) (hm : Rp co σ 63 m) (e1 : dd co m = k + 1) (e2 : co m k = 1) (e3 : Ev p co mk f a m = w) (hQ : ∀ σ' w m, FrL σ σ' [61, 63] → Rp co σ' 61 w → Rp co σ' 63 m → dd co m = k + 1 → co m k = 1 → Ev p co mk f a m = w → (∀ i, i < 6 → row i ≠ 0 → co w i = 0) → Q σ') : wp_X6_reduceByRows σ Q := by
  unfold wp_X6_reduceByRows
  have hp := pd_p H
  have PT : ∀ t ∈ [61, 63], KT.getD t 99 = 4 := by decide +kernel
  refine Lp1_m (fun x σ' => ∃ (n : Nat) (w m : R), x = (n : Int) - 1 ∧ n ≤ 6 ∧ FrL σ σ' [61, 63] ∧ Rp co σ' 61 w ∧ Rp co σ' 63 m ∧ dd co m = k + 1 ∧ co m k = 1 ∧ Ev p co mk f a m = w ∧ ∀ i, n ≤ i → i < 6 → row i ≠ 0 → co w i = 0) (fun x _ => (x + 1).toNat) ⟨6, w, m, rfl, by omega, FrL.rf _ _, hw, hm, e1, e2, e3, fun i a b => by omega⟩ ?_
  rintro x σ1 r ⟨n, w, m, rfl, hn, f1, hw, hm, e1, e2, e3, hz⟩ hr
  refine ⟨fun h => hQ σ1 w m f1 hw hm e1 e2 e3 (fun i hi => hz i (by omega) hi), fun h => ?_⟩
  obtain ⟨i, rfl⟩ : ∃ i, n = i + 1 := ⟨n - 1, by omega⟩
  rw [show ((i + 1 : Nat) : Int) - 1 = (i : Nat) by omega]
  have hi : i < 6 := by omega
  have hR1 : RW p co mk f a σ1 row rel k := RW_frL hR PT (fun j hj => ⟨fun e => by simp at e; omega, fun e => by simp at e; omega⟩) f1
  obtain ⟨r1, r2⟩ := hR1 i hi
  have p1 : σ1 1 0 = p := by rw [f1.p PT]; exact hσ
  rw [Int.toNat_natCast]
  refine ⟨by omega, spec_X4_at H r1 (fun z8 h8 => ?_)⟩
  rw [if_neg (by omega), Int.toNat_natCast] at h8
  have b8 := pd_rng H (row i) i
  rw [← h8] at b8
  refine spec_X2_inverseOf H.1 p1 b8 (fun z10 h10 => ?_)
  refine spec_X4_at H hw (fun z12 h12 => ?_)
  rw [if_neg (by omega), Int.toNat_natCast] at h12
  have b12 := pd_rng H w i
  rw [← h12] at b12
  have bm := mul_bd (f := -z12) (c := z10) (F := 12) (by omega) (by omega) (by omega) (by omega)
  refine ⟨by omega, by omega, ?_⟩
  rintro v rfl
  have hnz : row i ≠ 0 → z8 ≠ 0 := fun h0 => by
    rcases r2 with r2 | ⟨d1, -⟩
    · exact absurd r2 h0
    · have := dd_top H (a := row i) (by omega)
      rw [d1, Nat.add_sub_cancel, ← h8] at this
      exact this
  refine ⟨fun h0 => ?_, fun h0 => ?_⟩
  · refine ⟨by omega, hr _ _ ⟨i, w, m, by omega, by omega, f1, hw, hm, e1, e2, e3, fun j j1 j2 j3 => ?_⟩ (by omega)⟩
    by_cases q : j = i
    · subst q
      have h80 := hnz j3
      rcases h10 with ⟨h10, -⟩ | ⟨-, h11, -, -⟩
      · exact absurd h10 h80
      · rw [← h12]
        rcases Int.mul_eq_zero.mp h0 with e | e
        · omega
        · omega
    · exact hz j (by omega) j2 j3
  · have h10' : z8 ≠ 0 ∧ 0 < z10 ∧ (z10 : Int) < p ∧ z8 * z10 % p = 1 := by
      rcases h10 with ⟨-, h11⟩ | h11
      · exact absurd (by rw [h11]; simp) h0
      · exact ⟨h11.1, h11.2.1, by omega, h11.2.2.2⟩
    have hrow : row i ≠ 0 := fun e => h10'.1 (by rw [h8, e, co_zero H])
    rcases r2 with r2 | ⟨d1, d2, d3, d4⟩
    · exact absurd r2 hrow
    have hPi := rw_P hi
    generalize hv : -z12 * z10 = v at bm h0
    rw [p1]
    refine ⟨by omega, spec_X4_addMultiple H hw r1 (by omega) (by omega) (by omega) (fun e => by omega) (fun σ2 k2 m2 => ⟨by omega, ?_⟩)⟩
    have f12 : FrL σ1 σ2 [61, 63] := FrL.of k2 (by decide)
    rw [show σ2 1 0 = (p : Int) by rw [f12.p PT]; exact p1]
    have nm := Rp_fr1 hm (by decide +kernel) (by decide) k2
    have nr := Rp_fr1 d2 (by decide +kernel : KT.getD 61 99 = 4) (by omega) k2
    refine spec_X4_addMultiple H nm nr (by omega) (by omega) (by omega) (fun e => by omega) (fun σ3 k3 m3 => ⟨by omega, hr _ _ ⟨i, _, _, by omega, by omega, f1.tr (f12.tr (FrL.of k3 (by decide))), Rp_fr1 m2 (by decide +kernel) (by decide) k3, m3, ?_, ?_, ?_, fun j j1 j2 j3 => ?_⟩ (by omega)⟩)
    · refine dd_of H (fun j hj => ?_) (Or.inr ?_)
      · rw [co_add H, show (0 : Int).toNat = 0 from rfl, co_mo_mul H, if_neg (by omega), Nat.sub_zero, dd_out H m (by omega), dd_out H (rel i) (by omega)]
        simp
      · rw [Nat.add_sub_cancel, co_add H, show (0 : Int).toNat = 0 from rfl, co_mo_mul H, if_neg (by omega), Nat.sub_zero, e2, dd_out H (rel i) (by omega), Int.mul_zero]
        rw [Int.zero_emod, Int.add_zero, Int.emod_eq_of_lt (by decide) (by omega)]
        decide
    · rw [co_add H, show (0 : Int).toNat = 0 from rfl, co_mo_mul H, if_neg (by omega), Nat.sub_zero, e2, dd_out H (rel i) (by omega), Int.mul_zero]
      rw [Int.zero_emod, Int.add_zero, Int.emod_eq_of_lt (by decide) (by omega)]
    · rw [show (0 : Int).toNat = 0 from rfl, Ev_add H hf, Ev_smul H hf, e3, d3]
    · rw [co_add H, show (0 : Int).toNat = 0 from rfl, co_mo_mul H, if_neg (by omega), Nat.sub_zero]
      by_cases q : j = i
      · subst q
        rw [← h12, ← h8, ← hv, Int.add_emod, Int.emod_emod, ← Int.add_emod]
        have e5 : z12 + -z12 * z10 * z8 = z12 * (1 - z8 * z10) := by grind
        rw [e5, Int.mul_emod, Int.sub_emod, h10'.2.2.2]
        have e6 : (1 : Int) % p = 1 := Int.emod_eq_of_lt (by decide) (by omega)
        rw [e6]
        simp
      · rw [hz j (by omega) j2 j3, dd_out H (row i) (by omega)]
        simp
theorem spec_X6_findLeast {R : Type} [Lean.Grind.CommRing R] {p : Nat} {co : R → Nat → Int} {mk : (Nat → Int) → R} (H : PD p co mk) {σ : SG} {f a : R} {t : Nat} {Q : SG → Prop} (hM : Md p co σ f) (ha : Rp co σ t a) (hda : dd co a < dd co f) (ht : t ∉ LPS) (hQ : ∀ σ' k m, FrL σ σ' LPS → Lst p co mk f a k m → Rp co σ' 302 m → Q σ') : wp_X6_findLeastPolynomial σ 302 t Q := by
  unfold wp_X6_findLeastPolynomial
  have hp := pd_p H
  have hf0 := Md_ne H hM
  have hd7 := hM.2.2.2.2
  have hd2 := hM.2.2.2.1
  have h2L : 2 ∉ LPS := by decide
  refine Lp1_up 6 (fun n σ' => FrL σ σ' LPS ∧ ∀ i, i < n → Rp co σ' (65 + 2 + 4 * i) (0 : R)) ⟨FrL.rf _ _, fun i hi => by omega⟩ ?_ ?_
  · rintro n σ1 r hn ⟨g1, g2⟩ hr
    refine ⟨fun h => by omega, fun _ => ⟨by omega, ?_⟩⟩
    rw [Int.toNat_natCast]
    refine spec_X4_clear H (rw_P hn).1 (fun σ2 k2 m2 => ⟨by omega, hr _ ⟨g1.tr (FrL.of k2 (rw_LPS hn).1), fun i hi => ?_⟩⟩)
    by_cases q : i = n
    · subst q; exact m2
    · exact Rp_fr1 (g2 i (by omega)) (rw_P hn).1 (by omega) k2
  · rintro σ1 r ⟨g1, g2⟩
    refine ⟨fun _ => ?_, fun h => absurd (Int.le_refl _) h⟩
    refine spec_X4_becomeConstant H (by decide +kernel) (by omega) (fun σ2 k2 m2 => ?_)
    rw [mo_1 H] at m2
    have P59 : KT.getD 59 99 = 4 := by decide +kernel
    refine Lp1_m (fun x σ' => ∃ (k : Nat) (row rel : Nat → R) (P : List Nat), x = k ∧ k ≤ 7 ∧ FrL σ σ' LPS ∧ RW p co mk f a σ' row rel k ∧ Ind p co mk f a k P ∧ (∀ i ∈ P, i < 6 ∧ row i ≠ 0) ∧ Rp co σ' 59 (rm co (a ^ k) f)) (fun x _ => (9 - x).toNat) ⟨0, fun _ => 0, fun _ => 0, [], rfl, by omega, g1.tr (FrL.of k2 (by decide)), fun i hi => ⟨Rp_fr1 (g2 i hi) P59 (by omega) k2, Or.inl rfl⟩, Ind_0 H, fun i hi => (by cases hi), by rw [pw_0, rm_small H (by rw [dd_one H]; omega)]; exact m2⟩ ?_
    rintro x σ3 rr ⟨k, row, rel, P, rfl, k7, f3, R3, I3, hPr, m59⟩ hr
    have hkb := Ind_bd H I3
    have M3 := Md_frL H hM LPS_P h2L f3
    rw [M3.2.1.2.2.2]
    refine ⟨fun h => by omega, fun _ => ?_⟩
    refine spec_X4_copy H (by decide +kernel) m59 (fun σ4 k4 m4 => spec_X4_clear H (by decide +kernel) (fun σ5 k5 m5 => spec_X4_set H m5 (by omega) (by omega) (fun σ6 k6 m6 => ?_)))
    rw [Int.toNat_natCast, co_zero H, show (0 : R) + mo p mk (1 - 0) k = mo p mk 1 k by rw [Int.sub_zero]; grind] at m6
    have fA : FrL σ3 σ6 [61, 63] := (FrL.of k4 (by decide)).tr ((FrL.of k5 (by decide)).tr (FrL.of k6 (by decide)))
    have PA : ∀ t ∈ [61, 63], KT.getD t 99 = 4 := by decide +kernel
    have nA : ∀ i, i < 6 → 65 + 2 + 4 * i ∉ [61, 63] ∧ 66 + 3 + 4 * i ∉ [61, 63] := fun j hj => ⟨fun e => by simp at e; omega, fun e => by simp at e; omega⟩
    have R6 := RW_frL R3 PA nA fA
    have f6 : FrL σ σ6 LPS := f3.tr (fA.mono (by decide))
    have M6 := Md_frL H hM LPS_P h2L f6
    have m61 := Rp_fr1 (Rp_fr1 m4 (by decide +kernel) (by decide) k5) (by decide +kernel) (by decide) k6
    have n59 := Rp_frL m59 PA (by decide) fA
    refine spec_X6_reduceByRows H M6.1 hf0 k7 R6 m61 m6 (dd_of H (fun j hj => by rw [co_mo H, if_neg (by omega)]) (Or.inr (by rw [Nat.add_sub_cancel, co_mo H, if_pos rfl, Int.emod_eq_of_lt (by decide) (by omega)]; decide))) (by rw [co_mo H, if_pos rfl, Int.emod_eq_of_lt (by decide) (by omega)]) (Ev_mo H a (by omega)) (fun σ7 w m f7 mw mm d1 d2 d3 hz => ?_)
    have f7b : FrL σ σ7 LPS := f6.tr (f7.mono (by decide))
    have R7 := RW_frL R6 PA nA f7
    have o59 := Rp_frL n59 PA (by decide) f7
    have hwd : dd co w < dd co f := by rw [← d3]; exact (rm_spec H _ hf0).2
    rintro v rfl
    rw [mw.2.2.2]
    refine ⟨fun hneg => ?_, fun hpos => ⟨fun h6 => ?_, fun h6 => by omega⟩⟩
    · have hw0 : w = 0 := dd_eq0 H (by omega)
      subst hw0
      exact spec_X4_copy H kt302 mm (fun σ8 k8 m8 => hQ σ8 k m (f7b.tr (FrL.of k8 (by decide))) (Ind_end H I3 d1 d2 d3) m8)
    · obtain ⟨v, hv⟩ : ∃ v, dd co w = v + 1 := ⟨dd co w - 1, by omega⟩
      rw [hv, show ((v + 1 : Nat) : Int) - 1 = (v : Nat) by omega, Int.toNat_natCast]
      have hv6 : v < 6 := by omega
      have hPv := rw_P hv6
      have hLv := rw_LPS hv6
      have hcv : co w v ≠ 0 := by have := dd_top H (a := w) (by omega); rw [hv, Nat.add_sub_cancel] at this; exact this
      refine ⟨by omega, spec_X4_copy H hPv.1 mw (fun σ8 k8 m8 => ⟨by omega, spec_X4_copy H hPv.2 (Rp_fr1 mm hPv.1 (by omega) k8) (fun σ9 k9 m9 => ?_)⟩)⟩
      have m8' := Rp_fr1 m8 hPv.2 (by omega) k9
      have f9 : FrL σ σ9 LPS := f7b.tr ((FrL.of k8 hLv.1).tr (FrL.of k9 hLv.2))
      have M9 := Md_frL H hM LPS_P h2L f9
      have q59 := Rp_fr1 (Rp_fr1 o59 hPv.1 (by omega) k8) hPv.2 (by omega) k9
      have hda9 := (rm_spec H (a ^ k) hf0).2
      have ha9 := Rp_frL ha LPS_P ht f9
      refine spec_X6_multiply H M9 P59 q59 ha9 (by decide) (fun e => ht (by rw [e]; decide)) (by decide) (by decide) (by omega) (fun σA kA mA => ⟨by omega, hr _ _ ⟨k + 1, fun i => if i = v then w else row i, fun i => if i = v then m else rel i, v :: P, by omega, by omega, f9.tr (kA.mono (by decide)), fun i hi => ?_, Ind_step H hf0 I3 d1 d2 d3 (fun i hi => hz i (hPr i hi).1 (hPr i hi).2) hcv, fun i hi => ?_, ?_⟩ (by omega)⟩)
      · have PB : ∀ t ∈ [59, 34, 49], KT.getD t 99 = 4 := by decide +kernel
        have nB : ∀ i, i < 6 → 65 + 2 + 4 * i ∉ [59, 34, 49] ∧ 66 + 3 + 4 * i ∉ [59, 34, 49] := fun j hj => ⟨fun e => by simp at e; omega, fun e => by simp at e; omega⟩
        show Rp co σA (65 + 2 + 4 * i) (if i = v then w else row i) ∧ ((if i = v then w else row i) = 0 ∨ (dd co (if i = v then w else row i) = i + 1 ∧ Rp co σA (66 + 3 + 4 * i) (if i = v then m else rel i) ∧ Ev p co mk f a (if i = v then m else rel i) = (if i = v then w else row i) ∧ dd co (if i = v then m else rel i) ≤ k + 1))
        by_cases q : i = v
        · subst q
          rw [if_pos rfl, if_pos rfl]
          exact ⟨Rp_frL m8' PB (nB i hi).1 kA, Or.inr ⟨hv, Rp_frL m9 PB (nB i hi).2 kA, d3, by omega⟩⟩
        · rw [if_neg q, if_neg q]
          obtain ⟨u1, u2⟩ := R7 i hi
          refine ⟨Rp_frL (Rp_fr1 (Rp_fr1 u1 hPv.1 (by omega) k8) hPv.2 (by omega) k9) PB (nB i hi).1 kA, ?_⟩
          rcases u2 with u2 | ⟨u3, u4, u5, u6⟩
          · exact Or.inl u2
          · exact Or.inr ⟨u3, Rp_frL (Rp_fr1 (Rp_fr1 u4 hPv.1 (by omega) k8) hPv.2 (by omega) k9) PB (nB i hi).2 kA, u5, by omega⟩
      · show i < 6 ∧ (if i = v then w else row i) ≠ 0
        rcases List.mem_cons.mp hi with rfl | hi
        · rw [if_pos rfl]
          exact ⟨hv6, dd_ne0 H (by omega)⟩
        · obtain ⟨u1, u2⟩ := hPr i hi
          by_cases q : i = v
          · rw [if_pos q]
            exact ⟨u1, dd_ne0 H (by omega)⟩
          · rw [if_neg q]
            exact ⟨u1, u2⟩
      · have e : rm co (a ^ (k + 1)) f = rm co (rm co (a ^ k) f * a) f := by
          refine rm_eq H hf0 ?_
          rw [pw_s]
          exact cg_mul (rm_dv H _ hf0) (cg_rf f _)
        rw [e]
        exact mA
