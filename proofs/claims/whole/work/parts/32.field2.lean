theorem spec_X2_commonFactor {R : Type} [Lean.Grind.CommRing R] {p : Nat} {co : R → Nat → Int} {mk : (Nat → Int) → R} (H : PD p co mk) {σ : SG} {t u v : Nat} {a b : R} {Q : SG → Prop} (hσ : σ 1 0 = p) (ht : KT.getD t 99 = 4) (ha : Rp co σ u a) (hb : Rp co σ v b) (hv : v ≠ 40) (hQ : ∀ σ', FrL σ σ' [t, 36, 40, 42] → Rp co σ' t (gc co a b) → Q σ') : wp_X2_commonFactor σ t u v Q := by
  unfold wp_X2_commonFactor
  have hp := pd_p H
  have hP : ∀ s ∈ [t, 36, 40, 42], KT.getD s 99 = 4 := cons_P ht (by decide +kernel)
  refine spec_X4_copy H kt40 ha (fun σ1 h1 h2 => spec_X4_copy H kt42 (Rp_fr1 hb kt40 hv h1) (fun σ2 h3 h4 => ?_))
  have h5 := Rp_fr1 h2 kt42 (by decide) h3
  have hf2 : FrL σ σ2 [t, 36, 40, 42] := (FrL.of h1 (by simp)).tr (FrL.of h3 (by simp))
  refine ⟨fun x σ' => (x = 40 ∨ x = 42) ∧ FrL σ σ' [t, 36, 40, 42] ∧ ∃ A : R, Rp co σ' x A ∧ gc co a b = gc co A 0, ?_, ?_⟩
  · rintro x σ3 ⟨hx, g1, A, g2, g3⟩
    have hp3 : σ3 1 0 = p := by rw [g1.p hP]; exact hσ
    refine spec_X4_copy H ht g2 (fun σ4 k1 k2 => spec_X4_at H k2 (fun z hz => ?_))
    have hp4 : σ4 1 0 = p := by rw [k1.p ht]; exact hp3
    rw [k2.2.2.2] at hz
    by_cases hA : A = 0
    · rw [hA, dd_zero H, if_pos (by omega)] at hz
      refine spec_X2_inverseOf H.1 hp4 (by omega) (fun e he => ?_)
      have he0 : e = 0 := by rcases he with he | he; exact he.2; exact absurd hz he.1
      refine spec_X2_scale H hp4 k2 (by omega) (fun σ5 l1 l2 => hQ σ5 ((g1.tr (FrL.of k1 (by simp))).tr (FrL.of l1 (by simp))) ?_)
      rw [hA, rg_mulz] at l2
      rw [g3, hA, (gc_zero H).2 rfl]
      exact l2
    · have hd := dd_pos H hA
      rw [if_neg (by omega), show ((dd co A : Int) - 1).toNat = dd co A - 1 by omega] at hz
      have hr := pd_rng H A (dd co A - 1)
      refine spec_X2_inverseOf H.1 hp4 (by omega) (fun e he => ?_)
      rcases he with ⟨he, -⟩ | ⟨-, e1, e2, e3⟩
      · exact absurd (hz.symm.trans he) (dd_top H hd)
      · refine spec_X2_scale H hp4 k2 (by omega) (fun σ5 l1 l2 => hQ σ5 ((g1.tr (FrL.of k1 (by simp))).tr (FrL.of l1 (by simp))) ?_)
        rw [hz] at e3
        have hm : mon co (mo p mk e 0 * A) := by
          have h3 : dd co (mo p mk e 0 * A) = dd co A := by
            refine dd_of H (fun k hk => ?_) (Or.inr ?_)
            · rw [co_mo_mul H, if_neg (by omega), dd_out H A (by omega), Int.mul_zero]; rfl
            · rw [co_mo_mul H, if_neg (by omega), Nat.sub_zero, Int.mul_comm, e3]; decide
          refine ⟨by omega, ?_⟩
          rw [h3, co_mo_mul H, if_neg (by omega), Nat.sub_zero, Int.mul_comm, e3]
        rw [g3, (gc_zero H).1 hA e hm e3]
        exact l2
  · refine Lp3_m (fun x w y σ' => 0 ≤ x ∧ (w = 42 ∧ y = 40 ∨ w = 40 ∧ y = 42) ∧ FrL σ σ' [t, 36, 40, 42] ∧ ∃ A B : R, Rp co σ' y A ∧ Rp co σ' w B ∧ gc co a b = gc co A B ∧ (dd co B : Int) + x ≤ 13) (fun x _ _ _ => (14 - x).toNat) ⟨by omega, Or.inl ⟨rfl, rfl⟩, hf2, a, b, h5, h4, rfl, by have := h4.2.2.1; omega⟩ ?_
    rintro x w y σ3 r ⟨g0, gw, g1, A, B, g2, g3, g4, g5⟩ hr
    have hp3 : σ3 1 0 = p := by rw [g1.p hP]; exact hσ
    refine ⟨fun h => by omega, fun h => ⟨fun h6 => ?_, fun h6 => ?_⟩⟩
    · rw [g3.2.2.2] at h6
      have hB := dd_eq0 H (a := B) (by omega)
      rw [hB] at g4
      exact ⟨by omega, g1, A, g2, g4⟩
    · rw [g3.2.2.2] at h6
      have hB : B ≠ 0 := dd_ne0 H (by omega)
      have hdis : y ≠ w ∧ w ≠ 36 ∧ y ≠ 36 ∧ w ∈ [t, 36, 40, 42] ∧ y ∈ [t, 36, 40, 42] := by rcases gw with ⟨rfl, rfl⟩ | ⟨rfl, rfl⟩ <;> simp
      refine spec_X2_divide H hp3 g2 g3 kt36 hdis.1 hdis.2.1 hdis.2.2.1 hB (fun σ4 k1 k2 k3 => ⟨by omega, hr _ _ _ _ ⟨by omega, by omega, ?_, B, rm co A B, ?_, k2, ?_, ?_⟩ (by omega)⟩)
      · refine g1.tr (k1.mono (fun s hs => ?_))
        rcases List.mem_cons.mp hs with rfl | hs
        · exact hdis.2.2.2.2
        · rcases List.mem_cons.mp hs with rfl | hs
          · simp
          · cases hs
      · refine Rp_frL g3 (cons_P g2.1 (cons_P kt36 (fun _ h => by cases h))) (nin_cons (Ne.symm hdis.1) (nin_cons hdis.2.1 (fun h => by cases h))) k1
      · rw [g4]
        exact gc_step H (rm_spec H A hB).1
      · have := (rm_spec H A hB).2
        omega
theorem dd_smul_le {R : Type} [Lean.Grind.CommRing R] {p : Nat} {co : R → Nat → Int} {mk : (Nat → Int) → R} (H : PD p co mk) (c : Int) (a : R) : dd co (mo p mk c 0 * a) ≤ dd co a := dd_le H (fun k hk => by
  rw [co_mo_mul H, if_neg (by omega), Nat.sub_zero, dd_out H a hk, Int.mul_zero]; rfl)
theorem dd_mul_le {R : Type} [Lean.Grind.CommRing R] {p : Nat} {co : R → Nat → Int} {mk : (Nat → Int) → R} (H : PD p co mk) {a b : R} {n : Nat} (h : dd co a + dd co b ≤ n + 1) (hn : a = 0 ∨ b = 0 ∨ dd co a + dd co b ≤ n + 1) : dd co (a * b) ≤ n := by
  by_cases ha : a = 0
  · rw [ha, rg_zmul, dd_zero H]; omega
  · by_cases hb : b = 0
    · rw [hb, rg_mulz, dd_zero H]; omega
    · have := dd_mul H ha hb
      omega
theorem dd_sub_l {R : Type} [Lean.Grind.CommRing R] {p : Nat} {co : R → Nat → Int} {mk : (Nat → Int) → R} (H : PD p co mk) {a b : R} (h : dd co b < dd co a) : dd co (a - b) = dd co a := by
  refine dd_of H (fun k hk => by rw [co_sub H, dd_out H a hk, dd_out H b (by omega)]; rfl) (Or.inr ?_)
  rw [co_sub H, dd_out H b (by omega), Int.sub_zero, co_self H]
  exact dd_top H (by omega)
theorem dd_sub_r {R : Type} [Lean.Grind.CommRing R] {p : Nat} {co : R → Nat → Int} {mk : (Nat → Int) → R} (H : PD p co mk) {a b : R} (h : dd co a < dd co b) : dd co (a - b) = dd co b := by
  refine dd_of H (fun k hk => by rw [co_sub H, dd_out H b hk, dd_out H a (by omega)]; rfl) (Or.inr ?_)
  rw [co_sub H, dd_out H a (by omega), Int.zero_sub]
  intro e
  have h1 := dd_top H (a := b) (by omega)
  have h2 := pd_rng H b (dd co b - 1)
  have h3 := neg_emod2 (-(co b (dd co b - 1))) p
  rw [e, Int.neg_neg, co_self H] at h3
  simp at h3
  exact h1 h3.symm
theorem Lp5_m {A A2 A3 A4 A5 : Type} {K : (A → A2 → A3 → A4 → A5 → SG → Prop) → A → A2 → A3 → A4 → A5 → SG → Prop} {a : A} {a2 : A2} {a3 : A3} {a4 : A4} {a5 : A5} {σ : SG} (I : A → A2 → A3 → A4 → A5 → SG → Prop) (μ : A → A2 → A3 → A4 → A5 → SG → Nat) (h0 : I a a2 a3 a4 a5 σ) (hs : ∀ (a : A) (a2 : A2) (a3 : A3) (a4 : A4) (a5 : A5) (σ : SG) (r : A → A2 → A3 → A4 → A5 → SG → Prop), I a a2 a3 a4 a5 σ → (∀ a' a2' a3' a4' a5' σ', I a' a2' a3' a4' a5' σ' → μ a' a2' a3' a4' a5' σ' < μ a a2 a3 a4 a5 σ → r a' a2' a3' a4' a5' σ') → K r a a2 a3 a4 a5 σ) : Lp5 K a a2 a3 a4 a5 σ :=
  ⟨fun n a a2 a3 a4 a5 σ => n = μ a a2 a3 a4 a5 σ ∧ I a a2 a3 a4 a5 σ, ⟨_, rfl, h0⟩, fun n a a2 a3 a4 a5 σ h => by
    obtain ⟨rfl, h⟩ := h
    exact hs a a2 a3 a4 a5 σ _ h (fun a' a2' a3' a4' a5' σ' h1 h2 => ⟨_, h2, rfl, h1⟩)⟩
theorem inv_st1 {R : Type} [Lean.Grind.CommRing R] {U L r q LF UF a m : R} (h : U = q * L + r) (c2 : Dv m (U - UF * a)) (c3 : Dv m (L - LF * a)) : Dv m (r - (UF - q * LF) * a) := by
  obtain ⟨s1, hs1⟩ := c2
  obtain ⟨s2, hs2⟩ := c3
  exact ⟨s1 - q * s2, by grind⟩
theorem inv_st2 {R : Type} [Lean.Grind.CommRing R] {U L r q : R} (h : U = q * L + r) (c : Cp U L) : Cp L r := by
  obtain ⟨s1, s2, hs⟩ := c
  exact ⟨s1 * q + s2, s1, by grind⟩
theorem inv_st3 {R : Type} [Lean.Grind.CommRing R] {U F a m e : R} (h : e * U = 1) (c : Dv m (U - F * a)) : Dv m (a * (e * F) - 1) := by
  obtain ⟨s, hs⟩ := c
  exact ⟨-(e * s), by grind⟩
theorem inv_st4 {R : Type} [Lean.Grind.CommRing R] {U L q r : R} (h : U = q * L + r) : q * L = U - r := by grind
theorem inv_st5 {R : Type} [Lean.Grind.CommRing R] {a b c : R} : a + -(1 : R) * (b * c) = a - b * c := by grind
theorem inv_st6 {R : Type} [Lean.Grind.CommRing R] {s1 s2 U : R} (h : s1 * U + s2 * 0 = 1) : s1 * U = 1 := by grind
theorem inv_st7 {R : Type} [Lean.Grind.CommRing R] {s2 U : R} (h : 0 * U + s2 * 0 = 1) : (1 : R) = 0 := by grind
theorem spec_X2_invert {R : Type} [Lean.Grind.CommRing R] {p : Nat} {co : R → Nat → Int} {mk : (Nat → Int) → R} (H : PD p co mk) {σ : SG} {t u v : Nat} {a m : R} {Q : SG → Prop} (hσ : σ 1 0 = p) (ht : KT.getD t 99 = 4) (ha : Rp co σ u a) (hm : Rp co σ v m) (hu : u ≠ 40) (ht4 : t ≠ 40 ∧ t ≠ 42) (hm0 : m ≠ 0) (hda : dd co a < dd co m) (hdm : dd co m ≤ 12) (hc : Cp m a) (hQ : ∀ σ', FrL σ σ' [t, 34, 36, 40, 42, 44, 46] → Rp co σ' t (ivm co a m) → Q σ') : wp_X2_invert σ t u v Q := by
  unfold wp_X2_invert
  have hp := pd_p H
  have hP : ∀ s ∈ [t, 34, 36, 40, 42, 44, 46], KT.getD s 99 = 4 := cons_P ht (by decide +kernel)
  refine spec_X4_copy H kt40 hm (fun σ1 h1 h2 => spec_X4_copy H kt42 (Rp_fr1 ha kt40 hu h1) (fun σ2 h3 h4 => spec_X4_clear H kt44 (fun σ3 h5 h6 => spec_X4_becomeConstant H kt46 (v := 1) (by omega) (fun σ4 h7 h8 => ?_))))
  rw [mo_1 H] at h8
  have e40 := Rp_fr1 (Rp_fr1 (Rp_fr1 h2 kt42 (by decide) h3) kt44 (by decide) h5) kt46 (by decide) h7
  have e42 := Rp_fr1 (Rp_fr1 h4 kt44 (by decide) h5) kt46 (by decide) h7
  have e44 := Rp_fr1 h6 kt46 (by decide) h7
  have hf4 : FrL σ σ4 [t, 34, 36, 40, 42, 44, 46] := (((FrL.of h1 (by simp)).tr (FrL.of h3 (by simp))).tr (FrL.of h5 (by simp))).tr (FrL.of h7 (by simp))
  refine ⟨fun x y σ' => (y = 40 ∨ y = 42) ∧ FrL σ σ' [t, 34, 36, 40, 42, 44, 46] ∧ ∃ U F : R, Rp co σ' y U ∧ Rp co σ' x F ∧ dd co U = 1 ∧ dd co F < dd co m ∧ Dv m (U - F * a) ∧ (x = 44 ∨ x = 46), ?_, ?_⟩
  · rintro x y σ5 ⟨hy, g1, U, F, g2, g3, g4, g5, g6, hx⟩
    have hp5 : σ5 1 0 = p := by rw [g1.p hP]; exact hσ
    have hr := pd_rng H U 0
    have hU0 : co U 0 ≠ 0 := by
      have h := dd_top H (a := U) (by omega)
      rw [g4] at h
      exact h
    refine spec_X4_copy H ht g3 (fun σ6 k1 k2 => ?_)
    have g2' := Rp_fr1 g2 ht (by omega) k1
    have hp6 : σ6 1 0 = p := by rw [k1.p ht]; exact hp5
    refine spec_X4_at H g2' (fun z hz => ?_)
    have hz' : z = co U 0 := hz
    refine spec_X2_inverseOf H.1 hp6 (by rw [hz']; exact hr) (fun e he => ?_)
    rcases he with ⟨he, -⟩ | ⟨-, e1, e2, e3⟩
    · exact absurd (hz'.symm.trans he) hU0
    · refine spec_X2_scale H hp6 k2 (by omega) (fun σ7 l1 l2 => hQ σ7 ((g1.tr (FrL.of k1 (by simp))).tr (FrL.of l1 (by simp))) ?_)
      rw [hz'] at e3
      have hEU : mo p mk e 0 * U = 1 := by
        have hc0 : co (mo p mk e 0 * U) 0 = 1 := by
          rw [co_mo_mul H, if_neg (by omega), Nat.sub_zero, Int.mul_comm, e3]
        refine dd1_one H (Nat.le_antisymm ?_ (dd_ge H (by rw [hc0]; decide))) hc0
        have := dd_smul_le H e U
        omega
      rw [ivm_of H (r := mo p mk e 0 * F) (Nat.lt_of_le_of_lt (dd_smul_le H e F) g5) (inv_st3 hEU g6)]
      exact l2
  · refine Lp5_m (fun x f g w y σ' => 0 ≤ x ∧ (f = 46 ∧ g = 44 ∨ f = 44 ∧ g = 46) ∧ (w = 42 ∧ y = 40 ∨ w = 40 ∧ y = 42) ∧ FrL σ σ' [t, 34, 36, 40, 42, 44, 46] ∧ ∃ U L UF LF : R, Rp co σ' y U ∧ Rp co σ' w L ∧ Rp co σ' g UF ∧ Rp co σ' f LF ∧ Cp U L ∧ Dv m (U - UF * a) ∧ Dv m (L - LF * a) ∧ dd co L < dd co U ∧ dd co UF < dd co LF ∧ dd co LF + dd co U ≤ dd co m + 1 ∧ (dd co L : Int) + x ≤ 12) (fun x _ _ _ _ _ => (14 - x).toNat) ⟨by omega, Or.inl ⟨rfl, rfl⟩, Or.inl ⟨rfl, rfl⟩, hf4, m, a, 0, 1, e40, e42, e44, h8, hc, ⟨1, by grind⟩, ⟨0, by grind⟩, hda, by rw [dd_zero H, dd_one H]; omega, by rw [dd_one H]; omega, by omega⟩ ?_
    rintro x f g w y σ5 r ⟨g0, gf, gw, g1, U, L, UF, LF, u1, u2, u3, u4, c1, c2, c3, d1, d2, d3, d4⟩ hr
    have hp5 : σ5 1 0 = p := by rw [g1.p hP]; exact hσ
    refine ⟨fun h => by omega, fun h => ⟨fun h6 => ?_, fun h6 => ?_⟩⟩
    · rw [u2.2.2.2] at h6
      have hL := dd_eq0 H (a := L) (by omega)
      obtain ⟨s1, s2, hs⟩ := c1
      have hU0 : U ≠ 0 := dd_ne0 H (by omega)
      rw [hL] at hs
      have hs1 : s1 ≠ 0 := fun e => one_ne H (by rw [e] at hs; exact inv_st7 hs)
      have h7 : s1 * U = 1 := inv_st6 hs
      have h8 := dd_mul H hs1 hU0
      have h9 := dd_pos H hs1
      rw [h7, dd_one H] at h8
      exact ⟨by omega, g1, U, UF, u1, u3, by omega, by omega, c2, by omega⟩
    · rw [u2.2.2.2] at h6
      have hL : L ≠ 0 := dd_ne0 H (by omega)
      have hLF : LF ≠ 0 := dd_ne0 H (by omega)
      have hdis : y ≠ w ∧ w ≠ 36 ∧ y ≠ 36 ∧ f ≠ 36 ∧ g ≠ 36 ∧ f ≠ 34 ∧ g ≠ 34 ∧ w ≠ 34 ∧ y ≠ 34 ∧ f ≠ g ∧ f ≠ y ∧ f ≠ w ∧ g ≠ y ∧ g ≠ w ∧ w ∈ [t, 34, 36, 40, 42, 44, 46] ∧ y ∈ [t, 34, 36, 40, 42, 44, 46] ∧ g ∈ [t, 34, 36, 40, 42, 44, 46] := by
        rcases gf with ⟨rfl, rfl⟩ | ⟨rfl, rfl⟩ <;> rcases gw with ⟨rfl, rfl⟩ | ⟨rfl, rfl⟩ <;> simp
      obtain ⟨n1, n2, n3, n4, n5, n6, n7, n8, n9, n10, n11, n12, n13, n14, n15, n16, n17⟩ := hdis
      have hsp := rm_spec H U hL
      have hP1 : ∀ s ∈ [y, 36], KT.getD s 99 = 4 := cons_P u1.1 (cons_P kt36 (fun _ h => by cases h))
      have hP2 : ∀ s ∈ [36, 34], KT.getD s 99 = 4 := by decide +kernel
      have hqL : qu co U L * L = U - rm co U L := inv_st4 hsp.1
      have hdq1 : dd co (qu co U L * L) = dd co U := by rw [hqL]; exact dd_sub_l H (by omega)
      have hq0 : qu co U L ≠ 0 := by
        intro e
        rw [e, rg_zmul, dd_zero H] at hdq1
        omega
      have hdq2 := dd_mul H hq0 hL
      have hdq3 := dd_mul H hq0 hLF
      refine spec_X2_divide H hp5 u1 u2 kt36 n1 n2 n3 hL (fun σ6 k1 k2 k3 => ?_)
      have f1 := g1.tr (k1.mono (L' := [t, 34, 36, 40, 42, 44, 46]) (fun s hs => by
        rcases List.mem_cons.mp hs with rfl | hs
        · exact n16
        · rcases List.mem_cons.mp hs with rfl | hs
          · simp
          · cases hs))
      have hp6 : σ6 1 0 = p := by rw [f1.p hP]; exact hσ
      have v2 := Rp_frL u2 hP1 (nin_cons (Ne.symm n1) (nin_cons n2 (fun h => by cases h))) k1
      have v3 := Rp_frL u3 hP1 (nin_cons n13 (nin_cons n5 (fun h => by cases h))) k1
      have v4 := Rp_frL u4 hP1 (nin_cons n11 (nin_cons n4 (fun h => by cases h))) k1
      refine spec_X2_multiply H hp6 kt36 k3 v4 (by decide) n6 (by omega) (fun σ7 l1 l2 => ?_)
      have f2 := f1.tr (l1.mono (L' := [t, 34, 36, 40, 42, 44, 46]) (by simp))
      have hp7 : σ7 1 0 = p := by rw [f2.p hP]; exact hσ
      have x1 := Rp_frL k2 hP2 (nin_cons n3 (nin_cons n9 (fun h => by cases h))) l1
      have x2 := Rp_frL v2 hP2 (nin_cons n2 (nin_cons n8 (fun h => by cases h))) l1
      have x3 := Rp_frL v3 hP2 (nin_cons n5 (nin_cons n7 (fun h => by cases h))) l1
      have x4 := Rp_frL v4 hP2 (nin_cons n4 (nin_cons n6 (fun h => by cases h))) l1
      rw [hp7]
      refine spec_X4_addMultiple H x3 l2 (by omega) (by omega) (by omega) (fun _ => rfl) (fun σ8 o1 o2 => ⟨by omega, ?_⟩)
      have e1 : UF + mo p mk (-1) (0 : Int).toNat * (qu co U L * LF) = UF - qu co U L * LF := by
        show UF + mo p mk (-1) 0 * (qu co U L * LF) = _
        rw [mo_neg H, mo_1 H]
        exact inv_st5
      rw [e1] at o2
      have hdl : dd co (UF - qu co U L * LF) = dd co (qu co U L * LF) := dd_sub_r H (by omega)
      refine hr _ _ _ _ _ _ ⟨by omega, by omega, by omega, f2.tr (FrL.of o1 n17), L, rm co U L, LF, UF - qu co U L * LF, Rp_fr1 x2 x3.1 (Ne.symm n14) o1, Rp_fr1 x1 x3.1 (Ne.symm n13) o1, Rp_fr1 x4 x3.1 n10 o1, o2, inv_st2 hsp.1 c1, c3, inv_st1 hsp.1 c2 c3, hsp.2, by omega, by omega, by omega⟩ (by omega)
theorem spec_X2_hasSquare {R : Type} [Lean.Grind.CommRing R] {p : Nat} {co : R → Nat → Int} {mk : (Nat → Int) → R} (H : PD p co mk) {σ : SG} {t : Nat} {a : R} {Q : Int → SG → Prop} (hσ : σ 1 0 = p) (ha : Rp co σ t a) (ht : t ∉ [36, 38, 40, 42]) (ha0 : a ≠ 0) (hQ : ∀ z σ', FrL σ σ' [36, 38, 40, 42] → (z = 0 ∧ SF p co mk a ∨ z = 1 ∧ ¬ SF p co mk a) → Q z σ') : wp_X2_hasSquare σ t Q := by
  unfold wp_X2_hasSquare
  have hp := pd_p H
  have hP : ∀ s ∈ [36, 38, 40, 42], KT.getD s 99 = 4 := by decide +kernel
  have hda := dd_pos H ha0
  refine spec_X4_clear H kt42 (fun σ1 h1 h2 => ?_)
  have hdd : dd co (der p co mk a) ≤ dd co a - 1 := dd_le H (fun k hk => by rw [co_der H, dd_out H a (by omega), Int.mul_zero]; rfl)
  have ha13 := ha.2.2.1
  refine Lp1_up_from 1 (dd co a) (by omega) (fun k σ' => Fr1 σ σ' 42 ∧ Rp co σ' 42 (tr co mk (k - 1) (der p co mk a))) ⟨h1, by rw [tr_0 H]; exact h2⟩ ?_ ?_
  · rintro k σ2 r hk1 hk ⟨g1, g2⟩ hr
    have ha2 := Rp_fr1 ha kt42 (fun e => ht (by rw [e]; simp)) g1
    have hp2 : σ2 1 0 = p := by rw [g1.p kt42]; exact hσ
    rw [ha2.2.2.2]
    refine ⟨fun h => by omega, fun _ => ⟨by omega, spec_X4_at H ha2 (fun z hz => ?_)⟩⟩
    rw [if_neg (by omega), Int.toNat_natCast] at hz
    have hr2 := pd_rng H a k
    have bd := mul_bd (f := (k : Int)) (c := z) (F := 13) (by omega) (by omega) (by omega) (by omega)
    refine ⟨by omega, spec_X7_reduced hp hp2 (by omega) ?_⟩
    refine spec_X4_set H g2 (by omega) ⟨Int.emod_nonneg _ (by omega), Int.emod_lt_of_pos _ (by omega)⟩ (fun σ3 k1 k2 => ⟨by omega, hr _ ⟨g1.tr k1, ?_⟩⟩)
    have e1 : ((k : Int) - 1).toNat = k - 1 := by omega
    rw [e1, co_tr H, if_neg (by omega), Int.sub_zero] at k2
    rw [show k + 1 - 1 = (k - 1) + 1 by omega, tr_s H]
    rw [mo_mod H (c := (k : Int) * z % p) (e := co (der p co mk a) (k - 1)) (k - 1) (by rw [co_der H, hz, show k - 1 + 1 = k by omega, show (((k - 1 : Nat) : Int) + 1) = (k : Int) by omega])] at k2
    exact k2
  · rintro σ2 r ⟨g1, g2⟩
    have ha2 := Rp_fr1 ha kt42 (fun e => ht (by rw [e]; simp)) g1
    have hp2 : σ2 1 0 = p := by rw [g1.p kt42]; exact hσ
    rw [tr_all H _ hdd] at g2
    rw [ha2.2.2.2]
    refine ⟨fun _ => spec_X2_commonFactor H hp2 kt38 ha2 g2 (by decide) (fun σ3 k1 k2 => ?_), fun h => by omega⟩
    have hf : FrL σ σ3 [36, 38, 40, 42] := (FrL.of g1 (by simp)).tr (k1.mono (by simp))
    have h5 := gc_dd1 H (a := a) (b := der p co mk a) (Or.inl ha0)
    have h6 := (gc_mon H (a := a) (b := der p co mk a) (Or.inl ha0)).1
    rw [k2.2.2.2]
    exact ⟨fun h => hQ _ _ hf (Or.inl ⟨rfl, h5.mp (by omega)⟩), fun h => hQ _ _ hf (Or.inr ⟨rfl, fun e => h (by have := h5.mpr e; omega)⟩)⟩
