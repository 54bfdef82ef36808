theorem cp_rm0 {R : Type} [Lean.Grind.CommRing R] {p : Nat} {co : R → Nat → Int} {mk : (Nat → Int) → R} (H : PD p co mk) {U L : R} (hL : 2 ≤ dd co L) (hc : Cp U L) : rm co U L ≠ 0 := by
  intro e
  have hL0 : L ≠ 0 := dd_ne0 H (by omega)
  have h1 := (rm0_iff H hL0).mp e
  obtain ⟨u, v, h⟩ := hc
  have h2 : Dv L 1 := by rw [← h]; exact Dv_add (Dv_mull _ h1) (Dv_mull _ (Dv_rf L))
  have h3 := Dv_dd H (one_ne H) h2
  rw [dd_one H] at h3
  omega
theorem mo_pm1 {R : Type} [Lean.Grind.CommRing R] {p : Nat} {co : R → Nat → Int} {mk : (Nat → Int) → R} (H : PD p co mk) {a b : R} : a + mo p mk ((p : Int) - 1) 0 * b = a - b := by
  have e : (mo p mk ((p : Int) - 1) 0 : R) = -1 := by
    rw [mo_mod H (c := (p : Int) - 1) (e := -1) 0 (by rw [show (p : Int) - 1 = -1 + p by omega]; exact Int.add_emod_right _ _), mo_neg H, mo_1 H]
  rw [e]
  grind
theorem inv_st8 {R : Type} [Lean.Grind.CommRing R] {a m E F U : R} (h : U * E = 1) (c : Dv m (U - F * a)) : Dv m (a * (F * E) - 1) := by
  obtain ⟨s, hs⟩ := c
  exact ⟨-(s * E), by grind⟩
theorem inv_st9 {R : Type} [Lean.Grind.CommRing R] {a m r w : R} (h1 : Dv m (w - r)) (h2 : Dv m (a * w - 1)) : Dv m (a * r - 1) := by
  obtain ⟨x, h1⟩ := h1
  obtain ⟨y, h2⟩ := h2
  exact ⟨y - a * x, by grind⟩
theorem FT_w {σ σ' : SG} {u : Int} {L : List Int} (h : FT σ σ' [u, -1]) (hu : u ∈ L) : FT σ σ' L :=
  ⟨h.1, fun j hj => h.2 j (fun r hr => by
    rcases List.mem_cons.mp hr with rfl | hr
    · exact hj r hu
    · rcases List.mem_cons.mp hr with rfl | hr
      · omega
      · cases hr)⟩
theorem spec_X10_inverts {R : Type} [Lean.Grind.CommRing R] {p : Nat} {co : R → Nat → Int} {mk : (Nat → Int) → R} (H : PD p co mk) {σ : SG} {u v t : Int} {a m : R} {Q : SG → Prop} (hσ : σ 305 0 = p) (ha : Rr co σ u a) (hm : Rr co σ v m) (ht : 0 ≤ t ∧ t < 60) (hu : u ≠ 6) (hv : v ∉ [6, 7, 8, 9, 10, 11]) (htv : t ≠ v) (hdm : 2 ≤ dd co m ∧ dd co m ≤ 7) (hc : Cp m a) (hQ : ∀ σ', FT σ σ' [t, 6, 7, 8, 9, 10, 11] → Rr co σ' t (ivm co a m) → Q σ') : wp_X10_inverts σ u v t Q := by
  unfold wp_X10_inverts
  have hp := pd_p H
  have hm0 : m ≠ 0 := dd_ne0 H (by omega)
  have hvn : v ∉ [t, 6, 7, 8, 9, 10, 11] := fun h => by
    rcases List.mem_cons.mp h with h | h
    · exact htv h.symm
    · exact hv h
  have hv0 := hm.1
  have hv7 : v ≠ 7 := fun e => hv (by rw [e]; simp)
  refine spec_X10_copies H hm (by omega) (fun σ1 h1 r6 => spec_X10_copies H (Rr_ft ha h1 (by simp [hu])) (by omega) (fun σ2 h2 r7 => ?_))
  have f2 : FT σ σ2 [t, 6, 7, 8, 9, 10, 11] := (h1.mono (by simp)).tr (h2.mono (by simp))
  refine spec_X10_divides H (by rw [f2.p]; exact hσ) r7 (Rr_ft hm f2 hvn) (Ne.symm hv7) (by decide) (by omega) (by decide) hm0 (fun σ3 h3 r7b _ => ?_)
  have f3 := f2.tr (FT_w h3 (by simp))
  refine spec_X10_constant H (v := 0) (by rw [f3.p]; exact hσ) (by omega) (by omega) (fun σ4 h4 r8 => spec_X10_constant H (v := 1) (by rw [h4.p, f3.p]; exact hσ) (by omega) (by omega) (fun σ5 h5 r9 => ?_))
  have f5 := (f3.tr (h4.mono (by simp))).tr (h5.mono (by simp))
  have e0 : (mo p mk 0 0 : R) = 0 := pd_ext H (fun k => by rw [co_mo H, co_zero H]; split <;> simp)
  rw [e0] at r8
  rw [mo_1 H] at r9
  have r6b := Rr_ft (Rr_ft (Rr_ft (Rr_ft r6 h2 (by decide)) h3 (by decide)) h4 (by decide)) h5 (by decide)
  have r7c := Rr_ft (Rr_ft r7b h4 (by decide)) h5 (by decide)
  have r8b := Rr_ft r8 h5 (by decide)
  have hcp : Cp m (rm co a m) := Cp_cg hc (rm_dv H a hm0)
  have hL0 : rm co a m ≠ 0 := by
    intro e
    rw [e] at hcp
    obtain ⟨s1, s2, hs⟩ := hcp
    have h1 : s1 * m = 1 := inv_st6 hs
    have h2 := Dv_dd H (one_ne H) (a := m) ⟨s1, by rw [Lean.Grind.CommSemiring.mul_comm]; exact h1.symm⟩
    rw [dd_one H] at h2
    omega
  refine ⟨fun n σ' => FT σ σ' [t, 6, 7, 8, 9, 10, 11] ∧ ∃ U L UF LF : R, Rr co σ' 6 U ∧ Rr co σ' 7 L ∧ Rr co σ' 8 UF ∧ Rr co σ' 9 LF ∧ Cp U L ∧ L ≠ 0 ∧ Dv m (U - UF * a) ∧ Dv m (L - LF * a) ∧ dd co L < dd co U ∧ dd co UF < dd co LF ∧ dd co LF + dd co U ≤ dd co m + 1 ∧ n = dd co L, ⟨dd co (rm co a m), f5, m, rm co a m, 0, 1, r6b, r7c, r8b, r9, hcp, hL0, ⟨1, by grind⟩, ?_, (rm_spec H a hm0).2, by rw [dd_zero H, dd_one H]; omega, by rw [dd_one H]; omega, rfl⟩, ?_⟩
  · have h := cg_sym (rm_dv H a hm0)
    rw [show (1 : R) * a = a by grind]
    exact h
  · rintro n σ6 ⟨g1, U, L, UF, LF, u1, u2, u3, u4, c1, c0, c2, c3, d1, d2, d3, rfl⟩
    have hp6 : σ6 305 0 = p := by rw [g1.p]; exact hσ
    have hLd := dd_pos H c0
    refine spec_X10_degree H u2 ⟨fun h => ?_, fun h => ?_⟩
    · have hL1 : dd co L = 1 := by omega
      have hr := pd_rng H L 0
      have hL2 : co L 0 ≠ 0 := by
        have h := dd_top H hLd
        rw [hL1] at h
        exact h
      refine spec_X10_of H u2 (by omega) ?_
      rw [show (0 : Int).toNat = 0 from rfl]
      refine spec_X10_inverse H.1 hp6 (by omega) (fun e e1 e2 e3 => spec_X10_constant H hp6 (by omega) (by omega) (fun σ7 k1 k2 => ?_))
      have v4 := Rr_ft u4 k1 (by decide)
      have hmo := dd_mo_le H e 0
      refine spec_X10_multiplies H (by rw [k1.p]; exact hp6) v4 k2 ht (by omega) (fun σ8 l1 l2 => ?_)
      have f8 : FT σ σ8 [t, 6, 7, 8, 9, 10, 11] := (g1.tr (k1.mono (by simp))).tr (l1.mono (by simp))
      have ht0 := ht.1
      refine spec_X10_divides H (by rw [f8.p]; exact hσ) l2 (Rr_ft hm f8 hvn) htv (by omega) (by omega) (by decide) hm0 (fun σ9 o1 o2 _ => hQ σ9 (f8.tr (FT_w o1 (by simp))) ?_)
      have hLE : L * mo p mk e 0 = 1 := by
        rw [Lean.Grind.CommSemiring.mul_comm]
        have hc0 : co (mo p mk e 0 * L) 0 = 1 := by
          rw [co_mo_mul H, if_neg (by omega), Nat.sub_zero, Int.mul_comm, e3]
        refine dd1_one H (Nat.le_antisymm ?_ (dd_ge H (by rw [hc0]; decide))) hc0
        have := dd_smul_le H e L
        omega
      rw [ivm_of H (rm_spec H (LF * mo p mk e 0) hm0).2 (inv_st9 (rm_dv H _ hm0) (inv_st8 hLE c3))]
      exact o2
    · have hsp := rm_spec H U c0
      have hLF : LF ≠ 0 := dd_ne0 H (by omega)
      have hqL : qu co U L * L = U - rm co U L := inv_st4 hsp.1
      have hdq1 : dd co (qu co U L * L) = dd co U := by rw [hqL]; exact dd_sub_l H (by omega)
      have hq0 : qu co U L ≠ 0 := by
        intro e
        rw [e, rg_zmul, dd_zero H] at hdq1
        omega
      have hdq2 := dd_mul H hq0 c0
      have hdq3 := dd_mul H hq0 hLF
      have hrm0 := cp_rm0 H (by omega) c1
      refine spec_X10_divides H hp6 u1 u2 (by decide) (by decide) (by decide) (by decide) c0 (fun σ7 k1 k2 k3 => ?_)
      have k3 := k3 (by decide)
      have u2b := Rr_ft u2 k1 (by decide)
      have u3b := Rr_ft u3 k1 (by decide)
      have u4b := Rr_ft u4 k1 (by decide)
      refine spec_X10_copies H k2 (by omega) (fun σ8 l1 w11 => spec_X10_copies H (Rr_ft u2b l1 (by decide)) (by omega) (fun σ9 l2 w6 => spec_X10_copies H (Rr_ft w11 l2 (by decide)) (by omega) (fun σ10 l3 w7 => ?_)))
      have w6b := Rr_ft w6 l3 (by decide)
      have w10 := Rr_ft (Rr_ft (Rr_ft k3 l1 (by decide)) l2 (by decide)) l3 (by decide)
      have w8 := Rr_ft (Rr_ft (Rr_ft u3b l1 (by decide)) l2 (by decide)) l3 (by decide)
      have w9 := Rr_ft (Rr_ft (Rr_ft u4b l1 (by decide)) l2 (by decide)) l3 (by decide)
      have f10 : FT σ σ10 [t, 6, 7, 8, 9, 10, 11] := (((g1.tr (k1.mono (by simp))).tr (l1.mono (by simp))).tr (l2.mono (by simp))).tr (l3.mono (by simp))
      refine spec_X10_multiplies H (by rw [f10.p]; exact hσ) w10 w9 (by omega) (by omega) (fun σ11 m1 x11 => ?_)
      have x8 := Rr_ft w8 m1 (by decide)
      rw [m1.p, f10.p, hσ]
      refine ⟨by omega, spec_X10_adds H (by rw [m1.p, f10.p]; exact hσ) x11 x8 (by decide) (by omega) (fun σ12 m2 y8 => ?_)⟩
      rw [mo_pm1 H] at y8
      have y9 := Rr_ft (Rr_ft w9 m1 (by decide)) m2 (by decide)
      refine spec_X10_copies H y8 (by omega) (fun σ13 n1 z11 => spec_X10_copies H (Rr_ft y9 n1 (by decide)) (by omega) (fun σ14 n2 z8 => spec_X10_copies H (Rr_ft z11 n2 (by decide)) (by omega) (fun σ15 n3 z9 => ?_)))
      have f15 : FT σ σ15 [t, 6, 7, 8, 9, 10, 11] := ((((f10.tr (m1.mono (by simp))).tr (m2.mono (by simp))).tr (n1.mono (by simp))).tr (n2.mono (by simp))).tr (n3.mono (by simp))
      have z6 := Rr_ft (Rr_ft (Rr_ft (Rr_ft (Rr_ft w6b m1 (by decide)) m2 (by decide)) n1 (by decide)) n2 (by decide)) n3 (by decide)
      have z7 := Rr_ft (Rr_ft (Rr_ft (Rr_ft (Rr_ft w7 m1 (by decide)) m2 (by decide)) n1 (by decide)) n2 (by decide)) n3 (by decide)
      have hdl : dd co (UF - qu co U L * LF) = dd co (qu co U L * LF) := dd_sub_r H (by omega)
      exact ⟨dd co (rm co U L), hsp.2, f15, L, rm co U L, LF, UF - qu co U L * LF, z6, z7, Rr_ft z8 n3 (by decide), z9, inv_st2 hsp.1 c1, hrm0, c3, inv_st1 hsp.1 c2 c3, hsp.2, by omega, by omega, rfl⟩
theorem spec_X10_raises {R : Type} [Lean.Grind.CommRing R] {p : Nat} {co : R → Nat → Int} {mk : (Nat → Int) → R} (H : PD p co mk) {σ : SG} {u v t : Int} {e : Nat} {a m : R} {Q : SG → Prop} (hσ : σ 305 0 = p) (ha : Rr co σ u a) (hm : Rr co σ v m) (ht : 0 ≤ t ∧ t < 60) (hv : v ∉ [14, 15]) (hm0 : m ≠ 0) (hdm : dd co m ≤ 7) (he : e < 2147483648) (hQ : ∀ σ', FT σ σ' [t, 14, 15] → Rr co σ' t (rm co (a ^ e) m) → Q σ') : wp_X10_raises σ u e v t Q := by
  unfold wp_X10_raises
  have hp := pd_p H
  have hv0 := hm.1
  have hv14 : v ≠ 14 := fun e => hv (by rw [e]; simp)
  have hv15 : v ≠ 15 := fun e => hv (by rw [e]; simp)
  refine spec_X10_copies H ha (by omega) (fun σ1 h1 r1 => ?_)
  have m1 := Rr_ft hm h1 (by simp [hv14])
  refine spec_X10_divides H (by rw [h1.p]; exact hσ) r1 m1 (Ne.symm hv14) (by decide) (by omega) (by decide) hm0 (fun σ2 h2 r2 _ => ?_)
  have m2 := Rr_ft m1 h2 (by simp [hv14]; omega)
  have f2 : FT σ σ2 [14, 15] := (h1.mono (by simp)).tr (FT_w h2 (by simp))
  refine spec_X10_constant H (v := 1) (by rw [f2.p]; exact hσ) (by omega) (by omega) (fun σ3 h3 r3 => ?_)
  rw [mo_1 H] at r3
  have m3 := Rr_ft m2 h3 (by simp [hv15])
  refine spec_X10_divides H (by rw [h3.p, f2.p]; exact hσ) r3 m3 (Ne.symm hv15) (by decide) (by omega) (by decide) hm0 (fun σ4 h4 r4 _ => ?_)
  have f4 : FT σ σ4 [14, 15] := (f2.tr (h3.mono (by simp))).tr (FT_w h4 (by simp))
  have r2b := Rr_ft (Rr_ft r2 h3 (by decide)) h4 (by decide)
  refine Lp1_m (fun x σ' => FT σ σ' [14, 15] ∧ ∃ (n : Nat) (r s : R), x = n ∧ n < 2147483648 ∧ Rr co σ' 15 r ∧ Rr co σ' 14 s ∧ dd co r < dd co m ∧ dd co s < dd co m ∧ Dv m (r * s ^ n - a ^ e)) (fun x _ => x.toNat) ⟨f4, e, rm co 1 m, rm co a m, rfl, he, r4, r2b, (rm_spec H 1 hm0).2, (rm_spec H a hm0).2, ?_⟩ ?_
  · have h := cg_mul (cg_sym (rm_dv H (1 : R) hm0)) (cg_pw (cg_sym (rm_dv H a hm0)) e)
    rw [show (1 : R) * a ^ e = a ^ e by generalize a ^ e = x; grind] at h
    exact h
  · rintro x σ5 rc ⟨g1, n, r, s, rfl, g2, g3, g4, g5, g6, g7⟩ hr
    have hp5 : σ5 305 0 = p := by rw [g1.p]; exact hσ
    have m5 := Rr_ft hm g1 hv
    refine ⟨fun h => ?_, fun h => ?_⟩
    · have h0 : n = 0 := by omega
      rw [h0, pw_0] at g7
      refine spec_X10_copies H g3 ht (fun σ6 k1 k2 => hQ σ6 ((g1.mono (by simp)).tr (k1.mono (by simp))) ?_)
      rw [rm_cg H (r := r) g5 (cg_sym (by rw [show r = r * 1 by grind]; exact g7))]
      exact k2
    · refine ⟨fun σ' => FT σ σ' [14, 15] ∧ ∃ r2 : R, Rr co σ' 15 r2 ∧ Rr co σ' 14 s ∧ dd co r2 < dd co m ∧ ∀ s2 : R, Dv m (s2 - s * s) → Dv m (r2 * s2 ^ (n / 2) - a ^ e), ?_, ?_⟩
      · rintro σ6 ⟨k1, r2, k2, k3, k4, k5⟩
        refine spec_X10_multiplies H (by rw [k1.p]; exact hσ) k3 k3 (by omega) (by omega) (fun σ7 l1 l2 => ?_)
        have l3 := k1.tr (l1.mono (L' := [14, 15]) (by simp))
        refine spec_X10_divides H (by rw [l3.p]; exact hσ) l2 (Rr_ft hm l3 hv) (Ne.symm hv14) (by decide) (by omega) (by decide) hm0 (fun σ8 o1 o2 _ => ?_)
        rintro v rfl
        have k2b := Rr_ft (Rr_ft k2 l1 (by decide)) o1 (by decide)
        refine hr _ _ ⟨l3.tr (FT_w o1 (by simp)), n / 2, r2, _, ?_, by omega, k2b, o2, k4, (rm_spec H _ hm0).2, k5 _ (cg_sym (rm_dv H _ hm0))⟩ ?_
        · rw [Int.tdiv_eq_ediv_of_nonneg (by omega)]; omega
        · rw [Int.tdiv_eq_ediv_of_nonneg (by omega)]; omega
      · rw [tmod_nn (by omega)]
        refine ⟨fun h8 => ⟨g1, r, g3, g4, g5, fun s2 hs2 => raise_st0 g7 (by omega) hs2⟩, fun h8 => ?_⟩
        refine spec_X10_multiplies H hp5 g3 g4 (by omega) (by omega) (fun σ7 l1 l2 => ?_)
        have l3 := g1.tr (l1.mono (L' := [14, 15]) (by simp))
        refine spec_X10_divides H (by rw [l3.p]; exact hσ) l2 (Rr_ft hm l3 hv) (Ne.symm hv15) (by decide) (by omega) (by decide) hm0 (fun σ8 o1 o2 _ => ?_)
        exact ⟨l3.tr (FT_w o1 (by simp)), _, o2, Rr_ft (Rr_ft g4 l1 (by decide)) o1 (by decide), (rm_spec H _ hm0).2, fun s2 hs2 => raise_st1 g7 (by omega) (cg_sym (rm_dv H _ hm0)) hs2⟩
theorem spec_X10_derives {R : Type} [Lean.Grind.CommRing R] {p : Nat} {co : R → Nat → Int} {mk : (Nat → Int) → R} (H : PD p co mk) {σ : SG} {u t : Int} {a : R} {Q : SG → Prop} (hσ : σ 305 0 = p) (ha : Rr co σ u a) (ht : 0 ≤ t ∧ t < 60) (hut : u ≠ t) (hQ : ∀ σ', FT σ σ' [t] → Rr co σ' t (der p co mk a) → Q σ') : wp_X10_derives σ u t Q := by
  unfold wp_X10_derives
  have hp := pd_p H
  have ha14 := ha.2.2
  refine spec_X10_clears H ht (fun σ1 h1 h2 => ?_)
  refine Lp1_up_from 1 14 (by omega) (fun k σ' => FT σ σ' [t] ∧ ∀ j : Nat, j < 14 → σ' 308 (14 * t + j).toNat = if j + 1 < k then co (der p co mk a) j else 0) ⟨h1, fun j hj => by rw [if_neg (by omega), h2.2.1 j hj, co_zero H]⟩ ?_ ?_
  · rintro k σ2 rc hk1 hk ⟨g1, g2⟩ hrc
    have r1 := pd_rng H a k
    have bd := mul_bd (f := (k : Int)) (c := co a k) (F := 14) (by omega) (by omega) r1.1 (by omega)
    have bc : co a k * (k : Int) = (k : Int) * co a k := Int.mul_comm _ _
    have nn : 0 ≤ co a k * (k : Int) := Int.mul_nonneg r1.1 (by omega)
    refine ⟨fun h => by omega, fun _ => ⟨by omega, spec_X10_of H (Rr_ft ha g1 (by simp [hut])) (by omega) ?_⟩⟩
    rw [Int.toNat_natCast, g1.p, hσ]
    refine ⟨by omega, by omega, spec_X10_puts ht (by omega) ⟨by omega, hrc _ ⟨g1.tr (FT.put _ ht.1 (by omega) _ (by simp)), fun j hj => ?_⟩⟩⟩
    by_cases z : j + 1 = k
    · rw [show 14 * t + ((k : Int) - 1) = 14 * t + (j : Int) by omega, ug_eq, if_pos (by omega), co_der H, tmod_nn nn, z, Int.mul_comm, show ((j : Int) + 1) = (k : Int) by omega]
    · rw [ug_k _ _ (by omega), g2 j hj]
      by_cases z2 : j + 1 < k
      · rw [if_pos z2, if_pos (by omega)]
      · rw [if_neg z2, if_neg (by omega)]
  · rintro σ2 rc ⟨g1, g2⟩
    have hd : dd co (der p co mk a) ≤ 13 := dd_le H (fun k hk => by rw [co_der H, dd_out H a (by omega), Int.mul_zero]; rfl)
    refine ⟨fun _ => hQ _ g1 ⟨ht, fun k hk => ?_, by omega⟩, fun h => by omega⟩
    rw [g2 k hk]
    split
    · rfl
    · rw [dd_out H (der p co mk a) (by omega)]
theorem spec_X10_unitOf {R : Type} [Lean.Grind.CommRing R] {p : Nat} {co : R → Nat → Int} {mk : (Nat → Int) → R} (H : PD p co mk) {σ : SG} {t : Int} {f g : R} {Q : SG → Prop} (hσ : σ 305 0 = p) (h0 : Rr co σ 0 f) (h1 : Rr co σ 1 g) (hf : mon co f) (hfd : dd co f ≤ 7) (hs : SF p co mk f) (hg : mon co g) (hgf : Dv g f) (hgd : 2 ≤ dd co g) (ht : 0 ≤ t ∧ t < 60) (ht0 : t ≠ 0) (ht1 : t ≠ 1) (hQ : ∀ σ' e, FT σ σ' [t, 6, 7, 8, 9, 10, 11, 16, 17] → Ue co f g e → Rr co σ' t e → Q σ') : wp_X10_unitOf σ t Q := by
  unfold wp_X10_unitOf
  have hf0 := mon_ne H hf
  have hg0 := mon_ne H hg
  obtain ⟨s1, s2⟩ := dv_split H hf hg hgf
  have hdd := dd_mul H hg0 (mon_ne H s1)
  rw [← s2] at hdd
  have hcp : Cp g (qu co f g) := SF_cp H (by rw [← s2]; exact hs)
  have hq1 := s1.1
  refine spec_X10_copies H h0 (by omega) (fun σ1 k1 a16 => ?_)
  have b1 := Rr_ft h1 k1 (by decide)
  refine spec_X10_divides H (by rw [k1.p]; exact hσ) a16 b1 (by decide) (by decide) (by decide) (by decide) hg0 (fun σ2 k2 _ a17 => ?_)
  have a17 := a17 (by decide)
  have b2 := Rr_ft b1 k2 (by decide)
  have f2 : FT σ σ2 [t, 6, 7, 8, 9, 10, 11, 16, 17] := (k1.mono (by simp)).tr (k2.mono (by simp))
  refine spec_X10_inverts H (by rw [f2.p]; exact hσ) a17 b2 (by omega) (by decide) (by decide) (by decide) (by omega) hcp (fun σ3 k3 a16b => ?_)
  have f3 : FT σ σ3 [t, 6, 7, 8, 9, 10, 11, 16, 17] := f2.tr (k3.mono (by simp))
  have a17b := Rr_ft a17 k3 (by decide)
  have hiv := ivm_spec H hg0 (Cp_sym hcp)
  refine spec_X10_multiplies H (by rw [f3.p]; exact hσ) a17b a16b ht (by omega) (fun σ4 k4 a => ?_)
  have f4 : FT σ σ4 [t, 6, 7, 8, 9, 10, 11, 16, 17] := f3.tr (k4.mono (by simp))
  have c0 := Rr_ft h0 f4 (by simp; omega)
  refine spec_X10_divides H (by rw [f4.p]; exact hσ) a c0 ht0 (by omega) (by decide) (by decide) hf0 (fun σ5 k5 a5 _ => hQ σ5 _ (f4.tr (FT_w k5 (by simp))) ⟨(rm_spec H _ hf0).2, ?_, ?_⟩ a5)
  · have h2 := rm_dv H (qu co f g * ivm co (qu co f g) g) hf0
    exact cg_tr (cg_sym (Dv_tr hgf h2)) hiv.2
  · have h2 := Dv_tr (a := qu co f g) ⟨g, by rw [Lean.Grind.CommSemiring.mul_comm]; exact s2⟩ (rm_dv H (qu co f g * ivm co (qu co f g) g) hf0)
    have h3 := Dv_sub (Dv_l (qu co f g) (ivm co (qu co f g) g)) h2
    rw [show qu co f g * ivm co (qu co f g) g - (qu co f g * ivm co (qu co f g) g - rm co (qu co f g * ivm co (qu co f g) g) f) = rm co (qu co f g * ivm co (qu co f g) g) f by
      generalize qu co f g * ivm co (qu co f g) g = x
      grind] at h3
    exact h3
