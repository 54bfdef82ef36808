/-! the degrees of the factors: both sides -/
theorem gc_frob {R : Type} [Lean.Grind.CommRing R] {p : Nat} {co : R → Nat → Int} {mk : (Nat → Int) → R} (H : PD p co mk) {g w f : R} {N : Nat} (hg : mon co g) (hgf : Dv g f) (h : Dv f (w - xx p mk ^ N)) : gc co g (w - xx p mk) = gc co g (xx p mk ^ N - xx p mk) := by
  refine gc_cg H hg ?_
  have h1 := Dv_tr hgf h
  rw [show w - xx p mk - (xx p mk ^ N - xx p mk) = w - xx p mk ^ N by grind]
  exact h1
theorem pw_pw {R : Type} [Lean.Grind.CommRing R] (a : R) (m n : Nat) : (a ^ m) ^ n = a ^ (m * n) := by
  induction n with
  | zero => rw [Nat.mul_zero, pw_0, pw_0]
  | succ n ih => rw [pw_s, ih, Nat.mul_succ, Lean.Grind.Semiring.pow_add]
def FD : List Nat := [116, 118, 120, 122, 102, 104, 106, 108, 110, 112, 114, 34, 36, 40, 42, 38, 49, 51]
theorem FD_P : ∀ t ∈ FD, KT.getD t 99 = 4 := by decide +kernel
theorem FD_R {σ σ' : SG} (h : FrL σ σ' FD) : FrR σ σ' := FrR.ofL h (by decide)
theorem dpt {d : Nat} (h1 : 1 ≤ d) (h6 : d ≤ 6) : KT.getD (101 + 1 + 2 * d) 99 = 4 ∧ 101 + 1 + 2 * d ∈ FD := by
  rcases (show d = 1 ∨ d = 2 ∨ d = 3 ∨ d = 4 ∨ d = 5 ∨ d = 6 by omega) with e | e | e | e | e | e <;> subst e <;> exact ⟨by decide +kernel, by decide⟩
theorem spec_X1_find {R : Type} [Lean.Grind.CommRing R] {p : Nat} {co : R → Nat → Int} {mk : (Nat → Int) → R} (H : PD p co mk) {σ : SG} {f : R} {Q : SG → Prop} (hM : Md p co σ f) (hQ : ∀ σ', FrL σ σ' FD → (∀ d, 1 ≤ d → d ≤ 6 → Rp co σ' (101 + 1 + 2 * d) (dp p co mk f d)) → Q σ') : wp_X1_find σ Q := by
  unfold wp_X1_find
  have hp := pd_p H
  have hf := hM.2.2.1
  have hd7 := hM.2.2.2.2
  have hf0 := Md_ne H hM
  have hPx : ∀ t : Nat, t ∈ FD → t ≠ 2 := fun t ht e => by rw [e] at ht; exact absurd ht (by decide)
  refine spec_X4_copy H (by decide +kernel) hM.2.1 (fun σ1 h1 r1 => ?_)
  have f1 : FrL σ σ1 FD := FrL.of h1 (by decide)
  refine spec_X4_becomeVariable H (by decide +kernel) (fun σ2 h2 r2 => ?_)
  have f2 : FrL σ σ2 FD := f1.tr (FrL.of h2 (by decide))
  have r1b := Rp_fr1 r1 (by decide +kernel) (by decide) h2
  have M2 := Md_frL H hM FD_P (by decide) f2
  refine spec_X6_becomeVariable H M2 (by decide +kernel) (by decide) (by decide) (fun σ3 h3 r3 => ?_)
  have P3 : ∀ t ∈ [118, 36], KT.getD t 99 = 4 := by decide +kernel
  have f3 : FrL σ σ3 FD := f2.tr (h3.mono (by decide))
  refine Lp1_up_from 1 7 (by omega) (fun n σ' => FrL σ σ' FD ∧ Rp co σ' 116 (rs p co mk f (n - 1)) ∧ Rp co σ' 118 (rm co (xx p mk ^ (p ^ (n - 1))) f) ∧ Rp co σ' 122 (xx p mk : R) ∧ ∀ d, 1 ≤ d → d < n → Rp co σ' (101 + 1 + 2 * d) (dp p co mk f d)) ⟨f3, Rp_frL r1b P3 (by decide) h3, ?_, Rp_frL r2 P3 (by decide) h3, fun d h1 h2 => by omega⟩ ?_ ?_
  · show Rp co σ3 118 (rm co (xx p mk ^ (p ^ 0)) f)
    rw [Nat.pow_zero, pw_s, pw_0, show 1 * xx p mk = xx p mk by grind]
    exact r3
  · rintro n σ4 r hn1 hn ⟨g1, g2, g3, g4, g5⟩ hr
    obtain ⟨c, rfl⟩ : ∃ c, n = c + 1 := ⟨n - 1, by omega⟩
    rw [Nat.add_sub_cancel] at g2 g3
    have M4 := Md_frL H hM FD_P (by decide) g1
    have hdr := (rm_spec H (xx p mk ^ (p ^ c)) hf0).2
    obtain ⟨rs1, rs2, rs3⟩ := rs_spec H hf c
    have hrf := rs_dv H hf c
    have hdrs := Dv_dd H hf0 hrf
    refine ⟨fun h => by omega, fun _ => ?_⟩
    rw [M4.1]
    refine spec_X6_raise H M4 (by decide +kernel) g3 hdr (by omega) (by decide) (by decide) (by decide) (by decide) (fun σ5 k5 m5 => ?_)
    have P5 : ∀ t ∈ [118, 34, 49, 51], KT.getD t 99 = 4 := by decide +kernel
    have f5 : FrL σ σ5 FD := g1.tr (k5.mono (by decide))
    have hw : Dv f (rm co (rm co (xx p mk ^ (p ^ c)) f ^ p) f - xx p mk ^ (p ^ (c + 1))) := by
      have a1 := cg_sym (rm_dv H (rm co (xx p mk ^ (p ^ c)) f ^ p) hf0)
      have a2 := cg_sym (cg_pw (rm_dv H (xx p mk ^ (p ^ c)) hf0) p)
      rw [pw_pw, ← Nat.pow_succ] at a2
      exact cg_tr a1 a2
    have hw2 : rm co (rm co (xx p mk ^ (p ^ c)) f ^ p) f = rm co (xx p mk ^ (p ^ (c + 1))) f := (rm_cg H (rm_spec H _ hf0).2 (cg_sym hw)).symm
    have x116 := Rp_frL g2 P5 (by decide) k5
    have x122 := Rp_frL g4 P5 (by decide) k5
    refine spec_X4_copy H (by decide +kernel) m5 (fun σ6 k6 m6 => ?_)
    have P6 : ∀ t ∈ [120], KT.getD t 99 = 4 := by decide +kernel
    have f6 : FrL σ σ6 FD := f5.tr (FrL.of k6 (by decide))
    have M6 := Md_frL H hM FD_P (by decide) f6
    refine spec_X6_add H M6.1 m6 (Rp_fr1 x122 (by decide +kernel) (by decide) k6) (fun σ7 k7 m7 => ?_)
    rw [if_neg (by decide)] at m7
    have f7 : FrL σ σ7 FD := f6.tr (FrL.of k7 (by decide))
    have M7 := Md_frL H hM FD_P (by decide) f7
    have y116 := Rp_fr1 (Rp_fr1 x116 (by decide +kernel) (by decide) k6) (by decide +kernel) (by decide) k7
    obtain ⟨t1, t2⟩ := dpt (d := c + 1) (by omega) (by omega)
    rw [Int.toNat_natCast]
    have htne : ∀ t, t ∈ [116, 118, 120, 122, 34, 36, 40, 42, 38, 49, 51] → 101 + 1 + 2 * (c + 1) ≠ t := fun t ht e => by
      have h6 : c + 1 ≤ 6 := by omega
      rw [← e] at ht
      simp only [List.mem_cons, List.not_mem_nil, or_false] at ht
      omega
    refine ⟨by omega, spec_X2_commonFactor H M7.1 t1 y116 m7 (by decide) (fun σ8 k8 m8 => ⟨by omega, ?_⟩)⟩
    have hgc : gc co (rs p co mk f c) (rm co (rm co (xx p mk ^ (p ^ c)) f ^ p) f - xx p mk) = dp p co mk f (c + 1) := gc_frob H rs1 hrf hw
    rw [hgc] at m8
    have P8 : ∀ t ∈ [101 + 1 + 2 * (c + 1), 36, 40, 42], KT.getD t 99 = 4 := cons_P t1 (by decide +kernel)
    have n8 : ∀ q, q ∈ [116, 118, 120, 122] → q ∉ [101 + 1 + 2 * (c + 1), 36, 40, 42] := fun q hq => nin_cons (fun e => htne q (List.mem_of_mem_take (i := 4) hq) e.symm) (fun e => (by decide : ∀ q ∈ [116, 118, 120, 122], q ∉ [36, 40, 42]) q hq e)
    have f8 : FrL σ σ8 FD := f7.tr (k8.mono (fun t ht => by
      rcases List.mem_cons.mp ht with rfl | ht
      · exact t2
      · exact (by decide : ∀ t ∈ [36, 40, 42], t ∈ FD) t ht))
    have M8 := Md_frL H hM FD_P (by decide) f8
    have z116 := Rp_frL y116 P8 (n8 116 (by decide)) k8
    refine spec_X2_divideWhole H M8.1 (by decide +kernel) z116 m8 (htne 38 (by decide)) (htne 36 (by decide)) (mon_ne H rs2) (fun σ9 k9 m9 => ⟨by omega, hr _ ⟨f8.tr (k9.mono (by decide)), ?_, ?_, ?_, fun d d1 d2 => ?_⟩⟩)
    · rw [Nat.add_sub_cancel]
      exact m9
    · rw [Nat.add_sub_cancel, ← hw2]
      refine Rp_frL ?_ (by decide +kernel) (by decide) k9
      refine Rp_frL ?_ P8 (n8 118 (by decide)) k8
      exact Rp_fr1 (Rp_fr1 m5 (by decide +kernel) (by decide) k6) (by decide +kernel) (by decide) k7
    · refine Rp_frL ?_ (by decide +kernel) (by decide) k9
      refine Rp_frL ?_ P8 (n8 122 (by decide)) k8
      exact Rp_fr1 (Rp_fr1 x122 (by decide +kernel) (by decide) k6) (by decide +kernel) (by decide) k7
    · have hne : ∀ t, t ∈ [116, 118, 120, 122, 34, 36, 40, 42, 38, 49, 51] → 101 + 1 + 2 * d ≠ t := fun t ht e => by
        rw [← e] at ht
        simp only [List.mem_cons, List.not_mem_nil, or_false] at ht
        omega
      have hninL : ∀ T : List Nat, (∀ t ∈ T, t ∈ [116, 118, 120, 122, 34, 36, 40, 42, 38, 49, 51]) → 101 + 1 + 2 * d ∉ T := fun T hT e => hne _ (hT _ e) rfl
      by_cases q : d = c + 1
      · subst q
        exact Rp_frL m8 (by decide +kernel) (hninL _ (by decide)) k9
      · refine Rp_frL ?_ (by decide +kernel) (hninL _ (by decide)) k9
        refine Rp_frL ?_ P8 (nin_cons (by omega) (hninL _ (by decide))) k8
        refine Rp_fr1 (Rp_fr1 ?_ (by decide +kernel) (hne _ (by decide)) k6) (by decide +kernel) (hne _ (by decide)) k7
        exact Rp_frL (g5 d d1 (by omega)) P5 (hninL _ (by decide)) k5
  · rintro σ4 r ⟨g1, g2, g3, g4, g5⟩
    exact ⟨fun _ => hQ σ4 g1 (fun d d1 d6 => g5 d d1 (by omega)), fun h => absurd (by decide) h⟩
noncomputable def fcn {R : Type} [Lean.Grind.CommRing R] (p : Nat) (co : R → Nat → Int) (mk : (Nat → Int) → R) (f : R) (d : Nat) : Int := Int.tdiv ((dd co (dp p co mk f d) : Int) - 1) d
theorem fcn_rng {R : Type} [Lean.Grind.CommRing R] {p : Nat} {co : R → Nat → Int} {mk : (Nat → Int) → R} (H : PD p co mk) {f : R} (hf : mon co f) (hd : dd co f ≤ 7) {d : Nat} (h1 : 1 ≤ d) : 0 ≤ fcn p co mk f d ∧ fcn p co mk f d ≤ 6 := by
  obtain ⟨c, rfl⟩ : ∃ c, d = c + 1 := ⟨d - 1, by omega⟩
  have h2 := (rs_spec H hf c).2.1.1
  have h3 := Dv_dd H (mon_ne H hf) (dp_dv H hf c)
  unfold fcn
  obtain ⟨n, hn⟩ : ∃ n, dd co (dp p co mk f (c + 1)) = n + 1 := ⟨dd co (dp p co mk f (c + 1)) - 1, by omega⟩
  rw [hn, show ((n + 1 : Nat) : Int) - 1 = (n : Int) by omega, ← Int.ofNat_tdiv]
  have h4 : n / (c + 1) ≤ n := Nat.div_le_self _ _
  generalize n / (c + 1) = m at h4
  omega
theorem spec_X1_factorsOf {R : Type} [Lean.Grind.CommRing R] {p : Nat} {co : R → Nat → Int} {mk : (Nat → Int) → R} (H : PD p co mk) {σ : SG} {f : R} {a : Int} {Q : Int → SG → Prop} (hf : mon co f) (hd : dd co f ≤ 7) (hD : ∀ d, 1 ≤ d → d ≤ 6 → Rp co σ (101 + 1 + 2 * d) (dp p co mk f d)) (h1 : ∀ d : Nat, a = d → 1 ≤ d → d ≤ 6 → Q (fcn p co mk f d) σ) (h0 : ¬ (1 ≤ a ∧ a ≤ 6) → Q 0 σ) : wp_X1_factorsOf σ a Q := by
  unfold wp_X1_factorsOf
  refine ⟨fun h => h0 (by omega), fun h => ⟨fun h6 => ?_, fun h6 => h0 (by omega)⟩⟩
  obtain ⟨d, rfl⟩ := Int.eq_ofNat_of_zero_le (show 0 ≤ a by omega)
  rw [Int.toNat_natCast, (hD d (by omega) (by omega)).2.2.2]
  have hr := fcn_rng H hf hd (d := d) (by omega)
  have hq := h1 d rfl (by omega) (by omega)
  unfold fcn at hr hq
  exact ⟨by omega, by omega, by omega, hq⟩
noncomputable def fsum {R : Type} [Lean.Grind.CommRing R] (p : Nat) (co : R → Nat → Int) (mk : (Nat → Int) → R) (f : R) : Nat → Int
  | 0 => 0
  | n + 1 => fsum p co mk f n + fcn p co mk f (n + 1)
theorem spec_X1_allFactors {R : Type} [Lean.Grind.CommRing R] {p : Nat} {co : R → Nat → Int} {mk : (Nat → Int) → R} (H : PD p co mk) {σ : SG} {f : R} {Q : Int → SG → Prop} (hf : mon co f) (hd : dd co f ≤ 7) (hD : ∀ d, 1 ≤ d → d ≤ 6 → Rp co σ (101 + 1 + 2 * d) (dp p co mk f d)) (hQ : Q (fsum p co mk f 6) σ) : wp_X1_allFactors σ Q := by
  unfold wp_X1_allFactors
  refine Lp2_m (fun x z σ' => ∃ k : Nat, x = k ∧ 1 ≤ k ∧ k ≤ 7 ∧ σ' = σ ∧ z = fsum p co mk f (k - 1) ∧ 0 ≤ z ∧ z ≤ 6 * k) (fun x _ _ => (7 - x).toNat) ⟨1, rfl, by omega, by omega, rfl, rfl, by decide, by decide⟩ ?_
  rintro x z σ1 r ⟨k, rfl, k1, k7, rfl, rfl, z0, z6⟩ hr
  refine ⟨fun h => ?_, fun h => ?_⟩
  · rw [show k - 1 = 6 by omega]; exact hQ
  · refine spec_X1_factorsOf H hf hd hD (fun d e d1 d6 => ?_) (fun h => by omega)
    have hr2 := fcn_rng H hf hd d1
    have hde : d = k := by omega
    subst hde
    refine ⟨by omega, ?_⟩
    rintro v rfl
    refine ⟨by omega, hr _ _ _ ⟨d + 1, rfl, by omega, by omega, rfl, ?_, by omega, by omega⟩ (by omega)⟩
    obtain ⟨c, rfl⟩ : ∃ c, d = c + 1 := ⟨d - 1, by omega⟩
    rfl
/-! the reference's factors -/
theorem spec_X10_takesDegree {R : Type} [Lean.Grind.CommRing R] {p : Nat} {co : R → Nat → Int} {mk : (Nat → Int) → R} (H : PD p co mk) {σ : SG} {d : Nat} {g : R} {Q : SG → Prop} (hσ : σ 305 0 = p) (hg : Rr co σ 1 g) (hgm : mon co g) (hd : dd co g ≤ 7) (hd6 : d ≤ 6) (hQ : ∀ σ', FT σ σ' [1, 2, 3, 4, 5, 11, 12, 13, 14, 15] → Rr co σ' 4 (gc co g (xx p mk ^ (p ^ d) - xx p mk)) → Rr co σ' 1 (qu co g (gc co g (xx p mk ^ (p ^ d) - xx p mk))) → Q σ') : wp_X10_takesDegree σ d 4 Q := by
  unfold wp_X10_takesDegree
  have hp := pd_p H
  have hg0 := mon_ne H hgm
  refine spec_X10_xrow H (by omega) (fun σ1 k1 m1 => ?_)
  have g1 := Rr_ft hg k1 (by decide)
  refine spec_X10_copies H m1 (by omega) (fun σ2 k2 m2 => ?_)
  have f2 : FT σ σ2 [1, 2, 3, 4, 5, 11, 12, 13, 14, 15] := (k1.mono (by simp)).tr (k2.mono (by simp))
  refine Lp1_up d (fun n σ' => FT σ σ' [1, 2, 3, 4, 5, 11, 12, 13, 14, 15] ∧ Rr co σ' 1 g ∧ Rr co σ' 2 (xx p mk : R) ∧ ∃ w, Rr co σ' 3 w ∧ Dv g (w - xx p mk ^ (p ^ n))) ⟨f2, Rr_ft g1 k2 (by decide), Rr_ft m1 k2 (by decide), _, m2, by rw [Nat.pow_zero, pw_s, pw_0]; exact ⟨0, by grind⟩⟩ ?_ ?_
  · rintro n σ3 r hn ⟨h1, h2, h3, w, h4, h5⟩ hr
    have p3 : σ3 305 0 = p := by rw [h1.p]; exact hσ
    refine ⟨fun h => by omega, fun _ => ?_⟩
    rw [p3]
    refine spec_X10_raises H p3 h4 h2 (by omega) (by decide) hg0 hd (by omega) (fun σ4 k4 m4 => ⟨by omega, hr _ ⟨h1.tr (k4.mono (by simp)), Rr_ft h2 k4 (by decide), Rr_ft h3 k4 (by decide), _, m4, ?_⟩⟩)
    have a1 := cg_sym (rm_dv H (w ^ p) hg0)
    have a2 := cg_pw h5 p
    rw [pw_pw, ← Nat.pow_succ] at a2
    exact cg_tr a1 a2
  · rintro σ3 r ⟨h1, h2, h3, w, h4, h5⟩
    have p3 : σ3 305 0 = p := by rw [h1.p]; exact hσ
    refine ⟨fun _ => ?_, fun h => absurd (Int.le_refl _) h⟩
    rw [p3]
    refine ⟨by omega, spec_X10_adds H p3 h3 h4 (by decide) (by omega) (fun σ4 k4 m4 => ?_)⟩
    rw [mo_pm1 H] at m4
    refine spec_X10_divides H (by rw [k4.p]; exact p3) m4 (Rr_ft h2 k4 (by decide)) (by decide) (by decide) (by decide) (by decide) hg0 (fun σ5 k5 m5 _ => ?_)
    have k5 : FT σ4 σ5 [3] := FT_w k5 (by decide)
    have n5 := Rr_ft (Rr_ft h2 k4 (by decide)) k5 (by decide)
    refine spec_X10_common H (by rw [k5.p, k4.p]; exact p3) n5 m5 (by omega) (by decide) (Or.inl hg0) (fun σ6 k6 m6 => ?_)
    have e1 : gc co g (rm co (w - xx p mk) g) = gc co g (xx p mk ^ (p ^ d) - xx p mk) := by
      rw [gc_cg H hgm (cg_sym (rm_dv H (w - xx p mk) hg0))]
      exact gc_frob H hgm (Dv_rf g) h5
    rw [e1] at m6
    refine spec_X10_divides H (by rw [k6.p, k5.p, k4.p]; exact p3) (Rr_ft n5 k6 (by decide)) m6 (by decide) (by decide) (by decide) (by decide) (mon_ne H (gc_mon H (Or.inl hg0))) (fun σ7 k7 _ m7 => ?_)
    refine spec_X10_copies H (m7 (by decide)) (by omega) (fun σ8 k8 m8 => hQ σ8 ?_ (Rr_ft (Rr_ft m6 k7 (by decide)) k8 (by decide)) m8)
    exact h1.tr ((k4.mono (by simp)).tr ((k5.mono (by simp)).tr ((k6.mono (by simp)).tr ((k7.mono (by simp)).tr (k8.mono (by simp))))))
theorem rs_one {R : Type} [Lean.Grind.CommRing R] {p : Nat} {co : R → Nat → Int} {mk : (Nat → Int) → R} (H : PD p co mk) {f : R} (hf : mon co f) {d : Nat} (h : dd co (rs p co mk f d) ≤ 1) (e : Nat) : rs p co mk f (d + e) = 1 ∧ dd co (dp p co mk f (d + e + 1)) = 1 := by
  have h1 : ∀ e, rs p co mk f (d + e) = 1 := fun e => by
    have h2 := Dv_dd H (mon_ne H (rs_spec H hf d).1) (rs_mono H hf d e)
    have h3 := (rs_spec H hf (d + e)).1
    exact mon1 H h3 (by have := h3.1; omega)
  refine ⟨h1 e, ?_⟩
  have h4 := (rs_spec H hf (d + e)).2.1
  have h5 : Dv (dp p co mk f (d + e + 1)) 1 := by
    have := (rs_spec H hf (d + e)).2.2
    rw [h1 e] at this
    rw [this]
    exact Dv_r _ _
  have := Dv_dd H (one_ne H) h5
  rw [dd_one H] at this
  have := h4.1
  omega
theorem spec_X10_countsFactors {R : Type} [Lean.Grind.CommRing R] {p : Nat} {co : R → Nat → Int} {mk : (Nat → Int) → R} (H : PD p co mk) {σ : SG} {f : R} {g : Nat → R} {L : List R} {Q : SG → Prop} (hA : Awn co (σ 305) p f g L) (hV : Val p co mk f g L) (hQ : ∀ σ', FrR σ σ' → (∀ d, 1 ≤ d → d ≤ 6 → σ' 315 d = fcn p co mk f d) → Rr co σ' 0 f → Q σ') : wp_X10_countsFactors σ Q := by
  unfold wp_X10_countsFactors
  have hf := hV.1
  have hd := hV.2.1
  have hf0 := Val_ne H hV
  refine spec_X10_loadsModulus H hA hV (fun σ1 k1 m1 => ?_)
  refine spec_X10_copies H m1 (by omega) (fun σ2 k2 m2 => ?_)
  refine Lp1_up_from 1 7 (by omega) (fun n σ' => FrR σ σ' ∧ (∀ d, 1 ≤ d → d < n → σ' 315 d = fcn p co mk f d) ∧ Rr co σ' 0 f ∧ ∃ w, Rr co σ' 1 w ∧ (w = rs p co mk f (n - 1) ∨ dd co w ≤ 1 ∧ dd co (rs p co mk f (n - 1)) ≤ 1)) ⟨(FrR.ofT k1).tr (FrR.ofT k2), fun d a b => by omega, Rr_ft m1 k2 (by decide), _, m2, Or.inl rfl⟩ ?_ ?_
  · rintro n σ3 r hn1 hn ⟨h1, h2, h3, w, h4, h5⟩ hr
    obtain ⟨c, rfl⟩ : ∃ c, n = c + 1 := ⟨n - 1, by omega⟩
    rw [Nat.add_sub_cancel] at h5
    have hrs := rs_spec H hf c
    have hdrs := Dv_dd H hf0 (rs_dv H hf c)
    refine ⟨fun h => by omega, fun _ => ⟨by omega, ?_⟩⟩
    rintro σ4 e4
    rw [Int.toNat_natCast] at e4
    have u4 : ∀ i, i ≠ 315 → σ4 i = σ3 i := fun i hi => by rw [e4, ug_ne _ hi]
    have tr4 : ∀ {q : Int} {x : R}, Rr co σ3 q x → Rr co σ4 q x := fun hx => ⟨hx.1, fun k hk => by rw [u4 308 (by decide)]; exact hx.2.1 k hk, hx.2.2⟩
    have f4 : FrR σ σ4 := h1.tr ⟨fun i hi => u4 i (by omega), by rw [u4 30 (by decide)], fun k _ => by rw [u4 304 (by decide)]⟩
    refine spec_X10_degree H (tr4 h4) ⟨fun hz => ⟨by omega, hr _ ⟨f4, fun d d1 d2 => ?_, tr4 h3, w, tr4 h4, ?_⟩⟩, fun hz => ?_⟩
    · by_cases q : d = c + 1
      · have hle : dd co (rs p co mk f c) ≤ 1 := by
          rcases h5 with rfl | h5
          · omega
          · exact h5.2
        have := (rs_one H hf hle 0).2
        rw [Nat.add_zero] at this
        rw [q, e4, ug_eq]
        unfold fcn
        rw [this]
        show (0 : Int) = Int.tdiv 0 _
        rw [Int.zero_tdiv]
      · rw [e4, ug_k _ _ q]; exact h2 d d1 (by omega)
    · rw [Nat.add_sub_cancel]
      have hle : dd co (rs p co mk f c) ≤ 1 := by
        rcases h5 with rfl | h5
        · omega
        · exact h5.2
      refine Or.inr ⟨by omega, ?_⟩
      have := (rs_one H hf hle 1).1
      rw [this, dd_one H]; omega
    · have h6 : w = rs p co mk f c := by
        rcases h5 with h5 | h5
        · exact h5
        · omega
      subst h6
      refine spec_X10_takesDegree H (by rw [f4.1 305 (by omega)]; exact hA.1) (tr4 h4) hrs.1 (by omega) (by omega) (fun σ5 k5 m5 n5 => ?_)
      have hdp : gc co (rs p co mk f c) (xx p mk ^ (p ^ (c + 1)) - xx p mk) = dp p co mk f (c + 1) := rfl
      have hqu : qu co (rs p co mk f c) (dp p co mk f (c + 1)) = rs p co mk f (c + 1) := rfl
      rw [hdp] at m5 n5
      rw [hqu] at n5
      refine spec_X10_degree H m5 ?_
      have hfr := fcn_rng H hf hd.2 (d := c + 1) (by omega)
      unfold fcn at hfr
      refine ⟨by omega, by omega, by omega, ?_⟩
      rintro σ6 e6
      rw [Int.toNat_natCast] at e6
      have u6 : ∀ i, i ≠ 315 → σ6 i = σ5 i := fun i hi => by rw [e6, ug_ne _ hi]
      have tr6 : ∀ {q : Int} {x : R}, Rr co σ5 q x → Rr co σ6 q x := fun hx => ⟨hx.1, fun k hk => by rw [u6 308 (by decide)]; exact hx.2.1 k hk, hx.2.2⟩
      refine ⟨by omega, hr _ ⟨f4.tr ((FrR.ofT k5).tr ⟨fun i hi => u6 i (by omega), by rw [u6 30 (by decide)], fun k _ => by rw [u6 304 (by decide)]⟩), fun d d1 d2 => ?_, tr6 (Rr_ft (tr4 h3) k5 (by decide)), _, tr6 n5, Or.inl (by rw [Nat.add_sub_cancel])⟩⟩
      by_cases q : d = c + 1
      · rw [q, e6, ug_eq]
        rfl
      · rw [e6, ug_k _ _ q, k5.1 315 (by decide) (by decide), e4, ug_k _ _ q]
        exact h2 d d1 (by omega)
  · rintro σ3 r ⟨h1, h2, h3, h4⟩
    exact ⟨fun _ => hQ σ3 h1 (fun d d1 d6 => h2 d d1 (by omega)) h3, fun h => absurd (by decide) h⟩
