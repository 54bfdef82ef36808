/-! quotients: what both sides answer -/
noncomputable def qe {R : Type} [Lean.Grind.CommRing R] (co : R → Nat → Int) (f b : R) : R := @Classical.epsilon R ⟨0⟩ (Qe co f b)
theorem qe_ex {R : Type} [Lean.Grind.CommRing R] {p : Nat} {co : R → Nat → Int} {mk : (Nat → Int) → R} (H : PD p co mk) {f : R} (b : R) (hf : f ≠ 0) (hs : SF p co mk f) : ∃ e, Qe co f b e := by
  obtain ⟨h1, h2⟩ := quot_cp H (b := b) hf hs
  obtain ⟨h3, -⟩ := qu_gc H (b := b) hf
  obtain ⟨s, i, h4⟩ := Cp_mul (Cp_sym h1) h2
  refine ⟨rm co (gc co f b * i) f, (rm_spec H _ hf).2, ?_⟩
  refine qe_st (i := i) h3 (cg_sym (rm_dv H _ hf)) ⟨-s, ?_⟩
  generalize qu co f (gc co f b) = k at h4 ⊢
  generalize gc co f b = c at h4 ⊢
  grind
theorem qe_spec {R : Type} [Lean.Grind.CommRing R] {p : Nat} {co : R → Nat → Int} {mk : (Nat → Int) → R} (H : PD p co mk) {f b : R} (hf : f ≠ 0) (hs : SF p co mk f) : Qe co f b (qe co f b) := @Classical.epsilon_spec R (Qe co f b) (qe_ex H b hf hs)
theorem qe_st2 {R : Type} [Lean.Grind.CommRing R] {c k b e e2 : R} (h : Cp k b) (h1 : Dv k (e * b - 1)) (h2 : Dv k (e2 * b - 1)) : Dv k (e - e2) := by
  refine Cp_dv h ?_
  have h3 := Dv_sub h1 h2
  rw [show e * b - 1 - (e2 * b - 1) = b * (e - e2) by grind] at h3
  exact h3
theorem qe_of {R : Type} [Lean.Grind.CommRing R] {p : Nat} {co : R → Nat → Int} {mk : (Nat → Int) → R} (H : PD p co mk) {f b e : R} (hf : f ≠ 0) (hs : SF p co mk f) (h : Qe co f b e) : e = qe co f b := by
  obtain ⟨h1, h2⟩ := quot_cp H (b := b) hf hs
  obtain ⟨h3, -⟩ := qu_gc H (b := b) hf
  obtain ⟨a1, a2, a3⟩ := h
  obtain ⟨b1, b2, b3⟩ := qe_spec H (b := b) hf hs
  have h4 : Dv f (e - qe co f b) := by
    have h6 := Cp_mul_dv h1 (Dv_sub a2 b2) (qe_st2 (c := gc co f b) h2 a3 b3)
    rw [← h3] at h6
    exact h6
  have h5 := Dv_small H h4 (by have := dd_sub_le H (a := e) (b := qe co f b) (n := dd co f - 1) (by omega) (by omega); have := dd_pos H hf; omega)
  grind
/-- the parts are not mixed -/
theorem dvg_kd0 {R : Type} [Lean.Grind.CommRing R] {p : Nat} {co : R → Nat → Int} {mk : (Nat → Int) → R} (H : PD p co mk) {a g : R} (hg : mon co g) : kd co a g = 0 ↔ Dv g a := by
  unfold kd
  rw [← gc_dd_self H hg]
  constructor
  · intro h
    split at h
    · assumption
    · split at h <;> cases h
  · intro h
    rw [if_pos h]
theorem kd1_cp {R : Type} [Lean.Grind.CommRing R] {p : Nat} {co : R → Nat → Int} {mk : (Nat → Int) → R} (H : PD p co mk) {a g : R} (hg : g ≠ 0) (h : kd co a g = 1) : Cp g a := by
  unfold kd at h
  split at h
  · cases h
  · split at h
    · exact (gc_dd1 H (Or.inl hg)).mp (by assumption)
    · cases h
theorem ptl_mem {R : Type} [Lean.Grind.CommRing R] {co : R → Nat → Int} {a x : R} {L : List R} (h : x ∈ ptl co a L) : ∃ g ∈ L, x ∈ pt1 co a g := by
  unfold ptl at h
  exact List.mem_flatMap.mp h
theorem pt1_kd {R : Type} [Lean.Grind.CommRing R] {p : Nat} {co : R → Nat → Int} {mk : (Nat → Int) → R} (H : PD p co mk) {a g x : R} (hg : mon co g) (hs : SF p co mk g) (hx : x ∈ pt1 co a g) : ¬ mixed co a x := by
  by_cases hm : mixed co a g
  · rw [pt1_y hm] at hx
    obtain ⟨m1, m2, m3, m4⟩ := mixed_fac H hg hm
    rcases List.mem_cons.mp hx with rfl | hx
    · rw [kd_mixed H (mon_ne H m1), (dvg_kd0 H m1).mpr (gc_r H g a)]
      decide
    · rw [List.mem_singleton.mp hx]
      have h1 := (quot_cp H (b := a) (mon_ne H hg) hs).2
      have h2 := (gc_dd1 H (Or.inl (mon_ne H m2))).mpr h1
      intro h3
      have := h3.1
      omega
  · rw [pt1_n hm] at hx
    rw [List.mem_singleton.mp hx]
    exact hm
theorem ptl_kd {R : Type} [Lean.Grind.CommRing R] {p : Nat} {co : R → Nat → Int} {mk : (Nat → Int) → R} (H : PD p co mk) {a f x : R} {L : List R} (hL : GL co f L) (hs : SF p co mk f) (hx : x ∈ ptl co a L) : ¬ mixed co a x := by
  obtain ⟨g, hg, hx⟩ := ptl_mem hx
  have h := GL_mem H hL hg
  exact pt1_kd H h.1 (SF_dv H hs h.2.2.1) hx
theorem kd_cases {R : Type} [Lean.Grind.CommRing R] (co : R → Nat → Int) (a g : R) : kd co a g = 0 ∨ kd co a g = 1 ∨ kd co a g = 2 := by
  unfold kd
  split
  · exact Or.inl rfl
  · split
    · exact Or.inr (Or.inl rfl)
    · exact Or.inr (Or.inr rfl)
theorem GL_eq {R : Type} [Lean.Grind.CommRing R] {p : Nat} {co : R → Nat → Int} {mk : (Nat → Int) → R} (H : PD p co mk) {f x : R} {L : List R} (hL : GL co f L) (hs : SF p co mk f) (hd : dd co x < dd co f) (h : ∀ g ∈ L, Dv g x) : x = 0 := by
  have h1 := pr_dv (GL_cp H hL hs) h
  rw [hL.2] at h1
  exact Dv_small H h1 hd
/-- the sum on the way: the quotient in the branches that are done, nothing in the others -/
def Sway {R : Type} [Lean.Grind.CommRing R] (co : R → Nat → Int) (f a b : R) (L : List R) (k : Nat) (s : R) : Prop := dd co s < dd co f ∧ ∀ i g, L[i]? = some g → Dv g (s - if i < k then a * qe co f b else 0)
theorem Sway_end {R : Type} [Lean.Grind.CommRing R] {p : Nat} {co : R → Nat → Int} {mk : (Nat → Int) → R} (H : PD p co mk) {f a b s : R} {L : List R} (hf : f ≠ 0) (hL : GL co f L) (hs : SF p co mk f) (h : Sway co f a b L L.length s) : s = rm co (a * qe co f b) f := by
  have h1 : s - rm co (a * qe co f b) f = 0 := GL_eq H hL hs (by
    have h2 := (rm_spec H (a * qe co f b) hf).2
    have h3 := h.1
    have := dd_sub_le H (a := s) (b := rm co (a * qe co f b) f) (n := dd co f - 1) (by omega) (by omega)
    omega) (fun g hg => by
    obtain ⟨i, hi⟩ := List.getElem?_of_mem hg
    have h4 := h.2 i g hi
    rw [if_pos (List.getElem?_eq_some_iff.mp hi).1] at h4
    exact cg_tr h4 (Dv_tr (GL_mem H hL hg).2.2.1 (rm_dv H _ hf)))
  grind
theorem Sway_n {R : Type} [Lean.Grind.CommRing R] {p : Nat} {co : R → Nat → Int} {mk : (Nat → Int) → R} (H : PD p co mk) {f a b s g : R} {L : List R} {k : Nat} (hf : f ≠ 0) (hL : GL co f L) (hs : SF p co mk f) (h : Sway co f a b L k s) (hg : L[k]? = some g) (h0 : kd co b g = 0) : Sway co f a b L (k + 1) s := by
  refine ⟨h.1, fun i x hx => ?_⟩
  have h1 := h.2 i x hx
  by_cases q : i = k
  · subst q
    rw [hg] at hx
    cases hx
    rw [if_neg (by omega)] at h1
    rw [if_pos (by omega)]
    have hm := GL_mem H hL (List.mem_of_getElem? hg)
    have h2 := (dvg_kd0 H hm.1).mp h0
    have h3 : Dv g (gc co f b) := gc_dv H hm.2.2.1 h2
    have h4 := Dv_mull a (Dv_tr h3 (qe_spec H (b := b) hf hs).2.1)
    have h5 := Dv_sub h1 h4
    rw [show s - 0 - a * qe co f b = s - a * qe co f b by grind] at h5
    exact h5
  · by_cases q2 : i < k
    · rw [if_pos q2] at h1
      rw [if_pos (by omega)]
      exact h1
    · rw [if_neg q2] at h1
      rw [if_neg (by omega)]
      exact h1
theorem quo_st {R : Type} [Lean.Grind.CommRing R] {g s v a i b e u : R} (h1 : Dv g (a * i - v)) (h2 : Dv g (b * i - 1)) (h3 : Dv g (e * b - 1)) (h4 : Dv g (u - 1)) : Dv g (u * v - a * e) := by
  obtain ⟨x1, h1⟩ := h1
  obtain ⟨x2, h2⟩ := h2
  obtain ⟨x3, h3⟩ := h3
  obtain ⟨x4, h4⟩ := h4
  exact ⟨x4 * v - x1 + a * (e * x2) - a * (i * x3), by grind⟩
theorem Sway_y {R : Type} [Lean.Grind.CommRing R] {p : Nat} {co : R → Nat → Int} {mk : (Nat → Int) → R} (H : PD p co mk) {f a b s g i v u t : R} {L : List R} {k : Nat} (hf : f ≠ 0) (hL : GL co f L) (hs : SF p co mk f) (h : Sway co f a b L k s) (hg : L[k]? = some g) (h1 : kd co b g = 1) (hi : Dv g (b * i - 1)) (hv : Dv g (i * a - v)) (hu : Ue co f g u) (ht : Dv f (u * v - t)) (hd : dd co t < dd co f) : Sway co f a b L (k + 1) (s + t) := by
  have hm := GL_mem H hL (List.mem_of_getElem? hg)
  have hgf := hm.2.2.1
  have hdf := dd_pos H hf
  refine ⟨by have := dd_add_le H (a := s) (b := t) (n := dd co f - 1) (by have := h.1; omega) (by omega); omega, fun j x hx => ?_⟩
  have h2 := h.2 j x hx
  have hmx := GL_mem H hL (List.mem_of_getElem? hx)
  by_cases q : j = k
  · subst q
    rw [hg] at hx
    cases hx
    rw [if_neg (by omega)] at h2
    rw [if_pos (by omega)]
    have hq := qe_spec H (b := b) hf hs
    have hc := kd1_cp H (mon_ne H hm.1) h1
    have h3 : Dv g (qu co f (gc co f b)) := by
      have h4 := (qu_gc H (b := b) hf).1
      refine Cp_dv (Cp_sub2 hc (gc_r H f b)) ?_
      rw [← h4]; exact hgf
    have h5 := Dv_tr h3 hq.2.2
    rw [show i * a = a * i by rw [Lean.Grind.CommSemiring.mul_comm]] at hv
    have h6 := quo_st (s := s) hv hi h5 hu.2.1
    have h7 := Dv_tr hgf ht
    have h8 := Dv_add h2 (Dv_sub h6 h7)
    rw [show s - 0 + (u * v - a * qe co f b - (u * v - t)) = s + t - a * qe co f b by grind] at h8
    exact h8
  · have hcp : Cp g x := by
      have hpw := List.pairwise_iff_getElem.mp (GL_cp H hL hs)
      have gk := List.getElem?_eq_some_iff.mp hg
      have gj := List.getElem?_eq_some_iff.mp hx
      rcases Nat.lt_or_ge j k with e | e
      · have := hpw j k gj.1 gk.1 e
        rw [gj.2, gk.2] at this
        exact Cp_sym this
      · have := hpw k j gk.1 gj.1 (by omega)
        rw [gj.2, gk.2] at this
        exact this
    have h3 : Dv x (qu co f g) := by
      have h4 := (dv_split H (by
        have hgl := hL.2
        rw [← hgl]; exact pr_mon H (fun y hy => (hL.1 y hy).1)) hm.1 hgf).2
      refine Cp_dv (Cp_sym hcp) ?_
      rw [← h4]; exact hmx.2.2.1
    have h5 : Dv x t := by
      have h6 := Dv_sub (Dv_mulr v (Dv_tr h3 hu.2.2)) (Dv_tr hmx.2.2.1 ht)
      rw [show u * v - (u * v - t) = t by grind] at h6
      exact h6
    have h6 := Dv_add h2 h5
    by_cases q2 : j < k
    · rw [if_pos q2] at h6
      rw [if_pos (by omega)]
      rw [show s - a * qe co f b + t = s + t - a * qe co f b by grind] at h6
      exact h6
    · rw [if_neg q2] at h6
      rw [if_neg (by omega)]
      rw [show s - 0 + t = s + t - 0 by grind] at h6
      exact h6
def QN : List Int := [1, 3, 4, 5, 6, 7, 8, 9, 10, 11, 12, 13, 16, 17]
theorem nin_QN {u : Int} (h : 20 ≤ u) : u ∉ QN := by
  unfold QN
  simp only [List.mem_cons, List.not_mem_nil, or_false]
  omega
theorem spec_X10_quotient {R : Type} [Lean.Grind.CommRing R] {p : Nat} {co : R → Nat → Int} {mk : (Nat → Int) → R} (H : PD p co mk) {σ : SG} {u v w : Int} {a b f : R} {L : List R} {Q : SG → Prop} (hσ : σ 305 0 = p) (h0 : Rr co σ 0 f) (hf : mon co f) (hfd : dd co f ≤ 7) (hs : SF p co mk f) (hS : Bl co σ L) (hL : GL co f L) (ha : Rr co σ u a) (hb : Rr co σ v b) (hu : 20 ≤ u) (hv : 20 ≤ v) (hw : 20 ≤ w ∧ w < 60) (hda : dd co a < dd co f) (hdb : dd co b < dd co f) (hQ : ∀ σ' L', FN σ σ' (w :: QN) → Bl co σ' L' → L'.Perm (ptl co b L) → Srt co L' → GL co f L' → Rr co σ' w (rm co (a * qe co f b) f) → Q σ') : wp_X10_quotient σ u v w Q := by
  unfold wp_X10_quotient
  have hf0 := mon_ne H hf
  refine spec_X10_parts H hσ hS hL hfd hb (fun e => nin_QN hv (by revert e; unfold PN QN; simp only [List.mem_cons, List.not_mem_nil, or_false]; omega)) (fun σ1 L1 f1 S1 p1 s1 G1 => ?_)
  have hPQ : ∀ t ∈ PN, t ∈ QN := by decide
  have f1 := f1.mono hPQ
  refine spec_X10_clears H (by omega) (fun σ2 k1 z2 => ?_)
  have f2 : FN σ σ2 QN := f1.tr (FN.of (k1.mono (by decide)))
  have S2 : Bl co σ2 L1 := Bl_eq S1 k1.p
  have b2 := S1.2.1
  refine Lp1_m (fun x σ' => ∃ (k : Nat) (s : R), x = k ∧ k ≤ L1.length ∧ FN σ σ' QN ∧ Bl co σ' L1 ∧ Rr co σ' 3 s ∧ Sway co f a b L1 k s) (fun x _ => (7 - x).toNat) ⟨0, 0, rfl, by omega, f2, S2, z2, by rw [dd_zero H]; exact dd_pos H hf0, fun i g _ => by rw [if_neg (by omega)]; exact ⟨0, by grind⟩⟩ ?_
  rintro x σ3 r ⟨k, s, rfl, hk, f3, S3, z3, w3⟩ hr
  rw [S3.1]
  refine ⟨fun h => ?_, fun h => ?_⟩
  · have hk2 : k = L1.length := by omega
    rw [hk2] at w3
    refine spec_X10_copies H z3 (by omega) (fun σ4 m1 m2 => hQ σ4 L1 ((f3.mono (fun t h => List.mem_cons_of_mem _ h)).tr (FN.of (m1.mono (by simp)))) (Bl_eq S3 m1.p) p1 s1 G1 ?_)
    rw [← Sway_end H hf0 G1 hs w3]
    exact m2
  have hlt : k < L1.length := by omega
  have hg : L1[k]? = some L1[k] := List.getElem?_eq_getElem hlt
  generalize L1[k] = g at hg
  have hm := GL_mem H G1 (List.mem_of_getElem? hg)
  have hg0 := mon_ne H hm.1
  refine spec_X10_loadsBranch H S3 hg (by omega) (fun σ4 k4 g4 => ?_)
  have f4 : FN σ σ4 QN := f3.tr (FN.of (k4.mono (by decide)))
  have p4 : σ4 305 0 = p := by rw [f4.2.1 0 (by decide)]; exact hσ
  have b4 := Rr_fn hb f4 (nin_QN hv)
  refine spec_X10_kindIn H p4 g4 b4 (by omega) hg0 (fun σ5 k5 => ?_)
  have f5 : FN σ σ5 QN := f4.tr (FN.of (k5.mono (by decide)))
  have S5 : Bl co σ5 L1 := Bl_eq S3 (by rw [k5.p, k4.p])
  have g5 := Rr_ft g4 k5 (by decide)
  have z5 := Rr_ft (Rr_ft z3 k4 (by decide)) k5 (by decide)
  have p5 : σ5 305 0 = p := by rw [f5.2.1 0 (by decide)]; exact hσ
  have b5 := Rr_fn hb f5 (nin_QN hv)
  have a5 := Rr_fn ha f5 (nin_QN hu)
  have c5 := Rr_fn h0 f5 (by decide)
  have hnm : kd co b g ≠ 2 := fun e => ptl_kd H hL hs (p1.mem_iff.mp (List.mem_of_getElem? hg)) ((kd_mixed H hg0).mpr e)
  refine ⟨fun h5 => ?_, fun h5 => ?_⟩
  · have hk0 : kd co b g = 0 := by
      rcases kd_cases co b g with e | e | e
      · exact e
      · exact absurd e h5
      · exact absurd e hnm
    exact ⟨by omega, hr _ _ ⟨k + 1, s, by omega, by omega, f5, S5, z5, Sway_n H hf0 G1 hs w3 hg hk0⟩ (by omega)⟩
  have hcp := kd1_cp H hg0 h5
  obtain ⟨i1, i2⟩ := ivm_spec H hg0 (Cp_sym hcp)
  refine spec_X10_inverts H p5 b5 g5 (by omega) (by omega) (by decide) (by decide) (by omega) hcp (fun σ6 k6 i6 => ?_)
  have f6 : FN σ σ6 QN := f5.tr (FN.of (k6.mono (by decide)))
  have p6 : σ6 305 0 = p := by rw [f6.2.1 0 (by decide)]; exact hσ
  have a6 := Rr_fn ha f6 (nin_QN hu)
  have g6 := Rr_ft g5 k6 (by decide)
  have z6 := Rr_ft z5 k6 (by decide)
  refine spec_X10_multiplies H p6 i6 a6 (by omega) (by omega) (fun σ7 k7 i7 => ?_)
  have f7 : FN σ σ7 QN := f6.tr (FN.of (k7.mono (by decide)))
  have p7 : σ7 305 0 = p := by rw [f7.2.1 0 (by decide)]; exact hσ
  have g7 := Rr_ft g6 k7 (by decide)
  have z7 := Rr_ft z6 k7 (by decide)
  refine spec_X10_divides H p7 i7 g7 (by decide) (by decide) (by decide) (by decide) hg0 (fun σ8 k8 v8 _ => ?_)
  have k8 : FT σ7 σ8 [4] := FT_w k8 (by decide)
  have f8 : FN σ σ8 QN := f7.tr (FN.of (k8.mono (by decide)))
  have p8 : σ8 305 0 = p := by rw [f8.2.1 0 (by decide)]; exact hσ
  have g8 := Rr_ft g7 k8 (by decide)
  have z8 := Rr_ft z7 k8 (by decide)
  refine spec_X10_copies H v8 (by omega) (fun σ9 k9 v9 => ?_)
  have f9 : FN σ σ9 QN := f8.tr (FN.of (k9.mono (by decide)))
  have p9 : σ9 305 0 = p := by rw [f9.2.1 0 (by decide)]; exact hσ
  have g9 := Rr_ft g8 k9 (by decide)
  have z9 := Rr_ft z8 k9 (by decide)
  have c9 := Rr_fn h0 f9 (by decide)
  refine spec_X10_unitOf H p9 c9 g9 hf hfd hs hm.1 hm.2.2.1 hm.2.1 (by omega) (by decide) (by decide) (fun σA u kA hu1 uA => ?_)
  have fA : FN σ σA QN := f9.tr (FN.of (kA.mono (by decide)))
  have pA : σA 305 0 = p := by rw [fA.2.1 0 (by decide)]; exact hσ
  have vA := Rr_ft v9 kA (by decide)
  have zA := Rr_ft z9 kA (by decide)
  have hvd := (rm_spec H (ivm co b g * a) hg0).2
  have hud := hu1.1
  refine spec_X10_multiplies H pA uA vA (by omega) (by omega) (fun σB kB tB => ?_)
  have fB : FN σ σB QN := fA.tr (FN.of (kB.mono (by decide)))
  have pB : σB 305 0 = p := by rw [fB.2.1 0 (by decide)]; exact hσ
  have cB := Rr_fn h0 fB (by decide)
  have zB := Rr_ft zA kB (by decide)
  refine spec_X10_divides H pB tB cB (by decide) (by decide) (by decide) (by decide) hf0 (fun σC kC tC _ => ?_)
  have kC : FT σB σC [4] := FT_w kC (by decide)
  have fC : FN σ σC QN := fB.tr (FN.of (kC.mono (by decide)))
  have pC : σC 305 0 = p := by rw [fC.2.1 0 (by decide)]; exact hσ
  have zC := Rr_ft zB kC (by decide)
  refine spec_X10_adds H pC tC zC (by decide) (by decide) (fun σD kD tD => ?_)
  have fD : FN σ σD QN := fC.tr (FN.of (kD.mono (by decide)))
  have SD : Bl co σD L1 := Bl_eq S5 (by rw [kD.p, kC.p, kB.p, kA.p, k9.p, k8.p, k7.p, k6.p])
  rw [mo_1 H, show s + 1 * rm co (u * rm co (ivm co b g * a) g) f = s + rm co (u * rm co (ivm co b g * a) g) f by grind] at tD
  exact ⟨by omega, hr _ _ ⟨k + 1, _, by omega, by omega, fD, SD, tD, Sway_y H hf0 G1 hs w3 hg h5 i2 (rm_dv H _ hg0) hu1 (rm_dv H _ hf0) (rm_spec H _ hf0).2⟩ (by omega)⟩
