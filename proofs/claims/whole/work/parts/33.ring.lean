/-! Ring: numbers modulo the modulus (polynomial 2) -/
def Md {R : Type} [Lean.Grind.CommRing R] (p : Nat) (co : R → Nat → Int) (σ : SG) (f : R) : Prop := σ 1 0 = p ∧ Rp co σ 2 f ∧ mon co f ∧ 2 ≤ dd co f ∧ dd co f ≤ 7
theorem Md_frL {R : Type} [Lean.Grind.CommRing R] {p : Nat} {co : R → Nat → Int} {mk : (Nat → Int) → R} (H : PD p co mk) {σ σ' : SG} {f : R} {L : List Nat} (h : Md p co σ f) (hL : ∀ t ∈ L, KT.getD t 99 = 4) (h2 : 2 ∉ L) (hf : FrL σ σ' L) : Md p co σ' f :=
  ⟨by rw [hf.p hL]; exact h.1, Rp_frL h.2.1 hL h2 hf, h.2.2⟩
theorem Md_fr1 {R : Type} [Lean.Grind.CommRing R] {p : Nat} {co : R → Nat → Int} {mk : (Nat → Int) → R} (H : PD p co mk) {σ σ' : SG} {f : R} {t : Nat} (h : Md p co σ f) (ht : KT.getD t 99 = 4) (h2 : t ≠ 2) (hf : Fr1 σ σ' t) : Md p co σ' f :=
  Md_frL H h (L := [t]) (cons_P ht (fun _ h => by cases h)) (nin_cons (Ne.symm h2) (fun h => by cases h)) (FrL.of hf (by simp))
theorem Md_ne {R : Type} [Lean.Grind.CommRing R] {p : Nat} {co : R → Nat → Int} {mk : (Nat → Int) → R} (H : PD p co mk) {σ : SG} {f : R} (h : Md p co σ f) : f ≠ 0 := mon_ne H h.2.2.1
theorem spec_X6_becomeVariable {R : Type} [Lean.Grind.CommRing R] {p : Nat} {co : R → Nat → Int} {mk : (Nat → Int) → R} (H : PD p co mk) {σ : SG} {t : Nat} {f : R} {Q : SG → Prop} (hM : Md p co σ f) (ht : KT.getD t 99 = 4) (h2 : t ≠ 2) (h36 : t ≠ 36) (hQ : ∀ σ', FrL σ σ' [t, 36] → Rp co σ' t (rm co (xx p mk) f) → Q σ') : wp_X6_becomeVariable σ t Q := by
  unfold wp_X6_becomeVariable
  refine spec_X4_becomeVariable H ht (fun σ1 h1 h3 => ?_)
  have hM1 := Md_fr1 H hM ht h2 h1
  exact spec_X2_reduce H hM1.1 h3 hM1.2.1 h2 (by decide) h36 (Md_ne H hM) (fun σ2 k1 k2 => hQ σ2 ((FrL.of h1 (by simp)).tr (k1.mono (by simp))) k2)
theorem spec_X6_multiply {R : Type} [Lean.Grind.CommRing R] {p : Nat} {co : R → Nat → Int} {mk : (Nat → Int) → R} (H : PD p co mk) {σ : SG} {t u v : Nat} {a b f : R} {Q : SG → Prop} (hM : Md p co σ f) (ht : KT.getD t 99 = 4) (ha : Rp co σ u a) (hb : Rp co σ v b) (hu : u ≠ 34) (hv : v ≠ 34) (h2 : t ≠ 2) (h49 : t ≠ 49) (hd : dd co a + dd co b ≤ 14) (hQ : ∀ σ', FrL σ σ' [t, 34, 49] → Rp co σ' t (rm co (a * b) f) → Q σ') : wp_X6_multiply σ t u v Q := by
  unfold wp_X6_multiply
  refine spec_X2_multiply H hM.1 ht ha hb hu hv hd (fun σ1 h1 h3 => ?_)
  have hP : ∀ s ∈ [t, 34], KT.getD s 99 = 4 := cons_P ht (by decide +kernel)
  have hM1 := Md_frL H hM hP (nin_cons (Ne.symm h2) (by decide)) h1
  exact spec_X2_divide H hM1.1 h3 hM1.2.1 kt49 h2 (by decide) h49 (Md_ne H hM) (fun σ2 k1 k2 _ => hQ σ2 ((h1.mono (by simp)).tr (k1.mono (by simp))) k2)
theorem spec_X6_add {R : Type} [Lean.Grind.CommRing R] {p : Nat} {co : R → Nat → Int} {mk : (Nat → Int) → R} (H : PD p co mk) {σ : SG} {t u : Nat} {a b : R} {z : Int} {Q : SG → Prop} (hσ : σ 1 0 = p) (ha : Rp co σ t a) (hb : Rp co σ u b) (hQ : ∀ σ', Fr1 σ σ' t → Rp co σ' t (if z = 0 then a + b else a - b) → Q σ') : wp_X6_add σ t u z Q := by
  unfold wp_X6_add
  have hp := pd_p H
  refine ⟨fun x σ' => σ' = σ ∧ (x = 1 ∧ z = 0 ∨ x = -1 ∧ z ≠ 0), ?_, ?_⟩
  · rintro x σ1 ⟨rfl, hx⟩
    rw [hσ]
    have hb13 := hb.2.2.1
    refine spec_X4_addMultiple H ha hb (by omega) (by omega) (by omega) (fun _ => rfl) (fun σ' h1 h2 => hQ σ' h1 ?_)
    have h3 : a + mo p mk x (0 : Int).toNat * b = if z = 0 then a + b else a - b := by
      show a + mo p mk x 0 * b = _
      rcases hx with ⟨rfl, hz⟩ | ⟨rfl, hz⟩
      · rw [if_pos hz, mo_1 H]; grind
      · rw [if_neg hz, mo_neg H, mo_1 H]; grind
    rw [h3] at h2
    exact h2
  · exact ⟨fun h => ⟨rfl, Or.inl ⟨rfl, h⟩⟩, fun h => ⟨rfl, Or.inr ⟨rfl, h⟩⟩⟩
theorem iand1 {n : Nat} (h : n < 2147483648) : iand (n : Int) 1 = ((n % 2 : Nat) : Int) := by
  unfold iand
  have e1 : iI (n : Int) = nI n := Int32.ofInt_eq_ofNat
  have e2 : iI 1 = nI 1 := rfl
  rw [e1, e2]
  have h3 := pk_andN (n := n) (by omega) (m := nI 1) 1 (by decide)
  rw [h3, nI_toInt (by omega)]
theorem ishr1 {n : Nat} (h : n < 2147483648) : ishr (n : Int) 1 = ((n / 2 : Nat) : Int) := by
  unfold ishr
  have e1 : iI (n : Int) = nI n := Int32.ofInt_eq_ofNat
  rw [e1]
  have h3 := pk_shrN (n := n) (by omega) (iI 1 &&& 31) 1 (by decide)
  rw [h3, nI_toInt (by omega)]
theorem pw_even {R : Type} [Lean.Grind.CommRing R] (s : R) (n : Nat) : (s * s) ^ n = s ^ (2 * n) := by
  rw [Nat.mul_comm, show n * 2 = n + n by omega, pw_add, mul_pw]
theorem raise_st1 {R : Type} [Lean.Grind.CommRing R] {f a r s r2 s2 : R} {e n : Nat} (h : Dv f (r * s ^ n - a ^ e)) (hn : n % 2 = 1) (h1 : Dv f (r2 - r * s)) (h2 : Dv f (s2 - s * s)) : Dv f (r2 * s2 ^ (n / 2) - a ^ e) := by
  have e1 : r * s ^ n = r * s * (s * s) ^ (n / 2) := by
    rw [pw_even]
    conv => lhs; rw [show n = 2 * (n / 2) + 1 by omega, pw_s]
    grind
  rw [e1] at h
  exact cg_tr (cg_mul h1 (cg_pw h2 _)) h
theorem raise_st0 {R : Type} [Lean.Grind.CommRing R] {f a r s s2 : R} {e n : Nat} (h : Dv f (r * s ^ n - a ^ e)) (hn : n % 2 = 0) (h2 : Dv f (s2 - s * s)) : Dv f (r * s2 ^ (n / 2) - a ^ e) := by
  have e1 : r * s ^ n = r * (s * s) ^ (n / 2) := by
    rw [pw_even]
    conv => lhs; rw [show n = 2 * (n / 2) by omega]
  rw [e1] at h
  exact cg_tr (cg_mul (cg_rf f r) (cg_pw h2 _)) h
theorem spec_X6_raise {R : Type} [Lean.Grind.CommRing R] {p : Nat} {co : R → Nat → Int} {mk : (Nat → Int) → R} (H : PD p co mk) {σ : SG} {t u : Nat} {a f : R} {e : Nat} {Q : SG → Prop} (hM : Md p co σ f) (ht : KT.getD t 99 = 4) (ha : Rp co σ u a) (hda : dd co a < dd co f) (he : e < 2147483648) (h2 : t ≠ 2) (h49 : t ≠ 49) (h34 : t ≠ 34) (h51 : t ≠ 51) (hQ : ∀ σ', FrL σ σ' [t, 34, 49, 51] → Rp co σ' t (rm co (a ^ e) f) → Q σ') : wp_X6_raise σ t u e Q := by
  unfold wp_X6_raise
  have hp := pd_p H
  have hf0 := Md_ne H hM
  have hP : ∀ s ∈ [t, 34, 49, 51], KT.getD s 99 = 4 := cons_P ht (by decide +kernel)
  have h2n : 2 ∉ [t, 34, 49, 51] := nin_cons (Ne.symm h2) (by decide)
  refine spec_X4_copy H kt51 ha (fun σ1 h1 h3 => spec_X4_becomeConstant H ht (v := 1) (by omega) (fun σ2 h4 h5 => ?_))
  rw [mo_1 H] at h5
  have h6 := Rp_fr1 h3 ht (Ne.symm h51) h4
  refine Lp1_m (fun x σ' => FrL σ σ' [t, 34, 49, 51] ∧ ∃ (n : Nat) (r s : R), x = n ∧ n < 2147483648 ∧ Rp co σ' t r ∧ Rp co σ' 51 s ∧ dd co r < dd co f ∧ dd co s < dd co f ∧ Dv f (r * s ^ n - a ^ e)) (fun x _ => x.toNat) ⟨(FrL.of h1 (by simp)).tr (FrL.of h4 (by simp)), e, 1, a, rfl, he, h5, h6, by rw [dd_one H]; have := hM.2.2.2.1; omega, hda, ⟨0, by grind⟩⟩ ?_
  rintro x σ3 rc ⟨g1, n, r, s, rfl, g2, g3, g4, g5, g6, g7⟩ hr
  have hM3 := Md_frL H hM hP h2n g1
  have h7 := hM.2.2.2.2
  refine ⟨fun h => ?_, fun h => ?_⟩
  · have h0 : n = 0 := by omega
    rw [h0, pw_0] at g7
    refine hQ _ g1 ?_
    rw [rm_cg H (r := r) g5 (cg_sym (by rw [show r = r * 1 by grind]; exact g7))]
    exact g3
  · rw [iand1 g2, ishr1 g2]
    refine ⟨fun σ' => FrL σ σ' [t, 34, 49, 51] ∧ ∃ r2 : R, Rp co σ' t r2 ∧ Rp co σ' 51 s ∧ dd co r2 < dd co f ∧ ∀ s2 : R, Dv f (s2 - s * s) → Dv f (r2 * s2 ^ (n / 2) - a ^ e), ?_, ?_⟩
    · rintro σ4 ⟨k1, r2, k2, k3, k4, k5⟩
      have hM4 := Md_frL H hM hP h2n k1
      refine ⟨fun h8 => ?_, fun h8 => ?_⟩
      · rintro v rfl
        have hn1 : n = 1 := by omega
        refine hr _ _ ⟨k1, n / 2, r2, s, rfl, by omega, k2, k3, k4, g6, ?_⟩ (by omega)
        have h9 := k5 (s * s) (cg_rf f _)
        rw [hn1] at h9 ⊢
        rw [pw_0] at h9 ⊢
        exact h9
      · refine spec_X6_multiply H hM4 kt51 k3 k3 (by decide) (by decide) (by decide) (by decide) (by omega) (fun σ5 l1 l2 => ?_)
        rintro v rfl
        have l3 := Rp_frL k2 (by decide +kernel) (nin_cons h51 (nin_cons h34 (nin_cons h49 (fun h => by cases h)))) l1
        exact hr _ _ ⟨k1.tr (l1.mono (by simp)), n / 2, r2, _, rfl, by omega, l3, l2, k4, (rm_spec H _ hf0).2, k5 _ (cg_sym (rm_dv H _ hf0))⟩ (by omega)
    · refine ⟨fun h8 => ⟨g1, r, g3, g4, g5, fun s2 hs2 => raise_st0 g7 (by omega) hs2⟩, fun h8 => ?_⟩
      refine spec_X6_multiply H hM3 ht g3 g4 h34 (by decide) h2 h49 (by omega) (fun σ5 l1 l2 => ?_)
      exact ⟨g1.tr (l1.mono (by simp)), _, l2, Rp_frL g4 (cons_P ht (by decide +kernel)) (nin_cons (Ne.symm h51) (by decide)) l1, (rm_spec H _ hf0).2, fun s2 hs2 => raise_st1 g7 (by omega) (cg_sym (rm_dv H _ hf0)) hs2⟩
/-- what a quotient by b is multiplied with: nothing where b is nothing, the inverse where b can be inverted -/
def Qe {R : Type} [Lean.Grind.CommRing R] (co : R → Nat → Int) (f b e : R) : Prop := dd co e < dd co f ∧ Dv (gc co f b) e ∧ Dv (qu co f (gc co f b)) (e * b - 1)
theorem qu_gc {R : Type} [Lean.Grind.CommRing R] {p : Nat} {co : R → Nat → Int} {mk : (Nat → Int) → R} (H : PD p co mk) {f b : R} (hf : f ≠ 0) : f = gc co f b * qu co f (gc co f b) ∧ gc co f b ≠ 0 := by
  have hm := mon_ne H (gc_mon H (a := f) (b := b) (Or.inl hf))
  obtain ⟨c, hc⟩ := gc_l H f b
  have h := qu_mul H (a := c) hm
  refine ⟨?_, hm⟩
  have e : qu co f (gc co f b) = c := by
    have h2 := h.1
    rw [show c * gc co f b = f by rw [Lean.Grind.CommSemiring.mul_comm]; exact hc.symm] at h2
    exact h2
  rw [e]
  exact hc
theorem cof_cp {R : Type} [Lean.Grind.CommRing R] {c k b f u v : R} (h : Cp c k) (hf : f = c * k) (hc : c = u * f + v * b) : Cp k b := by
  obtain ⟨s, r, h⟩ := h
  exact ⟨s * u * c + r, s * v, by grind⟩
theorem quot_cp {R : Type} [Lean.Grind.CommRing R] {p : Nat} {co : R → Nat → Int} {mk : (Nat → Int) → R} (H : PD p co mk) {f b : R} (hf : f ≠ 0) (hs : SF p co mk f) : Cp (gc co f b) (qu co f (gc co f b)) ∧ Cp (qu co f (gc co f b)) b := by
  obtain ⟨h1, h2⟩ := qu_gc H (b := b) hf
  have h3 : Cp (gc co f b) (qu co f (gc co f b)) := SF_cp H (by rw [← h1]; exact hs)
  obtain ⟨u, v, h4⟩ := gc_comb H f b
  exact ⟨h3, cof_cp h3 h1 h4⟩
theorem qe_st {R : Type} [Lean.Grind.CommRing R] {c k b i e f : R} (hf : f = c * k) (h1 : Dv f (e - c * i)) (h2 : Dv k (c * b * i - 1)) : Dv c e ∧ Dv k (e * b - 1) := by
  obtain ⟨x, h1⟩ := h1
  obtain ⟨y, h2⟩ := h2
  exact ⟨⟨k * x + i, by grind⟩, ⟨c * x * b + y, by grind⟩⟩
theorem rm_st {R : Type} [Lean.Grind.CommRing R] {k w i r : R} (h1 : Dv k (w - r)) (h2 : Dv k (r * i - 1)) : Dv k (w * i - 1) := by
  obtain ⟨x, h1⟩ := h1
  obtain ⟨y, h2⟩ := h2
  exact ⟨x * i + y, by grind⟩
def RS : List Nat := [34, 36, 38, 40, 42, 44, 46, 49, 51, 53, 55, 57, 59, 61, 63]
theorem RS_P : ∀ t ∈ RS, KT.getD t 99 = 4 := by decide +kernel
def DS : List Nat := [34, 36, 38, 40, 42, 44, 46, 49, 53, 55, 57, 59]
theorem DS_P : ∀ t ∈ DS, KT.getD t 99 = 4 := by decide +kernel
theorem DS_RS : ∀ t ∈ DS, t ∈ RS := by decide
theorem spec_X6_divide {R : Type} [Lean.Grind.CommRing R] {p : Nat} {co : R → Nat → Int} {mk : (Nat → Int) → R} (H : PD p co mk) {σ : SG} {t u v : Nat} {a b f : R} {Q : SG → Prop} (hM : Md p co σ f) (hs : SF p co mk f) (ht : KT.getD t 99 = 4) (ha : Rp co σ u a) (hb : Rp co σ v b) (hu : u ∉ RS) (hv : v ∉ RS) (h2 : t ≠ 2) (htR : t ∉ RS) (hda : dd co a < dd co f) (hdb : dd co b < dd co f) (hQ : ∀ σ' e, FrL σ σ' (t :: DS) → Qe co f b e → Rp co σ' t (rm co (a * e) f) → Q σ') : wp_X6_divide σ t u v Q := by
  unfold wp_X6_divide
  have hp := pd_p H
  have hf0 := Md_ne H hM
  have h7 := hM.2.2.2.2
  obtain ⟨q1, q2⟩ := qu_gc H (b := b) hf0
  obtain ⟨q3, q4⟩ := quot_cp H (b := b) hf0 hs
  have hcd := Dv_dd H hf0 (gc_l H f b)
  have hk0 : qu co f (gc co f b) ≠ 0 := by
    intro e
    rw [e, rg_mulz] at q1
    exact hf0 q1
  have hkd := Dv_dd H hf0 (a := qu co f (gc co f b)) (b := f) ⟨gc co f b, by rw [Lean.Grind.CommSemiring.mul_comm]; exact q1⟩
  have hvn : ∀ s ∈ RS, v ≠ s := fun s hs e => hv (e ▸ hs)
  have hun : ∀ s ∈ RS, u ≠ s := fun s hs e => hu (e ▸ hs)
  refine spec_X2_commonFactor H hM.1 kt53 hM.2.1 hb (hvn 40 (by decide)) (fun σ1 h1 r53 => ?_)
  have P1 : ∀ s ∈ [53, 36, 40, 42], KT.getD s 99 = 4 := by decide +kernel
  have hM1 := Md_frL H hM P1 (by decide) h1
  have hb1 := Rp_frL hb P1 (nin_cons (hvn 53 (by decide)) (nin_cons (hvn 36 (by decide)) (nin_cons (hvn 40 (by decide)) (nin_cons (hvn 42 (by decide)) (fun h => by cases h))))) h1
  have ha1 := Rp_frL ha P1 (nin_cons (hun 53 (by decide)) (nin_cons (hun 36 (by decide)) (nin_cons (hun 40 (by decide)) (nin_cons (hun 42 (by decide)) (fun h => by cases h))))) h1
  refine spec_X2_divideWhole H hM1.1 kt55 hM1.2.1 r53 (by decide) (by decide) q2 (fun σ2 h3 r55 => ?_)
  have P2 : ∀ s ∈ [55, 36, 38], KT.getD s 99 = 4 := by decide +kernel
  have hM2 := Md_frL H hM1 P2 (by decide) h3
  have hb2 := Rp_frL hb1 P2 (nin_cons (hvn 55 (by decide)) (nin_cons (hvn 36 (by decide)) (nin_cons (hvn 38 (by decide)) (fun h => by cases h)))) h3
  have ha2 := Rp_frL ha1 P2 (nin_cons (hun 55 (by decide)) (nin_cons (hun 36 (by decide)) (nin_cons (hun 38 (by decide)) (fun h => by cases h)))) h3
  have r53b := Rp_frL r53 P2 (by decide) h3
  refine spec_X2_multiply H hM2.1 kt59 r53b hb2 (by decide) (hvn 34 (by decide)) (by omega) (fun σ3 h4 r59 => ?_)
  have P3 : ∀ s ∈ [59, 34], KT.getD s 99 = 4 := by decide +kernel
  have hM3 := Md_frL H hM2 P3 (by decide) h4
  have ha3 := Rp_frL ha2 P3 (nin_cons (hun 59 (by decide)) (nin_cons (hun 34 (by decide)) (fun h => by cases h))) h4
  have r53c := Rp_frL r53b P3 (by decide) h4
  have r55b := Rp_frL r55 P3 (by decide) h4
  refine spec_X2_reduce H hM3.1 r59 r55b (by decide) (by decide) (by decide) hk0 (fun σ4 h5 r59b => ?_)
  have P4 : ∀ s ∈ [59, 36], KT.getD s 99 = 4 := by decide +kernel
  have hM4 := Md_frL H hM3 P4 (by decide) h5
  have ha4 := Rp_frL ha3 P4 (nin_cons (hun 59 (by decide)) (nin_cons (hun 36 (by decide)) (fun h => by cases h))) h5
  have r53d := Rp_frL r53c P4 (by decide) h5
  have r55c := Rp_frL r55b P4 (by decide) h5
  have hcp : Cp (qu co f (gc co f b)) (rm co (gc co f b * b) (qu co f (gc co f b))) := Cp_cg (Cp_mul (Cp_sym q3) q4) (rm_dv H _ hk0)
  refine spec_X2_invert H hM4.1 kt57 r59b r55c (by decide) (by decide) hk0 (rm_spec H _ hk0).2 (by omega) hcp (fun σ5 h6 r57 => ?_)
  have P5 : ∀ s ∈ [57, 34, 36, 40, 42, 44, 46], KT.getD s 99 = 4 := by decide +kernel
  have hM5 := Md_frL H hM4 P5 (by decide) h6
  have ha5 := Rp_frL ha4 P5 (fun h => hu (by revert h; simp [RS]; omega)) h6
  have r53e := Rp_frL r53d P5 (by decide) h6
  have hiv := ivm_spec H hk0 (Cp_sym hcp)
  refine spec_X6_multiply H hM5 kt59 r53e r57 (by decide) (by decide) (by decide) (by decide) (by omega) (fun σ6 h8 r59c => ?_)
  have P6 : ∀ s ∈ [59, 34, 49], KT.getD s 99 = 4 := by decide +kernel
  have hM6 := Md_frL H hM5 P6 (by decide) h8
  have ha6 := Rp_frL ha5 P6 (fun h => hu (by revert h; simp [RS]; omega)) h8
  have hed := rm_spec H (gc co f b * ivm co (rm co (gc co f b * b) (qu co f (gc co f b))) (qu co f (gc co f b))) hf0
  refine spec_X6_multiply H hM6 ht ha6 r59c (hun 34 (by decide)) (by decide) h2 (fun e => htR (by rw [e]; decide)) (by omega) (fun σ7 h9 h10 => ?_)
  have hqe := qe_st q1 (cg_sym (rm_dv H (gc co f b * ivm co (rm co (gc co f b * b) (qu co f (gc co f b))) (qu co f (gc co f b))) hf0)) (rm_st (rm_dv H _ hk0) hiv.2)
  refine hQ σ7 _ ?_ ⟨hed.2, hqe.1, hqe.2⟩ h10
  have m1 : FrL σ σ1 (t :: DS) := h1.mono (fun s hs => List.mem_cons_of_mem _ (by revert s; decide))
  have m2 : FrL σ1 σ2 (t :: DS) := h3.mono (fun s hs => List.mem_cons_of_mem _ (by revert s; decide))
  have m3 : FrL σ2 σ3 (t :: DS) := h4.mono (fun s hs => List.mem_cons_of_mem _ (by revert s; decide))
  have m4 : FrL σ3 σ4 (t :: DS) := h5.mono (fun s hs => List.mem_cons_of_mem _ (by revert s; decide))
  have m5 : FrL σ4 σ5 (t :: DS) := h6.mono (fun s hs => List.mem_cons_of_mem _ (by revert s; decide))
  have m6 : FrL σ5 σ6 (t :: DS) := h8.mono (fun s hs => List.mem_cons_of_mem _ (by revert s; decide))
  have m7 : FrL σ6 σ7 (t :: DS) := h9.mono (fun s hs => by
    rcases List.mem_cons.mp hs with rfl | hs
    · exact List.mem_cons_self
    · exact List.mem_cons_of_mem _ ((by decide : ∀ s ∈ [34, 49], s ∈ DS) s hs))
  exact (((((m1.tr m2).tr m3).tr m4).tr m5).tr m6).tr m7
/-- a part of the modulus, the number that is 1 in it, and nothing in the rest -/
def Ue {R : Type} [Lean.Grind.CommRing R] (co : R → Nat → Int) (f g e : R) : Prop := dd co e < dd co f ∧ Dv g (e - 1) ∧ Dv (qu co f g) e
theorem nin_RS {t : Nat} (h : t ∉ RS) : ∀ s ∈ RS, t ≠ s := fun s hs e => h (e ▸ hs)
theorem qu_of_mul {R : Type} [Lean.Grind.CommRing R] {p : Nat} {co : R → Nat → Int} {mk : (Nat → Int) → R} (H : PD p co mk) {g h : R} (hg : mon co g) (hh : mon co h) : qu co (g * h) g = h := by
  rw [Lean.Grind.CommSemiring.mul_comm]
  exact (qu_mul H (mon_ne H hg)).1
theorem dv_split {R : Type} [Lean.Grind.CommRing R] {p : Nat} {co : R → Nat → Int} {mk : (Nat → Int) → R} (H : PD p co mk) {f g : R} (hf : mon co f) (hg : mon co g) (h : Dv g f) : mon co (qu co f g) ∧ f = g * qu co f g := by
  obtain ⟨c, rfl⟩ := h
  have hc := mon_fac H hg hf
  rw [qu_of_mul H hg hc]
  exact ⟨hc, rfl⟩
theorem unit_st {R : Type} [Lean.Grind.CommRing R] {g c e b : R} (h1 : Dv c e) (h2 : Dv g (e * b - 1)) (h3 : b = c) {f r : R} (hf : f = g * c) (hr : Dv f (r - b * e)) : Dv g (r - 1) ∧ Dv c r := by
  obtain ⟨x, rfl⟩ := h1
  obtain ⟨y, h2⟩ := h2
  obtain ⟨z, hr⟩ := hr
  subst h3
  exact ⟨⟨b * z + y, by grind⟩, ⟨g * z + b * x, by grind⟩⟩
theorem spec_X6_unitOf {R : Type} [Lean.Grind.CommRing R] {p : Nat} {co : R → Nat → Int} {mk : (Nat → Int) → R} (H : PD p co mk) {σ : SG} {t u : Nat} {g f : R} {Q : SG → Prop} (hM : Md p co σ f) (hs : SF p co mk f) (ht : KT.getD t 99 = 4) (hg : Rp co σ u g) (hgm : mon co g) (hgf : Dv g f) (hgd : 2 ≤ dd co g) (hu : u ∉ RS) (h2 : t ≠ 2) (htR : t ∉ RS) (hQ : ∀ σ' e, FrL σ σ' (t :: DS) → Ue co f g e → Rp co σ' t e → Q σ') : wp_X6_unitOf σ t u Q := by
  unfold wp_X6_unitOf
  have hf := hM.2.2.1
  have hf0 := Md_ne H hM
  obtain ⟨s1, s2⟩ := dv_split H hf hgm hgf
  have hdd := dd_mul H (mon_ne H hgm) (mon_ne H s1)
  rw [← s2] at hdd
  have hgc : gc co f (qu co f g) = qu co f g := gc_of H ⟨⟨g, by rw [Lean.Grind.CommSemiring.mul_comm]; exact s2⟩, Dv_rf _, ⟨0, 1, by grind⟩, Or.inl s1⟩
  have hqq : qu co f (qu co f g) = g := by
    have h := (qu_mul H (a := g) (mon_ne H s1)).1
    rw [← s2] at h
    exact h
  refine spec_X2_divideWhole H hM.1 ht hM.2.1 hg (fun e => hu (by rw [e]; decide)) (fun e => hu (by rw [e]; decide)) (mon_ne H hgm) (fun σ1 h1 h3 => ?_)
  have P1 : ∀ s ∈ [t, 36, 38], KT.getD s 99 = 4 := cons_P ht (by decide +kernel)
  have hM1 := Md_frL H hM P1 (nin_cons (Ne.symm h2) (by decide)) h1
  refine spec_X6_divide H hM1 hs ht h3 h3 htR htR h2 htR (by omega) (by omega) (fun σ2 e k1 k2 k3 => ?_)
  rw [Qe, hgc, hqq] at k2
  have hr := rm_spec H (qu co f g * e) hf0
  have hu2 := unit_st k2.2.1 k2.2.2 rfl s2 (cg_sym (rm_dv H (qu co f g * e) hf0))
  refine hQ σ2 _ ((h1.mono (fun s hs => ?_)).tr k1) ⟨hr.2, hu2.1, hu2.2⟩ k3
  rcases List.mem_cons.mp hs with rfl | hs
  · exact List.mem_cons_self
  · exact List.mem_cons_of_mem _ ((by decide : ∀ s ∈ [36, 38], s ∈ DS) s hs)
theorem spec_X6_putTogether {R : Type} [Lean.Grind.CommRing R] {p : Nat} {co : R → Nat → Int} {mk : (Nat → Int) → R} (H : PD p co mk) {σ : SG} {t u q w : Nat} {a g b f : R} {Q : SG → Prop} (hM : Md p co σ f) (hs : SF p co mk f) (ht : KT.getD t 99 = 4) (ha : Rp co σ u a) (hg : Rp co σ q g) (hb : Rp co σ w b) (hgm : mon co g) (hgf : Dv g f) (hgd : 2 ≤ dd co g) (hq : q ∉ RS) (hw : w ∉ RS) (h2 : t ≠ 2) (htR : t ∉ RS) (htw : w ≠ t) (hda : dd co a < dd co f) (hdb : dd co b < dd co f) (hQ : ∀ σ' e, FrL σ σ' (t :: RS) → Ue co f g e → Rp co σ' t (rm co (e * (a - b)) f + b) → Q σ') : wp_X6_putTogether σ t u q w Q := by
  unfold wp_X6_putTogether
  have h7 := hM.2.2.2.2
  refine spec_X4_copy H kt61 ha (fun σ1 h1 r1 => ?_)
  have hM1 := Md_fr1 H hM kt61 (by decide) h1
  have hg1 := Rp_fr1 hg kt61 (nin_RS hq 61 (by decide)) h1
  have hb1 := Rp_fr1 hb kt61 (nin_RS hw 61 (by decide)) h1
  refine spec_X6_add H hM1.1 r1 hb1 (fun σ2 h3 r2 => ?_)
  rw [if_neg (by decide)] at r2
  have hM2 := Md_fr1 H hM1 kt61 (by decide) h3
  have hg2 := Rp_fr1 hg1 kt61 (nin_RS hq 61 (by decide)) h3
  have hb2 := Rp_fr1 hb1 kt61 (nin_RS hw 61 (by decide)) h3
  have hdab := dd_sub_le H (n := dd co f - 1) (a := a) (b := b) (by omega) (by omega)
  refine spec_X6_unitOf H hM2 hs ht hg2 hgm hgf hgd hq h2 htR (fun σ3 e h4 he r3 => ?_)
  have P3 := cons_P ht DS_P
  have hM3 := Md_frL H hM2 P3 (nin_cons (Ne.symm h2) (by decide)) h4
  have r2b := Rp_frL r2 P3 (nin_cons (Ne.symm (nin_RS htR 61 (by decide))) (by decide)) h4
  have hb3 := Rp_frL hb2 P3 (nin_cons htw (fun h => hw (DS_RS _ h))) h4
  have hed := he.1
  refine spec_X6_multiply H hM3 ht r3 r2b (nin_RS htR 34 (by decide)) (by decide) h2 (nin_RS htR 49 (by decide)) (by omega) (fun σ4 h5 r4 => ?_)
  have P4 : ∀ s ∈ [t, 34, 49], KT.getD s 99 = 4 := cons_P ht (by decide +kernel)
  have hM4 := Md_frL H hM3 P4 (nin_cons (Ne.symm h2) (by decide)) h5
  have hb4 := Rp_frL hb3 P4 (nin_cons htw (nin_cons (nin_RS hw 34 (by decide)) (nin_cons (nin_RS hw 49 (by decide)) (fun h => by cases h)))) h5
  refine spec_X6_add H hM4.1 r4 hb4 (fun σ5 h6 r5 => hQ σ5 e ?_ he ?_)
  · have m1 : FrL σ σ1 (t :: RS) := FrL.of h1 (List.mem_cons_of_mem _ (by decide))
    have m2 : FrL σ1 σ2 (t :: RS) := FrL.of h3 (List.mem_cons_of_mem _ (by decide))
    have m3 : FrL σ2 σ3 (t :: RS) := h4.mono (fun s hs => by
      rcases List.mem_cons.mp hs with rfl | hs
      · exact List.mem_cons_self
      · exact List.mem_cons_of_mem _ (DS_RS s hs))
    have m4 : FrL σ3 σ4 (t :: RS) := h5.mono (fun s hs => by
      rcases List.mem_cons.mp hs with rfl | hs
      · exact List.mem_cons_self
      · exact List.mem_cons_of_mem _ ((by decide : ∀ s ∈ [34, 49], s ∈ RS) s hs))
    exact (((m1.tr m2).tr m3).tr m4).tr (FrL.of h6 List.mem_cons_self)
  · rw [if_pos rfl] at r5
    exact r5
theorem spec_X6_traceOf {R : Type} [Lean.Grind.CommRing R] {p : Nat} {co : R → Nat → Int} {mk : (Nat → Int) → R} (H : PD p co mk) {σ : SG} {t : Nat} {a f : R} {Q : Int → SG → Prop} (hM : Md p co σ f) (ha : Rp co σ t a) (hda : dd co a < dd co f) (hQ : ∀ σ', FrL σ σ' RS → Q (sm (fun k => co (rm co (a * xx p mk ^ k) f) k) (dd co f - 1) % p) σ') : wp_X6_traceOf σ t Q := by
  unfold wp_X6_traceOf
  have hp := pd_p H
  have h7 := hM.2.2.2.2
  have h72 := hM.2.2.2.1
  have hf0 := Md_ne H hM
  refine spec_X4_copy H kt59 ha (fun σ1 h1 r1 => spec_X4_becomeVariable H kt61 (fun σ2 h3 r2 => ?_))
  have r1' := Rp_fr1 r1 kt61 (by decide) h3
  have hM2 := Md_fr1 H (Md_fr1 H hM kt59 (by decide) h1) kt61 (by decide) h3
  refine Lp2_m (fun x y σ' => FrL σ σ' RS ∧ ∃ k : Nat, x = k ∧ k ≤ dd co f - 1 ∧ y = sm (fun k => co (rm co (a * xx p mk ^ k) f) k) k ∧ 0 ≤ y ∧ y ≤ 13 * k ∧ Rp co σ' 59 (rm co (a * xx p mk ^ k) f) ∧ Rp co σ' 61 (xx p mk : R) ∧ Md p co σ' f) (fun x _ _ => (10 - x).toNat) ⟨(FrL.of h1 (by decide)).tr (FrL.of h3 (by decide)), 0, rfl, by omega, rfl, by omega, by omega, ?_, r2, hM2⟩ ?_
  · rw [pw_0, show a * 1 = a by grind, rm_small H hda]
    exact r1'
  · rintro x y σ3 r ⟨g1, k, rfl, g2, g3, g4, g5, g6, g7, g8⟩ hr
    have hdx := dd_x H
    have hd2 := (rm_spec H (a * xx p mk ^ k) hf0).2
    rw [g8.2.1.2.2.2]
    refine ⟨fun h => spec_X7_reduced hp g8.1 (by omega) ?_, fun h => spec_X4_at H g6 (fun z hz => ⟨?_, ?_⟩)⟩
    · have e : k = dd co f - 1 := by omega
      rw [g3, e]
      exact hQ σ3 g1
    · rw [if_neg (by omega)] at hz
      have := pd_rng H (rm co (a * xx p mk ^ k) f) ((k : Int).toNat)
      omega
    · rintro v rfl
      rw [if_neg (by omega), Int.toNat_natCast] at hz
      have hrg := pd_rng H (rm co (a * xx p mk ^ k) f) k
      refine spec_X6_multiply H g8 kt59 g6 g7 (by decide) (by decide) (by decide) (by decide) (by omega) (fun σ4 k1 k2 => ⟨by omega, hr _ _ _ ⟨g1.tr (k1.mono (by decide)), k + 1, rfl, by omega, ?_, by omega, by omega, ?_, Rp_frL g7 (by decide +kernel) (by decide) k1, Md_frL H g8 (by decide +kernel) (by decide) k1⟩ (by omega)⟩)
      · rw [sm, g3, hz]
      · rw [pw_s]
        have e : rm co (a * (xx p mk ^ k * xx p mk)) f = rm co (rm co (a * xx p mk ^ k) f * xx p mk) f := by
          refine rm_eq H hf0 ?_
          rw [show a * (xx p mk ^ k * xx p mk) = a * xx p mk ^ k * xx p mk by grind]
          exact cg_mul (rm_dv H _ hf0) (cg_rf f _)
        rw [e]
        exact k2
