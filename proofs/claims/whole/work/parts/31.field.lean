/-! frames by lists of polynomials -/
def FrL (σ σ' : SG) (L : List Nat) : Prop := ∀ i, (∀ t ∈ L, i ≠ t ∧ i ≠ t + 1) → σ' i = σ i
theorem FrL.rf (σ : SG) (L : List Nat) : FrL σ σ L := fun _ _ => rfl
theorem FrL.tr {σ σ' σ'' : SG} {L : List Nat} (h : FrL σ σ' L) (k : FrL σ' σ'' L) : FrL σ σ'' L := fun i hi => (k i hi).trans (h i hi)
theorem FrL.mono {σ σ' : SG} {L L' : List Nat} (h : FrL σ σ' L) (k : ∀ t ∈ L, t ∈ L') : FrL σ σ' L' := fun i hi => h i (fun t ht => hi t (k t ht))
theorem FrL.of {σ σ' : SG} {L : List Nat} {t : Nat} (h : Fr1 σ σ' t) (k : t ∈ L) : FrL σ σ' L := fun i hi => h i (hi t k).1 (hi t k).2
theorem Rp_frL {R : Type} {co : R → Nat → Int} {σ σ' : SG} {q : Nat} {a : R} {L : List Nat} (h : Rp co σ q a) (hL : ∀ t ∈ L, KT.getD t 99 = 4) (hne : q ∉ L) (hf : FrL σ σ' L) : Rp co σ' q a :=
  Rp_cg h (hf q (fun t ht => ⟨fun e => hne (e ▸ ht), (isP_ne h.1 (hL t ht)).1⟩)) (hf (q + 1) (fun t ht => ⟨(isP_ne h.1 (hL t ht)).2, fun e => hne (by rw [show q = t by omega]; exact ht)⟩))
theorem kt_ne {i t : Nat} (hi : KT.getD i 99 ≠ 4) (hi2 : KT.getD (i - 1) 99 ≠ 4) (ht : KT.getD t 99 = 4) : i ≠ t ∧ i ≠ t + 1 :=
  ⟨fun e => hi (e ▸ ht), fun e => hi2 (by rw [e, Nat.add_sub_cancel]; exact ht)⟩
/-- what is no polynomial stays -/
theorem FrL.at {σ σ' : SG} {L : List Nat} (hf : FrL σ σ' L) (hL : ∀ t ∈ L, KT.getD t 99 = 4) {i : Nat} (hi : KT.getD i 99 ≠ 4) (hi2 : KT.getD (i - 1) 99 ≠ 4) : σ' i = σ i :=
  hf i (fun t ht => kt_ne hi hi2 (hL t ht))
theorem FrL.p {σ σ' : SG} {L : List Nat} (hf : FrL σ σ' L) (hL : ∀ t ∈ L, KT.getD t 99 = 4) : σ' 1 = σ 1 := hf.at hL (by decide) (by decide)
theorem Fr1.p {σ σ' : SG} {t : Nat} (hf : Fr1 σ σ' t) (ht : KT.getD t 99 = 4) : σ' 1 = σ 1 := hf 1 (kt_ne (by decide) (by decide) ht).1 (kt_ne (by decide) (by decide) ht).2
def FS : List Nat := [34, 36, 38, 40, 42, 44, 46]
theorem FS_P : ∀ t ∈ FS, KT.getD t 99 = 4 := by decide +kernel
theorem cons_P {t : Nat} {L : List Nat} (h : KT.getD t 99 = 4) (hL : ∀ t ∈ L, KT.getD t 99 = 4) : ∀ s ∈ t :: L, KT.getD s 99 = 4 := fun s hs => by
  rcases List.mem_cons.mp hs with e | e
  · rw [e]; exact h
  · exact hL s e
theorem nin_cons {q t : Nat} {L : List Nat} (h : q ≠ t) (k : q ∉ L) : q ∉ t :: L := fun e => by
  rcases List.mem_cons.mp e with e | e
  · exact h e
  · exact k e
/-! State.reduced, Field -/
theorem spec_X7_reduced {σ : SG} {o p : Nat} (hp : 2 ≤ p ∧ p ≤ 13) {z : Int} (hσ : σ o 0 = p) (hz : inR z) {Q : Int → SG → Prop} (hQ : Q (z % p) σ) : wp_X7_reduced σ o z Q := by
  unfold wp_X7_reduced
  have h := tmod_p hp.1 z
  have h2 := inR_tmod (b := (p : Int)) hz
  rw [hσ]
  refine ⟨fun _ => ⟨by omega, ?_⟩, fun h => by omega⟩
  rintro v rfl
  refine ⟨fun h3 => ?_, fun h3 => ⟨by omega, ?_⟩⟩
  · rw [if_pos h3] at h
    rw [h]; exact hQ
  · rw [if_neg h3] at h
    rw [h]; exact hQ
theorem spec_X2_inverseOf {σ : SG} {p : Nat} (hp : Pr p) {v : Int} (hσ : σ 1 0 = p) (hv : 0 ≤ v ∧ v < p) {Q : Int → SG → Prop} (hQ : ∀ z, (v = 0 ∧ z = 0 ∨ v ≠ 0 ∧ 0 < z ∧ z < p ∧ v * z % p = 1) → Q z σ) : wp_X2_inverseOf σ v Q := by
  unfold wp_X2_inverseOf
  have hp2 := Pr_pos hp
  refine Lp1_up_from 1 p (by omega) (fun k σ' => σ' = σ ∧ ∀ j, 0 < j → j < k → (j : Int) * v % p ≠ 1) ⟨rfl, fun j h1 h2 => by omega⟩ ?_ ?_
  · rintro k σ1 r hk1 hk ⟨rfl, h⟩ hr
    rw [hσ]
    have b := mul_bd (f := (k : Int)) (c := v) (F := 13) (by omega) (by omega) hv.1 (by omega)
    refine ⟨fun h => by omega, fun _ => ⟨by omega, spec_X7_reduced hp2 hσ (by omega) ⟨fun h1 => ⟨by omega, hr _ ⟨rfl, fun j h2 h3 => ?_⟩⟩, fun h1 => ?_⟩⟩⟩
    · by_cases z : j = k
      · rw [z]; exact h1
      · exact h j h2 (by omega)
    · refine hQ _ (Or.inr ⟨fun e => ?_, by omega, by omega, by rw [Int.mul_comm]; exact h1⟩)
      rw [e, Int.mul_zero] at h1
      exact absurd h1 (by simp)
  · rintro σ1 r ⟨rfl, h⟩
    rw [hσ]
    refine ⟨fun _ => hQ _ (Or.inl ⟨?_, rfl⟩), fun h => by omega⟩
    apply Decidable.byContradiction
    intro hv0
    obtain ⟨e, e1, e2, e3⟩ := Pr_inv hp (c := v) (by omega) hv.2
    obtain ⟨n, rfl⟩ := Int.eq_ofNat_of_zero_le (Int.le_of_lt e1)
    exact h n (by omega) (by omega) (by rw [Int.mul_comm]; exact e3)
theorem mo_neg {R : Type} [Lean.Grind.CommRing R] {p : Nat} {co : R → Nat → Int} {mk : (Nat → Int) → R} (H : PD p co mk) (c : Int) (s : Nat) : mo p mk (-c) s = -(mo p mk c s : R) := pd_ext H (fun k => by
  rw [co_neg H, co_mo H, co_mo H]
  split
  · rw [neg_emod2]
  · rfl)
theorem mo_sub1 {R : Type} [Lean.Grind.CommRing R] {p : Nat} {co : R → Nat → Int} {mk : (Nat → Int) → R} (H : PD p co mk) (c : Int) (s : Nat) : mo p mk (c - 1) s = (mo p mk c s : R) - mo p mk 1 s := pd_ext H (fun k => by
  rw [co_sub H, co_mo H, co_mo H, co_mo H]
  split
  · rw [← Int.sub_emod]
  · rfl)
theorem spec_X2_scale {R : Type} [Lean.Grind.CommRing R] {p : Nat} {co : R → Nat → Int} {mk : (Nat → Int) → R} (H : PD p co mk) {σ : SG} {t : Nat} {a : R} {f : Int} {Q : SG → Prop} (hσ : σ 1 0 = p) (ha : Rp co σ t a) (hf : 0 ≤ f ∧ f < p) (hQ : ∀ σ', Fr1 σ σ' t → Rp co σ' t (mo p mk f 0 * a) → Q σ') : wp_X2_scale σ t f Q := by
  unfold wp_X2_scale
  have hp := pd_p H
  rw [hσ]
  refine ⟨by omega, spec_X4_addMultiple H ha ha (by omega) (by have := ha.2.2.1; omega) (by omega) (fun _ => rfl) (fun σ' h1 h2 => hQ σ' h1 ?_)⟩
  rw [show a + mo p mk (f - 1) (0 : Int).toNat * a = mo p mk f 0 * a by
    show a + mo p mk (f - 1) 0 * a = _
    rw [mo_sub1 H, mo_1 H]
    grind] at h2
  exact h2
/-- the first k coefficients -/
def tr {R : Type} (co : R → Nat → Int) (mk : (Nat → Int) → R) (k : Nat) (a : R) : R := mk (fun j => if j < k then co a j else 0)
theorem co_tr {R : Type} [Lean.Grind.CommRing R] {p : Nat} {co : R → Nat → Int} {mk : (Nat → Int) → R} (H : PD p co mk) (k : Nat) (a : R) (j : Nat) : co (tr co mk k a) j = if j < k then co a j else 0 := by
  have hp := pd_p H
  refine pd_mk H (fun j => ?_) ⟨k, fun j hj => if_neg (by omega)⟩ j
  split
  · exact pd_rng H a j
  · omega
theorem tr_0 {R : Type} [Lean.Grind.CommRing R] {p : Nat} {co : R → Nat → Int} {mk : (Nat → Int) → R} (H : PD p co mk) (a : R) : tr co mk 0 a = 0 := pd_ext H (fun j => by rw [co_tr H, if_neg (by omega), co_zero H])
theorem tr_s {R : Type} [Lean.Grind.CommRing R] {p : Nat} {co : R → Nat → Int} {mk : (Nat → Int) → R} (H : PD p co mk) (k : Nat) (a : R) : tr co mk (k + 1) a = tr co mk k a + mo p mk (co a k) k := pd_ext H (fun j => by
  rw [co_add H, co_tr H, co_tr H, co_mo H]
  by_cases q : j = k
  · rw [if_pos (by omega), if_neg (by omega), if_pos q, q, Int.zero_add, Int.emod_emod, co_self H]
  · rw [if_neg q, Int.add_zero]
    by_cases q2 : j < k
    · rw [if_pos (by omega), if_pos q2, co_self H]
    · rw [if_neg (by omega), if_neg q2]; rfl)
theorem tr_all {R : Type} [Lean.Grind.CommRing R] {p : Nat} {co : R → Nat → Int} {mk : (Nat → Int) → R} (H : PD p co mk) (a : R) {k : Nat} (h : dd co a ≤ k) : tr co mk k a = a := pd_ext H (fun j => by
  rw [co_tr H]
  split
  · rfl
  · rw [dd_out H a (by omega)])
theorem spec_X2_multiply {R : Type} [Lean.Grind.CommRing R] {p : Nat} {co : R → Nat → Int} {mk : (Nat → Int) → R} (H : PD p co mk) {σ : SG} {t u v : Nat} {a b : R} {Q : SG → Prop} (hσ : σ 1 0 = p) (ht : KT.getD t 99 = 4) (ha : Rp co σ u a) (hb : Rp co σ v b) (hu : u ≠ 34) (hv : v ≠ 34) (hd : dd co a + dd co b ≤ 14) (hQ : ∀ σ', FrL σ σ' [t, 34] → Rp co σ' t (a * b) → Q σ') : wp_X2_multiply σ t u v Q := by
  unfold wp_X2_multiply
  have hp := pd_p H
  refine spec_X4_clear H kt34 (fun σ1 h1 h2 => ?_)
  refine Lp1_up (dd co a) (fun k σ' => Fr1 σ σ' 34 ∧ Rp co σ' 34 (tr co mk k a * b)) ⟨h1, by rw [tr_0 H, rg_zmul]; exact h2⟩ ?_ ?_
  · rintro k σ2 r hk ⟨g1, g2⟩ hr
    have ha2 := Rp_fr1 ha kt34 hu g1
    have hb2 := Rp_fr1 hb kt34 hv g1
    have hp2 : σ2 1 0 = p := by rw [g1.p kt34]; exact hσ
    have ra := pd_rng H a k
    have hda := ha2.2.2.1
    rw [ha2.2.2.2]
    refine ⟨fun h => by omega, fun _ => spec_X4_at H ha2 (fun z hz => ?_)⟩
    rw [if_neg (by omega), Int.toNat_natCast] at hz
    subst hz
    rw [hp2]
    refine spec_X4_addMultiple H g2 hb2 (by omega) (by omega) (by omega) (fun e => absurd e.symm hv) (fun σ3 k1 k2 => ⟨by omega, hr _ ⟨g1.tr k1, ?_⟩⟩)
    rw [tr_s H, show (tr co mk k a + mo p mk (co a k) k) * b = tr co mk k a * b + mo p mk (co a k) k * b by grind]
    rw [Int.toNat_natCast] at k2
    exact k2
  · rintro σ2 r ⟨g1, g2⟩
    have ha2 := Rp_fr1 ha kt34 hu g1
    rw [ha2.2.2.2]
    rw [tr_all H a (Nat.le_refl _)] at g2
    refine ⟨fun _ => spec_X4_copy H ht g2 (fun σ3 k1 k2 => hQ σ3 ?_ k2), fun h => by omega⟩
    exact (FrL.of g1 (by simp)).tr (FrL.of k1 (by simp))
theorem spec_X2_divide {R : Type} [Lean.Grind.CommRing R] {p : Nat} {co : R → Nat → Int} {mk : (Nat → Int) → R} (H : PD p co mk) {σ : SG} {t u v : Nat} {a b : R} {Q : SG → Prop} (hσ : σ 1 0 = p) (ha : Rp co σ t a) (hb : Rp co σ u b) (hv : KT.getD v 99 = 4) (htu : t ≠ u) (huv : u ≠ v) (htv : t ≠ v) (hb0 : b ≠ 0) (hQ : ∀ σ', FrL σ σ' [t, v] → Rp co σ' t (rm co a b) → Rp co σ' v (qu co a b) → Q σ') : wp_X2_divide σ t u v Q := by
  unfold wp_X2_divide
  have hp := pd_p H
  have ht := ha.1
  have hbd := dd_pos H hb0
  have hP : ∀ s ∈ [t, v], KT.getD s 99 = 4 := cons_P ht (cons_P hv (fun _ h => by cases h))
  have hun : u ∉ [t, v] := nin_cons (Ne.symm htu) (nin_cons huv (fun h => by cases h))
  refine spec_X4_clear H hv (fun σ1 h1 h2 => ?_)
  have ha1 := Rp_fr1 ha hv htv h1
  have hb1 := Rp_fr1 hb hv huv h1
  have hp1 : σ1 1 0 = p := by rw [h1.p hv]; exact hσ
  refine spec_X4_at H hb1 (fun z hz => ?_)
  rw [hb1.2.2.2, if_neg (by omega), show ((dd co b : Int) - 1).toNat = dd co b - 1 by omega] at hz
  have hz0 : z ≠ 0 := by rw [hz]; exact dd_top H hbd
  have hzr : 0 ≤ z ∧ z < p := by rw [hz]; exact pd_rng H b _
  refine spec_X2_inverseOf H.1 hp1 hzr (fun e he => ?_)
  rcases he with ⟨he, -⟩ | ⟨-, e1, e2, e3⟩
  · exact absurd he hz0
  · refine ⟨fun _ => ⟨by have := ha1.2.2.1; have := hb1.2.2.1; rw [ha1.2.2.2, hb1.2.2.2]; omega, ?_⟩, fun h => by omega⟩
    rintro x rfl
    rw [ha1.2.2.2, hb1.2.2.2]
    have hda := ha1.2.2.1
    have hdb := hb1.2.2.1
    by_cases hlt : dd co a < dd co b
    · refine Lp1_m (fun x σ' => x < 0 ∧ σ' = σ1) (fun _ _ => 0) ⟨by omega, rfl⟩ ?_
      rintro x σ2 r ⟨g1, rfl⟩ hr
      refine ⟨fun _ => ?_, fun h => absurd g1 h⟩
      obtain ⟨q1, q2⟩ := rm_of H (a := a) (b := b) (q := 0) (r := a) (by grind) hlt
      exact hQ _ (FrL.of h1 (by simp)) (by rw [q1]; exact ha1) (by rw [q2]; exact h2)
    · rw [show (dd co a : Int) - 1 - ((dd co b : Int) - 1) = ((dd co a - dd co b + 1 : Nat) : Int) - 1 by omega]
      refine Lp1_dn (dd co a - dd co b + 1) (fun k σ' => FrL σ σ' [t, v] ∧ ∃ r q : R, Rp co σ' t r ∧ Rp co σ' v q ∧ a = q * b + r ∧ dd co r < dd co b + k ∧ ∀ j, j < k → co q j = 0) ⟨FrL.of h1 (by simp), a, 0, ha1, h2, by grind, by omega, fun j _ => co_zero H j⟩ ?_ ?_
      · rintro k σ2 rc hk ⟨g1, r, q, g2, g3, g4, g5, g6⟩ hr
        have hb2 := Rp_frL hb hP hun g1
        have hp2 : σ2 1 0 = p := by rw [g1.p hP]; exact hσ
        have rr := pd_rng H r (k + (dd co b - 1))
        rw [hb2.2.2.2]
        refine ⟨fun h => by omega, fun _ => ⟨by omega, spec_X4_at H g2 (fun y hy => ?_)⟩⟩
        rw [if_neg (by omega), show ((k : Int) + ((dd co b : Int) - 1)).toNat = k + (dd co b - 1) by omega] at hy
        subst hy
        have bd := mul_bd (f := co r (k + (dd co b - 1))) (c := e) (F := 13) (by omega) (by omega) (by omega) (by omega)
        refine ⟨by omega, spec_X7_reduced hp hp2 (by omega) ?_⟩
        have c1 := Int.emod_nonneg (co r (k + (dd co b - 1)) * e) (show (p : Int) ≠ 0 by omega)
        have c2 := Int.emod_lt_of_pos (co r (k + (dd co b - 1)) * e) (show (0 : Int) < p by omega)
        obtain ⟨c, hc⟩ : ∃ c, c = co r (k + (dd co b - 1)) * e % p := ⟨_, rfl⟩
        rw [← hc] at c1 c2 ⊢
        rw [hp2]
        refine ⟨by omega, spec_X4_addMultiple H g2 hb2 (by omega) (by omega) (by omega) (fun e => absurd e htu) (fun σ3 k1 k2 => ?_)⟩
        rw [Int.toNat_natCast] at k2
        have g3' := Rp_fr1 g3 ht (Ne.symm htv) k1
        refine spec_X4_set H g3' (by omega) ⟨c1, c2⟩ (fun σ4 k3 k4 => ⟨by omega, hr _ ⟨(g1.tr (FrL.of k1 (by simp))).tr (FrL.of k3 (by simp)), _, _, Rp_fr1 k2 hv htv k3, k4, ?_, ?_, ?_⟩⟩)
        · rw [Int.toNat_natCast, g6 k (by omega), Int.sub_zero, mo_neg H]
          grind
        · refine Nat.lt_of_le_of_lt (dd_le H (n := dd co b + k - 1) (fun j hj => ?_)) (by omega)
          rw [co_add H, co_mo_mul H, if_neg (by omega), Int.add_emod_emod]
          by_cases z2 : j = k + (dd co b - 1)
          · rw [z2, show k + (dd co b - 1) - k = dd co b - 1 by omega, ← hz, hc, ← Int.add_emod_emod, ← emm (-(co r (k + (dd co b - 1)) * e % p)), neg_emod2, emm, Int.neg_mul, Int.mul_assoc, Int.mul_comm e, ← Int.add_emod_emod, ← neg_emod2, ← mem_ (co r (k + (dd co b - 1))), e3, Int.mul_one, neg_emod2, Int.add_emod_emod, Int.add_emod_emod]
            rw [show co r (k + (dd co b - 1)) + -co r (k + (dd co b - 1)) = 0 by omega]
            rfl
          · rw [dd_out H r (by omega), dd_out H b (by omega), Int.mul_zero]
            rfl
        · intro j hj
          rw [co_add H, co_mo H, if_neg (by rw [Int.toNat_natCast]; omega), g6 j (by omega)]
          rfl
      · rintro σ2 rc ⟨g1, r, q, g2, g3, g4, g5, -⟩
        obtain ⟨q1, q2⟩ := rm_of H g4 (by omega)
        exact ⟨fun _ => hQ _ g1 (by rw [q1]; exact g2) (by rw [q2]; exact g3), fun h => by omega⟩
theorem spec_X2_reduce {R : Type} [Lean.Grind.CommRing R] {p : Nat} {co : R → Nat → Int} {mk : (Nat → Int) → R} (H : PD p co mk) {σ : SG} {t u : Nat} {a b : R} {Q : SG → Prop} (hσ : σ 1 0 = p) (ha : Rp co σ t a) (hb : Rp co σ u b) (htu : t ≠ u) (hu : u ≠ 36) (ht : t ≠ 36) (hb0 : b ≠ 0) (hQ : ∀ σ', FrL σ σ' [t, 36] → Rp co σ' t (rm co a b) → Q σ') : wp_X2_reduce σ t u Q := by
  unfold wp_X2_reduce
  exact spec_X2_divide H hσ ha hb kt36 htu hu ht hb0 (fun σ' h1 h2 _ => hQ σ' h1 h2)
theorem spec_X2_divideWhole {R : Type} [Lean.Grind.CommRing R] {p : Nat} {co : R → Nat → Int} {mk : (Nat → Int) → R} (H : PD p co mk) {σ : SG} {t u v : Nat} {a b : R} {Q : SG → Prop} (hσ : σ 1 0 = p) (ht : KT.getD t 99 = 4) (ha : Rp co σ u a) (hb : Rp co σ v b) (hv : v ≠ 38) (hv2 : v ≠ 36) (hb0 : b ≠ 0) (hQ : ∀ σ', FrL σ σ' [t, 36, 38] → Rp co σ' t (qu co a b) → Q σ') : wp_X2_divideWhole σ t u v Q := by
  unfold wp_X2_divideWhole
  refine spec_X4_copy H kt38 ha (fun σ1 h1 h2 => ?_)
  have hb1 := Rp_fr1 hb kt38 hv h1
  refine spec_X2_divide H (by rw [h1.p kt38]; exact hσ) h2 hb1 kt36 (Ne.symm hv) hv2 (by decide) hb0 (fun σ2 k1 k2 k3 => ?_)
  refine spec_X4_copy H ht k3 (fun σ3 l1 l2 => hQ σ3 ?_ l2)
  exact ((FrL.of h1 (by simp)).tr (k1.mono (by simp))).tr (FrL.of l1 (by simp))
