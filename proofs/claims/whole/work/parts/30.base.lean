/-! the pictures' numbers; loops that count; polynomials on the heap -/
theorem ug_eq (σ : SG) (i k : Nat) (x : Int) : ug σ i k x i k = x := by simp [ug]
theorem ug_k (σ : SG) (i : Nat) {j k : Nat} (h : j ≠ k) (x : Int) : ug σ i k x i j = σ i j := by simp [ug, h]
theorem ug_i (σ : SG) {a i : Nat} (h : a ≠ i) (k j : Nat) (x : Int) : ug σ i k x a j = σ a j := by simp [ug, h]
theorem Lp1_up {K : (Int → SG → Prop) → Int → SG → Prop} {σ : SG} (N : Nat) (I : Nat → SG → Prop) (h0 : I 0 σ)
    (hs : ∀ (k : Nat) (σ : SG) (r : Int → SG → Prop), k < N → I k σ → (∀ σ', I (k + 1) σ' → r ((k : Int) + 1) σ') → K r (k : Int) σ)
    (he : ∀ (σ : SG) (r : Int → SG → Prop), I N σ → K r (N : Int) σ) : Lp1 K 0 σ := by
  refine ⟨fun n x σ => ∃ k : Nat, k ≤ N ∧ n = N - k ∧ x = (k : Int) ∧ I k σ, ⟨N, 0, Nat.zero_le _, rfl, rfl, h0⟩, ?_⟩
  rintro n x σ ⟨k, h1, rfl, rfl, h2⟩
  rcases Nat.lt_or_ge k N with q | q
  · exact hs k σ _ q h2 (fun σ' h3 => ⟨N - (k + 1), by omega, k + 1, q, rfl, by omega, h3⟩)
  · have : k = N := by omega
    subst this
    exact he σ _ h2
theorem Lp1_up_from {K : (Int → SG → Prop) → Int → SG → Prop} {σ : SG} (a N : Nat) (ha : a ≤ N) (I : Nat → SG → Prop) (h0 : I a σ)
    (hs : ∀ (k : Nat) (σ : SG) (r : Int → SG → Prop), a ≤ k → k < N → I k σ → (∀ σ', I (k + 1) σ' → r ((k : Int) + 1) σ') → K r (k : Int) σ)
    (he : ∀ (σ : SG) (r : Int → SG → Prop), I N σ → K r (N : Int) σ) : Lp1 K (a : Int) σ := by
  refine ⟨fun n x σ => ∃ k : Nat, a ≤ k ∧ k ≤ N ∧ n = N - k ∧ x = (k : Int) ∧ I k σ, ⟨N - a, a, Nat.le_refl _, ha, rfl, rfl, h0⟩, ?_⟩
  rintro n x σ ⟨k, h0, h1, rfl, rfl, h2⟩
  rcases Nat.lt_or_ge k N with q | q
  · exact hs k σ _ h0 q h2 (fun σ' h3 => ⟨N - (k + 1), by omega, k + 1, by omega, q, rfl, by omega, h3⟩)
  · have : k = N := by omega
    subst this
    exact he σ _ h2
/-- downwards, from N - 1 to 0, then -1 -/
theorem Lp1_dn {K : (Int → SG → Prop) → Int → SG → Prop} {σ : SG} (N : Nat) (I : Nat → SG → Prop) (h0 : I N σ)
    (hs : ∀ (k : Nat) (σ : SG) (r : Int → SG → Prop), k < N → I (k + 1) σ → (∀ σ', I k σ' → r ((k : Int) + (-1)) σ') → K r (k : Int) σ)
    (he : ∀ (σ : SG) (r : Int → SG → Prop), I 0 σ → K r (-1) σ) : Lp1 K ((N : Int) - 1) σ := by
  refine ⟨fun n x σ => ∃ k : Nat, k ≤ N ∧ n = k ∧ x = (k : Int) - 1 ∧ I k σ, ⟨N, N, Nat.le_refl _, rfl, rfl, h0⟩, ?_⟩
  rintro n x σ ⟨k, h1, rfl, rfl, h2⟩
  cases n with
  | zero => exact he σ _ h2
  | succ n =>
    rw [show ((n + 1 : Nat) : Int) - 1 = (n : Int) by omega]
    exact hs n σ _ h1 h2 (fun σ' h3 => ⟨n, by omega, n, by omega, rfl, by omega, h3⟩)
theorem Lp0_m {K : (SG → Prop) → SG → Prop} {σ : SG} (I : SG → Prop) (μ : SG → Nat) (h0 : I σ) (hs : ∀ (σ : SG) (r : SG → Prop), I σ → (∀ σ', I σ' → μ σ' < μ σ → r σ') → K r σ) : Lp0 K σ :=
  ⟨fun n σ => n = μ σ ∧ I σ, ⟨_, rfl, h0⟩, fun n σ h => by
    obtain ⟨rfl, h⟩ := h
    exact hs σ _ h (fun σ' h1 h2 => ⟨_, h2, rfl, h1⟩)⟩
theorem Lp1_m {A : Type} {K : (A → SG → Prop) → A → SG → Prop} {a : A} {σ : SG} (I : A → SG → Prop) (μ : A → SG → Nat) (h0 : I a σ) (hs : ∀ (a : A) (σ : SG) (r : A → SG → Prop), I a σ → (∀ a' σ', I a' σ' → μ a' σ' < μ a σ → r a' σ') → K r a σ) : Lp1 K a σ :=
  ⟨fun n a σ => n = μ a σ ∧ I a σ, ⟨_, rfl, h0⟩, fun n a σ h => by
    obtain ⟨rfl, h⟩ := h
    exact hs a σ _ h (fun a' σ' h1 h2 => ⟨_, h2, rfl, h1⟩)⟩
theorem Lp2_m {A A2 : Type} {K : (A → A2 → SG → Prop) → A → A2 → SG → Prop} {a : A} {a2 : A2} {σ : SG} (I : A → A2 → SG → Prop) (μ : A → A2 → SG → Nat) (h0 : I a a2 σ) (hs : ∀ (a : A) (a2 : A2) (σ : SG) (r : A → A2 → SG → Prop), I a a2 σ → (∀ a' a2' σ', I a' a2' σ' → μ a' a2' σ' < μ a a2 σ → r a' a2' σ') → K r a a2 σ) : Lp2 K a a2 σ :=
  ⟨fun n a a2 σ => n = μ a a2 σ ∧ I a a2 σ, ⟨_, rfl, h0⟩, fun n a a2 σ h => by
    obtain ⟨rfl, h⟩ := h
    exact hs a a2 σ _ h (fun a' a2' σ' h1 h2 => ⟨_, h2, rfl, h1⟩)⟩
theorem Lp3_m {A A2 A3 : Type} {K : (A → A2 → A3 → SG → Prop) → A → A2 → A3 → SG → Prop} {a : A} {a2 : A2} {a3 : A3} {σ : SG} (I : A → A2 → A3 → SG → Prop) (μ : A → A2 → A3 → SG → Nat) (h0 : I a a2 a3 σ) (hs : ∀ (a : A) (a2 : A2) (a3 : A3) (σ : SG) (r : A → A2 → A3 → SG → Prop), I a a2 a3 σ → (∀ a' a2' a3' σ', I a' a2' a3' σ' → μ a' a2' a3' σ' < μ a a2 a3 σ → r a' a2' a3' σ') → K r a a2 a3 σ) : Lp3 K a a2 a3 σ :=
  ⟨fun n a a2 a3 σ => n = μ a a2 a3 σ ∧ I a a2 a3 σ, ⟨_, rfl, h0⟩, fun n a a2 a3 σ h => by
    obtain ⟨rfl, h⟩ := h
    exact hs a a2 a3 σ _ h (fun a' a2' a3' σ' h1 h2 => ⟨_, h2, rfl, h1⟩)⟩
/-- the polynomial object t holds a -/
def Rp {R : Type} (co : R → Nat → Int) (σ : SG) (t : Nat) (a : R) : Prop := KT.getD t 99 = 4 ∧ (∀ k, k < 13 → σ (t + 1) k = co a k) ∧ dd co a ≤ 13 ∧ σ t 1 = (dd co a : Int) - 1
theorem isP_ne {q t : Nat} (hq : KT.getD q 99 = 4) (ht : KT.getD t 99 = 4) : q ≠ t + 1 ∧ q + 1 ≠ t := by
  have h1 := (isP_arr ht).1
  have h2 := (isP_arr hq).1
  exact ⟨fun e => by rw [e, h1] at hq; exact absurd hq (by decide), fun e => by rw [e, ht] at h2; exact absurd h2 (by decide)⟩
theorem Rp_cg {R : Type} {co : R → Nat → Int} {σ σ' : SG} {t : Nat} {a : R} (h : Rp co σ t a) (h1 : σ' t = σ t) (h2 : σ' (t + 1) = σ (t + 1)) : Rp co σ' t a := by
  unfold Rp at *
  rw [h1, h2]
  exact h
/-- nothing but t is changed -/
def Fr1 (σ σ' : SG) (t : Nat) : Prop := ∀ i, i ≠ t → i ≠ t + 1 → σ' i = σ i
theorem Rp_fr1 {R : Type} {co : R → Nat → Int} {σ σ' : SG} {t q : Nat} {a : R} (h : Rp co σ q a) (ht : KT.getD t 99 = 4) (hne : q ≠ t) (hf : Fr1 σ σ' t) : Rp co σ' q a :=
  Rp_cg h (hf q hne (isP_ne h.1 ht).1) (hf (q + 1) (isP_ne h.1 ht).2 (by omega))
theorem Rp_uniq {R : Type} [Lean.Grind.CommRing R] {p : Nat} {co : R → Nat → Int} {mk : (Nat → Int) → R} (H : PD p co mk) {σ : SG} {t : Nat} {a b : R} (ha : Rp co σ t a) (hb : Rp co σ t b) : a = b := by
  refine pd_ext H (fun k => ?_)
  rcases Nat.lt_or_ge k 13 with q | q
  · rw [← ha.2.1 k q, ← hb.2.1 k q]
  · rw [dd_out H a (by have := ha.2.2.1; omega), dd_out H b (by have := hb.2.2.1; omega)]
theorem Fr1.rf (σ : SG) (t : Nat) : Fr1 σ σ t := fun _ _ _ => rfl
theorem Fr1.tr {σ σ' σ'' : SG} {t : Nat} (h : Fr1 σ σ' t) (k : Fr1 σ' σ'' t) : Fr1 σ σ'' t := fun i h1 h2 => (k i h1 h2).trans (h i h1 h2)
theorem Fr1.a (σ : SG) (t k : Nat) (x : Int) : Fr1 σ (ug σ (t + 1) k x) t := fun i _ h2 => ug_ne σ h2 k x
theorem Fr1.d (σ : SG) (t k : Nat) (x : Int) : Fr1 σ (ug σ t k x) t := fun i h1 _ => ug_ne σ h1 k x
/-! Poly -/
theorem spec_X4_clear {R : Type} [Lean.Grind.CommRing R] {p : Nat} {co : R → Nat → Int} {mk : (Nat → Int) → R} (H : PD p co mk) {σ : SG} {t : Nat} {Q : SG → Prop} (ht : KT.getD t 99 = 4) (hQ : ∀ σ', Fr1 σ σ' t → Rp co σ' t 0 → Q σ') : wp_X4_clear σ t Q := by
  unfold wp_X4_clear
  refine Lp1_up 13 (fun k σ' => Fr1 σ σ' t ∧ ∀ j, j < k → σ' (t + 1) j = 0) ⟨Fr1.rf _ _, fun j h => by omega⟩ ?_ ?_
  · rintro k σ1 r hk ⟨h1, h2⟩ hr
    refine ⟨fun h => by omega, fun _ => ⟨by omega, ?_⟩⟩
    rintro _ rfl
    refine ⟨by omega, hr _ ⟨h1.tr (Fr1.a _ _ _ _), fun j hj => ?_⟩⟩
    rw [Int.toNat_natCast]
    by_cases q : j = k
    · rw [q, ug_eq]
    · rw [ug_k _ _ q]
      exact h2 j (by omega)
  · rintro σ1 r ⟨h1, h2⟩
    refine ⟨fun _ => ?_, fun h => by omega⟩
    rintro _ rfl
    refine hQ _ (h1.tr (Fr1.d _ _ _ _)) ⟨ht, fun k hk => ?_, by rw [dd_zero H]; omega, by rw [ug_eq, dd_zero H]; rfl⟩
    rw [ug_i _ (by omega), h2 k hk, co_zero H]
theorem spec_X4_copy {R : Type} [Lean.Grind.CommRing R] {p : Nat} {co : R → Nat → Int} {mk : (Nat → Int) → R} (H : PD p co mk) {σ : SG} {t q : Nat} {a : R} {Q : SG → Prop} (ht : KT.getD t 99 = 4) (ha : Rp co σ q a) (hQ : ∀ σ', Fr1 σ σ' t → Rp co σ' t a → Q σ') : wp_X4_copy σ t q Q := by
  unfold wp_X4_copy
  have hne := isP_ne ha.1 ht
  refine Lp1_up 13 (fun k σ' => Fr1 σ σ' t ∧ (∀ j, j < k → σ' (t + 1) j = co a j) ∧ Rp co σ' q a) ⟨Fr1.rf _ _, fun j h => by omega, ha⟩ ?_ ?_
  · rintro k σ1 r hk ⟨h1, h2, h3⟩ hr
    refine ⟨fun h => by omega, fun _ => ⟨by omega, by omega, ?_⟩⟩
    rintro _ rfl
    rw [Int.toNat_natCast, h3.2.1 k hk]
    refine ⟨by omega, hr _ ⟨h1.tr (Fr1.a _ _ _ _), fun j hj => ?_, ?_⟩⟩
    · by_cases z : j = k
      · rw [z, ug_eq]
      · rw [ug_k _ _ z]
        exact h2 j (by omega)
    · by_cases z : q = t
      · subst z
        refine ⟨h3.1, fun j hj => ?_, h3.2.2.1, ?_⟩
        · by_cases z : j = k
          · rw [z, ug_eq]
          · rw [ug_k _ _ z]
            exact h3.2.1 j hj
        · rw [ug_i _ (by omega)]; exact h3.2.2.2
      · exact Rp_fr1 h3 ht z (Fr1.a _ _ _ _)
  · rintro σ1 r ⟨h1, h2, h3⟩
    refine ⟨fun _ => ?_, fun h => by omega⟩
    rintro _ rfl
    refine hQ _ (h1.tr (Fr1.d _ _ _ _)) ⟨ht, fun k hk => ?_, h3.2.2.1, by rw [ug_eq]; exact h3.2.2.2⟩
    rw [ug_i _ (by omega), h2 k hk]
theorem spec_X4_lowerDegree {R : Type} [Lean.Grind.CommRing R] {p : Nat} {co : R → Nat → Int} {mk : (Nat → Int) → R} (H : PD p co mk) {σ : SG} {t : Nat} {a : R} {Q : SG → Prop} (ht : KT.getD t 99 = 4) (h1 : ∀ k, k < 13 → σ (t + 1) k = co a k) (h2 : dd co a ≤ 13) (h3 : (dd co a : Int) ≤ σ t 1 + 1) (h4 : σ t 1 < 13) (hQ : ∀ σ', Fr1 σ σ' t → Rp co σ' t a → Q σ') : wp_X4_lowerDegree σ t Q := by
  unfold wp_X4_lowerDegree
  refine Lp0_m (fun σ' => Fr1 σ σ' t ∧ (∀ k, k < 13 → σ' (t + 1) k = co a k) ∧ (dd co a : Int) ≤ σ' t 1 + 1 ∧ σ' t 1 < 13) (fun σ' => (σ' t 1 + 1).toNat) ⟨Fr1.rf _ _, h1, h3, h4⟩ ?_
  rintro σ1 r ⟨g1, g2, g3, g4⟩ hr
  refine ⟨fun h => hQ _ g1 ⟨ht, g2, h2, by omega⟩, fun h => ⟨by omega, fun h5 => hQ _ g1 ⟨ht, g2, h2, ?_⟩, fun h5 => ⟨by omega, ?_⟩⟩⟩
  · rw [g2 _ (by omega)] at h5
    have := dd_ge H h5
    omega
  · rintro _ rfl
    rw [g2 _ (by omega)] at h5
    refine hr _ ⟨g1.tr (Fr1.d _ _ _ _), fun k hk => ?_, ?_, ?_⟩ ?_
    · rw [ug_i _ (by omega)]; exact g2 k hk
    · rw [ug_eq]
      have h6 : dd co a ≠ (σ1 t 1).toNat + 1 := by
        intro e
        have h7 := dd_top H (a := a) (by omega)
        rw [e, Nat.add_sub_cancel] at h7
        exact h7 h5
      omega
    · rw [ug_eq]; omega
    · rw [ug_eq]; omega
theorem spec_X4_at {R : Type} [Lean.Grind.CommRing R] {p : Nat} {co : R → Nat → Int} {mk : (Nat → Int) → R} (H : PD p co mk) {σ : SG} {t : Nat} {a : R} {k : Int} {Q : Int → SG → Prop} (ha : Rp co σ t a) (hQ : ∀ z, z = (if k < 0 then 0 else co a k.toNat) → Q z σ) : wp_X4_at σ t k Q := by
  unfold wp_X4_at
  refine ⟨fun h => hQ _ (by rw [if_pos h]), fun h => ⟨fun h2 => hQ _ ?_, fun h2 => ⟨by omega, hQ _ ?_⟩⟩⟩
  · rw [if_neg h, dd_out H a (by have := ha.2.2.1; omega)]
  · rw [if_neg h, ha.2.1 _ (by omega)]
theorem spec_X4_set {R : Type} [Lean.Grind.CommRing R] {p : Nat} {co : R → Nat → Int} {mk : (Nat → Int) → R} (H : PD p co mk) {σ : SG} {t : Nat} {a : R} {k v : Int} {Q : SG → Prop} (ha : Rp co σ t a) (hk : 0 ≤ k ∧ k < 13) (hv : 0 ≤ v ∧ v < p) (hQ : ∀ σ', Fr1 σ σ' t → Rp co σ' t (a + mo p mk (v - co a k.toNat) k.toNat) → Q σ') : wp_X4_set σ t k v Q := by
  unfold wp_X4_set
  refine ⟨fun h => by omega, fun h => ⟨fun _ => ⟨hk, ?_⟩, fun h => by omega⟩⟩
  rintro _ rfl _ rfl
  have ht := ha.1
  obtain ⟨n, rfl⟩ := Int.eq_ofNat_of_zero_le hk.1
  rw [Int.toNat_natCast] at *
  have hc : ∀ j, co (a + mo p mk (v - co a n) n) j = if j = n then v else co a j := by
    intro j
    rw [co_add H, co_mo H]
    split
    · rename_i e
      rw [e, Int.add_emod_emod, show co a n + (v - co a n) = v by omega]
      exact Int.emod_eq_of_lt hv.1 hv.2
    · rw [Int.add_zero, co_self H]
  have hd : dd co (a + mo p mk (v - co a n) n) ≤ max (dd co a) (n + 1) := dd_le H (fun j hj => by
    rw [hc, if_neg (by omega)]
    exact dd_out H a (by omega))
  have h5 := ha.2.2.1
  refine spec_X4_lowerDegree H (a := a + mo p mk (v - co a n) n) ht (fun j hj => ?_) (by omega) ?_ ?_ (fun σ' g1 g2 => hQ σ' ?_ g2)
  · rw [ug_i _ (by omega), hc]
    by_cases z : j = n
    · rw [z, ug_eq, if_pos rfl]
    · rw [ug_k _ _ z, if_neg z]; exact ha.2.1 j hj
  · rw [ug_eq, ug_i _ (by omega), ha.2.2.2]
    unfold imax
    split <;> omega
  · rw [ug_eq, ug_i _ (by omega), ha.2.2.2]
    unfold imax
    split <;> omega
  · exact ((Fr1.a _ _ _ _).tr (Fr1.d _ _ _ _)).tr g1
theorem tmod_p {p : Nat} (hp : 2 ≤ p) (z : Int) : (if 0 ≤ z.tmod p then z.tmod p else z.tmod p + p) = z % p := by
  have h1 := Int.emod_add_mul_ediv z p
  rcases Int.le_total 0 z with h | h
  · have h2 := Int.tmod_nonneg (p : Int) h
    rw [if_pos h2, Int.tmod_eq_emod_of_nonneg h]
  · have h2 := Int.tmod_nonneg (a := -z) (p : Int) (by omega)
    rw [Int.neg_tmod] at h2
    have h3 : z.tmod p = -((-z) % p) := by
      rw [← Int.tmod_eq_emod_of_nonneg (by omega : 0 ≤ -z), Int.neg_tmod]; omega
    have h4 := Int.emod_nonneg (-z) (show (p : Int) ≠ 0 by omega)
    have h5 := Int.emod_lt_of_pos (-z) (show (0 : Int) < p by omega)
    have h6 : (-((-z) % (p : Int))) % (p : Int) = z % p := by rw [neg_emod2]; congr 1; omega
    rw [h3]
    split
    · rename_i q
      have h7 : (-z) % (p : Int) = 0 := by omega
      rw [h7] at h6 ⊢
      exact h6
    · have h8 : (-((-z) % (p : Int)) + p) % (p : Int) = (-((-z) % (p : Int))) % (p : Int) := Int.add_emod_right _ _
      rw [← h6, ← h8]
      exact (Int.emod_eq_of_lt (by omega) (by omega)).symm
theorem mul_bd {f c F : Int} (h1 : -F ≤ f) (h2 : f ≤ F) (h3 : 0 ≤ c) (h4 : c ≤ 12) : -(12 * F) ≤ f * c ∧ f * c ≤ 12 * F := by
  have hF : 0 ≤ F := by omega
  have e1 := Int.mul_le_mul_of_nonneg_right h2 h3
  have e2 := Int.mul_le_mul_of_nonneg_right h1 h3
  have e3 := Int.mul_le_mul_of_nonneg_left h4 hF
  rw [Int.neg_mul] at e2
  omega
theorem spec_X4_addMultiple {R : Type} [Lean.Grind.CommRing R] {p : Nat} {co : R → Nat → Int} {mk : (Nat → Int) → R} (H : PD p co mk) {σ : SG} {t q : Nat} {a b : R} {f s : Int} {Q : SG → Prop} (ha : Rp co σ t a) (hb : Rp co σ q b) (hs : 0 ≤ s) (hd : (dd co b : Int) + s ≤ 13) (hf : -100000 ≤ f ∧ f ≤ 100000) (hal : t = q → s = 0) (hQ : ∀ σ', Fr1 σ σ' t → Rp co σ' t (a + mo p mk f s.toNat * b) → Q σ') : wp_X4_addMultiple σ t f q s p Q := by
  unfold wp_X4_addMultiple
  have hp := pd_p H
  have ht := ha.1
  obtain ⟨n, rfl⟩ := Int.eq_ofNat_of_zero_le hs
  rw [Int.toNat_natCast] at hQ
  have h1 := hb.2.2.2
  refine ⟨by omega, ?_⟩
  rintro v rfl
  refine ⟨fun h => by omega, fun _ => ⟨fun h => by omega, fun _ => ⟨fun _ => ?_, fun h => by omega⟩⟩⟩
  have hc : ∀ j, co (a + mo p mk f n * b) j = if j < n then co a j else (co a j + f * co b (j - n)) % p := by
    intro j
    rw [co_add H, co_mo_mul H]
    split
    · rw [Int.add_zero, co_self H]
    · rw [Int.add_emod_emod]
  have hne : t ≠ q → q ≠ t + 1 ∧ q + 1 ≠ t := fun _ => isP_ne hb.1 ht
  refine Lp1_up (dd co b) (fun k σ' => Fr1 σ σ' t ∧ σ' t 1 = σ t 1 ∧ σ' q 1 = σ q 1 ∧ (∀ j, j < 13 → σ' (t + 1) j = if n ≤ j ∧ j < n + k then co (a + mo p mk f n * b) j else co a j) ∧ (∀ j, j < 13 → k ≤ j → σ' (q + 1) j = co b j)) ⟨Fr1.rf _ _, rfl, rfl, fun j hj => by rw [if_neg (by omega)]; exact ha.2.1 j hj, fun j hj _ => hb.2.1 j hj⟩ ?_ ?_
  · rintro k σ1 r hk ⟨g1, g2, g3, g4, g5⟩ hr
    have e1 : σ1 (t + 1) ((k : Int) + (n : Int)).toNat = co a (k + n) := by
      rw [show ((k : Int) + (n : Int)).toNat = k + n by omega, g4 _ (by omega), if_neg (by omega)]
    have e2 : σ1 (q + 1) (k : Int).toNat = co b k := by
      rw [Int.toNat_natCast, g5 k (by omega) (Nat.le_refl _)]
    have r1 := pd_rng H a (k + n)
    have r2 := pd_rng H b k
    have r3 := mul_bd hf.1 hf.2 r2.1 (show co b k ≤ 12 by omega)
    have em := tmod_p hp.1 (co a (k + n) + f * co b k)
    have eh := hc (k + n)
    rw [if_neg (by omega), Nat.add_sub_cancel] at eh
    have next : ∀ v, v = co (a + mo p mk f n * b) (k + n) → r ((k : Int) + 1) (ug σ1 (t + 1) (((k : Int) + (n : Int)).toNat) v) := by
      intro v hv
      rw [show ((k : Int) + (n : Int)).toNat = k + n by omega]
      refine hr _ ⟨g1.tr (Fr1.a _ _ _ _), by rw [ug_i _ (by omega)]; exact g2, ?_, fun j hj => ?_, fun j hj hkj => ?_⟩
      · by_cases z : t = q
        · rw [ug_i _ (by omega)]; exact g3
        · rw [ug_i _ (hne z).1]; exact g3
      · by_cases z : j = k + n
        · rw [z, ug_eq, if_pos (by omega), hv]
        · rw [ug_k _ _ z, g4 j hj]
          by_cases z2 : n ≤ j ∧ j < n + k
          · rw [if_pos z2, if_pos (by omega)]
          · rw [if_neg z2, if_neg (by omega)]
      · by_cases z : t = q
        · have h0 : n = 0 := by have := hal z; omega
          rw [z, ug_k _ _ (by omega)]
          exact g5 j hj (by omega)
        · rw [ug_i _ (by omega)]
          exact g5 j hj (by omega)
    refine ⟨fun h => by omega, fun _ => ?_⟩
    rw [e1, e2]
    refine ⟨by omega, by omega, by omega, by omega, by omega, by omega, ?_⟩
    rintro v rfl
    refine ⟨by omega, fun h => ⟨by omega, ?_⟩, fun h => ⟨?_, by omega, ?_⟩⟩
    · rintro _ rfl
      rw [if_pos h] at em
      exact ⟨by omega, next _ (by rw [em, eh])⟩
    · rw [if_neg h] at em
      have := Int.emod_nonneg (co a (k + n) + f * co b k) (show (p : Int) ≠ 0 by omega)
      have := Int.emod_lt_of_pos (co a (k + n) + f * co b k) (show (0 : Int) < p by omega)
      omega
    · rintro _ rfl
      rw [if_neg h] at em
      exact ⟨by omega, next _ (by rw [em, eh])⟩
  · rintro σ1 r ⟨g1, g2, g3, g4, g5⟩
    refine ⟨fun _ => ?_, fun h => by omega⟩
    rintro _ rfl
    have hd2 : dd co (a + mo p mk f n * b) ≤ max (dd co a) (n + dd co b) := dd_le H (fun j hj => by
      rw [hc, if_neg (by omega), dd_out H a (by omega), dd_out H b (by omega)]
      simp)
    have h5 := ha.2.2.1
    refine spec_X4_lowerDegree H (a := a + mo p mk f n * b) ht (fun j hj => ?_) (by omega) ?_ ?_ (fun σ' k1 k2 => hQ σ' ((g1.tr (Fr1.d _ _ _ _)).tr k1) k2)
    · rw [ug_i _ (by omega), g4 j hj]
      split
      · rfl
      · rename_i z
        rw [hc]
        split
        · rfl
        · rw [dd_out H b (by omega), Int.mul_zero, Int.add_zero, co_self H]
    · rw [ug_eq, g2, ha.2.2.2]
      unfold imax
      split <;> omega
    · rw [ug_eq, g2, ha.2.2.2]
      unfold imax
      split <;> omega
theorem spec_X4_becomeConstant {R : Type} [Lean.Grind.CommRing R] {p : Nat} {co : R → Nat → Int} {mk : (Nat → Int) → R} (H : PD p co mk) {σ : SG} {t : Nat} {v : Int} {Q : SG → Prop} (ht : KT.getD t 99 = 4) (hv : 0 ≤ v ∧ v < p) (hQ : ∀ σ', Fr1 σ σ' t → Rp co σ' t (mo p mk v 0 : R) → Q σ') : wp_X4_becomeConstant σ t v Q := by
  unfold wp_X4_becomeConstant
  refine spec_X4_clear H ht (fun σ1 h1 h2 => spec_X4_set H h2 (by omega) hv (fun σ2 h3 h4 => hQ σ2 (h1.tr h3) ?_))
  rw [co_zero H, Int.sub_zero] at h4
  rw [show (mo p mk v 0 : R) = 0 + mo p mk v (0 : Int).toNat by grind]
  exact h4
theorem spec_X4_becomeVariable {R : Type} [Lean.Grind.CommRing R] {p : Nat} {co : R → Nat → Int} {mk : (Nat → Int) → R} (H : PD p co mk) {σ : SG} {t : Nat} {Q : SG → Prop} (ht : KT.getD t 99 = 4) (hQ : ∀ σ', Fr1 σ σ' t → Rp co σ' t (xx p mk : R) → Q σ') : wp_X4_becomeVariable σ t Q := by
  unfold wp_X4_becomeVariable
  have hp := pd_p H
  refine spec_X4_clear H ht (fun σ1 h1 h2 => spec_X4_set H h2 (by omega) (by omega) (fun σ2 h3 h4 => hQ σ2 (h1.tr h3) ?_))
  rw [co_zero H, Int.sub_zero] at h4
  unfold xx
  rw [show (mo p mk 1 1 : R) = 0 + mo p mk 1 (1 : Int).toNat by show _ = 0 + mo p mk 1 1; grind]
  exact h4
theorem spec_X4_isOne {R : Type} [Lean.Grind.CommRing R] {p : Nat} {co : R → Nat → Int} {mk : (Nat → Int) → R} (H : PD p co mk) {σ : SG} {t : Nat} {a : R} {Q : Int → SG → Prop} (ha : Rp co σ t a) (hQ : ∀ z, (z = 0 ∧ a ≠ 1 ∨ z = 1 ∧ a = 1) → Q z σ) : wp_X4_isOne σ t Q := by
  unfold wp_X4_isOne
  have h1 := ha.2.2.2
  refine ⟨fun h => hQ _ (Or.inl ⟨rfl, fun e => ?_⟩), fun h => ⟨fun h2 => hQ _ (Or.inl ⟨rfl, fun e => ?_⟩), fun h2 => hQ _ (Or.inr ⟨rfl, ?_⟩)⟩⟩
  · rw [e, dd_one H] at h1; omega
  · rw [ha.2.1 0 (by omega), e, co_one H] at h2; exact h2 rfl
  · rw [ha.2.1 0 (by omega)] at h2
    exact dd1_one H (by omega) h2
theorem spec_X4_sameAs {R : Type} [Lean.Grind.CommRing R] {p : Nat} {co : R → Nat → Int} {mk : (Nat → Int) → R} (H : PD p co mk) {σ : SG} {t q : Nat} {a b : R} {Q : Int → SG → Prop} (ha : Rp co σ t a) (hb : Rp co σ q b) (hQ : ∀ z, (z = 0 ∧ a ≠ b ∨ z = 1 ∧ a = b) → Q z σ) : wp_X4_sameAs σ t q Q := by
  unfold wp_X4_sameAs
  refine Lp1_up 13 (fun k σ' => σ' = σ ∧ ∀ j, j < k → co a j = co b j) ⟨rfl, fun j h => by omega⟩ ?_ ?_
  · rintro k σ1 r hk ⟨rfl, h2⟩ hr
    rw [Int.toNat_natCast, ha.2.1 k hk, hb.2.1 k hk]
    refine ⟨fun h => by omega, fun _ => ⟨by omega, by omega, fun h => ⟨by omega, hr _ ⟨rfl, fun j hj => ?_⟩⟩, fun h => hQ _ (Or.inl ⟨rfl, fun e => h (by rw [e])⟩)⟩⟩
    by_cases z : j = k
    · rw [z]; exact h
    · exact h2 j (by omega)
  · rintro σ1 r ⟨rfl, h2⟩
    refine ⟨fun _ => hQ _ (Or.inr ⟨rfl, pd_ext H (fun k => ?_)⟩), fun h => by omega⟩
    rcases Nat.lt_or_ge k 13 with z | z
    · exact h2 k z
    · rw [dd_out H a (by have := ha.2.2.1; omega), dd_out H b (by have := hb.2.2.1; omega)]
/-- the order of branches: by the degrees, then by the greatest coefficient at which they differ -/
def Lt {R : Type} (co : R → Nat → Int) (a b : R) : Prop := dd co a < dd co b ∨ (dd co a = dd co b ∧ ∃ k, co a k < co b k ∧ ∀ j, k < j → co a j = co b j)
theorem spec_X4_comesBefore {R : Type} [Lean.Grind.CommRing R] {p : Nat} {co : R → Nat → Int} {mk : (Nat → Int) → R} (H : PD p co mk) {σ : SG} {t q : Nat} {a b : R} {Q : Int → SG → Prop} (ha : Rp co σ t a) (hb : Rp co σ q b) (hQ : ∀ z, (z = 0 ∧ ¬ Lt co a b ∨ z = 1 ∧ Lt co a b) → Q z σ) : wp_X4_comesBefore σ t q Q := by
  unfold wp_X4_comesBefore
  have h1 := ha.2.2.2
  have h2 := hb.2.2.2
  refine ⟨fun h => ?_, fun h => ⟨fun h3 => hQ _ (Or.inl ⟨rfl, fun e => ?_⟩), fun h3 => hQ _ (Or.inr ⟨rfl, Or.inl (by omega)⟩)⟩⟩
  · have hd : dd co a = dd co b := by omega
    refine Lp1_dn 13 (fun k σ' => σ' = σ ∧ ∀ j, k ≤ j → co a j = co b j) ⟨rfl, fun j hj => by rw [dd_out H a (by have := ha.2.2.1; omega), dd_out H b (by have := hb.2.2.1; omega)]⟩ ?_ ?_
    · rintro k σ1 r hk ⟨rfl, h4⟩ hr
      rw [Int.toNat_natCast, ha.2.1 k hk, hb.2.1 k hk]
      refine ⟨fun h => by omega, fun _ => ⟨by omega, by omega, fun h => ⟨by omega, hr _ ⟨rfl, fun j hj => ?_⟩⟩, fun h => ⟨by omega, by omega, fun h5 => hQ _ (Or.inl ⟨rfl, fun e => ?_⟩), fun h5 => hQ _ (Or.inr ⟨rfl, Or.inr ⟨hd, k, by omega, fun j hj => h4 j hj⟩⟩)⟩⟩⟩
      · by_cases z : j = k
        · rw [z]; exact h
        · exact h4 j (by omega)
      · rcases e with e | ⟨-, j, e1, e2⟩
        · omega
        · rcases Nat.lt_trichotomy j k with z | z | z
          · exact h (e2 k z)
          · rw [z] at e1; omega
          · have := h4 j z; omega
    · rintro σ1 r ⟨rfl, h4⟩
      refine ⟨fun _ => hQ _ (Or.inl ⟨rfl, fun e => ?_⟩), fun h => by omega⟩
      rcases e with e | ⟨-, j, e1, e2⟩
      · omega
      · have := h4 j (Nat.zero_le _); omega
  · rcases e with e | ⟨e, -⟩ <;> omega
