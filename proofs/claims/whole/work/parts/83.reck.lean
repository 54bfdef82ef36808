/-! the class's reckoner -/
theorem rk_P {v : Nat} (h : v < 6) : KT.getD (125 + 2 + 4 * v) 99 = 4 ∧ KT.getD (126 + 3 + 4 * v) 99 = 4 := by
  rcases (show v = 0 ∨ v = 1 ∨ v = 2 ∨ v = 3 ∨ v = 4 ∨ v = 5 by omega) with e | e | e | e | e | e <;> subst e <;> exact ⟨by decide +kernel, by decide +kernel⟩
theorem spec_X5_startProduct {R : Type} [Lean.Grind.CommRing R] {p : Nat} {co : R → Nat → Int} {mk : (Nat → Int) → R} (H : PD p co mk) {σ : SG} {v : Nat} {Q : SG → Prop} (hv : v < 6) (hl : σ 124 9 = v) (hQ : ∀ σ' : SG, (∀ i, i ≠ 152 → i ≠ 126 + 3 + 4 * v → i ≠ 126 + 3 + 4 * v + 1 → σ' i = σ i) → σ' 152 v = 0 → (∀ k, k ≠ v → σ' 152 k = σ 152 k) → Rp co σ' (126 + 3 + 4 * v) (1 : R) → Q σ') : wp_X5_startProduct σ Q := by
  unfold wp_X5_startProduct
  have hp := pd_p H
  have hP := (rk_P hv).2
  rw [hl, Int.toNat_natCast]
  refine ⟨by omega, spec_X4_becomeConstant H hP (by omega) (fun σ1 k1 m1 => ?_)⟩
  rw [mo_1 H] at m1
  rw [k1 124 (by omega) (by omega), hl, Int.toNat_natCast]
  refine ⟨by omega, ?_⟩
  rintro σ2 e2
  exact hQ σ2 (fun i a b c => by rw [e2, ug_ne _ a]; exact k1 i b c) (by rw [e2, ug_eq]) (fun k hk => by rw [e2, ug_k _ _ hk, k1 152 (by omega) (by omega)]) (Rp_cg m1 (by rw [e2, ug_ne _ (by omega)]) (by rw [e2, ug_ne _ (by omega)]))
/-- what stands at the level v -/
def Lv {R : Type} (co : R → Nat → Int) (σ : SG) (v : Nat) (s q : R) (mi ov : Int) : Prop := Rp co σ (125 + 2 + 4 * v) s ∧ Rp co σ (126 + 3 + 4 * v) q ∧ σ 151 v = mi ∧ σ 152 v = ov
theorem spec_X5_startSum {R : Type} [Lean.Grind.CommRing R] {p : Nat} {co : R → Nat → Int} {mk : (Nat → Int) → R} (H : PD p co mk) {σ : SG} {v : Nat} {Q : SG → Prop} (hv : v < 6) (hl : σ 124 9 = v) (hQ : ∀ σ' : SG, (∀ i, i ≠ 151 → i ≠ 152 → i ≠ 125 + 2 + 4 * v → i ≠ 125 + 2 + 4 * v + 1 → i ≠ 126 + 3 + 4 * v → i ≠ 126 + 3 + 4 * v + 1 → σ' i = σ i) → (∀ k, k ≠ v → σ' 151 k = σ 151 k ∧ σ' 152 k = σ 152 k) → Lv co σ' v (0 : R) 1 0 0 → Q σ') : wp_X5_startSum σ Q := by
  unfold wp_X5_startSum
  have hP := (rk_P hv).1
  rw [hl, Int.toNat_natCast]
  refine ⟨by omega, spec_X4_clear H hP (fun σ1 k1 m1 => ?_)⟩
  rw [k1 124 (by omega) (by omega), hl, Int.toNat_natCast]
  refine ⟨by omega, ?_⟩
  rintro σ2 e2
  refine spec_X5_startProduct H hv (by rw [e2, ug_ne _ (by decide), k1 124 (by omega) (by omega), hl]) (fun σ3 f3 o3 n3 m3 => ?_)
  have m2 : Rp co σ2 (125 + 2 + 4 * v) (0 : R) := Rp_cg m1 (by rw [e2, ug_ne _ (by omega)]) (by rw [e2, ug_ne _ (by omega)])
  refine hQ σ3 (fun i a b c d e f => by rw [f3 i b e f, e2, ug_ne _ a]; exact k1 i c d) (fun k hk => ⟨by rw [f3 151 (by decide) (by omega) (by omega), e2, ug_k _ _ hk, k1 151 (by omega) (by omega)], by rw [n3 k hk, e2, ug_ne _ (by decide), k1 152 (by omega) (by omega)]⟩) ⟨Rp_cg m2 (f3 _ (by omega) (by omega) (by omega)) (f3 _ (by omega) (by omega) (by omega)), m3, by rw [f3 151 (by decide) (by omega) (by omega), e2, ug_eq], o3⟩
theorem spec_X5_endProduct {R : Type} [Lean.Grind.CommRing R] {p : Nat} {co : R → Nat → Int} {mk : (Nat → Int) → R} (H : PD p co mk) {σ : SG} {v : Nat} {s q : R} {mi ov : Int} {Q : SG → Prop} (hσ : σ 1 0 = p) (hv : v < 6) (hl : σ 124 9 = v) (h : Lv co σ v s q mi ov) (hQ : ∀ σ' : SG, (∀ i, i ≠ 152 → i ≠ 125 + 2 + 4 * v → i ≠ 125 + 2 + 4 * v + 1 → i ≠ 126 + 3 + 4 * v → i ≠ 126 + 3 + 4 * v + 1 → σ' i = σ i) → (∀ k, k ≠ v → σ' 152 k = σ 152 k) → Lv co σ' v (if mi = 0 then s + q else s - q) 1 mi 0 → Q σ') : wp_X5_endProduct σ Q := by
  unfold wp_X5_endProduct
  obtain ⟨h1, h2, h3, h4⟩ := h
  rw [hl, Int.toNat_natCast, h3]
  refine ⟨by omega, by omega, by omega, spec_X6_add H hσ h1 h2 (fun σ1 k1 m1 => ?_)⟩
  refine spec_X5_startProduct H hv (by rw [k1 124 (by omega) (by omega), hl]) (fun σ2 f2 o2 n2 m2 => ?_)
  exact hQ σ2 (fun i a b c d e => by rw [f2 i a d e]; exact k1 i b c) (fun k hk => by rw [n2 k hk, k1 152 (by omega) (by omega)]) ⟨Rp_cg m1 (f2 _ (by omega) (by omega) (by omega)) (f2 _ (by omega) (by omega) (by omega)), m2, by rw [f2 151 (by decide) (by omega) (by omega), k1 151 (by omega) (by omega)]; exact h3, o2⟩
