/-! the class's reckoner -/
theorem rk_P {v : Nat} (h : v < 6) : KT.getD (125 + 2 + 4 * v) 99 = 4 ∧ KT.getD (126 + 3 + 4 * v) 99 = 4 := by
  rcases (show v = 0 ∨ v = 1 ∨ v = 2 ∨ v = 3 ∨ v = 4 ∨ v = 5 by omega) with e | e | e | e | e | e <;> subst e <;> exact ⟨by decide +kernel, by decide +kernel⟩
theorem spec_X5_startProduct {R : Type} [Lean.Grind.CommRing R] {p : Nat} {co : R → Nat → Int} {mk : (Nat → Int) → R} (H : PD p co mk) {σ : SG} {v : Nat} {Q : SG → Prop} (hv : v < 6) (hl : σ 124 9 = v) (hQ : ∀ σ' : SG, (∀ i, i ≠ 152 → i ≠ 126 + 3 + 4 * v → i ≠ 126 + 3 + 4 * v + 1 → σ' i = σ i) → σ' 152 v = 0 → (∀ k, k ≠ v → σ' 152 k = σ 152 k) → Rp co σ' (126 + 3 + 4 * v) (1 : R) → Q σ') : wp_X5_startProduct σ Q := by
  unfold wp_X5_startProduct
  have hp := pd_p H
  have hP := (rk_P hv).2
  rw [hl, Int.toNat_natCast]
  refine ⟨by omega, spec_X4_becomeConstant H hP (by omega) (fun σ1 k1 m1 => ?_)⟩
  rw [mo_1 H] at m1
  rw [k1 124 (by omega) (by omega), hl, Int.toNat_natCast]
  refine ⟨by omega, ?_⟩
  rintro σ2 e2
  exact hQ σ2 (fun i a b c => by rw [e2, ug_ne _ a]; exact k1 i b c) (by rw [e2, ug_eq]) (fun k hk => by rw [e2, ug_k _ _ hk, k1 152 (by omega) (by omega)]) (Rp_cg m1 (by rw [e2, ug_ne _ (by omega)]) (by rw [e2, ug_ne _ (by omega)]))
