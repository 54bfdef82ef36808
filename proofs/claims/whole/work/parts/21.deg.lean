/-! a ring of polynomials over a prime, by its coefficients -/
def Pr (p : Nat) : Prop := p = 2 ∨ p = 3 ∨ p = 5 ∨ p = 7 ∨ p = 11 ∨ p = 13
def PD {R : Type} [Lean.Grind.CommRing R] (p : Nat) (co : R → Nat → Int) (mk : (Nat → Int) → R) : Prop :=
  Pr p ∧ (∀ a b : R, (∀ k, co a k = co b k) → a = b) ∧ (∀ (a : R) (k : Nat), 0 ≤ co a k ∧ co a k < p) ∧ (∀ a : R, ∃ n : Nat, ∀ k, n ≤ k → co a k = 0) ∧
  (∀ f : Nat → Int, (∀ k, 0 ≤ f k ∧ f k < p) → (∃ n, ∀ k, n ≤ k → f k = 0) → ∀ k, co (mk f) k = f k) ∧
  (∀ (a b : R) (k : Nat), co (a + b) k = (co a k + co b k) % p) ∧ (∀ (a : R) (k : Nat), co (-a) k = (-co a k) % p) ∧ (∀ (a b : R) (k : Nat), co (a * b) k = cv (co a) (co b) k % p) ∧
  (∀ k : Nat, co (1 : R) k = if k = 0 then 1 else 0) ∧ (∀ k : Nat, co (0 : R) k = 0)
noncomputable def polMk (p : Nat) (f : Nat → Int) : POL p := @Classical.epsilon (POL p) ⟨polC p 0⟩ (fun a => ∀ k, a.1 k = f k)
theorem PD_pol {p : Nat} (hp : Pr (p + 2)) : @PD (POL p) (polR p) (p + 2) (fun a => a.1) (polMk p) := by
  refine ⟨hp, fun a b h => pol_ext h, fun a k => a.2.1 k, fun a => a.2.2, fun f h1 h2 k => ?_, fun a b k => rfl, fun a k => rfl, fun a b k => rfl, fun k => ?_, fun k => ?_⟩
  · exact @Classical.epsilon_spec (POL p) (fun a => ∀ k, a.1 k = f k) ⟨⟨f, h1, h2⟩, fun _ => rfl⟩ k
  · show (if k = 0 then 1 % _ else 0) = _
    split
    · exact Int.emod_eq_of_lt (by omega) (by omega)
    · rfl
  · show (if k = 0 then 0 % _ else 0) = _
    split <;> simp
theorem emm (a b p : Int) : (a % p * b) % p = a * b % p := by rw [Int.mul_emod, Int.emod_emod, ← Int.mul_emod]
theorem mem_ (a b p : Int) : (a * (b % p)) % p = a * b % p := by rw [Int.mul_emod, Int.emod_emod, ← Int.mul_emod]
theorem Pr_pos {p : Nat} (h : Pr p) : 2 ≤ p ∧ p ≤ 13 := by
  unfold Pr at h
  omega
theorem Pr_inv {p : Nat} (h : Pr p) {c : Int} (h0 : 0 < c) (h1 : c < p) : ∃ e : Int, 0 < e ∧ e < p ∧ c * e % p = 1 := by
  obtain ⟨n, rfl⟩ := Int.eq_ofNat_of_zero_le (Int.le_of_lt h0)
  have key : ∀ p, Pr p → ∀ n, 0 < n → n < p → ∃ e : Nat, 0 < e ∧ e < p ∧ n * e % p = 1 := by
    intro p hp
    rcases hp with rfl | rfl | rfl | rfl | rfl | rfl <;> intro n h0 h1
    · exact (by decide : ∀ n, n < 2 → 0 < n → ∃ e : Nat, e < 2 ∧ 0 < e ∧ n * e % 2 = 1) n h1 h0 |>.elim fun e he => ⟨e, he.2.1, he.1, he.2.2⟩
    · exact (by decide : ∀ n, n < 3 → 0 < n → ∃ e : Nat, e < 3 ∧ 0 < e ∧ n * e % 3 = 1) n h1 h0 |>.elim fun e he => ⟨e, he.2.1, he.1, he.2.2⟩
    · exact (by decide : ∀ n, n < 5 → 0 < n → ∃ e : Nat, e < 5 ∧ 0 < e ∧ n * e % 5 = 1) n h1 h0 |>.elim fun e he => ⟨e, he.2.1, he.1, he.2.2⟩
    · exact (by decide : ∀ n, n < 7 → 0 < n → ∃ e : Nat, e < 7 ∧ 0 < e ∧ n * e % 7 = 1) n h1 h0 |>.elim fun e he => ⟨e, he.2.1, he.1, he.2.2⟩
    · exact (by decide : ∀ n, n < 11 → 0 < n → ∃ e : Nat, e < 11 ∧ 0 < e ∧ n * e % 11 = 1) n h1 h0 |>.elim fun e he => ⟨e, he.2.1, he.1, he.2.2⟩
    · exact (by decide : ∀ n, n < 13 → 0 < n → ∃ e : Nat, e < 13 ∧ 0 < e ∧ n * e % 13 = 1) n h1 h0 |>.elim fun e he => ⟨e, he.2.1, he.1, he.2.2⟩
  obtain ⟨e, e1, e2, e3⟩ := key p h n (by omega) (by omega)
  exact ⟨e, by omega, by omega, by exact_mod_cast e3⟩
/-- a prime divides no product of two that it doesn't divide -/
theorem Pr_mul {p : Nat} (h : Pr p) {a b : Int} (ha : a % p ≠ 0) (hb : b % p ≠ 0) : a * b % p ≠ 0 := by
  have hp := Pr_pos h
  have h1 : 0 ≤ a % p := Int.emod_nonneg _ (by omega)
  have h2 : a % p < p := Int.emod_lt_of_pos _ (by omega)
  obtain ⟨e, e1, e2, e3⟩ := Pr_inv h (c := a % p) (by omega) h2
  intro h3
  apply hb
  have h4 : a * e * b % p = 0 := by rw [Int.mul_assoc, Int.mul_comm e b, ← Int.mul_assoc, ← emm, h3]; simp
  have h5 : a * e % p = 1 := by rw [← emm]; exact e3
  rw [← emm, h5, Int.one_mul] at h4
  exact h4
theorem pd_p {R : Type} [Lean.Grind.CommRing R] {p : Nat} {co : R → Nat → Int} {mk : (Nat → Int) → R} (H : PD p co mk) : 2 ≤ p ∧ p ≤ 13 := Pr_pos H.1
theorem pd_ext {R : Type} [Lean.Grind.CommRing R] {p : Nat} {co : R → Nat → Int} {mk : (Nat → Int) → R} (H : PD p co mk) {a b : R} (h : ∀ k, co a k = co b k) : a = b := H.2.1 a b h
theorem pd_rng {R : Type} [Lean.Grind.CommRing R] {p : Nat} {co : R → Nat → Int} {mk : (Nat → Int) → R} (H : PD p co mk) (a : R) (k : Nat) : 0 ≤ co a k ∧ co a k < p := H.2.2.1 a k
theorem pd_fin {R : Type} [Lean.Grind.CommRing R] {p : Nat} {co : R → Nat → Int} {mk : (Nat → Int) → R} (H : PD p co mk) (a : R) : ∃ n : Nat, ∀ k, n ≤ k → co a k = 0 := H.2.2.2.1 a
theorem pd_mk {R : Type} [Lean.Grind.CommRing R] {p : Nat} {co : R → Nat → Int} {mk : (Nat → Int) → R} (H : PD p co mk) {f : Nat → Int} (h : ∀ k, 0 ≤ f k ∧ f k < p) (h2 : ∃ n, ∀ k, n ≤ k → f k = 0) (k : Nat) : co (mk f) k = f k := H.2.2.2.2.1 f h h2 k
theorem co_add {R : Type} [Lean.Grind.CommRing R] {p : Nat} {co : R → Nat → Int} {mk : (Nat → Int) → R} (H : PD p co mk) (a b : R) (k : Nat) : co (a + b) k = (co a k + co b k) % p := H.2.2.2.2.2.1 a b k
theorem co_neg {R : Type} [Lean.Grind.CommRing R] {p : Nat} {co : R → Nat → Int} {mk : (Nat → Int) → R} (H : PD p co mk) (a : R) (k : Nat) : co (-a) k = (-co a k) % p := H.2.2.2.2.2.2.1 a k
theorem co_mul {R : Type} [Lean.Grind.CommRing R] {p : Nat} {co : R → Nat → Int} {mk : (Nat → Int) → R} (H : PD p co mk) (a b : R) (k : Nat) : co (a * b) k = cv (co a) (co b) k % p := H.2.2.2.2.2.2.2.1 a b k
theorem co_one {R : Type} [Lean.Grind.CommRing R] {p : Nat} {co : R → Nat → Int} {mk : (Nat → Int) → R} (H : PD p co mk) (k : Nat) : co (1 : R) k = if k = 0 then 1 else 0 := H.2.2.2.2.2.2.2.2.1 k
theorem co_zero {R : Type} [Lean.Grind.CommRing R] {p : Nat} {co : R → Nat → Int} {mk : (Nat → Int) → R} (H : PD p co mk) (k : Nat) : co (0 : R) k = 0 := H.2.2.2.2.2.2.2.2.2 k
theorem co_self {R : Type} [Lean.Grind.CommRing R] {p : Nat} {co : R → Nat → Int} {mk : (Nat → Int) → R} (H : PD p co mk) (a : R) (k : Nat) : co a k % p = co a k := Int.emod_eq_of_lt (pd_rng H a k).1 (pd_rng H a k).2
theorem co_sub {R : Type} [Lean.Grind.CommRing R] {p : Nat} {co : R → Nat → Int} {mk : (Nat → Int) → R} (H : PD p co mk) (a b : R) (k : Nat) : co (a - b) k = (co a k - co b k) % p := by
  rw [Lean.Grind.Ring.sub_eq_add_neg, co_add H, co_neg H, Int.add_emod_emod]
  congr 1
noncomputable def dd {R : Type} (co : R → Nat → Int) (a : R) : Nat := Classical.epsilon (fun n => (∀ k, n ≤ k → co a k = 0) ∧ ∀ j, j < n → ¬ ∀ k, j ≤ k → co a k = 0)
theorem dd_spec {R : Type} [Lean.Grind.CommRing R] {p : Nat} {co : R → Nat → Int} {mk : (Nat → Int) → R} (H : PD p co mk) (a : R) : (∀ k, dd co a ≤ k → co a k = 0) ∧ ∀ j, j < dd co a → ¬ ∀ k, j ≤ k → co a k = 0 :=
  Classical.epsilon_spec (p := fun n => (∀ k, n ≤ k → co a k = 0) ∧ ∀ j, j < n → ¬ ∀ k, j ≤ k → co a k = 0) (pk_least _ (pd_fin H a))
theorem dd_out {R : Type} [Lean.Grind.CommRing R] {p : Nat} {co : R → Nat → Int} {mk : (Nat → Int) → R} (H : PD p co mk) (a : R) {k : Nat} (h : dd co a ≤ k) : co a k = 0 := (dd_spec H a).1 k h
theorem dd_top {R : Type} [Lean.Grind.CommRing R] {p : Nat} {co : R → Nat → Int} {mk : (Nat → Int) → R} (H : PD p co mk) {a : R} (h : 0 < dd co a) : co a (dd co a - 1) ≠ 0 := by
  intro h0
  refine (dd_spec H a).2 (dd co a - 1) (by omega) (fun k hk => ?_)
  by_cases q : k = dd co a - 1
  · rw [q]; exact h0
  · exact dd_out H a (by omega)
theorem dd_le {R : Type} [Lean.Grind.CommRing R] {p : Nat} {co : R → Nat → Int} {mk : (Nat → Int) → R} (H : PD p co mk) {a : R} {n : Nat} (h : ∀ k, n ≤ k → co a k = 0) : dd co a ≤ n := by
  rcases Nat.lt_or_ge n (dd co a) with q | q
  · exact absurd h ((dd_spec H a).2 n q)
  · exact q
theorem dd_ge {R : Type} [Lean.Grind.CommRing R] {p : Nat} {co : R → Nat → Int} {mk : (Nat → Int) → R} (H : PD p co mk) {a : R} {k : Nat} (h : co a k ≠ 0) : k < dd co a := by
  rcases Nat.lt_or_ge k (dd co a) with q | q
  · exact q
  · exact absurd (dd_out H a q) h
theorem dd_of {R : Type} [Lean.Grind.CommRing R] {p : Nat} {co : R → Nat → Int} {mk : (Nat → Int) → R} (H : PD p co mk) {a : R} {n : Nat} (h1 : ∀ k, n ≤ k → co a k = 0) (h2 : n = 0 ∨ co a (n - 1) ≠ 0) : dd co a = n := by
  have h3 := dd_le H h1
  rcases h2 with rfl | h2
  · omega
  · have := dd_ge H h2
    omega
theorem dd_zero {R : Type} [Lean.Grind.CommRing R] {p : Nat} {co : R → Nat → Int} {mk : (Nat → Int) → R} (H : PD p co mk) : dd co (0 : R) = 0 := dd_of H (fun k _ => co_zero H k) (Or.inl rfl)
theorem dd_eq0 {R : Type} [Lean.Grind.CommRing R] {p : Nat} {co : R → Nat → Int} {mk : (Nat → Int) → R} (H : PD p co mk) {a : R} (h : dd co a = 0) : a = 0 := pd_ext H (fun k => by rw [dd_out H a (by omega), co_zero H])
theorem dd_pos {R : Type} [Lean.Grind.CommRing R] {p : Nat} {co : R → Nat → Int} {mk : (Nat → Int) → R} (H : PD p co mk) {a : R} (h : a ≠ 0) : 0 < dd co a := Nat.pos_of_ne_zero (fun q => h (dd_eq0 H q))
theorem dd_ne0 {R : Type} [Lean.Grind.CommRing R] {p : Nat} {co : R → Nat → Int} {mk : (Nat → Int) → R} (H : PD p co mk) {a : R} (h : 0 < dd co a) : a ≠ 0 := fun q => by rw [q, dd_zero H] at h; omega
theorem dd_one {R : Type} [Lean.Grind.CommRing R] {p : Nat} {co : R → Nat → Int} {mk : (Nat → Int) → R} (H : PD p co mk) : dd co (1 : R) = 1 := dd_of H (fun k hk => by rw [co_one H, if_neg (by omega)]) (Or.inr (by rw [co_one H]; decide))
theorem one_ne {R : Type} [Lean.Grind.CommRing R] {p : Nat} {co : R → Nat → Int} {mk : (Nat → Int) → R} (H : PD p co mk) : (1 : R) ≠ 0 := dd_ne0 H (by rw [dd_one H]; decide)
theorem dd_add_le {R : Type} [Lean.Grind.CommRing R] {p : Nat} {co : R → Nat → Int} {mk : (Nat → Int) → R} (H : PD p co mk) {a b : R} {n : Nat} (ha : dd co a ≤ n) (hb : dd co b ≤ n) : dd co (a + b) ≤ n := dd_le H (fun k hk => by rw [co_add H, dd_out H a (by omega), dd_out H b (by omega)]; simp)
theorem dd_sub_le {R : Type} [Lean.Grind.CommRing R] {p : Nat} {co : R → Nat → Int} {mk : (Nat → Int) → R} (H : PD p co mk) {a b : R} {n : Nat} (ha : dd co a ≤ n) (hb : dd co b ≤ n) : dd co (a - b) ≤ n := dd_le H (fun k hk => by rw [co_sub H, dd_out H a (by omega), dd_out H b (by omega)]; simp)
theorem co_mul_top {R : Type} [Lean.Grind.CommRing R] {p : Nat} {co : R → Nat → Int} {mk : (Nat → Int) → R} (H : PD p co mk) (a b : R) (ha : 0 < dd co a) (hb : 0 < dd co b) : co (a * b) (dd co a - 1 + (dd co b - 1)) = co a (dd co a - 1) * co b (dd co b - 1) % p := by
  rw [co_mul H]
  unfold cv
  rw [sm_one (k := dd co a - 1) (by omega)]
  · rw [show dd co a - 1 + (dd co b - 1) - (dd co a - 1) = dd co b - 1 by omega]
  · intro i hi hne
    by_cases q : i < dd co a - 1
    · rw [dd_out H b (by omega), Int.mul_zero]
    · rw [dd_out H a (by omega), Int.zero_mul]
theorem co_nz {R : Type} [Lean.Grind.CommRing R] {p : Nat} {co : R → Nat → Int} {mk : (Nat → Int) → R} (H : PD p co mk) {a : R} {k : Nat} (h : co a k ≠ 0) : co a k % p ≠ 0 := by rw [co_self H]; exact h
theorem dd_mul {R : Type} [Lean.Grind.CommRing R] {p : Nat} {co : R → Nat → Int} {mk : (Nat → Int) → R} (H : PD p co mk) {a b : R} (ha : a ≠ 0) (hb : b ≠ 0) : dd co (a * b) + 1 = dd co a + dd co b := by
  have h1 := dd_pos H ha
  have h2 := dd_pos H hb
  have h3 : dd co (a * b) = dd co a - 1 + (dd co b - 1) + 1 := by
    refine dd_of H (fun k hk => ?_) (Or.inr ?_)
    · rw [co_mul H, show cv (co a) (co b) k = 0 from ?_]
      · simp
      · refine sm_zero (fun i hi => ?_)
        by_cases q : i < dd co a
        · rw [dd_out H b (by omega), Int.mul_zero]
        · rw [dd_out H a (by omega), Int.zero_mul]
    · rw [Nat.add_sub_cancel, co_mul_top H a b h1 h2]
      exact Pr_mul H.1 (co_nz H (dd_top H h1)) (co_nz H (dd_top H h2))
  omega
theorem rg_zmul {R : Type} [Lean.Grind.CommRing R] (a : R) : 0 * a = 0 := by grind
theorem rg_mulz {R : Type} [Lean.Grind.CommRing R] (a : R) : a * 0 = 0 := by grind
theorem mul_ne {R : Type} [Lean.Grind.CommRing R] {p : Nat} {co : R → Nat → Int} {mk : (Nat → Int) → R} (H : PD p co mk) {a b : R} (ha : a ≠ 0) (hb : b ≠ 0) : a * b ≠ 0 := by
  have h := dd_mul H ha hb
  have h1 := dd_pos H ha
  have h2 := dd_pos H hb
  exact dd_ne0 H (by omega)
theorem mul_cancel {R : Type} [Lean.Grind.CommRing R] {p : Nat} {co : R → Nat → Int} {mk : (Nat → Int) → R} (H : PD p co mk) {a b c : R} (ha : a ≠ 0) (h : a * b = a * c) : b = c := by
  by_cases q : b - c = 0
  · grind
  · exact absurd (show a * (b - c) = 0 by grind) (mul_ne H ha q)
/-- c times x to the power s -/
def mo {R : Type} (p : Nat) (mk : (Nat → Int) → R) (c : Int) (s : Nat) : R := mk (fun k => if k = s then c % p else 0)
theorem co_mo {R : Type} [Lean.Grind.CommRing R] {p : Nat} {co : R → Nat → Int} {mk : (Nat → Int) → R} (H : PD p co mk) (c : Int) (s k : Nat) : co (mo p mk c s) k = if k = s then c % p else 0 := by
  have hp := pd_p H
  refine pd_mk H (fun k => ?_) ⟨s + 1, fun k hk => if_neg (by omega)⟩ k
  split
  · exact ⟨Int.emod_nonneg _ (by omega), Int.emod_lt_of_pos _ (by omega)⟩
  · omega
theorem co_mo_mul {R : Type} [Lean.Grind.CommRing R] {p : Nat} {co : R → Nat → Int} {mk : (Nat → Int) → R} (H : PD p co mk) (c : Int) (s : Nat) (a : R) (k : Nat) : co (mo p mk c s * a) k = if k < s then 0 else c * co a (k - s) % p := by
  rw [co_mul H]
  unfold cv
  by_cases q : k < s
  · rw [if_pos q, sm_zero (fun i hi => by rw [co_mo H, if_neg (by omega), Int.zero_mul])]
    simp
  · rw [if_neg q, sm_one (k := s) (by omega) (fun i hi hne => by rw [co_mo H, if_neg hne, Int.zero_mul]), co_mo H, if_pos rfl, emm]
theorem mo_1 {R : Type} [Lean.Grind.CommRing R] {p : Nat} {co : R → Nat → Int} {mk : (Nat → Int) → R} (H : PD p co mk) : mo p mk 1 0 = (1 : R) := pd_ext H (fun k => by
  have hp := pd_p H
  rw [co_mo H, co_one H]
  split
  · exact Int.emod_eq_of_lt (by omega) (by omega)
  · rfl)
theorem dd_mo_le {R : Type} [Lean.Grind.CommRing R] {p : Nat} {co : R → Nat → Int} {mk : (Nat → Int) → R} (H : PD p co mk) (c : Int) (s : Nat) : dd co (mo p mk c s) ≤ s + 1 := dd_le H (fun k hk => by rw [co_mo H, if_neg (by omega)])
/-! division -/
theorem div_ex {R : Type} [Lean.Grind.CommRing R] {p : Nat} {co : R → Nat → Int} {mk : (Nat → Int) → R} (H : PD p co mk) (b : R) (hb : b ≠ 0) : ∀ (n : Nat) (a : R), dd co a ≤ n → ∃ q r : R, a = q * b + r ∧ dd co r < dd co b := by
  have hB := dd_pos H hb
  have hp := pd_p H
  have hbt := pd_rng H b (dd co b - 1)
  obtain ⟨e, e1, e2, e3⟩ := Pr_inv H.1 (c := co b (dd co b - 1)) (by have := dd_top H hB; omega) hbt.2
  intro n
  induction n with
  | zero => intro a ha; exact ⟨0, a, by grind, by omega⟩
  | succ n ih =>
    intro a ha
    by_cases q : dd co a < dd co b
    · exact ⟨0, a, by grind, q⟩
    · obtain ⟨s, hs⟩ : ∃ s, s = dd co a - dd co b := ⟨_, rfl⟩
      obtain ⟨c, hc⟩ : ∃ c, c = co a (dd co a - 1) * e := ⟨_, rfl⟩
      have h1 : dd co (a - mo p mk c s * b) ≤ n := by
        refine dd_le H (fun k hk => ?_)
        rw [co_sub H, co_mo_mul H, if_neg (by omega)]
        by_cases q2 : k = dd co a - 1
        · subst q2
          rw [show dd co a - 1 - s = dd co b - 1 by omega, hc, Int.sub_emod, Int.emod_emod, Int.mul_assoc, Int.mul_comm e, Int.mul_emod, e3, Int.mul_one, Int.emod_emod, Int.sub_self]
          rfl
        · rw [dd_out H a (by omega), dd_out H b (by omega), Int.mul_zero]
          rfl
      obtain ⟨q1, r, h2, h3⟩ := ih _ h1
      exact ⟨q1 + mo p mk c s, r, by grind, h3⟩
theorem div_uniq {R : Type} [Lean.Grind.CommRing R] {p : Nat} {co : R → Nat → Int} {mk : (Nat → Int) → R} (H : PD p co mk) {b q r q2 r2 : R} (h : q * b + r = q2 * b + r2) (h1 : dd co r < dd co b) (h2 : dd co r2 < dd co b) : q = q2 ∧ r = r2 := by
  have hb : b ≠ 0 := dd_ne0 H (by omega)
  by_cases z : q - q2 = 0
  · exact ⟨by grind, by grind⟩
  · have h3 := dd_mul H z hb
    have h4 : (q - q2) * b = r2 - r := by grind
    have h5 := dd_sub_le H (n := dd co b - 1) (a := r2) (b := r) (by omega) (by omega)
    rw [← h4] at h5
    have := dd_pos H z
    omega
