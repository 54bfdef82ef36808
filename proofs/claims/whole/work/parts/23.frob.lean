/-! the derivative; polynomials without squares -/
def der {R : Type} (p : Nat) (co : R → Nat → Int) (mk : (Nat → Int) → R) (a : R) : R := mk (fun k => ((k : Int) + 1) * co a (k + 1) % p)
theorem co_der {R : Type} [Lean.Grind.CommRing R] {p : Nat} {co : R → Nat → Int} {mk : (Nat → Int) → R} (H : PD p co mk) (a : R) (k : Nat) : co (der p co mk a) k = ((k : Int) + 1) * co a (k + 1) % p := by
  have hp := pd_p H
  refine pd_mk H (fun k => ⟨Int.emod_nonneg _ (by omega), Int.emod_lt_of_pos _ (by omega)⟩) ?_ k
  obtain ⟨n, hn⟩ := pd_fin H a
  exact ⟨n, fun k hk => by rw [hn (k + 1) (by omega), Int.mul_zero]; rfl⟩
theorem cv_der (f g : Nat → Int) (k : Nat) : ((k : Int) + 1) * cv f g (k + 1) = cv (fun i => ((i : Int) + 1) * f (i + 1)) g k + cv f (fun i => ((i : Int) + 1) * g (i + 1)) k := by
  unfold cv
  rw [← sm_mul]
  have h1 : sm (fun i => ((k : Int) + 1) * (f i * g (k + 1 - i))) (k + 1 + 1) = sm (fun i => (i : Int) * (f i * g (k + 1 - i)) + ((k : Int) + 1 - i) * (f i * g (k + 1 - i))) (k + 1 + 1) := by
    refine sm_congr (fun i _ => ?_)
    rw [← Int.add_mul]
    congr 1
    omega
  rw [h1, sm_add]
  congr 1
  · rw [sm_head]
    simp only [Int.natCast_zero, Int.zero_mul, Int.zero_add]
    refine sm_congr (fun i hi => ?_)
    rw [show k + 1 - (i + 1) = k - i by omega, Int.mul_assoc]
    congr 1
  · rw [sm]
    have e : ((k : Int) + 1 - ((k + 1 : Nat) : Int)) = 0 := by omega
    rw [e, Int.zero_mul, Int.add_zero]
    refine sm_congr (fun i hi => ?_)
    rw [show k + 1 - i = k - i + 1 by omega, Int.mul_left_comm]
    congr 2
    omega
theorem der_mul {R : Type} [Lean.Grind.CommRing R] {p : Nat} {co : R → Nat → Int} {mk : (Nat → Int) → R} (H : PD p co mk) (a b : R) : der p co mk (a * b) = der p co mk a * b + a * der p co mk b := pd_ext H (fun k => by
  rw [co_der H, co_mul H, mem_, cv_der, co_add H, co_mul H, co_mul H, Int.add_emod]
  congr 2
  · rw [← cv_emod']
    unfold cv
    congr 1
    exact sm_congr (fun i _ => by rw [co_der H])
  · rw [← cv_emod]
    unfold cv
    congr 1
    exact sm_congr (fun i _ => by rw [co_der H]))
def SF {R : Type} [Lean.Grind.CommRing R] (p : Nat) (co : R → Nat → Int) (mk : (Nat → Int) → R) (f : R) : Prop := Cp f (der p co mk f)
theorem SF_cp {R : Type} [Lean.Grind.CommRing R] {p : Nat} {co : R → Nat → Int} {mk : (Nat → Int) → R} (H : PD p co mk) {a b : R} (h : SF p co mk (a * b)) : Cp a b := by
  obtain ⟨u, v, h⟩ := h
  rw [der_mul H] at h
  exact ⟨u * b + v * der p co mk b, v * der p co mk a, by grind⟩
theorem SF_l {R : Type} [Lean.Grind.CommRing R] {p : Nat} {co : R → Nat → Int} {mk : (Nat → Int) → R} (H : PD p co mk) {a b : R} (h : SF p co mk (a * b)) : SF p co mk a := by
  obtain ⟨u, v, h⟩ := h
  rw [der_mul H] at h
  exact ⟨u * b + v * der p co mk b, v * b, by grind⟩
theorem SF_dv {R : Type} [Lean.Grind.CommRing R] {p : Nat} {co : R → Nat → Int} {mk : (Nat → Int) → R} (H : PD p co mk) {a f : R} (h : SF p co mk f) (k : Dv a f) : SF p co mk a := by
  obtain ⟨c, rfl⟩ := k
  exact SF_l H h
/-! powers -/
theorem pw_0 {R : Type} [Lean.Grind.CommRing R] (a : R) : a ^ 0 = 1 := Lean.Grind.Semiring.pow_zero a
theorem pw_s {R : Type} [Lean.Grind.CommRing R] (a : R) (n : Nat) : a ^ (n + 1) = a ^ n * a := Lean.Grind.Semiring.pow_succ a n
theorem pw_add {R : Type} [Lean.Grind.CommRing R] (a : R) (m n : Nat) : a ^ (m + n) = a ^ m * a ^ n := by
  induction n with
  | zero => rw [Nat.add_zero, pw_0]; grind
  | succ n ih => rw [← Nat.add_assoc, pw_s, ih, pw_s]; grind
theorem pw_mul {R : Type} [Lean.Grind.CommRing R] (a : R) (m n : Nat) : a ^ (m * n) = (a ^ m) ^ n := by
  induction n with
  | zero => rw [Nat.mul_zero, pw_0, pw_0]
  | succ n ih => rw [Nat.mul_succ, pw_add, ih, pw_s]
theorem mul_pw {R : Type} [Lean.Grind.CommRing R] (a b : R) (n : Nat) : (a * b) ^ n = a ^ n * b ^ n := by
  induction n with
  | zero => rw [pw_0, pw_0, pw_0]; grind
  | succ n ih => rw [pw_s, pw_s, pw_s, ih]; grind
theorem one_pw {R : Type} [Lean.Grind.CommRing R] (n : Nat) : (1 : R) ^ n = 1 := by
  induction n with
  | zero => rw [pw_0]
  | succ n ih => rw [pw_s, ih]; grind
theorem pw_1 {R : Type} [Lean.Grind.CommRing R] (a : R) : a ^ 1 = a := by rw [pw_s, pw_0]; grind
theorem cg_tr {R : Type} [Lean.Grind.CommRing R] {m a b c : R} (h : Dv m (a - b)) (k : Dv m (b - c)) : Dv m (a - c) := by
  obtain ⟨x, h⟩ := h
  obtain ⟨y, k⟩ := k
  exact ⟨x + y, by grind⟩
theorem cg_sym {R : Type} [Lean.Grind.CommRing R] {m a b : R} (h : Dv m (a - b)) : Dv m (b - a) := by
  obtain ⟨x, h⟩ := h
  exact ⟨-x, by grind⟩
theorem cg_mul {R : Type} [Lean.Grind.CommRing R] {m a b c d : R} (h : Dv m (a - b)) (k : Dv m (c - d)) : Dv m (a * c - b * d) := by
  obtain ⟨x, h⟩ := h
  obtain ⟨y, k⟩ := k
  exact ⟨x * c + b * y, by grind⟩
theorem cg_rf {R : Type} [Lean.Grind.CommRing R] (m a : R) : Dv m (a - a) := ⟨0, by grind⟩
theorem cg_pw {R : Type} [Lean.Grind.CommRing R] {m a b : R} (h : Dv m (a - b)) (n : Nat) : Dv m (a ^ n - b ^ n) := by
  induction n with
  | zero => rw [pw_0, pw_0]; exact cg_rf m 1
  | succ n ih => rw [pw_s, pw_s]; exact cg_mul ih h
theorem Cp_pw {R : Type} [Lean.Grind.CommRing R] {a b : R} (h : Cp a b) (n : Nat) : Cp a (b ^ n) := by
  induction n with
  | zero => rw [pw_0]; exact Cp_one a
  | succ n ih => rw [pw_s]; exact Cp_mul ih h
/-! the prime is nothing in the ring; the power with the prime adds up -/
theorem co_nat {R : Type} [Lean.Grind.CommRing R] {p : Nat} {co : R → Nat → Int} {mk : (Nat → Int) → R} (H : PD p co mk) (n k : Nat) : co (OfNat.ofNat (α := R) n) k = if k = 0 then (n : Int) % p else 0 := by
  induction n generalizing k with
  | zero =>
    have h := co_zero H k
    rw [show OfNat.ofNat (α := R) 0 = (0 : R) from rfl, h]
    split <;> simp
  | succ n ih =>
    rw [Lean.Grind.Semiring.ofNat_succ, co_add H, ih, co_one H]
    by_cases q : k = 0
    · rw [if_pos q, if_pos q, if_pos q, Int.emod_add_emod]
      rfl
    · rw [if_neg q, if_neg q, if_neg q]; rfl
theorem of_p {R : Type} [Lean.Grind.CommRing R] {p : Nat} {co : R → Nat → Int} {mk : (Nat → Int) → R} (H : PD p co mk) (n : Nat) (h : n = p) : (OfNat.ofNat (α := R) n) = 0 := pd_ext H (fun k => by
  rw [co_nat H, co_zero H, h]
  split
  · exact Int.emod_self
  · rfl)
theorem fb2 {R : Type} [Lean.Grind.CommRing R] (a b : R) (h : (2 : R) = 0) : (a + b) ^ 2 = a ^ 2 + b ^ 2 := by grind
theorem fb3 {R : Type} [Lean.Grind.CommRing R] (a b : R) (h : (3 : R) = 0) : (a + b) ^ 3 = a ^ 3 + b ^ 3 := by grind
theorem fb5 {R : Type} [Lean.Grind.CommRing R] (a b : R) (h : (5 : R) = 0) : (a + b) ^ 5 = a ^ 5 + b ^ 5 := by
  have e : (a + b) ^ 5 = a ^ 5 + b ^ 5 + 5 * (a ^ 4 * b + 2 * a ^ 3 * b ^ 2 + 2 * a ^ 2 * b ^ 3 + a * b ^ 4) := by grind
  rw [e, h]; grind
theorem fb7 {R : Type} [Lean.Grind.CommRing R] (a b : R) (h : (7 : R) = 0) : (a + b) ^ 7 = a ^ 7 + b ^ 7 := by
  have e : (a + b) ^ 7 = a ^ 7 + b ^ 7 + 7 * (a ^ 6 * b + 3 * a ^ 5 * b ^ 2 + 5 * a ^ 4 * b ^ 3 + 5 * a ^ 3 * b ^ 4 + 3 * a ^ 2 * b ^ 5 + a * b ^ 6) := by grind
  rw [e, h]; grind
theorem fb11 {R : Type} [Lean.Grind.CommRing R] (a b : R) (h : (11 : R) = 0) : (a + b) ^ 11 = a ^ 11 + b ^ 11 := by
  have e : (a + b) ^ 11 = a ^ 11 + b ^ 11 + 11 * (a ^ 10 * b + 5 * a ^ 9 * b ^ 2 + 15 * a ^ 8 * b ^ 3 + 30 * a ^ 7 * b ^ 4 + 42 * a ^ 6 * b ^ 5 + 42 * a ^ 5 * b ^ 6 + 30 * a ^ 4 * b ^ 7 + 15 * a ^ 3 * b ^ 8 + 5 * a ^ 2 * b ^ 9 + a * b ^ 10) := by grind
  rw [e, h]; grind
theorem fb13 {R : Type} [Lean.Grind.CommRing R] (a b : R) (h : (13 : R) = 0) : (a + b) ^ 13 = a ^ 13 + b ^ 13 := by
  have e : (a + b) ^ 13 = a ^ 13 + b ^ 13 + 13 * (a ^ 12 * b + 6 * a ^ 11 * b ^ 2 + 22 * a ^ 10 * b ^ 3 + 55 * a ^ 9 * b ^ 4 + 99 * a ^ 8 * b ^ 5 + 132 * a ^ 7 * b ^ 6 + 132 * a ^ 6 * b ^ 7 + 99 * a ^ 5 * b ^ 8 + 55 * a ^ 4 * b ^ 9 + 22 * a ^ 3 * b ^ 10 + 6 * a ^ 2 * b ^ 11 + a * b ^ 12) := by grind
  rw [e, h]; grind
theorem frob_add {R : Type} [Lean.Grind.CommRing R] {p : Nat} {co : R → Nat → Int} {mk : (Nat → Int) → R} (H : PD p co mk) (a b : R) : (a + b) ^ p = a ^ p + b ^ p := by
  have hp := H.1
  rcases hp with q | q | q | q | q | q
  · have h := of_p H 2 q.symm
    rw [q]; exact fb2 a b h
  · have h := of_p H 3 q.symm
    rw [q]; exact fb3 a b h
  · have h := of_p H 5 q.symm
    rw [q]; exact fb5 a b h
  · have h := of_p H 7 q.symm
    rw [q]; exact fb7 a b h
  · have h := of_p H 11 q.symm
    rw [q]; exact fb11 a b h
  · have h := of_p H 13 q.symm
    rw [q]; exact fb13 a b h
theorem mo0_pw {R : Type} [Lean.Grind.CommRing R] {p : Nat} {co : R → Nat → Int} {mk : (Nat → Int) → R} (H : PD p co mk) (c : Int) (n : Nat) : (mo p mk c 0) ^ n = mo p mk (c ^ n) 0 := by
  induction n with
  | zero => rw [pw_0, ← mo_1 H, Int.pow_zero]
  | succ n ih => rw [pw_s, ih, mo0_mul H, Int.pow_succ]
theorem fermat {p : Nat} (h : Pr p) (c : Int) : c ^ p % p = c % p := by
  have key : ∀ q, Pr q → ∀ n, n < q → n ^ q % q = n % q := by
    intro q hq
    rcases hq with rfl | rfl | rfl | rfl | rfl | rfl <;> decide
  have hp := Pr_pos h
  have e1 : ∀ n : Nat, c ^ n % p = (c % p) ^ n % p := by
    intro n
    induction n with
    | zero => rw [Int.pow_zero, Int.pow_zero]
    | succ n ih => rw [Int.pow_succ, Int.pow_succ, Int.mul_emod, ih, ← Int.mul_emod, mem_]
  rw [e1]
  obtain ⟨n, hn⟩ := Int.eq_ofNat_of_zero_le (Int.emod_nonneg c (show (p : Int) ≠ 0 by omega))
  have h2 : n < p := by have := Int.emod_lt_of_pos c (show (0 : Int) < p by omega); omega
  have h3 := key p h n h2
  rw [hn]
  have h4 : ((n ^ p % p : Nat) : Int) = ((n % p : Nat) : Int) := by rw [h3]
  have h5 : ((n : Int) ^ p) % (p : Int) = (n : Int) % (p : Int) := by exact_mod_cast h4
  rw [h5]
  have h6 : (n : Int) % (p : Int) = n := Int.emod_eq_of_lt (by omega) (by omega)
  exact h6
theorem mo0_p {R : Type} [Lean.Grind.CommRing R] {p : Nat} {co : R → Nat → Int} {mk : (Nat → Int) → R} (H : PD p co mk) (c : Int) : (mo p mk c 0) ^ p = mo p mk c 0 := by rw [mo0_pw H]; exact mo_mod H 0 (fermat H.1 c)
theorem frobs_add {R : Type} [Lean.Grind.CommRing R] {p : Nat} {co : R → Nat → Int} {mk : (Nat → Int) → R} (H : PD p co mk) (d : Nat) (a b : R) : (a + b) ^ (p ^ d) = a ^ (p ^ d) + b ^ (p ^ d) := by
  induction d with
  | zero => rw [Nat.pow_zero, pw_1, pw_1, pw_1]
  | succ d ih => rw [Nat.pow_succ, pw_mul, pw_mul, pw_mul, ih, frob_add H]
theorem frobs_mo {R : Type} [Lean.Grind.CommRing R] {p : Nat} {co : R → Nat → Int} {mk : (Nat → Int) → R} (H : PD p co mk) (d : Nat) (c : Int) : (mo p mk c 0) ^ (p ^ d) = mo p mk c 0 := by
  induction d with
  | zero => rw [Nat.pow_zero, pw_1]
  | succ d ih => rw [Nat.pow_succ, pw_mul, ih, mo0_p H]
/-- x -/
def xx {R : Type} (p : Nat) (mk : (Nat → Int) → R) : R := mo p mk 1 1
theorem co_x {R : Type} [Lean.Grind.CommRing R] {p : Nat} {co : R → Nat → Int} {mk : (Nat → Int) → R} (H : PD p co mk) (k : Nat) : co (xx p mk) k = if k = 1 then 1 else 0 := by
  have hp := pd_p H
  unfold xx
  rw [co_mo H]
  split
  · exact Int.emod_eq_of_lt (by omega) (by omega)
  · rfl
theorem dd_x {R : Type} [Lean.Grind.CommRing R] {p : Nat} {co : R → Nat → Int} {mk : (Nat → Int) → R} (H : PD p co mk) : dd co (xx p mk) = 2 := dd_of H (fun k hk => by rw [co_x H, if_neg (by omega)]) (Or.inr (by rw [co_x H]; decide))
theorem mon_x {R : Type} [Lean.Grind.CommRing R] {p : Nat} {co : R → Nat → Int} {mk : (Nat → Int) → R} (H : PD p co mk) : mon co (xx p mk) := ⟨by rw [dd_x H]; decide, by rw [dd_x H, co_x H]; rfl⟩
theorem co_x_mul {R : Type} [Lean.Grind.CommRing R] {p : Nat} {co : R → Nat → Int} {mk : (Nat → Int) → R} (H : PD p co mk) (a : R) (k : Nat) : co (xx p mk * a) k = if k = 0 then 0 else co a (k - 1) := by
  unfold xx
  rw [co_mo_mul H]
  by_cases q : k = 0
  · rw [if_pos (by omega), if_pos q]
  · rw [if_neg (by omega), if_neg q, Int.one_mul, co_self H]
/-- a polynomial by its constant and the rest of it -/
theorem tail_ex {R : Type} [Lean.Grind.CommRing R] {p : Nat} {co : R → Nat → Int} {mk : (Nat → Int) → R} (H : PD p co mk) (a : R) : ∃ b : R, a = mo p mk (co a 0) 0 + xx p mk * b ∧ (dd co b < dd co a ∨ a = 0) := by
  have h2 : ∀ k, co (mk fun k => co a (k + 1)) k = co a (k + 1) := pd_mk H (fun k => pd_rng H a _) (by
    obtain ⟨n, hn⟩ := pd_fin H a
    exact ⟨n, fun k hk => hn _ (by omega)⟩)
  refine ⟨mk (fun k => co a (k + 1)), pd_ext H (fun k => ?_), ?_⟩
  · rw [co_add H, co_mo H, co_x_mul H]
    by_cases q : k = 0
    · rw [if_pos q, if_pos q, q, Int.add_zero, Int.emod_emod, co_self H]
    · rw [if_neg q, if_neg q, h2, Int.zero_add, show k - 1 + 1 = k by omega, co_self H]
  · by_cases q : a = 0
    · exact Or.inr q
    · left
      have h := dd_pos H q
      have h3 : dd co (mk fun k => co a (k + 1)) ≤ dd co a - 1 := dd_le H (fun k hk => by rw [h2, dd_out H a (by omega)])
      omega
/-- where x is its own power, each number is -/
theorem frob_all {R : Type} [Lean.Grind.CommRing R] {p : Nat} {co : R → Nat → Int} {mk : (Nat → Int) → R} (H : PD p co mk) {g : R} {d : Nat} (hg : Dv g (xx p mk ^ (p ^ d) - xx p mk)) : ∀ (n : Nat) (a : R), dd co a ≤ n → Dv g (a ^ (p ^ d) - a) := by
  intro n
  induction n with
  | zero =>
    intro a ha
    have h0 := dd_eq0 H (a := a) (by omega)
    have hp := pd_p H
    have h1 : p ^ d = p ^ d - 1 + 1 := by have := Nat.pow_pos (n := d) (show 0 < p by omega); omega
    rw [h0, h1, pw_s]
    exact ⟨0, by grind⟩
  | succ n ih =>
    intro a ha
    obtain ⟨b, h1, h2⟩ := tail_ex H a
    by_cases q : a = 0
    · exact ih a (by rw [q, dd_zero H]; omega)
    · have h3 : dd co b < dd co a := by rcases h2 with h2 | h2; exact h2; exact absurd h2 q
      obtain ⟨y, hy⟩ := ih b (by omega)
      obtain ⟨z, hz⟩ := hg
      have e : a ^ (p ^ d) = mo p mk (co a 0) 0 + xx p mk ^ (p ^ d) * b ^ (p ^ d) := by
        conv => lhs; rw [h1]
        rw [frobs_add H, frobs_mo H, mul_pw]
      refine ⟨xx p mk ^ (p ^ d) * y + z * b, ?_⟩
      rw [e]
      grind
