def Dv {R : Type} [Lean.Grind.CommRing R] (a b : R) : Prop := ∃ c : R, b = a * c
def Cp {R : Type} [Lean.Grind.CommRing R] (a b : R) : Prop := ∃ u v : R, u * a + v * b = 1
def mon {R : Type} [Lean.Grind.CommRing R] (co : R → Nat → Int) (a : R) : Prop := 0 < dd co a ∧ co a (dd co a - 1) = 1
theorem Dv_rf {R : Type} [Lean.Grind.CommRing R] (a : R) : Dv a a := ⟨1, by grind⟩
theorem Dv_one {R : Type} [Lean.Grind.CommRing R] (a : R) : Dv 1 a := ⟨a, by grind⟩
theorem Dv_zero {R : Type} [Lean.Grind.CommRing R] (a : R) : Dv a 0 := ⟨0, by grind⟩
theorem Dv_tr {R : Type} [Lean.Grind.CommRing R] {a b c : R} (h : Dv a b) (k : Dv b c) : Dv a c := by
  obtain ⟨x, rfl⟩ := h
  obtain ⟨y, rfl⟩ := k
  exact ⟨x * y, by grind⟩
theorem Dv_add {R : Type} [Lean.Grind.CommRing R] {a b c : R} (h : Dv a b) (k : Dv a c) : Dv a (b + c) := by
  obtain ⟨x, rfl⟩ := h
  obtain ⟨y, rfl⟩ := k
  exact ⟨x + y, by grind⟩
theorem Dv_sub {R : Type} [Lean.Grind.CommRing R] {a b c : R} (h : Dv a b) (k : Dv a c) : Dv a (b - c) := by
  obtain ⟨x, rfl⟩ := h
  obtain ⟨y, rfl⟩ := k
  exact ⟨x - y, by grind⟩
theorem Dv_mulr {R : Type} [Lean.Grind.CommRing R] {a b : R} (c : R) (h : Dv a b) : Dv a (b * c) := by
  obtain ⟨x, rfl⟩ := h
  exact ⟨x * c, by grind⟩
theorem Dv_mull {R : Type} [Lean.Grind.CommRing R] {a b : R} (c : R) (h : Dv a b) : Dv a (c * b) := by
  obtain ⟨x, rfl⟩ := h
  exact ⟨x * c, by grind⟩
theorem Dv_l {R : Type} [Lean.Grind.CommRing R] (a b : R) : Dv a (a * b) := ⟨b, rfl⟩
theorem Dv_r {R : Type} [Lean.Grind.CommRing R] (a b : R) : Dv b (a * b) := ⟨a, by grind⟩
theorem Cp_sym {R : Type} [Lean.Grind.CommRing R] {a b : R} (h : Cp a b) : Cp b a := by
  obtain ⟨u, v, h⟩ := h
  exact ⟨v, u, by grind⟩
theorem Cp_one {R : Type} [Lean.Grind.CommRing R] (a : R) : Cp a 1 := ⟨0, 1, by grind⟩
theorem Cp_dv {R : Type} [Lean.Grind.CommRing R] {a b c : R} (h : Cp a b) (k : Dv a (b * c)) : Dv a c := by
  obtain ⟨u, v, h⟩ := h
  obtain ⟨x, k⟩ := k
  exact ⟨c * u + v * x, by grind⟩
theorem Cp_mul {R : Type} [Lean.Grind.CommRing R] {a b c : R} (h : Cp a b) (k : Cp a c) : Cp a (b * c) := by
  obtain ⟨u, v, h⟩ := h
  obtain ⟨x, y, k⟩ := k
  exact ⟨u * x * a + u * y * c + v * b * x, v * y, by grind⟩
theorem Cp_mul_dv {R : Type} [Lean.Grind.CommRing R] {a b m : R} (h : Cp a b) (k : Dv a m) (l : Dv b m) : Dv (a * b) m := by
  obtain ⟨u, v, h⟩ := h
  obtain ⟨x, k⟩ := k
  obtain ⟨y, l⟩ := l
  exact ⟨u * y + v * x, by grind⟩
theorem Cp_sub {R : Type} [Lean.Grind.CommRing R] {a a2 b : R} (h : Cp a b) (k : Dv a2 a) : Cp a2 b := by
  obtain ⟨u, v, h⟩ := h
  obtain ⟨x, rfl⟩ := k
  exact ⟨u * x, v, by grind⟩
theorem Cp_sub2 {R : Type} [Lean.Grind.CommRing R] {a b b2 : R} (h : Cp a b) (k : Dv b2 b) : Cp a b2 := Cp_sym (Cp_sub (Cp_sym h) k)
theorem Cp_cg {R : Type} [Lean.Grind.CommRing R] {a b b2 : R} (h : Cp a b) (k : Dv a (b - b2)) : Cp a b2 := by
  obtain ⟨u, v, h⟩ := h
  obtain ⟨x, k⟩ := k
  exact ⟨u + v * x, v, by grind⟩
theorem mon_ne {R : Type} [Lean.Grind.CommRing R] {p : Nat} {co : R → Nat → Int} {mk : (Nat → Int) → R} (H : PD p co mk) {a : R} (h : mon co a) : a ≠ 0 := dd_ne0 H h.1
theorem mon_one {R : Type} [Lean.Grind.CommRing R] {p : Nat} {co : R → Nat → Int} {mk : (Nat → Int) → R} (H : PD p co mk) : mon co (1 : R) := ⟨by rw [dd_one H]; decide, by rw [dd_one H, co_one H]; rfl⟩
theorem mon_mul {R : Type} [Lean.Grind.CommRing R] {p : Nat} {co : R → Nat → Int} {mk : (Nat → Int) → R} (H : PD p co mk) {a b : R} (ha : mon co a) (hb : mon co b) : mon co (a * b) := by
  have h := dd_mul H (mon_ne H ha) (mon_ne H hb)
  have hp := pd_p H
  have h1 := ha.1
  have h2 := hb.1
  refine ⟨by omega, ?_⟩
  rw [show dd co (a * b) - 1 = dd co a - 1 + (dd co b - 1) by omega, co_mul_top H a b ha.1 hb.1, ha.2, hb.2]
  exact Int.emod_eq_of_lt (by omega) (by omega)
theorem mon_fac {R : Type} [Lean.Grind.CommRing R] {p : Nat} {co : R → Nat → Int} {mk : (Nat → Int) → R} (H : PD p co mk) {a b : R} (ha : mon co a) (hab : mon co (a * b)) : mon co b := by
  have hb : b ≠ 0 := by
    intro q
    rw [q, rg_mulz] at hab
    exact mon_ne H hab rfl
  have h := dd_mul H (mon_ne H ha) hb
  have h2 := dd_pos H hb
  have h1 := ha.1
  have h3 := hab.2
  rw [show dd co (a * b) - 1 = dd co a - 1 + (dd co b - 1) by omega, co_mul_top H a b ha.1 h2, ha.2, Int.one_mul, co_self H] at h3
  exact ⟨h2, h3⟩
theorem dd1_one {R : Type} [Lean.Grind.CommRing R] {p : Nat} {co : R → Nat → Int} {mk : (Nat → Int) → R} (H : PD p co mk) {a : R} (h : dd co a = 1) (h2 : co a 0 = 1) : a = 1 := pd_ext H (fun k => by
  rw [co_one H]
  by_cases q : k = 0
  · rw [q, h2]; rfl
  · rw [dd_out H a (by omega), if_neg q])
theorem mon1 {R : Type} [Lean.Grind.CommRing R] {p : Nat} {co : R → Nat → Int} {mk : (Nat → Int) → R} (H : PD p co mk) {a : R} (h : mon co a) (h1 : dd co a = 1) : a = 1 := dd1_one H h1 (by have := h.2; rw [h1] at this; exact this)
theorem Dv_dd {R : Type} [Lean.Grind.CommRing R] {p : Nat} {co : R → Nat → Int} {mk : (Nat → Int) → R} (H : PD p co mk) {a b : R} (hb : b ≠ 0) (h : Dv a b) : dd co a ≤ dd co b := by
  obtain ⟨c, rfl⟩ := h
  have ha : a ≠ 0 := fun q => hb (by rw [q]; grind)
  have hc : c ≠ 0 := fun q => hb (by rw [q]; grind)
  have := dd_mul H ha hc
  have := dd_pos H hc
  omega
theorem Dv_small {R : Type} [Lean.Grind.CommRing R] {p : Nat} {co : R → Nat → Int} {mk : (Nat → Int) → R} (H : PD p co mk) {a b : R} (h : Dv a b) (k : dd co b < dd co a) : b = 0 := by
  by_cases q : b = 0
  · exact q
  · have := Dv_dd H q h
    omega
theorem mon_dv_eq {R : Type} [Lean.Grind.CommRing R] {p : Nat} {co : R → Nat → Int} {mk : (Nat → Int) → R} (H : PD p co mk) {a b : R} (ha : mon co a) (hb : mon co b) (h : Dv a b) (k : dd co a = dd co b) : a = b := by
  obtain ⟨c, rfl⟩ := h
  have hc := mon_fac H ha hb
  have := dd_mul H (mon_ne H ha) (mon_ne H hc)
  have h1 := mon1 H hc (by have := ha.1; omega)
  rw [h1]; grind
theorem mon_uniq {R : Type} [Lean.Grind.CommRing R] {p : Nat} {co : R → Nat → Int} {mk : (Nat → Int) → R} (H : PD p co mk) {a b : R} (ha : mon co a) (hb : mon co b) (h : Dv a b) (k : Dv b a) : a = b :=
  mon_dv_eq H ha hb h (Nat.le_antisymm (Dv_dd H (mon_ne H hb) h) (Dv_dd H (mon_ne H ha) k))
/-- the rest and the quotient -/
noncomputable def rm {R : Type} [Lean.Grind.CommRing R] (co : R → Nat → Int) (a b : R) : R := @Classical.epsilon R ⟨0⟩ (fun r => dd co r < dd co b ∧ ∃ q : R, a = q * b + r)
noncomputable def qu {R : Type} [Lean.Grind.CommRing R] (co : R → Nat → Int) (a b : R) : R := @Classical.epsilon R ⟨0⟩ (fun q => ∃ r : R, dd co r < dd co b ∧ a = q * b + r)
theorem rm_of {R : Type} [Lean.Grind.CommRing R] {p : Nat} {co : R → Nat → Int} {mk : (Nat → Int) → R} (H : PD p co mk) {a b q r : R} (h : a = q * b + r) (h1 : dd co r < dd co b) : rm co a b = r ∧ qu co a b = q := by
  have e1 := @Classical.epsilon_spec R (fun r => dd co r < dd co b ∧ ∃ q : R, a = q * b + r) ⟨r, h1, q, h⟩
  have e2 := @Classical.epsilon_spec R (fun q => ∃ r : R, dd co r < dd co b ∧ a = q * b + r) ⟨q, r, h1, h⟩
  obtain ⟨g1, q1, g2⟩ := e1
  obtain ⟨r2, g3, g4⟩ := e2
  exact ⟨(div_uniq H (g2.symm.trans h) g1 h1).2, (div_uniq H (g4.symm.trans h) g3 h1).1⟩
theorem rm_spec {R : Type} [Lean.Grind.CommRing R] {p : Nat} {co : R → Nat → Int} {mk : (Nat → Int) → R} (H : PD p co mk) (a : R) {b : R} (hb : b ≠ 0) : a = qu co a b * b + rm co a b ∧ dd co (rm co a b) < dd co b := by
  obtain ⟨q, r, h1, h2⟩ := div_ex H b hb _ a (Nat.le_refl _)
  obtain ⟨e1, e2⟩ := rm_of H h1 h2
  rw [e1, e2]
  exact ⟨h1, h2⟩
theorem rm_small {R : Type} [Lean.Grind.CommRing R] {p : Nat} {co : R → Nat → Int} {mk : (Nat → Int) → R} (H : PD p co mk) {a b : R} (h : dd co a < dd co b) : rm co a b = a := (rm_of H (q := 0) (by grind) h).1
theorem rm_dv {R : Type} [Lean.Grind.CommRing R] {p : Nat} {co : R → Nat → Int} {mk : (Nat → Int) → R} (H : PD p co mk) (a : R) {b : R} (hb : b ≠ 0) : Dv b (a - rm co a b) := by
  have h := (rm_spec H a hb).1
  exact ⟨qu co a b, by grind⟩
theorem rm_eq {R : Type} [Lean.Grind.CommRing R] {p : Nat} {co : R → Nat → Int} {mk : (Nat → Int) → R} (H : PD p co mk) {a b m : R} (hm : m ≠ 0) (h : Dv m (a - b)) : rm co a m = rm co b m := by
  obtain ⟨c, hc⟩ := h
  obtain ⟨h1, h2⟩ := rm_spec H b hm
  exact (rm_of H (q := qu co b m + c) (by grind) h2).1
theorem rm_cg {R : Type} [Lean.Grind.CommRing R] {p : Nat} {co : R → Nat → Int} {mk : (Nat → Int) → R} (H : PD p co mk) {a r m : R} (hr : dd co r < dd co m) (h : Dv m (a - r)) : rm co a m = r := by
  obtain ⟨c, hc⟩ := h
  exact (rm_of H (q := c) (by grind) hr).1
theorem rm0_iff {R : Type} [Lean.Grind.CommRing R] {p : Nat} {co : R → Nat → Int} {mk : (Nat → Int) → R} (H : PD p co mk) {a m : R} (hm : m ≠ 0) : rm co a m = 0 ↔ Dv m a := by
  constructor
  · intro h
    have := rm_dv H a hm
    rw [h] at this
    obtain ⟨c, hc⟩ := this
    exact ⟨c, by grind⟩
  · intro h
    exact rm_cg H (by rw [dd_zero H]; exact dd_pos H hm) (by obtain ⟨c, hc⟩ := h; exact ⟨c, by grind⟩)
theorem qu_mul {R : Type} [Lean.Grind.CommRing R] {p : Nat} {co : R → Nat → Int} {mk : (Nat → Int) → R} (H : PD p co mk) {a b : R} (hb : b ≠ 0) : qu co (a * b) b = a ∧ rm co (a * b) b = 0 := by
  have h := rm_of H (a := a * b) (b := b) (q := a) (r := 0) (by grind) (by rw [dd_zero H]; exact dd_pos H hb)
  exact ⟨h.2, h.1⟩
/-- the greatest common factor -/
def IsG {R : Type} [Lean.Grind.CommRing R] (co : R → Nat → Int) (a b g : R) : Prop := Dv g a ∧ Dv g b ∧ (∃ u v : R, g = u * a + v * b) ∧ (mon co g ∨ (a = 0 ∧ b = 0 ∧ g = 0))
theorem mon_ex {R : Type} [Lean.Grind.CommRing R] {p : Nat} {co : R → Nat → Int} {mk : (Nat → Int) → R} (H : PD p co mk) {a : R} (ha : a ≠ 0) : ∃ c : Int, mon co (mo p mk c 0 * a) ∧ 0 < c ∧ c < p ∧ co a (dd co a - 1) * c % p = 1 := by
  have h1 := dd_pos H ha
  have h2 := pd_rng H a (dd co a - 1)
  obtain ⟨e, e1, e2, e3⟩ := Pr_inv H.1 (c := co a (dd co a - 1)) (by have := dd_top H h1; omega) h2.2
  have h3 : dd co (mo p mk e 0 * a) = dd co a := by
    refine dd_of H (fun k hk => ?_) (Or.inr ?_)
    · rw [co_mo_mul H, if_neg (by omega), dd_out H a (by omega), Int.mul_zero]; rfl
    · rw [co_mo_mul H, if_neg (by omega), Nat.sub_zero, Int.mul_comm, e3]; decide
  refine ⟨e, ⟨by omega, ?_⟩, e1, e2, e3⟩
  rw [h3, co_mo_mul H, if_neg (by omega), Nat.sub_zero, Int.mul_comm, e3]
theorem mo0_mul {R : Type} [Lean.Grind.CommRing R] {p : Nat} {co : R → Nat → Int} {mk : (Nat → Int) → R} (H : PD p co mk) (c e : Int) : mo p mk c 0 * mo p mk e 0 = mo p mk (c * e) 0 := pd_ext H (fun k => by
  rw [co_mo_mul H, if_neg (by omega), Nat.sub_zero, co_mo H, co_mo H]
  split
  · rw [mem_]
  · simp)
theorem mo_mod {R : Type} [Lean.Grind.CommRing R] {p : Nat} {co : R → Nat → Int} {mk : (Nat → Int) → R} (H : PD p co mk) {c e : Int} (s : Nat) (h : c % p = e % p) : mo p mk c s = mo p mk e s := pd_ext H (fun k => by rw [co_mo H, co_mo H, h])
theorem mon_unit {R : Type} [Lean.Grind.CommRing R] {p : Nat} {co : R → Nat → Int} {mk : (Nat → Int) → R} (H : PD p co mk) {c : Int} {a : R} (h : co a (dd co a - 1) * c % p = 1) : mo p mk (co a (dd co a - 1)) 0 * (mo p mk c 0 * a) = a := by
  have hp := pd_p H
  have h1 : mo p mk (co a (dd co a - 1)) 0 * mo p mk c 0 = (1 : R) := by
    rw [mo0_mul H, ← mo_1 H]
    exact mo_mod H 0 (by rw [h]; exact (Int.emod_eq_of_lt (by omega) (by omega)).symm)
  grind
theorem gc_ex {R : Type} [Lean.Grind.CommRing R] {p : Nat} {co : R → Nat → Int} {mk : (Nat → Int) → R} (H : PD p co mk) : ∀ (n : Nat) (a b : R), dd co b ≤ n → ∃ g, IsG co a b g := by
  intro n
  induction n with
  | zero =>
    intro a b hb
    have hb0 := dd_eq0 H (a := b) (by omega)
    subst hb0
    by_cases ha : a = 0
    · subst ha
      exact ⟨0, Dv_zero _, Dv_zero _, ⟨0, 0, by grind⟩, Or.inr ⟨rfl, rfl, rfl⟩⟩
    · obtain ⟨c, hc, -, -, hc2⟩ := mon_ex H ha
      refine ⟨mo p mk c 0 * a, ⟨mo p mk (co a (dd co a - 1)) 0, ?_⟩, Dv_zero _, ⟨mo p mk c 0, 0, by grind⟩, Or.inl hc⟩
      have := mon_unit H hc2
      grind
  | succ n ih =>
    intro a b hb
    by_cases q : b = 0
    · exact ih a b (by rw [q, dd_zero H]; omega)
    · obtain ⟨h1, h2⟩ := rm_spec H a q
      obtain ⟨g, g1, g2, ⟨u, v, g3⟩, g4⟩ := ih b (rm co a b) (by omega)
      refine ⟨g, ?_, g1, ⟨v, u - v * qu co a b, by grind⟩, ?_⟩
      · rw [h1]
        exact Dv_add (Dv_mull _ g1) g2
      · rcases g4 with g4 | ⟨g4, -, -⟩
        · exact Or.inl g4
        · exact absurd g4 q
noncomputable def gc {R : Type} [Lean.Grind.CommRing R] (co : R → Nat → Int) (a b : R) : R := @Classical.epsilon R ⟨0⟩ (IsG co a b)
theorem gc_spec {R : Type} [Lean.Grind.CommRing R] {p : Nat} {co : R → Nat → Int} {mk : (Nat → Int) → R} (H : PD p co mk) (a b : R) : IsG co a b (gc co a b) := @Classical.epsilon_spec R (IsG co a b) (gc_ex H _ a b (Nat.le_refl _))
theorem gc_l {R : Type} [Lean.Grind.CommRing R] {p : Nat} {co : R → Nat → Int} {mk : (Nat → Int) → R} (H : PD p co mk) (a b : R) : Dv (gc co a b) a := (gc_spec H a b).1
theorem gc_r {R : Type} [Lean.Grind.CommRing R] {p : Nat} {co : R → Nat → Int} {mk : (Nat → Int) → R} (H : PD p co mk) (a b : R) : Dv (gc co a b) b := (gc_spec H a b).2.1
theorem gc_comb {R : Type} [Lean.Grind.CommRing R] {p : Nat} {co : R → Nat → Int} {mk : (Nat → Int) → R} (H : PD p co mk) (a b : R) : ∃ u v : R, gc co a b = u * a + v * b := (gc_spec H a b).2.2.1
theorem gc_mon {R : Type} [Lean.Grind.CommRing R] {p : Nat} {co : R → Nat → Int} {mk : (Nat → Int) → R} (H : PD p co mk) {a b : R} (h : a ≠ 0 ∨ b ≠ 0) : mon co (gc co a b) := by
  rcases (gc_spec H a b).2.2.2 with q | ⟨q1, q2, -⟩
  · exact q
  · rcases h with h | h
    · exact absurd q1 h
    · exact absurd q2 h
theorem comb_dv {R : Type} [Lean.Grind.CommRing R] {d a b g : R} (ha : Dv d a) (hb : Dv d b) (h : ∃ u v : R, g = u * a + v * b) : Dv d g := by
  obtain ⟨u, v, rfl⟩ := h
  exact Dv_add (Dv_mull _ ha) (Dv_mull _ hb)
theorem gc_of {R : Type} [Lean.Grind.CommRing R] {p : Nat} {co : R → Nat → Int} {mk : (Nat → Int) → R} (H : PD p co mk) {a b g : R} (h : IsG co a b g) : gc co a b = g := by
  have k := gc_spec H a b
  have d1 : Dv (gc co a b) g := comb_dv k.1 k.2.1 h.2.2.1
  have d2 : Dv g (gc co a b) := comb_dv h.1 h.2.1 k.2.2.1
  rcases h.2.2.2 with m | ⟨e1, e2, e3⟩
  · rcases k.2.2.2 with m2 | ⟨e1, e2, e3⟩
    · exact mon_uniq H m2 m d1 d2
    · subst e1; subst e2
      obtain ⟨u, v, hg⟩ := h.2.2.1
      exact absurd (show g = 0 by grind) (mon_ne H m)
  · subst e1; subst e2; subst e3
    obtain ⟨u, v, hg⟩ := k.2.2.1
    grind
theorem gc_dv {R : Type} [Lean.Grind.CommRing R] {p : Nat} {co : R → Nat → Int} {mk : (Nat → Int) → R} (H : PD p co mk) {a b d : R} (ha : Dv d a) (hb : Dv d b) : Dv d (gc co a b) := comb_dv ha hb (gc_comb H a b)
/-- the same common factors and combinations: the same greatest one -/
theorem gc_step {R : Type} [Lean.Grind.CommRing R] {p : Nat} {co : R → Nat → Int} {mk : (Nat → Int) → R} (H : PD p co mk) {a b q r : R} (h : a = q * b + r) : gc co a b = gc co b r := by
  refine gc_of H ?_
  obtain ⟨g1, g2, ⟨u, v, g3⟩, g4⟩ := gc_spec H b r
  refine ⟨?_, g1, ⟨v, u - v * q, by grind⟩, ?_⟩
  · exact h ▸ Dv_add (Dv_mull _ g1) g2
  · rcases g4 with m | ⟨e1, e2, e3⟩
    · exact Or.inl m
    · exact Or.inr ⟨by grind, e1, e3⟩
theorem gc_zero {R : Type} [Lean.Grind.CommRing R] {p : Nat} {co : R → Nat → Int} {mk : (Nat → Int) → R} (H : PD p co mk) {a : R} : (a ≠ 0 → ∀ c, mon co (mo p mk c 0 * a) → co a (dd co a - 1) * c % p = 1 → gc co a 0 = mo p mk c 0 * a) ∧ (a = 0 → gc co a 0 = 0) := by
  refine ⟨fun ha c hc hc2 => gc_of H ⟨⟨mo p mk (co a (dd co a - 1)) 0, ?_⟩, Dv_zero _, ⟨mo p mk c 0, 0, by grind⟩, Or.inl hc⟩, fun ha => gc_of H ?_⟩
  · have := mon_unit H hc2
    grind
  · subst ha
    exact ⟨Dv_zero _, Dv_zero _, ⟨0, 0, by grind⟩, Or.inr ⟨rfl, rfl, rfl⟩⟩
theorem gc_one_iff {R : Type} [Lean.Grind.CommRing R] {p : Nat} {co : R → Nat → Int} {mk : (Nat → Int) → R} (H : PD p co mk) {a b : R} : gc co a b = 1 ↔ Cp a b := by
  constructor
  · intro h
    obtain ⟨u, v, k⟩ := gc_comb H a b
    exact ⟨u, v, by rw [← k, h]⟩
  · intro h
    obtain ⟨u, v, k⟩ := h
    exact gc_of H ⟨Dv_one _, Dv_one _, ⟨u, v, k.symm⟩, Or.inl (mon_one H)⟩
theorem gc_dd1 {R : Type} [Lean.Grind.CommRing R] {p : Nat} {co : R → Nat → Int} {mk : (Nat → Int) → R} (H : PD p co mk) {a b : R} (h : a ≠ 0 ∨ b ≠ 0) : dd co (gc co a b) = 1 ↔ Cp a b := by
  rw [← gc_one_iff H]
  constructor
  · exact fun k => mon1 H (gc_mon H h) k
  · intro k; rw [k, dd_one H]
theorem gc_self_iff {R : Type} [Lean.Grind.CommRing R] {p : Nat} {co : R → Nat → Int} {mk : (Nat → Int) → R} (H : PD p co mk) {a b : R} (ha : mon co a) : gc co a b = a ↔ Dv a b := by
  constructor
  · intro h; have := gc_r H a b; rw [h] at this; exact this
  · intro h; exact gc_of H ⟨Dv_rf _, h, ⟨1, 0, by grind⟩, Or.inl ha⟩
theorem gc_dd_self {R : Type} [Lean.Grind.CommRing R] {p : Nat} {co : R → Nat → Int} {mk : (Nat → Int) → R} (H : PD p co mk) {a b : R} (ha : mon co a) : dd co (gc co a b) = dd co a ↔ Dv a b := by
  rw [← gc_self_iff H ha]
  constructor
  · exact fun h => mon_dv_eq H (gc_mon H (Or.inl (mon_ne H ha))) ha (gc_l H a b) h
  · intro h; rw [h]
theorem gc_mul {R : Type} [Lean.Grind.CommRing R] {p : Nat} {co : R → Nat → Int} {mk : (Nat → Int) → R} (H : PD p co mk) {g h w : R} (hg : mon co g) (hh : mon co h) (hc : Cp g h) : gc co (g * h) w = gc co g w * gc co h w := by
  have m1 := gc_mon H (a := g) (b := w) (Or.inl (mon_ne H hg))
  have m2 := gc_mon H (a := h) (b := w) (Or.inl (mon_ne H hh))
  refine gc_of H ⟨?_, ?_, ?_, Or.inl (mon_mul H m1 m2)⟩
  · obtain ⟨x, hx⟩ := gc_l H g w
    obtain ⟨y, hy⟩ := gc_l H h w
    exact ⟨x * y, by grind⟩
  · exact Cp_mul_dv (Cp_sub2 (Cp_sub hc (gc_l H g w)) (gc_l H h w)) (gc_r H g w) (gc_r H h w)
  · obtain ⟨u, v, e1⟩ := gc_comb H g w
    obtain ⟨x, y, e2⟩ := gc_comb H h w
    exact ⟨u * x, u * g * y + v * x * h + v * y * w, by grind⟩
theorem gc_cg {R : Type} [Lean.Grind.CommRing R] {p : Nat} {co : R → Nat → Int} {mk : (Nat → Int) → R} (H : PD p co mk) {g w w2 : R} (hg : mon co g) (h : Dv g (w - w2)) : gc co g w = gc co g w2 := by
  obtain ⟨c, hc⟩ := h
  obtain ⟨g1, g2, ⟨u, v, g3⟩, -⟩ := gc_spec H g w2
  refine gc_of H ⟨g1, ?_, ⟨u - v * c, v, by grind⟩, Or.inl (gc_mon H (Or.inl (mon_ne H hg)))⟩
  rw [show w = w2 + g * c by grind]
  exact Dv_add g2 (Dv_mulr _ g1)
/-- the inverse by a modulus -/
noncomputable def ivm {R : Type} [Lean.Grind.CommRing R] (co : R → Nat → Int) (a m : R) : R := @Classical.epsilon R ⟨0⟩ (fun r => dd co r < dd co m ∧ Dv m (a * r - 1))
theorem ivm_ex {R : Type} [Lean.Grind.CommRing R] {p : Nat} {co : R → Nat → Int} {mk : (Nat → Int) → R} (H : PD p co mk) {a m : R} (hm : m ≠ 0) (h : Cp a m) : ∃ r : R, dd co r < dd co m ∧ Dv m (a * r - 1) := by
  obtain ⟨u, v, k⟩ := h
  obtain ⟨h1, h2⟩ := rm_spec H u hm
  exact ⟨rm co u m, h2, ⟨-v - a * qu co u m, by grind⟩⟩
theorem inv_uniq {R : Type} [Lean.Grind.CommRing R] {p : Nat} {co : R → Nat → Int} {mk : (Nat → Int) → R} (H : PD p co mk) {a m r r2 : R} (h1 : dd co r < dd co m) (h2 : Dv m (a * r - 1)) (h3 : dd co r2 < dd co m) (h4 : Dv m (a * r2 - 1)) : r = r2 := by
  obtain ⟨c, h2⟩ := h2
  obtain ⟨c2, h4⟩ := h4
  have h5 : Dv m (r - r2) := ⟨r * (-c2) + r2 * c, by grind⟩
  have h6 := dd_sub_le H (n := dd co m - 1) (a := r) (b := r2) (by omega) (by omega)
  have h7 := Dv_small H h5 (by omega)
  grind
theorem ivm_spec {R : Type} [Lean.Grind.CommRing R] {p : Nat} {co : R → Nat → Int} {mk : (Nat → Int) → R} (H : PD p co mk) {a m : R} (hm : m ≠ 0) (h : Cp a m) : dd co (ivm co a m) < dd co m ∧ Dv m (a * ivm co a m - 1) :=
  @Classical.epsilon_spec R (fun r => dd co r < dd co m ∧ Dv m (a * r - 1)) (ivm_ex H hm h)
theorem ivm_of {R : Type} [Lean.Grind.CommRing R] {p : Nat} {co : R → Nat → Int} {mk : (Nat → Int) → R} (H : PD p co mk) {a m r : R} (h1 : dd co r < dd co m) (h2 : Dv m (a * r - 1)) : ivm co a m = r := by
  have h := @Classical.epsilon_spec R (fun r => dd co r < dd co m ∧ Dv m (a * r - 1)) ⟨r, h1, h2⟩
  exact inv_uniq H h.1 h.2 h1 h2
/-! products of many -/
def pr {R : Type} [Lean.Grind.CommRing R] : List R → R
  | [] => 1
  | a :: l => a * pr l
theorem pr_app {R : Type} [Lean.Grind.CommRing R] (l k : List R) : pr (l ++ k) = pr l * pr k := by
  induction l with
  | nil => show pr k = 1 * pr k; grind
  | cons a l ih => show a * pr (l ++ k) = a * pr l * pr k; rw [ih]; grind
theorem pr_perm {R : Type} [Lean.Grind.CommRing R] {l k : List R} (h : l.Perm k) : pr l = pr k := by
  induction h with
  | nil => rfl
  | cons a _ ih => show a * pr _ = a * pr _; rw [ih]
  | swap a b l => show b * (a * pr l) = a * (b * pr l); grind
  | trans _ _ h1 h2 => rw [h1, h2]
theorem pr_mem {R : Type} [Lean.Grind.CommRing R] {l : List R} {g : R} (h : g ∈ l) : Dv g (pr l) := by
  induction l with
  | nil => cases h
  | cons a l ih =>
    rcases List.mem_cons.mp h with rfl | h
    · exact Dv_l _ _
    · exact Dv_tr (ih h) (Dv_r _ _)
theorem Cp_pr {R : Type} [Lean.Grind.CommRing R] {l : List R} {a : R} (h : ∀ g ∈ l, Cp a g) : Cp a (pr l) := by
  induction l with
  | nil => exact Cp_one a
  | cons b l ih => exact Cp_mul (h b List.mem_cons_self) (ih (fun g hg => h g (List.mem_cons_of_mem _ hg)))
theorem pr_dv {R : Type} [Lean.Grind.CommRing R] {l : List R} {a : R} (hl : l.Pairwise Cp) (h : ∀ g ∈ l, Dv g a) : Dv (pr l) a := by
  induction l with
  | nil => exact Dv_one a
  | cons b l ih =>
    obtain ⟨h1, h2⟩ := List.pairwise_cons.mp hl
    exact Cp_mul_dv (Cp_pr h1) (h b List.mem_cons_self) (ih h2 (fun g hg => h g (List.mem_cons_of_mem _ hg)))
theorem pr_mon {R : Type} [Lean.Grind.CommRing R] {p : Nat} {co : R → Nat → Int} {mk : (Nat → Int) → R} (H : PD p co mk) {l : List R} (h : ∀ g ∈ l, mon co g) : mon co (pr l) := by
  induction l with
  | nil => exact mon_one H
  | cons b l ih => exact mon_mul H (h b List.mem_cons_self) (ih (fun g hg => h g (List.mem_cons_of_mem _ hg)))
