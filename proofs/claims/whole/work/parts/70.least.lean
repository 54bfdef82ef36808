/-! least polynomials -/
noncomputable def evn {R : Type} [Lean.Grind.CommRing R] (p : Nat) (co : R → Nat → Int) (mk : (Nat → Int) → R) (a r : R) : Nat → R
  | 0 => 0
  | n + 1 => evn p co mk a r n + mo p mk (co r n) 0 * a ^ n
theorem mo_emod {R : Type} [Lean.Grind.CommRing R] {p : Nat} {co : R → Nat → Int} {mk : (Nat → Int) → R} (H : PD p co mk) (c : Int) (s : Nat) : mo p mk (c % p) s = (mo p mk c s : R) := pd_ext H (fun k => by
  rw [co_mo H, co_mo H]
  split
  · rw [Int.emod_emod]
  · rfl)
theorem mo_plus {R : Type} [Lean.Grind.CommRing R] {p : Nat} {co : R → Nat → Int} {mk : (Nat → Int) → R} (H : PD p co mk) (c d : Int) (s : Nat) : mo p mk (c + d) s = (mo p mk c s : R) + mo p mk d s := pd_ext H (fun k => by
  rw [co_add H, co_mo H, co_mo H, co_mo H]
  split
  · rw [← Int.add_emod]
  · rfl)
theorem mo_times {R : Type} [Lean.Grind.CommRing R] {p : Nat} {co : R → Nat → Int} {mk : (Nat → Int) → R} (H : PD p co mk) (c d : Int) : mo p mk (c * d) 0 = (mo p mk c 0 : R) * mo p mk d 0 := pd_ext H (fun k => by
  rw [co_mo_mul H, co_mo H]
  by_cases q : k = 0
  · subst q
    rw [if_pos rfl, if_neg (by omega), Nat.sub_zero, co_mo H, if_pos rfl, Int.mul_emod c (d % p), Int.emod_emod, ← Int.mul_emod]
  · rw [if_neg q, if_neg (by omega), Nat.sub_zero, co_mo H, if_neg q]
    simp)
theorem evn_add {R : Type} [Lean.Grind.CommRing R] {p : Nat} {co : R → Nat → Int} {mk : (Nat → Int) → R} (H : PD p co mk) (a r s : R) (n : Nat) : evn p co mk a (r + s) n = evn p co mk a r n + evn p co mk a s n := by
  induction n with
  | zero => rw [evn, evn, evn]; grind
  | succ n ih =>
    rw [evn, evn, evn, ih, co_add H, mo_emod H, mo_plus H]
    grind
theorem evn_smul {R : Type} [Lean.Grind.CommRing R] {p : Nat} {co : R → Nat → Int} {mk : (Nat → Int) → R} (H : PD p co mk) (a r : R) (c : Int) (n : Nat) : evn p co mk a (mo p mk c 0 * r) n = mo p mk c 0 * evn p co mk a r n := by
  induction n with
  | zero => rw [evn, evn]; grind
  | succ n ih =>
    rw [evn, evn, ih, co_mo_mul H, if_neg (by omega), Nat.sub_zero, mo_emod H, mo_times H]
    grind
theorem mo_z {R : Type} [Lean.Grind.CommRing R] {p : Nat} {co : R → Nat → Int} {mk : (Nat → Int) → R} (H : PD p co mk) (s : Nat) : mo p mk 0 s = (0 : R) := pd_ext H (fun k => by
  rw [co_mo H, co_zero H]
  split <;> simp)
theorem evn_mo {R : Type} [Lean.Grind.CommRing R] {p : Nat} {co : R → Nat → Int} {mk : (Nat → Int) → R} (H : PD p co mk) (a : R) (k : Nat) (n : Nat) : evn p co mk a (mo p mk 1 k) n = if k < n then a ^ k else 0 := by
  have hp := pd_p H
  induction n with
  | zero => rw [evn, if_neg (by omega)]
  | succ n ih =>
    rw [evn, ih, co_mo H]
    by_cases q : n = k
    · subst q
      rw [if_neg (by omega), if_pos rfl, if_pos (by omega), Int.emod_eq_of_lt (by decide) (by omega), mo_1 H]
      grind
    · rw [if_neg q, mo_z H]
      by_cases q2 : k < n
      · rw [if_pos q2, if_pos (by omega)]; grind
      · rw [if_neg q2, if_neg (by omega)]; grind
/-- the value of r at a, modulo f -/
noncomputable def Ev {R : Type} [Lean.Grind.CommRing R] (p : Nat) (co : R → Nat → Int) (mk : (Nat → Int) → R) (f a r : R) : R := rm co (evn p co mk a r 14) f
theorem rm_add {R : Type} [Lean.Grind.CommRing R] {p : Nat} {co : R → Nat → Int} {mk : (Nat → Int) → R} (H : PD p co mk) {f : R} (hf : f ≠ 0) (a b : R) : rm co (a + b) f = rm co a f + rm co b f := by
  have h1 := (rm_spec H a hf).2
  have h2 := (rm_spec H b hf).2
  have h3 := dd_add_le H (a := rm co a f) (b := rm co b f) (n := dd co f - 1) (by omega) (by omega)
  refine rm_cg H (by omega) ?_
  have h4 := Dv_add (rm_dv H a hf) (rm_dv H b hf)
  rw [show a - rm co a f + (b - rm co b f) = a + b - (rm co a f + rm co b f) by grind] at h4
  exact h4
theorem rm_smul {R : Type} [Lean.Grind.CommRing R] {p : Nat} {co : R → Nat → Int} {mk : (Nat → Int) → R} (H : PD p co mk) {f : R} (hf : f ≠ 0) (c : Int) (a : R) : rm co (mo p mk c 0 * a) f = mo p mk c 0 * rm co a f := by
  have h1 := (rm_spec H a hf).2
  have h2 := dd_smul_le H c (rm co a f)
  refine rm_cg H (by omega) ?_
  have h4 := Dv_mull (mo p mk c 0) (rm_dv H a hf)
  rw [show mo p mk c 0 * (a - rm co a f) = mo p mk c 0 * a - mo p mk c 0 * rm co a f by grind] at h4
  exact h4
theorem Ev_add {R : Type} [Lean.Grind.CommRing R] {p : Nat} {co : R → Nat → Int} {mk : (Nat → Int) → R} (H : PD p co mk) {f : R} (hf : f ≠ 0) (a r s : R) : Ev p co mk f a (r + s) = Ev p co mk f a r + Ev p co mk f a s := by
  unfold Ev
  rw [evn_add H, rm_add H hf]
theorem Ev_smul {R : Type} [Lean.Grind.CommRing R] {p : Nat} {co : R → Nat → Int} {mk : (Nat → Int) → R} (H : PD p co mk) {f : R} (hf : f ≠ 0) (a r : R) (c : Int) : Ev p co mk f a (mo p mk c 0 * r) = mo p mk c 0 * Ev p co mk f a r := by
  unfold Ev
  rw [evn_smul H, rm_smul H hf]
theorem Ev_mo {R : Type} [Lean.Grind.CommRing R] {p : Nat} {co : R → Nat → Int} {mk : (Nat → Int) → R} (H : PD p co mk) {f : R} (a : R) {k : Nat} (hk : k < 14) : Ev p co mk f a (mo p mk 1 k) = rm co (a ^ k) f := by
  unfold Ev
  rw [evn_mo H, if_pos hk]
/-- m is the least polynomial, of degree k -/
def Lst {R : Type} [Lean.Grind.CommRing R] (p : Nat) (co : R → Nat → Int) (mk : (Nat → Int) → R) (f a : R) (k : Nat) (m : R) : Prop := dd co m = k + 1 ∧ co m k = 1 ∧ Ev p co mk f a m = 0 ∧ ∀ s, dd co s ≤ k → Ev p co mk f a s = 0 → s = 0
theorem Lst_uniq {R : Type} [Lean.Grind.CommRing R] {p : Nat} {co : R → Nat → Int} {mk : (Nat → Int) → R} (H : PD p co mk) {f a m m' : R} {k k' : Nat} (hf : f ≠ 0) (h : Lst p co mk f a k m) (h' : Lst p co mk f a k' m') : k = k' ∧ m = m' := by
  obtain ⟨a1, a2, a3, a4⟩ := h
  obtain ⟨b1, b2, b3, b4⟩ := h'
  have hk : k = k' := by
    rcases Nat.lt_trichotomy k k' with q | q | q
    · have := b4 m (by omega) a3
      rw [this, dd_zero H] at a1; omega
    · exact q
    · have := a4 m' (by omega) b3
      rw [this, dd_zero H] at b1; omega
  subst hk
  refine ⟨rfl, ?_⟩
  have h5 : m + mo p mk (-1) 0 * m' = 0 := a4 _ (dd_le H (fun j hj => ?_)) (by rw [Ev_add H hf, Ev_smul H hf, a3, b3]; grind)
  · rw [mo_neg H, mo_1 H] at h5
    grind
  · rw [co_add H, co_mo_mul H, if_neg (by omega), Nat.sub_zero]
    by_cases q : j = k
    · rw [q, a2, b2]
      have hp := pd_p H
      show (1 + (-1 * 1) % (p : Int)) % p = 0
      rw [Int.add_emod, Int.emod_emod, ← Int.add_emod]
      simp
    · rw [dd_out H m (by omega), dd_out H m' (by omega)]
      simp
/-- the powers below k are independent, seen at the places P -/
def Ind {R : Type} [Lean.Grind.CommRing R] (p : Nat) (co : R → Nat → Int) (mk : (Nat → Int) → R) (f a : R) (k : Nat) (P : List Nat) : Prop := (∀ s, dd co s ≤ k → (∀ i ∈ P, co (Ev p co mk f a s) i = 0) → s = 0) ∧ P.Nodup ∧ P.length = k ∧ ∀ i ∈ P, i + 1 < dd co f
theorem nodup_le : ∀ (n : Nat) (l : List Nat), l.Nodup → (∀ x ∈ l, x < n) → l.length ≤ n := by
  intro n
  induction n with
  | zero =>
    intro l _ h
    cases l with
    | nil => exact Nat.le_refl 0
    | cons a t => exact absurd (h a List.mem_cons_self) (by omega)
  | succ n ih =>
    intro l hl h
    have h1 := ih (l.erase n) (hl.erase n) (fun x hx => by
      have h2 := (List.Nodup.mem_erase_iff hl).mp hx
      have := h x h2.2
      omega)
    rw [List.length_erase] at h1
    split at h1 <;> omega
theorem mul_zero_p {p : Nat} (hp : Pr p) {x y : Int} (hx : 0 ≤ x ∧ x < p) (hy : y ≠ 0 ∧ 0 ≤ y ∧ y < p) (h : x * y % p = 0) : x = 0 := by
  apply Decidable.byContradiction
  intro h0
  exact Pr_mul hp (a := x) (b := y) (by rw [Int.emod_eq_of_lt hx.1 hx.2]; exact h0) (by rw [Int.emod_eq_of_lt hy.2.1 hy.2.2]; exact hy.1) h
theorem Ind_step {R : Type} [Lean.Grind.CommRing R] {p : Nat} {co : R → Nat → Int} {mk : (Nat → Int) → R} (H : PD p co mk) {f a w m : R} {k v : Nat} {P : List Nat} (hf : f ≠ 0) (h : Ind p co mk f a k P) (hm : dd co m = k + 1) (hm1 : co m k = 1) (hw : Ev p co mk f a m = w) (hP : ∀ i ∈ P, co w i = 0) (hv : co w v ≠ 0) : Ind p co mk f a (k + 1) (v :: P) := by
  obtain ⟨h1, h2, h3, h4⟩ := h
  have hwd : dd co w < dd co f := by rw [← hw]; exact (rm_spec H _ hf).2
  refine ⟨fun s hs hz => ?_, List.nodup_cons.mpr ⟨fun hin => hv (hP v hin), h2⟩, by simp [h3], fun i hi => ?_⟩
  · have hs2 : s + mo p mk (-(co s k)) 0 * m = 0 := by
      refine h1 _ (dd_le H (fun j hj => ?_)) (fun i hi => ?_)
      · rw [co_add H, co_mo_mul H, if_neg (by omega), Nat.sub_zero]
        by_cases q : j = k
        · rw [q, hm1, Int.mul_one, Int.add_emod, Int.emod_emod, ← Int.add_emod, show co s k + -(co s k) = 0 by omega]
          simp
        · rw [dd_out H s (by omega), dd_out H m (by omega)]
          simp
      · rw [Ev_add H hf, Ev_smul H hf, hw, co_add H, co_mo_mul H, if_neg (by omega), Nat.sub_zero, hP i hi, hz i (List.mem_cons_of_mem _ hi)]
        simp
    have hs3 : s = mo p mk (co s k) 0 * m := by
      rw [mo_neg H] at hs2
      grind
    have h5 : co (Ev p co mk f a s) v = 0 := hz v List.mem_cons_self
    rw [hs3, Ev_smul H hf, hw, co_mo_mul H, if_neg (by omega), Nat.sub_zero] at h5
    have r1 := pd_rng H s k
    have r2 := pd_rng H w v
    have h6 := mul_zero_p H.1 r1 ⟨hv, r2⟩ h5
    rw [hs3, h6, mo_z H]
    grind
  · rcases List.mem_cons.mp hi with rfl | hi
    · have := dd_ge H hv
      omega
    · exact h4 i hi
theorem Ind_bd {R : Type} [Lean.Grind.CommRing R] {p : Nat} {co : R → Nat → Int} {mk : (Nat → Int) → R} (H : PD p co mk) {f a : R} {k : Nat} {P : List Nat} (h : Ind p co mk f a k P) : k ≤ dd co f - 1 := by
  rw [← h.2.2.1]
  exact nodup_le _ _ h.2.1 (fun x hx => by have := h.2.2.2 x hx; omega)
theorem Ind_end {R : Type} [Lean.Grind.CommRing R] {p : Nat} {co : R → Nat → Int} {mk : (Nat → Int) → R} (H : PD p co mk) {f a m : R} {k : Nat} {P : List Nat} (h : Ind p co mk f a k P) (hm : dd co m = k + 1) (hm1 : co m k = 1) (hw : Ev p co mk f a m = 0) : Lst p co mk f a k m :=
  ⟨hm, hm1, hw, fun s hs hz => h.1 s hs (fun i _ => by rw [hz, co_zero H])⟩
theorem Ind_0 {R : Type} [Lean.Grind.CommRing R] {p : Nat} {co : R → Nat → Int} {mk : (Nat → Int) → R} (H : PD p co mk) {f a : R} : Ind p co mk f a 0 [] := ⟨fun s hs _ => dd_eq0 H (by omega), List.nodup_nil, rfl, fun i hi => by cases hi⟩
