/-! rows of branches: monic, of degree 1 or more, with the modulus as their product -/
def GL {R : Type} [Lean.Grind.CommRing R] (co : R → Nat → Int) (f : R) (M : List R) : Prop := (∀ x ∈ M, mon co x ∧ 2 ≤ dd co x) ∧ pr M = f
theorem GL_len {R : Type} [Lean.Grind.CommRing R] {p : Nat} {co : R → Nat → Int} {mk : (Nat → Int) → R} (H : PD p co mk) {f : R} {M : List R} (h : GL co f M) : M.length + 1 ≤ dd co f := by
  obtain ⟨h1, rfl⟩ := h
  induction M with
  | nil => show 1 ≤ dd co (1 : R); rw [dd_one H]; omega
  | cons a l ih =>
    have h2 := h1 a List.mem_cons_self
    have h3 : ∀ x ∈ l, mon co x ∧ 2 ≤ dd co x := fun x hx => h1 x (List.mem_cons_of_mem _ hx)
    have h4 := pr_mon H (l := l) (fun x hx => (h3 x hx).1)
    have h5 := dd_mul H (mon_ne H h2.1) (mon_ne H h4)
    have h6 := ih h3
    show l.length + 1 + 1 ≤ dd co (a * pr l)
    omega
theorem GL_mem {R : Type} [Lean.Grind.CommRing R] {p : Nat} {co : R → Nat → Int} {mk : (Nat → Int) → R} (H : PD p co mk) {f : R} {M : List R} (h : GL co f M) {x : R} (hx : x ∈ M) : mon co x ∧ 2 ≤ dd co x ∧ Dv x f ∧ dd co x ≤ dd co f := by
  have h1 := h.1 x hx
  have h2 : Dv x f := by rw [← h.2]; exact pr_mem hx
  have hf : f ≠ 0 := by
    have := GL_len H h
    exact dd_ne0 H (by omega)
  exact ⟨h1.1, h1.2, h2, Dv_dd H hf h2⟩
theorem GL_perm {R : Type} [Lean.Grind.CommRing R] {co : R → Nat → Int} {f : R} {M N : List R} (h : GL co f M) (hp : N.Perm M) : GL co f N :=
  ⟨fun x hx => h.1 x (hp.mem_iff.mp hx), by rw [pr_perm hp]; exact h.2⟩
/-- without squares, the branches have no common factors -/
theorem GL_cp {R : Type} [Lean.Grind.CommRing R] {p : Nat} {co : R → Nat → Int} {mk : (Nat → Int) → R} (H : PD p co mk) {f : R} {M : List R} (h : GL co f M) (hs : SF p co mk f) : M.Pairwise Cp := by
  obtain ⟨h1, rfl⟩ := h
  induction M with
  | nil => exact List.Pairwise.nil
  | cons a l ih =>
    have h2 : Cp a (pr l) := SF_cp H hs
    have h3 : SF p co mk (pr l) := SF_dv H hs (Dv_r a (pr l))
    exact List.pairwise_cons.mpr ⟨fun b hb => Cp_sub2 h2 (pr_mem hb), ih (fun x hx => h1 x (List.mem_cons_of_mem _ hx)) h3⟩
/-- parting one branch by a number, and all -/
def mixed {R : Type} [Lean.Grind.CommRing R] (co : R → Nat → Int) (a g : R) : Prop := 1 < dd co (gc co g a) ∧ dd co (gc co g a) < dd co g
noncomputable def pt1 {R : Type} [Lean.Grind.CommRing R] (co : R → Nat → Int) (a g : R) : List R := @ite _ (mixed co a g) (Classical.propDecidable _) [gc co g a, qu co g (gc co g a)] [g]
noncomputable def ptl {R : Type} [Lean.Grind.CommRing R] (co : R → Nat → Int) (a : R) (L : List R) : List R := L.flatMap (pt1 co a)
theorem pt1_y {R : Type} [Lean.Grind.CommRing R] {co : R → Nat → Int} {a g : R} (h : mixed co a g) : pt1 co a g = [gc co g a, qu co g (gc co g a)] := if_pos h
theorem pt1_n {R : Type} [Lean.Grind.CommRing R] {co : R → Nat → Int} {a g : R} (h : ¬ mixed co a g) : pt1 co a g = [g] := if_neg h
theorem ptl_take {R : Type} [Lean.Grind.CommRing R] {co : R → Nat → Int} {a g : R} {L : List R} {k : Nat} (h : L[k]? = some g) : ptl co a (L.take (k + 1)) = ptl co a (L.take k) ++ pt1 co a g := by
  have hk : k < L.length := (List.getElem?_eq_some_iff.mp h).1
  have e : L[k] = g := (List.getElem?_eq_some_iff.mp h).2
  unfold ptl
  rw [List.take_succ_eq_append_getElem hk, List.flatMap_append, e]
  simp
theorem mixed_fac {R : Type} [Lean.Grind.CommRing R] {p : Nat} {co : R → Nat → Int} {mk : (Nat → Int) → R} (H : PD p co mk) {a g : R} (hg : mon co g) (h : mixed co a g) : mon co (gc co g a) ∧ mon co (qu co g (gc co g a)) ∧ g = gc co g a * qu co g (gc co g a) ∧ 2 ≤ dd co (qu co g (gc co g a)) := by
  have h1 := gc_mon H (a := g) (b := a) (Or.inl (mon_ne H hg))
  obtain ⟨h2, h3⟩ := dv_split H hg h1 (gc_l H g a)
  have h4 := dd_mul H (mon_ne H h1) (mon_ne H h2)
  rw [← h3] at h4
  have := h.2
  exact ⟨h1, h2, h3, by omega⟩
theorem GL_split {R : Type} [Lean.Grind.CommRing R] {p : Nat} {co : R → Nat → Int} {mk : (Nat → Int) → R} (H : PD p co mk) {f : R} {A C D : List R} {c q : R} (h : GL co f (A ++ (c * q) :: (C ++ D))) (hc : mon co c ∧ 2 ≤ dd co c) (hq : mon co q ∧ 2 ≤ dd co q) : GL co f (A ++ c :: (C ++ (D ++ [q]))) := by
  refine ⟨fun x hx => ?_, ?_⟩
  · simp only [List.mem_append, List.mem_cons, List.not_mem_nil, or_false] at hx
    rcases hx with hx | rfl | hx | hx | rfl
    · exact h.1 x (by simp [hx])
    · exact hc
    · exact h.1 x (by simp [hx])
    · exact h.1 x (by simp [hx])
    · exact hq
  · rw [← h.2, pr_app, pr_app]
    show pr A * (c * pr (C ++ (D ++ [q]))) = pr A * (c * q * pr (C ++ D))
    rw [pr_app, pr_app, pr_app]
    show pr A * (c * (pr C * (pr D * (q * 1)))) = _
    generalize pr A = x1
    generalize pr C = x2
    generalize pr D = x3
    grind
/-- the row of branches on the way: the first k are done -/
def Pway {R : Type} [Lean.Grind.CommRing R] (co : R → Nat → Int) (f a : R) (L : List R) (k : Nat) (M : List R) : Prop := ∃ A B : List R, M = A ++ (L.drop k ++ B) ∧ A.length = k ∧ (A ++ B).Perm (ptl co a (L.take k)) ∧ GL co f M
theorem Pway_0 {R : Type} [Lean.Grind.CommRing R] {co : R → Nat → Int} {f a : R} {L : List R} (h : GL co f L) : Pway co f a L 0 L := ⟨[], [], by simp, rfl, by simp [ptl], h⟩
theorem Pway_at {R : Type} [Lean.Grind.CommRing R] {co : R → Nat → Int} {f a : R} {L M : List R} {k : Nat} (h : Pway co f a L k M) {g : R} (hg : L[k]? = some g) : M[k]? = some g := by
  obtain ⟨A, B, rfl, h2, -, -⟩ := h
  have hk : k < L.length := (List.getElem?_eq_some_iff.mp hg).1
  have e : L[k] = g := (List.getElem?_eq_some_iff.mp hg).2
  rw [List.getElem?_append_right (by omega), List.drop_eq_getElem_cons hk, h2, Nat.sub_self, e]
  rfl
theorem Pway_n {R : Type} [Lean.Grind.CommRing R] {co : R → Nat → Int} {f a : R} {L M : List R} {k : Nat} (h : Pway co f a L k M) {g : R} (hg : L[k]? = some g) (hm : ¬ mixed co a g) : Pway co f a L (k + 1) M := by
  obtain ⟨A, B, rfl, h2, h3, h4⟩ := h
  have hk : k < L.length := (List.getElem?_eq_some_iff.mp hg).1
  have e : L[k] = g := (List.getElem?_eq_some_iff.mp hg).2
  refine ⟨A ++ [g], B, by rw [List.drop_eq_getElem_cons hk, e]; simp, by simp [h2], ?_, h4⟩
  rw [ptl_take hg, pt1_n hm]
  have h5 : (A ++ [g] ++ B).Perm (A ++ B ++ [g]) := by
    rw [List.append_assoc, List.append_assoc]
    exact List.Perm.append_left A List.perm_append_comm
  exact h5.trans (h3.append_right [g])
theorem Pway_y {R : Type} [Lean.Grind.CommRing R] {p : Nat} {co : R → Nat → Int} {mk : (Nat → Int) → R} (H : PD p co mk) {f a : R} {L M : List R} {k : Nat} (h : Pway co f a L k M) {g : R} (hg : L[k]? = some g) (hm : mixed co a g) : Pway co f a L (k + 1) (M.set k (gc co g a) ++ [qu co g (gc co g a)]) := by
  obtain ⟨A, B, rfl, h2, h3, h4⟩ := h
  have hk : k < L.length := (List.getElem?_eq_some_iff.mp hg).1
  have e : L[k] = g := (List.getElem?_eq_some_iff.mp hg).2
  have hgm : mon co g := (h4.1 g (by rw [List.drop_eq_getElem_cons hk, e]; simp)).1
  obtain ⟨m1, m2, m3, m4⟩ := mixed_fac H hgm hm
  have hset : (A ++ (L.drop k ++ B)).set k (gc co g a) ++ [qu co g (gc co g a)] = A ++ [gc co g a] ++ (L.drop (k + 1) ++ (B ++ [qu co g (gc co g a)])) := by
    have hd : L.drop k = g :: L.drop (k + 1) := by rw [List.drop_eq_getElem_cons hk, e]
    rw [hd, List.set_append_right _ _ (Nat.le_of_eq h2), h2, Nat.sub_self]
    simp
  refine ⟨A ++ [gc co g a], B ++ [qu co g (gc co g a)], hset, by simp [h2], ?_, ?_⟩
  · rw [ptl_take hg, pt1_y hm]
    have h5 : (A ++ [gc co g a] ++ (B ++ [qu co g (gc co g a)])).Perm (A ++ B ++ [gc co g a, qu co g (gc co g a)]) := by
      rw [List.append_assoc, List.append_assoc]
      refine List.Perm.append_left A ?_
      rw [← List.append_assoc]
      have h6 : ([gc co g a] ++ B).Perm (B ++ [gc co g a]) := List.perm_append_comm
      have h7 := h6.append_right [qu co g (gc co g a)]
      simpa using h7
    exact h5.trans (h3.append_right _)
  · rw [hset]
    have h8 : GL co f (A ++ (gc co g a * qu co g (gc co g a)) :: (L.drop (k + 1) ++ B)) := by
      rw [← m3]
      rw [List.drop_eq_getElem_cons hk, e] at h4
      simpa using h4
    have h9 := GL_split H h8 ⟨m1, hm.1⟩ ⟨m2, m4⟩
    simpa using h9
theorem Pway_end {R : Type} [Lean.Grind.CommRing R] {co : R → Nat → Int} {f a : R} {L M : List R} (h : Pway co f a L L.length M) : M.Perm (ptl co a L) ∧ GL co f M := by
  obtain ⟨A, B, rfl, h2, h3, h4⟩ := h
  rw [List.take_length] at h3
  refine ⟨?_, h4⟩
  rw [List.drop_length]
  simpa using h3
theorem ptl_len {R : Type} [Lean.Grind.CommRing R] (co : R → Nat → Int) (a : R) (L : List R) : L.length ≤ (ptl co a L).length ∧ ((ptl co a L).length = L.length ↔ ∀ g ∈ L, ¬ mixed co a g) := by
  induction L with
  | nil => simp [ptl]
  | cons g l ih =>
    have e : ptl co a (g :: l) = pt1 co a g ++ ptl co a l := by simp [ptl]
    rw [e, List.length_append, List.length_cons]
    by_cases h : mixed co a g
    · rw [pt1_y h]
      refine ⟨by simp; omega, fun h2 => ?_, fun h2 => absurd h (h2 g List.mem_cons_self)⟩
      simp at h2
      omega
    · rw [pt1_n h]
      refine ⟨by simp; omega, fun h2 x hx => ?_, fun h2 => ?_⟩
      · rcases List.mem_cons.mp hx with rfl | hx
        · exact h
        · exact ih.2.mp (by simp at h2; omega) x hx
      · have := ih.2.mpr (fun x hx => h2 x (List.mem_cons_of_mem _ hx))
        simp; omega
theorem ptl_none {R : Type} [Lean.Grind.CommRing R] {co : R → Nat → Int} {a : R} {L : List R} (h : ∀ g ∈ L, ¬ mixed co a g) : ptl co a L = L := by
  induction L with
  | nil => rfl
  | cons g l ih =>
    have e : ptl co a (g :: l) = pt1 co a g ++ ptl co a l := by simp [ptl]
    rw [e, pt1_n (h g List.mem_cons_self), ih (fun x hx => h x (List.mem_cons_of_mem _ hx))]
    rfl
