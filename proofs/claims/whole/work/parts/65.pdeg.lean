/-! partByDegrees -/
theorem gc_fac {R : Type} [Lean.Grind.CommRing R] {p : Nat} {co : R → Nat → Int} {mk : (Nat → Int) → R} (H : PD p co mk) {x y z : R} (hy : mon co y) (hyx : Dv y x) (hc : Cp x z) : gc co x (y * z) = y := by
  obtain ⟨u, v, h⟩ := hc
  exact gc_of H ⟨hyx, Dv_l _ _, ⟨y * u, v, by grind⟩, Or.inl hy⟩
theorem dp_branch {R : Type} [Lean.Grind.CommRing R] {p : Nat} {co : R → Nat → Int} {mk : (Nat → Int) → R} (H : PD p co mk) {f g : R} (hf : mon co f) (hs : SF p co mk f) (hg : mon co g) (hgf : Dv g f) (d : Nat) : gc co (rs p co mk g d) (dp p co mk f (d + 1)) = dp p co mk g (d + 1) ∧ gc co g (dp p co mk f (d + 1)) = dp p co mk g (d + 1) := by
  obtain ⟨h, rfl⟩ := hgf
  have hh : mon co h := mon_fac H hg hf
  have hc : Cp g h := SF_cp H hs
  obtain ⟨s1, s2, s3⟩ := rs_spec H hg d
  have h1 : Cp g (dp p co mk h (d + 1)) := Cp_sub2 hc (dp_dv H hh d)
  rw [(rs_mul H hg hh hc d).2]
  exact ⟨gc_fac H s2 (by rw [s3]; exact Dv_r _ _) (Cp_sub h1 (rs_dv H hg d)), gc_fac H s2 (dp_dv H hg d) h1⟩
noncomputable def dpl {R : Type} [Lean.Grind.CommRing R] (p : Nat) (co : R → Nat → Int) (mk : (Nat → Int) → R) (g : R) : Nat → List R
  | 0 => []
  | k + 1 => dpl p co mk g k ++ bit1 co (dp p co mk g (k + 1))
theorem bit1_n {R : Type} [Lean.Grind.CommRing R] {co : R → Nat → Int} {x : R} (h : dd co x ≤ 1) : bit1 co x = [] := by unfold bit1; rw [if_pos h]
theorem bit1_y {R : Type} [Lean.Grind.CommRing R] {co : R → Nat → Int} {x : R} (h : 2 ≤ dd co x) : bit1 co x = [x] := by unfold bit1; rw [if_neg (by omega)]
theorem dpl_mem {R : Type} [Lean.Grind.CommRing R] {p : Nat} {co : R → Nat → Int} {mk : (Nat → Int) → R} (H : PD p co mk) {g x : R} (hg : mon co g) : ∀ k, x ∈ dpl p co mk g k → ∃ d, d < k ∧ x = dp p co mk g (d + 1) ∧ mon co x ∧ 2 ≤ dd co x := by
  intro k
  induction k with
  | zero => intro h; cases h
  | succ k ih =>
    intro h
    rcases List.mem_append.mp h with e | e
    · obtain ⟨d, d1, d2⟩ := ih e
      exact ⟨d, by omega, d2⟩
    · unfold bit1 at e
      split at e
      · cases e
      · rw [List.mem_singleton.mp e]
        exact ⟨k, by omega, rfl, (rs_spec H hg k).2.1, by omega⟩
theorem pr_bit1 {R : Type} [Lean.Grind.CommRing R] {p : Nat} {co : R → Nat → Int} {mk : (Nat → Int) → R} (H : PD p co mk) {x : R} (hx : mon co x) : pr (bit1 co x) = x := by
  by_cases q : dd co x ≤ 1
  · rw [bit1_n q]
    show (1 : R) = x
    exact (mon1 H hx (by have := hx.1; omega)).symm
  · rw [bit1_y (by omega)]
    show x * 1 = x
    grind
theorem dpl_pr {R : Type} [Lean.Grind.CommRing R] {p : Nat} {co : R → Nat → Int} {mk : (Nat → Int) → R} (H : PD p co mk) {g : R} (hg : mon co g) (k : Nat) : pr (dpl p co mk g k ++ bit1 co (rs p co mk g k)) = g := by
  induction k with
  | zero => rw [dpl, List.nil_append]; exact pr_bit1 H hg
  | succ k ih =>
    obtain ⟨s1, s2, s3⟩ := rs_spec H hg k
    rw [pr_app, pr_bit1 H s1, s3] at ih
    rw [dpl, pr_app, pr_app, pr_bit1 H s2, pr_bit1 H (rs_spec H hg (k + 1)).1]
    refine Eq.trans ?_ ih
    generalize pr (dpl p co mk g k) = x1
    generalize rs p co mk g (k + 1) = x2
    generalize dp p co mk g (k + 1) = x3
    grind
noncomputable def tl {R : Type} [Lean.Grind.CommRing R] (p : Nat) (co : R → Nat → Int) (mk : (Nat → Int) → R) (k : Nat) (g : R) : List R := dpl p co mk g k ++ bit1 co (rs p co mk g k)
theorem fm_id {R : Type} [Lean.Grind.CommRing R] {co : R → Nat → Int} {a : R} {l : List R} (h : ∀ x ∈ l, ¬ mixed co a x) : l.flatMap (pt1 co a) = l := ptl_none h
theorem tl_step {R : Type} [Lean.Grind.CommRing R] {p : Nat} {co : R → Nat → Int} {mk : (Nat → Int) → R} (H : PD p co mk) {f g : R} (hf : mon co f) (hs : SF p co mk f) (hg : mon co g) (hgf : Dv g f) (k : Nat) : (tl p co mk k g).flatMap (pt1 co (dp p co mk f (k + 1))) = tl p co mk (k + 1) g := by
  obtain ⟨s1, s2, s3⟩ := rs_spec H hg k
  have s4 := (rs_spec H hg (k + 1)).1
  obtain ⟨b1, b2⟩ := dp_branch H hf hs hg hgf k
  have hsg := SF_dv H hs hgf
  unfold tl
  rw [List.flatMap_append, fm_id (l := dpl p co mk g k), dpl, List.append_assoc]
  · congr 1
    by_cases q : dd co (rs p co mk g k) ≤ 1
    · have h1 := (rs_one H hg q 0).2
      have h2 := (rs_one H hg q 1).1
      rw [Nat.add_zero] at h1
      rw [bit1_n q, bit1_n (x := dp p co mk g (k + 1)) (by omega), bit1_n (x := rs p co mk g (k + 1)) (by rw [h2, dd_one H]; omega)]
      rfl
    · rw [bit1_y (x := rs p co mk g k) (by omega), List.flatMap_cons, List.flatMap_nil, List.append_nil]
      have hmul := dd_mul H (mon_ne H s4) (mon_ne H s2)
      rw [← s3] at hmul
      have e1 := s2.1
      have e2 := s4.1
      by_cases hm : mixed co (dp p co mk f (k + 1)) (rs p co mk g k)
      · rw [pt1_y hm]
        unfold mixed at hm
        rw [b1] at hm ⊢
        rw [show qu co (rs p co mk g k) (dp p co mk g (k + 1)) = rs p co mk g (k + 1) from rfl, bit1_y (x := dp p co mk g (k + 1)) (by omega), bit1_y (x := rs p co mk g (k + 1)) (by omega)]
        rfl
      · rw [pt1_n hm]
        unfold mixed at hm
        rw [b1] at hm
        by_cases q2 : dd co (dp p co mk g (k + 1)) ≤ 1
        · have h1 := mon1 H s2 (by omega)
          have h2 : rs p co mk g (k + 1) = rs p co mk g k := by rw [s3, h1]; grind
          rw [bit1_n q2, h2, bit1_y (x := rs p co mk g k) (by omega)]
          rfl
        · have h1 : dd co (rs p co mk g (k + 1)) ≤ 1 := by omega
          have h2 := mon1 H s4 (by omega)
          have h3 : dp p co mk g (k + 1) = rs p co mk g k := by rw [s3, h2]; grind
          rw [bit1_n h1, h3, bit1_y (x := rs p co mk g k) (by omega)]
          rfl
  · intro x hx hm
    obtain ⟨d, d1, d2, d3, d4⟩ := dpl_mem H hg k hx
    have h1 : Cp (dp p co mk f (d + 1)) (dp p co mk f (k + 1)) := dp_cp H hf hs d1
    have h2 : Dv x (dp p co mk f (d + 1)) := by
      rw [d2, ← (dp_branch H hf hs hg hgf d).2]
      exact gc_r H _ _
    have h3 := (gc_dd1 H (Or.inl (mon_ne H d3))).mpr (Cp_sub h1 h2)
    have := hm.1
    omega
theorem dpl6 {R : Type} [Lean.Grind.CommRing R] {p : Nat} {co : R → Nat → Int} {mk : (Nat → Int) → R} (H : PD p co mk) {g : R} (hg : mon co g) (hs : SF p co mk g) (hd : 2 ≤ dd co g ∧ dd co g ≤ 7) : pr (dpl p co mk g 6) = g ∧ 1 ≤ (dpl p co mk g 6).length ∧ ((dpl p co mk g 6).length = 1 → dpl p co mk g 6 = [g]) := by
  have h1 := dpl_pr H hg 6
  have h6 : rs p co mk g 6 = 1 := rs_6 H hg hs 6 hd.2
  rw [h6, bit1_n (by rw [dd_one H]; omega), List.append_nil] at h1
  refine ⟨h1, ?_, fun hl => ?_⟩
  · rcases Nat.eq_zero_or_pos (dpl p co mk g 6).length with q | q
    · rw [List.eq_nil_of_length_eq_zero q] at h1
      have : dd co g = 1 := by rw [← h1]; exact dd_one H
      omega
    · exact q
  · obtain ⟨x, hx⟩ := List.length_eq_one_iff.mp hl
    rw [hx] at h1 ⊢
    have h1 : x * 1 = g := h1
    rw [show x * 1 = x by grind] at h1
    rw [h1]
theorem dp_in {R : Type} [Lean.Grind.CommRing R] {p : Nat} {co : R → Nat → Int} {mk : (Nat → Int) → R} {g : R} {d : Nat} (h : 2 ≤ dd co (dp p co mk g (d + 1))) : ∀ k, d < k → dp p co mk g (d + 1) ∈ dpl p co mk g k := by
  intro k
  induction k with
  | zero => intro h; omega
  | succ k ih =>
    intro hk
    rw [dpl]
    by_cases q : d = k
    · subst q
      rw [bit1_y h]
      exact List.mem_append_right _ List.mem_cons_self
    · exact List.mem_append_left _ (ih (by omega))
theorem dpl6_mixed {R : Type} [Lean.Grind.CommRing R] {p : Nat} {co : R → Nat → Int} {mk : (Nat → Int) → R} (H : PD p co mk) {f g : R} (hf : mon co f) (hs : SF p co mk f) (hg : mon co g) (hgf : Dv g f) (hd : 2 ≤ dd co g ∧ dd co g ≤ 7) : (dpl p co mk g 6).length = 1 ↔ ∀ d, 1 ≤ d → d ≤ 6 → ¬ mixed co (dp p co mk f d) g := by
  have hsg := SF_dv H hs hgf
  obtain ⟨h1, h2, h3⟩ := dpl6 H hg hsg hd
  constructor
  · intro hl d d1 d6 hm
    obtain ⟨k, rfl⟩ : ∃ k, d = k + 1 := ⟨d - 1, by omega⟩
    unfold mixed at hm
    rw [(dp_branch H hf hs hg hgf k).2] at hm
    have h4 := dp_in (p := p) (co := co) (mk := mk) (g := g) (d := k) (by omega) 6 (by omega)
    rw [h3 hl] at h4
    have := List.mem_singleton.mp h4
    rw [this] at hm
    omega
  · intro h
    apply Decidable.byContradiction
    intro hne
    have hall : ∀ x ∈ dpl p co mk g 6, x = g := fun x hx => by
      obtain ⟨d, d1, d2, d3, d4⟩ := dpl_mem H hg 6 hx
      have h5 := h (d + 1) (by omega) (by omega)
      unfold mixed at h5
      rw [(dp_branch H hf hs hg hgf d).2, ← d2] at h5
      have h6 := gc_l H g (dp p co mk f (d + 1))
      rw [(dp_branch H hf hs hg hgf d).2, ← d2] at h6
      have h7 := Dv_dd H (mon_ne H hg) h6
      exact mon_dv_eq H d3 hg h6 (by omega)
    generalize dpl p co mk g 6 = l at h1 h2 hall hne
    match l, h1, h2, hall, hne with
    | [], _, h2, _, _ => simp at h2
    | [x], _, _, _, hne => exact hne rfl
    | x :: y :: t, h1, _, hall, _ =>
      have hx := hall x (by simp)
      have hy := hall y (by simp)
      subst hx
      have ht : pr t ≠ 0 := mon_ne H (pr_mon H (fun z hz => by rw [hall z (by simp [hz])]; exact hg))
      have h1 : x * (y * pr t) = x := h1
      rw [hy] at h1
      have g0 := mon_ne H hg
      have m1 := dd_mul H g0 ht
      have m2 := dd_mul H g0 (dd_ne0 H (a := x * pr t) (by have := dd_pos H ht; omega))
      rw [h1] at m2
      have := dd_pos H ht
      omega
theorem fm_len {R : Type} [Lean.Grind.CommRing R] {l : List R} {F : R → List R} (h : ∀ x ∈ l, 1 ≤ (F x).length) : l.length ≤ (l.flatMap F).length ∧ ((l.flatMap F).length = l.length ↔ ∀ x ∈ l, (F x).length = 1) := by
  induction l with
  | nil => simp
  | cons a t ih =>
    obtain ⟨i1, i2⟩ := ih (fun x hx => h x (List.mem_cons_of_mem _ hx))
    have ha := h a List.mem_cons_self
    rw [List.flatMap_cons, List.length_append, List.length_cons]
    refine ⟨by omega, fun e x hx => ?_, fun e => ?_⟩
    · rcases List.mem_cons.mp hx with rfl | hx
      · omega
      · exact i2.mp (by omega) x hx
    · have h1 := e a List.mem_cons_self
      have h2 := i2.mpr (fun x hx => e x (List.mem_cons_of_mem _ hx))
      omega
theorem tl0 {R : Type} [Lean.Grind.CommRing R] {p : Nat} {co : R → Nat → Int} {mk : (Nat → Int) → R} (H : PD p co mk) {f : R} {L : List R} (hL : GL co f L) : L.flatMap (tl p co mk 0) = L := by
  have h := hL.1
  clear hL
  induction L with
  | nil => rfl
  | cons a t ih =>
    rw [List.flatMap_cons, ih (fun x hx => h x (List.mem_cons_of_mem _ hx))]
    have : tl p co mk 0 a = [a] := by
      unfold tl
      rw [dpl, List.nil_append]
      exact bit1_y (h a List.mem_cons_self).2
    rw [this]
    rfl
theorem tl_all {R : Type} [Lean.Grind.CommRing R] {p : Nat} {co : R → Nat → Int} {mk : (Nat → Int) → R} (H : PD p co mk) {f : R} {L : List R} (hf : mon co f) (hs : SF p co mk f) (h : ∀ x ∈ L, mon co x ∧ Dv x f) (k : Nat) : (L.flatMap (tl p co mk k)).flatMap (pt1 co (dp p co mk f (k + 1))) = L.flatMap (tl p co mk (k + 1)) := by
  induction L with
  | nil => rfl
  | cons a t ih =>
    rw [List.flatMap_cons, List.flatMap_append, tl_step H hf hs (h a List.mem_cons_self).1 (h a List.mem_cons_self).2, ih (fun x hx => h x (List.mem_cons_of_mem _ hx)), List.flatMap_cons]
theorem tl6 {R : Type} [Lean.Grind.CommRing R] {p : Nat} {co : R → Nat → Int} {mk : (Nat → Int) → R} (H : PD p co mk) {f : R} {L : List R} (hs : SF p co mk f) (hd : dd co f ≤ 7) (hL : GL co f L) : L.flatMap (tl p co mk 6) = L.flatMap (fun g => dpl p co mk g 6) := by
  have h : ∀ x ∈ L, mon co x ∧ Dv x f ∧ dd co x ≤ 7 := fun x hx => by
    have := GL_mem H hL hx
    exact ⟨this.1, this.2.2.1, by omega⟩
  clear hL
  induction L with
  | nil => rfl
  | cons a t ih =>
    rw [List.flatMap_cons, List.flatMap_cons, ih (fun x hx => h x (List.mem_cons_of_mem _ hx))]
    have ha := h a List.mem_cons_self
    have : tl p co mk 6 a = dpl p co mk a 6 := by
      unfold tl
      rw [rs_6 H ha.1 (SF_dv H hs ha.2.1) 6 ha.2.2, bit1_n (by rw [dd_one H]; omega), List.append_nil]
    rw [this]
theorem dp_nin {d : Nat} (h1 : 1 ≤ d) (h6 : d ≤ 6) : 101 + 1 + 2 * d ∉ brs 1 ++ VS ∧ 101 + 1 + 2 * d ∉ KS := by
  rcases (show d = 1 ∨ d = 2 ∨ d = 3 ∨ d = 4 ∨ d = 5 ∨ d = 6 by omega) with e | e | e | e | e | e <;> subst e <;> exact ⟨by decide, by decide⟩
