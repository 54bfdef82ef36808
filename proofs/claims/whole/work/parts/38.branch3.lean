/-! joining -/
theorem set_perm {α : Type} {L : List α} {i : Nat} {x : α} (z : α) (h : L[i]? = some x) : (x :: L.set i z).Perm (z :: L) := by
  obtain ⟨s, w, t, rfl, hs⟩ := split_at (List.getElem?_eq_some_iff.mp h).1
  have hw : w = x := by rw [← hs] at h; simpa using h
  subst hw
  rw [← hs, List.set_append_right _ _ (Nat.le_refl _), Nat.sub_self]
  show (w :: (s ++ z :: t)).Perm (z :: (s ++ w :: t))
  refine (List.Perm.cons w List.perm_middle).trans ((List.Perm.swap z w _).trans (List.Perm.cons z List.perm_middle.symm))
theorem pop_perm {α : Type} {M : List α} {j n : Nat} {y w : α} (hn : M.length = n + 1) (hj : M[j]? = some y) (hw : M[n]? = some w) : (y :: (M.set j w).take n).Perm M := by
  have hl : M = M.take n ++ [w] := by
    have h1 := (List.getElem?_eq_some_iff.mp hw).1
    have h2 := (List.getElem?_eq_some_iff.mp hw).2
    have h3 := List.take_succ_eq_append_getElem h1
    rw [h2, List.take_of_length_le (by omega)] at h3
    exact h3
  have hjl := (List.getElem?_eq_some_iff.mp hj).1
  have hlen : (M.take n).length = n := by rw [List.length_take]; omega
  rcases Nat.lt_or_ge j n with q | q
  · have hj2 : (M.take n)[j]? = some y := by rw [List.getElem?_take, if_pos q]; exact hj
    have e : (M.set j w).take n = (M.take n).set j w := List.take_set
    rw [e]
    refine (set_perm w hj2).trans ?_
    conv => rhs; rw [hl]
    exact (List.perm_append_comm (l₁ := [w]))
  · have hj3 : j = n := by omega
    subst hj3
    have e : (M.set j w).take j = M.take j := by rw [List.take_set]; exact List.set_eq_of_length_le (by omega)
    rw [e]
    have hyw : y = w := by rw [hj] at hw; exact Option.some.inj hw
    subst hyw
    conv => rhs; rw [hl]
    exact (List.perm_append_comm (l₁ := [y]))
theorem two_ex {α : Type} {L : List α} {i j : Nat} {x y : α} (hi : L[i]? = some x) (hj : L[j]? = some y) (hij : i ≠ j) : ∃ rest, (x :: y :: rest).Perm L := by
  obtain ⟨s, w, t, rfl, hs⟩ := split_at (List.getElem?_eq_some_iff.mp hi).1
  have hw : w = x := by rw [← hs] at hi; simpa using hi
  subst hw
  have hy : y ∈ s ++ t := by
    rcases Nat.lt_or_ge j i with q | q
    · rw [List.getElem?_append_left (by omega)] at hj
      exact List.mem_append_left _ (List.mem_of_getElem? hj)
    · rw [List.getElem?_append_right (by omega)] at hj
      obtain ⟨d, hd⟩ : ∃ d, j - s.length = d + 1 := ⟨j - s.length - 1, by omega⟩
      rw [hd] at hj
      exact List.mem_append_right _ (List.mem_of_getElem? (by simpa using hj))
  obtain ⟨a, b, hab⟩ := List.append_of_mem hy
  refine ⟨a ++ b, ?_⟩
  have h1 : (y :: (a ++ b)).Perm (s ++ t) := by rw [hab]; exact List.perm_middle.symm
  exact (List.Perm.cons w h1).trans List.perm_middle.symm
theorem join_perm {α : Type} {L : List α} {i j n : Nat} {x y z w : α} {rest : List α} (hn : L.length = n + 1) (hi : L[i]? = some x) (hj : L[j]? = some y) (hij : i ≠ j) (hw : (L.set i z)[n]? = some w) (hr : (x :: y :: rest).Perm L) : (((L.set i z).set j w).take n).Perm (z :: rest) := by
  have h1 := set_perm z hi
  have hj2 : (L.set i z)[j]? = some y := by rw [List.getElem?_set_ne hij]; exact hj
  have h2 := pop_perm (n := n) (by rw [List.length_set]; exact hn) hj2 hw
  have h3 : (x :: y :: ((L.set i z).set j w).take n).Perm (z :: L) := (List.Perm.cons x h2).trans h1
  have h4 : (z :: L).Perm (x :: y :: z :: rest) := by
    refine (List.Perm.cons z hr.symm).trans ?_
    exact (List.Perm.swap x z _).trans (List.Perm.cons x (List.Perm.swap y z _))
  exact List.Perm.cons_inv (List.Perm.cons_inv (h3.trans h4))
theorem GL_join {R : Type} [Lean.Grind.CommRing R] {p : Nat} {co : R → Nat → Int} {mk : (Nat → Int) → R} (H : PD p co mk) {f x y : R} {L L' rest : List R} (h : GL co f L) (hr : (x :: y :: rest).Perm L) (hL' : L'.Perm (x * y :: rest)) : GL co f L' := by
  have h1 := GL_perm h hr
  refine GL_perm (M := x * y :: rest) ⟨fun g hg => ?_, ?_⟩ hL'
  · have hx := h1.1 x (by simp)
    have hy := h1.1 y (by simp)
    rcases List.mem_cons.mp hg with rfl | hg
    · have := dd_mul H (mon_ne H hx.1) (mon_ne H hy.1)
      exact ⟨mon_mul H hx.1 hy.1, by omega⟩
    · exact h1.1 g (by simp [hg])
  · rw [← h1.2]
    show x * y * pr rest = x * (y * pr rest)
    grind
def TS : List Nat := [98, 34]
theorem TS_P : ∀ t ∈ TS, KT.getD t 99 = 4 := by decide +kernel
theorem TS_b : ∀ t ∈ TS, t ∉ brs 1 := by decide
theorem spec_X0_joinTwo {R : Type} [Lean.Grind.CommRing R] {p : Nat} {co : R → Nat → Int} {mk : (Nat → Int) → R} (H : PD p co mk) {σ : SG} {i j : Nat} {f x y : R} {L : List R} {Q : Int → SG → Prop} (hσ : σ 1 0 = p) (hS : Sb co σ 1 L) (hL : GL co f L) (hf : dd co f ≤ 7) (hi : L[i]? = some x) (hj : L[j]? = some y) (hij : i ≠ j) (hQ : ∀ σ' L' rest, FrB σ σ' 1 TS → Sb co σ' 1 L' → (x :: y :: rest).Perm L → L'.Perm (x * y :: rest) → Srt co L' → GL co f L' → ∀ k : Nat, L'[k]? = some (x * y) → (∀ m, m < k → L'[m]? ≠ some (x * y)) → Q k σ') : wp_X0_joinTwo σ i j Q := by
  unfold wp_X0_joinTwo
  have ho := hS.1
  obtain ⟨i1, i2, i3, i4⟩ := Sb_get hS hi
  obtain ⟨j1, j2, j3, j4⟩ := Sb_get hS hj
  obtain ⟨rest, hr⟩ := two_ex hi hj hij
  have hx := GL_mem H hL (List.mem_of_getElem? hi)
  have hy := GL_mem H hL (List.mem_of_getElem? hj)
  have b1 := hS.2.2.1
  have b2 := hS.2.2.2.1
  rw [Int.toNat_natCast, Int.toNat_natCast]
  refine ⟨by omega, i3, by omega, j3, ?_⟩
  have ni := brs_nin TS_b i3
  have nj := brs_nin TS_b j3
  refine spec_X2_multiply H hσ kt98 i4 j4 (fun e => ni (by show (σ (1 + 16) i).toNat ∈ TS; rw [e]; decide)) (fun e => nj (by show (σ (1 + 16) j).toNat ∈ TS; rw [e]; decide)) (by omega) (fun σ1 h1 h2 => ?_)
  have S1 := Sb_frL hS TS_P TS_b h1
  have f1 : FrB σ σ1 1 TS := FrB.of ho TS_P h1 (by decide)
  obtain ⟨_, _, i5, i6⟩ := Sb_get S1 hi
  refine ⟨by omega, i5, spec_X4_copy H i6.1 h2 (fun σ2 k1 k2 => ?_)⟩
  have S2 := Sb_set S1 i1 k1 k2
  have f2 : FrB σ σ2 1 TS := f1.tr (FrB.of ho (cons_P i6.1 (fun t h => by cases h)) (FrL.of1 k1) (fun s hs => by rw [List.mem_singleton.mp hs]; exact List.mem_append_left _ (brs_mem.mpr i5)))
  have z2 := Rp_fr1 h2 i6.1 (fun e => brs_nin TS_b i5 (by show (σ1 (1 + 16) i).toNat ∈ TS; rw [← e]; decide)) k1
  obtain ⟨n, hn⟩ : ∃ n, L.length = n + 1 := ⟨L.length - 1, by omega⟩
  have hj2 : (L.set i (x * y))[j]? = some y := by rw [List.getElem?_set_ne hij]; exact hj
  have hnl : n < (L.set i (x * y)).length := by rw [List.length_set]; omega
  have hw : (L.set i (x * y))[n]? = some (L.set i (x * y))[n] := List.getElem?_eq_getElem hnl
  generalize (L.set i (x * y))[n] = w at hw
  obtain ⟨_, _, j5, j6⟩ := Sb_get S2 hj2
  obtain ⟨_, _, w5, w6⟩ := Sb_get S2 hw
  rw [S2.2.2.1, List.length_set, hn, show (((n + 1 : Nat) : Int) - 1).toNat = n by omega]
  refine ⟨by omega, j5, by omega, by omega, w5, spec_X4_copy H j6.1 w6 (fun σ3 m1 m2 => ?_)⟩
  have S3 := Sb_set S2 (by rw [List.length_set]; exact j1) m1 m2
  have f3 : FrB σ σ3 1 TS := f2.tr (FrB.of ho (cons_P j6.1 (fun t h => by cases h)) (FrL.of1 m1) (fun s hs => by rw [List.mem_singleton.mp hs]; exact List.mem_append_left _ (brs_mem.mpr j5)))
  have z3 := Rp_fr1 z2 j6.1 (fun e => brs_nin TS_b j5 (by show (σ2 (1 + 16) j).toNat ∈ TS; rw [← e]; decide)) m1
  rw [S3.2.2.1, List.length_set, List.length_set, hn]
  refine ⟨by omega, ?_⟩
  rintro σ4 e4
  rw [show ((n + 1 : Nat) : Int) - 1 = n by omega] at e4
  have S4 := Sb_cut S3 (n := n) (by rw [List.length_set, List.length_set]; omega) e4
  have f4 : FrB σ σ4 1 TS := f3.tr (ug4_FrB e4 TS)
  have z4 : Rp co σ4 98 (x * y) := Rp_cg z3 (by rw [e4, ug_ne _ (by decide)]) (by rw [e4, ug_ne _ (by decide)])
  have hP := join_perm hn hi hj hij hw hr
  refine spec_X7_sortBranches H ho S4.2.1 S4.2.2 (fun σ5 L' q1 q2 q3 q4 q5 => ?_)
  have f5 : FrB σ σ5 1 TS := f4.tr ⟨fun i _ h17 _ => q1 i h17, fun j _ => by rw [q1 1 (by decide)]⟩
  have z5 : Rp co σ5 98 (x * y) := Rp_cg z4 (q1 _ (by decide)) (q1 _ (by decide))
  have S5 : Sb co σ5 1 L' := ⟨ho, q2, q3⟩
  have hP2 := q4.trans hP
  refine spec_X0_findBranch H S5 z5 (fun z hz => ?_)
  rcases hz with ⟨rfl, hz⟩ | ⟨k, rfl, hk, hz⟩
  · exact absurd (hP2.mem_iff.mpr List.mem_cons_self) hz
  · exact hQ σ5 L' rest f5 S5 hr hP2 q5 (GL_join H hL hr hP2) k hk hz
/-- the product of the branches where a is nothing (true), or where it is not (false) -/
noncomputable def prk {R : Type} [Lean.Grind.CommRing R] (co : R → Nat → Int) (a : R) (b : Bool) (L : List R) : R := pr (L.filter (fun g => (kd co a g == 0) == b))
theorem prk_take {R : Type} [Lean.Grind.CommRing R] {co : R → Nat → Int} {a : R} {b : Bool} {L : List R} {k : Nat} {g : R} (h : L[k]? = some g) : prk co a b (L.take (k + 1)) = if (kd co a g == 0) = b then prk co a b (L.take k) * g else prk co a b (L.take k) := by
  have hk : k < L.length := (List.getElem?_eq_some_iff.mp h).1
  have e : L[k] = g := (List.getElem?_eq_some_iff.mp h).2
  unfold prk
  rw [List.take_succ_eq_append_getElem hk, List.filter_append, pr_app, e]
  by_cases q : (kd co a g == 0) = b
  · rw [if_pos q]
    have : ([g].filter (fun g => (kd co a g == 0) == b)) = [g] := by simp [q]
    rw [this]
    show _ * (g * 1) = _
    grind
  · rw [if_neg q]
    have : ([g].filter (fun g => (kd co a g == 0) == b)) = [] := by simp [q]
    rw [this]
    show _ * 1 = _
    grind
theorem prk_mul {R : Type} [Lean.Grind.CommRing R] (co : R → Nat → Int) (a : R) (L : List R) : prk co a true L * prk co a false L = pr L := by
  induction L with
  | nil => show (1 : R) * 1 = 1; grind
  | cons g l ih =>
    unfold prk at ih ⊢
    by_cases q : kd co a g = 0
    · have h1 : (g :: l).filter (fun g => (kd co a g == 0) == true) = g :: l.filter (fun g => (kd co a g == 0) == true) := by simp [q]
      have h2 : (g :: l).filter (fun g => (kd co a g == 0) == false) = l.filter (fun g => (kd co a g == 0) == false) := by simp [q]
      rw [h1, h2]
      show g * _ * _ = g * _
      rw [← ih]
      grind
    · have h1 : (g :: l).filter (fun g => (kd co a g == 0) == true) = l.filter (fun g => (kd co a g == 0) == true) := by simp [q]
      have h2 : (g :: l).filter (fun g => (kd co a g == 0) == false) = g :: l.filter (fun g => (kd co a g == 0) == false) := by simp [q]
      rw [h1, h2]
      show _ * (g * _) = g * _
      rw [← ih]
      grind
theorem prk_mon {R : Type} [Lean.Grind.CommRing R] {p : Nat} {co : R → Nat → Int} {mk : (Nat → Int) → R} (H : PD p co mk) {a : R} {b : Bool} {L : List R} (h : ∀ g ∈ L, mon co g) : mon co (prk co a b L) := pr_mon H (fun g hg => h g (List.mem_filter.mp hg).1)
theorem prk_dv {R : Type} [Lean.Grind.CommRing R] {co : R → Nat → Int} {a : R} {b : Bool} {L : List R} : Dv (prk co a b L) (pr L) := by
  rw [← prk_mul co a L]
  cases b
  · exact Dv_r _ _
  · exact Dv_l _ _
theorem pr_take_dv {R : Type} [Lean.Grind.CommRing R] {L : List R} (k : Nat) : Dv (pr (L.take k)) (pr L) := by
  conv => rhs; rw [← List.take_append_drop k L, pr_app]
  exact Dv_l _ _
noncomputable def bit1 {R : Type} [Lean.Grind.CommRing R] (co : R → Nat → Int) (x : R) : List R := if dd co x ≤ 1 then [] else [x]
noncomputable def jkl {R : Type} [Lean.Grind.CommRing R] (co : R → Nat → Int) (a : R) (L : List R) : List R := bit1 co (prk co a true L) ++ bit1 co (prk co a false L)
theorem GL_jk {R : Type} [Lean.Grind.CommRing R] {p : Nat} {co : R → Nat → Int} {mk : (Nat → Int) → R} (H : PD p co mk) {f a : R} {L : List R} (h : GL co f L) : GL co f (jkl co a L) := by
  have m : ∀ b, mon co (prk co a b L) := fun b => prk_mon H (fun g hg => (h.1 g hg).1)
  have one : ∀ x : R, mon co x → dd co x ≤ 1 → x = 1 := fun x hx hd => mon_dv_eq H hx (mon_one H) (by
    have h1 : dd co x = 1 := by have := hx.1; omega
    obtain ⟨c, hc⟩ := mon_ex H (mon_ne H hx)
    exact ⟨mo p mk c 0, by
      have h5 := hc.1
      have h6 : dd co (mo p mk c 0 * x) ≤ 1 := Nat.le_trans (dd_smul_le H c x) hd
      refine (pd_ext H (fun k => ?_)).symm
      rw [co_one H]
      by_cases q : k = 0
      · rw [if_pos q, q]
        have h7 := h5.2
        have h8 := h5.1
        rw [show dd co (mo p mk c 0 * x) - 1 = 0 by omega] at h7
        rw [show x * mo p mk c 0 = mo p mk c 0 * x by grind]
        exact h7
      · rw [if_neg q, show x * mo p mk c 0 = mo p mk c 0 * x by grind, dd_out H _ (by omega)]⟩) (by have := hx.1; rw [dd_one H]; omega)
  have key : ∀ x : R, mon co x → pr (bit1 co x) = x ∧ ∀ y ∈ bit1 co x, mon co y ∧ 2 ≤ dd co y := by
    intro x hx
    unfold bit1
    split
    · next hd => exact ⟨by show (1 : R) = x; rw [one x hx hd], fun y hy => by cases hy⟩
    · next hd =>
      refine ⟨by show x * 1 = x; grind, fun y hy => ?_⟩
      rw [List.mem_singleton.mp hy]
      exact ⟨hx, by omega⟩
  refine ⟨fun x hx => ?_, ?_⟩
  · rcases List.mem_append.mp hx with e | e
    · exact (key _ (m true)).2 x e
    · exact (key _ (m false)).2 x e
  · unfold jkl
    rw [pr_app, (key _ (m true)).1, (key _ (m false)).1, prk_mul, h.2]
def JS : List Nat := [96, 98, 34, 92, 36, 40, 42]
theorem JS_P : ∀ t ∈ JS, KT.getD t 99 = 4 := by decide +kernel
theorem JS_b : ∀ t ∈ JS, t ∉ brs 1 := by decide
theorem spec_X0_joinByKind {R : Type} [Lean.Grind.CommRing R] {p : Nat} {co : R → Nat → Int} {mk : (Nat → Int) → R} (H : PD p co mk) {σ : SG} {q : Nat} {a f : R} {L : List R} {Q : SG → Prop} (hσ : σ 1 0 = p) (hS : Sb co σ 1 L) (hL : GL co f L) (hf : dd co f ≤ 7) (ha : Rp co σ q a) (hq : q ∉ JS) (hQ : ∀ σ' L', FrB σ σ' 1 JS → Sb co σ' 1 L' → L'.Perm (jkl co a L) → Srt co L' → GL co f L' → Q σ') : wp_X0_joinByKind σ q Q := by
  unfold wp_X0_joinByKind
  have ho := hS.1
  have hp2 := pd_p H
  have b1 := hS.2.2.1
  have b2 := hS.2.2.2.1
  have hf0 : f ≠ 0 := dd_ne0 H (by have := GL_len H hL; omega)
  have hbd : ∀ b k, dd co (prk co a b (L.take k)) ≤ 7 := fun b k => by
    have h1 : Dv (prk co a b (L.take k)) f := by rw [← hL.2]; exact Dv_tr prk_dv (pr_take_dv k)
    have := Dv_dd H hf0 h1
    omega
  refine spec_X4_becomeConstant H kt96 (by omega) (fun σ1 h1 h2 => ?_)
  refine spec_X4_becomeConstant H kt98 (by omega) (fun σ2 h3 h4 => ?_)
  rw [mo_1 H] at h2 h4
  have h2' := Rp_fr1 h2 kt98 (by decide) h3
  refine Lp1_up L.length (fun k σ' => FrL σ σ' JS ∧ Rp co σ' 96 (prk co a true (L.take k)) ∧ Rp co σ' 98 (prk co a false (L.take k))) ⟨((FrL.of1 h1).mono (by decide)).tr ((FrL.of1 h3).mono (by decide)), by rw [List.take_zero]; exact h2', by rw [List.take_zero]; exact h4⟩ ?_ ?_
  · rintro k σ3 r hk ⟨g1, g2, g3⟩ hr
    have hg : L[k]? = some L[k] := List.getElem?_eq_getElem hk
    generalize L[k] = g at hg
    have hgm := GL_mem H hL (List.mem_of_getElem? hg)
    have S3 := Sb_frL hS JS_P JS_b g1
    obtain ⟨_, k6, k3, k4⟩ := Sb_get S3 hg
    have p3 : σ3 1 0 = p := by rw [g1.p JS_P]; exact hσ
    have a3 := Rp_frL ha JS_P hq g1
    rw [S3.2.2.1, Int.toNat_natCast]
    refine ⟨fun h => by omega, fun _ => ⟨by omega, k3, ?_⟩⟩
    refine spec_X0_kindIn H p3 k4 a3 (brs_nin KS_b k3) (fun e => hq (by rw [e]; decide)) (mon_ne H hgm.1) (fun σ4 m1 => ?_)
    have S4 := Sb_frL S3 KS_P KS_b m1
    have f4 : FrL σ σ4 JS := g1.tr (m1.mono (by decide))
    have x96 := Rp_frL g2 KS_P (by decide) m1
    have x98 := Rp_frL g3 KS_P (by decide) m1
    have p4 : σ4 1 0 = p := by rw [f4.p JS_P]; exact hσ
    obtain ⟨_, _, n3, n4⟩ := Sb_get S4 hg
    refine ⟨fun u s => s = σ4 ∧ ((u = 96 ∧ kd co a g = 0) ∨ (u = 98 ∧ kd co a g ≠ 0)), ?_, fun h => ⟨rfl, Or.inr ⟨rfl, h⟩⟩, fun h => ⟨rfl, Or.inl ⟨rfl, h⟩⟩⟩
    have n34 : (σ4 (1 + 16) k).toNat ≠ 34 := fun e => brs_nin JS_b n3 (by show (σ4 (1 + 16) k).toNat ∈ JS; rw [e]; decide)
    rintro u _ ⟨rfl, ⟨rfl, hz⟩ | ⟨rfl, hz⟩⟩
    · refine ⟨by omega, n3, spec_X2_multiply H p4 kt96 x96 n4 (by decide) n34 (by have := hbd true k; omega) (fun σ5 q1 q2 => ⟨by omega, hr _ ⟨f4.tr (q1.mono (by decide)), ?_, ?_⟩⟩)⟩
      · rw [prk_take hg, if_pos (by rw [hz]; rfl)]; exact q2
      · rw [prk_take hg, if_neg (by rw [hz]; decide)]
        exact Rp_frL x98 (L := [96, 34]) (by decide +kernel) (by decide) q1
    · refine ⟨by omega, n3, spec_X2_multiply H p4 kt98 x98 n4 (by decide) n34 (by have := hbd false k; omega) (fun σ5 q1 q2 => ⟨by omega, hr _ ⟨f4.tr (q1.mono (by decide)), ?_, ?_⟩⟩)⟩
      · rw [prk_take hg, if_neg (by simp [hz])]
        exact Rp_frL x96 (L := [98, 34]) (by decide +kernel) (by decide) q1
      · rw [prk_take hg, if_pos (by simp [hz])]; exact q2
  · rintro σ3 r ⟨g1, g2, g3⟩
    have S3 := Sb_frL hS JS_P JS_b g1
    rw [S3.2.2.1]
    refine ⟨fun _ => ?_, fun h => absurd (Int.le_refl _) h⟩
    rw [List.take_of_length_le (Nat.le_refl _)] at g2 g3
    rintro σ4 e4
    have S4 := Sb_cut S3 (n := 0) (by omega) e4
    rw [List.take_zero] at S4
    have f3 : FrB σ σ3 1 JS := FrB.of ho JS_P g1 (by decide)
    have f4 : FrB σ σ4 1 JS := f3.tr (ug4_FrB e4 JS)
    have x96 : Rp co σ4 96 (prk co a true L) := Rp_cg g2 (by rw [e4, ug_ne _ (by decide)]) (by rw [e4, ug_ne _ (by decide)])
    have x98 : Rp co σ4 98 (prk co a false L) := Rp_cg g3 (by rw [e4, ug_ne _ (by decide)]) (by rw [e4, ug_ne _ (by decide)])
    have hb : ∀ b, (bit1 co (prk co a b L)).length ≤ 1 := fun b => by unfold bit1; split <;> simp
    refine ⟨fun s => FrB σ s 1 JS ∧ Sb co s 1 (bit1 co (prk co a true L)) ∧ Rp co s 98 (prk co a false L), ?_, ?_⟩
    · rintro σ5 ⟨f5, S5, x5⟩
      refine ⟨fun s => FrB σ s 1 JS ∧ Sb co s 1 (jkl co a L), ?_, ?_⟩
      · rintro σ6 ⟨f6, S6⟩
        refine spec_X7_sortBranches H ho S6.2.1 S6.2.2 (fun σ7 L' q1 q2 q3 q4 q5 => hQ σ7 L' (f6.tr ⟨fun i _ h17 _ => q1 i h17, fun j _ => by rw [q1 1 (by decide)]⟩) ⟨ho, q2, q3⟩ q4 q5 (GL_perm (GL_jk H hL) q4))
      · rw [x5.2.2.2]
        refine ⟨fun h => ⟨f5, ?_⟩, fun h => ?_⟩
        · unfold jkl
          have e : bit1 co (prk co a false L) = [] := by unfold bit1; rw [if_pos (by omega)]
          rw [e, List.append_nil]
          exact S5
        · refine spec_X7_addBranch H S5 x5 (by have := hb true; omega) (fun σ6 q1 q2 => ⟨f5.tr (q1.mono (fun t h => by cases h)), ?_⟩)
          unfold jkl
          have e : bit1 co (prk co a false L) = [prk co a false L] := by unfold bit1; rw [if_neg (by omega)]
          rw [e]
          exact q2
    · rw [x96.2.2.2]
      refine ⟨fun h => ⟨f4, ?_, x98⟩, fun h => ?_⟩
      · have e : bit1 co (prk co a true L) = [] := by unfold bit1; rw [if_pos (by omega)]
        rw [e]
        exact S4
      · refine spec_X7_addBranch H S4 x96 (by simp) (fun σ6 q1 q2 => ⟨f4.tr (q1.mono (fun t h => by cases h)), ?_, ?_⟩)
        · have e : bit1 co (prk co a true L) = [prk co a true L] := by unfold bit1; rw [if_neg (by omega)]
          rw [e]
          exact q2
        · exact Rp_frB ho x98 (fun t h => by cases h) (by decide) q1
