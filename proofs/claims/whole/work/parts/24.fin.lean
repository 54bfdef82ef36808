/-! irreducible polynomials: x is its own power in the field that they give -/
def Ir {R : Type} [Lean.Grind.CommRing R] (co : R → Nat → Int) (q : R) : Prop := mon co q ∧ 2 ≤ dd co q ∧ ∀ a : R, mon co a → Dv a q → a = 1 ∨ a = q
theorem Ir_ex {R : Type} [Lean.Grind.CommRing R] {p : Nat} {co : R → Nat → Int} {mk : (Nat → Int) → R} (H : PD p co mk) : ∀ (n : Nat) (f : R), mon co f → 2 ≤ dd co f → dd co f ≤ n → ∃ q, Ir co q ∧ Dv q f := by
  intro n
  induction n with
  | zero => intro f _ h2 h3; omega
  | succ n ih =>
    intro f hf h2 h3
    by_cases q : ∃ a : R, mon co a ∧ Dv a f ∧ a ≠ 1 ∧ a ≠ f
    · obtain ⟨a, h4, h5, h6, h7⟩ := q
      have h8 := Dv_dd H (mon_ne H hf) h5
      have h9 : dd co a ≠ dd co f := fun e => h7 (mon_dv_eq H h4 hf h5 e)
      have h10 : dd co a ≠ 1 := fun e => h6 (mon1 H h4 e)
      have h11 := h4.1
      obtain ⟨q, hq, hd⟩ := ih a h4 (by omega) (by omega)
      exact ⟨q, hq, Dv_tr hd h5⟩
    · refine ⟨f, ⟨hf, h2, fun a ha hd => ?_⟩, Dv_rf f⟩
      by_cases e1 : a = 1
      · exact Or.inl e1
      · by_cases e2 : a = f
        · exact Or.inr e2
        · exact absurd ⟨a, ha, hd, e1, e2⟩ q
theorem Ir_cp {R : Type} [Lean.Grind.CommRing R] {p : Nat} {co : R → Nat → Int} {mk : (Nat → Int) → R} (H : PD p co mk) {q a : R} (hq : Ir co q) (h : ¬ Dv q a) : Cp q a := by
  have hm := gc_mon H (a := q) (b := a) (Or.inl (mon_ne H hq.1))
  rcases hq.2.2 _ hm (gc_l H q a) with e | e
  · exact (gc_one_iff H).mp e
  · exact absurd ((gc_self_iff H hq.1).mp e) h
/-- all polynomials of less than n coefficients -/
def alls {R : Type} [Lean.Grind.CommRing R] (p : Nat) (mk : (Nat → Int) → R) : Nat → List R
  | 0 => [0]
  | n + 1 => (List.range p).flatMap (fun c : Nat => (alls p mk n).map (fun a => mo p mk (c : Int) n + a))
theorem alls_dd {R : Type} [Lean.Grind.CommRing R] {p : Nat} {co : R → Nat → Int} {mk : (Nat → Int) → R} (H : PD p co mk) : ∀ (n : Nat) (a : R), a ∈ alls p mk n → dd co a ≤ n := by
  intro n
  induction n with
  | zero =>
    intro a ha
    rw [List.mem_singleton.mp ha, dd_zero H]
    omega
  | succ n ih =>
    intro a ha
    obtain ⟨c, -, h⟩ := List.mem_flatMap.mp ha
    obtain ⟨b, h2, rfl⟩ := List.mem_map.mp h
    have h3 := ih b h2
    exact dd_add_le H (dd_mo_le H _ _) (by omega)
theorem alls_mem {R : Type} [Lean.Grind.CommRing R] {p : Nat} {co : R → Nat → Int} {mk : (Nat → Int) → R} (H : PD p co mk) : ∀ (n : Nat) (a : R), dd co a ≤ n → a ∈ alls p mk n := by
  intro n
  induction n with
  | zero =>
    intro a ha
    exact List.mem_singleton.mpr (dd_eq0 H (by omega))
  | succ n ih =>
    intro a ha
    have h1 := pd_rng H a n
    obtain ⟨c, hc⟩ := Int.eq_ofNat_of_zero_le h1.1
    have h2 : dd co (a - mo p mk (c : Int) n) ≤ n := dd_le H (fun k hk => by
      rw [co_sub H, co_mo H]
      by_cases q : k = n
      · rw [if_pos q, q, hc, Int.sub_emod, Int.emod_emod, Int.sub_self]; rfl
      · rw [if_neg q, dd_out H a (by omega)]; rfl)
    refine List.mem_flatMap.mpr ⟨c, List.mem_range.mpr (by omega), List.mem_map.mpr ⟨_, ih _ h2, ?_⟩⟩
    grind
theorem alls_len {R : Type} [Lean.Grind.CommRing R] (p : Nat) (mk : (Nat → Int) → R) (n : Nat) : (alls p mk n).length = p ^ n := by
  induction n with
  | zero => rfl
  | succ n ih =>
    show ((List.range p).flatMap (fun c : Nat => (alls p mk n).map (fun a => mo p mk (c : Int) n + a))).length = _
    rw [List.length_flatMap]
    have : ∀ l : List Nat, (l.map (fun c : Nat => ((alls p mk n).map (fun a => mo p mk (c : Int) n + a)).length)).sum = l.length * p ^ n := by
      intro l
      induction l with
      | nil => simp
      | cons b l ih2 => rw [List.map_cons, List.sum_cons, ih2, List.length_map, ih, List.length_cons, Nat.succ_mul, Nat.add_comm]
    rw [this, List.length_range, Nat.pow_succ, Nat.mul_comm]
theorem alls_nd {R : Type} [Lean.Grind.CommRing R] {p : Nat} {co : R → Nat → Int} {mk : (Nat → Int) → R} (H : PD p co mk) (n : Nat) : (alls p mk n).Pairwise (fun a b => a ≠ b) := by
  induction n with
  | zero => exact List.pairwise_singleton _ _
  | succ n ih =>
    show ((List.range p).flatMap (fun c : Nat => (alls p mk n).map (fun a => mo p mk (c : Int) n + a))).Pairwise _
    rw [List.pairwise_flatMap]
    refine ⟨fun c _ => ?_, ?_⟩
    · rw [List.pairwise_map]
      exact ih.imp (fun {a b} h e => h (by grind))
    · have hr : (List.range p).Pairwise (fun a b => a ≠ b ∧ a < p ∧ b < p) := by
        have h1 := List.pairwise_lt_range (n := p)
        have h2 : (List.range p).Pairwise (fun a b => a < b) := h1
        refine List.Pairwise.imp_of_mem (fun {a b} ha hb h => ⟨by omega, List.mem_range.mp ha, List.mem_range.mp hb⟩) h2
      refine hr.imp (fun {c e} h x hx y hy => ?_)
      obtain ⟨a, ha, rfl⟩ := List.mem_map.mp hx
      obtain ⟨b, hb, rfl⟩ := List.mem_map.mp hy
      intro q
      have h3 := congrArg (fun z => co z n) q
      simp only [co_add H, co_mo H, if_pos, dd_out H a (alls_dd H n a ha), dd_out H b (alls_dd H n b hb), Int.add_zero, Int.emod_emod] at h3
      rw [Int.emod_eq_of_lt (by omega) (by omega), Int.emod_eq_of_lt (by omega) (by omega)] at h3
      exact h.1 (by omega)
theorem perm_of {α : Type} : ∀ (l k : List α), l.Pairwise (fun a b => a ≠ b) → (∀ x ∈ l, x ∈ k) → k.length ≤ l.length → l.Perm k := by
  intro l
  induction l with
  | nil =>
    intro k _ _ h
    have e : k = [] := List.eq_nil_of_length_eq_zero (by simpa using h)
    rw [e]
  | cons a l ih =>
    intro k h1 h2 h3
    obtain ⟨h4, h5⟩ := List.pairwise_cons.mp h1
    obtain ⟨s, t, hst⟩ := List.append_of_mem (h2 a List.mem_cons_self)
    subst hst
    have h6 : (s ++ a :: t).Perm (a :: (s ++ t)) := List.perm_middle
    refine List.Perm.trans ?_ h6.symm
    refine List.Perm.cons a (ih (s ++ t) h5 (fun x hx => ?_) (by simp at h3 ⊢; omega))
    have h7 := h6.mem_iff.mp (h2 x (List.mem_cons_of_mem _ hx))
    rcases List.mem_cons.mp h7 with e | e
    · exact absurd e.symm (h4 x hx)
    · exact e
theorem pr_scale {R : Type} [Lean.Grind.CommRing R] (x : R) (l : List R) : pr (l.map (fun a => x * a)) = x ^ l.length * pr l := by
  induction l with
  | nil => show (1 : R) = x ^ 0 * 1; rw [pw_0]; grind
  | cons a l ih =>
    show x * a * pr (l.map (fun a => x * a)) = x ^ (l.length + 1) * (a * pr l)
    rw [ih, pw_s]; grind
theorem pr_cg {R : Type} [Lean.Grind.CommRing R] {m : R} (f g : R → R) (l : List R) (h : ∀ a ∈ l, Dv m (f a - g a)) : Dv m (pr (l.map f) - pr (l.map g)) := by
  induction l with
  | nil => exact cg_rf m 1
  | cons a l ih => exact cg_mul (h a List.mem_cons_self) (ih (fun b hb => h b (List.mem_cons_of_mem _ hb)))
/-- in the field of an irreducible polynomial x to the power of the field's size is x -/
theorem Ir_frob {R : Type} [Lean.Grind.CommRing R] {p : Nat} {co : R → Nat → Int} {mk : (Nat → Int) → R} (H : PD p co mk) {q : R} (hq : Ir co q) : Dv q (xx p mk ^ (p ^ (dd co q - 1)) - xx p mk) := by
  have hq0 := mon_ne H hq.1
  have hp := pd_p H
  obtain ⟨n, hn⟩ : ∃ n, n = dd co q - 1 := ⟨_, rfl⟩
  have hpos : 0 < p ^ n := Nat.pow_pos (by omega)
  have e1 : p ^ n = p ^ n - 1 + 1 := by omega
  rw [← hn, e1, pw_s]
  by_cases hx : Dv q (xx p mk)
  · exact Dv_sub (Dv_mull _ hx) hx
  · have hcx := Ir_cp H hq hx
    haveI : DecidableEq R := fun a b => Classical.propDecidable _
    obtain ⟨L, hL⟩ : ∃ L, L = (alls p mk n).filter (fun a => decide (a ≠ 0)) := ⟨_, rfl⟩
    have hmem : ∀ a, a ∈ L ↔ dd co a ≤ n ∧ a ≠ 0 := by
      intro a
      rw [hL, List.mem_filter]
      simp only [decide_eq_true_eq]
      exact ⟨fun h => ⟨alls_dd H n a h.1, h.2⟩, fun h => ⟨alls_mem H n a h.1, h.2⟩⟩
    have hnd : L.Pairwise (fun a b => a ≠ b) := by rw [hL]; exact (alls_nd H n).filter _
    have hlen : L.length = p ^ n - 1 := by
      have h1 : (alls p mk n).Perm (0 :: L) := by
        refine perm_of _ _ (alls_nd H n) (fun x hx => ?_) ?_
        · by_cases z : x = 0
          · rw [z]; exact List.mem_cons_self
          · exact List.mem_cons_of_mem _ ((hmem x).mpr ⟨alls_dd H n x hx, z⟩)
        · have h2 : (0 :: L).Perm (alls p mk n) ∨ True := Or.inr trivial
          have h3 : (0 :: L).Pairwise (fun a b => a ≠ b) := List.pairwise_cons.mpr ⟨fun a ha e => ((hmem a).mp ha).2 e.symm, hnd⟩
          have h4 : ∀ (l k : List R), l.Pairwise (fun a b => a ≠ b) → (∀ x ∈ l, x ∈ k) → l.length ≤ k.length := by
            intro l
            induction l with
            | nil => intro k _ _; exact Nat.zero_le _
            | cons a l ih =>
              intro k g1 g2
              obtain ⟨g4, g5⟩ := List.pairwise_cons.mp g1
              obtain ⟨s, t, hst⟩ := List.append_of_mem (g2 a List.mem_cons_self)
              subst hst
              have g6 := ih (s ++ t) g5 (fun x hx => by
                have g7 := (List.perm_middle (a := a) (l₁ := s) (l₂ := t)).mem_iff.mp (g2 x (List.mem_cons_of_mem _ hx))
                rcases List.mem_cons.mp g7 with e | e
                · exact absurd e.symm (g4 x hx)
                · exact e)
              simp at g6 ⊢
              omega
          exact h4 _ _ h3 (fun x hx => by
            rcases List.mem_cons.mp hx with e | e
            · rw [e]; exact alls_mem H n 0 (by rw [dd_zero H]; omega)
            · exact alls_mem H n x ((hmem x).mp e).1)
      have h2 := h1.length_eq
      rw [alls_len, List.length_cons] at h2
      omega
    have hcp : ∀ a, a ∈ L → Cp q a := fun a ha => Ir_cp H hq (fun hd => ((hmem a).mp ha).2 (Dv_small H hd (by have := ((hmem a).mp ha).1; have := hq.2.1; omega)))
    have hperm : (L.map (fun a => rm co (xx p mk * a) q)).Perm L := by
      refine perm_of _ _ ?_ (fun y hy => ?_) (by rw [List.length_map]; exact Nat.le_refl _)
      · rw [List.pairwise_map]
        refine List.Pairwise.imp_of_mem (fun {a b} ha hb hne e => ?_) hnd
        have h1 := rm_dv H (xx p mk * a) hq0
        have h2 := rm_dv H (xx p mk * b) hq0
        rw [e] at h1
        have h3 : Dv q (xx p mk * (a - b)) := by
          obtain ⟨u, h1⟩ := h1
          obtain ⟨v, h2⟩ := h2
          exact ⟨u - v, by grind⟩
        have h4 := Cp_dv hcx h3
        have h5 := ((hmem a).mp ha).1
        have h6 := ((hmem b).mp hb).1
        have h7 := Dv_small H h4 (by have := dd_sub_le H h5 h6; have := hq.2.1; omega)
        exact hne (by grind)
      · obtain ⟨a, ha, rfl⟩ := List.mem_map.mp hy
        have h1 := rm_spec H (xx p mk * a) hq0
        refine (hmem _).mpr ⟨by omega, fun e => ?_⟩
        have h2 := Cp_dv hcx ((rm0_iff H hq0).mp e)
        exact ((hmem a).mp ha).2 (Dv_small H h2 (by have := ((hmem a).mp ha).1; have := hq.2.1; omega))
    have h1 := pr_cg (m := q) (fun a => xx p mk * a) (fun a => rm co (xx p mk * a) q) L (fun a _ => rm_dv H _ hq0)
    rw [pr_perm hperm, pr_scale, hlen] at h1
    have h2 : Dv q (pr L * (xx p mk ^ (p ^ n - 1) - 1)) := by
      obtain ⟨u, h1⟩ := h1
      exact ⟨u, by grind⟩
    have h3 := Cp_dv (Cp_pr hcp) h2
    obtain ⟨u, h3⟩ := h3
    exact ⟨u * xx p mk, by grind⟩
/-! the products of the irreducible factors by their degrees -/
noncomputable def rs {R : Type} [Lean.Grind.CommRing R] (p : Nat) (co : R → Nat → Int) (mk : (Nat → Int) → R) (g : R) : Nat → R
  | 0 => g
  | d + 1 => qu co (rs p co mk g d) (gc co (rs p co mk g d) (xx p mk ^ (p ^ (d + 1)) - xx p mk))
noncomputable def dp {R : Type} [Lean.Grind.CommRing R] (p : Nat) (co : R → Nat → Int) (mk : (Nat → Int) → R) (g : R) (d : Nat) : R := gc co (rs p co mk g (d - 1)) (xx p mk ^ (p ^ d) - xx p mk)
theorem rs_spec {R : Type} [Lean.Grind.CommRing R] {p : Nat} {co : R → Nat → Int} {mk : (Nat → Int) → R} (H : PD p co mk) {g : R} (hg : mon co g) (d : Nat) : mon co (rs p co mk g d) ∧ mon co (dp p co mk g (d + 1)) ∧ rs p co mk g d = rs p co mk g (d + 1) * dp p co mk g (d + 1) := by
  have key : ∀ d, mon co (rs p co mk g d) → mon co (dp p co mk g (d + 1)) ∧ mon co (rs p co mk g (d + 1)) ∧ rs p co mk g d = rs p co mk g (d + 1) * dp p co mk g (d + 1) := by
    intro d hd
    have h1 : mon co (dp p co mk g (d + 1)) := gc_mon H (Or.inl (mon_ne H hd))
    obtain ⟨c, hc⟩ : Dv (dp p co mk g (d + 1)) (rs p co mk g d) := gc_l H _ _
    have h2 : mon co c := mon_fac H h1 (by rw [← hc]; exact hd)
    have h3 : rs p co mk g (d + 1) = c := by
      show qu co (rs p co mk g d) (dp p co mk g (d + 1)) = c
      rw [hc, show dp p co mk g (d + 1) * c = c * dp p co mk g (d + 1) by grind]
      exact (qu_mul H (mon_ne H h1)).1
    rw [h3]
    exact ⟨h1, h2, by rw [hc]; grind⟩
  have h : mon co (rs p co mk g d) := by
    induction d with
    | zero => exact hg
    | succ d ih => exact (key d ih).2.1
  exact ⟨h, (key d h).1, (key d h).2.2⟩
theorem rs_dv {R : Type} [Lean.Grind.CommRing R] {p : Nat} {co : R → Nat → Int} {mk : (Nat → Int) → R} (H : PD p co mk) {g : R} (hg : mon co g) (d : Nat) : Dv (rs p co mk g d) g := by
  induction d with
  | zero => exact Dv_rf g
  | succ d ih => exact Dv_tr (by rw [(rs_spec H hg d).2.2]; exact Dv_l _ _) ih
theorem dp_dv {R : Type} [Lean.Grind.CommRing R] {p : Nat} {co : R → Nat → Int} {mk : (Nat → Int) → R} (H : PD p co mk) {g : R} (hg : mon co g) (d : Nat) : Dv (dp p co mk g (d + 1)) g := Dv_tr (by rw [(rs_spec H hg d).2.2]; exact Dv_r _ _) (rs_dv H hg d)
theorem rs_dp_cp {R : Type} [Lean.Grind.CommRing R] {p : Nat} {co : R → Nat → Int} {mk : (Nat → Int) → R} (H : PD p co mk) {g : R} (hg : mon co g) (hs : SF p co mk g) (d : Nat) : Cp (rs p co mk g (d + 1)) (dp p co mk g (d + 1)) := by
  refine SF_cp H ?_
  rw [← (rs_spec H hg d).2.2]
  exact SF_dv H hs (rs_dv H hg d)
theorem rs_mono {R : Type} [Lean.Grind.CommRing R] {p : Nat} {co : R → Nat → Int} {mk : (Nat → Int) → R} (H : PD p co mk) {g : R} (hg : mon co g) (d e : Nat) : Dv (rs p co mk g (d + e)) (rs p co mk g d) := by
  induction e with
  | zero => exact Dv_rf _
  | succ e ih => exact Dv_tr (by rw [← Nat.add_assoc, (rs_spec H hg (d + e)).2.2]; exact Dv_l _ _) ih
theorem dp_cp {R : Type} [Lean.Grind.CommRing R] {p : Nat} {co : R → Nat → Int} {mk : (Nat → Int) → R} (H : PD p co mk) {g : R} (hg : mon co g) (hs : SF p co mk g) {d e : Nat} (h : d < e) : Cp (dp p co mk g (d + 1)) (dp p co mk g (e + 1)) := by
  have h1 : Dv (dp p co mk g (e + 1)) (rs p co mk g (d + 1)) := by
    refine Dv_tr ?_ (rs_mono H hg (d + 1) (e - (d + 1)))
    rw [show d + 1 + (e - (d + 1)) = e by omega, (rs_spec H hg e).2.2]
    exact Dv_r _ _
  exact Cp_sym (Cp_sub (rs_dp_cp H hg hs d) h1)
/-- for two without a common factor -/
theorem rs_mul {R : Type} [Lean.Grind.CommRing R] {p : Nat} {co : R → Nat → Int} {mk : (Nat → Int) → R} (H : PD p co mk) {g h : R} (hg : mon co g) (hh : mon co h) (hc : Cp g h) (d : Nat) : rs p co mk (g * h) d = rs p co mk g d * rs p co mk h d ∧ dp p co mk (g * h) (d + 1) = dp p co mk g (d + 1) * dp p co mk h (d + 1) := by
  have key : ∀ d, rs p co mk (g * h) d = rs p co mk g d * rs p co mk h d → dp p co mk (g * h) (d + 1) = dp p co mk g (d + 1) * dp p co mk h (d + 1) := by
    intro d hd
    show gc co (rs p co mk (g * h) d) _ = _
    rw [hd]
    exact gc_mul H (rs_spec H hg d).1 (rs_spec H hh d).1 (Cp_sub2 (Cp_sub hc (rs_dv H hg d)) (rs_dv H hh d))
  have h1 : rs p co mk (g * h) d = rs p co mk g d * rs p co mk h d := by
    induction d with
    | zero => rfl
    | succ d ih =>
      have h2 := (rs_spec H (mon_mul H hg hh) d).2.2
      have h3 := key d ih
      have h4 := (rs_spec H hg d).2.2
      have h5 := (rs_spec H hh d).2.2
      have h6 := mon_ne H (rs_spec H (mon_mul H hg hh) d).2.1
      refine mul_cancel H h6 ?_
      have e1 : dp p co mk (g * h) (d + 1) * rs p co mk (g * h) (d + 1) = rs p co mk (g * h) d := by rw [h2]; grind
      rw [e1, ih, h3, h4, h5]
      grind
  exact ⟨h1, key d h1⟩
/-- nothing is left of a polynomial without squares, of a degree up to 6, behind the degree 6 -/
theorem rs_6 {R : Type} [Lean.Grind.CommRing R] {p : Nat} {co : R → Nat → Int} {mk : (Nat → Int) → R} (H : PD p co mk) {g : R} (hg : mon co g) (hs : SF p co mk g) (n : Nat) (hd : dd co g ≤ n + 1) : rs p co mk g n = 1 := by
  by_cases q : dd co (rs p co mk g n) = 1
  · exact mon1 H (rs_spec H hg n).1 q
  · exfalso
    have h0 := (rs_spec H hg n).1.1
    obtain ⟨q, hq, hqd⟩ := Ir_ex H _ _ (rs_spec H hg n).1 (by omega) (Nat.le_refl _)
    have h1 := Dv_dd H (mon_ne H hg) (Dv_tr hqd (rs_dv H hg n))
    have h2 := hq.2.1
    obtain ⟨d, hd2⟩ : ∃ d, dd co q - 1 = d + 1 := ⟨dd co q - 2, by omega⟩
    have h3 : Dv q (rs p co mk g (d + 1)) := by
      have h4 := rs_mono H hg (d + 1) (n - (d + 1))
      rw [show d + 1 + (n - (d + 1)) = n by omega] at h4
      exact Dv_tr hqd h4
    have h5 : Dv q (rs p co mk g d) := Dv_tr h3 (by rw [(rs_spec H hg d).2.2]; exact Dv_l _ _)
    have h6 := Ir_frob H hq
    rw [hd2] at h6
    have h7 : Dv q (dp p co mk g (d + 1)) := gc_dv H h5 h6
    obtain ⟨u, v, h8⟩ := rs_dp_cp H hg hs d
    have h9 : Dv q 1 := by rw [← h8]; exact Dv_add (Dv_mull _ h3) (Dv_mull _ h7)
    have h10 := Dv_dd H (one_ne H) h9
    rw [dd_one H] at h10
    omega
