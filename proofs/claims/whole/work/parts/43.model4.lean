/-! the reference's branches: places 44 .. 86 of its state -/
def Bw {R : Type} (co : R → Nat → Int) (σ : SG) (n : Nat) (x : R) : Prop := ∀ k : Nat, k < 7 → σ 305 (45 + 7 * n + k) = co x k
def Bl {R : Type} (co : R → Nat → Int) (σ : SG) (L : List R) : Prop := σ 305 44 = L.length ∧ L.length ≤ 6 ∧ ∀ i x, L[i]? = some x → Bw co σ i x ∧ dd co x ≤ 7
/-- only the branches, and these rows of the table (and the helper row), are changed -/
def FN (σ σ' : SG) (T : List Int) : Prop := (∀ i, i ≠ 305 → i ≠ 308 → i ≠ 309 → σ' i = σ i) ∧ (∀ j : Nat, j < 44 → σ' 305 j = σ 305 j) ∧ ∀ j : Nat, (∀ r ∈ T, ¬ (14 * r ≤ j ∧ (j : Int) < 14 * r + 14)) → σ' 308 j = σ 308 j
theorem FN.rf (σ : SG) (T : List Int) : FN σ σ T := ⟨fun _ _ _ _ => rfl, fun _ _ => rfl, fun _ _ => rfl⟩
theorem FN.tr {σ σ' σ'' : SG} {T : List Int} (h : FN σ σ' T) (k : FN σ' σ'' T) : FN σ σ'' T := ⟨fun i a b c => (k.1 i a b c).trans (h.1 i a b c), fun j hj => (k.2.1 j hj).trans (h.2.1 j hj), fun j hj => (k.2.2 j hj).trans (h.2.2 j hj)⟩
theorem FN.mono {σ σ' : SG} {T T' : List Int} (h : FN σ σ' T) (k : ∀ t ∈ T, t ∈ T') : FN σ σ' T' := ⟨h.1, h.2.1, fun j hj => h.2.2 j (fun r hr => hj r (k r hr))⟩
theorem FN.of {σ σ' : SG} {T : List Int} (h : FT σ σ' T) : FN σ σ' T := ⟨fun i _ b c => h.1 i b c, fun j _ => by rw [h.p], h.2⟩
theorem Rr_fn {R : Type} {co : R → Nat → Int} {σ σ' : SG} {q : Int} {a : R} {T : List Int} (h : Rr co σ q a) (hf : FN σ σ' T) (hq : q ∉ T) : Rr co σ' q a :=
  ⟨h.1, fun k hk => by
    have h0 := h.1
    rw [hf.2.2 _ (fun r hr => ?_), h.2.1 k hk]
    have : r ≠ q := fun e => hq (e ▸ hr)
    omega, h.2.2⟩
theorem Bl_eq {R : Type} {co : R → Nat → Int} {σ σ' : SG} {L : List R} (h : Bl co σ L) (e : σ' 305 = σ 305) : Bl co σ' L := by
  obtain ⟨h1, h2, h3⟩ := h
  refine ⟨by rw [e]; exact h1, h2, fun i x hx => ⟨fun k hk => by rw [e]; exact (h3 i x hx).1 k hk, (h3 i x hx).2⟩⟩
theorem spec_X10_isBefore {R : Type} [Lean.Grind.CommRing R] {p : Nat} {co : R → Nat → Int} {mk : (Nat → Int) → R} (H : PD p co mk) {σ : SG} {i j : Nat} {x y : R} {Q : Int → SG → Prop} (hi : i < 6) (hj : j < 6) (hx : Bw co σ i x) (hy : Bw co σ j y) (dx : dd co x ≤ 7) (dy : dd co y ≤ 7) (hQ : ∀ z, (z = 0 ∧ ¬ Lc co x y ∨ z = 1 ∧ Lc co x y) → Q z σ) : wp_X10_isBefore σ i j Q := by
  unfold wp_X10_isBefore
  refine Lp1_m (fun a σ' => ∃ k : Nat, a = (k : Int) - 1 ∧ k ≤ 7 ∧ σ' = σ ∧ ∀ m, k ≤ m → co x m = co y m) (fun a _ => (a + 1).toNat) ⟨7, rfl, by omega, rfl, fun m hm => by rw [dd_out H x (by omega), dd_out H y (by omega)]⟩ ?_
  rintro a σ1 r ⟨k, rfl, hk, rfl, h1⟩ hr
  refine ⟨fun h => hQ 0 (Or.inl ⟨rfl, ?_⟩), fun h => ?_⟩
  · rintro ⟨m, hm, -⟩
    have := h1 m (by omega)
    omega
  · obtain ⟨m, rfl⟩ : ∃ m, k = m + 1 := ⟨k - 1, by omega⟩
    rw [show ((m + 1 : Nat) : Int) - 1 = m by omega]
    refine ⟨by omega, by omega, by omega, by omega, ?_⟩
    rintro v hv
    refine ⟨by omega, by omega, by omega, by omega, ?_⟩
    rintro w hw
    rw [show (45 + 7 * (i : Int) + m).toNat = 45 + 7 * i + m by omega, hx m (by omega)] at hv
    rw [show (45 + 7 * (j : Int) + m).toNat = 45 + 7 * j + m by omega, hy m (by omega)] at hw
    subst hv hw
    refine ⟨fun e => ⟨by omega, hr _ _ ⟨m, by omega, by omega, rfl, fun m' hm' => ?_⟩ (by omega)⟩, fun e => ⟨fun h2 => hQ 0 (Or.inl ⟨rfl, ?_⟩), fun h2 => hQ 1 (Or.inr ⟨rfl, m, by omega, fun m' hm' => h1 m' (by omega)⟩)⟩⟩
    · by_cases q : m' = m
      · rw [q]; exact e
      · exact h1 m' (by omega)
    · rintro ⟨m', q1, q2⟩
      rcases Nat.lt_trichotomy m' m with q | q | q
      · exact e (q2 m q)
      · subst q; omega
      · have := h1 m' (by omega); omega
theorem spec_X10_swaps {σ : SG} {i j : Nat} {Q : SG → Prop} (hi : i < 6) (hj : j < 6) (hQ : ∀ σ' : SG, (∀ e, e ≠ 305 → σ' e = σ e) → (∀ k : Nat, k < 7 → σ' 305 (45 + 7 * i + k) = σ 305 (45 + 7 * j + k) ∧ σ' 305 (45 + 7 * j + k) = σ 305 (45 + 7 * i + k)) → (∀ m : Nat, ¬ (45 + 7 * i ≤ m ∧ m < 45 + 7 * i + 7) → ¬ (45 + 7 * j ≤ m ∧ m < 45 + 7 * j + 7) → σ' 305 m = σ 305 m) → Q σ') : wp_X10_swaps σ i j Q := by
  unfold wp_X10_swaps
  refine Lp1_up 7 (fun n σ' => (∀ e, e ≠ 305 → σ' e = σ e) ∧ (∀ k : Nat, k < n → σ' 305 (45 + 7 * i + k) = σ 305 (45 + 7 * j + k) ∧ σ' 305 (45 + 7 * j + k) = σ 305 (45 + 7 * i + k)) ∧ (∀ m : Nat, ¬ (45 + 7 * i ≤ m ∧ m < 45 + 7 * i + n) → ¬ (45 + 7 * j ≤ m ∧ m < 45 + 7 * j + n) → σ' 305 m = σ 305 m)) ⟨fun _ _ => rfl, fun k hk => by omega, fun _ _ _ => rfl⟩ ?_ ?_
  · rintro n σ1 r hn ⟨h1, h2, h3⟩ hr
    refine ⟨fun h => by omega, fun _ => ⟨by omega, by omega, by omega, by omega, ?_⟩⟩
    rintro v hv
    refine ⟨by omega, by omega, by omega, by omega, by omega, by omega, by omega, by omega, ?_⟩
    rintro σ2 e2
    refine ⟨by omega, by omega, by omega, by omega, ?_⟩
    rintro σ3 e3
    rw [show (45 + 7 * (i : Int) + n).toNat = 45 + 7 * i + n by omega] at hv e2
    rw [show (45 + 7 * (j : Int) + n).toNat = 45 + 7 * j + n by omega] at e2 e3
    have v1 : v = σ 305 (45 + 7 * i + n) := by
      rw [hv]
      by_cases q : i = j
      · subst q
        exact h3 _ (by omega) (by omega)
      · exact h3 _ (by omega) (by omega)
    have v2 : σ1 305 (45 + 7 * j + n) = σ 305 (45 + 7 * j + n) := h3 _ (by omega) (by omega)
    have u1 : ∀ m, m ≠ 45 + 7 * i + n → m ≠ 45 + 7 * j + n → σ3 305 m = σ1 305 m := fun m a b => by rw [e3, ug_k _ _ b, e2, ug_k _ _ a]
    have u2 : σ3 305 (45 + 7 * j + n) = v := by rw [e3, ug_eq]
    have u3 : σ3 305 (45 + 7 * i + n) = σ 305 (45 + 7 * j + n) := by
      by_cases q : i = j
      · subst q
        rw [u2, v1]
      · rw [e3, ug_k _ _ (by omega), e2, ug_eq, v2]
    refine ⟨by omega, hr _ ⟨fun e he => by rw [e3, ug_ne _ he, e2, ug_ne _ he]; exact h1 e he, fun k hk => ?_, fun m ha hb => ?_⟩⟩
    · by_cases q : k = n
      · subst q
        exact ⟨u3, u2.trans v1⟩
      · rw [u1 _ (by omega) (by omega), u1 _ (by omega) (by omega)]
        exact h2 k (by omega)
    · rw [u1 m (by omega) (by omega)]
      exact h3 m (by omega) (by omega)
  · rintro σ1 r ⟨h1, h2, h3⟩
    exact ⟨fun _ => hQ σ1 h1 h2 h3, fun h => absurd (Int.le_refl _) h⟩
theorem FN.sw {σ σ' : SG} (h : ∀ e, e ≠ 305 → σ' e = σ e) (h2 : ∀ m : Nat, m < 44 → σ' 305 m = σ 305 m) (T : List Int) : FN σ σ' T := ⟨fun i a _ _ => h i a, fun j hj => h2 j hj, fun j _ => by rw [h 308 (by decide)]⟩
theorem spec_X10_sorts {R : Type} [Lean.Grind.CommRing R] {p : Nat} {co : R → Nat → Int} {mk : (Nat → Int) → R} (H : PD p co mk) {σ : SG} {L : List R} {Q : SG → Prop} (hL : Bl co σ L) (hQ : ∀ σ' L', FN σ σ' [] → Bl co σ' L' → L'.Perm L → Srt co L' → Q σ') : wp_X10_sorts σ Q := by
  unfold wp_X10_sorts
  have b2 := hL.2.1
  refine Lp1_m (fun a σ' => ∃ (m : Nat) (L' : List R), a = m ∧ 1 ≤ m ∧ FN σ σ' [] ∧ Bl co σ' L' ∧ L'.Perm L ∧ Srt co (L'.take m)) (fun a _ => (7 - a).toNat) ⟨1, L, rfl, by omega, FN.rf _ _, hL, List.Perm.refl _, ?_⟩ ?_
  · cases L with
    | nil => exact List.Pairwise.nil
    | cons a l =>
      show Srt co [a]
      exact List.pairwise_cons.mpr ⟨(fun b hb => by cases hb), List.Pairwise.nil⟩
  rintro a σ1 r ⟨m, L1, rfl, hm, f1, g1, p1, s1⟩ hr
  have hl1 := p1.length_eq
  rw [g1.1]
  refine ⟨fun h => hQ σ1 L1 f1 g1 p1 (by rw [List.take_of_length_le (by omega)] at s1; exact s1), fun h => ?_⟩
  have hmlt : m < L1.length := by omega
  refine Lp1_m (fun c' σ' => ∃ (c : Nat) (s : List R) (x : R) (t w : List R), c' = c ∧ s.length = c ∧ c + t.length = m ∧ FN σ σ' [] ∧ Bl co σ' (s ++ x :: (t ++ w)) ∧ (s ++ x :: (t ++ w)).Perm L ∧ Srt co (s ++ t) ∧ ∀ y ∈ t, Le co x y) (fun c' _ => c'.toNat) ⟨m, L1.take m, L1[m], [], L1.drop (m + 1), rfl, by rw [List.length_take]; omega, by simp, f1, ?_, ?_, by rw [List.append_nil]; exact s1, fun y hy => by cases hy⟩ ?_
  · have e : L1.take m ++ L1[m] :: ([] ++ L1.drop (m + 1)) = L1 := by
      rw [List.nil_append, List.getElem_cons_drop, List.take_append_drop]
    rw [e]; exact g1
  · have e : L1.take m ++ L1[m] :: ([] ++ L1.drop (m + 1)) = L1 := by
      rw [List.nil_append, List.getElem_cons_drop, List.take_append_drop]
    rw [e]; exact p1
  rintro c' σ2 rc ⟨c, s, x, t, w, rfl, hs, hct, f2, g2, p2, s2, hxt⟩ hrc
  have hl2 := p2.length_eq
  have done : Srt co (s ++ x :: t) → inR ((m : Int) + 1) ∧ r ((m : Int) + 1) σ2 := fun hsrt => ⟨by omega, hr _ _ ⟨m + 1, _, by omega, by omega, f2, g2, p2, by
    have e : (s ++ x :: (t ++ w)).take (m + 1) = s ++ x :: t := by
      rw [show s ++ x :: (t ++ w) = (s ++ x :: t) ++ w by simp, List.take_append_of_le_length (by simp; omega), List.take_of_length_le (by simp; omega)]
    rw [e]; exact hsrt⟩ (by omega)⟩
  refine ⟨fun h0 => done ?_, fun h0 => ?_⟩
  · have hs0 : s = [] := List.eq_nil_of_length_eq_zero (by omega)
    subst hs0
    exact List.pairwise_cons.mpr ⟨hxt, s2⟩
  · obtain ⟨d, rfl⟩ : ∃ d, c = d + 1 := ⟨c - 1, by omega⟩
    obtain ⟨s', y, rfl⟩ : ∃ s' y, s = s' ++ [y] := by
      refine ⟨s.take d, s[d], ?_⟩
      have h1 := List.take_succ_eq_append_getElem (l := s) (i := d) (by omega)
      rw [List.take_of_length_le (by omega)] at h1
      exact h1
    have hd : s'.length = d := by simpa using hs
    have gx : (s' ++ [y] ++ x :: (t ++ w))[d + 1]? = some x := by rw [← hs]; simp
    have gy : (s' ++ [y] ++ x :: (t ++ w))[d]? = some y := by rw [← hd]; simp
    obtain ⟨bx, dx⟩ := g2.2.2 _ _ gx
    obtain ⟨by', dy⟩ := g2.2.2 _ _ gy
    have hlen : d + 1 < 6 := by
      have := (List.getElem?_eq_some_iff.mp gx).1
      have := g2.2.1
      omega
    rw [show ((d + 1 : Nat) : Int) - 1 = (d : Nat) by omega]
    refine ⟨by omega, spec_X10_isBefore H (i := d + 1) (j := d) hlen (by omega) bx by' dx dy (fun z hz => ?_)⟩
    rcases hz with ⟨rfl, hz⟩ | ⟨rfl, hz⟩
    · refine ⟨fun _ => done ?_, fun h => absurd rfl h⟩
      have hyx : Le co y x := hz
      obtain ⟨q1, q2, q3⟩ := List.pairwise_append.mp s2
      refine List.pairwise_append.mpr ⟨q1, List.pairwise_cons.mpr ⟨hxt, q2⟩, fun u hu v hv => ?_⟩
      have huy : Le co u y := by
        obtain ⟨r1, r2, r3⟩ := List.pairwise_append.mp q1
        rcases List.mem_append.mp hu with e | e
        · exact r3 u e y (List.mem_singleton.mpr rfl)
        · rw [List.mem_singleton.mp e]; exact fun h => Lc_ir h h
      rcases List.mem_cons.mp hv with rfl | e
      · exact Le_tr H huy hyx
      · exact q3 u hu v e
    · refine ⟨fun h => absurd h (by decide), fun _ => ⟨by omega, spec_X10_swaps (i := d + 1) (j := d) hlen (by omega) (fun σ3 k1 k2 k3 => ⟨by omega, hrc _ _ ⟨d, s', x, y :: t, w, by omega, hd, by simp; omega, f2.tr (FN.sw k1 (fun m hm => k3 m (by omega) (by omega)) _), ?_, ?_, ?_, ?_⟩ (by omega)⟩)⟩⟩
      · refine ⟨by rw [k3 44 (by omega) (by omega), g2.1]; simp, by have := g2.2.1; simp at this ⊢; omega, fun i u hu => ?_⟩
        by_cases z1 : i = d
        · rw [z1, ← hd] at hu
          simp at hu
          subst hu
          refine ⟨fun k hk => ?_, dx⟩
          rw [z1, (k2 k hk).2]; exact bx k hk
        · by_cases z2 : i = d + 1
          · rw [z2, ← hd] at hu
            simp at hu
            subst hu
            refine ⟨fun k hk => ?_, dy⟩
            rw [z2, (k2 k hk).1]; exact by' k hk
          · have hu2 : (s' ++ [y] ++ x :: (t ++ w))[i]? = some u := by
              rw [← hu, show s' ++ [y] ++ x :: (t ++ w) = s' ++ y :: x :: (t ++ w) by simp, show s' ++ x :: (y :: t ++ w) = s' ++ x :: y :: (t ++ w) by simp]
              rcases Nat.lt_or_ge i d with q | q
              · rw [List.getElem?_append_left (by omega), List.getElem?_append_left (by omega)]
              · rw [List.getElem?_append_right (by omega), List.getElem?_append_right (by omega)]
                obtain ⟨e, he⟩ : ∃ e, i - s'.length = e + 2 := ⟨i - s'.length - 2, by omega⟩
                rw [he]
                rfl
            obtain ⟨q1, q2⟩ := g2.2.2 i u hu2
            exact ⟨fun k hk => by rw [k3 _ (by omega) (by omega)]; exact q1 k hk, q2⟩
      · refine List.Perm.trans ?_ p2
        have := swap_perm s' (t ++ w) x y
        simpa using this
      · simpa using s2
      · intro u hu
        rcases List.mem_cons.mp hu with rfl | hu
        · exact fun h => Lc_ir h hz
        · exact hxt u hu
theorem spec_X10_lays {R : Type} [Lean.Grind.CommRing R] {p : Nat} {co : R → Nat → Int} {mk : (Nat → Int) → R} (H : PD p co mk) {σ : SG} {r : Int} {n : Nat} {x : R} {Q : SG → Prop} (hx : Rr co σ r x) (hn : n < 6) (hQ : ∀ σ' : SG, (∀ e, e ≠ 305 → σ' e = σ e) → Bw co σ' n x → (∀ m : Nat, ¬ (45 + 7 * n ≤ m ∧ m < 45 + 7 * n + 7) → σ' 305 m = σ 305 m) → Q σ') : wp_X10_lays σ r n Q := by
  unfold wp_X10_lays
  refine Lp1_up 7 (fun c σ' => (∀ e, e ≠ 305 → σ' e = σ e) ∧ (∀ k : Nat, k < c → σ' 305 (45 + 7 * n + k) = co x k) ∧ (∀ m : Nat, ¬ (45 + 7 * n ≤ m ∧ m < 45 + 7 * n + c) → σ' 305 m = σ 305 m)) ⟨fun _ _ => rfl, fun k hk => by omega, fun _ _ => rfl⟩ ?_ ?_
  · rintro c σ1 rc hc ⟨h1, h2, h3⟩ hr
    have hx1 : Rr co σ1 r x := ⟨hx.1, fun k hk => by rw [h1 308 (by decide)]; exact hx.2.1 k hk, hx.2.2⟩
    refine ⟨fun h => by omega, fun _ => ⟨by omega, by omega, by omega, spec_X10_of H hx1 (by omega) ⟨by omega, ?_⟩⟩⟩
    rintro σ2 e2
    rw [show (45 + 7 * (n : Int) + c).toNat = 45 + 7 * n + c by omega, Int.toNat_natCast] at e2
    refine ⟨by omega, hr _ ⟨fun e he => by rw [e2, ug_ne _ he]; exact h1 e he, fun k hk => ?_, fun m hm => ?_⟩⟩
    · by_cases q : k = c
      · rw [q, e2, ug_eq]
      · rw [e2, ug_k _ _ (by omega)]; exact h2 k (by omega)
    · rw [e2, ug_k _ _ (by omega)]; exact h3 m (by omega)
  · rintro σ1 rc ⟨h1, h2, h3⟩
    exact ⟨fun _ => hQ σ1 h1 h2 h3, fun h => absurd (Int.le_refl _) h⟩
theorem Bl_set {R : Type} {co : R → Nat → Int} {σ σ' : SG} {L : List R} {n : Nat} {x : R} (h : Bl co σ L) (hx : dd co x ≤ 7) (k2 : Bw co σ' n x) (k3 : ∀ m : Nat, ¬ (45 + 7 * n ≤ m ∧ m < 45 + 7 * n + 7) → σ' 305 m = σ 305 m) : Bl co σ' (L.set n x) := by
  refine ⟨by rw [k3 44 (by omega), h.1, List.length_set], by rw [List.length_set]; exact h.2.1, fun i u hu => ?_⟩
  by_cases q : i = n
  · have hl := (List.getElem?_eq_some_iff.mp hu).1
    rw [List.length_set] at hl
    rw [q, List.getElem?_set_self (by omega)] at hu
    cases hu
    rw [q]
    exact ⟨k2, hx⟩
  · rw [List.getElem?_set_ne (fun e => q e.symm)] at hu
    obtain ⟨q1, q2⟩ := h.2.2 i u hu
    exact ⟨fun k hk => by rw [k3 _ (by omega)]; exact q1 k hk, q2⟩
theorem spec_X10_laysIn {R : Type} [Lean.Grind.CommRing R] {p : Nat} {co : R → Nat → Int} {mk : (Nat → Int) → R} (H : PD p co mk) {σ : SG} {r : Int} {n : Nat} {x : R} {L : List R} {Q : SG → Prop} (hL : Bl co σ L) (hx : Rr co σ r x) (dx : dd co x ≤ 7) (hn : n < L.length) (hQ : ∀ σ' : SG, FN σ σ' [] → Bl co σ' (L.set n x) → Q σ') : wp_X10_lays σ r n Q :=
  spec_X10_lays H hx (by have := hL.2.1; omega) (fun σ' k1 k2 k3 => hQ σ' (FN.sw k1 (fun m hm => k3 m (by omega)) _) (Bl_set hL dx k2 k3))
theorem spec_X10_comes {R : Type} [Lean.Grind.CommRing R] {p : Nat} {co : R → Nat → Int} {mk : (Nat → Int) → R} (H : PD p co mk) {σ : SG} {r : Int} {x : R} {L : List R} {Q : SG → Prop} (hL : Bl co σ L) (hx : Rr co σ r x) (dx : dd co x ≤ 7) (hl : L.length < 6) (hQ : ∀ σ' : SG, FN σ σ' [] → Bl co σ' (L ++ [x]) → Q σ') : wp_X10_comes σ r Q := by
  unfold wp_X10_comes
  rw [hL.1]
  refine spec_X10_lays H hx hl (fun σ1 k1 k2 k3 => ?_)
  rw [k3 44 (by omega), hL.1]
  refine ⟨by omega, ?_⟩
  rintro σ2 e2
  have u : ∀ m, m ≠ 44 → σ2 305 m = σ1 305 m := fun m hm => by rw [e2, ug_k _ _ hm]
  refine hQ σ2 ⟨fun i a _ _ => by rw [e2, ug_ne _ a]; exact k1 i a, fun j hj => by rw [u j (by omega)]; exact k3 j (by omega), fun j _ => by rw [e2, ug_ne _ (by decide), k1 308 (by decide)]⟩ ⟨by rw [e2, ug_eq]; simp, by simp; omega, fun i w hw => ?_⟩
  rcases Nat.lt_or_ge i L.length with q | q
  · rw [List.getElem?_append_left q] at hw
    obtain ⟨q1, q2⟩ := hL.2.2 i w hw
    exact ⟨fun k hk => by rw [u _ (by omega), k3 _ (by omega)]; exact q1 k hk, q2⟩
  · have hi : i = L.length := by
      have := (List.getElem?_eq_some_iff.mp hw).1
      simp at this
      omega
    subst hi
    rw [List.getElem?_append_right (Nat.le_refl _), Nat.sub_self] at hw
    cases hw
    exact ⟨fun k hk => by rw [u _ (by omega)]; exact k2 k hk, dx⟩
theorem spec_X10_goes {R : Type} [Lean.Grind.CommRing R] {p : Nat} {co : R → Nat → Int} {mk : (Nat → Int) → R} (H : PD p co mk) {σ : SG} {n c : Nat} {w : R} {L : List R} {Q : SG → Prop} (hL : Bl co σ L) (hc : L.length = c + 1) (hw : L[c]? = some w) (hn : n < L.length) (hQ : ∀ σ' : SG, FN σ σ' [] → Bl co σ' ((L.set n w).take c) → Q σ') : wp_X10_goes σ n Q := by
  unfold wp_X10_goes
  have b2 := hL.2.1
  rw [hL.1, hc, show ((c + 1 : Nat) : Int) - 1 = (c : Nat) by omega]
  refine ⟨by omega, ?_⟩
  rintro σ1 e1
  have e44 : σ1 305 44 = (c : Nat) := by rw [e1, ug_eq]
  have u : ∀ m, m ≠ 44 → σ1 305 m = σ 305 m := fun m hm => by rw [e1, ug_k _ _ hm]
  rw [e44]
  refine spec_X10_swaps (by omega) (by omega) (fun σ2 k1 k2 k3 => hQ σ2 ⟨fun i a _ _ => by rw [k1 i a, e1, ug_ne _ a], fun j hj => by rw [k3 j (by omega) (by omega)]; exact u j (by omega), fun j _ => by rw [k1 308 (by decide), e1, ug_ne _ (by decide)]⟩ ⟨by rw [k3 44 (by omega) (by omega), e44, List.length_take, List.length_set]; omega, by rw [List.length_take, List.length_set]; omega, fun i v hv => ?_⟩)
  have hi : i < c := by
    have := (List.getElem?_eq_some_iff.mp hv).1
    rw [List.length_take] at this
    omega
  rw [List.getElem?_take, if_pos hi] at hv
  by_cases q : i = n
  · rw [q, List.getElem?_set_self hn] at hv
    cases hv
    obtain ⟨q1, q2⟩ := hL.2.2 c w hw
    exact ⟨fun k hk => by rw [q, (k2 k hk).1, u _ (by omega)]; exact q1 k hk, q2⟩
  · rw [List.getElem?_set_ne (fun e => q e.symm)] at hv
    obtain ⟨q1, q2⟩ := hL.2.2 i v hv
    exact ⟨fun k hk => by rw [k3 _ (by omega) (by omega), u _ (by omega)]; exact q1 k hk, q2⟩
theorem spec_X10_loadsBranch {R : Type} [Lean.Grind.CommRing R] {p : Nat} {co : R → Nat → Int} {mk : (Nat → Int) → R} (H : PD p co mk) {σ : SG} {n : Nat} {r : Int} {x : R} {L : List R} {Q : SG → Prop} (hL : Bl co σ L) (hx : L[n]? = some x) (hr : 0 ≤ r ∧ r < 60) (hQ : ∀ σ', FT σ σ' [r] → Rr co σ' r x → Q σ') : wp_X10_loadsBranch σ n r Q := by
  unfold wp_X10_loadsBranch
  obtain ⟨q1, q2⟩ := hL.2.2 n x hx
  have hl := (List.getElem?_eq_some_iff.mp hx).1
  have b2 := hL.2.1
  refine ⟨by omega, by omega, spec_X10_loads H hr (by omega) (by omega) (by omega) (fun k hk => ?_) (by omega) hQ⟩
  rw [show (45 + 7 * (n : Int) + k).toNat = 45 + 7 * n + k by omega]
  exact q1 k (by omega)
