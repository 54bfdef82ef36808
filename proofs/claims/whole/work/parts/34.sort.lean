/-! the order of branches is total; sorted rows of the same branches are the same -/
def Lc {R : Type} (co : R → Nat → Int) (a b : R) : Prop := ∃ k, co a k < co b k ∧ ∀ j, k < j → co a j = co b j
theorem Lt_iff {R : Type} [Lean.Grind.CommRing R] {p : Nat} {co : R → Nat → Int} {mk : (Nat → Int) → R} (H : PD p co mk) {a b : R} : Lt co a b ↔ Lc co a b := by
  constructor
  · rintro (h | ⟨-, h⟩)
    · refine ⟨dd co b - 1, ?_, fun j hj => by rw [dd_out H a (by omega), dd_out H b (by omega)]⟩
      rw [dd_out H a (by omega)]
      have h1 := dd_top H (a := b) (by omega)
      have h2 := pd_rng H b (dd co b - 1)
      omega
    · exact h
  · rintro ⟨k, h1, h2⟩
    have h3 := pd_rng H a k
    have h4 : k < dd co b := dd_ge H (by omega)
    rcases Nat.lt_trichotomy (dd co a) (dd co b) with q | q | q
    · exact Or.inl q
    · exact Or.inr ⟨q, k, h1, h2⟩
    · have h5 := dd_top H (a := a) (by omega)
      rw [h2 (dd co a - 1) (by omega), dd_out H b (by omega)] at h5
      exact absurd rfl h5
theorem Lc_tr {R : Type} {co : R → Nat → Int} {a b c : R} (h : Lc co a b) (g : Lc co b c) : Lc co a c := by
  obtain ⟨k, h1, h2⟩ := h
  obtain ⟨l, g1, g2⟩ := g
  rcases Nat.lt_trichotomy k l with q | q | q
  · exact ⟨l, by rw [h2 l q]; exact g1, fun j hj => (h2 j (by omega)).trans (g2 j hj)⟩
  · subst q
    exact ⟨k, by omega, fun j hj => (h2 j hj).trans (g2 j hj)⟩
  · exact ⟨k, by rw [← g2 k q]; exact h1, fun j hj => (h2 j hj).trans (g2 j (by omega))⟩
theorem Lc_ir {R : Type} {co : R → Nat → Int} {a b : R} (h : Lc co a b) (g : Lc co b a) : False := by
  obtain ⟨k, h1, h2⟩ := h
  obtain ⟨l, g1, g2⟩ := g
  rcases Nat.lt_trichotomy k l with q | q | q
  · have := h2 l q; omega
  · subst q; omega
  · have := g2 k q; omega
theorem Lc_eq {R : Type} [Lean.Grind.CommRing R] {p : Nat} {co : R → Nat → Int} {mk : (Nat → Int) → R} (H : PD p co mk) {a b : R} (h : ¬ Lc co a b) (g : ¬ Lc co b a) : a = b := by
  have key : ∀ n, ∀ j, dd co a + dd co b ≤ j + n → co a j = co b j := by
    intro n
    induction n with
    | zero => intro j hj; rw [dd_out H a (by omega), dd_out H b (by omega)]
    | succ n ih =>
      intro j hj
      have h1 : ∀ i, j < i → co a i = co b i := fun i hi => ih i (by omega)
      rcases Int.lt_trichotomy (co a j) (co b j) with q | q | q
      · exact absurd ⟨j, q, h1⟩ h
      · exact q
      · exact absurd ⟨j, q, fun i hi => (h1 i hi).symm⟩ g
  exact pd_ext H (fun j => key (dd co a + dd co b) j (by omega))
def Le {R : Type} (co : R → Nat → Int) (a b : R) : Prop := ¬ Lc co b a
theorem Le_tr {R : Type} [Lean.Grind.CommRing R] {p : Nat} {co : R → Nat → Int} {mk : (Nat → Int) → R} (H : PD p co mk) {a b c : R} (h : Le co a b) (g : Le co b c) : Le co a c := by
  intro k
  by_cases q : Lc co a b
  · exact g (Lc_tr k q)
  · rw [Lc_eq H q h] at k
    exact g k
def Srt {R : Type} (co : R → Nat → Int) (L : List R) : Prop := L.Pairwise (Le co)
theorem Srt_uniq {R : Type} [Lean.Grind.CommRing R] {p : Nat} {co : R → Nat → Int} {mk : (Nat → Int) → R} (H : PD p co mk) : ∀ {L M : List R}, L.Perm M → Srt co L → Srt co M → L = M := by
  intro L
  induction L with
  | nil => intro M h _ _; exact (List.Perm.nil_eq h)
  | cons a l ih =>
    intro M h hL hM
    cases M with
    | nil => exact absurd h.length_eq (by simp)
    | cons b m =>
      obtain ⟨l1, l2⟩ := List.pairwise_cons.mp hL
      obtain ⟨m1, m2⟩ := List.pairwise_cons.mp hM
      have e : a = b := by
        have ha : a ∈ b :: m := h.mem_iff.mp List.mem_cons_self
        have hb : b ∈ a :: l := h.mem_iff.mpr List.mem_cons_self
        rcases List.mem_cons.mp ha with q | q
        · exact q
        · rcases List.mem_cons.mp hb with q2 | q2
          · exact q2.symm
          · exact Lc_eq H (m1 a q) (l1 b q2)
      subst e
      rw [ih (List.Perm.cons_inv h) l2 m2]
theorem Srt_cons_mid {R : Type} {co : R → Nat → Int} {s t : List R} {x y : R} (h : Srt co (s ++ y :: t)) : Srt co (s ++ t) := by
  refine List.Pairwise.sublist ?_ h
  exact List.Sublist.append_left (List.sublist_cons_self y t) s
/-- two neighbours change their places -/
theorem swap_perm {α : Type} (s t : List α) (x y : α) : (s ++ x :: y :: t).Perm (s ++ y :: x :: t) := List.Perm.append_left s (List.Perm.swap y x t)
theorem getElem?_mid {α : Type} (s t : List α) (x : α) : (s ++ x :: t)[s.length]? = some x := by simp
theorem split_at {α : Type} {L : List α} {k : Nat} (h : k < L.length) : ∃ s x t, L = s ++ x :: t ∧ s.length = k := ⟨L.take k, L[k], L.drop (k + 1), by rw [List.getElem_cons_drop, List.take_append_drop], by simp; omega⟩
theorem split_at2 {α : Type} {L : List α} {k : Nat} (h : k + 1 < L.length) : ∃ s x y t, L = s ++ x :: y :: t ∧ s.length = k := by
  obtain ⟨s, x, t, rfl, hs⟩ := split_at (L := L) (k := k) (by omega)
  cases t with
  | nil => simp at h; omega
  | cons y t => exact ⟨s, x, y, t, rfl, hs⟩
/-! a state object's branches -/
def Pt (σ : SG) (o : Nat) : Prop := (∀ i, i < 6 → 0 ≤ σ (o + 16) i ∧ BO o (σ (o + 16) i).toNat) ∧ ∀ i j, i < 6 → j < 6 → σ (o + 16) i = σ (o + 16) j → i = j
def Bc {R : Type} (co : R → Nat → Int) (σ : SG) (o : Nat) (L : List R) : Prop := σ o 4 = L.length ∧ L.length ≤ 6 ∧ ∀ i x, L[i]? = some x → Rp co σ (σ (o + 16) i).toNat x
theorem isSt_in {o : Nat} (h : KT.getD o 99 = 7) : o = 1 ∨ o = 155 ∨ o = 186 ∨ o = 215 ∨ o = 244 ∨ o = 273 :=
  KT_all (P := fun o => KT.getD o 99 = 7 → o = 1 ∨ o = 155 ∨ o = 186 ∨ o = 215 ∨ o = 244 ∨ o = 273) (by decide +kernel) (KT_lt h (by decide)) h
theorem st_16 {o t : Nat} (ho : KT.getD o 99 = 7) (ht : KT.getD t 99 = 4) : o + 16 ≠ t ∧ o + 16 ≠ t + 1 ∧ o ≠ t ∧ o ≠ t + 1 ∧ o + 3 ≠ t ∧ o + 3 ≠ t + 1 := by
  have h := (isS_all ho).1
  have h2 := (isP_arr ht)
  refine ⟨fun e => ?_, fun e => ?_, fun e => ?_, fun e => ?_, fun e => ?_, fun e => ?_⟩
  · have := h.2.2.2.1; rw [e, ht] at this; exact absurd this (by decide)
  · have := h.2.2.2.1; rw [e, h2.1] at this; exact absurd this (by decide)
  · rw [e, ht] at ho; exact absurd ho (by decide)
  · rw [e, h2.1] at ho; exact absurd ho (by decide)
  · have := h.2.1; rw [e, ht] at this; exact absurd this (by decide)
  · have := h.2.1; rw [e, h2.1] at this; exact absurd this (by decide)
theorem BO_P {o t : Nat} (ho : KT.getD o 99 = 7) (h : BO o t) : KT.getD t 99 = 4 := by
  obtain ⟨k, hk, rfl⟩ := h
  exact (isS_all ho).2.2.2 k hk
theorem spec_X7_sortBranches {R : Type} [Lean.Grind.CommRing R] {p : Nat} {co : R → Nat → Int} {mk : (Nat → Int) → R} (H : PD p co mk) {σ : SG} {o : Nat} {L : List R} {Q : SG → Prop} (ho : KT.getD o 99 = 7) (hp : Pt σ o) (hL : Bc co σ o L) (hQ : ∀ σ' L', (∀ i, i ≠ o + 16 → σ' i = σ i) → Pt σ' o → Bc co σ' o L' → L'.Perm L → Srt co L' → Q σ') : wp_X7_sortBranches σ o Q := by
  unfold wp_X7_sortBranches
  have h6 := hL.2.1
  have hc := hL.1
  refine ⟨by omega, ?_⟩
  rintro v rfl
  rw [hc]
  refine Lp1_m (fun x σ' => ∃ L' : List R, (∀ i, i ≠ o + 16 → σ' i = σ i) ∧ Pt σ' o ∧ Bc co σ' o L' ∧ L'.Perm L ∧ x < L.length ∧ Srt co (L'.drop (x + 1).toNat) ∧ ∀ y z, y ∈ L'.take (x + 1).toNat → z ∈ L'.drop (x + 1).toNat → Le co y z) (fun x _ => x.toNat) ⟨L, fun _ _ => rfl, hp, hL, List.Perm.refl _, by omega, ?_, ?_⟩ ?_
  · rw [show ((L.length : Int) - 1 + 1).toNat = L.length by omega, List.drop_length]; exact List.Pairwise.nil
  · rw [show ((L.length : Int) - 1 + 1).toNat = L.length by omega, List.drop_length]; intro y z _ hz; cases hz
  rintro x σ1 rc ⟨L1, g1, g2, g3, g4, g5, g6, g7⟩ hr
  have hlen := g4.length_eq
  refine ⟨fun h => hQ σ1 L1 g1 g2 g3 g4 ?_, fun h => ?_⟩
  · rcases Int.lt_or_le x 0 with q | q
    · rw [show (x + 1).toNat = 0 by omega, List.drop_zero] at g6; exact g6
    · have hx : x = 0 := by omega
      subst hx
      rw [show ((0 : Int) + 1).toNat = 1 by omega] at g6 g7
      cases L1 with
      | nil => exact List.Pairwise.nil
      | cons a l =>
        refine List.pairwise_cons.mpr ⟨fun b hb => g7 a b (by simp) (by simpa using hb), (show Srt co l by simpa using g6)⟩
  · obtain ⟨m, rfl⟩ := Int.eq_ofNat_of_zero_le (show 0 ≤ x by omega)
    rw [show ((m : Int) + 1).toNat = m + 1 by omega] at g6 g7
    refine Lp1_m (fun y σ' => ∃ (k : Nat) (L' : List R), y = k ∧ k ≤ m ∧ (∀ i, i ≠ o + 16 → σ' i = σ i) ∧ Pt σ' o ∧ Bc co σ' o L' ∧ L'.Perm L ∧ Srt co (L'.drop (m + 1)) ∧ (∀ y z, y ∈ L'.take (m + 1) → z ∈ L'.drop (m + 1) → Le co y z) ∧ ∀ y z, y ∈ L'.take k → L'[k]? = some z → Le co y z) (fun y _ => (m - y).toNat) ⟨0, L1, rfl, by omega, g1, g2, g3, g4, g6, g7, fun y z hy => by simp at hy⟩ ?_
    rintro y σ2 rc2 ⟨k, L2, rfl, k0, k1, k2, k3, k4, k5, k6, k7⟩ hr2
    have hlen2 := k4.length_eq
    refine ⟨fun h9 => ⟨by omega, ?_⟩, fun h9 => ?_⟩
    · have hk : k = m := by omega
      subst hk
      refine hr _ _ ⟨L2, k1, k2, k3, k4, by omega, ?_, ?_⟩ (by omega)
      · rw [show ((k : Int) + (-1) + 1).toNat = k by omega]
        have hlt : k < L2.length := by omega
        rw [List.drop_eq_getElem_cons hlt]
        have hm : L2[k] ∈ L2.take (k + 1) := by
          rw [List.take_succ_eq_append_getElem hlt]
          exact List.mem_append_right _ (List.mem_singleton.mpr rfl)
        exact List.pairwise_cons.mpr ⟨fun b hb => k6 _ b hm hb, k5⟩
      · rw [show ((k : Int) + (-1) + 1).toNat = k by omega]
        have hlt : k < L2.length := by omega
        intro y z hy hz
        rw [List.drop_eq_getElem_cons hlt] at hz
        rcases List.mem_cons.mp hz with rfl | hz
        · exact k7 y _ hy (List.getElem?_eq_getElem hlt)
        · refine k6 y z ?_ hz
          rw [List.take_succ_eq_append_getElem hlt]
          exact List.mem_append_left _ hy
    · obtain ⟨s, a, b, t, rfl, hs⟩ := split_at2 (L := L2) (k := k) (by omega)
      have hab : (s ++ a :: b :: t)[k]? = some a := by rw [← hs]; simp
      have hab2 : (s ++ a :: b :: t)[k + 1]? = some b := by rw [← hs]; simp
      have ra := k3.2.2 k a hab
      have rb := k3.2.2 (k + 1) b hab2
      have pk := k2.1 k (by omega)
      have pk1 := k2.1 (k + 1) (by omega)
      rw [show ((k : Int) + 1).toNat = k + 1 by omega, Int.toNat_natCast]
      refine ⟨by omega, pk.2, by omega, by omega, pk1.2, spec_X4_comesBefore H rb ra (fun z hz => ?_)⟩
      have htk : s ++ a :: b :: t = s ++ [a] ++ b :: t := by simp
      have hmk : m + 1 = k + 2 + (m + 1 - (k + 2)) := by omega
      rcases hz with ⟨rfl, hz⟩ | ⟨rfl, hz⟩
      · refine ⟨fun _ => ⟨by omega, hr2 _ _ ⟨k + 1, _, by omega, by omega, k1, k2, k3, k4, k5, k6, fun y w hy hw => ?_⟩ (by omega)⟩, fun h => absurd rfl h⟩
        rw [hab2] at hw
        cases hw
        have hy2 : y ∈ s ++ [a] := by
          rw [htk, List.take_append_of_le_length (by simp; omega)] at hy
          exact List.mem_of_mem_take hy
        have hLab : Le co a b := fun e => hz ((Lt_iff H).mpr e)
        rcases List.mem_append.mp hy2 with h10 | h10
        · refine Le_tr H (k7 y a ?_ hab) hLab
          rw [List.take_append_of_le_length (by omega), List.take_of_length_le (by omega)]
          exact h10
        · rw [List.mem_singleton.mp h10]
          exact hLab
      · refine ⟨fun h => absurd h (by decide), fun _ => ⟨by omega, ?_⟩⟩
        rintro _ rfl
        refine ⟨by omega, by omega, ?_⟩
        rintro _ rfl
        have e1 : (((σ2 (o + 16) (k + 1)).toNat : Nat) : Int) = σ2 (o + 16) (k + 1) := by omega
        have e2 : (((σ2 (o + 16) k).toNat : Nat) : Int) = σ2 (o + 16) k := by omega
        rw [e1, e2]
        obtain ⟨σ3, h3⟩ : ∃ σ3, σ3 = ug (ug σ2 (o + 16) k (σ2 (o + 16) (k + 1))) (o + 16) (k + 1) (σ2 (o + 16) k) := ⟨_, rfl⟩
        rw [← h3]
        have v0 : ∀ i, i ≠ o + 16 → σ3 i = σ2 i := fun i hi => by rw [h3, ug_ne _ hi, ug_ne _ hi]
        have v1 : σ3 (o + 16) k = σ2 (o + 16) (k + 1) := by rw [h3, ug_k _ _ (by omega), ug_eq]
        have v2 : σ3 (o + 16) (k + 1) = σ2 (o + 16) k := by rw [h3, ug_eq]
        have v3 : ∀ i, i ≠ k → i ≠ k + 1 → σ3 (o + 16) i = σ2 (o + 16) i := fun i hi hi2 => by rw [h3, ug_k _ _ hi2, ug_k _ _ hi]
        have hRp : ∀ q x, Rp co σ2 q x → Rp co σ3 q x := fun q x hx => Rp_cg hx (v0 q (fun e => (st_16 ho hx.1).1 e.symm)) (v0 (q + 1) (fun e => (st_16 ho hx.1).2.1 e.symm))
        have hsw := swap_perm s t a b
        refine ⟨by omega, hr2 _ _ ⟨k + 1, s ++ b :: a :: t, by omega, by omega, fun i hi => (v0 i hi).trans (k1 i hi), ⟨fun i hi => ?_, fun i j hi hj e => ?_⟩, ⟨by rw [v0 o (by omega)]; simpa using k3.1, by simpa using k3.2.1, fun i x hx => ?_⟩, hsw.symm.trans k4, ?_, ?_, fun y w hy hw => ?_⟩ (by omega)⟩
        · by_cases z1 : i = k
          · rw [z1, v1]; exact pk1
          · by_cases z2 : i = k + 1
            · rw [z2, v2]; exact pk
            · rw [v3 i z1 z2]; exact k2.1 i hi
        · have hτ : ∀ i, i < 6 → ∃ i', i' < 6 ∧ σ3 (o + 16) i = σ2 (o + 16) i' ∧ (i = k ∧ i' = k + 1 ∨ i = k + 1 ∧ i' = k ∨ i ≠ k ∧ i ≠ k + 1 ∧ i' = i) := by
            intro i hi
            by_cases z1 : i = k
            · exact ⟨k + 1, by omega, by rw [z1]; exact v1, by omega⟩
            · by_cases z2 : i = k + 1
              · exact ⟨k, by omega, by rw [z2]; exact v2, by omega⟩
              · exact ⟨i, hi, v3 i z1 z2, by omega⟩
          obtain ⟨i', i1, i2, i3⟩ := hτ i hi
          obtain ⟨j', j1, j2, j3⟩ := hτ j hj
          rw [i2, j2] at e
          have := k2.2 i' j' i1 j1 e
          omega
        · by_cases z1 : i = k
          · rw [z1, ← hs] at hx
            simp at hx
            rw [z1, v1, ← hx]
            exact hRp _ _ rb
          · by_cases z2 : i = k + 1
            · rw [z2, ← hs] at hx
              simp at hx
              rw [z2, v2, ← hx]
              exact hRp _ _ ra
            · rw [v3 i z1 z2]
              refine hRp _ _ (k3.2.2 i x ?_)
              rw [← hx]
              rcases Nat.lt_or_ge i k with q | q
              · rw [List.getElem?_append_left (by omega), List.getElem?_append_left (by omega)]
              · rw [List.getElem?_append_right (by omega), List.getElem?_append_right (by omega)]
                obtain ⟨d, hd⟩ : ∃ d, i - s.length = d + 2 := ⟨i - s.length - 2, by omega⟩
                rw [hd]
                rfl
        · rw [List.drop_append, List.drop_of_length_le (by omega), hmk] at k5 ⊢
          obtain ⟨d, hd⟩ : ∃ d, k + 2 + (m + 1 - (k + 2)) - s.length = d + 2 := ⟨m + 1 - (k + 2), by omega⟩
          rw [hd] at k5 ⊢
          simpa using k5
        · intro y w hy hw
          have e3 : (s ++ b :: a :: t).drop (m + 1) = (s ++ a :: b :: t).drop (m + 1) := by
            rw [List.drop_append, List.drop_append]
            obtain ⟨d, hd⟩ : ∃ d, m + 1 - s.length = d + 2 := ⟨m + 1 - s.length - 2, by omega⟩
            rw [hd]
            rfl
          rw [e3] at hw
          refine k6 y w ?_ hw
          rw [List.take_append] at hy ⊢
          obtain ⟨d, hd⟩ : ∃ d, m + 1 - s.length = d + 2 := ⟨m + 1 - s.length - 2, by omega⟩
          rw [hd] at hy ⊢
          simp only [List.take_succ_cons, List.mem_append, List.mem_cons] at hy ⊢
          rcases hy with h | h | h | h
          · exact Or.inl h
          · exact Or.inr (Or.inr (Or.inl h))
          · exact Or.inr (Or.inl h)
          · exact Or.inr (Or.inr (Or.inr h))
        · have hw2 : (s ++ b :: a :: t)[k + 1]? = some a := by rw [← hs]; simp
          rw [hw2] at hw
          cases hw
          have hLba : Le co b a := fun e => Lc_ir e ((Lt_iff H).mp hz)
          have hy2 : y ∈ s ++ [b] := by
            rw [show s ++ b :: a :: t = s ++ [b] ++ a :: t by simp, List.take_append_of_le_length (by simp; omega)] at hy
            exact List.mem_of_mem_take hy
          rcases List.mem_append.mp hy2 with h10 | h10
          · refine k7 y a ?_ hab
            rw [List.take_append_of_le_length (by omega), List.take_of_length_le (by omega)]
            exact h10
          · rw [List.mem_singleton.mp h10]
            exact hLba
