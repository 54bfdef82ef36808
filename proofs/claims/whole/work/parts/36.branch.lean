/-! a state object with its branches -/
def brs (o : Nat) : List Nat := [o + 17, o + 19, o + 21, o + 23, o + 25, o + 27]
theorem brs_mem {o t : Nat} : t ∈ brs o ↔ BO o t := by
  constructor
  · intro h
    simp only [brs, List.mem_cons, List.not_mem_nil, or_false] at h
    refine ⟨(t - o - 17) / 2, by omega, by omega⟩
  · rintro ⟨k, hk, rfl⟩
    simp only [brs, List.mem_cons, List.not_mem_nil, or_false]
    omega
theorem brs_P {o : Nat} (ho : KT.getD o 99 = 7) : ∀ t ∈ brs o, KT.getD t 99 = 4 := fun _ ht => BO_P ho (brs_mem.mp ht)
theorem app_P {L M : List Nat} (h : ∀ t ∈ L, KT.getD t 99 = 4) (k : ∀ t ∈ M, KT.getD t 99 = 4) : ∀ t ∈ L ++ M, KT.getD t 99 = 4 := fun t ht => by
  rcases List.mem_append.mp ht with e | e
  · exact h t e
  · exact k t e
theorem nin_app {q : Nat} {L M : List Nat} (h : q ∉ L) (k : q ∉ M) : q ∉ L ++ M := fun e => by
  rcases List.mem_append.mp e with e | e
  · exact h e
  · exact k e
theorem st_kt {o : Nat} (ho : KT.getD o 99 = 7) : (KT.getD o 99 ≠ 4 ∧ KT.getD (o - 1) 99 ≠ 4) ∧ KT.getD (o + 16) 99 ≠ 4 ∧ KT.getD (o + 16 - 1) 99 ≠ 4 :=
  KT_all (P := fun o => KT.getD o 99 = 7 → (KT.getD o 99 ≠ 4 ∧ KT.getD (o - 1) 99 ≠ 4) ∧ KT.getD (o + 16) 99 ≠ 4 ∧ KT.getD (o + 16 - 1) 99 ≠ 4) (by decide +kernel) (KT_lt ho (by decide)) ho
def Sb {R : Type} (co : R → Nat → Int) (σ : SG) (o : Nat) (L : List R) : Prop := KT.getD o 99 = 7 ∧ Pt σ o ∧ Bc co σ o L
/-- only the branches of o, and the polynomials T, may differ -/
def FrB (σ σ' : SG) (o : Nat) (T : List Nat) : Prop := (∀ i, i ≠ o → i ≠ o + 16 → (∀ t ∈ brs o ++ T, i ≠ t ∧ i ≠ t + 1) → σ' i = σ i) ∧ ∀ k, k ≠ 4 → σ' o k = σ o k
theorem FrB.rf (σ : SG) (o : Nat) (T : List Nat) : FrB σ σ o T := ⟨fun _ _ _ _ => rfl, fun _ _ => rfl⟩
theorem FrB.tr {σ σ' σ'' : SG} {o : Nat} {T : List Nat} (h : FrB σ σ' o T) (k : FrB σ' σ'' o T) : FrB σ σ'' o T :=
  ⟨fun i a b c => (k.1 i a b c).trans (h.1 i a b c), fun i hi => (k.2 i hi).trans (h.2 i hi)⟩
theorem FrB.mono {σ σ' : SG} {o : Nat} {T T' : List Nat} (h : FrB σ σ' o T) (hT : ∀ t ∈ T, t ∈ T') : FrB σ σ' o T' :=
  ⟨fun i a b c => h.1 i a b (fun t ht => c t (by
    rcases List.mem_append.mp ht with e | e
    · exact List.mem_append_left _ e
    · exact List.mem_append_right _ (hT t e))), h.2⟩
theorem FrB.of {σ σ' : SG} {o : Nat} {T S : List Nat} (ho : KT.getD o 99 = 7) (hS : ∀ t ∈ S, KT.getD t 99 = 4) (h : FrL σ σ' S) (hT : ∀ t ∈ S, t ∈ brs o ++ T) : FrB σ σ' o T :=
  ⟨fun i _ _ c => h i (fun t ht => c t (hT t ht)), fun k _ => by rw [h.at hS (st_kt ho).1.1 (st_kt ho).1.2]⟩
theorem FrL.of1 {σ σ' : SG} {t : Nat} (h : Fr1 σ σ' t) : FrL σ σ' [t] := FrL.of h List.mem_cons_self
theorem Rp_frB {R : Type} {co : R → Nat → Int} {σ σ' : SG} {o q : Nat} {a : R} {T : List Nat} (ho : KT.getD o 99 = 7) (h : Rp co σ q a) (hT : ∀ t ∈ T, KT.getD t 99 = 4) (hq : q ∉ brs o ++ T) (hf : FrB σ σ' o T) : Rp co σ' q a := by
  have hs := st_16 ho h.1
  have hP := app_P (brs_P ho) hT
  refine Rp_cg h (hf.1 q (fun e => hs.2.2.1 e.symm) (fun e => hs.1 e.symm) (fun t ht => ⟨fun e => hq (e ▸ ht), (isP_ne h.1 (hP t ht)).1⟩)) (hf.1 (q + 1) (fun e => hs.2.2.2.1 e.symm) (fun e => hs.2.1 e.symm) (fun t ht => ⟨(isP_ne h.1 (hP t ht)).2, fun e => hq (by rw [show q = t by omega]; exact ht)⟩))
theorem FrB.p {σ σ' : SG} {o : Nat} {T : List Nat} (ho : KT.getD o 99 = 7) (hT : ∀ t ∈ T, KT.getD t 99 = 4) (hf : FrB σ σ' o T) : σ' 1 0 = σ 1 0 := by
  by_cases h : o = 1
  · subst h; exact hf.2 0 (by decide)
  · have hP := app_P (brs_P ho) hT
    rw [hf.1 1 (fun e => h e.symm) (by rcases isSt_in ho with e | e | e | e | e | e <;> omega) (fun t ht => kt_ne (by decide) (by decide) (hP t ht))]
theorem Sb_frL {R : Type} {co : R → Nat → Int} {σ σ' : SG} {o : Nat} {L : List R} {T : List Nat} (h : Sb co σ o L) (hT : ∀ t ∈ T, KT.getD t 99 = 4) (hd : ∀ t ∈ T, t ∉ brs o) (hf : FrL σ σ' T) : Sb co σ' o L := by
  obtain ⟨ho, ⟨p1, p2⟩, b1, b2, b3⟩ := h
  have k := st_kt ho
  have e1 := hf.at hT k.1.1 k.1.2
  have e2 := hf.at hT k.2.1 k.2.2
  refine ⟨ho, ⟨by rw [e2]; exact p1, by rw [e2]; exact p2⟩, by rw [e1]; exact b1, b2, fun i x hx => ?_⟩
  rw [e2]
  have hi : i < 6 := by have := (List.getElem?_eq_some_iff.mp hx).1; omega
  exact Rp_frL (b3 i x hx) hT (fun e => hd _ e (brs_mem.mpr (p1 i hi).2)) hf
theorem Sb_get {R : Type} {co : R → Nat → Int} {σ : SG} {o : Nat} {L : List R} (h : Sb co σ o L) {k : Nat} {x : R} (hk : L[k]? = some x) : k < L.length ∧ k < 6 ∧ BO o (σ (o + 16) k).toNat ∧ Rp co σ (σ (o + 16) k).toNat x := by
  have hi := (List.getElem?_eq_some_iff.mp hk).1
  have := h.2.2.2.1
  exact ⟨hi, by omega, (h.2.1.1 k (by omega)).2, h.2.2.2.2 k x hk⟩
theorem Sb_set {R : Type} {co : R → Nat → Int} {σ σ' : SG} {o : Nat} {L : List R} (h : Sb co σ o L) {k : Nat} (hk : k < L.length) {y : R} (hf : Fr1 σ σ' (σ (o + 16) k).toNat) (hy : Rp co σ' (σ (o + 16) k).toNat y) : Sb co σ' o (L.set k y) := by
  obtain ⟨ho, ⟨p1, p2⟩, b1, b2, b3⟩ := h
  have kk := st_16 ho hy.1
  have e1 : σ' o = σ o := hf o kk.2.2.1 kk.2.2.2.1
  have e2 : σ' (o + 16) = σ (o + 16) := hf _ kk.1 kk.2.1
  refine ⟨ho, ⟨by rw [e2]; exact p1, by rw [e2]; exact p2⟩, by rw [e1, List.length_set]; exact b1, by rw [List.length_set]; exact b2, fun i x hx => ?_⟩
  rw [e2]
  by_cases q : i = k
  · subst q
    rw [List.getElem?_set_self hk] at hx
    cases hx
    exact hy
  · rw [List.getElem?_set_ne (fun e => q e.symm)] at hx
    have hi : i < 6 := by have := (List.getElem?_eq_some_iff.mp hx).1; omega
    refine Rp_fr1 (b3 i x hx) hy.1 (fun e => q (p2 i k hi (by omega) ?_)) hf
    have h1 := (p1 i hi).1
    have h2 := (p1 k (by omega)).1
    omega
theorem Sb_cut {R : Type} {co : R → Nat → Int} {σ σ' : SG} {o : Nat} {L : List R} (h : Sb co σ o L) {n : Nat} (hn : n ≤ L.length) (e : σ' = ug σ o 4 n) : Sb co σ' o (L.take n) := by
  obtain ⟨ho, ⟨p1, p2⟩, b1, b2, b3⟩ := h
  have e2 : σ' (o + 16) = σ (o + 16) := by rw [e, ug_ne _ (by omega)]
  refine ⟨ho, ⟨by rw [e2]; exact p1, by rw [e2]; exact p2⟩, by rw [e, ug_eq, List.length_take]; omega, by rw [List.length_take]; omega, fun i x hx => ?_⟩
  rw [e2]
  have hx2 : L[i]? = some x := by
    rw [List.getElem?_take] at hx
    split at hx
    · exact hx
    · cases hx
  have r := b3 i x hx2
  have kk := st_16 ho r.1
  exact Rp_cg r (by rw [e, ug_ne _ (fun q => kk.2.2.1 q.symm)]) (by rw [e, ug_ne _ (fun q => kk.2.2.2.1 q.symm)])
theorem ug4_FrB {σ σ' : SG} {o : Nat} {z : Int} (e : σ' = ug σ o 4 z) (T : List Nat) : FrB σ σ' o T :=
  ⟨fun i h _ _ => by rw [e, ug_ne _ h], fun k hk => by rw [e, ug_k _ _ hk]⟩
theorem spec_X7_addBranch {R : Type} [Lean.Grind.CommRing R] {p : Nat} {co : R → Nat → Int} {mk : (Nat → Int) → R} (H : PD p co mk) {σ : SG} {o q : Nat} {L : List R} {x : R} {Q : SG → Prop} (hS : Sb co σ o L) (hx : Rp co σ q x) (hl : L.length < 6) (hQ : ∀ σ', FrB σ σ' o [] → Sb co σ' o (L ++ [x]) → Q σ') : wp_X7_addBranch σ o q Q := by
  unfold wp_X7_addBranch
  obtain ⟨ho, ⟨p1, p2⟩, b1, b2, b3⟩ := hS
  rw [b1]
  have hp := p1 L.length hl
  have ht := BO_P ho hp.2
  refine ⟨fun h => by omega, fun _ => ⟨by omega, ?_, ?_⟩⟩
  · rw [Int.toNat_natCast]; exact hp.2
  rw [Int.toNat_natCast]
  refine spec_X4_copy H ht hx (fun σ1 h1 h2 => ?_)
  have kk := st_16 ho ht
  have e1 : σ1 o = σ o := h1 o kk.2.2.1 kk.2.2.2.1
  have e2 : σ1 (o + 16) = σ (o + 16) := h1 _ kk.1 kk.2.1
  rw [e1, b1]
  refine ⟨by omega, ?_⟩
  rintro σ2 rfl
  have hRp : ∀ q x, Rp co σ1 q x → Rp co (ug σ1 o 4 ((L.length : Int) + 1)) q x := fun q x h => Rp_cg h (ug_ne _ (fun e => (st_16 ho h.1).2.2.1 e.symm) _ _) (ug_ne _ (fun e => (st_16 ho h.1).2.2.2.1 e.symm) _ _)
  refine hQ _ ((FrB.of ho (S := [(σ (o + 16) L.length).toNat]) (cons_P ht (fun t h => by cases h)) (FrL.of1 h1) (fun t h => ?_)).tr (ug4_FrB rfl [])) ⟨ho, ⟨?_, ?_⟩, ?_, ?_, ?_⟩
  · rw [List.mem_singleton.mp h]
    exact List.mem_append_left _ (brs_mem.mpr hp.2)
  · rw [ug_ne _ (by omega), e2]; exact p1
  · rw [ug_ne _ (by omega), e2]; exact p2
  · rw [ug_eq]; simp
  · simp; omega
  · intro i y hy
    rw [ug_ne _ (by omega), e2]
    rcases Nat.lt_or_ge i L.length with h | h
    · rw [List.getElem?_append_left h] at hy
      refine hRp _ _ (Rp_fr1 (b3 i y hy) ht (fun e => ?_) h1)
      have h5 := p2 i L.length (by omega) hl (by have := (p1 i (by omega)).1; have := hp.1; omega)
      omega
    · have hi : i = L.length := by
        have := (List.getElem?_eq_some_iff.mp hy).1
        simp at this
        omega
      subst hi
      rw [List.getElem?_append_right (Nat.le_refl _), Nat.sub_self] at hy
      cases hy
      exact hRp _ _ h2
theorem spec_X7_becomeOneBranch {R : Type} [Lean.Grind.CommRing R] {p : Nat} {co : R → Nat → Int} {mk : (Nat → Int) → R} (H : PD p co mk) {σ : SG} {o : Nat} {f : R} {Q : SG → Prop} (ho : KT.getD o 99 = 7) (hp : Pt σ o) (hf : Rp co σ (o + 1) f) (hQ : ∀ σ', FrB σ σ' o [] → Sb co σ' o [f] → Q σ') : wp_X7_becomeOneBranch σ o Q := by
  unfold wp_X7_becomeOneBranch
  rintro σ1 rfl
  have e : Sb co (ug σ o 4 0) o ([] : List R) := ⟨ho, ⟨by rw [ug_ne _ (by omega)]; exact hp.1, by rw [ug_ne _ (by omega)]; exact hp.2⟩, by rw [ug_eq]; rfl, by simp, fun i x hx => by simp at hx⟩
  refine spec_X7_addBranch H e (Rp_cg hf (ug_ne _ (by omega) _ _) (ug_ne _ (by omega) _ _)) (by simp) (fun σ2 h1 h2 => hQ σ2 ((ug4_FrB rfl []).tr h1) h2)
theorem spec_X7_greatestBranchDegree {R : Type} [Lean.Grind.CommRing R] {p : Nat} {co : R → Nat → Int} {mk : (Nat → Int) → R} (H : PD p co mk) {σ : SG} {o : Nat} {L : List R} {Q : Int → SG → Prop} (hS : Sb co σ o L) (hQ : ∀ z, (∀ x ∈ L, (dd co x : Int) - 1 ≤ z) → (z = 0 ∨ ∃ x ∈ L, z = (dd co x : Int) - 1) → 0 ≤ z → Q z σ) : wp_X7_greatestBranchDegree σ o Q := by
  unfold wp_X7_greatestBranchDegree
  have b1 := hS.2.2.1
  have b2 := hS.2.2.2.1
  refine Lp2_m (fun a z σ' => ∃ k : Nat, a = k ∧ k ≤ L.length ∧ σ' = σ ∧ (∀ x ∈ L.take k, (dd co x : Int) - 1 ≤ z) ∧ (z = 0 ∨ ∃ x ∈ L, z = (dd co x : Int) - 1) ∧ 0 ≤ z) (fun a _ _ => (6 - a).toNat) ⟨0, rfl, by omega, rfl, fun x hx => by simp at hx, Or.inl rfl, by omega⟩ ?_
  rintro a z σ1 r ⟨k, rfl, hk, rfl, h1, h2, h3⟩ hr
  rw [b1]
  refine ⟨fun h => ?_, fun h => ?_⟩
  · refine hQ z (fun x hx => h1 x ?_) h2 h3
    rw [List.take_of_length_le (by omega)]; exact hx
  · have hlt : k < L.length := by omega
    have hg : L[k]? = some L[k] := List.getElem?_eq_getElem hlt
    obtain ⟨g1, g2, g3, g4⟩ := Sb_get hS hg
    rw [Int.toNat_natCast]
    refine ⟨by omega, g3, ?_⟩
    rintro v rfl
    rw [g4.2.2.2]
    refine ⟨by omega, hr _ _ _ ⟨k + 1, by omega, by omega, rfl, fun x hx => ?_, ?_, ?_⟩ (by omega)⟩
    · rw [List.take_succ_eq_append_getElem hlt] at hx
      unfold imax
      rcases List.mem_append.mp hx with e | e
      · have := h1 x e; split <;> omega
      · rw [List.mem_singleton.mp e]; split <;> omega
    · unfold imax
      split
      · exact Or.inr ⟨_, List.getElem_mem hlt, rfl⟩
      · exact h2
    · unfold imax
      split <;> omega
