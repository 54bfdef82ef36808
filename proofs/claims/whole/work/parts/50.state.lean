/-! copies without a look at what is copied -/
def Cpy (σ : SG) (q : Nat) (σ' : SG) (t : Nat) : Prop := (∀ k, k < 13 → σ' (t + 1) k = σ (q + 1) k) ∧ σ' t 1 = σ q 1
theorem Cpy_Rp {R : Type} {co : R → Nat → Int} {σ σ' : SG} {q t : Nat} {a : R} (h : Cpy σ q σ' t) (ht : KT.getD t 99 = 4) (ha : Rp co σ q a) : Rp co σ' t a :=
  ⟨ht, fun k hk => by rw [h.1 k hk]; exact ha.2.1 k hk, ha.2.2.1, by rw [h.2]; exact ha.2.2.2⟩
theorem Cpy_fr {σ σ' σ'' : SG} {q t s : Nat} (h : Cpy σ q σ' t) (ht : KT.getD t 99 = 4) (hs : KT.getD s 99 = 4) (hts : t ≠ s) (hf : Fr1 σ' σ'' s) : Cpy σ q σ'' t := by
  have hne := isP_ne ht hs
  refine ⟨fun k hk => ?_, ?_⟩
  · rw [hf (t + 1) hne.2 (by omega)]; exact h.1 k hk
  · rw [hf t hts hne.1]; exact h.2
theorem spec_X4_copyRaw {σ : SG} {t q : Nat} {Q : SG → Prop} (ht : KT.getD t 99 = 4) (hq : KT.getD q 99 = 4) (hne : q ≠ t) (hQ : ∀ σ', Fr1 σ σ' t → Cpy σ q σ' t → Q σ') : wp_X4_copy σ t q Q := by
  unfold wp_X4_copy
  have hn := isP_ne hq ht
  refine Lp1_up 13 (fun k σ' => Fr1 σ σ' t ∧ (∀ j, j < k → σ' (t + 1) j = σ (q + 1) j)) ⟨Fr1.rf _ _, fun j h => by omega⟩ ?_ ?_
  · rintro k σ1 r hk ⟨h1, h2⟩ hr
    refine ⟨fun h => by omega, fun _ => ⟨by omega, by omega, ?_⟩⟩
    rintro _ rfl
    rw [Int.toNat_natCast, h1 (q + 1) hn.2 (by omega)]
    refine ⟨by omega, hr _ ⟨h1.tr (Fr1.a _ _ _ _), fun j hj => ?_⟩⟩
    by_cases z : j = k
    · rw [z, ug_eq]
    · rw [ug_k _ _ z]
      exact h2 j (by omega)
  · rintro σ1 r ⟨h1, h2⟩
    refine ⟨fun _ => ?_, fun h => by omega⟩
    rintro _ rfl
    rw [h1 q hne hn.1]
    refine hQ _ (h1.tr (Fr1.d _ _ _ _)) ⟨fun k hk => ?_, by rw [ug_eq]⟩
    rw [ug_i _ (by omega), h2 k hk]
/-- a state object holds: the prime p, the modulus f, the numbers g, the branches L -/
def Scn {R : Type} (co : R → Nat → Int) (σ : SG) (o p : Nat) (f : R) (g : Nat → R) (L : List R) : Prop := σ o 0 = p ∧ Rp co σ (o + 1) f ∧ (∀ k, k < 6 → Rp co σ (o + 3 + 1 + 2 * k) (g k)) ∧ Sb co σ o L
/-- only what belongs to the state object o is changed, and not the order of its branches' objects -/
def FO (σ σ' : SG) (o : Nat) : Prop := (∀ i, i < o ∨ o + 29 ≤ i → σ' i = σ i) ∧ σ' (o + 16) = σ (o + 16)
theorem FO.rf (σ : SG) (o : Nat) : FO σ σ o := ⟨fun _ _ => rfl, rfl⟩
theorem FO.tr {σ σ' σ'' : SG} {o : Nat} (h : FO σ σ' o) (k : FO σ' σ'' o) : FO σ σ'' o := ⟨fun i hi => (k.1 i hi).trans (h.1 i hi), k.2.trans h.2⟩
theorem FO.of {σ σ' : SG} {o t : Nat} (ho : KT.getD o 99 = 7) (ht : KT.getD t 99 = 4) (h1 : o < t) (h2 : t + 1 < o + 29) (h : Fr1 σ σ' t) : FO σ σ' o :=
  ⟨fun i hi => h i (by omega) (by omega), h _ (st_16 ho ht).1 (st_16 ho ht).2.1⟩
theorem st_far {o q : Nat} (ho : KT.getD o 99 = 7) (hq : KT.getD q 99 = 7) (h : o ≠ q) : q + 29 ≤ o ∨ o + 29 ≤ q := by
  rcases isSt_in ho with e | e | e | e | e | e <;> rcases isSt_in hq with e2 | e2 | e2 | e2 | e2 | e2 <;> omega
theorem Pt_FO {σ σ' : SG} {o : Nat} (h : Pt σ o) (e : σ' (o + 16) = σ (o + 16)) : Pt σ' o := ⟨by rw [e]; exact h.1, by rw [e]; exact h.2⟩
theorem spec_X7_copy {σ : SG} {o q : Nat} {Q : SG → Prop} (ho : KT.getD o 99 = 7) (hq : KT.getD q 99 = 7) (hne : o ≠ q) (hp : Pt σ o) (hpq : Pt σ q) (hQ : ∀ σ', FO σ σ' o → (∀ (R : Type) (co : R → Nat → Int) p f g L, Scn co σ q p f g L → Scn co σ' o p f g L) → Q σ') : wp_X7_copy σ o q Q := by
  unfold wp_X7_copy
  have hfar := st_far ho hq hne
  have so := isS_all ho
  have sq := isS_all hq
  rintro σ1 e1
  have f1 : FO σ σ1 o := ⟨fun i hi => by rw [e1, ug_ne _ (by omega)], by rw [e1, ug_ne _ (by omega)]⟩
  have hkeep : ∀ {σ' : SG} {s t : Nat}, FO σ σ' o → q < s → s + 1 < q + 29 → ∀ {σ'' : SG}, Cpy σ' s σ'' t → Cpy σ s σ'' t := by
    intro σ' s t hf h1 h2 σ'' hc
    refine ⟨fun k hk => ?_, ?_⟩
    · rw [hc.1 k hk, hf.1 _ (by omega)]
    · rw [hc.2, hf.1 _ (by omega)]
  refine spec_X4_copyRaw so.1.1 sq.1.1 (by omega) (fun σ2 h1 h2 => ?_)
  have f2 : FO σ σ2 o := f1.tr (FO.of ho so.1.1 (by omega) (by omega) h1)
  have h2 := hkeep f1 (by omega) (by omega) h2
  have p2 : σ2 o 0 = σ q 0 := by rw [h1 o (by omega) (by omega), e1, ug_eq]
  refine Lp1_up 6 (fun k σ' => FO σ σ' o ∧ σ' o 0 = σ q 0 ∧ Cpy σ (q + 1) σ' (o + 1) ∧ ∀ j, j < k → Cpy σ (q + 3 + 1 + 2 * j) σ' (o + 3 + 1 + 2 * j)) ⟨f2, p2, h2, fun j hj => by omega⟩ ?_ ?_
  · rintro k σ3 r hk ⟨g1, g2, g3, g4⟩ hr
    refine ⟨fun h => by omega, fun _ => ⟨by omega, by omega, ?_⟩⟩
    rw [Int.toNat_natCast]
    have ht := so.2.2.1 k hk
    refine spec_X4_copyRaw ht (sq.2.2.1 k hk) (by omega) (fun σ4 k1 k2 => ⟨by omega, hr _ ⟨g1.tr (FO.of ho ht (by omega) (by omega) k1), ?_, ?_, fun j hj => ?_⟩⟩)
    · rw [k1 o (by omega) (by omega)]; exact g2
    · exact Cpy_fr g3 so.1.1 ht (by omega) k1
    · by_cases e : j = k
      · subst e
        exact hkeep g1 (by omega) (by omega) k2
      · exact Cpy_fr (g4 j (by omega)) (so.2.2.1 j (by omega)) ht (by omega) k1
  · rintro σ3 r ⟨g1, g2, g3, g4⟩
    refine ⟨fun _ => ?_, fun h => absurd (Int.le_refl _) h⟩
    refine Lp1_up 6 (fun k σ' => FO σ σ' o ∧ σ' o 0 = σ q 0 ∧ Cpy σ (q + 1) σ' (o + 1) ∧ (∀ j, j < 6 → Cpy σ (q + 3 + 1 + 2 * j) σ' (o + 3 + 1 + 2 * j)) ∧ ∀ j, j < k → Cpy σ (σ (q + 16) j).toNat σ' (σ (o + 16) j).toNat) ⟨g1, g2, g3, g4, fun j hj => by omega⟩ ?_ ?_
    · rintro k σ4 r2 hk ⟨k1, k2, k3, k4, k5⟩ hr2
      obtain ⟨a1, a2⟩ := hp.1 k hk
      obtain ⟨b1, b2⟩ := hpq.1 k hk
      have e16 : σ4 (q + 16) = σ (q + 16) := k1.1 _ (by omega)
      refine ⟨fun h => by omega, fun _ => ⟨by omega, ?_, by omega, ?_, ?_⟩⟩
      · rw [k1.2, Int.toNat_natCast]; exact a2
      · rw [e16, Int.toNat_natCast]; exact b2
      rw [k1.2, e16, Int.toNat_natCast]
      have ht := BO_P ho a2
      have hs := BO_P hq b2
      obtain ⟨x, x1, x2⟩ := a2
      obtain ⟨y, y1, y2⟩ := b2
      refine spec_X4_copyRaw ht hs (by omega) (fun σ5 m1 m2 => ⟨by omega, hr2 _ ⟨k1.tr (FO.of ho ht (by omega) (by omega) m1), ?_, ?_, fun j hj => ?_, fun j hj => ?_⟩⟩)
      · rw [m1 o (by omega) (by omega)]; exact k2
      · exact Cpy_fr k3 so.1.1 ht (by omega) m1
      · exact Cpy_fr (k4 j hj) (so.2.2.1 j hj) ht (by omega) m1
      · by_cases e : j = k
        · subst e
          exact hkeep k1 (by omega) (by omega) m2
        · obtain ⟨c1, c2⟩ := hp.1 j (by omega)
          refine Cpy_fr (k5 j (by omega)) (BO_P ho c2) ht (fun e2 => e (hp.2 j k (by omega) hk ?_)) m1
          omega
    · rintro σ4 r2 ⟨k1, k2, k3, k4, k5⟩
      refine ⟨fun _ => ?_, fun h => absurd (Int.le_refl _) h⟩
      rintro σ5 e5
      have u : ∀ i, i ≠ o → σ5 i = σ4 i := fun i hi => by rw [e5, ug_ne _ hi]
      have f5 : FO σ σ5 o := k1.tr ⟨fun i hi => u i (by omega), u _ (by omega)⟩
      refine hQ σ5 f5 (fun R co p f g L hS => ?_)
      obtain ⟨s1, s2, s3, -, s4, s5, s6, s7⟩ := hS
      have tr : ∀ {s t : Nat} {a : R}, Rp co σ s a → Cpy σ s σ4 t → KT.getD t 99 = 4 → Rp co σ5 t a := by
        intro s t a ha hc ht
        have hk := st_16 ho ht
        exact Rp_cg (Cpy_Rp hc ht ha) (u t (fun e => hk.2.2.1 e.symm)) (u (t + 1) (fun e => hk.2.2.2.1 e.symm))
      have e16 : σ5 (o + 16) = σ (o + 16) := f5.2
      refine ⟨?_, tr s2 k3 so.1.1, fun k hk => tr (s3 k hk) (k4 k hk) (so.2.2.1 k hk), ho, Pt_FO hp e16, ?_, s6, fun i x hx => ?_⟩
      · rw [e5, ug_k _ _ (by decide), k2]; exact s1
      · rw [e5, ug_eq, k1.1 q (by omega)]; exact s5
      · have hi : i < 6 := by have := (List.getElem?_eq_some_iff.mp hx).1; omega
        rw [e16]
        exact tr (s7 i x hx) (k5 i hi) (BO_P ho (hp.1 i hi).2)
theorem spec_X7_takeModulus {R : Type} [Lean.Grind.CommRing R] {p : Nat} {co : R → Nat → Int} {mk : (Nat → Int) → R} (H : PD p co mk) {σ : SG} {o q : Nat} {f : R} {Q : SG → Prop} (ho : KT.getD o 99 = 7) (hp : Pt σ o) (hf : Rp co σ q f) (hQ : ∀ σ', FrB σ σ' o [o + 1] → Sb co σ' o [f] → Rp co σ' (o + 1) f → Q σ') : wp_X7_takeModulus σ o q Q := by
  unfold wp_X7_takeModulus
  have so := isS_all ho
  refine spec_X4_copy H so.1.1 hf (fun σ1 h1 h2 => ?_)
  have hP : ∀ t ∈ [o + 1], KT.getD t 99 = 4 := fun t ht => by rw [List.mem_singleton.mp ht]; exact so.1.1
  refine spec_X7_becomeOneBranch H ho (Pt_FO hp ((FrL.of1 h1).at hP (st_kt ho).2.1 (st_kt ho).2.2)) h2 (fun σ2 k1 k2 => hQ σ2 ((FrB.of ho hP (FrL.of1 h1) (fun t ht => List.mem_append_right _ ht)).tr (k1.mono (fun t h => by cases h))) k2 (Rp_frB ho h2 (fun t h => by cases h) (fun e => ?_) k1))
  rw [List.append_nil] at e
  obtain ⟨k, hk, e2⟩ := brs_mem.mp e
  omega
theorem spec_X7_start {R : Type} [Lean.Grind.CommRing R] {p : Nat} {co : R → Nat → Int} {mk : (Nat → Int) → R} (H : PD p co mk) {σ : SG} {o : Nat} {Q : SG → Prop} (ho : KT.getD o 99 = 7) (hp : Pt σ o) (hQ : ∀ σ' : SG, (∀ i, i < o ∨ o + 29 ≤ i → σ' i = σ i) → Scn co σ' o p (xx p mk) (fun _ => 0) [xx p mk] → Q σ') : wp_X7_start σ o p Q := by
  unfold wp_X7_start
  have so := isS_all ho
  rintro σ1 e1
  have f1 : FO σ σ1 o := ⟨fun i hi => by rw [e1, ug_ne _ (by omega)], by rw [e1, ug_ne _ (by omega)]⟩
  refine spec_X4_becomeVariable H so.1.1 (fun σ2 h1 h2 => ?_)
  have f2 : FO σ σ2 o := f1.tr (FO.of ho so.1.1 (by omega) (by omega) h1)
  have p2 : σ2 o 0 = p := by rw [h1 o (by omega) (by omega), e1, ug_eq]
  refine Lp1_up 6 (fun k σ' => FO σ σ' o ∧ σ' o 0 = p ∧ Rp co σ' (o + 1) (xx p mk) ∧ ∀ j, j < k → Rp co σ' (o + 3 + 1 + 2 * j) (0 : R)) ⟨f2, p2, h2, fun j hj => by omega⟩ ?_ ?_
  · rintro k σ3 r hk ⟨g1, g2, g3, g4⟩ hr
    refine ⟨fun h => by omega, fun _ => ⟨by omega, ?_⟩⟩
    rw [Int.toNat_natCast]
    have ht := so.2.2.1 k hk
    refine spec_X4_clear H ht (fun σ4 k1 k2 => ⟨by omega, hr _ ⟨g1.tr (FO.of ho ht (by omega) (by omega) k1), ?_, ?_, fun j hj => ?_⟩⟩)
    · rw [k1 o (by omega) (by omega)]; exact g2
    · exact Rp_fr1 g3 ht (by omega) k1
    · by_cases e : j = k
      · subst e; exact k2
      · exact Rp_fr1 (g4 j (by omega)) ht (by omega) k1
  · rintro σ3 r ⟨g1, g2, g3, g4⟩
    refine ⟨fun _ => ?_, fun h => absurd (Int.le_refl _) h⟩
    refine spec_X7_becomeOneBranch H ho (Pt_FO hp g1.2) g3 (fun σ4 k1 k2 => ?_)
    have hq : ∀ t, t < o + 17 → t ∉ brs o ++ [] := fun t ht e => by
      rw [List.append_nil] at e
      obtain ⟨k, hk, e2⟩ := brs_mem.mp e
      omega
    refine hQ σ4 (fun i hi => (k1.1 i (by omega) (by omega) (fun t ht => ?_)).trans (g1.1 i hi)) ⟨(k1.2 0 (by decide)).trans g2, Rp_frB ho g3 (fun t h => by cases h) (hq _ (by omega)) k1, fun k hk => Rp_frB ho (g4 k hk) (fun t h => by cases h) (hq _ (by omega)) k1, k2⟩
    rw [List.append_nil] at ht
    obtain ⟨k, hk, e2⟩ := brs_mem.mp ht
    omega
