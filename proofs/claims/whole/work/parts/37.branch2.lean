/-! Branching -/
noncomputable def kd {R : Type} [Lean.Grind.CommRing R] (co : R → Nat → Int) (a g : R) : Int := if dd co (gc co g a) = dd co g then 0 else if dd co (gc co g a) = 1 then 1 else 2
theorem kd_mixed {R : Type} [Lean.Grind.CommRing R] {p : Nat} {co : R → Nat → Int} {mk : (Nat → Int) → R} (H : PD p co mk) {a g : R} (hg : g ≠ 0) : mixed co a g ↔ kd co a g = 2 := by
  unfold kd mixed
  have h1 := Dv_dd H hg (gc_l H g a)
  have h2 := dd_pos H (mon_ne H (gc_mon H (a := g) (b := a) (Or.inl hg)))
  constructor
  · rintro ⟨h3, h4⟩
    rw [if_neg (by omega), if_neg (by omega)]
  · intro h3
    split at h3
    · cases h3
    · split at h3
      · cases h3
      · omega
def KS : List Nat := [92, 36, 40, 42]
theorem KS_P : ∀ t ∈ KS, KT.getD t 99 = 4 := by decide +kernel
theorem KS_b : ∀ t ∈ KS, t ∉ brs 1 := by decide
theorem spec_X0_kindIn {R : Type} [Lean.Grind.CommRing R] {p : Nat} {co : R → Nat → Int} {mk : (Nat → Int) → R} (H : PD p co mk) {σ : SG} {u v : Nat} {g a : R} {Q : Int → SG → Prop} (hσ : σ 1 0 = p) (hg : Rp co σ u g) (ha : Rp co σ v a) (hu : u ∉ KS) (hv : v ≠ 40) (hg0 : g ≠ 0) (hQ : ∀ σ', FrL σ σ' KS → Q (kd co a g) σ') : wp_X0_kindIn σ u v Q := by
  unfold wp_X0_kindIn
  refine spec_X2_commonFactor H hσ kt92 hg ha hv (fun σ1 h1 h2 => ?_)
  have hg1 := Rp_frL hg KS_P hu h1
  rw [h2.2.2.2, hg1.2.2.2]
  have h3 := dd_pos H (mon_ne H (gc_mon H (a := g) (b := a) (Or.inl hg0)))
  have hq := hQ σ1 h1
  unfold kd at hq
  refine ⟨fun h4 => ⟨fun h5 => ?_, fun h5 => ?_⟩, fun h4 => ?_⟩
  · rw [if_neg (by omega), if_neg (by omega)] at hq; exact hq
  · rw [if_neg (by omega), if_pos (by omega)] at hq; exact hq
  · rw [if_pos (by omega)] at hq; exact hq
noncomputable def cnt {R : Type} [Lean.Grind.CommRing R] (co : R → Nat → Int) (a : R) (c : Int) (L : List R) : Nat := L.countP (fun g => kd co a g == c)
theorem cnt_take {R : Type} [Lean.Grind.CommRing R] {co : R → Nat → Int} {a : R} {c : Int} {L : List R} {k : Nat} {g : R} (h : L[k]? = some g) : cnt co a c (L.take (k + 1)) = cnt co a c (L.take k) + if kd co a g = c then 1 else 0 := by
  have hk : k < L.length := (List.getElem?_eq_some_iff.mp h).1
  have e : L[k] = g := (List.getElem?_eq_some_iff.mp h).2
  unfold cnt
  rw [List.take_succ_eq_append_getElem hk, List.countP_append, e]
  by_cases q : kd co a g = c
  · rw [if_pos q]; simp [q]
  · rw [if_neg q]; simp [q]
theorem cnt_le {R : Type} [Lean.Grind.CommRing R] {co : R → Nat → Int} {a : R} {c : Int} {L : List R} : cnt co a c L ≤ L.length := List.countP_le_length
theorem spec_X0_countOfKind {R : Type} [Lean.Grind.CommRing R] {p : Nat} {co : R → Nat → Int} {mk : (Nat → Int) → R} (H : PD p co mk) {σ : SG} {q : Nat} {a : R} {c : Int} {L : List R} {Q : Int → SG → Prop} (hσ : σ 1 0 = p) (hS : Sb co σ 1 L) (hL : ∀ g ∈ L, g ≠ 0) (ha : Rp co σ q a) (hq : q ∉ KS) (hQ : ∀ σ', FrL σ σ' KS → Q (cnt co a c L) σ') : wp_X0_countOfKind σ q c Q := by
  unfold wp_X0_countOfKind
  have b2 := hS.2.2.2.1
  refine Lp2_m (fun x z σ' => ∃ k : Nat, x = k ∧ k ≤ L.length ∧ FrL σ σ' KS ∧ z = cnt co a c (L.take k)) (fun x _ _ => (6 - x).toNat) ⟨0, rfl, by omega, FrL.rf _ _, by simp [cnt]⟩ ?_
  rintro x z σ1 r ⟨k, rfl, hk, h1, rfl⟩ hr
  have hS1 := Sb_frL hS KS_P KS_b h1
  rw [hS1.2.2.1]
  refine ⟨fun h => ?_, fun h => ?_⟩
  · have := hQ σ1 h1
    rw [List.take_of_length_le (by omega)]
    exact this
  · have hlt : k < L.length := by omega
    have hg : L[k]? = some L[k] := List.getElem?_eq_getElem hlt
    obtain ⟨g1, g2, g3, g4⟩ := Sb_get hS1 hg
    rw [Int.toNat_natCast]
    refine ⟨by omega, g3, spec_X0_kindIn H (by rw [h1.p KS_P]; exact hσ) g4 (Rp_frL ha KS_P hq h1) (fun e => KS_b _ e (brs_mem.mpr g3)) (fun e => hq (by rw [e]; decide)) (hL _ (List.getElem_mem hlt)) (fun σ2 h2 => ?_)⟩
    have hc := cnt_take (co := co) (a := a) (c := c) hg
    have hle : cnt co a c (L.take k) ≤ 6 := by
      have := cnt_le (co := co) (a := a) (c := c) (L := L.take k)
      rw [List.length_take] at this
      omega
    refine ⟨fun h3 => ⟨by omega, hr _ _ _ ⟨k + 1, by omega, by omega, h1.tr h2, ?_⟩ (by omega)⟩, fun h3 => ⟨by omega, by omega, hr _ _ _ ⟨k + 1, by omega, by omega, h1.tr h2, ?_⟩ (by omega)⟩⟩
    · rw [hc, if_neg h3, Nat.add_zero]
    · rw [hc, if_pos h3]; omega
def ES : List Nat := [94, 92, 36, 40, 42]
theorem ES_P : ∀ t ∈ ES, KT.getD t 99 = 4 := by decide +kernel
theorem ES_b : ∀ t ∈ ES, t ∉ brs 1 := by decide
theorem spec_X0_countDifferent {R : Type} [Lean.Grind.CommRing R] {p : Nat} {co : R → Nat → Int} {mk : (Nat → Int) → R} (H : PD p co mk) {σ : SG} {u v : Nat} {a b : R} {L : List R} {Q : Int → SG → Prop} (hσ : σ 1 0 = p) (hS : Sb co σ 1 L) (hL : ∀ g ∈ L, g ≠ 0) (ha : Rp co σ u a) (hb : Rp co σ v b) (hv : v ∉ ES) (hQ : ∀ σ', FrL σ σ' ES → Q (L.length - cnt co (a - b) 0 L) σ') : wp_X0_countDifferent σ u v Q := by
  unfold wp_X0_countDifferent
  refine spec_X4_copy H kt94 ha (fun σ1 h1 h2 => ?_)
  have hb1 := Rp_fr1 hb kt94 (fun e => hv (by rw [e]; decide)) h1
  have hp1 : σ1 1 0 = p := by rw [h1.p kt94]; exact hσ
  rw [hp1]
  refine spec_X4_addMultiple H h2 hb1 (by omega) (by have := hb1.2.2.1; omega) (by omega) (fun e => absurd e (fun e => hv (by rw [← e]; decide))) (fun σ2 h3 h4 => ?_)
  have e5 : a + mo p mk (-1) (0 : Int).toNat * b = a - b := by
    rw [mo_neg H, show (0 : Int).toNat = 0 from rfl, mo_1 H]; grind
  rw [e5] at h4
  have f2 := (FrL.of1 h1).tr (FrL.of1 h3)
  have P94 : ∀ t ∈ [94], KT.getD t 99 = 4 := by decide +kernel
  have hS2 := Sb_frL hS P94 (by decide) f2
  refine spec_X0_countOfKind H (by rw [f2.p P94]; exact hσ) hS2 hL h4 (by decide) (fun σ3 h5 => ?_)
  rw [hS2.2.2.1]
  have hle := cnt_le (co := co) (a := a - b) (c := 0) (L := L)
  have b2 := hS.2.2.2.1
  exact ⟨by omega, hQ σ3 ((f2.mono (by decide)).tr (h5.mono (by decide)))⟩
theorem spec_X0_findBranch {R : Type} [Lean.Grind.CommRing R] {p : Nat} {co : R → Nat → Int} {mk : (Nat → Int) → R} (H : PD p co mk) {σ : SG} {q : Nat} {x : R} {L : List R} {Q : Int → SG → Prop} (hS : Sb co σ 1 L) (hx : Rp co σ q x) (hQ : ∀ z : Int, (z = -1 ∧ x ∉ L) ∨ (∃ k : Nat, z = k ∧ L[k]? = some x ∧ ∀ j, j < k → L[j]? ≠ some x) → Q z σ) : wp_X0_findBranch σ q Q := by
  unfold wp_X0_findBranch
  have b2 := hS.2.2.2.1
  refine Lp1_m (fun y σ' => ∃ k : Nat, y = k ∧ k ≤ L.length ∧ σ' = σ ∧ ∀ j, j < k → L[j]? ≠ some x) (fun y _ => (6 - y).toNat) ⟨0, rfl, by omega, rfl, fun j hj => by omega⟩ ?_
  rintro y σ1 r ⟨k, rfl, hk, rfl, h1⟩ hr
  rw [hS.2.2.1]
  refine ⟨fun h => hQ _ (Or.inl ⟨rfl, fun hm => ?_⟩), fun h => ?_⟩
  · obtain ⟨j, hj⟩ := List.getElem?_of_mem hm
    have := (List.getElem?_eq_some_iff.mp hj).1
    exact h1 j (by omega) hj
  · have hlt : k < L.length := by omega
    have hg : L[k]? = some L[k] := List.getElem?_eq_getElem hlt
    obtain ⟨g1, g2, g3, g4⟩ := Sb_get hS hg
    rw [Int.toNat_natCast]
    refine ⟨by omega, g3, spec_X4_sameAs H g4 hx (fun z hz => ?_)⟩
    rcases hz with ⟨rfl, hz⟩ | ⟨rfl, hz⟩
    · refine ⟨fun _ => ⟨by omega, hr _ _ ⟨k + 1, by omega, by omega, rfl, fun j hj => ?_⟩ (by omega)⟩, fun h => absurd rfl h⟩
      by_cases e : j = k
      · rw [e, hg]; intro e2; exact hz (Option.some.inj e2)
      · exact h1 j (by omega)
    · exact ⟨fun h => absurd h (by decide), fun _ => hQ _ (Or.inr ⟨k, rfl, by rw [hg, hz], h1⟩)⟩
def VS : List Nat := [94, 92, 36, 38, 40, 42]
theorem VS_P : ∀ t ∈ VS, KT.getD t 99 = 4 := by decide +kernel
theorem VS_b : ∀ t ∈ VS, t ∉ brs 1 := by decide
theorem brs_nin {t : Nat} {T : List Nat} (hT : ∀ t ∈ T, t ∉ brs 1) (h : BO 1 t) : t ∉ T := fun e => hT t e (brs_mem.mpr h)
theorem spec_X0_partBy {R : Type} [Lean.Grind.CommRing R] {p : Nat} {co : R → Nat → Int} {mk : (Nat → Int) → R} (H : PD p co mk) {σ : SG} {q : Nat} {a f : R} {L : List R} {Q : SG → Prop} (hσ : σ 1 0 = p) (hS : Sb co σ 1 L) (hL : GL co f L) (hf : dd co f ≤ 7) (ha : Rp co σ q a) (hq : q ∉ brs 1 ++ VS) (hQ : ∀ σ' L', FrB σ σ' 1 VS → Sb co σ' 1 L' → L'.Perm (ptl co a L) → Srt co L' → GL co f L' → Q σ') : wp_X0_partBy σ q Q := by
  unfold wp_X0_partBy
  have ho := hS.1
  have b2 := hS.2.2.2.1
  rintro v rfl
  rw [hS.2.2.1]
  refine Lp1_up L.length (fun k σ' => ∃ M, Pway co f a L k M ∧ FrB σ σ' 1 VS ∧ Sb co σ' 1 M) ⟨L, Pway_0 hL, FrB.rf _ _ _, hS⟩ ?_ ?_
  · rintro k σ1 r hk ⟨M, h1, h2, h3⟩ hr
    have hg : L[k]? = some L[k] := List.getElem?_eq_getElem hk
    have hM := Pway_at h1 hg
    obtain ⟨g1, g2, g3, g4⟩ := Sb_get h3 hM
    have hGL : GL co f M := by obtain ⟨A, B, -, -, -, h⟩ := h1; exact h
    have hgm := hGL.1 _ (List.mem_of_getElem? hM)
    have hp1 : σ1 1 0 = p := by rw [h2.p ho VS_P]; exact hσ
    have ha1 := Rp_frB ho ha VS_P hq h2
    have hn1 := brs_nin VS_b g3
    refine ⟨fun h => by omega, fun _ => ⟨by omega, by rw [Int.toNat_natCast]; exact g3, ?_⟩⟩
    rw [Int.toNat_natCast]
    generalize ht : (σ1 17 k).toNat = t at g3 g4 hn1 ⊢
    generalize L[k] = g at hg hM g4 hgm ⊢
    refine spec_X2_commonFactor H hp1 kt92 g4 ha1 (fun e => hq (by rw [e]; decide)) (fun σ2 k1 k2 => ?_)
    have k3 := Rp_frL g4 KS_P (fun e => hn1 (by revert e; unfold KS VS; simp only [List.mem_cons, List.not_mem_nil, or_false]; omega)) k1
    have f2 : FrB σ σ2 1 VS := h2.tr (FrB.of ho KS_P k1 (by decide))
    have S2 := Sb_frL h3 KS_P KS_b k1
    have p2 : σ2 1 0 = p := by rw [f2.p ho VS_P]; exact hσ
    rw [k2.2.2.2, k3.2.2.2]
    have hno : ∀ (hm : ¬ mixed co a g), inR ((k : Int) + 1) ∧ r (k + 1) σ2 := fun hm => ⟨by omega, hr _ ⟨M, Pway_n h1 hg hm, f2, S2⟩⟩
    refine ⟨fun h4 => hno (fun e => by have := e.1; omega), fun h4 => ⟨fun h5 => hno (fun e => by have := e.2; omega), fun h5 => ?_⟩⟩
    have hm : mixed co a g := ⟨by omega, by omega⟩
    have hn2 : t ≠ 94 ∧ t ≠ 36 ∧ t ≠ 38 ∧ t ≠ 92 := by
      refine ⟨?_, ?_, ?_, ?_⟩ <;> intro e <;> exact hn1 (by rw [e]; decide)
    refine spec_X2_divideWhole H p2 kt94 k3 k2 (by decide) (by decide) (mon_ne H (gc_mon H (Or.inl (mon_ne H hgm.1)))) (fun σ3 m1 m2 => ?_)
    have P3 : ∀ t ∈ [94, 36, 38], KT.getD t 99 = 4 := by decide +kernel
    have c3 := Rp_frL k2 P3 (by decide) m1
    have f3 : FrB σ σ3 1 VS := f2.tr (FrB.of ho P3 m1 (by decide))
    have S3 := Sb_frL S2 P3 (by decide) m1
    have e17 : σ3 17 = σ1 17 := (m1.at P3 (by decide) (by decide)).trans (k1.at KS_P (by decide) (by decide))
    refine spec_X4_copy H g4.1 c3 (fun σ4 n1 n2 => ?_)
    have ht3 : (σ3 (1 + 16) k).toNat = t := by show (σ3 17 k).toNat = t; rw [e17]; exact ht
    have S4 := Sb_set S3 (k := k) g1 (y := gc co g a) (σ' := σ4) (by rw [ht3]; exact n1) (by rw [ht3]; exact n2)
    have m4 := Rp_fr1 m2 g4.1 hn2.1.symm n1
    have f4 : FrB σ σ4 1 VS := f3.tr (FrB.of ho (cons_P g4.1 (fun t h => by cases h)) (FrL.of1 n1) (fun s hs => by rw [List.mem_singleton.mp hs]; exact List.mem_append_left _ (brs_mem.mpr g3)))
    have hy := Pway_y H h1 hg hm
    have hl : M.length < 6 := by
      obtain ⟨A, B, -, -, -, h⟩ := hy
      have := GL_len H h
      simp at this
      omega
    refine spec_X7_addBranch H S4 m4 (by rw [List.length_set]; exact hl) (fun σ5 q1 q2 => ⟨by omega, hr _ ⟨_, hy, f4.tr (q1.mono (fun t h => by cases h)), q2⟩⟩)
  · rintro σ1 r ⟨M, h1, h2, h3⟩
    obtain ⟨h4, h5⟩ := Pway_end h1
    refine ⟨fun _ => spec_X7_sortBranches H ho h3.2.1 h3.2.2 (fun σ2 L' k1 k2 k3 k4 k5 => hQ σ2 L' (h2.tr ⟨fun i _ h17 _ => k1 i h17, fun j _ => by rw [k1 1 (by decide)]⟩) ⟨ho, k2, k3⟩ (k4.trans h4) k5 (GL_perm h5 k4)), fun h => absurd (Int.le_refl _) h⟩
