/-! the reference: rows of its table (entity 308), its state (305), its helper row (309) -/
def Rr {R : Type} (co : R → Nat → Int) (σ : SG) (r : Int) (a : R) : Prop := (0 ≤ r ∧ r < 60) ∧ (∀ k : Nat, k < 14 → σ 308 (14 * r + k).toNat = co a k) ∧ dd co a ≤ 14
/-- only these rows of the table (and the helper row) are changed -/
def FT (σ σ' : SG) (L : List Int) : Prop := (∀ i, i ≠ 308 → i ≠ 309 → σ' i = σ i) ∧ ∀ j : Nat, (∀ r ∈ L, ¬ (14 * r ≤ j ∧ (j : Int) < 14 * r + 14)) → σ' 308 j = σ 308 j
theorem FT.rf (σ : SG) (L : List Int) : FT σ σ L := ⟨fun _ _ _ => rfl, fun _ _ => rfl⟩
theorem FT.tr {σ σ' σ'' : SG} {L : List Int} (h : FT σ σ' L) (k : FT σ' σ'' L) : FT σ σ'' L := ⟨fun i h1 h2 => (k.1 i h1 h2).trans (h.1 i h1 h2), fun j hj => (k.2 j hj).trans (h.2 j hj)⟩
theorem FT.mono {σ σ' : SG} {L L' : List Int} (h : FT σ σ' L) (k : ∀ t ∈ L, t ∈ L') : FT σ σ' L' := ⟨h.1, fun j hj => h.2 j (fun r hr => hj r (k r hr))⟩
theorem FT.p {σ σ' : SG} {L : List Int} (h : FT σ σ' L) : σ' 305 = σ 305 := h.1 305 (by decide) (by decide)
theorem Rr_ft {R : Type} {co : R → Nat → Int} {σ σ' : SG} {q : Int} {a : R} {L : List Int} (h : Rr co σ q a) (hf : FT σ σ' L) (hq : q ∉ L) : Rr co σ' q a :=
  ⟨h.1, fun k hk => by
    have h0 := h.1
    rw [hf.2 _ (fun r hr => ?_), h.2.1 k hk]
    have : r ≠ q := fun e => hq (e ▸ hr)
    omega, h.2.2⟩
theorem Rr_uniq {R : Type} [Lean.Grind.CommRing R] {p : Nat} {co : R → Nat → Int} {mk : (Nat → Int) → R} (H : PD p co mk) {σ : SG} {t : Int} {a b : R} (ha : Rr co σ t a) (hb : Rr co σ t b) : a = b := by
  refine pd_ext H (fun k => ?_)
  rcases Nat.lt_or_ge k 14 with q | q
  · rw [← ha.2.1 k q, ← hb.2.1 k q]
  · rw [dd_out H a (by have := ha.2.2; omega), dd_out H b (by have := hb.2.2; omega)]
theorem FT.put (σ : SG) {r k : Int} (hr : 0 ≤ r) (hk : 0 ≤ k ∧ k < 14) (x : Int) {L : List Int} (hL : r ∈ L) : FT σ (ug σ 308 (14 * r + k).toNat x) L :=
  ⟨fun i h1 _ => ug_ne σ h1 _ x, fun j hj => by
    have := hj r hL
    exact ug_k σ 308 (by omega) x⟩
theorem FT.mk (σ : SG) (k : Nat) (x : Int) (L : List Int) : FT σ (ug σ 309 k x) L :=
  ⟨fun i _ h2 => ug_ne σ h2 _ x, fun j _ => ug_i σ (by decide) _ _ _⟩
theorem tmod_nn {a p : Int} (h : 0 ≤ a) : Int.tmod a p = a % p := Int.tmod_eq_emod_of_nonneg h
theorem spec_X10_of {R : Type} [Lean.Grind.CommRing R] {p : Nat} {co : R → Nat → Int} {mk : (Nat → Int) → R} (H : PD p co mk) {σ : SG} {r k : Int} {a : R} {Q : Int → SG → Prop} (h : Rr co σ r a) (hk : 0 ≤ k ∧ k < 14) (hQ : Q (co a k.toNat) σ) : wp_X10_of σ r k Q := by
  unfold wp_X10_of
  have h0 := h.1
  refine ⟨by omega, by omega, by omega, ?_⟩
  have h2 := h.2.1 k.toNat (by omega)
  rw [show ((k.toNat : Nat) : Int) = k by omega] at h2
  rw [h2]
  exact hQ
theorem spec_X10_of0 {σ : SG} {r k v : Int} {Q : Int → SG → Prop} (hr : 0 ≤ r ∧ r < 60) (hk : 0 ≤ k ∧ k < 14) (hv : σ 308 (14 * r + k).toNat = v) (hQ : Q v σ) : wp_X10_of σ r k Q := by
  unfold wp_X10_of
  rw [hv]
  exact ⟨by omega, by omega, by omega, hQ⟩
theorem spec_X10_puts {σ : SG} {r k v : Int} {Q : SG → Prop} (hr : 0 ≤ r ∧ r < 60) (hk : 0 ≤ k ∧ k < 14) (hQ : Q (ug σ 308 (14 * r + k).toNat v)) : wp_X10_puts σ r k v Q := by
  unfold wp_X10_puts
  refine ⟨by omega, by omega, by omega, ?_⟩
  rintro _ rfl
  exact hQ
theorem spec_X10_degree {R : Type} [Lean.Grind.CommRing R] {p : Nat} {co : R → Nat → Int} {mk : (Nat → Int) → R} (H : PD p co mk) {σ : SG} {r : Int} {a : R} {Q : Int → SG → Prop} (h : Rr co σ r a) (hQ : Q ((dd co a : Int) - 1) σ) : wp_X10_degree σ r Q := by
  unfold wp_X10_degree
  have h14 := h.2.2
  refine Lp1_dn 14 (fun k σ' => σ' = σ ∧ dd co a ≤ k) ⟨rfl, h14⟩ ?_ ?_
  · rintro k σ1 rc hk ⟨rfl, h2⟩ hr
    refine ⟨fun h => by omega, fun _ => spec_X10_of H h (by omega) ?_⟩
    rw [Int.toNat_natCast]
    refine ⟨fun h3 => ?_, fun h3 => ⟨by omega, hr _ ⟨rfl, ?_⟩⟩⟩
    · have := dd_ge H h3
      rw [show (k : Int) = (dd co a : Int) - 1 by omega]
      exact hQ
    · refine dd_le H (fun j hj => ?_)
      by_cases z : j = k
      · rw [z]; exact h3
      · exact dd_out H a (by omega)
  · rintro σ1 rc ⟨rfl, h2⟩
    rw [show (dd co a : Int) - 1 = -1 by omega] at hQ
    exact ⟨fun _ => hQ, fun h => by omega⟩
theorem spec_X10_clears {R : Type} [Lean.Grind.CommRing R] {p : Nat} {co : R → Nat → Int} {mk : (Nat → Int) → R} (H : PD p co mk) {σ : SG} {r : Int} {Q : SG → Prop} (hr : 0 ≤ r ∧ r < 60) (hQ : ∀ σ', FT σ σ' [r] → Rr co σ' r 0 → Q σ') : wp_X10_clears σ r Q := by
  unfold wp_X10_clears
  refine Lp1_up 14 (fun k σ' => FT σ σ' [r] ∧ ∀ j : Nat, j < k → σ' 308 (14 * r + j).toNat = 0) ⟨FT.rf _ _, fun j h => by omega⟩ ?_ ?_
  · rintro k σ1 rc hk ⟨h1, h2⟩ hrc
    refine ⟨fun h => by omega, fun _ => spec_X10_puts hr (by omega) ⟨by omega, hrc _ ⟨h1.tr (FT.put _ hr.1 (by omega) _ (by simp)), fun j hj => ?_⟩⟩⟩
    by_cases z : j = k
    · rw [z, ug_eq]
    · rw [ug_k _ _ (by omega)]; exact h2 j (by omega)
  · rintro σ1 rc ⟨h1, h2⟩
    exact ⟨fun _ => hQ _ h1 ⟨hr, fun k hk => by rw [h2 k hk, co_zero H], by rw [dd_zero H]; omega⟩, fun h => by omega⟩
theorem spec_X10_copies {R : Type} [Lean.Grind.CommRing R] {p : Nat} {co : R → Nat → Int} {mk : (Nat → Int) → R} (H : PD p co mk) {σ : SG} {u t : Int} {a : R} {Q : SG → Prop} (ha : Rr co σ u a) (ht : 0 ≤ t ∧ t < 60) (hQ : ∀ σ', FT σ σ' [t] → Rr co σ' t a → Q σ') : wp_X10_copies σ u t Q := by
  unfold wp_X10_copies
  have hu := ha.1
  refine Lp1_up 14 (fun k σ' => FT σ σ' [t] ∧ Rr co σ' u a ∧ ∀ j : Nat, j < k → σ' 308 (14 * t + j).toNat = co a j) ⟨FT.rf _ _, ha, fun j h => by omega⟩ ?_ ?_
  · rintro k σ1 rc hk ⟨h1, h2, h3⟩ hrc
    refine ⟨fun h => by omega, fun _ => spec_X10_of H h2 (by omega) ?_⟩
    rw [Int.toNat_natCast]
    refine spec_X10_puts ht (by omega) ⟨by omega, hrc _ ⟨h1.tr (FT.put _ ht.1 (by omega) _ (by simp)), ⟨h2.1, fun j hj => ?_, h2.2.2⟩, fun j hj => ?_⟩⟩
    · by_cases z : 14 * u + j = 14 * t + k
      · rw [z, ug_eq, show j = k by omega]
      · rw [ug_k _ _ (by omega)]; exact h2.2.1 j hj
    · by_cases z : j = k
      · rw [z, ug_eq]
      · rw [ug_k _ _ (by omega)]; exact h3 j (by omega)
  · rintro σ1 rc ⟨h1, h2, h3⟩
    exact ⟨fun _ => hQ _ h1 ⟨ht, h3, ha.2.2⟩, fun h => by omega⟩
theorem spec_X10_constant {R : Type} [Lean.Grind.CommRing R] {p : Nat} {co : R → Nat → Int} {mk : (Nat → Int) → R} (H : PD p co mk) {σ : SG} {r v : Int} {Q : SG → Prop} (hσ : σ 305 0 = p) (hr : 0 ≤ r ∧ r < 60) (hv : 0 ≤ v) (hQ : ∀ σ', FT σ σ' [r] → Rr co σ' r (mo p mk v 0 : R) → Q σ') : wp_X10_constant σ r v Q := by
  unfold wp_X10_constant
  have hp := pd_p H
  refine spec_X10_clears H hr (fun σ1 h1 h2 => ?_)
  rw [h1.p, hσ]
  refine ⟨by omega, spec_X10_puts hr (by omega) (hQ _ (h1.tr (FT.put _ hr.1 (by omega) _ (by simp))) ⟨hr, fun k hk => ?_, by have := dd_mo_le H v 0; omega⟩)⟩
  rw [co_mo H, tmod_nn hv]
  by_cases z : k = 0
  · rw [if_pos z, z]
    exact ug_eq _ _ _ _
  · rw [if_neg z, ug_k _ _ (by omega), h2.2.1 k hk, co_zero H]
theorem spec_X10_loads {R : Type} [Lean.Grind.CommRing R] {p : Nat} {co : R → Nat → Int} {mk : (Nat → Int) → R} (H : PD p co mk) {σ : SG} {n m r : Int} {a : R} {Q : SG → Prop} (hr : 0 ≤ r ∧ r < 60) (hn : 0 ≤ n) (hm : 0 ≤ m ∧ m ≤ 14) (hnm : n + m ≤ 87) (ha : ∀ k : Nat, (k : Int) < m → σ 305 (n + k).toNat = co a k) (hd : (dd co a : Int) ≤ m) (hQ : ∀ σ', FT σ σ' [r] → Rr co σ' r a → Q σ') : wp_X10_loads σ n m r Q := by
  unfold wp_X10_loads
  obtain ⟨M, rfl⟩ := Int.eq_ofNat_of_zero_le hm.1
  refine spec_X10_clears H hr (fun σ1 h1 h2 => ?_)
  refine Lp1_up M (fun k σ' => FT σ σ' [r] ∧ ∀ j : Nat, j < 14 → σ' 308 (14 * r + j).toNat = if j < k then co a j else 0) ⟨h1, fun j hj => by rw [if_neg (by omega), h2.2.1 j hj, co_zero H]⟩ ?_ ?_
  · rintro k σ2 rc hk ⟨g1, g2⟩ hrc
    refine ⟨fun h => by omega, fun _ => ⟨by omega, by omega, spec_X10_puts hr (by omega) ⟨by omega, hrc _ ⟨g1.tr (FT.put _ hr.1 (by omega) _ (by simp)), fun j hj => ?_⟩⟩⟩⟩
    by_cases z : j = k
    · rw [z, ug_eq, if_pos (by omega), g1.p]
      exact ha k (by omega)
    · rw [ug_k _ _ (by omega), g2 j hj]
      by_cases z2 : j < k
      · rw [if_pos z2, if_pos (by omega)]
      · rw [if_neg z2, if_neg (by omega)]
  · rintro σ2 rc ⟨g1, g2⟩
    refine ⟨fun _ => hQ _ g1 ⟨hr, fun k hk => ?_, by omega⟩, fun h => by omega⟩
    rw [g2 k hk]
    split
    · rfl
    · rw [dd_out H a (by omega)]
theorem spec_X10_inverse {σ : SG} {p : Nat} (hp : Pr p) {v : Int} (hσ : σ 305 0 = p) (hv : 0 < v ∧ v < p) {Q : Int → SG → Prop} (hQ : ∀ z : Int, 0 < z → z < p → v * z % p = 1 → Q z σ) : wp_X10_inverse σ v Q := by
  unfold wp_X10_inverse
  have hp2 := Pr_pos hp
  obtain ⟨e, e1, e2, e3⟩ := Pr_inv hp hv.1 hv.2
  refine Lp1_m (fun x σ' => σ' = σ ∧ 0 < x ∧ x ≤ e) (fun x _ => (e - x).toNat) ⟨rfl, by omega, by omega⟩ ?_
  rintro x σ1 r ⟨rfl, h1, h2⟩ hr
  have b := mul_bd (f := v) (c := x) (F := 13) (by omega) (by omega) (by omega) (by omega)
  have h0 : 0 ≤ v * x := Int.mul_nonneg (by omega) (by omega)
  rw [hσ, tmod_nn h0]
  refine ⟨by omega, by omega, fun h => hQ _ h1 (by omega) h, fun h => ⟨by omega, hr _ _ ⟨rfl, by omega, ?_⟩ ?_⟩⟩
  · have : x ≠ e := fun q => h (by rw [q]; exact e3)
    omega
  · have : x ≠ e := fun q => h (by rw [q]; exact e3)
    omega
theorem spec_X10_adds {R : Type} [Lean.Grind.CommRing R] {p : Nat} {co : R → Nat → Int} {mk : (Nat → Int) → R} (H : PD p co mk) {σ : SG} {u t n : Int} {a b : R} {Q : SG → Prop} (hσ : σ 305 0 = p) (ha : Rr co σ u a) (hb : Rr co σ t b) (hne : u ≠ t) (hn : 0 ≤ n ∧ n ≤ 13) (hQ : ∀ σ', FT σ σ' [t] → Rr co σ' t (b + mo p mk n 0 * a) → Q σ') : wp_X10_adds σ u t n Q := by
  unfold wp_X10_adds
  have hp := pd_p H
  rintro v rfl
  rw [hσ]
  have ht := hb.1
  have hc : ∀ j, co (b + mo p mk n 0 * a) j = (co b j + n * co a j) % p := fun j => by
    rw [co_add H, co_mo_mul H, if_neg (by omega), Nat.sub_zero, Int.add_emod_emod]
  refine Lp1_up 14 (fun k σ' => FT σ σ' [t] ∧ ∀ j : Nat, j < 14 → σ' 308 (14 * t + j).toNat = if j < k then co (b + mo p mk n 0 * a) j else co b j) ⟨FT.rf _ _, fun j hj => by rw [if_neg (by omega)]; exact hb.2.1 j hj⟩ ?_ ?_
  · rintro k σ1 rc hk ⟨h1, h2⟩ hrc
    have ha1 := Rr_ft ha h1 (by simp [hne])
    refine ⟨fun h => by omega, fun _ => ?_⟩
    have h3 := h2 k hk
    rw [if_neg (by omega)] at h3
    have r1 := pd_rng H b k
    have r2 := pd_rng H a k
    have bd := mul_bd (f := n) (c := co a k) (F := 13) (by omega) (by omega) r2.1 (by omega)
    have h5 : 0 ≤ n * co a k := Int.mul_nonneg hn.1 r2.1
    refine spec_X10_of0 ht (by omega) h3 (spec_X10_of H ha1 (by omega) ?_)
    rw [Int.toNat_natCast]
    refine ⟨by omega, by omega, by omega, spec_X10_puts ht (by omega) ⟨by omega, hrc _ ⟨h1.tr (FT.put _ ht.1 (by omega) _ (by simp)), fun j hj => ?_⟩⟩⟩
    by_cases z : j = k
    · rw [z, ug_eq, if_pos (by omega), hc, tmod_nn (by omega)]
    · rw [ug_k _ _ (by omega), h2 j hj]
      by_cases z2 : j < k
      · rw [if_pos z2, if_pos (by omega)]
      · rw [if_neg z2, if_neg (by omega)]
  · rintro σ1 rc ⟨h1, h2⟩
    refine ⟨fun _ => hQ _ h1 ⟨ht, fun k hk => ?_, dd_le H (fun j hj => ?_)⟩, fun h => by omega⟩
    · rw [h2 k hk, if_pos hk]
    · rw [hc, dd_out H b (by have := hb.2.2; omega), dd_out H a (by have := ha.2.2; omega)]
      simp
theorem spec_X10_multiplies {R : Type} [Lean.Grind.CommRing R] {p : Nat} {co : R → Nat → Int} {mk : (Nat → Int) → R} (H : PD p co mk) {σ : SG} {u v t : Int} {a b : R} {Q : SG → Prop} (hσ : σ 305 0 = p) (ha : Rr co σ u a) (hb : Rr co σ v b) (ht : 0 ≤ t ∧ t < 60) (hd : dd co a + dd co b ≤ 15) (hQ : ∀ σ', FT σ σ' [t] → Rr co σ' t (a * b) → Q σ') : wp_X10_multiplies σ u v t Q := by
  unfold wp_X10_multiplies
  have hp := pd_p H
  rintro x rfl
  have hu := ha.1
  have hv := hb.1
  have ha14 := ha.2.2
  have hb14 := hb.2.2
  refine spec_X10_degree H hb ?_
  refine Lp1_up 14 (fun k σ' => FT σ σ' [] ∧ ∀ j : Nat, j < k → σ' 309 j = 0) ⟨FT.rf _ _, fun j h => by omega⟩ ?_ ?_
  · rintro k σ1 rc hk ⟨h1, h2⟩ hrc
    refine ⟨fun h => by omega, fun _ => ⟨by omega, ?_⟩⟩
    rintro _ rfl
    refine ⟨by omega, hrc _ ⟨h1.tr (FT.mk _ _ _ _), fun j hj => ?_⟩⟩
    rw [Int.toNat_natCast]
    by_cases z : j = k
    · rw [z, ug_eq]
    · rw [ug_k _ _ z]; exact h2 j (by omega)
  · rintro σ1 rc ⟨h1, h2⟩
    refine ⟨fun _ => spec_X10_degree H (Rr_ft ha h1 (by simp)) ?_, fun h => by omega⟩
    refine Lp1_dn (dd co a) (fun k σ' => FT σ σ' [] ∧ ∀ j : Nat, j < 14 → σ' 309 j = co ((a - tr co mk k a) * b) j) ⟨h1, fun j hj => by rw [tr_all H a (Nat.le_refl _), show (a - a) * b = 0 by grind, co_zero H]; exact h2 j hj⟩ ?_ ?_
    · rintro i σ2 rc hi ⟨g1, g2⟩ hrc
      refine ⟨fun h => by omega, fun _ => ?_⟩
      refine Lp1_up (dd co b) (fun k σ' => FT σ σ' [] ∧ ∀ j : Nat, j < 14 → σ' 309 j = co ((a - tr co mk (i + 1) a) * b + mo p mk (co a i) i * tr co mk k b) j) ⟨g1, fun j hj => by rw [tr_0 H, show (a - tr co mk (i + 1) a) * b + mo p mk (co a i) i * 0 = (a - tr co mk (i + 1) a) * b by grind]; exact g2 j hj⟩ ?_ ?_
      · rintro k σ3 rc2 hk ⟨k1, k2⟩ hrc2
        refine ⟨fun h => by omega, fun _ => ⟨by omega, by omega, by omega, spec_X10_of H (Rr_ft ha k1 (by simp)) (by omega) (spec_X10_of H (Rr_ft hb k1 (by simp)) (by omega) ?_)⟩⟩
        rw [Int.toNat_natCast, Int.toNat_natCast, show ((i : Int) + (k : Int)).toNat = i + k by omega, k2 (i + k) (by omega), hσ]
        have r1 := pd_rng H a i
        have r2 := pd_rng H b k
        have r3 := pd_rng H ((a - tr co mk (i + 1) a) * b + mo p mk (co a i) i * tr co mk k b) (i + k)
        have bd := mul_bd (f := co a i) (c := co b k) (F := 13) (by omega) (by omega) r2.1 (by omega)
        have h5 : 0 ≤ co a i * co b k := Int.mul_nonneg r1.1 r2.1
        refine ⟨by omega, by omega, by omega, by omega, ?_⟩
        rintro _ rfl
        refine ⟨by omega, hrc2 _ ⟨k1.tr (FT.mk _ _ _ _), fun j hj => ?_⟩⟩
        rw [tr_s H k b]
        have e : (a - tr co mk (i + 1) a) * b + mo p mk (co a i) i * (tr co mk k b + mo p mk (co b k) k) = (a - tr co mk (i + 1) a) * b + mo p mk (co a i) i * tr co mk k b + mo p mk (co a i) i * mo p mk (co b k) k := by
          generalize tr co mk (i + 1) a = x1
          generalize tr co mk k b = x2
          generalize mo p mk (co a i) i = x3
          generalize mo p mk (co b k) k = x4
          grind
        rw [e]
        clear hrc2 hrc
        generalize hS : (a - tr co mk (i + 1) a) * b + mo p mk (co a i) i * tr co mk k b = S at k2 r3 ⊢
        rw [co_add H S, co_mo_mul H, co_mo H]
        by_cases z : j = i + k
        · rw [z, ug_eq, if_neg (by omega), if_pos (by omega), tmod_nn (by omega), co_self H b k, Int.add_emod_emod]
        · rw [ug_k _ _ z, k2 j hj]
          by_cases z2 : j < i
          · rw [if_pos z2, Int.add_zero, co_self H]
          · rw [if_neg z2, if_neg (by omega), Int.mul_zero]
            rw [show (0 : Int) % (p : Int) = 0 by simp, Int.add_zero, co_self H]
      · rintro σ3 rc2 ⟨k1, k2⟩
        refine ⟨fun _ => ⟨by omega, hrc _ ⟨k1, fun j hj => ?_⟩⟩, fun h => by omega⟩
        rw [k2 j hj, tr_all H b (Nat.le_refl _), tr_s H]
        congr 1
        generalize tr co mk i a = x1
        generalize mo p mk (co a i) i = x3
        grind
    · rintro σ2 rc ⟨g1, g2⟩
      refine ⟨fun _ => ?_, fun h => by omega⟩
      have hd2 : dd co (a * b) ≤ 14 := dd_mul_le H (by omega) (Or.inr (Or.inr (by omega)))
      refine Lp1_up 14 (fun k σ' => FT σ σ' [t] ∧ (∀ j : Nat, j < 14 → σ' 309 j = co (a * b) j) ∧ ∀ j : Nat, j < k → σ' 308 (14 * t + j).toNat = co (a * b) j) ⟨g1.mono (by simp), fun j hj => by rw [g2 j hj, tr_0 H]; congr 1; grind, fun j h => by omega⟩ ?_ ?_
      · rintro k σ3 rc2 hk ⟨k1, k2, k3⟩ hrc2
        refine ⟨fun h => by omega, fun _ => ⟨by omega, spec_X10_puts ht (by omega) ⟨by omega, hrc2 _ ⟨k1.tr (FT.put _ ht.1 (by omega) _ (by simp)), fun j hj => ?_, fun j hj => ?_⟩⟩⟩⟩
        · rw [ug_i _ (by decide)]; exact k2 j hj
        · by_cases z : j = k
          · rw [z, ug_eq, Int.toNat_natCast]; exact k2 k hk
          · rw [ug_k _ _ (by omega)]; exact k3 j (by omega)
      · rintro σ3 rc2 ⟨k1, k2, k3⟩
        exact ⟨fun _ => hQ _ k1 ⟨ht, k3, hd2⟩, fun h => by omega⟩
