/-! the reference goes along an assignment: where it stands -/
def RLs {R : Type} [Lean.Grind.CommRing R] (co : R → Nat → Int) (σ : SG) (v : Nat) (x : R × R × Int × Int) : Prop := (σ 313 v = 0 ∧ x.1 = 0 ∧ x.2.2.1 = 0) ∨ ((σ 313 v = 43 ∧ x.2.2.1 = 0 ∨ σ 313 v = 45 ∧ x.2.2.1 = 1) ∧ Rr co σ (20 + (v : Int)) x.1)
def RLp {R : Type} [Lean.Grind.CommRing R] (co : R → Nat → Int) (σ : SG) (v : Nat) (x : R × R × Int × Int) : Prop := (σ 314 v = 0 ∧ x.2.1 = 1 ∧ x.2.2.2 = 0) ∨ ((σ 314 v = 42 ∧ x.2.2.2 = 0 ∨ σ 314 v = 47 ∧ x.2.2.2 = 1) ∧ Rr co σ (26 + (v : Int)) x.2.1)
theorem RLs_cg {R : Type} [Lean.Grind.CommRing R] {co : R → Nat → Int} {σ σ' : SG} {v : Nat} {x : R × R × Int × Int} (h : RLs co σ v x) (e : σ' 313 v = σ 313 v) (t : ∀ a : R, Rr co σ (20 + (v : Int)) a → Rr co σ' (20 + (v : Int)) a) : RLs co σ' v x := by
  rcases h with ⟨h1, h2⟩ | ⟨h1, h2⟩
  · exact Or.inl ⟨by rw [e]; exact h1, h2⟩
  · exact Or.inr ⟨by rw [e]; exact h1, t _ h2⟩
theorem RLp_cg {R : Type} [Lean.Grind.CommRing R] {co : R → Nat → Int} {σ σ' : SG} {v : Nat} {x : R × R × Int × Int} (h : RLp co σ v x) (e : σ' 314 v = σ 314 v) (t : ∀ a : R, Rr co σ (26 + (v : Int)) a → Rr co σ' (26 + (v : Int)) a) : RLp co σ' v x := by
  rcases h with ⟨h1, h2⟩ | ⟨h1, h2⟩
  · exact Or.inl ⟨by rw [e]; exact h1, h2⟩
  · exact Or.inr ⟨by rw [e]; exact h1, t _ h2⟩
def FG (σ σ' : SG) : Prop := (∀ i, i ≠ 304 → i ≠ 305 → i ≠ 308 → i ≠ 309 → i ≠ 313 → i ≠ 314 → σ' i = σ i) ∧ ∀ k, k ≠ 10 → σ' 304 k = σ 304 k
theorem FG.rf (σ : SG) : FG σ σ := ⟨fun _ _ _ _ _ _ _ => rfl, fun _ _ => rfl⟩
theorem FG.tr {σ σ' σ'' : SG} (h : FG σ σ') (k : FG σ' σ'') : FG σ σ'' := ⟨fun i a b c d e f => (k.1 i a b c d e f).trans (h.1 i a b c d e f), fun j hj => (k.2 j hj).trans (h.2 j hj)⟩
theorem FG.ofA {σ σ' : SG} {L : List Int} (h : FA σ σ' L) : FG σ σ' := ⟨fun i a _ c d _ _ => h.1 i a c d, h.2.1⟩
theorem FG.ofN {σ σ' : SG} {L : List Int} (h : FN σ σ' L) : FG σ σ' := ⟨fun i _ b c d _ _ => h.1 i b c d, fun k _ => by rw [h.1 304 (by decide) (by decide) (by decide)]⟩
theorem FG.of13 {σ σ' : SG} {k : Nat} {z : Int} (e : σ' = ug σ 313 k z) : FG σ σ' := ⟨fun i _ _ _ _ a _ => by rw [e, ug_ne _ a], fun k _ => by rw [e, ug_ne _ (by decide)]⟩
theorem FG.of14 {σ σ' : SG} {k : Nat} {z : Int} (e : σ' = ug σ 314 k z) : FG σ σ' := ⟨fun i _ _ _ _ _ a => by rw [e, ug_ne _ a], fun k _ => by rw [e, ug_ne _ (by decide)]⟩
theorem FG.at {σ σ' : SG} {z : Int} (e : σ' = ug σ 304 10 z) : FG σ σ' := FG.ofA (FA.at e [])
theorem FG.txt {σ σ' : SG} {T : List Int} (hT : Txt σ T) (h : FG σ σ') : Txt σ' T := Txt_at hT (fun i hi => h.1 i (by omega) (by omega) (by omega) (by omega) (by omega) (by omega)) (h.2 8 (by decide))
theorem Rr_tab {R : Type} {co : R → Nat → Int} {σ σ' : SG} {q : Int} {a : R} (h : Rr co σ q a) (e : σ' 308 = σ 308) : Rr co σ' q a := ⟨h.1, fun k hk => by rw [e]; exact h.2.1 k hk, h.2.2⟩
/-- what holds wherever it stands -/
def GB {R : Type} [Lean.Grind.CommRing R] (p : Nat) (co : R → Nat → Int) (mk : (Nat → Int) → R) (σ0 : SG) (T : List Int) (f : R) (g : Nat → R) (a1 : Int) (σ : SG) (k d : Nat) (lev : Nat → R × R × Int × Int) (w : R) (L : List R) : Prop :=
  (FG σ0 σ ∧ σ 304 10 = k ∧ (2 ≤ k ∧ k ≤ T.length) ∧ d ≤ 5) ∧ (Awn co (σ 305) p f g L ∧ Val p co mk f g L ∧ (a1 = 0 → σ 305 = σ0 305)) ∧ ((∀ v, v ≤ d → Dl co (dd co f) (lev v)) ∧ dd co w < dd co f) ∧ (a1 ≠ 0 → Rr co σ 0 f ∧ (∀ v, v < d → RLs co σ v (lev v) ∧ RLp co σ v (lev v)) ∧ RLs co σ d (lev d))
/-- ahead of a factor -/
def GH {R : Type} [Lean.Grind.CommRing R] (p : Nat) (co : R → Nat → Int) (mk : (Nat → Int) → R) (σ0 : SG) (T : List Int) (f : R) (g : Nat → R) (a1 : Int) (Z : R × List R) (σ : SG) (k d : Nat) (lev : Nat → R × R × Int × Int) (w : R) (L : List R) : Prop :=
  GB p co mk σ0 T f g a1 σ k d lev w L ∧ af (T.drop k) k 0 d = asf T ∧ (a1 ≠ 0 → RLp co σ d (lev d) ∧ rk p co mk f g (T.drop k) 0 d lev w L = Z)
/-- behind a factor, ahead of its power -/
def GP {R : Type} [Lean.Grind.CommRing R] (p : Nat) (co : R → Nat → Int) (mk : (Nat → Int) → R) (σ0 : SG) (T : List Int) (f : R) (g : Nat → R) (a1 : Int) (Z : R × List R) (σ : SG) (k d : Nat) (lev : Nat → R × R × Int × Int) (w : R) (L : List R) : Prop :=
  GB p co mk σ0 T f g a1 σ k d lev w L ∧ af (T.drop k) k 1 d = asf T ∧ (a1 ≠ 0 → RLp co σ d (lev d) ∧ Rr co σ 32 w ∧ rk p co mk f g (T.drop k) 1 d lev w L = Z)
/-- behind a product -/
def GJ {R : Type} [Lean.Grind.CommRing R] (p : Nat) (co : R → Nat → Int) (mk : (Nat → Int) → R) (σ0 : SG) (T : List Int) (f : R) (g : Nat → R) (a1 : Int) (Z : R × List R) (σ : SG) (k : Nat) (e : Int) (d : Nat) (lev : Nat → R × R × Int × Int) (w : R) (L : List R) : Prop :=
  GB p co mk σ0 T f g a1 σ k d lev w L ∧ (af (T.drop k) k e d = asf T ∧ (e = 1 ∧ T[k]? ≠ some 94 ∨ e = 3)) ∧ (a1 ≠ 0 → Rr co σ (26 + (d : Int)) (jq co f (lev d) w) ∧ ∃ L0, L = jl co (lev d) w L0 ∧ rk p co mk f g (T.drop k) e d lev w L0 = Z)
/-- it has met the fault -/
def G0 (σ0 : SG) (T : List Int) (a1 : Int) (Q : Int → SG → Prop) : Prop := ∀ σ' : SG, FG σ0 σ' → (a1 = 0 → σ' 305 = σ0 305) → σ' 304 10 = asf T → 0 ≤ asf T → Q 0 σ'
/-- it has come to the end -/
def G1 {R : Type} [Lean.Grind.CommRing R] (p : Nat) (co : R → Nat → Int) (mk : (Nat → Int) → R) (σ0 : SG) (T : List Int) (f : R) (g : Nat → R) (a1 : Int) (Z : R × List R) (Q : Int → SG → Prop) : Prop := ∀ (σ' : SG) L', FG σ0 σ' → (a1 = 0 → σ' 305 = σ0 305) → Awn co (σ' 305) p f g L' → Val p co mk f g L' → asf T = -1 → (a1 ≠ 0 → ∃ y, (y, L') = Z ∧ Rr co σ' 20 y ∧ dd co y < dd co f) → Q 1 σ'
theorem af_none {k : Nat} {e d : Int} (h : e = 0 ∨ e = 2) : af [] k e d = k := by
  unfold af
  split
  · rfl
  · rw [if_neg (by omega)]
theorem af_bad {c : Int} {r : List Int} {k : Nat} {e d : Int} (h : xb c e < 0 ∨ d + xd c < 0 ∨ 5 < d + xd c) : af (c :: r) k e d = k := by
  unfold af
  rw [if_pos h]
theorem af_ok {c : Int} {r : List Int} {k : Nat} {e d : Int} (h : 0 ≤ xb c e) (h1 : 0 ≤ d + xd c) (h2 : d + xd c ≤ 5) : af (c :: r) k e d = af r (k + 1) (xb c e) (d + xd c) := by
  rw [af, if_neg (by omega)]
theorem drop_none {T : List Int} {k : Nat} (h : T[k]? = none) : T.drop k = [] := List.drop_eq_nil_of_le (by have := List.getElem?_eq_none_iff.mp h; omega)
theorem jq_tp {R : Type} [Lean.Grind.CommRing R] {p : Nat} {co : R → Nat → Int} {mk : (Nat → Int) → R} (H : PD p co mk) {σ : SG} {f w : R} {v : Nat} {x : R × R × Int × Int} (h : RLp co σ v x) (hw : dd co w < dd co f) : (if σ 314 v = 0 then w else if σ 314 v = 42 then rm co (x.2.1 * w) f else rm co (x.2.1 * qe co f w) f) = jq co f x w := by
  unfold jq
  rcases h with ⟨h1, h2, h3⟩ | ⟨⟨h1, h2⟩ | ⟨h1, h2⟩, h3⟩
  · rw [if_pos h1, if_pos h3, h2, show (1 : R) * w = w by grind, rm_small H hw]
  · rw [if_neg (by omega), if_pos h1, if_pos h2]
  · rw [if_neg (by omega), if_neg (by omega), if_neg (by omega)]
theorem jl_tp {R : Type} [Lean.Grind.CommRing R] {p : Nat} {co : R → Nat → Int} {mk : (Nat → Int) → R} (H : PD p co mk) {σ : SG} {w : R} {v : Nat} {x : R × R × Int × Int} {L L' : List R} (h : RLp co σ v x) (hp : L'.Perm (if σ 314 v = 0 ∨ σ 314 v = 42 then L else ptl co w L)) (hs : Srt co L) (hs' : Srt co L') : L' = jl co x w L := by
  unfold jl
  rcases h with ⟨h1, h2, h3⟩ | ⟨⟨h1, h2⟩ | ⟨h1, h2⟩, h3⟩
  · rw [if_pos (Or.inl h1)] at hp
    rw [if_pos h3]
    exact Srt_uniq H hp hs' hs
  · rw [if_pos (Or.inr h1)] at hp
    rw [if_pos h2]
    exact Srt_uniq H hp hs' hs
  · rw [if_neg (by omega)] at hp
    rw [if_neg (by omega)]
    exact pl_eq H hp hs'
theorem js_tp {R : Type} [Lean.Grind.CommRing R] {co : R → Nat → Int} {σ : SG} {q : R} {v : Nat} {x : R × R × Int × Int} (h : RLs co σ v x) : (if σ 313 v = 0 then q else if σ 313 v = 43 then x.1 + q else x.1 - q) = js x q := by
  unfold js
  rcases h with ⟨h1, h2, h3⟩ | ⟨⟨h1, h2⟩ | ⟨h1, h2⟩, h3⟩
  · rw [if_pos h1, if_pos h3, h2]; grind
  · rw [if_neg (by omega), if_pos h1, if_pos h2]
  · rw [if_neg (by omega), if_neg (by omega), if_neg (by omega)]
theorem Rr_fn2 {R : Type} {co : R → Nat → Int} {σ σ' : SG} {q : Int} {a : R} {d : Nat} (h : Rr co σ q a) (hf : FN σ σ' ((26 + (d : Int)) :: QN)) (hq : q = 0 ∨ 20 ≤ q) (hd : q ≠ 26 + (d : Int)) : Rr co σ' q a := Rr_fn h hf (fun e => by
  rcases List.mem_cons.mp e with e | e
  · exact hd e
  · have : ∀ r ∈ QN, r ≠ 0 ∧ r < 20 := by decide
    have := this q e
    omega)
theorem spec_X10_copiesRaw {σ : SG} {u t : Int} {Q : SG → Prop} (hu : 0 ≤ u ∧ u < 60) (ht : 0 ≤ t ∧ t < 60) (hut : u ≠ t) (hQ : ∀ σ', FT σ σ' [t] → (∀ j : Nat, j < 14 → σ' 308 (14 * t + j).toNat = σ 308 (14 * u + j).toNat) → Q σ') : wp_X10_copies σ u t Q := by
  unfold wp_X10_copies
  refine Lp1_up 14 (fun k σ' => FT σ σ' [t] ∧ ∀ j : Nat, j < k → σ' 308 (14 * t + j).toNat = σ 308 (14 * u + j).toNat) ⟨FT.rf _ _, fun j h => by omega⟩ ?_ ?_
  · rintro k σ1 rc hk ⟨h1, h3⟩ hrc
    refine ⟨fun h => by omega, fun _ => ?_⟩
    unfold wp_X10_of
    refine ⟨by omega, by omega, by omega, ?_⟩
    have hv : σ1 308 (14 * u + k).toNat = σ 308 (14 * u + k).toNat := h1.2 _ (fun r hr => by rw [List.mem_singleton.mp hr]; omega)
    rw [hv]
    refine spec_X10_puts ht (by omega) ⟨by omega, hrc _ ⟨h1.tr (FT.put _ ht.1 (by omega) _ (by simp)), fun j hj => ?_⟩⟩
    by_cases z : j = k
    · rw [z, ug_eq]
    · rw [ug_k _ _ (by omega)]; exact h3 j (by omega)
  · rintro σ1 rc ⟨h1, h3⟩
    exact ⟨fun _ => hQ _ h1 h3, fun h => by omega⟩
theorem GB_A {R : Type} [Lean.Grind.CommRing R] {p : Nat} {co : R → Nat → Int} {mk : (Nat → Int) → R} {σ0 σ σ' : SG} {T : List Int} {f : R} {g : Nat → R} {a1 : Int} {k k' d : Nat} {lev : Nat → R × R × Int × Int} {w w' : R} {L : List R} {S : List Int} (hB : GB p co mk σ0 T f g a1 σ k d lev w L) (hf : FA σ σ' S) (hS : ∀ r ∈ S, r ≠ 0 ∧ (r < 20 ∨ 31 < r)) (ha : σ' 304 10 = k') (hk : 2 ≤ k' ∧ k' ≤ T.length) (hw : dd co w' < dd co f) : GB p co mk σ0 T f g a1 σ' k' d lev w' L ∧ (RLp co σ d (lev d) → RLp co σ' d (lev d)) := by
  obtain ⟨⟨b1, b2, b3, b4⟩, ⟨b5, b6, b7⟩, ⟨b8, b9⟩, b10⟩ := hB
  have e305 : σ' 305 = σ 305 := hf.1 305 (by decide) (by decide) (by decide)
  have e313 : σ' 313 = σ 313 := hf.1 313 (by decide) (by decide) (by decide)
  have e314 : σ' 314 = σ 314 := hf.1 314 (by decide) (by decide) (by decide)
  have t : ∀ (r : Int) (a : R), r = 0 ∨ (20 ≤ r ∧ r ≤ 31) → Rr co σ r a → Rr co σ' r a := fun r a hr h => Rr_fa h hf (fun e => by have := hS r e; omega)
  have s1 : ∀ v, v ≤ d → RLs co σ v (lev v) → RLs co σ' v (lev v) := fun v hv h => RLs_cg h (by rw [e313]) (fun a => t _ a (by omega))
  have s2 : ∀ v, v ≤ d → RLp co σ v (lev v) → RLp co σ' v (lev v) := fun v hv h => RLp_cg h (by rw [e314]) (fun a => t _ a (by omega))
  exact ⟨⟨⟨b1.tr (FG.ofA hf), ha, hk, b4⟩, ⟨by rw [e305]; exact b5, b6, fun h => by rw [e305]; exact b7 h⟩, ⟨b8, hw⟩, fun h => ⟨t 0 f (Or.inl rfl) (b10 h).1, fun v hv => ⟨s1 v (by omega) ((b10 h).2.1 v hv).1, s2 v (by omega) ((b10 h).2.1 v hv).2⟩, s1 d (Nat.le_refl _) (b10 h).2.2⟩⟩, s2 d (Nat.le_refl _)⟩
theorem ga_power {R : Type} [Lean.Grind.CommRing R] {p : Nat} {co : R → Nat → Int} {mk : (Nat → Int) → R} (H : PD p co mk) {σ0 σ : SG} {T : List Int} {f : R} {g : Nat → R} {a1 : Int} {Z : R × List R} {k d : Nat} {lev : Nat → R × R × Int × Int} {w : R} {L : List R} {Q : Int → SG → Prop} {K : SG → Prop} (hT0 : Txt σ0 T) (hP : GP p co mk σ0 T f g a1 Z σ k d lev w L) (h0 : G0 σ0 T a1 Q) (hK : ∀ (σ' : SG) k' e' w' L', k ≤ k' → GJ p co mk σ0 T f g a1 Z σ' k' e' d lev w' L' → K σ') : wp_X10_takesPower σ a1 (fun z σ' => (¬ z = 0 → wp_X10_joinsProduct σ' d a1 K) ∧ (z = 0 → Q 0 σ')) := by
  obtain ⟨hB, hA1, hv⟩ := hP
  obtain ⟨⟨b1, b2, b3, b4⟩, ⟨b5, b6, b7⟩, ⟨b8, b9⟩, b10⟩ := id hB
  have hT := FG.txt hT0 b1
  have hf0 := Val_ne H b6
  have hfd := b6.2.1
  have t3 := hT0.1.2.2
  have join : ∀ (σ1 : SG) k1 e1 w1, GB p co mk σ0 T f g a1 σ1 k1 d lev w1 L → af (T.drop k1) k1 e1 d = asf T → (e1 = 1 ∧ T[k1]? ≠ some 94 ∨ e1 = 3) → (a1 ≠ 0 → RLp co σ1 d (lev d) ∧ Rr co σ1 32 w1 ∧ rk p co mk f g (T.drop k1) e1 d lev w1 L = Z) → k ≤ k1 → wp_X10_joinsProduct σ1 d a1 K := by
    intro σ1 k1 e1 w1 hB1 hA hE hv1 hle
    obtain ⟨⟨c1, c2, c3, c4⟩, ⟨c5, c6, c7⟩, ⟨c8, c9⟩, c10⟩ := hB1
    refine spec_X10_joinsProduct H (u := (lev d).2.1) (w := w1) c5 c6 (by omega) (fun h => (c10 h).1) (fun h => (hv1 h).2.1) (fun h h3 => ?_) c9 (c8 d (Nat.le_refl _)).2 (fun σ2 L2 v f2 A2 V2 z2 n2 => hK σ2 k1 e1 w1 L2 hle ?_)
    · rcases (hv1 h).1 with ⟨q, _⟩ | ⟨_, q⟩
      · exact absurd q h3
      · exact q
    · have e313 : σ2 313 = σ1 313 := f2.1 313 (by decide) (by decide) (by decide)
      have e314 : σ2 314 = σ1 314 := f2.1 314 (by decide) (by decide) (by decide)
      refine ⟨⟨⟨c1.tr (FG.ofN f2), by rw [f2.1 304 (by decide) (by decide) (by decide)]; exact c2, c3, c4⟩, ⟨A2, V2, fun h => by rw [z2 h]; exact c7 h⟩, ⟨c8, c9⟩, fun h => ⟨Rr_fn2 (c10 h).1 f2 (Or.inl rfl) (by omega), fun v hv => ⟨RLs_cg ((c10 h).2.1 v hv).1 (by rw [e313]) (fun a ha => Rr_fn2 ha f2 (by omega) (by omega)), RLp_cg ((c10 h).2.1 v hv).2 (by rw [e314]) (fun a ha => Rr_fn2 ha f2 (by omega) (by omega))⟩, RLs_cg (c10 h).2.2 (by rw [e313]) (fun a ha => Rr_fn2 ha f2 (by omega) (by omega))⟩⟩, ⟨hA, hE⟩, fun h => ?_⟩
      obtain ⟨ev, rv, pv⟩ := n2 h
      rw [ev, jq_tp H (hv1 h).1 c9] at rv
      exact ⟨rv, L, jl_tp H (hv1 h).1 pv c6.2.2.2.2.2 V2.2.2.2.2.2, (hv1 h).2.2⟩
  have hS : ∀ r ∈ [(32 : Int), 14, 15], r ≠ 0 ∧ (r < 20 ∨ 31 < r) := by decide
  have x1 : xb 94 1 = 2 := by decide
  have x2 : xd 94 = 0 := by decide
  refine spec_X10_takesPower H hT b2 b3.2 b5.1 hf0 hfd.2 (fun h => ⟨(b10 h).1, (hv h).2.1⟩) (fun hn σ' f' a' r' => ⟨fun _ => ?_, fun h => absurd h (by decide)⟩) (fun hc c hc2 hd σ' f' a' r' => ⟨fun _ => ?_, fun h => absurd h (by decide)⟩) (fun hc hno σ' f' a' => ⟨fun h => absurd rfl h, fun _ => ?_⟩)
  · obtain ⟨B1, p1⟩ := GB_A hB f' hS a' b3 b9
    exact join σ' k 1 w B1 hA1 (Or.inl ⟨rfl, hn⟩) (fun h => ⟨p1 (hv h).1, r' h, (hv h).2.2⟩) (Nat.le_refl _)
  · have hk2 := (List.getElem?_eq_some_iff.mp hc2).1
    have x3 : xb c 2 = 3 := by unfold xb; rw [if_neg (by decide), if_pos rfl, if_pos hd]
    have x4 : xd c = 0 := xd_0 (by omega) (by omega)
    obtain ⟨B1, p1⟩ := GB_A (k' := k + 2) (w' := rm co (w ^ (c - 48).toNat) f) hB f' hS (by rw [a']; omega) (by omega) (rm_spec H _ hf0).2
    rw [drop_some hc, af_ok (by omega) (by omega) (by omega), drop_some hc2, x1, x2, af_ok (by omega) (by omega) (by omega), x3, x4, Int.add_zero, Int.add_zero] at hA1
    refine join σ' (k + 2) 3 _ B1 hA1 (Or.inr rfl) (fun h => ⟨p1 (hv h).1, r' h, ?_⟩) (by omega)
    have h3 := (hv h).2.2
    rw [drop_some hc, rk, if_neg (by decide), if_neg (by decide), if_neg (by decide), if_neg (by decide), if_pos rfl, drop_some hc2, rk, if_neg (by omega), if_neg (by omega), if_neg (by omega), if_neg (by omega), if_neg (by omega), if_pos rfl] at h3
    exact h3
  · rw [drop_some hc, af_ok (by omega) (by omega) (by omega), x1, x2, Int.add_zero] at hA1
    have hA2 : ((k + 1 : Nat) : Int) = asf T := by
      rcases hno with hn | ⟨c, hc2, hd⟩
      · rw [drop_none hn, af_none (Or.inr rfl)] at hA1
        exact hA1
      · rw [drop_some hc2, af_bad (Or.inl (by unfold xb; rw [if_neg (by decide), if_pos rfl, if_neg hd]; decide))] at hA1
        exact hA1
    exact h0 σ' (b1.tr (FG.ofA f')) (fun h => by rw [f'.1 305 (by decide) (by decide) (by decide)]; exact b7 h) (by rw [a', ← hA2]; omega) (by omega)
