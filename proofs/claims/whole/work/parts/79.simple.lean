/-! the reference reads a simple factor -/
def FA (σ σ' : SG) (L : List Int) : Prop := (∀ i, i ≠ 304 → i ≠ 308 → i ≠ 309 → σ' i = σ i) ∧ (∀ k, k ≠ 10 → σ' 304 k = σ 304 k) ∧ ∀ j : Nat, (∀ r ∈ L, ¬ (14 * r ≤ j ∧ (j : Int) < 14 * r + 14)) → σ' 308 j = σ 308 j
theorem FA.rf (σ : SG) (L : List Int) : FA σ σ L := ⟨fun _ _ _ _ => rfl, fun _ _ => rfl, fun _ _ => rfl⟩
theorem FA.tr {σ σ' σ'' : SG} {L : List Int} (h : FA σ σ' L) (k : FA σ' σ'' L) : FA σ σ'' L := ⟨fun i a b c => (k.1 i a b c).trans (h.1 i a b c), fun j hj => (k.2.1 j hj).trans (h.2.1 j hj), fun j hj => (k.2.2 j hj).trans (h.2.2 j hj)⟩
theorem FA.of {σ σ' : SG} {L : List Int} (h : FT σ σ' L) : FA σ σ' L := ⟨fun i _ b c => h.1 i b c, fun k _ => by rw [h.1 304 (by decide) (by decide)], h.2⟩
theorem FA.at {σ σ' : SG} {z : Int} (e : σ' = ug σ 304 10 z) (L : List Int) : FA σ σ' L := ⟨fun i a _ _ => by rw [e, ug_ne _ a], fun k hk => by rw [e, ug_k _ _ hk], fun j _ => by rw [e, ug_ne _ (by decide)]⟩
theorem Rr_fa {R : Type} {co : R → Nat → Int} {σ σ' : SG} {q : Int} {a : R} {L : List Int} (h : Rr co σ q a) (hf : FA σ σ' L) (hq : q ∉ L) : Rr co σ' q a :=
  ⟨h.1, fun k hk => by
    have h0 := h.1
    rw [hf.2.2 _ (fun r hr => ?_), h.2.1 k hk]
    have : r ≠ q := fun e => hq (e ▸ hr)
    omega, h.2.2⟩
theorem Rr_ug {R : Type} {co : R → Nat → Int} {σ σ' : SG} {q : Int} {a : R} {z : Int} (h : Rr co σ q a) (e : σ' = ug σ 304 10 z) : Rr co σ' q a := ⟨h.1, fun k hk => by rw [e, ug_ne _ (by decide)]; exact h.2.1 k hk, h.2.2⟩
noncomputable def smp {R : Type} (p : Nat) (mk : (Nat → Int) → R) (g : Nat → R) (c : Int) : R := if 97 ≤ c ∧ c ≤ 102 then g (c - 97).toNat else if c = 120 then xx p mk else mo p mk (c - 48) 0
theorem spec_X10_takesSimple {R : Type} [Lean.Grind.CommRing R] {p : Nat} {co : R → Nat → Int} {mk : (Nat → Int) → R} (H : PD p co mk) {σ : SG} {T : List Int} {k : Nat} {a1 : Int} {f : R} {g : Nat → R} {L : List R} {Q : Int → SG → Prop} (hT : Txt σ T) (hk : σ 304 10 = k) (hA : Awn co (σ 305) p f g L) (hV : Val p co mk f g L) (h0 : a1 ≠ 0 → Rr co σ 0 f) (h1 : ∀ c, T[k]? = some c → xb c 0 = 1 → ∀ σ', FA σ σ' [32] → σ' 304 10 = (k : Int) + 1 → (a1 ≠ 0 → Rr co σ' 32 (rm co (smp p mk g c) f)) → Q 1 σ') (hno : (T[k]? = none ∨ ∃ c, T[k]? = some c ∧ xb c 0 ≠ 1) → Q 0 σ) : wp_X10_takesSimple σ a1 Q := by
  unfold wp_X10_takesSimple
  have t3 := hT.1.2.2
  have hf0 := Val_ne H hV
  have hp := pd_p H
  -- behind the loading
  have fin : ∀ (c : Int) (v : R), T[k]? = some c → xb c 0 = 1 → smp p mk g c = v → ∀ σ1, FT σ σ1 [32] → Rr co σ1 32 v → inR ((σ1 304 10) + 1) ∧ (∀ σ2 : SG, σ2 = ug σ1 304 10 ((σ1 304 10) + 1) → ((a1 = 0 → Q 1 σ2) ∧ (¬ a1 = 0 → wp_X10_divides σ2 32 0 (-1) (fun (σ12 : SG) => Q 1 σ12)))) := by
    intro c v hc hx hv σ1 f1 r1
    have hkl := (List.getElem?_eq_some_iff.mp hc).1
    rw [f1.1 304 (by decide) (by decide), hk]
    refine ⟨by omega, ?_⟩
    intro σ2 e2
    have g2 : FA σ σ2 [32] := (FA.of f1).tr (FA.at e2 _)
    have a2 : σ2 304 10 = (k : Int) + 1 := by rw [e2, ug_eq]
    refine ⟨fun h => h1 c hc hx σ2 g2 a2 (fun h2 => absurd h h2), fun h => ?_⟩
    refine spec_X10_divides H (by rw [g2.1 305 (by decide) (by decide) (by decide)]; exact hA.1) (Rr_ug r1 e2) (Rr_fa (h0 h) g2 (by decide)) (by decide) (by decide) (by decide) (by decide) hf0 (fun σ3 k3 m3 _ => ?_)
    have k3 : FT σ2 σ3 [32] := FT_w k3 (by decide)
    exact h1 c hc hx σ3 (g2.tr (FA.of k3)) (by rw [k3.1 304 (by decide) (by decide)]; exact a2) (fun _ => by rw [hv]; exact m3)
  refine spec_X10_isBetween hT hk (fun c hc hb => ⟨fun h => absurd h (by decide), fun _ => ?_⟩) (fun n1 => ⟨fun _ => spec_X10_isBetween hT hk (fun c hc hb => ⟨fun h => absurd h (by decide), fun _ => ?_⟩) (fun n2 => ⟨fun _ => spec_X10_isBetween hT hk (fun c hc hb => ⟨fun h => absurd h (by decide), fun _ => ?_⟩) (fun n3 => ⟨fun _ => hno ?_, fun h => absurd rfl h⟩), fun h => absurd rfl h⟩), fun h => absurd rfl h⟩)
  · have hkl := (List.getElem?_eq_some_iff.mp hc).1
    have hch := (hT.2 k c hc).2.1
    rw [hk, Int.toNat_natCast, hch, show c - 97 = (((c - 97).toNat : Nat) : Int) by omega]
    exact ⟨by omega, by omega, spec_X10_loadsNumber H hA hV (by omega) (by omega) (fun σ1 k1 m1 => fin c _ hc (by unfold xb; rw [if_pos rfl, if_pos (Or.inl hb)]) (by unfold smp; rw [if_pos hb]) σ1 k1 m1)⟩
  · have e : c = 120 := by omega
    subst e
    exact spec_X10_xrow H (by omega) (fun σ1 k1 m1 => fin 120 _ hc (by decide) (by unfold smp; rw [if_neg (by decide), if_pos rfl]) σ1 k1 m1)
  · have hkl := (List.getElem?_eq_some_iff.mp hc).1
    have hch := (hT.2 k c hc).2.1
    rw [hk, Int.toNat_natCast, hch]
    exact ⟨by omega, by omega, spec_X10_constant H hA.1 (by omega) (by omega) (fun σ1 k1 m1 => fin c _ hc (by unfold xb; rw [if_pos rfl, if_pos (Or.inr (Or.inl hb))]) (by unfold smp; rw [if_neg (by omega), if_neg (by omega)]) σ1 k1 m1)⟩
  · rcases n1 with n1 | ⟨c, hc, n1⟩
    · exact Or.inl n1
    · refine Or.inr ⟨c, hc, ?_⟩
      have m2 : ¬ (120 ≤ c ∧ c ≤ 120) := by
        rcases n2 with n2 | ⟨c', hc', n2⟩
        · rw [n2] at hc; cases hc
        · rw [hc] at hc'; cases hc'; exact n2
      have m3 : ¬ (48 ≤ c ∧ c ≤ 57) := by
        rcases n3 with n3 | ⟨c', hc', n3⟩
        · rw [n3] at hc; cases hc
        · rw [hc] at hc'; cases hc'; exact n3
      unfold xb
      rw [if_pos rfl, if_neg (by omega)]
      split <;> decide
