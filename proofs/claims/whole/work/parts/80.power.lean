theorem spec_X10_takesPower {R : Type} [Lean.Grind.CommRing R] {p : Nat} {co : R → Nat → Int} {mk : (Nat → Int) → R} (H : PD p co mk) {σ : SG} {T : List Int} {k : Nat} {a1 : Int} {f w : R} {Q : Int → SG → Prop} (hT : Txt σ T) (hk : σ 304 10 = k) (hkl : k ≤ T.length) (hp1 : σ 305 0 = p) (hf : f ≠ 0) (hfd : dd co f ≤ 7) (h0 : a1 ≠ 0 → Rr co σ 0 f ∧ Rr co σ 32 w) (hnone : T[k]? ≠ some 94 → ∀ σ', FA σ σ' [32, 14, 15] → σ' 304 10 = k → (a1 ≠ 0 → Rr co σ' 32 w) → Q 1 σ') (hyes : T[k]? = some 94 → ∀ c, T[k + 1]? = some c → 48 ≤ c ∧ c ≤ 57 → ∀ σ', FA σ σ' [32, 14, 15] → σ' 304 10 = (k : Int) + 2 → (a1 ≠ 0 → Rr co σ' 32 (rm co (w ^ (c - 48).toNat) f)) → Q 1 σ') (hbad : T[k]? = some 94 → (T[k + 1]? = none ∨ ∃ c, T[k + 1]? = some c ∧ ¬ (48 ≤ c ∧ c ≤ 57)) → ∀ σ', FA σ σ' [32, 14, 15] → σ' 304 10 = (k : Int) + 1 → Q 0 σ') : wp_X10_takesPower σ a1 Q := by
  unfold wp_X10_takesPower
  have t3 := hT.1.2.2
  refine spec_X10_takes hT hk hkl (fun hc σ1 e1 => ⟨fun _ => ?_, fun h => absurd h (by decide)⟩) (fun hc σ1 e1 => ⟨fun h => absurd rfl h, fun _ => hnone hc σ1 (FA.at e1 _) (by rw [e1, ug_eq]) (fun h => Rr_ug (h0 h).2 e1)⟩)
  have hkl2 := (List.getElem?_eq_some_iff.mp hc).1
  have f1 : FA σ σ1 [32, 14, 15] := FA.at e1 _
  have hT1 : Txt σ1 T := Txt_at hT (fun i hi => f1.1 i (by omega) (by omega) (by omega)) (f1.2.1 8 (by decide))
  have a1' : σ1 304 10 = ((k + 1 : Nat) : Int) := by rw [e1, ug_eq]; omega
  refine spec_X10_isBetween hT1 a1' (fun c hc2 hd => ⟨fun _ => ?_, fun h => absurd h (by decide)⟩) (fun hno => ⟨fun h => absurd rfl h, fun _ => hbad hc hno σ1 f1 (by rw [a1']; omega)⟩)
  have hkl3 := (List.getElem?_eq_some_iff.mp hc2).1
  have hch := (hT1.2 _ c hc2).2.1
  have fin : ∀ σ5, FA σ σ5 [32, 14, 15] → σ5 304 10 = ((k + 1 : Nat) : Int) → (a1 ≠ 0 → Rr co σ5 32 (rm co (w ^ (c - 48).toNat) f)) → inR ((σ5 304 10) + 1) ∧ (∀ σ8 : SG, σ8 = ug σ5 304 10 ((σ5 304 10) + 1) → Q 1 σ8) := by
    intro σ5 f5 a5 r5
    rw [a5]
    refine ⟨by omega, ?_⟩
    intro σ8 e8
    exact hyes hc c hc2 hd σ8 (f5.tr (FA.at e8 _)) (by rw [e8, ug_eq]; omega) (fun h => Rr_ug (r5 h) e8)
  refine jn0_self ⟨fun h => fin σ1 f1 a1' (fun h2 => absurd h h2), fun h => ?_⟩
  rw [a1', Int.toNat_natCast, hch, show c - 48 = (((c - 48).toNat : Nat) : Int) by omega]
  refine ⟨by omega, by omega, ?_⟩
  refine spec_X10_raises H (by rw [f1.1 305 (by decide) (by decide) (by decide)]; exact hp1) (Rr_ug (h0 h).2 e1) (Rr_ug (h0 h).1 e1) (by omega) (by decide) hf hfd (by omega) (fun σ2 k2 m2 => fin σ2 (f1.tr (FA.of k2)) (by rw [k2.1 304 (by decide) (by decide)]; exact a1') (fun _ => ?_))
  exact m2
