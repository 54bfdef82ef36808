theorem spec_X10_joinsSum {R : Type} [Lean.Grind.CommRing R] {p : Nat} {co : R → Nat → Int} {mk : (Nat → Int) → R} (H : PD p co mk) {σ : SG} {d : Nat} {a2 : Int} {s q : R} {Q : SG → Prop} (hσ : σ 305 0 = p) (hd : d < 6) (hs : a2 ≠ 0 → σ 313 d ≠ 0 → Rr co σ (20 + d) s) (hq : a2 ≠ 0 → Rr co σ (26 + d) q) (hQ : ∀ σ', FT σ σ' [20 + (d : Int)] → (a2 ≠ 0 → Rr co σ' (20 + d) (if σ 313 d = 0 then q else if σ 313 d = 43 then s + q else s - q)) → Q σ') : wp_X10_joinsSum σ d a2 Q := by
  unfold wp_X10_joinsSum
  have hp := pd_p H
  refine ⟨fun h => ⟨by omega, ?_⟩, fun h => hQ σ (FT.rf _ _) (fun h2 => absurd h h2)⟩
  rw [Int.toNat_natCast]
  refine ⟨fun h3 => ⟨by omega, by omega, by omega, jn1_self ⟨fun h4 => ⟨by rw [hσ]; omega, ?_⟩, fun h4 => ?_⟩⟩, fun h3 => ⟨by omega, by omega, ?_⟩⟩
  · rw [hσ]
    refine spec_X10_adds H hσ (hq h) (hs h h3) (by omega) (by omega) (fun σ1 k1 m1 => hQ σ1 k1 (fun _ => ?_))
    rw [if_neg h3, if_neg h4]
    rw [mo_pm1 H] at m1
    exact m1
  · refine spec_X10_adds H hσ (hq h) (hs h h3) (by omega) (by omega) (fun σ1 k1 m1 => hQ σ1 k1 (fun _ => ?_))
    rw [if_neg h3, if_pos h4]
    rw [mo_1 H, show s + 1 * q = s + q by grind] at m1
    exact m1
  · refine spec_X10_copies H (hq h) (by omega) (fun σ1 k1 m1 => hQ σ1 k1 (fun _ => ?_))
    rw [if_pos h3]
    exact m1
