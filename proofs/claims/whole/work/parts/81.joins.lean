theorem spec_X10_joinsSum {R : Type} [Lean.Grind.CommRing R] {p : Nat} {co : R → Nat → Int} {mk : (Nat → Int) → R} (H : PD p co mk) {σ : SG} {d : Nat} {a2 : Int} {s q : R} {Q : SG → Prop} (hσ : σ 305 0 = p) (hd : d < 6) (hs : a2 ≠ 0 → σ 313 d ≠ 0 → Rr co σ (20 + d) s) (hq : a2 ≠ 0 → Rr co σ (26 + d) q) (hQ : ∀ σ', FT σ σ' [20 + (d : Int)] → (a2 ≠ 0 → Rr co σ' (20 + d) (if σ 313 d = 0 then q else if σ 313 d = 43 then s + q else s - q)) → Q σ') : wp_X10_joinsSum σ d a2 Q := by
  unfold wp_X10_joinsSum
  have hp := pd_p H
  refine ⟨fun h => ⟨by omega, ?_⟩, fun h => hQ σ (FT.rf _ _) (fun h2 => absurd h h2)⟩
  rw [Int.toNat_natCast]
  refine ⟨fun h3 => ⟨by omega, by omega, by omega, jn1_self ⟨fun h4 => ⟨by rw [hσ]; omega, ?_⟩, fun h4 => ?_⟩⟩, fun h3 => ⟨by omega, by omega, ?_⟩⟩
  · rw [hσ]
    refine spec_X10_adds H hσ (hq h) (hs h h3) (by omega) (by omega) (fun σ1 k1 m1 => hQ σ1 k1 (fun _ => ?_))
    rw [if_neg h3, if_neg h4]
    rw [mo_pm1 H] at m1
    exact m1
  · refine spec_X10_adds H hσ (hq h) (hs h h3) (by omega) (by omega) (fun σ1 k1 m1 => hQ σ1 k1 (fun _ => ?_))
    rw [if_neg h3, if_pos h4]
    rw [mo_1 H, show s + 1 * q = s + q by grind] at m1
    exact m1
  · refine spec_X10_copies H (hq h) (by omega) (fun σ1 k1 m1 => hQ σ1 k1 (fun _ => ?_))
    rw [if_pos h3]
    exact m1
/-- behind a factor: the product so far, with the branches that a quotient parts -/
theorem spec_X10_joinsProduct {R : Type} [Lean.Grind.CommRing R] {p : Nat} {co : R → Nat → Int} {mk : (Nat → Int) → R} (H : PD p co mk) {σ : SG} {d : Nat} {a2 : Int} {f u w : R} {g : Nat → R} {L : List R} {Q : SG → Prop} (hA : Awn co (σ 305) p f g L) (hV : Val p co mk f g L) (hd : d < 6) (h0 : a2 ≠ 0 → Rr co σ 0 f) (hw : a2 ≠ 0 → Rr co σ 32 w) (hu : a2 ≠ 0 → σ 314 d ≠ 0 → Rr co σ (26 + d) u) (hdw : dd co w < dd co f) (hdu : dd co u < dd co f) (hQ : ∀ σ' L' v, FN σ σ' ((26 + (d : Int)) :: QN) → Awn co (σ' 305) p f g L' → Val p co mk f g L' → (a2 = 0 → σ' = σ) → (a2 ≠ 0 → v = (if σ 314 d = 0 then w else if σ 314 d = 42 then rm co (u * w) f else rm co (u * qe co f w) f) ∧ Rr co σ' (26 + d) v ∧ L'.Perm (if σ 314 d = 0 ∨ σ 314 d = 42 then L else ptl co w L)) → Q σ') : wp_X10_joinsProduct σ d a2 Q := by
  unfold wp_X10_joinsProduct
  have hfd := hV.2.1
  have hf0 := Val_ne H hV
  have hB := Bl_of H hA hV
  have hsame : ∀ σ1, FT σ σ1 [26 + (d : Int)] → FN σ σ1 ((26 + (d : Int)) :: QN) ∧ Awn co (σ1 305) p f g L := fun σ1 k1 => ⟨FN.of (k1.mono (by simp)), by rw [k1.p]; exact hA⟩
  refine ⟨fun h => ⟨by omega, ?_⟩, fun h => hQ σ L w (FN.rf _ _) hA hV (fun _ => rfl) (fun h2 => absurd h h2)⟩
  rintro v2 rfl
  rw [Int.toNat_natCast]
  refine ⟨by omega, fun h3 => ⟨by omega, fun h4 => ?_, fun h4 => ?_⟩, fun h3 => ?_⟩
  · refine spec_X10_quotient H hA.1 (h0 h) hV.1 hfd.2 hV.2.2.1 hB hV.2.2.2.2.1 (hu h h3) (hw h) (by omega) (by decide) (by omega) hdu hdw (fun σ1 L1 f1 B1 p1 s1 G1 m1 => hQ σ1 L1 _ f1 (Awn_N hA f1 B1) (Val_L H hV G1 s1) (fun h2 => absurd h2 h) (fun _ => ⟨rfl, ?_, ?_⟩))
    · rw [if_neg h3, if_neg h4]; exact m1
    · rw [if_neg (by omega)]; exact p1
  · refine spec_X10_multiplies H hA.1 (hu h h3) (hw h) (by omega) (by omega) (fun σ1 k1 m1 => ?_)
    refine spec_X10_divides H (by rw [k1.p]; exact hA.1) m1 (Rr_ft (h0 h) k1 (by simp; omega)) (by omega) (by omega) (by decide) (by decide) hf0 (fun σ2 k2 m2 _ => ?_)
    have k2 : FT σ1 σ2 [26 + (d : Int)] := FT_w k2 (by simp)
    obtain ⟨e1, e2⟩ := hsame σ2 (k1.tr k2)
    refine hQ σ2 L _ e1 e2 hV (fun h2 => absurd h2 h) (fun _ => ⟨rfl, ?_, ?_⟩)
    · rw [if_neg h3, if_pos h4]; exact m2
    · rw [if_pos (Or.inr h4)]
  · refine spec_X10_copies H (hw h) (by omega) (fun σ1 k1 m1 => ?_)
    obtain ⟨e1, e2⟩ := hsame σ1 k1
    refine hQ σ1 L _ e1 e2 hV (fun h2 => absurd h2 h) (fun _ => ⟨rfl, ?_, ?_⟩)
    · rw [if_pos h3]; exact m1
    · rw [if_pos (Or.inl h3)]
