/-! the class's reckoner, continued -/
def FE (σ σ' : SG) (S : List Nat) : Prop := ∀ i, (i = 0 ∨ i = 30 ∨ i = 31 ∨ 124 ≤ i) → (∀ t ∈ S, i ≠ t ∧ i ≠ t + 1) → σ' i = σ i
theorem FE.tr {σ σ' σ'' : SG} {S : List Nat} (h : FE σ σ' S) (k : FE σ' σ'' S) : FE σ σ'' S := fun i a b => (k i a b).trans (h i a b)
theorem FE.ofL {σ σ' : SG} {L S : List Nat} (h : FrL σ σ' L) (hL : ∀ t ∈ L, (33 ≤ t ∧ t < 123) ∨ t ∈ S) : FE σ σ' S := fun i hi hS => h i (fun t ht => by
  rcases hL t ht with e | e
  · omega
  · exact hS t e)
theorem FE.ofB {σ σ' : SG} {T S : List Nat} (h : FrB σ σ' 1 T) (hT : ∀ t ∈ T, 33 ≤ t ∧ t < 123) : FE σ σ' S := fun i hi _ => h.1 i (by omega) (by omega) (fun t ht => by
  rcases List.mem_append.mp ht with e | e
  · obtain ⟨k, hk, e2⟩ := brs_mem.mp e
    omega
  · have := hT t e
    omega)
theorem Scn_L {R : Type} {co : R → Nat → Int} {σ σ' : SG} {p : Nat} {f : R} {g : Nat → R} {L : List R} {S : List Nat} (hS : Scn co σ 1 p f g L) (h : FrL σ σ' S) (h2 : ∀ t ∈ S, 30 ≤ t) : Scn co σ' 1 p f g L := Scn_cgr hS (fun i a b => h i (fun t ht => by have := h2 t ht; omega))
theorem RS_lt : ∀ t ∈ RS, 33 ≤ t ∧ t < 123 := by decide
theorem DS_lt : ∀ t ∈ DS, 33 ≤ t ∧ t < 123 := by decide
theorem VS_lt : ∀ t ∈ VS, 33 ≤ t ∧ t < 123 := by decide
theorem spec_X5_endFactor {R : Type} [Lean.Grind.CommRing R] {p : Nat} {co : R → Nat → Int} {mk : (Nat → Int) → R} (H : PD p co mk) {σ : SG} {v : Nat} {f w : R} {g : Nat → R} {L : List R} {x : R × R × Int × Int} {Q : SG → Prop} (hS : Scn co σ 1 p f g L) (hV : Val p co mk f g L) (hv : v < 6) (hl : σ 124 9 = v) (h : Lv co σ v x.1 x.2.1 x.2.2.1 x.2.2.2) (hw : Rp co σ 153 w) (hdw : dd co w < dd co f) (hx : Dl co (dd co f) x) (hQ : ∀ σ', FE σ σ' [126 + 3 + 4 * v] → Scn co σ' 1 p f g (jl co x w L) → Val p co mk f g (jl co x w L) → Rp co σ' (126 + 3 + 4 * v) (jq co f x w) → Q σ') : wp_X5_endFactor σ Q := by
  unfold wp_X5_endFactor
  obtain ⟨h1, h2, h3, h4⟩ := h
  have hP := (rk_P hv).2
  have hfd := hV.2.1
  have hdx := hx.2
  rw [hl, Int.toNat_natCast, h4]
  refine ⟨by omega, by omega, fun ho => ?_, fun ho => ?_⟩
  · refine spec_X6_multiply H (Md_of H hS hV) hP h2 hw (by omega) (by omega) (by omega) (by omega) (by omega) (fun σ1 k1 m1 => ?_)
    have e1 : jl co x w L = L := if_pos ho
    have e2 : jq co f x w = rm co (x.2.1 * w) f := if_pos ho
    rw [e1, e2] at hQ
    have hm : ∀ t ∈ [126 + 3 + 4 * v, 34, 49], 30 ≤ t ∧ ((33 ≤ t ∧ t < 123) ∨ t ∈ [126 + 3 + 4 * v]) := fun t ht => by
      simp only [List.mem_cons, List.not_mem_nil, or_false] at ht ⊢
      omega
    exact hQ σ1 (FE.ofL k1 (fun t ht => (hm t ht).2)) (Scn_L hS k1 (fun t ht => (hm t ht).1)) hV m1
  · refine spec_X0_partBy H hS.1 hS.2.2.2 hV.2.2.2.2.1 hfd.2 hw (by decide) (fun σ1 L1 f1 S1 p1 s1 G1 => ?_)
    have eL := pl_eq H p1 s1
    have e1 : jl co x w L = L1 := (if_neg ho).trans eL.symm
    have e2 : jq co f x w = rm co (x.2.1 * qe co f w) f := if_neg ho
    rw [e1, e2] at hQ
    have g1 : FE σ σ1 [126 + 3 + 4 * v] := FE.ofB f1 VS_lt
    have g2 : FE σ σ1 [] := FE.ofB f1 VS_lt
    have hS1 := Scn_B H hS VS_P (by decide) f1 S1
    have hV1 := Val_L H hV G1 s1
    have nR : ∀ t, 124 ≤ t → t ∉ RS := fun t ht e => by have := RS_lt t e; omega
    have r2 : Rp co σ1 (126 + 3 + 4 * v) x.2.1 := Rp_cg h2 (g2 _ (by omega) (by simp)) (g2 _ (by omega) (by simp))
    have r3 : Rp co σ1 153 w := Rp_cg hw (g2 _ (by omega) (by simp)) (g2 _ (by omega) (by simp))
    refine spec_X6_divide H (Md_of H hS1 hV1) hV.2.2.1 hP r2 r3 (nR _ (by omega)) (nR _ (by omega)) (by omega) (nR _ (by omega)) hdx hdw (fun σ2 e k2 q2 m2 => ?_)
    have hf0 := Val_ne H hV
    rw [qe_of H hf0 hV.2.2.1 q2] at m2
    have hm : ∀ t ∈ (126 + 3 + 4 * v) :: DS, 30 ≤ t ∧ ((33 ≤ t ∧ t < 123) ∨ t ∈ [126 + 3 + 4 * v]) := fun t ht => by
      rcases List.mem_cons.mp ht with e | e
      · exact ⟨by omega, Or.inr (by rw [e]; simp)⟩
      · have := DS_lt t e
        exact ⟨by omega, Or.inl this⟩
    exact hQ σ2 (g1.tr (FE.ofL k2 (fun t ht => (hm t ht).2))) (Scn_L hS1 k2 (fun t ht => (hm t ht).1)) hV1 m2
theorem spec_X5_take {R : Type} [Lean.Grind.CommRing R] {p : Nat} {co : R → Nat → Int} {mk : (Nat → Int) → R} (H : PD p co mk) {σ : SG} {c e2 : Int} {f w : R} {g : Nat → R} {L : List R} {Q : SG → Prop} (hS : Scn co σ 1 p f g L) (hV : Val p co mk f g L) (hx : e2 = 0 → xb c 0 = 1) (hy : e2 ≠ 0 → (48 ≤ c ∧ c ≤ 57) ∧ Rp co σ 153 w ∧ dd co w < dd co f) (hc : 0 ≤ c ∧ c < 65536) (hQ : ∀ σ', FE σ σ' [153] → Scn co σ' 1 p f g L → Rp co σ' 153 (if e2 = 0 then rm co (smp p mk g c) f else rm co (w ^ (c - 48).toNat) f) → Q σ') : wp_X5_takeSimpleOrExponent σ c e2 Q := by
  unfold wp_X5_takeSimpleOrExponent
  have hp := pd_p H
  have hM := Md_of H hS hV
  have hfd := hV.2.1
  have kP : KT.getD 153 99 = 4 := by decide
  have out : ∀ {σ1 : SG} {S : List Nat}, FrL σ σ1 S → (∀ t ∈ S, (33 ≤ t ∧ t < 123) ∨ t = 153) → FE σ σ1 [153] ∧ Scn co σ1 1 p f g L := fun h1 h2 =>
    ⟨FE.ofL h1 (fun t ht => by
      rcases h2 t ht with e | e
      · exact Or.inl e
      · exact Or.inr (by rw [e]; simp)), Scn_L hS h1 (fun t ht => by have := h2 t ht; omega)⟩
  refine ⟨fun h0 => ?_, fun h0 => ?_⟩
  · rw [if_pos h0] at hQ
    have hx := hx h0
    unfold smp at hQ
    refine ⟨fun h120 => ?_, fun h120 => ?_⟩
    · refine spec_X8_isRegisterLetter (fun h1 => ⟨fun h => absurd h (by decide), fun _ => ⟨by omega, by omega, ?_⟩⟩) (fun h1 => ⟨fun _ => ⟨by omega, ?_⟩, fun h => absurd rfl h⟩)
      · rw [if_pos h1] at hQ
        have hd := hV.2.2.2.1 (c - 97).toNat (by omega)
        rw [rm_small H hd] at hQ
        refine spec_X4_copy H kP (hS.2.2.1 (c - 97).toNat (by omega)) (fun σ1 k1 m1 => ?_)
        obtain ⟨o1, o2⟩ := out (FrL.of1 k1) (by decide)
        exact hQ σ1 o1 o2 m1
      · rw [if_neg h1, if_neg h120] at hQ
        refine spec_X7_reduced hp hS.1 (by omega) (spec_X4_becomeConstant H kP ⟨Int.emod_nonneg _ (by omega), Int.emod_lt_of_pos _ (by omega)⟩ (fun σ1 k1 m1 => ?_))
        rw [mo_mod H (e := c - 48) 0 (Int.emod_emod _ _)] at m1
        have hd := dd_mo_le H (c - 48) 0
        rw [rm_small H (by omega)] at hQ
        obtain ⟨o1, o2⟩ := out (FrL.of1 k1) (by decide)
        exact hQ σ1 o1 o2 m1
    · rw [if_neg (by omega), if_pos h120] at hQ
      refine spec_X6_becomeVariable H hM kP (by decide) (by decide) (fun σ1 k1 m1 => ?_)
      obtain ⟨o1, o2⟩ := out k1 (by decide)
      exact hQ σ1 o1 o2 m1
  · rw [if_neg h0] at hQ
    obtain ⟨y1, y2, y3⟩ := hy h0
    rw [show c - 48 = (((c - 48).toNat : Nat) : Int) by omega]
    refine ⟨by omega, spec_X6_raise H hM kP y2 y3 (by omega) (by decide) (by decide) (by decide) (by decide) (fun σ1 k1 m1 => ?_)⟩
    obtain ⟨o1, o2⟩ := out k1 (by decide)
    exact hQ σ1 o1 o2 m1
