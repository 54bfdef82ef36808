/-! count, factors -/
theorem Srt_last {R : Type} [Lean.Grind.CommRing R] {p : Nat} {co : R → Nat → Int} {mk : (Nat → Int) → R} (H : PD p co mk) {L : List R} {x : R} (hs : Srt co L) {l : R} {n : Nat} (hn : L.length = n + 1) (hl : L[n]? = some l) (hx : x ∈ L) : dd co x ≤ dd co l := by
  obtain ⟨i, hi⟩ := List.getElem?_of_mem hx
  have gi := List.getElem?_eq_some_iff.mp hi
  have gl := List.getElem?_eq_some_iff.mp hl
  rcases Nat.lt_or_ge i n with q | q
  · have h1 := List.pairwise_iff_getElem.mp hs i n gi.1 gl.1 q
    rw [gi.2, gl.2] at h1
    rcases Nat.lt_or_ge (dd co l) (dd co x) with q2 | q2
    · exact absurd ((Lt_iff H).mp (Or.inl q2)) h1
    · exact q2
  · have : i = n := by have := gi.1; omega
    subst this
    rw [hi] at hl
    rw [Option.some.inj hl]
    omega
noncomputable def zc {R : Type} (co : R → Nat → Int) (g : Nat → R) : Nat → Int
  | 0 => 0
  | n + 1 => zc co g n + if dd co (g n) = 0 then 1 else 0
theorem zc_rng {R : Type} {co : R → Nat → Int} {g : Nat → R} (n : Nat) : 0 ≤ zc co g n ∧ zc co g n ≤ n := by
  induction n with
  | zero => exact ⟨Int.le_refl 0, Int.le_refl 0⟩
  | succ n ih => rw [zc]; split <;> omega
theorem spec_X7_emptyRegisters {R : Type} {co : R → Nat → Int} {σ : SG} {p : Nat} {f : R} {g : Nat → R} {L : List R} {Q : Int → SG → Prop} (hS : Scn co σ 1 p f g L) (hQ : Q (zc co g 6) σ) : wp_X7_emptyRegisters σ 1 Q := by
  unfold wp_X7_emptyRegisters
  refine Lp2_m (fun x z σ' => ∃ k : Nat, x = k ∧ k ≤ 6 ∧ σ' = σ ∧ z = zc co g k) (fun x _ _ => (7 - x).toNat) ⟨0, rfl, by omega, rfl, rfl⟩ ?_
  rintro x z σ1 r ⟨k, rfl, k6, rfl, rfl⟩ hr
  have hz := zc_rng (co := co) (g := g) k
  refine ⟨fun h => by rw [show k = 6 by omega]; exact hQ, fun h => ⟨by omega, ?_⟩⟩
  rw [Int.toNat_natCast, (hS.2.2.1 k (by omega)).2.2.2]
  refine ⟨fun h0 => ⟨by omega, hr _ _ _ ⟨k + 1, rfl, by omega, rfl, ?_⟩ (by omega)⟩, fun h0 => ⟨by omega, by omega, hr _ _ _ ⟨k + 1, rfl, by omega, rfl, ?_⟩ (by omega)⟩⟩
  · rw [zc, if_neg (by omega), Int.add_zero]
  · rw [zc, if_pos (by omega)]
theorem spec_X10_zeros {R : Type} [Lean.Grind.CommRing R] {p : Nat} {co : R → Nat → Int} {mk : (Nat → Int) → R} (H : PD p co mk) {σ : SG} {f : R} {g : Nat → R} {L : List R} {Q : Int → SG → Prop} (hA : Awn co (σ 305) p f g L) (hV : Val p co mk f g L) (hQ : ∀ σ', FrR σ σ' → Q (zc co g 6) σ') : wp_X10_zeros σ Q := by
  unfold wp_X10_zeros
  refine Lp2_m (fun x z σ' => ∃ k : Nat, x = k ∧ k ≤ 6 ∧ FrR σ σ' ∧ z = zc co g k) (fun x _ _ => (7 - x).toNat) ⟨0, rfl, by omega, FrR.rf σ, rfl⟩ ?_
  rintro x z σ1 r ⟨k, rfl, k6, f1, rfl⟩ hr
  have hz := zc_rng (co := co) (g := g) k
  refine ⟨fun h => by rw [show k = 6 by omega]; exact hQ σ1 f1, fun h => ?_⟩
  refine spec_X10_loadsNumber H (Awn_R hA f1) hV (by omega) (by omega) (fun σ2 k2 m2 => spec_X10_degree H m2 ⟨fun h0 => ⟨by omega, ?_⟩, fun h0 => ⟨by omega, ?_⟩⟩)
  · rintro v rfl
    refine ⟨by omega, hr _ _ _ ⟨k + 1, rfl, by omega, f1.tr (FrR.ofT k2), ?_⟩ (by omega)⟩
    rw [zc, if_neg (by omega)]
  · rintro v rfl
    refine ⟨by omega, hr _ _ _ ⟨k + 1, rfl, by omega, f1.tr (FrR.ofT k2), ?_⟩ (by omega)⟩
    rw [zc, if_pos (by omega)]
theorem gop_count {R : Type} [Lean.Grind.CommRing R] {p : Nat} {co : R → Nat → Int} {mk : (Nat → Int) → R} (H : PD p co mk) {σ : SG} {f : R} {g : Nat → R} {L : List R} {a : Int} {h : List SV} {m : Option SV} {T : List Int} {Q : Int → Int → SG → Prop} (hS : Scn co σ 1 p f g L) (hA : Awn co (σ 305) p f g L) (hV : Val p co mk f g L) (hR : Rst σ h h m T) (hQ : ∀ r σ2, FrR σ σ2 → Q r r σ2) : wp_X9_count σ a (fun r σ1 => wp_X10_count σ1 a (fun r2 σ2 => Q r r2 σ2)) := by
  unfold wp_X9_count
  have hd := hV.2.1
  have hGL := hV.2.2.2.2.1
  have hB := Bl_of H hA hV
  have b2 := hB.2.1
  have hlen := GL_len H hGL
  have hL1 : L.length ≠ 0 := fun h0 => by
    have e := List.eq_nil_of_length_eq_zero h0
    have := hGL.2
    rw [e] at this
    have h2 : dd co f = 1 := by rw [← this]; exact dd_one H
    omega
  refine ⟨fun e => ?_, fun e => ?_, fun e => ?_, fun e => ?_, fun e => ?_, fun e => ?_, fun e => ?_, fun e => ?_, fun e => ?_⟩
  · show wp_X10_count σ a _
    unfold wp_X10_count
    refine ⟨fun _ => ?_, fun _ => by omega, fun _ => by omega, fun _ => by omega, fun _ => by omega, fun _ => by omega, fun _ => by omega, fun _ => by omega, fun _ => by omega⟩
    rw [hS.1, hA.1]
    exact hQ _ _ (FrR.rf σ)
  · show wp_X10_count σ a _
    unfold wp_X10_count wp_X10_degreeOfModulus
    refine ⟨fun _ => by omega, fun _ => ?_, fun _ => by omega, fun _ => by omega, fun _ => by omega, fun _ => by omega, fun _ => by omega, fun _ => by omega, fun _ => by omega⟩
    rw [hS.2.1.2.2.2]
    exact spec_X10_loadsModulus H hA hV (fun σ1 k1 m1 => spec_X10_degree H m1 (hQ _ _ (FrR.ofT k1)))
  · show wp_X10_count σ a _
    unfold wp_X10_count
    refine ⟨fun _ => by omega, fun _ => by omega, fun _ => ?_, fun _ => by omega, fun _ => by omega, fun _ => by omega, fun _ => by omega, fun _ => by omega, fun _ => by omega⟩
    rw [hS.2.2.2.2.2.1, hA.2.2.2.1]
    exact hQ _ _ (FrR.rf σ)
  · refine spec_X1_find H (Md_of H hS hV) (fun σ1 h1 hD => spec_X1_allFactors H hV.1 hd.2 hD ?_)
    have f1 := FD_R h1
    show wp_X10_count σ1 a _
    unfold wp_X10_count wp_X10_allFactors
    refine ⟨fun _ => by omega, fun _ => by omega, fun _ => by omega, fun _ => ?_, fun _ => by omega, fun _ => by omega, fun _ => by omega, fun _ => by omega, fun _ => by omega⟩
    refine spec_X10_countsFactors H (Awn_R hA f1) hV (fun σ2 f2 hc _ => ?_)
    have hr := fun d (h : 1 ≤ d) => fcn_rng H hV.1 hd.2 (d := d) h
    have r1 := hr 1 (by omega)
    have r2 := hr 2 (by omega)
    have r3 := hr 3 (by omega)
    have r4 := hr 4 (by omega)
    have r5 := hr 5 (by omega)
    have r6 := hr 6 (by omega)
    rw [hc 1 (by omega) (by omega), hc 2 (by omega) (by omega), hc 3 (by omega) (by omega), hc 4 (by omega) (by omega), hc 5 (by omega) (by omega), hc 6 (by omega) (by omega)]
    have hs : fsum p co mk f 6 = fcn p co mk f 1 + fcn p co mk f 2 + fcn p co mk f 3 + fcn p co mk f 4 + fcn p co mk f 5 + fcn p co mk f 6 := by
      show 0 + fcn p co mk f 1 + fcn p co mk f 2 + fcn p co mk f 3 + fcn p co mk f 4 + fcn p co mk f 5 + fcn p co mk f 6 = _
      omega
    rw [hs]
    exact ⟨by omega, by omega, by omega, by omega, by omega, hQ _ _ (f1.tr f2)⟩
  · refine spec_X7_greatestBranchDegree H hS.2.2.2 (fun z z1 z2 z0 => ?_)
    show wp_X10_count σ a _
    unfold wp_X10_count wp_X10_degreeOfBranch
    refine ⟨fun _ => by omega, fun _ => by omega, fun _ => by omega, fun _ => by omega, fun _ => ?_, fun _ => by omega, fun _ => by omega, fun _ => by omega, fun _ => by omega⟩
    obtain ⟨n, hn⟩ : ∃ n, L.length = n + 1 := ⟨L.length - 1, by omega⟩
    rw [hB.1, hn, show ((n + 1 : Nat) : Int) - 1 = (n : Nat) by omega]
    have hg : L[n]? = some L[n] := List.getElem?_eq_getElem (by omega)
    generalize L[n] = l at hg
    refine ⟨by omega, spec_X10_loadsBranch H hB hg (by omega) (fun σ1 k1 m1 => spec_X10_degree H m1 ?_)⟩
    have hl := z1 l (List.mem_of_getElem? hg)
    have hl2 := (hGL.1 l (List.mem_of_getElem? hg)).2
    have hz : z = (dd co l : Int) - 1 := by
      rcases z2 with rfl | ⟨x, hx, rfl⟩
      · omega
      · have := Srt_last H hV.2.2.2.2.2 hn hg hx
        omega
    rw [hz]
    exact hQ _ _ (FrR.ofT k1)
  · refine spec_X7_emptyRegisters hS ?_
    show wp_X10_count σ a _
    unfold wp_X10_count
    refine ⟨fun _ => by omega, fun _ => by omega, fun _ => by omega, fun _ => by omega, fun _ => by omega, fun _ => ?_, fun _ => by omega, fun _ => by omega, fun _ => by omega⟩
    exact spec_X10_zeros H hA hV (fun σ1 f1 => hQ _ _ f1)
  · show wp_X10_count σ a _
    unfold wp_X10_count
    refine ⟨fun _ => by omega, fun _ => by omega, fun _ => by omega, fun _ => by omega, fun _ => by omega, fun _ => by omega, fun _ => ?_, fun _ => by omega, fun _ => by omega⟩
    rw [hR.2.1.1.2.1.1, hR.2.1.2.1.1]
    exact hQ _ _ (FrR.rf σ)
  · show wp_X10_count σ a _
    unfold wp_X10_count
    refine ⟨fun _ => by omega, fun _ => by omega, fun _ => by omega, fun _ => by omega, fun _ => by omega, fun _ => by omega, fun _ => by omega, fun _ => ?_, fun _ => by omega⟩
    rw [hR.2.2.1.2.1.1, hR.2.2.1.2.1.2.1]
    exact hQ _ _ (FrR.rf σ)
  · show wp_X10_count σ a _
    unfold wp_X10_count
    exact ⟨fun _ => by omega, fun _ => by omega, fun _ => by omega, fun _ => by omega, fun _ => by omega, fun _ => by omega, fun _ => by omega, fun _ => by omega, fun _ => hQ _ _ (FrR.rf σ)⟩
theorem gop_factors {R : Type} [Lean.Grind.CommRing R] {p : Nat} {co : R → Nat → Int} {mk : (Nat → Int) → R} (H : PD p co mk) {σ : SG} {f : R} {g : Nat → R} {L : List R} {a : Int} {Q : Int → Int → SG → Prop} (hS : Scn co σ 1 p f g L) (hA : Awn co (σ 305) p f g L) (hV : Val p co mk f g L) (hQ : ∀ r σ2, FrR σ σ2 → Q r r σ2) : wp_X9_factors σ a (fun r σ1 => wp_X10_factors σ1 a (fun r2 σ2 => Q r r2 σ2)) := by
  unfold wp_X9_factors
  have hd := hV.2.1
  have hno : ¬ (1 ≤ a ∧ a ≤ 6) → wp_X10_factors σ a (fun r2 σ2 => Q (-2) r2 σ2) := fun h => by
    unfold wp_X10_factors
    exact spec_X10_in (fun a b => absurd ⟨a, b⟩ h) (fun _ => ⟨fun h => absurd rfl h, fun _ => hQ _ _ (FrR.rf σ)⟩)
  refine ⟨fun h => hno (by omega), fun h => ⟨fun h6 => ?_, fun h6 => hno (by omega)⟩⟩
  refine spec_X1_find H (Md_of H hS hV) (fun σ1 h1 hD => spec_X1_factorsOf H hV.1 hd.2 hD (fun d e d1 d6 => ?_) (fun h => by omega))
  subst e
  have f1 := FD_R h1
  show wp_X10_factors σ1 d _
  unfold wp_X10_factors
  refine spec_X10_in (fun _ _ => ⟨fun _ => ?_, fun h => absurd h (by decide)⟩) (fun h => by omega)
  refine spec_X10_countsFactors H (Awn_R hA f1) hV (fun σ2 f2 hc _ => ⟨by omega, ?_⟩)
  rw [Int.toNat_natCast, hc d d1 d6]
  exact hQ _ _ (f1.tr f2)
