theorem gop_partByDegrees {R : Type} [Lean.Grind.CommRing R] {p : Nat} {co : R → Nat → Int} {mk : (Nat → Int) → R} (H : PD p co mk) {sv : R → (Nat → R) → List R → SV} (E : EN p co mk sv) {σ : SG} {f : R} {g : Nat → R} {L : List R} {h : List SV} {m : Option SV} {T : List Int} {Q : Int → Int → SG → Prop} (hS : Scn co σ 1 p f g L) (hA : Awn co (σ 305) p f g L) (hV : Val p co mk f g L) (hR : Rst σ h h m T) (hQ : ∀ r σ2 f g L h, Scn co σ2 1 p f g L → Awn co (σ2 305) p f g L → Val p co mk f g L → Rst σ2 h h m T → Q r r σ2) : wp_X9_partByDegrees σ (fun r σ1 => wp_X10_partByDegrees σ1 (fun r2 σ2 => Q r r2 σ2)) := by
  unfold wp_X9_partByDegrees
  have hd := hV.2.1
  have hf := hV.1
  have hs := hV.2.2.1
  have hGL := hV.2.2.2.2.1
  have hmem : ∀ x ∈ L, mon co x ∧ Dv x f ∧ 2 ≤ dd co x ∧ dd co x ≤ 7 := fun x hx => by
    have := GL_mem H hGL hx
    exact ⟨this.1, this.2.2.1, this.2.1, by omega⟩
  have hlen1 : ∀ x ∈ L, 1 ≤ (dpl p co mk x 6).length := fun x hx => by
    have := hmem x hx
    exact (dpl6 H this.1 (SF_dv H hs this.2.1) this.2.2).2.1
  obtain ⟨fm1, fm2⟩ := fm_len (l := L) (F := fun g => dpl p co mk g 6) hlen1
  have hmix : (∀ x ∈ L, (dpl p co mk x 6).length = 1) ↔ ∀ d, 1 ≤ d → d ≤ 6 → cnt co (dp p co mk f d) 2 L = 0 := by
    constructor
    · intro h d d1 d6
      rw [cnt2 H hGL]
      intro x hx
      have := hmem x hx
      exact (dpl6_mixed H hf hs this.1 this.2.1 this.2.2).mp (h x hx) d d1 d6
    · intro h x hx
      have := hmem x hx
      exact (dpl6_mixed H hf hs this.1 this.2.1 this.2.2).mpr (fun d d1 d6 => (cnt2 H hGL).mp (h d d1 d6) x hx)
  have hL0 : ∀ x ∈ L, x ≠ 0 := fun x hx => mon_ne H (hGL.1 x hx).1
  -- the reference
  have hmod : ∀ (σ3 : SG) (hc : List SV) (K : Int → SG → Prop), Awn co (σ3 305) p f g L → Rst σ3 hc h m T → ((∃ d, 1 ≤ d ∧ d ≤ 6 ∧ cnt co (dp p co mk f d) 2 L ≠ 0) → ∀ σ' L', (∀ i, i < 304 → σ' i = σ3 i) → Awn co (σ' 305) p f g L' → L'.Perm (L.flatMap (fun g => dpl p co mk g 6)) → Srt co L' → GL co f L' → Rst σ' hc (push h (sv f g L)) m T → K L'.length σ') → ((∀ d, 1 ≤ d → d ≤ 6 → cnt co (dp p co mk f d) 2 L = 0) → ∀ σ', (∀ i, i < 304 → σ' i = σ3 i) → Awn co (σ' 305) p f g L → Rst σ' hc h m T → K (-5) σ') → wp_X10_partByDegrees σ3 K := by
    intro σ3 hc K A3 R3 hK1 hK0
    unfold wp_X10_partByDegrees
    refine spec_X10_remembers (fun σ5 e5 m5 => ?_)
    have A5 : Awn co (σ5 305) p f g L := by rw [e5 305 (by decide)]; exact A3
    have S5 : SM (σ5 310) (sv f g L) := SM_cg ((E.2.1 _ _ _ _).mp A3) (VSt_VL ((E.2.2 _ _ _).mp hV)) m5
    have f5 : FrX σ3 σ5 := ⟨fun i hi => e5 i (by omega), by rw [e5 30 (by omega)], fun k _ => by rw [e5 304 (by omega)]⟩
    rintro v hv
    rw [A5.2.2.2.1] at hv
    subst hv
    refine spec_pdegM H A5 hV (Q := fun _ σ4 => ((¬ σ4 305 44 = (L.length : Int) → wp_X10_sorts σ4 (fun (σ8 : SG) => wp_X10_recordsBefore σ8 (fun (σ9 : SG) => K (σ9 305 44) σ9))) ∧ (σ4 305 44 = (L.length : Int) → K (-5) σ4))) (fun σ6 A B f6 B6 W6 => ?_)
    obtain ⟨w1, w2, w3, w4⟩ := W6
    rw [List.take_length] at w2 w4
    rw [List.drop_length, List.nil_append] at w3
    have hl := w2.length_eq
    rw [List.length_append] at hl
    have R6 := Rst_X R3 (f5.tr (FrX.ofN f6))
    have fr6 : ∀ i, i < 304 → σ6 i = σ3 i := fun i hi => by rw [f6.1 i (by omega) (by omega) (by omega), e5 i (by omega)]
    rw [B6.1, List.length_append]
    refine ⟨fun hne => ?_, fun heq => ?_⟩
    · have hex : ∃ d, 1 ≤ d ∧ d ≤ 6 ∧ cnt co (dp p co mk f d) 2 L ≠ 0 := by
        apply Classical.byContradiction
        intro hno
        have h0 := fm2.mpr (hmix.mpr (fun d d1 d6 => by
          apply Decidable.byContradiction
          intro h9
          exact hno ⟨d, d1, d6, h9⟩))
        omega
      refine spec_X10_sorts H B6 (fun σ7 L7 f7 B7 p7 s7 => ?_)
      have R7 := Rst_X R6 (FrX.ofN f7)
      have A7 : Awn co (σ7 305) p f g L7 := Awn_N (Awn_N A5 f6 B6) f7 B7
      have G7 := GL_perm w3 p7
      refine spec_X10_recordsBefore R7 (by rw [f7.1 310 (by decide) (by decide) (by decide), f6.1 310 (by decide) (by decide) (by decide)]; exact S5) ((E.2.2 _ _ _).mp hV) (fun σ8 e8 m8 R8 => ?_)
      have A8 : Awn co (σ8 305) p f g L7 := Awn_cg A7 B7.2.1 m8
      rw [A8.2.2.2.1]
      exact hK1 hex σ8 L7 (fun i hi => by rw [e8 i (by omega) (by omega) (by omega) (by omega), f7.1 i (by omega) (by omega) (by omega), fr6 i hi]) A8 (p7.trans w2) s7 G7 R8
    · have hB0 : B = [] := List.eq_nil_of_length_eq_zero (by omega)
      have hAL := w4 hB0
      subst hB0
      rw [hAL, List.append_nil] at B6
      refine hK0 (hmix.mp (fm2.mp ?_)) σ6 fr6 (Awn_N A5 f6 B6) R6
      rw [List.length_nil] at hl
      omega
  refine spec_X1_find H (Md_of H hS hV) (fun σ1 h1 hD => ?_)
  have f1 := FD_R h1
  refine Lp2_m (fun x z σ' => ∃ k : Nat, x = k ∧ 1 ≤ k ∧ k ≤ 7 ∧ FrR σ σ' ∧ (∀ d, 1 ≤ d → d ≤ 6 → Rp co σ' (101 + 1 + 2 * d) (dp p co mk f d)) ∧ (z = 0 ∧ (∀ d, 1 ≤ d → d < k → cnt co (dp p co mk f d) 2 L = 0) ∨ z = 1 ∧ ∃ d, 1 ≤ d ∧ d ≤ 6 ∧ cnt co (dp p co mk f d) 2 L ≠ 0)) (fun x _ _ => (8 - x).toNat) ⟨1, rfl, by omega, by omega, f1, hD, Or.inl ⟨rfl, fun d a b => by omega⟩⟩ ?_
  rintro x z σ2 r ⟨k, rfl, k1, k7, f2, hD2, hz⟩ hr
  have hS2 := Scn_cgr hS (fun i a b => f2.1 i (by omega))
  have A2 := Awn_R hA f2
  have R2 := Rst_X hR (FrX.ofR f2)
  refine ⟨fun h6 => ⟨fun hne => ?_, fun h0 => ?_⟩, fun h6 => ⟨fun hne => ?_, fun h0 => ⟨by omega, ?_⟩⟩⟩
  · have hex : ∃ d, 1 ≤ d ∧ d ≤ 6 ∧ cnt co (dp p co mk f d) 2 L ≠ 0 := by
      rcases hz with ⟨z0, _⟩ | ⟨_, hz⟩
      · exact absurd z0 hne
      · exact hz
    refine rec_c R2 ((E.1 _ _ _ _ _).mp hS2) ((E.2.2 _ _ _).mp hV) (fun σ3 e3 R3 => ?_)
    have hS3 : Scn co σ3 1 p f g L := Scn_cgr hS2 (fun i a b => e3 i (by omega))
    refine spec_pdegC H hS3 hV (fun d d1 d6 => Rp_cg (hD2 d d1 d6) (e3 _ (by omega)) (e3 _ (by omega))) (fun σ4 L4 f4 S4 p4 s4 G4 => ?_)
    have R4 := Rst_X R3 (FrX.ofB f4 (by decide))
    have e305 : σ4 305 = σ2 305 := by rw [f4.1 305 (by decide) (by decide) (by decide +kernel), e3 305 (by omega)]
    rw [S4.2.2.2.2.2.1]
    refine hmod σ4 _ _ (by rw [e305]; exact A2) R4 (fun _ σ5 L5 e5 A5 p5 s5 G5 R5 => ?_) (fun hall => by
      obtain ⟨d, d1, d6, hd9⟩ := hex
      exact absurd (hall d d1 d6) hd9)
    have eL : L5 = L4 := Srt_uniq H (p5.trans p4.symm) s5 s4
    subst eL
    exact hQ _ _ _ _ _ _ (Scn_cgr S4 (fun i a b => e5 i (by omega))) A5 (Val_L H hV G5 s5) R5
  · have hall : ∀ d, 1 ≤ d → d ≤ 6 → cnt co (dp p co mk f d) 2 L = 0 := by
      rcases hz with ⟨_, hz⟩ | ⟨z1, _⟩
      · exact fun d d1 d6 => hz d d1 (by omega)
      · omega
    refine hmod σ2 _ _ A2 R2 (fun hex => by
      obtain ⟨d, d1, d6, hd9⟩ := hex
      exact absurd (hall d d1 d6) hd9) (fun _ σ5 e5 A5 R5 => hQ _ _ _ _ _ _ (Scn_cgr hS2 (fun i a b => e5 i (by omega))) A5 hV R5)
  · refine ⟨by omega, hr _ _ _ ⟨k + 1, by omega, by omega, by omega, f2, hD2, ?_⟩ (by omega)⟩
    rcases hz with ⟨z0, _⟩ | hz
    · exact absurd z0 hne
    · exact Or.inr ⟨rfl, hz.2⟩
  · rw [Int.toNat_natCast]
    have hnin := dp_nin (d := k) (by omega) (by omega)
    refine spec_X0_countOfKind H hS2.1 hS2.2.2.2 hL0 (hD2 k (by omega) (by omega)) hnin.2 (fun σ3 h3 => ?_)
    have f3 := f2.tr (KS_R h3)
    have hD3 : ∀ d, 1 ≤ d → d ≤ 6 → Rp co σ3 (101 + 1 + 2 * d) (dp p co mk f d) := fun d d1 d6 => Rp_frL (hD2 d d1 d6) KS_P (dp_nin d1 d6).2 h3
    have hz0 : ∀ d, 1 ≤ d → d < k → cnt co (dp p co mk f d) 2 L = 0 := by
      rcases hz with ⟨_, hz⟩ | ⟨z1, _⟩
      · exact hz
      · omega
    refine ⟨fun hc => ⟨by omega, hr _ _ _ ⟨k + 1, by omega, by omega, by omega, f3, hD3, Or.inl ⟨rfl, fun d d1 d2 => ?_⟩⟩ (by omega)⟩, fun hc => ⟨by omega, hr _ _ _ ⟨k + 1, by omega, by omega, by omega, f3, hD3, Or.inr ⟨rfl, k, by omega, by omega, by omega⟩⟩ (by omega)⟩⟩
    by_cases q : d = k
    · subst q; omega
    · exact hz0 d d1 (by omega)
