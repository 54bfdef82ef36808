/-! assign -/
theorem af_rng : ∀ (r : List Int) (k : Nat) (e d : Int), af r k e d = -1 ∨ ((k : Int) ≤ af r k e d ∧ af r k e d ≤ (k : Int) + r.length)
  | [], k, e, d => by
    unfold af
    split
    · right; exact ⟨by omega, by simp⟩
    · split
      · left; rfl
      · right; exact ⟨by omega, by simp⟩
  | c :: r, k, e, d => by
    unfold af
    split
    · right; exact ⟨by omega, by omega⟩
    · have := af_rng r (k + 1) (xb c e) (d + xd c)
      rw [List.length_cons]
      omega
theorem asf_rng {T : List Int} (h : T.length ≤ 60) : asf T = -1 ∨ (0 ≤ asf T ∧ asf T ≤ 62) := by
  unfold asf
  split
  · split
    · have := af_rng (T.drop 2) 2 0 0
      rw [List.length_drop] at this
      omega
    · omega
  · omega
theorem asf_m1 {T : List Int} (h : asf T = -1) : (97 ≤ T.getD 0 0 ∧ T.getD 0 0 ≤ 102) ∧ 2 ≤ T.length ∧ T[1]? = some 61 ∧ af (T.drop 2) 2 0 0 = -1 := by
  unfold asf at h
  split at h
  · rename_i h1
    split at h
    · rename_i h2
      have hl : 2 ≤ T.length := by
        by_cases q : 1 < T.length
        · omega
        · rw [List.getD_eq_getElem?_getD, List.getElem?_eq_none (by omega)] at h2
          exact absurd h2 (by decide)
      exact ⟨h1, hl, (getD_iff (by omega)).mp h2, h⟩
    · omega
  · omega
theorem FrX.ofG {σ σ' : SG} (h : FG σ σ') : FrX σ σ' := ⟨fun i hi => h.1 i (by omega) (by omega) (by omega) (by omega) (by omega) (by omega), by rw [h.1 30 (by omega) (by omega) (by omega) (by omega) (by omega) (by omega)], h.2⟩
theorem gop_assign {R : Type} [Lean.Grind.CommRing R] {p : Nat} {co : R → Nat → Int} {mk : (Nat → Int) → R} (H : PD p co mk) {sv : R → (Nat → R) → List R → SV} (E : EN p co mk sv) {σ : SG} {f : R} {g : Nat → R} {L : List R} {h : List SV} {m : Option SV} {T : List Int} {Q : Int → Int → SG → Prop} (hS : Scn co σ 1 p f g L) (hA : Awn co (σ 305) p f g L) (hV : Val p co mk f g L) (hR : Rst σ h h m T) (hQ : ∀ r σ2 f g L h, Scn co σ2 1 p f g L → Awn co (σ2 305) p f g L → Val p co mk f g L → Rst σ2 h h m T → Q r r σ2) : wp_X9_assign σ (fun r σ1 => wp_X10_assign σ1 (fun r2 σ2 => Q r r2 σ2)) := by
  unfold wp_X9_assign
  have hT := hR.2.2.1.2
  have t3 := hT.1.2.2
  refine spec_X8_assignmentFault hT ⟨fun hneg => ?_, fun hpos => ?_⟩
  · have hm1 : asf T = -1 := by rcases asf_rng t3 with q | q <;> omega
    obtain ⟨hc, hl2, h61, haf⟩ := asf_m1 hm1
    refine spec_X8_at (k := 0) hT ?_
    have h0c : T[0]? = some (T.getD 0 0) := (getD_iff (by omega)).mp rfl
    generalize T.getD 0 0 = c at hc h0c ⊢
    refine ⟨by omega, ?_⟩
    rintro _ rfl
    rw [show c - 97 = (((c - 97).toNat : Nat) : Int) by omega]
    have ha : (c - 97).toNat < 6 := by omega
    have hca : c = (((c - 97).toNat : Nat) : Int) + 97 := by omega
    generalize (c - 97).toNat = a at ha hca ⊢
    refine spec_X9_isRegister (fun a0 a6 => ⟨fun _ => ?_, fun h => absurd h (by decide)⟩) (fun h => by omega)
    refine rec_c hR ((E.1 _ _ _ _ _).mp hS) ((E.2.2 _ _ _).mp hV) (fun σ1 e1 R1 => ⟨by omega, ?_⟩)
    rw [Int.toNat_natCast]
    have hS1 : Scn co σ1 1 p f g L := Scn_cgr hS (fun i a b => e1 i (by omega))
    refine spec_X5_reckon H hS1 hV R1.2.2.1.2 hl2 h61 haf ha (fun σ2 y L2 f2 hz hyd S2 V2 => ?_)
    have R2 := Rst_X R1 (⟨fun i hi => f2 i (by omega), by rw [f2 30 (by omega)], fun k _ => by rw [f2 304 (by omega)]⟩ : FrX σ1 σ2)
    have A2 : Awn co (σ2 305) p f g L := by rw [f2 305 (by omega), e1 305 (by omega)]; exact hA
    unfold wp_X10_assign
    refine spec_X10_goesAlong H R2.2.2.1.2 A2 hV (fun h => absurd rfl h) (fun σ' _ _ _ hge => by omega) (fun σ3 L3 g3 z3 _ _ _ _ => ⟨fun _ => ?_, fun h => absurd h (by decide)⟩)
    have e305 := z3 rfl
    have A3 : Awn co (σ3 305) p f g L := by rw [e305]; exact A2
    have R3 := Rst_X R2 (FrX.ofG g3)
    refine rec_m R3 ((E.2.1 _ _ _ _).mp A3) ((E.2.2 _ _ _).mp hV) (fun σ4 e4 R4 => ?_)
    have A4 : Awn co (σ4 305) p f g L := by rw [e4 305 (by decide) (by decide)]; exact A3
    refine spec_X10_loadsModulus H A4 hV (fun σ5 k5 m5 => ?_)
    have A5 := Awn_R A4 (FrR.ofT k5)
    have R5 := Rst_X R4 (FrX.ofR (FrR.ofT k5))
    refine spec_X10_goesAlong H R5.2.2.1.2 A5 hV (fun _ => m5) (fun σ' _ _ _ hge => by omega) (fun σ6 L6 g6 _ A6 V6 _ z6 => ⟨?_, ?_⟩)
    · have R6 := Rst_X R5 (FrX.ofG g6)
      have T6 := R6.2.2.1.2
      rw [(T6.2 0 c h0c).2.1]
      omega
    · have R6 := Rst_X R5 (FrX.ofG g6)
      have T6 := R6.2.2.1.2
      obtain ⟨y6, hy6, r6, d6⟩ := z6 (by decide)
      rw [← hz] at hy6
      obtain ⟨ey, eL⟩ := Prod.mk.inj hy6
      subst ey
      subst eL
      rw [(T6.2 0 c h0c).2.1, show c - 97 = (a : Int) by omega]
      refine spec_X10_stores H r6 ha (fun σ8 e8 m8 n8 => ?_)
      have A8 := Awn_set A6 ha m8 n8
      have S8 : Scn co σ8 1 p f (fun i => if i = a then y6 else g i) L6 := Scn_cgr S2 (fun i i1 i2 => by rw [e8 i (by omega), g6.1 i (by omega) (by omega) (by omega) (by omega) (by omega) (by omega), k5.1 i (by omega) (by omega), e4 i (by omega) (by omega), g3.1 i (by omega) (by omega) (by omega) (by omega) (by omega) (by omega)])
      have ec : σ2 1 4 = σ8 305 44 := by
        rw [S2.2.2.2.2.2.1, A8.2.2.2.1]
      rw [ec]
      exact hQ _ _ _ _ _ _ S8 A8 (Val_set H V6 d6) (Rst_X R6 (FrX.of305 e8))
  · have hge : 0 ≤ asf T ∧ asf T ≤ 62 := by rcases asf_rng t3 with q | q <;> omega
    refine ⟨by omega, ?_⟩
    unfold wp_X10_assign
    refine spec_X10_goesAlong H hT hA hV (fun h => absurd rfl h) (fun σ3 g3 z3 a3 _ => ⟨fun h => absurd rfl h, fun _ => ?_⟩) (fun σ3 L3 g3 z3 _ _ hm _ => by omega)
    rw [a3]
    refine ⟨by omega, ?_⟩
    exact hQ _ _ _ _ _ _ (Scn_cgr hS (fun i i1 i2 => g3.1 i (by omega) (by omega) (by omega) (by omega) (by omega) (by omega))) (by rw [z3 rfl]; exact hA) hV (Rst_X hR (FrX.ofG g3))
theorem op_assign {σ : SG} {Q : Int → Int → SG → Prop} (hI : Inv σ) (hQ : ∀ r σ2, Inv σ2 → Q r r σ2) : wp_X9_assign σ (fun r σ1 => wp_X10_assign σ1 (fun r2 σ2 => Q r r2 σ2)) := by
  obtain ⟨⟨n, f, g, L⟩, h, m, T, hI⟩ := hI
  obtain ⟨i1, i2, i3, hR⟩ := Iv_Rst.mp hI
  exact @gop_assign (POL n) (polR n) (n + 2) (coP n) (polMk n) (PD_pol i3.1) _ (EN_pol i3.1) σ f g L h m T Q i1 i2 i3.2 hR (fun r σ2 f g L h s1 s2 s3 s4 => hQ _ _ ⟨⟨n, f, g, L⟩, h, m, T, Iv_Rst.mpr ⟨s1, s2, ⟨i3.1, s3⟩, s4⟩⟩)
