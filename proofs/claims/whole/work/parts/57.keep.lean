/-! keep, restore, undo, setPrime, the text's keys -/
theorem SC_len {σ : SG} {s : SV} (h : SC σ 1 s) : σ 1 4 = s.2.2.2.length := h.2.2.2.2.2.1
theorem SM_len {w : Nat → Int} {s : SV} (h : SM w s) : w 44 = s.2.2.2.length := h.2.2.2.1
theorem op_keep {σ : SG} {Q : Int → Int → SG → Prop} (hI : Inv σ) (hQ : ∀ r σ2, Inv σ2 → Q r r σ2) : wp_X9_keep σ (fun r σ1 => wp_X10_keep σ1 (fun r2 σ2 => Q r r2 σ2)) := by
  obtain ⟨s, h, m, T, hI⟩ := hI
  obtain ⟨i1, i2, i3, hR⟩ := Iv_Rst.mp hI
  unfold wp_X9_keep wp_X10_keep
  have hP := Rst_Pts hR i1.2.2.2.2.1
  have k1 : KT.getD 1 99 = 7 := by decide +kernel
  have k155 : KT.getD 155 99 = 7 := by decide +kernel
  refine spec_X7_copy k155 k1 (by decide) (hP _ k155) (hP _ k1) (fun σ1 f1 c1 => ?_)
  rintro σ2 e2
  have u2 : ∀ i, i ≠ 0 → σ2 i = σ1 i := fun i hi => by rw [e2, ug_ne _ hi]
  have g2 : ∀ i, i ≠ 0 → i < 155 ∨ 184 ≤ i → σ2 i = σ i := fun i hi hi2 => by rw [u2 i hi, f1.1 i (by omega)]
  have s2 : SC σ2 155 s := SC_cg (c1 _ _ _ _ _ _ i1) (fun i a b => u2 i (by omega))
  have c2 : SC σ2 1 s := SC_cg i1 (fun i a b => g2 i (by omega) (by omega))
  refine Lp1_up 87 (fun n σ' => (∀ i, i ≠ 307 → σ' i = σ2 i) ∧ ∀ k, k < n → σ' 307 k = σ 305 k) ⟨fun _ _ => rfl, fun k hk => by omega⟩ ?_ ?_
  · rintro n σ3 r hn ⟨h1, h2⟩ hr
    refine ⟨fun h => by omega, fun _ => ⟨by omega, by omega, ?_⟩⟩
    rintro σ4 e4
    rw [Int.toNat_natCast, h1 305 (by decide), g2 305 (by omega) (by omega)] at e4
    refine ⟨by omega, hr _ ⟨fun i hi => by rw [e4, ug_ne _ hi]; exact h1 i hi, fun k hk => ?_⟩⟩
    by_cases q : k = n
    · rw [q, e4, ug_eq]
    · rw [e4, ug_k _ _ q]; exact h2 k (by omega)
  · rintro σ3 r ⟨h1, h2⟩
    refine ⟨fun _ => ?_, fun h => absurd (Int.le_refl _) h⟩
    rintro σ4 e4
    have u4 : ∀ i, i ≠ 304 → σ4 i = σ3 i := fun i hi => by rw [e4, ug_ne _ hi]
    have v4 : ∀ k, k ≠ 4 → σ4 304 k = σ 304 k := fun k hk => by rw [e4, ug_k _ _ hk, h1 304 (by decide), g2 304 (by omega) (by omega)]
    have g4 : ∀ i, i ≠ 0 → i ≠ 304 → i ≠ 307 → i < 155 ∨ 184 ≤ i → σ4 i = σ i := fun i a b c d => by rw [u4 i b, h1 i c, g2 i a d]
    have e305 : σ4 305 = σ 305 := g4 305 (by omega) (by omega) (by omega) (by omega)
    rw [SC_len c2, e305, SM_len i2]
    obtain ⟨⟨v1, v2, v3⟩, ⟨r2, r3⟩, ⟨r4, r5⟩, r6⟩ := hR
    refine hQ _ _ ⟨s, h, some s, T, Iv_Rst.mpr ⟨SC_cg c2 (fun i a b => by rw [u4 i (by omega), h1 i (by omega)]), by rw [e305]; exact i2, i3, ⟨v1, v2, fun t ht => by cases ht; exact i3⟩, ⟨HCl_fr r2 (g4 _ (by omega) (by omega) (by omega) (by omega)) (fun i a b => g4 i (by omega) (by omega) (by omega) (by omega)), HMo_fr r3 (v4 2 (by decide)) (g4 _ (by omega) (by omega) (by omega) (by omega))⟩, ⟨⟨⟨?_, ?_⟩, fun t ht => ?_⟩, Txt_fr r5 (by rw [g4 30 (by omega) (by omega) (by omega) (by omega)]) (v4 8 (by decide)) (g4 _ (by omega) (by omega) (by omega) (by omega)) (g4 _ (by omega) (by omega) (by omega) (by omega))⟩, fun o ho hn => ?_⟩⟩
    · rw [u4 0 (by omega), h1 0 (by omega), e2, ug_eq, e4, ug_eq]
    · rw [u4 0 (by omega), h1 0 (by omega), e2, ug_eq]
      exact ⟨fun h => absurd h (by decide), fun h => by cases h⟩
    · cases ht
      exact ⟨SC_cg s2 (fun i a b => by rw [u4 i (by omega), h1 i (by omega)]), SM_cg i2 (VSt_VL i3) (fun k hk => by rw [u4 307 (by decide)]; exact h2 k hk)⟩
    · by_cases q : o = 155
      · subst q
        exact Pt_FO (hP _ k155) (by rw [u4 _ (by omega), h1 _ (by omega), u2 _ (by omega)]; exact f1.2)
      · exact Pt_FO (r6 o ho hn) (g4 _ (by omega) (by rcases isSt_in ho with e | e | e | e | e | e <;> omega) (by rcases isSt_in ho with e | e | e | e | e | e <;> omega) (by rcases isSt_in ho with e | e | e | e | e | e <;> omega))
theorem op_restore {σ : SG} {Q : Int → Int → SG → Prop} (hI : Inv σ) (hQ : ∀ r σ2, Inv σ2 → Q r r σ2) : wp_X9_restore σ (fun r σ1 => wp_X10_restore σ1 (fun r2 σ2 => Q r r2 σ2)) := by
  obtain ⟨s, h, m, T, hI⟩ := hI
  obtain ⟨i1, i2, i3, hR⟩ := Iv_Rst.mp hI
  unfold wp_X9_restore wp_X10_restore
  have k1 : KT.getD 1 99 = 7 := by decide +kernel
  have k155 : KT.getD 155 99 = 7 := by decide +kernel
  have hz := hR.2.2.1.1.1
  refine ⟨fun hne => ?_, fun h0 => ⟨fun h1 => absurd (hz.1.symm.trans h0) h1, fun _ => hQ _ _ ⟨s, h, m, T, hI⟩⟩⟩
  obtain ⟨t, rfl⟩ : ∃ t, m = some t := by
    cases m with
    | none => exact absurd (hz.2.mpr rfl) hne
    | some t => exact ⟨t, rfl⟩
  have ht := hR.1.2.2 t rfl
  refine rec_c hR i1 i3 (fun σ1 e1 R1 => ?_)
  have c1 : SC σ1 1 s := SC_cg i1 (fun i a b => e1 i (by omega))
  have hP := Rst_Pts R1 c1.2.2.2.2.1
  refine spec_X7_copy k1 k155 (by decide) (hP _ k1) (hP _ k155) (fun σ2 f2 c2 => ?_)
  have s2 : SC σ2 1 t := c2 _ _ _ _ _ _ (R1.2.2.1.1.2 t rfl).1
  have f12 : FrX σ1 σ2 := ⟨fun i hi => f2.1 i (by omega), by rw [f2.1 30 (by omega)], fun k _ => by rw [f2.1 304 (by omega)]⟩
  have R2 := Rst_X R1 f12
  have e305 : σ2 305 = σ 305 := by rw [f2.1 305 (by omega), e1 305 (by omega)]
  rw [SC_len s2]
  refine ⟨fun _ => ?_, fun h0 => absurd (R2.2.2.1.1.1.1.trans h0) (fun h => by rw [f2.1 0 (by omega), e1 0 (by omega)] at h; exact hne h)⟩
  refine rec_m R2 (s := s) (by rw [e305]; exact i2) i3 (fun σ3 e3 R3 => ?_)
  refine Lp1_up 87 (fun n σ' => (∀ i, i ≠ 305 → σ' i = σ3 i) ∧ ∀ k, k < n → σ' 305 k = σ3 307 k) ⟨fun _ _ => rfl, fun k hk => by omega⟩ ?_ ?_
  · rintro n σ4 r hn ⟨h1, h2⟩ hr
    refine ⟨fun h => by omega, fun _ => ⟨by omega, by omega, ?_⟩⟩
    rintro σ5 e5
    rw [Int.toNat_natCast, h1 307 (by decide)] at e5
    refine ⟨by omega, hr _ ⟨fun i hi => by rw [e5, ug_ne _ hi]; exact h1 i hi, fun k hk => ?_⟩⟩
    by_cases q : k = n
    · rw [q, e5, ug_eq]
    · rw [e5, ug_k _ _ q]; exact h2 k (by omega)
  · rintro σ4 r ⟨h1, h2⟩
    refine ⟨fun _ => ?_, fun h => absurd (Int.le_refl _) h⟩
    have hm4 : SM (σ4 305) t := SM_cg (R3.2.2.1.1.2 t rfl).2 (VSt_VL ht) h2
    rw [SM_len hm4]
    exact hQ _ _ ⟨t, push h s, some t, T, Iv_Rst.mpr ⟨SC_cg s2 (fun i a b => by rw [h1 i (by omega), e3 i (by omega) (by omega)]), hm4, ht, Rst_X R3 (FrX.of305 h1)⟩⟩
theorem op_undo {σ : SG} {Q : Int → Int → SG → Prop} (hI : Inv σ) (hQ : ∀ r σ2, Inv σ2 → Q r r σ2) : wp_X9_undo σ (fun r σ1 => wp_X10_undo σ1 (fun r2 σ2 => Q r r2 σ2)) := by
  obtain ⟨s, h, m, T, hI⟩ := hI
  obtain ⟨i1, i2, i3, hR⟩ := Iv_Rst.mp hI
  unfold wp_X9_undo
  obtain ⟨⟨v1, v2, v3⟩, ⟨r2, r3⟩, ⟨r4, r5⟩, r6⟩ := id hR
  rw [r2.2.1.1]
  refine ⟨fun hne => ?_, fun h0 => by
    show wp_X10_undo σ (fun r2 σ2 => Q (-5) r2 σ2)
    unfold wp_X10_undo
    exact ⟨fun h1 => absurd (by rw [r3.1.1]; exact h0) h1, fun _ => hQ _ _ ⟨s, h, m, T, hI⟩⟩⟩
  obtain ⟨h', t, rfl⟩ : ∃ h' t, h = h' ++ [t] := by
    refine ⟨h.dropLast, h.getLast (fun e => hne (by rw [e]; rfl)), (List.dropLast_concat_getLast _).symm⟩
  have ht := v1 t (by simp)
  have hv' : ∀ x ∈ h', VSt x := fun x hx => v1 x (by simp [hx])
  refine spec_X3_takeBack (Rst_Pts hR i1.2.2.2.2.1) r2 (fun σ1 e1 hP1 H1 l1 s1 => ?_)
  rw [l1]
  show wp_X10_undo σ1 (fun r2 σ2 => Q (h'.length : Int) r2 σ2)
  unfold wp_X10_undo
  have e304 : σ1 304 = σ 304 := e1 304 (by omega) (by omega)
  have k304 := r3.1.1
  rw [List.length_append] at k304
  simp only [List.length_cons, List.length_nil] at k304
  have h3 := r3.1.2
  rw [List.length_append] at h3
  simp only [List.length_cons, List.length_nil] at h3
  rw [e304, k304]
  refine ⟨fun _ => ⟨by omega, ?_⟩, fun h => by omega⟩
  rintro σ2 e2
  rw [show ((h'.length + (0 + 1) : Nat) : Int) - 1 = (h'.length : Nat) by omega] at e2
  have u2 : ∀ i, i ≠ 304 → σ2 i = σ1 i := fun i hi => by rw [e2, ug_ne _ hi]
  have l2 : σ2 304 2 = h'.length := by rw [e2, ug_eq]
  refine Lp1_up 87 (fun n σ' => (∀ i, i ≠ 305 → σ' i = σ2 i) ∧ ∀ k, k < n → σ' 305 k = σ 306 (87 * h'.length + k)) ⟨fun _ _ => rfl, fun k hk => by omega⟩ ?_ ?_
  · rintro n σ3 r hn ⟨h1, h2⟩ hr
    rw [h1 304 (by decide), l2]
    refine ⟨fun h => by omega, fun _ => ⟨by omega, by omega, by omega, by omega, ?_⟩⟩
    rintro σ4 e4
    rw [Int.toNat_natCast, show (87 * (h'.length : Int) + n).toNat = 87 * h'.length + n by omega, h1 306 (by decide), u2 306 (by decide), e1 306 (by omega) (by omega)] at e4
    refine ⟨by omega, hr _ ⟨fun i hi => by rw [e4, ug_ne _ hi]; exact h1 i hi, fun k hk => ?_⟩⟩
    by_cases q : k = n
    · rw [q, e4, ug_eq]
    · rw [e4, ug_k _ _ q]; exact h2 k (by omega)
  · rintro σ3 r ⟨h1, h2⟩
    rw [h1 304 (by decide), l2]
    refine ⟨fun _ => ?_, fun h => absurd (Int.le_refl _) h⟩
    have hm3 : SM (σ3 305) t := SM_cg (r3.2 h'.length t (by simp)) (VSt_VL ht) h2
    have w3 : ∀ k, k ≠ 2 → σ3 304 k = σ 304 k := fun k hk => by rw [h1 304 (by decide), e2, ug_k _ _ hk, e304]
    have g3 : ∀ i, i ≠ 184 → i ≠ 304 → i ≠ 305 → i < 1 ∨ 30 ≤ i → σ3 i = σ i := fun i a b c d => by rw [h1 i c, u2 i b, e1 i a d]
    have g13 : ∀ i, i ≠ 304 → i ≠ 305 → σ3 i = σ1 i := fun i a b => by rw [h1 i b, u2 i a]
    refine hQ _ _ ⟨t, h', m, T, Iv_Rst.mpr ⟨SC_cg s1 (fun i a b => g13 i (by omega) (by omega)), hm3, ht, ⟨hv', hv', v3⟩, ⟨HCl_fr H1 (g13 _ (by omega) (by omega)) (fun i a b => g13 i (by omega) (by omega)), ⟨⟨by rw [h1 304 (by decide), l2], by omega⟩, fun j x hj => ?_⟩⟩, ⟨Snp_fr r4 (by rw [g3 0 (by omega) (by omega) (by omega) (by omega)]) (w3 4 (by decide)) (fun i a b => g3 i (by omega) (by omega) (by omega) (by omega)) (g3 _ (by omega) (by omega) (by omega) (by omega)), Txt_fr r5 (by rw [g3 30 (by omega) (by omega) (by omega) (by omega)]) (w3 8 (by decide)) (g3 _ (by omega) (by omega) (by omega) (by omega)) (g3 _ (by omega) (by omega) (by omega) (by omega))⟩, fun o ho hn => Pt_FO (hP1 o ho) (g13 _ (by rcases isSt_in ho with e | e | e | e | e | e <;> omega) (by rcases isSt_in ho with e | e | e | e | e | e <;> omega))⟩⟩
    rw [g3 306 (by omega) (by omega) (by omega) (by omega)]
    have hjl := (List.getElem?_eq_some_iff.mp hj).1
    exact r3.2 j x (by rw [List.getElem?_append_left hjl]; exact hj)
theorem op_clearText {σ : SG} {Q : Int → Int → SG → Prop} (hI : Inv σ) (hQ : ∀ r σ2, Inv σ2 → Q r r σ2) : wp_X9_clearText σ (fun r σ1 => wp_X10_clearText σ1 (fun r2 σ2 => Q r r2 σ2)) := by
  obtain ⟨s, h, m, T, hI⟩ := hI
  obtain ⟨i1, i2, i3, hR⟩ := Iv_Rst.mp hI
  unfold wp_X9_clearText wp_X10_clearText
  obtain ⟨⟨v1, v2, v3⟩, ⟨r2, r3⟩, ⟨r4, r5⟩, r6⟩ := id hR
  rintro v rfl σ1 e1 w rfl σ2 e2
  have g : ∀ i, i ≠ 30 → i ≠ 304 → σ2 i = σ i := fun i a b => by rw [e2, ug_ne _ b, e1, ug_ne _ a]
  have g3 : ∀ k, k ≠ 8 → σ2 304 k = σ 304 k := fun k hk => by rw [e2, ug_k _ _ hk, e1, ug_ne _ (by decide)]
  rw [r5.1.1, e1, ug_ne _ (by decide), r5.1.2.1]
  rw [e1] at e2
  refine hQ _ _ ⟨s, h, m, [], Iv_Rst.mpr ⟨SC_cg i1 (fun i a b => g i (by omega) (by omega)), by rw [g 305 (by omega) (by omega)]; exact i2, i3, ⟨v1, v2, v3⟩, ⟨HCl_fr r2 (g _ (by omega) (by omega)) (fun i a b => g i (by omega) (by omega)), HMo_fr r3 (g3 2 (by decide)) (g _ (by omega) (by omega))⟩, ⟨Snp_fr r4 (by rw [g 0 (by omega) (by omega)]) (g3 4 (by decide)) (fun i a b => g i (by omega) (by omega)) (g _ (by omega) (by omega)), ⟨⟨?_, ?_, by simp⟩, fun i c hc => by simp at hc⟩⟩, fun o ho hn => Pt_FO (r6 o ho hn) (g _ (by rcases isSt_in ho with e | e | e | e | e | e <;> omega) (by rcases isSt_in ho with e | e | e | e | e | e <;> omega))⟩⟩
  · rw [e2, ug_ne _ (by decide), ug_eq]; rfl
  · rw [e2, ug_eq]; rfl
theorem op_type {σ : SG} {a : Int} {Q : Int → Int → SG → Prop} (ha : 0 ≤ a ∧ a < 65536) (hI : Inv σ) (hQ : ∀ r σ2, Inv σ2 → Q r r σ2) : wp_X9_type σ a (fun r σ1 => wp_X10_type σ1 a (fun r2 σ2 => Q r r2 σ2)) := by
  obtain ⟨s, h, m, T, hI⟩ := hI
  obtain ⟨i1, i2, i3, hR⟩ := Iv_Rst.mp hI
  unfold wp_X9_type wp_X8_add
  obtain ⟨⟨v1, v2, v3⟩, ⟨r2, r3⟩, ⟨r4, r5⟩, r6⟩ := id hR
  have t1 := r5.1.1
  have t2 := r5.1.2.1
  have t3 := r5.1.2.2
  rw [t1]
  refine ⟨fun hlt => ⟨by omega, ?_⟩, fun hge => ⟨fun _ => by
    show wp_X10_type σ a (fun r2 σ2 => Q (-3) r2 σ2)
    unfold wp_X10_type
    exact ⟨fun h => by omega, fun _ => hQ _ _ ⟨s, h, m, T, hI⟩⟩, fun h => absurd rfl h⟩⟩
  rintro σ1 e1
  rw [Int.toNat_natCast] at e1
  rw [show σ1 30 1 = T.length by rw [e1, ug_ne _ (by decide), t1]]
  refine ⟨by omega, ?_⟩
  rintro σ2 e2
  have c30 : σ2 30 1 = (T.length : Int) + 1 := by rw [e2, ug_eq]
  have c304 : σ2 304 8 = T.length := by rw [e2, ug_ne _ (by decide), e1, ug_ne _ (by decide), t2]
  refine ⟨fun h => absurd h (by decide), fun _ => ?_⟩
  show wp_X10_type σ2 a (fun r2 σ5 => Q (σ2 30 1) r2 σ5)
  unfold wp_X10_type
  rw [c30, c304]
  refine ⟨fun _ => ⟨by omega, by omega, ?_⟩, fun h => by omega⟩
  rintro σ3 e3
  rw [Int.toNat_natCast] at e3
  rw [show σ3 304 8 = T.length by rw [e3, ug_ne _ (by decide), c304]]
  refine ⟨by omega, ?_⟩
  rintro σ4 e4
  have g : ∀ i, i ≠ 30 → i ≠ 31 → i ≠ 304 → i ≠ 311 → σ4 i = σ i := fun i a b c d => by rw [e4, ug_ne _ c, e3, ug_ne _ d, e2, ug_ne _ a, e1, ug_ne _ b]
  have g3 : ∀ k, k ≠ 8 → σ4 304 k = σ 304 k := fun k hk => by rw [e4, ug_k _ _ hk, e3, ug_ne _ (by decide), e2, ug_ne _ (by decide), e1, ug_ne _ (by decide)]
  rw [show σ4 304 8 = (T.length : Int) + 1 by rw [e4, ug_eq]]
  refine hQ _ _ ⟨s, h, m, T ++ [a], Iv_Rst.mpr ⟨SC_cg i1 (fun i a b => g i (by omega) (by omega) (by omega) (by omega)), by rw [g 305 (by omega) (by omega) (by omega) (by omega)]; exact i2, i3, ⟨v1, v2, v3⟩, ⟨HCl_fr r2 (g _ (by omega) (by omega) (by omega) (by omega)) (fun i a b => g i (by omega) (by omega) (by omega) (by omega)), HMo_fr r3 (g3 2 (by decide)) (g _ (by omega) (by omega) (by omega) (by omega))⟩, ⟨Snp_fr r4 (by rw [g 0 (by omega) (by omega) (by omega) (by omega)]) (g3 4 (by decide)) (fun i a b => g i (by omega) (by omega) (by omega) (by omega)) (g _ (by omega) (by omega) (by omega) (by omega)), ⟨⟨?_, ?_, ?_⟩, fun i c hc => ?_⟩⟩, fun o ho hn => Pt_FO (r6 o ho hn) (g _ (by rcases isSt_in ho with e | e | e | e | e | e <;> omega) (by rcases isSt_in ho with e | e | e | e | e | e <;> omega) (by rcases isSt_in ho with e | e | e | e | e | e <;> omega) (by rcases isSt_in ho with e | e | e | e | e | e <;> omega))⟩⟩
  · rw [e4, ug_ne _ (by decide), e3, ug_ne _ (by decide), c30]; simp
  · rw [e4, ug_eq]; simp
  · simp; omega
  · have a31 : σ4 31 = (ug σ 31 T.length a) 31 := by rw [e4, ug_ne _ (by decide), e3, ug_ne _ (by decide), e2, ug_ne _ (by decide), e1]
    have a311 : σ4 311 = fun k => if k = T.length then a else σ 311 k := by
      funext k
      rw [e4, ug_ne _ (by decide), e3]
      by_cases q : k = T.length
      · rw [q, ug_eq, if_pos rfl]
      · rw [ug_k _ _ q, if_neg q, e2, ug_ne _ (by decide), e1, ug_ne _ (by decide)]
    rw [a31, a311]
    rcases Nat.lt_or_ge i T.length with q | q
    · rw [List.getElem?_append_left q] at hc
      rw [ug_k _ _ (by omega)]
      show σ 31 i = c ∧ (if i = T.length then a else σ 311 i) = c ∧ 0 ≤ c ∧ c < 65536
      rw [if_neg (by omega)]
      exact r5.2 i c hc
    · have hi : i = T.length := by
        have := (List.getElem?_eq_some_iff.mp hc).1
        simp at this
        omega
      subst hi
      rw [List.getElem?_append_right (Nat.le_refl _), Nat.sub_self] at hc
      cases hc
      rw [ug_eq]
      show a = a ∧ (if T.length = T.length then a else σ 311 T.length) = a ∧ 0 ≤ a ∧ a < 65536
      rw [if_pos rfl]
      exact ⟨rfl, rfl, ha⟩
theorem SF_x {R : Type} [Lean.Grind.CommRing R] {p : Nat} {co : R → Nat → Int} {mk : (Nat → Int) → R} (H : PD p co mk) : SF p co mk (xx p mk) := by
  have hp := pd_p H
  refine ⟨0, 1, ?_⟩
  have e : der p co mk (xx p mk) = 1 := pd_ext H (fun k => by
    rw [co_der H, co_x H, co_one H]
    by_cases q : k = 0
    · subst q
      rw [if_pos (by omega), if_pos rfl]
      exact Int.emod_eq_of_lt (by decide) (by omega)
    · rw [if_neg (by omega), if_neg q]
      simp)
  rw [e]
  grind
theorem Val_start {R : Type} [Lean.Grind.CommRing R] {p : Nat} {co : R → Nat → Int} {mk : (Nat → Int) → R} (H : PD p co mk) : Val p co mk (xx p mk) (fun _ => 0) [xx p mk] := by
  have hd := dd_x H
  refine ⟨mon_x H, by omega, SF_x H, fun k _ => ?_, ⟨fun x hx => ?_, ?_⟩, ?_⟩
  · rw [dd_zero H]; omega
  · rw [List.mem_singleton.mp hx]; exact ⟨mon_x H, by omega⟩
  · show xx p mk * 1 = xx p mk
    grind
  · exact List.pairwise_cons.mpr ⟨(fun b hb => by cases hb), List.Pairwise.nil⟩
theorem spec_X10_resets {σ : SG} {Q : SG → Prop} (hQ : ∀ σ' : SG, (∀ i, i ≠ 305 → σ' i = σ i) → σ' 305 0 = σ 305 0 → σ' 305 2 = 1 → σ' 305 44 = 1 → σ' 305 46 = 1 → (∀ k, 0 < k → k < 87 → k ≠ 2 → k ≠ 44 → k ≠ 46 → σ' 305 k = 0) → Q σ') : wp_X10_resets σ Q := by
  unfold wp_X10_resets
  refine Lp1_up_from 1 87 (by omega) (fun n σ' => (∀ i, i ≠ 305 → σ' i = σ i) ∧ σ' 305 0 = σ 305 0 ∧ ∀ k, 0 < k → k < n → σ' 305 k = 0) ⟨fun _ _ => rfl, rfl, fun k h1 h2 => by omega⟩ ?_ ?_
  · rintro n σ1 r hn1 hn ⟨h1, h2, h3⟩ hr
    refine ⟨fun h => by omega, fun _ => ⟨by omega, ?_⟩⟩
    rintro σ2 e2
    rw [Int.toNat_natCast] at e2
    refine ⟨by omega, hr _ ⟨fun i hi => by rw [e2, ug_ne _ hi]; exact h1 i hi, by rw [e2, ug_k _ _ (by omega)]; exact h2, fun k a b => ?_⟩⟩
    by_cases q : k = n
    · rw [q, e2, ug_eq]
    · rw [e2, ug_k _ _ q]; exact h3 k a (by omega)
  · rintro σ1 r ⟨h1, h2, h3⟩
    refine ⟨fun _ => ?_, fun h => absurd (Int.le_refl _) h⟩
    rintro σ2 rfl σ3 rfl σ4 rfl
    refine hQ _ (fun i hi => by rw [ug_ne _ hi, ug_ne _ hi, ug_ne _ hi]; exact h1 i hi) (by rw [ug_k _ _ (by decide), ug_k _ _ (by decide), ug_k _ _ (by decide)]; exact h2) (by rw [ug_k _ _ (by decide), ug_k _ _ (by decide), ug_eq]) (by rw [ug_k _ _ (by decide), ug_eq]) (by rw [ug_eq]) (fun k a b c d e => by rw [ug_k _ _ e, ug_k _ _ d, ug_k _ _ c]; exact h3 k a b)
theorem Awn_start {R : Type} [Lean.Grind.CommRing R] {p : Nat} {co : R → Nat → Int} {mk : (Nat → Int) → R} (H : PD p co mk) {w : Nat → Int} (h0 : w 0 = p) (h2 : w 2 = 1) (h44 : w 44 = 1) (h46 : w 46 = 1) (h : ∀ k, 0 < k → k < 87 → k ≠ 2 → k ≠ 44 → k ≠ 46 → w k = 0) : Awn co w p (xx p mk : R) (fun _ => 0) [xx p mk] := by
  refine ⟨h0, fun k hk => ?_, fun r k hr hk => ?_, h44, fun i x hx k hk => ?_⟩
  · rw [co_x H]
    by_cases q : k = 1
    · rw [if_pos q, q]; exact h2
    · rw [if_neg q]; exact h _ (by omega) (by omega) (by omega) (by omega) (by omega)
  · rw [co_zero H]; exact h _ (by omega) (by omega) (by omega) (by omega) (by omega)
  · have hi : i = 0 := by
      have := (List.getElem?_eq_some_iff.mp hx).1
      simp at this
      exact this
    subst hi
    cases hx
    rw [co_x H]
    by_cases q : k = 1
    · rw [if_pos q, q]; exact h46
    · rw [if_neg q]; exact h _ (by omega) (by omega) (by omega) (by omega) (by omega)
theorem spec_X9_isPrime {σ : SG} {a : Int} {Q : Int → SG → Prop} (h1 : ∀ q : Nat, a = q → Pr q → Q 1 σ) (h0 : ¬ (0 ≤ a ∧ Pr a.toNat) → Q 0 σ) : wp_X9_isPrime σ a Q := by
  unfold wp_X9_isPrime
  have hp : Pr a.toNat → 0 ≤ a → Q 1 σ := fun h h2 => h1 a.toNat (by omega) h
  unfold Pr at hp h0
  exact ⟨fun h => hp (by omega) (by omega), fun a2 => ⟨fun h => hp (by omega) (by omega), fun a3 => ⟨fun h => hp (by omega) (by omega), fun a5 => ⟨fun h => hp (by omega) (by omega), fun a7 => ⟨fun h => hp (by omega) (by omega), fun a11 => ⟨fun h => h0 (by omega), fun h => hp (by omega) (by omega)⟩⟩⟩⟩⟩⟩
theorem spec_X10_setPrime {σ : SG} {q : Nat} {Q : Int → SG → Prop} (hp : Pr q) (h : ∀ v : Int, v = σ 305 0 → (¬ v = (q : Int) → wp_X10_record σ (fun σ2 => ∀ σ3 : SG, σ3 = ug σ2 305 0 q → wp_X10_resets σ3 (fun σ4 => Q v σ4))) ∧ (v = (q : Int) → Q (-5) σ)) : wp_X10_setPrime σ q Q := by
  unfold wp_X10_setPrime
  unfold Pr at hp
  exact ⟨fun _ => h, fun a2 => ⟨fun _ => h, fun a3 => ⟨fun _ => h, fun a5 => ⟨fun _ => h, fun a7 => ⟨fun _ => h, fun a11 => ⟨fun _ => h, fun a13 => by omega⟩⟩⟩⟩⟩⟩
theorem no_X10_setPrime {σ : SG} {a : Int} {Q : Int → SG → Prop} (hp : ¬ (0 ≤ a ∧ Pr a.toNat)) (h : Q (-2) σ) : wp_X10_setPrime σ a Q := by
  unfold wp_X10_setPrime
  unfold Pr at hp
  exact ⟨fun _ => by omega, fun a2 => ⟨fun _ => by omega, fun a3 => ⟨fun _ => by omega, fun a5 => ⟨fun _ => by omega, fun a7 => ⟨fun _ => by omega, fun a11 => ⟨fun _ => by omega, fun a13 => h⟩⟩⟩⟩⟩⟩
theorem gop_setPrime {R : Type} [Lean.Grind.CommRing R] {p : Nat} {co : R → Nat → Int} {mk : (Nat → Int) → R} (H : PD p co mk) {sv : R → (Nat → R) → List R → SV} (E : EN p co mk sv) {σ : SG} {s : SV} {h : List SV} {m : Option SV} {T : List Int} {Q : Int → Int → SG → Prop} (hI : Iv σ s h m T) (hQ : ∀ r σ2, Inv σ2 → Q r r σ2) : wp_X9_setPrime σ p (fun r σ1 => wp_X10_setPrime σ1 p (fun r2 σ2 => Q r r2 σ2)) := by
  obtain ⟨i1, i2, i3, hR⟩ := Iv_Rst.mp hI
  unfold wp_X9_setPrime
  have e0 : σ 1 0 = σ 305 0 := i1.1.trans i2.1.symm
  refine spec_X9_isPrime (fun q hq hpq => ⟨fun _ => ?_, fun h => absurd h (by decide)⟩) (fun h => absurd ⟨by omega, by rw [Int.toNat_natCast]; exact H.1⟩ h)
  rintro v rfl
  refine ⟨fun hne => ?_, fun heq => ?_⟩
  · refine rec_c hR i1 i3 (fun σ1 e1 R1 => ?_)
    have c1 : SC σ1 1 s := SC_cg i1 (fun i a b => e1 i (by omega))
    refine spec_X7_start H (by decide +kernel) c1.2.2.2.2.1 (fun σ2 f2 s2 => ?_)
    have R2 := Rst_X R1 (σ' := σ2) ⟨fun i hi => f2 i (by omega), by rw [f2 30 (by omega)], fun k _ => by rw [f2 304 (by omega)]⟩
    have e305 : σ2 305 = σ 305 := by rw [f2 305 (by omega), e1 305 (by omega)]
    refine spec_X10_setPrime H.1 (fun v hv => ⟨fun _ => ?_, fun h => absurd (h.symm.trans (hv.trans (by rw [e305]; exact e0.symm))) hne⟩)
    refine rec_m R2 (s := s) (by rw [e305]; exact i2) i3 (fun σ3 e3 R3 => ?_)
    rintro σ4 e4
    refine spec_X10_resets (fun σ5 u5 w0 w2 w44 w46 w => ?_)
    have u4 : ∀ i, i ≠ 305 → σ5 i = σ3 i := fun i hi => by rw [u5 i hi, e4, ug_ne _ hi]
    rw [hv, e305, e0]
    have hA : Awn co (σ5 305) p (xx p mk : R) (fun _ => 0) [xx p mk] := Awn_start H (by rw [w0, e4, ug_eq]) w2 w44 w46 w
    exact hQ _ _ ⟨sv (xx p mk) (fun _ => 0) [xx p mk], push h s, m, T, Iv_Rst.mpr ⟨(E.1 _ _ _ _ _).mp (Scn_cgr s2 (fun i a b => by rw [u4 i (by omega), e3 i (by omega) (by omega)])), (E.2.1 _ _ _ _).mp hA, (E.2.2 _ _ _).mp (Val_start H), Rst_X R3 (FrX.of305 u4)⟩⟩
  · exact spec_X10_setPrime H.1 (fun v hv => ⟨fun h => absurd (hv.trans (e0.symm.trans heq.symm)) h, fun _ => hQ _ _ ⟨s, h, m, T, hI⟩⟩)
theorem op_setPrime {σ : SG} {a : Int} {Q : Int → Int → SG → Prop} (hI : Inv σ) (hQ : ∀ r σ2, Inv σ2 → Q r r σ2) : wp_X9_setPrime σ a (fun r σ1 => wp_X10_setPrime σ1 a (fun r2 σ2 => Q r r2 σ2)) := by
  obtain ⟨s, h, m, T, hI⟩ := hI
  by_cases hp : 0 ≤ a ∧ Pr a.toNat
  · obtain ⟨q, rfl⟩ := Int.eq_ofNat_of_zero_le hp.1
    have hq : Pr q := hp.2
    obtain ⟨n, rfl⟩ : ∃ n, q = n + 2 := ⟨q - 2, by have := Pr_pos hq; omega⟩
    exact @gop_setPrime (POL n) (polR n) (n + 2) (coP n) (polMk n) (PD_pol hq) _ (EN_pol hq) σ s h m T Q hI hQ
  · unfold wp_X9_setPrime
    exact spec_X9_isPrime (fun q e h => absurd ⟨by omega, by rw [e]; exact h⟩ hp) (fun _ => ⟨fun h => absurd rfl h, fun _ => no_X10_setPrime hp (hQ _ _ ⟨s, h, m, T, hI⟩)⟩)
