theorem spec_X10_coefficients {σ : SG} {T : List Int} {Q : Int → SG → Prop} (hT : Txt σ T) (hQ : ∀ σ' : SG, (∀ i, i ≠ 304 → i ≠ 312 → σ' i = σ i) → (∀ k, k ≠ 10 → σ' 304 k = σ 304 k) → ∀ z vs, pm T 0 (-1) [] = (z, vs) → (z = -1 → Vs (σ' 312) vs ∧ 1 ≤ vs.length ∧ vs.length ≤ 7 → Q vs.length σ') ∧ (z ≠ -1 → σ' 304 10 = z → Q (-5) σ')) : wp_X10_coefficients σ Q := by
  unfold wp_X10_coefficients
  have t3 := hT.1.2.2
  rintro σ1 e1
  refine Lp2_m (fun x y σ' => (∀ i, i ≠ 304 → i ≠ 312 → σ' i = σ i) ∧ (∀ k, k ≠ 10 → σ' 304 k = σ 304 k) ∧ ∃ (k : Nat) (vs : List Int), σ' 304 10 = k ∧ k ≤ T.length ∧ y = vs.length ∧ Vs (σ' 312) vs ∧ ((x = 1 ∧ vs.length ≤ 6 ∧ pm (T.drop k) k (-1) vs = pm T 0 (-1) []) ∨ (x = 0 ∧ 1 ≤ vs.length ∧ vs.length ≤ 7 ∧ pm T 0 (-1) [] = (-1, vs)))) (fun _ _ σ' => (61 - σ' 304 10).toNat) ⟨fun i a b => by rw [e1, ug_ne _ a], fun k hk => by rw [e1, ug_k _ _ hk], 0, [], by rw [e1, ug_eq]; rfl, by omega, rfl, fun i v hv => by simp at hv, Or.inl ⟨rfl, by simp, rfl⟩⟩ ?_
  rintro x y σ2 r ⟨g1, g2, k, vs, g3, g4, rfl, g5, g6⟩ hr
  have hT2 : Txt σ2 T := Txt_at hT (fun i hi => g1 i (by omega) (by omega)) (g2 8 (by decide))
  refine ⟨fun h0 => ?_, fun h0 => ?_⟩
  · rcases g6 with ⟨e, -⟩ | ⟨-, a1, a2, a3⟩
    · omega
    · exact (hQ σ2 g1 g2 _ _ a3).1 rfl ⟨g5, a1, a2⟩
  obtain ⟨hl6, hpm⟩ : vs.length ≤ 6 ∧ pm (T.drop k) k (-1) vs = pm T 0 (-1) [] := by
    rcases g6 with ⟨-, a, b⟩ | ⟨e, -⟩
    · exact ⟨a, b⟩
    · exact absurd e h0
  have fault : ∀ (σ' : SG) (k' : Nat) (w : List Int), (∀ i, i ≠ 304 → i ≠ 312 → σ' i = σ i) → (∀ k, k ≠ 10 → σ' 304 k = σ 304 k) → σ' 304 10 = k' → pm T 0 (-1) [] = ((k' : Int), w) → Q (-5) σ' := fun σ' k' w a b c d => (hQ σ' a b _ _ d).2 (by omega) c
  refine spec_X10_isBetween hT2 g3 (fun c hc hd => ⟨fun _ => ?_, fun h => absurd h (by decide)⟩) (fun hno => ⟨fun h => absurd rfl h, fun _ => ?_⟩)
  · have hkl := (List.getElem?_eq_some_iff.mp hc).1
    have hch := (hT2.2 k c hc).2.1
    rw [drop_some hc, pm_dig hd (by decide) (by unfold imax; simp; omega), show imax (-1) 0 * 10 + c - 48 = c - 48 by unfold imax; simp] at hpm
    rw [g3, Int.toNat_natCast, hch]
    refine ⟨by omega, by omega, by omega, ?_⟩
    rintro σ3 e3
    rw [Int.toNat_natCast] at e3
    rw [show σ3 304 10 = k by rw [e3, ug_ne _ (by decide), g3]]
    refine ⟨by omega, ?_⟩
    rintro σ4 e4
    have u4 : ∀ i, i ≠ 304 → i ≠ 312 → σ4 i = σ i := fun i a b => by rw [e4, ug_ne _ a, e3, ug_ne _ b]; exact g1 i a b
    have w4 : ∀ k, k ≠ 10 → σ4 304 k = σ 304 k := fun j hj => by rw [e4, ug_k _ _ hj, e3, ug_ne _ (by decide)]; exact g2 j hj
    have at4 : σ4 304 10 = (k + 1 : Nat) := by rw [e4, ug_eq]; omega
    have c4 : σ4 312 vs.length = c - 48 := by rw [e4, ug_ne _ (by decide), e3, ug_eq]
    have o4 : ∀ j, j < vs.length → σ4 312 j = σ2 312 j := fun j hj => by rw [e4, ug_ne _ (by decide), e3, ug_k _ _ (by omega)]
    have hT4 : Txt σ4 T := Txt_at hT (fun i hi => u4 i (by omega) (by omega)) (w4 8 (by decide))
    refine ⟨by omega, ?_⟩
    rw [Int.toNat_natCast, c4]
    refine ⟨fun σ' => (∀ i, i ≠ 304 → i ≠ 312 → σ' i = σ i) ∧ (∀ k, k ≠ 10 → σ' 304 k = σ 304 k) ∧ ∃ (k' : Nat) (v : Int), σ' 304 10 = k' ∧ k < k' ∧ k' ≤ T.length ∧ (0 ≤ v ∧ v ≤ 12) ∧ σ' 312 vs.length = v ∧ (∀ j, j < vs.length → σ' 312 j = σ2 312 j) ∧ pm (T.drop k') k' v vs = pm T 0 (-1) [] ∧ (∀ c', T[k']? = some c' → 48 ≤ c' ∧ c' ≤ 57 → v = 0 ∨ 12 < (imax v 0) * 10 + c' - 48), ?_, fun h1 => ?_, fun h1 => ?_⟩
    · rintro σ5 ⟨a1, a2, k', v, a3, a4, a5, a6, a7, a8, a9, a10⟩
      have hT5 : Txt σ5 T := Txt_at hT (fun i hi => a1 i (by omega) (by omega)) (a2 8 (by decide))
      have hV5 : Vs (σ5 312) (vs ++ [v]) := Vs_add g5 a6 a7 a8
      have hend : T[k']? = none → inR ((vs.length : Int) + 1) ∧ r 0 ((vs.length : Int) + 1) σ5 := fun hn => by
        have hk' : k' = T.length := by
          have := List.getElem?_eq_none_iff.mp hn
          omega
        rw [hk', List.drop_length, pm, if_pos a6.1] at a9
        exact ⟨by omega, hr _ _ _ ⟨a1, a2, k', vs ++ [v], a3, a5, by simp, hV5, Or.inr ⟨rfl, by simp, by simp; omega, a9.symm⟩⟩ (by omega)⟩
      refine ⟨by omega, jn1_self ?_⟩
      rw [hT5.1.2.1, a3]
      refine ⟨fun hge => ⟨fun _ => (hend (List.getElem?_eq_none (by omega))).2, fun h => absurd rfl h⟩, fun hlt => ⟨fun h => absurd h (by decide), fun _ => ?_⟩⟩
      have hc' : T[k']? = some T[k'] := List.getElem?_eq_getElem (by omega)
      generalize T[k'] = c' at hc'
      rw [drop_some hc'] at a9
      refine ⟨fun h7 => ?_, fun h7 => ?_⟩
      · exact fault σ5 k' vs a1 a2 a3 (by rw [← a9, pm_bad (a10 c' hc') (fun _ => Or.inr (by omega))])
      · refine spec_X10_takes hT5 a3 a5 (fun h44 σ6 e6 => ⟨fun _ => ?_, fun h => absurd h (by decide)⟩) (fun h44 σ6 e6 => ⟨fun h => absurd rfl h, fun _ => ?_⟩)
        · rw [hc'] at h44
          cases h44
          rw [pm_comma a6.1 (by omega)] at a9
          have hkk := (List.getElem?_eq_some_iff.mp hc').1
          refine hr _ _ _ ⟨fun i a b => by rw [e6, ug_ne _ a]; exact a1 i a b, fun j hj => by rw [e6, ug_k _ _ hj]; exact a2 j hj, k' + 1, vs ++ [v], by rw [e6, ug_eq]; omega, by omega, by simp, by rw [e6, ug_ne _ (by decide)]; exact hV5, Or.inl ⟨rfl, by simp; omega, a9⟩⟩ (by rw [e6, ug_eq]; omega)
        · refine fault σ6 k' vs (fun i a b => by rw [e6, ug_ne _ a]; exact a1 i a b) (fun j hj => by rw [e6, ug_k _ _ hj]; exact a2 j hj) (by rw [e6, ug_eq]) (by rw [← a9, pm_bad (a10 c' hc') (fun h => absurd (by rw [hc', h]) h44)])
    · exact ⟨u4, w4, k + 1, c - 48, at4, by omega, by omega, by omega, c4, o4, hpm, fun c' _ hd' => by unfold imax; split <;> omega⟩
    · refine spec_X10_isBetween hT4 at4 (fun c' hc' hd' => ⟨fun h => absurd h (by decide), fun _ => ?_⟩) (fun hno => ⟨fun _ => ?_, fun h => absurd rfl h⟩)
      · have hkl' := (List.getElem?_eq_some_iff.mp hc').1
        have hch' := (hT4.2 _ c' hc').2.1
        rw [drop_some hc', pm_dig (by omega) (by omega) (by unfold imax; split <;> omega), show imax (c - 48) 0 * 10 + c' - 48 = 10 + c' - 48 by unfold imax; split <;> omega] at hpm
        rw [at4, Int.toNat_natCast, hch']
        refine ⟨by omega, by omega, by omega, by omega, ?_⟩
        rintro σ5 e5
        rw [show σ5 304 10 = (k + 1 : Nat) by rw [e5, ug_ne _ (by decide), at4]]
        refine ⟨by omega, ?_⟩
        rintro σ6 e6
        refine ⟨fun i a b => by rw [e6, ug_ne _ a, e5, ug_ne _ b]; exact u4 i a b, fun j hj => by rw [e6, ug_k _ _ hj, e5, ug_ne _ (by decide)]; exact w4 j hj, k + 1 + 1, 10 + c' - 48, by rw [e6, ug_eq]; omega, by omega, by omega, by omega, by rw [e6, ug_ne _ (by decide), e5, ug_eq], fun j hj => by rw [e6, ug_ne _ (by decide), e5, ug_k _ _ (by omega)]; exact o4 j hj, hpm, fun c'' _ hd'' => by unfold imax; split <;> omega⟩
      · refine ⟨u4, w4, k + 1, c - 48, at4, by omega, by omega, by omega, c4, o4, hpm, fun c' hc' hd' => ?_⟩
        rcases hno with hno | ⟨c'', hc'', hno⟩
        · rw [hno] at hc'; cases hc'
        · rw [hc''] at hc'
          cases hc'
          unfold imax
          split <;> omega
  · refine fault σ2 k vs g1 g2 g3 ?_
    rw [← hpm]
    rcases hno with hno | ⟨c, hc, hno⟩
    · rw [List.drop_of_length_le (List.getElem?_eq_none_iff.mp hno), pm, if_neg (by decide)]
    · rw [drop_some hc, pm_bad (fun h => absurd h hno) (fun _ => Or.inl (by decide))]
