/-! the reference goes along an assignment -/
theorem spec_X10_goesAlong {R : Type} [Lean.Grind.CommRing R] {p : Nat} {co : R → Nat → Int} {mk : (Nat → Int) → R} (H : PD p co mk) {σ : SG} {T : List Int} {f : R} {g : Nat → R} {L : List R} {a1 : Int} {Q : Int → SG → Prop} (hT : Txt σ T) (hA : Awn co (σ 305) p f g L) (hV : Val p co mk f g L) (ha1 : a1 ≠ 0 → Rr co σ 0 f) (h0 : G0 σ T a1 Q) (h1 : G1 p co mk σ T f g a1 (rk p co mk f g (T.drop 2) 0 0 (fun _ => (0, 1, 0, 0)) 0 L) Q) : wp_X10_goesAlong σ a1 Q := by
  unfold wp_X10_goesAlong
  have t3 := hT.1.2.2
  have hfd := hV.2.1
  have hf0 := Val_ne H hV
  intro σ1 e1
  have g1 : FG σ σ1 := FG.at e1
  have T1 := FG.txt hT g1
  have a0 : σ1 304 10 = ((0 : Nat) : Int) := by rw [e1, ug_eq]; rfl
  refine spec_X10_isBetween T1 a0 (fun c hc hcl => ⟨fun _ => ?_, fun h => absurd h (by decide)⟩) (fun hno => ⟨fun h => absurd rfl h, fun _ => ?_⟩)
  rotate_left
  · have hz : asf T = 0 := by
      unfold asf
      rw [if_neg]
      rcases hno with q | ⟨c, hc, q⟩
      · rw [List.getD_eq_getElem?_getD, q]; simp
      · rw [List.getD_eq_getElem?_getD, hc]; exact q
    exact h0 σ1 g1 (fun _ => by rw [e1, ug_ne _ (by decide)]) (by rw [a0, hz]; rfl) (by omega)
  have hl1 := (List.getElem?_eq_some_iff.mp hc).1
  have d0 : T.getD 0 0 = c := by rw [List.getD_eq_getElem?_getD, hc]; rfl
  rw [a0]
  refine ⟨by omega, ?_⟩
  intro σ2 e2
  have g2 := g1.tr (FG.at e2)
  have T2 := FG.txt hT g2
  have a2 : σ2 304 10 = ((1 : Nat) : Int) := by rw [e2, ug_eq]; rfl
  refine spec_X10_takes T2 a2 (by omega) (fun h61 σ3 e3 => ⟨fun _ => ?_, fun h => absurd h (by decide)⟩) (fun h61 σ3 e3 => ⟨fun h => absurd rfl h, fun _ => ?_⟩)
  rotate_left
  · have hz : asf T = 1 := by
      unfold asf
      rw [d0, if_pos hcl, if_neg]
      intro q
      apply h61
      by_cases q2 : 1 < T.length
      · exact (getD_iff q2).mp q
      · rw [List.getD_eq_getElem?_getD, List.getElem?_eq_none (by omega)] at q
        exact absurd q (by decide)
    exact h0 σ3 (g2.tr (FG.at e3)) (fun _ => by rw [e3, ug_ne _ (by decide), e2, ug_ne _ (by decide), e1, ug_ne _ (by decide)]) (by rw [e3, ug_eq, hz]; rfl) (by omega)
  have hl2 := (List.getElem?_eq_some_iff.mp h61).1
  have hasf : af (T.drop 2) 2 0 0 = asf T := by
    unfold asf
    rw [d0, if_pos hcl, if_pos ((getD_iff hl2).mpr h61)]
  intro σ4 e4 σ5 e5
  have g5 := (g2.tr (FG.at e3)).tr ((FG.of13 e4).tr (FG.of14 e5))
  have e305 : σ5 305 = σ 305 := by rw [e5, ug_ne _ (by decide), e4, ug_ne _ (by decide), e3, ug_ne _ (by decide), e2, ug_ne _ (by decide), e1, ug_ne _ (by decide)]
  have e308 : σ5 308 = σ 308 := by rw [e5, ug_ne _ (by decide), e4, ug_ne _ (by decide), e3, ug_ne _ (by decide), e2, ug_ne _ (by decide), e1, ug_ne _ (by decide)]
  have a5 : σ5 304 10 = ((2 : Nat) : Int) := by rw [e5, ug_ne _ (by decide), e4, ug_ne _ (by decide), e3, ug_eq]; rfl
  refine Lp1_m (fun x σ' => ∃ (k d : Nat) (lev : Nat → R × R × Int × Int) (w : R) (L' : List R), x = d ∧ GH p co mk σ T f g a1 (rk p co mk f g (T.drop 2) 0 0 (fun _ => (0, 1, 0, 0)) 0 L) σ' k d lev w L') (fun _ σ' => (61 - σ' 304 10).toNat) ⟨2, 0, fun _ => (0, 1, 0, 0), 0, L, rfl, ?_⟩ ?_
  · refine ⟨⟨⟨g5, a5, by omega, by omega⟩, ⟨by rw [e305]; exact hA, hV, fun _ => e305⟩, ⟨fun v _ => Dl_0 H hfd.1, by rw [dd_zero H]; omega⟩, fun h => ⟨Rr_tab (ha1 h) e308, fun v hv => by omega, Or.inl ⟨?_, rfl, rfl⟩⟩⟩, hasf, fun h => ⟨Or.inl ⟨?_, rfl, rfl⟩, rfl⟩⟩
    · rw [e5, ug_ne _ (by decide), e4, ug_eq]
    · rw [e5, ug_eq]
  generalize rk p co mk f g (T.drop 2) 0 0 (fun _ => (0, 1, 0, 0)) 0 L = Z at h1 ⊢
  rintro x σ6 r ⟨k, d, lev, w, L6, rfl, hG⟩ hrec
  have hG2 := hG
  obtain ⟨hB, hA6, hv⟩ := hG
  obtain ⟨⟨b1, b2, b3, b4⟩, ⟨b5, b6, b7⟩, ⟨b8, b9⟩, b10⟩ := id hB
  have T6 := FG.txt hT b1
  have hr : ∀ (σ' : SG) k' d' lev' w' L', k < k' → GH p co mk σ T f g a1 Z σ' k' d' lev' w' L' → r (d' : Nat) σ' := fun σ' k' d' lev' w' L' hk hG' => hrec _ _ ⟨k', d', lev', w', L', rfl, hG'⟩ (by
    have := hG'.1.1.2.1
    have := hG'.1.1.2.2.1
    show (61 - σ' 304 10).toNat < (61 - σ6 304 10).toNat
    omega)
  refine ⟨fun h5 => ga_body_spec H hT hG2 (Or.inl (by omega)) h0 h1 hr, fun h5 => spec_X10_takes T6 b2 b3.2 (fun hc σ7 e7 => ⟨fun h => absurd h (by decide), fun _ => ?_⟩) (fun hc σ7 e7 => ⟨fun _ => ?_, fun h => absurd rfl h⟩)⟩
  · have hlt := (List.getElem?_eq_some_iff.mp hc).1
    rw [show (d : Int) + 1 = ((d + 1 : Nat) : Int) by omega]
    simp only [Int.toNat_natCast]
    refine ⟨by omega, by omega, ?_⟩
    intro σ8 e8
    refine ⟨by omega, ?_⟩
    intro σ9 e9
    rw [drop_some hc] at hA6 hv
    rw [af_ok (by decide) (by rw [show xd 40 = 1 by decide]; omega) (by rw [show xd 40 = 1 by decide]; omega), show xb 40 0 = 0 by decide, show xd 40 = 1 by decide] at hA6
    have e305 : σ9 305 = σ6 305 := by rw [e9, ug_ne _ (by decide), e8, ug_ne _ (by decide), e7, ug_ne _ (by decide)]
    have tr : ∀ (r : Int) (a : R), Rr co σ6 r a → Rr co σ9 r a := fun r a h => Rr_tab h (by rw [e9, ug_ne _ (by decide), e8, ug_ne _ (by decide), e7, ug_ne _ (by decide)])
    have g13 : ∀ v, v ≠ d + 1 → σ9 313 v = σ6 313 v := fun v hv => by rw [e9, ug_ne _ (by decide), e8, ug_k _ _ hv, e7, ug_ne _ (by decide)]
    have g14 : ∀ v, v ≠ d + 1 → σ9 314 v = σ6 314 v := fun v hv => by rw [e9, ug_k _ _ hv, e8, ug_ne _ (by decide), e7, ug_ne _ (by decide)]
    refine hr σ9 (k + 1) (d + 1) (us lev (d + 1) (0, 1, 0, 0)) w L6 (by omega) ⟨⟨⟨b1.tr ((FG.at e7).tr ((FG.of13 e8).tr (FG.of14 e9))), by rw [e9, ug_ne _ (by decide), e8, ug_ne _ (by decide), e7, ug_eq]; omega, by omega, by omega⟩, ⟨by rw [e305]; exact b5, b6, fun h => by rw [e305]; exact b7 h⟩, ⟨fun i hi => ?_, b9⟩, fun h => ⟨tr _ _ (b10 h).1, fun i hi => ?_, ?_⟩⟩, ?_, fun h => ⟨?_, ?_⟩⟩
    · by_cases q : i = d + 1
      · rw [q, us_eq]; exact Dl_0 H hfd.1
      · rw [us_ne _ q]; exact b8 i (by omega)
    · rw [us_ne _ (by omega)]
      have h9 : RLs co σ6 i (lev i) ∧ RLp co σ6 i (lev i) := by
        by_cases q : i = d
        · rw [q]; exact ⟨(b10 h).2.2, (hv h).1⟩
        · exact (b10 h).2.1 i (by omega)
      exact ⟨RLs_cg h9.1 (g13 i (by omega)) (fun a => tr _ a), RLp_cg h9.2 (g14 i (by omega)) (fun a => tr _ a)⟩
    · rw [us_eq]
      exact Or.inl ⟨by rw [e9, ug_ne _ (by decide), e8, ug_eq], rfl, rfl⟩
    · exact hA6
    · rw [us_eq]
      exact Or.inl ⟨by rw [e9, ug_eq], rfl, rfl⟩
    · have hz := (hv h).2
      rw [rk, if_pos rfl] at hz
      exact hz
  · obtain ⟨B7, p7⟩ := GB_A (S := []) (k' := k) (w' := w) hB (FA.at e7 _) (by simp) (by rw [e7, ug_eq]) b3 b9
    exact ga_body_spec H hT ⟨B7, hA6, fun h => ⟨p7 (hv h).1, (hv h).2⟩⟩ (Or.inr hc) h0 h1 hr
