/-! the class's reckoner: the loop -/
theorem af_end {k : Nat} {e d : Int} (h : af [] k e d = -1) : d = 0 ∧ (e = 1 ∨ e = 3) := by
  unfold af at h
  split at h
  · omega
  · split at h
    · rename_i h1 h2; exact ⟨by omega, h2⟩
    · omega
theorem af_go {c : Int} {r : List Int} {k : Nat} {e d : Int} (h : af (c :: r) k e d = -1) : 0 ≤ xb c e ∧ 0 ≤ d + xd c ∧ d + xd c ≤ 5 ∧ af r (k + 1) (xb c e) (d + xd c) = -1 := by
  unfold af at h
  split at h
  · omega
  · rename_i h1; exact ⟨by omega, by omega, by omega, h⟩
theorem xb_40 {e : Int} (h : 0 ≤ xb 40 e) : e = 0 ∧ xb 40 e = 0 := by
  unfold xb at h ⊢
  by_cases q : e = 0
  · exact ⟨q, by rw [if_pos q]; decide⟩
  · rw [if_neg q] at h
    by_cases q2 : e = 2
    · rw [if_pos q2] at h; exact absurd h (by decide)
    · rw [if_neg q2, if_neg (by decide), if_neg (by decide), if_neg (by decide)] at h; exact absurd h (by decide)
theorem xb_op {c e : Int} (hc : c = 41 ∨ c = 42 ∨ c = 43 ∨ c = 45 ∨ c = 47) (h : 0 ≤ xb c e) : e ≠ 0 ∧ e ≠ 2 ∧ xb c e = if c = 41 then 1 else 0 := by
  unfold xb at h ⊢
  by_cases q : e = 0
  · rw [if_pos q, if_neg (by omega), if_neg (by omega)] at h; exact absurd h (by decide)
  · rw [if_neg q] at h ⊢
    by_cases q2 : e = 2
    · rw [if_pos q2, if_neg (by omega)] at h; exact absurd h (by decide)
    · rw [if_neg q2]
      refine ⟨q, q2, ?_⟩
      by_cases q3 : c = 41
      · rw [if_pos q3, if_pos q3]
      · rw [if_neg q3, if_neg q3, if_pos (by omega)]
theorem xb_94 {e : Int} (h : 0 ≤ xb 94 e) : e = 1 ∧ xb 94 e = 2 := by
  unfold xb at h ⊢
  by_cases q : e = 0
  · rw [if_pos q] at h; exact absurd h (by decide)
  · rw [if_neg q] at h ⊢
    by_cases q2 : e = 2
    · rw [if_pos q2] at h; exact absurd h (by decide)
    · rw [if_neg q2, if_neg (by decide), if_neg (by decide), if_pos rfl] at h ⊢
      by_cases q3 : e = 1
      · rw [if_pos q3]; exact ⟨q3, rfl⟩
      · rw [if_neg q3] at h; exact absurd h (by decide)
theorem xb_si {c e : Int} (h40 : c ≠ 40) (h41 : c ≠ 41) (h42 : c ≠ 42) (h43 : c ≠ 43) (h45 : c ≠ 45) (h47 : c ≠ 47) (h94 : c ≠ 94) (h : 0 ≤ xb c e) : (e = 0 ∧ xb c e = 1 ∧ xb c 0 = 1) ∨ (e = 2 ∧ xb c e = 3 ∧ 48 ≤ c ∧ c ≤ 57) := by
  by_cases q : e = 0
  · left
    subst q
    refine ⟨rfl, ?_, ?_⟩ <;>
    · unfold xb at h ⊢
      rw [if_pos rfl] at h ⊢
      by_cases q2 : (97 ≤ c ∧ c ≤ 102) ∨ (48 ≤ c ∧ c ≤ 57) ∨ c = 120
      · rw [if_pos q2]
      · rw [if_neg q2, if_neg h40] at h; exact absurd h (by decide)
  · right
    unfold xb at h ⊢
    rw [if_neg q] at h ⊢
    by_cases q2 : e = 2
    · rw [if_pos q2] at h ⊢
      by_cases q3 : 48 ≤ c ∧ c ≤ 57
      · rw [if_pos q3]; exact ⟨q2, rfl, q3.1, q3.2⟩
      · rw [if_neg q3] at h; exact absurd h (by decide)
    · rw [if_neg q2, if_neg h41, if_neg (by omega), if_neg h94] at h
      exact absurd h (by decide)
theorem xd_0 {c : Int} (h40 : c ≠ 40) (h41 : c ≠ 41) : xd c = 0 := by unfold xd; rw [if_neg h40, if_neg h41]
/-- where the class's reckoner stands -/
def CR {R : Type} [Lean.Grind.CommRing R] (p : Nat) (co : R → Nat → Int) (mk : (Nat → Int) → R) (σ0 : SG) (T : List Int) (f : R) (g : Nat → R) (Z : R × List R) (σ : SG) (k : Nat) (e : Int) (d : Nat) (lev : Nat → R × R × Int × Int) (w : R) (L : List R) : Prop :=
  ((∀ i, (i = 0 ∨ i = 30 ∨ i = 31 ∨ 155 ≤ i) → σ i = σ0 i) ∧ Scn co σ 1 p f g L ∧ Val p co mk f g L) ∧ (σ 124 9 = d ∧ d ≤ 5 ∧ 2 ≤ k ∧ k ≤ T.length) ∧ (∀ v, v ≤ d → Lv co σ v (lev v).1 (lev v).2.1 (lev v).2.2.1 (lev v).2.2.2 ∧ Dl co (dd co f) (lev v)) ∧ (dd co w < dd co f ∧ (e ≠ 0 → Rp co σ 153 w)) ∧ (af (T.drop k) k e d = -1 ∧ rk p co mk f g (T.drop k) e d lev w L = Z) ∧ (e = 2 ↔ T[k - 1]? = some 94)
theorem Lv_cg {R : Type} {co : R → Nat → Int} {σ σ' : SG} {v : Nat} {s q : R} {mi ov : Int} (h : Lv co σ v s q mi ov) (e : ∀ i, 125 ≤ i → i ≠ 151 → i ≠ 152 → i ≠ 153 → i ≠ 154 → i < 155 → (∃ j, j ≤ 3 ∧ i = 127 + 4 * v + j) → σ' i = σ i) (e1 : σ' 151 v = σ 151 v) (e2 : σ' 152 v = σ 152 v) (hv : v < 6) : Lv co σ' v s q mi ov :=
  ⟨Rp_cg h.1 (e _ (by omega) (by omega) (by omega) (by omega) (by omega) (by omega) ⟨0, by omega, by omega⟩) (e _ (by omega) (by omega) (by omega) (by omega) (by omega) (by omega) ⟨1, by omega, by omega⟩), Rp_cg h.2.1 (e _ (by omega) (by omega) (by omega) (by omega) (by omega) (by omega) ⟨2, by omega, by omega⟩) (e _ (by omega) (by omega) (by omega) (by omega) (by omega) (by omega) ⟨3, by omega, by omega⟩), by rw [e1]; exact h.2.2.1, by rw [e2]; exact h.2.2.2⟩
theorem spec_X5_endBoth {R : Type} [Lean.Grind.CommRing R] {p : Nat} {co : R → Nat → Int} {mk : (Nat → Int) → R} (H : PD p co mk) {σ : SG} {v : Nat} {f w : R} {g : Nat → R} {L : List R} {x : R × R × Int × Int} {Q : SG → Prop} (hS : Scn co σ 1 p f g L) (hV : Val p co mk f g L) (hv : v < 6) (hl : σ 124 9 = v) (h : Lv co σ v x.1 x.2.1 x.2.2.1 x.2.2.2) (hw : Rp co σ 153 w) (hdw : dd co w < dd co f) (hx : Dl co (dd co f) x) (hQ : ∀ σ' : SG, (∀ i, (i = 0 ∨ i = 30 ∨ i = 31 ∨ 124 ≤ i) → i ≠ 152 → i ≠ 125 + 2 + 4 * v → i ≠ 125 + 2 + 4 * v + 1 → i ≠ 126 + 3 + 4 * v → i ≠ 126 + 3 + 4 * v + 1 → σ' i = σ i) → (∀ k, k ≠ v → σ' 152 k = σ 152 k) → Scn co σ' 1 p f g (jl co x w L) → Val p co mk f g (jl co x w L) → Lv co σ' v (js x (jq co f x w)) 1 x.2.2.1 0 → Q σ') : wp_X5_endFactor σ (fun σ1 => wp_X5_endProduct σ1 Q) := by
  refine spec_X5_endFactor H hS hV hv hl h hw hdw hx (fun σ1 g1 S1 V1 r1 => ?_)
  obtain ⟨h1, h2, h3, h4⟩ := h
  have gg : ∀ i, 124 ≤ i → i ≠ 126 + 3 + 4 * v → i ≠ 126 + 3 + 4 * v + 1 → σ1 i = σ i := fun i a b c => g1 i (by omega) (fun t ht => by rw [List.mem_singleton.mp ht]; exact ⟨b, c⟩)
  have l1 : Lv co σ1 v x.1 (jq co f x w) x.2.2.1 x.2.2.2 := ⟨Rp_cg h1 (gg _ (by omega) (by omega) (by omega)) (gg _ (by omega) (by omega) (by omega)), r1, by rw [gg _ (by omega) (by omega) (by omega)]; exact h3, by rw [gg _ (by omega) (by omega) (by omega)]; exact h4⟩
  refine spec_X5_endProduct H S1.1 hv (by rw [gg _ (by omega) (by omega) (by omega)]; exact hl) l1 (fun σ2 f2 o2 l2 => ?_)
  refine hQ σ2 (fun i a b c d e e2 => by rw [f2 i b c d e e2]; exact g1 i a (fun t ht => by rw [List.mem_singleton.mp ht]; exact ⟨e, e2⟩)) (fun k hk => by rw [o2 k hk, gg _ (by omega) (by omega) (by omega)]) (Scn_cgr S1 (fun i a b => f2 i (by omega) (by omega) (by omega) (by omega) (by omega))) V1 l2
theorem xb_2 {c e : Int} (h : 0 ≤ xb c e) : xb c e = 2 ↔ c = 94 := by
  constructor
  · intro h2
    unfold xb at h2
    repeat' split at h2
    all_goals omega
  · rintro rfl
    exact (xb_94 h).2
theorem getD_iff {T : List Int} {k : Nat} {z : Int} (h : k < T.length) : T.getD k 0 = z ↔ T[k]? = some z := by
  rw [List.getD_eq_getElem?_getD, List.getElem?_eq_getElem h]
  simp
theorem spec_X5_reckon {R : Type} [Lean.Grind.CommRing R] {p : Nat} {co : R → Nat → Int} {mk : (Nat → Int) → R} (H : PD p co mk) {σ : SG} {T : List Int} {f : R} {g : Nat → R} {L : List R} {a : Nat} {Q : SG → Prop} (hS : Scn co σ 1 p f g L) (hV : Val p co mk f g L) (hT : Txt σ T) (h2 : 2 ≤ T.length) (h61 : T[1]? = some 61) (haf : af (T.drop 2) 2 0 0 = -1) (ha : a < 6) (hQ : ∀ (σ' : SG) y L', (∀ i, (i = 0 ∨ i = 30 ∨ i = 31 ∨ 155 ≤ i) → σ' i = σ i) → (y, L') = rk p co mk f g (T.drop 2) 0 0 (fun _ => (0, 1, 0, 0)) 0 L → dd co y < dd co f → Scn co σ' 1 p f (fun i => if i = a then y else g i) L' → Val p co mk f (fun i => if i = a then y else g i) L' → Q σ') : wp_X5_reckon σ (1 + 3 + 1 + 2 * a) Q := by
  unfold wp_X5_reckon
  have t1 := hT.1.1
  have t3 := hT.1.2.2
  have hfd := hV.2.1
  have hf0 := Val_ne H hV
  intro σ1 e1
  have u1 : ∀ i, i ≠ 124 → σ1 i = σ i := fun i hi => by rw [e1, ug_ne _ hi]
  have hS1 := Scn_cgr hS (fun i a b => u1 i (by omega))
  refine spec_X5_startSum H (v := 0) (by omega) (by rw [e1, ug_eq]; rfl) (fun σ2 f2 o2 l2 => ?_)
  have hS2 := Scn_cgr hS1 (fun i a b => f2 i (by omega) (by omega) (by omega) (by omega) (by omega) (by omega))
  refine Lp1_m (fun x σ' => ∃ (k : Nat) (e : Int) (d : Nat) (lev : Nat → R × R × Int × Int) (w : R) (L' : List R), x = k ∧ CR p co mk σ T f g (rk p co mk f g (T.drop 2) 0 0 (fun _ => (0, 1, 0, 0)) 0 L) σ' k e d lev w L') (fun x _ => (61 - x).toNat) ⟨2, 0, 0, fun _ => (0, 1, 0, 0), 0, L, rfl, ?_⟩ ?_
  · refine ⟨⟨fun i hi => ?_, hS2, hV⟩, ⟨?_, by omega, by omega, h2⟩, fun v hv => ?_, ⟨by rw [dd_zero H]; omega, fun h => absurd rfl h⟩, ⟨haf, rfl⟩, ⟨fun h => absurd h (by decide), fun h => ?_⟩⟩
    · rw [f2 i (by omega) (by omega) (by omega) (by omega) (by omega) (by omega)]
      exact u1 i (by omega)
    · rw [f2 124 (by omega) (by omega) (by omega) (by omega) (by omega) (by omega), e1, ug_eq]; rfl
    · have e0 : v = 0 := by omega
      rw [e0]
      exact ⟨l2, Dl_0 H hfd.1⟩
    · rw [show (2 : Nat) - 1 = 1 from rfl, h61] at h
      exact absurd h (by decide)
  generalize rk p co mk f g (T.drop 2) 0 0 (fun _ => (0, 1, 0, 0)) 0 L = Z at hQ ⊢
  rintro x σ3 r ⟨k, e, d, lev, w, L3, rfl, ⟨c1, c2, c3⟩, ⟨c4, c5, c6, c7⟩, c8, ⟨c9, c10⟩, ⟨c11, c12⟩, c13⟩ hr
  have hT3 : Txt σ3 T := Txt_at hT (fun i hi => c1 i (by omega)) (by rw [c1 304 (by omega)])
  rw [c1 30 (by omega), t1]
  have l8 := c8 d (Nat.le_refl _)
  refine ⟨fun hend => ?_, fun hlt => ?_⟩
  · have hkl : k = T.length := by omega
    rw [hkl, List.drop_length] at c11 c12
    obtain ⟨d0, e13⟩ := af_end c11
    refine spec_X5_endBoth H c2 c3 (by omega) c4 l8.1 (c10 (by omega)) c9 l8.2 (fun σ4 f4 o4 S4 V4 l4 => ?_)
    have e4 : σ4 124 9 = d := by rw [f4 124 (by omega) (by omega) (by omega) (by omega) (by omega) (by omega)]; exact c4
    rw [e4, Int.toNat_natCast]
    refine ⟨by omega, spec_X4_copy H (hS.2.2.1 a ha).1 l4.1 (fun σ5 k5 m5 => ?_)⟩
    have hyd := js_dd H l8.2 (jq_dd H hf0 (lev d) w)
    exact hQ σ5 _ _ (fun i hi => by rw [k5 i (by omega) (by omega), f4 i (by omega) (by omega) (by omega) (by omega) (by omega) (by omega)]; exact c1 i hi) c12 hyd (Scn_set H S4 ha k5 m5) (Val_set H V4 hyd)
  · have hlt : k < T.length := by omega
    have hc : T[k]? = some T[k] := List.getElem?_eq_getElem hlt
    refine spec_X8_at (k := k) hT3 ?_
    rw [(getD_iff hlt).mpr hc]
    generalize T[k] = c at hc ⊢
    have hch := (hT.2 k c hc).2.2
    rw [drop_some hc] at c11 c12
    obtain ⟨b1, b2, b3, b4⟩ := af_go c11
    have hx2 : xb c e = 2 ↔ T[k + 1 - 1]? = some 94 := by
      rw [Nat.add_sub_cancel, hc, xb_2 b1]
      exact ⟨fun h => by rw [h], fun h => Option.some.inj h⟩
    have next : ∀ (σ' : SG) (d' : Nat) lev' w' L', CR p co mk σ T f g Z σ' (k + 1) (xb c e) d' lev' w' L' → inR ((k : Int) + 1) ∧ r ((k : Int) + 1) σ' := fun σ' d' lev' w' L' hC => ⟨by omega, hr _ _ ⟨k + 1, xb c e, d', lev', w', L', by omega, hC⟩ (by omega)⟩
    refine ⟨fun h40 => ?_, fun h41 => ?_, fun h42 => ?_, fun h43 => ?_, fun h94 => ?_, fun hno => ?_⟩
    · subst h40
      obtain ⟨e0, x0⟩ := xb_40 b1
      have xd4 : xd 40 = 1 := by decide
      rw [rk, if_pos rfl] at c12
      rw [c4]
      refine ⟨by omega, ?_⟩
      intro σ4 e4
      have im : imin ((d : Int) + 1) 5 = ((d + 1 : Nat) : Int) := by unfold imin; split <;> omega
      have u4 : ∀ i, i ≠ 124 → σ4 i = σ3 i := fun i hi => by rw [e4, ug_ne _ hi]
      refine spec_X5_startSum H (v := d + 1) (by omega) (by rw [e4, ug_eq]; exact im) (fun σ5 f5 o5 l5 => next σ5 (d + 1) (us lev (d + 1) (0, 1, 0, 0)) w L3 ?_)
      refine ⟨⟨fun i hi => ?_, Scn_cgr c2 (fun i a b => ?_), c3⟩, ⟨?_, by omega, by omega, by omega⟩, fun v hv => ?_, ⟨c9, fun h => absurd x0 h⟩, ⟨?_, ?_⟩, hx2⟩
      · rw [f5 i (by omega) (by omega) (by omega) (by omega) (by omega) (by omega), u4 i (by omega)]
        exact c1 i hi
      · rw [f5 i (by omega) (by omega) (by omega) (by omega) (by omega) (by omega), u4 i (by omega)]
      · rw [f5 124 (by omega) (by omega) (by omega) (by omega) (by omega) (by omega), e4, ug_eq]
        exact im
      · by_cases q : v = d + 1
        · rw [q, us_eq]
          exact ⟨l5, Dl_0 H hfd.1⟩
        · rw [us_ne _ q]
          have l9 := c8 v (by omega)
          exact ⟨Lv_cg l9.1 (fun i i1 i2 i3 i4 i5 i6 ⟨j, j1, j2⟩ => by rw [f5 i (by omega) (by omega) (by omega) (by omega) (by omega) (by omega), u4 i (by omega)]) (by rw [(o5 v q).1, u4 151 (by omega)]) (by rw [(o5 v q).2, u4 152 (by omega)]) (by omega), l9.2⟩
      · rw [xd4] at b4
        exact b4
      · rw [x0]
        exact c12
    · subst h41
      obtain ⟨e0, e2, x0⟩ := xb_op (Or.inl rfl) b1
      rw [if_pos rfl] at x0
      have xd4 : xd 41 = -1 := by decide
      rw [rk, if_neg (by decide), if_pos rfl] at c12
      refine spec_X5_endBoth H c2 c3 (by omega) c4 l8.1 (c10 e0) c9 l8.2 (fun σ4 f4 o4 S4 V4 l4 => ?_)
      have e4 : σ4 124 9 = d := by rw [f4 124 (by omega) (by omega) (by omega) (by omega) (by omega) (by omega)]; exact c4
      rw [e4, Int.toNat_natCast]
      refine ⟨by omega, spec_X4_copy H (by decide) l4.1 (fun σ5 k5 m5 => ?_)⟩
      rw [k5 124 (by omega) (by omega), e4]
      refine ⟨by omega, ?_⟩
      intro σ6 e6
      have im : imax ((d : Int) - 1) 0 = ((d - 1 : Nat) : Int) := by unfold imax; split <;> omega
      have u6 : ∀ i, i ≠ 124 → i ≠ 153 → i ≠ 154 → σ6 i = σ4 i := fun i hi h3 h4 => by rw [e6, ug_ne _ hi, k5 i h3 h4]
      refine next σ6 (d - 1) lev (js (lev d) (jq co f (lev d) w)) (jl co (lev d) w L3) ⟨⟨fun i hi => ?_, Scn_cgr S4 (fun i a b => u6 i (by omega) (by omega) (by omega)), V4⟩, ⟨?_, by omega, by omega, by omega⟩, fun v hv => ?_, ⟨js_dd H l8.2 (jq_dd H hf0 _ _), fun _ => ?_⟩, ⟨?_, ?_⟩, hx2⟩
      · rw [u6 i (by omega) (by omega) (by omega), f4 i (by omega) (by omega) (by omega) (by omega) (by omega) (by omega)]
        exact c1 i hi
      · rw [e6, ug_eq]; exact im
      · have l9 := c8 v (by omega)
        exact ⟨Lv_cg l9.1 (fun i i1 i2 i3 i4 i5 i6 ⟨j, j1, j2⟩ => by rw [u6 i (by omega) (by omega) (by omega), f4 i (by omega) (by omega) (by omega) (by omega) (by omega) (by omega)]) (by rw [u6 151 (by omega) (by omega) (by omega), f4 151 (by omega) (by omega) (by omega) (by omega) (by omega) (by omega)]) (by rw [u6 152 (by omega) (by omega) (by omega), o4 v (by omega)]) (by omega), l9.2⟩
      · exact Rp_cg m5 (by rw [e6, ug_ne _ (by omega)]) (by rw [e6, ug_ne _ (by omega)])
      · rw [xd4] at b4
        rw [show ((d - 1 : Nat) : Int) = (d : Int) + -1 by omega]
        exact b4
      · rw [x0]
        exact c12
    · obtain ⟨e0, e2, x0⟩ := xb_op (c := c) (by omega) b1
      rw [if_neg (by omega)] at x0
      have xd4 := xd_0 (c := c) (by omega) (by omega)
      rw [rk, if_neg (by omega), if_neg (by omega), if_neg (by omega), if_pos (by omega)] at c12
      refine spec_X5_endFactor H c2 c3 (by omega) c4 l8.1 (c10 e0) c9 l8.2 (fun σ4 g4 S4 V4 r4 => ?_)
      have f4 : ∀ i, (i = 0 ∨ i = 30 ∨ i = 31 ∨ 124 ≤ i) → i ≠ 126 + 3 + 4 * d → i ≠ 126 + 3 + 4 * d + 1 → σ4 i = σ3 i := fun i h h1 h2 => g4 i h (fun t ht => by rw [List.mem_singleton.mp ht]; exact ⟨h1, h2⟩)
      have e4 : σ4 124 9 = d := by rw [f4 124 (by omega) (by omega) (by omega)]; exact c4
      have fin : ∀ z : Int, z = (if c = 47 then 1 else 0) → (0 ≤ (d : Int) ∧ (d : Int) < 6) ∧ ∀ σ5 : SG, σ5 = ug σ4 152 d z → inR ((k : Int) + 1) ∧ r ((k : Int) + 1) σ5 := by
        intro z hz
        refine ⟨by omega, fun σ5 e5 => ?_⟩
        have u5 : ∀ i, i ≠ 152 → σ5 i = σ4 i := fun i hi => by rw [e5, ug_ne _ hi]
        refine next σ5 d (us lev d ((lev d).1, jq co f (lev d) w, (lev d).2.2.1, if c = 47 then 1 else 0)) w (jl co (lev d) w L3) ⟨⟨fun i hi => ?_, Scn_cgr S4 (fun i a b => u5 i (by omega)), V4⟩, ⟨?_, by omega, by omega, by omega⟩, fun v hv => ?_, ⟨c9, fun h => absurd x0 h⟩, ⟨?_, ?_⟩, hx2⟩
        · rw [u5 i (by omega), f4 i (by omega) (by omega) (by omega)]; exact c1 i hi
        · rw [u5 124 (by omega)]; exact e4
        · by_cases q : v = d
          · rw [q, us_eq]
            obtain ⟨l1, l2, l3, l4⟩ := l8.1
            refine ⟨⟨?_, ?_, ?_, ?_⟩, l8.2.1, jq_dd H hf0 _ _⟩
            · exact Rp_cg l1 (by rw [u5 _ (by omega), f4 _ (by omega) (by omega) (by omega)]) (by rw [u5 _ (by omega), f4 _ (by omega) (by omega) (by omega)])
            · exact Rp_cg r4 (u5 _ (by omega)) (u5 _ (by omega))
            · rw [u5 _ (by omega), f4 _ (by omega) (by omega) (by omega)]; exact l3
            · rw [e5, ug_eq]; exact hz
          · rw [us_ne _ q]
            have l9 := c8 v hv
            exact ⟨Lv_cg l9.1 (fun i i1 i2 i3 i4 i5 i6 ⟨j, j1, j2⟩ => by rw [u5 i (by omega), f4 i (by omega) (by omega) (by omega)]) (by rw [u5 151 (by omega), f4 151 (by omega) (by omega) (by omega)]) (by rw [e5, ug_k _ _ q, f4 152 (by omega) (by omega) (by omega)]) (by omega), l9.2⟩
        · rw [xd4, Int.add_zero] at b4
          exact b4
        · rw [x0]
          exact c12
      rw [e4, Int.toNat_natCast]
      exact ⟨fun h => fin 0 (by rw [if_neg h]), fun h => fin 1 (by rw [if_pos h])⟩
    · obtain ⟨e0, e2, x0⟩ := xb_op (c := c) (by omega) b1
      rw [if_neg (by omega)] at x0
      have xd4 := xd_0 (c := c) (by omega) (by omega)
      rw [rk, if_neg (by omega), if_neg (by omega), if_pos (by omega)] at c12
      refine spec_X5_endBoth H c2 c3 (by omega) c4 l8.1 (c10 e0) c9 l8.2 (fun σ4 f4 o4 S4 V4 l4 => ?_)
      have e4 : σ4 124 9 = d := by rw [f4 124 (by omega) (by omega) (by omega) (by omega) (by omega) (by omega)]; exact c4
      have fin : ∀ z : Int, z = (if c = 45 then 1 else 0) → (0 ≤ (d : Int) ∧ (d : Int) < 6) ∧ ∀ σ5 : SG, σ5 = ug σ4 151 d z → inR ((k : Int) + 1) ∧ r ((k : Int) + 1) σ5 := by
        intro z hz
        refine ⟨by omega, fun σ5 e5 => ?_⟩
        have u5 : ∀ i, i ≠ 151 → σ5 i = σ4 i := fun i hi => by rw [e5, ug_ne _ hi]
        have hyd := js_dd H l8.2 (jq_dd H hf0 (lev d) w)
        refine next σ5 d (us lev d (js (lev d) (jq co f (lev d) w), 1, if c = 45 then 1 else 0, 0)) w (jl co (lev d) w L3) ⟨⟨fun i hi => ?_, Scn_cgr S4 (fun i a b => u5 i (by omega)), V4⟩, ⟨?_, by omega, by omega, by omega⟩, fun v hv => ?_, ⟨c9, fun h => absurd x0 h⟩, ⟨?_, ?_⟩, hx2⟩
        · rw [u5 i (by omega), f4 i (by omega) (by omega) (by omega) (by omega) (by omega) (by omega)]; exact c1 i hi
        · rw [u5 124 (by omega)]; exact e4
        · by_cases q : v = d
          · rw [q, us_eq]
            obtain ⟨l1, l2, l3, l5⟩ := l4
            refine ⟨⟨Rp_cg l1 (u5 _ (by omega)) (u5 _ (by omega)), Rp_cg l2 (u5 _ (by omega)) (u5 _ (by omega)), ?_, by rw [u5 _ (by omega)]; exact l5⟩, hyd, (Dl_0 H hfd.1).2⟩
            rw [e5, ug_eq]; exact hz
          · rw [us_ne _ q]
            have l9 := c8 v hv
            exact ⟨Lv_cg l9.1 (fun i i1 i2 i3 i4 i5 i6 ⟨j, j1, j2⟩ => by rw [u5 i (by omega), f4 i (by omega) (by omega) (by omega) (by omega) (by omega) (by omega)]) (by rw [e5, ug_k _ _ q, f4 151 (by omega) (by omega) (by omega) (by omega) (by omega) (by omega)]) (by rw [u5 152 (by omega), o4 v q]) (by omega), l9.2⟩
        · rw [xd4, Int.add_zero] at b4
          exact b4
        · rw [x0]
          exact c12
      rw [e4, Int.toNat_natCast]
      exact ⟨fun h => fin 0 (by rw [if_neg h]), fun h => fin 1 (by rw [if_pos h])⟩
    · subst h94
      obtain ⟨e0, x0⟩ := xb_94 b1
      have xd4 := xd_0 (c := 94) (by omega) (by omega)
      rw [xd4, Int.add_zero] at b4
      rw [rk, if_neg (by omega), if_neg (by omega), if_neg (by omega), if_neg (by omega), if_pos rfl, ← x0] at c12
      exact next σ3 d lev w L3 ⟨⟨c1, c2, c3⟩, ⟨c4, c5, by omega, by omega⟩, c8, ⟨c9, fun _ => c10 (by omega)⟩, ⟨b4, c12⟩, hx2⟩
    · have xd4 := xd_0 (c := c) (by omega) (by omega)
      rw [xd4, Int.add_zero] at b4
      rw [rk, if_neg (by omega), if_neg (by omega), if_neg (by omega), if_neg (by omega), if_neg (by omega)] at c12
      rw [show (k : Int) - 1 = ((k - 1 : Nat) : Int) by omega]
      refine ⟨by omega, spec_X8_at (k := k - 1) hT3 (jn1_self ?_)⟩
      have fin : ∀ w', (dd co w' < dd co f) → (rk p co mk f g (T.drop (k + 1)) (xb c e) d lev w' L3 = Z) → ∀ σ4, FE σ3 σ4 [153] → Scn co σ4 1 p f g L3 → Rp co σ4 153 w' → inR ((k : Int) + 1) ∧ r ((k : Int) + 1) σ4 := by
        intro w' hw' hz σ4 g4 S4 r4
        have f4 : ∀ i, (i = 0 ∨ i = 30 ∨ i = 31 ∨ 124 ≤ i) → i ≠ 153 → i ≠ 154 → σ4 i = σ3 i := fun i h h1 h2 => g4 i h (fun t ht => by rw [List.mem_singleton.mp ht]; exact ⟨h1, h2⟩)
        refine next σ4 d lev w' L3 ⟨⟨fun i hi => ?_, S4, c3⟩, ⟨?_, c5, by omega, by omega⟩, fun v hv => ?_, ⟨hw', fun _ => r4⟩, ⟨b4, hz⟩, hx2⟩
        · rw [f4 i (by omega) (by omega) (by omega)]; exact c1 i hi
        · rw [f4 124 (by omega) (by omega) (by omega)]; exact c4
        · have l9 := c8 v hv
          exact ⟨Lv_cg l9.1 (fun i i1 i2 i3 i4 i5 i6 ⟨j, j1, j2⟩ => f4 i (by omega) (by omega) (by omega)) (by rw [f4 151 (by omega) (by omega) (by omega)]) (by rw [f4 152 (by omega) (by omega) (by omega)]) (by omega), l9.2⟩
      have hpr : T.getD (k - 1) 0 = 94 ↔ e = 2 := (getD_iff (by omega)).trans c13.symm
      obtain ⟨s1, s2, s3, s4, s5, s6, s7⟩ := hno
      refine ⟨fun h => ?_, fun h => ?_⟩
      · have he : e ≠ 2 := fun q => h (hpr.mpr q)
        rcases xb_si s1 s2 s3 s4 s5 s6 s7 b1 with ⟨y1, y2, y3⟩ | ⟨y1, y2, y3⟩
        · rw [if_neg he, ← y2] at c12
          refine spec_X5_take H (w := w) c2 c3 (fun _ => y3) (fun h => absurd rfl h) hch (fun σ4 g4 S4 r4 => ?_)
          rw [if_pos rfl] at r4
          exact fin _ (rm_spec H _ hf0).2 c12 σ4 g4 S4 r4
        · exact absurd y1 he
      · have he : e = 2 := hpr.mp h
        rcases xb_si s1 s2 s3 s4 s5 s6 s7 b1 with ⟨y1, y2, y3⟩ | ⟨y1, y2, y3⟩
        · omega
        · rw [if_pos he, ← y2] at c12
          refine spec_X5_take H (w := w) c2 c3 (fun h => absurd h (by decide)) (fun _ => ⟨y3, c10 (by omega), c9⟩) hch (fun σ4 g4 S4 r4 => ?_)
          rw [if_neg (by decide)] at r4
          exact fin _ (rm_spec H _ hf0).2 c12 σ4 g4 S4 r4
