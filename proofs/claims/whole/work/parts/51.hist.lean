/-! the state as a value; what is kept of the past -/
def Awn {R : Type} (co : R → Nat → Int) (w : Nat → Int) (p : Nat) (f : R) (g : Nat → R) (L : List R) : Prop := w 0 = p ∧ (∀ k, k < 7 → w (1 + k) = co f k) ∧ (∀ r k, r < 6 → k < 6 → w (8 + 6 * r + k) = co (g r) k) ∧ w 44 = L.length ∧ ∀ i x, L[i]? = some x → ∀ k, k < 7 → w (45 + 7 * i + k) = co x k
def Val {R : Type} [Lean.Grind.CommRing R] (p : Nat) (co : R → Nat → Int) (mk : (Nat → Int) → R) (f : R) (g : Nat → R) (L : List R) : Prop := mon co f ∧ (2 ≤ dd co f ∧ dd co f ≤ 7) ∧ SF p co mk f ∧ (∀ k, k < 6 → dd co (g k) < dd co f) ∧ GL co f L ∧ Srt co L
def SV : Type := (n : Nat) × (POL n × (Nat → POL n) × List (POL n))
def coP (n : Nat) (a : POL n) (k : Nat) : Int := a.1 k
def SC (σ : SG) (o : Nat) (s : SV) : Prop := Scn (coP s.1) σ o (s.1 + 2) s.2.1 s.2.2.1 s.2.2.2
def SM (w : Nat → Int) (s : SV) : Prop := Awn (coP s.1) w (s.1 + 2) s.2.1 s.2.2.1 s.2.2.2
def VSt (s : SV) : Prop := Pr (s.1 + 2) ∧ @Val (POL s.1) (polR s.1) (s.1 + 2) (coP s.1) (polMk s.1) s.2.1 s.2.2.1 s.2.2.2
theorem Awn_cg {R : Type} {co : R → Nat → Int} {w w' : Nat → Int} {p : Nat} {f : R} {g : Nat → R} {L : List R} (h : Awn co w p f g L) (hL : L.length ≤ 6) (e : ∀ k, k < 87 → w' k = w k) : Awn co w' p f g L := by
  obtain ⟨h1, h2, h3, h4, h5⟩ := h
  refine ⟨by rw [e _ (by omega)]; exact h1, fun k hk => by rw [e _ (by omega)]; exact h2 k hk, fun r k hr hk => by rw [e _ (by omega)]; exact h3 r k hr hk, by rw [e _ (by omega)]; exact h4, fun i x hx k hk => ?_⟩
  have := (List.getElem?_eq_some_iff.mp hx).1
  rw [e _ (by omega)]
  exact h5 i x hx k hk
theorem Scn_cg {R : Type} {co : R → Nat → Int} {σ σ' : SG} {o p : Nat} {f : R} {g : Nat → R} {L : List R} (h : Scn co σ o p f g L) (e : ∀ i, o ≤ i → i < o + 29 → σ' i = σ i) : Scn co σ' o p f g L := by
  obtain ⟨h1, h2, h3, h4, h5, h6, h7, h8⟩ := h
  have so := isS_all h4
  refine ⟨by rw [e _ (by omega) (by omega)]; exact h1, Rp_cg h2 (e _ (by omega) (by omega)) (e _ (by omega) (by omega)), fun k hk => Rp_cg (h3 k hk) (e _ (by omega) (by omega)) (e _ (by omega) (by omega)), h4, Pt_FO h5 (e _ (by omega) (by omega)), by rw [e _ (by omega) (by omega)]; exact h6, h7, fun i x hx => ?_⟩
  rw [e (o + 16) (by omega) (by omega)]
  have hi : i < 6 := by have := (List.getElem?_eq_some_iff.mp hx).1; omega
  obtain ⟨k, hk, e2⟩ := (h5.1 i hi).2
  exact Rp_cg (h8 i x hx) (e _ (by omega) (by omega)) (e _ (by omega) (by omega))
def VL (s : SV) : Prop := s.2.2.2.length ≤ 6
theorem VSt_VL {s : SV} (h : VSt s) : VL s := by
  obtain ⟨h1, h2⟩ := h
  have := @GL_len _ (polR s.1) _ _ _ (PD_pol h1) _ _ h2.2.2.2.2.1
  have h3 := h2.2.1.2
  unfold VL
  have h4 : @dd (POL s.1) (fun a => a.1) s.2.1 ≤ 7 := h3
  omega
theorem SM_cg {w w' : Nat → Int} {s : SV} (h : SM w s) (hs : VL s) (e : ∀ k, k < 87 → w' k = w k) : SM w' s := Awn_cg h hs e
theorem SC_VL {σ : SG} {o : Nat} {s : SV} (h : SC σ o s) : VL s := h.2.2.2.2.2.2.1
def Pts (σ : SG) : Prop := ∀ o, KT.getD o 99 = 7 → Pt σ o
def hp (a l j : Nat) : Nat := 186 + 29 * ((a + 4 - l + j) % 4)
def HCl (σ : SG) (h : List SV) : Prop := (0 ≤ σ 184 1 ∧ σ 184 1 < 4) ∧ (σ 184 2 = h.length ∧ h.length ≤ 4) ∧ ∀ j s, h[j]? = some s → SC σ (hp (σ 184 1).toNat h.length j) s
def HMo (σ : SG) (h : List SV) : Prop := (σ 304 2 = h.length ∧ h.length ≤ 4) ∧ ∀ j s, h[j]? = some s → SM (fun k => σ 306 (87 * j + k)) s
def push (h : List SV) (s : SV) : List SV := (h ++ [s]).drop (h.length + 1 - 4)
theorem hp_st {n : Nat} (hn : n < 4) : KT.getD (185 + 1 + 29 * n) 99 = 7 := by
  rcases (show n = 0 ∨ n = 1 ∨ n = 2 ∨ n = 3 by omega) with e | e | e | e <;> subst e <;> decide +kernel
theorem push_len (h : List SV) (s : SV) (h4 : h.length ≤ 4) : (push h s).length = if h.length < 4 then h.length + 1 else 4 := by
  unfold push
  rw [List.length_drop, List.length_append]
  simp only [List.length_cons, List.length_nil]
  split <;> omega
theorem push_get (h : List SV) (s : SV) (h4 : h.length ≤ 4) {j : Nat} {t : SV} (hj : (push h s)[j]? = some t) : (h.length < 4 ∧ (h[j]? = some t ∨ j = h.length ∧ t = s)) ∨ (h.length = 4 ∧ (h[j + 1]? = some t ∨ j = 3 ∧ t = s)) := by
  unfold push at hj
  rw [List.getElem?_drop] at hj
  rcases Nat.lt_or_ge h.length 4 with q | q
  · rw [show h.length + 1 - 4 + j = j by omega] at hj
    refine Or.inl ⟨q, ?_⟩
    rcases Nat.lt_or_ge j h.length with q2 | q2
    · rw [List.getElem?_append_left q2] at hj
      exact Or.inl hj
    · rw [List.getElem?_append_right q2] at hj
      have hl := (List.getElem?_eq_some_iff.mp hj).1
      simp at hl
      rw [show j - h.length = 0 by omega] at hj
      simp at hj
      exact Or.inr ⟨by omega, hj.symm⟩
  · have h44 : h.length = 4 := by omega
    rw [show h.length + 1 - 4 + j = j + 1 by omega] at hj
    refine Or.inr ⟨h44, ?_⟩
    rcases Nat.lt_or_ge (j + 1) h.length with q2 | q2
    · rw [List.getElem?_append_left q2] at hj
      exact Or.inl hj
    · rw [List.getElem?_append_right q2] at hj
      have hl := (List.getElem?_eq_some_iff.mp hj).1
      simp at hl
      rw [show j + 1 - h.length = 0 by omega] at hj
      simp at hj
      exact Or.inr ⟨by omega, hj.symm⟩
theorem hp_step {a n l j : Nat} (ha : a < 4) (hl : l < 4) (hj : j ≤ l) (hn : n = (a + 1) % 4) : hp n (l + 1) j = hp a l j := by
  unfold hp
  omega
theorem hp_full {a n j : Nat} (ha : a < 4) (hj : j < 4) (hn : n = (a + 1) % 4) : hp n 4 j = hp a 4 (j + 1) := by
  unfold hp
  omega
theorem hp_top {a l : Nat} (ha : a < 4) (hl : l ≤ 4) : hp a l l = 185 + 1 + 29 * a := by
  unfold hp
  omega
theorem hp_ne {a l j : Nat} (ha : a < 4) (hl : l < 4) (hj : j < l) : hp a l j + 29 ≤ 185 + 1 + 29 * a ∨ 185 + 1 + 29 * a + 29 ≤ hp a l j := by
  unfold hp
  omega
theorem hp_ne4 {a j : Nat} (ha : a < 4) (hj : j < 3) : hp a 4 (j + 1) + 29 ≤ 185 + 1 + 29 * a ∨ 185 + 1 + 29 * a + 29 ≤ hp a 4 (j + 1) := by
  unfold hp
  omega
theorem hp_in (a l j : Nat) : 186 ≤ hp a l j ∧ hp a l j + 29 ≤ 302 := by
  unfold hp
  omega
theorem spec_X3_record {σ : SG} {h : List SV} {s : SV} {Q : SG → Prop} (hP : Pts σ) (hH : HCl σ h) (hs : SC σ 1 s) (hQ : ∀ σ' : SG, (∀ i, i ≠ 184 → i < 186 ∨ 302 ≤ i → σ' i = σ i) → Pts σ' → HCl σ' (push h s) → Q σ') : wp_X3_record σ 1 Q := by
  unfold wp_X3_record
  obtain ⟨h1, ⟨h2, h3⟩, h4⟩ := hH
  obtain ⟨a, ea⟩ := Int.eq_ofNat_of_zero_le h1.1
  rw [ea, Int.toNat_natCast] at h4 ⊢
  have ha : a < 4 := by omega
  have hst := hp_st ha
  refine ⟨by omega, spec_X7_copy hst (by decide +kernel) (by omega) (hP _ hst) (hP 1 (by decide +kernel)) (fun σ1 f1 c1 => ?_)⟩
  have e184 : σ1 184 = σ 184 := f1.1 184 (by omega)
  refine ⟨fun x s => x = (((a + 1) % 4 : Nat) : Int) ∧ s = σ1, ?_, ?_⟩
  · rintro x σs ⟨rfl, es⟩
    rw [es]
    rintro σ2 e2
    have e3 : σ2 184 2 = h.length := by rw [e2, ug_k _ _ (by decide), e184, h2]
    rw [e3]
    refine ⟨by omega, ?_⟩
    rintro σ4 e4
    have u : ∀ i, i ≠ 184 → σ4 i = σ1 i := fun i hi => by rw [e4, ug_ne _ hi, e2, ug_ne _ hi]
    have v1 : σ4 184 1 = (((a + 1) % 4 : Nat) : Int) := by rw [e4, ug_k _ _ (by decide), e2, ug_eq]
    have v2 : σ4 184 2 = imin ((h.length : Int) + 1) 4 := by rw [e4, ug_eq]
    have hl := push_len h s h3
    have hnew : SC σ4 (185 + 1 + 29 * a) s := Scn_cg (c1 _ _ _ _ _ _ hs) (fun i i1 i2 => u i (by omega))
    have hold : ∀ j t, h[j]? = some t → (hp a h.length j + 29 ≤ 185 + 1 + 29 * a ∨ 185 + 1 + 29 * a + 29 ≤ hp a h.length j) → SC σ4 (hp a h.length j) t := fun j t hj hd => by
      have hin := hp_in a h.length j
      exact Scn_cg (h4 j t hj) (fun i i1 i2 => by rw [u i (by omega), f1.1 i (by omega)])
    refine hQ σ4 (fun i hi hi2 => by rw [u i hi]; exact f1.1 i (by omega)) (fun o ho => ?_) ⟨?_, ⟨?_, ?_⟩, fun j t hj => ?_⟩
    · have hne : o + 16 ≠ 184 := by rcases isSt_in ho with e | e | e | e | e | e <;> omega
      refine Pt_FO (hP o ho) ?_
      rw [u _ hne]
      by_cases e : o = 185 + 1 + 29 * a
      · rw [e]; exact f1.2
      · have := st_far ho hst e
        exact f1.1 _ (by omega)
    · rw [v1]; omega
    · rw [v2, hl]; unfold imin; split <;> split <;> omega
    · rw [hl]; split <;> omega
    · rw [v1, Int.toNat_natCast, hl]
      rcases push_get h s h3 hj with ⟨q, hj | ⟨rfl, rfl⟩⟩ | ⟨q, hj | ⟨rfl, rfl⟩⟩
      · have hjl := (List.getElem?_eq_some_iff.mp hj).1
        rw [if_pos q, hp_step ha q (by omega) rfl]
        exact hold j t hj (hp_ne ha q hjl)
      · rw [if_pos q, hp_step ha q (Nat.le_refl _) rfl, hp_top ha h3]
        exact hnew
      · have hjl := (List.getElem?_eq_some_iff.mp hj).1
        rw [if_neg (by omega), hp_full ha (by omega) rfl]
        have := hold (j + 1) t hj (by rw [q]; exact hp_ne4 ha (by omega))
        rw [q] at this
        exact this
      · rw [if_neg (by omega), hp_full ha (by omega) rfl, show hp a 4 (3 + 1) = 185 + 1 + 29 * a from hp_top ha (Nat.le_refl 4)]
        exact hnew
  · rw [e184, ea]
    refine ⟨fun h => ⟨by omega, by omega, rfl⟩, fun h => ⟨by omega, rfl⟩⟩
theorem spec_X3_takeBack {σ : SG} {h : List SV} {s : SV} {Q : SG → Prop} (hP : Pts σ) (hH : HCl σ (h ++ [s])) (hQ : ∀ σ' : SG, (∀ i, i ≠ 184 → i < 1 ∨ 30 ≤ i → σ' i = σ i) → Pts σ' → HCl σ' h → σ' 184 2 = h.length → SC σ' 1 s → Q σ') : wp_X3_takeBack σ 1 Q := by
  unfold wp_X3_takeBack
  obtain ⟨h1, ⟨h2, h3⟩, h4⟩ := hH
  rw [List.length_append] at h2 h3 h4
  simp only [List.length_cons, List.length_nil] at h2 h3 h4
  obtain ⟨a, ea⟩ := Int.eq_ofNat_of_zero_le h1.1
  rw [ea, Int.toNat_natCast] at h4
  have ha : a < 4 := by omega
  refine ⟨fun h => by omega, fun _ => ?_⟩
  refine ⟨fun x s => x = (((a + 3) % 4 : Nat) : Int) ∧ s = σ, ?_, ?_⟩
  · rintro x σs ⟨rfl, es⟩
    rw [es]
    rintro σ2 e2
    have u2 : ∀ i, i ≠ 184 → σ2 i = σ i := fun i hi => by rw [e2, ug_ne _ hi]
    have v2 : σ2 184 1 = (((a + 3) % 4 : Nat) : Int) := by rw [e2, ug_eq]
    have v3 : σ2 184 2 = h.length + 1 := by rw [e2, ug_k _ _ (by decide), h2]; omega
    rw [v2, Int.toNat_natCast]
    have hst := hp_st (n := (a + 3) % 4) (by omega)
    have hP2 : Pts σ2 := fun o ho => Pt_FO (hP o ho) (u2 _ (by rcases isSt_in ho with e | e | e | e | e | e <;> omega))
    refine ⟨by omega, spec_X7_copy (by decide +kernel) hst (by omega) (hP2 1 (by decide +kernel)) (hP2 _ hst) (fun σ3 f3 c3 => ?_)⟩
    have e184 : σ3 184 = σ2 184 := f3.1 184 (by omega)
    rw [e184, v3]
    refine ⟨by omega, ?_⟩
    rintro σ4 e4
    have u4 : ∀ i, i ≠ 184 → σ4 i = σ3 i := fun i hi => by rw [e4, ug_ne _ hi]
    have u : ∀ i, i ≠ 184 → i < 1 ∨ 30 ≤ i → σ4 i = σ i := fun i hi hi2 => by rw [u4 i hi, f3.1 i (by omega), u2 i hi]
    have w1 : σ4 184 1 = (((a + 3) % 4 : Nat) : Int) := by rw [e4, ug_k _ _ (by decide), e184, v2]
    have w2 : σ4 184 2 = h.length := by rw [e4, ug_eq]; omega
    have hlast : (h ++ [s])[h.length]? = some s := by simp
    have hs0 := h4 _ _ hlast
    have hin := hp_in a (h.length + 1) h.length
    have hhp : hp a (h.length + 1) h.length = 185 + 1 + 29 * ((a + 3) % 4) := by unfold hp; omega
    rw [hhp] at hs0 hin
    have hs2 : SC σ2 (185 + 1 + 29 * ((a + 3) % 4)) s := Scn_cg hs0 (fun i i1 i2 => u2 i (by omega))
    refine hQ σ4 u (fun o ho => ?_) ⟨by rw [w1]; omega, ⟨w2, by omega⟩, fun j t hj => ?_⟩ w2 (Scn_cg (c3 _ _ _ _ _ _ hs2) (fun i i1 i2 => u4 i (by omega)))
    · have hne : o + 16 ≠ 184 := by rcases isSt_in ho with e | e | e | e | e | e <;> omega
      refine Pt_FO (hP2 o ho) ?_
      rw [u4 _ hne]
      by_cases e : o = 1
      · rw [e]; exact f3.2
      · have := st_far ho (q := 1) (by decide +kernel) e
        exact f3.1 _ (by omega)
    · have hjl := (List.getElem?_eq_some_iff.mp hj).1
      rw [w1, Int.toNat_natCast]
      have e5 : hp ((a + 3) % 4) h.length j = hp a (h.length + 1) j := by unfold hp; omega
      have hin2 := hp_in a (h.length + 1) j
      rw [e5]
      exact Scn_cg (h4 j t (by rw [List.getElem?_append_left hjl]; exact hj)) (fun i i1 i2 => u i (by omega) (by omega))
  · rw [ea]
    refine ⟨fun h => ⟨by omega, by omega, rfl⟩, fun h => ⟨by omega, rfl⟩⟩
theorem spec_X10_record {σ : SG} {h : List SV} {s : SV} {Q : SG → Prop} (hH : HMo σ h) (hV : ∀ t ∈ h, VL t) (hs : SM (σ 305) s) (hsV : VL s) (hQ : ∀ σ' : SG, (∀ i, i ≠ 304 → i ≠ 306 → σ' i = σ i) → (∀ k, k ≠ 2 → σ' 304 k = σ 304 k) → HMo σ' (push h s) → Q σ') : wp_X10_record σ Q := by
  unfold wp_X10_record
  obtain ⟨⟨h2, h3⟩, h4⟩ := hH
  have hl := push_len h s h3
  obtain ⟨K, hK⟩ : ∃ K, K = if h.length < 4 then h.length else 3 := ⟨_, rfl⟩
  refine ⟨fun σ1 => (∀ i, i ≠ 304 → i ≠ 306 → σ1 i = σ i) ∧ (∀ k, k ≠ 2 → σ1 304 k = σ 304 k) ∧ σ1 304 2 = K ∧ ∀ j t, j < K → (push h s)[j]? = some t → SM (fun k => σ1 306 (87 * j + k)) t, ?_, ?_⟩
  · rintro σ1 ⟨g1, g2, g3, g4⟩
    have hK4 : K < 4 := by rw [hK]; split <;> omega
    refine Lp1_up 87 (fun n σ' => (∀ i, i ≠ 306 → σ' i = σ1 i) ∧ (∀ k, k < n → σ' 306 (87 * K + k) = σ 305 k) ∧ ∀ m, m < 87 * K → σ' 306 m = σ1 306 m) ⟨fun _ _ => rfl, fun k hk => by omega, fun _ _ => rfl⟩ ?_ ?_
    · rintro n σ2 r hn ⟨k1, k2, k3⟩ hr
      have e304 : σ2 304 2 = K := by rw [k1 304 (by decide)]; exact g3
      rw [e304]
      refine ⟨fun h => by omega, fun _ => ⟨by omega, by omega, by omega, by omega, ?_⟩⟩
      rintro σ3 e3
      rw [Int.toNat_natCast, show (87 * (K : Int) + n).toNat = 87 * K + n by omega, k1 305 (by decide), g1 305 (by decide) (by decide)] at e3
      refine ⟨by omega, hr _ ⟨fun i hi => by rw [e3, ug_ne _ hi]; exact k1 i hi, fun k hk => ?_, fun m hm => ?_⟩⟩
      · by_cases e : k = n
        · rw [e, e3, ug_eq]
        · rw [e3, ug_k _ _ (by omega)]; exact k2 k (by omega)
      · rw [e3, ug_k _ _ (by omega)]; exact k3 m hm
    · rintro σ2 r ⟨k1, k2, k3⟩
      have e304 : σ2 304 2 = K := by rw [k1 304 (by decide)]; exact g3
      rw [e304]
      refine ⟨fun _ => ⟨by omega, ?_⟩, fun h => absurd (Int.le_refl _) h⟩
      rintro σ3 e3
      have u : ∀ i, i ≠ 304 → σ3 i = σ2 i := fun i hi => by rw [e3, ug_ne _ hi]
      refine hQ σ3 (fun i i1 i2 => by rw [u i i1, k1 i i2]; exact g1 i i1 i2) (fun k hk => by rw [e3, ug_k _ _ hk, k1 304 (by decide)]; exact g2 k hk) ⟨⟨?_, ?_⟩, fun j t hj => ?_⟩
      · rw [e3, ug_eq, hl, hK]; split <;> omega
      · rw [hl]; split <;> omega
      · rw [show (fun k => σ3 306 (87 * j + k)) = fun k => σ2 306 (87 * j + k) by rw [u 306 (by decide)]]
        have hjl := (List.getElem?_eq_some_iff.mp hj).1
        rw [hl] at hjl
        by_cases q : j < K
        · have hVt : VL t := by
            rcases push_get h s h3 hj with ⟨_, hj | ⟨_, rfl⟩⟩ | ⟨_, hj | ⟨_, rfl⟩⟩
            · exact hV t (List.mem_of_getElem? hj)
            · exact hsV
            · exact hV t (List.mem_of_getElem? hj)
            · exact hsV
          exact SM_cg (g4 j t q hj) hVt (fun k hk => k3 _ (by omega))
        · have hjK : j = K ∧ t = s := by
            rcases push_get h s h3 hj with ⟨q2, hj | ⟨e, e2⟩⟩ | ⟨q2, hj | ⟨e, e2⟩⟩
            · have := (List.getElem?_eq_some_iff.mp hj).1
              rw [if_pos q2] at hK
              omega
            · rw [if_pos q2] at hK
              exact ⟨by omega, e2⟩
            · have := (List.getElem?_eq_some_iff.mp hj).1
              rw [if_neg (by omega)] at hK
              omega
            · rw [if_neg (by omega)] at hK
              exact ⟨by omega, e2⟩
          obtain ⟨rfl, rfl⟩ := hjK
          exact SM_cg hs hsV (fun k hk => k2 k hk)
  · rw [h2]
    refine ⟨fun q => ⟨fun _ _ _ => rfl, fun _ _ => rfl, ?_, fun j t hj ht => ?_⟩, fun q => ?_⟩
    · rw [h2, hK, if_pos (by omega)]
    · rcases push_get h s h3 ht with ⟨q2, ht | ⟨e, e2⟩⟩ | ⟨q2, _⟩
      · exact h4 j t ht
      · rw [if_pos q2] at hK; omega
      · omega
    · have h44 : h.length = 4 := by omega
      rw [if_neg (by omega)] at hK
      refine Lp1_up 261 (fun n σ' => (∀ i, i ≠ 306 → σ' i = σ i) ∧ (∀ m, m < n → σ' 306 m = σ 306 (m + 87)) ∧ ∀ m, n ≤ m → σ' 306 m = σ 306 m) ⟨fun _ _ => rfl, fun m hm => by omega, fun _ _ => rfl⟩ ?_ ?_
      · rintro n σ2 r hn ⟨k1, k2, k3⟩ hr
        refine ⟨fun h => by omega, fun _ => ⟨by omega, by omega, by omega, ?_⟩⟩
        rintro σ3 e3
        rw [Int.toNat_natCast, show ((n : Int) + 87).toNat = n + 87 by omega] at e3
        refine ⟨by omega, hr _ ⟨fun i hi => by rw [e3, ug_ne _ hi]; exact k1 i hi, fun m hm => ?_, fun m hm => ?_⟩⟩
        · by_cases e : m = n
          · rw [e, e3, ug_eq]; exact k3 _ (by omega)
          · rw [e3, ug_k _ _ e]; exact k2 m (by omega)
        · rw [e3, ug_k _ _ (by omega)]; exact k3 m (by omega)
      · rintro σ2 r ⟨k1, k2, k3⟩
        rw [k1 304 (by decide), h2]
        refine ⟨fun _ => ⟨by omega, ?_⟩, fun h => absurd (Int.le_refl _) h⟩
        rintro σ3 e3
        refine ⟨fun i i1 i2 => by rw [e3, ug_ne _ i1]; exact k1 i i2, fun k hk => by rw [e3, ug_k _ _ hk, k1 304 (by decide)], by rw [e3, ug_eq, h44, hK]; rfl, fun j t hj ht => ?_⟩
        rcases push_get h s h3 ht with ⟨q2, _⟩ | ⟨q2, ht | ⟨e, e2⟩⟩
        · omega
        · have h5 := h4 _ _ ht
          refine SM_cg h5 (hV t (List.mem_of_getElem? ht)) (fun k hk => ?_)
          show σ3 306 (87 * j + k) = σ 306 (87 * (j + 1) + k)
          rw [e3, ug_ne _ (by decide), k2 _ (by omega), show 87 * j + k + 87 = 87 * (j + 1) + k by omega]
        · omega
