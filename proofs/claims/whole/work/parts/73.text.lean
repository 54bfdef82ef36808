/-! the text of a modulus, read -/
def pm : List Int → Nat → Int → List Int → Int × List Int
  | [], x2, x3, vs => if 0 ≤ x3 then (-1, vs ++ [x3]) else ((x2 : Int), vs)
  | c :: r, x2, x3, vs => if 48 ≤ c ∧ c ≤ 57 then (if x3 = 0 then ((x2 : Int), vs) else if (imax x3 0) * 10 + c - 48 ≤ 12 then pm r (x2 + 1) ((imax x3 0) * 10 + c - 48) vs else ((x2 : Int), vs)) else if c = 44 then (if x3 < 0 then ((x2 : Int), vs) else if 6 ≤ vs.length then ((x2 : Int), vs) else pm r (x2 + 1) (-1) (vs ++ [x3])) else ((x2 : Int), vs)
/-- the numbers vs lie in the row e -/
def Vs (w : Nat → Int) (vs : List Int) : Prop := ∀ i v, vs[i]? = some v → w i = v ∧ 0 ≤ v ∧ v ≤ 12
theorem Vs_add {w w' : Nat → Int} {vs : List Int} {v : Int} (h : Vs w vs) (hv : 0 ≤ v ∧ v ≤ 12) (e1 : w' vs.length = v) (e2 : ∀ k, k < vs.length → w' k = w k) : Vs w' (vs ++ [v]) := by
  intro i x hx
  rcases Nat.lt_or_ge i vs.length with q | q
  · rw [List.getElem?_append_left q] at hx
    rw [e2 i q]
    exact h i x hx
  · have hi : i = vs.length := by
      have := (List.getElem?_eq_some_iff.mp hx).1
      simp at this
      omega
    subst hi
    rw [List.getElem?_append_right (Nat.le_refl _), Nat.sub_self] at hx
    cases hx
    exact ⟨e1, hv⟩
theorem spec_X8_tell {σ : SG} {v : Int} {vs : List Int} {Q : SG → Prop} (h3 : σ 30 3 = vs.length) (hl : vs.length ≤ 6) (hV : Vs (σ 32) vs) (hv : 0 ≤ v ∧ v ≤ 12) (hQ : ∀ σ' : SG, (∀ i, i ≠ 30 → i ≠ 32 → σ' i = σ i) → (∀ k, k ≠ 3 → σ' 30 k = σ 30 k) → σ' 30 3 = (vs ++ [v]).length → Vs (σ' 32) (vs ++ [v]) → Q σ') : wp_X8_tell σ v Q := by
  unfold wp_X8_tell
  rw [h3]
  refine ⟨fun h => by omega, fun _ => ⟨by omega, ?_⟩⟩
  rintro σ1 e1
  rw [Int.toNat_natCast] at e1
  rw [show σ1 30 3 = vs.length by rw [e1, ug_ne _ (by decide), h3]]
  refine ⟨by omega, ?_⟩
  rintro σ2 e2
  refine hQ σ2 (fun i a b => by rw [e2, ug_ne _ a, e1, ug_ne _ b]) (fun k hk => by rw [e2, ug_k _ _ hk, e1, ug_ne _ (by decide)]) (by rw [e2, ug_eq]; simp) (Vs_add hV hv (by rw [e2, ug_ne _ (by decide), e1, ug_eq]) (fun k hk => by rw [e2, ug_ne _ (by decide), e1, ug_k _ _ (by omega)]))
theorem spec_X8_isDigit {σ : SG} {c : Int} {Q : Int → SG → Prop} (h1 : 48 ≤ c ∧ c ≤ 57 → Q 1 σ) (h0 : ¬ (48 ≤ c ∧ c ≤ 57) → Q 0 σ) : wp_X8_isDigit σ c Q := by
  unfold wp_X8_isDigit
  exact ⟨fun h => h0 (by omega), fun h => ⟨fun h2 => h0 (by omega), fun h2 => h1 (by omega)⟩⟩
theorem drop_some {α : Type} {T : List α} {k : Nat} {c : α} (h : T[k]? = some c) : T.drop k = c :: T.drop (k + 1) := by
  rw [List.drop_eq_getElem_cons (List.getElem?_eq_some_iff.mp h).1, (List.getElem?_eq_some_iff.mp h).2]
theorem spec_X8_polynomialFault {σ : SG} {T : List Int} {Q : Int → SG → Prop} (hT : Txt σ T) (hQ : ∀ σ' : SG, (∀ i, i ≠ 30 → i ≠ 32 → σ' i = σ i) → (∀ k, k ≠ 3 → σ' 30 k = σ 30 k) → ∀ z vs, pm T 0 (-1) [] = (z, vs) → (z = -1 → σ' 30 3 = vs.length ∧ 1 ≤ vs.length ∧ vs.length ≤ 7 ∧ Vs (σ' 32) vs) → (z ≠ -1 → 0 ≤ z ∧ z ≤ 60) → Q z σ') : wp_X8_polynomialFault σ Q := by
  unfold wp_X8_polynomialFault
  have t1 := hT.1.1
  have t3 := hT.1.2.2
  rintro σ1 e1
  refine Lp2_m (fun x y σ' => ∃ (k : Nat) (vs : List Int), x = k ∧ k ≤ T.length ∧ (∀ i, i ≠ 30 → i ≠ 32 → σ' i = σ i) ∧ (∀ k, k ≠ 3 → σ' 30 k = σ 30 k) ∧ σ' 30 3 = vs.length ∧ vs.length ≤ 6 ∧ Vs (σ' 32) vs ∧ (-1 ≤ y ∧ y ≤ 12) ∧ pm (T.drop k) k y vs = pm T 0 (-1) []) (fun x _ _ => (61 - x).toNat) ⟨0, [], rfl, by omega, fun i a b => by rw [e1, ug_ne _ a], fun k hk => by rw [e1, ug_k _ _ hk], by rw [e1, ug_eq]; rfl, by simp, fun i v hv => by simp at hv, by omega, rfl⟩ ?_
  rintro x y σ2 r ⟨k, vs, rfl, hk, g1, g2, g3, g4, g5, g6, g7⟩ hr
  rw [g2 1 (by decide), t1]
  refine ⟨fun hend => ?_, fun hlt => ?_⟩
  · rw [List.drop_of_length_le (by omega)] at g7
    refine ⟨fun h0 => ?_, fun h0 => ?_⟩
    · have g7 : (-1, vs ++ [y]) = pm T 0 (-1) [] := by rw [← g7, pm, if_pos h0]
      refine spec_X8_tell g3 g4 g5 (by omega) (fun σ3 a1 a2 a3 a4 => hQ σ3 (fun i a b => (a1 i a b).trans (g1 i a b)) (fun k hk => (a2 k hk).trans (g2 k hk)) (-1) _ g7.symm (fun _ => ⟨a3, by simp, by simp; omega, a4⟩) (fun h => absurd rfl h))
    · have g7 : ((k : Int), vs) = pm T 0 (-1) [] := by rw [← g7, pm, if_neg h0]
      rw [show k = T.length by omega] at g7
      exact hQ σ2 g1 g2 _ _ g7.symm (fun h => by omega) (fun _ => by omega)
  · have hlt : k < T.length := by omega
    have hc : T[k]? = some T[k] := List.getElem?_eq_getElem hlt
    generalize T[k] = c at hc
    rw [drop_some hc] at g7
    have ht := hT.2 k c hc
    refine ⟨by omega, ?_⟩
    rintro v hv
    rw [Int.toNat_natCast, g1 31 (by decide) (by decide), ht.1] at hv
    subst hv
    rw [pm] at g7
    have bad : ((k : Int), vs) = pm T 0 (-1) [] → Q k σ2 := fun h => hQ σ2 g1 g2 _ _ h.symm (fun h => by omega) (fun _ => by omega)
    refine spec_X8_isDigit (fun hd => ⟨fun h => absurd h (by decide), fun _ => ?_⟩) (fun hd => ⟨fun _ => ?_, fun h => absurd rfl h⟩)
    · rw [if_pos hd] at g7
      have hmx : 0 ≤ imax y 0 ∧ imax y 0 ≤ 12 := by unfold imax; split <;> omega
      refine ⟨by omega, by omega, by omega, ?_⟩
      rintro w rfl
      refine ⟨fun h0 => bad (by rw [← g7, if_pos h0]), fun h0 => ?_⟩
      rw [if_neg h0] at g7
      refine ⟨fun h12 => ?_, fun h12 => bad (by rw [← g7, if_neg h12])⟩
      rw [if_pos h12] at g7
      exact ⟨by omega, hr _ _ _ ⟨k + 1, vs, by omega, by omega, g1, g2, g3, g4, g5, by omega, g7⟩ (by omega)⟩
    · rw [if_neg hd] at g7
      refine ⟨fun h44 => bad (by rw [← g7, if_neg h44]), fun h44 => ?_⟩
      rw [if_pos h44] at g7
      refine ⟨fun h0 => bad (by rw [← g7, if_pos h0]), fun h0 => ?_⟩
      rw [if_neg h0] at g7
      rw [g3]
      refine ⟨fun h6 => bad (by rw [← g7, if_pos (by omega)]), fun h6 => ?_⟩
      rw [if_neg (by omega)] at g7
      refine spec_X8_tell g3 g4 g5 (by omega) (fun σ3 a1 a2 a3 a4 => ⟨by omega, hr _ _ _ ⟨k + 1, vs ++ [y], by omega, by omega, fun i a b => (a1 i a b).trans (g1 i a b), fun k hk => (a2 k hk).trans (g2 k hk), a3, by simp; omega, a4, by omega, g7⟩ (by omega)⟩)
/-! the reference -/
theorem spec_X10_isBetween {σ : SG} {T : List Int} {k : Nat} {lo hi : Int} {Q : Int → SG → Prop} (hT : Txt σ T) (hk : σ 304 10 = k) (h1 : ∀ c, T[k]? = some c → lo ≤ c ∧ c ≤ hi → Q 1 σ) (h0 : (T[k]? = none ∨ ∃ c, T[k]? = some c ∧ ¬ (lo ≤ c ∧ c ≤ hi)) → Q 0 σ) : wp_X10_isBetween σ lo hi Q := by
  unfold wp_X10_isBetween
  have t2 := hT.1.2.1
  have t3 := hT.1.2.2
  rw [t2, hk]
  refine ⟨fun h => h0 (Or.inl (List.getElem?_eq_none (by omega))), fun h => ⟨by omega, ?_⟩⟩
  have hlt : k < T.length := by omega
  have hc : T[k]? = some T[k] := List.getElem?_eq_getElem hlt
  have ht := (hT.2 k _ hc).2.1
  rw [Int.toNat_natCast, ht]
  exact spec_X10_in (fun a b => ⟨fun h => absurd h (by decide), fun _ => h1 _ hc ⟨a, b⟩⟩) (fun a => ⟨fun _ => h0 (Or.inr ⟨_, hc, a⟩), fun h => absurd rfl h⟩)
theorem Txt_at {σ σ' : SG} {T : List Int} (h : Txt σ T) (e : ∀ i, i = 30 ∨ i = 31 ∨ i = 311 → σ' i = σ i) (e2 : σ' 304 8 = σ 304 8) : Txt σ' T := Txt_fr h (by rw [e 30 (by omega)]) e2 (e _ (by omega)) (e _ (by omega))
theorem spec_X10_takes {σ : SG} {T : List Int} {k : Nat} {c : Int} {Q : Int → SG → Prop} (hT : Txt σ T) (hk : σ 304 10 = k) (hkl : k ≤ T.length) (h1 : T[k]? = some c → ∀ σ', σ' = ug σ 304 10 ((k : Int) + 1) → Q 1 σ') (h0 : T[k]? ≠ some c → ∀ σ', σ' = ug σ 304 10 k → Q 0 σ') : wp_X10_takes σ c Q := by
  unfold wp_X10_takes
  have t3 := hT.1.2.2
  refine spec_X10_isBetween hT hk (fun c' hc' hb => ⟨fun h => absurd h (by decide), fun _ => ?_⟩) (fun hno => ⟨fun _ => ?_, fun h => absurd rfl h⟩)
  · rw [hk]
    have e : c' = c := by omega
    subst e
    exact ⟨by omega, fun σ' e' => ⟨Or.inr rfl, h1 hc' σ' e'⟩⟩
  · rw [hk, Int.add_zero]
    refine ⟨by omega, fun σ' e' => ⟨Or.inl rfl, h0 (fun e => ?_) σ' e'⟩⟩
    rcases hno with h | ⟨c', h, h2⟩
    · rw [h] at e; cases e
    · rw [h] at e
      cases e
      omega
theorem pm_dig {c : Int} {r : List Int} {k : Nat} {v : Int} {vs : List Int} (hc : 48 ≤ c ∧ c ≤ 57) (h0 : v ≠ 0) (h : (imax v 0) * 10 + c - 48 ≤ 12) : pm (c :: r) k v vs = pm r (k + 1) ((imax v 0) * 10 + c - 48) vs := by
  rw [pm, if_pos hc, if_neg h0, if_pos h]
theorem pm_bad {c : Int} {r : List Int} {k : Nat} {v : Int} {vs : List Int} (h : (48 ≤ c ∧ c ≤ 57) → v = 0 ∨ 12 < (imax v 0) * 10 + c - 48) (h2 : c = 44 → v < 0 ∨ 6 ≤ vs.length) : pm (c :: r) k v vs = ((k : Int), vs) := by
  rw [pm]
  by_cases q : 48 ≤ c ∧ c ≤ 57
  · rw [if_pos q]
    rcases h q with e | e
    · rw [if_pos e]
    · by_cases z : v = 0
      · rw [if_pos z]
      · rw [if_neg z, if_neg (by omega)]
  · rw [if_neg q]
    by_cases q2 : c = 44
    · rw [if_pos q2]
      rcases h2 q2 with e | e
      · rw [if_pos e]
      · by_cases z : v < 0
        · rw [if_pos z]
        · rw [if_neg z, if_pos e]
    · rw [if_neg q2]
theorem pm_comma {r : List Int} {k : Nat} {v : Int} {vs : List Int} (h : 0 ≤ v) (h2 : vs.length < 6) : pm (44 :: r) k v vs = pm r (k + 1) (-1) (vs ++ [v]) := by
  rw [pm, if_neg (by omega), if_pos rfl, if_neg (by omega), if_neg (by omega)]
