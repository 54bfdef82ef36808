/-! the text of an assignment: where its fault is -/
def xb (c e : Int) : Int := if e = 0 then (if (97 ≤ c ∧ c ≤ 102) ∨ (48 ≤ c ∧ c ≤ 57) ∨ c = 120 then 1 else if c = 40 then 0 else -1) else if e = 2 then (if 48 ≤ c ∧ c ≤ 57 then 3 else -1) else if c = 41 then 1 else if c = 42 ∨ c = 43 ∨ c = 45 ∨ c = 47 then 0 else if c = 94 then (if e = 1 then 2 else -1) else -1
def xd (c : Int) : Int := if c = 40 then 1 else if c = 41 then -1 else 0
def af : List Int → Nat → Int → Int → Int
  | [], k, e, d => if d ≠ 0 then k else if e = 1 ∨ e = 3 then -1 else k
  | c :: r, k, e, d => if xb c e < 0 ∨ d + xd c < 0 ∨ 5 < d + xd c then k else af r (k + 1) (xb c e) (d + xd c)
def asf (T : List Int) : Int := if 97 ≤ T.getD 0 0 ∧ T.getD 0 0 ≤ 102 then (if T.getD 1 0 = 61 then af (T.drop 2) 2 0 0 else 1) else 0
theorem spec_X8_at {σ : SG} {T : List Int} {k : Nat} {Q : Int → SG → Prop} (hT : Txt σ T) (hQ : Q (T.getD k 0) σ) : wp_X8_at σ k Q := by
  unfold wp_X8_at
  have t3 := hT.1.2.2
  rw [hT.1.1]
  refine ⟨fun h => by omega, fun _ => ⟨fun h => ?_, fun h => ⟨by omega, ?_⟩⟩⟩
  · have e : T.getD k 0 = 0 := by rw [List.getD_eq_getElem?_getD, List.getElem?_eq_none (by omega)]; rfl
    rw [e] at hQ; exact hQ
  · have hc : T[k]? = some T[k] := List.getElem?_eq_getElem (by omega)
    have e : T.getD k 0 = T[k] := by rw [List.getD_eq_getElem?_getD, hc]; rfl
    rw [Int.toNat_natCast, (hT.2 k _ hc).1, ← e]
    exact hQ
theorem spec_X8_isRegisterLetter {σ : SG} {c : Int} {Q : Int → SG → Prop} (h1 : 97 ≤ c ∧ c ≤ 102 → Q 1 σ) (h0 : ¬ (97 ≤ c ∧ c ≤ 102) → Q 0 σ) : wp_X8_isRegisterLetter σ c Q := by
  unfold wp_X8_isRegisterLetter
  exact ⟨fun h => h0 (by omega), fun h => ⟨fun h2 => h0 (by omega), fun h2 => h1 (by omega)⟩⟩
theorem spec_X8_expectedBehind {σ : SG} {c e : Int} {Q : Int → SG → Prop} (hQ : Q (xb c e) σ) : wp_X8_expectedBehind σ c e Q := by
  unfold wp_X8_expectedBehind
  unfold xb at hQ
  refine ⟨fun h0 => ?_, fun h0 => ?_⟩
  · rw [if_neg h0] at hQ
    refine ⟨fun h2 => ?_, fun h2 => ?_⟩
    · rw [if_neg h2] at hQ
      refine ⟨fun h => ?_, fun h => ?_, fun h => ⟨fun h1 => ?_, fun h1 => ?_⟩, fun h => ?_⟩
      · rw [if_pos h] at hQ; exact hQ
      · rw [if_neg (by omega), if_pos (by omega)] at hQ; exact hQ
      · rw [if_neg (by omega), if_neg (by omega), if_pos h, if_neg h1] at hQ; exact hQ
      · rw [if_neg (by omega), if_neg (by omega), if_pos h, if_pos h1] at hQ; exact hQ
      · rw [if_neg (by omega), if_neg (by omega), if_neg (by omega)] at hQ; exact hQ
    · rw [if_pos h2] at hQ
      refine spec_X8_isDigit (fun hd => ⟨fun h => absurd h (by decide), fun _ => ?_⟩) (fun hd => ⟨fun _ => ?_, fun h => absurd rfl h⟩)
      · rw [if_pos hd] at hQ; exact hQ
      · rw [if_neg hd] at hQ; exact hQ
  · rw [if_pos h0] at hQ
    have hy : ∀ (x : Int), (x = 1 ∧ ((97 ≤ c ∧ c ≤ 102) ∨ (48 ≤ c ∧ c ≤ 57) ∨ c = 120)) ∨ (x = 0 ∧ ¬ ((97 ≤ c ∧ c ≤ 102) ∨ (48 ≤ c ∧ c ≤ 57) ∨ c = 120)) → (x = 0 → (¬ c = 40 → Q (-1) σ) ∧ (c = 40 → Q 0 σ)) ∧ (¬ x = 0 → Q 1 σ) := by
      rintro x (⟨rfl, hx⟩ | ⟨rfl, hx⟩)
      · rw [if_pos hx] at hQ
        exact ⟨fun h => absurd h (by decide), fun _ => hQ⟩
      · rw [if_neg hx] at hQ
        refine ⟨fun _ => ⟨fun h => ?_, fun h => ?_⟩, fun h => absurd rfl h⟩
        · rw [if_neg h] at hQ; exact hQ
        · rw [if_pos h] at hQ; exact hQ
    refine spec_X8_isRegisterLetter (fun h1 => jn1_self ⟨fun _ => hy 1 (Or.inl ⟨rfl, Or.inl h1⟩), fun h => absurd h (by decide)⟩) (fun h1 => jn1_self ⟨fun h => absurd rfl h, fun _ => spec_X8_isDigit (fun h2 => ⟨fun _ => hy 1 (Or.inl ⟨rfl, Or.inr (Or.inl h2)⟩), fun h => absurd h (by decide)⟩) (fun h2 => ⟨fun h => absurd rfl h, fun _ => ⟨fun h3 => hy 0 (Or.inr ⟨rfl, by omega⟩), fun h3 => hy 1 (Or.inl ⟨rfl, Or.inr (Or.inr h3)⟩)⟩⟩)⟩)
theorem spec_X8_assignmentFault {σ : SG} {T : List Int} {Q : Int → SG → Prop} (hT : Txt σ T) (hQ : Q (asf T) σ) : wp_X8_assignmentFault σ Q := by
  unfold wp_X8_assignmentFault
  unfold asf at hQ
  have t1 := hT.1.1
  have t3 := hT.1.2.2
  refine spec_X8_at (k := 0) hT (spec_X8_isRegisterLetter (fun h0 => ⟨fun _ => ?_, fun h => absurd h (by decide)⟩) (fun h0 => ⟨fun h => absurd rfl h, fun _ => by rw [if_neg h0] at hQ; exact hQ⟩))
  rw [if_pos h0] at hQ
  refine spec_X8_at (k := 1) hT ⟨fun h1 => ?_, fun h1 => by rw [if_neg h1] at hQ; exact hQ⟩
  rw [if_pos h1] at hQ
  have hl2 : 2 ≤ T.length := by
    rcases Nat.lt_or_ge T.length 2 with q | q
    · have e : T.getD 1 0 = 0 := by rw [List.getD_eq_getElem?_getD, List.getElem?_eq_none (by omega)]; rfl
      omega
    · exact q
  refine Lp3_m (fun x e d σ' => ∃ k : Nat, x = k ∧ k ≤ T.length ∧ σ' = σ ∧ (0 ≤ d ∧ d ≤ 5) ∧ af (T.drop k) k e d = af (T.drop 2) 2 0 0) (fun x _ _ _ => (61 - x).toNat) ⟨2, rfl, hl2, rfl, by omega, rfl⟩ ?_
  rintro x e d σ1 r ⟨k, rfl, hk, rfl, hd, haf⟩ hr
  rw [t1]
  refine ⟨fun hend => jn1_self ?_, fun hlt => ?_⟩
  · have hkl : k = T.length := by omega
    rw [hkl, List.drop_length, af] at haf
    rw [← haf] at hQ
    have h0 : d ≠ 0 ∨ ¬ (e = 1 ∨ e = 3) → ((0 : Int) = 0 → Q (σ1 30 1) σ1) ∧ (¬ (0 : Int) = 0 → Q (-1) σ1) := fun h => by
      refine ⟨fun _ => ?_, fun h => absurd rfl h⟩
      rw [t1]
      by_cases q : d ≠ 0
      · rw [if_pos q] at hQ; exact hQ
      · rw [if_neg q, if_neg (h.resolve_left q)] at hQ; exact hQ
    have h1 : d = 0 → (e = 1 ∨ e = 3) → ((1 : Int) = 0 → Q (σ1 30 1) σ1) ∧ (¬ (1 : Int) = 0 → Q (-1) σ1) := fun h g => by
      refine ⟨fun h => absurd h (by decide), fun _ => ?_⟩
      rw [if_neg (by omega), if_pos g] at hQ; exact hQ
    exact ⟨fun q => h0 (Or.inl q), fun q => ⟨fun q1 => h1 q (Or.inl q1), fun q1 => ⟨fun q3 => h0 (Or.inr (by omega)), fun q3 => h1 q (Or.inr q3)⟩⟩⟩
  · have hlt : k < T.length := by omega
    have hc : T[k]? = some T[k] := List.getElem?_eq_getElem hlt
    generalize T[k] = c at hc
    have hch := (hT.2 k c hc).1
    rw [drop_some hc, af] at haf
    refine ⟨by omega, ?_⟩
    rintro v rfl
    rw [Int.toNat_natCast, hch]
    refine spec_X8_expectedBehind (jn1_self ?_)
    have hb : ∀ y : Int, y = xd c → inR (d + y) ∧ ∀ v29 : Int, v29 = d + y → (xb c e < 0 → Q k σ1) ∧ (¬ xb c e < 0 → (v29 < 0 → Q k σ1) ∧ (¬ v29 < 0 → (v29 ≤ 5 → inR ((k : Int) + 1) ∧ r (k + 1) (xb c e) v29 σ1) ∧ (¬ v29 ≤ 5 → Q k σ1))) := by
      rintro y rfl
      have hxd : -1 ≤ xd c ∧ xd c ≤ 1 := by
        unfold xd
        split
        · omega
        · split <;> omega
      refine ⟨by omega, ?_⟩
      rintro w rfl
      have bad : (xb c e < 0 ∨ d + xd c < 0 ∨ 5 < d + xd c) → Q k σ1 := fun h => by
        rw [if_pos h] at haf
        rw [← haf] at hQ
        exact hQ
      refine ⟨fun h => bad (Or.inl h), fun h => ⟨fun h2 => bad (Or.inr (Or.inl h2)), fun h2 => ⟨fun h3 => ⟨by omega, hr _ _ _ _ ⟨k + 1, by omega, by omega, rfl, by omega, ?_⟩ (by omega)⟩, fun h3 => bad (Or.inr (Or.inr (by omega)))⟩⟩⟩
      rw [if_neg (by omega)] at haf
      exact haf
    refine ⟨fun h40 => ⟨fun h41 => hb 0 (by unfold xd; rw [if_neg h40, if_neg h41]), fun h41 => hb (-1) (by unfold xd; rw [if_neg h40, if_pos h41])⟩, fun h40 => hb 1 (by unfold xd; rw [if_pos h40])⟩
