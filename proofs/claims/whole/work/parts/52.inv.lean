/-! the one invariant of both sides -/
def Snp (σ : SG) (m : Option SV) : Prop := (σ 0 2 = σ 304 4 ∧ (σ 0 2 = 0 ↔ m = none)) ∧ ∀ s, m = some s → SC σ 155 s ∧ SM (σ 307) s
def Txt (σ : SG) (T : List Int) : Prop := (σ 30 1 = T.length ∧ σ 304 8 = T.length ∧ T.length ≤ 60) ∧ ∀ i c, T[i]? = some c → σ 31 i = c ∧ σ 311 i = c ∧ 0 ≤ c ∧ c < 65536
def Iv (σ : SG) (s : SV) (h : List SV) (m : Option SV) (T : List Int) : Prop := (Pts σ ∧ SC σ 1 s ∧ SM (σ 305) s ∧ VSt s) ∧ ((∀ t ∈ h, VSt t) ∧ ∀ t, m = some t → VSt t) ∧ (HCl σ h ∧ HMo σ h) ∧ Snp σ m ∧ Txt σ T
def Inv (σ : SG) : Prop := ∃ s h m T, Iv σ s h m T
theorem SC_cg {σ σ' : SG} {o : Nat} {s : SV} (h : SC σ o s) (e : ∀ i, o ≤ i → i < o + 29 → σ' i = σ i) : SC σ' o s := Scn_cg h e
theorem HCl_fr {σ σ' : SG} {h : List SV} (hH : HCl σ h) (e1 : σ' 184 = σ 184) (e2 : ∀ i, 186 ≤ i → i < 302 → σ' i = σ i) : HCl σ' h := by
  obtain ⟨h1, h2, h3⟩ := hH
  refine ⟨by rw [e1]; exact h1, by rw [e1]; exact h2, fun j s hj => ?_⟩
  have hin := hp_in (σ' 184 1).toNat h.length j
  rw [e1] at hin ⊢
  exact SC_cg (h3 j s hj) (fun i i1 i2 => e2 i (by omega) (by omega))
theorem HMo_fr {σ σ' : SG} {h : List SV} (hH : HMo σ h) (e1 : σ' 304 2 = σ 304 2) (e2 : σ' 306 = σ 306) : HMo σ' h := by
  obtain ⟨h1, h2⟩ := hH
  refine ⟨by rw [e1]; exact h1, fun j s hj => ?_⟩
  rw [e2]
  exact h2 j s hj
theorem Snp_fr {σ σ' : SG} {m : Option SV} (h : Snp σ m) (e1 : σ' 0 2 = σ 0 2) (e2 : σ' 304 4 = σ 304 4) (e3 : ∀ i, 155 ≤ i → i < 184 → σ' i = σ i) (e4 : σ' 307 = σ 307) : Snp σ' m := by
  obtain ⟨h1, h2⟩ := h
  refine ⟨by rw [e1, e2]; exact h1, fun s hs => ⟨SC_cg (h2 s hs).1 (fun i i1 i2 => e3 i (by omega) (by omega)), by rw [e4]; exact (h2 s hs).2⟩⟩
theorem Txt_fr {σ σ' : SG} {T : List Int} (h : Txt σ T) (e1 : σ' 30 1 = σ 30 1) (e2 : σ' 304 8 = σ 304 8) (e3 : σ' 31 = σ 31) (e4 : σ' 311 = σ 311) : Txt σ' T := by
  obtain ⟨h1, h2⟩ := h
  exact ⟨by rw [e1, e2]; exact h1, fun i c hc => by rw [e3, e4]; exact h2 i c hc⟩
theorem Pts_fr {σ σ' : SG} (h : Pts σ) (h1 : Pt σ' 1) (e : ∀ i, 155 ≤ i → i < 302 → σ' i = σ i) : Pts σ' := fun o ho => by
  by_cases q : o = 1
  · rw [q]; exact h1
  · refine Pt_FO (h o ho) (e _ ?_ ?_) <;> (rcases isSt_in ho with e | e | e | e | e | e <;> omega)
/-- nothing that counts is changed -/
def FrR (σ σ' : SG) : Prop := (∀ i, (i < 30 ∨ i = 31 ∨ (155 ≤ i ∧ i < 302) ∨ (305 ≤ i ∧ i < 308) ∨ i = 311) → σ' i = σ i) ∧ σ' 30 1 = σ 30 1 ∧ ∀ k, k ≠ 10 → σ' 304 k = σ 304 k
theorem FrR.rf (σ : SG) : FrR σ σ := ⟨fun _ _ => rfl, rfl, fun _ _ => rfl⟩
theorem FrR.tr {σ σ' σ'' : SG} (h : FrR σ σ') (k : FrR σ' σ'') : FrR σ σ'' := ⟨fun i hi => (k.1 i hi).trans (h.1 i hi), k.2.1.trans h.2.1, fun i hi => (k.2.2 i hi).trans (h.2.2 i hi)⟩
theorem FrR.ofL {σ σ' : SG} {T : List Nat} (h : FrL σ σ' T) (hT : ∀ t ∈ T, (33 ≤ t ∧ t < 154) ∨ t = 302) : FrR σ σ' :=
  ⟨fun i hi => h i (fun t ht => by have := hT t ht; omega), by rw [h 30 (fun t ht => by have := hT t ht; omega)], fun k _ => by rw [h 304 (fun t ht => by have := hT t ht; omega)]⟩
theorem FrR.ofT {σ σ' : SG} {T : List Int} (h : FT σ σ' T) : FrR σ σ' :=
  ⟨fun i hi => h.1 i (by omega) (by omega), by rw [h.1 30 (by decide) (by decide)], fun k _ => by rw [h.1 304 (by decide) (by decide)]⟩
theorem Iv_R {σ σ' : SG} {s : SV} {h : List SV} {m : Option SV} {T : List Int} (hI : Iv σ s h m T) (f : FrR σ σ') : Iv σ' s h m T := by
  obtain ⟨⟨i1, i2, i3, i4⟩, i5, ⟨i6, i7⟩, i8, i9⟩ := hI
  obtain ⟨f1, f2, f3⟩ := f
  refine ⟨⟨fun o ho => Pt_FO (i1 o ho) (f1 _ (by rcases isSt_in ho with e | e | e | e | e | e <;> omega)), SC_cg i2 (fun i a b => f1 i (by omega)), by rw [f1 305 (by omega)]; exact i3, i4⟩, i5, ⟨HCl_fr i6 (f1 _ (by omega)) (fun i a b => f1 i (by omega)), HMo_fr i7 (f3 2 (by decide)) (f1 _ (by omega))⟩, Snp_fr i8 (by rw [f1 0 (by omega)]) (f3 4 (by decide)) (fun i a b => f1 i (by omega)) (f1 _ (by omega)), Txt_fr i9 f2 (f3 8 (by decide)) (f1 _ (by omega)) (f1 _ (by omega))⟩
/-- the value that holds (f, g, L) -/
def EN {R : Type} [Lean.Grind.CommRing R] (p : Nat) (co : R → Nat → Int) (mk : (Nat → Int) → R) (sv : R → (Nat → R) → List R → SV) : Prop := (∀ σ o f g L, Scn co σ o p f g L ↔ SC σ o (sv f g L)) ∧ (∀ w f g L, Awn co w p f g L ↔ SM w (sv f g L)) ∧ ∀ f g L, Val p co mk f g L ↔ VSt (sv f g L)
theorem EN_pol {n : Nat} (hp : Pr (n + 2)) : @EN (POL n) (polR n) (n + 2) (coP n) (polMk n) (fun f g L => ⟨n, f, g, L⟩) :=
  ⟨fun _ _ _ _ _ => Iff.rfl, fun _ _ _ _ => Iff.rfl, fun _ _ _ => ⟨fun h => ⟨hp, h⟩, fun h => h.2⟩⟩
/-! tests -/
theorem spec_X9_isRegister {σ : SG} {a : Int} {Q : Int → SG → Prop} (h1 : 0 ≤ a → a < 6 → Q 1 σ) (h0 : ¬ (0 ≤ a ∧ a < 6) → Q 0 σ) : wp_X9_isRegister σ a Q := by
  unfold wp_X9_isRegister
  exact ⟨fun h => h0 (by omega), fun h => ⟨fun h2 => h0 (by omega), fun h2 => h1 (by omega) (by omega)⟩⟩
theorem spec_X9_isBranch {σ : SG} {a : Int} {l : Nat} {Q : Int → SG → Prop} (e : σ 1 4 = l) (h1 : ∀ k : Nat, a = k → k < l → Q 1 σ) (h0 : ¬ (0 ≤ a ∧ a < l) → Q 0 σ) : wp_X9_isBranch σ a Q := by
  unfold wp_X9_isBranch
  rw [e]
  exact ⟨fun h => h0 (by omega), fun h => ⟨fun h2 => h0 (by omega), fun h2 => h1 a.toNat (by omega) (by omega)⟩⟩
theorem spec_X9_isPlace {σ : SG} {a : Int} {d : Nat} {Q : Int → SG → Prop} (e : σ 2 1 = (d : Int) - 1) (hd : 1 ≤ d) (h1 : ∀ k : Nat, a = k → k + 1 < d → Q 1 σ) (h0 : ¬ (0 ≤ a ∧ a + 1 < d) → Q 0 σ) : wp_X9_isPlace σ a Q := by
  unfold wp_X9_isPlace
  rw [e]
  exact ⟨fun h => h0 (by omega), fun h => ⟨fun h2 => h0 (by omega), fun h2 => h1 a.toNat (by omega) (by omega)⟩⟩
theorem spec_X10_in {σ : SG} {a lo hi : Int} {Q : Int → SG → Prop} (h1 : lo ≤ a → a ≤ hi → Q 1 σ) (h0 : ¬ (lo ≤ a ∧ a ≤ hi) → Q 0 σ) : wp_X10_in σ a lo hi Q := by
  unfold wp_X10_in
  exact ⟨fun h => h0 (by omega), fun h => ⟨fun h2 => h0 (by omega), fun h2 => h1 (by omega) (by omega)⟩⟩
theorem spec_X10_noRegister {σ : SG} {a : Int} {Q : Int → SG → Prop} (h1 : 0 ≤ a → a < 6 → Q 0 σ) (h0 : ¬ (0 ≤ a ∧ a < 6) → Q 1 σ) : wp_X10_noRegister σ a Q := by
  unfold wp_X10_noRegister
  exact spec_X10_in (fun h2 h3 => ⟨fun _ => h1 h2 (by omega), fun h => absurd h (by decide)⟩) (fun h2 => ⟨fun h => absurd rfl h, fun _ => h0 (by omega)⟩)
theorem spec_X10_noBranch {σ : SG} {a : Int} {l : Nat} {Q : Int → SG → Prop} (e : σ 305 44 = l) (hl : l ≤ 6) (h1 : ∀ k : Nat, a = k → k < l → Q 0 σ) (h0 : ¬ (0 ≤ a ∧ a < l) → Q 1 σ) : wp_X10_noBranch σ a Q := by
  unfold wp_X10_noBranch
  rw [e]
  exact ⟨by omega, spec_X10_in (fun h2 h3 => ⟨fun _ => h1 a.toNat (by omega) (by omega), fun h => absurd h (by decide)⟩) (fun h2 => ⟨fun h => absurd rfl h, fun _ => h0 (by omega)⟩)⟩
theorem spec_X10_loadsModulus {R : Type} [Lean.Grind.CommRing R] {p : Nat} {co : R → Nat → Int} {mk : (Nat → Int) → R} (H : PD p co mk) {σ : SG} {f : R} {g : Nat → R} {L : List R} {Q : SG → Prop} (hA : Awn co (σ 305) p f g L) (hV : Val p co mk f g L) (hQ : ∀ σ', FT σ σ' [0] → Rr co σ' 0 f → Q σ') : wp_X10_loadsModulus σ Q := by
  unfold wp_X10_loadsModulus
  refine spec_X10_loads H (by omega) (by omega) (by omega) (by omega) (fun k hk => ?_) (by have := hV.2.1.2; omega) hQ
  rw [show ((1 : Int) + k).toNat = 1 + k by omega]
  exact hA.2.1 k (by omega)
theorem spec_X10_loadsNumber {R : Type} [Lean.Grind.CommRing R] {p : Nat} {co : R → Nat → Int} {mk : (Nat → Int) → R} (H : PD p co mk) {σ : SG} {f : R} {g : Nat → R} {L : List R} {a : Nat} {r : Int} {Q : SG → Prop} (hA : Awn co (σ 305) p f g L) (hV : Val p co mk f g L) (ha : a < 6) (hr : 0 ≤ r ∧ r < 60) (hQ : ∀ σ', FT σ σ' [r] → Rr co σ' r (g a) → Q σ') : wp_X10_loadsNumber σ a r Q := by
  unfold wp_X10_loadsNumber
  refine ⟨by omega, by omega, spec_X10_loads H hr (by omega) (by omega) (by omega) (fun k hk => ?_) (by have := hV.2.1.2; have := hV.2.2.2.1 a ha; omega) hQ⟩
  rw [show (8 + 6 * (a : Int) + k).toNat = 8 + 6 * a + k by omega]
  exact hA.2.2.1 a k ha (by omega)
theorem spec_X10_noPlace {R : Type} [Lean.Grind.CommRing R] {p : Nat} {co : R → Nat → Int} {mk : (Nat → Int) → R} (H : PD p co mk) {σ : SG} {f : R} {g : Nat → R} {L : List R} {a : Int} {Q : Int → SG → Prop} (hA : Awn co (σ 305) p f g L) (hV : Val p co mk f g L) (h1 : ∀ (k : Nat) σ', a = k → k + 1 < dd co f → FT σ σ' [0] → Rr co σ' 0 f → Q 0 σ') (h0 : ∀ σ', ¬ (0 ≤ a ∧ a + 1 < dd co f) → FT σ σ' [0] → Q 1 σ') : wp_X10_noPlace σ a Q := by
  unfold wp_X10_noPlace wp_X10_degreeOfModulus
  have hd := hV.2.1
  refine spec_X10_loadsModulus H hA hV (fun σ1 k1 k2 => spec_X10_degree H k2 ⟨by omega, spec_X10_in (fun h2 h3 => ⟨fun _ => h1 a.toNat σ1 (by omega) (by omega) k1 k2, fun h => absurd h (by decide)⟩) (fun h2 => ⟨fun h => absurd rfl h, fun _ => h0 σ1 (by omega) k1⟩)⟩)
theorem Bl_of {R : Type} [Lean.Grind.CommRing R] {p : Nat} {co : R → Nat → Int} {mk : (Nat → Int) → R} (H : PD p co mk) {σ : SG} {f : R} {g : Nat → R} {L : List R} (hA : Awn co (σ 305) p f g L) (hV : Val p co mk f g L) : Bl co σ L := by
  have h1 := GL_len H hV.2.2.2.2.1
  have h2 := hV.2.1
  refine ⟨hA.2.2.2.1, by omega, fun i x hx => ⟨fun k hk => hA.2.2.2.2 i x hx k hk, ?_⟩⟩
  have := GL_mem H hV.2.2.2.2.1 (List.mem_of_getElem? hx)
  omega
theorem Md_of {R : Type} [Lean.Grind.CommRing R] {p : Nat} {co : R → Nat → Int} {mk : (Nat → Int) → R} (H : PD p co mk) {σ : SG} {f : R} {g : Nat → R} {L : List R} (hS : Scn co σ 1 p f g L) (hV : Val p co mk f g L) : Md p co σ f := ⟨hS.1, hS.2.1, hV.1, hV.2.1⟩
theorem Awn_R {R : Type} {co : R → Nat → Int} {σ σ' : SG} {p : Nat} {f : R} {g : Nat → R} {L : List R} (hA : Awn co (σ 305) p f g L) (h : FrR σ σ') : Awn co (σ' 305) p f g L := by rw [h.1 305 (by omega)]; exact hA
theorem reg_st {k : Nat} (hk : k < 6) : 1 + 3 + 1 + 2 * k ∉ brs 1 ∧ 5 ≤ 1 + 3 + 1 + 2 * k ∧ 1 + 3 + 1 + 2 * k < 16 := by
  refine ⟨fun e => ?_, by omega, by omega⟩
  obtain ⟨j, hj, e2⟩ := brs_mem.mp e
  omega
/-! number, modulus, branch -/
theorem gop_number {R : Type} [Lean.Grind.CommRing R] {p : Nat} {co : R → Nat → Int} {mk : (Nat → Int) → R} (H : PD p co mk) {σ : SG} {f : R} {g : Nat → R} {L : List R} {a k : Int} {Q : Int → Int → SG → Prop} (hS : Scn co σ 1 p f g L) (hA : Awn co (σ 305) p f g L) (hV : Val p co mk f g L) (hQ : ∀ r σ2, FrR σ σ2 → Q r r σ2) : wp_X9_number σ a k (fun r σ1 => wp_X10_number σ1 a k (fun r2 σ2 => Q r r2 σ2)) := by
  unfold wp_X9_number wp_X10_number
  have hd := hV.2.1
  refine spec_X9_isRegister (fun a0 a6 => ⟨fun _ => ?_, fun h => absurd h (by decide)⟩) (fun h => ⟨fun h => absurd rfl h, fun _ => spec_X10_noRegister (fun a0 a6 => absurd ⟨a0, a6⟩ h) (fun _ => ⟨fun h => absurd h (by decide), fun _ => hQ _ _ (FrR.rf σ)⟩)⟩)
  obtain ⟨a, rfl⟩ := Int.eq_ofNat_of_zero_le a0
  have ha : a < 6 := by omega
  have hr := hS.2.2.1 a ha
  refine spec_X9_isPlace hS.2.1.2.2.2 (by omega) (fun c hc hc2 => ⟨fun h => absurd h (by decide), fun _ => ⟨by omega, ?_⟩⟩) (fun h => ⟨fun _ => ?_, fun h => absurd rfl h⟩)
  · subst hc
    rw [Int.toNat_natCast]
    refine spec_X4_at H hr (fun z hz => spec_X10_noRegister (fun _ _ => ⟨fun _ => ?_, fun h => absurd rfl h⟩) (fun h => by omega))
    refine spec_X10_noPlace H hA hV (fun c' σ1 _ _ k1 k2 => ⟨fun _ => ⟨by omega, by omega, by omega, by omega, ?_⟩, fun h => absurd rfl h⟩) (fun σ1 h => by omega)
    rw [show (8 + 6 * (a : Int) + c).toNat = 8 + 6 * a + c by omega, k1.p, hA.2.2.1 a c ha (by omega), hz, if_neg (by omega), Int.toNat_natCast]
    exact hQ _ _ (FrR.ofT k1)
  · refine spec_X10_noRegister (fun _ _ => ⟨fun _ => ?_, fun h => absurd rfl h⟩) (fun h => by omega)
    refine spec_X10_noPlace H hA hV (fun c' σ1 _ _ k1 k2 => by omega) (fun σ1 h k1 => ⟨fun h => absurd h (by decide), fun _ => hQ _ _ (FrR.ofT k1)⟩)
theorem gop_modulus {R : Type} [Lean.Grind.CommRing R] {p : Nat} {co : R → Nat → Int} {mk : (Nat → Int) → R} (H : PD p co mk) {σ : SG} {f : R} {g : Nat → R} {L : List R} {k : Int} {Q : Int → Int → SG → Prop} (hS : Scn co σ 1 p f g L) (hA : Awn co (σ 305) p f g L) (hV : Val p co mk f g L) (hQ : ∀ r σ2, FrR σ σ2 → Q r r σ2) : wp_X9_modulus σ k (fun r σ1 => wp_X10_modulus σ1 k (fun r2 σ2 => Q r r2 σ2)) := by
  unfold wp_X9_modulus wp_X9_coefficientTold wp_X10_modulus wp_X10_degreeOfModulus
  have hd := hV.2.1
  have hf := hS.2.1
  rw [hf.2.2.2]
  refine ⟨fun k0 => ?_, fun h => ⟨fun h2 => absurd h2 h, fun _ => hQ _ _ (FrR.rf σ)⟩⟩
  obtain ⟨k, rfl⟩ := Int.eq_ofNat_of_zero_le k0
  refine ⟨fun h => spec_X4_at H hf (fun z hz => ⟨fun _ => spec_X10_loadsModulus H hA hV (fun σ1 k1 k2 => spec_X10_degree H k2 ⟨fun h2 => by omega, fun _ => ⟨by omega, by omega, ?_⟩⟩), fun h2 => absurd k0 h2⟩), fun h => ⟨fun _ => spec_X10_loadsModulus H hA hV (fun σ1 k1 k2 => spec_X10_degree H k2 ⟨fun _ => hQ _ _ (FrR.ofT k1), fun h2 => by omega⟩), fun h2 => absurd k0 h2⟩⟩
  rw [show (1 + (k : Int)).toNat = 1 + k by omega, k1.p, hA.2.1 k (by omega), hz, if_neg (by omega), Int.toNat_natCast]
  exact hQ _ _ (FrR.ofT k1)
theorem gop_branch {R : Type} [Lean.Grind.CommRing R] {p : Nat} {co : R → Nat → Int} {mk : (Nat → Int) → R} (H : PD p co mk) {σ : SG} {f : R} {g : Nat → R} {L : List R} {a k : Int} {Q : Int → Int → SG → Prop} (hS : Scn co σ 1 p f g L) (hA : Awn co (σ 305) p f g L) (hV : Val p co mk f g L) (hQ : ∀ r σ2, FrR σ σ2 → Q r r σ2) : wp_X9_branch σ a k (fun r σ1 => wp_X10_branch σ1 a k (fun r2 σ2 => Q r r2 σ2)) := by
  unfold wp_X9_branch wp_X9_coefficientTold wp_X10_branch wp_X10_degreeOfBranch
  have hB := Bl_of H hA hV
  have hb := hS.2.2.2
  refine spec_X9_isBranch hb.2.2.1 (fun c hc hcl => ?_) (fun h => ⟨fun _ => spec_X10_noBranch hB.1 hB.2.1 (fun c _ _ => by omega) (fun _ => ⟨fun h => absurd h (by decide), fun _ => hQ _ _ (FrR.rf σ)⟩), fun h => absurd rfl h⟩)
  subst hc
  have hg : L[c]? = some L[c] := List.getElem?_eq_getElem hcl
  obtain ⟨_, c6, c1, c2⟩ := Sb_get hb hg
  have hx := hB.2.2 c _ hg
  generalize L[c] = x at hg c2 hx
  have hno : ∀ {Q : Int → SG → Prop}, Q 0 σ → wp_X10_noBranch σ c Q := fun h => spec_X10_noBranch hB.1 hB.2.1 (fun _ _ _ => h) (fun h => by omega)
  refine ⟨fun h => absurd h (by decide), fun _ => ⟨by omega, by rw [Int.toNat_natCast]; exact c1, ?_⟩⟩
  rw [Int.toNat_natCast, show σ ((σ 17 c).toNat) 1 = (dd co x : Int) - 1 from c2.2.2.2]
  refine ⟨fun k0 => ?_, fun h => hno ⟨fun _ => ⟨fun h2 => absurd h2 h, fun _ => hQ _ _ (FrR.rf σ)⟩, fun h => absurd rfl h⟩⟩
  obtain ⟨k, rfl⟩ := Int.eq_ofNat_of_zero_le k0
  refine ⟨fun h => spec_X4_at H c2 (fun z hz => hno ⟨fun _ => ⟨fun _ => spec_X10_loadsBranch H hB hg (by omega) (fun σ1 k1 k2 => spec_X10_degree H k2 ⟨fun h2 => by omega, fun _ => ⟨by omega, by omega, by omega, by omega, ?_⟩⟩), fun h2 => absurd k0 h2⟩, fun h => absurd rfl h⟩), fun h => hno ⟨fun _ => ⟨fun _ => spec_X10_loadsBranch H hB hg (by omega) (fun σ1 k1 k2 => spec_X10_degree H k2 ⟨fun _ => hQ _ _ (FrR.ofT k1), fun h2 => by omega⟩), fun h2 => absurd k0 h2⟩, fun h => absurd rfl h⟩⟩
  rw [show (45 + 7 * (c : Int) + k).toNat = 45 + 7 * c + k by omega, k1.p, hx.1 k (by omega), hz, if_neg (by omega), Int.toNat_natCast]
  exact hQ _ _ (FrR.ofT k1)
