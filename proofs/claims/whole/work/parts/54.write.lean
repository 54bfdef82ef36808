/-! what changes the state -/
def Rst (σ : SG) (hc hm : List SV) (m : Option SV) (T : List Int) : Prop := ((∀ t ∈ hc, VSt t) ∧ (∀ t ∈ hm, VSt t) ∧ ∀ t, m = some t → VSt t) ∧ (HCl σ hc ∧ HMo σ hm) ∧ (Snp σ m ∧ Txt σ T) ∧ ∀ o, KT.getD o 99 = 7 → o ≠ 1 → Pt σ o
def FrX (σ σ' : SG) : Prop := (∀ i, (i = 0 ∨ i = 31 ∨ (155 ≤ i ∧ i < 302) ∨ i = 306 ∨ i = 307 ∨ i = 311) → σ' i = σ i) ∧ σ' 30 1 = σ 30 1 ∧ ∀ k, k ≠ 10 → σ' 304 k = σ 304 k
theorem FrX.rf (σ : SG) : FrX σ σ := ⟨fun _ _ => rfl, rfl, fun _ _ => rfl⟩
theorem FrX.tr {σ σ' σ'' : SG} (h : FrX σ σ') (k : FrX σ' σ'') : FrX σ σ'' := ⟨fun i hi => (k.1 i hi).trans (h.1 i hi), k.2.1.trans h.2.1, fun i hi => (k.2.2 i hi).trans (h.2.2 i hi)⟩
theorem FrX.ofR {σ σ' : SG} (h : FrR σ σ') : FrX σ σ' := ⟨fun i hi => h.1 i (by omega), h.2.1, h.2.2⟩
theorem FrX.of1 {σ σ' : SG} {t : Nat} (h : Fr1 σ σ' t) (ht : (1 < t ∧ t < 29) ∨ (33 ≤ t ∧ t < 154) ∨ t = 302) : FrX σ σ' :=
  ⟨fun i hi => h i (by omega) (by omega), by rw [h 30 (by omega) (by omega)], fun k _ => by rw [h 304 (by omega) (by omega)]⟩
theorem FrX.ofB {σ σ' : SG} {T : List Nat} (h : FrB σ σ' 1 T) (hT : ∀ t ∈ T, (1 < t ∧ t < 29) ∨ (33 ≤ t ∧ t < 154) ∨ t = 302) : FrX σ σ' := by
  have h2 : ∀ t ∈ brs 1 ++ T, (1 < t ∧ t < 29) ∨ (33 ≤ t ∧ t < 154) ∨ t = 302 := fun t ht => by
    rcases List.mem_append.mp ht with e | e
    · obtain ⟨k, hk, e2⟩ := brs_mem.mp e
      omega
    · exact hT t e
  exact ⟨fun i hi => h.1 i (by omega) (by omega) (fun t ht => by have := h2 t ht; omega), by rw [h.1 30 (by omega) (by omega) (fun t ht => by have := h2 t ht; omega)], fun k _ => by rw [h.1 304 (by omega) (by omega) (fun t ht => by have := h2 t ht; omega)]⟩
theorem FrX.ofN {σ σ' : SG} {T : List Int} (h : FN σ σ' T) : FrX σ σ' :=
  ⟨fun i hi => h.1 i (by omega) (by omega) (by omega), by rw [h.1 30 (by omega) (by omega) (by omega)], fun k _ => by rw [h.1 304 (by omega) (by omega) (by omega)]⟩
theorem FrX.of305 {σ σ' : SG} (h : ∀ i, i ≠ 305 → σ' i = σ i) : FrX σ σ' := ⟨fun i hi => h i (by omega), by rw [h 30 (by omega)], fun k _ => by rw [h 304 (by omega)]⟩
theorem Rst_X {σ σ' : SG} {hc hm : List SV} {m : Option SV} {T : List Int} (h : Rst σ hc hm m T) (f : FrX σ σ') : Rst σ' hc hm m T := by
  obtain ⟨r1, ⟨r2, r3⟩, ⟨r4, r5⟩, r6⟩ := h
  obtain ⟨f1, f2, f3⟩ := f
  exact ⟨r1, ⟨HCl_fr r2 (f1 _ (by omega)) (fun i a b => f1 i (by omega)), HMo_fr r3 (f3 2 (by decide)) (f1 _ (by omega))⟩, ⟨Snp_fr r4 (by rw [f1 0 (by omega)]) (f3 4 (by decide)) (fun i a b => f1 i (by omega)) (f1 _ (by omega)), Txt_fr r5 f2 (f3 8 (by decide)) (f1 _ (by omega)) (f1 _ (by omega))⟩, fun o ho hn => Pt_FO (r6 o ho hn) (f1 _ (by rcases isSt_in ho with e | e | e | e | e | e <;> omega))⟩
theorem Rst_Pts {σ : SG} {hc hm : List SV} {m : Option SV} {T : List Int} (h : Rst σ hc hm m T) (h1 : Pt σ 1) : Pts σ := fun o ho => by
  by_cases q : o = 1
  · rw [q]; exact h1
  · exact h.2.2.2 o ho q
theorem Iv_Rst {σ : SG} {s : SV} {h : List SV} {m : Option SV} {T : List Int} : Iv σ s h m T ↔ SC σ 1 s ∧ SM (σ 305) s ∧ VSt s ∧ Rst σ h h m T := by
  constructor
  · rintro ⟨⟨i1, i2, i3, i4⟩, ⟨i5, i6⟩, i7, i8, i9⟩
    exact ⟨i2, i3, i4, ⟨i5, i5, i6⟩, i7, ⟨i8, i9⟩, fun o ho _ => i1 o ho⟩
  · rintro ⟨i2, i3, i4, hR⟩
    obtain ⟨⟨i5, -, i6⟩, i7, ⟨i8, i9⟩, i10⟩ := id hR
    exact ⟨⟨Rst_Pts hR i2.2.2.2.2.1, i2, i3, i4⟩, ⟨i5, i6⟩, i7, i8, i9⟩
theorem push_mem {h : List SV} {s t : SV} (ht : t ∈ push h s) : t ∈ h ∨ t = s := by
  unfold push at ht
  have := List.mem_of_mem_drop ht
  rcases List.mem_append.mp this with e | e
  · exact Or.inl e
  · exact Or.inr (List.mem_singleton.mp e)
theorem rec_c {σ : SG} {s : SV} {h hm : List SV} {m : Option SV} {T : List Int} {Q : SG → Prop} (hR : Rst σ h hm m T) (hs : SC σ 1 s) (hv : VSt s) (hQ : ∀ σ' : SG, (∀ i, i < 155 ∨ 302 ≤ i → σ' i = σ i) → Rst σ' (push h s) hm m T → Q σ') : wp_X3_record σ 1 Q := by
  refine spec_X3_record (Rst_Pts hR hs.2.2.2.2.1) hR.2.1.1 hs (fun σ' f hP hH => hQ σ' (fun i hi => f i (by omega) (by omega)) ?_)
  obtain ⟨⟨v1, v2, v3⟩, ⟨r2, r3⟩, ⟨r4, r5⟩, r6⟩ := hR
  have e304 := f 304 (by omega) (by omega)
  exact ⟨⟨fun t ht => by
    rcases push_mem ht with e | e
    · exact v1 t e
    · rw [e]; exact hv, v2, v3⟩, ⟨hH, HMo_fr r3 (by rw [e304]) (f _ (by omega) (by omega))⟩, ⟨Snp_fr r4 (by rw [f 0 (by omega) (by omega)]) (by rw [e304]) (fun i a b => f i (by omega) (by omega)) (f _ (by omega) (by omega)), Txt_fr r5 (by rw [f 30 (by omega) (by omega)]) (by rw [e304]) (f _ (by omega) (by omega)) (f _ (by omega) (by omega))⟩, fun o ho _ => hP o ho⟩
theorem rec_m {σ : SG} {s : SV} {h hc : List SV} {m : Option SV} {T : List Int} {Q : SG → Prop} (hR : Rst σ hc h m T) (hs : SM (σ 305) s) (hv : VSt s) (hQ : ∀ σ' : SG, (∀ i, i ≠ 304 → i ≠ 306 → σ' i = σ i) → Rst σ' hc (push h s) m T → Q σ') : wp_X10_record σ Q := by
  have hR0 := hR
  obtain ⟨⟨v1, v2, v3⟩, ⟨r2, r3⟩, ⟨r4, r5⟩, r6⟩ := hR
  refine spec_X10_record r3 (fun t ht => VSt_VL (v2 t ht)) hs (VSt_VL hv) (fun σ' f f2 hH => hQ σ' f ?_)
  exact ⟨⟨v1, fun t ht => by
    rcases push_mem ht with e | e
    · exact v2 t e
    · rw [e]; exact hv, v3⟩, ⟨HCl_fr r2 (f _ (by omega) (by omega)) (fun i a b => f i (by omega) (by omega)), hH⟩, ⟨Snp_fr r4 (by rw [f 0 (by omega) (by omega)]) (f2 4 (by decide)) (fun i a b => f i (by omega) (by omega)) (f _ (by omega) (by omega)), Txt_fr r5 (by rw [f 30 (by omega) (by omega)]) (f2 8 (by decide)) (f _ (by omega) (by omega)) (f _ (by omega) (by omega))⟩, fun o ho hn => Pt_FO (r6 o ho hn) (f _ (by rcases isSt_in ho with e | e | e | e | e | e <;> omega) (by rcases isSt_in ho with e | e | e | e | e | e <;> omega))⟩
theorem Scn_set {R : Type} [Lean.Grind.CommRing R] {p : Nat} {co : R → Nat → Int} {mk : (Nat → Int) → R} (H : PD p co mk) {σ σ' : SG} {f : R} {g : Nat → R} {L : List R} {a : Nat} {x : R} (hS : Scn co σ 1 p f g L) (ha : a < 6) (h : Fr1 σ σ' (1 + 3 + 1 + 2 * a)) (hx : Rp co σ' (1 + 3 + 1 + 2 * a) x) : Scn co σ' 1 p f (fun i => if i = a then x else g i) L := by
  obtain ⟨s1, s2, s3, s4⟩ := hS
  have hr := reg_st ha
  have hP : ∀ t ∈ [1 + 3 + 1 + 2 * a], KT.getD t 99 = 4 := fun t ht => by rw [List.mem_singleton.mp ht]; exact hx.1
  refine ⟨by rw [h 1 (by omega) (by omega)]; exact s1, Rp_fr1 s2 hx.1 (by omega) h, fun k hk => ?_, Sb_frL s4 hP (fun t ht => by rw [List.mem_singleton.mp ht]; exact hr.1) (FrL.of1 h)⟩
  show Rp co σ' (1 + 3 + 1 + 2 * k) (if k = a then x else g k)
  by_cases e : k = a
  · rw [if_pos e, e]; exact hx
  · rw [if_neg e]; exact Rp_fr1 (s3 k hk) hx.1 (by omega) h
theorem Awn_set {R : Type} {co : R → Nat → Int} {w w' : Nat → Int} {p : Nat} {f : R} {g : Nat → R} {L : List R} {a : Nat} {x : R} (hA : Awn co w p f g L) (ha : a < 6) (h : ∀ k, k < 8 + 6 * a ∨ 8 + 6 * a + 6 ≤ k → w' k = w k) (hx : ∀ k, k < 6 → w' (8 + 6 * a + k) = co x k) : Awn co w' p f (fun i => if i = a then x else g i) L := by
  obtain ⟨a1, a2, a3, a4, a5⟩ := hA
  refine ⟨by rw [h _ (by omega)]; exact a1, fun k hk => by rw [h _ (by omega)]; exact a2 k hk, fun r k hr hk => ?_, by rw [h _ (by omega)]; exact a4, fun i x hx k hk => by rw [h _ (by omega)]; exact a5 i x hx k hk⟩
  show w' (8 + 6 * r + k) = co (if r = a then x else g r) k
  by_cases e : r = a
  · rw [if_pos e, e]; exact hx k hk
  · rw [if_neg e, h _ (by omega)]; exact a3 r k hr hk
theorem Val_set {R : Type} [Lean.Grind.CommRing R] {p : Nat} {co : R → Nat → Int} {mk : (Nat → Int) → R} (H : PD p co mk) {f : R} {g : Nat → R} {L : List R} {a : Nat} {x : R} (hV : Val p co mk f g L) (hx : dd co x < dd co f) : Val p co mk f (fun i => if i = a then x else g i) L := by
  obtain ⟨v1, v2, v3, v4, v5⟩ := hV
  refine ⟨v1, v2, v3, fun k hk => ?_, v5⟩
  show dd co (if k = a then x else g k) < dd co f
  by_cases e : k = a
  · rw [if_pos e]; exact hx
  · rw [if_neg e]; exact v4 k hk
theorem Scn_cgr {R : Type} {co : R → Nat → Int} {σ σ' : SG} {o p : Nat} {f : R} {g : Nat → R} {L : List R} (h : Scn co σ o p f g L) (e : ∀ i, o ≤ i → i < o + 29 → σ' i = σ i) : Scn co σ' o p f g L := Scn_cg h e
/-- after a record of the class: the same state, and the same reference -/
theorem gop_setNumber {R : Type} [Lean.Grind.CommRing R] {p : Nat} {co : R → Nat → Int} {mk : (Nat → Int) → R} (H : PD p co mk) {sv : R → (Nat → R) → List R → SV} (E : EN p co mk sv) {σ : SG} {f : R} {g : Nat → R} {L : List R} {a k v : Int} {h : List SV} {m : Option SV} {T : List Int} {Q : Int → Int → SG → Prop} (hS : Scn co σ 1 p f g L) (hA : Awn co (σ 305) p f g L) (hV : Val p co mk f g L) (hR : Rst σ h h m T) (hQ : ∀ r σ2 f g L h, Scn co σ2 1 p f g L → Awn co (σ2 305) p f g L → Val p co mk f g L → Rst σ2 h h m T → Q r r σ2) : wp_X9_setNumber σ a k v (fun r σ1 => wp_X10_setNumber σ1 a k v (fun r2 σ2 => Q r r2 σ2)) := by
  unfold wp_X9_setNumber wp_X10_setNumber
  have hd := hV.2.1
  have hp := pd_p H
  have hsame : ∀ {r : Int} {σ2 : SG}, FrR σ σ2 → Q r r σ2 := fun f1 => hQ _ _ f g L h (Scn_cgr hS (fun i a b => f1.1 i (by omega))) (Awn_R hA f1) hV (Rst_X hR (FrX.ofR f1))
  refine spec_X9_isRegister (fun a0 a6 => ⟨fun _ => ?_, fun h => absurd h (by decide)⟩) (fun h => ⟨fun h => absurd rfl h, fun _ => noReg_no h ⟨fun h => absurd h (by decide), fun _ => hsame (FrR.rf σ)⟩⟩)
  obtain ⟨a, rfl⟩ := Int.eq_ofNat_of_zero_le a0
  have ha : a < 6 := by omega
  have hr := hS.2.2.1 a ha
  have hda := hV.2.2.2.1 a ha
  refine spec_X9_isPlace hS.2.1.2.2.2 (by omega) (fun c hc hc2 => ⟨fun h => absurd h (by decide), fun _ => ?_⟩) (fun h => ⟨fun _ => ?_, fun h => absurd rfl h⟩)
  · subst hc
    have hin : ∀ {Q' : Int → SG → Prop}, (∀ σ', FrR σ σ' → Q' 0 σ') → wp_X10_noPlace σ c Q' := fun hq => spec_X10_noPlace H hA hV (fun c' σ1 _ _ k1 k2 => hq σ1 (FrR.ofT k1)) (fun σ1 h => by omega)
    have hbad : ∀ {Q' : Int → SG → Prop}, ¬ (0 ≤ v ∧ v < p) → (∀ σ', FrR σ σ' → Q' (-2) σ') → wp_X10_noRegister σ a (fun z2 σ1 => (z2 = 0 → wp_X10_noPlace σ1 c (fun z4 σ3 => (¬ z4 = 0 → Q' (-2) σ3) ∧ (z4 = 0 → (inR ((σ3 305 0) - 1) ∧ wp_X10_in σ3 v 0 ((σ3 305 0) - 1) (fun z7 σ6 => (¬ z7 = 0 → (inR (6 * (a : Int)) ∧ (inR (8 + (6 * (a : Int))) ∧ (inR ((8 + (6 * (a : Int))) + c) ∧ ((0 ≤ (8 + (6 * (a : Int))) + c ∧ (8 + (6 * (a : Int))) + c < 87) ∧ (∀ v12 : Int, v12 = (σ6 305 ((8 + (6 * (a : Int))) + c).toNat) → ((¬ v12 = v → wp_X10_record σ6 (fun (σ13 : SG) => (inR (6 * (a : Int)) ∧ (inR (8 + (6 * (a : Int))) ∧ (inR ((8 + (6 * (a : Int))) + c) ∧ ((0 ≤ (8 + (6 * (a : Int))) + c ∧ (8 + (6 * (a : Int))) + c < 87) ∧ (∀ σ18 : SG, σ18 = ug σ13 305 (((8 + (6 * (a : Int))) + c).toNat) v → Q' v12 σ18))))))) ∧ (v12 = v → Q' (-5) σ6)))))))) ∧ (z7 = 0 → Q' (-2) σ6)))))) ∧ (¬ z2 = 0 → Q' (-1) σ1)) := fun hv hq => noReg_ok ha ⟨fun _ => hin (fun σ' f1 => ⟨fun h => absurd rfl h, fun _ => by
      rw [(Awn_R hA f1).1]
      exact ⟨by omega, spec_X10_in (fun h1 h2 => absurd ⟨h1, by omega⟩ hv) (fun _ => ⟨fun h => absurd rfl h, fun _ => hq σ' f1⟩)⟩⟩), fun h => absurd rfl h⟩
    rw [hS.1]
    refine ⟨fun h => hbad (by omega) (fun σ' f1 => hsame f1), fun v0 => ⟨fun v1 => ⟨by omega, ?_⟩, fun h => hbad (by omega) (fun σ' f1 => hsame f1)⟩⟩
    rw [Int.toNat_natCast]
    refine spec_X4_at H hr (fun z hz => ?_)
    rw [if_neg (by omega), Int.toNat_natCast] at hz
    have hold : σ 305 (8 + 6 * (a : Int) + c).toNat = z := by
      rw [show (8 + 6 * (a : Int) + c).toNat = 8 + 6 * a + c by omega, hz]
      exact hA.2.2.1 a c ha (by omega)
    refine ⟨fun hne => ?_, fun heq => ?_⟩
    · refine rec_c hR ((E.1 _ _ _ _ _).mp hS) ((E.2.2 _ _ _).mp hV) (fun σ1 e1 R1 => ⟨by omega, ?_⟩)
      have hS1 : Scn co σ1 1 p f g L := Scn_cgr hS (fun i a b => e1 i (by omega))
      refine spec_X4_set H (hS1.2.2.1 a ha) (by omega) (by omega) (fun σ2 k2 r2 => ?_)
      rw [Int.toNat_natCast] at r2
      have hx : ∀ j, co (g a + mo p mk (v - co (g a) c) c) j = if j = c then v else co (g a) j := fun j => by
        rw [co_add H, co_mo H]
        by_cases q : j = c
        · rw [if_pos q, if_pos q, q]
          have h1 : (co (g a) c + (v - co (g a) c) % p) % p = (co (g a) c + (v - co (g a) c)) % p := by rw [Int.add_emod, Int.emod_emod, ← Int.add_emod]
          rw [h1, show co (g a) c + (v - co (g a) c) = v by omega]
          exact Int.emod_eq_of_lt (by omega) (by omega)
        · rw [if_neg q, if_neg q, Int.add_zero]
          have := pd_rng H (g a) j
          exact Int.emod_eq_of_lt this.1 this.2
      have hdx : dd co (g a + mo p mk (v - co (g a) c) c) < dd co f := by
        have h1 := dd_mo_le H (v - co (g a) c) c
        have := dd_add_le H (a := g a) (b := mo p mk (v - co (g a) c) c) (n := dd co f - 1) (by omega) (by omega)
        omega
      generalize g a + mo p mk (v - co (g a) c) c = x at r2 hx hdx
      have hS2 := Scn_set H hS1 ha k2 r2
      have R2 := Rst_X R1 (FrX.of1 k2 (by have := reg_st ha; omega))
      have e305 : σ2 305 = σ 305 := by rw [k2 305 (by omega) (by omega), e1 305 (by omega)]
      have A2 : Awn co (σ2 305) p f g L := by rw [e305]; exact hA
      refine noReg_ok ha ⟨fun _ => spec_X10_noPlace H A2 hV (fun c' σ3 _ _ k3 m3 => ⟨fun h => absurd rfl h, fun _ => ?_⟩) (fun σ1 h => by omega), fun h => absurd rfl h⟩
      have A3 := Awn_R A2 (FrR.ofT k3)
      have R3 := Rst_X R2 (FrX.ofR (FrR.ofT k3))
      have hS3 := Scn_cgr hS2 (fun i a b => (FrR.ofT k3).1 i (by omega))
      rw [A3.1]
      refine ⟨by omega, spec_X10_in (fun _ _ => ⟨fun _ => ⟨by omega, by omega, by omega, by omega, ?_⟩, fun h => absurd h (by decide)⟩) (fun h => by omega)⟩
      rintro w hw
      rw [k3.p, e305, hold] at hw
      subst hw
      refine ⟨fun _ => ?_, fun h => absurd h.symm hne⟩
      refine rec_m R3 ((E.2.1 _ _ _ _).mp A3) ((E.2.2 _ _ _).mp hV) (fun σ4 e4 R4 => ⟨by omega, by omega, by omega, by omega, ?_⟩)
      rintro σ5 e5
      rw [show (8 + 6 * (a : Int) + c).toNat = 8 + 6 * a + c by omega] at e5
      have u5 : ∀ i, i ≠ 305 → σ5 i = σ4 i := fun i hi => by rw [e5, ug_ne _ hi]
      refine hQ _ _ _ _ _ _ (Scn_cgr hS3 (fun i i1 i2 => by rw [u5 i (by omega), e4 i (by omega) (by omega)])) (Awn_set A3 ha (fun j hj => by rw [e5, ug_k _ _ (by omega), e4 305 (by omega) (by omega)]) (fun j hj => ?_)) (Val_set H hV hdx) (Rst_X R4 (FrX.of305 u5))
      rw [hx j]
      by_cases q : j = c
      · rw [if_pos q, q, e5, ug_eq]
      · rw [if_neg q, e5, ug_k _ _ (by omega), e4 305 (by omega) (by omega)]
        exact A3.2.2.1 a j ha hj
    · refine noReg_ok ha ⟨fun _ => hin (fun σ' f1 => ⟨fun h => absurd rfl h, fun _ => ?_⟩), fun h => absurd rfl h⟩
      rw [(Awn_R hA f1).1]
      refine ⟨by omega, spec_X10_in (fun _ _ => ⟨fun _ => ⟨by omega, by omega, by omega, by omega, ?_⟩, fun h => absurd h (by decide)⟩) (fun h => by omega)⟩
      rintro w hw
      rw [f1.1 305 (by omega), hold] at hw
      exact ⟨fun h => absurd (hw.trans heq.symm) h, fun _ => hsame f1⟩
  · refine noReg_ok ha ⟨fun _ => spec_X10_noPlace H hA hV (fun c' σ1 _ _ k1 k2 => by omega) (fun σ1 h k1 => ⟨fun _ => hsame (FrR.ofT k1), fun h => absurd h (by decide)⟩), fun h => absurd rfl h⟩
