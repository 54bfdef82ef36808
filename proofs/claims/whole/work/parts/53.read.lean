/-! kind, power, seen, unit, trace -/
theorem KS_R {σ σ' : SG} (h : FrL σ σ' KS) : FrR σ σ' := FrR.ofL h (by decide)
theorem Val_ne {R : Type} [Lean.Grind.CommRing R] {p : Nat} {co : R → Nat → Int} {mk : (Nat → Int) → R} (H : PD p co mk) {f : R} {g : Nat → R} {L : List R} (hV : Val p co mk f g L) : f ≠ 0 := mon_ne H hV.1
theorem noReg_ok {σ : SG} {a : Nat} {Q : Int → SG → Prop} (ha : a < 6) (h : Q 0 σ) : wp_X10_noRegister σ a Q := spec_X10_noRegister (fun _ _ => h) (fun h => by omega)
theorem noReg_no {σ : SG} {a : Int} {Q : Int → SG → Prop} (ha : ¬ (0 ≤ a ∧ a < 6)) (h : Q 1 σ) : wp_X10_noRegister σ a Q := spec_X10_noRegister (fun x y => absurd ⟨x, y⟩ ha) (fun _ => h)
theorem noBr_ok {R : Type} {co : R → Nat → Int} {σ : SG} {L : List R} {a : Nat} {Q : Int → SG → Prop} (hB : Bl co σ L) (ha : a < L.length) (h : Q 0 σ) : wp_X10_noBranch σ a Q := spec_X10_noBranch hB.1 hB.2.1 (fun _ _ _ => h) (fun h => by omega)
theorem noBr_no {R : Type} {co : R → Nat → Int} {σ : SG} {L : List R} {a : Int} {Q : Int → SG → Prop} (hB : Bl co σ L) (ha : ¬ (0 ≤ a ∧ a < L.length)) (h : Q 1 σ) : wp_X10_noBranch σ a Q := spec_X10_noBranch hB.1 hB.2.1 (fun k e l => absurd ⟨by omega, by omega⟩ ha) (fun _ => h)
theorem gop_kind {R : Type} [Lean.Grind.CommRing R] {p : Nat} {co : R → Nat → Int} {mk : (Nat → Int) → R} (H : PD p co mk) {σ : SG} {f : R} {g : Nat → R} {L : List R} {a b : Int} {Q : Int → Int → SG → Prop} (hS : Scn co σ 1 p f g L) (hA : Awn co (σ 305) p f g L) (hV : Val p co mk f g L) (hQ : ∀ r σ2, FrR σ σ2 → Q r r σ2) : wp_X9_kind σ a b (fun r σ1 => wp_X10_kind σ1 a b (fun r2 σ2 => Q r r2 σ2)) := by
  unfold wp_X9_kind wp_X10_kind
  have hd := hV.2.1
  have hB := Bl_of H hA hV
  have hb := hS.2.2.2
  refine spec_X9_isRegister (fun a0 a6 => ⟨fun h => absurd h (by decide), fun _ => ?_⟩) (fun h => ⟨fun _ => noReg_no h ⟨fun _ => hQ _ _ (FrR.rf σ), fun h => absurd h (by decide)⟩, fun h => absurd rfl h⟩)
  obtain ⟨a, rfl⟩ := Int.eq_ofNat_of_zero_le a0
  have ha : a < 6 := by omega
  refine spec_X9_isBranch hb.2.2.1 (fun c hc hcl => ⟨fun _ => ?_, fun h => absurd h (by decide)⟩) (fun h => ⟨fun h => absurd rfl h, fun _ => noReg_ok ha ⟨fun h => absurd rfl h, fun _ => noBr_no hB h ⟨fun h => absurd h (by decide), fun _ => hQ _ _ (FrR.rf σ)⟩⟩⟩)
  subst hc
  have hg : L[c]? = some L[c] := List.getElem?_eq_getElem hcl
  obtain ⟨_, c6, c1, c2⟩ := Sb_get hb hg
  have hm := GL_mem H hV.2.2.2.2.1 (List.mem_of_getElem? hg)
  generalize L[c] = x at hg c2 hm
  have hr := hS.2.2.1 a ha
  rw [Int.toNat_natCast, Int.toNat_natCast]
  refine ⟨by omega, c1, by omega, spec_X0_kindIn H hS.1 c2 hr (fun e => KS_b _ e (brs_mem.mpr c1)) (by omega) (mon_ne H hm.1) (fun σ1 h1 => ?_)⟩
  have f1 := KS_R h1
  have A1 := Awn_R hA f1
  refine noReg_ok ha ⟨fun h => absurd rfl h, fun _ => noBr_ok (Bl_of H A1 hV) hcl ⟨fun _ => spec_X10_loadsNumber H A1 hV ha (by omega) (fun σ2 k2 r2 => spec_X10_loadsBranch H (Bl_eq (Bl_of H A1 hV) k2.p) hg (by omega) (fun σ3 k3 r3 => ?_)), fun h => absurd rfl h⟩⟩
  refine spec_X10_kindIn H (by rw [k3.p, k2.p]; exact A1.1) r3 (Rr_ft r2 k3 (by decide)) (by decide) (mon_ne H hm.1) (fun σ4 k4 => hQ _ _ (f1.tr ((FrR.ofT k2).tr ((FrR.ofT k3).tr (FrR.ofT k4)))))
theorem gop_power {R : Type} [Lean.Grind.CommRing R] {p : Nat} {co : R → Nat → Int} {mk : (Nat → Int) → R} (H : PD p co mk) {σ : SG} {f : R} {g : Nat → R} {L : List R} {a e k : Int} {Q : Int → Int → SG → Prop} (hS : Scn co σ 1 p f g L) (hA : Awn co (σ 305) p f g L) (hV : Val p co mk f g L) (hQ : ∀ r σ2, FrR σ σ2 → Q r r σ2) : wp_X9_power σ a e k (fun r σ1 => wp_X10_power σ1 a e k (fun r2 σ2 => Q r r2 σ2)) := by
  unfold wp_X9_power wp_X10_power
  have hd := hV.2.1
  have hf0 := Val_ne H hV
  refine spec_X9_isRegister (fun a0 a6 => ⟨fun _ => ?_, fun h => absurd h (by decide)⟩) (fun h => ⟨fun h => absurd rfl h, fun _ => noReg_no h ⟨fun h => absurd h (by decide), fun _ => hQ _ _ (FrR.rf σ)⟩⟩)
  obtain ⟨a, rfl⟩ := Int.eq_ofNat_of_zero_le a0
  have ha : a < 6 := by omega
  have hbad : ¬ (0 ≤ e ∧ e ≤ 1000000) → wp_X10_noRegister σ (a : Int) (fun z2 σ1 => (z2 = 0 → wp_X10_in σ1 e 0 1000000 (fun z4 σ3 => (z4 = 0 → Q (-2) (-2) σ3) ∧ (¬ z4 = 0 → wp_X10_noPlace σ3 k (fun z6 σ5 => (z6 = 0 → wp_X10_loadsNumber σ5 a 2 (fun σ7 => wp_X10_raises σ7 2 e 0 2 (fun σ8 => wp_X10_of σ8 2 k (fun z10 σ9 => Q (-2) z10 σ9)))) ∧ (¬ z6 = 0 → Q (-2) (-2) σ5))))) ∧ (¬ z2 = 0 → Q (-2) (-1) σ1)) := fun h => noReg_ok ha ⟨fun _ => spec_X10_in (fun x y => absurd ⟨x, y⟩ h) (fun _ => ⟨fun _ => hQ _ _ (FrR.rf σ), fun h => absurd rfl h⟩), fun h => absurd rfl h⟩
  refine ⟨fun h => hbad (by omega), fun e0 => ⟨fun h => hbad (by omega), fun e1 => ?_⟩⟩
  obtain ⟨e, rfl⟩ := Int.eq_ofNat_of_zero_le (show 0 ≤ e by omega)
  have hda := hV.2.2.2.1 a ha
  have hr := hS.2.2.1 a ha
  refine spec_X9_isPlace hS.2.1.2.2.2 (by omega) (fun c hc hc2 => ⟨fun _ => ⟨by omega, ?_⟩, fun h => absurd h (by decide)⟩) (fun h => ⟨fun h => absurd rfl h, fun _ => noReg_ok ha ⟨fun _ => spec_X10_in (fun x y => ⟨fun h => absurd h (by decide), fun _ => ?_⟩) (fun h => by omega), fun h => absurd rfl h⟩⟩)
  · subst hc
    rw [Int.toNat_natCast]
    refine spec_X6_raise H (Md_of H hS hV) kt302 hr hda (by omega) (by decide) (by decide) (by decide) (by decide) (fun σ1 h1 r1 => spec_X4_at H r1 (fun z hz => ?_))
    rw [if_neg (by omega), Int.toNat_natCast] at hz
    have f1 := FrR.ofL h1 (by decide)
    have A1 := Awn_R hA f1
    refine noReg_ok ha ⟨fun _ => spec_X10_in (fun x y => ⟨fun h => absurd h (by decide), fun _ => ?_⟩) (fun h => by omega), fun h => absurd rfl h⟩
    refine spec_X10_noPlace H A1 hV (fun c' σ2 _ _ k2 m2 => ⟨fun _ => ?_, fun h => absurd rfl h⟩) (fun σ2 h => by omega)
    refine spec_X10_loadsNumber H (Awn_R A1 (FrR.ofT k2)) hV ha (by omega) (fun σ3 k3 m3 => ?_)
    refine spec_X10_raises H (by rw [k3.p, k2.p]; exact A1.1) m3 (Rr_ft m2 k3 (by decide)) (by omega) (by decide) hf0 (by omega) (by omega) (fun σ4 k4 m4 => ?_)
    refine spec_X10_of H m4 (by omega) ?_
    rw [Int.toNat_natCast, hz]
    exact hQ _ _ (f1.tr ((FrR.ofT k2).tr ((FrR.ofT k3).tr (FrR.ofT k4))))
  · exact spec_X10_noPlace H hA hV (fun c' σ1 _ _ k1 k2 => by omega) (fun σ1 h k1 => ⟨fun h => absurd h (by decide), fun _ => hQ _ _ (FrR.ofT k1)⟩)
theorem gop_seen {R : Type} [Lean.Grind.CommRing R] {p : Nat} {co : R → Nat → Int} {mk : (Nat → Int) → R} (H : PD p co mk) {σ : SG} {f : R} {g : Nat → R} {L : List R} {a b k : Int} {Q : Int → Int → SG → Prop} (hS : Scn co σ 1 p f g L) (hA : Awn co (σ 305) p f g L) (hV : Val p co mk f g L) (hQ : ∀ r σ2, FrR σ σ2 → Q r r σ2) : wp_X9_seen σ a b k (fun r σ1 => wp_X10_seen σ1 a b k (fun r2 σ2 => Q r r2 σ2)) := by
  unfold wp_X9_seen wp_X10_seen wp_X10_degreeOfBranch
  have hd := hV.2.1
  have hB := Bl_of H hA hV
  have hb := hS.2.2.2
  refine spec_X9_isRegister (fun a0 a6 => ⟨fun h => absurd h (by decide), fun _ => ?_⟩) (fun h => ⟨fun _ => noReg_no h ⟨fun _ => hQ _ _ (FrR.rf σ), fun h => absurd h (by decide)⟩, fun h => absurd rfl h⟩)
  obtain ⟨a, rfl⟩ := Int.eq_ofNat_of_zero_le a0
  have ha : a < 6 := by omega
  refine spec_X9_isBranch hb.2.2.1 (fun c hc hcl => ⟨fun _ => ?_, fun h => absurd h (by decide)⟩) (fun h => ⟨fun h => absurd rfl h, fun _ => noReg_ok ha ⟨fun h => absurd rfl h, fun _ => noBr_no hB h ⟨fun h => absurd h (by decide), fun _ => hQ _ _ (FrR.rf σ)⟩⟩⟩)
  subst hc
  have hg : L[c]? = some L[c] := List.getElem?_eq_getElem hcl
  obtain ⟨_, c6, c1, c2⟩ := Sb_get hb hg
  have hm := GL_mem H hV.2.2.2.2.1 (List.mem_of_getElem? hg)
  generalize L[c] = x at hg c2 hm
  have hr := hS.2.2.1 a ha
  have hx0 := mon_ne H hm.1
  rw [Int.toNat_natCast, Int.toNat_natCast, show σ ((σ 17 c).toNat) 1 = (dd co x : Int) - 1 from c2.2.2.2]
  have hmod : ∀ {σ1 : SG} {Q' : Int → SG → Prop}, FrR σ σ1 → (∀ σ2, FrR σ1 σ2 → Awn co (σ2 305) p f g L → Rr co σ2 1 x → Q' ((dd co x : Int) - 1) σ2) → wp_X10_noRegister σ1 a (fun z2 σ1 => (¬ z2 = 0 → Q' (-1) σ1) ∧ (z2 = 0 → wp_X10_noBranch σ1 c (fun z4 σ3 => (z4 = 0 → wp_X10_loadsBranch σ3 c 1 (fun σ5 => wp_X10_degree σ5 1 (fun z6 σ6 => Q' z6 σ6))) ∧ (¬ z4 = 0 → Q' (-1) σ3)))) := fun f1 hq => noReg_ok ha ⟨fun h => absurd rfl h, fun _ => noBr_ok (Bl_of H (Awn_R hA f1) hV) hcl ⟨fun _ => spec_X10_loadsBranch H (Bl_of H (Awn_R hA f1) hV) hg (by omega) (fun σ5 k5 m5 => spec_X10_degree H m5 (hq σ5 (FrR.ofT k5) (Awn_R (Awn_R hA f1) (FrR.ofT k5)) m5)), fun h => absurd rfl h⟩⟩
  refine ⟨by omega, c1, fun h => ?_, fun k0 => ⟨fun k1 => ⟨by omega, ?_⟩, fun h => ?_⟩⟩
  · exact noReg_ok ha ⟨fun h => absurd rfl h, fun _ => noBr_ok hB hcl ⟨fun _ => spec_X10_loadsBranch H hB hg (by omega) (fun σ5 k5 m5 => spec_X10_degree H m5 ⟨by omega, spec_X10_in (fun h2 _ => by omega) (fun _ => ⟨fun h => absurd rfl h, fun _ => hQ _ _ (FrR.ofT k5)⟩)⟩), fun h => absurd rfl h⟩⟩
  · obtain ⟨k, rfl⟩ := Int.eq_ofNat_of_zero_le (show 0 ≤ k by omega)
    refine spec_X4_copy H kt302 hr (fun σ1 h1 r1 => ?_)
    have c3 := Rp_fr1 c2 kt302 (fun e => brs_nin (T := [302, 36]) (by decide) c1 (by show (σ (1 + 16) c).toNat ∈ _; rw [e]; decide)) h1
    have hP : ∀ t ∈ [302], KT.getD t 99 = 4 := by decide +kernel
    refine spec_X2_reduce H (by rw [(FrL.of1 h1).p hP]; exact hS.1) r1 c3 (fun e => brs_nin (T := [302, 36]) (by decide) c1 (by show (σ (1 + 16) c).toNat ∈ _; rw [← e]; decide)) (fun e => brs_nin (T := [302, 36]) (by decide) c1 (by show (σ (1 + 16) c).toNat ∈ _; rw [e]; decide)) (by decide) hx0 (fun σ2 h2 r2 => spec_X4_at H r2 (fun z hz => ?_))
    rw [if_neg (by omega), Int.toNat_natCast] at hz
    have f2 : FrR σ σ2 := (FrR.ofL (FrL.of1 h1) (by decide)).tr (FrR.ofL h2 (by decide))
    have A2 := Awn_R hA f2
    refine noReg_ok ha ⟨fun h => absurd rfl h, fun _ => noBr_ok (Bl_of H A2 hV) hcl ⟨fun _ => spec_X10_loadsBranch H (Bl_of H A2 hV) hg (by omega) (fun σ5 k5 m5 => spec_X10_degree H m5 ⟨by omega, spec_X10_in (fun _ _ => ⟨fun _ => ?_, fun h => absurd h (by decide)⟩) (fun h => by omega)⟩), fun h => absurd rfl h⟩⟩
    refine spec_X10_loadsNumber H (Awn_R A2 (FrR.ofT k5)) hV ha (by omega) (fun σ6 k6 m6 => ?_)
    refine spec_X10_divides H (by rw [k6.p, k5.p]; exact A2.1) m6 (Rr_ft m5 k6 (by decide)) (by decide) (by decide) (by decide) (by decide) hx0 (fun σ7 k7 m7 _ => ?_)
    refine spec_X10_of H m7 (by omega) ?_
    rw [Int.toNat_natCast, hz]
    exact hQ _ _ (f2.tr ((FrR.ofT k5).tr ((FrR.ofT k6).tr (FrR.ofT k7))))
  · exact noReg_ok ha ⟨fun h => absurd rfl h, fun _ => noBr_ok hB hcl ⟨fun _ => spec_X10_loadsBranch H hB hg (by omega) (fun σ5 k5 m5 => spec_X10_degree H m5 ⟨by omega, spec_X10_in (fun _ _ => by omega) (fun _ => ⟨fun h => absurd rfl h, fun _ => hQ _ _ (FrR.ofT k5)⟩)⟩), fun h => absurd rfl h⟩⟩
theorem Ue_uniq {R : Type} [Lean.Grind.CommRing R] {p : Nat} {co : R → Nat → Int} {mk : (Nat → Int) → R} (H : PD p co mk) {f g d e : R} (hf : mon co f) (hs : SF p co mk f) (hg : mon co g) (hgf : Dv g f) (h1 : Ue co f g d) (h2 : Ue co f g e) : d = e := by
  obtain ⟨s1, s2⟩ := dv_split H hf hg hgf
  have hc : Cp g (qu co f g) := SF_cp H (by rw [← s2]; exact hs)
  have h3 : Dv g (d - e) := by
    have := Dv_sub h1.2.1 h2.2.1
    rw [show d - 1 - (e - 1) = d - e by grind] at this
    exact this
  have h4 := Cp_mul_dv hc h3 (Dv_sub h1.2.2 h2.2.2)
  rw [← s2] at h4
  have hd := dd_pos H (mon_ne H hf)
  have a1 := h1.1
  have a2 := h2.1
  have h5 := Dv_small H h4 (by have := dd_sub_le H (a := d) (b := e) (n := dd co f - 1) (by omega) (by omega); omega)
  grind
theorem DS_R {σ σ' : SG} (h : FrL σ σ' (302 :: DS)) : FrR σ σ' := FrR.ofL h (by decide)
theorem gop_unit {R : Type} [Lean.Grind.CommRing R] {p : Nat} {co : R → Nat → Int} {mk : (Nat → Int) → R} (H : PD p co mk) {σ : SG} {f : R} {g : Nat → R} {L : List R} {b k : Int} {Q : Int → Int → SG → Prop} (hS : Scn co σ 1 p f g L) (hA : Awn co (σ 305) p f g L) (hV : Val p co mk f g L) (hQ : ∀ r σ2, FrR σ σ2 → Q r r σ2) : wp_X9_unit σ b k (fun r σ1 => wp_X10_unit σ1 b k (fun r2 σ2 => Q r r2 σ2)) := by
  unfold wp_X9_unit wp_X10_unit
  have hd := hV.2.1
  have hB := Bl_of H hA hV
  have hb := hS.2.2.2
  refine spec_X9_isBranch hb.2.2.1 (fun c hc hcl => ⟨fun _ => ?_, fun h => absurd h (by decide)⟩) (fun h => ⟨fun h => absurd rfl h, fun _ => noBr_no hB h ⟨fun h => absurd h (by decide), fun _ => hQ _ _ (FrR.rf σ)⟩⟩)
  subst hc
  have hg : L[c]? = some L[c] := List.getElem?_eq_getElem hcl
  obtain ⟨_, c6, c1, c2⟩ := Sb_get hb hg
  have hm := GL_mem H hV.2.2.2.2.1 (List.mem_of_getElem? hg)
  generalize L[c] = x at hg c2 hm
  refine spec_X9_isPlace hS.2.1.2.2.2 (by omega) (fun c' hc hc2 => ⟨fun _ => ⟨by omega, by rw [Int.toNat_natCast]; exact c1, ?_⟩, fun h => absurd h (by decide)⟩) (fun h => ⟨fun h => absurd rfl h, fun _ => noBr_ok hB hcl ⟨fun _ => ?_, fun h => absurd rfl h⟩⟩)
  · subst hc
    rw [Int.toNat_natCast]
    refine spec_X6_unitOf H (Md_of H hS hV) hV.2.2.1 kt302 c2 hm.1 hm.2.2.1 hm.2.1 (brs_nin (T := RS) (by decide) c1) (by decide) (by decide) (fun σ1 e h1 hu r1 => spec_X4_at H r1 (fun z hz => ?_))
    rw [if_neg (by omega), Int.toNat_natCast] at hz
    have f1 := DS_R h1
    have A1 := Awn_R hA f1
    refine noBr_ok (Bl_of H A1 hV) hcl ⟨fun _ => ?_, fun h => absurd rfl h⟩
    refine spec_X10_noPlace H A1 hV (fun c'' σ2 _ _ k2 m2 => ⟨fun _ => ?_, fun h => absurd rfl h⟩) (fun σ2 h => by omega)
    have A2 := Awn_R A1 (FrR.ofT k2)
    refine spec_X10_loadsBranch H (Bl_of H A2 hV) hg (by omega) (fun σ3 k3 m3 => ?_)
    refine spec_X10_unitOf H (by rw [k3.p]; exact A2.1) (Rr_ft m2 k3 (by decide)) m3 hV.1 hd.2 hV.2.2.1 hm.1 hm.2.2.1 hm.2.1 (by omega) (by decide) (by decide) (fun σ4 e2 k4 hu2 m4 => ?_)
    refine spec_X10_of H m4 (by omega) ?_
    rw [Int.toNat_natCast, hz, Ue_uniq H hV.1 hV.2.2.1 hm.1 hm.2.2.1 hu hu2]
    exact hQ _ _ (f1.tr ((FrR.ofT k2).tr ((FrR.ofT k3).tr (FrR.ofT k4))))
  · exact spec_X10_noPlace H hA hV (fun c' σ1 _ _ k1 k2 => by omega) (fun σ1 h k1 => ⟨fun h => absurd h (by decide), fun _ => hQ _ _ (FrR.ofT k1)⟩)
theorem RS_R {σ σ' : SG} (h : FrL σ σ' RS) : FrR σ σ' := FrR.ofL h (by decide)
theorem spec_X10_xrow {R : Type} [Lean.Grind.CommRing R] {p : Nat} {co : R → Nat → Int} {mk : (Nat → Int) → R} (H : PD p co mk) {σ : SG} {r : Int} {Q : SG → Prop} (hr : 0 ≤ r ∧ r < 60) (hQ : ∀ σ', FT σ σ' [r] → Rr co σ' r (xx p mk) → Q σ') : wp_X10_clears σ r (fun σ5 => wp_X10_puts σ5 r 1 1 (fun σ6 => Q σ6)) := by
  refine spec_X10_clears H hr (fun σ1 k1 r1 => spec_X10_puts hr (by omega) (hQ _ (k1.tr (FT.put σ1 hr.1 (by omega) 1 List.mem_cons_self)) ⟨hr, fun k hk => ?_, by rw [dd_x H]; omega⟩))
  rw [co_x H]
  by_cases e : k = 1
  · rw [if_pos e, e, show (14 * r + (1 : Nat)).toNat = (14 * r + 1).toNat by omega, ug_eq]
  · rw [if_neg e, ug_k _ _ (by omega), r1.2.1 k hk, co_zero H]
theorem gop_trace {R : Type} [Lean.Grind.CommRing R] {p : Nat} {co : R → Nat → Int} {mk : (Nat → Int) → R} (H : PD p co mk) {σ : SG} {f : R} {g : Nat → R} {L : List R} {a : Int} {Q : Int → Int → SG → Prop} (hS : Scn co σ 1 p f g L) (hA : Awn co (σ 305) p f g L) (hV : Val p co mk f g L) (hQ : ∀ r σ2, FrR σ σ2 → Q r r σ2) : wp_X9_trace σ a (fun r σ1 => wp_X10_trace σ1 a (fun r2 σ2 => Q r r2 σ2)) := by
  unfold wp_X9_trace wp_X10_trace
  have hd := hV.2.1
  have hp := pd_p H
  have hf0 := Val_ne H hV
  refine spec_X9_isRegister (fun a0 a6 => ⟨fun h => absurd h (by decide), fun _ => ⟨by omega, ?_⟩⟩) (fun h => ⟨fun _ => noReg_no h ⟨fun h => absurd h (by decide), fun _ => hQ _ _ (FrR.rf σ)⟩, fun h => absurd rfl h⟩)
  obtain ⟨a, rfl⟩ := Int.eq_ofNat_of_zero_le a0
  have ha : a < 6 := by omega
  have hr := hS.2.2.1 a ha
  have hda := hV.2.2.2.1 a ha
  rw [Int.toNat_natCast]
  refine spec_X6_traceOf H (Md_of H hS hV) hr hda (fun σ1 h1 => ?_)
  have f1 := RS_R h1
  have A1 := Awn_R hA f1
  refine noReg_ok ha ⟨fun _ => ?_, fun h => absurd rfl h⟩
  refine spec_X10_loadsModulus H A1 hV (fun σ2 k2 m2 => ?_)
  refine spec_X10_loadsNumber H (Awn_R A1 (FrR.ofT k2)) hV ha (by omega) (fun σ3 k3 m3 => ?_)
  refine spec_X10_xrow H (by omega) (fun σ4 k4 m4 => ?_)
  have f4 : FrR σ σ4 := f1.tr ((FrR.ofT k2).tr ((FrR.ofT k3).tr (FrR.ofT k4)))
  refine Lp2_m (fun x y σ' => FrR σ σ' ∧ ∃ k : Nat, x = k ∧ k ≤ dd co f - 1 ∧ y = sm (fun k => co (rm co (g a * xx p mk ^ k) f) k) k ∧ 0 ≤ y ∧ y ≤ 13 * k ∧ Rr co σ' 2 (rm co (g a * xx p mk ^ k) f) ∧ Rr co σ' 3 (xx p mk : R) ∧ Rr co σ' 0 f) (fun x _ _ => (10 - x).toNat) ⟨f4, 0, rfl, by omega, rfl, by omega, by omega, ?_, m4, Rr_ft (Rr_ft m2 k3 (by decide)) k4 (by decide)⟩ ?_
  · rw [pw_0, show g a * 1 = g a by grind, rm_small H hda]
    exact Rr_ft m3 k4 (by decide)
  rintro x y σ5 r ⟨g1, k, rfl, g2, g3, g4, g5, g6, g7, g8⟩ hrr
  have hdx := dd_x H
  have hd2 := (rm_spec H (g a * xx p mk ^ k) hf0).2
  have p5 : σ5 305 0 = p := (Awn_R hA g1).1
  refine spec_X10_degree H g8 ⟨fun h => ⟨by omega, ?_⟩, fun h => spec_X10_of H g6 (by omega) ?_⟩
  · have e : k = dd co f - 1 := by omega
    rw [p5, tmod_nn g4, g3, e]
    exact hQ _ _ g1
  · have hrg := pd_rng H (rm co (g a * xx p mk ^ k) f) k
    rw [Int.toNat_natCast]
    refine ⟨by omega, ?_⟩
    rintro v rfl
    refine spec_X10_multiplies H p5 g6 g7 (by omega) (by omega) (fun σ6 k6 m6 => ?_)
    refine spec_X10_divides H (by rw [k6.p]; exact p5) m6 (Rr_ft g8 k6 (by decide)) (by decide) (by decide) (by decide) (by decide) hf0 (fun σ7 k7 m7 _ => ⟨by omega, hrr _ _ _ ⟨g1.tr ((FrR.ofT k6).tr (FrR.ofT k7)), k + 1, rfl, by omega, ?_, by omega, by omega, ?_, ?_, ?_⟩ (by omega)⟩)
    · rw [sm, g3]
    · rw [pw_s]
      have e : rm co (g a * (xx p mk ^ k * xx p mk)) f = rm co (rm co (g a * xx p mk ^ k) f * xx p mk) f := by
        refine rm_eq H hf0 ?_
        rw [show g a * (xx p mk ^ k * xx p mk) = g a * xx p mk ^ k * xx p mk by grind]
        exact cg_mul (rm_dv H _ hf0) (cg_rf f _)
      rw [e]
      exact m7
    · exact Rr_ft (Rr_ft g7 k6 (by decide)) (FT_w (L := [2]) k7 (by decide)) (by decide)
    · exact Rr_ft (Rr_ft g8 k6 (by decide)) (FT_w (L := [2]) k7 (by decide)) (by decide)
