theorem one_iff {R : Type} [Lean.Grind.CommRing R] {p : Nat} {co : R → Nat → Int} {mk : (Nat → Int) → R} (H : PD p co mk) {u : R} : u = 1 ↔ dd co u = 1 ∧ co u 0 = 1 := by
  constructor
  · rintro rfl
    exact ⟨dd_one H, by rw [co_one H, if_pos rfl]⟩
  · rintro ⟨h1, h2⟩
    refine pd_ext H (fun k => ?_)
    rw [co_one H]
    by_cases q : k = 0
    · rw [if_pos q, q, h2]
    · rw [if_neg q, dd_out H u (by omega)]
theorem spec_X10_isOne {R : Type} [Lean.Grind.CommRing R] {p : Nat} {co : R → Nat → Int} {mk : (Nat → Int) → R} (H : PD p co mk) {σ : SG} {a f : R} {N : Nat} {Q : Int → SG → Prop} (hσ : σ 305 0 = p) (h2 : Rr co σ 2 a) (h0 : Rr co σ 0 f) (hf : 2 ≤ dd co f ∧ dd co f ≤ 7) (hN : N < 2147483648) (hQ : ∀ z σ', FT σ σ' [5, 14, 15] → (z = 0 ∧ ¬ Dv f (a ^ N - 1) ∨ z = 1 ∧ Dv f (a ^ N - 1)) → Q z σ') : wp_X10_isOne σ N Q := by
  unfold wp_X10_isOne
  have hf0 := dd_ne0 H (a := f) (by omega)
  refine spec_X10_raises H hσ h2 h0 (by omega) (by decide) hf0 hf.2 hN (fun σ1 k1 m1 => ?_)
  have hi := isOne_iff H (a := a) (k := N) hf.1
  have ho := one_iff H (u := rm co (a ^ N) f)
  refine spec_X10_degree H m1 ⟨fun h => hQ _ _ k1 (Or.inl ⟨rfl, fun hd => ?_⟩), fun h => spec_X10_of H m1 (by omega) ⟨fun hc => hQ _ _ k1 (Or.inl ⟨rfl, fun hd => ?_⟩), fun hc => hQ _ _ k1 (Or.inr ⟨rfl, ?_⟩)⟩⟩
  · have := (ho.mp (hi.mpr hd)).1
    omega
  · exact hc (ho.mp (hi.mpr hd)).2
  · exact hi.mp (ho.mpr ⟨by omega, hc⟩)
theorem spec_X10_orderLoop {R : Type} [Lean.Grind.CommRing R] {p : Nat} {co : R → Nat → Int} {mk : (Nat → Int) → R} (H : PD p co mk) {σ : SG} {a f : R} {N o : Nat} {Q : Int → SG → Prop} (hσ : σ 305 0 = p) (h2 : Rr co σ 2 a) (h0 : Rr co σ 0 f) (hf : 2 ≤ dd co f ∧ dd co f ≤ 7) (hN1 : 1 ≤ N) (hN : N < 1073741824) (ho : isOrd f a o) (hoN : o ∣ N) (hQ : ∀ σ', FT σ σ' [5, 14, 15] → Q o σ') : Lp3 (fun (rec18 : Int → Int → Int → SG → Prop) (x14 : Int) (x15 : Int) (x16 : Int) (σ17 : SG) => ((x15 ≤ 1 → Q x16 σ17) ∧ (¬ x15 ≤ 1 → Lp2 (fun (rec24 : Int → Int → SG → Prop) (x21 : Int) (x22 : Int) (σ23 : SG) => (x14 ≠ 0 ∧ ((¬ (Int.tmod x21 x14) = 0 → (inR (x14 + 1) ∧ rec18 (x14 + 1) x21 x22 σ23)) ∧ ((Int.tmod x21 x14) = 0 → (x14 ≠ 0 ∧ inR (Int.tdiv x21 x14) ∧ (∀ v31 : Int, v31 = (Int.tdiv x21 x14) → (x14 ≠ 0 ∧ inR (Int.tdiv x22 x14) ∧ wp_X10_isOne σ23 (Int.tdiv x22 x14) (fun (z35 : Int) (σ34 : SG) => ((z35 = 0 → rec24 v31 x22 σ34) ∧ (¬ z35 = 0 → (x14 ≠ 0 ∧ inR (Int.tdiv x22 x14) ∧ (∀ v38 : Int, v38 = (Int.tdiv x22 x14) → rec24 v31 v38 σ34)))))))))))) x15 x16 σ17))) 2 (N : Int) (N : Int) σ := by
  refine Lp3_m (fun x y z σ' => FT σ σ' [5, 14, 15] ∧ ∃ c r e : Nat, x = c ∧ y = r ∧ z = e ∧ 2 ≤ c ∧ c ≤ N + 2 ∧ nodv c r ∧ Oway o e r ∧ e ≤ N) (fun x _ _ _ => (N + 3 - x).toNat) ⟨FT.rf _ _, 2, N, N, rfl, rfl, rfl, by omega, by omega, fun d d1 d2 => by omega, Oway_0 hoN hN1, Nat.le_refl _⟩ ?_
  rintro x y z σ1 rr ⟨f1, c, r, e, rfl, rfl, rfl, c2, cN, hnd, hw, heN⟩ hr
  have hrp := (Oway_pos hw).1
  have hre := Oway_le hw
  refine ⟨fun h => ?_, fun h1 => ?_⟩
  · have h1 : r = 1 := by omega
    subst h1
    rw [Oway_end hw]
    exact hQ σ1 f1
  · have hcr : c ≤ r := by
      rcases Nat.lt_or_ge r c with q | q
      · have := restis1 hnd hrp q
        omega
      · exact q
    refine Lp2_m (fun y z σ' => FT σ σ' [5, 14, 15] ∧ ∃ r' e' : Nat, y = r' ∧ z = e' ∧ r' ∣ r ∧ Oway o e' r' ∧ e' ≤ N) (fun y _ _ => y.toNat) ⟨f1, r, e, rfl, rfl, Nat.dvd_refl _, hw, heN⟩ ?_
    rintro y z σ2 rr2 ⟨f2, r', e', rfl, rfl, hrr, hw2, he2⟩ hr2
    have hrp2 := (Oway_pos hw2).1
    rw [tmodN]
    refine ⟨by omega, fun h4 => ?_, fun h4 => ?_⟩
    · exact ⟨by omega, hr _ _ _ _ ⟨f2, c + 1, r', e', by omega, rfl, rfl, by omega, by omega, nodv_s (nodv_dvd hnd hrr) (fun hd => h4 (by rw [Nat.mod_eq_zero_of_dvd hd]; rfl)), hw2, he2⟩ (by omega)⟩
    · have hd : c ∣ r' := Nat.dvd_of_mod_eq_zero (by omega)
      have hqp := prm_of hnd c2 (Nat.dvd_trans hd hrr)
      obtain ⟨s, rfl⟩ := hd
      rw [tdivN, Nat.mul_div_cancel_left _ (show 0 < c by omega)]
      have hsle : s ≤ c * s := Nat.le_mul_of_pos_left _ (by omega)
      have hle2 := Oway_le hw2
      refine ⟨by omega, by omega, ?_⟩
      rintro v rfl
      rw [tdivN]
      have hde : e' / c ≤ e' := Nat.div_le_self _ _
      refine ⟨by omega, inRN (by omega), ?_⟩
      have hsr : s ∣ r := Nat.dvd_trans ⟨c, Nat.mul_comm c s⟩ hrr
      have hs1 : 1 ≤ s := by
        rcases Nat.eq_zero_or_pos s with z | z
        · subst z; rw [Nat.mul_zero] at hrp2; omega
        · exact z
      have hslt : s < c * s := by
        have : 2 * s ≤ c * s := Nat.mul_le_mul_right s c2
        omega
      refine spec_X10_isOne H (by rw [f2.p]; exact hσ) (Rr_ft h2 f2 (by decide)) (Rr_ft h0 f2 (by decide)) hf (by omega) (fun w σ3 k3 hw3 => ?_)
      have f3 := f2.tr k3
      rcases hw3 with ⟨rfl, hw3⟩ | ⟨rfl, hw3⟩
      · rw [ho.2] at hw3
        exact ⟨fun _ => hr2 _ _ _ ⟨f3, s, e', rfl, rfl, hsr, Oway_n hw2 hqp hw3, he2⟩ (by omega), fun h => absurd rfl h⟩
      · rw [ho.2] at hw3
        refine ⟨fun h => absurd h (by decide), fun _ => ⟨by omega, inRN (by omega), ?_⟩⟩
        rintro v rfl
        exact hr2 _ _ _ ⟨f3, s, e' / c, rfl, rfl, hsr, Oway_y hw2 (by omega) hw3, by omega⟩ (by omega)
theorem kd_one_iff {R : Type} [Lean.Grind.CommRing R] {p : Nat} {co : R → Nat → Int} {mk : (Nat → Int) → R} (H : PD p co mk) {f a : R} (hf : 2 ≤ dd co f) : kd co a f = 1 ↔ Cp f a := by
  have hf0 := dd_ne0 H (a := f) (by omega)
  refine ⟨kd1_cp H hf0, fun h => ?_⟩
  have h1 := (gc_dd1 H (Or.inl hf0)).mpr h
  unfold kd
  rw [if_neg (by omega), if_pos h1]
theorem gop_order {R : Type} [Lean.Grind.CommRing R] {p : Nat} {co : R → Nat → Int} {mk : (Nat → Int) → R} (H : PD p co mk) {σ : SG} {f : R} {g : Nat → R} {L : List R} {a : Int} {Q : Int → Int → SG → Prop} (hS : Scn co σ 1 p f g L) (hA : Awn co (σ 305) p f g L) (hV : Val p co mk f g L) (hQ : ∀ r σ2, FrR σ σ2 → Q r r σ2) : wp_X9_order σ a (fun r σ1 => wp_X10_order σ1 a (fun r2 σ2 => Q r r2 σ2)) := by
  unfold wp_X9_order
  have hd := hV.2.1
  have hp := pd_p H
  have hf := hV.1
  have hf0 := Val_ne H hV
  have hs := hV.2.2.1
  have hno : ¬ (0 ≤ a ∧ a < 6) → wp_X10_order σ a (fun r2 σ2 => Q (-1) r2 σ2) := fun h => by
    unfold wp_X10_order
    exact noReg_no h ⟨fun h => absurd h (by decide), fun _ => hQ _ _ (FrR.rf σ)⟩
  refine spec_X9_isRegister (fun a0 a6 => ⟨fun _ => ⟨by omega, ?_⟩, fun h => absurd h (by decide)⟩) (fun h1 => ⟨fun h => absurd rfl h, fun _ => hno h1⟩)
  obtain ⟨a, rfl⟩ := Int.eq_ofNat_of_zero_le a0
  have ha : a < 6 := by omega
  have hda := hV.2.2.2.1 a ha
  have hsa := reg_st ha
  rw [Int.toNat_natCast]
  -- the reference
  have hmod : ∀ (σ3 : SG) (K : Int → SG → Prop), Awn co (σ3 305) p f g L → (∀ o σ', FrR σ3 σ' → isOrd f (g a) o → K o σ') → (¬ Cp f (g a) → ∀ σ', FrR σ3 σ' → K (-5) σ') → wp_X10_order σ3 a K := by
    intro σ3 K A3 hK hK5
    unfold wp_X10_order
    refine noReg_ok ha ⟨fun _ => ?_, fun h => absurd rfl h⟩
    refine spec_X10_countsFactors H A3 hV (fun σ4 f4 hc r0 => ?_)
    refine Lp3_m (fun x y z σ' => ∃ k : Nat, x = (k : Int) + 1 ∧ k ≤ 6 ∧ σ' = σ4 ∧ y = ((p ^ k : Nat) : Int) ∧ z = ((exN p co mk f k : Nat) : Int)) (fun x _ _ _ => (8 - x).toNat) ⟨0, rfl, by omega, rfl, rfl, rfl⟩ ?_
    rintro x y z σ5 r ⟨k, rfl, k6, rfl, rfl, rfl⟩ hr
    have A5 := Awn_R A3 f4
    have hb2 := exN_bd H hf hd.2 k
    have hb3 := exN_pos H (f := f) k
    refine ⟨fun h => ?_, fun h => ?_⟩
    · have hk : k = 6 := by omega
      subst hk
      refine spec_X10_loadsNumber H A5 hV ha (by omega) (fun σ6 k6 m6 => ?_)
      have z6 := Rr_ft r0 k6 (by decide)
      refine spec_X10_isOne H (by rw [k6.p]; exact A5.1) m6 z6 hd (by omega) (fun w σ7 k7 hw => ?_)
      have f7 : FrR σ3 σ7 := f4.tr ((FrR.ofT k6).tr (FrR.ofT k7))
      rcases hw with ⟨rfl, hw⟩ | ⟨rfl, hw⟩
      · exact ⟨fun h => absurd rfl h, fun _ => hK5 (fun hc => hw ((exN_one H hf hd.2 hs).mpr hc)) σ7 f7⟩
      · refine ⟨fun _ => ?_, fun h => absurd h (by decide)⟩
        obtain ⟨o, ho⟩ := ord_ex hb3 hw
        exact spec_X10_orderLoop H (by rw [k7.p, k6.p]; exact A5.1) (Rr_ft m6 k7 (by decide)) (Rr_ft z6 k7 (by decide)) hd hb3 (by omega) ho ((ho.2 _).mp hw) (fun σ8 k8 => hK o σ8 (f7.tr (FrR.ofT k8)) ho)
    · have hk5 : k < 6 := by omega
      have e1 : ((p ^ k : Nat) : Int) * (p : Int) = ((p ^ (k + 1) : Nat) : Int) := by rw [Nat.pow_succ, Int.natCast_mul]
      have hb1 := pw_bd6 hp.2 (show k + 1 ≤ 6 by omega)
      have hb4 := pw_pos hp.1 k
      rw [A5.1, e1]
      refine ⟨inRN (by omega), ?_⟩
      rintro v rfl
      rw [show ((k : Int) + 1).toNat = k + 1 by omega, hc (k + 1) (by omega) (by omega)]
      refine ⟨by omega, fun hc0 => ⟨by omega, hr _ _ _ _ ⟨k + 1, by omega, by omega, rfl, rfl, by rw [exN, if_pos hc0]⟩ (by omega)⟩, fun hc0 => ?_⟩
      have e2 : ((p ^ (k + 1) : Nat) : Int) - 1 = ((p ^ (k + 1) - 1 : Nat) : Int) := by omega
      rw [e2]
      have hl := lm_bd H hf hd.2 hc0
      have hdl : exN p co mk f k / Nat.gcd (exN p co mk f k) (p ^ (k + 1) - 1) ≤ exN p co mk f k := Nat.div_le_self _ _
      have hg := Nat.gcd_pos_of_pos_left (p ^ (k + 1) - 1) hb3
      refine ⟨inRN (by omega), spec_X10_divisor hb3 ⟨by omega, ?_⟩⟩
      rw [tdivN]
      refine ⟨inRN (by omega), inRN (by omega), ?_⟩
      have e3 : (((exN p co mk f k / Nat.gcd (exN p co mk f k) (p ^ (k + 1) - 1) : Nat) : Int) * ((p ^ (k + 1) - 1 : Nat) : Int)) = ((lm (exN p co mk f k) (p ^ (k + 1) - 1) : Nat) : Int) := by unfold lm; rw [Int.natCast_mul]
      rw [e3]
      refine ⟨inRN (by omega), ?_⟩
      rintro v rfl
      exact ⟨by omega, hr _ _ _ _ ⟨k + 1, by omega, by omega, rfl, rfl, by rw [exN, if_neg hc0]⟩ (by omega)⟩
  refine spec_X0_kindIn H hS.1 hS.2.1 (hS.2.2.1 a ha) (by decide) (by omega) hf0 (fun σ1 h1 => ?_)
  have f1 := KS_R h1
  have hS1 := Scn_cgr hS (fun i a b => f1.1 i (by omega))
  have hk1 := kd_one_iff H (a := g a) hd.1
  refine ⟨fun hz => ?_, fun hz => ?_⟩
  · have hcp := hk1.mp hz
    have hone := (exN_one H hf hd.2 hs).mpr hcp
    have hb2 := exN_bd H hf hd.2 6
    have hb3 := exN_pos H (f := f) 6
    obtain ⟨o, ho⟩ := ord_ex hb3 hone
    refine spec_X1_find H (Md_of H hS1 hV) (fun σ2 h2 hD => ?_)
    have f2 := f1.tr (FD_R h2)
    have hS2 := Scn_cgr hS (fun i a b => f2.1 i (by omega))
    refine spec_X1_commonExponent H hS2.1 hf hd.2 hD ?_
    have hnt : 1 + 3 + 1 + 2 * a ∉ [59, 34, 49, 51] := fun e => by
      simp only [List.mem_cons, List.not_mem_nil, or_false] at e
      omega
    refine spec_X6_leastExponent H (Md_of H hS2 hV) (hS2.2.2.1 a ha) hda hnt hb3 (by omega) ho ((ho.2 _).mp hone) (fun σ3 h3 => ?_)
    have f3 := f2.tr (FrR.ofL h3 (by decide))
    refine hmod σ3 _ (Awn_R hA f3) (fun o' σ4 f4 ho' => ?_) (fun h => absurd hcp h)
    have eo : o' = o := Nat.dvd_antisymm ((ho'.2 o).mp ((ho.2 o).mpr (Nat.dvd_refl o))) ((ho.2 o').mp ((ho'.2 o').mpr (Nat.dvd_refl o')))
    rw [eo]
    exact hQ _ _ (f3.tr f4)
  · refine hmod σ1 _ (Awn_R hA f1) (fun o σ4 f4 ho => ?_) (fun _ σ4 f4 => hQ _ _ (f1.tr f4))
    exfalso
    apply hz
    rw [hk1]
    have h5 := (ho.2 o).mpr (Nat.dvd_refl o)
    obtain ⟨n, hn⟩ : ∃ n, o = n + 1 := ⟨o - 1, by have := ho.1; omega⟩
    rw [hn, pw_s] at h5
    obtain ⟨c, hc⟩ := h5
    exact ⟨-c, g a ^ n, by grind⟩
