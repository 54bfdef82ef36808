/-! part, join, joinAlike -/
theorem Scn_B {R : Type} [Lean.Grind.CommRing R] {p : Nat} {co : R → Nat → Int} {mk : (Nat → Int) → R} (H : PD p co mk) {σ σ' : SG} {f : R} {g : Nat → R} {L L' : List R} {T : List Nat} (hS : Scn co σ 1 p f g L) (hT : ∀ t ∈ T, KT.getD t 99 = 4) (hT2 : ∀ t ∈ T, 33 ≤ t) (h : FrB σ σ' 1 T) (hL : Sb co σ' 1 L') : Scn co σ' 1 p f g L' := by
  obtain ⟨s1, s2, s3, s4⟩ := hS
  have hq : ∀ t, t < 17 → t ∉ brs 1 ++ T := fun t ht e => by
    rcases List.mem_append.mp e with e | e
    · obtain ⟨k, hk, e2⟩ := brs_mem.mp e
      omega
    · have := hT2 t e
      omega
  exact ⟨by rw [h.2 0 (by decide)]; exact s1, Rp_frB s4.1 s2 hT (hq _ (by omega)) h, fun k hk => Rp_frB s4.1 (s3 k hk) hT (hq _ (by omega)) h, hL⟩
theorem Awn_N {R : Type} {co : R → Nat → Int} {σ σ' : SG} {p : Nat} {f : R} {g : Nat → R} {L L' : List R} {T : List Int} (hA : Awn co (σ 305) p f g L) (h : FN σ σ' T) (hL : Bl co σ' L') : Awn co (σ' 305) p f g L' := by
  obtain ⟨a1, a2, a3, a4, a5⟩ := hA
  exact ⟨by rw [h.2.1 0 (by omega)]; exact a1, fun k hk => by rw [h.2.1 _ (by omega)]; exact a2 k hk, fun r k hr hk => by rw [h.2.1 _ (by omega)]; exact a3 r k hr hk, hL.1, fun i x hx k hk => (hL.2.2 i x hx).1 k hk⟩
theorem Val_L {R : Type} [Lean.Grind.CommRing R] {p : Nat} {co : R → Nat → Int} {mk : (Nat → Int) → R} (H : PD p co mk) {f : R} {g : Nat → R} {L L' : List R} (hV : Val p co mk f g L) (hG : GL co f L') (hs : Srt co L') : Val p co mk f g L' := ⟨hV.1, hV.2.1, hV.2.2.1, hV.2.2.2.1, hG, hs⟩
theorem spec_X10_remembers {σ : SG} {Q : SG → Prop} (hQ : ∀ σ' : SG, (∀ i, i ≠ 310 → σ' i = σ i) → (∀ k, k < 87 → σ' 310 k = σ 305 k) → Q σ') : wp_X10_remembers σ Q := by
  unfold wp_X10_remembers
  refine Lp1_up 87 (fun n σ' => (∀ i, i ≠ 310 → σ' i = σ i) ∧ ∀ k, k < n → σ' 310 k = σ 305 k) ⟨fun _ _ => rfl, fun k hk => by omega⟩ ?_ ?_
  · rintro n σ1 r hn ⟨h1, h2⟩ hr
    refine ⟨fun h => by omega, fun _ => ⟨by omega, by omega, ?_⟩⟩
    rintro σ2 e2
    rw [Int.toNat_natCast, h1 305 (by decide)] at e2
    refine ⟨by omega, hr _ ⟨fun i hi => by rw [e2, ug_ne _ hi]; exact h1 i hi, fun k hk => ?_⟩⟩
    by_cases q : k = n
    · rw [q, e2, ug_eq]
    · rw [e2, ug_k _ _ q]; exact h2 k (by omega)
  · rintro σ1 r ⟨h1, h2⟩
    exact ⟨fun _ => hQ σ1 h1 h2, fun h => absurd (Int.le_refl _) h⟩
theorem spec_X10_recordsBefore {σ : SG} {s : SV} {h hc : List SV} {m : Option SV} {T : List Int} {Q : SG → Prop} (hR : Rst σ hc h m T) (hs : SM (σ 310) s) (hv : VSt s) (hQ : ∀ σ' : SG, (∀ i, i ≠ 304 → i ≠ 305 → i ≠ 306 → i ≠ 310 → σ' i = σ i) → (∀ k, k < 87 → σ' 305 k = σ 305 k) → Rst σ' hc (push h s) m T → Q σ') : wp_X10_recordsBefore σ Q := by
  unfold wp_X10_recordsBefore
  refine Lp1_up 87 (fun n σ' => (∀ i, i ≠ 305 → i ≠ 310 → σ' i = σ i) ∧ (∀ k, k < n → σ' 305 k = σ 310 k ∧ σ' 310 k = σ 305 k) ∧ ∀ k, n ≤ k → σ' 305 k = σ 305 k ∧ σ' 310 k = σ 310 k) ⟨fun _ _ _ => rfl, fun k hk => by omega, fun _ _ => ⟨rfl, rfl⟩⟩ ?_ ?_
  · rintro n σ1 r hn ⟨h1, h2, h3⟩ hr
    refine ⟨fun h => by omega, fun _ => ⟨by omega, ?_⟩⟩
    rintro v hv
    refine ⟨by omega, by omega, ?_⟩
    rintro σ2 e2
    refine ⟨by omega, ?_⟩
    rintro σ3 e3
    rw [Int.toNat_natCast] at hv e2 e3
    rw [(h3 n (Nat.le_refl _)).1] at hv
    rw [(h3 n (Nat.le_refl _)).2] at e2
    refine ⟨by omega, hr _ ⟨fun i i1 i2 => by rw [e3, ug_ne _ i2, e2, ug_ne _ i1]; exact h1 i i1 i2, fun k hk => ?_, fun k hk => ?_⟩⟩
    · by_cases q : k = n
      · rw [q]
        exact ⟨by rw [e3, ug_ne _ (by decide), e2, ug_eq], by rw [e3, ug_eq, hv]⟩
      · exact ⟨by rw [e3, ug_ne _ (by decide), e2, ug_k _ _ q]; exact (h2 k (by omega)).1, by rw [e3, ug_k _ _ q, e2, ug_ne _ (by decide)]; exact (h2 k (by omega)).2⟩
    · exact ⟨by rw [e3, ug_ne _ (by decide), e2, ug_k _ _ (by omega)]; exact (h3 k (by omega)).1, by rw [e3, ug_k _ _ (by omega), e2, ug_ne _ (by decide)]; exact (h3 k (by omega)).2⟩
  · rintro σ1 r ⟨h1, h2, h3⟩
    have f1 : FrX σ σ1 := ⟨fun i hi => h1 i (by omega) (by omega), by rw [h1 30 (by omega) (by omega)], fun k _ => by rw [h1 304 (by omega) (by omega)]⟩
    have R1 := Rst_X hR f1
    refine ⟨fun _ => ?_, fun h => absurd (Int.le_refl _) h⟩
    refine rec_m R1 (SM_cg hs (VSt_VL hv) (fun k hk => (h2 k hk).1)) hv (fun σ2 e2 R2 => ?_)
    refine Lp1_up 87 (fun n σ' => (∀ i, i ≠ 305 → σ' i = σ2 i) ∧ ∀ k, k < n → σ' 305 k = σ 305 k) ⟨fun _ _ => rfl, fun k hk => by omega⟩ ?_ ?_
    · rintro n σ3 r hn ⟨g1, g2⟩ hr
      refine ⟨fun h => by omega, fun _ => ⟨by omega, by omega, ?_⟩⟩
      rintro σ4 e4
      rw [Int.toNat_natCast, g1 310 (by decide), e2 310 (by decide) (by decide), (h2 n hn).2] at e4
      refine ⟨by omega, hr _ ⟨fun i hi => by rw [e4, ug_ne _ hi]; exact g1 i hi, fun k hk => ?_⟩⟩
      by_cases q : k = n
      · rw [q, e4, ug_eq]
      · rw [e4, ug_k _ _ q]; exact g2 k (by omega)
    · rintro σ3 r ⟨g1, g2⟩
      exact ⟨fun _ => hQ σ3 (fun i i1 i2 i3 i4 => by rw [g1 i i2, e2 i i1 i3, h1 i i2 i4]) g2 (Rst_X R2 (FrX.of305 g1)), fun h => absurd (Int.le_refl _) h⟩
theorem spec_X10_nothings {R : Type} [Lean.Grind.CommRing R] {p : Nat} {co : R → Nat → Int} {mk : (Nat → Int) → R} (H : PD p co mk) {σ : SG} {f : R} {g : Nat → R} {L : List R} {a : Nat} {Q : Int → SG → Prop} (hA : Awn co (σ 305) p f g L) (hV : Val p co mk f g L) (ha : a < 6) (hQ : ∀ σ', FT σ σ' [2, 1, 4, 11, 12, 13] → Q (cnt co (g a) 0 L) σ') : wp_X10_nothings σ a Q := by
  unfold wp_X10_nothings
  have hB := Bl_of H hA hV
  have b2 := hB.2.1
  refine spec_X10_loadsNumber H hA hV ha (by omega) (fun σ1 k1 m1 => ?_)
  refine Lp2_m (fun x z σ' => ∃ k : Nat, x = k ∧ k ≤ L.length ∧ FT σ σ' [2, 1, 4, 11, 12, 13] ∧ Rr co σ' 2 (g a) ∧ z = cnt co (g a) 0 (L.take k)) (fun x _ _ => (6 - x).toNat) ⟨0, rfl, by omega, k1.mono (by simp), m1, by simp [cnt]⟩ ?_
  rintro x z σ2 r ⟨k, rfl, hk, h1, h2, rfl⟩ hr
  have hB2 := Bl_eq hB h1.p
  rw [hB2.1]
  refine ⟨fun h => ?_, fun h => ?_⟩
  · have := hQ σ2 h1
    rw [List.take_of_length_le (by omega)]
    exact this
  · have hlt : k < L.length := by omega
    have hg : L[k]? = some L[k] := List.getElem?_eq_getElem hlt
    have hm := GL_mem H hV.2.2.2.2.1 (List.mem_of_getElem? hg)
    generalize L[k] = x at hg hm
    refine spec_X10_loadsBranch H hB2 hg (by omega) (fun σ3 k3 m3 => ?_)
    refine spec_X10_kindIn H (by rw [k3.p, h1.p]; exact hA.1) m3 (Rr_ft h2 k3 (by decide)) (by decide) (mon_ne H hm.1) (fun σ4 k4 => ?_)
    have f4 : FT σ σ4 [2, 1, 4, 11, 12, 13] := h1.tr ((k3.mono (by simp)).tr (k4.mono (by simp)))
    have m4 := Rr_ft (Rr_ft h2 k3 (by decide)) k4 (by decide)
    have hc := cnt_take (co := co) (a := g a) (c := 0) hg
    have hle : cnt co (g a) 0 (L.take k) ≤ 6 := by
      have := cnt_le (co := co) (a := g a) (c := 0) (L := L.take k)
      rw [List.length_take] at this
      omega
    refine ⟨fun h3 => ⟨by omega, ?_⟩, fun h3 => ⟨by omega, ?_⟩⟩
    · rintro v rfl
      refine ⟨by omega, hr _ _ _ ⟨k + 1, by omega, by omega, f4, m4, ?_⟩ (by omega)⟩
      rw [hc, if_neg h3]; omega
    · rintro v rfl
      refine ⟨by omega, hr _ _ _ ⟨k + 1, by omega, by omega, f4, m4, ?_⟩ (by omega)⟩
      rw [hc, if_pos h3]; omega
theorem cnt2 {R : Type} [Lean.Grind.CommRing R] {p : Nat} {co : R → Nat → Int} {mk : (Nat → Int) → R} (H : PD p co mk) {a f : R} {L : List R} (hL : GL co f L) : cnt co a 2 L = 0 ↔ ∀ g ∈ L, ¬ mixed co a g := by
  unfold cnt
  rw [List.countP_eq_zero]
  constructor
  · intro h g hg hm
    exact h g hg (by rw [(kd_mixed H (mon_ne H (hL.1 g hg).1)).mp hm]; rfl)
  · intro h g hg hm
    exact h g hg ((kd_mixed H (mon_ne H (hL.1 g hg).1)).mpr (by simpa using hm))
theorem gop_part {R : Type} [Lean.Grind.CommRing R] {p : Nat} {co : R → Nat → Int} {mk : (Nat → Int) → R} (H : PD p co mk) {sv : R → (Nat → R) → List R → SV} (E : EN p co mk sv) {σ : SG} {f : R} {g : Nat → R} {L : List R} {a : Int} {h : List SV} {m : Option SV} {T : List Int} {Q : Int → Int → SG → Prop} (hS : Scn co σ 1 p f g L) (hA : Awn co (σ 305) p f g L) (hV : Val p co mk f g L) (hR : Rst σ h h m T) (hQ : ∀ r σ2 f g L h, Scn co σ2 1 p f g L → Awn co (σ2 305) p f g L → Val p co mk f g L → Rst σ2 h h m T → Q r r σ2) : wp_X9_part σ a (fun r σ1 => wp_X10_part σ1 a (fun r2 σ2 => Q r r2 σ2)) := by
  unfold wp_X9_part wp_X10_part
  have hd := hV.2.1
  have hGL := hV.2.2.2.2.1
  have hsrt := hV.2.2.2.2.2
  refine spec_X9_isRegister (fun a0 a6 => ⟨fun _ => ⟨by omega, ?_⟩, fun h => absurd h (by decide)⟩) (fun h1 => ⟨fun h => absurd rfl h, fun _ => noReg_no h1 ⟨fun h => absurd h (by decide), fun _ => hQ _ _ f g L h hS hA hV hR⟩⟩)
  obtain ⟨a, rfl⟩ := Int.eq_ofNat_of_zero_le a0
  have ha : a < 6 := by omega
  have hr := hS.2.2.1 a ha
  have hst := reg_st ha
  have hda := hV.2.2.2.1 a ha
  have hL0 : ∀ x ∈ L, x ≠ 0 := fun x hx => mon_ne H (hGL.1 x hx).1
  rw [Int.toNat_natCast]
  have hnin : ∀ T : List Nat, (∀ t ∈ T, 33 ≤ t) → 1 + 3 + 1 + 2 * a ∉ T := fun T hT e => by have := hT _ e; omega
  refine spec_X0_countOfKind H hS.1 hS.2.2.2 hL0 hr (hnin KS (by decide)) (fun σ1 h1 => ?_)
  have f1 := KS_R h1
  have hS1 := Scn_cgr hS (fun i a b => f1.1 i (by omega))
  have A1 := Awn_R hA f1
  have R1 := Rst_X hR (FrX.ofR f1)
  have hcnt := cnt2 H (a := g a) hGL
  refine ⟨fun hne => ?_, fun heq => ?_⟩
  · refine rec_c R1 ((E.1 _ _ _ _ _).mp hS1) ((E.2.2 _ _ _).mp hV) (fun σ2 e2 R2 => ?_)
    have hS2 : Scn co σ2 1 p f g L := Scn_cgr hS1 (fun i a b => e2 i (by omega))
    refine spec_X0_partBy H hS2.1 hS2.2.2.2 hGL hd.2 (hS2.2.2.1 a ha) (nin_app hst.1 (hnin VS (by decide))) (fun σ3 L3 f3 S3 p3 s3 G3 => ?_)
    have hS3 := Scn_B H hS2 VS_P (by decide) f3 S3
    have R3 := Rst_X R2 (FrX.ofB f3 (by decide))
    refine spec_X0_countOfKind H hS3.1 S3 (fun x hx => mon_ne H (G3.1 x hx).1) (hS3.2.2.1 a ha) (hnin KS (by decide)) (fun σ4 h4 => ?_)
    have f4 := KS_R h4
    have hS4 := Scn_cgr hS3 (fun i a b => f4.1 i (by omega))
    have R4 := Rst_X R3 (FrX.ofR f4)
    have e305 : σ4 305 = σ1 305 := by
      rw [f4.1 305 (by omega), f3.1 305 (by decide) (by decide) (by decide +kernel), e2 305 (by omega)]
    have A4 : Awn co (σ4 305) p f g L := by rw [e305]; exact A1
    refine noReg_ok ha ⟨fun _ => ?_, fun h => absurd rfl h⟩
    refine spec_X10_remembers (fun σ5 e5 m5 => ?_)
    have A5 : Awn co (σ5 305) p f g L := by rw [e5 305 (by decide)]; exact A4
    have S5 : SM (σ5 310) (sv f g L) := SM_cg ((E.2.1 _ _ _ _).mp A4) (VSt_VL ((E.2.2 _ _ _).mp hV)) m5
    have f5 : FrX σ4 σ5 := ⟨fun i hi => e5 i (by omega), by rw [e5 30 (by omega)], fun k _ => by rw [e5 304 (by omega)]⟩
    refine spec_X10_loadsNumber H A5 hV ha (by omega) (fun σ6 k6 m6 => ?_)
    have B6 := Bl_of H (Awn_R A5 (FrR.ofT k6)) hV
    refine spec_X10_parts H (by rw [k6.p]; exact A5.1) B6 hGL hd.2 m6 (by decide) (fun σ7 L7 f7 B7 p7 s7 G7 => ?_)
    have eL : L7 = L3 := Srt_uniq H (p7.trans p3.symm) s7 s3
    subst eL
    have A7 := Awn_N (Awn_R A5 (FrR.ofT k6)) f7 B7
    have hlen : ¬ L7.length ≤ L.length := fun hle => hne (by
      have := (ptl_len co (g a) L)
      rw [p3.length_eq] at hle
      have h9 := hcnt.mpr (this.2.mp (by omega))
      rw [h9]; rfl)
    rw [if_neg hlen]
    refine ⟨fun _ => ?_, fun h => absurd h (by decide)⟩
    have R7 := Rst_X R4 (f5.tr ((FrX.ofR (FrR.ofT k6)).tr (FrX.ofN f7)))
    have S7 : SM (σ7 310) (sv f g L) := by rw [f7.1 310 (by decide) (by decide) (by decide), k6.1 310 (by decide) (by decide)]; exact S5
    refine spec_X10_recordsBefore R7 S7 ((E.2.2 _ _ _).mp hV) (fun σ8 e8 m8 R8 => ?_)
    have hV8 := Val_L H hV G7 s7
    have A8 : Awn co (σ8 305) p f g L7 := Awn_cg A7 B7.2.1 m8
    refine spec_X10_nothings H A8 hV8 ha (fun σ9 k9 => ?_)
    have hS9 : Scn co σ9 1 p f g L7 := Scn_cgr hS4 (fun i i1 i2 => by rw [k9.1 i (by omega) (by omega), e8 i (by omega) (by omega) (by omega) (by omega), f7.1 i (by omega) (by omega) (by omega), k6.1 i (by omega) (by omega), e5 i (by omega)])
    exact hQ _ _ _ _ _ _ hS9 (Awn_R A8 (FrR.ofT k9)) hV8 (Rst_X R8 (FrX.ofR (FrR.ofT k9)))
  · have hnm := hcnt.mp (by omega)
    refine noReg_ok ha ⟨fun _ => ?_, fun h => absurd rfl h⟩
    refine spec_X10_remembers (fun σ5 e5 m5 => ?_)
    have A5 : Awn co (σ5 305) p f g L := by rw [e5 305 (by decide)]; exact A1
    have f5 : FrX σ1 σ5 := ⟨fun i hi => e5 i (by omega), by rw [e5 30 (by omega)], fun k _ => by rw [e5 304 (by omega)]⟩
    refine spec_X10_loadsNumber H A5 hV ha (by omega) (fun σ6 k6 m6 => ?_)
    have B6 := Bl_of H (Awn_R A5 (FrR.ofT k6)) hV
    refine spec_X10_parts H (by rw [k6.p]; exact A5.1) B6 hGL hd.2 m6 (by decide) (fun σ7 L7 f7 B7 p7 s7 G7 => ?_)
    rw [ptl_none hnm] at p7
    have eL : L7 = L := Srt_uniq H p7 s7 hsrt
    subst eL
    rw [if_pos (Nat.le_refl _)]
    refine ⟨fun h => absurd rfl h, fun _ => ?_⟩
    have hS7 : Scn co σ7 1 p f g L7 := Scn_cgr hS1 (fun i i1 i2 => by rw [f7.1 i (by omega) (by omega) (by omega), k6.1 i (by omega) (by omega), e5 i (by omega)])
    exact hQ _ _ _ _ _ _ hS7 (Awn_N (Awn_R A5 (FrR.ofT k6)) f7 B7) hV (Rst_X R1 (f5.tr ((FrX.ofR (FrR.ofT k6)).tr (FrX.ofN f7))))
theorem jn1_self {A : Type} {K : A → SG → Prop} {F : (A → SG → Prop) → Prop} (h : F K) : Jn1 K F := ⟨K, fun _ _ h => h, h⟩
theorem jn0_self {K : SG → Prop} {F : (SG → Prop) → Prop} (h : F K) : Jn0 K F := ⟨K, fun _ h => h, h⟩
theorem goes_perm {α : Type} {L rest : List α} {i j c : Nat} {u v w z : α} (hc : L.length = c + 1) (hij : i < j) (hi : L[i]? = some u) (hj : L[j]? = some v) (hw : L[c]? = some w) (hr : (u :: v :: rest).Perm L) : (((L.set j w).take c).set i z).Perm (z :: rest) := by
  have h1 := pop_perm hc hj hw
  have hjl := (List.getElem?_eq_some_iff.mp hj).1
  have h2 : ((L.set j w).take c)[i]? = some u := by
    rw [List.getElem?_take, if_pos (by omega), List.getElem?_set_ne (by omega)]; exact hi
  have h3 := set_perm z h2
  have h4 : (v :: u :: ((L.set j w).take c).set i z).Perm (z :: L) := (List.Perm.cons v h3).trans ((List.Perm.swap z v _).trans (List.Perm.cons z h1))
  have h5 : (z :: L).Perm (v :: u :: z :: rest) := by
    refine (List.Perm.cons z hr.symm).trans ?_
    refine (List.Perm.swap u z _).trans ?_
    refine (List.Perm.cons u (List.Perm.swap v z _)).trans ?_
    exact List.Perm.swap v u _
  exact List.Perm.cons_inv (List.Perm.cons_inv (h4.trans h5))
theorem first_uniq {α : Type} {L : List α} {x : α} {j k : Nat} (h1 : L[j]? = some x) (h2 : ∀ m, m < j → L[m]? ≠ some x) (h3 : L[k]? = some x) (h4 : ∀ m, m < k → L[m]? ≠ some x) : j = k := by
  rcases Nat.lt_trichotomy j k with q | q | q
  · exact absurd h1 (h4 j q)
  · exact q
  · exact absurd h3 (h2 k q)
theorem gop_join {R : Type} [Lean.Grind.CommRing R] {p : Nat} {co : R → Nat → Int} {mk : (Nat → Int) → R} (H : PD p co mk) {sv : R → (Nat → R) → List R → SV} (E : EN p co mk sv) {σ : SG} {f : R} {g : Nat → R} {L : List R} {a b : Int} {h : List SV} {m : Option SV} {T : List Int} {Q : Int → Int → SG → Prop} (hS : Scn co σ 1 p f g L) (hA : Awn co (σ 305) p f g L) (hV : Val p co mk f g L) (hR : Rst σ h h m T) (hQ : ∀ r σ2 f g L h, Scn co σ2 1 p f g L → Awn co (σ2 305) p f g L → Val p co mk f g L → Rst σ2 h h m T → Q r r σ2) : wp_X9_join σ a b (fun r σ1 => wp_X10_join σ1 a b (fun r2 σ2 => Q r r2 σ2)) := by
  unfold wp_X9_join wp_X10_join
  have hd := hV.2.1
  have hGL := hV.2.2.2.2.1
  have hB := Bl_of H hA hV
  have b2 := hB.2.1
  have hb := hS.2.2.2
  refine spec_X9_isBranch hb.2.2.1 (fun i hi hil => ⟨fun h => absurd h (by decide), fun _ => ?_⟩) (fun h1 => ⟨fun _ => noBr_no hB h1 ⟨fun _ => hQ _ _ f g L h hS hA hV hR, fun h => absurd h (by decide)⟩, fun h => absurd rfl h⟩)
  subst hi
  refine spec_X9_isBranch hb.2.2.1 (fun j hj hjl => ⟨fun _ => ?_, fun h => absurd h (by decide)⟩) (fun h1 => ⟨fun h => absurd rfl h, fun _ => noBr_ok hB hil ⟨fun h => absurd rfl h, fun _ => noBr_no hB h1 ⟨fun h => absurd h (by decide), fun _ => hQ _ _ f g L h hS hA hV hR⟩⟩⟩)
  subst hj
  refine ⟨fun hij => ?_, fun heq => noBr_ok hB hil ⟨fun h => absurd rfl h, fun _ => noBr_ok hB hjl ⟨fun _ => ⟨fun h => absurd heq h, fun _ => hQ _ _ f g L h hS hA hV hR⟩, fun h => absurd rfl h⟩⟩⟩
  have hij2 : i ≠ j := fun e => hij (by rw [e])
  refine rec_c hR ((E.1 _ _ _ _ _).mp hS) ((E.2.2 _ _ _).mp hV) (fun σ1 e1 R1 => ?_)
  have hS1 : Scn co σ1 1 p f g L := Scn_cgr hS (fun i a b => e1 i (by omega))
  have hgi : L[i]? = some L[i] := List.getElem?_eq_getElem hil
  have hgj : L[j]? = some L[j] := List.getElem?_eq_getElem hjl
  generalize L[i] = x at hgi
  generalize L[j] = y at hgj
  have hx := GL_mem H hGL (List.mem_of_getElem? hgi)
  have hy := GL_mem H hGL (List.mem_of_getElem? hgj)
  refine spec_X0_joinTwo H hS1.1 hS1.2.2.2 hGL hd.2 hgi hgj hij2 (fun σ2 L2 rest f2 S2 p2 q2 s2 G2 k hk hk2 => ?_)
  have hS2 := Scn_B H hS1 TS_P (by decide) f2 S2
  have R2 := Rst_X R1 (FrX.ofB f2 (by decide))
  have e305 : σ2 305 = σ 305 := by rw [f2.1 305 (by decide) (by decide) (by decide +kernel), e1 305 (by omega)]
  have A2 : Awn co (σ2 305) p f g L := by rw [e305]; exact hA
  have B2 := Bl_of H A2 hV
  refine noBr_ok B2 hil ⟨fun h => absurd rfl h, fun _ => noBr_ok B2 hjl ⟨fun _ => ⟨fun _ => ?_, fun h => absurd h hij⟩, fun h => absurd rfl h⟩⟩
  refine rec_m R2 ((E.2.1 _ _ _ _).mp A2) ((E.2.2 _ _ _).mp hV) (fun σ3 e3 R3 => ?_)
  have B3 : Bl co σ3 L := Bl_eq B2 (e3 305 (by decide) (by decide))
  have p3 : σ3 305 0 = p := by rw [e3 305 (by decide) (by decide)]; exact A2.1
  refine spec_X10_loadsBranch H B3 hgi (by omega) (fun σ4 k4 m4 => spec_X10_loadsBranch H (Bl_eq B3 k4.p) hgj (by omega) (fun σ5 k5 m5 => ?_))
  refine spec_X10_multiplies H (by rw [k5.p, k4.p]; exact p3) (Rr_ft m4 k5 (by decide)) m5 (by omega) (by omega) (fun σ6 k6 m6 => ?_)
  have B6 : Bl co σ6 L := Bl_eq B3 (by rw [k6.p, k5.p, k4.p])
  obtain ⟨c, hc⟩ : ∃ c, L.length = c + 1 := ⟨L.length - 1, by omega⟩
  have hgw : L[c]? = some L[c] := List.getElem?_eq_getElem (by omega)
  generalize L[c] = w at hgw
  have hxy0 := dd_mul H (mon_ne H hx.1) (mon_ne H hy.1)
  have hdxy : dd co (x * y) ≤ 7 := by
    have := GL_mem H G2 (List.mem_of_getElem? hk)
    omega
  have hfin : ∀ (lo hi : Nat) (u v : R), lo < hi → hi < L.length → L[lo]? = some u → L[hi]? = some v → (u :: v :: rest).Perm L → lo = (if i ≤ j then i else j) → wp_X10_goes σ6 hi (fun σ12 => Jn1 (fun (x13 : Int) σ14 => wp_X10_lays σ14 2 x13 (fun σ16 => wp_X10_sorts σ16 (fun σ17 => wp_X10_placeOf σ17 2 (fun z19 σ18 => Q k z19 σ18)))) (fun J15 => ((i : Int) ≤ j → J15 i σ12) ∧ (¬ (i : Int) ≤ j → J15 j σ12))) := by
    intro lo hi u v hlh hhl hlo hhi hpr hmin
    refine spec_X10_goes H B6 hc hgw hhl (fun σ7 f7 B7 => ?_)
    have m7 := Rr_fn m6 f7 (by simp)
    have hlay : wp_X10_lays σ7 2 (lo : Nat) (fun σ16 => wp_X10_sorts σ16 (fun σ17 => wp_X10_placeOf σ17 2 (fun z19 σ18 => Q k z19 σ18))) → Jn1 (fun (x13 : Int) σ14 => wp_X10_lays σ14 2 x13 (fun σ16 => wp_X10_sorts σ16 (fun σ17 => wp_X10_placeOf σ17 2 (fun z19 σ18 => Q k z19 σ18)))) (fun J15 => ((i : Int) ≤ j → J15 i σ7) ∧ (¬ (i : Int) ≤ j → J15 j σ7)) := fun hl => jn1_self ⟨fun h => by rw [hmin, if_pos (by omega)] at hl; exact hl, fun h => by rw [hmin, if_neg (by omega)] at hl; exact hl⟩
    apply hlay
    refine spec_X10_laysIn H B7 m7 hdxy (by rw [List.length_take, List.length_set]; omega) (fun σ8 f8 B8 => ?_)
    refine spec_X10_sorts H B8 (fun σ9 L9 f9 B9 p9 s9 => ?_)
    have m9 := Rr_fn (Rr_fn m7 f8 (by simp)) f9 (by simp)
    have eL : L9 = L2 := Srt_uniq H ((p9.trans (goes_perm hc hlh hlo hhi hgw hpr)).trans q2.symm) s9 s2
    subst eL
    refine spec_X10_placeOf H B9 m9 hdxy (fun z hz => ?_)
    have fN : FN σ6 σ9 [] := f7.tr (f8.tr f9)
    have hV9 := Val_L H hV G2 s2
    have A6 : Awn co (σ6 305) p f g L := by rw [k6.p, k5.p, k4.p, e3 305 (by decide) (by decide)]; exact A2
    have hS9 : Scn co σ9 1 p f g L9 := Scn_cgr hS2 (fun i i1 i2 => by rw [fN.1 i (by omega) (by omega) (by omega), k6.1 i (by omega) (by omega), k5.1 i (by omega) (by omega), k4.1 i (by omega) (by omega), e3 i (by omega) (by omega)])
    have R9 := Rst_X R3 ((FrX.ofR (FrR.ofT k4)).tr ((FrX.ofR (FrR.ofT k5)).tr ((FrX.ofR (FrR.ofT k6)).tr (FrX.ofN fN))))
    rcases hz with ⟨rfl, hz⟩ | ⟨k', rfl, hk', hk2'⟩
    · exact absurd (List.mem_of_getElem? hk) hz
    · rw [first_uniq hk' hk2' hk hk2]
      exact hQ _ _ _ _ _ _ hS9 (Awn_N A6 fN B9) hV9 R9
  rcases Nat.lt_or_ge i j with q | q
  · exact jn1_self ⟨fun _ => hfin i j x y q hjl hgi hgj p2 (by rw [if_pos (by omega)]), fun h => by omega⟩
  · exact jn1_self ⟨fun h => by omega, fun _ => hfin j i y x (by omega) hil hgj hgi ((List.Perm.swap x y rest).trans p2) (by rw [if_neg (by omega)])⟩
