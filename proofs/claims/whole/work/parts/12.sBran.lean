-- SplitTowers$Branching.kindIn(LSplitTowers$Poly;LSplitTowers$Poly;)I
def wp_X0_kindIn (σ : SG) (q1 : Nat) (q2 : Nat) (Q : Int → SG → Prop) : Prop :=
  wp_X2_commonFactor σ 92 q1 q2 (fun (σ1 : SG) => ((¬ (σ1 92 1) = (σ1 q1 1) → ((¬ (σ1 92 1) = 0 → Q 2 σ1) ∧ ((σ1 92 1) = 0 → Q 1 σ1))) ∧ ((σ1 92 1) = (σ1 q1 1) → Q 0 σ1)))
def rm_X0_kindIn : Room := { frames := 4, cells := 0, slots := 0, locals := 101 }
theorem wy_X0_kindIn : Cond.instanceMethod yX0_kindIn ∈ WS ∧ Cond.selects "SplitTowers$Branching" yX0_kindIn yX0_kindIn ∈ WS ∧ Cond.initialized "SplitTowers$Branching" ∈ WS ∧ Cond.code yX0_kindIn prog_2_method_2_code 3 (some .int) ∈ WS := ⟨w684, w685, w75, w686⟩
theorem hd_X0_kindIn : yX0_kindIn.cls = "SplitTowers$Branching" ∧ yX0_kindIn.cls ≠ "java/lang/invoke/MethodHandle" ∧ yX0_kindIn.cls ≠ "java/lang/invoke/VarHandle" ∧ (parseMethodDescriptor yX0_kindIn.desc).map (fun d => d.parameters.length) = some 2 := by decide +kernel
set_option maxHeartbeats 4000000 in
set_option maxRecDepth 100000 in
theorem s_X0_kindIn {l : Launch} {D : va_G} {aC : Nat → ClassId} {B lo hi : Nat} {σ : SG} {q1 : Nat} {q2 : Nat} {Q : Int → SG → Prop} (hlo : lo ≤ 0) (hhi : 304 ≤ hi) (p1 : PO lo hi q1) (p2 : PO lo hi q2) (h : wp_X0_kindIn σ q1 q2 Q) : Met l yX0_kindIn (Cond.code yX0_kindIn prog_2_method_2_code 3 (some .int) :: WS) rm_X0_kindIn (va_Pc [.ref (B + 91), .ref (B + q1), .ref (B + q2)] (WP D aC B lo hi σ)) (QI D aC B lo hi Q) 0 0 (AB B lo hi) := by
  refine met_of (by decide +kernel) (by decide +kernel : yX0_kindIn.cls = "SplitTowers$Branching") (Nat.le_of_ble_eq_true rfl) ?_
  intro p e s m args below meth c C
  unfold wp_X0_kindIn at h
  refine v_R (fun hR0 => ?_)
  show V p l e rm_X0_kindIn s m args below meth c D aC B lo hi 3 (MQ below (QI D aC B lo hi Q) args s 0 0 (AB B lo hi)) σ 0 [(0, .ref (B + 91)), (1, .ref (B + q1)), (2, .ref (B + q2))] []
  refine v_aload_n C 0 dX0_kindIn_0 rfl rfl ?_
  refine gf0_field C hlo hhi w291 dX0_kindIn_1 ?_
  refine v_aload_n C 0 dX0_kindIn_4 rfl rfl ?_
  refine gf0_common C hlo hhi w292 dX0_kindIn_5 ?_
  refine v_aload_n C 1 dX0_kindIn_8 rfl rfl ?_
  refine v_aload_n C 2 dX0_kindIn_9 rfl rfl ?_
  refine v_callv (i := 33) (As := [.ref (B + 92), .ref (B + q1), .ref (B + q2)]) (rest := []) C (s_X2_commonFactor hlo hhi (PO_full hlo hhi kt92) p1 p2 h) w590 wy_X2_commonFactor ⟨rfl, rfl⟩ hd_X2_commonFactor ⟨Nat.le_of_ble_eq_true rfl, Nat.le_of_ble_eq_true rfl⟩ (Nat.le_trans hlo (Nat.zero_le _)) (Nat.lt_of_lt_of_le (by decide) hhi) rfl rfl rfl rfl (Nat.le_of_ble_eq_true rfl) dX0_kindIn_10 (fun σ1 h => ?_)
  refine v_R (fun hRσ1 => ?_)
  refine v_aload_n C 0 dX0_kindIn_13 rfl rfl ?_
  refine gf0_common C hlo hhi w292 dX0_kindIn_14 ?_
  refine gf4_degree C (PO_full hlo hhi kt92) w102 dX0_kindIn_17 ?_
  refine v_aload_n C 1 dX0_kindIn_20 rfl rfl ?_
  refine gf4_degree C p1 w102 dX0_kindIn_21 ?_
  refine v_icmp_ne C (hRσ1 92 1) (hRσ1 q1 1) 29 dX0_kindIn_24 (by decide) (fun c3 => ?_) (fun c3 => ?_)
  · have h := h.1 c3
    refine v_aload_n C 0 dX0_kindIn_29 rfl rfl ?_
    refine gf0_common C hlo hhi w292 dX0_kindIn_30 ?_
    refine gf4_degree C (PO_full hlo hhi kt92) w102 dX0_kindIn_33 ?_
    refine v_if_ne C (hRσ1 92 1) 43 dX0_kindIn_36 (by decide) (fun c2 => ?_) (fun c2 => ?_)
    · have h := h.1 c2
      refine v_iconst C dX0_kindIn_43 ?_
      exact v_iret C (by decide) h dX0_kindIn_44
    · have h := h.2 c2
      refine v_iconst C dX0_kindIn_39 ?_
      refine v_goto C 44 dX0_kindIn_40 (by decide) ?_
      exact v_iret C (by decide) h dX0_kindIn_44
  · have h := h.2 c3
    refine v_iconst C dX0_kindIn_27 ?_
    exact v_iret C (by decide) h dX0_kindIn_28
-- SplitTowers$Branching.countOfKind(LSplitTowers$Poly;I)I
def wp_X0_countOfKind (σ : SG) (q1 : Nat) (a2 : Int) (Q : Int → SG → Prop) : Prop :=
  Lp2 (fun (rec4 : Int → Int → SG → Prop) (x1 : Int) (x2 : Int) (σ3 : SG) => (((σ3 1 4) ≤ x1 → Q x2 σ3) ∧ (¬ (σ3 1 4) ≤ x1 → ((0 ≤ x1 ∧ x1 < 6) ∧ BO 1 ((σ3 17 x1.toNat).toNat) ∧ wp_X0_kindIn σ3 ((σ3 17 x1.toNat).toNat) q1 (fun (z10 : Int) (σ9 : SG) => ((¬ z10 = a2 → (inR (x1 + 1) ∧ rec4 (x1 + 1) x2 σ9)) ∧ (z10 = a2 → (inR (x2 + 1) ∧ (inR (x1 + 1) ∧ rec4 (x1 + 1) (x2 + 1) σ9))))))))) 0 0 σ
def rm_X0_countOfKind : Room := { frames := 5, cells := 0, slots := 0, locals := 123 }
theorem wy_X0_countOfKind : Cond.instanceMethod yX0_countOfKind ∈ WS ∧ Cond.selects "SplitTowers$Branching" yX0_countOfKind yX0_countOfKind ∈ WS ∧ Cond.initialized "SplitTowers$Branching" ∈ WS ∧ Cond.code yX0_countOfKind prog_2_method_3_code 5 (some .int) ∈ WS := ⟨w680, w681, w75, w682⟩
theorem hd_X0_countOfKind : yX0_countOfKind.cls = "SplitTowers$Branching" ∧ yX0_countOfKind.cls ≠ "java/lang/invoke/MethodHandle" ∧ yX0_countOfKind.cls ≠ "java/lang/invoke/VarHandle" ∧ (parseMethodDescriptor yX0_countOfKind.desc).map (fun d => d.parameters.length) = some 2 := by decide +kernel
set_option maxHeartbeats 4000000 in
set_option maxRecDepth 100000 in
theorem s_X0_countOfKind {l : Launch} {D : va_G} {aC : Nat → ClassId} {B lo hi : Nat} {σ : SG} {q1 : Nat} {a2 : Int} {Q : Int → SG → Prop} (hlo : lo ≤ 0) (hhi : 304 ≤ hi) (p1 : PO lo hi q1) (r2 : inR a2) (h : wp_X0_countOfKind σ q1 a2 Q) : Met l yX0_countOfKind (Cond.code yX0_countOfKind prog_2_method_3_code 5 (some .int) :: WS) rm_X0_countOfKind (va_Pc [.ref (B + 91), .ref (B + q1), .int (iI a2)] (WP D aC B lo hi σ)) (QI D aC B lo hi Q) 0 0 (AB B lo hi) := by
  refine met_of (by decide +kernel) (by decide +kernel : yX0_countOfKind.cls = "SplitTowers$Branching") (Nat.le_of_ble_eq_true rfl) ?_
  intro p e s m args below meth c C
  unfold wp_X0_countOfKind at h
  refine v_R (fun hR0 => ?_)
  show V p l e rm_X0_countOfKind s m args below meth c D aC B lo hi 5 (MQ below (QI D aC B lo hi Q) args s 0 0 (AB B lo hi)) σ 0 [(0, .ref (B + 91)), (1, .ref (B + q1)), (2, .int (iI a2))] []
  refine v_iconst C dX0_countOfKind_0 ?_
  refine v_istore_n (lv' := [(3, .int (iI 0)), (0, .ref (B + 91)), (1, .ref (B + q1)), (2, .int (iI a2))]) C dX0_countOfKind_1 rfl (by decide) rfl ?_
  refine v_iconst C dX0_countOfKind_2 ?_
  refine v_istore (lv' := [(4, .int (iI 0)), (3, .int (iI 0)), (0, .ref (B + 91)), (1, .ref (B + q1)), (2, .int (iI a2))]) C dX0_countOfKind_3 (by decide) rfl ?_
  obtain ⟨I16, ⟨n17, hnn17⟩, hII16⟩ := h
  have key6 : ∀ (n : Nat) (x1 : Int) (x2 : Int) (σ3 : SG), I16 n x1 x2 σ3 → inR x1 → inR x2 → V p l e rm_X0_countOfKind s m args below meth c D aC B lo hi 5 (MQ below (QI D aC B lo hi Q) args s 0 0 (AB B lo hi)) σ3 5 [(4, .int (iI x1)), (3, .int (iI x2)), (0, .ref (B + 91)), (1, .ref (B + q1)), (2, .int (iI a2))] [] := by
    intro n
    induction n using Nat.strongRecOn with
    | ind n ih5 =>
      intro x1 x2 σ3 hn rx1 rx2
      have h := hII16 n x1 x2 σ3 hn
      refine v_R (fun hRσ3 => ?_)
      refine v_iload C 0 dX0_countOfKind_5 rfl ?_
      refine v_aload_n C 2 dX0_countOfKind_7 rfl rfl ?_
      refine gf0_state C hlo hhi w290 dX0_countOfKind_8 ?_
      refine gf7_branchCount C (SO_full hlo hhi kt1) w167 dX0_countOfKind_11 ?_
      refine v_icmp_ge C rx1 (hRσ3 1 4) 45 dX0_countOfKind_14 (by decide) (fun c15 => ?_) (fun c15 => ?_)
      · have h := h.1 c15
        refine v_iload_n C 1 dX0_countOfKind_45 rfl rfl ?_
        exact v_iret C rx2 h dX0_countOfKind_46
      · have h := h.2 c15
        refine v_aload_n C 2 dX0_countOfKind_17 rfl rfl ?_
        refine v_aload_n C 2 dX0_countOfKind_18 rfl rfl ?_
        refine gf0_state C hlo hhi w290 dX0_countOfKind_19 ?_
        refine gf7_branches C (SO_full hlo hhi kt1) w165 dX0_countOfKind_22 ?_
        refine v_iload C 0 dX0_countOfKind_25 rfl ?_
        have k7 := h.1
        have h := h.2
        have k8 := h.1
        have h := h.2
        refine v_aaldB C (SO_full hlo hhi kt1) rx1 k7 dX0_countOfKind_27 ?_
        refine v_aload_n C 3 dX0_countOfKind_28 rfl rfl ?_
        refine v_calli (i := 91) (As := [.ref (B + ((σ3 17 x1.toNat).toNat)), .ref (B + q1)]) (rest := []) C (s_X0_kindIn hlo hhi (PO_br (SO_full hlo hhi kt1) k8) p1 h) w683 wy_X0_kindIn ⟨rfl, rfl⟩ hd_X0_kindIn ⟨Nat.le_of_ble_eq_true rfl, Nat.le_of_ble_eq_true rfl⟩ (Nat.le_trans hlo (Nat.zero_le _)) (Nat.lt_of_lt_of_le (by decide) hhi) rfl rfl rfl rfl (Nat.le_of_ble_eq_true rfl) dX0_countOfKind_29 (fun z10 σ9 rz10 h => ?_)
        refine v_R (fun hRσ9 => ?_)
        refine v_iload_n C 4 dX0_countOfKind_32 rfl rfl ?_
        refine v_icmp_ne C rz10 r2 39 dX0_countOfKind_33 (by decide) (fun c14 => ?_) (fun c14 => ?_)
        · have h := h.1 c14
          have k11 := h.1
          have h := h.2
          refine v_iinc (lv' := [(4, .int (iI (x1 + 1))), (3, .int (iI x2)), (0, .ref (B + 91)), (1, .ref (B + q1)), (2, .int (iI a2))]) C 0 dX0_countOfKind_39 rfl (by decide) rfl ?_
          refine v_goto C 5 dX0_countOfKind_42 (by decide) ?_
          obtain ⟨m9, hm9, h⟩ := h
          exact ih5 m9 hm9 (x1 + 1) x2 σ9 h k11 rx2
        · have h := h.2 c14
          have k12 := h.1
          have h := h.2
          refine v_iinc (lv' := [(3, .int (iI (x2 + 1))), (4, .int (iI x1)), (0, .ref (B + 91)), (1, .ref (B + q1)), (2, .int (iI a2))]) C 1 dX0_countOfKind_36 rfl (by decide) rfl ?_
          have k13 := h.1
          have h := h.2
          refine v_iinc (lv' := [(4, .int (iI (x1 + 1))), (3, .int (iI (x2 + 1))), (0, .ref (B + 91)), (1, .ref (B + q1)), (2, .int (iI a2))]) C 1 dX0_countOfKind_39 rfl (by decide) rfl ?_
          refine v_goto C 5 dX0_countOfKind_42 (by decide) ?_
          obtain ⟨m9, hm9, h⟩ := h
          exact ih5 m9 hm9 (x1 + 1) (x2 + 1) σ9 h k13 k12
  exact key6 n17 0 0 σ hnn17 (by decide) (by decide)
-- SplitTowers$Branching.countDifferent(LSplitTowers$Poly;LSplitTowers$Poly;)I
def wp_X0_countDifferent (σ : SG) (q1 : Nat) (q2 : Nat) (Q : Int → SG → Prop) : Prop :=
  wp_X4_copy σ 94 q1 (fun (σ1 : SG) => wp_X4_addMultiple σ1 94 (-1) q2 0 (σ1 1 0) (fun (σ2 : SG) => wp_X0_countOfKind σ2 94 0 (fun (z4 : Int) (σ3 : SG) => (inR ((σ2 1 4) - z4) ∧ Q ((σ2 1 4) - z4) σ3))))
def rm_X0_countDifferent : Room := { frames := 6, cells := 0, slots := 0, locals := 147 }
theorem wy_X0_countDifferent : Cond.instanceMethod yX0_countDifferent ∈ WS ∧ Cond.selects "SplitTowers$Branching" yX0_countDifferent yX0_countDifferent ∈ WS ∧ Cond.initialized "SplitTowers$Branching" ∈ WS ∧ Cond.code yX0_countDifferent prog_2_method_4_code 3 (some .int) ∈ WS := ⟨w675, w676, w75, w677⟩
theorem hd_X0_countDifferent : yX0_countDifferent.cls = "SplitTowers$Branching" ∧ yX0_countDifferent.cls ≠ "java/lang/invoke/MethodHandle" ∧ yX0_countDifferent.cls ≠ "java/lang/invoke/VarHandle" ∧ (parseMethodDescriptor yX0_countDifferent.desc).map (fun d => d.parameters.length) = some 2 := by decide +kernel
set_option maxHeartbeats 4000000 in
set_option maxRecDepth 100000 in
theorem s_X0_countDifferent {l : Launch} {D : va_G} {aC : Nat → ClassId} {B lo hi : Nat} {σ : SG} {q1 : Nat} {q2 : Nat} {Q : Int → SG → Prop} (hlo : lo ≤ 0) (hhi : 304 ≤ hi) (p1 : PO lo hi q1) (p2 : PO lo hi q2) (h : wp_X0_countDifferent σ q1 q2 Q) : Met l yX0_countDifferent (Cond.code yX0_countDifferent prog_2_method_4_code 3 (some .int) :: WS) rm_X0_countDifferent (va_Pc [.ref (B + 91), .ref (B + q1), .ref (B + q2)] (WP D aC B lo hi σ)) (QI D aC B lo hi Q) 0 0 (AB B lo hi) := by
  refine met_of (by decide +kernel) (by decide +kernel : yX0_countDifferent.cls = "SplitTowers$Branching") (Nat.le_of_ble_eq_true rfl) ?_
  intro p e s m args below meth c C
  unfold wp_X0_countDifferent at h
  refine v_R (fun hR0 => ?_)
  show V p l e rm_X0_countDifferent s m args below meth c D aC B lo hi 3 (MQ below (QI D aC B lo hi Q) args s 0 0 (AB B lo hi)) σ 0 [(0, .ref (B + 91)), (1, .ref (B + q1)), (2, .ref (B + q2))] []
  refine v_aload_n C 0 dX0_countDifferent_0 rfl rfl ?_
  refine gf0_rest C hlo hhi w293 dX0_countDifferent_1 ?_
  refine v_aload_n C 1 dX0_countDifferent_4 rfl rfl ?_
  refine v_callv (i := 94) (As := [.ref (B + q1)]) (rest := []) C (s_X4_copy (PO_full hlo hhi kt94) p1 h) w595 wy_X4_copy ⟨rfl, rfl⟩ hd_X4_copy ⟨Nat.le_of_ble_eq_true rfl, Nat.le_of_ble_eq_true rfl⟩ (PO.lo (PO_full hlo hhi kt94)) (PO.hi (PO_full hlo hhi kt94)) (cel_of ((PO_full hlo hhi kt94)).1) rfl rfl rfl (Nat.le_of_ble_eq_true rfl) dX0_countDifferent_5 (fun σ1 h => ?_)
  refine v_R (fun hRσ1 => ?_)
  refine v_aload_n C 0 dX0_countDifferent_8 rfl rfl ?_
  refine gf0_rest C hlo hhi w293 dX0_countDifferent_9 ?_
  refine v_iconst C dX0_countDifferent_12 ?_
  refine v_aload_n C 2 dX0_countDifferent_13 rfl rfl ?_
  refine v_iconst C dX0_countDifferent_14 ?_
  refine v_aload_n C 0 dX0_countDifferent_15 rfl rfl ?_
  refine gf0_state C hlo hhi w290 dX0_countDifferent_16 ?_
  refine gf7_prime C (SO_full hlo hhi kt1) w156 dX0_countDifferent_19 ?_
  refine v_callv (i := 94) (As := [.int (iI (-1)), .ref (B + q2), .int (iI 0), .int (iI (σ1 1 0))]) (rest := []) C (s_X4_addMultiple (PO_full hlo hhi kt94) (by decide) p2 (by decide) (hRσ1 1 0) h) w678 wy_X4_addMultiple ⟨rfl, rfl⟩ hd_X4_addMultiple ⟨Nat.le_of_ble_eq_true rfl, Nat.le_of_ble_eq_true rfl⟩ (PO.lo (PO_full hlo hhi kt94)) (PO.hi (PO_full hlo hhi kt94)) (cel_of ((PO_full hlo hhi kt94)).1) rfl rfl rfl (Nat.le_of_ble_eq_true rfl) dX0_countDifferent_22 (fun σ2 h => ?_)
  refine v_R (fun hRσ2 => ?_)
  refine v_aload_n C 0 dX0_countDifferent_25 rfl rfl ?_
  refine gf0_state C hlo hhi w290 dX0_countDifferent_26 ?_
  refine gf7_branchCount C (SO_full hlo hhi kt1) w167 dX0_countDifferent_29 ?_
  refine v_aload_n C 0 dX0_countDifferent_32 rfl rfl ?_
  refine v_aload_n C 0 dX0_countDifferent_33 rfl rfl ?_
  refine gf0_rest C hlo hhi w293 dX0_countDifferent_34 ?_
  refine v_iconst C dX0_countDifferent_37 ?_
  refine v_calli (i := 91) (As := [.ref (B + 94), .int (iI 0)]) (rest := [.int (iI (σ2 1 4))]) C (s_X0_countOfKind hlo hhi (PO_full hlo hhi kt94) (by decide) h) w679 wy_X0_countOfKind ⟨rfl, rfl⟩ hd_X0_countOfKind ⟨Nat.le_of_ble_eq_true rfl, Nat.le_of_ble_eq_true rfl⟩ (Nat.le_trans hlo (Nat.zero_le _)) (Nat.lt_of_lt_of_le (by decide) hhi) rfl rfl rfl rfl (Nat.le_of_ble_eq_true rfl) dX0_countDifferent_38 (fun z4 σ3 rz4 h => ?_)
  refine v_R (fun hRσ3 => ?_)
  have k5 := h.1
  have h := h.2
  refine v_isub C dX0_countDifferent_41 ?_
  exact v_iret C k5 h dX0_countDifferent_42
-- SplitTowers$Branching.findBranch(LSplitTowers$Poly;)I
def wp_X0_findBranch (σ : SG) (q1 : Nat) (Q : Int → SG → Prop) : Prop :=
  Lp1 (fun (rec3 : Int → SG → Prop) (x1 : Int) (σ2 : SG) => (((σ2 1 4) ≤ x1 → Q (-1) σ2) ∧ (¬ (σ2 1 4) ≤ x1 → ((0 ≤ x1 ∧ x1 < 6) ∧ BO 1 ((σ2 17 x1.toNat).toNat) ∧ wp_X4_sameAs σ2 ((σ2 17 x1.toNat).toNat) q1 (fun (z9 : Int) (σ8 : SG) => ((z9 = 0 → (inR (x1 + 1) ∧ rec3 (x1 + 1) σ8)) ∧ (¬ z9 = 0 → Q x1 σ8))))))) 0 σ
def rm_X0_findBranch : Room := { frames := 1, cells := 0, slots := 0, locals := 22 }
theorem wy_X0_findBranch : Cond.instanceMethod yX0_findBranch ∈ WS ∧ Cond.selects "SplitTowers$Branching" yX0_findBranch yX0_findBranch ∈ WS ∧ Cond.initialized "SplitTowers$Branching" ∈ WS ∧ Cond.code yX0_findBranch prog_2_method_8_code 3 (some .int) ∈ WS := ⟨w720, w11, w75, w721⟩
theorem hd_X0_findBranch : yX0_findBranch.cls = "SplitTowers$Branching" ∧ yX0_findBranch.cls ≠ "java/lang/invoke/MethodHandle" ∧ yX0_findBranch.cls ≠ "java/lang/invoke/VarHandle" ∧ (parseMethodDescriptor yX0_findBranch.desc).map (fun d => d.parameters.length) = some 1 := by decide +kernel
set_option maxHeartbeats 4000000 in
set_option maxRecDepth 100000 in
theorem s_X0_findBranch {l : Launch} {D : va_G} {aC : Nat → ClassId} {B lo hi : Nat} {σ : SG} {q1 : Nat} {Q : Int → SG → Prop} (hlo : lo ≤ 0) (hhi : 304 ≤ hi) (p1 : PO lo hi q1) (h : wp_X0_findBranch σ q1 Q) : Met l yX0_findBranch (Cond.code yX0_findBranch prog_2_method_8_code 3 (some .int) :: WS) rm_X0_findBranch (va_Pc [.ref (B + 91), .ref (B + q1)] (WP D aC B lo hi σ)) (QI D aC B lo hi Q) 0 0 (AB B lo hi) := by
  refine met_of (by decide +kernel) (by decide +kernel : yX0_findBranch.cls = "SplitTowers$Branching") (Nat.le_of_ble_eq_true rfl) ?_
  intro p e s m args below meth c C
  unfold wp_X0_findBranch at h
  refine v_R (fun hR0 => ?_)
  show V p l e rm_X0_findBranch s m args below meth c D aC B lo hi 3 (MQ below (QI D aC B lo hi Q) args s 0 0 (AB B lo hi)) σ 0 [(0, .ref (B + 91)), (1, .ref (B + q1))] []
  refine v_iconst C dX0_findBranch_0 ?_
  refine v_istore_n (lv' := [(2, .int (iI 0)), (0, .ref (B + 91)), (1, .ref (B + q1))]) C dX0_findBranch_1 rfl (by decide) rfl ?_
  obtain ⟨I13, ⟨n14, hnn14⟩, hII13⟩ := h
  have key5 : ∀ (n : Nat) (x1 : Int) (σ2 : SG), I13 n x1 σ2 → inR x1 → V p l e rm_X0_findBranch s m args below meth c D aC B lo hi 3 (MQ below (QI D aC B lo hi Q) args s 0 0 (AB B lo hi)) σ2 2 [(2, .int (iI x1)), (0, .ref (B + 91)), (1, .ref (B + q1))] [] := by
    intro n
    induction n using Nat.strongRecOn with
    | ind n ih4 =>
      intro x1 σ2 hn rx1
      have h := hII13 n x1 σ2 hn
      refine v_R (fun hRσ2 => ?_)
      refine v_iload_n C 0 dX0_findBranch_2 rfl rfl ?_
      refine v_aload_n C 1 dX0_findBranch_3 rfl rfl ?_
      refine gf0_state C hlo hhi w290 dX0_findBranch_4 ?_
      refine gf7_branchCount C (SO_full hlo hhi kt1) w167 dX0_findBranch_7 ?_
      refine v_icmp_ge C rx1 (hRσ2 1 4) 37 dX0_findBranch_10 (by decide) (fun c12 => ?_) (fun c12 => ?_)
      · have h := h.1 c12
        refine v_iconst C dX0_findBranch_37 ?_
        exact v_iret C (by decide) h dX0_findBranch_38
      · have h := h.2 c12
        refine v_aload_n C 1 dX0_findBranch_13 rfl rfl ?_
        refine gf0_state C hlo hhi w290 dX0_findBranch_14 ?_
        refine gf7_branches C (SO_full hlo hhi kt1) w165 dX0_findBranch_17 ?_
        refine v_iload_n C 0 dX0_findBranch_20 rfl rfl ?_
        have k6 := h.1
        have h := h.2
        have k7 := h.1
        have h := h.2
        refine v_aaldB C (SO_full hlo hhi kt1) rx1 k6 dX0_findBranch_21 ?_
        refine v_aload_n C 2 dX0_findBranch_22 rfl rfl ?_
        refine v_calli (i := (σ2 17 x1.toNat).toNat) (As := [.ref (B + q1)]) (rest := []) C (s_X4_sameAs (PO_br (SO_full hlo hhi kt1) k7) p1 h) w722 wy_X4_sameAs ⟨rfl, rfl⟩ hd_X4_sameAs ⟨Nat.le_of_ble_eq_true rfl, Nat.le_of_ble_eq_true rfl⟩ (PO.lo (PO_br (SO_full hlo hhi kt1) k7)) (PO.hi (PO_br (SO_full hlo hhi kt1) k7)) (cel_of ((PO_br (SO_full hlo hhi kt1) k7)).1) rfl rfl rfl (Nat.le_of_ble_eq_true rfl) dX0_findBranch_23 (fun z9 σ8 rz9 h => ?_)
        refine v_R (fun hRσ8 => ?_)
        refine v_if_eq C rz9 31 dX0_findBranch_26 (by decide) (fun c11 => ?_) (fun c11 => ?_)
        · have h := h.1 c11
          have k10 := h.1
          have h := h.2
          refine v_iinc (lv' := [(2, .int (iI (x1 + 1))), (0, .ref (B + 91)), (1, .ref (B + q1))]) C 0 dX0_findBranch_31 rfl (by decide) rfl ?_
          refine v_goto C 2 dX0_findBranch_34 (by decide) ?_
          obtain ⟨m9, hm9, h⟩ := h
          exact ih4 m9 hm9 (x1 + 1) σ8 h k10
        · have h := h.2 c11
          refine v_iload_n C 0 dX0_findBranch_29 rfl rfl ?_
          exact v_iret C rx1 h dX0_findBranch_30
  exact key5 n14 0 σ hnn14 (by decide)
-- SplitTowers$Branching.joinByKind(LSplitTowers$Poly;)V
def wp_X0_joinByKind (σ : SG) (q1 : Nat) (Q : SG → Prop) : Prop :=
  wp_X4_becomeConstant σ 96 1 (fun (σ1 : SG) => wp_X4_becomeConstant σ1 98 1 (fun (σ2 : SG) => Lp1 (fun (rec5 : Int → SG → Prop) (x3 : Int) (σ4 : SG) => (((σ4 1 4) ≤ x3 → (∀ σ8 : SG, σ8 = ug σ4 1 4 0 → Jn0 (fun  (σ9 : SG) => Jn0 (fun  (σ11 : SG) => wp_X7_sortBranches σ11 1 (fun (σ13 : SG) => Q σ13)) (fun J12 => (((σ9 98 1) ≤ 0 → J12 σ9) ∧ (¬ (σ9 98 1) ≤ 0 → wp_X7_addBranch σ9 1 98 (fun (σ14 : SG) => J12 σ14))))) (fun J10 => (((σ8 96 1) ≤ 0 → J10 σ8) ∧ (¬ (σ8 96 1) ≤ 0 → wp_X7_addBranch σ8 1 96 (fun (σ16 : SG) => J10 σ16)))))) ∧ (¬ (σ4 1 4) ≤ x3 → ((0 ≤ x3 ∧ x3 < 6) ∧ BO 1 ((σ4 17 x3.toNat).toNat) ∧ wp_X0_kindIn σ4 ((σ4 17 x3.toNat).toNat) q1 (fun (z21 : Int) (σ20 : SG) => Jn1 (fun (u22 : Nat) (σ23 : SG) => ((0 ≤ x3 ∧ x3 < 6) ∧ BO 1 ((σ23 17 x3.toNat).toNat) ∧ wp_X2_multiply σ23 u22 u22 ((σ23 17 x3.toNat).toNat) (fun (σ27 : SG) => (inR (x3 + 1) ∧ rec5 (x3 + 1) σ27)))) (fun J24 => ((¬ z21 = 0 → J24 98 σ20) ∧ (z21 = 0 → J24 96 σ20)))))))) 0 σ2))
def rm_X0_joinByKind : Room := { frames := 5, cells := 0, slots := 0, locals := 123 }
theorem wy_X0_joinByKind : Cond.instanceMethod yX0_joinByKind ∈ WS ∧ Cond.selects "SplitTowers$Branching" yX0_joinByKind yX0_joinByKind ∈ WS ∧ Cond.initialized "SplitTowers$Branching" ∈ WS ∧ Cond.code yX0_joinByKind prog_2_method_7_code 4 none ∈ WS := ⟨w728, w729, w75, w730⟩
theorem hd_X0_joinByKind : yX0_joinByKind.cls = "SplitTowers$Branching" ∧ yX0_joinByKind.cls ≠ "java/lang/invoke/MethodHandle" ∧ yX0_joinByKind.cls ≠ "java/lang/invoke/VarHandle" ∧ (parseMethodDescriptor yX0_joinByKind.desc).map (fun d => d.parameters.length) = some 1 := by decide +kernel
set_option maxHeartbeats 4000000 in
set_option maxRecDepth 100000 in
theorem s_X0_joinByKind {l : Launch} {D : va_G} {aC : Nat → ClassId} {B lo hi : Nat} {σ : SG} {q1 : Nat} {Q : SG → Prop} (hlo : lo ≤ 0) (hhi : 304 ≤ hi) (p1 : PO lo hi q1) (h : wp_X0_joinByKind σ q1 Q) : Met l yX0_joinByKind (Cond.code yX0_joinByKind prog_2_method_7_code 4 none :: WS) rm_X0_joinByKind (va_Pc [.ref (B + 91), .ref (B + q1)] (WP D aC B lo hi σ)) (QV D aC B lo hi Q) 0 0 (AB B lo hi) := by
  refine met_of (by decide +kernel) (by decide +kernel : yX0_joinByKind.cls = "SplitTowers$Branching") (Nat.le_of_ble_eq_true rfl) ?_
  intro p e s m args below meth c C
  unfold wp_X0_joinByKind at h
  refine v_R (fun hR0 => ?_)
  show V p l e rm_X0_joinByKind s m args below meth c D aC B lo hi 4 (MQ below (QV D aC B lo hi Q) args s 0 0 (AB B lo hi)) σ 0 [(0, .ref (B + 91)), (1, .ref (B + q1))] []
  refine v_aload_n C 0 dX0_joinByKind_0 rfl rfl ?_
  refine gf0_nothings C hlo hhi w294 dX0_joinByKind_1 ?_
  refine v_iconst C dX0_joinByKind_4 ?_
  refine v_callv (i := 96) (As := [.int (iI 1)]) (rest := []) C (s_X4_becomeConstant (PO_full hlo hhi kt96) (by decide) h) w731 wy_X4_becomeConstant ⟨rfl, rfl⟩ hd_X4_becomeConstant ⟨Nat.le_of_ble_eq_true rfl, Nat.le_of_ble_eq_true rfl⟩ (PO.lo (PO_full hlo hhi kt96)) (PO.hi (PO_full hlo hhi kt96)) (cel_of ((PO_full hlo hhi kt96)).1) rfl rfl rfl (Nat.le_of_ble_eq_true rfl) dX0_joinByKind_5 (fun σ1 h => ?_)
  refine v_R (fun hRσ1 => ?_)
  refine v_aload_n C 0 dX0_joinByKind_8 rfl rfl ?_
  refine gf0_others C hlo hhi w295 dX0_joinByKind_9 ?_
  refine v_iconst C dX0_joinByKind_12 ?_
  refine v_callv (i := 98) (As := [.int (iI 1)]) (rest := []) C (s_X4_becomeConstant (PO_full hlo hhi kt98) (by decide) h) w731 wy_X4_becomeConstant ⟨rfl, rfl⟩ hd_X4_becomeConstant ⟨Nat.le_of_ble_eq_true rfl, Nat.le_of_ble_eq_true rfl⟩ (PO.lo (PO_full hlo hhi kt98)) (PO.hi (PO_full hlo hhi kt98)) (cel_of ((PO_full hlo hhi kt98)).1) rfl rfl rfl (Nat.le_of_ble_eq_true rfl) dX0_joinByKind_13 (fun σ2 h => ?_)
  refine v_R (fun hRσ2 => ?_)
  refine v_iconst C dX0_joinByKind_16 ?_
  refine v_istore_n (lv' := [(2, .int (iI 0)), (0, .ref (B + 91)), (1, .ref (B + q1))]) C dX0_joinByKind_17 rfl (by decide) rfl ?_
  obtain ⟨I31, ⟨n32, hnn32⟩, hII31⟩ := h
  have key7 : ∀ (n : Nat) (x3 : Int) (σ4 : SG), I31 n x3 σ4 → inR x3 → V p l e rm_X0_joinByKind s m args below meth c D aC B lo hi 4 (MQ below (QV D aC B lo hi Q) args s 0 0 (AB B lo hi)) σ4 18 [(2, .int (iI x3)), (0, .ref (B + 91)), (1, .ref (B + q1))] [] := by
    intro n
    induction n using Nat.strongRecOn with
    | ind n ih6 =>
      intro x3 σ4 hn rx3
      have h := hII31 n x3 σ4 hn
      refine v_R (fun hRσ4 => ?_)
      refine v_iload_n C 0 dX0_joinByKind_18 rfl rfl ?_
      refine v_aload_n C 1 dX0_joinByKind_19 rfl rfl ?_
      refine gf0_state C hlo hhi w290 dX0_joinByKind_20 ?_
      refine gf7_branchCount C (SO_full hlo hhi kt1) w167 dX0_joinByKind_23 ?_
      refine v_icmp_ge C rx3 (hRσ4 1 4) 82 dX0_joinByKind_26 (by decide) (fun c30 => ?_) (fun c30 => ?_)
      · have h := h.1 c30
        refine v_aload_n C 1 dX0_joinByKind_82 rfl rfl ?_
        refine gf0_state C hlo hhi w290 dX0_joinByKind_83 ?_
        refine v_iconst C dX0_joinByKind_86 ?_
        refine pf7_branchCount C (SO_full hlo hhi kt1) (by decide) w167 dX0_joinByKind_87 ?_
        refine v_nameS (fun σ8 eσ8 => ?_)
        have h := h σ8 eσ8
        refine v_R (fun hRσ8 => ?_)
        refine v_aload_n C 1 dX0_joinByKind_90 rfl rfl ?_
        refine gf0_nothings C hlo hhi w294 dX0_joinByKind_91 ?_
        refine gf4_degree C (PO_full hlo hhi kt96) w102 dX0_joinByKind_94 ?_
        obtain ⟨J10, hJ10, h⟩ := h
        have kJ10 : ∀  (σ9 : SG), J10 σ9 → V p l e rm_X0_joinByKind s m args below meth c D aC B lo hi 4 (MQ below (QV D aC B lo hi Q) args s 0 0 (AB B lo hi)) σ9 111 [(0, .ref (B + 91))] [] := by
          intro σ9 hj 
          have h := hJ10 σ9 hj
          refine v_R (fun hRσ9 => ?_)
          refine v_aload_n C 0 dX0_joinByKind_111 rfl rfl ?_
          refine gf0_others C hlo hhi w295 dX0_joinByKind_112 ?_
          refine gf4_degree C (PO_full hlo hhi kt98) w102 dX0_joinByKind_115 ?_
          obtain ⟨J12, hJ12, h⟩ := h
          have kJ12 : ∀  (σ11 : SG), J12 σ11 → V p l e rm_X0_joinByKind s m args below meth c D aC B lo hi 4 (MQ below (QV D aC B lo hi Q) args s 0 0 (AB B lo hi)) σ11 132 [(0, .ref (B + 91))] [] := by
            intro σ11 hj 
            have h := hJ12 σ11 hj
            refine v_R (fun hRσ11 => ?_)
            refine v_aload_n C 0 dX0_joinByKind_132 rfl rfl ?_
            refine gf0_state C hlo hhi w290 dX0_joinByKind_133 ?_
            refine v_callv (i := 1) (As := []) (rest := []) C (s_X7_sortBranches (SO_full hlo hhi kt1) h) w597 wy_X7_sortBranches ⟨rfl, rfl⟩ hd_X7_sortBranches ⟨Nat.le_of_ble_eq_true rfl, Nat.le_of_ble_eq_true rfl⟩ (SO.lo (SO_full hlo hhi kt1)) (SO.hi (SO_full hlo hhi kt1)) (cel_of ((SO_full hlo hhi kt1)).1) rfl rfl rfl (Nat.le_of_ble_eq_true rfl) dX0_joinByKind_136 (fun σ13 h => ?_)
            refine v_R (fun hRσ13 => ?_)
            exact v_vret C h dX0_joinByKind_139
          refine v_if_le C (hRσ9 98 1) 132 dX0_joinByKind_118 (by decide) (fun c15 => ?_) (fun c15 => ?_)
          · have h := h.1 c15
            exact kJ12 σ9 h 
          · have h := h.2 c15
            refine v_aload_n C 0 dX0_joinByKind_121 rfl rfl ?_
            refine gf0_state C hlo hhi w290 dX0_joinByKind_122 ?_
            refine v_aload_n C 0 dX0_joinByKind_125 rfl rfl ?_
            refine gf0_others C hlo hhi w295 dX0_joinByKind_126 ?_
            refine v_callv (i := 1) (As := [.ref (B + 98)]) (rest := []) C (s_X7_addBranch (SO_full hlo hhi kt1) (PO_full hlo hhi kt98) h) w596 wy_X7_addBranch ⟨rfl, rfl⟩ hd_X7_addBranch ⟨Nat.le_of_ble_eq_true rfl, Nat.le_of_ble_eq_true rfl⟩ (SO.lo (SO_full hlo hhi kt1)) (SO.hi (SO_full hlo hhi kt1)) (cel_of ((SO_full hlo hhi kt1)).1) rfl rfl rfl (Nat.le_of_ble_eq_true rfl) dX0_joinByKind_129 (fun σ14 h => ?_)
            refine v_R (fun hRσ14 => ?_)
            exact kJ12 σ14 h 
        refine v_if_le C (hRσ8 96 1) 111 dX0_joinByKind_97 (by decide) (fun c17 => ?_) (fun c17 => ?_)
        · have h := h.1 c17
          refine v_sub [1] rfl ?_
          exact kJ10 σ8 h 
        · have h := h.2 c17
          refine v_aload_n C 1 dX0_joinByKind_100 rfl rfl ?_
          refine gf0_state C hlo hhi w290 dX0_joinByKind_101 ?_
          refine v_aload_n C 1 dX0_joinByKind_104 rfl rfl ?_
          refine gf0_nothings C hlo hhi w294 dX0_joinByKind_105 ?_
          refine v_callv (i := 1) (As := [.ref (B + 96)]) (rest := []) C (s_X7_addBranch (SO_full hlo hhi kt1) (PO_full hlo hhi kt96) h) w596 wy_X7_addBranch ⟨rfl, rfl⟩ hd_X7_addBranch ⟨Nat.le_of_ble_eq_true rfl, Nat.le_of_ble_eq_true rfl⟩ (SO.lo (SO_full hlo hhi kt1)) (SO.hi (SO_full hlo hhi kt1)) (cel_of ((SO_full hlo hhi kt1)).1) rfl rfl rfl (Nat.le_of_ble_eq_true rfl) dX0_joinByKind_108 (fun σ16 h => ?_)
          refine v_R (fun hRσ16 => ?_)
          refine v_sub [1] rfl ?_
          exact kJ10 σ16 h 
      · have h := h.2 c30
        refine v_aload_n C 1 dX0_joinByKind_29 rfl rfl ?_
        refine v_aload_n C 1 dX0_joinByKind_30 rfl rfl ?_
        refine gf0_state C hlo hhi w290 dX0_joinByKind_31 ?_
        refine gf7_branches C (SO_full hlo hhi kt1) w165 dX0_joinByKind_34 ?_
        refine v_iload_n C 0 dX0_joinByKind_37 rfl rfl ?_
        have k18 := h.1
        have h := h.2
        have k19 := h.1
        have h := h.2
        refine v_aaldB C (SO_full hlo hhi kt1) rx3 k18 dX0_joinByKind_38 ?_
        refine v_aload_n C 2 dX0_joinByKind_39 rfl rfl ?_
        refine v_calli (i := 91) (As := [.ref (B + ((σ4 17 x3.toNat).toNat)), .ref (B + q1)]) (rest := []) C (s_X0_kindIn hlo hhi (PO_br (SO_full hlo hhi kt1) k19) p1 h) w683 wy_X0_kindIn ⟨rfl, rfl⟩ hd_X0_kindIn ⟨Nat.le_of_ble_eq_true rfl, Nat.le_of_ble_eq_true rfl⟩ (Nat.le_trans hlo (Nat.zero_le _)) (Nat.lt_of_lt_of_le (by decide) hhi) rfl rfl rfl rfl (Nat.le_of_ble_eq_true rfl) dX0_joinByKind_40 (fun z21 σ20 rz21 h => ?_)
        refine v_R (fun hRσ20 => ?_)
        obtain ⟨J24, hJ24, h⟩ := h
        have kJ24 : ∀ (u22 : Nat) (σ23 : SG), J24 u22 σ23 → PO lo hi u22 → V p l e rm_X0_joinByKind s m args below meth c D aC B lo hi 4 (MQ below (QV D aC B lo hi Q) args s 0 0 (AB B lo hi)) σ23 57 [(2, .int (iI x3)), (0, .ref (B + 91)), (1, .ref (B + q1))] [.ref (B + u22)] := by
          intro u22 σ23 hj pu22
          have h := hJ24 u22 σ23 hj
          refine v_R (fun hRσ23 => ?_)
          refine v_astore_n (lv' := [(3, .ref (B + u22)), (2, .int (iI x3)), (0, .ref (B + 91)), (1, .ref (B + q1))]) C dX0_joinByKind_57 rfl (by decide) rfl ?_
          refine v_aload_n C 2 dX0_joinByKind_58 rfl rfl ?_
          refine gf0_field C hlo hhi w291 dX0_joinByKind_59 ?_
          refine v_aload_n C 0 dX0_joinByKind_62 rfl rfl ?_
          refine v_aload_n C 0 dX0_joinByKind_63 rfl rfl ?_
          refine v_aload_n C 2 dX0_joinByKind_64 rfl rfl ?_
          refine gf0_state C hlo hhi w290 dX0_joinByKind_65 ?_
          refine gf7_branches C (SO_full hlo hhi kt1) w165 dX0_joinByKind_68 ?_
          refine v_iload_n C 1 dX0_joinByKind_71 rfl rfl ?_
          have k25 := h.1
          have h := h.2
          have k26 := h.1
          have h := h.2
          refine v_aaldB C (SO_full hlo hhi kt1) rx3 k25 dX0_joinByKind_72 ?_
          refine v_callv (i := 33) (As := [.ref (B + u22), .ref (B + u22), .ref (B + ((σ23 17 x3.toNat).toNat))]) (rest := []) C (s_X2_multiply hlo hhi pu22 pu22 (PO_br (SO_full hlo hhi kt1) k26) h) w717 wy_X2_multiply ⟨rfl, rfl⟩ hd_X2_multiply ⟨Nat.le_of_ble_eq_true rfl, Nat.le_of_ble_eq_true rfl⟩ (Nat.le_trans hlo (Nat.zero_le _)) (Nat.lt_of_lt_of_le (by decide) hhi) rfl rfl rfl rfl (Nat.le_of_ble_eq_true rfl) dX0_joinByKind_73 (fun σ27 h => ?_)
          refine v_R (fun hRσ27 => ?_)
          have k28 := h.1
          have h := h.2
          refine v_iinc (lv' := [(2, .int (iI (x3 + 1))), (3, .ref (B + u22)), (0, .ref (B + 91)), (1, .ref (B + q1))]) C 1 dX0_joinByKind_76 rfl (by decide) rfl ?_
          refine v_goto C 18 dX0_joinByKind_79 (by decide) ?_
          obtain ⟨m9, hm9, h⟩ := h
          refine v_sub [0, 2, 3] rfl ?_
          exact ih6 m9 hm9 (x3 + 1) σ27 h k28
        refine v_if_ne C rz21 53 dX0_joinByKind_43 (by decide) (fun c29 => ?_) (fun c29 => ?_)
        · have h := h.1 c29
          refine v_aload_n C 1 dX0_joinByKind_53 rfl rfl ?_
          refine gf0_others C hlo hhi w295 dX0_joinByKind_54 ?_
          exact kJ24 98 σ20 h (PO_full hlo hhi kt98)
        · have h := h.2 c29
          refine v_aload_n C 1 dX0_joinByKind_46 rfl rfl ?_
          refine gf0_nothings C hlo hhi w294 dX0_joinByKind_47 ?_
          refine v_goto C 57 dX0_joinByKind_50 (by decide) ?_
          exact kJ24 96 σ20 h (PO_full hlo hhi kt96)
  exact key7 n32 0 σ2 hnn32 (by decide)
-- SplitTowers$Branching.joinTwo(II)I
def wp_X0_joinTwo (σ : SG) (a1 : Int) (a2 : Int) (Q : Int → SG → Prop) : Prop :=
  ((0 ≤ a1 ∧ a1 < 6) ∧ BO 1 ((σ 17 a1.toNat).toNat) ∧ ((0 ≤ a2 ∧ a2 < 6) ∧ BO 1 ((σ 17 a2.toNat).toNat) ∧ wp_X2_multiply σ 98 ((σ 17 a1.toNat).toNat) ((σ 17 a2.toNat).toNat) (fun (σ5 : SG) => ((0 ≤ a1 ∧ a1 < 6) ∧ BO 1 ((σ5 17 a1.toNat).toNat) ∧ wp_X4_copy σ5 ((σ5 17 a1.toNat).toNat) 98 (fun (σ8 : SG) => ((0 ≤ a2 ∧ a2 < 6) ∧ BO 1 ((σ8 17 a2.toNat).toNat) ∧ (inR ((σ8 1 4) - 1) ∧ ((0 ≤ (σ8 1 4) - 1 ∧ (σ8 1 4) - 1 < 6) ∧ BO 1 ((σ8 17 ((σ8 1 4) - 1).toNat).toNat) ∧ wp_X4_copy σ8 ((σ8 17 a2.toNat).toNat) ((σ8 17 ((σ8 1 4) - 1).toNat).toNat) (fun (σ14 : SG) => (inR ((σ14 1 4) - 1) ∧ (∀ σ16 : SG, σ16 = ug σ14 1 4 ((σ14 1 4) - 1) → wp_X7_sortBranches σ16 1 (fun (σ17 : SG) => wp_X0_findBranch σ17 98 (fun (z19 : Int) (σ18 : SG) => Q z19 σ18)))))))))))))
def rm_X0_joinTwo : Room := { frames := 3, cells := 0, slots := 0, locals := 72 }
theorem wy_X0_joinTwo : Cond.instanceMethod yX0_joinTwo ∈ WS ∧ Cond.selects "SplitTowers$Branching" yX0_joinTwo yX0_joinTwo ∈ WS ∧ Cond.initialized "SplitTowers$Branching" ∈ WS ∧ Cond.code yX0_joinTwo prog_2_method_6_code 3 (some .int) ∈ WS := ⟨w714, w715, w75, w716⟩
theorem hd_X0_joinTwo : yX0_joinTwo.cls = "SplitTowers$Branching" ∧ yX0_joinTwo.cls ≠ "java/lang/invoke/MethodHandle" ∧ yX0_joinTwo.cls ≠ "java/lang/invoke/VarHandle" ∧ (parseMethodDescriptor yX0_joinTwo.desc).map (fun d => d.parameters.length) = some 2 := by decide +kernel
set_option maxHeartbeats 4000000 in
set_option maxRecDepth 100000 in
theorem s_X0_joinTwo {l : Launch} {D : va_G} {aC : Nat → ClassId} {B lo hi : Nat} {σ : SG} {a1 : Int} {a2 : Int} {Q : Int → SG → Prop} (hlo : lo ≤ 0) (hhi : 304 ≤ hi) (r1 : inR a1) (r2 : inR a2) (h : wp_X0_joinTwo σ a1 a2 Q) : Met l yX0_joinTwo (Cond.code yX0_joinTwo prog_2_method_6_code 3 (some .int) :: WS) rm_X0_joinTwo (va_Pc [.ref (B + 91), .int (iI a1), .int (iI a2)] (WP D aC B lo hi σ)) (QI D aC B lo hi Q) 0 0 (AB B lo hi) := by
  refine met_of (by decide +kernel) (by decide +kernel : yX0_joinTwo.cls = "SplitTowers$Branching") (Nat.le_of_ble_eq_true rfl) ?_
  intro p e s m args below meth c C
  unfold wp_X0_joinTwo at h
  refine v_R (fun hR0 => ?_)
  show V p l e rm_X0_joinTwo s m args below meth c D aC B lo hi 3 (MQ below (QI D aC B lo hi Q) args s 0 0 (AB B lo hi)) σ 0 [(0, .ref (B + 91)), (1, .int (iI a1)), (2, .int (iI a2))] []
  refine v_aload_n C 0 dX0_joinTwo_0 rfl rfl ?_
  refine gf0_field C hlo hhi w291 dX0_joinTwo_1 ?_
  refine v_aload_n C 0 dX0_joinTwo_4 rfl rfl ?_
  refine gf0_others C hlo hhi w295 dX0_joinTwo_5 ?_
  refine v_aload_n C 0 dX0_joinTwo_8 rfl rfl ?_
  refine gf0_state C hlo hhi w290 dX0_joinTwo_9 ?_
  refine gf7_branches C (SO_full hlo hhi kt1) w165 dX0_joinTwo_12 ?_
  refine v_iload_n C 1 dX0_joinTwo_15 rfl rfl ?_
  have k1 := h.1
  have h := h.2
  have k2 := h.1
  have h := h.2
  refine v_aaldB C (SO_full hlo hhi kt1) r1 k1 dX0_joinTwo_16 ?_
  refine v_aload_n C 0 dX0_joinTwo_17 rfl rfl ?_
  refine gf0_state C hlo hhi w290 dX0_joinTwo_18 ?_
  refine gf7_branches C (SO_full hlo hhi kt1) w165 dX0_joinTwo_21 ?_
  refine v_iload_n C 2 dX0_joinTwo_24 rfl rfl ?_
  have k3 := h.1
  have h := h.2
  have k4 := h.1
  have h := h.2
  refine v_aaldB C (SO_full hlo hhi kt1) r2 k3 dX0_joinTwo_25 ?_
  refine v_callv (i := 33) (As := [.ref (B + 98), .ref (B + ((σ 17 a1.toNat).toNat)), .ref (B + ((σ 17 a2.toNat).toNat))]) (rest := []) C (s_X2_multiply hlo hhi (PO_full hlo hhi kt98) (PO_br (SO_full hlo hhi kt1) k2) (PO_br (SO_full hlo hhi kt1) k4) h) w717 wy_X2_multiply ⟨rfl, rfl⟩ hd_X2_multiply ⟨Nat.le_of_ble_eq_true rfl, Nat.le_of_ble_eq_true rfl⟩ (Nat.le_trans hlo (Nat.zero_le _)) (Nat.lt_of_lt_of_le (by decide) hhi) rfl rfl rfl rfl (Nat.le_of_ble_eq_true rfl) dX0_joinTwo_26 (fun σ5 h => ?_)
  refine v_R (fun hRσ5 => ?_)
  refine v_aload_n C 0 dX0_joinTwo_29 rfl rfl ?_
  refine gf0_state C hlo hhi w290 dX0_joinTwo_30 ?_
  refine gf7_branches C (SO_full hlo hhi kt1) w165 dX0_joinTwo_33 ?_
  refine v_iload_n C 1 dX0_joinTwo_36 rfl rfl ?_
  have k6 := h.1
  have h := h.2
  have k7 := h.1
  have h := h.2
  refine v_aaldB C (SO_full hlo hhi kt1) r1 k6 dX0_joinTwo_37 ?_
  refine v_aload_n C 0 dX0_joinTwo_38 rfl rfl ?_
  refine gf0_others C hlo hhi w295 dX0_joinTwo_39 ?_
  refine v_callv (i := (σ5 17 a1.toNat).toNat) (As := [.ref (B + 98)]) (rest := []) C (s_X4_copy (PO_br (SO_full hlo hhi kt1) k7) (PO_full hlo hhi kt98) h) w595 wy_X4_copy ⟨rfl, rfl⟩ hd_X4_copy ⟨Nat.le_of_ble_eq_true rfl, Nat.le_of_ble_eq_true rfl⟩ (PO.lo (PO_br (SO_full hlo hhi kt1) k7)) (PO.hi (PO_br (SO_full hlo hhi kt1) k7)) (cel_of ((PO_br (SO_full hlo hhi kt1) k7)).1) rfl rfl rfl (Nat.le_of_ble_eq_true rfl) dX0_joinTwo_42 (fun σ8 h => ?_)
  refine v_R (fun hRσ8 => ?_)
  refine v_aload_n C 0 dX0_joinTwo_45 rfl rfl ?_
  refine gf0_state C hlo hhi w290 dX0_joinTwo_46 ?_
  refine gf7_branches C (SO_full hlo hhi kt1) w165 dX0_joinTwo_49 ?_
  refine v_iload_n C 2 dX0_joinTwo_52 rfl rfl ?_
  have k9 := h.1
  have h := h.2
  have k10 := h.1
  have h := h.2
  refine v_aaldB C (SO_full hlo hhi kt1) r2 k9 dX0_joinTwo_53 ?_
  refine v_aload_n C 0 dX0_joinTwo_54 rfl rfl ?_
  refine gf0_state C hlo hhi w290 dX0_joinTwo_55 ?_
  refine gf7_branches C (SO_full hlo hhi kt1) w165 dX0_joinTwo_58 ?_
  refine v_aload_n C 0 dX0_joinTwo_61 rfl rfl ?_
  refine gf0_state C hlo hhi w290 dX0_joinTwo_62 ?_
  refine gf7_branchCount C (SO_full hlo hhi kt1) w167 dX0_joinTwo_65 ?_
  refine v_iconst C dX0_joinTwo_68 ?_
  have k11 := h.1
  have h := h.2
  refine v_isub C dX0_joinTwo_69 ?_
  have k12 := h.1
  have h := h.2
  have k13 := h.1
  have h := h.2
  refine v_aaldB C (SO_full hlo hhi kt1) k11 k12 dX0_joinTwo_70 ?_
  refine v_callv (i := (σ8 17 a2.toNat).toNat) (As := [.ref (B + ((σ8 17 ((σ8 1 4) - 1).toNat).toNat))]) (rest := []) C (s_X4_copy (PO_br (SO_full hlo hhi kt1) k10) (PO_br (SO_full hlo hhi kt1) k13) h) w595 wy_X4_copy ⟨rfl, rfl⟩ hd_X4_copy ⟨Nat.le_of_ble_eq_true rfl, Nat.le_of_ble_eq_true rfl⟩ (PO.lo (PO_br (SO_full hlo hhi kt1) k10)) (PO.hi (PO_br (SO_full hlo hhi kt1) k10)) (cel_of ((PO_br (SO_full hlo hhi kt1) k10)).1) rfl rfl rfl (Nat.le_of_ble_eq_true rfl) dX0_joinTwo_71 (fun σ14 h => ?_)
  refine v_R (fun hRσ14 => ?_)
  refine v_aload_n C 0 dX0_joinTwo_74 rfl rfl ?_
  refine gf0_state C hlo hhi w290 dX0_joinTwo_75 ?_
  refine v_dup C rfl dX0_joinTwo_78 ?_
  refine gf7_branchCount C (SO_full hlo hhi kt1) w167 dX0_joinTwo_79 ?_
  refine v_iconst C dX0_joinTwo_82 ?_
  have k15 := h.1
  have h := h.2
  refine v_isub C dX0_joinTwo_83 ?_
  refine pf7_branchCount C (SO_full hlo hhi kt1) k15 w167 dX0_joinTwo_84 ?_
  refine v_nameS (fun σ16 eσ16 => ?_)
  have h := h σ16 eσ16
  refine v_R (fun hRσ16 => ?_)
  refine v_aload_n C 0 dX0_joinTwo_87 rfl rfl ?_
  refine gf0_state C hlo hhi w290 dX0_joinTwo_88 ?_
  refine v_callv (i := 1) (As := []) (rest := []) C (s_X7_sortBranches (SO_full hlo hhi kt1) h) w597 wy_X7_sortBranches ⟨rfl, rfl⟩ hd_X7_sortBranches ⟨Nat.le_of_ble_eq_true rfl, Nat.le_of_ble_eq_true rfl⟩ (SO.lo (SO_full hlo hhi kt1)) (SO.hi (SO_full hlo hhi kt1)) (cel_of ((SO_full hlo hhi kt1)).1) rfl rfl rfl (Nat.le_of_ble_eq_true rfl) dX0_joinTwo_91 (fun σ17 h => ?_)
  refine v_R (fun hRσ17 => ?_)
  refine v_aload_n C 0 dX0_joinTwo_94 rfl rfl ?_
  refine v_aload_n C 0 dX0_joinTwo_95 rfl rfl ?_
  refine gf0_others C hlo hhi w295 dX0_joinTwo_96 ?_
  refine v_calli (i := 91) (As := [.ref (B + 98)]) (rest := []) C (s_X0_findBranch hlo hhi (PO_full hlo hhi kt98) h) w718 wy_X0_findBranch ⟨rfl, rfl⟩ hd_X0_findBranch ⟨Nat.le_of_ble_eq_true rfl, Nat.le_of_ble_eq_true rfl⟩ (Nat.le_trans hlo (Nat.zero_le _)) (Nat.lt_of_lt_of_le (by decide) hhi) rfl rfl rfl rfl (Nat.le_of_ble_eq_true rfl) dX0_joinTwo_99 (fun z19 σ18 rz19 h => ?_)
  refine v_R (fun hRσ18 => ?_)
  exact v_iret C rz19 h dX0_joinTwo_102
-- SplitTowers$Branching.partBy(LSplitTowers$Poly;)V
def wp_X0_partBy (σ : SG) (q1 : Nat) (Q : SG → Prop) : Prop :=
  (∀ v1 : Int, v1 = (σ 1 4) → Lp1 (fun (rec4 : Int → SG → Prop) (x2 : Int) (σ3 : SG) => ((v1 ≤ x2 → wp_X7_sortBranches σ3 1 (fun (σ7 : SG) => Q σ7)) ∧ (¬ v1 ≤ x2 → ((0 ≤ x2 ∧ x2 < 6) ∧ BO 1 ((σ3 17 x2.toNat).toNat) ∧ wp_X2_commonFactor σ3 92 ((σ3 17 x2.toNat).toNat) q1 (fun (σ10 : SG) => (((σ10 92 1) ≤ 0 → (inR (x2 + 1) ∧ rec4 (x2 + 1) σ10)) ∧ (¬ (σ10 92 1) ≤ 0 → (((σ10 ((σ3 17 x2.toNat).toNat) 1) ≤ (σ10 92 1) → (inR (x2 + 1) ∧ rec4 (x2 + 1) σ10)) ∧ (¬ (σ10 ((σ3 17 x2.toNat).toNat) 1) ≤ (σ10 92 1) → wp_X2_divideWhole σ10 94 ((σ3 17 x2.toNat).toNat) 92 (fun (σ13 : SG) => wp_X4_copy σ13 ((σ3 17 x2.toNat).toNat) 92 (fun (σ14 : SG) => wp_X7_addBranch σ14 1 94 (fun (σ15 : SG) => (inR (x2 + 1) ∧ rec4 (x2 + 1) σ15))))))))))))) 0 σ)
def rm_X0_partBy : Room := { frames := 4, cells := 0, slots := 0, locals := 101 }
theorem wy_X0_partBy : Cond.instanceMethod yX0_partBy ∈ WS ∧ Cond.selects "SplitTowers$Branching" yX0_partBy yX0_partBy ∈ WS ∧ Cond.initialized "SplitTowers$Branching" ∈ WS ∧ Cond.code yX0_partBy prog_2_method_5_code 5 none ∈ WS := ⟨w587, w588, w75, w589⟩
theorem hd_X0_partBy : yX0_partBy.cls = "SplitTowers$Branching" ∧ yX0_partBy.cls ≠ "java/lang/invoke/MethodHandle" ∧ yX0_partBy.cls ≠ "java/lang/invoke/VarHandle" ∧ (parseMethodDescriptor yX0_partBy.desc).map (fun d => d.parameters.length) = some 1 := by decide +kernel
set_option maxHeartbeats 4000000 in
set_option maxRecDepth 100000 in
theorem s_X0_partBy {l : Launch} {D : va_G} {aC : Nat → ClassId} {B lo hi : Nat} {σ : SG} {q1 : Nat} {Q : SG → Prop} (hlo : lo ≤ 0) (hhi : 304 ≤ hi) (p1 : PO lo hi q1) (h : wp_X0_partBy σ q1 Q) : Met l yX0_partBy (Cond.code yX0_partBy prog_2_method_5_code 5 none :: WS) rm_X0_partBy (va_Pc [.ref (B + 91), .ref (B + q1)] (WP D aC B lo hi σ)) (QV D aC B lo hi Q) 0 0 (AB B lo hi) := by
  refine met_of (by decide +kernel) (by decide +kernel : yX0_partBy.cls = "SplitTowers$Branching") (Nat.le_of_ble_eq_true rfl) ?_
  intro p e s m args below meth c C
  unfold wp_X0_partBy at h
  refine v_R (fun hR0 => ?_)
  show V p l e rm_X0_partBy s m args below meth c D aC B lo hi 5 (MQ below (QV D aC B lo hi Q) args s 0 0 (AB B lo hi)) σ 0 [(0, .ref (B + 91)), (1, .ref (B + q1))] []
  refine v_aload_n C 0 dX0_partBy_0 rfl rfl ?_
  refine gf0_state C hlo hhi w290 dX0_partBy_1 ?_
  refine gf7_branchCount C (SO_full hlo hhi kt1) w167 dX0_partBy_4 ?_
  refine v_name (fun v1 ev1 => ?_)
  have h := h v1 ev1
  have rv1 : inR v1 := by rw [ev1]; exact (hR0 1 4)
  refine v_istore_n (lv' := [(2, .int (iI v1)), (0, .ref (B + 91)), (1, .ref (B + q1))]) C dX0_partBy_7 rfl (by decide) rfl ?_
  refine v_iconst C dX0_partBy_8 ?_
  refine v_istore_n (lv' := [(3, .int (iI 0)), (2, .int (iI v1)), (0, .ref (B + 91)), (1, .ref (B + q1))]) C dX0_partBy_9 rfl (by decide) rfl ?_
  obtain ⟨I20, ⟨n21, hnn21⟩, hII20⟩ := h
  have key6 : ∀ (n : Nat) (x2 : Int) (σ3 : SG), I20 n x2 σ3 → inR x2 → V p l e rm_X0_partBy s m args below meth c D aC B lo hi 5 (MQ below (QV D aC B lo hi Q) args s 0 0 (AB B lo hi)) σ3 10 [(3, .int (iI x2)), (2, .int (iI v1)), (0, .ref (B + 91)), (1, .ref (B + q1))] [] := by
    intro n
    induction n using Nat.strongRecOn with
    | ind n ih5 =>
      intro x2 σ3 hn rx2
      have h := hII20 n x2 σ3 hn
      refine v_R (fun hRσ3 => ?_)
      refine v_iload_n C 0 dX0_partBy_10 rfl rfl ?_
      refine v_iload_n C 1 dX0_partBy_11 rfl rfl ?_
      refine v_icmp_ge C rx2 rv1 108 dX0_partBy_12 (by decide) (fun c19 => ?_) (fun c19 => ?_)
      · have h := h.1 c19
        refine v_aload_n C 2 dX0_partBy_108 rfl rfl ?_
        refine gf0_state C hlo hhi w290 dX0_partBy_109 ?_
        refine v_callv (i := 1) (As := []) (rest := []) C (s_X7_sortBranches (SO_full hlo hhi kt1) h) w597 wy_X7_sortBranches ⟨rfl, rfl⟩ hd_X7_sortBranches ⟨Nat.le_of_ble_eq_true rfl, Nat.le_of_ble_eq_true rfl⟩ (SO.lo (SO_full hlo hhi kt1)) (SO.hi (SO_full hlo hhi kt1)) (cel_of ((SO_full hlo hhi kt1)).1) rfl rfl rfl (Nat.le_of_ble_eq_true rfl) dX0_partBy_112 (fun σ7 h => ?_)
        refine v_R (fun hRσ7 => ?_)
        exact v_vret C h dX0_partBy_115
      · have h := h.2 c19
        refine v_aload_n C 2 dX0_partBy_15 rfl rfl ?_
        refine gf0_state C hlo hhi w290 dX0_partBy_16 ?_
        refine gf7_branches C (SO_full hlo hhi kt1) w165 dX0_partBy_19 ?_
        refine v_iload_n C 0 dX0_partBy_22 rfl rfl ?_
        have k8 := h.1
        have h := h.2
        have k9 := h.1
        have h := h.2
        refine v_aaldB C (SO_full hlo hhi kt1) rx2 k8 dX0_partBy_23 ?_
        refine v_astore (lv' := [(4, .ref (B + ((σ3 17 x2.toNat).toNat))), (3, .int (iI x2)), (2, .int (iI v1)), (0, .ref (B + 91)), (1, .ref (B + q1))]) C dX0_partBy_24 (by decide) rfl ?_
        refine v_aload_n C 3 dX0_partBy_26 rfl rfl ?_
        refine gf0_field C hlo hhi w291 dX0_partBy_27 ?_
        refine v_aload_n C 3 dX0_partBy_30 rfl rfl ?_
        refine gf0_common C hlo hhi w292 dX0_partBy_31 ?_
        refine v_aload C 0 dX0_partBy_34 rfl ?_
        refine v_aload_n C 4 dX0_partBy_36 rfl rfl ?_
        refine v_callv (i := 33) (As := [.ref (B + 92), .ref (B + ((σ3 17 x2.toNat).toNat)), .ref (B + q1)]) (rest := []) C (s_X2_commonFactor hlo hhi (PO_full hlo hhi kt92) (PO_br (SO_full hlo hhi kt1) k9) p1 h) w590 wy_X2_commonFactor ⟨rfl, rfl⟩ hd_X2_commonFactor ⟨Nat.le_of_ble_eq_true rfl, Nat.le_of_ble_eq_true rfl⟩ (Nat.le_trans hlo (Nat.zero_le _)) (Nat.lt_of_lt_of_le (by decide) hhi) rfl rfl rfl rfl (Nat.le_of_ble_eq_true rfl) dX0_partBy_37 (fun σ10 h => ?_)
        refine v_R (fun hRσ10 => ?_)
        refine v_aload_n C 3 dX0_partBy_40 rfl rfl ?_
        refine gf0_common C hlo hhi w292 dX0_partBy_41 ?_
        refine gf4_degree C (PO_full hlo hhi kt92) w102 dX0_partBy_44 ?_
        refine v_if_le C (hRσ10 92 1) 102 dX0_partBy_47 (by decide) (fun c18 => ?_) (fun c18 => ?_)
        · have h := h.1 c18
          have k11 := h.1
          have h := h.2
          refine v_iinc (lv' := [(3, .int (iI (x2 + 1))), (4, .ref (B + ((σ3 17 x2.toNat).toNat))), (2, .int (iI v1)), (0, .ref (B + 91)), (1, .ref (B + q1))]) C 1 dX0_partBy_102 rfl (by decide) rfl ?_
          refine v_goto C 10 dX0_partBy_105 (by decide) ?_
          obtain ⟨m9, hm9, h⟩ := h
          refine v_sub [0, 2, 3, 4] rfl ?_
          exact ih5 m9 hm9 (x2 + 1) σ10 h k11
        · have h := h.2 c18
          refine v_aload_n C 3 dX0_partBy_50 rfl rfl ?_
          refine gf0_common C hlo hhi w292 dX0_partBy_51 ?_
          refine gf4_degree C (PO_full hlo hhi kt92) w102 dX0_partBy_54 ?_
          refine v_aload C 0 dX0_partBy_57 rfl ?_
          refine gf4_degree C (PO_br (SO_full hlo hhi kt1) k9) w102 dX0_partBy_59 ?_
          refine v_icmp_ge C (hRσ10 92 1) (hRσ10 ((σ3 17 x2.toNat).toNat) 1) 102 dX0_partBy_62 (by decide) (fun c17 => ?_) (fun c17 => ?_)
          · have h := h.1 c17
            have k12 := h.1
            have h := h.2
            refine v_iinc (lv' := [(3, .int (iI (x2 + 1))), (4, .ref (B + ((σ3 17 x2.toNat).toNat))), (2, .int (iI v1)), (0, .ref (B + 91)), (1, .ref (B + q1))]) C 1 dX0_partBy_102 rfl (by decide) rfl ?_
            refine v_goto C 10 dX0_partBy_105 (by decide) ?_
            obtain ⟨m9, hm9, h⟩ := h
            refine v_sub [0, 2, 3, 4] rfl ?_
            exact ih5 m9 hm9 (x2 + 1) σ10 h k12
          · have h := h.2 c17
            refine v_aload_n C 3 dX0_partBy_65 rfl rfl ?_
            refine gf0_field C hlo hhi w291 dX0_partBy_66 ?_
            refine v_aload_n C 3 dX0_partBy_69 rfl rfl ?_
            refine gf0_rest C hlo hhi w293 dX0_partBy_70 ?_
            refine v_aload C 0 dX0_partBy_73 rfl ?_
            refine v_aload_n C 3 dX0_partBy_75 rfl rfl ?_
            refine gf0_common C hlo hhi w292 dX0_partBy_76 ?_
            refine v_callv (i := 33) (As := [.ref (B + 94), .ref (B + ((σ3 17 x2.toNat).toNat)), .ref (B + 92)]) (rest := []) C (s_X2_divideWhole hlo hhi (PO_full hlo hhi kt94) (PO_br (SO_full hlo hhi kt1) k9) (PO_full hlo hhi kt92) h) w591 wy_X2_divideWhole ⟨rfl, rfl⟩ hd_X2_divideWhole ⟨Nat.le_of_ble_eq_true rfl, Nat.le_of_ble_eq_true rfl⟩ (Nat.le_trans hlo (Nat.zero_le _)) (Nat.lt_of_lt_of_le (by decide) hhi) rfl rfl rfl rfl (Nat.le_of_ble_eq_true rfl) dX0_partBy_79 (fun σ13 h => ?_)
            refine v_R (fun hRσ13 => ?_)
            refine v_aload C 0 dX0_partBy_82 rfl ?_
            refine v_aload_n C 3 dX0_partBy_84 rfl rfl ?_
            refine gf0_common C hlo hhi w292 dX0_partBy_85 ?_
            refine v_callv (i := (σ3 17 x2.toNat).toNat) (As := [.ref (B + 92)]) (rest := []) C (s_X4_copy (PO_br (SO_full hlo hhi kt1) k9) (PO_full hlo hhi kt92) h) w595 wy_X4_copy ⟨rfl, rfl⟩ hd_X4_copy ⟨Nat.le_of_ble_eq_true rfl, Nat.le_of_ble_eq_true rfl⟩ (PO.lo (PO_br (SO_full hlo hhi kt1) k9)) (PO.hi (PO_br (SO_full hlo hhi kt1) k9)) (cel_of ((PO_br (SO_full hlo hhi kt1) k9)).1) rfl rfl rfl (Nat.le_of_ble_eq_true rfl) dX0_partBy_88 (fun σ14 h => ?_)
            refine v_R (fun hRσ14 => ?_)
            refine v_aload_n C 3 dX0_partBy_91 rfl rfl ?_
            refine gf0_state C hlo hhi w290 dX0_partBy_92 ?_
            refine v_aload_n C 3 dX0_partBy_95 rfl rfl ?_
            refine gf0_rest C hlo hhi w293 dX0_partBy_96 ?_
            refine v_callv (i := 1) (As := [.ref (B + 94)]) (rest := []) C (s_X7_addBranch (SO_full hlo hhi kt1) (PO_full hlo hhi kt94) h) w596 wy_X7_addBranch ⟨rfl, rfl⟩ hd_X7_addBranch ⟨Nat.le_of_ble_eq_true rfl, Nat.le_of_ble_eq_true rfl⟩ (SO.lo (SO_full hlo hhi kt1)) (SO.hi (SO_full hlo hhi kt1)) (cel_of ((SO_full hlo hhi kt1)).1) rfl rfl rfl (Nat.le_of_ble_eq_true rfl) dX0_partBy_99 (fun σ15 h => ?_)
            refine v_R (fun hRσ15 => ?_)
            have k16 := h.1
            have h := h.2
            refine v_iinc (lv' := [(3, .int (iI (x2 + 1))), (4, .ref (B + ((σ3 17 x2.toNat).toNat))), (2, .int (iI v1)), (0, .ref (B + 91)), (1, .ref (B + q1))]) C 1 dX0_partBy_102 rfl (by decide) rfl ?_
            refine v_goto C 10 dX0_partBy_105 (by decide) ?_
            obtain ⟨m9, hm9, h⟩ := h
            refine v_sub [0, 2, 3, 4] rfl ?_
            exact ih5 m9 hm9 (x2 + 1) σ15 h k16
  exact key6 n21 0 σ hnn21 (by decide)
