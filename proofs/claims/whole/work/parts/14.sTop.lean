-- SplitTowers.isRegister(I)Z
def wp_X9_isRegister (σ : SG) (a1 : Int) (Q : Int → SG → Prop) : Prop :=
  ((a1 < 0 → Q 0 σ) ∧ (¬ a1 < 0 → ((6 ≤ a1 → Q 0 σ) ∧ (¬ 6 ≤ a1 → Q 1 σ))))
def rm_X9_isRegister : Room := { frames := 0, cells := 0, slots := 0, locals := 0 }
theorem wy_X9_isRegister : Cond.static yX9_isRegister ∈ WS ∧ Cond.initialized "SplitTowers" ∈ WS ∧ Cond.code yX9_isRegister prog_1_method_29_code 1 (some .boolean) ∈ WS := ⟨w536, w68, w537⟩
theorem hd_X9_isRegister : yX9_isRegister.cls ≠ "java/lang/invoke/MethodHandle" ∧ yX9_isRegister.cls ≠ "java/lang/invoke/VarHandle" ∧ (parseMethodDescriptor yX9_isRegister.desc).map (fun d => d.parameters.length) = some 1 := by decide +kernel
set_option maxHeartbeats 4000000 in
set_option maxRecDepth 100000 in
theorem s_X9_isRegister {l : Launch} {D : va_G} {aC : Nat → ClassId} {B lo hi : Nat} {σ : SG} {a1 : Int} {Q : Int → SG → Prop} (hlo : lo ≤ 0) (hhi : 304 ≤ hi) (r1 : inR a1) (h : wp_X9_isRegister σ a1 Q) : Met l yX9_isRegister (Cond.code yX9_isRegister prog_1_method_29_code 1 (some .boolean) :: WS) rm_X9_isRegister (va_Pc [.int (iI a1)] (WP D aC B lo hi σ)) (QI D aC B lo hi Q) 0 0 (AB B lo hi) := by
  refine met_of (by decide +kernel) (by decide +kernel : yX9_isRegister.cls = "SplitTowers") (Nat.le_of_ble_eq_true rfl) ?_
  intro p e s m args below meth c C
  unfold wp_X9_isRegister at h
  refine v_R (fun hR0 => ?_)
  show V p l e rm_X9_isRegister s m args below meth c D aC B lo hi 1 (MQ below (QI D aC B lo hi Q) args s 0 0 (AB B lo hi)) σ 0 [(0, .int (iI a1))] []
  refine v_iload_n C 0 dX9_isRegister_0 rfl rfl ?_
  refine v_if_lt C r1 14 dX9_isRegister_1 (by decide) (fun c2 => ?_) (fun c2 => ?_)
  · have h := h.1 c2
    refine v_iconst C dX9_isRegister_14 ?_
    exact v_zret C (by decide) h dX9_isRegister_15
  · have h := h.2 c2
    refine v_iload_n C 0 dX9_isRegister_4 rfl rfl ?_
    refine v_bipush C dX9_isRegister_5 (by decide) ?_
    refine v_icmp_ge C r1 (by decide) 14 dX9_isRegister_7 (by decide) (fun c1 => ?_) (fun c1 => ?_)
    · have h := h.1 c1
      refine v_iconst C dX9_isRegister_14 ?_
      exact v_zret C (by decide) h dX9_isRegister_15
    · have h := h.2 c1
      refine v_iconst C dX9_isRegister_10 ?_
      refine v_goto C 15 dX9_isRegister_11 (by decide) ?_
      exact v_zret C (by decide) h dX9_isRegister_15
-- SplitTowers.assign()I
def wp_X9_assign (σ : SG)  (Q : Int → SG → Prop) : Prop :=
  wp_X8_assignmentFault σ (fun (z2 : Int) (σ1 : SG) => ((z2 < 0 → wp_X8_at σ1 0 (fun (z4 : Int) (σ3 : SG) => (inR (z4 - 97) ∧ (∀ v6 : Int, v6 = z4 - 97 → wp_X9_isRegister σ3 v6 (fun (z8 : Int) (σ7 : SG) => ((¬ z8 = 0 → wp_X3_record σ7 1 (fun (σ9 : SG) => ((0 ≤ v6 ∧ v6 < 6) ∧ wp_X5_reckon σ9 (1 + 3 + 1 + 2 * v6.toNat) (fun (σ11 : SG) => Q (σ11 1 4) σ11)))) ∧ (z8 = 0 → Q (-100) σ7))))))) ∧ (¬ z2 < 0 → (inR ((-100) - z2) ∧ Q ((-100) - z2) σ1))))
def rm_X9_assign : Room := { frames := 7, cells := 0, slots := 0, locals := 171 }
theorem wy_X9_assign : Cond.instanceMethod yX9_assign ∈ WS ∧ Cond.selects "SplitTowers" yX9_assign yX9_assign ∈ WS ∧ Cond.initialized "SplitTowers" ∈ WS ∧ Cond.code yX9_assign prog_1_method_5_code 3 (some .int) ∈ WS := ⟨w545, w546, w68, w547⟩
theorem hd_X9_assign : yX9_assign.cls = "SplitTowers" ∧ yX9_assign.cls ≠ "java/lang/invoke/MethodHandle" ∧ yX9_assign.cls ≠ "java/lang/invoke/VarHandle" ∧ (parseMethodDescriptor yX9_assign.desc).map (fun d => d.parameters.length) = some 0 := by decide +kernel
set_option maxHeartbeats 4000000 in
set_option maxRecDepth 100000 in
theorem s_X9_assign {l : Launch} {D : va_G} {aC : Nat → ClassId} {B lo hi : Nat} {σ : SG}  {Q : Int → SG → Prop} (hlo : lo ≤ 0) (hhi : 304 ≤ hi) (h : wp_X9_assign σ  Q) : Met l yX9_assign (Cond.code yX9_assign prog_1_method_5_code 3 (some .int) :: WS) rm_X9_assign (va_Pc [.ref (B + 0)] (WP D aC B lo hi σ)) (QI D aC B lo hi Q) 0 0 (AB B lo hi) := by
  refine met_of (by decide +kernel) (by decide +kernel : yX9_assign.cls = "SplitTowers") (Nat.le_of_ble_eq_true rfl) ?_
  intro p e s m args below meth c C
  unfold wp_X9_assign at h
  refine v_R (fun hR0 => ?_)
  show V p l e rm_X9_assign s m args below meth c D aC B lo hi 3 (MQ below (QI D aC B lo hi Q) args s 0 0 (AB B lo hi)) σ 0 [(0, .ref (B + 0))] []
  refine v_aload_n C 0 dX9_assign_0 rfl rfl ?_
  refine gf9_text C hlo hhi w409 dX9_assign_1 ?_
  refine v_calli (i := 30) (As := []) (rest := []) C (s_X8_assignmentFault hlo hhi h) w548 wy_X8_assignmentFault ⟨rfl, rfl⟩ hd_X8_assignmentFault ⟨Nat.le_of_ble_eq_true rfl, Nat.le_of_ble_eq_true rfl⟩ (Nat.le_trans hlo (Nat.zero_le _)) (Nat.lt_of_lt_of_le (by decide) hhi) rfl rfl rfl rfl (Nat.le_of_ble_eq_true rfl) dX9_assign_4 (fun z2 σ1 rz2 h => ?_)
  refine v_R (fun hRσ1 => ?_)
  refine v_istore_n (lv' := [(1, .int (iI z2)), (0, .ref (B + 0))]) C dX9_assign_7 rfl (by decide) rfl ?_
  refine v_iload_n C 0 dX9_assign_8 rfl rfl ?_
  refine v_if_lt C rz2 17 dX9_assign_9 (by decide) (fun c14 => ?_) (fun c14 => ?_)
  · have h := h.1 c14
    refine v_aload_n C 1 dX9_assign_17 rfl rfl ?_
    refine gf9_text C hlo hhi w409 dX9_assign_18 ?_
    refine v_iconst C dX9_assign_21 ?_
    refine v_calli (i := 30) (As := [.int (iI 0)]) (rest := []) C (s_X8_at hlo hhi (by decide) h) w562 wy_X8_at ⟨rfl, rfl⟩ hd_X8_at ⟨Nat.le_of_ble_eq_true rfl, Nat.le_of_ble_eq_true rfl⟩ (Nat.le_trans hlo (Nat.zero_le _)) (Nat.lt_of_lt_of_le (by decide) hhi) rfl rfl rfl rfl (Nat.le_of_ble_eq_true rfl) dX9_assign_22 (fun z4 σ3 rz4 h => ?_)
    refine v_R (fun hRσ3 => ?_)
    refine v_bipush C dX9_assign_25 (by decide) ?_
    have k5 := h.1
    have h := h.2
    refine v_isub C dX9_assign_27 ?_
    refine v_name (fun v6 ev6 => ?_)
    have h := h v6 ev6
    have rv6 : inR v6 := by rw [ev6]; exact k5
    refine v_istore_n (lv' := [(2, .int (iI v6)), (1, .int (iI z2)), (0, .ref (B + 0))]) C dX9_assign_28 rfl (by decide) rfl ?_
    refine v_iload_n C 0 dX9_assign_29 rfl rfl ?_
    refine v_callsi (As := [.int (iI v6)]) (rest := []) C (s_X9_isRegister hlo hhi rv6 h) w535 wy_X9_isRegister ⟨rfl, rfl⟩ hd_X9_isRegister ⟨Nat.le_of_ble_eq_true rfl, Nat.le_of_ble_eq_true rfl⟩ rfl rfl (Nat.le_of_ble_eq_true rfl) dX9_assign_30 (fun z8 σ7 rz8 h => ?_)
    refine v_R (fun hRσ7 => ?_)
    refine v_if_ne C rz8 39 dX9_assign_33 (by decide) (fun c12 => ?_) (fun c12 => ?_)
    · have h := h.1 c12
      refine v_aload_n C 2 dX9_assign_39 rfl rfl ?_
      refine gf9_history C hlo hhi w408 dX9_assign_40 ?_
      refine v_aload_n C 2 dX9_assign_43 rfl rfl ?_
      refine gf9_now C hlo hhi w405 dX9_assign_44 ?_
      refine v_callv (i := 184) (As := [.ref (B + 1)]) (rest := []) C (s_X3_record hlo hhi (SO_full hlo hhi kt1) h) w446 wy_X3_record ⟨rfl, rfl⟩ hd_X3_record ⟨Nat.le_of_ble_eq_true rfl, Nat.le_of_ble_eq_true rfl⟩ (Nat.le_trans hlo (Nat.zero_le _)) (Nat.lt_of_lt_of_le (by decide) hhi) rfl rfl rfl rfl (Nat.le_of_ble_eq_true rfl) dX9_assign_47 (fun σ9 h => ?_)
      refine v_R (fun hRσ9 => ?_)
      refine v_aload_n C 2 dX9_assign_50 rfl rfl ?_
      refine gf9_reckoner C hlo hhi w414 dX9_assign_51 ?_
      refine v_aload_n C 2 dX9_assign_54 rfl rfl ?_
      refine gf9_now C hlo hhi w405 dX9_assign_55 ?_
      refine gf7_registers C (SO_full hlo hhi kt1) w162 dX9_assign_58 ?_
      refine v_iload_n C 0 dX9_assign_61 rfl rfl ?_
      have k10 := h.1
      have h := h.2
      refine v_aaldR C (SO_full hlo hhi kt1) rv6 k10 dX9_assign_62 ?_
      refine v_callv (i := 124) (As := [.ref (B + (1 + 3 + 1 + 2 * v6.toNat))]) (rest := []) C (s_X5_reckon hlo hhi (PO_reg (SO_full hlo hhi kt1) (k10).1 (k10).2) h) w563 wy_X5_reckon ⟨rfl, rfl⟩ hd_X5_reckon ⟨Nat.le_of_ble_eq_true rfl, Nat.le_of_ble_eq_true rfl⟩ (Nat.le_trans hlo (Nat.zero_le _)) (Nat.lt_of_lt_of_le (by decide) hhi) rfl rfl rfl rfl (Nat.le_of_ble_eq_true rfl) dX9_assign_63 (fun σ11 h => ?_)
      refine v_R (fun hRσ11 => ?_)
      refine v_aload_n C 2 dX9_assign_66 rfl rfl ?_
      refine gf9_now C hlo hhi w405 dX9_assign_67 ?_
      refine gf7_branchCount C (SO_full hlo hhi kt1) w169 dX9_assign_70 ?_
      exact v_iret C (hRσ11 1 4) h dX9_assign_73
    · have h := h.2 c12
      refine v_bipush C dX9_assign_36 (by decide) ?_
      exact v_iret C (by decide) h dX9_assign_38
  · have h := h.2 c14
    refine v_bipush C dX9_assign_12 (by decide) ?_
    refine v_iload_n C 0 dX9_assign_14 rfl rfl ?_
    have k13 := h.1
    have h := h.2
    refine v_isub C dX9_assign_15 ?_
    exact v_iret C k13 h dX9_assign_16
-- SplitTowers.isBranch(I)Z
def wp_X9_isBranch (σ : SG) (a1 : Int) (Q : Int → SG → Prop) : Prop :=
  ((a1 < 0 → Q 0 σ) ∧ (¬ a1 < 0 → (((σ 1 4) ≤ a1 → Q 0 σ) ∧ (¬ (σ 1 4) ≤ a1 → Q 1 σ))))
def rm_X9_isBranch : Room := { frames := 0, cells := 0, slots := 0, locals := 0 }
theorem wy_X9_isBranch : Cond.instanceMethod yX9_isBranch ∈ WS ∧ Cond.selects "SplitTowers" yX9_isBranch yX9_isBranch ∈ WS ∧ Cond.initialized "SplitTowers" ∈ WS ∧ Cond.code yX9_isBranch prog_1_method_30_code 2 (some .boolean) ∈ WS := ⟨w662, w10, w68, w663⟩
theorem hd_X9_isBranch : yX9_isBranch.cls = "SplitTowers" ∧ yX9_isBranch.cls ≠ "java/lang/invoke/MethodHandle" ∧ yX9_isBranch.cls ≠ "java/lang/invoke/VarHandle" ∧ (parseMethodDescriptor yX9_isBranch.desc).map (fun d => d.parameters.length) = some 1 := by decide +kernel
set_option maxHeartbeats 4000000 in
set_option maxRecDepth 100000 in
theorem s_X9_isBranch {l : Launch} {D : va_G} {aC : Nat → ClassId} {B lo hi : Nat} {σ : SG} {a1 : Int} {Q : Int → SG → Prop} (hlo : lo ≤ 0) (hhi : 304 ≤ hi) (r1 : inR a1) (h : wp_X9_isBranch σ a1 Q) : Met l yX9_isBranch (Cond.code yX9_isBranch prog_1_method_30_code 2 (some .boolean) :: WS) rm_X9_isBranch (va_Pc [.ref (B + 0), .int (iI a1)] (WP D aC B lo hi σ)) (QI D aC B lo hi Q) 0 0 (AB B lo hi) := by
  refine met_of (by decide +kernel) (by decide +kernel : yX9_isBranch.cls = "SplitTowers") (Nat.le_of_ble_eq_true rfl) ?_
  intro p e s m args below meth c C
  unfold wp_X9_isBranch at h
  refine v_R (fun hR0 => ?_)
  show V p l e rm_X9_isBranch s m args below meth c D aC B lo hi 2 (MQ below (QI D aC B lo hi Q) args s 0 0 (AB B lo hi)) σ 0 [(0, .ref (B + 0)), (1, .int (iI a1))] []
  refine v_iload_n C 1 dX9_isBranch_0 rfl rfl ?_
  refine v_if_lt C r1 19 dX9_isBranch_1 (by decide) (fun c2 => ?_) (fun c2 => ?_)
  · have h := h.1 c2
    refine v_iconst C dX9_isBranch_19 ?_
    exact v_zret C (by decide) h dX9_isBranch_20
  · have h := h.2 c2
    refine v_iload_n C 1 dX9_isBranch_4 rfl rfl ?_
    refine v_aload_n C 0 dX9_isBranch_5 rfl rfl ?_
    refine gf9_now C hlo hhi w405 dX9_isBranch_6 ?_
    refine gf7_branchCount C (SO_full hlo hhi kt1) w169 dX9_isBranch_9 ?_
    refine v_icmp_ge C r1 (hR0 1 4) 19 dX9_isBranch_12 (by decide) (fun c1 => ?_) (fun c1 => ?_)
    · have h := h.1 c1
      refine v_iconst C dX9_isBranch_19 ?_
      exact v_zret C (by decide) h dX9_isBranch_20
    · have h := h.2 c1
      refine v_iconst C dX9_isBranch_15 ?_
      refine v_goto C 20 dX9_isBranch_16 (by decide) ?_
      exact v_zret C (by decide) h dX9_isBranch_20
-- SplitTowers.coefficientTold(LSplitTowers$Poly;I)I
def wp_X9_coefficientTold (σ : SG) (q1 : Nat) (a2 : Int) (Q : Int → SG → Prop) : Prop :=
  ((0 ≤ a2 → ((a2 ≤ (σ q1 1) → wp_X4_at σ q1 a2 (fun (z2 : Int) (σ1 : SG) => Q z2 σ1)) ∧ (¬ a2 ≤ (σ q1 1) → Q (-5) σ))) ∧ (¬ 0 ≤ a2 → Q (-2) σ))
def rm_X9_coefficientTold : Room := { frames := 1, cells := 0, slots := 0, locals := 21 }
theorem wy_X9_coefficientTold : Cond.static yX9_coefficientTold ∈ WS ∧ Cond.initialized "SplitTowers" ∈ WS ∧ Cond.code yX9_coefficientTold prog_1_method_33_code 2 (some .int) ∈ WS := ⟨w766, w68, w767⟩
theorem hd_X9_coefficientTold : yX9_coefficientTold.cls ≠ "java/lang/invoke/MethodHandle" ∧ yX9_coefficientTold.cls ≠ "java/lang/invoke/VarHandle" ∧ (parseMethodDescriptor yX9_coefficientTold.desc).map (fun d => d.parameters.length) = some 2 := by decide +kernel
set_option maxHeartbeats 4000000 in
set_option maxRecDepth 100000 in
theorem s_X9_coefficientTold {l : Launch} {D : va_G} {aC : Nat → ClassId} {B lo hi : Nat} {σ : SG} {q1 : Nat} {a2 : Int} {Q : Int → SG → Prop} (hlo : lo ≤ 0) (hhi : 304 ≤ hi) (p1 : PO lo hi q1) (r2 : inR a2) (h : wp_X9_coefficientTold σ q1 a2 Q) : Met l yX9_coefficientTold (Cond.code yX9_coefficientTold prog_1_method_33_code 2 (some .int) :: WS) rm_X9_coefficientTold (va_Pc [.ref (B + q1), .int (iI a2)] (WP D aC B lo hi σ)) (QI D aC B lo hi Q) 0 0 (AB B lo hi) := by
  refine met_of (by decide +kernel) (by decide +kernel : yX9_coefficientTold.cls = "SplitTowers") (Nat.le_of_ble_eq_true rfl) ?_
  intro p e s m args below meth c C
  unfold wp_X9_coefficientTold at h
  refine v_R (fun hR0 => ?_)
  show V p l e rm_X9_coefficientTold s m args below meth c D aC B lo hi 2 (MQ below (QI D aC B lo hi Q) args s 0 0 (AB B lo hi)) σ 0 [(0, .ref (B + q1)), (1, .int (iI a2))] []
  refine v_iload_n C 1 dX9_coefficientTold_0 rfl rfl ?_
  refine v_if_ge C r2 7 dX9_coefficientTold_1 (by decide) (fun c4 => ?_) (fun c4 => ?_)
  · have h := h.1 c4
    refine v_iload_n C 1 dX9_coefficientTold_7 rfl rfl ?_
    refine v_aload_n C 0 dX9_coefficientTold_8 rfl rfl ?_
    refine gf4_degree C p1 w104 dX9_coefficientTold_9 ?_
    refine v_icmp_le C r2 (hR0 q1 1) 20 dX9_coefficientTold_12 (by decide) (fun c3 => ?_) (fun c3 => ?_)
    · have h := h.1 c3
      refine v_aload_n C 0 dX9_coefficientTold_20 rfl rfl ?_
      refine v_iload_n C 1 dX9_coefficientTold_21 rfl rfl ?_
      refine v_calli (i := q1) (As := [.int (iI a2)]) (rest := []) C (s_X4_at p1 r2 h) w542 wy_X4_at ⟨rfl, rfl⟩ hd_X4_at ⟨Nat.le_of_ble_eq_true rfl, Nat.le_of_ble_eq_true rfl⟩ (PO.lo p1) (PO.hi p1) (cel_of (p1).1) rfl rfl rfl (Nat.le_of_ble_eq_true rfl) dX9_coefficientTold_22 (fun z2 σ1 rz2 h => ?_)
      refine v_R (fun hRσ1 => ?_)
      exact v_iret C rz2 h dX9_coefficientTold_25
    · have h := h.2 c3
      refine v_bipush C dX9_coefficientTold_15 (by decide) ?_
      refine v_goto C 25 dX9_coefficientTold_17 (by decide) ?_
      exact v_iret C (by decide) h dX9_coefficientTold_25
  · have h := h.2 c4
    refine v_bipush C dX9_coefficientTold_4 (by decide) ?_
    exact v_iret C (by decide) h dX9_coefficientTold_6
-- SplitTowers.branch(II)I
def wp_X9_branch (σ : SG) (a1 : Int) (a2 : Int) (Q : Int → SG → Prop) : Prop :=
  wp_X9_isBranch σ a1 (fun (z2 : Int) (σ1 : SG) => ((z2 = 0 → Q (-1) σ1) ∧ (¬ z2 = 0 → ((0 ≤ a1 ∧ a1 < 6) ∧ BO 1 ((σ1 17 a1.toNat).toNat) ∧ wp_X9_coefficientTold σ1 ((σ1 17 a1.toNat).toNat) a2 (fun (z6 : Int) (σ5 : SG) => Q z6 σ5)))))
def rm_X9_branch : Room := { frames := 2, cells := 0, slots := 0, locals := 42 }
theorem wy_X9_branch : Cond.instanceMethod yX9_branch ∈ WS ∧ Cond.selects "SplitTowers" yX9_branch yX9_branch ∈ WS ∧ Cond.initialized "SplitTowers" ∈ WS ∧ Cond.code yX9_branch prog_1_method_18_code 3 (some .int) ∈ WS := ⟨w773, w774, w68, w775⟩
theorem hd_X9_branch : yX9_branch.cls = "SplitTowers" ∧ yX9_branch.cls ≠ "java/lang/invoke/MethodHandle" ∧ yX9_branch.cls ≠ "java/lang/invoke/VarHandle" ∧ (parseMethodDescriptor yX9_branch.desc).map (fun d => d.parameters.length) = some 2 := by decide +kernel
set_option maxHeartbeats 4000000 in
set_option maxRecDepth 100000 in
theorem s_X9_branch {l : Launch} {D : va_G} {aC : Nat → ClassId} {B lo hi : Nat} {σ : SG} {a1 : Int} {a2 : Int} {Q : Int → SG → Prop} (hlo : lo ≤ 0) (hhi : 304 ≤ hi) (r1 : inR a1) (r2 : inR a2) (h : wp_X9_branch σ a1 a2 Q) : Met l yX9_branch (Cond.code yX9_branch prog_1_method_18_code 3 (some .int) :: WS) rm_X9_branch (va_Pc [.ref (B + 0), .int (iI a1), .int (iI a2)] (WP D aC B lo hi σ)) (QI D aC B lo hi Q) 0 0 (AB B lo hi) := by
  refine met_of (by decide +kernel) (by decide +kernel : yX9_branch.cls = "SplitTowers") (Nat.le_of_ble_eq_true rfl) ?_
  intro p e s m args below meth c C
  unfold wp_X9_branch at h
  refine v_R (fun hR0 => ?_)
  show V p l e rm_X9_branch s m args below meth c D aC B lo hi 3 (MQ below (QI D aC B lo hi Q) args s 0 0 (AB B lo hi)) σ 0 [(0, .ref (B + 0)), (1, .int (iI a1)), (2, .int (iI a2))] []
  refine v_aload_n C 0 dX9_branch_0 rfl rfl ?_
  refine v_iload_n C 1 dX9_branch_1 rfl rfl ?_
  refine v_calli (i := 0) (As := [.int (iI a1)]) (rest := []) C (s_X9_isBranch hlo hhi r1 h) w660 wy_X9_isBranch ⟨rfl, rfl⟩ hd_X9_isBranch ⟨Nat.le_of_ble_eq_true rfl, Nat.le_of_ble_eq_true rfl⟩ (Nat.le_trans hlo (Nat.zero_le _)) (Nat.lt_of_lt_of_le (by decide) hhi) rfl rfl rfl rfl (Nat.le_of_ble_eq_true rfl) dX9_branch_2 (fun z2 σ1 rz2 h => ?_)
  refine v_R (fun hRσ1 => ?_)
  refine v_if_eq C rz2 24 dX9_branch_5 (by decide) (fun c7 => ?_) (fun c7 => ?_)
  · have h := h.1 c7
    refine v_iconst C dX9_branch_24 ?_
    exact v_iret C (by decide) h dX9_branch_25
  · have h := h.2 c7
    refine v_aload_n C 0 dX9_branch_8 rfl rfl ?_
    refine gf9_now C hlo hhi w405 dX9_branch_9 ?_
    refine gf7_branches C (SO_full hlo hhi kt1) w166 dX9_branch_12 ?_
    refine v_iload_n C 1 dX9_branch_15 rfl rfl ?_
    have k3 := h.1
    have h := h.2
    have k4 := h.1
    have h := h.2
    refine v_aaldB C (SO_full hlo hhi kt1) r1 k3 dX9_branch_16 ?_
    refine v_iload_n C 2 dX9_branch_17 rfl rfl ?_
    refine v_callsi (As := [.ref (B + ((σ1 17 a1.toNat).toNat)), .int (iI a2)]) (rest := []) C (s_X9_coefficientTold hlo hhi (PO_br (SO_full hlo hhi kt1) k4) r2 h) w765 wy_X9_coefficientTold ⟨rfl, rfl⟩ hd_X9_coefficientTold ⟨Nat.le_of_ble_eq_true rfl, Nat.le_of_ble_eq_true rfl⟩ rfl rfl (Nat.le_of_ble_eq_true rfl) dX9_branch_18 (fun z6 σ5 rz6 h => ?_)
    refine v_R (fun hRσ5 => ?_)
    refine v_goto C 25 dX9_branch_21 (by decide) ?_
    exact v_iret C rz6 h dX9_branch_25
-- SplitTowers.clearText()I
def wp_X9_clearText (σ : SG)  (Q : Int → SG → Prop) : Prop :=
  (∀ v1 : Int, v1 = (σ 30 1) → (∀ σ2 : SG, σ2 = ug σ 30 1 0 → Q v1 σ2))
def rm_X9_clearText : Room := { frames := 0, cells := 0, slots := 0, locals := 0 }
theorem wy_X9_clearText : Cond.instanceMethod yX9_clearText ∈ WS ∧ Cond.selects "SplitTowers" yX9_clearText yX9_clearText ∈ WS ∧ Cond.initialized "SplitTowers" ∈ WS ∧ Cond.code yX9_clearText prog_1_method_12_code 2 (some .int) ∈ WS := ⟨w741, w742, w68, w743⟩
theorem hd_X9_clearText : yX9_clearText.cls = "SplitTowers" ∧ yX9_clearText.cls ≠ "java/lang/invoke/MethodHandle" ∧ yX9_clearText.cls ≠ "java/lang/invoke/VarHandle" ∧ (parseMethodDescriptor yX9_clearText.desc).map (fun d => d.parameters.length) = some 0 := by decide +kernel
set_option maxHeartbeats 4000000 in
set_option maxRecDepth 100000 in
theorem s_X9_clearText {l : Launch} {D : va_G} {aC : Nat → ClassId} {B lo hi : Nat} {σ : SG}  {Q : Int → SG → Prop} (hlo : lo ≤ 0) (hhi : 304 ≤ hi) (h : wp_X9_clearText σ  Q) : Met l yX9_clearText (Cond.code yX9_clearText prog_1_method_12_code 2 (some .int) :: WS) rm_X9_clearText (va_Pc [.ref (B + 0)] (WP D aC B lo hi σ)) (QI D aC B lo hi Q) 0 0 (AB B lo hi) := by
  refine met_of (by decide +kernel) (by decide +kernel : yX9_clearText.cls = "SplitTowers") (Nat.le_of_ble_eq_true rfl) ?_
  intro p e s m args below meth c C
  unfold wp_X9_clearText at h
  refine v_R (fun hR0 => ?_)
  show V p l e rm_X9_clearText s m args below meth c D aC B lo hi 2 (MQ below (QI D aC B lo hi Q) args s 0 0 (AB B lo hi)) σ 0 [(0, .ref (B + 0))] []
  refine v_aload_n C 0 dX9_clearText_0 rfl rfl ?_
  refine gf9_text C hlo hhi w409 dX9_clearText_1 ?_
  refine gf8_length C hlo hhi w190 dX9_clearText_4 ?_
  refine v_name (fun v1 ev1 => ?_)
  have h := h v1 ev1
  have rv1 : inR v1 := by rw [ev1]; exact (hR0 30 1)
  refine v_istore_n (lv' := [(1, .int (iI v1)), (0, .ref (B + 0))]) C dX9_clearText_7 rfl (by decide) rfl ?_
  refine v_aload_n C 1 dX9_clearText_8 rfl rfl ?_
  refine gf9_text C hlo hhi w409 dX9_clearText_9 ?_
  refine v_iconst C dX9_clearText_12 ?_
  refine pf8_length C hlo hhi (by decide) w190 dX9_clearText_13 ?_
  refine v_nameS (fun σ2 eσ2 => ?_)
  have h := h σ2 eσ2
  refine v_R (fun hRσ2 => ?_)
  refine v_iload_n C 0 dX9_clearText_16 rfl rfl ?_
  exact v_iret C rv1 h dX9_clearText_17
-- SplitTowers.count(I)I
def wp_X9_count (σ : SG) (a1 : Int) (Q : Int → SG → Prop) : Prop :=
  ((a1 = 0 → Q (σ 1 0) σ) ∧ (a1 = 1 → Q (σ 2 1) σ) ∧ (a1 = 2 → Q (σ 1 4) σ) ∧ (a1 = 3 → wp_X1_find σ (fun (σ4 : SG) => wp_X1_allFactors σ4 (fun (z6 : Int) (σ5 : SG) => Q z6 σ5))) ∧ (a1 = 4 → wp_X7_greatestBranchDegree σ 1 (fun (z9 : Int) (σ8 : SG) => Q z9 σ8)) ∧ (a1 = 5 → wp_X7_emptyRegisters σ 1 (fun (z12 : Int) (σ11 : SG) => Q z12 σ11)) ∧ (a1 = 6 → Q (σ 184 2) σ) ∧ (a1 = 7 → Q (σ 30 1) σ) ∧ (a1 < 0 ∨ 7 < a1 → Q (-2) σ))
def rm_X9_count : Room := { frames := 6, cells := 0, slots := 0, locals := 142 }
theorem wy_X9_count : Cond.instanceMethod yX9_count ∈ WS ∧ Cond.selects "SplitTowers" yX9_count yX9_count ∈ WS ∧ Cond.initialized "SplitTowers" ∈ WS ∧ Cond.code yX9_count prog_1_method_27_code 2 (some .int) ∈ WS := ⟨w851, w852, w68, w853⟩
theorem hd_X9_count : yX9_count.cls = "SplitTowers" ∧ yX9_count.cls ≠ "java/lang/invoke/MethodHandle" ∧ yX9_count.cls ≠ "java/lang/invoke/VarHandle" ∧ (parseMethodDescriptor yX9_count.desc).map (fun d => d.parameters.length) = some 1 := by decide +kernel
set_option maxHeartbeats 4000000 in
set_option maxRecDepth 100000 in
theorem s_X9_count {l : Launch} {D : va_G} {aC : Nat → ClassId} {B lo hi : Nat} {σ : SG} {a1 : Int} {Q : Int → SG → Prop} (hlo : lo ≤ 0) (hhi : 304 ≤ hi) (r1 : inR a1) (h : wp_X9_count σ a1 Q) : Met l yX9_count (Cond.code yX9_count prog_1_method_27_code 2 (some .int) :: WS) rm_X9_count (va_Pc [.ref (B + 0), .int (iI a1)] (WP D aC B lo hi σ)) (QI D aC B lo hi Q) 0 0 (AB B lo hi) := by
  refine met_of (by decide +kernel) (by decide +kernel : yX9_count.cls = "SplitTowers") (Nat.le_of_ble_eq_true rfl) ?_
  intro p e s m args below meth c C
  unfold wp_X9_count at h
  refine v_R (fun hR0 => ?_)
  show V p l e rm_X9_count s m args below meth c D aC B lo hi 2 (MQ below (QI D aC B lo hi Q) args s 0 0 (AB B lo hi)) σ 0 [(0, .ref (B + 0)), (1, .int (iI a1))] []
  refine v_iload_n C 1 dX9_count_0 rfl rfl ?_
  rcases Decidable.em (a1 = 0) with c1 | c1
  · have h := h.1 c1
    refine v_tabIn C r1 0 c1 48 dX9_count_1 (by decide) (by decide) rfl (by decide) ?_
    refine v_aload_n C 0 dX9_count_48 rfl rfl ?_
    refine gf9_now C hlo hhi w405 dX9_count_49 ?_
    refine gf7_prime C (SO_full hlo hhi kt1) w153 dX9_count_52 ?_
    exact v_iret C (hR0 1 0) h dX9_count_55
  rcases Decidable.em (a1 = 1) with c2 | c2
  · have h := h.2.1 c2
    refine v_tabIn C r1 1 c2 56 dX9_count_1 (by decide) (by decide) rfl (by decide) ?_
    refine v_aload_n C 0 dX9_count_56 rfl rfl ?_
    refine gf9_now C hlo hhi w405 dX9_count_57 ?_
    refine gf7_modulus C (SO_full hlo hhi kt1) w160 dX9_count_60 ?_
    refine gf4_degree C (PO_mod (SO_full hlo hhi kt1)) w104 dX9_count_63 ?_
    exact v_iret C (hR0 2 1) h dX9_count_66
  rcases Decidable.em (a1 = 2) with c3 | c3
  · have h := h.2.2.1 c3
    refine v_tabIn C r1 2 c3 67 dX9_count_1 (by decide) (by decide) rfl (by decide) ?_
    refine v_aload_n C 0 dX9_count_67 rfl rfl ?_
    refine gf9_now C hlo hhi w405 dX9_count_68 ?_
    refine gf7_branchCount C (SO_full hlo hhi kt1) w169 dX9_count_71 ?_
    exact v_iret C (hR0 1 4) h dX9_count_74
  rcases Decidable.em (a1 = 3) with c7 | c7
  · have h := h.2.2.2.1 c7
    refine v_tabIn C r1 3 c7 75 dX9_count_1 (by decide) (by decide) rfl (by decide) ?_
    refine v_aload_n C 0 dX9_count_75 rfl rfl ?_
    refine gf9_degrees C hlo hhi w412 dX9_count_76 ?_
    refine v_callv (i := 100) (As := []) (rest := []) C (s_X1_find hlo hhi h) w698 wy_X1_find ⟨rfl, rfl⟩ hd_X1_find ⟨Nat.le_of_ble_eq_true rfl, Nat.le_of_ble_eq_true rfl⟩ (Nat.le_trans hlo (Nat.zero_le _)) (Nat.lt_of_lt_of_le (by decide) hhi) rfl rfl rfl rfl (Nat.le_of_ble_eq_true rfl) dX9_count_79 (fun σ4 h => ?_)
    refine v_R (fun hRσ4 => ?_)
    refine v_aload_n C 0 dX9_count_82 rfl rfl ?_
    refine gf9_degrees C hlo hhi w412 dX9_count_83 ?_
    refine v_calli (i := 100) (As := []) (rest := []) C (s_X1_allFactors hlo hhi h) w854 wy_X1_allFactors ⟨rfl, rfl⟩ hd_X1_allFactors ⟨Nat.le_of_ble_eq_true rfl, Nat.le_of_ble_eq_true rfl⟩ (Nat.le_trans hlo (Nat.zero_le _)) (Nat.lt_of_lt_of_le (by decide) hhi) rfl rfl rfl rfl (Nat.le_of_ble_eq_true rfl) dX9_count_86 (fun z6 σ5 rz6 h => ?_)
    refine v_R (fun hRσ5 => ?_)
    exact v_iret C rz6 h dX9_count_89
  rcases Decidable.em (a1 = 4) with c10 | c10
  · have h := h.2.2.2.2.1 c10
    refine v_tabIn C r1 4 c10 90 dX9_count_1 (by decide) (by decide) rfl (by decide) ?_
    refine v_aload_n C 0 dX9_count_90 rfl rfl ?_
    refine gf9_now C hlo hhi w405 dX9_count_91 ?_
    refine v_calli (i := 1) (As := []) (rest := []) C (s_X7_greatestBranchDegree (SO_full hlo hhi kt1) h) w858 wy_X7_greatestBranchDegree ⟨rfl, rfl⟩ hd_X7_greatestBranchDegree ⟨Nat.le_of_ble_eq_true rfl, Nat.le_of_ble_eq_true rfl⟩ (SO.lo (SO_full hlo hhi kt1)) (SO.hi (SO_full hlo hhi kt1)) (cel_of ((SO_full hlo hhi kt1)).1) rfl rfl rfl (Nat.le_of_ble_eq_true rfl) dX9_count_94 (fun z9 σ8 rz9 h => ?_)
    refine v_R (fun hRσ8 => ?_)
    exact v_iret C rz9 h dX9_count_97
  rcases Decidable.em (a1 = 5) with c13 | c13
  · have h := h.2.2.2.2.2.1 c13
    refine v_tabIn C r1 5 c13 98 dX9_count_1 (by decide) (by decide) rfl (by decide) ?_
    refine v_aload_n C 0 dX9_count_98 rfl rfl ?_
    refine gf9_now C hlo hhi w405 dX9_count_99 ?_
    refine v_calli (i := 1) (As := []) (rest := []) C (s_X7_emptyRegisters (SO_full hlo hhi kt1) h) w863 wy_X7_emptyRegisters ⟨rfl, rfl⟩ hd_X7_emptyRegisters ⟨Nat.le_of_ble_eq_true rfl, Nat.le_of_ble_eq_true rfl⟩ (SO.lo (SO_full hlo hhi kt1)) (SO.hi (SO_full hlo hhi kt1)) (cel_of ((SO_full hlo hhi kt1)).1) rfl rfl rfl (Nat.le_of_ble_eq_true rfl) dX9_count_102 (fun z12 σ11 rz12 h => ?_)
    refine v_R (fun hRσ11 => ?_)
    exact v_iret C rz12 h dX9_count_105
  rcases Decidable.em (a1 = 6) with c14 | c14
  · have h := h.2.2.2.2.2.2.1 c14
    refine v_tabIn C r1 6 c14 106 dX9_count_1 (by decide) (by decide) rfl (by decide) ?_
    refine v_aload_n C 0 dX9_count_106 rfl rfl ?_
    refine gf9_history C hlo hhi w408 dX9_count_107 ?_
    refine gf3_length C hlo hhi w395 dX9_count_110 ?_
    exact v_iret C (hR0 184 2) h dX9_count_113
  rcases Decidable.em (a1 = 7) with c15 | c15
  · have h := h.2.2.2.2.2.2.2.1 c15
    refine v_tabIn C r1 7 c15 114 dX9_count_1 (by decide) (by decide) rfl (by decide) ?_
    refine v_aload_n C 0 dX9_count_114 rfl rfl ?_
    refine gf9_text C hlo hhi w409 dX9_count_115 ?_
    refine gf8_length C hlo hhi w190 dX9_count_118 ?_
    exact v_iret C (hR0 30 1) h dX9_count_121
  have hout : a1 < 0 ∨ 7 < a1 := by omega
  have h := h.2.2.2.2.2.2.2.2 hout
  refine v_tabOut C r1 122 dX9_count_1 hout (by decide) ?_
  refine v_bipush C dX9_count_122 (by decide) ?_
  exact v_iret C (by decide) h dX9_count_124
-- SplitTowers.factors(I)I
def wp_X9_factors (σ : SG) (a1 : Int) (Q : Int → SG → Prop) : Prop :=
  ((a1 < 1 → Q (-2) σ) ∧ (¬ a1 < 1 → ((a1 ≤ 6 → wp_X1_find σ (fun (σ1 : SG) => wp_X1_factorsOf σ1 a1 (fun (z3 : Int) (σ2 : SG) => Q z3 σ2))) ∧ (¬ a1 ≤ 6 → Q (-2) σ))))
def rm_X9_factors : Room := { frames := 6, cells := 0, slots := 0, locals := 142 }
theorem wy_X9_factors : Cond.instanceMethod yX9_factors ∈ WS ∧ Cond.selects "SplitTowers" yX9_factors yX9_factors ∈ WS ∧ Cond.initialized "SplitTowers" ∈ WS ∧ Cond.code yX9_factors prog_1_method_26_code 2 (some .int) ∈ WS := ⟨w846, w847, w68, w848⟩
theorem hd_X9_factors : yX9_factors.cls = "SplitTowers" ∧ yX9_factors.cls ≠ "java/lang/invoke/MethodHandle" ∧ yX9_factors.cls ≠ "java/lang/invoke/VarHandle" ∧ (parseMethodDescriptor yX9_factors.desc).map (fun d => d.parameters.length) = some 1 := by decide +kernel
set_option maxHeartbeats 4000000 in
set_option maxRecDepth 100000 in
theorem s_X9_factors {l : Launch} {D : va_G} {aC : Nat → ClassId} {B lo hi : Nat} {σ : SG} {a1 : Int} {Q : Int → SG → Prop} (hlo : lo ≤ 0) (hhi : 304 ≤ hi) (r1 : inR a1) (h : wp_X9_factors σ a1 Q) : Met l yX9_factors (Cond.code yX9_factors prog_1_method_26_code 2 (some .int) :: WS) rm_X9_factors (va_Pc [.ref (B + 0), .int (iI a1)] (WP D aC B lo hi σ)) (QI D aC B lo hi Q) 0 0 (AB B lo hi) := by
  refine met_of (by decide +kernel) (by decide +kernel : yX9_factors.cls = "SplitTowers") (Nat.le_of_ble_eq_true rfl) ?_
  intro p e s m args below meth c C
  unfold wp_X9_factors at h
  refine v_R (fun hR0 => ?_)
  show V p l e rm_X9_factors s m args below meth c D aC B lo hi 2 (MQ below (QI D aC B lo hi Q) args s 0 0 (AB B lo hi)) σ 0 [(0, .ref (B + 0)), (1, .int (iI a1))] []
  refine v_iload_n C 1 dX9_factors_0 rfl rfl ?_
  refine v_iconst C dX9_factors_1 ?_
  refine v_icmp_lt C r1 (by decide) 11 dX9_factors_2 (by decide) (fun c5 => ?_) (fun c5 => ?_)
  · have h := h.1 c5
    refine v_bipush C dX9_factors_11 (by decide) ?_
    exact v_iret C (by decide) h dX9_factors_13
  · have h := h.2 c5
    refine v_iload_n C 1 dX9_factors_5 rfl rfl ?_
    refine v_bipush C dX9_factors_6 (by decide) ?_
    refine v_icmp_le C r1 (by decide) 14 dX9_factors_8 (by decide) (fun c4 => ?_) (fun c4 => ?_)
    · have h := h.1 c4
      refine v_aload_n C 0 dX9_factors_14 rfl rfl ?_
      refine gf9_degrees C hlo hhi w412 dX9_factors_15 ?_
      refine v_callv (i := 100) (As := []) (rest := []) C (s_X1_find hlo hhi h) w698 wy_X1_find ⟨rfl, rfl⟩ hd_X1_find ⟨Nat.le_of_ble_eq_true rfl, Nat.le_of_ble_eq_true rfl⟩ (Nat.le_trans hlo (Nat.zero_le _)) (Nat.lt_of_lt_of_le (by decide) hhi) rfl rfl rfl rfl (Nat.le_of_ble_eq_true rfl) dX9_factors_18 (fun σ1 h => ?_)
      refine v_R (fun hRσ1 => ?_)
      refine v_aload_n C 0 dX9_factors_21 rfl rfl ?_
      refine gf9_degrees C hlo hhi w412 dX9_factors_22 ?_
      refine v_iload_n C 1 dX9_factors_25 rfl rfl ?_
      refine v_calli (i := 100) (As := [.int (iI a1)]) (rest := []) C (s_X1_factorsOf hlo hhi r1 h) w849 wy_X1_factorsOf ⟨rfl, rfl⟩ hd_X1_factorsOf ⟨Nat.le_of_ble_eq_true rfl, Nat.le_of_ble_eq_true rfl⟩ (Nat.le_trans hlo (Nat.zero_le _)) (Nat.lt_of_lt_of_le (by decide) hhi) rfl rfl rfl rfl (Nat.le_of_ble_eq_true rfl) dX9_factors_26 (fun z3 σ2 rz3 h => ?_)
      refine v_R (fun hRσ2 => ?_)
      exact v_iret C rz3 h dX9_factors_29
    · have h := h.2 c4
      refine v_bipush C dX9_factors_11 (by decide) ?_
      exact v_iret C (by decide) h dX9_factors_13
-- SplitTowers.isModulusTold()Z
def wp_X9_isModulusTold (σ : SG)  (Q : Int → SG → Prop) : Prop :=
  Lp1 (fun (rec3 : Int → SG → Prop) (x1 : Int) (σ2 : SG) => (((σ2 30 3) ≤ x1 → (((σ2 30 3) ≤ 1 → Q 0 σ2) ∧ (¬ (σ2 30 3) ≤ 1 → (inR ((σ2 30 3) - 1) ∧ ((0 ≤ (σ2 30 3) - 1 ∧ (σ2 30 3) - 1 < 7) ∧ ((¬ (σ2 32 ((σ2 30 3) - 1).toNat) = 1 → Q 0 σ2) ∧ ((σ2 32 ((σ2 30 3) - 1).toNat) = 1 → Q 1 σ2))))))) ∧ (¬ (σ2 30 3) ≤ x1 → ((0 ≤ x1 ∧ x1 < 7) ∧ (((σ2 32 x1.toNat) < (σ2 1 0) → (inR (x1 + 1) ∧ rec3 (x1 + 1) σ2)) ∧ (¬ (σ2 32 x1.toNat) < (σ2 1 0) → Q 0 σ2)))))) 0 σ
def rm_X9_isModulusTold : Room := { frames := 0, cells := 0, slots := 0, locals := 0 }
theorem wy_X9_isModulusTold : Cond.instanceMethod yX9_isModulusTold ∈ WS ∧ Cond.selects "SplitTowers" yX9_isModulusTold yX9_isModulusTold ∈ WS ∧ Cond.initialized "SplitTowers" ∈ WS ∧ Cond.code yX9_isModulusTold prog_1_method_32_code 2 (some .boolean) ∈ WS := ⟨w476, w3, w68, w477⟩
theorem hd_X9_isModulusTold : yX9_isModulusTold.cls = "SplitTowers" ∧ yX9_isModulusTold.cls ≠ "java/lang/invoke/MethodHandle" ∧ yX9_isModulusTold.cls ≠ "java/lang/invoke/VarHandle" ∧ (parseMethodDescriptor yX9_isModulusTold.desc).map (fun d => d.parameters.length) = some 0 := by decide +kernel
set_option maxHeartbeats 4000000 in
set_option maxRecDepth 100000 in
theorem s_X9_isModulusTold {l : Launch} {D : va_G} {aC : Nat → ClassId} {B lo hi : Nat} {σ : SG}  {Q : Int → SG → Prop} (hlo : lo ≤ 0) (hhi : 304 ≤ hi) (h : wp_X9_isModulusTold σ  Q) : Met l yX9_isModulusTold (Cond.code yX9_isModulusTold prog_1_method_32_code 2 (some .boolean) :: WS) rm_X9_isModulusTold (va_Pc [.ref (B + 0)] (WP D aC B lo hi σ)) (QI D aC B lo hi Q) 0 0 (AB B lo hi) := by
  refine met_of (by decide +kernel) (by decide +kernel : yX9_isModulusTold.cls = "SplitTowers") (Nat.le_of_ble_eq_true rfl) ?_
  intro p e s m args below meth c C
  unfold wp_X9_isModulusTold at h
  refine v_R (fun hR0 => ?_)
  show V p l e rm_X9_isModulusTold s m args below meth c D aC B lo hi 2 (MQ below (QI D aC B lo hi Q) args s 0 0 (AB B lo hi)) σ 0 [(0, .ref (B + 0))] []
  refine v_iconst C dX9_isModulusTold_0 ?_
  refine v_istore_n (lv' := [(1, .int (iI 0)), (0, .ref (B + 0))]) C dX9_isModulusTold_1 rfl (by decide) rfl ?_
  obtain ⟨I14, ⟨n15, hnn15⟩, hII14⟩ := h
  have key5 : ∀ (n : Nat) (x1 : Int) (σ2 : SG), I14 n x1 σ2 → inR x1 → V p l e rm_X9_isModulusTold s m args below meth c D aC B lo hi 2 (MQ below (QI D aC B lo hi Q) args s 0 0 (AB B lo hi)) σ2 2 [(1, .int (iI x1)), (0, .ref (B + 0))] [] := by
    intro n
    induction n using Nat.strongRecOn with
    | ind n ih4 =>
      intro x1 σ2 hn rx1
      have h := hII14 n x1 σ2 hn
      refine v_R (fun hRσ2 => ?_)
      refine v_iload_n C 0 dX9_isModulusTold_2 rfl rfl ?_
      refine v_aload_n C 1 dX9_isModulusTold_3 rfl rfl ?_
      refine gf9_text C hlo hhi w409 dX9_isModulusTold_4 ?_
      refine gf8_toldCount C hlo hhi w194 dX9_isModulusTold_7 ?_
      refine v_icmp_ge C rx1 (hRσ2 30 3) 40 dX9_isModulusTold_10 (by decide) (fun c13 => ?_) (fun c13 => ?_)
      · have h := h.1 c13
        refine v_aload_n C 1 dX9_isModulusTold_40 rfl rfl ?_
        refine gf9_text C hlo hhi w409 dX9_isModulusTold_41 ?_
        refine gf8_toldCount C hlo hhi w194 dX9_isModulusTold_44 ?_
        refine v_iconst C dX9_isModulusTold_47 ?_
        refine v_icmp_le C (hRσ2 30 3) (by decide) 76 dX9_isModulusTold_48 (by decide) (fun c9 => ?_) (fun c9 => ?_)
        · have h := h.1 c9
          refine v_iconst C dX9_isModulusTold_76 ?_
          exact v_zret C (by decide) h dX9_isModulusTold_77
        · have h := h.2 c9
          refine v_aload_n C 1 dX9_isModulusTold_51 rfl rfl ?_
          refine gf9_text C hlo hhi w409 dX9_isModulusTold_52 ?_
          refine gf8_told C hlo hhi w192 dX9_isModulusTold_55 ?_
          refine v_aload_n C 1 dX9_isModulusTold_58 rfl rfl ?_
          refine gf9_text C hlo hhi w409 dX9_isModulusTold_59 ?_
          refine gf8_toldCount C hlo hhi w194 dX9_isModulusTold_62 ?_
          refine v_iconst C dX9_isModulusTold_65 ?_
          have k6 := h.1
          have h := h.2
          refine v_isub C dX9_isModulusTold_66 ?_
          have k7 := h.1
          have h := h.2
          refine v_iald (i := 32) (n := 7) C (Nat.le_trans hlo (Nat.zero_le _)) (Nat.lt_of_lt_of_le (by decide) hhi) rfl k6 k7 dX9_isModulusTold_67 ?_
          refine v_iconst C dX9_isModulusTold_68 ?_
          refine v_icmp_ne C (hRσ2 32 _) (by decide) 76 dX9_isModulusTold_69 (by decide) (fun c8 => ?_) (fun c8 => ?_)
          · have h := h.1 c8
            refine v_iconst C dX9_isModulusTold_76 ?_
            exact v_zret C (by decide) h dX9_isModulusTold_77
          · have h := h.2 c8
            refine v_iconst C dX9_isModulusTold_72 ?_
            refine v_goto C 77 dX9_isModulusTold_73 (by decide) ?_
            exact v_zret C (by decide) h dX9_isModulusTold_77
      · have h := h.2 c13
        refine v_aload_n C 1 dX9_isModulusTold_13 rfl rfl ?_
        refine gf9_text C hlo hhi w409 dX9_isModulusTold_14 ?_
        refine gf8_told C hlo hhi w192 dX9_isModulusTold_17 ?_
        refine v_iload_n C 0 dX9_isModulusTold_20 rfl rfl ?_
        have k10 := h.1
        have h := h.2
        refine v_iald (i := 32) (n := 7) C (Nat.le_trans hlo (Nat.zero_le _)) (Nat.lt_of_lt_of_le (by decide) hhi) rfl rx1 k10 dX9_isModulusTold_21 ?_
        refine v_aload_n C 1 dX9_isModulusTold_22 rfl rfl ?_
        refine gf9_now C hlo hhi w405 dX9_isModulusTold_23 ?_
        refine gf7_prime C (SO_full hlo hhi kt1) w153 dX9_isModulusTold_26 ?_
        refine v_icmp_lt C (hRσ2 32 _) (hRσ2 1 0) 34 dX9_isModulusTold_29 (by decide) (fun c12 => ?_) (fun c12 => ?_)
        · have h := h.1 c12
          have k11 := h.1
          have h := h.2
          refine v_iinc (lv' := [(1, .int (iI (x1 + 1))), (0, .ref (B + 0))]) C 0 dX9_isModulusTold_34 rfl (by decide) rfl ?_
          refine v_goto C 2 dX9_isModulusTold_37 (by decide) ?_
          obtain ⟨m9, hm9, h⟩ := h
          exact ih4 m9 hm9 (x1 + 1) σ2 h k11
        · have h := h.2 c12
          refine v_iconst C dX9_isModulusTold_32 ?_
          exact v_zret C (by decide) h dX9_isModulusTold_33
  exact key5 n15 0 σ hnn15 (by decide)
-- SplitTowers.isPlace(I)Z
def wp_X9_isPlace (σ : SG) (a1 : Int) (Q : Int → SG → Prop) : Prop :=
  ((a1 < 0 → Q 0 σ) ∧ (¬ a1 < 0 → (((σ 2 1) ≤ a1 → Q 0 σ) ∧ (¬ (σ 2 1) ≤ a1 → Q 1 σ))))
def rm_X9_isPlace : Room := { frames := 0, cells := 0, slots := 0, locals := 0 }
theorem wy_X9_isPlace : Cond.instanceMethod yX9_isPlace ∈ WS ∧ Cond.selects "SplitTowers" yX9_isPlace yX9_isPlace ∈ WS ∧ Cond.initialized "SplitTowers" ∈ WS ∧ Cond.code yX9_isPlace prog_1_method_31_code 2 (some .boolean) ∈ WS := ⟨w540, w4, w68, w541⟩
theorem hd_X9_isPlace : yX9_isPlace.cls = "SplitTowers" ∧ yX9_isPlace.cls ≠ "java/lang/invoke/MethodHandle" ∧ yX9_isPlace.cls ≠ "java/lang/invoke/VarHandle" ∧ (parseMethodDescriptor yX9_isPlace.desc).map (fun d => d.parameters.length) = some 1 := by decide +kernel
set_option maxHeartbeats 4000000 in
set_option maxRecDepth 100000 in
theorem s_X9_isPlace {l : Launch} {D : va_G} {aC : Nat → ClassId} {B lo hi : Nat} {σ : SG} {a1 : Int} {Q : Int → SG → Prop} (hlo : lo ≤ 0) (hhi : 304 ≤ hi) (r1 : inR a1) (h : wp_X9_isPlace σ a1 Q) : Met l yX9_isPlace (Cond.code yX9_isPlace prog_1_method_31_code 2 (some .boolean) :: WS) rm_X9_isPlace (va_Pc [.ref (B + 0), .int (iI a1)] (WP D aC B lo hi σ)) (QI D aC B lo hi Q) 0 0 (AB B lo hi) := by
  refine met_of (by decide +kernel) (by decide +kernel : yX9_isPlace.cls = "SplitTowers") (Nat.le_of_ble_eq_true rfl) ?_
  intro p e s m args below meth c C
  unfold wp_X9_isPlace at h
  refine v_R (fun hR0 => ?_)
  show V p l e rm_X9_isPlace s m args below meth c D aC B lo hi 2 (MQ below (QI D aC B lo hi Q) args s 0 0 (AB B lo hi)) σ 0 [(0, .ref (B + 0)), (1, .int (iI a1))] []
  refine v_iload_n C 1 dX9_isPlace_0 rfl rfl ?_
  refine v_if_lt C r1 22 dX9_isPlace_1 (by decide) (fun c2 => ?_) (fun c2 => ?_)
  · have h := h.1 c2
    refine v_iconst C dX9_isPlace_22 ?_
    exact v_zret C (by decide) h dX9_isPlace_23
  · have h := h.2 c2
    refine v_iload_n C 1 dX9_isPlace_4 rfl rfl ?_
    refine v_aload_n C 0 dX9_isPlace_5 rfl rfl ?_
    refine gf9_now C hlo hhi w405 dX9_isPlace_6 ?_
    refine gf7_modulus C (SO_full hlo hhi kt1) w160 dX9_isPlace_9 ?_
    refine gf4_degree C (PO_mod (SO_full hlo hhi kt1)) w104 dX9_isPlace_12 ?_
    refine v_icmp_ge C r1 (hR0 2 1) 22 dX9_isPlace_15 (by decide) (fun c1 => ?_) (fun c1 => ?_)
    · have h := h.1 c1
      refine v_iconst C dX9_isPlace_22 ?_
      exact v_zret C (by decide) h dX9_isPlace_23
    · have h := h.2 c1
      refine v_iconst C dX9_isPlace_18 ?_
      refine v_goto C 23 dX9_isPlace_19 (by decide) ?_
      exact v_zret C (by decide) h dX9_isPlace_23
-- SplitTowers.isPrime(I)Z
def wp_X9_isPrime (σ : SG) (a1 : Int) (Q : Int → SG → Prop) : Prop :=
  ((a1 = 2 → Q 1 σ) ∧ (¬ a1 = 2 → ((a1 = 3 → Q 1 σ) ∧ (¬ a1 = 3 → ((a1 = 5 → Q 1 σ) ∧ (¬ a1 = 5 → ((a1 = 7 → Q 1 σ) ∧ (¬ a1 = 7 → ((a1 = 11 → Q 1 σ) ∧ (¬ a1 = 11 → ((¬ a1 = 13 → Q 0 σ) ∧ (a1 = 13 → Q 1 σ))))))))))))
def rm_X9_isPrime : Room := { frames := 0, cells := 0, slots := 0, locals := 0 }
theorem wy_X9_isPrime : Cond.static yX9_isPrime ∈ WS ∧ Cond.initialized "SplitTowers" ∈ WS ∧ Cond.code yX9_isPrime prog_1_method_28_code 1 (some .boolean) ∈ WS := ⟨w444, w68, w445⟩
theorem hd_X9_isPrime : yX9_isPrime.cls ≠ "java/lang/invoke/MethodHandle" ∧ yX9_isPrime.cls ≠ "java/lang/invoke/VarHandle" ∧ (parseMethodDescriptor yX9_isPrime.desc).map (fun d => d.parameters.length) = some 1 := by decide +kernel
set_option maxHeartbeats 4000000 in
set_option maxRecDepth 100000 in
theorem s_X9_isPrime {l : Launch} {D : va_G} {aC : Nat → ClassId} {B lo hi : Nat} {σ : SG} {a1 : Int} {Q : Int → SG → Prop} (hlo : lo ≤ 0) (hhi : 304 ≤ hi) (r1 : inR a1) (h : wp_X9_isPrime σ a1 Q) : Met l yX9_isPrime (Cond.code yX9_isPrime prog_1_method_28_code 1 (some .boolean) :: WS) rm_X9_isPrime (va_Pc [.int (iI a1)] (WP D aC B lo hi σ)) (QI D aC B lo hi Q) 0 0 (AB B lo hi) := by
  refine met_of (by decide +kernel) (by decide +kernel : yX9_isPrime.cls = "SplitTowers") (Nat.le_of_ble_eq_true rfl) ?_
  intro p e s m args below meth c C
  unfold wp_X9_isPrime at h
  refine v_R (fun hR0 => ?_)
  show V p l e rm_X9_isPrime s m args below meth c D aC B lo hi 1 (MQ below (QI D aC B lo hi Q) args s 0 0 (AB B lo hi)) σ 0 [(0, .int (iI a1))] []
  refine v_iload_n C 0 dX9_isPrime_0 rfl rfl ?_
  refine v_iconst C dX9_isPrime_1 ?_
  refine v_icmp_eq C r1 (by decide) 33 dX9_isPrime_2 (by decide) (fun c6 => ?_) (fun c6 => ?_)
  · have h := h.1 c6
    refine v_iconst C dX9_isPrime_33 ?_
    refine v_goto C 38 dX9_isPrime_34 (by decide) ?_
    exact v_zret C (by decide) h dX9_isPrime_38
  · have h := h.2 c6
    refine v_iload_n C 0 dX9_isPrime_5 rfl rfl ?_
    refine v_iconst C dX9_isPrime_6 ?_
    refine v_icmp_eq C r1 (by decide) 33 dX9_isPrime_7 (by decide) (fun c5 => ?_) (fun c5 => ?_)
    · have h := h.1 c5
      refine v_iconst C dX9_isPrime_33 ?_
      refine v_goto C 38 dX9_isPrime_34 (by decide) ?_
      exact v_zret C (by decide) h dX9_isPrime_38
    · have h := h.2 c5
      refine v_iload_n C 0 dX9_isPrime_10 rfl rfl ?_
      refine v_iconst C dX9_isPrime_11 ?_
      refine v_icmp_eq C r1 (by decide) 33 dX9_isPrime_12 (by decide) (fun c4 => ?_) (fun c4 => ?_)
      · have h := h.1 c4
        refine v_iconst C dX9_isPrime_33 ?_
        refine v_goto C 38 dX9_isPrime_34 (by decide) ?_
        exact v_zret C (by decide) h dX9_isPrime_38
      · have h := h.2 c4
        refine v_iload_n C 0 dX9_isPrime_15 rfl rfl ?_
        refine v_bipush C dX9_isPrime_16 (by decide) ?_
        refine v_icmp_eq C r1 (by decide) 33 dX9_isPrime_18 (by decide) (fun c3 => ?_) (fun c3 => ?_)
        · have h := h.1 c3
          refine v_iconst C dX9_isPrime_33 ?_
          refine v_goto C 38 dX9_isPrime_34 (by decide) ?_
          exact v_zret C (by decide) h dX9_isPrime_38
        · have h := h.2 c3
          refine v_iload_n C 0 dX9_isPrime_21 rfl rfl ?_
          refine v_bipush C dX9_isPrime_22 (by decide) ?_
          refine v_icmp_eq C r1 (by decide) 33 dX9_isPrime_24 (by decide) (fun c2 => ?_) (fun c2 => ?_)
          · have h := h.1 c2
            refine v_iconst C dX9_isPrime_33 ?_
            refine v_goto C 38 dX9_isPrime_34 (by decide) ?_
            exact v_zret C (by decide) h dX9_isPrime_38
          · have h := h.2 c2
            refine v_iload_n C 0 dX9_isPrime_27 rfl rfl ?_
            refine v_bipush C dX9_isPrime_28 (by decide) ?_
            refine v_icmp_ne C r1 (by decide) 37 dX9_isPrime_30 (by decide) (fun c1 => ?_) (fun c1 => ?_)
            · have h := h.1 c1
              refine v_iconst C dX9_isPrime_37 ?_
              exact v_zret C (by decide) h dX9_isPrime_38
            · have h := h.2 c1
              refine v_iconst C dX9_isPrime_33 ?_
              refine v_goto C 38 dX9_isPrime_34 (by decide) ?_
              exact v_zret C (by decide) h dX9_isPrime_38
-- SplitTowers.join(II)I
def wp_X9_join (σ : SG) (a1 : Int) (a2 : Int) (Q : Int → SG → Prop) : Prop :=
  wp_X9_isBranch σ a1 (fun (z2 : Int) (σ1 : SG) => ((z2 = 0 → Q (-1) σ1) ∧ (¬ z2 = 0 → wp_X9_isBranch σ1 a2 (fun (z4 : Int) (σ3 : SG) => ((¬ z4 = 0 → ((¬ a1 = a2 → wp_X3_record σ3 1 (fun (σ5 : SG) => wp_X0_joinTwo σ5 a1 a2 (fun (z7 : Int) (σ6 : SG) => Q z7 σ6))) ∧ (a1 = a2 → Q (-2) σ3))) ∧ (z4 = 0 → Q (-1) σ3))))))
def rm_X9_join : Room := { frames := 4, cells := 0, slots := 0, locals := 94 }
theorem wy_X9_join : Cond.instanceMethod yX9_join ∈ WS ∧ Cond.selects "SplitTowers" yX9_join yX9_join ∈ WS ∧ Cond.initialized "SplitTowers" ∈ WS ∧ Cond.code yX9_join prog_1_method_9_code 3 (some .int) ∈ WS := ⟨w710, w711, w68, w712⟩
theorem hd_X9_join : yX9_join.cls = "SplitTowers" ∧ yX9_join.cls ≠ "java/lang/invoke/MethodHandle" ∧ yX9_join.cls ≠ "java/lang/invoke/VarHandle" ∧ (parseMethodDescriptor yX9_join.desc).map (fun d => d.parameters.length) = some 2 := by decide +kernel
set_option maxHeartbeats 4000000 in
set_option maxRecDepth 100000 in
theorem s_X9_join {l : Launch} {D : va_G} {aC : Nat → ClassId} {B lo hi : Nat} {σ : SG} {a1 : Int} {a2 : Int} {Q : Int → SG → Prop} (hlo : lo ≤ 0) (hhi : 304 ≤ hi) (r1 : inR a1) (r2 : inR a2) (h : wp_X9_join σ a1 a2 Q) : Met l yX9_join (Cond.code yX9_join prog_1_method_9_code 3 (some .int) :: WS) rm_X9_join (va_Pc [.ref (B + 0), .int (iI a1), .int (iI a2)] (WP D aC B lo hi σ)) (QI D aC B lo hi Q) 0 0 (AB B lo hi) := by
  refine met_of (by decide +kernel) (by decide +kernel : yX9_join.cls = "SplitTowers") (Nat.le_of_ble_eq_true rfl) ?_
  intro p e s m args below meth c C
  unfold wp_X9_join at h
  refine v_R (fun hR0 => ?_)
  show V p l e rm_X9_join s m args below meth c D aC B lo hi 3 (MQ below (QI D aC B lo hi Q) args s 0 0 (AB B lo hi)) σ 0 [(0, .ref (B + 0)), (1, .int (iI a1)), (2, .int (iI a2))] []
  refine v_aload_n C 0 dX9_join_0 rfl rfl ?_
  refine v_iload_n C 1 dX9_join_1 rfl rfl ?_
  refine v_calli (i := 0) (As := [.int (iI a1)]) (rest := []) C (s_X9_isBranch hlo hhi r1 h) w660 wy_X9_isBranch ⟨rfl, rfl⟩ hd_X9_isBranch ⟨Nat.le_of_ble_eq_true rfl, Nat.le_of_ble_eq_true rfl⟩ (Nat.le_trans hlo (Nat.zero_le _)) (Nat.lt_of_lt_of_le (by decide) hhi) rfl rfl rfl rfl (Nat.le_of_ble_eq_true rfl) dX9_join_2 (fun z2 σ1 rz2 h => ?_)
  refine v_R (fun hRσ1 => ?_)
  refine v_if_eq C rz2 16 dX9_join_5 (by decide) (fun c10 => ?_) (fun c10 => ?_)
  · have h := h.1 c10
    refine v_iconst C dX9_join_16 ?_
    exact v_iret C (by decide) h dX9_join_17
  · have h := h.2 c10
    refine v_aload_n C 0 dX9_join_8 rfl rfl ?_
    refine v_iload_n C 2 dX9_join_9 rfl rfl ?_
    refine v_calli (i := 0) (As := [.int (iI a2)]) (rest := []) C (s_X9_isBranch hlo hhi r2 h) w660 wy_X9_isBranch ⟨rfl, rfl⟩ hd_X9_isBranch ⟨Nat.le_of_ble_eq_true rfl, Nat.le_of_ble_eq_true rfl⟩ (Nat.le_trans hlo (Nat.zero_le _)) (Nat.lt_of_lt_of_le (by decide) hhi) rfl rfl rfl rfl (Nat.le_of_ble_eq_true rfl) dX9_join_10 (fun z4 σ3 rz4 h => ?_)
    refine v_R (fun hRσ3 => ?_)
    refine v_if_ne C rz4 18 dX9_join_13 (by decide) (fun c9 => ?_) (fun c9 => ?_)
    · have h := h.1 c9
      refine v_iload_n C 1 dX9_join_18 rfl rfl ?_
      refine v_iload_n C 2 dX9_join_19 rfl rfl ?_
      refine v_icmp_ne C r1 r2 26 dX9_join_20 (by decide) (fun c8 => ?_) (fun c8 => ?_)
      · have h := h.1 c8
        refine v_aload_n C 0 dX9_join_26 rfl rfl ?_
        refine gf9_history C hlo hhi w408 dX9_join_27 ?_
        refine v_aload_n C 0 dX9_join_30 rfl rfl ?_
        refine gf9_now C hlo hhi w405 dX9_join_31 ?_
        refine v_callv (i := 184) (As := [.ref (B + 1)]) (rest := []) C (s_X3_record hlo hhi (SO_full hlo hhi kt1) h) w446 wy_X3_record ⟨rfl, rfl⟩ hd_X3_record ⟨Nat.le_of_ble_eq_true rfl, Nat.le_of_ble_eq_true rfl⟩ (Nat.le_trans hlo (Nat.zero_le _)) (Nat.lt_of_lt_of_le (by decide) hhi) rfl rfl rfl rfl (Nat.le_of_ble_eq_true rfl) dX9_join_34 (fun σ5 h => ?_)
        refine v_R (fun hRσ5 => ?_)
        refine v_aload_n C 0 dX9_join_37 rfl rfl ?_
        refine gf9_branching C hlo hhi w413 dX9_join_38 ?_
        refine v_iload_n C 1 dX9_join_41 rfl rfl ?_
        refine v_iload_n C 2 dX9_join_42 rfl rfl ?_
        refine v_calli (i := 91) (As := [.int (iI a1), .int (iI a2)]) (rest := []) C (s_X0_joinTwo hlo hhi r1 r2 h) w713 wy_X0_joinTwo ⟨rfl, rfl⟩ hd_X0_joinTwo ⟨Nat.le_of_ble_eq_true rfl, Nat.le_of_ble_eq_true rfl⟩ (Nat.le_trans hlo (Nat.zero_le _)) (Nat.lt_of_lt_of_le (by decide) hhi) rfl rfl rfl rfl (Nat.le_of_ble_eq_true rfl) dX9_join_43 (fun z7 σ6 rz7 h => ?_)
        refine v_R (fun hRσ6 => ?_)
        exact v_iret C rz7 h dX9_join_46
      · have h := h.2 c8
        refine v_bipush C dX9_join_23 (by decide) ?_
        exact v_iret C (by decide) h dX9_join_25
    · have h := h.2 c9
      refine v_iconst C dX9_join_16 ?_
      exact v_iret C (by decide) h dX9_join_17
-- SplitTowers.joinAlike(I)I
def wp_X9_joinAlike (σ : SG) (a1 : Int) (Q : Int → SG → Prop) : Prop :=
  wp_X9_isRegister σ a1 (fun (z2 : Int) (σ1 : SG) => ((¬ z2 = 0 → ((0 ≤ a1 ∧ a1 < 6) ∧ wp_X0_countOfKind σ1 (1 + 3 + 1 + 2 * a1.toNat) 2 (fun (z5 : Int) (σ4 : SG) => ((z5 ≤ 0 → wp_X0_countOfKind σ4 (1 + 3 + 1 + 2 * a1.toNat) 0 (fun (z7 : Int) (σ6 : SG) => ((2 ≤ z7 → wp_X3_record σ6 1 (fun (σ8 : SG) => wp_X0_joinByKind σ8 (1 + 3 + 1 + 2 * a1.toNat) (fun (σ9 : SG) => Q (σ9 1 4) σ9))) ∧ (¬ 2 ≤ z7 → wp_X0_countOfKind σ6 (1 + 3 + 1 + 2 * a1.toNat) 1 (fun (z11 : Int) (σ10 : SG) => ((2 ≤ z11 → wp_X3_record σ10 1 (fun (σ12 : SG) => wp_X0_joinByKind σ12 (1 + 3 + 1 + 2 * a1.toNat) (fun (σ13 : SG) => Q (σ13 1 4) σ13))) ∧ (¬ 2 ≤ z11 → Q (-5) σ10))))))) ∧ (¬ z5 ≤ 0 → Q (-4) σ4))))) ∧ (z2 = 0 → Q (-1) σ1)))
def rm_X9_joinAlike : Room := { frames := 6, cells := 0, slots := 0, locals := 147 }
theorem wy_X9_joinAlike : Cond.instanceMethod yX9_joinAlike ∈ WS ∧ Cond.selects "SplitTowers" yX9_joinAlike yX9_joinAlike ∈ WS ∧ Cond.initialized "SplitTowers" ∈ WS ∧ Cond.code yX9_joinAlike prog_1_method_10_code 3 (some .int) ∈ WS := ⟨w724, w725, w68, w726⟩
theorem hd_X9_joinAlike : yX9_joinAlike.cls = "SplitTowers" ∧ yX9_joinAlike.cls ≠ "java/lang/invoke/MethodHandle" ∧ yX9_joinAlike.cls ≠ "java/lang/invoke/VarHandle" ∧ (parseMethodDescriptor yX9_joinAlike.desc).map (fun d => d.parameters.length) = some 1 := by decide +kernel
set_option maxHeartbeats 4000000 in
set_option maxRecDepth 100000 in
theorem s_X9_joinAlike {l : Launch} {D : va_G} {aC : Nat → ClassId} {B lo hi : Nat} {σ : SG} {a1 : Int} {Q : Int → SG → Prop} (hlo : lo ≤ 0) (hhi : 304 ≤ hi) (r1 : inR a1) (h : wp_X9_joinAlike σ a1 Q) : Met l yX9_joinAlike (Cond.code yX9_joinAlike prog_1_method_10_code 3 (some .int) :: WS) rm_X9_joinAlike (va_Pc [.ref (B + 0), .int (iI a1)] (WP D aC B lo hi σ)) (QI D aC B lo hi Q) 0 0 (AB B lo hi) := by
  refine met_of (by decide +kernel) (by decide +kernel : yX9_joinAlike.cls = "SplitTowers") (Nat.le_of_ble_eq_true rfl) ?_
  intro p e s m args below meth c C
  unfold wp_X9_joinAlike at h
  refine v_R (fun hR0 => ?_)
  show V p l e rm_X9_joinAlike s m args below meth c D aC B lo hi 3 (MQ below (QI D aC B lo hi Q) args s 0 0 (AB B lo hi)) σ 0 [(0, .ref (B + 0)), (1, .int (iI a1))] []
  refine v_iload_n C 1 dX9_joinAlike_0 rfl rfl ?_
  refine v_callsi (As := [.int (iI a1)]) (rest := []) C (s_X9_isRegister hlo hhi r1 h) w535 wy_X9_isRegister ⟨rfl, rfl⟩ hd_X9_isRegister ⟨Nat.le_of_ble_eq_true rfl, Nat.le_of_ble_eq_true rfl⟩ rfl rfl (Nat.le_of_ble_eq_true rfl) dX9_joinAlike_1 (fun z2 σ1 rz2 h => ?_)
  refine v_R (fun hRσ1 => ?_)
  refine v_if_ne C rz2 9 dX9_joinAlike_4 (by decide) (fun c17 => ?_) (fun c17 => ?_)
  · have h := h.1 c17
    refine v_aload_n C 0 dX9_joinAlike_9 rfl rfl ?_
    refine gf9_now C hlo hhi w405 dX9_joinAlike_10 ?_
    refine gf7_registers C (SO_full hlo hhi kt1) w162 dX9_joinAlike_13 ?_
    refine v_iload_n C 1 dX9_joinAlike_16 rfl rfl ?_
    have k3 := h.1
    have h := h.2
    refine v_aaldR C (SO_full hlo hhi kt1) r1 k3 dX9_joinAlike_17 ?_
    refine v_astore_n (lv' := [(2, .ref (B + (1 + 3 + 1 + 2 * a1.toNat))), (0, .ref (B + 0)), (1, .int (iI a1))]) C dX9_joinAlike_18 rfl (by decide) rfl ?_
    refine v_aload_n C 1 dX9_joinAlike_19 rfl rfl ?_
    refine gf9_branching C hlo hhi w413 dX9_joinAlike_20 ?_
    refine v_aload_n C 0 dX9_joinAlike_23 rfl rfl ?_
    refine v_iconst C dX9_joinAlike_24 ?_
    refine v_calli (i := 91) (As := [.ref (B + (1 + 3 + 1 + 2 * a1.toNat)), .int (iI 2)]) (rest := []) C (s_X0_countOfKind hlo hhi (PO_reg (SO_full hlo hhi kt1) (k3).1 (k3).2) (by decide) h) w692 wy_X0_countOfKind ⟨rfl, rfl⟩ hd_X0_countOfKind ⟨Nat.le_of_ble_eq_true rfl, Nat.le_of_ble_eq_true rfl⟩ (Nat.le_trans hlo (Nat.zero_le _)) (Nat.lt_of_lt_of_le (by decide) hhi) rfl rfl rfl rfl (Nat.le_of_ble_eq_true rfl) dX9_joinAlike_25 (fun z5 σ4 rz5 h => ?_)
    refine v_R (fun hRσ4 => ?_)
    refine v_if_le C rz5 34 dX9_joinAlike_28 (by decide) (fun c16 => ?_) (fun c16 => ?_)
    · have h := h.1 c16
      refine v_aload_n C 1 dX9_joinAlike_34 rfl rfl ?_
      refine gf9_branching C hlo hhi w413 dX9_joinAlike_35 ?_
      refine v_aload_n C 0 dX9_joinAlike_38 rfl rfl ?_
      refine v_iconst C dX9_joinAlike_39 ?_
      refine v_calli (i := 91) (As := [.ref (B + (1 + 3 + 1 + 2 * a1.toNat)), .int (iI 0)]) (rest := []) C (s_X0_countOfKind hlo hhi (PO_reg (SO_full hlo hhi kt1) (k3).1 (k3).2) (by decide) h) w692 wy_X0_countOfKind ⟨rfl, rfl⟩ hd_X0_countOfKind ⟨Nat.le_of_ble_eq_true rfl, Nat.le_of_ble_eq_true rfl⟩ (Nat.le_trans hlo (Nat.zero_le _)) (Nat.lt_of_lt_of_le (by decide) hhi) rfl rfl rfl rfl (Nat.le_of_ble_eq_true rfl) dX9_joinAlike_40 (fun z7 σ6 rz7 h => ?_)
      refine v_R (fun hRσ6 => ?_)
      refine v_iconst C dX9_joinAlike_43 ?_
      refine v_icmp_ge C rz7 (by decide) 63 dX9_joinAlike_44 (by decide) (fun c15 => ?_) (fun c15 => ?_)
      · have h := h.1 c15
        refine v_aload_n C 1 dX9_joinAlike_63 rfl rfl ?_
        refine gf9_history C hlo hhi w408 dX9_joinAlike_64 ?_
        refine v_aload_n C 1 dX9_joinAlike_67 rfl rfl ?_
        refine gf9_now C hlo hhi w405 dX9_joinAlike_68 ?_
        refine v_callv (i := 184) (As := [.ref (B + 1)]) (rest := []) C (s_X3_record hlo hhi (SO_full hlo hhi kt1) h) w446 wy_X3_record ⟨rfl, rfl⟩ hd_X3_record ⟨Nat.le_of_ble_eq_true rfl, Nat.le_of_ble_eq_true rfl⟩ (Nat.le_trans hlo (Nat.zero_le _)) (Nat.lt_of_lt_of_le (by decide) hhi) rfl rfl rfl rfl (Nat.le_of_ble_eq_true rfl) dX9_joinAlike_71 (fun σ8 h => ?_)
        refine v_R (fun hRσ8 => ?_)
        refine v_aload_n C 1 dX9_joinAlike_74 rfl rfl ?_
        refine gf9_branching C hlo hhi w413 dX9_joinAlike_75 ?_
        refine v_aload_n C 0 dX9_joinAlike_78 rfl rfl ?_
        refine v_callv (i := 91) (As := [.ref (B + (1 + 3 + 1 + 2 * a1.toNat))]) (rest := []) C (s_X0_joinByKind hlo hhi (PO_reg (SO_full hlo hhi kt1) (k3).1 (k3).2) h) w727 wy_X0_joinByKind ⟨rfl, rfl⟩ hd_X0_joinByKind ⟨Nat.le_of_ble_eq_true rfl, Nat.le_of_ble_eq_true rfl⟩ (Nat.le_trans hlo (Nat.zero_le _)) (Nat.lt_of_lt_of_le (by decide) hhi) rfl rfl rfl rfl (Nat.le_of_ble_eq_true rfl) dX9_joinAlike_79 (fun σ9 h => ?_)
        refine v_R (fun hRσ9 => ?_)
        refine v_aload_n C 1 dX9_joinAlike_82 rfl rfl ?_
        refine gf9_now C hlo hhi w405 dX9_joinAlike_83 ?_
        refine gf7_branchCount C (SO_full hlo hhi kt1) w169 dX9_joinAlike_86 ?_
        exact v_iret C (hRσ9 1 4) h dX9_joinAlike_89
      · have h := h.2 c15
        refine v_aload_n C 1 dX9_joinAlike_47 rfl rfl ?_
        refine gf9_branching C hlo hhi w413 dX9_joinAlike_48 ?_
        refine v_aload_n C 0 dX9_joinAlike_51 rfl rfl ?_
        refine v_iconst C dX9_joinAlike_52 ?_
        refine v_calli (i := 91) (As := [.ref (B + (1 + 3 + 1 + 2 * a1.toNat)), .int (iI 1)]) (rest := []) C (s_X0_countOfKind hlo hhi (PO_reg (SO_full hlo hhi kt1) (k3).1 (k3).2) (by decide) h) w692 wy_X0_countOfKind ⟨rfl, rfl⟩ hd_X0_countOfKind ⟨Nat.le_of_ble_eq_true rfl, Nat.le_of_ble_eq_true rfl⟩ (Nat.le_trans hlo (Nat.zero_le _)) (Nat.lt_of_lt_of_le (by decide) hhi) rfl rfl rfl rfl (Nat.le_of_ble_eq_true rfl) dX9_joinAlike_53 (fun z11 σ10 rz11 h => ?_)
        refine v_R (fun hRσ10 => ?_)
        refine v_iconst C dX9_joinAlike_56 ?_
        refine v_icmp_ge C rz11 (by decide) 63 dX9_joinAlike_57 (by decide) (fun c14 => ?_) (fun c14 => ?_)
        · have h := h.1 c14
          refine v_aload_n C 1 dX9_joinAlike_63 rfl rfl ?_
          refine gf9_history C hlo hhi w408 dX9_joinAlike_64 ?_
          refine v_aload_n C 1 dX9_joinAlike_67 rfl rfl ?_
          refine gf9_now C hlo hhi w405 dX9_joinAlike_68 ?_
          refine v_callv (i := 184) (As := [.ref (B + 1)]) (rest := []) C (s_X3_record hlo hhi (SO_full hlo hhi kt1) h) w446 wy_X3_record ⟨rfl, rfl⟩ hd_X3_record ⟨Nat.le_of_ble_eq_true rfl, Nat.le_of_ble_eq_true rfl⟩ (Nat.le_trans hlo (Nat.zero_le _)) (Nat.lt_of_lt_of_le (by decide) hhi) rfl rfl rfl rfl (Nat.le_of_ble_eq_true rfl) dX9_joinAlike_71 (fun σ12 h => ?_)
          refine v_R (fun hRσ12 => ?_)
          refine v_aload_n C 1 dX9_joinAlike_74 rfl rfl ?_
          refine gf9_branching C hlo hhi w413 dX9_joinAlike_75 ?_
          refine v_aload_n C 0 dX9_joinAlike_78 rfl rfl ?_
          refine v_callv (i := 91) (As := [.ref (B + (1 + 3 + 1 + 2 * a1.toNat))]) (rest := []) C (s_X0_joinByKind hlo hhi (PO_reg (SO_full hlo hhi kt1) (k3).1 (k3).2) h) w727 wy_X0_joinByKind ⟨rfl, rfl⟩ hd_X0_joinByKind ⟨Nat.le_of_ble_eq_true rfl, Nat.le_of_ble_eq_true rfl⟩ (Nat.le_trans hlo (Nat.zero_le _)) (Nat.lt_of_lt_of_le (by decide) hhi) rfl rfl rfl rfl (Nat.le_of_ble_eq_true rfl) dX9_joinAlike_79 (fun σ13 h => ?_)
          refine v_R (fun hRσ13 => ?_)
          refine v_aload_n C 1 dX9_joinAlike_82 rfl rfl ?_
          refine gf9_now C hlo hhi w405 dX9_joinAlike_83 ?_
          refine gf7_branchCount C (SO_full hlo hhi kt1) w169 dX9_joinAlike_86 ?_
          exact v_iret C (hRσ13 1 4) h dX9_joinAlike_89
        · have h := h.2 c14
          refine v_bipush C dX9_joinAlike_60 (by decide) ?_
          exact v_iret C (by decide) h dX9_joinAlike_62
    · have h := h.2 c16
      refine v_bipush C dX9_joinAlike_31 (by decide) ?_
      exact v_iret C (by decide) h dX9_joinAlike_33
  · have h := h.2 c17
    refine v_iconst C dX9_joinAlike_7 ?_
    exact v_iret C (by decide) h dX9_joinAlike_8
-- SplitTowers.keep()I
def wp_X9_keep (σ : SG)  (Q : Int → SG → Prop) : Prop :=
  wp_X7_copy σ 155 1 (fun (σ1 : SG) => (∀ σ2 : SG, σ2 = ug σ1 0 2 1 → Q (σ2 1 4) σ2))
def rm_X9_keep : Room := { frames := 2, cells := 0, slots := 0, locals := 44 }
theorem wy_X9_keep : Cond.instanceMethod yX9_keep ∈ WS ∧ Cond.selects "SplitTowers" yX9_keep yX9_keep ∈ WS ∧ Cond.initialized "SplitTowers" ∈ WS ∧ Cond.code yX9_keep prog_1_method_14_code 1 (some .int) ∈ WS := ⟨w753, w754, w68, w755⟩
theorem hd_X9_keep : yX9_keep.cls = "SplitTowers" ∧ yX9_keep.cls ≠ "java/lang/invoke/MethodHandle" ∧ yX9_keep.cls ≠ "java/lang/invoke/VarHandle" ∧ (parseMethodDescriptor yX9_keep.desc).map (fun d => d.parameters.length) = some 0 := by decide +kernel
set_option maxHeartbeats 4000000 in
set_option maxRecDepth 100000 in
theorem s_X9_keep {l : Launch} {D : va_G} {aC : Nat → ClassId} {B lo hi : Nat} {σ : SG}  {Q : Int → SG → Prop} (hlo : lo ≤ 0) (hhi : 304 ≤ hi) (h : wp_X9_keep σ  Q) : Met l yX9_keep (Cond.code yX9_keep prog_1_method_14_code 1 (some .int) :: WS) rm_X9_keep (va_Pc [.ref (B + 0)] (WP D aC B lo hi σ)) (QI D aC B lo hi Q) 0 0 (AB B lo hi) := by
  refine met_of (by decide +kernel) (by decide +kernel : yX9_keep.cls = "SplitTowers") (Nat.le_of_ble_eq_true rfl) ?_
  intro p e s m args below meth c C
  unfold wp_X9_keep at h
  refine v_R (fun hR0 => ?_)
  show V p l e rm_X9_keep s m args below meth c D aC B lo hi 1 (MQ below (QI D aC B lo hi Q) args s 0 0 (AB B lo hi)) σ 0 [(0, .ref (B + 0))] []
  refine v_aload_n C 0 dX9_keep_0 rfl rfl ?_
  refine gf9_snapshot C hlo hhi w406 dX9_keep_1 ?_
  refine v_aload_n C 0 dX9_keep_4 rfl rfl ?_
  refine gf9_now C hlo hhi w405 dX9_keep_5 ?_
  refine v_callv (i := 155) (As := [.ref (B + 1)]) (rest := []) C (s_X7_copy (SO_full hlo hhi kt155) (SO_full hlo hhi kt1) h) w756 wy_X7_copy ⟨rfl, rfl⟩ hd_X7_copy ⟨Nat.le_of_ble_eq_true rfl, Nat.le_of_ble_eq_true rfl⟩ (SO.lo (SO_full hlo hhi kt155)) (SO.hi (SO_full hlo hhi kt155)) (cel_of ((SO_full hlo hhi kt155)).1) rfl rfl rfl (Nat.le_of_ble_eq_true rfl) dX9_keep_8 (fun σ1 h => ?_)
  refine v_R (fun hRσ1 => ?_)
  refine v_aload_n C 0 dX9_keep_11 rfl rfl ?_
  refine v_iconst C dX9_keep_12 ?_
  refine pf9_kept C hlo hhi (by decide) (by decide) w407 dX9_keep_13 ?_
  refine v_nameS (fun σ2 eσ2 => ?_)
  have h := h σ2 eσ2
  refine v_R (fun hRσ2 => ?_)
  refine v_aload_n C 0 dX9_keep_16 rfl rfl ?_
  refine gf9_now C hlo hhi w405 dX9_keep_17 ?_
  refine gf7_branchCount C (SO_full hlo hhi kt1) w169 dX9_keep_20 ?_
  exact v_iret C (hRσ2 1 4) h dX9_keep_23
-- SplitTowers.kind(II)I
def wp_X9_kind (σ : SG) (a1 : Int) (a2 : Int) (Q : Int → SG → Prop) : Prop :=
  wp_X9_isRegister σ a1 (fun (z2 : Int) (σ1 : SG) => ((z2 = 0 → Q (-1) σ1) ∧ (¬ z2 = 0 → wp_X9_isBranch σ1 a2 (fun (z4 : Int) (σ3 : SG) => ((¬ z4 = 0 → ((0 ≤ a2 ∧ a2 < 6) ∧ BO 1 ((σ3 17 a2.toNat).toNat) ∧ ((0 ≤ a1 ∧ a1 < 6) ∧ wp_X0_kindIn σ3 ((σ3 17 a2.toNat).toNat) (1 + 3 + 1 + 2 * a1.toNat) (fun (z9 : Int) (σ8 : SG) => Q z9 σ8)))) ∧ (z4 = 0 → Q (-1) σ3))))))
def rm_X9_kind : Room := { frames := 5, cells := 0, slots := 0, locals := 123 }
theorem wy_X9_kind : Cond.instanceMethod yX9_kind ∈ WS ∧ Cond.selects "SplitTowers" yX9_kind yX9_kind ∈ WS ∧ Cond.initialized "SplitTowers" ∈ WS ∧ Cond.code yX9_kind prog_1_method_20_code 3 (some .int) ∈ WS := ⟨w781, w782, w68, w783⟩
theorem hd_X9_kind : yX9_kind.cls = "SplitTowers" ∧ yX9_kind.cls ≠ "java/lang/invoke/MethodHandle" ∧ yX9_kind.cls ≠ "java/lang/invoke/VarHandle" ∧ (parseMethodDescriptor yX9_kind.desc).map (fun d => d.parameters.length) = some 2 := by decide +kernel
set_option maxHeartbeats 4000000 in
set_option maxRecDepth 100000 in
theorem s_X9_kind {l : Launch} {D : va_G} {aC : Nat → ClassId} {B lo hi : Nat} {σ : SG} {a1 : Int} {a2 : Int} {Q : Int → SG → Prop} (hlo : lo ≤ 0) (hhi : 304 ≤ hi) (r1 : inR a1) (r2 : inR a2) (h : wp_X9_kind σ a1 a2 Q) : Met l yX9_kind (Cond.code yX9_kind prog_1_method_20_code 3 (some .int) :: WS) rm_X9_kind (va_Pc [.ref (B + 0), .int (iI a1), .int (iI a2)] (WP D aC B lo hi σ)) (QI D aC B lo hi Q) 0 0 (AB B lo hi) := by
  refine met_of (by decide +kernel) (by decide +kernel : yX9_kind.cls = "SplitTowers") (Nat.le_of_ble_eq_true rfl) ?_
  intro p e s m args below meth c C
  unfold wp_X9_kind at h
  refine v_R (fun hR0 => ?_)
  show V p l e rm_X9_kind s m args below meth c D aC B lo hi 3 (MQ below (QI D aC B lo hi Q) args s 0 0 (AB B lo hi)) σ 0 [(0, .ref (B + 0)), (1, .int (iI a1)), (2, .int (iI a2))] []
  refine v_iload_n C 1 dX9_kind_0 rfl rfl ?_
  refine v_callsi (As := [.int (iI a1)]) (rest := []) C (s_X9_isRegister hlo hhi r1 h) w535 wy_X9_isRegister ⟨rfl, rfl⟩ hd_X9_isRegister ⟨Nat.le_of_ble_eq_true rfl, Nat.le_of_ble_eq_true rfl⟩ rfl rfl (Nat.le_of_ble_eq_true rfl) dX9_kind_1 (fun z2 σ1 rz2 h => ?_)
  refine v_R (fun hRσ1 => ?_)
  refine v_if_eq C rz2 15 dX9_kind_4 (by decide) (fun c11 => ?_) (fun c11 => ?_)
  · have h := h.1 c11
    refine v_iconst C dX9_kind_15 ?_
    exact v_iret C (by decide) h dX9_kind_16
  · have h := h.2 c11
    refine v_aload_n C 0 dX9_kind_7 rfl rfl ?_
    refine v_iload_n C 2 dX9_kind_8 rfl rfl ?_
    refine v_calli (i := 0) (As := [.int (iI a2)]) (rest := []) C (s_X9_isBranch hlo hhi r2 h) w660 wy_X9_isBranch ⟨rfl, rfl⟩ hd_X9_isBranch ⟨Nat.le_of_ble_eq_true rfl, Nat.le_of_ble_eq_true rfl⟩ (Nat.le_trans hlo (Nat.zero_le _)) (Nat.lt_of_lt_of_le (by decide) hhi) rfl rfl rfl rfl (Nat.le_of_ble_eq_true rfl) dX9_kind_9 (fun z4 σ3 rz4 h => ?_)
    refine v_R (fun hRσ3 => ?_)
    refine v_if_ne C rz4 17 dX9_kind_12 (by decide) (fun c10 => ?_) (fun c10 => ?_)
    · have h := h.1 c10
      refine v_aload_n C 0 dX9_kind_17 rfl rfl ?_
      refine gf9_branching C hlo hhi w413 dX9_kind_18 ?_
      refine v_aload_n C 0 dX9_kind_21 rfl rfl ?_
      refine gf9_now C hlo hhi w405 dX9_kind_22 ?_
      refine gf7_branches C (SO_full hlo hhi kt1) w166 dX9_kind_25 ?_
      refine v_iload_n C 2 dX9_kind_28 rfl rfl ?_
      have k5 := h.1
      have h := h.2
      have k6 := h.1
      have h := h.2
      refine v_aaldB C (SO_full hlo hhi kt1) r2 k5 dX9_kind_29 ?_
      refine v_aload_n C 0 dX9_kind_30 rfl rfl ?_
      refine gf9_now C hlo hhi w405 dX9_kind_31 ?_
      refine gf7_registers C (SO_full hlo hhi kt1) w162 dX9_kind_34 ?_
      refine v_iload_n C 1 dX9_kind_37 rfl rfl ?_
      have k7 := h.1
      have h := h.2
      refine v_aaldR C (SO_full hlo hhi kt1) r1 k7 dX9_kind_38 ?_
      refine v_calli (i := 91) (As := [.ref (B + ((σ3 17 a2.toNat).toNat)), .ref (B + (1 + 3 + 1 + 2 * a1.toNat))]) (rest := []) C (s_X0_kindIn hlo hhi (PO_br (SO_full hlo hhi kt1) k6) (PO_reg (SO_full hlo hhi kt1) (k7).1 (k7).2) h) w784 wy_X0_kindIn ⟨rfl, rfl⟩ hd_X0_kindIn ⟨Nat.le_of_ble_eq_true rfl, Nat.le_of_ble_eq_true rfl⟩ (Nat.le_trans hlo (Nat.zero_le _)) (Nat.lt_of_lt_of_le (by decide) hhi) rfl rfl rfl rfl (Nat.le_of_ble_eq_true rfl) dX9_kind_39 (fun z9 σ8 rz9 h => ?_)
      refine v_R (fun hRσ8 => ?_)
      exact v_iret C rz9 h dX9_kind_42
    · have h := h.2 c10
      refine v_iconst C dX9_kind_15 ?_
      exact v_iret C (by decide) h dX9_kind_16
-- SplitTowers.leastPolynomial(II)I
def wp_X9_leastPolynomial (σ : SG) (a1 : Int) (a2 : Int) (Q : Int → SG → Prop) : Prop :=
  wp_X9_isRegister σ a1 (fun (z2 : Int) (σ1 : SG) => ((¬ z2 = 0 → ((0 ≤ a2 → ((0 ≤ a1 ∧ a1 < 6) ∧ wp_X6_findLeastPolynomial σ1 302 (1 + 3 + 1 + 2 * a1.toNat) (fun (σ4 : SG) => wp_X9_coefficientTold σ4 302 a2 (fun (z6 : Int) (σ5 : SG) => Q z6 σ5)))) ∧ (¬ 0 ≤ a2 → Q (-2) σ1))) ∧ (z2 = 0 → Q (-1) σ1)))
def rm_X9_leastPolynomial : Room := { frames := 5, cells := 0, slots := 0, locals := 121 }
theorem wy_X9_leastPolynomial : Cond.instanceMethod yX9_leastPolynomial ∈ WS ∧ Cond.selects "SplitTowers" yX9_leastPolynomial yX9_leastPolynomial ∈ WS ∧ Cond.initialized "SplitTowers" ∈ WS ∧ Cond.code yX9_leastPolynomial prog_1_method_23_code 3 (some .int) ∈ WS := ⟨w797, w798, w68, w799⟩
theorem hd_X9_leastPolynomial : yX9_leastPolynomial.cls = "SplitTowers" ∧ yX9_leastPolynomial.cls ≠ "java/lang/invoke/MethodHandle" ∧ yX9_leastPolynomial.cls ≠ "java/lang/invoke/VarHandle" ∧ (parseMethodDescriptor yX9_leastPolynomial.desc).map (fun d => d.parameters.length) = some 2 := by decide +kernel
set_option maxHeartbeats 4000000 in
set_option maxRecDepth 100000 in
theorem s_X9_leastPolynomial {l : Launch} {D : va_G} {aC : Nat → ClassId} {B lo hi : Nat} {σ : SG} {a1 : Int} {a2 : Int} {Q : Int → SG → Prop} (hlo : lo ≤ 0) (hhi : 304 ≤ hi) (r1 : inR a1) (r2 : inR a2) (h : wp_X9_leastPolynomial σ a1 a2 Q) : Met l yX9_leastPolynomial (Cond.code yX9_leastPolynomial prog_1_method_23_code 3 (some .int) :: WS) rm_X9_leastPolynomial (va_Pc [.ref (B + 0), .int (iI a1), .int (iI a2)] (WP D aC B lo hi σ)) (QI D aC B lo hi Q) 0 0 (AB B lo hi) := by
  refine met_of (by decide +kernel) (by decide +kernel : yX9_leastPolynomial.cls = "SplitTowers") (Nat.le_of_ble_eq_true rfl) ?_
  intro p e s m args below meth c C
  unfold wp_X9_leastPolynomial at h
  refine v_R (fun hR0 => ?_)
  show V p l e rm_X9_leastPolynomial s m args below meth c D aC B lo hi 3 (MQ below (QI D aC B lo hi Q) args s 0 0 (AB B lo hi)) σ 0 [(0, .ref (B + 0)), (1, .int (iI a1)), (2, .int (iI a2))] []
  refine v_iload_n C 1 dX9_leastPolynomial_0 rfl rfl ?_
  refine v_callsi (As := [.int (iI a1)]) (rest := []) C (s_X9_isRegister hlo hhi r1 h) w535 wy_X9_isRegister ⟨rfl, rfl⟩ hd_X9_isRegister ⟨Nat.le_of_ble_eq_true rfl, Nat.le_of_ble_eq_true rfl⟩ rfl rfl (Nat.le_of_ble_eq_true rfl) dX9_leastPolynomial_1 (fun z2 σ1 rz2 h => ?_)
  refine v_R (fun hRσ1 => ?_)
  refine v_if_ne C rz2 9 dX9_leastPolynomial_4 (by decide) (fun c8 => ?_) (fun c8 => ?_)
  · have h := h.1 c8
    refine v_iload_n C 2 dX9_leastPolynomial_9 rfl rfl ?_
    refine v_if_ge C r2 16 dX9_leastPolynomial_10 (by decide) (fun c7 => ?_) (fun c7 => ?_)
    · have h := h.1 c7
      refine v_aload_n C 0 dX9_leastPolynomial_16 rfl rfl ?_
      refine gf9_ring C hlo hhi w411 dX9_leastPolynomial_17 ?_
      refine v_aload_n C 0 dX9_leastPolynomial_20 rfl rfl ?_
      refine gf9_answer C hlo hhi w415 dX9_leastPolynomial_21 ?_
      refine v_aload_n C 0 dX9_leastPolynomial_24 rfl rfl ?_
      refine gf9_now C hlo hhi w405 dX9_leastPolynomial_25 ?_
      refine gf7_registers C (SO_full hlo hhi kt1) w162 dX9_leastPolynomial_28 ?_
      refine v_iload_n C 1 dX9_leastPolynomial_31 rfl rfl ?_
      have k3 := h.1
      have h := h.2
      refine v_aaldR C (SO_full hlo hhi kt1) r1 k3 dX9_leastPolynomial_32 ?_
      refine v_callv (i := 48) (As := [.ref (B + 302), .ref (B + (1 + 3 + 1 + 2 * a1.toNat))]) (rest := []) C (s_X6_findLeastPolynomial hlo hhi (PO_full hlo hhi kt302) (PO_reg (SO_full hlo hhi kt1) (k3).1 (k3).2) h) w800 wy_X6_findLeastPolynomial ⟨rfl, rfl⟩ hd_X6_findLeastPolynomial ⟨Nat.le_of_ble_eq_true rfl, Nat.le_of_ble_eq_true rfl⟩ (Nat.le_trans hlo (Nat.zero_le _)) (Nat.lt_of_lt_of_le (by decide) hhi) rfl rfl rfl rfl (Nat.le_of_ble_eq_true rfl) dX9_leastPolynomial_33 (fun σ4 h => ?_)
      refine v_R (fun hRσ4 => ?_)
      refine v_aload_n C 0 dX9_leastPolynomial_36 rfl rfl ?_
      refine gf9_answer C hlo hhi w415 dX9_leastPolynomial_37 ?_
      refine v_iload_n C 2 dX9_leastPolynomial_40 rfl rfl ?_
      refine v_callsi (As := [.ref (B + 302), .int (iI a2)]) (rest := []) C (s_X9_coefficientTold hlo hhi (PO_full hlo hhi kt302) r2 h) w765 wy_X9_coefficientTold ⟨rfl, rfl⟩ hd_X9_coefficientTold ⟨Nat.le_of_ble_eq_true rfl, Nat.le_of_ble_eq_true rfl⟩ rfl rfl (Nat.le_of_ble_eq_true rfl) dX9_leastPolynomial_41 (fun z6 σ5 rz6 h => ?_)
      refine v_R (fun hRσ5 => ?_)
      exact v_iret C rz6 h dX9_leastPolynomial_44
    · have h := h.2 c7
      refine v_bipush C dX9_leastPolynomial_13 (by decide) ?_
      exact v_iret C (by decide) h dX9_leastPolynomial_15
  · have h := h.2 c8
    refine v_iconst C dX9_leastPolynomial_7 ?_
    exact v_iret C (by decide) h dX9_leastPolynomial_8
-- SplitTowers.modulus(I)I
def wp_X9_modulus (σ : SG) (a1 : Int) (Q : Int → SG → Prop) : Prop :=
  wp_X9_coefficientTold σ 2 a1 (fun (z2 : Int) (σ1 : SG) => Q z2 σ1)
def rm_X9_modulus : Room := { frames := 2, cells := 0, slots := 0, locals := 42 }
theorem wy_X9_modulus : Cond.instanceMethod yX9_modulus ∈ WS ∧ Cond.selects "SplitTowers" yX9_modulus yX9_modulus ∈ WS ∧ Cond.initialized "SplitTowers" ∈ WS ∧ Cond.code yX9_modulus prog_1_method_16_code 2 (some .int) ∈ WS := ⟨w762, w763, w68, w764⟩
theorem hd_X9_modulus : yX9_modulus.cls = "SplitTowers" ∧ yX9_modulus.cls ≠ "java/lang/invoke/MethodHandle" ∧ yX9_modulus.cls ≠ "java/lang/invoke/VarHandle" ∧ (parseMethodDescriptor yX9_modulus.desc).map (fun d => d.parameters.length) = some 1 := by decide +kernel
set_option maxHeartbeats 4000000 in
set_option maxRecDepth 100000 in
theorem s_X9_modulus {l : Launch} {D : va_G} {aC : Nat → ClassId} {B lo hi : Nat} {σ : SG} {a1 : Int} {Q : Int → SG → Prop} (hlo : lo ≤ 0) (hhi : 304 ≤ hi) (r1 : inR a1) (h : wp_X9_modulus σ a1 Q) : Met l yX9_modulus (Cond.code yX9_modulus prog_1_method_16_code 2 (some .int) :: WS) rm_X9_modulus (va_Pc [.ref (B + 0), .int (iI a1)] (WP D aC B lo hi σ)) (QI D aC B lo hi Q) 0 0 (AB B lo hi) := by
  refine met_of (by decide +kernel) (by decide +kernel : yX9_modulus.cls = "SplitTowers") (Nat.le_of_ble_eq_true rfl) ?_
  intro p e s m args below meth c C
  unfold wp_X9_modulus at h
  refine v_R (fun hR0 => ?_)
  show V p l e rm_X9_modulus s m args below meth c D aC B lo hi 2 (MQ below (QI D aC B lo hi Q) args s 0 0 (AB B lo hi)) σ 0 [(0, .ref (B + 0)), (1, .int (iI a1))] []
  refine v_aload_n C 0 dX9_modulus_0 rfl rfl ?_
  refine gf9_now C hlo hhi w405 dX9_modulus_1 ?_
  refine gf7_modulus C (SO_full hlo hhi kt1) w160 dX9_modulus_4 ?_
  refine v_iload_n C 1 dX9_modulus_7 rfl rfl ?_
  refine v_callsi (As := [.ref (B + 2), .int (iI a1)]) (rest := []) C (s_X9_coefficientTold hlo hhi (PO_mod (SO_full hlo hhi kt1)) r1 h) w765 wy_X9_coefficientTold ⟨rfl, rfl⟩ hd_X9_coefficientTold ⟨Nat.le_of_ble_eq_true rfl, Nat.le_of_ble_eq_true rfl⟩ rfl rfl (Nat.le_of_ble_eq_true rfl) dX9_modulus_8 (fun z2 σ1 rz2 h => ?_)
  refine v_R (fun hRσ1 => ?_)
  exact v_iret C rz2 h dX9_modulus_11
-- SplitTowers.number(II)I
def wp_X9_number (σ : SG) (a1 : Int) (a2 : Int) (Q : Int → SG → Prop) : Prop :=
  wp_X9_isRegister σ a1 (fun (z2 : Int) (σ1 : SG) => ((¬ z2 = 0 → wp_X9_isPlace σ1 a2 (fun (z4 : Int) (σ3 : SG) => ((z4 = 0 → Q (-2) σ3) ∧ (¬ z4 = 0 → ((0 ≤ a1 ∧ a1 < 6) ∧ wp_X4_at σ3 (1 + 3 + 1 + 2 * a1.toNat) a2 (fun (z7 : Int) (σ6 : SG) => Q z7 σ6)))))) ∧ (z2 = 0 → Q (-1) σ1)))
def rm_X9_number : Room := { frames := 1, cells := 0, slots := 0, locals := 21 }
theorem wy_X9_number : Cond.instanceMethod yX9_number ∈ WS ∧ Cond.selects "SplitTowers" yX9_number yX9_number ∈ WS ∧ Cond.initialized "SplitTowers" ∈ WS ∧ Cond.code yX9_number prog_1_method_17_code 3 (some .int) ∈ WS := ⟨w769, w770, w68, w771⟩
theorem hd_X9_number : yX9_number.cls = "SplitTowers" ∧ yX9_number.cls ≠ "java/lang/invoke/MethodHandle" ∧ yX9_number.cls ≠ "java/lang/invoke/VarHandle" ∧ (parseMethodDescriptor yX9_number.desc).map (fun d => d.parameters.length) = some 2 := by decide +kernel
set_option maxHeartbeats 4000000 in
set_option maxRecDepth 100000 in
theorem s_X9_number {l : Launch} {D : va_G} {aC : Nat → ClassId} {B lo hi : Nat} {σ : SG} {a1 : Int} {a2 : Int} {Q : Int → SG → Prop} (hlo : lo ≤ 0) (hhi : 304 ≤ hi) (r1 : inR a1) (r2 : inR a2) (h : wp_X9_number σ a1 a2 Q) : Met l yX9_number (Cond.code yX9_number prog_1_method_17_code 3 (some .int) :: WS) rm_X9_number (va_Pc [.ref (B + 0), .int (iI a1), .int (iI a2)] (WP D aC B lo hi σ)) (QI D aC B lo hi Q) 0 0 (AB B lo hi) := by
  refine met_of (by decide +kernel) (by decide +kernel : yX9_number.cls = "SplitTowers") (Nat.le_of_ble_eq_true rfl) ?_
  intro p e s m args below meth c C
  unfold wp_X9_number at h
  refine v_R (fun hR0 => ?_)
  show V p l e rm_X9_number s m args below meth c D aC B lo hi 3 (MQ below (QI D aC B lo hi Q) args s 0 0 (AB B lo hi)) σ 0 [(0, .ref (B + 0)), (1, .int (iI a1)), (2, .int (iI a2))] []
  refine v_iload_n C 1 dX9_number_0 rfl rfl ?_
  refine v_callsi (As := [.int (iI a1)]) (rest := []) C (s_X9_isRegister hlo hhi r1 h) w535 wy_X9_isRegister ⟨rfl, rfl⟩ hd_X9_isRegister ⟨Nat.le_of_ble_eq_true rfl, Nat.le_of_ble_eq_true rfl⟩ rfl rfl (Nat.le_of_ble_eq_true rfl) dX9_number_1 (fun z2 σ1 rz2 h => ?_)
  refine v_R (fun hRσ1 => ?_)
  refine v_if_ne C rz2 9 dX9_number_4 (by decide) (fun c9 => ?_) (fun c9 => ?_)
  · have h := h.1 c9
    refine v_aload_n C 0 dX9_number_9 rfl rfl ?_
    refine v_iload_n C 2 dX9_number_10 rfl rfl ?_
    refine v_calli (i := 0) (As := [.int (iI a2)]) (rest := []) C (s_X9_isPlace hlo hhi r2 h) w538 wy_X9_isPlace ⟨rfl, rfl⟩ hd_X9_isPlace ⟨Nat.le_of_ble_eq_true rfl, Nat.le_of_ble_eq_true rfl⟩ (Nat.le_trans hlo (Nat.zero_le _)) (Nat.lt_of_lt_of_le (by decide) hhi) rfl rfl rfl rfl (Nat.le_of_ble_eq_true rfl) dX9_number_11 (fun z4 σ3 rz4 h => ?_)
    refine v_R (fun hRσ3 => ?_)
    refine v_if_eq C rz4 33 dX9_number_14 (by decide) (fun c8 => ?_) (fun c8 => ?_)
    · have h := h.1 c8
      refine v_bipush C dX9_number_33 (by decide) ?_
      exact v_iret C (by decide) h dX9_number_35
    · have h := h.2 c8
      refine v_aload_n C 0 dX9_number_17 rfl rfl ?_
      refine gf9_now C hlo hhi w405 dX9_number_18 ?_
      refine gf7_registers C (SO_full hlo hhi kt1) w162 dX9_number_21 ?_
      refine v_iload_n C 1 dX9_number_24 rfl rfl ?_
      have k5 := h.1
      have h := h.2
      refine v_aaldR C (SO_full hlo hhi kt1) r1 k5 dX9_number_25 ?_
      refine v_iload_n C 2 dX9_number_26 rfl rfl ?_
      refine v_calli (i := 1 + 3 + 1 + 2 * a1.toNat) (As := [.int (iI a2)]) (rest := []) C (s_X4_at (PO_reg (SO_full hlo hhi kt1) (k5).1 (k5).2) r2 h) w542 wy_X4_at ⟨rfl, rfl⟩ hd_X4_at ⟨Nat.le_of_ble_eq_true rfl, Nat.le_of_ble_eq_true rfl⟩ (PO.lo (PO_reg (SO_full hlo hhi kt1) (k5).1 (k5).2)) (PO.hi (PO_reg (SO_full hlo hhi kt1) (k5).1 (k5).2)) (cel_of ((PO_reg (SO_full hlo hhi kt1) (k5).1 (k5).2)).1) rfl rfl rfl (Nat.le_of_ble_eq_true rfl) dX9_number_27 (fun z7 σ6 rz7 h => ?_)
      refine v_R (fun hRσ6 => ?_)
      refine v_goto C 35 dX9_number_30 (by decide) ?_
      exact v_iret C rz7 h dX9_number_35
  · have h := h.2 c9
    refine v_iconst C dX9_number_7 ?_
    exact v_iret C (by decide) h dX9_number_8
-- SplitTowers.order(I)I
def wp_X9_order (σ : SG) (a1 : Int) (Q : Int → SG → Prop) : Prop :=
  wp_X9_isRegister σ a1 (fun (z2 : Int) (σ1 : SG) => ((¬ z2 = 0 → ((0 ≤ a1 ∧ a1 < 6) ∧ wp_X0_kindIn σ1 2 (1 + 3 + 1 + 2 * a1.toNat) (fun (z5 : Int) (σ4 : SG) => ((z5 = 1 → wp_X1_find σ4 (fun (σ6 : SG) => wp_X1_commonExponent σ6 (fun (z8 : Int) (σ7 : SG) => wp_X6_leastExponent σ7 (1 + 3 + 1 + 2 * a1.toNat) z8 (fun (z10 : Int) (σ9 : SG) => Q z10 σ9)))) ∧ (¬ z5 = 1 → Q (-5) σ4))))) ∧ (z2 = 0 → Q (-1) σ1)))
def rm_X9_order : Room := { frames := 6, cells := 0, slots := 0, locals := 148 }
theorem wy_X9_order : Cond.instanceMethod yX9_order ∈ WS ∧ Cond.selects "SplitTowers" yX9_order yX9_order ∈ WS ∧ Cond.initialized "SplitTowers" ∈ WS ∧ Cond.code yX9_order prog_1_method_25_code 3 (some .int) ∈ WS := ⟨w822, w823, w68, w824⟩
theorem hd_X9_order : yX9_order.cls = "SplitTowers" ∧ yX9_order.cls ≠ "java/lang/invoke/MethodHandle" ∧ yX9_order.cls ≠ "java/lang/invoke/VarHandle" ∧ (parseMethodDescriptor yX9_order.desc).map (fun d => d.parameters.length) = some 1 := by decide +kernel
set_option maxHeartbeats 4000000 in
set_option maxRecDepth 100000 in
theorem s_X9_order {l : Launch} {D : va_G} {aC : Nat → ClassId} {B lo hi : Nat} {σ : SG} {a1 : Int} {Q : Int → SG → Prop} (hlo : lo ≤ 0) (hhi : 304 ≤ hi) (r1 : inR a1) (h : wp_X9_order σ a1 Q) : Met l yX9_order (Cond.code yX9_order prog_1_method_25_code 3 (some .int) :: WS) rm_X9_order (va_Pc [.ref (B + 0), .int (iI a1)] (WP D aC B lo hi σ)) (QI D aC B lo hi Q) 0 0 (AB B lo hi) := by
  refine met_of (by decide +kernel) (by decide +kernel : yX9_order.cls = "SplitTowers") (Nat.le_of_ble_eq_true rfl) ?_
  intro p e s m args below meth c C
  unfold wp_X9_order at h
  refine v_R (fun hR0 => ?_)
  show V p l e rm_X9_order s m args below meth c D aC B lo hi 3 (MQ below (QI D aC B lo hi Q) args s 0 0 (AB B lo hi)) σ 0 [(0, .ref (B + 0)), (1, .int (iI a1))] []
  refine v_iload_n C 1 dX9_order_0 rfl rfl ?_
  refine v_callsi (As := [.int (iI a1)]) (rest := []) C (s_X9_isRegister hlo hhi r1 h) w535 wy_X9_isRegister ⟨rfl, rfl⟩ hd_X9_isRegister ⟨Nat.le_of_ble_eq_true rfl, Nat.le_of_ble_eq_true rfl⟩ rfl rfl (Nat.le_of_ble_eq_true rfl) dX9_order_1 (fun z2 σ1 rz2 h => ?_)
  refine v_R (fun hRσ1 => ?_)
  refine v_if_ne C rz2 9 dX9_order_4 (by decide) (fun c12 => ?_) (fun c12 => ?_)
  · have h := h.1 c12
    refine v_aload_n C 0 dX9_order_9 rfl rfl ?_
    refine gf9_now C hlo hhi w405 dX9_order_10 ?_
    refine gf7_registers C (SO_full hlo hhi kt1) w162 dX9_order_13 ?_
    refine v_iload_n C 1 dX9_order_16 rfl rfl ?_
    have k3 := h.1
    have h := h.2
    refine v_aaldR C (SO_full hlo hhi kt1) r1 k3 dX9_order_17 ?_
    refine v_astore_n (lv' := [(2, .ref (B + (1 + 3 + 1 + 2 * a1.toNat))), (0, .ref (B + 0)), (1, .int (iI a1))]) C dX9_order_18 rfl (by decide) rfl ?_
    refine v_aload_n C 1 dX9_order_19 rfl rfl ?_
    refine gf9_branching C hlo hhi w413 dX9_order_20 ?_
    refine v_aload_n C 1 dX9_order_23 rfl rfl ?_
    refine gf9_now C hlo hhi w405 dX9_order_24 ?_
    refine gf7_modulus C (SO_full hlo hhi kt1) w160 dX9_order_27 ?_
    refine v_aload_n C 0 dX9_order_30 rfl rfl ?_
    refine v_calli (i := 91) (As := [.ref (B + 2), .ref (B + (1 + 3 + 1 + 2 * a1.toNat))]) (rest := []) C (s_X0_kindIn hlo hhi (PO_mod (SO_full hlo hhi kt1)) (PO_reg (SO_full hlo hhi kt1) (k3).1 (k3).2) h) w784 wy_X0_kindIn ⟨rfl, rfl⟩ hd_X0_kindIn ⟨Nat.le_of_ble_eq_true rfl, Nat.le_of_ble_eq_true rfl⟩ (Nat.le_trans hlo (Nat.zero_le _)) (Nat.lt_of_lt_of_le (by decide) hhi) rfl rfl rfl rfl (Nat.le_of_ble_eq_true rfl) dX9_order_31 (fun z5 σ4 rz5 h => ?_)
    refine v_R (fun hRσ4 => ?_)
    refine v_iconst C dX9_order_34 ?_
    refine v_icmp_eq C rz5 (by decide) 41 dX9_order_35 (by decide) (fun c11 => ?_) (fun c11 => ?_)
    · have h := h.1 c11
      refine v_aload_n C 1 dX9_order_41 rfl rfl ?_
      refine gf9_degrees C hlo hhi w412 dX9_order_42 ?_
      refine v_callv (i := 100) (As := []) (rest := []) C (s_X1_find hlo hhi h) w698 wy_X1_find ⟨rfl, rfl⟩ hd_X1_find ⟨Nat.le_of_ble_eq_true rfl, Nat.le_of_ble_eq_true rfl⟩ (Nat.le_trans hlo (Nat.zero_le _)) (Nat.lt_of_lt_of_le (by decide) hhi) rfl rfl rfl rfl (Nat.le_of_ble_eq_true rfl) dX9_order_45 (fun σ6 h => ?_)
      refine v_R (fun hRσ6 => ?_)
      refine v_aload_n C 1 dX9_order_48 rfl rfl ?_
      refine gf9_ring C hlo hhi w411 dX9_order_49 ?_
      refine v_aload_n C 0 dX9_order_52 rfl rfl ?_
      refine v_aload_n C 1 dX9_order_53 rfl rfl ?_
      refine gf9_degrees C hlo hhi w412 dX9_order_54 ?_
      refine v_calli (i := 100) (As := []) (rest := [.ref (B + (1 + 3 + 1 + 2 * a1.toNat)), .ref (B + 48)]) C (s_X1_commonExponent hlo hhi h) w825 wy_X1_commonExponent ⟨rfl, rfl⟩ hd_X1_commonExponent ⟨Nat.le_of_ble_eq_true rfl, Nat.le_of_ble_eq_true rfl⟩ (Nat.le_trans hlo (Nat.zero_le _)) (Nat.lt_of_lt_of_le (by decide) hhi) rfl rfl rfl rfl (Nat.le_of_ble_eq_true rfl) dX9_order_57 (fun z8 σ7 rz8 h => ?_)
      refine v_R (fun hRσ7 => ?_)
      refine v_calli (i := 48) (As := [.ref (B + (1 + 3 + 1 + 2 * a1.toNat)), .int (iI z8)]) (rest := []) C (s_X6_leastExponent hlo hhi (PO_reg (SO_full hlo hhi kt1) (k3).1 (k3).2) rz8 h) w836 wy_X6_leastExponent ⟨rfl, rfl⟩ hd_X6_leastExponent ⟨Nat.le_of_ble_eq_true rfl, Nat.le_of_ble_eq_true rfl⟩ (Nat.le_trans hlo (Nat.zero_le _)) (Nat.lt_of_lt_of_le (by decide) hhi) rfl rfl rfl rfl (Nat.le_of_ble_eq_true rfl) dX9_order_60 (fun z10 σ9 rz10 h => ?_)
      refine v_R (fun hRσ9 => ?_)
      exact v_iret C rz10 h dX9_order_63
    · have h := h.2 c11
      refine v_bipush C dX9_order_38 (by decide) ?_
      exact v_iret C (by decide) h dX9_order_40
  · have h := h.2 c12
    refine v_iconst C dX9_order_7 ?_
    exact v_iret C (by decide) h dX9_order_8
-- SplitTowers.part(I)I
def wp_X9_part (σ : SG) (a1 : Int) (Q : Int → SG → Prop) : Prop :=
  wp_X9_isRegister σ a1 (fun (z2 : Int) (σ1 : SG) => ((¬ z2 = 0 → ((0 ≤ a1 ∧ a1 < 6) ∧ wp_X0_countOfKind σ1 (1 + 3 + 1 + 2 * a1.toNat) 2 (fun (z5 : Int) (σ4 : SG) => ((¬ z5 = 0 → wp_X3_record σ4 1 (fun (σ6 : SG) => wp_X0_partBy σ6 (1 + 3 + 1 + 2 * a1.toNat) (fun (σ7 : SG) => wp_X0_countOfKind σ7 (1 + 3 + 1 + 2 * a1.toNat) 0 (fun (z9 : Int) (σ8 : SG) => Q z9 σ8)))) ∧ (z5 = 0 → Q (-5) σ4))))) ∧ (z2 = 0 → Q (-1) σ1)))
def rm_X9_part : Room := { frames := 6, cells := 0, slots := 0, locals := 147 }
theorem wy_X9_part : Cond.instanceMethod yX9_part ∈ WS ∧ Cond.selects "SplitTowers" yX9_part yX9_part ∈ WS ∧ Cond.initialized "SplitTowers" ∈ WS ∧ Cond.code yX9_part prog_1_method_7_code 3 (some .int) ∈ WS := ⟨w689, w690, w68, w691⟩
theorem hd_X9_part : yX9_part.cls = "SplitTowers" ∧ yX9_part.cls ≠ "java/lang/invoke/MethodHandle" ∧ yX9_part.cls ≠ "java/lang/invoke/VarHandle" ∧ (parseMethodDescriptor yX9_part.desc).map (fun d => d.parameters.length) = some 1 := by decide +kernel
set_option maxHeartbeats 4000000 in
set_option maxRecDepth 100000 in
theorem s_X9_part {l : Launch} {D : va_G} {aC : Nat → ClassId} {B lo hi : Nat} {σ : SG} {a1 : Int} {Q : Int → SG → Prop} (hlo : lo ≤ 0) (hhi : 304 ≤ hi) (r1 : inR a1) (h : wp_X9_part σ a1 Q) : Met l yX9_part (Cond.code yX9_part prog_1_method_7_code 3 (some .int) :: WS) rm_X9_part (va_Pc [.ref (B + 0), .int (iI a1)] (WP D aC B lo hi σ)) (QI D aC B lo hi Q) 0 0 (AB B lo hi) := by
  refine met_of (by decide +kernel) (by decide +kernel : yX9_part.cls = "SplitTowers") (Nat.le_of_ble_eq_true rfl) ?_
  intro p e s m args below meth c C
  unfold wp_X9_part at h
  refine v_R (fun hR0 => ?_)
  show V p l e rm_X9_part s m args below meth c D aC B lo hi 3 (MQ below (QI D aC B lo hi Q) args s 0 0 (AB B lo hi)) σ 0 [(0, .ref (B + 0)), (1, .int (iI a1))] []
  refine v_iload_n C 1 dX9_part_0 rfl rfl ?_
  refine v_callsi (As := [.int (iI a1)]) (rest := []) C (s_X9_isRegister hlo hhi r1 h) w535 wy_X9_isRegister ⟨rfl, rfl⟩ hd_X9_isRegister ⟨Nat.le_of_ble_eq_true rfl, Nat.le_of_ble_eq_true rfl⟩ rfl rfl (Nat.le_of_ble_eq_true rfl) dX9_part_1 (fun z2 σ1 rz2 h => ?_)
  refine v_R (fun hRσ1 => ?_)
  refine v_if_ne C rz2 9 dX9_part_4 (by decide) (fun c11 => ?_) (fun c11 => ?_)
  · have h := h.1 c11
    refine v_aload_n C 0 dX9_part_9 rfl rfl ?_
    refine gf9_now C hlo hhi w405 dX9_part_10 ?_
    refine gf7_registers C (SO_full hlo hhi kt1) w162 dX9_part_13 ?_
    refine v_iload_n C 1 dX9_part_16 rfl rfl ?_
    have k3 := h.1
    have h := h.2
    refine v_aaldR C (SO_full hlo hhi kt1) r1 k3 dX9_part_17 ?_
    refine v_astore_n (lv' := [(2, .ref (B + (1 + 3 + 1 + 2 * a1.toNat))), (0, .ref (B + 0)), (1, .int (iI a1))]) C dX9_part_18 rfl (by decide) rfl ?_
    refine v_aload_n C 1 dX9_part_19 rfl rfl ?_
    refine gf9_branching C hlo hhi w413 dX9_part_20 ?_
    refine v_aload_n C 0 dX9_part_23 rfl rfl ?_
    refine v_iconst C dX9_part_24 ?_
    refine v_calli (i := 91) (As := [.ref (B + (1 + 3 + 1 + 2 * a1.toNat)), .int (iI 2)]) (rest := []) C (s_X0_countOfKind hlo hhi (PO_reg (SO_full hlo hhi kt1) (k3).1 (k3).2) (by decide) h) w692 wy_X0_countOfKind ⟨rfl, rfl⟩ hd_X0_countOfKind ⟨Nat.le_of_ble_eq_true rfl, Nat.le_of_ble_eq_true rfl⟩ (Nat.le_trans hlo (Nat.zero_le _)) (Nat.lt_of_lt_of_le (by decide) hhi) rfl rfl rfl rfl (Nat.le_of_ble_eq_true rfl) dX9_part_25 (fun z5 σ4 rz5 h => ?_)
    refine v_R (fun hRσ4 => ?_)
    refine v_if_ne C rz5 34 dX9_part_28 (by decide) (fun c10 => ?_) (fun c10 => ?_)
    · have h := h.1 c10
      refine v_aload_n C 1 dX9_part_34 rfl rfl ?_
      refine gf9_history C hlo hhi w408 dX9_part_35 ?_
      refine v_aload_n C 1 dX9_part_38 rfl rfl ?_
      refine gf9_now C hlo hhi w405 dX9_part_39 ?_
      refine v_callv (i := 184) (As := [.ref (B + 1)]) (rest := []) C (s_X3_record hlo hhi (SO_full hlo hhi kt1) h) w446 wy_X3_record ⟨rfl, rfl⟩ hd_X3_record ⟨Nat.le_of_ble_eq_true rfl, Nat.le_of_ble_eq_true rfl⟩ (Nat.le_trans hlo (Nat.zero_le _)) (Nat.lt_of_lt_of_le (by decide) hhi) rfl rfl rfl rfl (Nat.le_of_ble_eq_true rfl) dX9_part_42 (fun σ6 h => ?_)
      refine v_R (fun hRσ6 => ?_)
      refine v_aload_n C 1 dX9_part_45 rfl rfl ?_
      refine gf9_branching C hlo hhi w413 dX9_part_46 ?_
      refine v_aload_n C 0 dX9_part_49 rfl rfl ?_
      refine v_callv (i := 91) (As := [.ref (B + (1 + 3 + 1 + 2 * a1.toNat))]) (rest := []) C (s_X0_partBy hlo hhi (PO_reg (SO_full hlo hhi kt1) (k3).1 (k3).2) h) w693 wy_X0_partBy ⟨rfl, rfl⟩ hd_X0_partBy ⟨Nat.le_of_ble_eq_true rfl, Nat.le_of_ble_eq_true rfl⟩ (Nat.le_trans hlo (Nat.zero_le _)) (Nat.lt_of_lt_of_le (by decide) hhi) rfl rfl rfl rfl (Nat.le_of_ble_eq_true rfl) dX9_part_50 (fun σ7 h => ?_)
      refine v_R (fun hRσ7 => ?_)
      refine v_aload_n C 1 dX9_part_53 rfl rfl ?_
      refine gf9_branching C hlo hhi w413 dX9_part_54 ?_
      refine v_aload_n C 0 dX9_part_57 rfl rfl ?_
      refine v_iconst C dX9_part_58 ?_
      refine v_calli (i := 91) (As := [.ref (B + (1 + 3 + 1 + 2 * a1.toNat)), .int (iI 0)]) (rest := []) C (s_X0_countOfKind hlo hhi (PO_reg (SO_full hlo hhi kt1) (k3).1 (k3).2) (by decide) h) w692 wy_X0_countOfKind ⟨rfl, rfl⟩ hd_X0_countOfKind ⟨Nat.le_of_ble_eq_true rfl, Nat.le_of_ble_eq_true rfl⟩ (Nat.le_trans hlo (Nat.zero_le _)) (Nat.lt_of_lt_of_le (by decide) hhi) rfl rfl rfl rfl (Nat.le_of_ble_eq_true rfl) dX9_part_59 (fun z9 σ8 rz9 h => ?_)
      refine v_R (fun hRσ8 => ?_)
      exact v_iret C rz9 h dX9_part_62
    · have h := h.2 c10
      refine v_bipush C dX9_part_31 (by decide) ?_
      exact v_iret C (by decide) h dX9_part_33
  · have h := h.2 c11
    refine v_iconst C dX9_part_7 ?_
    exact v_iret C (by decide) h dX9_part_8
-- SplitTowers.partByDegrees()I
def wp_X9_partByDegrees (σ : SG)  (Q : Int → SG → Prop) : Prop :=
  wp_X1_find σ (fun (σ1 : SG) => Lp2 (fun (rec5 : Int → Int → SG → Prop) (x2 : Int) (x3 : Int) (σ4 : SG) => ((6 < x2 → ((¬ x3 = 0 → wp_X3_record σ4 1 (fun (σ8 : SG) => Lp1 (fun (rec11 : Int → SG → Prop) (x9 : Int) (σ10 : SG) => ((6 < x9 → Q (σ10 1 4) σ10) ∧ (¬ 6 < x9 → ((0 ≤ x9 ∧ x9 < 7) ∧ wp_X0_partBy σ10 (101 + 1 + 2 * x9.toNat) (fun (σ15 : SG) => (inR (x9 + 1) ∧ rec11 (x9 + 1) σ15)))))) 1 σ8)) ∧ (x3 = 0 → Q (-5) σ4))) ∧ (¬ 6 < x2 → ((¬ x3 = 0 → (inR (x2 + 1) ∧ rec5 (x2 + 1) 1 σ4)) ∧ (x3 = 0 → ((0 ≤ x2 ∧ x2 < 7) ∧ wp_X0_countOfKind σ4 (101 + 1 + 2 * x2.toNat) 2 (fun (z24 : Int) (σ23 : SG) => ((z24 ≤ 0 → (inR (x2 + 1) ∧ rec5 (x2 + 1) 0 σ23)) ∧ (¬ z24 ≤ 0 → (inR (x2 + 1) ∧ rec5 (x2 + 1) 1 σ23)))))))))) 1 0 σ1)
def rm_X9_partByDegrees : Room := { frames := 6, cells := 0, slots := 0, locals := 147 }
theorem wy_X9_partByDegrees : Cond.instanceMethod yX9_partByDegrees ∈ WS ∧ Cond.selects "SplitTowers" yX9_partByDegrees yX9_partByDegrees ∈ WS ∧ Cond.initialized "SplitTowers" ∈ WS ∧ Cond.code yX9_partByDegrees prog_1_method_8_code 3 (some .int) ∈ WS := ⟨w695, w696, w68, w697⟩
theorem hd_X9_partByDegrees : yX9_partByDegrees.cls = "SplitTowers" ∧ yX9_partByDegrees.cls ≠ "java/lang/invoke/MethodHandle" ∧ yX9_partByDegrees.cls ≠ "java/lang/invoke/VarHandle" ∧ (parseMethodDescriptor yX9_partByDegrees.desc).map (fun d => d.parameters.length) = some 0 := by decide +kernel
set_option maxHeartbeats 4000000 in
set_option maxRecDepth 100000 in
theorem s_X9_partByDegrees {l : Launch} {D : va_G} {aC : Nat → ClassId} {B lo hi : Nat} {σ : SG}  {Q : Int → SG → Prop} (hlo : lo ≤ 0) (hhi : 304 ≤ hi) (h : wp_X9_partByDegrees σ  Q) : Met l yX9_partByDegrees (Cond.code yX9_partByDegrees prog_1_method_8_code 3 (some .int) :: WS) rm_X9_partByDegrees (va_Pc [.ref (B + 0)] (WP D aC B lo hi σ)) (QI D aC B lo hi Q) 0 0 (AB B lo hi) := by
  refine met_of (by decide +kernel) (by decide +kernel : yX9_partByDegrees.cls = "SplitTowers") (Nat.le_of_ble_eq_true rfl) ?_
  intro p e s m args below meth c C
  unfold wp_X9_partByDegrees at h
  refine v_R (fun hR0 => ?_)
  show V p l e rm_X9_partByDegrees s m args below meth c D aC B lo hi 3 (MQ below (QI D aC B lo hi Q) args s 0 0 (AB B lo hi)) σ 0 [(0, .ref (B + 0))] []
  refine v_aload_n C 0 dX9_partByDegrees_0 rfl rfl ?_
  refine gf9_degrees C hlo hhi w412 dX9_partByDegrees_1 ?_
  refine v_callv (i := 100) (As := []) (rest := []) C (s_X1_find hlo hhi h) w698 wy_X1_find ⟨rfl, rfl⟩ hd_X1_find ⟨Nat.le_of_ble_eq_true rfl, Nat.le_of_ble_eq_true rfl⟩ (Nat.le_trans hlo (Nat.zero_le _)) (Nat.lt_of_lt_of_le (by decide) hhi) rfl rfl rfl rfl (Nat.le_of_ble_eq_true rfl) dX9_partByDegrees_4 (fun σ1 h => ?_)
  refine v_R (fun hRσ1 => ?_)
  refine v_iconst C dX9_partByDegrees_7 ?_
  refine v_istore_n (lv' := [(1, .int (iI 0)), (0, .ref (B + 0))]) C dX9_partByDegrees_8 rfl (by decide) rfl ?_
  refine v_iconst C dX9_partByDegrees_9 ?_
  refine v_istore_n (lv' := [(2, .int (iI 1)), (1, .int (iI 0)), (0, .ref (B + 0))]) C dX9_partByDegrees_10 rfl (by decide) rfl ?_
  obtain ⟨I30, ⟨n31, hnn31⟩, hII30⟩ := h
  have key7 : ∀ (n : Nat) (x2 : Int) (x3 : Int) (σ4 : SG), I30 n x2 x3 σ4 → inR x2 → inR x3 → V p l e rm_X9_partByDegrees s m args below meth c D aC B lo hi 3 (MQ below (QI D aC B lo hi Q) args s 0 0 (AB B lo hi)) σ4 11 [(2, .int (iI x2)), (1, .int (iI x3)), (0, .ref (B + 0))] [] := by
    intro n
    induction n using Nat.strongRecOn with
    | ind n ih6 =>
      intro x2 x3 σ4 hn rx2 rx3
      have h := hII30 n x2 x3 σ4 hn
      refine v_R (fun hRσ4 => ?_)
      refine v_iload_n C 0 dX9_partByDegrees_11 rfl rfl ?_
      refine v_bipush C dX9_partByDegrees_12 (by decide) ?_
      refine v_icmp_gt C rx2 (by decide) 53 dX9_partByDegrees_14 (by decide) (fun c29 => ?_) (fun c29 => ?_)
      · have h := h.1 c29
        refine v_iload_n C 1 dX9_partByDegrees_53 rfl rfl ?_
        refine v_if_ne C rx3 60 dX9_partByDegrees_54 (by decide) (fun c20 => ?_) (fun c20 => ?_)
        · have h := h.1 c20
          refine v_aload_n C 2 dX9_partByDegrees_60 rfl rfl ?_
          refine gf9_history C hlo hhi w408 dX9_partByDegrees_61 ?_
          refine v_aload_n C 2 dX9_partByDegrees_64 rfl rfl ?_
          refine gf9_now C hlo hhi w405 dX9_partByDegrees_65 ?_
          refine v_callv (i := 184) (As := [.ref (B + 1)]) (rest := []) C (s_X3_record hlo hhi (SO_full hlo hhi kt1) h) w446 wy_X3_record ⟨rfl, rfl⟩ hd_X3_record ⟨Nat.le_of_ble_eq_true rfl, Nat.le_of_ble_eq_true rfl⟩ (Nat.le_trans hlo (Nat.zero_le _)) (Nat.lt_of_lt_of_le (by decide) hhi) rfl rfl rfl rfl (Nat.le_of_ble_eq_true rfl) dX9_partByDegrees_68 (fun σ8 h => ?_)
          refine v_R (fun hRσ8 => ?_)
          refine v_iconst C dX9_partByDegrees_71 ?_
          refine v_istore_n (lv' := [(2, .int (iI 1)), (1, .int (iI x3)), (0, .ref (B + 0))]) C dX9_partByDegrees_72 rfl (by decide) rfl ?_
          obtain ⟨I18, ⟨n19, hnn19⟩, hII18⟩ := h
          have key13 : ∀ (n : Nat) (x9 : Int) (σ10 : SG), I18 n x9 σ10 → inR x9 → V p l e rm_X9_partByDegrees s m args below meth c D aC B lo hi 3 (MQ below (QI D aC B lo hi Q) args s 0 0 (AB B lo hi)) σ10 73 [(2, .int (iI x9)), (0, .ref (B + 0))] [] := by
            intro n
            induction n using Nat.strongRecOn with
            | ind n ih12 =>
              intro x9 σ10 hn rx9
              have h := hII18 n x9 σ10 hn
              refine v_R (fun hRσ10 => ?_)
              refine v_iload_n C 0 dX9_partByDegrees_73 rfl rfl ?_
              refine v_bipush C dX9_partByDegrees_74 (by decide) ?_
              refine v_icmp_gt C rx9 (by decide) 101 dX9_partByDegrees_76 (by decide) (fun c17 => ?_) (fun c17 => ?_)
              · have h := h.1 c17
                refine v_aload_n C 1 dX9_partByDegrees_101 rfl rfl ?_
                refine gf9_now C hlo hhi w405 dX9_partByDegrees_102 ?_
                refine gf7_branchCount C (SO_full hlo hhi kt1) w169 dX9_partByDegrees_105 ?_
                exact v_iret C (hRσ10 1 4) h dX9_partByDegrees_108
              · have h := h.2 c17
                refine v_aload_n C 1 dX9_partByDegrees_79 rfl rfl ?_
                refine gf9_branching C hlo hhi w413 dX9_partByDegrees_80 ?_
                refine v_aload_n C 1 dX9_partByDegrees_83 rfl rfl ?_
                refine gf9_degrees C hlo hhi w412 dX9_partByDegrees_84 ?_
                refine gf1_products C hlo hhi w321 dX9_partByDegrees_87 ?_
                refine v_iload_n C 0 dX9_partByDegrees_90 rfl rfl ?_
                have k14 := h.1
                have h := h.2
                refine v_aald (i := 101) (n := 7) (g := fun j => 101 + 1 + 2 * j) C 3 rfl (Nat.le_trans hlo (Nat.zero_le _)) (Nat.lt_of_lt_of_le (by decide) hhi) rfl rx9 k14 dX9_partByDegrees_91 ?_
                refine v_callv (i := 91) (As := [.ref (B + (101 + 1 + 2 * x9.toNat))]) (rest := []) C (s_X0_partBy hlo hhi (PO_full hlo hhi (pa101 _ (toNat_lt k14))) h) w693 wy_X0_partBy ⟨rfl, rfl⟩ hd_X0_partBy ⟨Nat.le_of_ble_eq_true rfl, Nat.le_of_ble_eq_true rfl⟩ (Nat.le_trans hlo (Nat.zero_le _)) (Nat.lt_of_lt_of_le (by decide) hhi) rfl rfl rfl rfl (Nat.le_of_ble_eq_true rfl) dX9_partByDegrees_92 (fun σ15 h => ?_)
                refine v_R (fun hRσ15 => ?_)
                have k16 := h.1
                have h := h.2
                refine v_iinc (lv' := [(2, .int (iI (x9 + 1))), (0, .ref (B + 0))]) C 0 dX9_partByDegrees_95 rfl (by decide) rfl ?_
                refine v_goto C 73 dX9_partByDegrees_98 (by decide) ?_
                obtain ⟨m9, hm9, h⟩ := h
                exact ih12 m9 hm9 (x9 + 1) σ15 h k16
          refine v_sub [0, 2] rfl ?_
          exact key13 n19 1 σ8 hnn19 (by decide)
        · have h := h.2 c20
          refine v_bipush C dX9_partByDegrees_57 (by decide) ?_
          exact v_iret C (by decide) h dX9_partByDegrees_59
      · have h := h.2 c29
        refine v_iload_n C 1 dX9_partByDegrees_17 rfl rfl ?_
        refine v_if_ne C rx3 41 dX9_partByDegrees_18 (by decide) (fun c28 => ?_) (fun c28 => ?_)
        · have h := h.1 c28
          refine v_iconst C dX9_partByDegrees_41 ?_
          refine v_goto C 46 dX9_partByDegrees_42 (by decide) ?_
          refine v_istore_n (lv' := [(1, .int (iI 1)), (2, .int (iI x2)), (0, .ref (B + 0))]) C dX9_partByDegrees_46 rfl (by decide) rfl ?_
          have k21 := h.1
          have h := h.2
          refine v_iinc (lv' := [(2, .int (iI (x2 + 1))), (1, .int (iI 1)), (0, .ref (B + 0))]) C 1 dX9_partByDegrees_47 rfl (by decide) rfl ?_
          refine v_goto C 11 dX9_partByDegrees_50 (by decide) ?_
          obtain ⟨m9, hm9, h⟩ := h
          exact ih6 m9 hm9 (x2 + 1) 1 σ4 h k21 (by decide)
        · have h := h.2 c28
          refine v_aload_n C 2 dX9_partByDegrees_21 rfl rfl ?_
          refine gf9_branching C hlo hhi w413 dX9_partByDegrees_22 ?_
          refine v_aload_n C 2 dX9_partByDegrees_25 rfl rfl ?_
          refine gf9_degrees C hlo hhi w412 dX9_partByDegrees_26 ?_
          refine gf1_products C hlo hhi w321 dX9_partByDegrees_29 ?_
          refine v_iload_n C 0 dX9_partByDegrees_32 rfl rfl ?_
          have k22 := h.1
          have h := h.2
          refine v_aald (i := 101) (n := 7) (g := fun j => 101 + 1 + 2 * j) C 3 rfl (Nat.le_trans hlo (Nat.zero_le _)) (Nat.lt_of_lt_of_le (by decide) hhi) rfl rx2 k22 dX9_partByDegrees_33 ?_
          refine v_iconst C dX9_partByDegrees_34 ?_
          refine v_calli (i := 91) (As := [.ref (B + (101 + 1 + 2 * x2.toNat)), .int (iI 2)]) (rest := []) C (s_X0_countOfKind hlo hhi (PO_full hlo hhi (pa101 _ (toNat_lt k22))) (by decide) h) w692 wy_X0_countOfKind ⟨rfl, rfl⟩ hd_X0_countOfKind ⟨Nat.le_of_ble_eq_true rfl, Nat.le_of_ble_eq_true rfl⟩ (Nat.le_trans hlo (Nat.zero_le _)) (Nat.lt_of_lt_of_le (by decide) hhi) rfl rfl rfl rfl (Nat.le_of_ble_eq_true rfl) dX9_partByDegrees_35 (fun z24 σ23 rz24 h => ?_)
          refine v_R (fun hRσ23 => ?_)
          refine v_if_le C rz24 45 dX9_partByDegrees_38 (by decide) (fun c27 => ?_) (fun c27 => ?_)
          · have h := h.1 c27
            refine v_iconst C dX9_partByDegrees_45 ?_
            refine v_istore_n (lv' := [(1, .int (iI 0)), (2, .int (iI x2)), (0, .ref (B + 0))]) C dX9_partByDegrees_46 rfl (by decide) rfl ?_
            have k25 := h.1
            have h := h.2
            refine v_iinc (lv' := [(2, .int (iI (x2 + 1))), (1, .int (iI 0)), (0, .ref (B + 0))]) C 1 dX9_partByDegrees_47 rfl (by decide) rfl ?_
            refine v_goto C 11 dX9_partByDegrees_50 (by decide) ?_
            obtain ⟨m9, hm9, h⟩ := h
            exact ih6 m9 hm9 (x2 + 1) 0 σ23 h k25 (by decide)
          · have h := h.2 c27
            refine v_iconst C dX9_partByDegrees_41 ?_
            refine v_goto C 46 dX9_partByDegrees_42 (by decide) ?_
            refine v_istore_n (lv' := [(1, .int (iI 1)), (2, .int (iI x2)), (0, .ref (B + 0))]) C dX9_partByDegrees_46 rfl (by decide) rfl ?_
            have k26 := h.1
            have h := h.2
            refine v_iinc (lv' := [(2, .int (iI (x2 + 1))), (1, .int (iI 1)), (0, .ref (B + 0))]) C 1 dX9_partByDegrees_47 rfl (by decide) rfl ?_
            refine v_goto C 11 dX9_partByDegrees_50 (by decide) ?_
            obtain ⟨m9, hm9, h⟩ := h
            exact ih6 m9 hm9 (x2 + 1) 1 σ23 h k26 (by decide)
  exact key7 n31 1 0 σ1 hnn31 (by decide) (by decide)
-- SplitTowers.power(III)I
def wp_X9_power (σ : SG) (a1 : Int) (a2 : Int) (a3 : Int) (Q : Int → SG → Prop) : Prop :=
  wp_X9_isRegister σ a1 (fun (z2 : Int) (σ1 : SG) => ((¬ z2 = 0 → ((a2 < 0 → Q (-2) σ1) ∧ (¬ a2 < 0 → ((1000000 < a2 → Q (-2) σ1) ∧ (¬ 1000000 < a2 → wp_X9_isPlace σ1 a3 (fun (z4 : Int) (σ3 : SG) => ((¬ z4 = 0 → ((0 ≤ a1 ∧ a1 < 6) ∧ wp_X6_raise σ3 302 (1 + 3 + 1 + 2 * a1.toNat) a2 (fun (σ6 : SG) => wp_X4_at σ6 302 a3 (fun (z8 : Int) (σ7 : SG) => Q z8 σ7)))) ∧ (z4 = 0 → Q (-2) σ3)))))))) ∧ (z2 = 0 → Q (-1) σ1)))
def rm_X9_power : Room := { frames := 5, cells := 0, slots := 0, locals := 121 }
theorem wy_X9_power : Cond.instanceMethod yX9_power ∈ WS ∧ Cond.selects "SplitTowers" yX9_power yX9_power ∈ WS ∧ Cond.initialized "SplitTowers" ∈ WS ∧ Cond.code yX9_power prog_1_method_22_code 4 (some .int) ∈ WS := ⟨w791, w792, w68, w793⟩
theorem hd_X9_power : yX9_power.cls = "SplitTowers" ∧ yX9_power.cls ≠ "java/lang/invoke/MethodHandle" ∧ yX9_power.cls ≠ "java/lang/invoke/VarHandle" ∧ (parseMethodDescriptor yX9_power.desc).map (fun d => d.parameters.length) = some 3 := by decide +kernel
set_option maxHeartbeats 4000000 in
set_option maxRecDepth 100000 in
theorem s_X9_power {l : Launch} {D : va_G} {aC : Nat → ClassId} {B lo hi : Nat} {σ : SG} {a1 : Int} {a2 : Int} {a3 : Int} {Q : Int → SG → Prop} (hlo : lo ≤ 0) (hhi : 304 ≤ hi) (r1 : inR a1) (r2 : inR a2) (r3 : inR a3) (h : wp_X9_power σ a1 a2 a3 Q) : Met l yX9_power (Cond.code yX9_power prog_1_method_22_code 4 (some .int) :: WS) rm_X9_power (va_Pc [.ref (B + 0), .int (iI a1), .int (iI a2), .int (iI a3)] (WP D aC B lo hi σ)) (QI D aC B lo hi Q) 0 0 (AB B lo hi) := by
  refine met_of (by decide +kernel) (by decide +kernel : yX9_power.cls = "SplitTowers") (Nat.le_of_ble_eq_true rfl) ?_
  intro p e s m args below meth c C
  unfold wp_X9_power at h
  refine v_R (fun hR0 => ?_)
  show V p l e rm_X9_power s m args below meth c D aC B lo hi 4 (MQ below (QI D aC B lo hi Q) args s 0 0 (AB B lo hi)) σ 0 [(0, .ref (B + 0)), (1, .int (iI a1)), (2, .int (iI a2)), (3, .int (iI a3))] []
  refine v_iload_n C 1 dX9_power_0 rfl rfl ?_
  refine v_callsi (As := [.int (iI a1)]) (rest := []) C (s_X9_isRegister hlo hhi r1 h) w535 wy_X9_isRegister ⟨rfl, rfl⟩ hd_X9_isRegister ⟨Nat.le_of_ble_eq_true rfl, Nat.le_of_ble_eq_true rfl⟩ rfl rfl (Nat.le_of_ble_eq_true rfl) dX9_power_1 (fun z2 σ1 rz2 h => ?_)
  refine v_R (fun hRσ1 => ?_)
  refine v_if_ne C rz2 9 dX9_power_4 (by decide) (fun c12 => ?_) (fun c12 => ?_)
  · have h := h.1 c12
    refine v_iload_n C 2 dX9_power_9 rfl rfl ?_
    refine v_if_lt C r2 27 dX9_power_10 (by decide) (fun c11 => ?_) (fun c11 => ?_)
    · have h := h.1 c11
      refine v_bipush C dX9_power_27 (by decide) ?_
      exact v_iret C (by decide) h dX9_power_29
    · have h := h.2 c11
      refine v_iload_n C 2 dX9_power_13 rfl rfl ?_
      refine v_ldc C 1000000 (by decide) w794 dX9_power_14 ?_
      refine v_icmp_gt C r2 (by decide) 27 dX9_power_16 (by decide) (fun c10 => ?_) (fun c10 => ?_)
      · have h := h.1 c10
        refine v_bipush C dX9_power_27 (by decide) ?_
        exact v_iret C (by decide) h dX9_power_29
      · have h := h.2 c10
        refine v_aload_n C 0 dX9_power_19 rfl rfl ?_
        refine v_iload_n C 3 dX9_power_20 rfl rfl ?_
        refine v_calli (i := 0) (As := [.int (iI a3)]) (rest := []) C (s_X9_isPlace hlo hhi r3 h) w538 wy_X9_isPlace ⟨rfl, rfl⟩ hd_X9_isPlace ⟨Nat.le_of_ble_eq_true rfl, Nat.le_of_ble_eq_true rfl⟩ (Nat.le_trans hlo (Nat.zero_le _)) (Nat.lt_of_lt_of_le (by decide) hhi) rfl rfl rfl rfl (Nat.le_of_ble_eq_true rfl) dX9_power_21 (fun z4 σ3 rz4 h => ?_)
        refine v_R (fun hRσ3 => ?_)
        refine v_if_ne C rz4 30 dX9_power_24 (by decide) (fun c9 => ?_) (fun c9 => ?_)
        · have h := h.1 c9
          refine v_aload_n C 0 dX9_power_30 rfl rfl ?_
          refine gf9_ring C hlo hhi w411 dX9_power_31 ?_
          refine v_aload_n C 0 dX9_power_34 rfl rfl ?_
          refine gf9_answer C hlo hhi w415 dX9_power_35 ?_
          refine v_aload_n C 0 dX9_power_38 rfl rfl ?_
          refine gf9_now C hlo hhi w405 dX9_power_39 ?_
          refine gf7_registers C (SO_full hlo hhi kt1) w162 dX9_power_42 ?_
          refine v_iload_n C 1 dX9_power_45 rfl rfl ?_
          have k5 := h.1
          have h := h.2
          refine v_aaldR C (SO_full hlo hhi kt1) r1 k5 dX9_power_46 ?_
          refine v_iload_n C 2 dX9_power_47 rfl rfl ?_
          refine v_callv (i := 48) (As := [.ref (B + 302), .ref (B + (1 + 3 + 1 + 2 * a1.toNat)), .int (iI a2)]) (rest := []) C (s_X6_raise hlo hhi (PO_full hlo hhi kt302) (PO_reg (SO_full hlo hhi kt1) (k5).1 (k5).2) r2 h) w795 wy_X6_raise ⟨rfl, rfl⟩ hd_X6_raise ⟨Nat.le_of_ble_eq_true rfl, Nat.le_of_ble_eq_true rfl⟩ (Nat.le_trans hlo (Nat.zero_le _)) (Nat.lt_of_lt_of_le (by decide) hhi) rfl rfl rfl rfl (Nat.le_of_ble_eq_true rfl) dX9_power_48 (fun σ6 h => ?_)
          refine v_R (fun hRσ6 => ?_)
          refine v_aload_n C 0 dX9_power_51 rfl rfl ?_
          refine gf9_answer C hlo hhi w415 dX9_power_52 ?_
          refine v_iload_n C 3 dX9_power_55 rfl rfl ?_
          refine v_calli (i := 302) (As := [.int (iI a3)]) (rest := []) C (s_X4_at (PO_full hlo hhi kt302) r3 h) w542 wy_X4_at ⟨rfl, rfl⟩ hd_X4_at ⟨Nat.le_of_ble_eq_true rfl, Nat.le_of_ble_eq_true rfl⟩ (PO.lo (PO_full hlo hhi kt302)) (PO.hi (PO_full hlo hhi kt302)) (cel_of ((PO_full hlo hhi kt302)).1) rfl rfl rfl (Nat.le_of_ble_eq_true rfl) dX9_power_56 (fun z8 σ7 rz8 h => ?_)
          refine v_R (fun hRσ7 => ?_)
          exact v_iret C rz8 h dX9_power_59
        · have h := h.2 c9
          refine v_bipush C dX9_power_27 (by decide) ?_
          exact v_iret C (by decide) h dX9_power_29
  · have h := h.2 c12
    refine v_iconst C dX9_power_7 ?_
    exact v_iret C (by decide) h dX9_power_8
-- SplitTowers.put(III)I
def wp_X9_put (σ : SG) (a1 : Int) (a2 : Int) (a3 : Int) (Q : Int → SG → Prop) : Prop :=
  wp_X9_isRegister σ a1 (fun (z2 : Int) (σ1 : SG) => ((z2 = 0 → Q (-1) σ1) ∧ (¬ z2 = 0 → wp_X9_isBranch σ1 a2 (fun (z4 : Int) (σ3 : SG) => ((z4 = 0 → Q (-1) σ3) ∧ (¬ z4 = 0 → wp_X9_isRegister σ3 a3 (fun (z6 : Int) (σ5 : SG) => ((¬ z6 = 0 → ((¬ a1 = a3 → ((0 ≤ a1 ∧ a1 < 6) ∧ ((0 ≤ a2 ∧ a2 < 6) ∧ BO 1 ((σ5 17 a2.toNat).toNat) ∧ ((0 ≤ a3 ∧ a3 < 6) ∧ wp_X6_putTogether σ5 302 (1 + 3 + 1 + 2 * a1.toNat) ((σ5 17 a2.toNat).toNat) (1 + 3 + 1 + 2 * a3.toNat) (fun (σ11 : SG) => wp_X0_countDifferent σ11 (1 + 3 + 1 + 2 * a1.toNat) 302 (fun (z13 : Int) (σ12 : SG) => ((¬ z13 = 0 → wp_X3_record σ12 1 (fun (σ14 : SG) => wp_X4_copy σ14 (1 + 3 + 1 + 2 * a1.toNat) 302 (fun (σ15 : SG) => Q z13 σ15))) ∧ (z13 = 0 → Q (-5) σ12)))))))) ∧ (a1 = a3 → Q (-2) σ5))) ∧ (z6 = 0 → Q (-1) σ5)))))))))
def rm_X9_put : Room := { frames := 7, cells := 0, slots := 0, locals := 173 }
theorem wy_X9_put : Cond.instanceMethod yX9_put ∈ WS ∧ Cond.selects "SplitTowers" yX9_put yX9_put ∈ WS ∧ Cond.initialized "SplitTowers" ∈ WS ∧ Cond.code yX9_put prog_1_method_6_code 6 (some .int) ∈ WS := ⟨w657, w658, w68, w659⟩
theorem hd_X9_put : yX9_put.cls = "SplitTowers" ∧ yX9_put.cls ≠ "java/lang/invoke/MethodHandle" ∧ yX9_put.cls ≠ "java/lang/invoke/VarHandle" ∧ (parseMethodDescriptor yX9_put.desc).map (fun d => d.parameters.length) = some 3 := by decide +kernel
set_option maxHeartbeats 4000000 in
set_option maxRecDepth 100000 in
theorem s_X9_put {l : Launch} {D : va_G} {aC : Nat → ClassId} {B lo hi : Nat} {σ : SG} {a1 : Int} {a2 : Int} {a3 : Int} {Q : Int → SG → Prop} (hlo : lo ≤ 0) (hhi : 304 ≤ hi) (r1 : inR a1) (r2 : inR a2) (r3 : inR a3) (h : wp_X9_put σ a1 a2 a3 Q) : Met l yX9_put (Cond.code yX9_put prog_1_method_6_code 6 (some .int) :: WS) rm_X9_put (va_Pc [.ref (B + 0), .int (iI a1), .int (iI a2), .int (iI a3)] (WP D aC B lo hi σ)) (QI D aC B lo hi Q) 0 0 (AB B lo hi) := by
  refine met_of (by decide +kernel) (by decide +kernel : yX9_put.cls = "SplitTowers") (Nat.le_of_ble_eq_true rfl) ?_
  intro p e s m args below meth c C
  unfold wp_X9_put at h
  refine v_R (fun hR0 => ?_)
  show V p l e rm_X9_put s m args below meth c D aC B lo hi 6 (MQ below (QI D aC B lo hi Q) args s 0 0 (AB B lo hi)) σ 0 [(0, .ref (B + 0)), (1, .int (iI a1)), (2, .int (iI a2)), (3, .int (iI a3))] []
  refine v_iload_n C 1 dX9_put_0 rfl rfl ?_
  refine v_callsi (As := [.int (iI a1)]) (rest := []) C (s_X9_isRegister hlo hhi r1 h) w535 wy_X9_isRegister ⟨rfl, rfl⟩ hd_X9_isRegister ⟨Nat.le_of_ble_eq_true rfl, Nat.le_of_ble_eq_true rfl⟩ rfl rfl (Nat.le_of_ble_eq_true rfl) dX9_put_1 (fun z2 σ1 rz2 h => ?_)
  refine v_R (fun hRσ1 => ?_)
  refine v_if_eq C rz2 22 dX9_put_4 (by decide) (fun c20 => ?_) (fun c20 => ?_)
  · have h := h.1 c20
    refine v_iconst C dX9_put_22 ?_
    exact v_iret C (by decide) h dX9_put_23
  · have h := h.2 c20
    refine v_aload_n C 0 dX9_put_7 rfl rfl ?_
    refine v_iload_n C 2 dX9_put_8 rfl rfl ?_
    refine v_calli (i := 0) (As := [.int (iI a2)]) (rest := []) C (s_X9_isBranch hlo hhi r2 h) w660 wy_X9_isBranch ⟨rfl, rfl⟩ hd_X9_isBranch ⟨Nat.le_of_ble_eq_true rfl, Nat.le_of_ble_eq_true rfl⟩ (Nat.le_trans hlo (Nat.zero_le _)) (Nat.lt_of_lt_of_le (by decide) hhi) rfl rfl rfl rfl (Nat.le_of_ble_eq_true rfl) dX9_put_9 (fun z4 σ3 rz4 h => ?_)
    refine v_R (fun hRσ3 => ?_)
    refine v_if_eq C rz4 22 dX9_put_12 (by decide) (fun c19 => ?_) (fun c19 => ?_)
    · have h := h.1 c19
      refine v_iconst C dX9_put_22 ?_
      exact v_iret C (by decide) h dX9_put_23
    · have h := h.2 c19
      refine v_iload_n C 3 dX9_put_15 rfl rfl ?_
      refine v_callsi (As := [.int (iI a3)]) (rest := []) C (s_X9_isRegister hlo hhi r3 h) w535 wy_X9_isRegister ⟨rfl, rfl⟩ hd_X9_isRegister ⟨Nat.le_of_ble_eq_true rfl, Nat.le_of_ble_eq_true rfl⟩ rfl rfl (Nat.le_of_ble_eq_true rfl) dX9_put_16 (fun z6 σ5 rz6 h => ?_)
      refine v_R (fun hRσ5 => ?_)
      refine v_if_ne C rz6 24 dX9_put_19 (by decide) (fun c18 => ?_) (fun c18 => ?_)
      · have h := h.1 c18
        refine v_iload_n C 1 dX9_put_24 rfl rfl ?_
        refine v_iload_n C 3 dX9_put_25 rfl rfl ?_
        refine v_icmp_ne C r1 r3 32 dX9_put_26 (by decide) (fun c17 => ?_) (fun c17 => ?_)
        · have h := h.1 c17
          refine v_aload_n C 0 dX9_put_32 rfl rfl ?_
          refine gf9_now C hlo hhi w405 dX9_put_33 ?_
          refine gf7_registers C (SO_full hlo hhi kt1) w162 dX9_put_36 ?_
          refine v_iload_n C 1 dX9_put_39 rfl rfl ?_
          have k7 := h.1
          have h := h.2
          refine v_aaldR C (SO_full hlo hhi kt1) r1 k7 dX9_put_40 ?_
          refine v_astore (lv' := [(4, .ref (B + (1 + 3 + 1 + 2 * a1.toNat))), (0, .ref (B + 0)), (1, .int (iI a1)), (2, .int (iI a2)), (3, .int (iI a3))]) C dX9_put_41 (by decide) rfl ?_
          refine v_aload_n C 1 dX9_put_43 rfl rfl ?_
          refine gf9_ring C hlo hhi w411 dX9_put_44 ?_
          refine v_aload_n C 1 dX9_put_47 rfl rfl ?_
          refine gf9_answer C hlo hhi w415 dX9_put_48 ?_
          refine v_aload C 0 dX9_put_51 rfl ?_
          refine v_aload_n C 1 dX9_put_53 rfl rfl ?_
          refine gf9_now C hlo hhi w405 dX9_put_54 ?_
          refine gf7_branches C (SO_full hlo hhi kt1) w166 dX9_put_57 ?_
          refine v_iload_n C 3 dX9_put_60 rfl rfl ?_
          have k8 := h.1
          have h := h.2
          have k9 := h.1
          have h := h.2
          refine v_aaldB C (SO_full hlo hhi kt1) r2 k8 dX9_put_61 ?_
          refine v_aload_n C 1 dX9_put_62 rfl rfl ?_
          refine gf9_now C hlo hhi w405 dX9_put_63 ?_
          refine gf7_registers C (SO_full hlo hhi kt1) w162 dX9_put_66 ?_
          refine v_iload_n C 4 dX9_put_69 rfl rfl ?_
          have k10 := h.1
          have h := h.2
          refine v_aaldR C (SO_full hlo hhi kt1) r3 k10 dX9_put_70 ?_
          refine v_callv (i := 48) (As := [.ref (B + 302), .ref (B + (1 + 3 + 1 + 2 * a1.toNat)), .ref (B + ((σ5 17 a2.toNat).toNat)), .ref (B + (1 + 3 + 1 + 2 * a3.toNat))]) (rest := []) C (s_X6_putTogether hlo hhi (PO_full hlo hhi kt302) (PO_reg (SO_full hlo hhi kt1) (k7).1 (k7).2) (PO_br (SO_full hlo hhi kt1) k9) (PO_reg (SO_full hlo hhi kt1) (k10).1 (k10).2) h) w664 wy_X6_putTogether ⟨rfl, rfl⟩ hd_X6_putTogether ⟨Nat.le_of_ble_eq_true rfl, Nat.le_of_ble_eq_true rfl⟩ (Nat.le_trans hlo (Nat.zero_le _)) (Nat.lt_of_lt_of_le (by decide) hhi) rfl rfl rfl rfl (Nat.le_of_ble_eq_true rfl) dX9_put_71 (fun σ11 h => ?_)
          refine v_R (fun hRσ11 => ?_)
          refine v_aload_n C 1 dX9_put_74 rfl rfl ?_
          refine gf9_branching C hlo hhi w413 dX9_put_75 ?_
          refine v_aload C 0 dX9_put_78 rfl ?_
          refine v_aload_n C 1 dX9_put_80 rfl rfl ?_
          refine gf9_answer C hlo hhi w415 dX9_put_81 ?_
          refine v_calli (i := 91) (As := [.ref (B + (1 + 3 + 1 + 2 * a1.toNat)), .ref (B + 302)]) (rest := []) C (s_X0_countDifferent hlo hhi (PO_reg (SO_full hlo hhi kt1) (k7).1 (k7).2) (PO_full hlo hhi kt302) h) w674 wy_X0_countDifferent ⟨rfl, rfl⟩ hd_X0_countDifferent ⟨Nat.le_of_ble_eq_true rfl, Nat.le_of_ble_eq_true rfl⟩ (Nat.le_trans hlo (Nat.zero_le _)) (Nat.lt_of_lt_of_le (by decide) hhi) rfl rfl rfl rfl (Nat.le_of_ble_eq_true rfl) dX9_put_84 (fun z13 σ12 rz13 h => ?_)
          refine v_R (fun hRσ12 => ?_)
          refine v_istore (lv' := [(5, .int (iI z13)), (4, .ref (B + (1 + 3 + 1 + 2 * a1.toNat))), (0, .ref (B + 0)), (1, .int (iI a1)), (2, .int (iI a2)), (3, .int (iI a3))]) C dX9_put_87 (by decide) rfl ?_
          refine v_iload C 0 dX9_put_89 rfl ?_
          refine v_if_ne C rz13 97 dX9_put_91 (by decide) (fun c16 => ?_) (fun c16 => ?_)
          · have h := h.1 c16
            refine v_aload_n C 2 dX9_put_97 rfl rfl ?_
            refine gf9_history C hlo hhi w408 dX9_put_98 ?_
            refine v_aload_n C 2 dX9_put_101 rfl rfl ?_
            refine gf9_now C hlo hhi w405 dX9_put_102 ?_
            refine v_callv (i := 184) (As := [.ref (B + 1)]) (rest := []) C (s_X3_record hlo hhi (SO_full hlo hhi kt1) h) w446 wy_X3_record ⟨rfl, rfl⟩ hd_X3_record ⟨Nat.le_of_ble_eq_true rfl, Nat.le_of_ble_eq_true rfl⟩ (Nat.le_trans hlo (Nat.zero_le _)) (Nat.lt_of_lt_of_le (by decide) hhi) rfl rfl rfl rfl (Nat.le_of_ble_eq_true rfl) dX9_put_105 (fun σ14 h => ?_)
            refine v_R (fun hRσ14 => ?_)
            refine v_aload C 1 dX9_put_108 rfl ?_
            refine v_aload_n C 2 dX9_put_110 rfl rfl ?_
            refine gf9_answer C hlo hhi w415 dX9_put_111 ?_
            refine v_callv (i := 1 + 3 + 1 + 2 * a1.toNat) (As := [.ref (B + 302)]) (rest := []) C (s_X4_copy (PO_reg (SO_full hlo hhi kt1) (k7).1 (k7).2) (PO_full hlo hhi kt302) h) w687 wy_X4_copy ⟨rfl, rfl⟩ hd_X4_copy ⟨Nat.le_of_ble_eq_true rfl, Nat.le_of_ble_eq_true rfl⟩ (PO.lo (PO_reg (SO_full hlo hhi kt1) (k7).1 (k7).2)) (PO.hi (PO_reg (SO_full hlo hhi kt1) (k7).1 (k7).2)) (cel_of ((PO_reg (SO_full hlo hhi kt1) (k7).1 (k7).2)).1) rfl rfl rfl (Nat.le_of_ble_eq_true rfl) dX9_put_114 (fun σ15 h => ?_)
            refine v_R (fun hRσ15 => ?_)
            refine v_iload C 0 dX9_put_117 rfl ?_
            exact v_iret C rz13 h dX9_put_119
          · have h := h.2 c16
            refine v_bipush C dX9_put_94 (by decide) ?_
            exact v_iret C (by decide) h dX9_put_96
        · have h := h.2 c17
          refine v_bipush C dX9_put_29 (by decide) ?_
          exact v_iret C (by decide) h dX9_put_31
      · have h := h.2 c18
        refine v_iconst C dX9_put_22 ?_
        exact v_iret C (by decide) h dX9_put_23
-- SplitTowers.readModulus()I
def wp_X9_readModulus (σ : SG)  (Q : Int → SG → Prop) : Prop :=
  wp_X8_polynomialFault σ (fun (z2 : Int) (σ1 : SG) => ((z2 < 0 → wp_X9_isModulusTold σ1 (fun (z4 : Int) (σ3 : SG) => ((¬ z4 = 0 → wp_X8_copyPolynomial σ3 302 (fun (σ5 : SG) => wp_X2_hasSquare σ5 302 (fun (z7 : Int) (σ6 : SG) => ((z7 = 0 → wp_X4_sameAs σ6 302 2 (fun (z9 : Int) (σ8 : SG) => ((z9 = 0 → wp_X3_record σ8 1 (fun (σ10 : SG) => wp_X7_takeModulus σ10 1 302 (fun (σ11 : SG) => Lp1 (fun (rec14 : Int → SG → Prop) (x12 : Int) (σ13 : SG) => ((6 ≤ x12 → Q (σ13 2 1) σ13) ∧ (¬ 6 ≤ x12 → ((0 ≤ x12 ∧ x12 < 6) ∧ wp_X2_reduce σ13 (1 + 3 + 1 + 2 * x12.toNat) 2 (fun (σ18 : SG) => (inR (x12 + 1) ∧ rec14 (x12 + 1) σ18)))))) 0 σ11))) ∧ (¬ z9 = 0 → Q (-5) σ8)))) ∧ (¬ z7 = 0 → Q (-4) σ6))))) ∧ (z4 = 0 → Q (-2) σ3)))) ∧ (¬ z2 < 0 → (inR ((-100) - z2) ∧ Q ((-100) - z2) σ1))))
def rm_X9_readModulus : Room := { frames := 5, cells := 0, slots := 0, locals := 123 }
theorem wy_X9_readModulus : Cond.instanceMethod yX9_readModulus ∈ WS ∧ Cond.selects "SplitTowers" yX9_readModulus yX9_readModulus ∈ WS ∧ Cond.initialized "SplitTowers" ∈ WS ∧ Cond.code yX9_readModulus prog_1_method_3_code 3 (some .int) ∈ WS := ⟨w459, w460, w68, w461⟩
theorem hd_X9_readModulus : yX9_readModulus.cls = "SplitTowers" ∧ yX9_readModulus.cls ≠ "java/lang/invoke/MethodHandle" ∧ yX9_readModulus.cls ≠ "java/lang/invoke/VarHandle" ∧ (parseMethodDescriptor yX9_readModulus.desc).map (fun d => d.parameters.length) = some 0 := by decide +kernel
set_option maxHeartbeats 4000000 in
set_option maxRecDepth 100000 in
theorem s_X9_readModulus {l : Launch} {D : va_G} {aC : Nat → ClassId} {B lo hi : Nat} {σ : SG}  {Q : Int → SG → Prop} (hlo : lo ≤ 0) (hhi : 304 ≤ hi) (h : wp_X9_readModulus σ  Q) : Met l yX9_readModulus (Cond.code yX9_readModulus prog_1_method_3_code 3 (some .int) :: WS) rm_X9_readModulus (va_Pc [.ref (B + 0)] (WP D aC B lo hi σ)) (QI D aC B lo hi Q) 0 0 (AB B lo hi) := by
  refine met_of (by decide +kernel) (by decide +kernel : yX9_readModulus.cls = "SplitTowers") (Nat.le_of_ble_eq_true rfl) ?_
  intro p e s m args below meth c C
  unfold wp_X9_readModulus at h
  refine v_R (fun hR0 => ?_)
  show V p l e rm_X9_readModulus s m args below meth c D aC B lo hi 3 (MQ below (QI D aC B lo hi Q) args s 0 0 (AB B lo hi)) σ 0 [(0, .ref (B + 0))] []
  refine v_aload_n C 0 dX9_readModulus_0 rfl rfl ?_
  refine gf9_text C hlo hhi w409 dX9_readModulus_1 ?_
  refine v_calli (i := 30) (As := []) (rest := []) C (s_X8_polynomialFault hlo hhi h) w462 wy_X8_polynomialFault ⟨rfl, rfl⟩ hd_X8_polynomialFault ⟨Nat.le_of_ble_eq_true rfl, Nat.le_of_ble_eq_true rfl⟩ (Nat.le_trans hlo (Nat.zero_le _)) (Nat.lt_of_lt_of_le (by decide) hhi) rfl rfl rfl rfl (Nat.le_of_ble_eq_true rfl) dX9_readModulus_4 (fun z2 σ1 rz2 h => ?_)
  refine v_R (fun hRσ1 => ?_)
  refine v_istore_n (lv' := [(1, .int (iI z2)), (0, .ref (B + 0))]) C dX9_readModulus_7 rfl (by decide) rfl ?_
  refine v_iload_n C 0 dX9_readModulus_8 rfl rfl ?_
  refine v_if_lt C rz2 17 dX9_readModulus_9 (by decide) (fun c27 => ?_) (fun c27 => ?_)
  · have h := h.1 c27
    refine v_aload_n C 1 dX9_readModulus_17 rfl rfl ?_
    refine v_calli (i := 0) (As := []) (rest := []) C (s_X9_isModulusTold hlo hhi h) w474 wy_X9_isModulusTold ⟨rfl, rfl⟩ hd_X9_isModulusTold ⟨Nat.le_of_ble_eq_true rfl, Nat.le_of_ble_eq_true rfl⟩ (Nat.le_trans hlo (Nat.zero_le _)) (Nat.lt_of_lt_of_le (by decide) hhi) rfl rfl rfl rfl (Nat.le_of_ble_eq_true rfl) dX9_readModulus_18 (fun z4 σ3 rz4 h => ?_)
    refine v_R (fun hRσ3 => ?_)
    refine v_if_ne C rz4 27 dX9_readModulus_21 (by decide) (fun c25 => ?_) (fun c25 => ?_)
    · have h := h.1 c25
      refine v_aload_n C 1 dX9_readModulus_27 rfl rfl ?_
      refine gf9_text C hlo hhi w409 dX9_readModulus_28 ?_
      refine v_aload_n C 1 dX9_readModulus_31 rfl rfl ?_
      refine gf9_answer C hlo hhi w415 dX9_readModulus_32 ?_
      refine v_callv (i := 30) (As := [.ref (B + 302)]) (rest := []) C (s_X8_copyPolynomial hlo hhi (PO_full hlo hhi kt302) h) w478 wy_X8_copyPolynomial ⟨rfl, rfl⟩ hd_X8_copyPolynomial ⟨Nat.le_of_ble_eq_true rfl, Nat.le_of_ble_eq_true rfl⟩ (Nat.le_trans hlo (Nat.zero_le _)) (Nat.lt_of_lt_of_le (by decide) hhi) rfl rfl rfl rfl (Nat.le_of_ble_eq_true rfl) dX9_readModulus_35 (fun σ5 h => ?_)
      refine v_R (fun hRσ5 => ?_)
      refine v_aload_n C 1 dX9_readModulus_38 rfl rfl ?_
      refine gf9_field C hlo hhi w410 dX9_readModulus_39 ?_
      refine v_aload_n C 1 dX9_readModulus_42 rfl rfl ?_
      refine gf9_answer C hlo hhi w415 dX9_readModulus_43 ?_
      refine v_calli (i := 33) (As := [.ref (B + 302)]) (rest := []) C (s_X2_hasSquare hlo hhi (PO_full hlo hhi kt302) h) w484 wy_X2_hasSquare ⟨rfl, rfl⟩ hd_X2_hasSquare ⟨Nat.le_of_ble_eq_true rfl, Nat.le_of_ble_eq_true rfl⟩ (Nat.le_trans hlo (Nat.zero_le _)) (Nat.lt_of_lt_of_le (by decide) hhi) rfl rfl rfl rfl (Nat.le_of_ble_eq_true rfl) dX9_readModulus_46 (fun z7 σ6 rz7 h => ?_)
      refine v_R (fun hRσ6 => ?_)
      refine v_if_eq C rz7 55 dX9_readModulus_49 (by decide) (fun c24 => ?_) (fun c24 => ?_)
      · have h := h.1 c24
        refine v_aload_n C 1 dX9_readModulus_55 rfl rfl ?_
        refine gf9_answer C hlo hhi w415 dX9_readModulus_56 ?_
        refine v_aload_n C 1 dX9_readModulus_59 rfl rfl ?_
        refine gf9_now C hlo hhi w405 dX9_readModulus_60 ?_
        refine gf7_modulus C (SO_full hlo hhi kt1) w160 dX9_readModulus_63 ?_
        refine v_calli (i := 302) (As := [.ref (B + 2)]) (rest := []) C (s_X4_sameAs (PO_full hlo hhi kt302) (PO_mod (SO_full hlo hhi kt1)) h) w519 wy_X4_sameAs ⟨rfl, rfl⟩ hd_X4_sameAs ⟨Nat.le_of_ble_eq_true rfl, Nat.le_of_ble_eq_true rfl⟩ (PO.lo (PO_full hlo hhi kt302)) (PO.hi (PO_full hlo hhi kt302)) (cel_of ((PO_full hlo hhi kt302)).1) rfl rfl rfl (Nat.le_of_ble_eq_true rfl) dX9_readModulus_66 (fun z9 σ8 rz9 h => ?_)
        refine v_R (fun hRσ8 => ?_)
        refine v_if_eq C rz9 75 dX9_readModulus_69 (by decide) (fun c23 => ?_) (fun c23 => ?_)
        · have h := h.1 c23
          refine v_aload_n C 1 dX9_readModulus_75 rfl rfl ?_
          refine gf9_history C hlo hhi w408 dX9_readModulus_76 ?_
          refine v_aload_n C 1 dX9_readModulus_79 rfl rfl ?_
          refine gf9_now C hlo hhi w405 dX9_readModulus_80 ?_
          refine v_callv (i := 184) (As := [.ref (B + 1)]) (rest := []) C (s_X3_record hlo hhi (SO_full hlo hhi kt1) h) w446 wy_X3_record ⟨rfl, rfl⟩ hd_X3_record ⟨Nat.le_of_ble_eq_true rfl, Nat.le_of_ble_eq_true rfl⟩ (Nat.le_trans hlo (Nat.zero_le _)) (Nat.lt_of_lt_of_le (by decide) hhi) rfl rfl rfl rfl (Nat.le_of_ble_eq_true rfl) dX9_readModulus_83 (fun σ10 h => ?_)
          refine v_R (fun hRσ10 => ?_)
          refine v_aload_n C 1 dX9_readModulus_86 rfl rfl ?_
          refine gf9_now C hlo hhi w405 dX9_readModulus_87 ?_
          refine v_aload_n C 1 dX9_readModulus_90 rfl rfl ?_
          refine gf9_answer C hlo hhi w415 dX9_readModulus_91 ?_
          refine v_callv (i := 1) (As := [.ref (B + 302)]) (rest := []) C (s_X7_takeModulus (SO_full hlo hhi kt1) (PO_full hlo hhi kt302) h) w523 wy_X7_takeModulus ⟨rfl, rfl⟩ hd_X7_takeModulus ⟨Nat.le_of_ble_eq_true rfl, Nat.le_of_ble_eq_true rfl⟩ (SO.lo (SO_full hlo hhi kt1)) (SO.hi (SO_full hlo hhi kt1)) (cel_of ((SO_full hlo hhi kt1)).1) rfl rfl rfl (Nat.le_of_ble_eq_true rfl) dX9_readModulus_94 (fun σ11 h => ?_)
          refine v_R (fun hRσ11 => ?_)
          refine v_iconst C dX9_readModulus_97 ?_
          refine v_istore_n (lv' := [(2, .int (iI 0)), (1, .int (iI z2)), (0, .ref (B + 0))]) C dX9_readModulus_98 rfl (by decide) rfl ?_
          obtain ⟨I21, ⟨n22, hnn22⟩, hII21⟩ := h
          have key16 : ∀ (n : Nat) (x12 : Int) (σ13 : SG), I21 n x12 σ13 → inR x12 → V p l e rm_X9_readModulus s m args below meth c D aC B lo hi 3 (MQ below (QI D aC B lo hi Q) args s 0 0 (AB B lo hi)) σ13 99 [(2, .int (iI x12)), (0, .ref (B + 0))] [] := by
            intro n
            induction n using Nat.strongRecOn with
            | ind n ih15 =>
              intro x12 σ13 hn rx12
              have h := hII21 n x12 σ13 hn
              refine v_R (fun hRσ13 => ?_)
              refine v_iload_n C 0 dX9_readModulus_99 rfl rfl ?_
              refine v_bipush C dX9_readModulus_100 (by decide) ?_
              refine v_icmp_ge C rx12 (by decide) 134 dX9_readModulus_102 (by decide) (fun c20 => ?_) (fun c20 => ?_)
              · have h := h.1 c20
                refine v_aload_n C 1 dX9_readModulus_134 rfl rfl ?_
                refine gf9_now C hlo hhi w405 dX9_readModulus_135 ?_
                refine gf7_modulus C (SO_full hlo hhi kt1) w160 dX9_readModulus_138 ?_
                refine gf4_degree C (PO_mod (SO_full hlo hhi kt1)) w104 dX9_readModulus_141 ?_
                exact v_iret C (hRσ13 2 1) h dX9_readModulus_144
              · have h := h.2 c20
                refine v_aload_n C 1 dX9_readModulus_105 rfl rfl ?_
                refine gf9_field C hlo hhi w410 dX9_readModulus_106 ?_
                refine v_aload_n C 1 dX9_readModulus_109 rfl rfl ?_
                refine gf9_now C hlo hhi w405 dX9_readModulus_110 ?_
                refine gf7_registers C (SO_full hlo hhi kt1) w162 dX9_readModulus_113 ?_
                refine v_iload_n C 0 dX9_readModulus_116 rfl rfl ?_
                have k17 := h.1
                have h := h.2
                refine v_aaldR C (SO_full hlo hhi kt1) rx12 k17 dX9_readModulus_117 ?_
                refine v_aload_n C 1 dX9_readModulus_118 rfl rfl ?_
                refine gf9_now C hlo hhi w405 dX9_readModulus_119 ?_
                refine gf7_modulus C (SO_full hlo hhi kt1) w160 dX9_readModulus_122 ?_
                refine v_callv (i := 33) (As := [.ref (B + (1 + 3 + 1 + 2 * x12.toNat)), .ref (B + 2)]) (rest := []) C (s_X2_reduce hlo hhi (PO_reg (SO_full hlo hhi kt1) (k17).1 (k17).2) (PO_mod (SO_full hlo hhi kt1)) h) w527 wy_X2_reduce ⟨rfl, rfl⟩ hd_X2_reduce ⟨Nat.le_of_ble_eq_true rfl, Nat.le_of_ble_eq_true rfl⟩ (Nat.le_trans hlo (Nat.zero_le _)) (Nat.lt_of_lt_of_le (by decide) hhi) rfl rfl rfl rfl (Nat.le_of_ble_eq_true rfl) dX9_readModulus_125 (fun σ18 h => ?_)
                refine v_R (fun hRσ18 => ?_)
                have k19 := h.1
                have h := h.2
                refine v_iinc (lv' := [(2, .int (iI (x12 + 1))), (0, .ref (B + 0))]) C 0 dX9_readModulus_128 rfl (by decide) rfl ?_
                refine v_goto C 99 dX9_readModulus_131 (by decide) ?_
                obtain ⟨m9, hm9, h⟩ := h
                exact ih15 m9 hm9 (x12 + 1) σ18 h k19
          refine v_sub [0, 2] rfl ?_
          exact key16 n22 0 σ11 hnn22 (by decide)
        · have h := h.2 c23
          refine v_bipush C dX9_readModulus_72 (by decide) ?_
          exact v_iret C (by decide) h dX9_readModulus_74
      · have h := h.2 c24
        refine v_bipush C dX9_readModulus_52 (by decide) ?_
        exact v_iret C (by decide) h dX9_readModulus_54
    · have h := h.2 c25
      refine v_bipush C dX9_readModulus_24 (by decide) ?_
      exact v_iret C (by decide) h dX9_readModulus_26
  · have h := h.2 c27
    refine v_bipush C dX9_readModulus_12 (by decide) ?_
    refine v_iload_n C 0 dX9_readModulus_14 rfl rfl ?_
    have k26 := h.1
    have h := h.2
    refine v_isub C dX9_readModulus_15 ?_
    exact v_iret C k26 h dX9_readModulus_16
-- SplitTowers.restore()I
def wp_X9_restore (σ : SG)  (Q : Int → SG → Prop) : Prop :=
  ((¬ (σ 0 2) = 0 → wp_X3_record σ 1 (fun (σ1 : SG) => wp_X7_copy σ1 1 155 (fun (σ2 : SG) => Q (σ2 1 4) σ2))) ∧ ((σ 0 2) = 0 → Q (-5) σ))
def rm_X9_restore : Room := { frames := 3, cells := 0, slots := 0, locals := 65 }
theorem wy_X9_restore : Cond.instanceMethod yX9_restore ∈ WS ∧ Cond.selects "SplitTowers" yX9_restore yX9_restore ∈ WS ∧ Cond.initialized "SplitTowers" ∈ WS ∧ Cond.code yX9_restore prog_1_method_15_code 1 (some .int) ∈ WS := ⟨w758, w759, w68, w760⟩
theorem hd_X9_restore : yX9_restore.cls = "SplitTowers" ∧ yX9_restore.cls ≠ "java/lang/invoke/MethodHandle" ∧ yX9_restore.cls ≠ "java/lang/invoke/VarHandle" ∧ (parseMethodDescriptor yX9_restore.desc).map (fun d => d.parameters.length) = some 0 := by decide +kernel
set_option maxHeartbeats 4000000 in
set_option maxRecDepth 100000 in
theorem s_X9_restore {l : Launch} {D : va_G} {aC : Nat → ClassId} {B lo hi : Nat} {σ : SG}  {Q : Int → SG → Prop} (hlo : lo ≤ 0) (hhi : 304 ≤ hi) (h : wp_X9_restore σ  Q) : Met l yX9_restore (Cond.code yX9_restore prog_1_method_15_code 1 (some .int) :: WS) rm_X9_restore (va_Pc [.ref (B + 0)] (WP D aC B lo hi σ)) (QI D aC B lo hi Q) 0 0 (AB B lo hi) := by
  refine met_of (by decide +kernel) (by decide +kernel : yX9_restore.cls = "SplitTowers") (Nat.le_of_ble_eq_true rfl) ?_
  intro p e s m args below meth c C
  unfold wp_X9_restore at h
  refine v_R (fun hR0 => ?_)
  show V p l e rm_X9_restore s m args below meth c D aC B lo hi 1 (MQ below (QI D aC B lo hi Q) args s 0 0 (AB B lo hi)) σ 0 [(0, .ref (B + 0))] []
  refine v_aload_n C 0 dX9_restore_0 rfl rfl ?_
  refine gf9_kept C hlo hhi w407 dX9_restore_1 ?_
  refine v_if_ne C (hR0 0 2) 10 dX9_restore_4 (by decide) (fun c3 => ?_) (fun c3 => ?_)
  · have h := h.1 c3
    refine v_aload_n C 0 dX9_restore_10 rfl rfl ?_
    refine gf9_history C hlo hhi w408 dX9_restore_11 ?_
    refine v_aload_n C 0 dX9_restore_14 rfl rfl ?_
    refine gf9_now C hlo hhi w405 dX9_restore_15 ?_
    refine v_callv (i := 184) (As := [.ref (B + 1)]) (rest := []) C (s_X3_record hlo hhi (SO_full hlo hhi kt1) h) w446 wy_X3_record ⟨rfl, rfl⟩ hd_X3_record ⟨Nat.le_of_ble_eq_true rfl, Nat.le_of_ble_eq_true rfl⟩ (Nat.le_trans hlo (Nat.zero_le _)) (Nat.lt_of_lt_of_le (by decide) hhi) rfl rfl rfl rfl (Nat.le_of_ble_eq_true rfl) dX9_restore_18 (fun σ1 h => ?_)
    refine v_R (fun hRσ1 => ?_)
    refine v_aload_n C 0 dX9_restore_21 rfl rfl ?_
    refine gf9_now C hlo hhi w405 dX9_restore_22 ?_
    refine v_aload_n C 0 dX9_restore_25 rfl rfl ?_
    refine gf9_snapshot C hlo hhi w406 dX9_restore_26 ?_
    refine v_callv (i := 1) (As := [.ref (B + 155)]) (rest := []) C (s_X7_copy (SO_full hlo hhi kt1) (SO_full hlo hhi kt155) h) w756 wy_X7_copy ⟨rfl, rfl⟩ hd_X7_copy ⟨Nat.le_of_ble_eq_true rfl, Nat.le_of_ble_eq_true rfl⟩ (SO.lo (SO_full hlo hhi kt1)) (SO.hi (SO_full hlo hhi kt1)) (cel_of ((SO_full hlo hhi kt1)).1) rfl rfl rfl (Nat.le_of_ble_eq_true rfl) dX9_restore_29 (fun σ2 h => ?_)
    refine v_R (fun hRσ2 => ?_)
    refine v_aload_n C 0 dX9_restore_32 rfl rfl ?_
    refine gf9_now C hlo hhi w405 dX9_restore_33 ?_
    refine gf7_branchCount C (SO_full hlo hhi kt1) w169 dX9_restore_36 ?_
    exact v_iret C (hRσ2 1 4) h dX9_restore_39
  · have h := h.2 c3
    refine v_bipush C dX9_restore_7 (by decide) ?_
    exact v_iret C (by decide) h dX9_restore_9
-- SplitTowers.seen(III)I
def wp_X9_seen (σ : SG) (a1 : Int) (a2 : Int) (a3 : Int) (Q : Int → SG → Prop) : Prop :=
  wp_X9_isRegister σ a1 (fun (z2 : Int) (σ1 : SG) => ((z2 = 0 → Q (-1) σ1) ∧ (¬ z2 = 0 → wp_X9_isBranch σ1 a2 (fun (z4 : Int) (σ3 : SG) => ((¬ z4 = 0 → ((0 ≤ a2 ∧ a2 < 6) ∧ BO 1 ((σ3 17 a2.toNat).toNat) ∧ ((a3 < 0 → Q (-2) σ3) ∧ (¬ a3 < 0 → ((a3 < (σ3 ((σ3 17 a2.toNat).toNat) 1) → ((0 ≤ a1 ∧ a1 < 6) ∧ wp_X4_copy σ3 302 (1 + 3 + 1 + 2 * a1.toNat) (fun (σ8 : SG) => wp_X2_reduce σ8 302 ((σ3 17 a2.toNat).toNat) (fun (σ9 : SG) => wp_X4_at σ9 302 a3 (fun (z11 : Int) (σ10 : SG) => Q z11 σ10))))) ∧ (¬ a3 < (σ3 ((σ3 17 a2.toNat).toNat) 1) → Q (-2) σ3)))))) ∧ (z4 = 0 → Q (-1) σ3))))))
def rm_X9_seen : Room := { frames := 4, cells := 0, slots := 0, locals := 96 }
theorem wy_X9_seen : Cond.instanceMethod yX9_seen ∈ WS ∧ Cond.selects "SplitTowers" yX9_seen yX9_seen ∈ WS ∧ Cond.initialized "SplitTowers" ∈ WS ∧ Cond.code yX9_seen prog_1_method_19_code 5 (some .int) ∈ WS := ⟨w777, w778, w68, w779⟩
theorem hd_X9_seen : yX9_seen.cls = "SplitTowers" ∧ yX9_seen.cls ≠ "java/lang/invoke/MethodHandle" ∧ yX9_seen.cls ≠ "java/lang/invoke/VarHandle" ∧ (parseMethodDescriptor yX9_seen.desc).map (fun d => d.parameters.length) = some 3 := by decide +kernel
set_option maxHeartbeats 4000000 in
set_option maxRecDepth 100000 in
theorem s_X9_seen {l : Launch} {D : va_G} {aC : Nat → ClassId} {B lo hi : Nat} {σ : SG} {a1 : Int} {a2 : Int} {a3 : Int} {Q : Int → SG → Prop} (hlo : lo ≤ 0) (hhi : 304 ≤ hi) (r1 : inR a1) (r2 : inR a2) (r3 : inR a3) (h : wp_X9_seen σ a1 a2 a3 Q) : Met l yX9_seen (Cond.code yX9_seen prog_1_method_19_code 5 (some .int) :: WS) rm_X9_seen (va_Pc [.ref (B + 0), .int (iI a1), .int (iI a2), .int (iI a3)] (WP D aC B lo hi σ)) (QI D aC B lo hi Q) 0 0 (AB B lo hi) := by
  refine met_of (by decide +kernel) (by decide +kernel : yX9_seen.cls = "SplitTowers") (Nat.le_of_ble_eq_true rfl) ?_
  intro p e s m args below meth c C
  unfold wp_X9_seen at h
  refine v_R (fun hR0 => ?_)
  show V p l e rm_X9_seen s m args below meth c D aC B lo hi 5 (MQ below (QI D aC B lo hi Q) args s 0 0 (AB B lo hi)) σ 0 [(0, .ref (B + 0)), (1, .int (iI a1)), (2, .int (iI a2)), (3, .int (iI a3))] []
  refine v_iload_n C 1 dX9_seen_0 rfl rfl ?_
  refine v_callsi (As := [.int (iI a1)]) (rest := []) C (s_X9_isRegister hlo hhi r1 h) w535 wy_X9_isRegister ⟨rfl, rfl⟩ hd_X9_isRegister ⟨Nat.le_of_ble_eq_true rfl, Nat.le_of_ble_eq_true rfl⟩ rfl rfl (Nat.le_of_ble_eq_true rfl) dX9_seen_1 (fun z2 σ1 rz2 h => ?_)
  refine v_R (fun hRσ1 => ?_)
  refine v_if_eq C rz2 15 dX9_seen_4 (by decide) (fun c15 => ?_) (fun c15 => ?_)
  · have h := h.1 c15
    refine v_iconst C dX9_seen_15 ?_
    exact v_iret C (by decide) h dX9_seen_16
  · have h := h.2 c15
    refine v_aload_n C 0 dX9_seen_7 rfl rfl ?_
    refine v_iload_n C 2 dX9_seen_8 rfl rfl ?_
    refine v_calli (i := 0) (As := [.int (iI a2)]) (rest := []) C (s_X9_isBranch hlo hhi r2 h) w660 wy_X9_isBranch ⟨rfl, rfl⟩ hd_X9_isBranch ⟨Nat.le_of_ble_eq_true rfl, Nat.le_of_ble_eq_true rfl⟩ (Nat.le_trans hlo (Nat.zero_le _)) (Nat.lt_of_lt_of_le (by decide) hhi) rfl rfl rfl rfl (Nat.le_of_ble_eq_true rfl) dX9_seen_9 (fun z4 σ3 rz4 h => ?_)
    refine v_R (fun hRσ3 => ?_)
    refine v_if_ne C rz4 17 dX9_seen_12 (by decide) (fun c14 => ?_) (fun c14 => ?_)
    · have h := h.1 c14
      refine v_aload_n C 0 dX9_seen_17 rfl rfl ?_
      refine gf9_now C hlo hhi w405 dX9_seen_18 ?_
      refine gf7_branches C (SO_full hlo hhi kt1) w166 dX9_seen_21 ?_
      refine v_iload_n C 2 dX9_seen_24 rfl rfl ?_
      have k5 := h.1
      have h := h.2
      have k6 := h.1
      have h := h.2
      refine v_aaldB C (SO_full hlo hhi kt1) r2 k5 dX9_seen_25 ?_
      refine v_astore (lv' := [(4, .ref (B + ((σ3 17 a2.toNat).toNat))), (0, .ref (B + 0)), (1, .int (iI a1)), (2, .int (iI a2)), (3, .int (iI a3))]) C dX9_seen_26 (by decide) rfl ?_
      refine v_iload_n C 4 dX9_seen_28 rfl rfl ?_
      refine v_if_lt C r3 41 dX9_seen_29 (by decide) (fun c13 => ?_) (fun c13 => ?_)
      · have h := h.1 c13
        refine v_bipush C dX9_seen_41 (by decide) ?_
        exact v_iret C (by decide) h dX9_seen_43
      · have h := h.2 c13
        refine v_iload_n C 4 dX9_seen_32 rfl rfl ?_
        refine v_aload C 0 dX9_seen_33 rfl ?_
        refine gf4_degree C (PO_br (SO_full hlo hhi kt1) k6) w104 dX9_seen_35 ?_
        refine v_icmp_lt C r3 (hRσ3 ((σ3 17 a2.toNat).toNat) 1) 44 dX9_seen_38 (by decide) (fun c12 => ?_) (fun c12 => ?_)
        · have h := h.1 c12
          refine v_aload_n C 1 dX9_seen_44 rfl rfl ?_
          refine gf9_answer C hlo hhi w415 dX9_seen_45 ?_
          refine v_aload_n C 1 dX9_seen_48 rfl rfl ?_
          refine gf9_now C hlo hhi w405 dX9_seen_49 ?_
          refine gf7_registers C (SO_full hlo hhi kt1) w162 dX9_seen_52 ?_
          refine v_iload_n C 2 dX9_seen_55 rfl rfl ?_
          have k7 := h.1
          have h := h.2
          refine v_aaldR C (SO_full hlo hhi kt1) r1 k7 dX9_seen_56 ?_
          refine v_callv (i := 302) (As := [.ref (B + (1 + 3 + 1 + 2 * a1.toNat))]) (rest := []) C (s_X4_copy (PO_full hlo hhi kt302) (PO_reg (SO_full hlo hhi kt1) (k7).1 (k7).2) h) w687 wy_X4_copy ⟨rfl, rfl⟩ hd_X4_copy ⟨Nat.le_of_ble_eq_true rfl, Nat.le_of_ble_eq_true rfl⟩ (PO.lo (PO_full hlo hhi kt302)) (PO.hi (PO_full hlo hhi kt302)) (cel_of ((PO_full hlo hhi kt302)).1) rfl rfl rfl (Nat.le_of_ble_eq_true rfl) dX9_seen_57 (fun σ8 h => ?_)
          refine v_R (fun hRσ8 => ?_)
          refine v_aload_n C 1 dX9_seen_60 rfl rfl ?_
          refine gf9_field C hlo hhi w410 dX9_seen_61 ?_
          refine v_aload_n C 1 dX9_seen_64 rfl rfl ?_
          refine gf9_answer C hlo hhi w415 dX9_seen_65 ?_
          refine v_aload C 0 dX9_seen_68 rfl ?_
          refine v_callv (i := 33) (As := [.ref (B + 302), .ref (B + ((σ3 17 a2.toNat).toNat))]) (rest := []) C (s_X2_reduce hlo hhi (PO_full hlo hhi kt302) (PO_br (SO_full hlo hhi kt1) k6) h) w527 wy_X2_reduce ⟨rfl, rfl⟩ hd_X2_reduce ⟨Nat.le_of_ble_eq_true rfl, Nat.le_of_ble_eq_true rfl⟩ (Nat.le_trans hlo (Nat.zero_le _)) (Nat.lt_of_lt_of_le (by decide) hhi) rfl rfl rfl rfl (Nat.le_of_ble_eq_true rfl) dX9_seen_70 (fun σ9 h => ?_)
          refine v_R (fun hRσ9 => ?_)
          refine v_aload_n C 1 dX9_seen_73 rfl rfl ?_
          refine gf9_answer C hlo hhi w415 dX9_seen_74 ?_
          refine v_iload_n C 4 dX9_seen_77 rfl rfl ?_
          refine v_calli (i := 302) (As := [.int (iI a3)]) (rest := []) C (s_X4_at (PO_full hlo hhi kt302) r3 h) w542 wy_X4_at ⟨rfl, rfl⟩ hd_X4_at ⟨Nat.le_of_ble_eq_true rfl, Nat.le_of_ble_eq_true rfl⟩ (PO.lo (PO_full hlo hhi kt302)) (PO.hi (PO_full hlo hhi kt302)) (cel_of ((PO_full hlo hhi kt302)).1) rfl rfl rfl (Nat.le_of_ble_eq_true rfl) dX9_seen_78 (fun z11 σ10 rz11 h => ?_)
          refine v_R (fun hRσ10 => ?_)
          exact v_iret C rz11 h dX9_seen_81
        · have h := h.2 c12
          refine v_bipush C dX9_seen_41 (by decide) ?_
          exact v_iret C (by decide) h dX9_seen_43
    · have h := h.2 c14
      refine v_iconst C dX9_seen_15 ?_
      exact v_iret C (by decide) h dX9_seen_16
-- SplitTowers.setNumber(III)I
def wp_X9_setNumber (σ : SG) (a1 : Int) (a2 : Int) (a3 : Int) (Q : Int → SG → Prop) : Prop :=
  wp_X9_isRegister σ a1 (fun (z2 : Int) (σ1 : SG) => ((¬ z2 = 0 → wp_X9_isPlace σ1 a2 (fun (z4 : Int) (σ3 : SG) => ((z4 = 0 → Q (-2) σ3) ∧ (¬ z4 = 0 → ((a3 < 0 → Q (-2) σ3) ∧ (¬ a3 < 0 → ((a3 < (σ3 1 0) → ((0 ≤ a1 ∧ a1 < 6) ∧ wp_X4_at σ3 (1 + 3 + 1 + 2 * a1.toNat) a2 (fun (z7 : Int) (σ6 : SG) => ((¬ a3 = z7 → wp_X3_record σ6 1 (fun (σ8 : SG) => ((0 ≤ a1 ∧ a1 < 6) ∧ wp_X4_set σ8 (1 + 3 + 1 + 2 * a1.toNat) a2 a3 (fun (σ10 : SG) => Q z7 σ10)))) ∧ (a3 = z7 → Q (-5) σ6))))) ∧ (¬ a3 < (σ3 1 0) → Q (-2) σ3)))))))) ∧ (z2 = 0 → Q (-1) σ1)))
def rm_X9_setNumber : Room := { frames := 3, cells := 0, slots := 0, locals := 65 }
theorem wy_X9_setNumber : Cond.instanceMethod yX9_setNumber ∈ WS ∧ Cond.selects "SplitTowers" yX9_setNumber yX9_setNumber ∈ WS ∧ Cond.initialized "SplitTowers" ∈ WS ∧ Cond.code yX9_setNumber prog_1_method_4_code 5 (some .int) ∈ WS := ⟨w532, w533, w68, w534⟩
theorem hd_X9_setNumber : yX9_setNumber.cls = "SplitTowers" ∧ yX9_setNumber.cls ≠ "java/lang/invoke/MethodHandle" ∧ yX9_setNumber.cls ≠ "java/lang/invoke/VarHandle" ∧ (parseMethodDescriptor yX9_setNumber.desc).map (fun d => d.parameters.length) = some 3 := by decide +kernel
set_option maxHeartbeats 4000000 in
set_option maxRecDepth 100000 in
theorem s_X9_setNumber {l : Launch} {D : va_G} {aC : Nat → ClassId} {B lo hi : Nat} {σ : SG} {a1 : Int} {a2 : Int} {a3 : Int} {Q : Int → SG → Prop} (hlo : lo ≤ 0) (hhi : 304 ≤ hi) (r1 : inR a1) (r2 : inR a2) (r3 : inR a3) (h : wp_X9_setNumber σ a1 a2 a3 Q) : Met l yX9_setNumber (Cond.code yX9_setNumber prog_1_method_4_code 5 (some .int) :: WS) rm_X9_setNumber (va_Pc [.ref (B + 0), .int (iI a1), .int (iI a2), .int (iI a3)] (WP D aC B lo hi σ)) (QI D aC B lo hi Q) 0 0 (AB B lo hi) := by
  refine met_of (by decide +kernel) (by decide +kernel : yX9_setNumber.cls = "SplitTowers") (Nat.le_of_ble_eq_true rfl) ?_
  intro p e s m args below meth c C
  unfold wp_X9_setNumber at h
  refine v_R (fun hR0 => ?_)
  show V p l e rm_X9_setNumber s m args below meth c D aC B lo hi 5 (MQ below (QI D aC B lo hi Q) args s 0 0 (AB B lo hi)) σ 0 [(0, .ref (B + 0)), (1, .int (iI a1)), (2, .int (iI a2)), (3, .int (iI a3))] []
  refine v_iload_n C 1 dX9_setNumber_0 rfl rfl ?_
  refine v_callsi (As := [.int (iI a1)]) (rest := []) C (s_X9_isRegister hlo hhi r1 h) w535 wy_X9_isRegister ⟨rfl, rfl⟩ hd_X9_isRegister ⟨Nat.le_of_ble_eq_true rfl, Nat.le_of_ble_eq_true rfl⟩ rfl rfl (Nat.le_of_ble_eq_true rfl) dX9_setNumber_1 (fun z2 σ1 rz2 h => ?_)
  refine v_R (fun hRσ1 => ?_)
  refine v_if_ne C rz2 9 dX9_setNumber_4 (by decide) (fun c15 => ?_) (fun c15 => ?_)
  · have h := h.1 c15
    refine v_aload_n C 0 dX9_setNumber_9 rfl rfl ?_
    refine v_iload_n C 2 dX9_setNumber_10 rfl rfl ?_
    refine v_calli (i := 0) (As := [.int (iI a2)]) (rest := []) C (s_X9_isPlace hlo hhi r2 h) w538 wy_X9_isPlace ⟨rfl, rfl⟩ hd_X9_isPlace ⟨Nat.le_of_ble_eq_true rfl, Nat.le_of_ble_eq_true rfl⟩ (Nat.le_trans hlo (Nat.zero_le _)) (Nat.lt_of_lt_of_le (by decide) hhi) rfl rfl rfl rfl (Nat.le_of_ble_eq_true rfl) dX9_setNumber_11 (fun z4 σ3 rz4 h => ?_)
    refine v_R (fun hRσ3 => ?_)
    refine v_if_eq C rz4 32 dX9_setNumber_14 (by decide) (fun c14 => ?_) (fun c14 => ?_)
    · have h := h.1 c14
      refine v_bipush C dX9_setNumber_32 (by decide) ?_
      exact v_iret C (by decide) h dX9_setNumber_34
    · have h := h.2 c14
      refine v_iload_n C 3 dX9_setNumber_17 rfl rfl ?_
      refine v_if_lt C r3 32 dX9_setNumber_18 (by decide) (fun c13 => ?_) (fun c13 => ?_)
      · have h := h.1 c13
        refine v_bipush C dX9_setNumber_32 (by decide) ?_
        exact v_iret C (by decide) h dX9_setNumber_34
      · have h := h.2 c13
        refine v_iload_n C 3 dX9_setNumber_21 rfl rfl ?_
        refine v_aload_n C 0 dX9_setNumber_22 rfl rfl ?_
        refine gf9_now C hlo hhi w405 dX9_setNumber_23 ?_
        refine gf7_prime C (SO_full hlo hhi kt1) w153 dX9_setNumber_26 ?_
        refine v_icmp_lt C r3 (hRσ3 1 0) 35 dX9_setNumber_29 (by decide) (fun c12 => ?_) (fun c12 => ?_)
        · have h := h.1 c12
          refine v_aload_n C 0 dX9_setNumber_35 rfl rfl ?_
          refine gf9_now C hlo hhi w405 dX9_setNumber_36 ?_
          refine gf7_registers C (SO_full hlo hhi kt1) w162 dX9_setNumber_39 ?_
          refine v_iload_n C 1 dX9_setNumber_42 rfl rfl ?_
          have k5 := h.1
          have h := h.2
          refine v_aaldR C (SO_full hlo hhi kt1) r1 k5 dX9_setNumber_43 ?_
          refine v_iload_n C 2 dX9_setNumber_44 rfl rfl ?_
          refine v_calli (i := 1 + 3 + 1 + 2 * a1.toNat) (As := [.int (iI a2)]) (rest := []) C (s_X4_at (PO_reg (SO_full hlo hhi kt1) (k5).1 (k5).2) r2 h) w542 wy_X4_at ⟨rfl, rfl⟩ hd_X4_at ⟨Nat.le_of_ble_eq_true rfl, Nat.le_of_ble_eq_true rfl⟩ (PO.lo (PO_reg (SO_full hlo hhi kt1) (k5).1 (k5).2)) (PO.hi (PO_reg (SO_full hlo hhi kt1) (k5).1 (k5).2)) (cel_of ((PO_reg (SO_full hlo hhi kt1) (k5).1 (k5).2)).1) rfl rfl rfl (Nat.le_of_ble_eq_true rfl) dX9_setNumber_45 (fun z7 σ6 rz7 h => ?_)
          refine v_R (fun hRσ6 => ?_)
          refine v_istore (lv' := [(4, .int (iI z7)), (0, .ref (B + 0)), (1, .int (iI a1)), (2, .int (iI a2)), (3, .int (iI a3))]) C dX9_setNumber_48 (by decide) rfl ?_
          refine v_iload_n C 4 dX9_setNumber_50 rfl rfl ?_
          refine v_iload C 0 dX9_setNumber_51 rfl ?_
          refine v_icmp_ne C r3 rz7 59 dX9_setNumber_53 (by decide) (fun c11 => ?_) (fun c11 => ?_)
          · have h := h.1 c11
            refine v_aload_n C 1 dX9_setNumber_59 rfl rfl ?_
            refine gf9_history C hlo hhi w408 dX9_setNumber_60 ?_
            refine v_aload_n C 1 dX9_setNumber_63 rfl rfl ?_
            refine gf9_now C hlo hhi w405 dX9_setNumber_64 ?_
            refine v_callv (i := 184) (As := [.ref (B + 1)]) (rest := []) C (s_X3_record hlo hhi (SO_full hlo hhi kt1) h) w446 wy_X3_record ⟨rfl, rfl⟩ hd_X3_record ⟨Nat.le_of_ble_eq_true rfl, Nat.le_of_ble_eq_true rfl⟩ (Nat.le_trans hlo (Nat.zero_le _)) (Nat.lt_of_lt_of_le (by decide) hhi) rfl rfl rfl rfl (Nat.le_of_ble_eq_true rfl) dX9_setNumber_67 (fun σ8 h => ?_)
            refine v_R (fun hRσ8 => ?_)
            refine v_aload_n C 1 dX9_setNumber_70 rfl rfl ?_
            refine gf9_now C hlo hhi w405 dX9_setNumber_71 ?_
            refine gf7_registers C (SO_full hlo hhi kt1) w162 dX9_setNumber_74 ?_
            refine v_iload_n C 2 dX9_setNumber_77 rfl rfl ?_
            have k9 := h.1
            have h := h.2
            refine v_aaldR C (SO_full hlo hhi kt1) r1 k9 dX9_setNumber_78 ?_
            refine v_iload_n C 3 dX9_setNumber_79 rfl rfl ?_
            refine v_iload_n C 4 dX9_setNumber_80 rfl rfl ?_
            refine v_callv (i := 1 + 3 + 1 + 2 * a1.toNat) (As := [.int (iI a2), .int (iI a3)]) (rest := []) C (s_X4_set (PO_reg (SO_full hlo hhi kt1) (k9).1 (k9).2) r2 r3 h) w543 wy_X4_set ⟨rfl, rfl⟩ hd_X4_set ⟨Nat.le_of_ble_eq_true rfl, Nat.le_of_ble_eq_true rfl⟩ (PO.lo (PO_reg (SO_full hlo hhi kt1) (k9).1 (k9).2)) (PO.hi (PO_reg (SO_full hlo hhi kt1) (k9).1 (k9).2)) (cel_of ((PO_reg (SO_full hlo hhi kt1) (k9).1 (k9).2)).1) rfl rfl rfl (Nat.le_of_ble_eq_true rfl) dX9_setNumber_81 (fun σ10 h => ?_)
            refine v_R (fun hRσ10 => ?_)
            refine v_iload C 0 dX9_setNumber_84 rfl ?_
            exact v_iret C rz7 h dX9_setNumber_86
          · have h := h.2 c11
            refine v_bipush C dX9_setNumber_56 (by decide) ?_
            exact v_iret C (by decide) h dX9_setNumber_58
        · have h := h.2 c12
          refine v_bipush C dX9_setNumber_32 (by decide) ?_
          exact v_iret C (by decide) h dX9_setNumber_34
  · have h := h.2 c15
    refine v_iconst C dX9_setNumber_7 ?_
    exact v_iret C (by decide) h dX9_setNumber_8
-- SplitTowers.setPrime(I)I
def wp_X9_setPrime (σ : SG) (a1 : Int) (Q : Int → SG → Prop) : Prop :=
  wp_X9_isPrime σ a1 (fun (z2 : Int) (σ1 : SG) => ((¬ z2 = 0 → (∀ v3 : Int, v3 = (σ1 1 0) → ((¬ a1 = v3 → wp_X3_record σ1 1 (fun (σ4 : SG) => wp_X7_start σ4 1 a1 (fun (σ5 : SG) => Q v3 σ5))) ∧ (a1 = v3 → Q (-5) σ1)))) ∧ (z2 = 0 → Q (-2) σ1)))
def rm_X9_setPrime : Room := { frames := 4, cells := 0, slots := 0, locals := 85 }
theorem wy_X9_setPrime : Cond.instanceMethod yX9_setPrime ∈ WS ∧ Cond.selects "SplitTowers" yX9_setPrime yX9_setPrime ∈ WS ∧ Cond.initialized "SplitTowers" ∈ WS ∧ Cond.code yX9_setPrime prog_1_method_2_code 3 (some .int) ∈ WS := ⟨w440, w441, w68, w442⟩
theorem hd_X9_setPrime : yX9_setPrime.cls = "SplitTowers" ∧ yX9_setPrime.cls ≠ "java/lang/invoke/MethodHandle" ∧ yX9_setPrime.cls ≠ "java/lang/invoke/VarHandle" ∧ (parseMethodDescriptor yX9_setPrime.desc).map (fun d => d.parameters.length) = some 1 := by decide +kernel
set_option maxHeartbeats 4000000 in
set_option maxRecDepth 100000 in
theorem s_X9_setPrime {l : Launch} {D : va_G} {aC : Nat → ClassId} {B lo hi : Nat} {σ : SG} {a1 : Int} {Q : Int → SG → Prop} (hlo : lo ≤ 0) (hhi : 304 ≤ hi) (r1 : inR a1) (h : wp_X9_setPrime σ a1 Q) : Met l yX9_setPrime (Cond.code yX9_setPrime prog_1_method_2_code 3 (some .int) :: WS) rm_X9_setPrime (va_Pc [.ref (B + 0), .int (iI a1)] (WP D aC B lo hi σ)) (QI D aC B lo hi Q) 0 0 (AB B lo hi) := by
  refine met_of (by decide +kernel) (by decide +kernel : yX9_setPrime.cls = "SplitTowers") (Nat.le_of_ble_eq_true rfl) ?_
  intro p e s m args below meth c C
  unfold wp_X9_setPrime at h
  refine v_R (fun hR0 => ?_)
  show V p l e rm_X9_setPrime s m args below meth c D aC B lo hi 3 (MQ below (QI D aC B lo hi Q) args s 0 0 (AB B lo hi)) σ 0 [(0, .ref (B + 0)), (1, .int (iI a1))] []
  refine v_iload_n C 1 dX9_setPrime_0 rfl rfl ?_
  refine v_callsi (As := [.int (iI a1)]) (rest := []) C (s_X9_isPrime hlo hhi r1 h) w443 wy_X9_isPrime ⟨rfl, rfl⟩ hd_X9_isPrime ⟨Nat.le_of_ble_eq_true rfl, Nat.le_of_ble_eq_true rfl⟩ rfl rfl (Nat.le_of_ble_eq_true rfl) dX9_setPrime_1 (fun z2 σ1 rz2 h => ?_)
  refine v_R (fun hRσ1 => ?_)
  refine v_if_ne C rz2 10 dX9_setPrime_4 (by decide) (fun c7 => ?_) (fun c7 => ?_)
  · have h := h.1 c7
    refine v_aload_n C 0 dX9_setPrime_10 rfl rfl ?_
    refine gf9_now C hlo hhi w405 dX9_setPrime_11 ?_
    refine gf7_prime C (SO_full hlo hhi kt1) w153 dX9_setPrime_14 ?_
    refine v_name (fun v3 ev3 => ?_)
    have h := h v3 ev3
    have rv3 : inR v3 := by rw [ev3]; exact (hRσ1 1 0)
    refine v_istore_n (lv' := [(2, .int (iI v3)), (0, .ref (B + 0)), (1, .int (iI a1))]) C dX9_setPrime_17 rfl (by decide) rfl ?_
    refine v_iload_n C 2 dX9_setPrime_18 rfl rfl ?_
    refine v_iload_n C 0 dX9_setPrime_19 rfl rfl ?_
    refine v_icmp_ne C r1 rv3 26 dX9_setPrime_20 (by decide) (fun c6 => ?_) (fun c6 => ?_)
    · have h := h.1 c6
      refine v_aload_n C 1 dX9_setPrime_26 rfl rfl ?_
      refine gf9_history C hlo hhi w408 dX9_setPrime_27 ?_
      refine v_aload_n C 1 dX9_setPrime_30 rfl rfl ?_
      refine gf9_now C hlo hhi w405 dX9_setPrime_31 ?_
      refine v_callv (i := 184) (As := [.ref (B + 1)]) (rest := []) C (s_X3_record hlo hhi (SO_full hlo hhi kt1) h) w446 wy_X3_record ⟨rfl, rfl⟩ hd_X3_record ⟨Nat.le_of_ble_eq_true rfl, Nat.le_of_ble_eq_true rfl⟩ (Nat.le_trans hlo (Nat.zero_le _)) (Nat.lt_of_lt_of_le (by decide) hhi) rfl rfl rfl rfl (Nat.le_of_ble_eq_true rfl) dX9_setPrime_34 (fun σ4 h => ?_)
      refine v_R (fun hRσ4 => ?_)
      refine v_aload_n C 1 dX9_setPrime_37 rfl rfl ?_
      refine gf9_now C hlo hhi w405 dX9_setPrime_38 ?_
      refine v_iload_n C 2 dX9_setPrime_41 rfl rfl ?_
      refine v_callv (i := 1) (As := [.int (iI a1)]) (rest := []) C (s_X7_start (SO_full hlo hhi kt1) r1 h) w457 wy_X7_start ⟨rfl, rfl⟩ hd_X7_start ⟨Nat.le_of_ble_eq_true rfl, Nat.le_of_ble_eq_true rfl⟩ (SO.lo (SO_full hlo hhi kt1)) (SO.hi (SO_full hlo hhi kt1)) (cel_of ((SO_full hlo hhi kt1)).1) rfl rfl rfl (Nat.le_of_ble_eq_true rfl) dX9_setPrime_42 (fun σ5 h => ?_)
      refine v_R (fun hRσ5 => ?_)
      refine v_iload_n C 0 dX9_setPrime_45 rfl rfl ?_
      exact v_iret C rv3 h dX9_setPrime_46
    · have h := h.2 c6
      refine v_bipush C dX9_setPrime_23 (by decide) ?_
      exact v_iret C (by decide) h dX9_setPrime_25
  · have h := h.2 c7
    refine v_bipush C dX9_setPrime_7 (by decide) ?_
    exact v_iret C (by decide) h dX9_setPrime_9
-- SplitTowers.trace(I)I
def wp_X9_trace (σ : SG) (a1 : Int) (Q : Int → SG → Prop) : Prop :=
  wp_X9_isRegister σ a1 (fun (z2 : Int) (σ1 : SG) => ((z2 = 0 → Q (-1) σ1) ∧ (¬ z2 = 0 → ((0 ≤ a1 ∧ a1 < 6) ∧ wp_X6_traceOf σ1 (1 + 3 + 1 + 2 * a1.toNat) (fun (z5 : Int) (σ4 : SG) => Q z5 σ4)))))
def rm_X9_trace : Room := { frames := 5, cells := 0, slots := 0, locals := 120 }
theorem wy_X9_trace : Cond.instanceMethod yX9_trace ∈ WS ∧ Cond.selects "SplitTowers" yX9_trace yX9_trace ∈ WS ∧ Cond.initialized "SplitTowers" ∈ WS ∧ Cond.code yX9_trace prog_1_method_24_code 2 (some .int) ∈ WS := ⟨w813, w814, w68, w815⟩
theorem hd_X9_trace : yX9_trace.cls = "SplitTowers" ∧ yX9_trace.cls ≠ "java/lang/invoke/MethodHandle" ∧ yX9_trace.cls ≠ "java/lang/invoke/VarHandle" ∧ (parseMethodDescriptor yX9_trace.desc).map (fun d => d.parameters.length) = some 1 := by decide +kernel
set_option maxHeartbeats 4000000 in
set_option maxRecDepth 100000 in
theorem s_X9_trace {l : Launch} {D : va_G} {aC : Nat → ClassId} {B lo hi : Nat} {σ : SG} {a1 : Int} {Q : Int → SG → Prop} (hlo : lo ≤ 0) (hhi : 304 ≤ hi) (r1 : inR a1) (h : wp_X9_trace σ a1 Q) : Met l yX9_trace (Cond.code yX9_trace prog_1_method_24_code 2 (some .int) :: WS) rm_X9_trace (va_Pc [.ref (B + 0), .int (iI a1)] (WP D aC B lo hi σ)) (QI D aC B lo hi Q) 0 0 (AB B lo hi) := by
  refine met_of (by decide +kernel) (by decide +kernel : yX9_trace.cls = "SplitTowers") (Nat.le_of_ble_eq_true rfl) ?_
  intro p e s m args below meth c C
  unfold wp_X9_trace at h
  refine v_R (fun hR0 => ?_)
  show V p l e rm_X9_trace s m args below meth c D aC B lo hi 2 (MQ below (QI D aC B lo hi Q) args s 0 0 (AB B lo hi)) σ 0 [(0, .ref (B + 0)), (1, .int (iI a1))] []
  refine v_iload_n C 1 dX9_trace_0 rfl rfl ?_
  refine v_callsi (As := [.int (iI a1)]) (rest := []) C (s_X9_isRegister hlo hhi r1 h) w535 wy_X9_isRegister ⟨rfl, rfl⟩ hd_X9_isRegister ⟨Nat.le_of_ble_eq_true rfl, Nat.le_of_ble_eq_true rfl⟩ rfl rfl (Nat.le_of_ble_eq_true rfl) dX9_trace_1 (fun z2 σ1 rz2 h => ?_)
  refine v_R (fun hRσ1 => ?_)
  refine v_if_eq C rz2 26 dX9_trace_4 (by decide) (fun c6 => ?_) (fun c6 => ?_)
  · have h := h.1 c6
    refine v_iconst C dX9_trace_26 ?_
    exact v_iret C (by decide) h dX9_trace_27
  · have h := h.2 c6
    refine v_aload_n C 0 dX9_trace_7 rfl rfl ?_
    refine gf9_ring C hlo hhi w411 dX9_trace_8 ?_
    refine v_aload_n C 0 dX9_trace_11 rfl rfl ?_
    refine gf9_now C hlo hhi w405 dX9_trace_12 ?_
    refine gf7_registers C (SO_full hlo hhi kt1) w162 dX9_trace_15 ?_
    refine v_iload_n C 1 dX9_trace_18 rfl rfl ?_
    have k3 := h.1
    have h := h.2
    refine v_aaldR C (SO_full hlo hhi kt1) r1 k3 dX9_trace_19 ?_
    refine v_calli (i := 48) (As := [.ref (B + (1 + 3 + 1 + 2 * a1.toNat))]) (rest := []) C (s_X6_traceOf hlo hhi (PO_reg (SO_full hlo hhi kt1) (k3).1 (k3).2) h) w816 wy_X6_traceOf ⟨rfl, rfl⟩ hd_X6_traceOf ⟨Nat.le_of_ble_eq_true rfl, Nat.le_of_ble_eq_true rfl⟩ (Nat.le_trans hlo (Nat.zero_le _)) (Nat.lt_of_lt_of_le (by decide) hhi) rfl rfl rfl rfl (Nat.le_of_ble_eq_true rfl) dX9_trace_20 (fun z5 σ4 rz5 h => ?_)
    refine v_R (fun hRσ4 => ?_)
    refine v_goto C 27 dX9_trace_23 (by decide) ?_
    exact v_iret C rz5 h dX9_trace_27
-- SplitTowers.type(C)I
def wp_X9_type (σ : SG) (a1 : Int) (Q : Int → SG → Prop) : Prop :=
  wp_X8_add σ a1 (fun (z2 : Int) (σ1 : SG) => ((z2 = 0 → Q (-3) σ1) ∧ (¬ z2 = 0 → Q (σ1 30 1) σ1)))
def rm_X9_type : Room := { frames := 1, cells := 0, slots := 0, locals := 21 }
theorem wy_X9_type : Cond.instanceMethod yX9_type ∈ WS ∧ Cond.selects "SplitTowers" yX9_type yX9_type ∈ WS ∧ Cond.initialized "SplitTowers" ∈ WS ∧ Cond.code yX9_type prog_1_method_11_code 2 (some .int) ∈ WS := ⟨w733, w734, w68, w735⟩
theorem hd_X9_type : yX9_type.cls = "SplitTowers" ∧ yX9_type.cls ≠ "java/lang/invoke/MethodHandle" ∧ yX9_type.cls ≠ "java/lang/invoke/VarHandle" ∧ (parseMethodDescriptor yX9_type.desc).map (fun d => d.parameters.length) = some 1 := by decide +kernel
set_option maxHeartbeats 4000000 in
set_option maxRecDepth 100000 in
theorem s_X9_type {l : Launch} {D : va_G} {aC : Nat → ClassId} {B lo hi : Nat} {σ : SG} {a1 : Int} {Q : Int → SG → Prop} (hlo : lo ≤ 0) (hhi : 304 ≤ hi) (r1 : inR a1) (h : wp_X9_type σ a1 Q) : Met l yX9_type (Cond.code yX9_type prog_1_method_11_code 2 (some .int) :: WS) rm_X9_type (va_Pc [.ref (B + 0), .int (iI a1)] (WP D aC B lo hi σ)) (QI D aC B lo hi Q) 0 0 (AB B lo hi) := by
  refine met_of (by decide +kernel) (by decide +kernel : yX9_type.cls = "SplitTowers") (Nat.le_of_ble_eq_true rfl) ?_
  intro p e s m args below meth c C
  unfold wp_X9_type at h
  refine v_R (fun hR0 => ?_)
  show V p l e rm_X9_type s m args below meth c D aC B lo hi 2 (MQ below (QI D aC B lo hi Q) args s 0 0 (AB B lo hi)) σ 0 [(0, .ref (B + 0)), (1, .int (iI a1))] []
  refine v_aload_n C 0 dX9_type_0 rfl rfl ?_
  refine gf9_text C hlo hhi w409 dX9_type_1 ?_
  refine v_iload_n C 1 dX9_type_4 rfl rfl ?_
  refine v_calli (i := 30) (As := [.int (iI a1)]) (rest := []) C (s_X8_add hlo hhi r1 h) w736 wy_X8_add ⟨rfl, rfl⟩ hd_X8_add ⟨Nat.le_of_ble_eq_true rfl, Nat.le_of_ble_eq_true rfl⟩ (Nat.le_trans hlo (Nat.zero_le _)) (Nat.lt_of_lt_of_le (by decide) hhi) rfl rfl rfl rfl (Nat.le_of_ble_eq_true rfl) dX9_type_5 (fun z2 σ1 rz2 h => ?_)
  refine v_R (fun hRσ1 => ?_)
  refine v_if_eq C rz2 21 dX9_type_8 (by decide) (fun c3 => ?_) (fun c3 => ?_)
  · have h := h.1 c3
    refine v_bipush C dX9_type_21 (by decide) ?_
    exact v_iret C (by decide) h dX9_type_23
  · have h := h.2 c3
    refine v_aload_n C 0 dX9_type_11 rfl rfl ?_
    refine gf9_text C hlo hhi w409 dX9_type_12 ?_
    refine gf8_length C hlo hhi w190 dX9_type_15 ?_
    refine v_goto C 23 dX9_type_18 (by decide) ?_
    exact v_iret C (hRσ1 30 1) h dX9_type_23
-- SplitTowers.undo()I
def wp_X9_undo (σ : SG)  (Q : Int → SG → Prop) : Prop :=
  ((¬ (σ 184 2) = 0 → wp_X3_takeBack σ 1 (fun (σ1 : SG) => Q (σ1 184 2) σ1)) ∧ ((σ 184 2) = 0 → Q (-5) σ))
def rm_X9_undo : Room := { frames := 3, cells := 0, slots := 0, locals := 65 }
theorem wy_X9_undo : Cond.instanceMethod yX9_undo ∈ WS ∧ Cond.selects "SplitTowers" yX9_undo yX9_undo ∈ WS ∧ Cond.initialized "SplitTowers" ∈ WS ∧ Cond.code yX9_undo prog_1_method_13_code 1 (some .int) ∈ WS := ⟨w745, w746, w68, w747⟩
theorem hd_X9_undo : yX9_undo.cls = "SplitTowers" ∧ yX9_undo.cls ≠ "java/lang/invoke/MethodHandle" ∧ yX9_undo.cls ≠ "java/lang/invoke/VarHandle" ∧ (parseMethodDescriptor yX9_undo.desc).map (fun d => d.parameters.length) = some 0 := by decide +kernel
set_option maxHeartbeats 4000000 in
set_option maxRecDepth 100000 in
theorem s_X9_undo {l : Launch} {D : va_G} {aC : Nat → ClassId} {B lo hi : Nat} {σ : SG}  {Q : Int → SG → Prop} (hlo : lo ≤ 0) (hhi : 304 ≤ hi) (h : wp_X9_undo σ  Q) : Met l yX9_undo (Cond.code yX9_undo prog_1_method_13_code 1 (some .int) :: WS) rm_X9_undo (va_Pc [.ref (B + 0)] (WP D aC B lo hi σ)) (QI D aC B lo hi Q) 0 0 (AB B lo hi) := by
  refine met_of (by decide +kernel) (by decide +kernel : yX9_undo.cls = "SplitTowers") (Nat.le_of_ble_eq_true rfl) ?_
  intro p e s m args below meth c C
  unfold wp_X9_undo at h
  refine v_R (fun hR0 => ?_)
  show V p l e rm_X9_undo s m args below meth c D aC B lo hi 1 (MQ below (QI D aC B lo hi Q) args s 0 0 (AB B lo hi)) σ 0 [(0, .ref (B + 0))] []
  refine v_aload_n C 0 dX9_undo_0 rfl rfl ?_
  refine gf9_history C hlo hhi w408 dX9_undo_1 ?_
  refine gf3_length C hlo hhi w395 dX9_undo_4 ?_
  refine v_if_ne C (hR0 184 2) 13 dX9_undo_7 (by decide) (fun c2 => ?_) (fun c2 => ?_)
  · have h := h.1 c2
    refine v_aload_n C 0 dX9_undo_13 rfl rfl ?_
    refine gf9_history C hlo hhi w408 dX9_undo_14 ?_
    refine v_aload_n C 0 dX9_undo_17 rfl rfl ?_
    refine gf9_now C hlo hhi w405 dX9_undo_18 ?_
    refine v_callv (i := 184) (As := [.ref (B + 1)]) (rest := []) C (s_X3_takeBack hlo hhi (SO_full hlo hhi kt1) h) w748 wy_X3_takeBack ⟨rfl, rfl⟩ hd_X3_takeBack ⟨Nat.le_of_ble_eq_true rfl, Nat.le_of_ble_eq_true rfl⟩ (Nat.le_trans hlo (Nat.zero_le _)) (Nat.lt_of_lt_of_le (by decide) hhi) rfl rfl rfl rfl (Nat.le_of_ble_eq_true rfl) dX9_undo_21 (fun σ1 h => ?_)
    refine v_R (fun hRσ1 => ?_)
    refine v_aload_n C 0 dX9_undo_24 rfl rfl ?_
    refine gf9_history C hlo hhi w408 dX9_undo_25 ?_
    refine gf3_length C hlo hhi w395 dX9_undo_28 ?_
    exact v_iret C (hRσ1 184 2) h dX9_undo_31
  · have h := h.2 c2
    refine v_bipush C dX9_undo_10 (by decide) ?_
    exact v_iret C (by decide) h dX9_undo_12
-- SplitTowers.unit(II)I
def wp_X9_unit (σ : SG) (a1 : Int) (a2 : Int) (Q : Int → SG → Prop) : Prop :=
  wp_X9_isBranch σ a1 (fun (z2 : Int) (σ1 : SG) => ((¬ z2 = 0 → wp_X9_isPlace σ1 a2 (fun (z4 : Int) (σ3 : SG) => ((¬ z4 = 0 → ((0 ≤ a1 ∧ a1 < 6) ∧ BO 1 ((σ3 17 a1.toNat).toNat) ∧ wp_X6_unitOf σ3 302 ((σ3 17 a1.toNat).toNat) (fun (σ7 : SG) => wp_X4_at σ7 302 a2 (fun (z9 : Int) (σ8 : SG) => Q z9 σ8)))) ∧ (z4 = 0 → Q (-2) σ3)))) ∧ (z2 = 0 → Q (-1) σ1)))
def rm_X9_unit : Room := { frames := 6, cells := 0, slots := 0, locals := 149 }
theorem wy_X9_unit : Cond.instanceMethod yX9_unit ∈ WS ∧ Cond.selects "SplitTowers" yX9_unit yX9_unit ∈ WS ∧ Cond.initialized "SplitTowers" ∈ WS ∧ Cond.code yX9_unit prog_1_method_21_code 3 (some .int) ∈ WS := ⟨w786, w787, w68, w788⟩
theorem hd_X9_unit : yX9_unit.cls = "SplitTowers" ∧ yX9_unit.cls ≠ "java/lang/invoke/MethodHandle" ∧ yX9_unit.cls ≠ "java/lang/invoke/VarHandle" ∧ (parseMethodDescriptor yX9_unit.desc).map (fun d => d.parameters.length) = some 2 := by decide +kernel
set_option maxHeartbeats 4000000 in
set_option maxRecDepth 100000 in
theorem s_X9_unit {l : Launch} {D : va_G} {aC : Nat → ClassId} {B lo hi : Nat} {σ : SG} {a1 : Int} {a2 : Int} {Q : Int → SG → Prop} (hlo : lo ≤ 0) (hhi : 304 ≤ hi) (r1 : inR a1) (r2 : inR a2) (h : wp_X9_unit σ a1 a2 Q) : Met l yX9_unit (Cond.code yX9_unit prog_1_method_21_code 3 (some .int) :: WS) rm_X9_unit (va_Pc [.ref (B + 0), .int (iI a1), .int (iI a2)] (WP D aC B lo hi σ)) (QI D aC B lo hi Q) 0 0 (AB B lo hi) := by
  refine met_of (by decide +kernel) (by decide +kernel : yX9_unit.cls = "SplitTowers") (Nat.le_of_ble_eq_true rfl) ?_
  intro p e s m args below meth c C
  unfold wp_X9_unit at h
  refine v_R (fun hR0 => ?_)
  show V p l e rm_X9_unit s m args below meth c D aC B lo hi 3 (MQ below (QI D aC B lo hi Q) args s 0 0 (AB B lo hi)) σ 0 [(0, .ref (B + 0)), (1, .int (iI a1)), (2, .int (iI a2))] []
  refine v_aload_n C 0 dX9_unit_0 rfl rfl ?_
  refine v_iload_n C 1 dX9_unit_1 rfl rfl ?_
  refine v_calli (i := 0) (As := [.int (iI a1)]) (rest := []) C (s_X9_isBranch hlo hhi r1 h) w660 wy_X9_isBranch ⟨rfl, rfl⟩ hd_X9_isBranch ⟨Nat.le_of_ble_eq_true rfl, Nat.le_of_ble_eq_true rfl⟩ (Nat.le_trans hlo (Nat.zero_le _)) (Nat.lt_of_lt_of_le (by decide) hhi) rfl rfl rfl rfl (Nat.le_of_ble_eq_true rfl) dX9_unit_2 (fun z2 σ1 rz2 h => ?_)
  refine v_R (fun hRσ1 => ?_)
  refine v_if_ne C rz2 10 dX9_unit_5 (by decide) (fun c11 => ?_) (fun c11 => ?_)
  · have h := h.1 c11
    refine v_aload_n C 0 dX9_unit_10 rfl rfl ?_
    refine v_iload_n C 2 dX9_unit_11 rfl rfl ?_
    refine v_calli (i := 0) (As := [.int (iI a2)]) (rest := []) C (s_X9_isPlace hlo hhi r2 h) w538 wy_X9_isPlace ⟨rfl, rfl⟩ hd_X9_isPlace ⟨Nat.le_of_ble_eq_true rfl, Nat.le_of_ble_eq_true rfl⟩ (Nat.le_trans hlo (Nat.zero_le _)) (Nat.lt_of_lt_of_le (by decide) hhi) rfl rfl rfl rfl (Nat.le_of_ble_eq_true rfl) dX9_unit_12 (fun z4 σ3 rz4 h => ?_)
    refine v_R (fun hRσ3 => ?_)
    refine v_if_ne C rz4 21 dX9_unit_15 (by decide) (fun c10 => ?_) (fun c10 => ?_)
    · have h := h.1 c10
      refine v_aload_n C 0 dX9_unit_21 rfl rfl ?_
      refine gf9_ring C hlo hhi w411 dX9_unit_22 ?_
      refine v_aload_n C 0 dX9_unit_25 rfl rfl ?_
      refine gf9_answer C hlo hhi w415 dX9_unit_26 ?_
      refine v_aload_n C 0 dX9_unit_29 rfl rfl ?_
      refine gf9_now C hlo hhi w405 dX9_unit_30 ?_
      refine gf7_branches C (SO_full hlo hhi kt1) w166 dX9_unit_33 ?_
      refine v_iload_n C 1 dX9_unit_36 rfl rfl ?_
      have k5 := h.1
      have h := h.2
      have k6 := h.1
      have h := h.2
      refine v_aaldB C (SO_full hlo hhi kt1) r1 k5 dX9_unit_37 ?_
      refine v_callv (i := 48) (As := [.ref (B + 302), .ref (B + ((σ3 17 a1.toNat).toNat))]) (rest := []) C (s_X6_unitOf hlo hhi (PO_full hlo hhi kt302) (PO_br (SO_full hlo hhi kt1) k6) h) w789 wy_X6_unitOf ⟨rfl, rfl⟩ hd_X6_unitOf ⟨Nat.le_of_ble_eq_true rfl, Nat.le_of_ble_eq_true rfl⟩ (Nat.le_trans hlo (Nat.zero_le _)) (Nat.lt_of_lt_of_le (by decide) hhi) rfl rfl rfl rfl (Nat.le_of_ble_eq_true rfl) dX9_unit_38 (fun σ7 h => ?_)
      refine v_R (fun hRσ7 => ?_)
      refine v_aload_n C 0 dX9_unit_41 rfl rfl ?_
      refine gf9_answer C hlo hhi w415 dX9_unit_42 ?_
      refine v_iload_n C 2 dX9_unit_45 rfl rfl ?_
      refine v_calli (i := 302) (As := [.int (iI a2)]) (rest := []) C (s_X4_at (PO_full hlo hhi kt302) r2 h) w542 wy_X4_at ⟨rfl, rfl⟩ hd_X4_at ⟨Nat.le_of_ble_eq_true rfl, Nat.le_of_ble_eq_true rfl⟩ (PO.lo (PO_full hlo hhi kt302)) (PO.hi (PO_full hlo hhi kt302)) (cel_of ((PO_full hlo hhi kt302)).1) rfl rfl rfl (Nat.le_of_ble_eq_true rfl) dX9_unit_46 (fun z9 σ8 rz9 h => ?_)
      refine v_R (fun hRσ8 => ?_)
      exact v_iret C rz9 h dX9_unit_49
    · have h := h.2 c10
      refine v_bipush C dX9_unit_18 (by decide) ?_
      exact v_iret C (by decide) h dX9_unit_20
  · have h := h.2 c11
    refine v_iconst C dX9_unit_8 ?_
    exact v_iret C (by decide) h dX9_unit_9
