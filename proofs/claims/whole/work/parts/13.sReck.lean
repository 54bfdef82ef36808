-- SplitTowers$Reckoner.endFactor()V
def wp_X5_endFactor (σ : SG)  (Q : SG → Prop) : Prop :=
  ((0 ≤ (σ 124 9) ∧ (σ 124 9) < 6) ∧ ((0 ≤ (σ 124 9) ∧ (σ 124 9) < 6) ∧ (((σ 152 (σ 124 9).toNat) = 0 → wp_X6_multiply σ (126 + 3 + 4 * (σ 124 9).toNat) (126 + 3 + 4 * (σ 124 9).toNat) 153 (fun (σ3 : SG) => Q σ3)) ∧ (¬ (σ 152 (σ 124 9).toNat) = 0 → wp_X0_partBy σ 153 (fun (σ4 : SG) => wp_X6_divide σ4 (126 + 3 + 4 * (σ 124 9).toNat) (126 + 3 + 4 * (σ 124 9).toNat) 153 (fun (σ5 : SG) => Q σ5))))))
def rm_X5_endFactor : Room := { frames := 5, cells := 0, slots := 0, locals := 127 }
theorem wy_X5_endFactor : Cond.instanceMethod yX5_endFactor ∈ WS ∧ Cond.selects "SplitTowers$Reckoner" yX5_endFactor yX5_endFactor ∈ WS ∧ Cond.initialized "SplitTowers$Reckoner" ∈ WS ∧ Cond.code yX5_endFactor prog_7_method_5_code 2 none ∈ WS := ⟨w584, w7, w77, w585⟩
theorem hd_X5_endFactor : yX5_endFactor.cls = "SplitTowers$Reckoner" ∧ yX5_endFactor.cls ≠ "java/lang/invoke/MethodHandle" ∧ yX5_endFactor.cls ≠ "java/lang/invoke/VarHandle" ∧ (parseMethodDescriptor yX5_endFactor.desc).map (fun d => d.parameters.length) = some 0 := by decide +kernel
set_option maxHeartbeats 4000000 in
set_option maxRecDepth 100000 in
theorem s_X5_endFactor {l : Launch} {D : va_G} {aC : Nat → ClassId} {B lo hi : Nat} {σ : SG}  {Q : SG → Prop} (hlo : lo ≤ 0) (hhi : 304 ≤ hi) (h : wp_X5_endFactor σ  Q) : Met l yX5_endFactor (Cond.code yX5_endFactor prog_7_method_5_code 2 none :: WS) rm_X5_endFactor (va_Pc [.ref (B + 124)] (WP D aC B lo hi σ)) (QV D aC B lo hi Q) 0 0 (AB B lo hi) := by
  refine met_of (by decide +kernel) (by decide +kernel : yX5_endFactor.cls = "SplitTowers$Reckoner") (Nat.le_of_ble_eq_true rfl) ?_
  intro p e s m args below meth c C
  unfold wp_X5_endFactor at h
  refine v_R (fun hR0 => ?_)
  show V p l e rm_X5_endFactor s m args below meth c D aC B lo hi 2 (MQ below (QV D aC B lo hi Q) args s 0 0 (AB B lo hi)) σ 0 [(0, .ref (B + 124))] []
  refine v_aload_n C 0 dX5_endFactor_0 rfl rfl ?_
  refine gf5_products C hlo hhi w356 dX5_endFactor_1 ?_
  refine v_aload_n C 0 dX5_endFactor_4 rfl rfl ?_
  refine gf5_level C hlo hhi w360 dX5_endFactor_5 ?_
  have k1 := h.1
  have h := h.2
  refine v_aald (i := 126) (n := 6) (g := fun j => 126 + 3 + 4 * j) C 3 rfl (Nat.le_trans hlo (Nat.zero_le _)) (Nat.lt_of_lt_of_le (by decide) hhi) rfl (hR0 124 9) k1 dX5_endFactor_8 ?_
  refine v_astore_n (lv' := [(1, .ref (B + (126 + 3 + 4 * (σ 124 9).toNat))), (0, .ref (B + 124))]) C dX5_endFactor_9 rfl (by decide) rfl ?_
  refine v_aload_n C 1 dX5_endFactor_10 rfl rfl ?_
  refine gf5_over C hlo hhi w358 dX5_endFactor_11 ?_
  refine v_aload_n C 1 dX5_endFactor_14 rfl rfl ?_
  refine gf5_level C hlo hhi w360 dX5_endFactor_15 ?_
  have k2 := h.1
  have h := h.2
  refine v_zald (i := 152) (n := 6) C (Nat.le_trans hlo (Nat.zero_le _)) (Nat.lt_of_lt_of_le (by decide) hhi) rfl (hR0 124 9) k2 dX5_endFactor_18 ?_
  refine v_if_eq C (hR0 152 _) 49 dX5_endFactor_19 (by decide) (fun c6 => ?_) (fun c6 => ?_)
  · have h := h.1 c6
    refine v_aload_n C 1 dX5_endFactor_49 rfl rfl ?_
    refine gf5_ring C hlo hhi w353 dX5_endFactor_50 ?_
    refine v_aload_n C 0 dX5_endFactor_53 rfl rfl ?_
    refine v_aload_n C 0 dX5_endFactor_54 rfl rfl ?_
    refine v_aload_n C 1 dX5_endFactor_55 rfl rfl ?_
    refine gf5_factor C hlo hhi w359 dX5_endFactor_56 ?_
    refine v_callv (i := 48) (As := [.ref (B + (126 + 3 + 4 * (σ 124 9).toNat)), .ref (B + (126 + 3 + 4 * (σ 124 9).toNat)), .ref (B + 153)]) (rest := []) C (s_X6_multiply hlo hhi (PO_full hlo hhi (pa126 _ (toNat_lt k1))) (PO_full hlo hhi (pa126 _ (toNat_lt k1))) (PO_full hlo hhi kt153) h) w627 wy_X6_multiply ⟨rfl, rfl⟩ hd_X6_multiply ⟨Nat.le_of_ble_eq_true rfl, Nat.le_of_ble_eq_true rfl⟩ (Nat.le_trans hlo (Nat.zero_le _)) (Nat.lt_of_lt_of_le (by decide) hhi) rfl rfl rfl rfl (Nat.le_of_ble_eq_true rfl) dX5_endFactor_59 (fun σ3 h => ?_)
    refine v_R (fun hRσ3 => ?_)
    exact v_vret C h dX5_endFactor_62
  · have h := h.2 c6
    refine v_aload_n C 1 dX5_endFactor_22 rfl rfl ?_
    refine gf5_branching C hlo hhi w354 dX5_endFactor_23 ?_
    refine v_aload_n C 1 dX5_endFactor_26 rfl rfl ?_
    refine gf5_factor C hlo hhi w359 dX5_endFactor_27 ?_
    refine v_callv (i := 91) (As := [.ref (B + 153)]) (rest := []) C (s_X0_partBy hlo hhi (PO_full hlo hhi kt153) h) w586 wy_X0_partBy ⟨rfl, rfl⟩ hd_X0_partBy ⟨Nat.le_of_ble_eq_true rfl, Nat.le_of_ble_eq_true rfl⟩ (Nat.le_trans hlo (Nat.zero_le _)) (Nat.lt_of_lt_of_le (by decide) hhi) rfl rfl rfl rfl (Nat.le_of_ble_eq_true rfl) dX5_endFactor_30 (fun σ4 h => ?_)
    refine v_R (fun hRσ4 => ?_)
    refine v_aload_n C 1 dX5_endFactor_33 rfl rfl ?_
    refine gf5_ring C hlo hhi w353 dX5_endFactor_34 ?_
    refine v_aload_n C 0 dX5_endFactor_37 rfl rfl ?_
    refine v_aload_n C 0 dX5_endFactor_38 rfl rfl ?_
    refine v_aload_n C 1 dX5_endFactor_39 rfl rfl ?_
    refine gf5_factor C hlo hhi w359 dX5_endFactor_40 ?_
    refine v_callv (i := 48) (As := [.ref (B + (126 + 3 + 4 * (σ 124 9).toNat)), .ref (B + (126 + 3 + 4 * (σ 124 9).toNat)), .ref (B + 153)]) (rest := []) C (s_X6_divide hlo hhi (PO_full hlo hhi (pa126 _ (toNat_lt k1))) (PO_full hlo hhi (pa126 _ (toNat_lt k1))) (PO_full hlo hhi kt153) h) w605 wy_X6_divide ⟨rfl, rfl⟩ hd_X6_divide ⟨Nat.le_of_ble_eq_true rfl, Nat.le_of_ble_eq_true rfl⟩ (Nat.le_trans hlo (Nat.zero_le _)) (Nat.lt_of_lt_of_le (by decide) hhi) rfl rfl rfl rfl (Nat.le_of_ble_eq_true rfl) dX5_endFactor_43 (fun σ5 h => ?_)
    refine v_R (fun hRσ5 => ?_)
    refine v_goto C 62 dX5_endFactor_46 (by decide) ?_
    exact v_vret C h dX5_endFactor_62
-- SplitTowers$Reckoner.startProduct()V
def wp_X5_startProduct (σ : SG)  (Q : SG → Prop) : Prop :=
  ((0 ≤ (σ 124 9) ∧ (σ 124 9) < 6) ∧ wp_X4_becomeConstant σ (126 + 3 + 4 * (σ 124 9).toNat) 1 (fun (σ2 : SG) => ((0 ≤ (σ2 124 9) ∧ (σ2 124 9) < 6) ∧ (∀ σ4 : SG, σ4 = ug σ2 152 ((σ2 124 9).toNat) 0 → Q σ4))))
def rm_X5_startProduct : Room := { frames := 3, cells := 0, slots := 0, locals := 64 }
theorem wy_X5_startProduct : Cond.instanceMethod yX5_startProduct ∈ WS ∧ Cond.selects "SplitTowers$Reckoner" yX5_startProduct yX5_startProduct ∈ WS ∧ Cond.initialized "SplitTowers$Reckoner" ∈ WS ∧ Cond.code yX5_startProduct prog_7_method_4_code 1 none ∈ WS := ⟨w574, w6, w77, w575⟩
theorem hd_X5_startProduct : yX5_startProduct.cls = "SplitTowers$Reckoner" ∧ yX5_startProduct.cls ≠ "java/lang/invoke/MethodHandle" ∧ yX5_startProduct.cls ≠ "java/lang/invoke/VarHandle" ∧ (parseMethodDescriptor yX5_startProduct.desc).map (fun d => d.parameters.length) = some 0 := by decide +kernel
set_option maxHeartbeats 4000000 in
set_option maxRecDepth 100000 in
theorem s_X5_startProduct {l : Launch} {D : va_G} {aC : Nat → ClassId} {B lo hi : Nat} {σ : SG}  {Q : SG → Prop} (hlo : lo ≤ 0) (hhi : 304 ≤ hi) (h : wp_X5_startProduct σ  Q) : Met l yX5_startProduct (Cond.code yX5_startProduct prog_7_method_4_code 1 none :: WS) rm_X5_startProduct (va_Pc [.ref (B + 124)] (WP D aC B lo hi σ)) (QV D aC B lo hi Q) 0 0 (AB B lo hi) := by
  refine met_of (by decide +kernel) (by decide +kernel : yX5_startProduct.cls = "SplitTowers$Reckoner") (Nat.le_of_ble_eq_true rfl) ?_
  intro p e s m args below meth c C
  unfold wp_X5_startProduct at h
  refine v_R (fun hR0 => ?_)
  show V p l e rm_X5_startProduct s m args below meth c D aC B lo hi 1 (MQ below (QV D aC B lo hi Q) args s 0 0 (AB B lo hi)) σ 0 [(0, .ref (B + 124))] []
  refine v_aload_n C 0 dX5_startProduct_0 rfl rfl ?_
  refine gf5_products C hlo hhi w356 dX5_startProduct_1 ?_
  refine v_aload_n C 0 dX5_startProduct_4 rfl rfl ?_
  refine gf5_level C hlo hhi w360 dX5_startProduct_5 ?_
  have k1 := h.1
  have h := h.2
  refine v_aald (i := 126) (n := 6) (g := fun j => 126 + 3 + 4 * j) C 3 rfl (Nat.le_trans hlo (Nat.zero_le _)) (Nat.lt_of_lt_of_le (by decide) hhi) rfl (hR0 124 9) k1 dX5_startProduct_8 ?_
  refine v_iconst C dX5_startProduct_9 ?_
  refine v_callv (i := 126 + 3 + 4 * (σ 124 9).toNat) (As := [.int (iI 1)]) (rest := []) C (s_X4_becomeConstant (PO_full hlo hhi (pa126 _ (toNat_lt k1))) (by decide) h) w576 wy_X4_becomeConstant ⟨rfl, rfl⟩ hd_X4_becomeConstant ⟨Nat.le_of_ble_eq_true rfl, Nat.le_of_ble_eq_true rfl⟩ (PO.lo (PO_full hlo hhi (pa126 _ (toNat_lt k1)))) (PO.hi (PO_full hlo hhi (pa126 _ (toNat_lt k1)))) (cel_of ((PO_full hlo hhi (pa126 _ (toNat_lt k1)))).1) rfl rfl rfl (Nat.le_of_ble_eq_true rfl) dX5_startProduct_10 (fun σ2 h => ?_)
  refine v_R (fun hRσ2 => ?_)
  refine v_aload_n C 0 dX5_startProduct_13 rfl rfl ?_
  refine gf5_over C hlo hhi w358 dX5_startProduct_14 ?_
  refine v_aload_n C 0 dX5_startProduct_17 rfl rfl ?_
  refine gf5_level C hlo hhi w360 dX5_startProduct_18 ?_
  refine v_iconst C dX5_startProduct_21 ?_
  have k3 := h.1
  have h := h.2
  refine v_zast (i := 152) (n := 6) C (Nat.le_trans hlo (Nat.zero_le _)) (Nat.lt_of_lt_of_le (by decide) hhi) (fun _ => rfl) (hRσ2 124 9) k3 (by decide) dX5_startProduct_22 ?_
  refine v_nameS (fun σ4 eσ4 => ?_)
  have h := h σ4 eσ4
  refine v_R (fun hRσ4 => ?_)
  exact v_vret C h dX5_startProduct_23
-- SplitTowers$Reckoner.endProduct()V
def wp_X5_endProduct (σ : SG)  (Q : SG → Prop) : Prop :=
  ((0 ≤ (σ 124 9) ∧ (σ 124 9) < 6) ∧ ((0 ≤ (σ 124 9) ∧ (σ 124 9) < 6) ∧ ((0 ≤ (σ 124 9) ∧ (σ 124 9) < 6) ∧ wp_X6_add σ (125 + 2 + 4 * (σ 124 9).toNat) (126 + 3 + 4 * (σ 124 9).toNat) (σ 151 (σ 124 9).toNat) (fun (σ4 : SG) => wp_X5_startProduct σ4 (fun (σ5 : SG) => Q σ5)))))
def rm_X5_endProduct : Room := { frames := 4, cells := 0, slots := 0, locals := 84 }
theorem wy_X5_endProduct : Cond.instanceMethod yX5_endProduct ∈ WS ∧ Cond.selects "SplitTowers$Reckoner" yX5_endProduct yX5_endProduct ∈ WS ∧ Cond.initialized "SplitTowers$Reckoner" ∈ WS ∧ Cond.code yX5_endProduct prog_7_method_6_code 1 none ∈ WS := ⟨w630, w8, w77, w631⟩
theorem hd_X5_endProduct : yX5_endProduct.cls = "SplitTowers$Reckoner" ∧ yX5_endProduct.cls ≠ "java/lang/invoke/MethodHandle" ∧ yX5_endProduct.cls ≠ "java/lang/invoke/VarHandle" ∧ (parseMethodDescriptor yX5_endProduct.desc).map (fun d => d.parameters.length) = some 0 := by decide +kernel
set_option maxHeartbeats 4000000 in
set_option maxRecDepth 100000 in
theorem s_X5_endProduct {l : Launch} {D : va_G} {aC : Nat → ClassId} {B lo hi : Nat} {σ : SG}  {Q : SG → Prop} (hlo : lo ≤ 0) (hhi : 304 ≤ hi) (h : wp_X5_endProduct σ  Q) : Met l yX5_endProduct (Cond.code yX5_endProduct prog_7_method_6_code 1 none :: WS) rm_X5_endProduct (va_Pc [.ref (B + 124)] (WP D aC B lo hi σ)) (QV D aC B lo hi Q) 0 0 (AB B lo hi) := by
  refine met_of (by decide +kernel) (by decide +kernel : yX5_endProduct.cls = "SplitTowers$Reckoner") (Nat.le_of_ble_eq_true rfl) ?_
  intro p e s m args below meth c C
  unfold wp_X5_endProduct at h
  refine v_R (fun hR0 => ?_)
  show V p l e rm_X5_endProduct s m args below meth c D aC B lo hi 1 (MQ below (QV D aC B lo hi Q) args s 0 0 (AB B lo hi)) σ 0 [(0, .ref (B + 124))] []
  refine v_aload_n C 0 dX5_endProduct_0 rfl rfl ?_
  refine gf5_ring C hlo hhi w353 dX5_endProduct_1 ?_
  refine v_aload_n C 0 dX5_endProduct_4 rfl rfl ?_
  refine gf5_sums C hlo hhi w355 dX5_endProduct_5 ?_
  refine v_aload_n C 0 dX5_endProduct_8 rfl rfl ?_
  refine gf5_level C hlo hhi w360 dX5_endProduct_9 ?_
  have k1 := h.1
  have h := h.2
  refine v_aald (i := 125) (n := 6) (g := fun j => 125 + 2 + 4 * j) C 3 rfl (Nat.le_trans hlo (Nat.zero_le _)) (Nat.lt_of_lt_of_le (by decide) hhi) rfl (hR0 124 9) k1 dX5_endProduct_12 ?_
  refine v_aload_n C 0 dX5_endProduct_13 rfl rfl ?_
  refine gf5_products C hlo hhi w356 dX5_endProduct_14 ?_
  refine v_aload_n C 0 dX5_endProduct_17 rfl rfl ?_
  refine gf5_level C hlo hhi w360 dX5_endProduct_18 ?_
  have k2 := h.1
  have h := h.2
  refine v_aald (i := 126) (n := 6) (g := fun j => 126 + 3 + 4 * j) C 3 rfl (Nat.le_trans hlo (Nat.zero_le _)) (Nat.lt_of_lt_of_le (by decide) hhi) rfl (hR0 124 9) k2 dX5_endProduct_21 ?_
  refine v_aload_n C 0 dX5_endProduct_22 rfl rfl ?_
  refine gf5_minus C hlo hhi w357 dX5_endProduct_23 ?_
  refine v_aload_n C 0 dX5_endProduct_26 rfl rfl ?_
  refine gf5_level C hlo hhi w360 dX5_endProduct_27 ?_
  have k3 := h.1
  have h := h.2
  refine v_zald (i := 151) (n := 6) C (Nat.le_trans hlo (Nat.zero_le _)) (Nat.lt_of_lt_of_le (by decide) hhi) rfl (hR0 124 9) k3 dX5_endProduct_30 ?_
  refine v_callv (i := 48) (As := [.ref (B + (125 + 2 + 4 * (σ 124 9).toNat)), .ref (B + (126 + 3 + 4 * (σ 124 9).toNat)), .int (iI (σ 151 (σ 124 9).toNat))]) (rest := []) C (s_X6_add hlo hhi (PO_full hlo hhi (pa125 _ (toNat_lt k1))) (PO_full hlo hhi (pa126 _ (toNat_lt k2))) (hR0 151 _) h) w632 wy_X6_add ⟨rfl, rfl⟩ hd_X6_add ⟨Nat.le_of_ble_eq_true rfl, Nat.le_of_ble_eq_true rfl⟩ (Nat.le_trans hlo (Nat.zero_le _)) (Nat.lt_of_lt_of_le (by decide) hhi) rfl rfl rfl rfl (Nat.le_of_ble_eq_true rfl) dX5_endProduct_31 (fun σ4 h => ?_)
  refine v_R (fun hRσ4 => ?_)
  refine v_aload_n C 0 dX5_endProduct_34 rfl rfl ?_
  refine v_callv (i := 124) (As := []) (rest := []) C (s_X5_startProduct hlo hhi h) w572 wy_X5_startProduct ⟨rfl, rfl⟩ hd_X5_startProduct ⟨Nat.le_of_ble_eq_true rfl, Nat.le_of_ble_eq_true rfl⟩ (Nat.le_trans hlo (Nat.zero_le _)) (Nat.lt_of_lt_of_le (by decide) hhi) rfl rfl rfl rfl (Nat.le_of_ble_eq_true rfl) dX5_endProduct_35 (fun σ5 h => ?_)
  refine v_R (fun hRσ5 => ?_)
  exact v_vret C h dX5_endProduct_38
-- SplitTowers$Reckoner.startSum()V
def wp_X5_startSum (σ : SG)  (Q : SG → Prop) : Prop :=
  ((0 ≤ (σ 124 9) ∧ (σ 124 9) < 6) ∧ wp_X4_clear σ (125 + 2 + 4 * (σ 124 9).toNat) (fun (σ2 : SG) => ((0 ≤ (σ2 124 9) ∧ (σ2 124 9) < 6) ∧ (∀ σ4 : SG, σ4 = ug σ2 151 ((σ2 124 9).toNat) 0 → wp_X5_startProduct σ4 (fun (σ5 : SG) => Q σ5)))))
def rm_X5_startSum : Room := { frames := 4, cells := 0, slots := 0, locals := 84 }
theorem wy_X5_startSum : Cond.instanceMethod yX5_startSum ∈ WS ∧ Cond.selects "SplitTowers$Reckoner" yX5_startSum yX5_startSum ∈ WS ∧ Cond.initialized "SplitTowers$Reckoner" ∈ WS ∧ Cond.code yX5_startSum prog_7_method_3_code 1 none ∈ WS := ⟨w569, w5, w77, w570⟩
theorem hd_X5_startSum : yX5_startSum.cls = "SplitTowers$Reckoner" ∧ yX5_startSum.cls ≠ "java/lang/invoke/MethodHandle" ∧ yX5_startSum.cls ≠ "java/lang/invoke/VarHandle" ∧ (parseMethodDescriptor yX5_startSum.desc).map (fun d => d.parameters.length) = some 0 := by decide +kernel
set_option maxHeartbeats 4000000 in
set_option maxRecDepth 100000 in
theorem s_X5_startSum {l : Launch} {D : va_G} {aC : Nat → ClassId} {B lo hi : Nat} {σ : SG}  {Q : SG → Prop} (hlo : lo ≤ 0) (hhi : 304 ≤ hi) (h : wp_X5_startSum σ  Q) : Met l yX5_startSum (Cond.code yX5_startSum prog_7_method_3_code 1 none :: WS) rm_X5_startSum (va_Pc [.ref (B + 124)] (WP D aC B lo hi σ)) (QV D aC B lo hi Q) 0 0 (AB B lo hi) := by
  refine met_of (by decide +kernel) (by decide +kernel : yX5_startSum.cls = "SplitTowers$Reckoner") (Nat.le_of_ble_eq_true rfl) ?_
  intro p e s m args below meth c C
  unfold wp_X5_startSum at h
  refine v_R (fun hR0 => ?_)
  show V p l e rm_X5_startSum s m args below meth c D aC B lo hi 1 (MQ below (QV D aC B lo hi Q) args s 0 0 (AB B lo hi)) σ 0 [(0, .ref (B + 124))] []
  refine v_aload_n C 0 dX5_startSum_0 rfl rfl ?_
  refine gf5_sums C hlo hhi w355 dX5_startSum_1 ?_
  refine v_aload_n C 0 dX5_startSum_4 rfl rfl ?_
  refine gf5_level C hlo hhi w360 dX5_startSum_5 ?_
  have k1 := h.1
  have h := h.2
  refine v_aald (i := 125) (n := 6) (g := fun j => 125 + 2 + 4 * j) C 3 rfl (Nat.le_trans hlo (Nat.zero_le _)) (Nat.lt_of_lt_of_le (by decide) hhi) rfl (hR0 124 9) k1 dX5_startSum_8 ?_
  refine v_callv (i := 125 + 2 + 4 * (σ 124 9).toNat) (As := []) (rest := []) C (s_X4_clear (PO_full hlo hhi (pa125 _ (toNat_lt k1))) h) w571 wy_X4_clear ⟨rfl, rfl⟩ hd_X4_clear ⟨Nat.le_of_ble_eq_true rfl, Nat.le_of_ble_eq_true rfl⟩ (PO.lo (PO_full hlo hhi (pa125 _ (toNat_lt k1)))) (PO.hi (PO_full hlo hhi (pa125 _ (toNat_lt k1)))) (cel_of ((PO_full hlo hhi (pa125 _ (toNat_lt k1)))).1) rfl rfl rfl (Nat.le_of_ble_eq_true rfl) dX5_startSum_9 (fun σ2 h => ?_)
  refine v_R (fun hRσ2 => ?_)
  refine v_aload_n C 0 dX5_startSum_12 rfl rfl ?_
  refine gf5_minus C hlo hhi w357 dX5_startSum_13 ?_
  refine v_aload_n C 0 dX5_startSum_16 rfl rfl ?_
  refine gf5_level C hlo hhi w360 dX5_startSum_17 ?_
  refine v_iconst C dX5_startSum_20 ?_
  have k3 := h.1
  have h := h.2
  refine v_zast (i := 151) (n := 6) C (Nat.le_trans hlo (Nat.zero_le _)) (Nat.lt_of_lt_of_le (by decide) hhi) (fun _ => rfl) (hRσ2 124 9) k3 (by decide) dX5_startSum_21 ?_
  refine v_nameS (fun σ4 eσ4 => ?_)
  have h := h σ4 eσ4
  refine v_R (fun hRσ4 => ?_)
  refine v_aload_n C 0 dX5_startSum_22 rfl rfl ?_
  refine v_callv (i := 124) (As := []) (rest := []) C (s_X5_startProduct hlo hhi h) w572 wy_X5_startProduct ⟨rfl, rfl⟩ hd_X5_startProduct ⟨Nat.le_of_ble_eq_true rfl, Nat.le_of_ble_eq_true rfl⟩ (Nat.le_trans hlo (Nat.zero_le _)) (Nat.lt_of_lt_of_le (by decide) hhi) rfl rfl rfl rfl (Nat.le_of_ble_eq_true rfl) dX5_startSum_23 (fun σ5 h => ?_)
  refine v_R (fun hRσ5 => ?_)
  exact v_vret C h dX5_startSum_26
-- SplitTowers$Reckoner.takeSimpleOrExponent(IZ)V
def wp_X5_takeSimpleOrExponent (σ : SG) (a1 : Int) (a2 : Int) (Q : SG → Prop) : Prop :=
  ((a2 = 0 → ((¬ a1 = 120 → wp_X8_isRegisterLetter σ a1 (fun (z2 : Int) (σ1 : SG) => ((z2 = 0 → (inR (a1 - 48) ∧ wp_X7_reduced σ1 1 (a1 - 48) (fun (z5 : Int) (σ4 : SG) => wp_X4_becomeConstant σ4 153 z5 (fun (σ6 : SG) => Q σ6)))) ∧ (¬ z2 = 0 → (inR (a1 - 97) ∧ ((0 ≤ a1 - 97 ∧ a1 - 97 < 6) ∧ wp_X4_copy σ1 153 (1 + 3 + 1 + 2 * (a1 - 97).toNat) (fun (σ9 : SG) => Q σ9))))))) ∧ (a1 = 120 → wp_X6_becomeVariable σ 153 (fun (σ11 : SG) => Q σ11)))) ∧ (¬ a2 = 0 → (inR (a1 - 48) ∧ wp_X6_raise σ 153 153 (a1 - 48) (fun (σ14 : SG) => Q σ14))))
def rm_X5_takeSimpleOrExponent : Room := { frames := 5, cells := 0, slots := 0, locals := 121 }
theorem wy_X5_takeSimpleOrExponent : Cond.instanceMethod yX5_takeSimpleOrExponent ∈ WS ∧ Cond.selects "SplitTowers$Reckoner" yX5_takeSimpleOrExponent yX5_takeSimpleOrExponent ∈ WS ∧ Cond.initialized "SplitTowers$Reckoner" ∈ WS ∧ Cond.code yX5_takeSimpleOrExponent prog_7_method_7_code 3 none ∈ WS := ⟨w641, w9, w77, w642⟩
theorem hd_X5_takeSimpleOrExponent : yX5_takeSimpleOrExponent.cls = "SplitTowers$Reckoner" ∧ yX5_takeSimpleOrExponent.cls ≠ "java/lang/invoke/MethodHandle" ∧ yX5_takeSimpleOrExponent.cls ≠ "java/lang/invoke/VarHandle" ∧ (parseMethodDescriptor yX5_takeSimpleOrExponent.desc).map (fun d => d.parameters.length) = some 2 := by decide +kernel
set_option maxHeartbeats 4000000 in
set_option maxRecDepth 100000 in
theorem s_X5_takeSimpleOrExponent {l : Launch} {D : va_G} {aC : Nat → ClassId} {B lo hi : Nat} {σ : SG} {a1 : Int} {a2 : Int} {Q : SG → Prop} (hlo : lo ≤ 0) (hhi : 304 ≤ hi) (r1 : inR a1) (r2 : inR a2) (h : wp_X5_takeSimpleOrExponent σ a1 a2 Q) : Met l yX5_takeSimpleOrExponent (Cond.code yX5_takeSimpleOrExponent prog_7_method_7_code 3 none :: WS) rm_X5_takeSimpleOrExponent (va_Pc [.ref (B + 124), .int (iI a1), .int (iI a2)] (WP D aC B lo hi σ)) (QV D aC B lo hi Q) 0 0 (AB B lo hi) := by
  refine met_of (by decide +kernel) (by decide +kernel : yX5_takeSimpleOrExponent.cls = "SplitTowers$Reckoner") (Nat.le_of_ble_eq_true rfl) ?_
  intro p e s m args below meth c C
  unfold wp_X5_takeSimpleOrExponent at h
  refine v_R (fun hR0 => ?_)
  show V p l e rm_X5_takeSimpleOrExponent s m args below meth c D aC B lo hi 3 (MQ below (QV D aC B lo hi Q) args s 0 0 (AB B lo hi)) σ 0 [(0, .ref (B + 124)), (1, .int (iI a1)), (2, .int (iI a2))] []
  refine v_iload_n C 2 dX5_takeSimpleOrExponent_0 rfl rfl ?_
  refine v_if_eq C r2 26 dX5_takeSimpleOrExponent_1 (by decide) (fun c15 => ?_) (fun c15 => ?_)
  · have h := h.1 c15
    refine v_iload_n C 1 dX5_takeSimpleOrExponent_26 rfl rfl ?_
    refine v_bipush C dX5_takeSimpleOrExponent_27 (by decide) ?_
    refine v_icmp_ne C r1 (by decide) 46 dX5_takeSimpleOrExponent_29 (by decide) (fun c12 => ?_) (fun c12 => ?_)
    · have h := h.1 c12
      refine v_iload_n C 1 dX5_takeSimpleOrExponent_46 rfl rfl ?_
      refine v_callsi (As := [.int (iI a1)]) (rest := []) C (s_X8_isRegisterLetter hlo hhi r1 h) w654 wy_X8_isRegisterLetter ⟨rfl, rfl⟩ hd_X8_isRegisterLetter ⟨Nat.le_of_ble_eq_true rfl, Nat.le_of_ble_eq_true rfl⟩ rfl rfl (Nat.le_of_ble_eq_true rfl) dX5_takeSimpleOrExponent_47 (fun z2 σ1 rz2 h => ?_)
      refine v_R (fun hRσ1 => ?_)
      refine v_if_eq C rz2 75 dX5_takeSimpleOrExponent_50 (by decide) (fun c10 => ?_) (fun c10 => ?_)
      · have h := h.1 c10
        refine v_aload_n C 0 dX5_takeSimpleOrExponent_75 rfl rfl ?_
        refine gf5_factor C hlo hhi w359 dX5_takeSimpleOrExponent_76 ?_
        refine v_aload_n C 0 dX5_takeSimpleOrExponent_79 rfl rfl ?_
        refine gf5_state C hlo hhi w351 dX5_takeSimpleOrExponent_80 ?_
        refine v_iload_n C 1 dX5_takeSimpleOrExponent_83 rfl rfl ?_
        refine v_bipush C dX5_takeSimpleOrExponent_84 (by decide) ?_
        have k3 := h.1
        have h := h.2
        refine v_isub C dX5_takeSimpleOrExponent_86 ?_
        refine v_calli (i := 1) (As := [.int (iI (a1 - 48))]) (rest := [.ref (B + 153)]) C (s_X7_reduced (SO_full hlo hhi kt1) k3 h) w655 wy_X7_reduced ⟨rfl, rfl⟩ hd_X7_reduced ⟨Nat.le_of_ble_eq_true rfl, Nat.le_of_ble_eq_true rfl⟩ (SO.lo (SO_full hlo hhi kt1)) (SO.hi (SO_full hlo hhi kt1)) (cel_of ((SO_full hlo hhi kt1)).1) rfl rfl rfl (Nat.le_of_ble_eq_true rfl) dX5_takeSimpleOrExponent_87 (fun z5 σ4 rz5 h => ?_)
        refine v_R (fun hRσ4 => ?_)
        refine v_callv (i := 153) (As := [.int (iI z5)]) (rest := []) C (s_X4_becomeConstant (PO_full hlo hhi kt153) rz5 h) w576 wy_X4_becomeConstant ⟨rfl, rfl⟩ hd_X4_becomeConstant ⟨Nat.le_of_ble_eq_true rfl, Nat.le_of_ble_eq_true rfl⟩ (PO.lo (PO_full hlo hhi kt153)) (PO.hi (PO_full hlo hhi kt153)) (cel_of ((PO_full hlo hhi kt153)).1) rfl rfl rfl (Nat.le_of_ble_eq_true rfl) dX5_takeSimpleOrExponent_90 (fun σ6 h => ?_)
        refine v_R (fun hRσ6 => ?_)
        exact v_vret C h dX5_takeSimpleOrExponent_93
      · have h := h.2 c10
        refine v_aload_n C 0 dX5_takeSimpleOrExponent_53 rfl rfl ?_
        refine gf5_factor C hlo hhi w359 dX5_takeSimpleOrExponent_54 ?_
        refine v_aload_n C 0 dX5_takeSimpleOrExponent_57 rfl rfl ?_
        refine gf5_state C hlo hhi w351 dX5_takeSimpleOrExponent_58 ?_
        refine gf7_registers C (SO_full hlo hhi kt1) w163 dX5_takeSimpleOrExponent_61 ?_
        refine v_iload_n C 1 dX5_takeSimpleOrExponent_64 rfl rfl ?_
        refine v_bipush C dX5_takeSimpleOrExponent_65 (by decide) ?_
        have k7 := h.1
        have h := h.2
        refine v_isub C dX5_takeSimpleOrExponent_67 ?_
        have k8 := h.1
        have h := h.2
        refine v_aaldR C (SO_full hlo hhi kt1) k7 k8 dX5_takeSimpleOrExponent_68 ?_
        refine v_callv (i := 153) (As := [.ref (B + (1 + 3 + 1 + 2 * (a1 - 97).toNat))]) (rest := []) C (s_X4_copy (PO_full hlo hhi kt153) (PO_reg (SO_full hlo hhi kt1) (k8).1 (k8).2) h) w637 wy_X4_copy ⟨rfl, rfl⟩ hd_X4_copy ⟨Nat.le_of_ble_eq_true rfl, Nat.le_of_ble_eq_true rfl⟩ (PO.lo (PO_full hlo hhi kt153)) (PO.hi (PO_full hlo hhi kt153)) (cel_of ((PO_full hlo hhi kt153)).1) rfl rfl rfl (Nat.le_of_ble_eq_true rfl) dX5_takeSimpleOrExponent_69 (fun σ9 h => ?_)
        refine v_R (fun hRσ9 => ?_)
        refine v_goto C 93 dX5_takeSimpleOrExponent_72 (by decide) ?_
        exact v_vret C h dX5_takeSimpleOrExponent_93
    · have h := h.2 c12
      refine v_aload_n C 0 dX5_takeSimpleOrExponent_32 rfl rfl ?_
      refine gf5_ring C hlo hhi w353 dX5_takeSimpleOrExponent_33 ?_
      refine v_aload_n C 0 dX5_takeSimpleOrExponent_36 rfl rfl ?_
      refine gf5_factor C hlo hhi w359 dX5_takeSimpleOrExponent_37 ?_
      refine v_callv (i := 48) (As := [.ref (B + 153)]) (rest := []) C (s_X6_becomeVariable hlo hhi (PO_full hlo hhi kt153) h) w649 wy_X6_becomeVariable ⟨rfl, rfl⟩ hd_X6_becomeVariable ⟨Nat.le_of_ble_eq_true rfl, Nat.le_of_ble_eq_true rfl⟩ (Nat.le_trans hlo (Nat.zero_le _)) (Nat.lt_of_lt_of_le (by decide) hhi) rfl rfl rfl rfl (Nat.le_of_ble_eq_true rfl) dX5_takeSimpleOrExponent_40 (fun σ11 h => ?_)
      refine v_R (fun hRσ11 => ?_)
      refine v_goto C 93 dX5_takeSimpleOrExponent_43 (by decide) ?_
      exact v_vret C h dX5_takeSimpleOrExponent_93
  · have h := h.2 c15
    refine v_aload_n C 0 dX5_takeSimpleOrExponent_4 rfl rfl ?_
    refine gf5_ring C hlo hhi w353 dX5_takeSimpleOrExponent_5 ?_
    refine v_aload_n C 0 dX5_takeSimpleOrExponent_8 rfl rfl ?_
    refine gf5_factor C hlo hhi w359 dX5_takeSimpleOrExponent_9 ?_
    refine v_aload_n C 0 dX5_takeSimpleOrExponent_12 rfl rfl ?_
    refine gf5_factor C hlo hhi w359 dX5_takeSimpleOrExponent_13 ?_
    refine v_iload_n C 1 dX5_takeSimpleOrExponent_16 rfl rfl ?_
    refine v_bipush C dX5_takeSimpleOrExponent_17 (by decide) ?_
    have k13 := h.1
    have h := h.2
    refine v_isub C dX5_takeSimpleOrExponent_19 ?_
    refine v_callv (i := 48) (As := [.ref (B + 153), .ref (B + 153), .int (iI (a1 - 48))]) (rest := []) C (s_X6_raise hlo hhi (PO_full hlo hhi kt153) (PO_full hlo hhi kt153) k13 h) w643 wy_X6_raise ⟨rfl, rfl⟩ hd_X6_raise ⟨Nat.le_of_ble_eq_true rfl, Nat.le_of_ble_eq_true rfl⟩ (Nat.le_trans hlo (Nat.zero_le _)) (Nat.lt_of_lt_of_le (by decide) hhi) rfl rfl rfl rfl (Nat.le_of_ble_eq_true rfl) dX5_takeSimpleOrExponent_20 (fun σ14 h => ?_)
    refine v_R (fun hRσ14 => ?_)
    refine v_goto C 93 dX5_takeSimpleOrExponent_23 (by decide) ?_
    exact v_vret C h dX5_takeSimpleOrExponent_93
-- SplitTowers$Reckoner.reckon(LSplitTowers$Poly;)V
def wp_X5_reckon (σ : SG) (q1 : Nat) (Q : SG → Prop) : Prop :=
  (∀ σ1 : SG, σ1 = ug σ 124 9 0 → wp_X5_startSum σ1 (fun (σ2 : SG) => Lp1 (fun (rec5 : Int → SG → Prop) (x3 : Int) (σ4 : SG) => (((σ4 30 1) ≤ x3 → wp_X5_endFactor σ4 (fun (σ8 : SG) => wp_X5_endProduct σ8 (fun (σ9 : SG) => ((0 ≤ (σ9 124 9) ∧ (σ9 124 9) < 6) ∧ wp_X4_copy σ9 q1 (125 + 2 + 4 * (σ9 124 9).toNat) (fun (σ11 : SG) => Q σ11))))) ∧ (¬ (σ4 30 1) ≤ x3 → wp_X8_at σ4 x3 (fun (z13 : Int) (σ12 : SG) => ((z13 = 40 → (inR ((σ12 124 9) + 1) ∧ (∀ σ15 : SG, σ15 = ug σ12 124 9 (imin ((σ12 124 9) + 1) 5) → wp_X5_startSum σ15 (fun (σ16 : SG) => (inR (x3 + 1) ∧ rec5 (x3 + 1) σ16))))) ∧ (z13 = 41 → wp_X5_endFactor σ12 (fun (σ19 : SG) => wp_X5_endProduct σ19 (fun (σ20 : SG) => ((0 ≤ (σ20 124 9) ∧ (σ20 124 9) < 6) ∧ wp_X4_copy σ20 153 (125 + 2 + 4 * (σ20 124 9).toNat) (fun (σ22 : SG) => (inR ((σ22 124 9) - 1) ∧ (∀ σ24 : SG, σ24 = ug σ22 124 9 (imax ((σ22 124 9) - 1) 0) → (inR (x3 + 1) ∧ rec5 (x3 + 1) σ24)))))))) ∧ (z13 = 42 ∨ z13 = 47 → wp_X5_endFactor σ12 (fun (σ27 : SG) => ((¬ z13 = 47 → ((0 ≤ (σ27 124 9) ∧ (σ27 124 9) < 6) ∧ (∀ σ29 : SG, σ29 = ug σ27 152 ((σ27 124 9).toNat) 0 → (inR (x3 + 1) ∧ rec5 (x3 + 1) σ29)))) ∧ (z13 = 47 → ((0 ≤ (σ27 124 9) ∧ (σ27 124 9) < 6) ∧ (∀ σ32 : SG, σ32 = ug σ27 152 ((σ27 124 9).toNat) 1 → (inR (x3 + 1) ∧ rec5 (x3 + 1) σ32))))))) ∧ (z13 = 43 ∨ z13 = 45 → wp_X5_endFactor σ12 (fun (σ36 : SG) => wp_X5_endProduct σ36 (fun (σ37 : SG) => ((¬ z13 = 45 → ((0 ≤ (σ37 124 9) ∧ (σ37 124 9) < 6) ∧ (∀ σ39 : SG, σ39 = ug σ37 151 ((σ37 124 9).toNat) 0 → (inR (x3 + 1) ∧ rec5 (x3 + 1) σ39)))) ∧ (z13 = 45 → ((0 ≤ (σ37 124 9) ∧ (σ37 124 9) < 6) ∧ (∀ σ42 : SG, σ42 = ug σ37 151 ((σ37 124 9).toNat) 1 → (inR (x3 + 1) ∧ rec5 (x3 + 1) σ42)))))))) ∧ (z13 = 94 → (inR (x3 + 1) ∧ rec5 (x3 + 1) σ12)) ∧ (¬ z13 = 40 ∧ ¬ z13 = 41 ∧ ¬ z13 = 42 ∧ ¬ z13 = 43 ∧ ¬ z13 = 45 ∧ ¬ z13 = 47 ∧ ¬ z13 = 94 → (inR (x3 - 1) ∧ wp_X8_at σ12 (x3 - 1) (fun (z50 : Int) (σ49 : SG) => Jn1 (fun (x51 : Int) (σ52 : SG) => wp_X5_takeSimpleOrExponent σ52 z13 x51 (fun (σ54 : SG) => (inR (x3 + 1) ∧ rec5 (x3 + 1) σ54))) (fun J53 => ((¬ z50 = 94 → J53 0 σ49) ∧ (z50 = 94 → J53 1 σ49))))))))))) 2 σ2))
def rm_X5_reckon : Room := { frames := 6, cells := 0, slots := 0, locals := 148 }
theorem wy_X5_reckon : Cond.instanceMethod yX5_reckon ∈ WS ∧ Cond.selects "SplitTowers$Reckoner" yX5_reckon yX5_reckon ∈ WS ∧ Cond.initialized "SplitTowers$Reckoner" ∈ WS ∧ Cond.code yX5_reckon prog_7_method_2_code 4 none ∈ WS := ⟨w564, w565, w77, w566⟩
theorem hd_X5_reckon : yX5_reckon.cls = "SplitTowers$Reckoner" ∧ yX5_reckon.cls ≠ "java/lang/invoke/MethodHandle" ∧ yX5_reckon.cls ≠ "java/lang/invoke/VarHandle" ∧ (parseMethodDescriptor yX5_reckon.desc).map (fun d => d.parameters.length) = some 1 := by decide +kernel
set_option maxHeartbeats 4000000 in
set_option maxRecDepth 100000 in
theorem s_X5_reckon {l : Launch} {D : va_G} {aC : Nat → ClassId} {B lo hi : Nat} {σ : SG} {q1 : Nat} {Q : SG → Prop} (hlo : lo ≤ 0) (hhi : 304 ≤ hi) (p1 : PO lo hi q1) (h : wp_X5_reckon σ q1 Q) : Met l yX5_reckon (Cond.code yX5_reckon prog_7_method_2_code 4 none :: WS) rm_X5_reckon (va_Pc [.ref (B + 124), .ref (B + q1)] (WP D aC B lo hi σ)) (QV D aC B lo hi Q) 0 0 (AB B lo hi) := by
  refine met_of (by decide +kernel) (by decide +kernel : yX5_reckon.cls = "SplitTowers$Reckoner") (Nat.le_of_ble_eq_true rfl) ?_
  intro p e s m args below meth c C
  unfold wp_X5_reckon at h
  refine v_R (fun hR0 => ?_)
  show V p l e rm_X5_reckon s m args below meth c D aC B lo hi 4 (MQ below (QV D aC B lo hi Q) args s 0 0 (AB B lo hi)) σ 0 [(0, .ref (B + 124)), (1, .ref (B + q1))] []
  refine v_aload_n C 0 dX5_reckon_0 rfl rfl ?_
  refine v_iconst C dX5_reckon_1 ?_
  refine pf5_level C hlo hhi (by decide) w360 dX5_reckon_2 ?_
  refine v_nameS (fun σ1 eσ1 => ?_)
  have h := h σ1 eσ1
  refine v_R (fun hRσ1 => ?_)
  refine v_aload_n C 0 dX5_reckon_5 rfl rfl ?_
  refine v_callv (i := 124) (As := []) (rest := []) C (s_X5_startSum hlo hhi h) w567 wy_X5_startSum ⟨rfl, rfl⟩ hd_X5_startSum ⟨Nat.le_of_ble_eq_true rfl, Nat.le_of_ble_eq_true rfl⟩ (Nat.le_trans hlo (Nat.zero_le _)) (Nat.lt_of_lt_of_le (by decide) hhi) rfl rfl rfl rfl (Nat.le_of_ble_eq_true rfl) dX5_reckon_6 (fun σ2 h => ?_)
  refine v_R (fun hRσ2 => ?_)
  refine v_iconst C dX5_reckon_9 ?_
  refine v_istore_n (lv' := [(2, .int (iI 2)), (0, .ref (B + 124)), (1, .ref (B + q1))]) C dX5_reckon_10 rfl (by decide) rfl ?_
  obtain ⟨I58, ⟨n59, hnn59⟩, hII58⟩ := h
  have key7 : ∀ (n : Nat) (x3 : Int) (σ4 : SG), I58 n x3 σ4 → inR x3 → V p l e rm_X5_reckon s m args below meth c D aC B lo hi 4 (MQ below (QV D aC B lo hi Q) args s 0 0 (AB B lo hi)) σ4 11 [(2, .int (iI x3)), (0, .ref (B + 124)), (1, .ref (B + q1))] [] := by
    intro n
    induction n using Nat.strongRecOn with
    | ind n ih6 =>
      intro x3 σ4 hn rx3
      have h := hII58 n x3 σ4 hn
      refine v_R (fun hRσ4 => ?_)
      refine v_iload_n C 0 dX5_reckon_11 rfl rfl ?_
      refine v_aload_n C 1 dX5_reckon_12 rfl rfl ?_
      refine gf5_text C hlo hhi w352 dX5_reckon_13 ?_
      refine gf8_length C hlo hhi w189 dX5_reckon_16 ?_
      refine v_icmp_ge C rx3 (hRσ4 30 1) 254 dX5_reckon_19 (by decide) (fun c57 => ?_) (fun c57 => ?_)
      · have h := h.1 c57
        refine v_aload_n C 1 dX5_reckon_254 rfl rfl ?_
        refine v_callv (i := 124) (As := []) (rest := []) C (s_X5_endFactor hlo hhi h) w582 wy_X5_endFactor ⟨rfl, rfl⟩ hd_X5_endFactor ⟨Nat.le_of_ble_eq_true rfl, Nat.le_of_ble_eq_true rfl⟩ (Nat.le_trans hlo (Nat.zero_le _)) (Nat.lt_of_lt_of_le (by decide) hhi) rfl rfl rfl rfl (Nat.le_of_ble_eq_true rfl) dX5_reckon_255 (fun σ8 h => ?_)
        refine v_R (fun hRσ8 => ?_)
        refine v_aload_n C 1 dX5_reckon_258 rfl rfl ?_
        refine v_callv (i := 124) (As := []) (rest := []) C (s_X5_endProduct hlo hhi h) w628 wy_X5_endProduct ⟨rfl, rfl⟩ hd_X5_endProduct ⟨Nat.le_of_ble_eq_true rfl, Nat.le_of_ble_eq_true rfl⟩ (Nat.le_trans hlo (Nat.zero_le _)) (Nat.lt_of_lt_of_le (by decide) hhi) rfl rfl rfl rfl (Nat.le_of_ble_eq_true rfl) dX5_reckon_259 (fun σ9 h => ?_)
        refine v_R (fun hRσ9 => ?_)
        refine v_aload_n C 2 dX5_reckon_262 rfl rfl ?_
        refine v_aload_n C 1 dX5_reckon_263 rfl rfl ?_
        refine gf5_sums C hlo hhi w355 dX5_reckon_264 ?_
        refine v_aload_n C 1 dX5_reckon_267 rfl rfl ?_
        refine gf5_level C hlo hhi w360 dX5_reckon_268 ?_
        have k10 := h.1
        have h := h.2
        refine v_aald (i := 125) (n := 6) (g := fun j => 125 + 2 + 4 * j) C 3 rfl (Nat.le_trans hlo (Nat.zero_le _)) (Nat.lt_of_lt_of_le (by decide) hhi) rfl (hRσ9 124 9) k10 dX5_reckon_271 ?_
        refine v_callv (i := q1) (As := [.ref (B + (125 + 2 + 4 * (σ9 124 9).toNat))]) (rest := []) C (s_X4_copy p1 (PO_full hlo hhi (pa125 _ (toNat_lt k10))) h) w637 wy_X4_copy ⟨rfl, rfl⟩ hd_X4_copy ⟨Nat.le_of_ble_eq_true rfl, Nat.le_of_ble_eq_true rfl⟩ (PO.lo p1) (PO.hi p1) (cel_of (p1).1) rfl rfl rfl (Nat.le_of_ble_eq_true rfl) dX5_reckon_272 (fun σ11 h => ?_)
        refine v_R (fun hRσ11 => ?_)
        exact v_vret C h dX5_reckon_275
      · have h := h.2 c57
        refine v_aload_n C 1 dX5_reckon_22 rfl rfl ?_
        refine gf5_text C hlo hhi w352 dX5_reckon_23 ?_
        refine v_iload_n C 0 dX5_reckon_26 rfl rfl ?_
        refine v_calli (i := 30) (As := [.int (iI x3)]) (rest := []) C (s_X8_at hlo hhi rx3 h) w580 wy_X8_at ⟨rfl, rfl⟩ hd_X8_at ⟨Nat.le_of_ble_eq_true rfl, Nat.le_of_ble_eq_true rfl⟩ (Nat.le_trans hlo (Nat.zero_le _)) (Nat.lt_of_lt_of_le (by decide) hhi) rfl rfl rfl rfl (Nat.le_of_ble_eq_true rfl) dX5_reckon_27 (fun z13 σ12 rz13 h => ?_)
        refine v_R (fun hRσ12 => ?_)
        refine v_istore_n (lv' := [(3, .int (iI z13)), (2, .int (iI x3)), (0, .ref (B + 124)), (1, .ref (B + q1))]) C dX5_reckon_30 rfl (by decide) rfl ?_
        refine v_iload_n C 0 dX5_reckon_31 rfl rfl ?_
        rcases Decidable.em (z13 = 40) with c18 | c18
        · have h := h.1 c18
          refine v_look (off := 68) C rz13 100 dX5_reckon_32 rfl (by rw [c18]; rfl) (by decide) ?_
          refine v_aload_n C 2 dX5_reckon_100 rfl rfl ?_
          refine v_aload_n C 2 dX5_reckon_101 rfl rfl ?_
          refine gf5_level C hlo hhi w360 dX5_reckon_102 ?_
          refine v_iconst C dX5_reckon_105 ?_
          have k14 := h.1
          have h := h.2
          refine v_iadd C dX5_reckon_106 ?_
          refine v_iconst C dX5_reckon_107 ?_
          refine v_min C k14 (by decide) w581 wy_min (Nat.le_of_ble_eq_true rfl) (Nat.le_of_ble_eq_true rfl) dX5_reckon_108 ?_
          refine pf5_level C hlo hhi (inR_imin k14 (by decide)) w360 dX5_reckon_111 ?_
          refine v_nameS (fun σ15 eσ15 => ?_)
          have h := h σ15 eσ15
          refine v_R (fun hRσ15 => ?_)
          refine v_aload_n C 2 dX5_reckon_114 rfl rfl ?_
          refine v_callv (i := 124) (As := []) (rest := []) C (s_X5_startSum hlo hhi h) w567 wy_X5_startSum ⟨rfl, rfl⟩ hd_X5_startSum ⟨Nat.le_of_ble_eq_true rfl, Nat.le_of_ble_eq_true rfl⟩ (Nat.le_trans hlo (Nat.zero_le _)) (Nat.lt_of_lt_of_le (by decide) hhi) rfl rfl rfl rfl (Nat.le_of_ble_eq_true rfl) dX5_reckon_115 (fun σ16 h => ?_)
          refine v_R (fun hRσ16 => ?_)
          refine v_goto C 248 dX5_reckon_118 (by decide) ?_
          have k17 := h.1
          have h := h.2
          refine v_iinc (lv' := [(2, .int (iI (x3 + 1))), (3, .int (iI z13)), (0, .ref (B + 124)), (1, .ref (B + q1))]) C 1 dX5_reckon_248 rfl (by decide) rfl ?_
          refine v_goto C 11 dX5_reckon_251 (by decide) ?_
          obtain ⟨m9, hm9, h⟩ := h
          refine v_sub [0, 2, 3] rfl ?_
          exact ih6 m9 hm9 (x3 + 1) σ16 h k17
        rcases Decidable.em (z13 = 41) with c26 | c26
        · have h := h.2.1 c26
          refine v_look (off := 89) C rz13 121 dX5_reckon_32 rfl (by rw [c26]; rfl) (by decide) ?_
          refine v_aload_n C 2 dX5_reckon_121 rfl rfl ?_
          refine v_callv (i := 124) (As := []) (rest := []) C (s_X5_endFactor hlo hhi h) w582 wy_X5_endFactor ⟨rfl, rfl⟩ hd_X5_endFactor ⟨Nat.le_of_ble_eq_true rfl, Nat.le_of_ble_eq_true rfl⟩ (Nat.le_trans hlo (Nat.zero_le _)) (Nat.lt_of_lt_of_le (by decide) hhi) rfl rfl rfl rfl (Nat.le_of_ble_eq_true rfl) dX5_reckon_122 (fun σ19 h => ?_)
          refine v_R (fun hRσ19 => ?_)
          refine v_aload_n C 2 dX5_reckon_125 rfl rfl ?_
          refine v_callv (i := 124) (As := []) (rest := []) C (s_X5_endProduct hlo hhi h) w628 wy_X5_endProduct ⟨rfl, rfl⟩ hd_X5_endProduct ⟨Nat.le_of_ble_eq_true rfl, Nat.le_of_ble_eq_true rfl⟩ (Nat.le_trans hlo (Nat.zero_le _)) (Nat.lt_of_lt_of_le (by decide) hhi) rfl rfl rfl rfl (Nat.le_of_ble_eq_true rfl) dX5_reckon_126 (fun σ20 h => ?_)
          refine v_R (fun hRσ20 => ?_)
          refine v_aload_n C 2 dX5_reckon_129 rfl rfl ?_
          refine gf5_factor C hlo hhi w359 dX5_reckon_130 ?_
          refine v_aload_n C 2 dX5_reckon_133 rfl rfl ?_
          refine gf5_sums C hlo hhi w355 dX5_reckon_134 ?_
          refine v_aload_n C 2 dX5_reckon_137 rfl rfl ?_
          refine gf5_level C hlo hhi w360 dX5_reckon_138 ?_
          have k21 := h.1
          have h := h.2
          refine v_aald (i := 125) (n := 6) (g := fun j => 125 + 2 + 4 * j) C 3 rfl (Nat.le_trans hlo (Nat.zero_le _)) (Nat.lt_of_lt_of_le (by decide) hhi) rfl (hRσ20 124 9) k21 dX5_reckon_141 ?_
          refine v_callv (i := 153) (As := [.ref (B + (125 + 2 + 4 * (σ20 124 9).toNat))]) (rest := []) C (s_X4_copy (PO_full hlo hhi kt153) (PO_full hlo hhi (pa125 _ (toNat_lt k21))) h) w637 wy_X4_copy ⟨rfl, rfl⟩ hd_X4_copy ⟨Nat.le_of_ble_eq_true rfl, Nat.le_of_ble_eq_true rfl⟩ (PO.lo (PO_full hlo hhi kt153)) (PO.hi (PO_full hlo hhi kt153)) (cel_of ((PO_full hlo hhi kt153)).1) rfl rfl rfl (Nat.le_of_ble_eq_true rfl) dX5_reckon_142 (fun σ22 h => ?_)
          refine v_R (fun hRσ22 => ?_)
          refine v_aload_n C 2 dX5_reckon_145 rfl rfl ?_
          refine v_aload_n C 2 dX5_reckon_146 rfl rfl ?_
          refine gf5_level C hlo hhi w360 dX5_reckon_147 ?_
          refine v_iconst C dX5_reckon_150 ?_
          have k23 := h.1
          have h := h.2
          refine v_isub C dX5_reckon_151 ?_
          refine v_iconst C dX5_reckon_152 ?_
          refine v_max C k23 (by decide) w638 wy_max (Nat.le_of_ble_eq_true rfl) (Nat.le_of_ble_eq_true rfl) dX5_reckon_153 ?_
          refine pf5_level C hlo hhi (inR_imax k23 (by decide)) w360 dX5_reckon_156 ?_
          refine v_nameS (fun σ24 eσ24 => ?_)
          have h := h σ24 eσ24
          refine v_R (fun hRσ24 => ?_)
          refine v_goto C 248 dX5_reckon_159 (by decide) ?_
          have k25 := h.1
          have h := h.2
          refine v_iinc (lv' := [(2, .int (iI (x3 + 1))), (3, .int (iI z13)), (0, .ref (B + 124)), (1, .ref (B + q1))]) C 1 dX5_reckon_248 rfl (by decide) rfl ?_
          refine v_goto C 11 dX5_reckon_251 (by decide) ?_
          obtain ⟨m9, hm9, h⟩ := h
          refine v_sub [0, 2, 3] rfl ?_
          exact ih6 m9 hm9 (x3 + 1) σ24 h k25
        rcases Decidable.em (z13 = 42 ∨ z13 = 47) with c35 | c35
        · have h := h.2.2.1 c35
          refine v_look (off := 161) C rz13 193 dX5_reckon_32 rfl (by rcases c35 with c35 | c35 <;> rw [c35] <;> rfl) (by decide) ?_
          refine v_aload_n C 2 dX5_reckon_193 rfl rfl ?_
          refine v_callv (i := 124) (As := []) (rest := []) C (s_X5_endFactor hlo hhi h) w582 wy_X5_endFactor ⟨rfl, rfl⟩ hd_X5_endFactor ⟨Nat.le_of_ble_eq_true rfl, Nat.le_of_ble_eq_true rfl⟩ (Nat.le_trans hlo (Nat.zero_le _)) (Nat.lt_of_lt_of_le (by decide) hhi) rfl rfl rfl rfl (Nat.le_of_ble_eq_true rfl) dX5_reckon_194 (fun σ27 h => ?_)
          refine v_R (fun hRσ27 => ?_)
          refine v_aload_n C 2 dX5_reckon_197 rfl rfl ?_
          refine gf5_over C hlo hhi w358 dX5_reckon_198 ?_
          refine v_aload_n C 2 dX5_reckon_201 rfl rfl ?_
          refine gf5_level C hlo hhi w360 dX5_reckon_202 ?_
          refine v_iload_n C 0 dX5_reckon_205 rfl rfl ?_
          refine v_bipush C dX5_reckon_206 (by decide) ?_
          refine v_icmp_ne C rz13 (by decide) 215 dX5_reckon_208 (by decide) (fun c34 => ?_) (fun c34 => ?_)
          · have h := h.1 c34
            refine v_iconst C dX5_reckon_215 ?_
            have k28 := h.1
            have h := h.2
            refine v_zast (i := 152) (n := 6) C (Nat.le_trans hlo (Nat.zero_le _)) (Nat.lt_of_lt_of_le (by decide) hhi) (fun _ => rfl) (hRσ27 124 9) k28 (by decide) dX5_reckon_216 ?_
            refine v_nameS (fun σ29 eσ29 => ?_)
            have h := h σ29 eσ29
            refine v_R (fun hRσ29 => ?_)
            refine v_goto C 248 dX5_reckon_217 (by decide) ?_
            have k30 := h.1
            have h := h.2
            refine v_iinc (lv' := [(2, .int (iI (x3 + 1))), (3, .int (iI z13)), (0, .ref (B + 124)), (1, .ref (B + q1))]) C 1 dX5_reckon_248 rfl (by decide) rfl ?_
            refine v_goto C 11 dX5_reckon_251 (by decide) ?_
            obtain ⟨m9, hm9, h⟩ := h
            refine v_sub [0, 2, 3] rfl ?_
            exact ih6 m9 hm9 (x3 + 1) σ29 h k30
          · have h := h.2 c34
            refine v_iconst C dX5_reckon_211 ?_
            refine v_goto C 216 dX5_reckon_212 (by decide) ?_
            have k31 := h.1
            have h := h.2
            refine v_zast (i := 152) (n := 6) C (Nat.le_trans hlo (Nat.zero_le _)) (Nat.lt_of_lt_of_le (by decide) hhi) (fun _ => rfl) (hRσ27 124 9) k31 (by decide) dX5_reckon_216 ?_
            refine v_nameS (fun σ32 eσ32 => ?_)
            have h := h σ32 eσ32
            refine v_R (fun hRσ32 => ?_)
            refine v_goto C 248 dX5_reckon_217 (by decide) ?_
            have k33 := h.1
            have h := h.2
            refine v_iinc (lv' := [(2, .int (iI (x3 + 1))), (3, .int (iI z13)), (0, .ref (B + 124)), (1, .ref (B + q1))]) C 1 dX5_reckon_248 rfl (by decide) rfl ?_
            refine v_goto C 11 dX5_reckon_251 (by decide) ?_
            obtain ⟨m9, hm9, h⟩ := h
            refine v_sub [0, 2, 3] rfl ?_
            exact ih6 m9 hm9 (x3 + 1) σ32 h k33
        rcases Decidable.em (z13 = 43 ∨ z13 = 45) with c45 | c45
        · have h := h.2.2.2.1 c45
          refine v_look (off := 130) C rz13 162 dX5_reckon_32 rfl (by rcases c45 with c45 | c45 <;> rw [c45] <;> rfl) (by decide) ?_
          refine v_aload_n C 2 dX5_reckon_162 rfl rfl ?_
          refine v_callv (i := 124) (As := []) (rest := []) C (s_X5_endFactor hlo hhi h) w582 wy_X5_endFactor ⟨rfl, rfl⟩ hd_X5_endFactor ⟨Nat.le_of_ble_eq_true rfl, Nat.le_of_ble_eq_true rfl⟩ (Nat.le_trans hlo (Nat.zero_le _)) (Nat.lt_of_lt_of_le (by decide) hhi) rfl rfl rfl rfl (Nat.le_of_ble_eq_true rfl) dX5_reckon_163 (fun σ36 h => ?_)
          refine v_R (fun hRσ36 => ?_)
          refine v_aload_n C 2 dX5_reckon_166 rfl rfl ?_
          refine v_callv (i := 124) (As := []) (rest := []) C (s_X5_endProduct hlo hhi h) w628 wy_X5_endProduct ⟨rfl, rfl⟩ hd_X5_endProduct ⟨Nat.le_of_ble_eq_true rfl, Nat.le_of_ble_eq_true rfl⟩ (Nat.le_trans hlo (Nat.zero_le _)) (Nat.lt_of_lt_of_le (by decide) hhi) rfl rfl rfl rfl (Nat.le_of_ble_eq_true rfl) dX5_reckon_167 (fun σ37 h => ?_)
          refine v_R (fun hRσ37 => ?_)
          refine v_aload_n C 2 dX5_reckon_170 rfl rfl ?_
          refine gf5_minus C hlo hhi w357 dX5_reckon_171 ?_
          refine v_aload_n C 2 dX5_reckon_174 rfl rfl ?_
          refine gf5_level C hlo hhi w360 dX5_reckon_175 ?_
          refine v_iload_n C 0 dX5_reckon_178 rfl rfl ?_
          refine v_bipush C dX5_reckon_179 (by decide) ?_
          refine v_icmp_ne C rz13 (by decide) 188 dX5_reckon_181 (by decide) (fun c44 => ?_) (fun c44 => ?_)
          · have h := h.1 c44
            refine v_iconst C dX5_reckon_188 ?_
            have k38 := h.1
            have h := h.2
            refine v_zast (i := 151) (n := 6) C (Nat.le_trans hlo (Nat.zero_le _)) (Nat.lt_of_lt_of_le (by decide) hhi) (fun _ => rfl) (hRσ37 124 9) k38 (by decide) dX5_reckon_189 ?_
            refine v_nameS (fun σ39 eσ39 => ?_)
            have h := h σ39 eσ39
            refine v_R (fun hRσ39 => ?_)
            refine v_goto C 248 dX5_reckon_190 (by decide) ?_
            have k40 := h.1
            have h := h.2
            refine v_iinc (lv' := [(2, .int (iI (x3 + 1))), (3, .int (iI z13)), (0, .ref (B + 124)), (1, .ref (B + q1))]) C 1 dX5_reckon_248 rfl (by decide) rfl ?_
            refine v_goto C 11 dX5_reckon_251 (by decide) ?_
            obtain ⟨m9, hm9, h⟩ := h
            refine v_sub [0, 2, 3] rfl ?_
            exact ih6 m9 hm9 (x3 + 1) σ39 h k40
          · have h := h.2 c44
            refine v_iconst C dX5_reckon_184 ?_
            refine v_goto C 189 dX5_reckon_185 (by decide) ?_
            have k41 := h.1
            have h := h.2
            refine v_zast (i := 151) (n := 6) C (Nat.le_trans hlo (Nat.zero_le _)) (Nat.lt_of_lt_of_le (by decide) hhi) (fun _ => rfl) (hRσ37 124 9) k41 (by decide) dX5_reckon_189 ?_
            refine v_nameS (fun σ42 eσ42 => ?_)
            have h := h σ42 eσ42
            refine v_R (fun hRσ42 => ?_)
            refine v_goto C 248 dX5_reckon_190 (by decide) ?_
            have k43 := h.1
            have h := h.2
            refine v_iinc (lv' := [(2, .int (iI (x3 + 1))), (3, .int (iI z13)), (0, .ref (B + 124)), (1, .ref (B + q1))]) C 1 dX5_reckon_248 rfl (by decide) rfl ?_
            refine v_goto C 11 dX5_reckon_251 (by decide) ?_
            obtain ⟨m9, hm9, h⟩ := h
            refine v_sub [0, 2, 3] rfl ?_
            exact ih6 m9 hm9 (x3 + 1) σ42 h k43
        rcases Decidable.em (z13 = 94) with c47 | c47
        · have h := h.2.2.2.2.1 c47
          refine v_look (off := 188) C rz13 220 dX5_reckon_32 rfl (by rw [c47]; rfl) (by decide) ?_
          refine v_goto C 248 dX5_reckon_220 (by decide) ?_
          have k46 := h.1
          have h := h.2
          refine v_iinc (lv' := [(2, .int (iI (x3 + 1))), (3, .int (iI z13)), (0, .ref (B + 124)), (1, .ref (B + q1))]) C 1 dX5_reckon_248 rfl (by decide) rfl ?_
          refine v_goto C 11 dX5_reckon_251 (by decide) ?_
          obtain ⟨m9, hm9, h⟩ := h
          refine v_sub [0, 2, 3] rfl ?_
          exact ih6 m9 hm9 (x3 + 1) σ12 h k46
        have hout : ¬ z13 = 40 ∧ ¬ z13 = 41 ∧ ¬ z13 = 42 ∧ ¬ z13 = 43 ∧ ¬ z13 = 45 ∧ ¬ z13 = 47 ∧ ¬ z13 = 94 := by omega
        have h := h.2.2.2.2.2 hout
        refine v_look (off := 191) C rz13 223 dX5_reckon_32 rfl (look_out (by simp only [List.mem_cons, List.not_mem_nil, or_false, forall_eq_or_imp, forall_eq]; exact hout)) (by decide) ?_
        refine v_aload_n C 2 dX5_reckon_223 rfl rfl ?_
        refine v_iload_n C 0 dX5_reckon_224 rfl rfl ?_
        refine v_aload_n C 2 dX5_reckon_225 rfl rfl ?_
        refine gf5_text C hlo hhi w352 dX5_reckon_226 ?_
        refine v_iload_n C 1 dX5_reckon_229 rfl rfl ?_
        refine v_iconst C dX5_reckon_230 ?_
        have k48 := h.1
        have h := h.2
        refine v_isub C dX5_reckon_231 ?_
        refine v_calli (i := 30) (As := [.int (iI (x3 - 1))]) (rest := [.int (iI z13), .ref (B + 124)]) C (s_X8_at hlo hhi k48 h) w580 wy_X8_at ⟨rfl, rfl⟩ hd_X8_at ⟨Nat.le_of_ble_eq_true rfl, Nat.le_of_ble_eq_true rfl⟩ (Nat.le_trans hlo (Nat.zero_le _)) (Nat.lt_of_lt_of_le (by decide) hhi) rfl rfl rfl rfl (Nat.le_of_ble_eq_true rfl) dX5_reckon_232 (fun z50 σ49 rz50 h => ?_)
        refine v_R (fun hRσ49 => ?_)
        refine v_bipush C dX5_reckon_235 (by decide) ?_
        obtain ⟨J53, hJ53, h⟩ := h
        have kJ53 : ∀ (x51 : Int) (σ52 : SG), J53 x51 σ52 → inR x51 → V p l e rm_X5_reckon s m args below meth c D aC B lo hi 4 (MQ below (QV D aC B lo hi Q) args s 0 0 (AB B lo hi)) σ52 245 [(2, .int (iI x3)), (0, .ref (B + 124)), (1, .ref (B + q1))] [.int (iI x51), .int (iI z13), .ref (B + 124)] := by
          intro x51 σ52 hj rx51
          have h := hJ53 x51 σ52 hj
          refine v_R (fun hRσ52 => ?_)
          refine v_callv (i := 124) (As := [.int (iI z13), .int (iI x51)]) (rest := []) C (s_X5_takeSimpleOrExponent hlo hhi rz13 rx51 h) w639 wy_X5_takeSimpleOrExponent ⟨rfl, rfl⟩ hd_X5_takeSimpleOrExponent ⟨Nat.le_of_ble_eq_true rfl, Nat.le_of_ble_eq_true rfl⟩ (Nat.le_trans hlo (Nat.zero_le _)) (Nat.lt_of_lt_of_le (by decide) hhi) rfl rfl rfl rfl (Nat.le_of_ble_eq_true rfl) dX5_reckon_245 (fun σ54 h => ?_)
          refine v_R (fun hRσ54 => ?_)
          have k55 := h.1
          have h := h.2
          refine v_iinc (lv' := [(2, .int (iI (x3 + 1))), (0, .ref (B + 124)), (1, .ref (B + q1))]) C 0 dX5_reckon_248 rfl (by decide) rfl ?_
          refine v_goto C 11 dX5_reckon_251 (by decide) ?_
          obtain ⟨m9, hm9, h⟩ := h
          exact ih6 m9 hm9 (x3 + 1) σ54 h k55
        refine v_icmp_ne C rz50 (by decide) 244 dX5_reckon_237 (by decide) (fun c56 => ?_) (fun c56 => ?_)
        · have h := h.1 c56
          refine v_iconst C dX5_reckon_244 ?_
          refine v_sub [1, 2, 3] rfl ?_
          exact kJ53 0 σ49 h (by decide)
        · have h := h.2 c56
          refine v_iconst C dX5_reckon_240 ?_
          refine v_goto C 245 dX5_reckon_241 (by decide) ?_
          refine v_sub [1, 2, 3] rfl ?_
          exact kJ53 1 σ49 h (by decide)
  exact key7 n59 2 σ2 hnn59 (by decide)
