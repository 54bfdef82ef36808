-- SplitTowers$History.record(LSplitTowers$State;)V
def wp_X3_record (σ : SG) (q1 : Nat) (Q : SG → Prop) : Prop :=
  ((0 ≤ (σ 184 1) ∧ (σ 184 1) < 4) ∧ wp_X7_copy σ (185 + 1 + 29 * (σ 184 1).toNat) q1 (fun (σ2 : SG) => Jn1 (fun (x3 : Int) (σ4 : SG) => (∀ σ6 : SG, σ6 = ug σ4 184 1 x3 → (inR ((σ6 184 2) + 1) ∧ (∀ σ8 : SG, σ8 = ug σ6 184 2 (imin ((σ6 184 2) + 1) 4) → Q σ8)))) (fun J5 => ((¬ (σ2 184 1) = 3 → (inR ((σ2 184 1) + 1) ∧ J5 ((σ2 184 1) + 1) σ2)) ∧ ((σ2 184 1) = 3 → J5 0 σ2)))))
def rm_X3_record : Room := { frames := 2, cells := 0, slots := 0, locals := 44 }
theorem wy_X3_record : Cond.instanceMethod yX3_record ∈ WS ∧ Cond.selects "SplitTowers$History" yX3_record yX3_record ∈ WS ∧ Cond.initialized "SplitTowers$History" ∈ WS ∧ Cond.code yX3_record prog_5_method_2_code 2 none ∈ WS := ⟨w447, w448, w78, w449⟩
theorem hd_X3_record : yX3_record.cls = "SplitTowers$History" ∧ yX3_record.cls ≠ "java/lang/invoke/MethodHandle" ∧ yX3_record.cls ≠ "java/lang/invoke/VarHandle" ∧ (parseMethodDescriptor yX3_record.desc).map (fun d => d.parameters.length) = some 1 := by decide +kernel
set_option maxHeartbeats 4000000 in
set_option maxRecDepth 100000 in
theorem s_X3_record {l : Launch} {D : va_G} {aC : Nat → ClassId} {B lo hi : Nat} {σ : SG} {q1 : Nat} {Q : SG → Prop} (hlo : lo ≤ 0) (hhi : 304 ≤ hi) (p1 : SO lo hi q1) (h : wp_X3_record σ q1 Q) : Met l yX3_record (Cond.code yX3_record prog_5_method_2_code 2 none :: WS) rm_X3_record (va_Pc [.ref (B + 184), .ref (B + q1)] (WP D aC B lo hi σ)) (QV D aC B lo hi Q) 0 0 (AB B lo hi) := by
  refine met_of (by decide +kernel) (by decide +kernel : yX3_record.cls = "SplitTowers$History") (Nat.le_of_ble_eq_true rfl) ?_
  intro p e s m args below meth c C
  unfold wp_X3_record at h
  refine v_R (fun hR0 => ?_)
  show V p l e rm_X3_record s m args below meth c D aC B lo hi 2 (MQ below (QV D aC B lo hi Q) args s 0 0 (AB B lo hi)) σ 0 [(0, .ref (B + 184)), (1, .ref (B + q1))] []
  refine v_aload_n C 0 dX3_record_0 rfl rfl ?_
  refine gf3_states C hlo hhi w392 dX3_record_1 ?_
  refine v_aload_n C 0 dX3_record_4 rfl rfl ?_
  refine gf3_next C hlo hhi w393 dX3_record_5 ?_
  have k1 := h.1
  have h := h.2
  refine v_aald (i := 185) (n := 4) (g := fun j => 185 + 1 + 29 * j) C 4 rfl (Nat.le_trans hlo (Nat.zero_le _)) (Nat.lt_of_lt_of_le (by decide) hhi) rfl (hR0 184 1) k1 dX3_record_8 ?_
  refine v_aload_n C 1 dX3_record_9 rfl rfl ?_
  refine v_callv (i := 185 + 1 + 29 * (σ 184 1).toNat) (As := [.ref (B + q1)]) (rest := []) C (s_X7_copy (SO_full hlo hhi (pa185 _ (toNat_lt k1))) p1 h) w450 wy_X7_copy ⟨rfl, rfl⟩ hd_X7_copy ⟨Nat.le_of_ble_eq_true rfl, Nat.le_of_ble_eq_true rfl⟩ (SO.lo (SO_full hlo hhi (pa185 _ (toNat_lt k1)))) (SO.hi (SO_full hlo hhi (pa185 _ (toNat_lt k1)))) (cel_of ((SO_full hlo hhi (pa185 _ (toNat_lt k1)))).1) rfl rfl rfl (Nat.le_of_ble_eq_true rfl) dX3_record_10 (fun σ2 h => ?_)
  refine v_R (fun hRσ2 => ?_)
  refine v_aload_n C 0 dX3_record_13 rfl rfl ?_
  refine v_aload_n C 0 dX3_record_14 rfl rfl ?_
  refine gf3_next C hlo hhi w393 dX3_record_15 ?_
  refine v_iconst C dX3_record_18 ?_
  obtain ⟨J5, hJ5, h⟩ := h
  have kJ5 : ∀ (x3 : Int) (σ4 : SG), J5 x3 σ4 → inR x3 → V p l e rm_X3_record s m args below meth c D aC B lo hi 2 (MQ below (QV D aC B lo hi Q) args s 0 0 (AB B lo hi)) σ4 32 [(0, .ref (B + 184))] [.int (iI x3), .ref (B + 184)] := by
    intro x3 σ4 hj rx3
    have h := hJ5 x3 σ4 hj
    refine v_R (fun hRσ4 => ?_)
    refine pf3_next C hlo hhi rx3 w393 dX3_record_32 ?_
    refine v_nameS (fun σ6 eσ6 => ?_)
    have h := h σ6 eσ6
    refine v_R (fun hRσ6 => ?_)
    refine v_aload_n C 0 dX3_record_35 rfl rfl ?_
    refine v_aload_n C 0 dX3_record_36 rfl rfl ?_
    refine gf3_length C hlo hhi w394 dX3_record_37 ?_
    refine v_iconst C dX3_record_40 ?_
    have k7 := h.1
    have h := h.2
    refine v_iadd C dX3_record_41 ?_
    refine v_iconst C dX3_record_42 ?_
    refine v_min C k7 (by decide) w454 wy_min (Nat.le_of_ble_eq_true rfl) (Nat.le_of_ble_eq_true rfl) dX3_record_43 ?_
    refine pf3_length C hlo hhi (inR_imin k7 (by decide)) w394 dX3_record_46 ?_
    refine v_nameS (fun σ8 eσ8 => ?_)
    have h := h σ8 eσ8
    refine v_R (fun hRσ8 => ?_)
    exact v_vret C h dX3_record_49
  refine v_icmp_ne C (hRσ2 184 1) (by decide) 26 dX3_record_19 (by decide) (fun c10 => ?_) (fun c10 => ?_)
  · have h := h.1 c10
    refine v_aload_n C 0 dX3_record_26 rfl rfl ?_
    refine gf3_next C hlo hhi w393 dX3_record_27 ?_
    refine v_iconst C dX3_record_30 ?_
    have k9 := h.1
    have h := h.2
    refine v_iadd C dX3_record_31 ?_
    refine v_sub [0] rfl ?_
    exact kJ5 ((σ2 184 1) + 1) σ2 h k9
  · have h := h.2 c10
    refine v_iconst C dX3_record_22 ?_
    refine v_goto C 32 dX3_record_23 (by decide) ?_
    refine v_sub [0] rfl ?_
    exact kJ5 0 σ2 h (by decide)
-- SplitTowers$History.takeBack(LSplitTowers$State;)V
def wp_X3_takeBack (σ : SG) (q1 : Nat) (Q : SG → Prop) : Prop :=
  (((σ 184 2) ≤ 0 → Q σ) ∧ (¬ (σ 184 2) ≤ 0 → Jn1 (fun (x1 : Int) (σ2 : SG) => (∀ σ4 : SG, σ4 = ug σ2 184 1 x1 → ((0 ≤ (σ4 184 1) ∧ (σ4 184 1) < 4) ∧ wp_X7_copy σ4 q1 (185 + 1 + 29 * (σ4 184 1).toNat) (fun (σ6 : SG) => (inR ((σ6 184 2) - 1) ∧ (∀ σ8 : SG, σ8 = ug σ6 184 2 ((σ6 184 2) - 1) → Q σ8)))))) (fun J3 => ((¬ (σ 184 1) = 0 → (inR ((σ 184 1) - 1) ∧ J3 ((σ 184 1) - 1) σ)) ∧ ((σ 184 1) = 0 → J3 3 σ)))))
def rm_X3_takeBack : Room := { frames := 2, cells := 0, slots := 0, locals := 44 }
theorem wy_X3_takeBack : Cond.instanceMethod yX3_takeBack ∈ WS ∧ Cond.selects "SplitTowers$History" yX3_takeBack yX3_takeBack ∈ WS ∧ Cond.initialized "SplitTowers$History" ∈ WS ∧ Cond.code yX3_takeBack prog_5_method_3_code 2 none ∈ WS := ⟨w749, w750, w78, w751⟩
theorem hd_X3_takeBack : yX3_takeBack.cls = "SplitTowers$History" ∧ yX3_takeBack.cls ≠ "java/lang/invoke/MethodHandle" ∧ yX3_takeBack.cls ≠ "java/lang/invoke/VarHandle" ∧ (parseMethodDescriptor yX3_takeBack.desc).map (fun d => d.parameters.length) = some 1 := by decide +kernel
set_option maxHeartbeats 4000000 in
set_option maxRecDepth 100000 in
theorem s_X3_takeBack {l : Launch} {D : va_G} {aC : Nat → ClassId} {B lo hi : Nat} {σ : SG} {q1 : Nat} {Q : SG → Prop} (hlo : lo ≤ 0) (hhi : 304 ≤ hi) (p1 : SO lo hi q1) (h : wp_X3_takeBack σ q1 Q) : Met l yX3_takeBack (Cond.code yX3_takeBack prog_5_method_3_code 2 none :: WS) rm_X3_takeBack (va_Pc [.ref (B + 184), .ref (B + q1)] (WP D aC B lo hi σ)) (QV D aC B lo hi Q) 0 0 (AB B lo hi) := by
  refine met_of (by decide +kernel) (by decide +kernel : yX3_takeBack.cls = "SplitTowers$History") (Nat.le_of_ble_eq_true rfl) ?_
  intro p e s m args below meth c C
  unfold wp_X3_takeBack at h
  refine v_R (fun hR0 => ?_)
  show V p l e rm_X3_takeBack s m args below meth c D aC B lo hi 2 (MQ below (QV D aC B lo hi Q) args s 0 0 (AB B lo hi)) σ 0 [(0, .ref (B + 184)), (1, .ref (B + q1))] []
  refine v_aload_n C 0 dX3_takeBack_0 rfl rfl ?_
  refine gf3_length C hlo hhi w394 dX3_takeBack_1 ?_
  refine v_if_le C (hR0 184 2) 51 dX3_takeBack_4 (by decide) (fun c11 => ?_) (fun c11 => ?_)
  · have h := h.1 c11
    exact v_vret C h dX3_takeBack_51
  · have h := h.2 c11
    refine v_aload_n C 0 dX3_takeBack_7 rfl rfl ?_
    refine v_aload_n C 0 dX3_takeBack_8 rfl rfl ?_
    refine gf3_next C hlo hhi w393 dX3_takeBack_9 ?_
    obtain ⟨J3, hJ3, h⟩ := h
    have kJ3 : ∀ (x1 : Int) (σ2 : SG), J3 x1 σ2 → inR x1 → V p l e rm_X3_takeBack s m args below meth c D aC B lo hi 2 (MQ below (QV D aC B lo hi Q) args s 0 0 (AB B lo hi)) σ2 25 [(0, .ref (B + 184)), (1, .ref (B + q1))] [.int (iI x1), .ref (B + 184)] := by
      intro x1 σ2 hj rx1
      have h := hJ3 x1 σ2 hj
      refine v_R (fun hRσ2 => ?_)
      refine pf3_next C hlo hhi rx1 w393 dX3_takeBack_25 ?_
      refine v_nameS (fun σ4 eσ4 => ?_)
      have h := h σ4 eσ4
      refine v_R (fun hRσ4 => ?_)
      refine v_aload_n C 1 dX3_takeBack_28 rfl rfl ?_
      refine v_aload_n C 0 dX3_takeBack_29 rfl rfl ?_
      refine gf3_states C hlo hhi w392 dX3_takeBack_30 ?_
      refine v_aload_n C 0 dX3_takeBack_33 rfl rfl ?_
      refine gf3_next C hlo hhi w393 dX3_takeBack_34 ?_
      have k5 := h.1
      have h := h.2
      refine v_aald (i := 185) (n := 4) (g := fun j => 185 + 1 + 29 * j) C 4 rfl (Nat.le_trans hlo (Nat.zero_le _)) (Nat.lt_of_lt_of_le (by decide) hhi) rfl (hRσ4 184 1) k5 dX3_takeBack_37 ?_
      refine v_callv (i := q1) (As := [.ref (B + (185 + 1 + 29 * (σ4 184 1).toNat))]) (rest := []) C (s_X7_copy p1 (SO_full hlo hhi (pa185 _ (toNat_lt k5))) h) w450 wy_X7_copy ⟨rfl, rfl⟩ hd_X7_copy ⟨Nat.le_of_ble_eq_true rfl, Nat.le_of_ble_eq_true rfl⟩ (SO.lo p1) (SO.hi p1) (cel_of (p1).1) rfl rfl rfl (Nat.le_of_ble_eq_true rfl) dX3_takeBack_38 (fun σ6 h => ?_)
      refine v_R (fun hRσ6 => ?_)
      refine v_aload_n C 0 dX3_takeBack_41 rfl rfl ?_
      refine v_dup C rfl dX3_takeBack_42 ?_
      refine gf3_length C hlo hhi w394 dX3_takeBack_43 ?_
      refine v_iconst C dX3_takeBack_46 ?_
      have k7 := h.1
      have h := h.2
      refine v_isub C dX3_takeBack_47 ?_
      refine pf3_length C hlo hhi k7 w394 dX3_takeBack_48 ?_
      refine v_nameS (fun σ8 eσ8 => ?_)
      have h := h σ8 eσ8
      refine v_R (fun hRσ8 => ?_)
      exact v_vret C h dX3_takeBack_51
    refine v_if_ne C (hR0 184 1) 19 dX3_takeBack_12 (by decide) (fun c10 => ?_) (fun c10 => ?_)
    · have h := h.1 c10
      refine v_aload_n C 0 dX3_takeBack_19 rfl rfl ?_
      refine gf3_next C hlo hhi w393 dX3_takeBack_20 ?_
      refine v_iconst C dX3_takeBack_23 ?_
      have k9 := h.1
      have h := h.2
      refine v_isub C dX3_takeBack_24 ?_
      exact kJ3 ((σ 184 1) - 1) σ h k9
    · have h := h.2 c10
      refine v_iconst C dX3_takeBack_15 ?_
      refine v_goto C 25 dX3_takeBack_16 (by decide) ?_
      exact kJ3 3 σ h (by decide)
