-- SplitTowersModel.isBefore(II)Z
def wp_X10_isBefore (σ : SG) (a1 : Int) (a2 : Int) (Q : Int → SG → Prop) : Prop :=
  Lp1 (fun (rec3 : Int → SG → Prop) (x1 : Int) (σ2 : SG) => ((x1 < 0 → Q 0 σ2) ∧ (¬ x1 < 0 → (inR (7 * a1) ∧ (inR (45 + (7 * a1)) ∧ (inR ((45 + (7 * a1)) + x1) ∧ ((0 ≤ (45 + (7 * a1)) + x1 ∧ (45 + (7 * a1)) + x1 < 87) ∧ (∀ v10 : Int, v10 = (σ2 305 ((45 + (7 * a1)) + x1).toNat) → (inR (7 * a2) ∧ (inR (45 + (7 * a2)) ∧ (inR ((45 + (7 * a2)) + x1) ∧ ((0 ≤ (45 + (7 * a2)) + x1 ∧ (45 + (7 * a2)) + x1 < 87) ∧ (∀ v15 : Int, v15 = (σ2 305 ((45 + (7 * a2)) + x1).toNat) → ((v10 = v15 → (inR (x1 + (-1)) ∧ rec3 (x1 + (-1)) σ2)) ∧ (¬ v10 = v15 → ((v15 ≤ v10 → Q 0 σ2) ∧ (¬ v15 ≤ v10 → Q 1 σ2))))))))))))))))) 6 σ
def rm_X10_isBefore : Room := { frames := 0, cells := 0, slots := 0, locals := 0 }
theorem wy_X10_isBefore : Cond.instanceMethod yX10_isBefore ∈ WS ∧ Cond.selects "SplitTowersModel" yX10_isBefore yX10_isBefore ∈ WS ∧ Cond.initialized "SplitTowersModel" ∈ WS ∧ Cond.code yX10_isBefore prog_12_method_25_code 6 (some .boolean) ∈ WS := ⟨w1084, w47, w79, w1085⟩
theorem hd_X10_isBefore : yX10_isBefore.cls = "SplitTowersModel" ∧ yX10_isBefore.cls ≠ "java/lang/invoke/MethodHandle" ∧ yX10_isBefore.cls ≠ "java/lang/invoke/VarHandle" ∧ (parseMethodDescriptor yX10_isBefore.desc).map (fun d => d.parameters.length) = some 2 := by decide +kernel
set_option maxHeartbeats 4000000 in
set_option maxRecDepth 100000 in
theorem s_X10_isBefore {l : Launch} {D : va_G} {aC : Nat → ClassId} {B lo hi : Nat} {σ : SG} {a1 : Int} {a2 : Int} {Q : Int → SG → Prop} (hlo : lo ≤ 304) (hhi : 316 ≤ hi) (r1 : inR a1) (r2 : inR a2) (h : wp_X10_isBefore σ a1 a2 Q) : Met l yX10_isBefore (Cond.code yX10_isBefore prog_12_method_25_code 6 (some .boolean) :: WS) rm_X10_isBefore (va_Pc [.ref (B + 304), .int (iI a1), .int (iI a2)] (WP D aC B lo hi σ)) (QI D aC B lo hi Q) 0 0 (AB B lo hi) := by
  refine met_of (by decide +kernel) (by decide +kernel : yX10_isBefore.cls = "SplitTowersModel") (Nat.le_of_ble_eq_true rfl) ?_
  intro p e s m args below meth c C
  unfold wp_X10_isBefore at h
  refine v_R (fun hR0 => ?_)
  show V p l e rm_X10_isBefore s m args below meth c D aC B lo hi 6 (MQ below (QI D aC B lo hi Q) args s 0 0 (AB B lo hi)) σ 0 [(0, .ref (B + 304)), (1, .int (iI a1)), (2, .int (iI a2))] []
  refine v_bipush C dX10_isBefore_0 (by decide) ?_
  refine v_istore_n (lv' := [(3, .int (iI 6)), (0, .ref (B + 304)), (1, .int (iI a1)), (2, .int (iI a2))]) C dX10_isBefore_2 rfl (by decide) rfl ?_
  obtain ⟨I20, ⟨n21, hnn21⟩, hII20⟩ := h
  have key5 : ∀ (n : Nat) (x1 : Int) (σ2 : SG), I20 n x1 σ2 → inR x1 → V p l e rm_X10_isBefore s m args below meth c D aC B lo hi 6 (MQ below (QI D aC B lo hi Q) args s 0 0 (AB B lo hi)) σ2 3 [(3, .int (iI x1)), (0, .ref (B + 304)), (1, .int (iI a1)), (2, .int (iI a2))] [] := by
    intro n
    induction n using Nat.strongRecOn with
    | ind n ih4 =>
      intro x1 σ2 hn rx1
      have h := hII20 n x1 σ2 hn
      refine v_R (fun hRσ2 => ?_)
      refine v_iload_n C 0 dX10_isBefore_3 rfl rfl ?_
      refine v_if_lt C rx1 65 dX10_isBefore_4 (by decide) (fun c19 => ?_) (fun c19 => ?_)
      · have h := h.1 c19
        refine v_iconst C dX10_isBefore_65 ?_
        exact v_zret C (by decide) h dX10_isBefore_66
      · have h := h.2 c19
        refine v_aload_n C 1 dX10_isBefore_7 rfl rfl ?_
        refine gf10_now C hlo hhi w877 dX10_isBefore_8 ?_
        refine v_bipush C dX10_isBefore_11 (by decide) ?_
        refine v_bipush C dX10_isBefore_13 (by decide) ?_
        refine v_iload_n C 2 dX10_isBefore_15 rfl rfl ?_
        have k6 := h.1
        have h := h.2
        refine v_imul C dX10_isBefore_16 ?_
        have k7 := h.1
        have h := h.2
        refine v_iadd C dX10_isBefore_17 ?_
        refine v_iload_n C 0 dX10_isBefore_18 rfl rfl ?_
        have k8 := h.1
        have h := h.2
        refine v_iadd C dX10_isBefore_19 ?_
        have k9 := h.1
        have h := h.2
        refine v_iald (i := 305) (n := 87) C (Nat.le_trans hlo (by decide)) (Nat.lt_of_lt_of_le (by decide) hhi) rfl k8 k9 dX10_isBefore_20 ?_
        refine v_name (fun v10 ev10 => ?_)
        have h := h v10 ev10
        have rv10 : inR v10 := by rw [ev10]; exact (hRσ2 305 _)
        refine v_istore (lv' := [(4, .int (iI v10)), (3, .int (iI x1)), (0, .ref (B + 304)), (1, .int (iI a1)), (2, .int (iI a2))]) C dX10_isBefore_21 (by decide) rfl ?_
        refine v_aload_n C 2 dX10_isBefore_23 rfl rfl ?_
        refine gf10_now C hlo hhi w877 dX10_isBefore_24 ?_
        refine v_bipush C dX10_isBefore_27 (by decide) ?_
        refine v_bipush C dX10_isBefore_29 (by decide) ?_
        refine v_iload_n C 4 dX10_isBefore_31 rfl rfl ?_
        have k11 := h.1
        have h := h.2
        refine v_imul C dX10_isBefore_32 ?_
        have k12 := h.1
        have h := h.2
        refine v_iadd C dX10_isBefore_33 ?_
        refine v_iload_n C 1 dX10_isBefore_34 rfl rfl ?_
        have k13 := h.1
        have h := h.2
        refine v_iadd C dX10_isBefore_35 ?_
        have k14 := h.1
        have h := h.2
        refine v_iald (i := 305) (n := 87) C (Nat.le_trans hlo (by decide)) (Nat.lt_of_lt_of_le (by decide) hhi) rfl k13 k14 dX10_isBefore_36 ?_
        refine v_name (fun v15 ev15 => ?_)
        have h := h v15 ev15
        have rv15 : inR v15 := by rw [ev15]; exact (hRσ2 305 _)
        refine v_istore (lv' := [(5, .int (iI v15)), (4, .int (iI v10)), (3, .int (iI x1)), (0, .ref (B + 304)), (1, .int (iI a1)), (2, .int (iI a2))]) C dX10_isBefore_37 (by decide) rfl ?_
        refine v_iload C 1 dX10_isBefore_39 rfl ?_
        refine v_iload C 0 dX10_isBefore_41 rfl ?_
        refine v_icmp_eq C rv10 rv15 59 dX10_isBefore_43 (by decide) (fun c18 => ?_) (fun c18 => ?_)
        · have h := h.1 c18
          have k16 := h.1
          have h := h.2
          refine v_iinc (lv' := [(3, .int (iI (x1 + (-1)))), (5, .int (iI v15)), (4, .int (iI v10)), (0, .ref (B + 304)), (1, .int (iI a1)), (2, .int (iI a2))]) C 2 dX10_isBefore_59 rfl (by decide) rfl ?_
          refine v_goto C 3 dX10_isBefore_62 (by decide) ?_
          obtain ⟨m9, hm9, h⟩ := h
          refine v_sub [0, 3, 4, 5] rfl ?_
          exact ih4 m9 hm9 (x1 + (-1)) σ2 h k16
        · have h := h.2 c18
          refine v_iload C 1 dX10_isBefore_46 rfl ?_
          refine v_iload C 0 dX10_isBefore_48 rfl ?_
          refine v_icmp_ge C rv10 rv15 57 dX10_isBefore_50 (by decide) (fun c17 => ?_) (fun c17 => ?_)
          · have h := h.1 c17
            refine v_iconst C dX10_isBefore_57 ?_
            exact v_zret C (by decide) h dX10_isBefore_58
          · have h := h.2 c17
            refine v_iconst C dX10_isBefore_53 ?_
            refine v_goto C 58 dX10_isBefore_54 (by decide) ?_
            exact v_zret C (by decide) h dX10_isBefore_58
  exact key5 n21 6 σ hnn21 (by decide)
-- SplitTowersModel.swaps(II)V
def wp_X10_swaps (σ : SG) (a1 : Int) (a2 : Int) (Q : SG → Prop) : Prop :=
  Lp1 (fun (rec3 : Int → SG → Prop) (x1 : Int) (σ2 : SG) => ((7 ≤ x1 → Q σ2) ∧ (¬ 7 ≤ x1 → (inR (7 * a1) ∧ (inR (45 + (7 * a1)) ∧ (inR ((45 + (7 * a1)) + x1) ∧ ((0 ≤ (45 + (7 * a1)) + x1 ∧ (45 + (7 * a1)) + x1 < 87) ∧ (∀ v10 : Int, v10 = (σ2 305 ((45 + (7 * a1)) + x1).toNat) → (inR (7 * a1) ∧ (inR (45 + (7 * a1)) ∧ (inR ((45 + (7 * a1)) + x1) ∧ (inR (7 * a2) ∧ (inR (45 + (7 * a2)) ∧ (inR ((45 + (7 * a2)) + x1) ∧ ((0 ≤ (45 + (7 * a2)) + x1 ∧ (45 + (7 * a2)) + x1 < 87) ∧ ((0 ≤ (45 + (7 * a1)) + x1 ∧ (45 + (7 * a1)) + x1 < 87) ∧ (∀ σ19 : SG, σ19 = ug σ2 305 (((45 + (7 * a1)) + x1).toNat) (σ2 305 ((45 + (7 * a2)) + x1).toNat) → (inR (7 * a2) ∧ (inR (45 + (7 * a2)) ∧ (inR ((45 + (7 * a2)) + x1) ∧ ((0 ≤ (45 + (7 * a2)) + x1 ∧ (45 + (7 * a2)) + x1 < 87) ∧ (∀ σ24 : SG, σ24 = ug σ19 305 (((45 + (7 * a2)) + x1).toNat) v10 → (inR (x1 + 1) ∧ rec3 (x1 + 1) σ24))))))))))))))))))))))) 0 σ
def rm_X10_swaps : Room := { frames := 0, cells := 0, slots := 0, locals := 0 }
theorem wy_X10_swaps : Cond.instanceMethod yX10_swaps ∈ WS ∧ Cond.selects "SplitTowersModel" yX10_swaps yX10_swaps ∈ WS ∧ Cond.initialized "SplitTowersModel" ∈ WS ∧ Cond.code yX10_swaps prog_12_method_26_code 5 none ∈ WS := ⟨w1088, w48, w79, w1089⟩
theorem hd_X10_swaps : yX10_swaps.cls = "SplitTowersModel" ∧ yX10_swaps.cls ≠ "java/lang/invoke/MethodHandle" ∧ yX10_swaps.cls ≠ "java/lang/invoke/VarHandle" ∧ (parseMethodDescriptor yX10_swaps.desc).map (fun d => d.parameters.length) = some 2 := by decide +kernel
set_option maxHeartbeats 4000000 in
set_option maxRecDepth 100000 in
theorem s_X10_swaps {l : Launch} {D : va_G} {aC : Nat → ClassId} {B lo hi : Nat} {σ : SG} {a1 : Int} {a2 : Int} {Q : SG → Prop} (hlo : lo ≤ 304) (hhi : 316 ≤ hi) (r1 : inR a1) (r2 : inR a2) (h : wp_X10_swaps σ a1 a2 Q) : Met l yX10_swaps (Cond.code yX10_swaps prog_12_method_26_code 5 none :: WS) rm_X10_swaps (va_Pc [.ref (B + 304), .int (iI a1), .int (iI a2)] (WP D aC B lo hi σ)) (QV D aC B lo hi Q) 0 0 (AB B lo hi) := by
  refine met_of (by decide +kernel) (by decide +kernel : yX10_swaps.cls = "SplitTowersModel") (Nat.le_of_ble_eq_true rfl) ?_
  intro p e s m args below meth c C
  unfold wp_X10_swaps at h
  refine v_R (fun hR0 => ?_)
  show V p l e rm_X10_swaps s m args below meth c D aC B lo hi 5 (MQ below (QV D aC B lo hi Q) args s 0 0 (AB B lo hi)) σ 0 [(0, .ref (B + 304)), (1, .int (iI a1)), (2, .int (iI a2))] []
  refine v_iconst C dX10_swaps_0 ?_
  refine v_istore_n (lv' := [(3, .int (iI 0)), (0, .ref (B + 304)), (1, .int (iI a1)), (2, .int (iI a2))]) C dX10_swaps_1 rfl (by decide) rfl ?_
  obtain ⟨I27, ⟨n28, hnn28⟩, hII27⟩ := h
  have key5 : ∀ (n : Nat) (x1 : Int) (σ2 : SG), I27 n x1 σ2 → inR x1 → V p l e rm_X10_swaps s m args below meth c D aC B lo hi 5 (MQ below (QV D aC B lo hi Q) args s 0 0 (AB B lo hi)) σ2 2 [(3, .int (iI x1)), (0, .ref (B + 304)), (1, .int (iI a1)), (2, .int (iI a2))] [] := by
    intro n
    induction n using Nat.strongRecOn with
    | ind n ih4 =>
      intro x1 σ2 hn rx1
      have h := hII27 n x1 σ2 hn
      refine v_R (fun hRσ2 => ?_)
      refine v_iload_n C 0 dX10_swaps_2 rfl rfl ?_
      refine v_bipush C dX10_swaps_3 (by decide) ?_
      refine v_icmp_ge C rx1 (by decide) 74 dX10_swaps_5 (by decide) (fun c26 => ?_) (fun c26 => ?_)
      · have h := h.1 c26
        exact v_vret C h dX10_swaps_74
      · have h := h.2 c26
        refine v_aload_n C 1 dX10_swaps_8 rfl rfl ?_
        refine gf10_now C hlo hhi w877 dX10_swaps_9 ?_
        refine v_bipush C dX10_swaps_12 (by decide) ?_
        refine v_bipush C dX10_swaps_14 (by decide) ?_
        refine v_iload_n C 2 dX10_swaps_16 rfl rfl ?_
        have k6 := h.1
        have h := h.2
        refine v_imul C dX10_swaps_17 ?_
        have k7 := h.1
        have h := h.2
        refine v_iadd C dX10_swaps_18 ?_
        refine v_iload_n C 0 dX10_swaps_19 rfl rfl ?_
        have k8 := h.1
        have h := h.2
        refine v_iadd C dX10_swaps_20 ?_
        have k9 := h.1
        have h := h.2
        refine v_iald (i := 305) (n := 87) C (Nat.le_trans hlo (by decide)) (Nat.lt_of_lt_of_le (by decide) hhi) rfl k8 k9 dX10_swaps_21 ?_
        refine v_name (fun v10 ev10 => ?_)
        have h := h v10 ev10
        have rv10 : inR v10 := by rw [ev10]; exact (hRσ2 305 _)
        refine v_istore (lv' := [(4, .int (iI v10)), (3, .int (iI x1)), (0, .ref (B + 304)), (1, .int (iI a1)), (2, .int (iI a2))]) C dX10_swaps_22 (by decide) rfl ?_
        refine v_aload_n C 2 dX10_swaps_24 rfl rfl ?_
        refine gf10_now C hlo hhi w877 dX10_swaps_25 ?_
        refine v_bipush C dX10_swaps_28 (by decide) ?_
        refine v_bipush C dX10_swaps_30 (by decide) ?_
        refine v_iload_n C 3 dX10_swaps_32 rfl rfl ?_
        have k11 := h.1
        have h := h.2
        refine v_imul C dX10_swaps_33 ?_
        have k12 := h.1
        have h := h.2
        refine v_iadd C dX10_swaps_34 ?_
        refine v_iload_n C 1 dX10_swaps_35 rfl rfl ?_
        have k13 := h.1
        have h := h.2
        refine v_iadd C dX10_swaps_36 ?_
        refine v_aload_n C 2 dX10_swaps_37 rfl rfl ?_
        refine gf10_now C hlo hhi w877 dX10_swaps_38 ?_
        refine v_bipush C dX10_swaps_41 (by decide) ?_
        refine v_bipush C dX10_swaps_43 (by decide) ?_
        refine v_iload_n C 4 dX10_swaps_45 rfl rfl ?_
        have k14 := h.1
        have h := h.2
        refine v_imul C dX10_swaps_46 ?_
        have k15 := h.1
        have h := h.2
        refine v_iadd C dX10_swaps_47 ?_
        refine v_iload_n C 1 dX10_swaps_48 rfl rfl ?_
        have k16 := h.1
        have h := h.2
        refine v_iadd C dX10_swaps_49 ?_
        have k17 := h.1
        have h := h.2
        refine v_iald (i := 305) (n := 87) C (Nat.le_trans hlo (by decide)) (Nat.lt_of_lt_of_le (by decide) hhi) rfl k16 k17 dX10_swaps_50 ?_
        have k18 := h.1
        have h := h.2
        refine v_iast (i := 305) (n := 87) C (Nat.le_trans hlo (by decide)) (Nat.lt_of_lt_of_le (by decide) hhi) (fun _ => rfl) k13 k18 (hRσ2 305 _) dX10_swaps_51 ?_
        refine v_nameS (fun σ19 eσ19 => ?_)
        have h := h σ19 eσ19
        refine v_R (fun hRσ19 => ?_)
        refine v_aload_n C 2 dX10_swaps_52 rfl rfl ?_
        refine gf10_now C hlo hhi w877 dX10_swaps_53 ?_
        refine v_bipush C dX10_swaps_56 (by decide) ?_
        refine v_bipush C dX10_swaps_58 (by decide) ?_
        refine v_iload_n C 4 dX10_swaps_60 rfl rfl ?_
        have k20 := h.1
        have h := h.2
        refine v_imul C dX10_swaps_61 ?_
        have k21 := h.1
        have h := h.2
        refine v_iadd C dX10_swaps_62 ?_
        refine v_iload_n C 1 dX10_swaps_63 rfl rfl ?_
        have k22 := h.1
        have h := h.2
        refine v_iadd C dX10_swaps_64 ?_
        refine v_iload C 0 dX10_swaps_65 rfl ?_
        have k23 := h.1
        have h := h.2
        refine v_iast (i := 305) (n := 87) C (Nat.le_trans hlo (by decide)) (Nat.lt_of_lt_of_le (by decide) hhi) (fun _ => rfl) k22 k23 rv10 dX10_swaps_67 ?_
        refine v_nameS (fun σ24 eσ24 => ?_)
        have h := h σ24 eσ24
        refine v_R (fun hRσ24 => ?_)
        have k25 := h.1
        have h := h.2
        refine v_iinc (lv' := [(3, .int (iI (x1 + 1))), (4, .int (iI v10)), (0, .ref (B + 304)), (1, .int (iI a1)), (2, .int (iI a2))]) C 1 dX10_swaps_68 rfl (by decide) rfl ?_
        refine v_goto C 2 dX10_swaps_71 (by decide) ?_
        obtain ⟨m9, hm9, h⟩ := h
        refine v_sub [0, 2, 3, 4] rfl ?_
        exact ih4 m9 hm9 (x1 + 1) σ24 h k25
  exact key5 n28 0 σ hnn28 (by decide)
-- SplitTowersModel.sorts()V
def wp_X10_sorts (σ : SG)  (Q : SG → Prop) : Prop :=
  Lp1 (fun (rec3 : Int → SG → Prop) (x1 : Int) (σ2 : SG) => (((σ2 305 44) ≤ x1 → Q σ2) ∧ (¬ (σ2 305 44) ≤ x1 → Lp1 (fun (rec8 : Int → SG → Prop) (x6 : Int) (σ7 : SG) => ((x6 ≤ 0 → (inR (x1 + 1) ∧ rec3 (x1 + 1) σ7)) ∧ (¬ x6 ≤ 0 → (inR (x6 - 1) ∧ wp_X10_isBefore σ7 x6 (x6 - 1) (fun (z14 : Int) (σ13 : SG) => ((z14 = 0 → (inR (x1 + 1) ∧ rec3 (x1 + 1) σ13)) ∧ (¬ z14 = 0 → (inR (x6 - 1) ∧ wp_X10_swaps σ13 x6 (x6 - 1) (fun (σ17 : SG) => (inR (x6 + (-1)) ∧ rec8 (x6 + (-1)) σ17)))))))))) x1 σ2))) 1 σ
def rm_X10_sorts : Room := { frames := 1, cells := 0, slots := 0, locals := 25 }
theorem wy_X10_sorts : Cond.instanceMethod yX10_sorts ∈ WS ∧ Cond.selects "SplitTowersModel" yX10_sorts yX10_sorts ∈ WS ∧ Cond.initialized "SplitTowersModel" ∈ WS ∧ Cond.code yX10_sorts prog_12_method_27_code 3 none ∈ WS := ⟨w1080, w46, w79, w1081⟩
theorem hd_X10_sorts : yX10_sorts.cls = "SplitTowersModel" ∧ yX10_sorts.cls ≠ "java/lang/invoke/MethodHandle" ∧ yX10_sorts.cls ≠ "java/lang/invoke/VarHandle" ∧ (parseMethodDescriptor yX10_sorts.desc).map (fun d => d.parameters.length) = some 0 := by decide +kernel
set_option maxHeartbeats 4000000 in
set_option maxRecDepth 100000 in
theorem s_X10_sorts {l : Launch} {D : va_G} {aC : Nat → ClassId} {B lo hi : Nat} {σ : SG}  {Q : SG → Prop} (hlo : lo ≤ 304) (hhi : 316 ≤ hi) (h : wp_X10_sorts σ  Q) : Met l yX10_sorts (Cond.code yX10_sorts prog_12_method_27_code 3 none :: WS) rm_X10_sorts (va_Pc [.ref (B + 304)] (WP D aC B lo hi σ)) (QV D aC B lo hi Q) 0 0 (AB B lo hi) := by
  refine met_of (by decide +kernel) (by decide +kernel : yX10_sorts.cls = "SplitTowersModel") (Nat.le_of_ble_eq_true rfl) ?_
  intro p e s m args below meth c C
  unfold wp_X10_sorts at h
  refine v_R (fun hR0 => ?_)
  show V p l e rm_X10_sorts s m args below meth c D aC B lo hi 3 (MQ below (QV D aC B lo hi Q) args s 0 0 (AB B lo hi)) σ 0 [(0, .ref (B + 304))] []
  refine v_iconst C dX10_sorts_0 ?_
  refine v_istore_n (lv' := [(1, .int (iI 1)), (0, .ref (B + 304))]) C dX10_sorts_1 rfl (by decide) rfl ?_
  obtain ⟨I24, ⟨n25, hnn25⟩, hII24⟩ := h
  have key5 : ∀ (n : Nat) (x1 : Int) (σ2 : SG), I24 n x1 σ2 → inR x1 → V p l e rm_X10_sorts s m args below meth c D aC B lo hi 3 (MQ below (QV D aC B lo hi Q) args s 0 0 (AB B lo hi)) σ2 2 [(1, .int (iI x1)), (0, .ref (B + 304))] [] := by
    intro n
    induction n using Nat.strongRecOn with
    | ind n ih4 =>
      intro x1 σ2 hn rx1
      have h := hII24 n x1 σ2 hn
      refine v_R (fun hRσ2 => ?_)
      refine v_iload_n C 0 dX10_sorts_2 rfl rfl ?_
      refine v_aload_n C 1 dX10_sorts_3 rfl rfl ?_
      refine gf10_now C hlo hhi w877 dX10_sorts_4 ?_
      refine v_bipush C dX10_sorts_7 (by decide) ?_
      refine v_iald (i := 305) (n := 87) C (Nat.le_trans hlo (by decide)) (Nat.lt_of_lt_of_le (by decide) hhi) rfl (by decide) ⟨by decide, by decide⟩ dX10_sorts_9 ?_
      refine v_icmp_ge C rx1 (hRσ2 305 _) 50 dX10_sorts_10 (by decide) (fun c23 => ?_) (fun c23 => ?_)
      · have h := h.1 c23
        exact v_vret C h dX10_sorts_50
      · have h := h.2 c23
        refine v_iload_n C 0 dX10_sorts_13 rfl rfl ?_
        refine v_istore_n (lv' := [(2, .int (iI x1)), (1, .int (iI x1)), (0, .ref (B + 304))]) C dX10_sorts_14 rfl (by decide) rfl ?_
        obtain ⟨I21, ⟨n22, hnn22⟩, hII21⟩ := h
        have key10 : ∀ (n : Nat) (x6 : Int) (σ7 : SG), I21 n x6 σ7 → inR x6 → V p l e rm_X10_sorts s m args below meth c D aC B lo hi 3 (MQ below (QV D aC B lo hi Q) args s 0 0 (AB B lo hi)) σ7 15 [(2, .int (iI x6)), (1, .int (iI x1)), (0, .ref (B + 304))] [] := by
          intro n
          induction n using Nat.strongRecOn with
          | ind n ih9 =>
            intro x6 σ7 hn rx6
            have h := hII21 n x6 σ7 hn
            refine v_R (fun hRσ7 => ?_)
            refine v_iload_n C 0 dX10_sorts_15 rfl rfl ?_
            refine v_if_le C rx6 44 dX10_sorts_16 (by decide) (fun c20 => ?_) (fun c20 => ?_)
            · have h := h.1 c20
              have k11 := h.1
              have h := h.2
              refine v_iinc (lv' := [(1, .int (iI (x1 + 1))), (2, .int (iI x6)), (0, .ref (B + 304))]) C 1 dX10_sorts_44 rfl (by decide) rfl ?_
              refine v_goto C 2 dX10_sorts_47 (by decide) ?_
              obtain ⟨m9, hm9, h⟩ := h
              refine v_sub [0, 2] rfl ?_
              exact ih4 m9 hm9 (x1 + 1) σ7 h k11
            · have h := h.2 c20
              refine v_aload_n C 2 dX10_sorts_19 rfl rfl ?_
              refine v_iload_n C 0 dX10_sorts_20 rfl rfl ?_
              refine v_iload_n C 0 dX10_sorts_21 rfl rfl ?_
              refine v_iconst C dX10_sorts_22 ?_
              have k12 := h.1
              have h := h.2
              refine v_isub C dX10_sorts_23 ?_
              refine v_calli (i := 304) (As := [.int (iI x6), .int (iI (x6 - 1))]) (rest := []) C (s_X10_isBefore hlo hhi rx6 k12 h) w1082 wy_X10_isBefore ⟨rfl, rfl⟩ hd_X10_isBefore ⟨Nat.le_of_ble_eq_true rfl, Nat.le_of_ble_eq_true rfl⟩ (Nat.le_trans hlo (by decide)) (Nat.lt_of_lt_of_le (by decide) hhi) rfl rfl rfl rfl (Nat.le_of_ble_eq_true rfl) dX10_sorts_24 (fun z14 σ13 rz14 h => ?_)
              refine v_R (fun hRσ13 => ?_)
              refine v_if_eq C rz14 44 dX10_sorts_27 (by decide) (fun c19 => ?_) (fun c19 => ?_)
              · have h := h.1 c19
                have k15 := h.1
                have h := h.2
                refine v_iinc (lv' := [(1, .int (iI (x1 + 1))), (2, .int (iI x6)), (0, .ref (B + 304))]) C 1 dX10_sorts_44 rfl (by decide) rfl ?_
                refine v_goto C 2 dX10_sorts_47 (by decide) ?_
                obtain ⟨m9, hm9, h⟩ := h
                refine v_sub [0, 2] rfl ?_
                exact ih4 m9 hm9 (x1 + 1) σ13 h k15
              · have h := h.2 c19
                refine v_aload_n C 2 dX10_sorts_30 rfl rfl ?_
                refine v_iload_n C 0 dX10_sorts_31 rfl rfl ?_
                refine v_iload_n C 0 dX10_sorts_32 rfl rfl ?_
                refine v_iconst C dX10_sorts_33 ?_
                have k16 := h.1
                have h := h.2
                refine v_isub C dX10_sorts_34 ?_
                refine v_callv (i := 304) (As := [.int (iI x6), .int (iI (x6 - 1))]) (rest := []) C (s_X10_swaps hlo hhi rx6 k16 h) w1086 wy_X10_swaps ⟨rfl, rfl⟩ hd_X10_swaps ⟨Nat.le_of_ble_eq_true rfl, Nat.le_of_ble_eq_true rfl⟩ (Nat.le_trans hlo (by decide)) (Nat.lt_of_lt_of_le (by decide) hhi) rfl rfl rfl rfl (Nat.le_of_ble_eq_true rfl) dX10_sorts_35 (fun σ17 h => ?_)
                refine v_R (fun hRσ17 => ?_)
                have k18 := h.1
                have h := h.2
                refine v_iinc (lv' := [(2, .int (iI (x6 + (-1)))), (1, .int (iI x1)), (0, .ref (B + 304))]) C 0 dX10_sorts_38 rfl (by decide) rfl ?_
                refine v_goto C 15 dX10_sorts_41 (by decide) ?_
                obtain ⟨m9, hm9, h⟩ := h
                exact ih9 m9 hm9 (x6 + (-1)) σ17 h k18
        exact key10 n22 x1 σ2 hnn22 rx1
  exact key5 n25 1 σ hnn25 (by decide)
-- SplitTowersModel.parts(I)Z
def wp_X10_parts (σ : SG) (a1 : Int) (Q : Int → SG → Prop) : Prop :=
  (∀ v1 : Int, v1 = (σ 305 44) → Lp1 (fun (rec4 : Int → SG → Prop) (x2 : Int) (σ3 : SG) => ((v1 ≤ x2 → wp_X10_sorts σ3 (fun (σ7 : SG) => (((σ7 305 44) ≤ v1 → Q 0 σ7) ∧ (¬ (σ7 305 44) ≤ v1 → Q 1 σ7)))) ∧ (¬ v1 ≤ x2 → wp_X10_loadsBranch σ3 x2 1 (fun (σ9 : SG) => wp_X10_common σ9 1 a1 4 (fun (σ10 : SG) => wp_X10_degree σ10 4 (fun (z12 : Int) (σ11 : SG) => ((z12 ≤ 0 → (inR (x2 + 1) ∧ rec4 (x2 + 1) σ11)) ∧ (¬ z12 ≤ 0 → wp_X10_degree σ11 1 (fun (z15 : Int) (σ14 : SG) => ((z15 ≤ z12 → (inR (x2 + 1) ∧ rec4 (x2 + 1) σ14)) ∧ (¬ z15 ≤ z12 → wp_X10_lays σ14 4 x2 (fun (σ17 : SG) => wp_X10_divides σ17 1 4 5 (fun (σ18 : SG) => wp_X10_comes σ18 5 (fun (σ19 : SG) => (inR (x2 + 1) ∧ rec4 (x2 + 1) σ19))))))))))))))) 0 σ)
def rm_X10_parts : Room := { frames := 4, cells := 0, slots := 0, locals := 97 }
theorem wy_X10_parts : Cond.instanceMethod yX10_parts ∈ WS ∧ Cond.selects "SplitTowersModel" yX10_parts yX10_parts ∈ WS ∧ Cond.initialized "SplitTowersModel" ∈ WS ∧ Cond.code yX10_parts prog_12_method_31_code 5 (some .boolean) ∈ WS := ⟨w1076, w45, w79, w1077⟩
theorem hd_X10_parts : yX10_parts.cls = "SplitTowersModel" ∧ yX10_parts.cls ≠ "java/lang/invoke/MethodHandle" ∧ yX10_parts.cls ≠ "java/lang/invoke/VarHandle" ∧ (parseMethodDescriptor yX10_parts.desc).map (fun d => d.parameters.length) = some 1 := by decide +kernel
set_option maxHeartbeats 4000000 in
set_option maxRecDepth 100000 in
theorem s_X10_parts {l : Launch} {D : va_G} {aC : Nat → ClassId} {B lo hi : Nat} {σ : SG} {a1 : Int} {Q : Int → SG → Prop} (hlo : lo ≤ 304) (hhi : 316 ≤ hi) (r1 : inR a1) (h : wp_X10_parts σ a1 Q) : Met l yX10_parts (Cond.code yX10_parts prog_12_method_31_code 5 (some .boolean) :: WS) rm_X10_parts (va_Pc [.ref (B + 304), .int (iI a1)] (WP D aC B lo hi σ)) (QI D aC B lo hi Q) 0 0 (AB B lo hi) := by
  refine met_of (by decide +kernel) (by decide +kernel : yX10_parts.cls = "SplitTowersModel") (Nat.le_of_ble_eq_true rfl) ?_
  intro p e s m args below meth c C
  unfold wp_X10_parts at h
  refine v_R (fun hR0 => ?_)
  show V p l e rm_X10_parts s m args below meth c D aC B lo hi 5 (MQ below (QI D aC B lo hi Q) args s 0 0 (AB B lo hi)) σ 0 [(0, .ref (B + 304)), (1, .int (iI a1))] []
  refine v_aload_n C 0 dX10_parts_0 rfl rfl ?_
  refine gf10_now C hlo hhi w877 dX10_parts_1 ?_
  refine v_bipush C dX10_parts_4 (by decide) ?_
  refine v_iald (i := 305) (n := 87) C (Nat.le_trans hlo (by decide)) (Nat.lt_of_lt_of_le (by decide) hhi) rfl (by decide) ⟨by decide, by decide⟩ dX10_parts_6 ?_
  refine v_name (fun v1 ev1 => ?_)
  have h := h v1 ev1
  have rv1 : inR v1 := by rw [ev1]; exact (hR0 305 _)
  refine v_istore_n (lv' := [(2, .int (iI v1)), (0, .ref (B + 304)), (1, .int (iI a1))]) C dX10_parts_7 rfl (by decide) rfl ?_
  refine v_iconst C dX10_parts_8 ?_
  refine v_istore_n (lv' := [(3, .int (iI 0)), (2, .int (iI v1)), (0, .ref (B + 304)), (1, .int (iI a1))]) C dX10_parts_9 rfl (by decide) rfl ?_
  obtain ⟨I24, ⟨n25, hnn25⟩, hII24⟩ := h
  have key6 : ∀ (n : Nat) (x2 : Int) (σ3 : SG), I24 n x2 σ3 → inR x2 → V p l e rm_X10_parts s m args below meth c D aC B lo hi 5 (MQ below (QI D aC B lo hi Q) args s 0 0 (AB B lo hi)) σ3 10 [(3, .int (iI x2)), (2, .int (iI v1)), (0, .ref (B + 304)), (1, .int (iI a1))] [] := by
    intro n
    induction n using Nat.strongRecOn with
    | ind n ih5 =>
      intro x2 σ3 hn rx2
      have h := hII24 n x2 σ3 hn
      refine v_R (fun hRσ3 => ?_)
      refine v_iload_n C 0 dX10_parts_10 rfl rfl ?_
      refine v_iload_n C 1 dX10_parts_11 rfl rfl ?_
      refine v_icmp_ge C rx2 rv1 74 dX10_parts_12 (by decide) (fun c23 => ?_) (fun c23 => ?_)
      · have h := h.1 c23
        refine v_aload_n C 2 dX10_parts_74 rfl rfl ?_
        refine v_callv (i := 304) (As := []) (rest := []) C (s_X10_sorts hlo hhi h) w1078 wy_X10_sorts ⟨rfl, rfl⟩ hd_X10_sorts ⟨Nat.le_of_ble_eq_true rfl, Nat.le_of_ble_eq_true rfl⟩ (Nat.le_trans hlo (by decide)) (Nat.lt_of_lt_of_le (by decide) hhi) rfl rfl rfl rfl (Nat.le_of_ble_eq_true rfl) dX10_parts_75 (fun σ7 h => ?_)
        refine v_R (fun hRσ7 => ?_)
        refine v_aload_n C 2 dX10_parts_78 rfl rfl ?_
        refine gf10_now C hlo hhi w877 dX10_parts_79 ?_
        refine v_bipush C dX10_parts_82 (by decide) ?_
        refine v_iald (i := 305) (n := 87) C (Nat.le_trans hlo (by decide)) (Nat.lt_of_lt_of_le (by decide) hhi) rfl (by decide) ⟨by decide, by decide⟩ dX10_parts_84 ?_
        refine v_iload_n C 1 dX10_parts_85 rfl rfl ?_
        refine v_icmp_le C (hRσ7 305 _) rv1 93 dX10_parts_86 (by decide) (fun c8 => ?_) (fun c8 => ?_)
        · have h := h.1 c8
          refine v_iconst C dX10_parts_93 ?_
          exact v_zret C (by decide) h dX10_parts_94
        · have h := h.2 c8
          refine v_iconst C dX10_parts_89 ?_
          refine v_goto C 94 dX10_parts_90 (by decide) ?_
          exact v_zret C (by decide) h dX10_parts_94
      · have h := h.2 c23
        refine v_aload_n C 2 dX10_parts_15 rfl rfl ?_
        refine v_iload_n C 0 dX10_parts_16 rfl rfl ?_
        refine v_iconst C dX10_parts_17 ?_
        refine v_callv (i := 304) (As := [.int (iI x2), .int (iI 1)]) (rest := []) C (s_X10_loadsBranch hlo hhi rx2 (by decide) h) w1038 wy_X10_loadsBranch ⟨rfl, rfl⟩ hd_X10_loadsBranch ⟨Nat.le_of_ble_eq_true rfl, Nat.le_of_ble_eq_true rfl⟩ (Nat.le_trans hlo (by decide)) (Nat.lt_of_lt_of_le (by decide) hhi) rfl rfl rfl rfl (Nat.le_of_ble_eq_true rfl) dX10_parts_18 (fun σ9 h => ?_)
        refine v_R (fun hRσ9 => ?_)
        refine v_aload_n C 2 dX10_parts_21 rfl rfl ?_
        refine v_iconst C dX10_parts_22 ?_
        refine v_iload_n C 3 dX10_parts_23 rfl rfl ?_
        refine v_iconst C dX10_parts_24 ?_
        refine v_callv (i := 304) (As := [.int (iI 1), .int (iI a1), .int (iI 4)]) (rest := []) C (s_X10_common hlo hhi (by decide) r1 (by decide) h) w967 wy_X10_common ⟨rfl, rfl⟩ hd_X10_common ⟨Nat.le_of_ble_eq_true rfl, Nat.le_of_ble_eq_true rfl⟩ (Nat.le_trans hlo (by decide)) (Nat.lt_of_lt_of_le (by decide) hhi) rfl rfl rfl rfl (Nat.le_of_ble_eq_true rfl) dX10_parts_25 (fun σ10 h => ?_)
        refine v_R (fun hRσ10 => ?_)
        refine v_aload_n C 2 dX10_parts_28 rfl rfl ?_
        refine v_iconst C dX10_parts_29 ?_
        refine v_calli (i := 304) (As := [.int (iI 4)]) (rest := []) C (s_X10_degree hlo hhi (by decide) h) w975 wy_X10_degree ⟨rfl, rfl⟩ hd_X10_degree ⟨Nat.le_of_ble_eq_true rfl, Nat.le_of_ble_eq_true rfl⟩ (Nat.le_trans hlo (by decide)) (Nat.lt_of_lt_of_le (by decide) hhi) rfl rfl rfl rfl (Nat.le_of_ble_eq_true rfl) dX10_parts_30 (fun z12 σ11 rz12 h => ?_)
        refine v_R (fun hRσ11 => ?_)
        refine v_istore (lv' := [(4, .int (iI z12)), (3, .int (iI x2)), (2, .int (iI v1)), (0, .ref (B + 304)), (1, .int (iI a1))]) C dX10_parts_33 (by decide) rfl ?_
        refine v_iload C 0 dX10_parts_35 rfl ?_
        refine v_if_le C rz12 68 dX10_parts_37 (by decide) (fun c22 => ?_) (fun c22 => ?_)
        · have h := h.1 c22
          have k13 := h.1
          have h := h.2
          refine v_iinc (lv' := [(3, .int (iI (x2 + 1))), (4, .int (iI z12)), (2, .int (iI v1)), (0, .ref (B + 304)), (1, .int (iI a1))]) C 1 dX10_parts_68 rfl (by decide) rfl ?_
          refine v_goto C 10 dX10_parts_71 (by decide) ?_
          obtain ⟨m9, hm9, h⟩ := h
          refine v_sub [0, 2, 3, 4] rfl ?_
          exact ih5 m9 hm9 (x2 + 1) σ11 h k13
        · have h := h.2 c22
          refine v_iload C 0 dX10_parts_40 rfl ?_
          refine v_aload_n C 3 dX10_parts_42 rfl rfl ?_
          refine v_iconst C dX10_parts_43 ?_
          refine v_calli (i := 304) (As := [.int (iI 1)]) (rest := [.int (iI z12)]) C (s_X10_degree hlo hhi (by decide) h) w975 wy_X10_degree ⟨rfl, rfl⟩ hd_X10_degree ⟨Nat.le_of_ble_eq_true rfl, Nat.le_of_ble_eq_true rfl⟩ (Nat.le_trans hlo (by decide)) (Nat.lt_of_lt_of_le (by decide) hhi) rfl rfl rfl rfl (Nat.le_of_ble_eq_true rfl) dX10_parts_44 (fun z15 σ14 rz15 h => ?_)
          refine v_R (fun hRσ14 => ?_)
          refine v_icmp_ge C rz12 rz15 68 dX10_parts_47 (by decide) (fun c21 => ?_) (fun c21 => ?_)
          · have h := h.1 c21
            have k16 := h.1
            have h := h.2
            refine v_iinc (lv' := [(3, .int (iI (x2 + 1))), (4, .int (iI z12)), (2, .int (iI v1)), (0, .ref (B + 304)), (1, .int (iI a1))]) C 1 dX10_parts_68 rfl (by decide) rfl ?_
            refine v_goto C 10 dX10_parts_71 (by decide) ?_
            obtain ⟨m9, hm9, h⟩ := h
            refine v_sub [0, 2, 3, 4] rfl ?_
            exact ih5 m9 hm9 (x2 + 1) σ14 h k16
          · have h := h.2 c21
            refine v_aload_n C 3 dX10_parts_50 rfl rfl ?_
            refine v_iconst C dX10_parts_51 ?_
            refine v_iload_n C 1 dX10_parts_52 rfl rfl ?_
            refine v_callv (i := 304) (As := [.int (iI 4), .int (iI x2)]) (rest := []) C (s_X10_lays hlo hhi (by decide) rx2 h) w1007 wy_X10_lays ⟨rfl, rfl⟩ hd_X10_lays ⟨Nat.le_of_ble_eq_true rfl, Nat.le_of_ble_eq_true rfl⟩ (Nat.le_trans hlo (by decide)) (Nat.lt_of_lt_of_le (by decide) hhi) rfl rfl rfl rfl (Nat.le_of_ble_eq_true rfl) dX10_parts_53 (fun σ17 h => ?_)
            refine v_R (fun hRσ17 => ?_)
            refine v_aload_n C 3 dX10_parts_56 rfl rfl ?_
            refine v_iconst C dX10_parts_57 ?_
            refine v_iconst C dX10_parts_58 ?_
            refine v_iconst C dX10_parts_59 ?_
            refine v_callv (i := 304) (As := [.int (iI 1), .int (iI 4), .int (iI 5)]) (rest := []) C (s_X10_divides hlo hhi (by decide) (by decide) (by decide) h) w979 wy_X10_divides ⟨rfl, rfl⟩ hd_X10_divides ⟨Nat.le_of_ble_eq_true rfl, Nat.le_of_ble_eq_true rfl⟩ (Nat.le_trans hlo (by decide)) (Nat.lt_of_lt_of_le (by decide) hhi) rfl rfl rfl rfl (Nat.le_of_ble_eq_true rfl) dX10_parts_60 (fun σ18 h => ?_)
            refine v_R (fun hRσ18 => ?_)
            refine v_aload_n C 3 dX10_parts_63 rfl rfl ?_
            refine v_iconst C dX10_parts_64 ?_
            refine v_callv (i := 304) (As := [.int (iI 5)]) (rest := []) C (s_X10_comes hlo hhi (by decide) h) w1003 wy_X10_comes ⟨rfl, rfl⟩ hd_X10_comes ⟨Nat.le_of_ble_eq_true rfl, Nat.le_of_ble_eq_true rfl⟩ (Nat.le_trans hlo (by decide)) (Nat.lt_of_lt_of_le (by decide) hhi) rfl rfl rfl rfl (Nat.le_of_ble_eq_true rfl) dX10_parts_65 (fun σ19 h => ?_)
            refine v_R (fun hRσ19 => ?_)
            have k20 := h.1
            have h := h.2
            refine v_iinc (lv' := [(3, .int (iI (x2 + 1))), (4, .int (iI z12)), (2, .int (iI v1)), (0, .ref (B + 304)), (1, .int (iI a1))]) C 1 dX10_parts_68 rfl (by decide) rfl ?_
            refine v_goto C 10 dX10_parts_71 (by decide) ?_
            obtain ⟨m9, hm9, h⟩ := h
            refine v_sub [0, 2, 3, 4] rfl ?_
            exact ih5 m9 hm9 (x2 + 1) σ19 h k20
  exact key6 n25 0 σ hnn25 (by decide)
-- SplitTowersModel.kindIn(I)I
def wp_X10_kindIn (σ : SG) (a1 : Int) (Q : Int → SG → Prop) : Prop :=
  wp_X10_common σ 1 a1 4 (fun (σ1 : SG) => wp_X10_degree σ1 4 (fun (z3 : Int) (σ2 : SG) => wp_X10_degree σ2 1 (fun (z5 : Int) (σ4 : SG) => ((¬ z3 = z5 → wp_X10_degree σ4 4 (fun (z7 : Int) (σ6 : SG) => ((¬ z7 = 0 → Q 2 σ6) ∧ (z7 = 0 → Q 1 σ6)))) ∧ (z3 = z5 → Q 0 σ4)))))
def rm_X10_kindIn : Room := { frames := 4, cells := 0, slots := 0, locals := 97 }
theorem wy_X10_kindIn : Cond.instanceMethod yX10_kindIn ∈ WS ∧ Cond.selects "SplitTowersModel" yX10_kindIn yX10_kindIn ∈ WS ∧ Cond.initialized "SplitTowersModel" ∈ WS ∧ Cond.code yX10_kindIn prog_12_method_32_code 2 (some .int) ∈ WS := ⟨w1064, w43, w79, w1065⟩
theorem hd_X10_kindIn : yX10_kindIn.cls = "SplitTowersModel" ∧ yX10_kindIn.cls ≠ "java/lang/invoke/MethodHandle" ∧ yX10_kindIn.cls ≠ "java/lang/invoke/VarHandle" ∧ (parseMethodDescriptor yX10_kindIn.desc).map (fun d => d.parameters.length) = some 1 := by decide +kernel
set_option maxHeartbeats 4000000 in
set_option maxRecDepth 100000 in
theorem s_X10_kindIn {l : Launch} {D : va_G} {aC : Nat → ClassId} {B lo hi : Nat} {σ : SG} {a1 : Int} {Q : Int → SG → Prop} (hlo : lo ≤ 304) (hhi : 316 ≤ hi) (r1 : inR a1) (h : wp_X10_kindIn σ a1 Q) : Met l yX10_kindIn (Cond.code yX10_kindIn prog_12_method_32_code 2 (some .int) :: WS) rm_X10_kindIn (va_Pc [.ref (B + 304), .int (iI a1)] (WP D aC B lo hi σ)) (QI D aC B lo hi Q) 0 0 (AB B lo hi) := by
  refine met_of (by decide +kernel) (by decide +kernel : yX10_kindIn.cls = "SplitTowersModel") (Nat.le_of_ble_eq_true rfl) ?_
  intro p e s m args below meth c C
  unfold wp_X10_kindIn at h
  refine v_R (fun hR0 => ?_)
  show V p l e rm_X10_kindIn s m args below meth c D aC B lo hi 2 (MQ below (QI D aC B lo hi Q) args s 0 0 (AB B lo hi)) σ 0 [(0, .ref (B + 304)), (1, .int (iI a1))] []
  refine v_aload_n C 0 dX10_kindIn_0 rfl rfl ?_
  refine v_iconst C dX10_kindIn_1 ?_
  refine v_iload_n C 1 dX10_kindIn_2 rfl rfl ?_
  refine v_iconst C dX10_kindIn_3 ?_
  refine v_callv (i := 304) (As := [.int (iI 1), .int (iI a1), .int (iI 4)]) (rest := []) C (s_X10_common hlo hhi (by decide) r1 (by decide) h) w967 wy_X10_common ⟨rfl, rfl⟩ hd_X10_common ⟨Nat.le_of_ble_eq_true rfl, Nat.le_of_ble_eq_true rfl⟩ (Nat.le_trans hlo (by decide)) (Nat.lt_of_lt_of_le (by decide) hhi) rfl rfl rfl rfl (Nat.le_of_ble_eq_true rfl) dX10_kindIn_4 (fun σ1 h => ?_)
  refine v_R (fun hRσ1 => ?_)
  refine v_aload_n C 0 dX10_kindIn_7 rfl rfl ?_
  refine v_iconst C dX10_kindIn_8 ?_
  refine v_calli (i := 304) (As := [.int (iI 4)]) (rest := []) C (s_X10_degree hlo hhi (by decide) h) w975 wy_X10_degree ⟨rfl, rfl⟩ hd_X10_degree ⟨Nat.le_of_ble_eq_true rfl, Nat.le_of_ble_eq_true rfl⟩ (Nat.le_trans hlo (by decide)) (Nat.lt_of_lt_of_le (by decide) hhi) rfl rfl rfl rfl (Nat.le_of_ble_eq_true rfl) dX10_kindIn_9 (fun z3 σ2 rz3 h => ?_)
  refine v_R (fun hRσ2 => ?_)
  refine v_aload_n C 0 dX10_kindIn_12 rfl rfl ?_
  refine v_iconst C dX10_kindIn_13 ?_
  refine v_calli (i := 304) (As := [.int (iI 1)]) (rest := [.int (iI z3)]) C (s_X10_degree hlo hhi (by decide) h) w975 wy_X10_degree ⟨rfl, rfl⟩ hd_X10_degree ⟨Nat.le_of_ble_eq_true rfl, Nat.le_of_ble_eq_true rfl⟩ (Nat.le_trans hlo (by decide)) (Nat.lt_of_lt_of_le (by decide) hhi) rfl rfl rfl rfl (Nat.le_of_ble_eq_true rfl) dX10_kindIn_14 (fun z5 σ4 rz5 h => ?_)
  refine v_R (fun hRσ4 => ?_)
  refine v_icmp_ne C rz3 rz5 24 dX10_kindIn_17 (by decide) (fun c9 => ?_) (fun c9 => ?_)
  · have h := h.1 c9
    refine v_aload_n C 0 dX10_kindIn_24 rfl rfl ?_
    refine v_iconst C dX10_kindIn_25 ?_
    refine v_calli (i := 304) (As := [.int (iI 4)]) (rest := []) C (s_X10_degree hlo hhi (by decide) h) w975 wy_X10_degree ⟨rfl, rfl⟩ hd_X10_degree ⟨Nat.le_of_ble_eq_true rfl, Nat.le_of_ble_eq_true rfl⟩ (Nat.le_trans hlo (by decide)) (Nat.lt_of_lt_of_le (by decide) hhi) rfl rfl rfl rfl (Nat.le_of_ble_eq_true rfl) dX10_kindIn_26 (fun z7 σ6 rz7 h => ?_)
    refine v_R (fun hRσ6 => ?_)
    refine v_if_ne C rz7 36 dX10_kindIn_29 (by decide) (fun c8 => ?_) (fun c8 => ?_)
    · have h := h.1 c8
      refine v_iconst C dX10_kindIn_36 ?_
      exact v_iret C (by decide) h dX10_kindIn_37
    · have h := h.2 c8
      refine v_iconst C dX10_kindIn_32 ?_
      refine v_goto C 37 dX10_kindIn_33 (by decide) ?_
      exact v_iret C (by decide) h dX10_kindIn_37
  · have h := h.2 c9
    refine v_iconst C dX10_kindIn_20 ?_
    refine v_goto C 37 dX10_kindIn_21 (by decide) ?_
    exact v_iret C (by decide) h dX10_kindIn_37
-- SplitTowersModel.inverts(III)V
def wp_X10_inverts (σ : SG) (a1 : Int) (a2 : Int) (a3 : Int) (Q : SG → Prop) : Prop :=
  wp_X10_copies σ a2 6 (fun (σ1 : SG) => wp_X10_copies σ1 a1 7 (fun (σ2 : SG) => wp_X10_divides σ2 7 a2 (-1) (fun (σ3 : SG) => wp_X10_constant σ3 8 0 (fun (σ4 : SG) => wp_X10_constant σ4 9 1 (fun (σ5 : SG) => Lp0 (fun (rec7 : SG → Prop)  (σ6 : SG) => wp_X10_degree σ6 7 (fun (z11 : Int) (σ10 : SG) => ((z11 ≤ 0 → wp_X10_of σ10 7 0 (fun (z13 : Int) (σ12 : SG) => wp_X10_inverse σ12 z13 (fun (z15 : Int) (σ14 : SG) => wp_X10_constant σ14 11 z15 (fun (σ16 : SG) => wp_X10_multiplies σ16 9 11 a3 (fun (σ17 : SG) => wp_X10_divides σ17 a3 a2 (-1) (fun (σ18 : SG) => Q σ18)))))) ∧ (¬ z11 ≤ 0 → wp_X10_divides σ10 6 7 10 (fun (σ19 : SG) => wp_X10_copies σ19 6 11 (fun (σ20 : SG) => wp_X10_copies σ20 7 6 (fun (σ21 : SG) => wp_X10_copies σ21 11 7 (fun (σ22 : SG) => wp_X10_multiplies σ22 10 9 11 (fun (σ23 : SG) => (inR ((σ23 305 0) - 1) ∧ wp_X10_adds σ23 11 8 ((σ23 305 0) - 1) (fun (σ25 : SG) => wp_X10_copies σ25 8 11 (fun (σ26 : SG) => wp_X10_copies σ26 9 8 (fun (σ27 : SG) => wp_X10_copies σ27 11 9 (fun (σ28 : SG) => rec7 σ28)))))))))))))) σ5)))))
def rm_X10_inverts : Room := { frames := 3, cells := 0, slots := 0, locals := 74 }
theorem wy_X10_inverts : Cond.instanceMethod yX10_inverts ∈ WS ∧ Cond.selects "SplitTowersModel" yX10_inverts yX10_inverts ∈ WS ∧ Cond.initialized "SplitTowersModel" ∈ WS ∧ Cond.code yX10_inverts prog_12_method_23_code 5 none ∈ WS := ⟨w1048, w39, w79, w1049⟩
theorem hd_X10_inverts : yX10_inverts.cls = "SplitTowersModel" ∧ yX10_inverts.cls ≠ "java/lang/invoke/MethodHandle" ∧ yX10_inverts.cls ≠ "java/lang/invoke/VarHandle" ∧ (parseMethodDescriptor yX10_inverts.desc).map (fun d => d.parameters.length) = some 3 := by decide +kernel
set_option maxHeartbeats 4000000 in
set_option maxRecDepth 100000 in
theorem s_X10_inverts {l : Launch} {D : va_G} {aC : Nat → ClassId} {B lo hi : Nat} {σ : SG} {a1 : Int} {a2 : Int} {a3 : Int} {Q : SG → Prop} (hlo : lo ≤ 304) (hhi : 316 ≤ hi) (r1 : inR a1) (r2 : inR a2) (r3 : inR a3) (h : wp_X10_inverts σ a1 a2 a3 Q) : Met l yX10_inverts (Cond.code yX10_inverts prog_12_method_23_code 5 none :: WS) rm_X10_inverts (va_Pc [.ref (B + 304), .int (iI a1), .int (iI a2), .int (iI a3)] (WP D aC B lo hi σ)) (QV D aC B lo hi Q) 0 0 (AB B lo hi) := by
  refine met_of (by decide +kernel) (by decide +kernel : yX10_inverts.cls = "SplitTowersModel") (Nat.le_of_ble_eq_true rfl) ?_
  intro p e s m args below meth c C
  unfold wp_X10_inverts at h
  refine v_R (fun hR0 => ?_)
  show V p l e rm_X10_inverts s m args below meth c D aC B lo hi 5 (MQ below (QV D aC B lo hi Q) args s 0 0 (AB B lo hi)) σ 0 [(0, .ref (B + 304)), (1, .int (iI a1)), (2, .int (iI a2)), (3, .int (iI a3))] []
  refine v_aload_n C 0 dX10_inverts_0 rfl rfl ?_
  refine v_iload_n C 2 dX10_inverts_1 rfl rfl ?_
  refine v_bipush C dX10_inverts_2 (by decide) ?_
  refine v_callv (i := 304) (As := [.int (iI a2), .int (iI 6)]) (rest := []) C (s_X10_copies hlo hhi r2 (by decide) h) w971 wy_X10_copies ⟨rfl, rfl⟩ hd_X10_copies ⟨Nat.le_of_ble_eq_true rfl, Nat.le_of_ble_eq_true rfl⟩ (Nat.le_trans hlo (by decide)) (Nat.lt_of_lt_of_le (by decide) hhi) rfl rfl rfl rfl (Nat.le_of_ble_eq_true rfl) dX10_inverts_4 (fun σ1 h => ?_)
  refine v_R (fun hRσ1 => ?_)
  refine v_aload_n C 0 dX10_inverts_7 rfl rfl ?_
  refine v_iload_n C 1 dX10_inverts_8 rfl rfl ?_
  refine v_bipush C dX10_inverts_9 (by decide) ?_
  refine v_callv (i := 304) (As := [.int (iI a1), .int (iI 7)]) (rest := []) C (s_X10_copies hlo hhi r1 (by decide) h) w971 wy_X10_copies ⟨rfl, rfl⟩ hd_X10_copies ⟨Nat.le_of_ble_eq_true rfl, Nat.le_of_ble_eq_true rfl⟩ (Nat.le_trans hlo (by decide)) (Nat.lt_of_lt_of_le (by decide) hhi) rfl rfl rfl rfl (Nat.le_of_ble_eq_true rfl) dX10_inverts_11 (fun σ2 h => ?_)
  refine v_R (fun hRσ2 => ?_)
  refine v_aload_n C 0 dX10_inverts_14 rfl rfl ?_
  refine v_bipush C dX10_inverts_15 (by decide) ?_
  refine v_iload_n C 2 dX10_inverts_17 rfl rfl ?_
  refine v_iconst C dX10_inverts_18 ?_
  refine v_callv (i := 304) (As := [.int (iI 7), .int (iI a2), .int (iI (-1))]) (rest := []) C (s_X10_divides hlo hhi (by decide) r2 (by decide) h) w979 wy_X10_divides ⟨rfl, rfl⟩ hd_X10_divides ⟨Nat.le_of_ble_eq_true rfl, Nat.le_of_ble_eq_true rfl⟩ (Nat.le_trans hlo (by decide)) (Nat.lt_of_lt_of_le (by decide) hhi) rfl rfl rfl rfl (Nat.le_of_ble_eq_true rfl) dX10_inverts_19 (fun σ3 h => ?_)
  refine v_R (fun hRσ3 => ?_)
  refine v_aload_n C 0 dX10_inverts_22 rfl rfl ?_
  refine v_bipush C dX10_inverts_23 (by decide) ?_
  refine v_iconst C dX10_inverts_25 ?_
  refine v_callv (i := 304) (As := [.int (iI 8), .int (iI 0)]) (rest := []) C (s_X10_constant hlo hhi (by decide) (by decide) h) w1050 wy_X10_constant ⟨rfl, rfl⟩ hd_X10_constant ⟨Nat.le_of_ble_eq_true rfl, Nat.le_of_ble_eq_true rfl⟩ (Nat.le_trans hlo (by decide)) (Nat.lt_of_lt_of_le (by decide) hhi) rfl rfl rfl rfl (Nat.le_of_ble_eq_true rfl) dX10_inverts_26 (fun σ4 h => ?_)
  refine v_R (fun hRσ4 => ?_)
  refine v_aload_n C 0 dX10_inverts_29 rfl rfl ?_
  refine v_bipush C dX10_inverts_30 (by decide) ?_
  refine v_iconst C dX10_inverts_32 ?_
  refine v_callv (i := 304) (As := [.int (iI 9), .int (iI 1)]) (rest := []) C (s_X10_constant hlo hhi (by decide) (by decide) h) w1050 wy_X10_constant ⟨rfl, rfl⟩ hd_X10_constant ⟨Nat.le_of_ble_eq_true rfl, Nat.le_of_ble_eq_true rfl⟩ (Nat.le_trans hlo (by decide)) (Nat.lt_of_lt_of_le (by decide) hhi) rfl rfl rfl rfl (Nat.le_of_ble_eq_true rfl) dX10_inverts_33 (fun σ5 h => ?_)
  refine v_R (fun hRσ5 => ?_)
  obtain ⟨I30, ⟨n31, hnn31⟩, hII30⟩ := h
  have key9 : ∀ (n : Nat)  (σ6 : SG), I30 n σ6 → V p l e rm_X10_inverts s m args below meth c D aC B lo hi 5 (MQ below (QV D aC B lo hi Q) args s 0 0 (AB B lo hi)) σ6 36 [(0, .ref (B + 304)), (2, .int (iI a2)), (3, .int (iI a3))] [] := by
    intro n
    induction n using Nat.strongRecOn with
    | ind n ih8 =>
      intro σ6 hn 
      have h := hII30 n σ6 hn
      refine v_R (fun hRσ6 => ?_)
      refine v_aload_n C 0 dX10_inverts_36 rfl rfl ?_
      refine v_bipush C dX10_inverts_37 (by decide) ?_
      refine v_calli (i := 304) (As := [.int (iI 7)]) (rest := []) C (s_X10_degree hlo hhi (by decide) h) w975 wy_X10_degree ⟨rfl, rfl⟩ hd_X10_degree ⟨Nat.le_of_ble_eq_true rfl, Nat.le_of_ble_eq_true rfl⟩ (Nat.le_trans hlo (by decide)) (Nat.lt_of_lt_of_le (by decide) hhi) rfl rfl rfl rfl (Nat.le_of_ble_eq_true rfl) dX10_inverts_39 (fun z11 σ10 rz11 h => ?_)
      refine v_R (fun hRσ10 => ?_)
      refine v_if_le C rz11 132 dX10_inverts_42 (by decide) (fun c29 => ?_) (fun c29 => ?_)
      · have h := h.1 c29
        refine v_aload_n C 0 dX10_inverts_132 rfl rfl ?_
        refine v_aload_n C 0 dX10_inverts_133 rfl rfl ?_
        refine v_bipush C dX10_inverts_134 (by decide) ?_
        refine v_iconst C dX10_inverts_136 ?_
        refine v_calli (i := 304) (As := [.int (iI 7), .int (iI 0)]) (rest := [.ref (B + 304)]) C (s_X10_of hlo hhi (by decide) (by decide) h) w963 wy_X10_of ⟨rfl, rfl⟩ hd_X10_of ⟨Nat.le_of_ble_eq_true rfl, Nat.le_of_ble_eq_true rfl⟩ (Nat.le_trans hlo (by decide)) (Nat.lt_of_lt_of_le (by decide) hhi) rfl rfl rfl rfl (Nat.le_of_ble_eq_true rfl) dX10_inverts_137 (fun z13 σ12 rz13 h => ?_)
        refine v_R (fun hRσ12 => ?_)
        refine v_calli (i := 304) (As := [.int (iI z13)]) (rest := []) C (s_X10_inverse hlo hhi rz13 h) w983 wy_X10_inverse ⟨rfl, rfl⟩ hd_X10_inverse ⟨Nat.le_of_ble_eq_true rfl, Nat.le_of_ble_eq_true rfl⟩ (Nat.le_trans hlo (by decide)) (Nat.lt_of_lt_of_le (by decide) hhi) rfl rfl rfl rfl (Nat.le_of_ble_eq_true rfl) dX10_inverts_140 (fun z15 σ14 rz15 h => ?_)
        refine v_R (fun hRσ14 => ?_)
        refine v_istore (lv' := [(4, .int (iI z15)), (0, .ref (B + 304)), (2, .int (iI a2)), (3, .int (iI a3))]) C dX10_inverts_143 (by decide) rfl ?_
        refine v_aload_n C 1 dX10_inverts_145 rfl rfl ?_
        refine v_bipush C dX10_inverts_146 (by decide) ?_
        refine v_iload C 0 dX10_inverts_148 rfl ?_
        refine v_callv (i := 304) (As := [.int (iI 11), .int (iI z15)]) (rest := []) C (s_X10_constant hlo hhi (by decide) rz15 h) w1050 wy_X10_constant ⟨rfl, rfl⟩ hd_X10_constant ⟨Nat.le_of_ble_eq_true rfl, Nat.le_of_ble_eq_true rfl⟩ (Nat.le_trans hlo (by decide)) (Nat.lt_of_lt_of_le (by decide) hhi) rfl rfl rfl rfl (Nat.le_of_ble_eq_true rfl) dX10_inverts_150 (fun σ16 h => ?_)
        refine v_R (fun hRσ16 => ?_)
        refine v_aload_n C 1 dX10_inverts_153 rfl rfl ?_
        refine v_bipush C dX10_inverts_154 (by decide) ?_
        refine v_bipush C dX10_inverts_156 (by decide) ?_
        refine v_iload_n C 3 dX10_inverts_158 rfl rfl ?_
        refine v_callv (i := 304) (As := [.int (iI 9), .int (iI 11), .int (iI a3)]) (rest := []) C (s_X10_multiplies hlo hhi (by decide) (by decide) r3 h) w1054 wy_X10_multiplies ⟨rfl, rfl⟩ hd_X10_multiplies ⟨Nat.le_of_ble_eq_true rfl, Nat.le_of_ble_eq_true rfl⟩ (Nat.le_trans hlo (by decide)) (Nat.lt_of_lt_of_le (by decide) hhi) rfl rfl rfl rfl (Nat.le_of_ble_eq_true rfl) dX10_inverts_159 (fun σ17 h => ?_)
        refine v_R (fun hRσ17 => ?_)
        refine v_aload_n C 1 dX10_inverts_162 rfl rfl ?_
        refine v_iload_n C 3 dX10_inverts_163 rfl rfl ?_
        refine v_iload_n C 2 dX10_inverts_164 rfl rfl ?_
        refine v_iconst C dX10_inverts_165 ?_
        refine v_callv (i := 304) (As := [.int (iI a3), .int (iI a2), .int (iI (-1))]) (rest := []) C (s_X10_divides hlo hhi r3 r2 (by decide) h) w979 wy_X10_divides ⟨rfl, rfl⟩ hd_X10_divides ⟨Nat.le_of_ble_eq_true rfl, Nat.le_of_ble_eq_true rfl⟩ (Nat.le_trans hlo (by decide)) (Nat.lt_of_lt_of_le (by decide) hhi) rfl rfl rfl rfl (Nat.le_of_ble_eq_true rfl) dX10_inverts_166 (fun σ18 h => ?_)
        refine v_R (fun hRσ18 => ?_)
        exact v_vret C h dX10_inverts_169
      · have h := h.2 c29
        refine v_aload_n C 0 dX10_inverts_45 rfl rfl ?_
        refine v_bipush C dX10_inverts_46 (by decide) ?_
        refine v_bipush C dX10_inverts_48 (by decide) ?_
        refine v_bipush C dX10_inverts_50 (by decide) ?_
        refine v_callv (i := 304) (As := [.int (iI 6), .int (iI 7), .int (iI 10)]) (rest := []) C (s_X10_divides hlo hhi (by decide) (by decide) (by decide) h) w979 wy_X10_divides ⟨rfl, rfl⟩ hd_X10_divides ⟨Nat.le_of_ble_eq_true rfl, Nat.le_of_ble_eq_true rfl⟩ (Nat.le_trans hlo (by decide)) (Nat.lt_of_lt_of_le (by decide) hhi) rfl rfl rfl rfl (Nat.le_of_ble_eq_true rfl) dX10_inverts_52 (fun σ19 h => ?_)
        refine v_R (fun hRσ19 => ?_)
        refine v_aload_n C 0 dX10_inverts_55 rfl rfl ?_
        refine v_bipush C dX10_inverts_56 (by decide) ?_
        refine v_bipush C dX10_inverts_58 (by decide) ?_
        refine v_callv (i := 304) (As := [.int (iI 6), .int (iI 11)]) (rest := []) C (s_X10_copies hlo hhi (by decide) (by decide) h) w971 wy_X10_copies ⟨rfl, rfl⟩ hd_X10_copies ⟨Nat.le_of_ble_eq_true rfl, Nat.le_of_ble_eq_true rfl⟩ (Nat.le_trans hlo (by decide)) (Nat.lt_of_lt_of_le (by decide) hhi) rfl rfl rfl rfl (Nat.le_of_ble_eq_true rfl) dX10_inverts_60 (fun σ20 h => ?_)
        refine v_R (fun hRσ20 => ?_)
        refine v_aload_n C 0 dX10_inverts_63 rfl rfl ?_
        refine v_bipush C dX10_inverts_64 (by decide) ?_
        refine v_bipush C dX10_inverts_66 (by decide) ?_
        refine v_callv (i := 304) (As := [.int (iI 7), .int (iI 6)]) (rest := []) C (s_X10_copies hlo hhi (by decide) (by decide) h) w971 wy_X10_copies ⟨rfl, rfl⟩ hd_X10_copies ⟨Nat.le_of_ble_eq_true rfl, Nat.le_of_ble_eq_true rfl⟩ (Nat.le_trans hlo (by decide)) (Nat.lt_of_lt_of_le (by decide) hhi) rfl rfl rfl rfl (Nat.le_of_ble_eq_true rfl) dX10_inverts_68 (fun σ21 h => ?_)
        refine v_R (fun hRσ21 => ?_)
        refine v_aload_n C 0 dX10_inverts_71 rfl rfl ?_
        refine v_bipush C dX10_inverts_72 (by decide) ?_
        refine v_bipush C dX10_inverts_74 (by decide) ?_
        refine v_callv (i := 304) (As := [.int (iI 11), .int (iI 7)]) (rest := []) C (s_X10_copies hlo hhi (by decide) (by decide) h) w971 wy_X10_copies ⟨rfl, rfl⟩ hd_X10_copies ⟨Nat.le_of_ble_eq_true rfl, Nat.le_of_ble_eq_true rfl⟩ (Nat.le_trans hlo (by decide)) (Nat.lt_of_lt_of_le (by decide) hhi) rfl rfl rfl rfl (Nat.le_of_ble_eq_true rfl) dX10_inverts_76 (fun σ22 h => ?_)
        refine v_R (fun hRσ22 => ?_)
        refine v_aload_n C 0 dX10_inverts_79 rfl rfl ?_
        refine v_bipush C dX10_inverts_80 (by decide) ?_
        refine v_bipush C dX10_inverts_82 (by decide) ?_
        refine v_bipush C dX10_inverts_84 (by decide) ?_
        refine v_callv (i := 304) (As := [.int (iI 10), .int (iI 9), .int (iI 11)]) (rest := []) C (s_X10_multiplies hlo hhi (by decide) (by decide) (by decide) h) w1054 wy_X10_multiplies ⟨rfl, rfl⟩ hd_X10_multiplies ⟨Nat.le_of_ble_eq_true rfl, Nat.le_of_ble_eq_true rfl⟩ (Nat.le_trans hlo (by decide)) (Nat.lt_of_lt_of_le (by decide) hhi) rfl rfl rfl rfl (Nat.le_of_ble_eq_true rfl) dX10_inverts_86 (fun σ23 h => ?_)
        refine v_R (fun hRσ23 => ?_)
        refine v_aload_n C 0 dX10_inverts_89 rfl rfl ?_
        refine v_bipush C dX10_inverts_90 (by decide) ?_
        refine v_bipush C dX10_inverts_92 (by decide) ?_
        refine v_aload_n C 0 dX10_inverts_94 rfl rfl ?_
        refine gf10_now C hlo hhi w877 dX10_inverts_95 ?_
        refine v_iconst C dX10_inverts_98 ?_
        refine v_iald (i := 305) (n := 87) C (Nat.le_trans hlo (by decide)) (Nat.lt_of_lt_of_le (by decide) hhi) rfl (by decide) ⟨by decide, by decide⟩ dX10_inverts_99 ?_
        refine v_iconst C dX10_inverts_100 ?_
        have k24 := h.1
        have h := h.2
        refine v_isub C dX10_inverts_101 ?_
        refine v_callv (i := 304) (As := [.int (iI 11), .int (iI 8), .int (iI ((σ23 305 0) - 1))]) (rest := []) C (s_X10_adds hlo hhi (by decide) (by decide) k24 h) w1058 wy_X10_adds ⟨rfl, rfl⟩ hd_X10_adds ⟨Nat.le_of_ble_eq_true rfl, Nat.le_of_ble_eq_true rfl⟩ (Nat.le_trans hlo (by decide)) (Nat.lt_of_lt_of_le (by decide) hhi) rfl rfl rfl rfl (Nat.le_of_ble_eq_true rfl) dX10_inverts_102 (fun σ25 h => ?_)
        refine v_R (fun hRσ25 => ?_)
        refine v_aload_n C 0 dX10_inverts_105 rfl rfl ?_
        refine v_bipush C dX10_inverts_106 (by decide) ?_
        refine v_bipush C dX10_inverts_108 (by decide) ?_
        refine v_callv (i := 304) (As := [.int (iI 8), .int (iI 11)]) (rest := []) C (s_X10_copies hlo hhi (by decide) (by decide) h) w971 wy_X10_copies ⟨rfl, rfl⟩ hd_X10_copies ⟨Nat.le_of_ble_eq_true rfl, Nat.le_of_ble_eq_true rfl⟩ (Nat.le_trans hlo (by decide)) (Nat.lt_of_lt_of_le (by decide) hhi) rfl rfl rfl rfl (Nat.le_of_ble_eq_true rfl) dX10_inverts_110 (fun σ26 h => ?_)
        refine v_R (fun hRσ26 => ?_)
        refine v_aload_n C 0 dX10_inverts_113 rfl rfl ?_
        refine v_bipush C dX10_inverts_114 (by decide) ?_
        refine v_bipush C dX10_inverts_116 (by decide) ?_
        refine v_callv (i := 304) (As := [.int (iI 9), .int (iI 8)]) (rest := []) C (s_X10_copies hlo hhi (by decide) (by decide) h) w971 wy_X10_copies ⟨rfl, rfl⟩ hd_X10_copies ⟨Nat.le_of_ble_eq_true rfl, Nat.le_of_ble_eq_true rfl⟩ (Nat.le_trans hlo (by decide)) (Nat.lt_of_lt_of_le (by decide) hhi) rfl rfl rfl rfl (Nat.le_of_ble_eq_true rfl) dX10_inverts_118 (fun σ27 h => ?_)
        refine v_R (fun hRσ27 => ?_)
        refine v_aload_n C 0 dX10_inverts_121 rfl rfl ?_
        refine v_bipush C dX10_inverts_122 (by decide) ?_
        refine v_bipush C dX10_inverts_124 (by decide) ?_
        refine v_callv (i := 304) (As := [.int (iI 11), .int (iI 9)]) (rest := []) C (s_X10_copies hlo hhi (by decide) (by decide) h) w971 wy_X10_copies ⟨rfl, rfl⟩ hd_X10_copies ⟨Nat.le_of_ble_eq_true rfl, Nat.le_of_ble_eq_true rfl⟩ (Nat.le_trans hlo (by decide)) (Nat.lt_of_lt_of_le (by decide) hhi) rfl rfl rfl rfl (Nat.le_of_ble_eq_true rfl) dX10_inverts_126 (fun σ28 h => ?_)
        refine v_R (fun hRσ28 => ?_)
        refine v_goto C 36 dX10_inverts_129 (by decide) ?_
        obtain ⟨m9, hm9, h⟩ := h
        exact ih8 m9 hm9 σ28 h 
  refine v_sub [0, 2, 3] rfl ?_
  exact key9 n31 σ5 hnn31 
-- SplitTowersModel.unitOf(I)V
def wp_X10_unitOf (σ : SG) (a1 : Int) (Q : SG → Prop) : Prop :=
  wp_X10_copies σ 0 16 (fun (σ1 : SG) => wp_X10_divides σ1 16 1 17 (fun (σ2 : SG) => wp_X10_inverts σ2 17 1 16 (fun (σ3 : SG) => wp_X10_multiplies σ3 17 16 a1 (fun (σ4 : SG) => wp_X10_divides σ4 a1 0 (-1) (fun (σ5 : SG) => Q σ5)))))
def rm_X10_unitOf : Room := { frames := 4, cells := 0, slots := 0, locals := 98 }
theorem wy_X10_unitOf : Cond.instanceMethod yX10_unitOf ∈ WS ∧ Cond.selects "SplitTowersModel" yX10_unitOf yX10_unitOf ∈ WS ∧ Cond.initialized "SplitTowersModel" ∈ WS ∧ Cond.code yX10_unitOf prog_12_method_33_code 2 none ∈ WS := ⟨w1044, w38, w79, w1045⟩
theorem hd_X10_unitOf : yX10_unitOf.cls = "SplitTowersModel" ∧ yX10_unitOf.cls ≠ "java/lang/invoke/MethodHandle" ∧ yX10_unitOf.cls ≠ "java/lang/invoke/VarHandle" ∧ (parseMethodDescriptor yX10_unitOf.desc).map (fun d => d.parameters.length) = some 1 := by decide +kernel
set_option maxHeartbeats 4000000 in
set_option maxRecDepth 100000 in
theorem s_X10_unitOf {l : Launch} {D : va_G} {aC : Nat → ClassId} {B lo hi : Nat} {σ : SG} {a1 : Int} {Q : SG → Prop} (hlo : lo ≤ 304) (hhi : 316 ≤ hi) (r1 : inR a1) (h : wp_X10_unitOf σ a1 Q) : Met l yX10_unitOf (Cond.code yX10_unitOf prog_12_method_33_code 2 none :: WS) rm_X10_unitOf (va_Pc [.ref (B + 304), .int (iI a1)] (WP D aC B lo hi σ)) (QV D aC B lo hi Q) 0 0 (AB B lo hi) := by
  refine met_of (by decide +kernel) (by decide +kernel : yX10_unitOf.cls = "SplitTowersModel") (Nat.le_of_ble_eq_true rfl) ?_
  intro p e s m args below meth c C
  unfold wp_X10_unitOf at h
  refine v_R (fun hR0 => ?_)
  show V p l e rm_X10_unitOf s m args below meth c D aC B lo hi 2 (MQ below (QV D aC B lo hi Q) args s 0 0 (AB B lo hi)) σ 0 [(0, .ref (B + 304)), (1, .int (iI a1))] []
  refine v_aload_n C 0 dX10_unitOf_0 rfl rfl ?_
  refine v_iconst C dX10_unitOf_1 ?_
  refine v_bipush C dX10_unitOf_2 (by decide) ?_
  refine v_callv (i := 304) (As := [.int (iI 0), .int (iI 16)]) (rest := []) C (s_X10_copies hlo hhi (by decide) (by decide) h) w971 wy_X10_copies ⟨rfl, rfl⟩ hd_X10_copies ⟨Nat.le_of_ble_eq_true rfl, Nat.le_of_ble_eq_true rfl⟩ (Nat.le_trans hlo (by decide)) (Nat.lt_of_lt_of_le (by decide) hhi) rfl rfl rfl rfl (Nat.le_of_ble_eq_true rfl) dX10_unitOf_4 (fun σ1 h => ?_)
  refine v_R (fun hRσ1 => ?_)
  refine v_aload_n C 0 dX10_unitOf_7 rfl rfl ?_
  refine v_bipush C dX10_unitOf_8 (by decide) ?_
  refine v_iconst C dX10_unitOf_10 ?_
  refine v_bipush C dX10_unitOf_11 (by decide) ?_
  refine v_callv (i := 304) (As := [.int (iI 16), .int (iI 1), .int (iI 17)]) (rest := []) C (s_X10_divides hlo hhi (by decide) (by decide) (by decide) h) w979 wy_X10_divides ⟨rfl, rfl⟩ hd_X10_divides ⟨Nat.le_of_ble_eq_true rfl, Nat.le_of_ble_eq_true rfl⟩ (Nat.le_trans hlo (by decide)) (Nat.lt_of_lt_of_le (by decide) hhi) rfl rfl rfl rfl (Nat.le_of_ble_eq_true rfl) dX10_unitOf_13 (fun σ2 h => ?_)
  refine v_R (fun hRσ2 => ?_)
  refine v_aload_n C 0 dX10_unitOf_16 rfl rfl ?_
  refine v_bipush C dX10_unitOf_17 (by decide) ?_
  refine v_iconst C dX10_unitOf_19 ?_
  refine v_bipush C dX10_unitOf_20 (by decide) ?_
  refine v_callv (i := 304) (As := [.int (iI 17), .int (iI 1), .int (iI 16)]) (rest := []) C (s_X10_inverts hlo hhi (by decide) (by decide) (by decide) h) w1046 wy_X10_inverts ⟨rfl, rfl⟩ hd_X10_inverts ⟨Nat.le_of_ble_eq_true rfl, Nat.le_of_ble_eq_true rfl⟩ (Nat.le_trans hlo (by decide)) (Nat.lt_of_lt_of_le (by decide) hhi) rfl rfl rfl rfl (Nat.le_of_ble_eq_true rfl) dX10_unitOf_22 (fun σ3 h => ?_)
  refine v_R (fun hRσ3 => ?_)
  refine v_aload_n C 0 dX10_unitOf_25 rfl rfl ?_
  refine v_bipush C dX10_unitOf_26 (by decide) ?_
  refine v_bipush C dX10_unitOf_28 (by decide) ?_
  refine v_iload_n C 1 dX10_unitOf_30 rfl rfl ?_
  refine v_callv (i := 304) (As := [.int (iI 17), .int (iI 16), .int (iI a1)]) (rest := []) C (s_X10_multiplies hlo hhi (by decide) (by decide) r1 h) w1054 wy_X10_multiplies ⟨rfl, rfl⟩ hd_X10_multiplies ⟨Nat.le_of_ble_eq_true rfl, Nat.le_of_ble_eq_true rfl⟩ (Nat.le_trans hlo (by decide)) (Nat.lt_of_lt_of_le (by decide) hhi) rfl rfl rfl rfl (Nat.le_of_ble_eq_true rfl) dX10_unitOf_31 (fun σ4 h => ?_)
  refine v_R (fun hRσ4 => ?_)
  refine v_aload_n C 0 dX10_unitOf_34 rfl rfl ?_
  refine v_iload_n C 1 dX10_unitOf_35 rfl rfl ?_
  refine v_iconst C dX10_unitOf_36 ?_
  refine v_iconst C dX10_unitOf_37 ?_
  refine v_callv (i := 304) (As := [.int (iI a1), .int (iI 0), .int (iI (-1))]) (rest := []) C (s_X10_divides hlo hhi r1 (by decide) (by decide) h) w979 wy_X10_divides ⟨rfl, rfl⟩ hd_X10_divides ⟨Nat.le_of_ble_eq_true rfl, Nat.le_of_ble_eq_true rfl⟩ (Nat.le_trans hlo (by decide)) (Nat.lt_of_lt_of_le (by decide) hhi) rfl rfl rfl rfl (Nat.le_of_ble_eq_true rfl) dX10_unitOf_38 (fun σ5 h => ?_)
  refine v_R (fun hRσ5 => ?_)
  exact v_vret C h dX10_unitOf_41
-- SplitTowersModel.quotient(III)V
def wp_X10_quotient (σ : SG) (a1 : Int) (a2 : Int) (a3 : Int) (Q : SG → Prop) : Prop :=
  wp_X10_parts σ a2 (fun (z2 : Int) (σ1 : SG) => wp_X10_clears σ1 3 (fun (σ3 : SG) => Lp1 (fun (rec6 : Int → SG → Prop) (x4 : Int) (σ5 : SG) => (((σ5 305 44) ≤ x4 → wp_X10_copies σ5 3 a3 (fun (σ9 : SG) => Q σ9)) ∧ (¬ (σ5 305 44) ≤ x4 → wp_X10_loadsBranch σ5 x4 1 (fun (σ10 : SG) => wp_X10_kindIn σ10 a2 (fun (z12 : Int) (σ11 : SG) => ((¬ z12 = 1 → (inR (x4 + 1) ∧ rec6 (x4 + 1) σ11)) ∧ (z12 = 1 → wp_X10_inverts σ11 a2 1 4 (fun (σ14 : SG) => wp_X10_multiplies σ14 4 a1 4 (fun (σ15 : SG) => wp_X10_divides σ15 4 1 (-1) (fun (σ16 : SG) => wp_X10_copies σ16 4 5 (fun (σ17 : SG) => wp_X10_unitOf σ17 4 (fun (σ18 : SG) => wp_X10_multiplies σ18 4 5 4 (fun (σ19 : SG) => wp_X10_divides σ19 4 0 (-1) (fun (σ20 : SG) => wp_X10_adds σ20 4 3 1 (fun (σ21 : SG) => (inR (x4 + 1) ∧ rec6 (x4 + 1) σ21)))))))))))))))) 0 σ3))
def rm_X10_quotient : Room := { frames := 5, cells := 0, slots := 0, locals := 121 }
theorem wy_X10_quotient : Cond.instanceMethod yX10_quotient ∈ WS ∧ Cond.selects "SplitTowersModel" yX10_quotient yX10_quotient ∈ WS ∧ Cond.initialized "SplitTowersModel" ∈ WS ∧ Cond.code yX10_quotient prog_12_method_34_code 5 none ∈ WS := ⟨w1156, w59, w79, w1157⟩
theorem hd_X10_quotient : yX10_quotient.cls = "SplitTowersModel" ∧ yX10_quotient.cls ≠ "java/lang/invoke/MethodHandle" ∧ yX10_quotient.cls ≠ "java/lang/invoke/VarHandle" ∧ (parseMethodDescriptor yX10_quotient.desc).map (fun d => d.parameters.length) = some 3 := by decide +kernel
set_option maxHeartbeats 4000000 in
set_option maxRecDepth 100000 in
theorem s_X10_quotient {l : Launch} {D : va_G} {aC : Nat → ClassId} {B lo hi : Nat} {σ : SG} {a1 : Int} {a2 : Int} {a3 : Int} {Q : SG → Prop} (hlo : lo ≤ 304) (hhi : 316 ≤ hi) (r1 : inR a1) (r2 : inR a2) (r3 : inR a3) (h : wp_X10_quotient σ a1 a2 a3 Q) : Met l yX10_quotient (Cond.code yX10_quotient prog_12_method_34_code 5 none :: WS) rm_X10_quotient (va_Pc [.ref (B + 304), .int (iI a1), .int (iI a2), .int (iI a3)] (WP D aC B lo hi σ)) (QV D aC B lo hi Q) 0 0 (AB B lo hi) := by
  refine met_of (by decide +kernel) (by decide +kernel : yX10_quotient.cls = "SplitTowersModel") (Nat.le_of_ble_eq_true rfl) ?_
  intro p e s m args below meth c C
  unfold wp_X10_quotient at h
  refine v_R (fun hR0 => ?_)
  show V p l e rm_X10_quotient s m args below meth c D aC B lo hi 5 (MQ below (QV D aC B lo hi Q) args s 0 0 (AB B lo hi)) σ 0 [(0, .ref (B + 304)), (1, .int (iI a1)), (2, .int (iI a2)), (3, .int (iI a3))] []
  refine v_aload_n C 0 dX10_quotient_0 rfl rfl ?_
  refine v_iload_n C 2 dX10_quotient_1 rfl rfl ?_
  refine v_calli (i := 304) (As := [.int (iI a2)]) (rest := []) C (s_X10_parts hlo hhi r2 h) w1074 wy_X10_parts ⟨rfl, rfl⟩ hd_X10_parts ⟨Nat.le_of_ble_eq_true rfl, Nat.le_of_ble_eq_true rfl⟩ (Nat.le_trans hlo (by decide)) (Nat.lt_of_lt_of_le (by decide) hhi) rfl rfl rfl rfl (Nat.le_of_ble_eq_true rfl) dX10_quotient_2 (fun z2 σ1 rz2 h => ?_)
  refine v_R (fun hRσ1 => ?_)
  refine v_pop C rfl dX10_quotient_5 ?_
  refine v_aload_n C 0 dX10_quotient_6 rfl rfl ?_
  refine v_iconst C dX10_quotient_7 ?_
  refine v_callv (i := 304) (As := [.int (iI 3)]) (rest := []) C (s_X10_clears hlo hhi (by decide) h) w951 wy_X10_clears ⟨rfl, rfl⟩ hd_X10_clears ⟨Nat.le_of_ble_eq_true rfl, Nat.le_of_ble_eq_true rfl⟩ (Nat.le_trans hlo (by decide)) (Nat.lt_of_lt_of_le (by decide) hhi) rfl rfl rfl rfl (Nat.le_of_ble_eq_true rfl) dX10_quotient_8 (fun σ3 h => ?_)
  refine v_R (fun hRσ3 => ?_)
  refine v_iconst C dX10_quotient_11 ?_
  refine v_istore (lv' := [(4, .int (iI 0)), (0, .ref (B + 304)), (1, .int (iI a1)), (2, .int (iI a2)), (3, .int (iI a3))]) C dX10_quotient_12 (by decide) rfl ?_
  obtain ⟨I25, ⟨n26, hnn26⟩, hII25⟩ := h
  have key8 : ∀ (n : Nat) (x4 : Int) (σ5 : SG), I25 n x4 σ5 → inR x4 → V p l e rm_X10_quotient s m args below meth c D aC B lo hi 5 (MQ below (QV D aC B lo hi Q) args s 0 0 (AB B lo hi)) σ5 14 [(4, .int (iI x4)), (0, .ref (B + 304)), (1, .int (iI a1)), (2, .int (iI a2)), (3, .int (iI a3))] [] := by
    intro n
    induction n using Nat.strongRecOn with
    | ind n ih7 =>
      intro x4 σ5 hn rx4
      have h := hII25 n x4 σ5 hn
      refine v_R (fun hRσ5 => ?_)
      refine v_iload C 0 dX10_quotient_14 rfl ?_
      refine v_aload_n C 1 dX10_quotient_16 rfl rfl ?_
      refine gf10_now C hlo hhi w877 dX10_quotient_17 ?_
      refine v_bipush C dX10_quotient_20 (by decide) ?_
      refine v_iald (i := 305) (n := 87) C (Nat.le_trans hlo (by decide)) (Nat.lt_of_lt_of_le (by decide) hhi) rfl (by decide) ⟨by decide, by decide⟩ dX10_quotient_22 ?_
      refine v_icmp_ge C rx4 (hRσ5 305 _) 101 dX10_quotient_23 (by decide) (fun c24 => ?_) (fun c24 => ?_)
      · have h := h.1 c24
        refine v_aload_n C 1 dX10_quotient_101 rfl rfl ?_
        refine v_iconst C dX10_quotient_102 ?_
        refine v_iload_n C 4 dX10_quotient_103 rfl rfl ?_
        refine v_callv (i := 304) (As := [.int (iI 3), .int (iI a3)]) (rest := []) C (s_X10_copies hlo hhi (by decide) r3 h) w971 wy_X10_copies ⟨rfl, rfl⟩ hd_X10_copies ⟨Nat.le_of_ble_eq_true rfl, Nat.le_of_ble_eq_true rfl⟩ (Nat.le_trans hlo (by decide)) (Nat.lt_of_lt_of_le (by decide) hhi) rfl rfl rfl rfl (Nat.le_of_ble_eq_true rfl) dX10_quotient_104 (fun σ9 h => ?_)
        refine v_R (fun hRσ9 => ?_)
        exact v_vret C h dX10_quotient_107
      · have h := h.2 c24
        refine v_aload_n C 1 dX10_quotient_26 rfl rfl ?_
        refine v_iload C 0 dX10_quotient_27 rfl ?_
        refine v_iconst C dX10_quotient_29 ?_
        refine v_callv (i := 304) (As := [.int (iI x4), .int (iI 1)]) (rest := []) C (s_X10_loadsBranch hlo hhi rx4 (by decide) h) w1038 wy_X10_loadsBranch ⟨rfl, rfl⟩ hd_X10_loadsBranch ⟨Nat.le_of_ble_eq_true rfl, Nat.le_of_ble_eq_true rfl⟩ (Nat.le_trans hlo (by decide)) (Nat.lt_of_lt_of_le (by decide) hhi) rfl rfl rfl rfl (Nat.le_of_ble_eq_true rfl) dX10_quotient_30 (fun σ10 h => ?_)
        refine v_R (fun hRσ10 => ?_)
        refine v_aload_n C 1 dX10_quotient_33 rfl rfl ?_
        refine v_iload_n C 3 dX10_quotient_34 rfl rfl ?_
        refine v_calli (i := 304) (As := [.int (iI a2)]) (rest := []) C (s_X10_kindIn hlo hhi r2 h) w1062 wy_X10_kindIn ⟨rfl, rfl⟩ hd_X10_kindIn ⟨Nat.le_of_ble_eq_true rfl, Nat.le_of_ble_eq_true rfl⟩ (Nat.le_trans hlo (by decide)) (Nat.lt_of_lt_of_le (by decide) hhi) rfl rfl rfl rfl (Nat.le_of_ble_eq_true rfl) dX10_quotient_35 (fun z12 σ11 rz12 h => ?_)
        refine v_R (fun hRσ11 => ?_)
        refine v_iconst C dX10_quotient_38 ?_
        refine v_icmp_ne C rz12 (by decide) 95 dX10_quotient_39 (by decide) (fun c23 => ?_) (fun c23 => ?_)
        · have h := h.1 c23
          have k13 := h.1
          have h := h.2
          refine v_iinc (lv' := [(4, .int (iI (x4 + 1))), (0, .ref (B + 304)), (1, .int (iI a1)), (2, .int (iI a2)), (3, .int (iI a3))]) C 0 dX10_quotient_95 rfl (by decide) rfl ?_
          refine v_goto C 14 dX10_quotient_98 (by decide) ?_
          obtain ⟨m9, hm9, h⟩ := h
          exact ih7 m9 hm9 (x4 + 1) σ11 h k13
        · have h := h.2 c23
          refine v_aload_n C 1 dX10_quotient_42 rfl rfl ?_
          refine v_iload_n C 3 dX10_quotient_43 rfl rfl ?_
          refine v_iconst C dX10_quotient_44 ?_
          refine v_iconst C dX10_quotient_45 ?_
          refine v_callv (i := 304) (As := [.int (iI a2), .int (iI 1), .int (iI 4)]) (rest := []) C (s_X10_inverts hlo hhi r2 (by decide) (by decide) h) w1046 wy_X10_inverts ⟨rfl, rfl⟩ hd_X10_inverts ⟨Nat.le_of_ble_eq_true rfl, Nat.le_of_ble_eq_true rfl⟩ (Nat.le_trans hlo (by decide)) (Nat.lt_of_lt_of_le (by decide) hhi) rfl rfl rfl rfl (Nat.le_of_ble_eq_true rfl) dX10_quotient_46 (fun σ14 h => ?_)
          refine v_R (fun hRσ14 => ?_)
          refine v_aload_n C 1 dX10_quotient_49 rfl rfl ?_
          refine v_iconst C dX10_quotient_50 ?_
          refine v_iload_n C 2 dX10_quotient_51 rfl rfl ?_
          refine v_iconst C dX10_quotient_52 ?_
          refine v_callv (i := 304) (As := [.int (iI 4), .int (iI a1), .int (iI 4)]) (rest := []) C (s_X10_multiplies hlo hhi (by decide) r1 (by decide) h) w1054 wy_X10_multiplies ⟨rfl, rfl⟩ hd_X10_multiplies ⟨Nat.le_of_ble_eq_true rfl, Nat.le_of_ble_eq_true rfl⟩ (Nat.le_trans hlo (by decide)) (Nat.lt_of_lt_of_le (by decide) hhi) rfl rfl rfl rfl (Nat.le_of_ble_eq_true rfl) dX10_quotient_53 (fun σ15 h => ?_)
          refine v_R (fun hRσ15 => ?_)
          refine v_aload_n C 1 dX10_quotient_56 rfl rfl ?_
          refine v_iconst C dX10_quotient_57 ?_
          refine v_iconst C dX10_quotient_58 ?_
          refine v_iconst C dX10_quotient_59 ?_
          refine v_callv (i := 304) (As := [.int (iI 4), .int (iI 1), .int (iI (-1))]) (rest := []) C (s_X10_divides hlo hhi (by decide) (by decide) (by decide) h) w979 wy_X10_divides ⟨rfl, rfl⟩ hd_X10_divides ⟨Nat.le_of_ble_eq_true rfl, Nat.le_of_ble_eq_true rfl⟩ (Nat.le_trans hlo (by decide)) (Nat.lt_of_lt_of_le (by decide) hhi) rfl rfl rfl rfl (Nat.le_of_ble_eq_true rfl) dX10_quotient_60 (fun σ16 h => ?_)
          refine v_R (fun hRσ16 => ?_)
          refine v_aload_n C 1 dX10_quotient_63 rfl rfl ?_
          refine v_iconst C dX10_quotient_64 ?_
          refine v_iconst C dX10_quotient_65 ?_
          refine v_callv (i := 304) (As := [.int (iI 4), .int (iI 5)]) (rest := []) C (s_X10_copies hlo hhi (by decide) (by decide) h) w971 wy_X10_copies ⟨rfl, rfl⟩ hd_X10_copies ⟨Nat.le_of_ble_eq_true rfl, Nat.le_of_ble_eq_true rfl⟩ (Nat.le_trans hlo (by decide)) (Nat.lt_of_lt_of_le (by decide) hhi) rfl rfl rfl rfl (Nat.le_of_ble_eq_true rfl) dX10_quotient_66 (fun σ17 h => ?_)
          refine v_R (fun hRσ17 => ?_)
          refine v_aload_n C 1 dX10_quotient_69 rfl rfl ?_
          refine v_iconst C dX10_quotient_70 ?_
          refine v_callv (i := 304) (As := [.int (iI 4)]) (rest := []) C (s_X10_unitOf hlo hhi (by decide) h) w1042 wy_X10_unitOf ⟨rfl, rfl⟩ hd_X10_unitOf ⟨Nat.le_of_ble_eq_true rfl, Nat.le_of_ble_eq_true rfl⟩ (Nat.le_trans hlo (by decide)) (Nat.lt_of_lt_of_le (by decide) hhi) rfl rfl rfl rfl (Nat.le_of_ble_eq_true rfl) dX10_quotient_71 (fun σ18 h => ?_)
          refine v_R (fun hRσ18 => ?_)
          refine v_aload_n C 1 dX10_quotient_74 rfl rfl ?_
          refine v_iconst C dX10_quotient_75 ?_
          refine v_iconst C dX10_quotient_76 ?_
          refine v_iconst C dX10_quotient_77 ?_
          refine v_callv (i := 304) (As := [.int (iI 4), .int (iI 5), .int (iI 4)]) (rest := []) C (s_X10_multiplies hlo hhi (by decide) (by decide) (by decide) h) w1054 wy_X10_multiplies ⟨rfl, rfl⟩ hd_X10_multiplies ⟨Nat.le_of_ble_eq_true rfl, Nat.le_of_ble_eq_true rfl⟩ (Nat.le_trans hlo (by decide)) (Nat.lt_of_lt_of_le (by decide) hhi) rfl rfl rfl rfl (Nat.le_of_ble_eq_true rfl) dX10_quotient_78 (fun σ19 h => ?_)
          refine v_R (fun hRσ19 => ?_)
          refine v_aload_n C 1 dX10_quotient_81 rfl rfl ?_
          refine v_iconst C dX10_quotient_82 ?_
          refine v_iconst C dX10_quotient_83 ?_
          refine v_iconst C dX10_quotient_84 ?_
          refine v_callv (i := 304) (As := [.int (iI 4), .int (iI 0), .int (iI (-1))]) (rest := []) C (s_X10_divides hlo hhi (by decide) (by decide) (by decide) h) w979 wy_X10_divides ⟨rfl, rfl⟩ hd_X10_divides ⟨Nat.le_of_ble_eq_true rfl, Nat.le_of_ble_eq_true rfl⟩ (Nat.le_trans hlo (by decide)) (Nat.lt_of_lt_of_le (by decide) hhi) rfl rfl rfl rfl (Nat.le_of_ble_eq_true rfl) dX10_quotient_85 (fun σ20 h => ?_)
          refine v_R (fun hRσ20 => ?_)
          refine v_aload_n C 1 dX10_quotient_88 rfl rfl ?_
          refine v_iconst C dX10_quotient_89 ?_
          refine v_iconst C dX10_quotient_90 ?_
          refine v_iconst C dX10_quotient_91 ?_
          refine v_callv (i := 304) (As := [.int (iI 4), .int (iI 3), .int (iI 1)]) (rest := []) C (s_X10_adds hlo hhi (by decide) (by decide) (by decide) h) w1058 wy_X10_adds ⟨rfl, rfl⟩ hd_X10_adds ⟨Nat.le_of_ble_eq_true rfl, Nat.le_of_ble_eq_true rfl⟩ (Nat.le_trans hlo (by decide)) (Nat.lt_of_lt_of_le (by decide) hhi) rfl rfl rfl rfl (Nat.le_of_ble_eq_true rfl) dX10_quotient_92 (fun σ21 h => ?_)
          refine v_R (fun hRσ21 => ?_)
          have k22 := h.1
          have h := h.2
          refine v_iinc (lv' := [(4, .int (iI (x4 + 1))), (0, .ref (B + 304)), (1, .int (iI a1)), (2, .int (iI a2)), (3, .int (iI a3))]) C 0 dX10_quotient_95 rfl (by decide) rfl ?_
          refine v_goto C 14 dX10_quotient_98 (by decide) ?_
          obtain ⟨m9, hm9, h⟩ := h
          exact ih7 m9 hm9 (x4 + 1) σ21 h k22
  exact key8 n26 0 σ3 hnn26 (by decide)
-- SplitTowersModel.joinsProduct(IZ)V
def wp_X10_joinsProduct (σ : SG) (a1 : Int) (a2 : Int) (Q : SG → Prop) : Prop :=
  ((¬ a2 = 0 → (inR (26 + a1) ∧ (∀ v2 : Int, v2 = 26 + a1 → ((0 ≤ a1 ∧ a1 < 6) ∧ ((¬ (σ 314 a1.toNat) = 0 → ((0 ≤ a1 ∧ a1 < 6) ∧ ((¬ (σ 314 a1.toNat) = 42 → wp_X10_quotient σ v2 32 v2 (fun (σ5 : SG) => Q σ5)) ∧ ((σ 314 a1.toNat) = 42 → wp_X10_multiplies σ v2 32 v2 (fun (σ6 : SG) => wp_X10_divides σ6 v2 0 (-1) (fun (σ7 : SG) => Q σ7)))))) ∧ ((σ 314 a1.toNat) = 0 → wp_X10_copies σ 32 v2 (fun (σ9 : SG) => Q σ9))))))) ∧ (a2 = 0 → Q σ))
def rm_X10_joinsProduct : Room := { frames := 6, cells := 0, slots := 0, locals := 145 }
theorem wy_X10_joinsProduct : Cond.instanceMethod yX10_joinsProduct ∈ WS ∧ Cond.selects "SplitTowersModel" yX10_joinsProduct yX10_joinsProduct ∈ WS ∧ Cond.initialized "SplitTowersModel" ∈ WS ∧ Cond.code yX10_joinsProduct prog_12_method_57_code 4 none ∈ WS := ⟨w1152, w58, w79, w1153⟩
theorem hd_X10_joinsProduct : yX10_joinsProduct.cls = "SplitTowersModel" ∧ yX10_joinsProduct.cls ≠ "java/lang/invoke/MethodHandle" ∧ yX10_joinsProduct.cls ≠ "java/lang/invoke/VarHandle" ∧ (parseMethodDescriptor yX10_joinsProduct.desc).map (fun d => d.parameters.length) = some 2 := by decide +kernel
set_option maxHeartbeats 4000000 in
set_option maxRecDepth 100000 in
theorem s_X10_joinsProduct {l : Launch} {D : va_G} {aC : Nat → ClassId} {B lo hi : Nat} {σ : SG} {a1 : Int} {a2 : Int} {Q : SG → Prop} (hlo : lo ≤ 304) (hhi : 316 ≤ hi) (r1 : inR a1) (r2 : inR a2) (h : wp_X10_joinsProduct σ a1 a2 Q) : Met l yX10_joinsProduct (Cond.code yX10_joinsProduct prog_12_method_57_code 4 none :: WS) rm_X10_joinsProduct (va_Pc [.ref (B + 304), .int (iI a1), .int (iI a2)] (WP D aC B lo hi σ)) (QV D aC B lo hi Q) 0 0 (AB B lo hi) := by
  refine met_of (by decide +kernel) (by decide +kernel : yX10_joinsProduct.cls = "SplitTowersModel") (Nat.le_of_ble_eq_true rfl) ?_
  intro p e s m args below meth c C
  unfold wp_X10_joinsProduct at h
  refine v_R (fun hR0 => ?_)
  show V p l e rm_X10_joinsProduct s m args below meth c D aC B lo hi 4 (MQ below (QV D aC B lo hi Q) args s 0 0 (AB B lo hi)) σ 0 [(0, .ref (B + 304)), (1, .int (iI a1)), (2, .int (iI a2))] []
  refine v_iload_n C 2 dX10_joinsProduct_0 rfl rfl ?_
  refine v_if_ne C r2 5 dX10_joinsProduct_1 (by decide) (fun c11 => ?_) (fun c11 => ?_)
  · have h := h.1 c11
    refine v_bipush C dX10_joinsProduct_5 (by decide) ?_
    refine v_iload_n C 1 dX10_joinsProduct_7 rfl rfl ?_
    have k1 := h.1
    have h := h.2
    refine v_iadd C dX10_joinsProduct_8 ?_
    refine v_name (fun v2 ev2 => ?_)
    have h := h v2 ev2
    have rv2 : inR v2 := by rw [ev2]; exact k1
    refine v_istore_n (lv' := [(3, .int (iI v2)), (0, .ref (B + 304)), (1, .int (iI a1)), (2, .int (iI a2))]) C dX10_joinsProduct_9 rfl (by decide) rfl ?_
    refine v_aload_n C 1 dX10_joinsProduct_10 rfl rfl ?_
    refine gf10_toProduct C hlo hhi w890 dX10_joinsProduct_11 ?_
    refine v_iload_n C 2 dX10_joinsProduct_14 rfl rfl ?_
    have k3 := h.1
    have h := h.2
    refine v_iald (i := 314) (n := 6) C (Nat.le_trans hlo (by decide)) (Nat.lt_of_lt_of_le (by decide) hhi) rfl r1 k3 dX10_joinsProduct_15 ?_
    refine v_if_ne C (hR0 314 _) 29 dX10_joinsProduct_16 (by decide) (fun c10 => ?_) (fun c10 => ?_)
    · have h := h.1 c10
      refine v_aload_n C 1 dX10_joinsProduct_29 rfl rfl ?_
      refine gf10_toProduct C hlo hhi w890 dX10_joinsProduct_30 ?_
      refine v_iload_n C 2 dX10_joinsProduct_33 rfl rfl ?_
      have k4 := h.1
      have h := h.2
      refine v_iald (i := 314) (n := 6) C (Nat.le_trans hlo (by decide)) (Nat.lt_of_lt_of_le (by decide) hhi) rfl r1 k4 dX10_joinsProduct_34 ?_
      refine v_bipush C dX10_joinsProduct_35 (by decide) ?_
      refine v_icmp_ne C (hR0 314 _) (by decide) 58 dX10_joinsProduct_37 (by decide) (fun c8 => ?_) (fun c8 => ?_)
      · have h := h.1 c8
        refine v_aload_n C 1 dX10_joinsProduct_58 rfl rfl ?_
        refine v_iload_n C 0 dX10_joinsProduct_59 rfl rfl ?_
        refine v_bipush C dX10_joinsProduct_60 (by decide) ?_
        refine v_iload_n C 0 dX10_joinsProduct_62 rfl rfl ?_
        refine v_callv (i := 304) (As := [.int (iI v2), .int (iI 32), .int (iI v2)]) (rest := []) C (s_X10_quotient hlo hhi rv2 (by decide) rv2 h) w1154 wy_X10_quotient ⟨rfl, rfl⟩ hd_X10_quotient ⟨Nat.le_of_ble_eq_true rfl, Nat.le_of_ble_eq_true rfl⟩ (Nat.le_trans hlo (by decide)) (Nat.lt_of_lt_of_le (by decide) hhi) rfl rfl rfl rfl (Nat.le_of_ble_eq_true rfl) dX10_joinsProduct_63 (fun σ5 h => ?_)
        refine v_R (fun hRσ5 => ?_)
        exact v_vret C h dX10_joinsProduct_66
      · have h := h.2 c8
        refine v_aload_n C 1 dX10_joinsProduct_40 rfl rfl ?_
        refine v_iload_n C 0 dX10_joinsProduct_41 rfl rfl ?_
        refine v_bipush C dX10_joinsProduct_42 (by decide) ?_
        refine v_iload_n C 0 dX10_joinsProduct_44 rfl rfl ?_
        refine v_callv (i := 304) (As := [.int (iI v2), .int (iI 32), .int (iI v2)]) (rest := []) C (s_X10_multiplies hlo hhi rv2 (by decide) rv2 h) w1054 wy_X10_multiplies ⟨rfl, rfl⟩ hd_X10_multiplies ⟨Nat.le_of_ble_eq_true rfl, Nat.le_of_ble_eq_true rfl⟩ (Nat.le_trans hlo (by decide)) (Nat.lt_of_lt_of_le (by decide) hhi) rfl rfl rfl rfl (Nat.le_of_ble_eq_true rfl) dX10_joinsProduct_45 (fun σ6 h => ?_)
        refine v_R (fun hRσ6 => ?_)
        refine v_aload_n C 1 dX10_joinsProduct_48 rfl rfl ?_
        refine v_iload_n C 0 dX10_joinsProduct_49 rfl rfl ?_
        refine v_iconst C dX10_joinsProduct_50 ?_
        refine v_iconst C dX10_joinsProduct_51 ?_
        refine v_callv (i := 304) (As := [.int (iI v2), .int (iI 0), .int (iI (-1))]) (rest := []) C (s_X10_divides hlo hhi rv2 (by decide) (by decide) h) w979 wy_X10_divides ⟨rfl, rfl⟩ hd_X10_divides ⟨Nat.le_of_ble_eq_true rfl, Nat.le_of_ble_eq_true rfl⟩ (Nat.le_trans hlo (by decide)) (Nat.lt_of_lt_of_le (by decide) hhi) rfl rfl rfl rfl (Nat.le_of_ble_eq_true rfl) dX10_joinsProduct_52 (fun σ7 h => ?_)
        refine v_R (fun hRσ7 => ?_)
        refine v_goto C 66 dX10_joinsProduct_55 (by decide) ?_
        exact v_vret C h dX10_joinsProduct_66
    · have h := h.2 c10
      refine v_aload_n C 1 dX10_joinsProduct_19 rfl rfl ?_
      refine v_bipush C dX10_joinsProduct_20 (by decide) ?_
      refine v_iload_n C 0 dX10_joinsProduct_22 rfl rfl ?_
      refine v_callv (i := 304) (As := [.int (iI 32), .int (iI v2)]) (rest := []) C (s_X10_copies hlo hhi (by decide) rv2 h) w971 wy_X10_copies ⟨rfl, rfl⟩ hd_X10_copies ⟨Nat.le_of_ble_eq_true rfl, Nat.le_of_ble_eq_true rfl⟩ (Nat.le_trans hlo (by decide)) (Nat.lt_of_lt_of_le (by decide) hhi) rfl rfl rfl rfl (Nat.le_of_ble_eq_true rfl) dX10_joinsProduct_23 (fun σ9 h => ?_)
      refine v_R (fun hRσ9 => ?_)
      refine v_goto C 66 dX10_joinsProduct_26 (by decide) ?_
      exact v_vret C h dX10_joinsProduct_66
  · have h := h.2 c11
    exact v_vret C h dX10_joinsProduct_4
-- SplitTowersModel.joinsSum(IZ)V
def wp_X10_joinsSum (σ : SG) (a1 : Int) (a2 : Int) (Q : SG → Prop) : Prop :=
  ((¬ a2 = 0 → ((0 ≤ a1 ∧ a1 < 6) ∧ ((¬ (σ 313 a1.toNat) = 0 → (inR (26 + a1) ∧ (inR (20 + a1) ∧ ((0 ≤ a1 ∧ a1 < 6) ∧ Jn1 (fun (x5 : Int) (σ6 : SG) => wp_X10_adds σ6 (26 + a1) (20 + a1) x5 (fun (σ8 : SG) => Q σ8)) (fun J7 => ((¬ (σ 313 a1.toNat) = 43 → (inR ((σ 305 0) - 1) ∧ J7 ((σ 305 0) - 1) σ)) ∧ ((σ 313 a1.toNat) = 43 → J7 1 σ))))))) ∧ ((σ 313 a1.toNat) = 0 → (inR (26 + a1) ∧ (inR (20 + a1) ∧ wp_X10_copies σ (26 + a1) (20 + a1) (fun (σ13 : SG) => Q σ13))))))) ∧ (a2 = 0 → Q σ))
def rm_X10_joinsSum : Room := { frames := 2, cells := 0, slots := 0, locals := 48 }
theorem wy_X10_joinsSum : Cond.instanceMethod yX10_joinsSum ∈ WS ∧ Cond.selects "SplitTowersModel" yX10_joinsSum yX10_joinsSum ∈ WS ∧ Cond.initialized "SplitTowersModel" ∈ WS ∧ Cond.code yX10_joinsSum prog_12_method_58_code 3 none ∈ WS := ⟨w1160, w60, w79, w1161⟩
theorem hd_X10_joinsSum : yX10_joinsSum.cls = "SplitTowersModel" ∧ yX10_joinsSum.cls ≠ "java/lang/invoke/MethodHandle" ∧ yX10_joinsSum.cls ≠ "java/lang/invoke/VarHandle" ∧ (parseMethodDescriptor yX10_joinsSum.desc).map (fun d => d.parameters.length) = some 2 := by decide +kernel
set_option maxHeartbeats 4000000 in
set_option maxRecDepth 100000 in
theorem s_X10_joinsSum {l : Launch} {D : va_G} {aC : Nat → ClassId} {B lo hi : Nat} {σ : SG} {a1 : Int} {a2 : Int} {Q : SG → Prop} (hlo : lo ≤ 304) (hhi : 316 ≤ hi) (r1 : inR a1) (r2 : inR a2) (h : wp_X10_joinsSum σ a1 a2 Q) : Met l yX10_joinsSum (Cond.code yX10_joinsSum prog_12_method_58_code 3 none :: WS) rm_X10_joinsSum (va_Pc [.ref (B + 304), .int (iI a1), .int (iI a2)] (WP D aC B lo hi σ)) (QV D aC B lo hi Q) 0 0 (AB B lo hi) := by
  refine met_of (by decide +kernel) (by decide +kernel : yX10_joinsSum.cls = "SplitTowersModel") (Nat.le_of_ble_eq_true rfl) ?_
  intro p e s m args below meth c C
  unfold wp_X10_joinsSum at h
  refine v_R (fun hR0 => ?_)
  show V p l e rm_X10_joinsSum s m args below meth c D aC B lo hi 3 (MQ below (QV D aC B lo hi Q) args s 0 0 (AB B lo hi)) σ 0 [(0, .ref (B + 304)), (1, .int (iI a1)), (2, .int (iI a2))] []
  refine v_iload_n C 2 dX10_joinsSum_0 rfl rfl ?_
  refine v_if_ne C r2 5 dX10_joinsSum_1 (by decide) (fun c15 => ?_) (fun c15 => ?_)
  · have h := h.1 c15
    refine v_aload_n C 0 dX10_joinsSum_5 rfl rfl ?_
    refine gf10_toSum C hlo hhi w889 dX10_joinsSum_6 ?_
    refine v_iload_n C 1 dX10_joinsSum_9 rfl rfl ?_
    have k1 := h.1
    have h := h.2
    refine v_iald (i := 313) (n := 6) C (Nat.le_trans hlo (by decide)) (Nat.lt_of_lt_of_le (by decide) hhi) rfl r1 k1 dX10_joinsSum_10 ?_
    refine v_if_ne C (hR0 313 _) 29 dX10_joinsSum_11 (by decide) (fun c14 => ?_) (fun c14 => ?_)
    · have h := h.1 c14
      refine v_aload_n C 0 dX10_joinsSum_29 rfl rfl ?_
      refine v_bipush C dX10_joinsSum_30 (by decide) ?_
      refine v_iload_n C 1 dX10_joinsSum_32 rfl rfl ?_
      have k2 := h.1
      have h := h.2
      refine v_iadd C dX10_joinsSum_33 ?_
      refine v_bipush C dX10_joinsSum_34 (by decide) ?_
      refine v_iload_n C 1 dX10_joinsSum_36 rfl rfl ?_
      have k3 := h.1
      have h := h.2
      refine v_iadd C dX10_joinsSum_37 ?_
      refine v_aload_n C 0 dX10_joinsSum_38 rfl rfl ?_
      refine gf10_toSum C hlo hhi w889 dX10_joinsSum_39 ?_
      refine v_iload_n C 1 dX10_joinsSum_42 rfl rfl ?_
      have k4 := h.1
      have h := h.2
      refine v_iald (i := 313) (n := 6) C (Nat.le_trans hlo (by decide)) (Nat.lt_of_lt_of_le (by decide) hhi) rfl r1 k4 dX10_joinsSum_43 ?_
      refine v_bipush C dX10_joinsSum_44 (by decide) ?_
      obtain ⟨J7, hJ7, h⟩ := h
      have kJ7 : ∀ (x5 : Int) (σ6 : SG), J7 x5 σ6 → inR x5 → V p l e rm_X10_joinsSum s m args below meth c D aC B lo hi 3 (MQ below (QV D aC B lo hi Q) args s 0 0 (AB B lo hi)) σ6 61 [] [.int (iI x5), .int (iI (20 + a1)), .int (iI (26 + a1)), .ref (B + 304)] := by
        intro x5 σ6 hj rx5
        have h := hJ7 x5 σ6 hj
        refine v_R (fun hRσ6 => ?_)
        refine v_callv (i := 304) (As := [.int (iI (26 + a1)), .int (iI (20 + a1)), .int (iI x5)]) (rest := []) C (s_X10_adds hlo hhi k2 k3 rx5 h) w1058 wy_X10_adds ⟨rfl, rfl⟩ hd_X10_adds ⟨Nat.le_of_ble_eq_true rfl, Nat.le_of_ble_eq_true rfl⟩ (Nat.le_trans hlo (by decide)) (Nat.lt_of_lt_of_le (by decide) hhi) rfl rfl rfl rfl (Nat.le_of_ble_eq_true rfl) dX10_joinsSum_61 (fun σ8 h => ?_)
        refine v_R (fun hRσ8 => ?_)
        exact v_vret C h dX10_joinsSum_64
      refine v_icmp_ne C (hR0 313 _) (by decide) 53 dX10_joinsSum_46 (by decide) (fun c10 => ?_) (fun c10 => ?_)
      · have h := h.1 c10
        refine v_aload_n C 0 dX10_joinsSum_53 rfl rfl ?_
        refine gf10_now C hlo hhi w877 dX10_joinsSum_54 ?_
        refine v_iconst C dX10_joinsSum_57 ?_
        refine v_iald (i := 305) (n := 87) C (Nat.le_trans hlo (by decide)) (Nat.lt_of_lt_of_le (by decide) hhi) rfl (by decide) ⟨by decide, by decide⟩ dX10_joinsSum_58 ?_
        refine v_iconst C dX10_joinsSum_59 ?_
        have k9 := h.1
        have h := h.2
        refine v_isub C dX10_joinsSum_60 ?_
        refine v_sub [] rfl ?_
        exact kJ7 ((σ 305 0) - 1) σ h k9
      · have h := h.2 c10
        refine v_iconst C dX10_joinsSum_49 ?_
        refine v_goto C 61 dX10_joinsSum_50 (by decide) ?_
        refine v_sub [] rfl ?_
        exact kJ7 1 σ h (by decide)
    · have h := h.2 c14
      refine v_aload_n C 0 dX10_joinsSum_14 rfl rfl ?_
      refine v_bipush C dX10_joinsSum_15 (by decide) ?_
      refine v_iload_n C 1 dX10_joinsSum_17 rfl rfl ?_
      have k11 := h.1
      have h := h.2
      refine v_iadd C dX10_joinsSum_18 ?_
      refine v_bipush C dX10_joinsSum_19 (by decide) ?_
      refine v_iload_n C 1 dX10_joinsSum_21 rfl rfl ?_
      have k12 := h.1
      have h := h.2
      refine v_iadd C dX10_joinsSum_22 ?_
      refine v_callv (i := 304) (As := [.int (iI (26 + a1)), .int (iI (20 + a1))]) (rest := []) C (s_X10_copies hlo hhi k11 k12 h) w971 wy_X10_copies ⟨rfl, rfl⟩ hd_X10_copies ⟨Nat.le_of_ble_eq_true rfl, Nat.le_of_ble_eq_true rfl⟩ (Nat.le_trans hlo (by decide)) (Nat.lt_of_lt_of_le (by decide) hhi) rfl rfl rfl rfl (Nat.le_of_ble_eq_true rfl) dX10_joinsSum_23 (fun σ13 h => ?_)
      refine v_R (fun hRσ13 => ?_)
      refine v_goto C 64 dX10_joinsSum_26 (by decide) ?_
      exact v_vret C h dX10_joinsSum_64
  · have h := h.2 c15
    exact v_vret C h dX10_joinsSum_4
-- SplitTowersModel.goesAlong(Z)Z
def wp_X10_goesAlong (σ : SG) (a1 : Int) (Q : Int → SG → Prop) : Prop :=
  (∀ σ1 : SG, σ1 = ug σ 304 10 0 → wp_X10_isBetween σ1 97 102 (fun (z3 : Int) (σ2 : SG) => ((¬ z3 = 0 → (inR ((σ2 304 10) + 1) ∧ (∀ σ5 : SG, σ5 = ug σ2 304 10 ((σ2 304 10) + 1) → wp_X10_takes σ5 61 (fun (z7 : Int) (σ6 : SG) => ((¬ z7 = 0 → (∀ σ8 : SG, σ8 = ug σ6 313 0 0 → (∀ σ9 : SG, σ9 = ug σ8 314 0 0 → Lp1 (fun (rec12 : Int → SG → Prop) (x10 : Int) (σ11 : SG) => ((5 ≤ x10 → wp_X10_takesSimple σ11 a1 (fun (z16 : Int) (σ15 : SG) => ((z16 = 0 → Q 0 σ15) ∧ (¬ z16 = 0 → wp_X10_takesPower σ15 a1 (fun (z18 : Int) (σ17 : SG) => ((¬ z18 = 0 → wp_X10_joinsProduct σ17 x10 a1 (fun (σ19 : SG) => Lp1 (fun (rec22 : Int → SG → Prop) (x20 : Int) (σ21 : SG) => ((x20 ≤ 0 → ((¬ (σ21 304 10) = (σ21 304 8) → ((0 ≤ (σ21 304 10) ∧ (σ21 304 10) < 60) ∧ (∀ v26 : Int, v26 = (σ21 311 (σ21 304 10).toNat) → ((v26 = 43 → wp_X10_joinsSum σ21 x20 a1 (fun (σ27 : SG) => ((0 ≤ x20 ∧ x20 < 6) ∧ (∀ σ29 : SG, σ29 = ug σ27 313 x20.toNat v26 → ((0 ≤ x20 ∧ x20 < 6) ∧ (∀ σ31 : SG, σ31 = ug σ29 314 x20.toNat 0 → (inR ((σ31 304 10) + 1) ∧ (∀ σ33 : SG, σ33 = ug σ31 304 10 ((σ31 304 10) + 1) → rec12 x20 σ33)))))))) ∧ (¬ v26 = 43 → ((¬ v26 = 45 → ((v26 = 42 → ((0 ≤ x20 ∧ x20 < 6) ∧ (∀ σ35 : SG, σ35 = ug σ21 314 x20.toNat v26 → (inR ((σ35 304 10) + 1) ∧ (∀ σ37 : SG, σ37 = ug σ35 304 10 ((σ35 304 10) + 1) → rec12 x20 σ37))))) ∧ (¬ v26 = 42 → ((¬ v26 = 47 → Q 0 σ21) ∧ (v26 = 47 → ((0 ≤ x20 ∧ x20 < 6) ∧ (∀ σ39 : SG, σ39 = ug σ21 314 x20.toNat v26 → (inR ((σ39 304 10) + 1) ∧ (∀ σ41 : SG, σ41 = ug σ39 304 10 ((σ39 304 10) + 1) → rec12 x20 σ41))))))))) ∧ (v26 = 45 → wp_X10_joinsSum σ21 x20 a1 (fun (σ44 : SG) => ((0 ≤ x20 ∧ x20 < 6) ∧ (∀ σ46 : SG, σ46 = ug σ44 313 x20.toNat v26 → ((0 ≤ x20 ∧ x20 < 6) ∧ (∀ σ48 : SG, σ48 = ug σ46 314 x20.toNat 0 → (inR ((σ48 304 10) + 1) ∧ (∀ σ50 : SG, σ50 = ug σ48 304 10 ((σ48 304 10) + 1) → rec12 x20 σ50)))))))))))))) ∧ ((σ21 304 10) = (σ21 304 8) → Jn1 (fun (x53 : Int) (σ54 : SG) => wp_X10_joinsSum σ54 0 x53 (fun (σ56 : SG) => ((¬ x20 = 0 → Q 0 σ56) ∧ (x20 = 0 → Q 1 σ56)))) (fun J55 => ((a1 = 0 → J55 0 σ21) ∧ (¬ a1 = 0 → ((¬ x20 = 0 → J55 0 σ21) ∧ (x20 = 0 → J55 1 σ21)))))))) ∧ (¬ x20 ≤ 0 → wp_X10_takes σ21 41 (fun (z62 : Int) (σ61 : SG) => ((z62 = 0 → ((¬ (σ61 304 10) = (σ61 304 8) → ((0 ≤ (σ61 304 10) ∧ (σ61 304 10) < 60) ∧ (∀ v64 : Int, v64 = (σ61 311 (σ61 304 10).toNat) → ((v64 = 43 → wp_X10_joinsSum σ61 x20 a1 (fun (σ65 : SG) => ((0 ≤ x20 ∧ x20 < 6) ∧ (∀ σ67 : SG, σ67 = ug σ65 313 x20.toNat v64 → ((0 ≤ x20 ∧ x20 < 6) ∧ (∀ σ69 : SG, σ69 = ug σ67 314 x20.toNat 0 → (inR ((σ69 304 10) + 1) ∧ (∀ σ71 : SG, σ71 = ug σ69 304 10 ((σ69 304 10) + 1) → rec12 x20 σ71)))))))) ∧ (¬ v64 = 43 → ((¬ v64 = 45 → ((v64 = 42 → ((0 ≤ x20 ∧ x20 < 6) ∧ (∀ σ73 : SG, σ73 = ug σ61 314 x20.toNat v64 → (inR ((σ73 304 10) + 1) ∧ (∀ σ75 : SG, σ75 = ug σ73 304 10 ((σ73 304 10) + 1) → rec12 x20 σ75))))) ∧ (¬ v64 = 42 → ((¬ v64 = 47 → Q 0 σ61) ∧ (v64 = 47 → ((0 ≤ x20 ∧ x20 < 6) ∧ (∀ σ77 : SG, σ77 = ug σ61 314 x20.toNat v64 → (inR ((σ77 304 10) + 1) ∧ (∀ σ79 : SG, σ79 = ug σ77 304 10 ((σ77 304 10) + 1) → rec12 x20 σ79))))))))) ∧ (v64 = 45 → wp_X10_joinsSum σ61 x20 a1 (fun (σ82 : SG) => ((0 ≤ x20 ∧ x20 < 6) ∧ (∀ σ84 : SG, σ84 = ug σ82 313 x20.toNat v64 → ((0 ≤ x20 ∧ x20 < 6) ∧ (∀ σ86 : SG, σ86 = ug σ84 314 x20.toNat 0 → (inR ((σ86 304 10) + 1) ∧ (∀ σ88 : SG, σ88 = ug σ86 304 10 ((σ86 304 10) + 1) → rec12 x20 σ88)))))))))))))) ∧ ((σ61 304 10) = (σ61 304 8) → Jn1 (fun (x91 : Int) (σ92 : SG) => wp_X10_joinsSum σ92 0 x91 (fun (σ94 : SG) => ((¬ x20 = 0 → Q 0 σ94) ∧ (x20 = 0 → Q 1 σ94)))) (fun J93 => ((a1 = 0 → J93 0 σ61) ∧ (¬ a1 = 0 → ((¬ x20 = 0 → J93 0 σ61) ∧ (x20 = 0 → J93 1 σ61)))))))) ∧ (¬ z62 = 0 → wp_X10_joinsSum σ61 x20 a1 (fun (σ99 : SG) => (inR (20 + x20) ∧ wp_X10_copies σ99 (20 + x20) 32 (fun (σ101 : SG) => (inR (x20 + (-1)) ∧ wp_X10_takesPower σ101 a1 (fun (z104 : Int) (σ103 : SG) => ((¬ z104 = 0 → wp_X10_joinsProduct σ103 (x20 + (-1)) a1 (fun (σ105 : SG) => rec22 (x20 + (-1)) σ105)) ∧ (z104 = 0 → Q 0 σ103))))))))))))) x10 σ19)) ∧ (z18 = 0 → Q 0 σ17))))))) ∧ (¬ 5 ≤ x10 → wp_X10_takes σ11 40 (fun (z114 : Int) (σ113 : SG) => ((z114 = 0 → wp_X10_takesSimple σ113 a1 (fun (z116 : Int) (σ115 : SG) => ((z116 = 0 → Q 0 σ115) ∧ (¬ z116 = 0 → wp_X10_takesPower σ115 a1 (fun (z118 : Int) (σ117 : SG) => ((¬ z118 = 0 → wp_X10_joinsProduct σ117 x10 a1 (fun (σ119 : SG) => Lp1 (fun (rec122 : Int → SG → Prop) (x120 : Int) (σ121 : SG) => ((x120 ≤ 0 → ((¬ (σ121 304 10) = (σ121 304 8) → ((0 ≤ (σ121 304 10) ∧ (σ121 304 10) < 60) ∧ (∀ v126 : Int, v126 = (σ121 311 (σ121 304 10).toNat) → ((v126 = 43 → wp_X10_joinsSum σ121 x120 a1 (fun (σ127 : SG) => ((0 ≤ x120 ∧ x120 < 6) ∧ (∀ σ129 : SG, σ129 = ug σ127 313 x120.toNat v126 → ((0 ≤ x120 ∧ x120 < 6) ∧ (∀ σ131 : SG, σ131 = ug σ129 314 x120.toNat 0 → (inR ((σ131 304 10) + 1) ∧ (∀ σ133 : SG, σ133 = ug σ131 304 10 ((σ131 304 10) + 1) → rec12 x120 σ133)))))))) ∧ (¬ v126 = 43 → ((¬ v126 = 45 → ((v126 = 42 → ((0 ≤ x120 ∧ x120 < 6) ∧ (∀ σ135 : SG, σ135 = ug σ121 314 x120.toNat v126 → (inR ((σ135 304 10) + 1) ∧ (∀ σ137 : SG, σ137 = ug σ135 304 10 ((σ135 304 10) + 1) → rec12 x120 σ137))))) ∧ (¬ v126 = 42 → ((¬ v126 = 47 → Q 0 σ121) ∧ (v126 = 47 → ((0 ≤ x120 ∧ x120 < 6) ∧ (∀ σ139 : SG, σ139 = ug σ121 314 x120.toNat v126 → (inR ((σ139 304 10) + 1) ∧ (∀ σ141 : SG, σ141 = ug σ139 304 10 ((σ139 304 10) + 1) → rec12 x120 σ141))))))))) ∧ (v126 = 45 → wp_X10_joinsSum σ121 x120 a1 (fun (σ144 : SG) => ((0 ≤ x120 ∧ x120 < 6) ∧ (∀ σ146 : SG, σ146 = ug σ144 313 x120.toNat v126 → ((0 ≤ x120 ∧ x120 < 6) ∧ (∀ σ148 : SG, σ148 = ug σ146 314 x120.toNat 0 → (inR ((σ148 304 10) + 1) ∧ (∀ σ150 : SG, σ150 = ug σ148 304 10 ((σ148 304 10) + 1) → rec12 x120 σ150)))))))))))))) ∧ ((σ121 304 10) = (σ121 304 8) → Jn1 (fun (x153 : Int) (σ154 : SG) => wp_X10_joinsSum σ154 0 x153 (fun (σ156 : SG) => ((¬ x120 = 0 → Q 0 σ156) ∧ (x120 = 0 → Q 1 σ156)))) (fun J155 => ((a1 = 0 → J155 0 σ121) ∧ (¬ a1 = 0 → ((¬ x120 = 0 → J155 0 σ121) ∧ (x120 = 0 → J155 1 σ121)))))))) ∧ (¬ x120 ≤ 0 → wp_X10_takes σ121 41 (fun (z162 : Int) (σ161 : SG) => ((z162 = 0 → ((¬ (σ161 304 10) = (σ161 304 8) → ((0 ≤ (σ161 304 10) ∧ (σ161 304 10) < 60) ∧ (∀ v164 : Int, v164 = (σ161 311 (σ161 304 10).toNat) → ((v164 = 43 → wp_X10_joinsSum σ161 x120 a1 (fun (σ165 : SG) => ((0 ≤ x120 ∧ x120 < 6) ∧ (∀ σ167 : SG, σ167 = ug σ165 313 x120.toNat v164 → ((0 ≤ x120 ∧ x120 < 6) ∧ (∀ σ169 : SG, σ169 = ug σ167 314 x120.toNat 0 → (inR ((σ169 304 10) + 1) ∧ (∀ σ171 : SG, σ171 = ug σ169 304 10 ((σ169 304 10) + 1) → rec12 x120 σ171)))))))) ∧ (¬ v164 = 43 → ((¬ v164 = 45 → ((v164 = 42 → ((0 ≤ x120 ∧ x120 < 6) ∧ (∀ σ173 : SG, σ173 = ug σ161 314 x120.toNat v164 → (inR ((σ173 304 10) + 1) ∧ (∀ σ175 : SG, σ175 = ug σ173 304 10 ((σ173 304 10) + 1) → rec12 x120 σ175))))) ∧ (¬ v164 = 42 → ((¬ v164 = 47 → Q 0 σ161) ∧ (v164 = 47 → ((0 ≤ x120 ∧ x120 < 6) ∧ (∀ σ177 : SG, σ177 = ug σ161 314 x120.toNat v164 → (inR ((σ177 304 10) + 1) ∧ (∀ σ179 : SG, σ179 = ug σ177 304 10 ((σ177 304 10) + 1) → rec12 x120 σ179))))))))) ∧ (v164 = 45 → wp_X10_joinsSum σ161 x120 a1 (fun (σ182 : SG) => ((0 ≤ x120 ∧ x120 < 6) ∧ (∀ σ184 : SG, σ184 = ug σ182 313 x120.toNat v164 → ((0 ≤ x120 ∧ x120 < 6) ∧ (∀ σ186 : SG, σ186 = ug σ184 314 x120.toNat 0 → (inR ((σ186 304 10) + 1) ∧ (∀ σ188 : SG, σ188 = ug σ186 304 10 ((σ186 304 10) + 1) → rec12 x120 σ188)))))))))))))) ∧ ((σ161 304 10) = (σ161 304 8) → Jn1 (fun (x191 : Int) (σ192 : SG) => wp_X10_joinsSum σ192 0 x191 (fun (σ194 : SG) => ((¬ x120 = 0 → Q 0 σ194) ∧ (x120 = 0 → Q 1 σ194)))) (fun J193 => ((a1 = 0 → J193 0 σ161) ∧ (¬ a1 = 0 → ((¬ x120 = 0 → J193 0 σ161) ∧ (x120 = 0 → J193 1 σ161)))))))) ∧ (¬ z162 = 0 → wp_X10_joinsSum σ161 x120 a1 (fun (σ199 : SG) => (inR (20 + x120) ∧ wp_X10_copies σ199 (20 + x120) 32 (fun (σ201 : SG) => (inR (x120 + (-1)) ∧ wp_X10_takesPower σ201 a1 (fun (z204 : Int) (σ203 : SG) => ((¬ z204 = 0 → wp_X10_joinsProduct σ203 (x120 + (-1)) a1 (fun (σ205 : SG) => rec122 (x120 + (-1)) σ205)) ∧ (z204 = 0 → Q 0 σ203))))))))))))) x10 σ119)) ∧ (z118 = 0 → Q 0 σ117))))))) ∧ (¬ z114 = 0 → (inR (x10 + 1) ∧ ((0 ≤ x10 + 1 ∧ x10 + 1 < 6) ∧ (∀ σ215 : SG, σ215 = ug σ113 313 ((x10 + 1).toNat) 0 → ((0 ≤ x10 + 1 ∧ x10 + 1 < 6) ∧ (∀ σ217 : SG, σ217 = ug σ215 314 ((x10 + 1).toNat) 0 → rec12 (x10 + 1) σ217))))))))))) 0 σ9))) ∧ (z7 = 0 → Q 0 σ6)))))) ∧ (z3 = 0 → Q 0 σ2))))
def rm_X10_goesAlong : Room := { frames := 7, cells := 0, slots := 0, locals := 168 }
theorem wy_X10_goesAlong : Cond.instanceMethod yX10_goesAlong ∈ WS ∧ Cond.selects "SplitTowersModel" yX10_goesAlong yX10_goesAlong ∈ WS ∧ Cond.initialized "SplitTowersModel" ∈ WS ∧ Cond.code yX10_goesAlong prog_12_method_61_code 4 (some .boolean) ∈ WS := ⟨w1140, w55, w79, w1141⟩
theorem hd_X10_goesAlong : yX10_goesAlong.cls = "SplitTowersModel" ∧ yX10_goesAlong.cls ≠ "java/lang/invoke/MethodHandle" ∧ yX10_goesAlong.cls ≠ "java/lang/invoke/VarHandle" ∧ (parseMethodDescriptor yX10_goesAlong.desc).map (fun d => d.parameters.length) = some 1 := by decide +kernel
set_option maxHeartbeats 4000000 in
set_option maxRecDepth 100000 in
theorem s_X10_goesAlong {l : Launch} {D : va_G} {aC : Nat → ClassId} {B lo hi : Nat} {σ : SG} {a1 : Int} {Q : Int → SG → Prop} (hlo : lo ≤ 304) (hhi : 316 ≤ hi) (r1 : inR a1) (h : wp_X10_goesAlong σ a1 Q) : Met l yX10_goesAlong (Cond.code yX10_goesAlong prog_12_method_61_code 4 (some .boolean) :: WS) rm_X10_goesAlong (va_Pc [.ref (B + 304), .int (iI a1)] (WP D aC B lo hi σ)) (QI D aC B lo hi Q) 0 0 (AB B lo hi) := by
  refine met_of (by decide +kernel) (by decide +kernel : yX10_goesAlong.cls = "SplitTowersModel") (Nat.le_of_ble_eq_true rfl) ?_
  intro p e s m args below meth c C
  unfold wp_X10_goesAlong at h
  refine v_R (fun hR0 => ?_)
  show V p l e rm_X10_goesAlong s m args below meth c D aC B lo hi 4 (MQ below (QI D aC B lo hi Q) args s 0 0 (AB B lo hi)) σ 0 [(0, .ref (B + 304)), (1, .int (iI a1))] []
  refine v_aload_n C 0 dX10_goesAlong_0 rfl rfl ?_
  refine v_iconst C dX10_goesAlong_1 ?_
  refine pf10_at C hlo hhi (by decide) w887 dX10_goesAlong_2 ?_
  refine v_nameS (fun σ1 eσ1 => ?_)
  have h := h σ1 eσ1
  refine v_R (fun hRσ1 => ?_)
  refine v_aload_n C 0 dX10_goesAlong_5 rfl rfl ?_
  refine v_bipush C dX10_goesAlong_6 (by decide) ?_
  refine v_bipush C dX10_goesAlong_8 (by decide) ?_
  refine v_calli (i := 304) (As := [.int (iI 97), .int (iI 102)]) (rest := []) C (s_X10_isBetween hlo hhi (by decide) (by decide) h) w940 wy_X10_isBetween ⟨rfl, rfl⟩ hd_X10_isBetween ⟨Nat.le_of_ble_eq_true rfl, Nat.le_of_ble_eq_true rfl⟩ (Nat.le_trans hlo (by decide)) (Nat.lt_of_lt_of_le (by decide) hhi) rfl rfl rfl rfl (Nat.le_of_ble_eq_true rfl) dX10_goesAlong_10 (fun z3 σ2 rz3 h => ?_)
  refine v_R (fun hRσ2 => ?_)
  refine v_if_ne C rz3 18 dX10_goesAlong_13 (by decide) (fun c223 => ?_) (fun c223 => ?_)
  · have h := h.1 c223
    refine v_aload_n C 0 dX10_goesAlong_18 rfl rfl ?_
    refine v_dup C rfl dX10_goesAlong_19 ?_
    refine gf10_at C hlo hhi w887 dX10_goesAlong_20 ?_
    refine v_iconst C dX10_goesAlong_23 ?_
    have k4 := h.1
    have h := h.2
    refine v_iadd C dX10_goesAlong_24 ?_
    refine pf10_at C hlo hhi k4 w887 dX10_goesAlong_25 ?_
    refine v_nameS (fun σ5 eσ5 => ?_)
    have h := h σ5 eσ5
    refine v_R (fun hRσ5 => ?_)
    refine v_aload_n C 0 dX10_goesAlong_28 rfl rfl ?_
    refine v_bipush C dX10_goesAlong_29 (by decide) ?_
    refine v_calli (i := 304) (As := [.int (iI 61)]) (rest := []) C (s_X10_takes hlo hhi (by decide) h) w947 wy_X10_takes ⟨rfl, rfl⟩ hd_X10_takes ⟨Nat.le_of_ble_eq_true rfl, Nat.le_of_ble_eq_true rfl⟩ (Nat.le_trans hlo (by decide)) (Nat.lt_of_lt_of_le (by decide) hhi) rfl rfl rfl rfl (Nat.le_of_ble_eq_true rfl) dX10_goesAlong_31 (fun z7 σ6 rz7 h => ?_)
    refine v_R (fun hRσ6 => ?_)
    refine v_if_ne C rz7 39 dX10_goesAlong_34 (by decide) (fun c222 => ?_) (fun c222 => ?_)
    · have h := h.1 c222
      refine v_iconst C dX10_goesAlong_39 ?_
      refine v_istore_n (lv' := [(2, .int (iI 0)), (0, .ref (B + 304)), (1, .int (iI a1))]) C dX10_goesAlong_40 rfl (by decide) rfl ?_
      refine v_aload_n C 1 dX10_goesAlong_41 rfl rfl ?_
      refine gf10_toSum C hlo hhi w889 dX10_goesAlong_42 ?_
      refine v_iconst C dX10_goesAlong_45 ?_
      refine v_iconst C dX10_goesAlong_46 ?_
      refine v_iast (i := 313) (n := 6) C (Nat.le_trans hlo (by decide)) (Nat.lt_of_lt_of_le (by decide) hhi) (fun _ => rfl) (by decide) ⟨by decide, by decide⟩ (by decide) dX10_goesAlong_47 ?_
      refine v_nameS (fun σ8 eσ8 => ?_)
      have h := h σ8 eσ8
      refine v_R (fun hRσ8 => ?_)
      refine v_aload_n C 1 dX10_goesAlong_48 rfl rfl ?_
      refine gf10_toProduct C hlo hhi w890 dX10_goesAlong_49 ?_
      refine v_iconst C dX10_goesAlong_52 ?_
      refine v_iconst C dX10_goesAlong_53 ?_
      refine v_iast (i := 314) (n := 6) C (Nat.le_trans hlo (by decide)) (Nat.lt_of_lt_of_le (by decide) hhi) (fun _ => rfl) (by decide) ⟨by decide, by decide⟩ (by decide) dX10_goesAlong_54 ?_
      refine v_nameS (fun σ9 eσ9 => ?_)
      have h := h σ9 eσ9
      refine v_R (fun hRσ9 => ?_)
      obtain ⟨I220, ⟨n221, hnn221⟩, hII220⟩ := h
      have key14 : ∀ (n : Nat) (x10 : Int) (σ11 : SG), I220 n x10 σ11 → inR x10 → V p l e rm_X10_goesAlong s m args below meth c D aC B lo hi 4 (MQ below (QI D aC B lo hi Q) args s 0 0 (AB B lo hi)) σ11 55 [(2, .int (iI x10)), (0, .ref (B + 304)), (1, .int (iI a1))] [] := by
        intro n
        induction n using Nat.strongRecOn with
        | ind n ih13 =>
          intro x10 σ11 hn rx10
          have h := hII220 n x10 σ11 hn
          refine v_R (fun hRσ11 => ?_)
          refine v_iload_n C 0 dX10_goesAlong_55 rfl rfl ?_
          refine v_iconst C dX10_goesAlong_56 ?_
          refine v_icmp_ge C rx10 (by decide) 89 dX10_goesAlong_57 (by decide) (fun c219 => ?_) (fun c219 => ?_)
          · have h := h.1 c219
            refine v_aload_n C 1 dX10_goesAlong_89 rfl rfl ?_
            refine v_iload_n C 2 dX10_goesAlong_90 rfl rfl ?_
            refine v_calli (i := 304) (As := [.int (iI a1)]) (rest := []) C (s_X10_takesSimple hlo hhi r1 h) w1142 wy_X10_takesSimple ⟨rfl, rfl⟩ hd_X10_takesSimple ⟨Nat.le_of_ble_eq_true rfl, Nat.le_of_ble_eq_true rfl⟩ (Nat.le_trans hlo (by decide)) (Nat.lt_of_lt_of_le (by decide) hhi) rfl rfl rfl rfl (Nat.le_of_ble_eq_true rfl) dX10_goesAlong_91 (fun z16 σ15 rz16 h => ?_)
            refine v_R (fun hRσ15 => ?_)
            refine v_if_eq C rz16 105 dX10_goesAlong_94 (by decide) (fun c112 => ?_) (fun c112 => ?_)
            · have h := h.1 c112
              refine v_iconst C dX10_goesAlong_105 ?_
              exact v_zret C (by decide) h dX10_goesAlong_106
            · have h := h.2 c112
              refine v_aload_n C 1 dX10_goesAlong_97 rfl rfl ?_
              refine v_iload_n C 2 dX10_goesAlong_98 rfl rfl ?_
              refine v_calli (i := 304) (As := [.int (iI a1)]) (rest := []) C (s_X10_takesPower hlo hhi r1 h) w1146 wy_X10_takesPower ⟨rfl, rfl⟩ hd_X10_takesPower ⟨Nat.le_of_ble_eq_true rfl, Nat.le_of_ble_eq_true rfl⟩ (Nat.le_trans hlo (by decide)) (Nat.lt_of_lt_of_le (by decide) hhi) rfl rfl rfl rfl (Nat.le_of_ble_eq_true rfl) dX10_goesAlong_99 (fun z18 σ17 rz18 h => ?_)
              refine v_R (fun hRσ17 => ?_)
              refine v_if_ne C rz18 107 dX10_goesAlong_102 (by decide) (fun c111 => ?_) (fun c111 => ?_)
              · have h := h.1 c111
                refine v_aload_n C 1 dX10_goesAlong_107 rfl rfl ?_
                refine v_iload_n C 0 dX10_goesAlong_108 rfl rfl ?_
                refine v_iload_n C 2 dX10_goesAlong_109 rfl rfl ?_
                refine v_callv (i := 304) (As := [.int (iI x10), .int (iI a1)]) (rest := []) C (s_X10_joinsProduct hlo hhi rx10 r1 h) w1150 wy_X10_joinsProduct ⟨rfl, rfl⟩ hd_X10_joinsProduct ⟨Nat.le_of_ble_eq_true rfl, Nat.le_of_ble_eq_true rfl⟩ (Nat.le_trans hlo (by decide)) (Nat.lt_of_lt_of_le (by decide) hhi) rfl rfl rfl rfl (Nat.le_of_ble_eq_true rfl) dX10_goesAlong_110 (fun σ19 h => ?_)
                refine v_R (fun hRσ19 => ?_)
                obtain ⟨I109, ⟨n110, hnn110⟩, hII109⟩ := h
                have key24 : ∀ (n : Nat) (x20 : Int) (σ21 : SG), I109 n x20 σ21 → inR x20 → V p l e rm_X10_goesAlong s m args below meth c D aC B lo hi 4 (MQ below (QI D aC B lo hi Q) args s 0 0 (AB B lo hi)) σ21 113 [(2, .int (iI x20)), (0, .ref (B + 304)), (1, .int (iI a1))] [] := by
                  intro n
                  induction n using Nat.strongRecOn with
                  | ind n ih23 =>
                    intro x20 σ21 hn rx20
                    have h := hII109 n x20 σ21 hn
                    refine v_R (fun hRσ21 => ?_)
                    refine v_iload_n C 0 dX10_goesAlong_113 rfl rfl ?_
                    refine v_if_le C rx20 164 dX10_goesAlong_114 (by decide) (fun c108 => ?_) (fun c108 => ?_)
                    · have h := h.1 c108
                      refine v_aload_n C 1 dX10_goesAlong_164 rfl rfl ?_
                      refine gf10_at C hlo hhi w887 dX10_goesAlong_165 ?_
                      refine v_aload_n C 1 dX10_goesAlong_168 rfl rfl ?_
                      refine gf10_typed C hlo hhi w885 dX10_goesAlong_169 ?_
                      refine v_icmp_ne C (hRσ21 304 10) (hRσ21 304 8) 203 dX10_goesAlong_172 (by decide) (fun c60 => ?_) (fun c60 => ?_)
                      · have h := h.1 c60
                        refine v_aload_n C 1 dX10_goesAlong_203 rfl rfl ?_
                        refine gf10_text C hlo hhi w886 dX10_goesAlong_204 ?_
                        refine v_aload_n C 1 dX10_goesAlong_207 rfl rfl ?_
                        refine gf10_at C hlo hhi w887 dX10_goesAlong_208 ?_
                        have k25 := h.1
                        have h := h.2
                        refine v_cald (i := 311) (n := 60) C (Nat.le_trans hlo (by decide)) (Nat.lt_of_lt_of_le (by decide) hhi) rfl (hRσ21 304 10) k25 dX10_goesAlong_211 ?_
                        refine v_name (fun v26 ev26 => ?_)
                        have h := h v26 ev26
                        have rv26 : inR v26 := by rw [ev26]; exact (hRσ21 311 _)
                        refine v_istore_n (lv' := [(3, .int (iI v26)), (2, .int (iI x20)), (0, .ref (B + 304)), (1, .int (iI a1))]) C dX10_goesAlong_212 rfl (by decide) rfl ?_
                        refine v_iload_n C 0 dX10_goesAlong_213 rfl rfl ?_
                        refine v_bipush C dX10_goesAlong_214 (by decide) ?_
                        refine v_icmp_eq C rv26 (by decide) 225 dX10_goesAlong_216 (by decide) (fun c52 => ?_) (fun c52 => ?_)
                        · have h := h.1 c52
                          refine v_aload_n C 2 dX10_goesAlong_225 rfl rfl ?_
                          refine v_iload_n C 1 dX10_goesAlong_226 rfl rfl ?_
                          refine v_iload_n C 3 dX10_goesAlong_227 rfl rfl ?_
                          refine v_callv (i := 304) (As := [.int (iI x20), .int (iI a1)]) (rest := []) C (s_X10_joinsSum hlo hhi rx20 r1 h) w1158 wy_X10_joinsSum ⟨rfl, rfl⟩ hd_X10_joinsSum ⟨Nat.le_of_ble_eq_true rfl, Nat.le_of_ble_eq_true rfl⟩ (Nat.le_trans hlo (by decide)) (Nat.lt_of_lt_of_le (by decide) hhi) rfl rfl rfl rfl (Nat.le_of_ble_eq_true rfl) dX10_goesAlong_228 (fun σ27 h => ?_)
                          refine v_R (fun hRσ27 => ?_)
                          refine v_aload_n C 2 dX10_goesAlong_231 rfl rfl ?_
                          refine gf10_toSum C hlo hhi w889 dX10_goesAlong_232 ?_
                          refine v_iload_n C 1 dX10_goesAlong_235 rfl rfl ?_
                          refine v_iload_n C 0 dX10_goesAlong_236 rfl rfl ?_
                          have k28 := h.1
                          have h := h.2
                          refine v_iast (i := 313) (n := 6) C (Nat.le_trans hlo (by decide)) (Nat.lt_of_lt_of_le (by decide) hhi) (fun _ => rfl) rx20 k28 rv26 dX10_goesAlong_237 ?_
                          refine v_nameS (fun σ29 eσ29 => ?_)
                          have h := h σ29 eσ29
                          refine v_R (fun hRσ29 => ?_)
                          refine v_aload_n C 2 dX10_goesAlong_238 rfl rfl ?_
                          refine gf10_toProduct C hlo hhi w890 dX10_goesAlong_239 ?_
                          refine v_iload_n C 1 dX10_goesAlong_242 rfl rfl ?_
                          refine v_iconst C dX10_goesAlong_243 ?_
                          have k30 := h.1
                          have h := h.2
                          refine v_iast (i := 314) (n := 6) C (Nat.le_trans hlo (by decide)) (Nat.lt_of_lt_of_le (by decide) hhi) (fun _ => rfl) rx20 k30 (by decide) dX10_goesAlong_244 ?_
                          refine v_nameS (fun σ31 eσ31 => ?_)
                          have h := h σ31 eσ31
                          refine v_R (fun hRσ31 => ?_)
                          refine v_goto C 272 dX10_goesAlong_245 (by decide) ?_
                          refine v_aload_n C 2 dX10_goesAlong_272 rfl rfl ?_
                          refine v_dup C rfl dX10_goesAlong_273 ?_
                          refine gf10_at C hlo hhi w887 dX10_goesAlong_274 ?_
                          refine v_iconst C dX10_goesAlong_277 ?_
                          have k32 := h.1
                          have h := h.2
                          refine v_iadd C dX10_goesAlong_278 ?_
                          refine pf10_at C hlo hhi k32 w887 dX10_goesAlong_279 ?_
                          refine v_nameS (fun σ33 eσ33 => ?_)
                          have h := h σ33 eσ33
                          refine v_R (fun hRσ33 => ?_)
                          refine v_goto C 55 dX10_goesAlong_282 (by decide) ?_
                          obtain ⟨m9, hm9, h⟩ := h
                          refine v_sub [1, 2, 3] rfl ?_
                          exact ih13 m9 hm9 x20 σ33 h rx20
                        · have h := h.2 c52
                          refine v_iload_n C 0 dX10_goesAlong_219 rfl rfl ?_
                          refine v_bipush C dX10_goesAlong_220 (by decide) ?_
                          refine v_icmp_ne C rv26 (by decide) 248 dX10_goesAlong_222 (by decide) (fun c51 => ?_) (fun c51 => ?_)
                          · have h := h.1 c51
                            refine v_iload_n C 0 dX10_goesAlong_248 rfl rfl ?_
                            refine v_bipush C dX10_goesAlong_249 (by decide) ?_
                            refine v_icmp_eq C rv26 (by decide) 260 dX10_goesAlong_251 (by decide) (fun c43 => ?_) (fun c43 => ?_)
                            · have h := h.1 c43
                              refine v_aload_n C 2 dX10_goesAlong_260 rfl rfl ?_
                              refine gf10_toProduct C hlo hhi w890 dX10_goesAlong_261 ?_
                              refine v_iload_n C 1 dX10_goesAlong_264 rfl rfl ?_
                              refine v_iload_n C 0 dX10_goesAlong_265 rfl rfl ?_
                              have k34 := h.1
                              have h := h.2
                              refine v_iast (i := 314) (n := 6) C (Nat.le_trans hlo (by decide)) (Nat.lt_of_lt_of_le (by decide) hhi) (fun _ => rfl) rx20 k34 rv26 dX10_goesAlong_266 ?_
                              refine v_nameS (fun σ35 eσ35 => ?_)
                              have h := h σ35 eσ35
                              refine v_R (fun hRσ35 => ?_)
                              refine v_goto C 272 dX10_goesAlong_267 (by decide) ?_
                              refine v_aload_n C 2 dX10_goesAlong_272 rfl rfl ?_
                              refine v_dup C rfl dX10_goesAlong_273 ?_
                              refine gf10_at C hlo hhi w887 dX10_goesAlong_274 ?_
                              refine v_iconst C dX10_goesAlong_277 ?_
                              have k36 := h.1
                              have h := h.2
                              refine v_iadd C dX10_goesAlong_278 ?_
                              refine pf10_at C hlo hhi k36 w887 dX10_goesAlong_279 ?_
                              refine v_nameS (fun σ37 eσ37 => ?_)
                              have h := h σ37 eσ37
                              refine v_R (fun hRσ37 => ?_)
                              refine v_goto C 55 dX10_goesAlong_282 (by decide) ?_
                              obtain ⟨m9, hm9, h⟩ := h
                              refine v_sub [1, 2, 3] rfl ?_
                              exact ih13 m9 hm9 x20 σ37 h rx20
                            · have h := h.2 c43
                              refine v_iload_n C 0 dX10_goesAlong_254 rfl rfl ?_
                              refine v_bipush C dX10_goesAlong_255 (by decide) ?_
                              refine v_icmp_ne C rv26 (by decide) 270 dX10_goesAlong_257 (by decide) (fun c42 => ?_) (fun c42 => ?_)
                              · have h := h.1 c42
                                refine v_iconst C dX10_goesAlong_270 ?_
                                exact v_zret C (by decide) h dX10_goesAlong_271
                              · have h := h.2 c42
                                refine v_aload_n C 2 dX10_goesAlong_260 rfl rfl ?_
                                refine gf10_toProduct C hlo hhi w890 dX10_goesAlong_261 ?_
                                refine v_iload_n C 1 dX10_goesAlong_264 rfl rfl ?_
                                refine v_iload_n C 0 dX10_goesAlong_265 rfl rfl ?_
                                have k38 := h.1
                                have h := h.2
                                refine v_iast (i := 314) (n := 6) C (Nat.le_trans hlo (by decide)) (Nat.lt_of_lt_of_le (by decide) hhi) (fun _ => rfl) rx20 k38 rv26 dX10_goesAlong_266 ?_
                                refine v_nameS (fun σ39 eσ39 => ?_)
                                have h := h σ39 eσ39
                                refine v_R (fun hRσ39 => ?_)
                                refine v_goto C 272 dX10_goesAlong_267 (by decide) ?_
                                refine v_aload_n C 2 dX10_goesAlong_272 rfl rfl ?_
                                refine v_dup C rfl dX10_goesAlong_273 ?_
                                refine gf10_at C hlo hhi w887 dX10_goesAlong_274 ?_
                                refine v_iconst C dX10_goesAlong_277 ?_
                                have k40 := h.1
                                have h := h.2
                                refine v_iadd C dX10_goesAlong_278 ?_
                                refine pf10_at C hlo hhi k40 w887 dX10_goesAlong_279 ?_
                                refine v_nameS (fun σ41 eσ41 => ?_)
                                have h := h σ41 eσ41
                                refine v_R (fun hRσ41 => ?_)
                                refine v_goto C 55 dX10_goesAlong_282 (by decide) ?_
                                obtain ⟨m9, hm9, h⟩ := h
                                refine v_sub [1, 2, 3] rfl ?_
                                exact ih13 m9 hm9 x20 σ41 h rx20
                          · have h := h.2 c51
                            refine v_aload_n C 2 dX10_goesAlong_225 rfl rfl ?_
                            refine v_iload_n C 1 dX10_goesAlong_226 rfl rfl ?_
                            refine v_iload_n C 3 dX10_goesAlong_227 rfl rfl ?_
                            refine v_callv (i := 304) (As := [.int (iI x20), .int (iI a1)]) (rest := []) C (s_X10_joinsSum hlo hhi rx20 r1 h) w1158 wy_X10_joinsSum ⟨rfl, rfl⟩ hd_X10_joinsSum ⟨Nat.le_of_ble_eq_true rfl, Nat.le_of_ble_eq_true rfl⟩ (Nat.le_trans hlo (by decide)) (Nat.lt_of_lt_of_le (by decide) hhi) rfl rfl rfl rfl (Nat.le_of_ble_eq_true rfl) dX10_goesAlong_228 (fun σ44 h => ?_)
                            refine v_R (fun hRσ44 => ?_)
                            refine v_aload_n C 2 dX10_goesAlong_231 rfl rfl ?_
                            refine gf10_toSum C hlo hhi w889 dX10_goesAlong_232 ?_
                            refine v_iload_n C 1 dX10_goesAlong_235 rfl rfl ?_
                            refine v_iload_n C 0 dX10_goesAlong_236 rfl rfl ?_
                            have k45 := h.1
                            have h := h.2
                            refine v_iast (i := 313) (n := 6) C (Nat.le_trans hlo (by decide)) (Nat.lt_of_lt_of_le (by decide) hhi) (fun _ => rfl) rx20 k45 rv26 dX10_goesAlong_237 ?_
                            refine v_nameS (fun σ46 eσ46 => ?_)
                            have h := h σ46 eσ46
                            refine v_R (fun hRσ46 => ?_)
                            refine v_aload_n C 2 dX10_goesAlong_238 rfl rfl ?_
                            refine gf10_toProduct C hlo hhi w890 dX10_goesAlong_239 ?_
                            refine v_iload_n C 1 dX10_goesAlong_242 rfl rfl ?_
                            refine v_iconst C dX10_goesAlong_243 ?_
                            have k47 := h.1
                            have h := h.2
                            refine v_iast (i := 314) (n := 6) C (Nat.le_trans hlo (by decide)) (Nat.lt_of_lt_of_le (by decide) hhi) (fun _ => rfl) rx20 k47 (by decide) dX10_goesAlong_244 ?_
                            refine v_nameS (fun σ48 eσ48 => ?_)
                            have h := h σ48 eσ48
                            refine v_R (fun hRσ48 => ?_)
                            refine v_goto C 272 dX10_goesAlong_245 (by decide) ?_
                            refine v_aload_n C 2 dX10_goesAlong_272 rfl rfl ?_
                            refine v_dup C rfl dX10_goesAlong_273 ?_
                            refine gf10_at C hlo hhi w887 dX10_goesAlong_274 ?_
                            refine v_iconst C dX10_goesAlong_277 ?_
                            have k49 := h.1
                            have h := h.2
                            refine v_iadd C dX10_goesAlong_278 ?_
                            refine pf10_at C hlo hhi k49 w887 dX10_goesAlong_279 ?_
                            refine v_nameS (fun σ50 eσ50 => ?_)
                            have h := h σ50 eσ50
                            refine v_R (fun hRσ50 => ?_)
                            refine v_goto C 55 dX10_goesAlong_282 (by decide) ?_
                            obtain ⟨m9, hm9, h⟩ := h
                            refine v_sub [1, 2, 3] rfl ?_
                            exact ih13 m9 hm9 x20 σ50 h rx20
                      · have h := h.2 c60
                        refine v_aload_n C 1 dX10_goesAlong_175 rfl rfl ?_
                        refine v_iconst C dX10_goesAlong_176 ?_
                        refine v_iload_n C 2 dX10_goesAlong_177 rfl rfl ?_
                        obtain ⟨J55, hJ55, h⟩ := h
                        have kJ55 : ∀ (x53 : Int) (σ54 : SG), J55 x53 σ54 → inR x53 → V p l e rm_X10_goesAlong s m args below meth c D aC B lo hi 4 (MQ below (QI D aC B lo hi Q) args s 0 0 (AB B lo hi)) σ54 190 [(2, .int (iI x20))] [.int (iI x53), .int (iI 0), .ref (B + 304)] := by
                          intro x53 σ54 hj rx53
                          have h := hJ55 x53 σ54 hj
                          refine v_R (fun hRσ54 => ?_)
                          refine v_callv (i := 304) (As := [.int (iI 0), .int (iI x53)]) (rest := []) C (s_X10_joinsSum hlo hhi (by decide) rx53 h) w1158 wy_X10_joinsSum ⟨rfl, rfl⟩ hd_X10_joinsSum ⟨Nat.le_of_ble_eq_true rfl, Nat.le_of_ble_eq_true rfl⟩ (Nat.le_trans hlo (by decide)) (Nat.lt_of_lt_of_le (by decide) hhi) rfl rfl rfl rfl (Nat.le_of_ble_eq_true rfl) dX10_goesAlong_190 (fun σ56 h => ?_)
                          refine v_R (fun hRσ56 => ?_)
                          refine v_iload_n C 0 dX10_goesAlong_193 rfl rfl ?_
                          refine v_if_ne C rx20 201 dX10_goesAlong_194 (by decide) (fun c57 => ?_) (fun c57 => ?_)
                          · have h := h.1 c57
                            refine v_iconst C dX10_goesAlong_201 ?_
                            exact v_zret C (by decide) h dX10_goesAlong_202
                          · have h := h.2 c57
                            refine v_iconst C dX10_goesAlong_197 ?_
                            refine v_goto C 202 dX10_goesAlong_198 (by decide) ?_
                            exact v_zret C (by decide) h dX10_goesAlong_202
                        refine v_if_eq C r1 189 dX10_goesAlong_178 (by decide) (fun c59 => ?_) (fun c59 => ?_)
                        · have h := h.1 c59
                          refine v_iconst C dX10_goesAlong_189 ?_
                          refine v_sub [0] rfl ?_
                          exact kJ55 0 σ21 h (by decide)
                        · have h := h.2 c59
                          refine v_iload_n C 0 dX10_goesAlong_181 rfl rfl ?_
                          refine v_if_ne C rx20 189 dX10_goesAlong_182 (by decide) (fun c58 => ?_) (fun c58 => ?_)
                          · have h := h.1 c58
                            refine v_iconst C dX10_goesAlong_189 ?_
                            refine v_sub [0] rfl ?_
                            exact kJ55 0 σ21 h (by decide)
                          · have h := h.2 c58
                            refine v_iconst C dX10_goesAlong_185 ?_
                            refine v_goto C 190 dX10_goesAlong_186 (by decide) ?_
                            refine v_sub [0] rfl ?_
                            exact kJ55 1 σ21 h (by decide)
                    · have h := h.2 c108
                      refine v_aload_n C 1 dX10_goesAlong_117 rfl rfl ?_
                      refine v_bipush C dX10_goesAlong_118 (by decide) ?_
                      refine v_calli (i := 304) (As := [.int (iI 41)]) (rest := []) C (s_X10_takes hlo hhi (by decide) h) w947 wy_X10_takes ⟨rfl, rfl⟩ hd_X10_takes ⟨Nat.le_of_ble_eq_true rfl, Nat.le_of_ble_eq_true rfl⟩ (Nat.le_trans hlo (by decide)) (Nat.lt_of_lt_of_le (by decide) hhi) rfl rfl rfl rfl (Nat.le_of_ble_eq_true rfl) dX10_goesAlong_120 (fun z62 σ61 rz62 h => ?_)
                      refine v_R (fun hRσ61 => ?_)
                      refine v_if_eq C rz62 164 dX10_goesAlong_123 (by decide) (fun c107 => ?_) (fun c107 => ?_)
                      · have h := h.1 c107
                        refine v_aload_n C 1 dX10_goesAlong_164 rfl rfl ?_
                        refine gf10_at C hlo hhi w887 dX10_goesAlong_165 ?_
                        refine v_aload_n C 1 dX10_goesAlong_168 rfl rfl ?_
                        refine gf10_typed C hlo hhi w885 dX10_goesAlong_169 ?_
                        refine v_icmp_ne C (hRσ61 304 10) (hRσ61 304 8) 203 dX10_goesAlong_172 (by decide) (fun c98 => ?_) (fun c98 => ?_)
                        · have h := h.1 c98
                          refine v_aload_n C 1 dX10_goesAlong_203 rfl rfl ?_
                          refine gf10_text C hlo hhi w886 dX10_goesAlong_204 ?_
                          refine v_aload_n C 1 dX10_goesAlong_207 rfl rfl ?_
                          refine gf10_at C hlo hhi w887 dX10_goesAlong_208 ?_
                          have k63 := h.1
                          have h := h.2
                          refine v_cald (i := 311) (n := 60) C (Nat.le_trans hlo (by decide)) (Nat.lt_of_lt_of_le (by decide) hhi) rfl (hRσ61 304 10) k63 dX10_goesAlong_211 ?_
                          refine v_name (fun v64 ev64 => ?_)
                          have h := h v64 ev64
                          have rv64 : inR v64 := by rw [ev64]; exact (hRσ61 311 _)
                          refine v_istore_n (lv' := [(3, .int (iI v64)), (2, .int (iI x20)), (0, .ref (B + 304)), (1, .int (iI a1))]) C dX10_goesAlong_212 rfl (by decide) rfl ?_
                          refine v_iload_n C 0 dX10_goesAlong_213 rfl rfl ?_
                          refine v_bipush C dX10_goesAlong_214 (by decide) ?_
                          refine v_icmp_eq C rv64 (by decide) 225 dX10_goesAlong_216 (by decide) (fun c90 => ?_) (fun c90 => ?_)
                          · have h := h.1 c90
                            refine v_aload_n C 2 dX10_goesAlong_225 rfl rfl ?_
                            refine v_iload_n C 1 dX10_goesAlong_226 rfl rfl ?_
                            refine v_iload_n C 3 dX10_goesAlong_227 rfl rfl ?_
                            refine v_callv (i := 304) (As := [.int (iI x20), .int (iI a1)]) (rest := []) C (s_X10_joinsSum hlo hhi rx20 r1 h) w1158 wy_X10_joinsSum ⟨rfl, rfl⟩ hd_X10_joinsSum ⟨Nat.le_of_ble_eq_true rfl, Nat.le_of_ble_eq_true rfl⟩ (Nat.le_trans hlo (by decide)) (Nat.lt_of_lt_of_le (by decide) hhi) rfl rfl rfl rfl (Nat.le_of_ble_eq_true rfl) dX10_goesAlong_228 (fun σ65 h => ?_)
                            refine v_R (fun hRσ65 => ?_)
                            refine v_aload_n C 2 dX10_goesAlong_231 rfl rfl ?_
                            refine gf10_toSum C hlo hhi w889 dX10_goesAlong_232 ?_
                            refine v_iload_n C 1 dX10_goesAlong_235 rfl rfl ?_
                            refine v_iload_n C 0 dX10_goesAlong_236 rfl rfl ?_
                            have k66 := h.1
                            have h := h.2
                            refine v_iast (i := 313) (n := 6) C (Nat.le_trans hlo (by decide)) (Nat.lt_of_lt_of_le (by decide) hhi) (fun _ => rfl) rx20 k66 rv64 dX10_goesAlong_237 ?_
                            refine v_nameS (fun σ67 eσ67 => ?_)
                            have h := h σ67 eσ67
                            refine v_R (fun hRσ67 => ?_)
                            refine v_aload_n C 2 dX10_goesAlong_238 rfl rfl ?_
                            refine gf10_toProduct C hlo hhi w890 dX10_goesAlong_239 ?_
                            refine v_iload_n C 1 dX10_goesAlong_242 rfl rfl ?_
                            refine v_iconst C dX10_goesAlong_243 ?_
                            have k68 := h.1
                            have h := h.2
                            refine v_iast (i := 314) (n := 6) C (Nat.le_trans hlo (by decide)) (Nat.lt_of_lt_of_le (by decide) hhi) (fun _ => rfl) rx20 k68 (by decide) dX10_goesAlong_244 ?_
                            refine v_nameS (fun σ69 eσ69 => ?_)
                            have h := h σ69 eσ69
                            refine v_R (fun hRσ69 => ?_)
                            refine v_goto C 272 dX10_goesAlong_245 (by decide) ?_
                            refine v_aload_n C 2 dX10_goesAlong_272 rfl rfl ?_
                            refine v_dup C rfl dX10_goesAlong_273 ?_
                            refine gf10_at C hlo hhi w887 dX10_goesAlong_274 ?_
                            refine v_iconst C dX10_goesAlong_277 ?_
                            have k70 := h.1
                            have h := h.2
                            refine v_iadd C dX10_goesAlong_278 ?_
                            refine pf10_at C hlo hhi k70 w887 dX10_goesAlong_279 ?_
                            refine v_nameS (fun σ71 eσ71 => ?_)
                            have h := h σ71 eσ71
                            refine v_R (fun hRσ71 => ?_)
                            refine v_goto C 55 dX10_goesAlong_282 (by decide) ?_
                            obtain ⟨m9, hm9, h⟩ := h
                            refine v_sub [1, 2, 3] rfl ?_
                            exact ih13 m9 hm9 x20 σ71 h rx20
                          · have h := h.2 c90
                            refine v_iload_n C 0 dX10_goesAlong_219 rfl rfl ?_
                            refine v_bipush C dX10_goesAlong_220 (by decide) ?_
                            refine v_icmp_ne C rv64 (by decide) 248 dX10_goesAlong_222 (by decide) (fun c89 => ?_) (fun c89 => ?_)
                            · have h := h.1 c89
                              refine v_iload_n C 0 dX10_goesAlong_248 rfl rfl ?_
                              refine v_bipush C dX10_goesAlong_249 (by decide) ?_
                              refine v_icmp_eq C rv64 (by decide) 260 dX10_goesAlong_251 (by decide) (fun c81 => ?_) (fun c81 => ?_)
                              · have h := h.1 c81
                                refine v_aload_n C 2 dX10_goesAlong_260 rfl rfl ?_
                                refine gf10_toProduct C hlo hhi w890 dX10_goesAlong_261 ?_
                                refine v_iload_n C 1 dX10_goesAlong_264 rfl rfl ?_
                                refine v_iload_n C 0 dX10_goesAlong_265 rfl rfl ?_
                                have k72 := h.1
                                have h := h.2
                                refine v_iast (i := 314) (n := 6) C (Nat.le_trans hlo (by decide)) (Nat.lt_of_lt_of_le (by decide) hhi) (fun _ => rfl) rx20 k72 rv64 dX10_goesAlong_266 ?_
                                refine v_nameS (fun σ73 eσ73 => ?_)
                                have h := h σ73 eσ73
                                refine v_R (fun hRσ73 => ?_)
                                refine v_goto C 272 dX10_goesAlong_267 (by decide) ?_
                                refine v_aload_n C 2 dX10_goesAlong_272 rfl rfl ?_
                                refine v_dup C rfl dX10_goesAlong_273 ?_
                                refine gf10_at C hlo hhi w887 dX10_goesAlong_274 ?_
                                refine v_iconst C dX10_goesAlong_277 ?_
                                have k74 := h.1
                                have h := h.2
                                refine v_iadd C dX10_goesAlong_278 ?_
                                refine pf10_at C hlo hhi k74 w887 dX10_goesAlong_279 ?_
                                refine v_nameS (fun σ75 eσ75 => ?_)
                                have h := h σ75 eσ75
                                refine v_R (fun hRσ75 => ?_)
                                refine v_goto C 55 dX10_goesAlong_282 (by decide) ?_
                                obtain ⟨m9, hm9, h⟩ := h
                                refine v_sub [1, 2, 3] rfl ?_
                                exact ih13 m9 hm9 x20 σ75 h rx20
                              · have h := h.2 c81
                                refine v_iload_n C 0 dX10_goesAlong_254 rfl rfl ?_
                                refine v_bipush C dX10_goesAlong_255 (by decide) ?_
                                refine v_icmp_ne C rv64 (by decide) 270 dX10_goesAlong_257 (by decide) (fun c80 => ?_) (fun c80 => ?_)
                                · have h := h.1 c80
                                  refine v_iconst C dX10_goesAlong_270 ?_
                                  exact v_zret C (by decide) h dX10_goesAlong_271
                                · have h := h.2 c80
                                  refine v_aload_n C 2 dX10_goesAlong_260 rfl rfl ?_
                                  refine gf10_toProduct C hlo hhi w890 dX10_goesAlong_261 ?_
                                  refine v_iload_n C 1 dX10_goesAlong_264 rfl rfl ?_
                                  refine v_iload_n C 0 dX10_goesAlong_265 rfl rfl ?_
                                  have k76 := h.1
                                  have h := h.2
                                  refine v_iast (i := 314) (n := 6) C (Nat.le_trans hlo (by decide)) (Nat.lt_of_lt_of_le (by decide) hhi) (fun _ => rfl) rx20 k76 rv64 dX10_goesAlong_266 ?_
                                  refine v_nameS (fun σ77 eσ77 => ?_)
                                  have h := h σ77 eσ77
                                  refine v_R (fun hRσ77 => ?_)
                                  refine v_goto C 272 dX10_goesAlong_267 (by decide) ?_
                                  refine v_aload_n C 2 dX10_goesAlong_272 rfl rfl ?_
                                  refine v_dup C rfl dX10_goesAlong_273 ?_
                                  refine gf10_at C hlo hhi w887 dX10_goesAlong_274 ?_
                                  refine v_iconst C dX10_goesAlong_277 ?_
                                  have k78 := h.1
                                  have h := h.2
                                  refine v_iadd C dX10_goesAlong_278 ?_
                                  refine pf10_at C hlo hhi k78 w887 dX10_goesAlong_279 ?_
                                  refine v_nameS (fun σ79 eσ79 => ?_)
                                  have h := h σ79 eσ79
                                  refine v_R (fun hRσ79 => ?_)
                                  refine v_goto C 55 dX10_goesAlong_282 (by decide) ?_
                                  obtain ⟨m9, hm9, h⟩ := h
                                  refine v_sub [1, 2, 3] rfl ?_
                                  exact ih13 m9 hm9 x20 σ79 h rx20
                            · have h := h.2 c89
                              refine v_aload_n C 2 dX10_goesAlong_225 rfl rfl ?_
                              refine v_iload_n C 1 dX10_goesAlong_226 rfl rfl ?_
                              refine v_iload_n C 3 dX10_goesAlong_227 rfl rfl ?_
                              refine v_callv (i := 304) (As := [.int (iI x20), .int (iI a1)]) (rest := []) C (s_X10_joinsSum hlo hhi rx20 r1 h) w1158 wy_X10_joinsSum ⟨rfl, rfl⟩ hd_X10_joinsSum ⟨Nat.le_of_ble_eq_true rfl, Nat.le_of_ble_eq_true rfl⟩ (Nat.le_trans hlo (by decide)) (Nat.lt_of_lt_of_le (by decide) hhi) rfl rfl rfl rfl (Nat.le_of_ble_eq_true rfl) dX10_goesAlong_228 (fun σ82 h => ?_)
                              refine v_R (fun hRσ82 => ?_)
                              refine v_aload_n C 2 dX10_goesAlong_231 rfl rfl ?_
                              refine gf10_toSum C hlo hhi w889 dX10_goesAlong_232 ?_
                              refine v_iload_n C 1 dX10_goesAlong_235 rfl rfl ?_
                              refine v_iload_n C 0 dX10_goesAlong_236 rfl rfl ?_
                              have k83 := h.1
                              have h := h.2
                              refine v_iast (i := 313) (n := 6) C (Nat.le_trans hlo (by decide)) (Nat.lt_of_lt_of_le (by decide) hhi) (fun _ => rfl) rx20 k83 rv64 dX10_goesAlong_237 ?_
                              refine v_nameS (fun σ84 eσ84 => ?_)
                              have h := h σ84 eσ84
                              refine v_R (fun hRσ84 => ?_)
                              refine v_aload_n C 2 dX10_goesAlong_238 rfl rfl ?_
                              refine gf10_toProduct C hlo hhi w890 dX10_goesAlong_239 ?_
                              refine v_iload_n C 1 dX10_goesAlong_242 rfl rfl ?_
                              refine v_iconst C dX10_goesAlong_243 ?_
                              have k85 := h.1
                              have h := h.2
                              refine v_iast (i := 314) (n := 6) C (Nat.le_trans hlo (by decide)) (Nat.lt_of_lt_of_le (by decide) hhi) (fun _ => rfl) rx20 k85 (by decide) dX10_goesAlong_244 ?_
                              refine v_nameS (fun σ86 eσ86 => ?_)
                              have h := h σ86 eσ86
                              refine v_R (fun hRσ86 => ?_)
                              refine v_goto C 272 dX10_goesAlong_245 (by decide) ?_
                              refine v_aload_n C 2 dX10_goesAlong_272 rfl rfl ?_
                              refine v_dup C rfl dX10_goesAlong_273 ?_
                              refine gf10_at C hlo hhi w887 dX10_goesAlong_274 ?_
                              refine v_iconst C dX10_goesAlong_277 ?_
                              have k87 := h.1
                              have h := h.2
                              refine v_iadd C dX10_goesAlong_278 ?_
                              refine pf10_at C hlo hhi k87 w887 dX10_goesAlong_279 ?_
                              refine v_nameS (fun σ88 eσ88 => ?_)
                              have h := h σ88 eσ88
                              refine v_R (fun hRσ88 => ?_)
                              refine v_goto C 55 dX10_goesAlong_282 (by decide) ?_
                              obtain ⟨m9, hm9, h⟩ := h
                              refine v_sub [1, 2, 3] rfl ?_
                              exact ih13 m9 hm9 x20 σ88 h rx20
                        · have h := h.2 c98
                          refine v_aload_n C 1 dX10_goesAlong_175 rfl rfl ?_
                          refine v_iconst C dX10_goesAlong_176 ?_
                          refine v_iload_n C 2 dX10_goesAlong_177 rfl rfl ?_
                          obtain ⟨J93, hJ93, h⟩ := h
                          have kJ93 : ∀ (x91 : Int) (σ92 : SG), J93 x91 σ92 → inR x91 → V p l e rm_X10_goesAlong s m args below meth c D aC B lo hi 4 (MQ below (QI D aC B lo hi Q) args s 0 0 (AB B lo hi)) σ92 190 [(2, .int (iI x20))] [.int (iI x91), .int (iI 0), .ref (B + 304)] := by
                            intro x91 σ92 hj rx91
                            have h := hJ93 x91 σ92 hj
                            refine v_R (fun hRσ92 => ?_)
                            refine v_callv (i := 304) (As := [.int (iI 0), .int (iI x91)]) (rest := []) C (s_X10_joinsSum hlo hhi (by decide) rx91 h) w1158 wy_X10_joinsSum ⟨rfl, rfl⟩ hd_X10_joinsSum ⟨Nat.le_of_ble_eq_true rfl, Nat.le_of_ble_eq_true rfl⟩ (Nat.le_trans hlo (by decide)) (Nat.lt_of_lt_of_le (by decide) hhi) rfl rfl rfl rfl (Nat.le_of_ble_eq_true rfl) dX10_goesAlong_190 (fun σ94 h => ?_)
                            refine v_R (fun hRσ94 => ?_)
                            refine v_iload_n C 0 dX10_goesAlong_193 rfl rfl ?_
                            refine v_if_ne C rx20 201 dX10_goesAlong_194 (by decide) (fun c95 => ?_) (fun c95 => ?_)
                            · have h := h.1 c95
                              refine v_iconst C dX10_goesAlong_201 ?_
                              exact v_zret C (by decide) h dX10_goesAlong_202
                            · have h := h.2 c95
                              refine v_iconst C dX10_goesAlong_197 ?_
                              refine v_goto C 202 dX10_goesAlong_198 (by decide) ?_
                              exact v_zret C (by decide) h dX10_goesAlong_202
                          refine v_if_eq C r1 189 dX10_goesAlong_178 (by decide) (fun c97 => ?_) (fun c97 => ?_)
                          · have h := h.1 c97
                            refine v_iconst C dX10_goesAlong_189 ?_
                            refine v_sub [0] rfl ?_
                            exact kJ93 0 σ61 h (by decide)
                          · have h := h.2 c97
                            refine v_iload_n C 0 dX10_goesAlong_181 rfl rfl ?_
                            refine v_if_ne C rx20 189 dX10_goesAlong_182 (by decide) (fun c96 => ?_) (fun c96 => ?_)
                            · have h := h.1 c96
                              refine v_iconst C dX10_goesAlong_189 ?_
                              refine v_sub [0] rfl ?_
                              exact kJ93 0 σ61 h (by decide)
                            · have h := h.2 c96
                              refine v_iconst C dX10_goesAlong_185 ?_
                              refine v_goto C 190 dX10_goesAlong_186 (by decide) ?_
                              refine v_sub [0] rfl ?_
                              exact kJ93 1 σ61 h (by decide)
                      · have h := h.2 c107
                        refine v_aload_n C 1 dX10_goesAlong_126 rfl rfl ?_
                        refine v_iload_n C 0 dX10_goesAlong_127 rfl rfl ?_
                        refine v_iload_n C 2 dX10_goesAlong_128 rfl rfl ?_
                        refine v_callv (i := 304) (As := [.int (iI x20), .int (iI a1)]) (rest := []) C (s_X10_joinsSum hlo hhi rx20 r1 h) w1158 wy_X10_joinsSum ⟨rfl, rfl⟩ hd_X10_joinsSum ⟨Nat.le_of_ble_eq_true rfl, Nat.le_of_ble_eq_true rfl⟩ (Nat.le_trans hlo (by decide)) (Nat.lt_of_lt_of_le (by decide) hhi) rfl rfl rfl rfl (Nat.le_of_ble_eq_true rfl) dX10_goesAlong_129 (fun σ99 h => ?_)
                        refine v_R (fun hRσ99 => ?_)
                        refine v_aload_n C 1 dX10_goesAlong_132 rfl rfl ?_
                        refine v_bipush C dX10_goesAlong_133 (by decide) ?_
                        refine v_iload_n C 0 dX10_goesAlong_135 rfl rfl ?_
                        have k100 := h.1
                        have h := h.2
                        refine v_iadd C dX10_goesAlong_136 ?_
                        refine v_bipush C dX10_goesAlong_137 (by decide) ?_
                        refine v_callv (i := 304) (As := [.int (iI (20 + x20)), .int (iI 32)]) (rest := []) C (s_X10_copies hlo hhi k100 (by decide) h) w971 wy_X10_copies ⟨rfl, rfl⟩ hd_X10_copies ⟨Nat.le_of_ble_eq_true rfl, Nat.le_of_ble_eq_true rfl⟩ (Nat.le_trans hlo (by decide)) (Nat.lt_of_lt_of_le (by decide) hhi) rfl rfl rfl rfl (Nat.le_of_ble_eq_true rfl) dX10_goesAlong_139 (fun σ101 h => ?_)
                        refine v_R (fun hRσ101 => ?_)
                        have k102 := h.1
                        have h := h.2
                        refine v_iinc (lv' := [(2, .int (iI (x20 + (-1)))), (0, .ref (B + 304)), (1, .int (iI a1))]) C 0 dX10_goesAlong_142 rfl (by decide) rfl ?_
                        refine v_aload_n C 1 dX10_goesAlong_145 rfl rfl ?_
                        refine v_iload_n C 2 dX10_goesAlong_146 rfl rfl ?_
                        refine v_calli (i := 304) (As := [.int (iI a1)]) (rest := []) C (s_X10_takesPower hlo hhi r1 h) w1146 wy_X10_takesPower ⟨rfl, rfl⟩ hd_X10_takesPower ⟨Nat.le_of_ble_eq_true rfl, Nat.le_of_ble_eq_true rfl⟩ (Nat.le_trans hlo (by decide)) (Nat.lt_of_lt_of_le (by decide) hhi) rfl rfl rfl rfl (Nat.le_of_ble_eq_true rfl) dX10_goesAlong_147 (fun z104 σ103 rz104 h => ?_)
                        refine v_R (fun hRσ103 => ?_)
                        refine v_if_ne C rz104 155 dX10_goesAlong_150 (by decide) (fun c106 => ?_) (fun c106 => ?_)
                        · have h := h.1 c106
                          refine v_aload_n C 1 dX10_goesAlong_155 rfl rfl ?_
                          refine v_iload_n C 0 dX10_goesAlong_156 rfl rfl ?_
                          refine v_iload_n C 2 dX10_goesAlong_157 rfl rfl ?_
                          refine v_callv (i := 304) (As := [.int (iI (x20 + (-1))), .int (iI a1)]) (rest := []) C (s_X10_joinsProduct hlo hhi k102 r1 h) w1150 wy_X10_joinsProduct ⟨rfl, rfl⟩ hd_X10_joinsProduct ⟨Nat.le_of_ble_eq_true rfl, Nat.le_of_ble_eq_true rfl⟩ (Nat.le_trans hlo (by decide)) (Nat.lt_of_lt_of_le (by decide) hhi) rfl rfl rfl rfl (Nat.le_of_ble_eq_true rfl) dX10_goesAlong_158 (fun σ105 h => ?_)
                          refine v_R (fun hRσ105 => ?_)
                          refine v_goto C 113 dX10_goesAlong_161 (by decide) ?_
                          obtain ⟨m9, hm9, h⟩ := h
                          exact ih23 m9 hm9 (x20 + (-1)) σ105 h k102
                        · have h := h.2 c106
                          refine v_iconst C dX10_goesAlong_153 ?_
                          exact v_zret C (by decide) h dX10_goesAlong_154
                exact key24 n110 x10 σ19 hnn110 rx10
              · have h := h.2 c111
                refine v_iconst C dX10_goesAlong_105 ?_
                exact v_zret C (by decide) h dX10_goesAlong_106
          · have h := h.2 c219
            refine v_aload_n C 1 dX10_goesAlong_60 rfl rfl ?_
            refine v_bipush C dX10_goesAlong_61 (by decide) ?_
            refine v_calli (i := 304) (As := [.int (iI 40)]) (rest := []) C (s_X10_takes hlo hhi (by decide) h) w947 wy_X10_takes ⟨rfl, rfl⟩ hd_X10_takes ⟨Nat.le_of_ble_eq_true rfl, Nat.le_of_ble_eq_true rfl⟩ (Nat.le_trans hlo (by decide)) (Nat.lt_of_lt_of_le (by decide) hhi) rfl rfl rfl rfl (Nat.le_of_ble_eq_true rfl) dX10_goesAlong_63 (fun z114 σ113 rz114 h => ?_)
            refine v_R (fun hRσ113 => ?_)
            refine v_if_eq C rz114 89 dX10_goesAlong_66 (by decide) (fun c218 => ?_) (fun c218 => ?_)
            · have h := h.1 c218
              refine v_aload_n C 1 dX10_goesAlong_89 rfl rfl ?_
              refine v_iload_n C 2 dX10_goesAlong_90 rfl rfl ?_
              refine v_calli (i := 304) (As := [.int (iI a1)]) (rest := []) C (s_X10_takesSimple hlo hhi r1 h) w1142 wy_X10_takesSimple ⟨rfl, rfl⟩ hd_X10_takesSimple ⟨Nat.le_of_ble_eq_true rfl, Nat.le_of_ble_eq_true rfl⟩ (Nat.le_trans hlo (by decide)) (Nat.lt_of_lt_of_le (by decide) hhi) rfl rfl rfl rfl (Nat.le_of_ble_eq_true rfl) dX10_goesAlong_91 (fun z116 σ115 rz116 h => ?_)
              refine v_R (fun hRσ115 => ?_)
              refine v_if_eq C rz116 105 dX10_goesAlong_94 (by decide) (fun c212 => ?_) (fun c212 => ?_)
              · have h := h.1 c212
                refine v_iconst C dX10_goesAlong_105 ?_
                exact v_zret C (by decide) h dX10_goesAlong_106
              · have h := h.2 c212
                refine v_aload_n C 1 dX10_goesAlong_97 rfl rfl ?_
                refine v_iload_n C 2 dX10_goesAlong_98 rfl rfl ?_
                refine v_calli (i := 304) (As := [.int (iI a1)]) (rest := []) C (s_X10_takesPower hlo hhi r1 h) w1146 wy_X10_takesPower ⟨rfl, rfl⟩ hd_X10_takesPower ⟨Nat.le_of_ble_eq_true rfl, Nat.le_of_ble_eq_true rfl⟩ (Nat.le_trans hlo (by decide)) (Nat.lt_of_lt_of_le (by decide) hhi) rfl rfl rfl rfl (Nat.le_of_ble_eq_true rfl) dX10_goesAlong_99 (fun z118 σ117 rz118 h => ?_)
                refine v_R (fun hRσ117 => ?_)
                refine v_if_ne C rz118 107 dX10_goesAlong_102 (by decide) (fun c211 => ?_) (fun c211 => ?_)
                · have h := h.1 c211
                  refine v_aload_n C 1 dX10_goesAlong_107 rfl rfl ?_
                  refine v_iload_n C 0 dX10_goesAlong_108 rfl rfl ?_
                  refine v_iload_n C 2 dX10_goesAlong_109 rfl rfl ?_
                  refine v_callv (i := 304) (As := [.int (iI x10), .int (iI a1)]) (rest := []) C (s_X10_joinsProduct hlo hhi rx10 r1 h) w1150 wy_X10_joinsProduct ⟨rfl, rfl⟩ hd_X10_joinsProduct ⟨Nat.le_of_ble_eq_true rfl, Nat.le_of_ble_eq_true rfl⟩ (Nat.le_trans hlo (by decide)) (Nat.lt_of_lt_of_le (by decide) hhi) rfl rfl rfl rfl (Nat.le_of_ble_eq_true rfl) dX10_goesAlong_110 (fun σ119 h => ?_)
                  refine v_R (fun hRσ119 => ?_)
                  obtain ⟨I209, ⟨n210, hnn210⟩, hII209⟩ := h
                  have key124 : ∀ (n : Nat) (x120 : Int) (σ121 : SG), I209 n x120 σ121 → inR x120 → V p l e rm_X10_goesAlong s m args below meth c D aC B lo hi 4 (MQ below (QI D aC B lo hi Q) args s 0 0 (AB B lo hi)) σ121 113 [(2, .int (iI x120)), (0, .ref (B + 304)), (1, .int (iI a1))] [] := by
                    intro n
                    induction n using Nat.strongRecOn with
                    | ind n ih123 =>
                      intro x120 σ121 hn rx120
                      have h := hII209 n x120 σ121 hn
                      refine v_R (fun hRσ121 => ?_)
                      refine v_iload_n C 0 dX10_goesAlong_113 rfl rfl ?_
                      refine v_if_le C rx120 164 dX10_goesAlong_114 (by decide) (fun c208 => ?_) (fun c208 => ?_)
                      · have h := h.1 c208
                        refine v_aload_n C 1 dX10_goesAlong_164 rfl rfl ?_
                        refine gf10_at C hlo hhi w887 dX10_goesAlong_165 ?_
                        refine v_aload_n C 1 dX10_goesAlong_168 rfl rfl ?_
                        refine gf10_typed C hlo hhi w885 dX10_goesAlong_169 ?_
                        refine v_icmp_ne C (hRσ121 304 10) (hRσ121 304 8) 203 dX10_goesAlong_172 (by decide) (fun c160 => ?_) (fun c160 => ?_)
                        · have h := h.1 c160
                          refine v_aload_n C 1 dX10_goesAlong_203 rfl rfl ?_
                          refine gf10_text C hlo hhi w886 dX10_goesAlong_204 ?_
                          refine v_aload_n C 1 dX10_goesAlong_207 rfl rfl ?_
                          refine gf10_at C hlo hhi w887 dX10_goesAlong_208 ?_
                          have k125 := h.1
                          have h := h.2
                          refine v_cald (i := 311) (n := 60) C (Nat.le_trans hlo (by decide)) (Nat.lt_of_lt_of_le (by decide) hhi) rfl (hRσ121 304 10) k125 dX10_goesAlong_211 ?_
                          refine v_name (fun v126 ev126 => ?_)
                          have h := h v126 ev126
                          have rv126 : inR v126 := by rw [ev126]; exact (hRσ121 311 _)
                          refine v_istore_n (lv' := [(3, .int (iI v126)), (2, .int (iI x120)), (0, .ref (B + 304)), (1, .int (iI a1))]) C dX10_goesAlong_212 rfl (by decide) rfl ?_
                          refine v_iload_n C 0 dX10_goesAlong_213 rfl rfl ?_
                          refine v_bipush C dX10_goesAlong_214 (by decide) ?_
                          refine v_icmp_eq C rv126 (by decide) 225 dX10_goesAlong_216 (by decide) (fun c152 => ?_) (fun c152 => ?_)
                          · have h := h.1 c152
                            refine v_aload_n C 2 dX10_goesAlong_225 rfl rfl ?_
                            refine v_iload_n C 1 dX10_goesAlong_226 rfl rfl ?_
                            refine v_iload_n C 3 dX10_goesAlong_227 rfl rfl ?_
                            refine v_callv (i := 304) (As := [.int (iI x120), .int (iI a1)]) (rest := []) C (s_X10_joinsSum hlo hhi rx120 r1 h) w1158 wy_X10_joinsSum ⟨rfl, rfl⟩ hd_X10_joinsSum ⟨Nat.le_of_ble_eq_true rfl, Nat.le_of_ble_eq_true rfl⟩ (Nat.le_trans hlo (by decide)) (Nat.lt_of_lt_of_le (by decide) hhi) rfl rfl rfl rfl (Nat.le_of_ble_eq_true rfl) dX10_goesAlong_228 (fun σ127 h => ?_)
                            refine v_R (fun hRσ127 => ?_)
                            refine v_aload_n C 2 dX10_goesAlong_231 rfl rfl ?_
                            refine gf10_toSum C hlo hhi w889 dX10_goesAlong_232 ?_
                            refine v_iload_n C 1 dX10_goesAlong_235 rfl rfl ?_
                            refine v_iload_n C 0 dX10_goesAlong_236 rfl rfl ?_
                            have k128 := h.1
                            have h := h.2
                            refine v_iast (i := 313) (n := 6) C (Nat.le_trans hlo (by decide)) (Nat.lt_of_lt_of_le (by decide) hhi) (fun _ => rfl) rx120 k128 rv126 dX10_goesAlong_237 ?_
                            refine v_nameS (fun σ129 eσ129 => ?_)
                            have h := h σ129 eσ129
                            refine v_R (fun hRσ129 => ?_)
                            refine v_aload_n C 2 dX10_goesAlong_238 rfl rfl ?_
                            refine gf10_toProduct C hlo hhi w890 dX10_goesAlong_239 ?_
                            refine v_iload_n C 1 dX10_goesAlong_242 rfl rfl ?_
                            refine v_iconst C dX10_goesAlong_243 ?_
                            have k130 := h.1
                            have h := h.2
                            refine v_iast (i := 314) (n := 6) C (Nat.le_trans hlo (by decide)) (Nat.lt_of_lt_of_le (by decide) hhi) (fun _ => rfl) rx120 k130 (by decide) dX10_goesAlong_244 ?_
                            refine v_nameS (fun σ131 eσ131 => ?_)
                            have h := h σ131 eσ131
                            refine v_R (fun hRσ131 => ?_)
                            refine v_goto C 272 dX10_goesAlong_245 (by decide) ?_
                            refine v_aload_n C 2 dX10_goesAlong_272 rfl rfl ?_
                            refine v_dup C rfl dX10_goesAlong_273 ?_
                            refine gf10_at C hlo hhi w887 dX10_goesAlong_274 ?_
                            refine v_iconst C dX10_goesAlong_277 ?_
                            have k132 := h.1
                            have h := h.2
                            refine v_iadd C dX10_goesAlong_278 ?_
                            refine pf10_at C hlo hhi k132 w887 dX10_goesAlong_279 ?_
                            refine v_nameS (fun σ133 eσ133 => ?_)
                            have h := h σ133 eσ133
                            refine v_R (fun hRσ133 => ?_)
                            refine v_goto C 55 dX10_goesAlong_282 (by decide) ?_
                            obtain ⟨m9, hm9, h⟩ := h
                            refine v_sub [1, 2, 3] rfl ?_
                            exact ih13 m9 hm9 x120 σ133 h rx120
                          · have h := h.2 c152
                            refine v_iload_n C 0 dX10_goesAlong_219 rfl rfl ?_
                            refine v_bipush C dX10_goesAlong_220 (by decide) ?_
                            refine v_icmp_ne C rv126 (by decide) 248 dX10_goesAlong_222 (by decide) (fun c151 => ?_) (fun c151 => ?_)
                            · have h := h.1 c151
                              refine v_iload_n C 0 dX10_goesAlong_248 rfl rfl ?_
                              refine v_bipush C dX10_goesAlong_249 (by decide) ?_
                              refine v_icmp_eq C rv126 (by decide) 260 dX10_goesAlong_251 (by decide) (fun c143 => ?_) (fun c143 => ?_)
                              · have h := h.1 c143
                                refine v_aload_n C 2 dX10_goesAlong_260 rfl rfl ?_
                                refine gf10_toProduct C hlo hhi w890 dX10_goesAlong_261 ?_
                                refine v_iload_n C 1 dX10_goesAlong_264 rfl rfl ?_
                                refine v_iload_n C 0 dX10_goesAlong_265 rfl rfl ?_
                                have k134 := h.1
                                have h := h.2
                                refine v_iast (i := 314) (n := 6) C (Nat.le_trans hlo (by decide)) (Nat.lt_of_lt_of_le (by decide) hhi) (fun _ => rfl) rx120 k134 rv126 dX10_goesAlong_266 ?_
                                refine v_nameS (fun σ135 eσ135 => ?_)
                                have h := h σ135 eσ135
                                refine v_R (fun hRσ135 => ?_)
                                refine v_goto C 272 dX10_goesAlong_267 (by decide) ?_
                                refine v_aload_n C 2 dX10_goesAlong_272 rfl rfl ?_
                                refine v_dup C rfl dX10_goesAlong_273 ?_
                                refine gf10_at C hlo hhi w887 dX10_goesAlong_274 ?_
                                refine v_iconst C dX10_goesAlong_277 ?_
                                have k136 := h.1
                                have h := h.2
                                refine v_iadd C dX10_goesAlong_278 ?_
                                refine pf10_at C hlo hhi k136 w887 dX10_goesAlong_279 ?_
                                refine v_nameS (fun σ137 eσ137 => ?_)
                                have h := h σ137 eσ137
                                refine v_R (fun hRσ137 => ?_)
                                refine v_goto C 55 dX10_goesAlong_282 (by decide) ?_
                                obtain ⟨m9, hm9, h⟩ := h
                                refine v_sub [1, 2, 3] rfl ?_
                                exact ih13 m9 hm9 x120 σ137 h rx120
                              · have h := h.2 c143
                                refine v_iload_n C 0 dX10_goesAlong_254 rfl rfl ?_
                                refine v_bipush C dX10_goesAlong_255 (by decide) ?_
                                refine v_icmp_ne C rv126 (by decide) 270 dX10_goesAlong_257 (by decide) (fun c142 => ?_) (fun c142 => ?_)
                                · have h := h.1 c142
                                  refine v_iconst C dX10_goesAlong_270 ?_
                                  exact v_zret C (by decide) h dX10_goesAlong_271
                                · have h := h.2 c142
                                  refine v_aload_n C 2 dX10_goesAlong_260 rfl rfl ?_
                                  refine gf10_toProduct C hlo hhi w890 dX10_goesAlong_261 ?_
                                  refine v_iload_n C 1 dX10_goesAlong_264 rfl rfl ?_
                                  refine v_iload_n C 0 dX10_goesAlong_265 rfl rfl ?_
                                  have k138 := h.1
                                  have h := h.2
                                  refine v_iast (i := 314) (n := 6) C (Nat.le_trans hlo (by decide)) (Nat.lt_of_lt_of_le (by decide) hhi) (fun _ => rfl) rx120 k138 rv126 dX10_goesAlong_266 ?_
                                  refine v_nameS (fun σ139 eσ139 => ?_)
                                  have h := h σ139 eσ139
                                  refine v_R (fun hRσ139 => ?_)
                                  refine v_goto C 272 dX10_goesAlong_267 (by decide) ?_
                                  refine v_aload_n C 2 dX10_goesAlong_272 rfl rfl ?_
                                  refine v_dup C rfl dX10_goesAlong_273 ?_
                                  refine gf10_at C hlo hhi w887 dX10_goesAlong_274 ?_
                                  refine v_iconst C dX10_goesAlong_277 ?_
                                  have k140 := h.1
                                  have h := h.2
                                  refine v_iadd C dX10_goesAlong_278 ?_
                                  refine pf10_at C hlo hhi k140 w887 dX10_goesAlong_279 ?_
                                  refine v_nameS (fun σ141 eσ141 => ?_)
                                  have h := h σ141 eσ141
                                  refine v_R (fun hRσ141 => ?_)
                                  refine v_goto C 55 dX10_goesAlong_282 (by decide) ?_
                                  obtain ⟨m9, hm9, h⟩ := h
                                  refine v_sub [1, 2, 3] rfl ?_
                                  exact ih13 m9 hm9 x120 σ141 h rx120
                            · have h := h.2 c151
                              refine v_aload_n C 2 dX10_goesAlong_225 rfl rfl ?_
                              refine v_iload_n C 1 dX10_goesAlong_226 rfl rfl ?_
                              refine v_iload_n C 3 dX10_goesAlong_227 rfl rfl ?_
                              refine v_callv (i := 304) (As := [.int (iI x120), .int (iI a1)]) (rest := []) C (s_X10_joinsSum hlo hhi rx120 r1 h) w1158 wy_X10_joinsSum ⟨rfl, rfl⟩ hd_X10_joinsSum ⟨Nat.le_of_ble_eq_true rfl, Nat.le_of_ble_eq_true rfl⟩ (Nat.le_trans hlo (by decide)) (Nat.lt_of_lt_of_le (by decide) hhi) rfl rfl rfl rfl (Nat.le_of_ble_eq_true rfl) dX10_goesAlong_228 (fun σ144 h => ?_)
                              refine v_R (fun hRσ144 => ?_)
                              refine v_aload_n C 2 dX10_goesAlong_231 rfl rfl ?_
                              refine gf10_toSum C hlo hhi w889 dX10_goesAlong_232 ?_
                              refine v_iload_n C 1 dX10_goesAlong_235 rfl rfl ?_
                              refine v_iload_n C 0 dX10_goesAlong_236 rfl rfl ?_
                              have k145 := h.1
                              have h := h.2
                              refine v_iast (i := 313) (n := 6) C (Nat.le_trans hlo (by decide)) (Nat.lt_of_lt_of_le (by decide) hhi) (fun _ => rfl) rx120 k145 rv126 dX10_goesAlong_237 ?_
                              refine v_nameS (fun σ146 eσ146 => ?_)
                              have h := h σ146 eσ146
                              refine v_R (fun hRσ146 => ?_)
                              refine v_aload_n C 2 dX10_goesAlong_238 rfl rfl ?_
                              refine gf10_toProduct C hlo hhi w890 dX10_goesAlong_239 ?_
                              refine v_iload_n C 1 dX10_goesAlong_242 rfl rfl ?_
                              refine v_iconst C dX10_goesAlong_243 ?_
                              have k147 := h.1
                              have h := h.2
                              refine v_iast (i := 314) (n := 6) C (Nat.le_trans hlo (by decide)) (Nat.lt_of_lt_of_le (by decide) hhi) (fun _ => rfl) rx120 k147 (by decide) dX10_goesAlong_244 ?_
                              refine v_nameS (fun σ148 eσ148 => ?_)
                              have h := h σ148 eσ148
                              refine v_R (fun hRσ148 => ?_)
                              refine v_goto C 272 dX10_goesAlong_245 (by decide) ?_
                              refine v_aload_n C 2 dX10_goesAlong_272 rfl rfl ?_
                              refine v_dup C rfl dX10_goesAlong_273 ?_
                              refine gf10_at C hlo hhi w887 dX10_goesAlong_274 ?_
                              refine v_iconst C dX10_goesAlong_277 ?_
                              have k149 := h.1
                              have h := h.2
                              refine v_iadd C dX10_goesAlong_278 ?_
                              refine pf10_at C hlo hhi k149 w887 dX10_goesAlong_279 ?_
                              refine v_nameS (fun σ150 eσ150 => ?_)
                              have h := h σ150 eσ150
                              refine v_R (fun hRσ150 => ?_)
                              refine v_goto C 55 dX10_goesAlong_282 (by decide) ?_
                              obtain ⟨m9, hm9, h⟩ := h
                              refine v_sub [1, 2, 3] rfl ?_
                              exact ih13 m9 hm9 x120 σ150 h rx120
                        · have h := h.2 c160
                          refine v_aload_n C 1 dX10_goesAlong_175 rfl rfl ?_
                          refine v_iconst C dX10_goesAlong_176 ?_
                          refine v_iload_n C 2 dX10_goesAlong_177 rfl rfl ?_
                          obtain ⟨J155, hJ155, h⟩ := h
                          have kJ155 : ∀ (x153 : Int) (σ154 : SG), J155 x153 σ154 → inR x153 → V p l e rm_X10_goesAlong s m args below meth c D aC B lo hi 4 (MQ below (QI D aC B lo hi Q) args s 0 0 (AB B lo hi)) σ154 190 [(2, .int (iI x120))] [.int (iI x153), .int (iI 0), .ref (B + 304)] := by
                            intro x153 σ154 hj rx153
                            have h := hJ155 x153 σ154 hj
                            refine v_R (fun hRσ154 => ?_)
                            refine v_callv (i := 304) (As := [.int (iI 0), .int (iI x153)]) (rest := []) C (s_X10_joinsSum hlo hhi (by decide) rx153 h) w1158 wy_X10_joinsSum ⟨rfl, rfl⟩ hd_X10_joinsSum ⟨Nat.le_of_ble_eq_true rfl, Nat.le_of_ble_eq_true rfl⟩ (Nat.le_trans hlo (by decide)) (Nat.lt_of_lt_of_le (by decide) hhi) rfl rfl rfl rfl (Nat.le_of_ble_eq_true rfl) dX10_goesAlong_190 (fun σ156 h => ?_)
                            refine v_R (fun hRσ156 => ?_)
                            refine v_iload_n C 0 dX10_goesAlong_193 rfl rfl ?_
                            refine v_if_ne C rx120 201 dX10_goesAlong_194 (by decide) (fun c157 => ?_) (fun c157 => ?_)
                            · have h := h.1 c157
                              refine v_iconst C dX10_goesAlong_201 ?_
                              exact v_zret C (by decide) h dX10_goesAlong_202
                            · have h := h.2 c157
                              refine v_iconst C dX10_goesAlong_197 ?_
                              refine v_goto C 202 dX10_goesAlong_198 (by decide) ?_
                              exact v_zret C (by decide) h dX10_goesAlong_202
                          refine v_if_eq C r1 189 dX10_goesAlong_178 (by decide) (fun c159 => ?_) (fun c159 => ?_)
                          · have h := h.1 c159
                            refine v_iconst C dX10_goesAlong_189 ?_
                            refine v_sub [0] rfl ?_
                            exact kJ155 0 σ121 h (by decide)
                          · have h := h.2 c159
                            refine v_iload_n C 0 dX10_goesAlong_181 rfl rfl ?_
                            refine v_if_ne C rx120 189 dX10_goesAlong_182 (by decide) (fun c158 => ?_) (fun c158 => ?_)
                            · have h := h.1 c158
                              refine v_iconst C dX10_goesAlong_189 ?_
                              refine v_sub [0] rfl ?_
                              exact kJ155 0 σ121 h (by decide)
                            · have h := h.2 c158
                              refine v_iconst C dX10_goesAlong_185 ?_
                              refine v_goto C 190 dX10_goesAlong_186 (by decide) ?_
                              refine v_sub [0] rfl ?_
                              exact kJ155 1 σ121 h (by decide)
                      · have h := h.2 c208
                        refine v_aload_n C 1 dX10_goesAlong_117 rfl rfl ?_
                        refine v_bipush C dX10_goesAlong_118 (by decide) ?_
                        refine v_calli (i := 304) (As := [.int (iI 41)]) (rest := []) C (s_X10_takes hlo hhi (by decide) h) w947 wy_X10_takes ⟨rfl, rfl⟩ hd_X10_takes ⟨Nat.le_of_ble_eq_true rfl, Nat.le_of_ble_eq_true rfl⟩ (Nat.le_trans hlo (by decide)) (Nat.lt_of_lt_of_le (by decide) hhi) rfl rfl rfl rfl (Nat.le_of_ble_eq_true rfl) dX10_goesAlong_120 (fun z162 σ161 rz162 h => ?_)
                        refine v_R (fun hRσ161 => ?_)
                        refine v_if_eq C rz162 164 dX10_goesAlong_123 (by decide) (fun c207 => ?_) (fun c207 => ?_)
                        · have h := h.1 c207
                          refine v_aload_n C 1 dX10_goesAlong_164 rfl rfl ?_
                          refine gf10_at C hlo hhi w887 dX10_goesAlong_165 ?_
                          refine v_aload_n C 1 dX10_goesAlong_168 rfl rfl ?_
                          refine gf10_typed C hlo hhi w885 dX10_goesAlong_169 ?_
                          refine v_icmp_ne C (hRσ161 304 10) (hRσ161 304 8) 203 dX10_goesAlong_172 (by decide) (fun c198 => ?_) (fun c198 => ?_)
                          · have h := h.1 c198
                            refine v_aload_n C 1 dX10_goesAlong_203 rfl rfl ?_
                            refine gf10_text C hlo hhi w886 dX10_goesAlong_204 ?_
                            refine v_aload_n C 1 dX10_goesAlong_207 rfl rfl ?_
                            refine gf10_at C hlo hhi w887 dX10_goesAlong_208 ?_
                            have k163 := h.1
                            have h := h.2
                            refine v_cald (i := 311) (n := 60) C (Nat.le_trans hlo (by decide)) (Nat.lt_of_lt_of_le (by decide) hhi) rfl (hRσ161 304 10) k163 dX10_goesAlong_211 ?_
                            refine v_name (fun v164 ev164 => ?_)
                            have h := h v164 ev164
                            have rv164 : inR v164 := by rw [ev164]; exact (hRσ161 311 _)
                            refine v_istore_n (lv' := [(3, .int (iI v164)), (2, .int (iI x120)), (0, .ref (B + 304)), (1, .int (iI a1))]) C dX10_goesAlong_212 rfl (by decide) rfl ?_
                            refine v_iload_n C 0 dX10_goesAlong_213 rfl rfl ?_
                            refine v_bipush C dX10_goesAlong_214 (by decide) ?_
                            refine v_icmp_eq C rv164 (by decide) 225 dX10_goesAlong_216 (by decide) (fun c190 => ?_) (fun c190 => ?_)
                            · have h := h.1 c190
                              refine v_aload_n C 2 dX10_goesAlong_225 rfl rfl ?_
                              refine v_iload_n C 1 dX10_goesAlong_226 rfl rfl ?_
                              refine v_iload_n C 3 dX10_goesAlong_227 rfl rfl ?_
                              refine v_callv (i := 304) (As := [.int (iI x120), .int (iI a1)]) (rest := []) C (s_X10_joinsSum hlo hhi rx120 r1 h) w1158 wy_X10_joinsSum ⟨rfl, rfl⟩ hd_X10_joinsSum ⟨Nat.le_of_ble_eq_true rfl, Nat.le_of_ble_eq_true rfl⟩ (Nat.le_trans hlo (by decide)) (Nat.lt_of_lt_of_le (by decide) hhi) rfl rfl rfl rfl (Nat.le_of_ble_eq_true rfl) dX10_goesAlong_228 (fun σ165 h => ?_)
                              refine v_R (fun hRσ165 => ?_)
                              refine v_aload_n C 2 dX10_goesAlong_231 rfl rfl ?_
                              refine gf10_toSum C hlo hhi w889 dX10_goesAlong_232 ?_
                              refine v_iload_n C 1 dX10_goesAlong_235 rfl rfl ?_
                              refine v_iload_n C 0 dX10_goesAlong_236 rfl rfl ?_
                              have k166 := h.1
                              have h := h.2
                              refine v_iast (i := 313) (n := 6) C (Nat.le_trans hlo (by decide)) (Nat.lt_of_lt_of_le (by decide) hhi) (fun _ => rfl) rx120 k166 rv164 dX10_goesAlong_237 ?_
                              refine v_nameS (fun σ167 eσ167 => ?_)
                              have h := h σ167 eσ167
                              refine v_R (fun hRσ167 => ?_)
                              refine v_aload_n C 2 dX10_goesAlong_238 rfl rfl ?_
                              refine gf10_toProduct C hlo hhi w890 dX10_goesAlong_239 ?_
                              refine v_iload_n C 1 dX10_goesAlong_242 rfl rfl ?_
                              refine v_iconst C dX10_goesAlong_243 ?_
                              have k168 := h.1
                              have h := h.2
                              refine v_iast (i := 314) (n := 6) C (Nat.le_trans hlo (by decide)) (Nat.lt_of_lt_of_le (by decide) hhi) (fun _ => rfl) rx120 k168 (by decide) dX10_goesAlong_244 ?_
                              refine v_nameS (fun σ169 eσ169 => ?_)
                              have h := h σ169 eσ169
                              refine v_R (fun hRσ169 => ?_)
                              refine v_goto C 272 dX10_goesAlong_245 (by decide) ?_
                              refine v_aload_n C 2 dX10_goesAlong_272 rfl rfl ?_
                              refine v_dup C rfl dX10_goesAlong_273 ?_
                              refine gf10_at C hlo hhi w887 dX10_goesAlong_274 ?_
                              refine v_iconst C dX10_goesAlong_277 ?_
                              have k170 := h.1
                              have h := h.2
                              refine v_iadd C dX10_goesAlong_278 ?_
                              refine pf10_at C hlo hhi k170 w887 dX10_goesAlong_279 ?_
                              refine v_nameS (fun σ171 eσ171 => ?_)
                              have h := h σ171 eσ171
                              refine v_R (fun hRσ171 => ?_)
                              refine v_goto C 55 dX10_goesAlong_282 (by decide) ?_
                              obtain ⟨m9, hm9, h⟩ := h
                              refine v_sub [1, 2, 3] rfl ?_
                              exact ih13 m9 hm9 x120 σ171 h rx120
                            · have h := h.2 c190
                              refine v_iload_n C 0 dX10_goesAlong_219 rfl rfl ?_
                              refine v_bipush C dX10_goesAlong_220 (by decide) ?_
                              refine v_icmp_ne C rv164 (by decide) 248 dX10_goesAlong_222 (by decide) (fun c189 => ?_) (fun c189 => ?_)
                              · have h := h.1 c189
                                refine v_iload_n C 0 dX10_goesAlong_248 rfl rfl ?_
                                refine v_bipush C dX10_goesAlong_249 (by decide) ?_
                                refine v_icmp_eq C rv164 (by decide) 260 dX10_goesAlong_251 (by decide) (fun c181 => ?_) (fun c181 => ?_)
                                · have h := h.1 c181
                                  refine v_aload_n C 2 dX10_goesAlong_260 rfl rfl ?_
                                  refine gf10_toProduct C hlo hhi w890 dX10_goesAlong_261 ?_
                                  refine v_iload_n C 1 dX10_goesAlong_264 rfl rfl ?_
                                  refine v_iload_n C 0 dX10_goesAlong_265 rfl rfl ?_
                                  have k172 := h.1
                                  have h := h.2
                                  refine v_iast (i := 314) (n := 6) C (Nat.le_trans hlo (by decide)) (Nat.lt_of_lt_of_le (by decide) hhi) (fun _ => rfl) rx120 k172 rv164 dX10_goesAlong_266 ?_
                                  refine v_nameS (fun σ173 eσ173 => ?_)
                                  have h := h σ173 eσ173
                                  refine v_R (fun hRσ173 => ?_)
                                  refine v_goto C 272 dX10_goesAlong_267 (by decide) ?_
                                  refine v_aload_n C 2 dX10_goesAlong_272 rfl rfl ?_
                                  refine v_dup C rfl dX10_goesAlong_273 ?_
                                  refine gf10_at C hlo hhi w887 dX10_goesAlong_274 ?_
                                  refine v_iconst C dX10_goesAlong_277 ?_
                                  have k174 := h.1
                                  have h := h.2
                                  refine v_iadd C dX10_goesAlong_278 ?_
                                  refine pf10_at C hlo hhi k174 w887 dX10_goesAlong_279 ?_
                                  refine v_nameS (fun σ175 eσ175 => ?_)
                                  have h := h σ175 eσ175
                                  refine v_R (fun hRσ175 => ?_)
                                  refine v_goto C 55 dX10_goesAlong_282 (by decide) ?_
                                  obtain ⟨m9, hm9, h⟩ := h
                                  refine v_sub [1, 2, 3] rfl ?_
                                  exact ih13 m9 hm9 x120 σ175 h rx120
                                · have h := h.2 c181
                                  refine v_iload_n C 0 dX10_goesAlong_254 rfl rfl ?_
                                  refine v_bipush C dX10_goesAlong_255 (by decide) ?_
                                  refine v_icmp_ne C rv164 (by decide) 270 dX10_goesAlong_257 (by decide) (fun c180 => ?_) (fun c180 => ?_)
                                  · have h := h.1 c180
                                    refine v_iconst C dX10_goesAlong_270 ?_
                                    exact v_zret C (by decide) h dX10_goesAlong_271
                                  · have h := h.2 c180
                                    refine v_aload_n C 2 dX10_goesAlong_260 rfl rfl ?_
                                    refine gf10_toProduct C hlo hhi w890 dX10_goesAlong_261 ?_
                                    refine v_iload_n C 1 dX10_goesAlong_264 rfl rfl ?_
                                    refine v_iload_n C 0 dX10_goesAlong_265 rfl rfl ?_
                                    have k176 := h.1
                                    have h := h.2
                                    refine v_iast (i := 314) (n := 6) C (Nat.le_trans hlo (by decide)) (Nat.lt_of_lt_of_le (by decide) hhi) (fun _ => rfl) rx120 k176 rv164 dX10_goesAlong_266 ?_
                                    refine v_nameS (fun σ177 eσ177 => ?_)
                                    have h := h σ177 eσ177
                                    refine v_R (fun hRσ177 => ?_)
                                    refine v_goto C 272 dX10_goesAlong_267 (by decide) ?_
                                    refine v_aload_n C 2 dX10_goesAlong_272 rfl rfl ?_
                                    refine v_dup C rfl dX10_goesAlong_273 ?_
                                    refine gf10_at C hlo hhi w887 dX10_goesAlong_274 ?_
                                    refine v_iconst C dX10_goesAlong_277 ?_
                                    have k178 := h.1
                                    have h := h.2
                                    refine v_iadd C dX10_goesAlong_278 ?_
                                    refine pf10_at C hlo hhi k178 w887 dX10_goesAlong_279 ?_
                                    refine v_nameS (fun σ179 eσ179 => ?_)
                                    have h := h σ179 eσ179
                                    refine v_R (fun hRσ179 => ?_)
                                    refine v_goto C 55 dX10_goesAlong_282 (by decide) ?_
                                    obtain ⟨m9, hm9, h⟩ := h
                                    refine v_sub [1, 2, 3] rfl ?_
                                    exact ih13 m9 hm9 x120 σ179 h rx120
                              · have h := h.2 c189
                                refine v_aload_n C 2 dX10_goesAlong_225 rfl rfl ?_
                                refine v_iload_n C 1 dX10_goesAlong_226 rfl rfl ?_
                                refine v_iload_n C 3 dX10_goesAlong_227 rfl rfl ?_
                                refine v_callv (i := 304) (As := [.int (iI x120), .int (iI a1)]) (rest := []) C (s_X10_joinsSum hlo hhi rx120 r1 h) w1158 wy_X10_joinsSum ⟨rfl, rfl⟩ hd_X10_joinsSum ⟨Nat.le_of_ble_eq_true rfl, Nat.le_of_ble_eq_true rfl⟩ (Nat.le_trans hlo (by decide)) (Nat.lt_of_lt_of_le (by decide) hhi) rfl rfl rfl rfl (Nat.le_of_ble_eq_true rfl) dX10_goesAlong_228 (fun σ182 h => ?_)
                                refine v_R (fun hRσ182 => ?_)
                                refine v_aload_n C 2 dX10_goesAlong_231 rfl rfl ?_
                                refine gf10_toSum C hlo hhi w889 dX10_goesAlong_232 ?_
                                refine v_iload_n C 1 dX10_goesAlong_235 rfl rfl ?_
                                refine v_iload_n C 0 dX10_goesAlong_236 rfl rfl ?_
                                have k183 := h.1
                                have h := h.2
                                refine v_iast (i := 313) (n := 6) C (Nat.le_trans hlo (by decide)) (Nat.lt_of_lt_of_le (by decide) hhi) (fun _ => rfl) rx120 k183 rv164 dX10_goesAlong_237 ?_
                                refine v_nameS (fun σ184 eσ184 => ?_)
                                have h := h σ184 eσ184
                                refine v_R (fun hRσ184 => ?_)
                                refine v_aload_n C 2 dX10_goesAlong_238 rfl rfl ?_
                                refine gf10_toProduct C hlo hhi w890 dX10_goesAlong_239 ?_
                                refine v_iload_n C 1 dX10_goesAlong_242 rfl rfl ?_
                                refine v_iconst C dX10_goesAlong_243 ?_
                                have k185 := h.1
                                have h := h.2
                                refine v_iast (i := 314) (n := 6) C (Nat.le_trans hlo (by decide)) (Nat.lt_of_lt_of_le (by decide) hhi) (fun _ => rfl) rx120 k185 (by decide) dX10_goesAlong_244 ?_
                                refine v_nameS (fun σ186 eσ186 => ?_)
                                have h := h σ186 eσ186
                                refine v_R (fun hRσ186 => ?_)
                                refine v_goto C 272 dX10_goesAlong_245 (by decide) ?_
                                refine v_aload_n C 2 dX10_goesAlong_272 rfl rfl ?_
                                refine v_dup C rfl dX10_goesAlong_273 ?_
                                refine gf10_at C hlo hhi w887 dX10_goesAlong_274 ?_
                                refine v_iconst C dX10_goesAlong_277 ?_
                                have k187 := h.1
                                have h := h.2
                                refine v_iadd C dX10_goesAlong_278 ?_
                                refine pf10_at C hlo hhi k187 w887 dX10_goesAlong_279 ?_
                                refine v_nameS (fun σ188 eσ188 => ?_)
                                have h := h σ188 eσ188
                                refine v_R (fun hRσ188 => ?_)
                                refine v_goto C 55 dX10_goesAlong_282 (by decide) ?_
                                obtain ⟨m9, hm9, h⟩ := h
                                refine v_sub [1, 2, 3] rfl ?_
                                exact ih13 m9 hm9 x120 σ188 h rx120
                          · have h := h.2 c198
                            refine v_aload_n C 1 dX10_goesAlong_175 rfl rfl ?_
                            refine v_iconst C dX10_goesAlong_176 ?_
                            refine v_iload_n C 2 dX10_goesAlong_177 rfl rfl ?_
                            obtain ⟨J193, hJ193, h⟩ := h
                            have kJ193 : ∀ (x191 : Int) (σ192 : SG), J193 x191 σ192 → inR x191 → V p l e rm_X10_goesAlong s m args below meth c D aC B lo hi 4 (MQ below (QI D aC B lo hi Q) args s 0 0 (AB B lo hi)) σ192 190 [(2, .int (iI x120))] [.int (iI x191), .int (iI 0), .ref (B + 304)] := by
                              intro x191 σ192 hj rx191
                              have h := hJ193 x191 σ192 hj
                              refine v_R (fun hRσ192 => ?_)
                              refine v_callv (i := 304) (As := [.int (iI 0), .int (iI x191)]) (rest := []) C (s_X10_joinsSum hlo hhi (by decide) rx191 h) w1158 wy_X10_joinsSum ⟨rfl, rfl⟩ hd_X10_joinsSum ⟨Nat.le_of_ble_eq_true rfl, Nat.le_of_ble_eq_true rfl⟩ (Nat.le_trans hlo (by decide)) (Nat.lt_of_lt_of_le (by decide) hhi) rfl rfl rfl rfl (Nat.le_of_ble_eq_true rfl) dX10_goesAlong_190 (fun σ194 h => ?_)
                              refine v_R (fun hRσ194 => ?_)
                              refine v_iload_n C 0 dX10_goesAlong_193 rfl rfl ?_
                              refine v_if_ne C rx120 201 dX10_goesAlong_194 (by decide) (fun c195 => ?_) (fun c195 => ?_)
                              · have h := h.1 c195
                                refine v_iconst C dX10_goesAlong_201 ?_
                                exact v_zret C (by decide) h dX10_goesAlong_202
                              · have h := h.2 c195
                                refine v_iconst C dX10_goesAlong_197 ?_
                                refine v_goto C 202 dX10_goesAlong_198 (by decide) ?_
                                exact v_zret C (by decide) h dX10_goesAlong_202
                            refine v_if_eq C r1 189 dX10_goesAlong_178 (by decide) (fun c197 => ?_) (fun c197 => ?_)
                            · have h := h.1 c197
                              refine v_iconst C dX10_goesAlong_189 ?_
                              refine v_sub [0] rfl ?_
                              exact kJ193 0 σ161 h (by decide)
                            · have h := h.2 c197
                              refine v_iload_n C 0 dX10_goesAlong_181 rfl rfl ?_
                              refine v_if_ne C rx120 189 dX10_goesAlong_182 (by decide) (fun c196 => ?_) (fun c196 => ?_)
                              · have h := h.1 c196
                                refine v_iconst C dX10_goesAlong_189 ?_
                                refine v_sub [0] rfl ?_
                                exact kJ193 0 σ161 h (by decide)
                              · have h := h.2 c196
                                refine v_iconst C dX10_goesAlong_185 ?_
                                refine v_goto C 190 dX10_goesAlong_186 (by decide) ?_
                                refine v_sub [0] rfl ?_
                                exact kJ193 1 σ161 h (by decide)
                        · have h := h.2 c207
                          refine v_aload_n C 1 dX10_goesAlong_126 rfl rfl ?_
                          refine v_iload_n C 0 dX10_goesAlong_127 rfl rfl ?_
                          refine v_iload_n C 2 dX10_goesAlong_128 rfl rfl ?_
                          refine v_callv (i := 304) (As := [.int (iI x120), .int (iI a1)]) (rest := []) C (s_X10_joinsSum hlo hhi rx120 r1 h) w1158 wy_X10_joinsSum ⟨rfl, rfl⟩ hd_X10_joinsSum ⟨Nat.le_of_ble_eq_true rfl, Nat.le_of_ble_eq_true rfl⟩ (Nat.le_trans hlo (by decide)) (Nat.lt_of_lt_of_le (by decide) hhi) rfl rfl rfl rfl (Nat.le_of_ble_eq_true rfl) dX10_goesAlong_129 (fun σ199 h => ?_)
                          refine v_R (fun hRσ199 => ?_)
                          refine v_aload_n C 1 dX10_goesAlong_132 rfl rfl ?_
                          refine v_bipush C dX10_goesAlong_133 (by decide) ?_
                          refine v_iload_n C 0 dX10_goesAlong_135 rfl rfl ?_
                          have k200 := h.1
                          have h := h.2
                          refine v_iadd C dX10_goesAlong_136 ?_
                          refine v_bipush C dX10_goesAlong_137 (by decide) ?_
                          refine v_callv (i := 304) (As := [.int (iI (20 + x120)), .int (iI 32)]) (rest := []) C (s_X10_copies hlo hhi k200 (by decide) h) w971 wy_X10_copies ⟨rfl, rfl⟩ hd_X10_copies ⟨Nat.le_of_ble_eq_true rfl, Nat.le_of_ble_eq_true rfl⟩ (Nat.le_trans hlo (by decide)) (Nat.lt_of_lt_of_le (by decide) hhi) rfl rfl rfl rfl (Nat.le_of_ble_eq_true rfl) dX10_goesAlong_139 (fun σ201 h => ?_)
                          refine v_R (fun hRσ201 => ?_)
                          have k202 := h.1
                          have h := h.2
                          refine v_iinc (lv' := [(2, .int (iI (x120 + (-1)))), (0, .ref (B + 304)), (1, .int (iI a1))]) C 0 dX10_goesAlong_142 rfl (by decide) rfl ?_
                          refine v_aload_n C 1 dX10_goesAlong_145 rfl rfl ?_
                          refine v_iload_n C 2 dX10_goesAlong_146 rfl rfl ?_
                          refine v_calli (i := 304) (As := [.int (iI a1)]) (rest := []) C (s_X10_takesPower hlo hhi r1 h) w1146 wy_X10_takesPower ⟨rfl, rfl⟩ hd_X10_takesPower ⟨Nat.le_of_ble_eq_true rfl, Nat.le_of_ble_eq_true rfl⟩ (Nat.le_trans hlo (by decide)) (Nat.lt_of_lt_of_le (by decide) hhi) rfl rfl rfl rfl (Nat.le_of_ble_eq_true rfl) dX10_goesAlong_147 (fun z204 σ203 rz204 h => ?_)
                          refine v_R (fun hRσ203 => ?_)
                          refine v_if_ne C rz204 155 dX10_goesAlong_150 (by decide) (fun c206 => ?_) (fun c206 => ?_)
                          · have h := h.1 c206
                            refine v_aload_n C 1 dX10_goesAlong_155 rfl rfl ?_
                            refine v_iload_n C 0 dX10_goesAlong_156 rfl rfl ?_
                            refine v_iload_n C 2 dX10_goesAlong_157 rfl rfl ?_
                            refine v_callv (i := 304) (As := [.int (iI (x120 + (-1))), .int (iI a1)]) (rest := []) C (s_X10_joinsProduct hlo hhi k202 r1 h) w1150 wy_X10_joinsProduct ⟨rfl, rfl⟩ hd_X10_joinsProduct ⟨Nat.le_of_ble_eq_true rfl, Nat.le_of_ble_eq_true rfl⟩ (Nat.le_trans hlo (by decide)) (Nat.lt_of_lt_of_le (by decide) hhi) rfl rfl rfl rfl (Nat.le_of_ble_eq_true rfl) dX10_goesAlong_158 (fun σ205 h => ?_)
                            refine v_R (fun hRσ205 => ?_)
                            refine v_goto C 113 dX10_goesAlong_161 (by decide) ?_
                            obtain ⟨m9, hm9, h⟩ := h
                            exact ih123 m9 hm9 (x120 + (-1)) σ205 h k202
                          · have h := h.2 c206
                            refine v_iconst C dX10_goesAlong_153 ?_
                            exact v_zret C (by decide) h dX10_goesAlong_154
                  exact key124 n210 x10 σ119 hnn210 rx10
                · have h := h.2 c211
                  refine v_iconst C dX10_goesAlong_105 ?_
                  exact v_zret C (by decide) h dX10_goesAlong_106
            · have h := h.2 c218
              have k213 := h.1
              have h := h.2
              refine v_iinc (lv' := [(2, .int (iI (x10 + 1))), (0, .ref (B + 304)), (1, .int (iI a1))]) C 0 dX10_goesAlong_69 rfl (by decide) rfl ?_
              refine v_aload_n C 1 dX10_goesAlong_72 rfl rfl ?_
              refine gf10_toSum C hlo hhi w889 dX10_goesAlong_73 ?_
              refine v_iload_n C 0 dX10_goesAlong_76 rfl rfl ?_
              refine v_iconst C dX10_goesAlong_77 ?_
              have k214 := h.1
              have h := h.2
              refine v_iast (i := 313) (n := 6) C (Nat.le_trans hlo (by decide)) (Nat.lt_of_lt_of_le (by decide) hhi) (fun _ => rfl) k213 k214 (by decide) dX10_goesAlong_78 ?_
              refine v_nameS (fun σ215 eσ215 => ?_)
              have h := h σ215 eσ215
              refine v_R (fun hRσ215 => ?_)
              refine v_aload_n C 1 dX10_goesAlong_79 rfl rfl ?_
              refine gf10_toProduct C hlo hhi w890 dX10_goesAlong_80 ?_
              refine v_iload_n C 0 dX10_goesAlong_83 rfl rfl ?_
              refine v_iconst C dX10_goesAlong_84 ?_
              have k216 := h.1
              have h := h.2
              refine v_iast (i := 314) (n := 6) C (Nat.le_trans hlo (by decide)) (Nat.lt_of_lt_of_le (by decide) hhi) (fun _ => rfl) k213 k216 (by decide) dX10_goesAlong_85 ?_
              refine v_nameS (fun σ217 eσ217 => ?_)
              have h := h σ217 eσ217
              refine v_R (fun hRσ217 => ?_)
              refine v_goto C 55 dX10_goesAlong_86 (by decide) ?_
              obtain ⟨m9, hm9, h⟩ := h
              exact ih13 m9 hm9 (x10 + 1) σ217 h k213
      exact key14 n221 0 σ9 hnn221 (by decide)
    · have h := h.2 c222
      refine v_iconst C dX10_goesAlong_37 ?_
      exact v_zret C (by decide) h dX10_goesAlong_38
  · have h := h.2 c223
    refine v_iconst C dX10_goesAlong_16 ?_
    exact v_zret C (by decide) h dX10_goesAlong_17
-- SplitTowersModel.record()V
def wp_X10_record (σ : SG)  (Q : SG → Prop) : Prop :=
  Jn0 (fun  (σ1 : SG) => Lp1 (fun (rec5 : Int → SG → Prop) (x3 : Int) (σ4 : SG) => ((87 ≤ x3 → (inR ((σ4 304 2) + 1) ∧ (∀ σ9 : SG, σ9 = ug σ4 304 2 ((σ4 304 2) + 1) → Q σ9))) ∧ (¬ 87 ≤ x3 → (inR (87 * (σ4 304 2)) ∧ (inR ((87 * (σ4 304 2)) + x3) ∧ ((0 ≤ x3 ∧ x3 < 87) ∧ ((0 ≤ (87 * (σ4 304 2)) + x3 ∧ (87 * (σ4 304 2)) + x3 < 348) ∧ (∀ σ14 : SG, σ14 = ug σ4 306 (((87 * (σ4 304 2)) + x3).toNat) (σ4 305 x3.toNat) → (inR (x3 + 1) ∧ rec5 (x3 + 1) σ14))))))))) 0 σ1) (fun J2 => ((¬ (σ 304 2) = 4 → J2 σ) ∧ ((σ 304 2) = 4 → Lp1 (fun (rec21 : Int → SG → Prop) (x19 : Int) (σ20 : SG) => ((261 ≤ x19 → (inR ((σ20 304 2) - 1) ∧ (∀ σ25 : SG, σ25 = ug σ20 304 2 ((σ20 304 2) - 1) → J2 σ25))) ∧ (¬ 261 ≤ x19 → (inR (x19 + 87) ∧ ((0 ≤ x19 + 87 ∧ x19 + 87 < 348) ∧ ((0 ≤ x19 ∧ x19 < 348) ∧ (∀ σ29 : SG, σ29 = ug σ20 306 x19.toNat (σ20 306 (x19 + 87).toNat) → (inR (x19 + 1) ∧ rec21 (x19 + 1) σ29)))))))) 0 σ)))
def rm_X10_record : Room := { frames := 0, cells := 0, slots := 0, locals := 0 }
theorem wy_X10_record : Cond.instanceMethod yX10_record ∈ WS ∧ Cond.selects "SplitTowersModel" yX10_record yX10_record ∈ WS ∧ Cond.initialized "SplitTowersModel" ∈ WS ∧ Cond.code yX10_record prog_12_method_6_code 2 none ∈ WS := ⟨w930, w14, w79, w931⟩
theorem hd_X10_record : yX10_record.cls = "SplitTowersModel" ∧ yX10_record.cls ≠ "java/lang/invoke/MethodHandle" ∧ yX10_record.cls ≠ "java/lang/invoke/VarHandle" ∧ (parseMethodDescriptor yX10_record.desc).map (fun d => d.parameters.length) = some 0 := by decide +kernel
set_option maxHeartbeats 4000000 in
set_option maxRecDepth 100000 in
theorem s_X10_record {l : Launch} {D : va_G} {aC : Nat → ClassId} {B lo hi : Nat} {σ : SG}  {Q : SG → Prop} (hlo : lo ≤ 304) (hhi : 316 ≤ hi) (h : wp_X10_record σ  Q) : Met l yX10_record (Cond.code yX10_record prog_12_method_6_code 2 none :: WS) rm_X10_record (va_Pc [.ref (B + 304)] (WP D aC B lo hi σ)) (QV D aC B lo hi Q) 0 0 (AB B lo hi) := by
  refine met_of (by decide +kernel) (by decide +kernel : yX10_record.cls = "SplitTowersModel") (Nat.le_of_ble_eq_true rfl) ?_
  intro p e s m args below meth c C
  unfold wp_X10_record at h
  refine v_R (fun hR0 => ?_)
  show V p l e rm_X10_record s m args below meth c D aC B lo hi 2 (MQ below (QV D aC B lo hi Q) args s 0 0 (AB B lo hi)) σ 0 [(0, .ref (B + 304))] []
  refine v_aload_n C 0 dX10_record_0 rfl rfl ?_
  refine gf10_kept C hlo hhi w879 dX10_record_1 ?_
  refine v_iconst C dX10_record_4 ?_
  obtain ⟨J2, hJ2, h⟩ := h
  have kJ2 : ∀  (σ1 : SG), J2 σ1 → V p l e rm_X10_record s m args below meth c D aC B lo hi 2 (MQ below (QV D aC B lo hi Q) args s 0 0 (AB B lo hi)) σ1 48 [(0, .ref (B + 304))] [] := by
    intro σ1 hj 
    have h := hJ2 σ1 hj
    refine v_R (fun hRσ1 => ?_)
    refine v_iconst C dX10_record_48 ?_
    refine v_istore_n (lv' := [(1, .int (iI 0)), (0, .ref (B + 304))]) C dX10_record_49 rfl (by decide) rfl ?_
    obtain ⟨I17, ⟨n18, hnn18⟩, hII17⟩ := h
    have key7 : ∀ (n : Nat) (x3 : Int) (σ4 : SG), I17 n x3 σ4 → inR x3 → V p l e rm_X10_record s m args below meth c D aC B lo hi 2 (MQ below (QV D aC B lo hi Q) args s 0 0 (AB B lo hi)) σ4 50 [(1, .int (iI x3)), (0, .ref (B + 304))] [] := by
      intro n
      induction n using Nat.strongRecOn with
      | ind n ih6 =>
        intro x3 σ4 hn rx3
        have h := hII17 n x3 σ4 hn
        refine v_R (fun hRσ4 => ?_)
        refine v_iload_n C 0 dX10_record_50 rfl rfl ?_
        refine v_bipush C dX10_record_51 (by decide) ?_
        refine v_icmp_ge C rx3 (by decide) 82 dX10_record_53 (by decide) (fun c16 => ?_) (fun c16 => ?_)
        · have h := h.1 c16
          refine v_aload_n C 1 dX10_record_82 rfl rfl ?_
          refine v_dup C rfl dX10_record_83 ?_
          refine gf10_kept C hlo hhi w879 dX10_record_84 ?_
          refine v_iconst C dX10_record_87 ?_
          have k8 := h.1
          have h := h.2
          refine v_iadd C dX10_record_88 ?_
          refine pf10_kept C hlo hhi k8 w879 dX10_record_89 ?_
          refine v_nameS (fun σ9 eσ9 => ?_)
          have h := h σ9 eσ9
          refine v_R (fun hRσ9 => ?_)
          exact v_vret C h dX10_record_92
        · have h := h.2 c16
          refine v_aload_n C 1 dX10_record_56 rfl rfl ?_
          refine gf10_history C hlo hhi w878 dX10_record_57 ?_
          refine v_bipush C dX10_record_60 (by decide) ?_
          refine v_aload_n C 1 dX10_record_62 rfl rfl ?_
          refine gf10_kept C hlo hhi w879 dX10_record_63 ?_
          have k10 := h.1
          have h := h.2
          refine v_imul C dX10_record_66 ?_
          refine v_iload_n C 0 dX10_record_67 rfl rfl ?_
          have k11 := h.1
          have h := h.2
          refine v_iadd C dX10_record_68 ?_
          refine v_aload_n C 1 dX10_record_69 rfl rfl ?_
          refine gf10_now C hlo hhi w877 dX10_record_70 ?_
          refine v_iload_n C 0 dX10_record_73 rfl rfl ?_
          have k12 := h.1
          have h := h.2
          refine v_iald (i := 305) (n := 87) C (Nat.le_trans hlo (by decide)) (Nat.lt_of_lt_of_le (by decide) hhi) rfl rx3 k12 dX10_record_74 ?_
          have k13 := h.1
          have h := h.2
          refine v_iast (i := 306) (n := 348) C (Nat.le_trans hlo (by decide)) (Nat.lt_of_lt_of_le (by decide) hhi) (fun _ => rfl) k11 k13 (hRσ4 305 _) dX10_record_75 ?_
          refine v_nameS (fun σ14 eσ14 => ?_)
          have h := h σ14 eσ14
          refine v_R (fun hRσ14 => ?_)
          have k15 := h.1
          have h := h.2
          refine v_iinc (lv' := [(1, .int (iI (x3 + 1))), (0, .ref (B + 304))]) C 0 dX10_record_76 rfl (by decide) rfl ?_
          refine v_goto C 50 dX10_record_79 (by decide) ?_
          obtain ⟨m9, hm9, h⟩ := h
          exact ih6 m9 hm9 (x3 + 1) σ14 h k15
    exact key7 n18 0 σ1 hnn18 (by decide)
  refine v_icmp_ne C (hR0 304 2) (by decide) 48 dX10_record_5 (by decide) (fun c34 => ?_) (fun c34 => ?_)
  · have h := h.1 c34
    exact kJ2 σ h 
  · have h := h.2 c34
    refine v_iconst C dX10_record_8 ?_
    refine v_istore_n (lv' := [(1, .int (iI 0)), (0, .ref (B + 304))]) C dX10_record_9 rfl (by decide) rfl ?_
    obtain ⟨I32, ⟨n33, hnn33⟩, hII32⟩ := h
    have key23 : ∀ (n : Nat) (x19 : Int) (σ20 : SG), I32 n x19 σ20 → inR x19 → V p l e rm_X10_record s m args below meth c D aC B lo hi 2 (MQ below (QV D aC B lo hi Q) args s 0 0 (AB B lo hi)) σ20 10 [(1, .int (iI x19)), (0, .ref (B + 304))] [] := by
      intro n
      induction n using Nat.strongRecOn with
      | ind n ih22 =>
        intro x19 σ20 hn rx19
        have h := hII32 n x19 σ20 hn
        refine v_R (fun hRσ20 => ?_)
        refine v_iload_n C 0 dX10_record_10 rfl rfl ?_
        refine v_sipush C dX10_record_11 (by decide) ?_
        refine v_icmp_ge C rx19 (by decide) 38 dX10_record_14 (by decide) (fun c31 => ?_) (fun c31 => ?_)
        · have h := h.1 c31
          refine v_aload_n C 1 dX10_record_38 rfl rfl ?_
          refine v_dup C rfl dX10_record_39 ?_
          refine gf10_kept C hlo hhi w879 dX10_record_40 ?_
          refine v_iconst C dX10_record_43 ?_
          have k24 := h.1
          have h := h.2
          refine v_isub C dX10_record_44 ?_
          refine pf10_kept C hlo hhi k24 w879 dX10_record_45 ?_
          refine v_nameS (fun σ25 eσ25 => ?_)
          have h := h σ25 eσ25
          refine v_R (fun hRσ25 => ?_)
          refine v_sub [1] rfl ?_
          exact kJ2 σ25 h 
        · have h := h.2 c31
          refine v_aload_n C 1 dX10_record_17 rfl rfl ?_
          refine gf10_history C hlo hhi w878 dX10_record_18 ?_
          refine v_iload_n C 0 dX10_record_21 rfl rfl ?_
          refine v_aload_n C 1 dX10_record_22 rfl rfl ?_
          refine gf10_history C hlo hhi w878 dX10_record_23 ?_
          refine v_iload_n C 0 dX10_record_26 rfl rfl ?_
          refine v_bipush C dX10_record_27 (by decide) ?_
          have k26 := h.1
          have h := h.2
          refine v_iadd C dX10_record_29 ?_
          have k27 := h.1
          have h := h.2
          refine v_iald (i := 306) (n := 348) C (Nat.le_trans hlo (by decide)) (Nat.lt_of_lt_of_le (by decide) hhi) rfl k26 k27 dX10_record_30 ?_
          have k28 := h.1
          have h := h.2
          refine v_iast (i := 306) (n := 348) C (Nat.le_trans hlo (by decide)) (Nat.lt_of_lt_of_le (by decide) hhi) (fun _ => rfl) rx19 k28 (hRσ20 306 _) dX10_record_31 ?_
          refine v_nameS (fun σ29 eσ29 => ?_)
          have h := h σ29 eσ29
          refine v_R (fun hRσ29 => ?_)
          have k30 := h.1
          have h := h.2
          refine v_iinc (lv' := [(1, .int (iI (x19 + 1))), (0, .ref (B + 304))]) C 0 dX10_record_32 rfl (by decide) rfl ?_
          refine v_goto C 10 dX10_record_35 (by decide) ?_
          obtain ⟨m9, hm9, h⟩ := h
          exact ih22 m9 hm9 (x19 + 1) σ29 h k30
    exact key23 n33 0 σ hnn33 (by decide)
-- SplitTowersModel.stores(II)V
def wp_X10_stores (σ : SG) (a1 : Int) (a2 : Int) (Q : SG → Prop) : Prop :=
  Lp1 (fun (rec3 : Int → SG → Prop) (x1 : Int) (σ2 : SG) => ((6 ≤ x1 → Q σ2) ∧ (¬ 6 ≤ x1 → (inR (6 * a2) ∧ (inR (8 + (6 * a2)) ∧ (inR ((8 + (6 * a2)) + x1) ∧ wp_X10_of σ2 a1 x1 (fun (z10 : Int) (σ9 : SG) => ((0 ≤ (8 + (6 * a2)) + x1 ∧ (8 + (6 * a2)) + x1 < 87) ∧ (∀ σ12 : SG, σ12 = ug σ9 305 (((8 + (6 * a2)) + x1).toNat) z10 → (inR (x1 + 1) ∧ rec3 (x1 + 1) σ12)))))))))) 0 σ
def rm_X10_stores : Room := { frames := 1, cells := 0, slots := 0, locals := 22 }
theorem wy_X10_stores : Cond.instanceMethod yX10_stores ∈ WS ∧ Cond.selects "SplitTowersModel" yX10_stores yX10_stores ∈ WS ∧ Cond.initialized "SplitTowersModel" ∈ WS ∧ Cond.code yX10_stores prog_12_method_38_code 4 none ∈ WS := ⟨w1001, w30, w79, w1002⟩
theorem hd_X10_stores : yX10_stores.cls = "SplitTowersModel" ∧ yX10_stores.cls ≠ "java/lang/invoke/MethodHandle" ∧ yX10_stores.cls ≠ "java/lang/invoke/VarHandle" ∧ (parseMethodDescriptor yX10_stores.desc).map (fun d => d.parameters.length) = some 2 := by decide +kernel
set_option maxHeartbeats 4000000 in
set_option maxRecDepth 100000 in
theorem s_X10_stores {l : Launch} {D : va_G} {aC : Nat → ClassId} {B lo hi : Nat} {σ : SG} {a1 : Int} {a2 : Int} {Q : SG → Prop} (hlo : lo ≤ 304) (hhi : 316 ≤ hi) (r1 : inR a1) (r2 : inR a2) (h : wp_X10_stores σ a1 a2 Q) : Met l yX10_stores (Cond.code yX10_stores prog_12_method_38_code 4 none :: WS) rm_X10_stores (va_Pc [.ref (B + 304), .int (iI a1), .int (iI a2)] (WP D aC B lo hi σ)) (QV D aC B lo hi Q) 0 0 (AB B lo hi) := by
  refine met_of (by decide +kernel) (by decide +kernel : yX10_stores.cls = "SplitTowersModel") (Nat.le_of_ble_eq_true rfl) ?_
  intro p e s m args below meth c C
  unfold wp_X10_stores at h
  refine v_R (fun hR0 => ?_)
  show V p l e rm_X10_stores s m args below meth c D aC B lo hi 4 (MQ below (QV D aC B lo hi Q) args s 0 0 (AB B lo hi)) σ 0 [(0, .ref (B + 304)), (1, .int (iI a1)), (2, .int (iI a2))] []
  refine v_iconst C dX10_stores_0 ?_
  refine v_istore_n (lv' := [(3, .int (iI 0)), (0, .ref (B + 304)), (1, .int (iI a1)), (2, .int (iI a2))]) C dX10_stores_1 rfl (by decide) rfl ?_
  obtain ⟨I15, ⟨n16, hnn16⟩, hII15⟩ := h
  have key5 : ∀ (n : Nat) (x1 : Int) (σ2 : SG), I15 n x1 σ2 → inR x1 → V p l e rm_X10_stores s m args below meth c D aC B lo hi 4 (MQ below (QV D aC B lo hi Q) args s 0 0 (AB B lo hi)) σ2 2 [(3, .int (iI x1)), (0, .ref (B + 304)), (1, .int (iI a1)), (2, .int (iI a2))] [] := by
    intro n
    induction n using Nat.strongRecOn with
    | ind n ih4 =>
      intro x1 σ2 hn rx1
      have h := hII15 n x1 σ2 hn
      refine v_R (fun hRσ2 => ?_)
      refine v_iload_n C 0 dX10_stores_2 rfl rfl ?_
      refine v_bipush C dX10_stores_3 (by decide) ?_
      refine v_icmp_ge C rx1 (by decide) 34 dX10_stores_5 (by decide) (fun c14 => ?_) (fun c14 => ?_)
      · have h := h.1 c14
        exact v_vret C h dX10_stores_34
      · have h := h.2 c14
        refine v_aload_n C 1 dX10_stores_8 rfl rfl ?_
        refine gf10_now C hlo hhi w877 dX10_stores_9 ?_
        refine v_bipush C dX10_stores_12 (by decide) ?_
        refine v_bipush C dX10_stores_14 (by decide) ?_
        refine v_iload_n C 3 dX10_stores_16 rfl rfl ?_
        have k6 := h.1
        have h := h.2
        refine v_imul C dX10_stores_17 ?_
        have k7 := h.1
        have h := h.2
        refine v_iadd C dX10_stores_18 ?_
        refine v_iload_n C 0 dX10_stores_19 rfl rfl ?_
        have k8 := h.1
        have h := h.2
        refine v_iadd C dX10_stores_20 ?_
        refine v_aload_n C 1 dX10_stores_21 rfl rfl ?_
        refine v_iload_n C 2 dX10_stores_22 rfl rfl ?_
        refine v_iload_n C 0 dX10_stores_23 rfl rfl ?_
        refine v_calli (i := 304) (As := [.int (iI a1), .int (iI x1)]) (rest := [.int (iI ((8 + (6 * a2)) + x1)), .ref (B + 305)]) C (s_X10_of hlo hhi r1 rx1 h) w963 wy_X10_of ⟨rfl, rfl⟩ hd_X10_of ⟨Nat.le_of_ble_eq_true rfl, Nat.le_of_ble_eq_true rfl⟩ (Nat.le_trans hlo (by decide)) (Nat.lt_of_lt_of_le (by decide) hhi) rfl rfl rfl rfl (Nat.le_of_ble_eq_true rfl) dX10_stores_24 (fun z10 σ9 rz10 h => ?_)
        refine v_R (fun hRσ9 => ?_)
        have k11 := h.1
        have h := h.2
        refine v_iast (i := 305) (n := 87) C (Nat.le_trans hlo (by decide)) (Nat.lt_of_lt_of_le (by decide) hhi) (fun _ => rfl) k8 k11 rz10 dX10_stores_27 ?_
        refine v_nameS (fun σ12 eσ12 => ?_)
        have h := h σ12 eσ12
        refine v_R (fun hRσ12 => ?_)
        have k13 := h.1
        have h := h.2
        refine v_iinc (lv' := [(3, .int (iI (x1 + 1))), (0, .ref (B + 304)), (1, .int (iI a1)), (2, .int (iI a2))]) C 0 dX10_stores_28 rfl (by decide) rfl ?_
        refine v_goto C 2 dX10_stores_31 (by decide) ?_
        obtain ⟨m9, hm9, h⟩ := h
        exact ih4 m9 hm9 (x1 + 1) σ12 h k13
  exact key5 n16 0 σ hnn16 (by decide)
-- SplitTowersModel.assign()I
def wp_X10_assign (σ : SG)  (Q : Int → SG → Prop) : Prop :=
  wp_X10_goesAlong σ 0 (fun (z2 : Int) (σ1 : SG) => ((¬ z2 = 0 → wp_X10_record σ1 (fun (σ3 : SG) => wp_X10_loadsModulus σ3 (fun (σ4 : SG) => wp_X10_goesAlong σ4 1 (fun (z6 : Int) (σ5 : SG) => (inR ((σ5 311 0) - 97) ∧ wp_X10_stores σ5 20 ((σ5 311 0) - 97) (fun (σ8 : SG) => Q (σ8 305 44) σ8)))))) ∧ (z2 = 0 → (inR ((-100) - (σ1 304 10)) ∧ Q ((-100) - (σ1 304 10)) σ1))))
def rm_X10_assign : Room := { frames := 8, cells := 0, slots := 0, locals := 191 }
theorem wy_X10_assign : Cond.instanceMethod yX10_assign ∈ WS ∧ Cond.selects "SplitTowersModel" yX10_assign yX10_assign ∈ WS ∧ Cond.initialized "SplitTowersModel" ∈ WS ∧ Cond.code yX10_assign prog_12_method_62_code 1 (some .int) ∈ WS := ⟨w1135, w1136, w79, w1137⟩
theorem hd_X10_assign : yX10_assign.cls = "SplitTowersModel" ∧ yX10_assign.cls ≠ "java/lang/invoke/MethodHandle" ∧ yX10_assign.cls ≠ "java/lang/invoke/VarHandle" ∧ (parseMethodDescriptor yX10_assign.desc).map (fun d => d.parameters.length) = some 0 := by decide +kernel
set_option maxHeartbeats 4000000 in
set_option maxRecDepth 100000 in
theorem s_X10_assign {l : Launch} {D : va_G} {aC : Nat → ClassId} {B lo hi : Nat} {σ : SG}  {Q : Int → SG → Prop} (hlo : lo ≤ 304) (hhi : 316 ≤ hi) (h : wp_X10_assign σ  Q) : Met l yX10_assign (Cond.code yX10_assign prog_12_method_62_code 1 (some .int) :: WS) rm_X10_assign (va_Pc [.ref (B + 304)] (WP D aC B lo hi σ)) (QI D aC B lo hi Q) 0 0 (AB B lo hi) := by
  refine met_of (by decide +kernel) (by decide +kernel : yX10_assign.cls = "SplitTowersModel") (Nat.le_of_ble_eq_true rfl) ?_
  intro p e s m args below meth c C
  unfold wp_X10_assign at h
  refine v_R (fun hR0 => ?_)
  show V p l e rm_X10_assign s m args below meth c D aC B lo hi 1 (MQ below (QI D aC B lo hi Q) args s 0 0 (AB B lo hi)) σ 0 [(0, .ref (B + 304))] []
  refine v_aload_n C 0 dX10_assign_0 rfl rfl ?_
  refine v_iconst C dX10_assign_1 ?_
  refine v_calli (i := 304) (As := [.int (iI 0)]) (rest := []) C (s_X10_goesAlong hlo hhi (by decide) h) w1138 wy_X10_goesAlong ⟨rfl, rfl⟩ hd_X10_goesAlong ⟨Nat.le_of_ble_eq_true rfl, Nat.le_of_ble_eq_true rfl⟩ (Nat.le_trans hlo (by decide)) (Nat.lt_of_lt_of_le (by decide) hhi) rfl rfl rfl rfl (Nat.le_of_ble_eq_true rfl) dX10_assign_2 (fun z2 σ1 rz2 h => ?_)
  refine v_R (fun hRσ1 => ?_)
  refine v_if_ne C rz2 16 dX10_assign_5 (by decide) (fun c10 => ?_) (fun c10 => ?_)
  · have h := h.1 c10
    refine v_aload_n C 0 dX10_assign_16 rfl rfl ?_
    refine v_callv (i := 304) (As := []) (rest := []) C (s_X10_record hlo hhi h) w928 wy_X10_record ⟨rfl, rfl⟩ hd_X10_record ⟨Nat.le_of_ble_eq_true rfl, Nat.le_of_ble_eq_true rfl⟩ (Nat.le_trans hlo (by decide)) (Nat.lt_of_lt_of_le (by decide) hhi) rfl rfl rfl rfl (Nat.le_of_ble_eq_true rfl) dX10_assign_17 (fun σ3 h => ?_)
    refine v_R (fun hRσ3 => ?_)
    refine v_aload_n C 0 dX10_assign_20 rfl rfl ?_
    refine v_callv (i := 304) (As := []) (rest := []) C (s_X10_loadsModulus hlo hhi h) w1026 wy_X10_loadsModulus ⟨rfl, rfl⟩ hd_X10_loadsModulus ⟨Nat.le_of_ble_eq_true rfl, Nat.le_of_ble_eq_true rfl⟩ (Nat.le_trans hlo (by decide)) (Nat.lt_of_lt_of_le (by decide) hhi) rfl rfl rfl rfl (Nat.le_of_ble_eq_true rfl) dX10_assign_21 (fun σ4 h => ?_)
    refine v_R (fun hRσ4 => ?_)
    refine v_aload_n C 0 dX10_assign_24 rfl rfl ?_
    refine v_iconst C dX10_assign_25 ?_
    refine v_calli (i := 304) (As := [.int (iI 1)]) (rest := []) C (s_X10_goesAlong hlo hhi (by decide) h) w1138 wy_X10_goesAlong ⟨rfl, rfl⟩ hd_X10_goesAlong ⟨Nat.le_of_ble_eq_true rfl, Nat.le_of_ble_eq_true rfl⟩ (Nat.le_trans hlo (by decide)) (Nat.lt_of_lt_of_le (by decide) hhi) rfl rfl rfl rfl (Nat.le_of_ble_eq_true rfl) dX10_assign_26 (fun z6 σ5 rz6 h => ?_)
    refine v_R (fun hRσ5 => ?_)
    refine v_pop C rfl dX10_assign_29 ?_
    refine v_aload_n C 0 dX10_assign_30 rfl rfl ?_
    refine v_bipush C dX10_assign_31 (by decide) ?_
    refine v_aload_n C 0 dX10_assign_33 rfl rfl ?_
    refine gf10_text C hlo hhi w886 dX10_assign_34 ?_
    refine v_iconst C dX10_assign_37 ?_
    refine v_cald (i := 311) (n := 60) C (Nat.le_trans hlo (by decide)) (Nat.lt_of_lt_of_le (by decide) hhi) rfl (by decide) ⟨by decide, by decide⟩ dX10_assign_38 ?_
    refine v_bipush C dX10_assign_39 (by decide) ?_
    have k7 := h.1
    have h := h.2
    refine v_isub C dX10_assign_41 ?_
    refine v_callv (i := 304) (As := [.int (iI 20), .int (iI ((σ5 311 0) - 97))]) (rest := []) C (s_X10_stores hlo hhi (by decide) k7 h) w999 wy_X10_stores ⟨rfl, rfl⟩ hd_X10_stores ⟨Nat.le_of_ble_eq_true rfl, Nat.le_of_ble_eq_true rfl⟩ (Nat.le_trans hlo (by decide)) (Nat.lt_of_lt_of_le (by decide) hhi) rfl rfl rfl rfl (Nat.le_of_ble_eq_true rfl) dX10_assign_42 (fun σ8 h => ?_)
    refine v_R (fun hRσ8 => ?_)
    refine v_aload_n C 0 dX10_assign_45 rfl rfl ?_
    refine gf10_now C hlo hhi w877 dX10_assign_46 ?_
    refine v_bipush C dX10_assign_49 (by decide) ?_
    refine v_iald (i := 305) (n := 87) C (Nat.le_trans hlo (by decide)) (Nat.lt_of_lt_of_le (by decide) hhi) rfl (by decide) ⟨by decide, by decide⟩ dX10_assign_51 ?_
    exact v_iret C (hRσ8 305 _) h dX10_assign_52
  · have h := h.2 c10
    refine v_bipush C dX10_assign_8 (by decide) ?_
    refine v_aload_n C 0 dX10_assign_10 rfl rfl ?_
    refine gf10_at C hlo hhi w887 dX10_assign_11 ?_
    have k9 := h.1
    have h := h.2
    refine v_isub C dX10_assign_14 ?_
    exact v_iret C k9 h dX10_assign_15
-- SplitTowersModel.noBranch(I)Z
def wp_X10_noBranch (σ : SG) (a1 : Int) (Q : Int → SG → Prop) : Prop :=
  (inR ((σ 305 44) - 1) ∧ wp_X10_in σ a1 0 ((σ 305 44) - 1) (fun (z3 : Int) (σ2 : SG) => ((¬ z3 = 0 → Q 0 σ2) ∧ (z3 = 0 → Q 1 σ2))))
def rm_X10_noBranch : Room := { frames := 1, cells := 0, slots := 0, locals := 22 }
theorem wy_X10_noBranch : Cond.instanceMethod yX10_noBranch ∈ WS ∧ Cond.selects "SplitTowersModel" yX10_noBranch yX10_noBranch ∈ WS ∧ Cond.initialized "SplitTowersModel" ∈ WS ∧ Cond.code yX10_noBranch prog_12_method_5_code 2 (some .boolean) ∈ WS := ⟨w1036, w36, w79, w1037⟩
theorem hd_X10_noBranch : yX10_noBranch.cls = "SplitTowersModel" ∧ yX10_noBranch.cls ≠ "java/lang/invoke/MethodHandle" ∧ yX10_noBranch.cls ≠ "java/lang/invoke/VarHandle" ∧ (parseMethodDescriptor yX10_noBranch.desc).map (fun d => d.parameters.length) = some 1 := by decide +kernel
set_option maxHeartbeats 4000000 in
set_option maxRecDepth 100000 in
theorem s_X10_noBranch {l : Launch} {D : va_G} {aC : Nat → ClassId} {B lo hi : Nat} {σ : SG} {a1 : Int} {Q : Int → SG → Prop} (hlo : lo ≤ 304) (hhi : 316 ≤ hi) (r1 : inR a1) (h : wp_X10_noBranch σ a1 Q) : Met l yX10_noBranch (Cond.code yX10_noBranch prog_12_method_5_code 2 (some .boolean) :: WS) rm_X10_noBranch (va_Pc [.ref (B + 304), .int (iI a1)] (WP D aC B lo hi σ)) (QI D aC B lo hi Q) 0 0 (AB B lo hi) := by
  refine met_of (by decide +kernel) (by decide +kernel : yX10_noBranch.cls = "SplitTowersModel") (Nat.le_of_ble_eq_true rfl) ?_
  intro p e s m args below meth c C
  unfold wp_X10_noBranch at h
  refine v_R (fun hR0 => ?_)
  show V p l e rm_X10_noBranch s m args below meth c D aC B lo hi 2 (MQ below (QI D aC B lo hi Q) args s 0 0 (AB B lo hi)) σ 0 [(0, .ref (B + 304)), (1, .int (iI a1))] []
  refine v_iload_n C 1 dX10_noBranch_0 rfl rfl ?_
  refine v_iconst C dX10_noBranch_1 ?_
  refine v_aload_n C 0 dX10_noBranch_2 rfl rfl ?_
  refine gf10_now C hlo hhi w877 dX10_noBranch_3 ?_
  refine v_bipush C dX10_noBranch_6 (by decide) ?_
  refine v_iald (i := 305) (n := 87) C (Nat.le_trans hlo (by decide)) (Nat.lt_of_lt_of_le (by decide) hhi) rfl (by decide) ⟨by decide, by decide⟩ dX10_noBranch_8 ?_
  refine v_iconst C dX10_noBranch_9 ?_
  have k1 := h.1
  have h := h.2
  refine v_isub C dX10_noBranch_10 ?_
  refine v_callsi (As := [.int (iI a1), .int (iI 0), .int (iI ((σ 305 44) - 1))]) (rest := []) C (s_X10_in hlo hhi r1 (by decide) k1 h) w944 wy_X10_in ⟨rfl, rfl⟩ hd_X10_in ⟨Nat.le_of_ble_eq_true rfl, Nat.le_of_ble_eq_true rfl⟩ rfl rfl (Nat.le_of_ble_eq_true rfl) dX10_noBranch_11 (fun z3 σ2 rz3 h => ?_)
  refine v_R (fun hRσ2 => ?_)
  refine v_if_ne C rz3 21 dX10_noBranch_14 (by decide) (fun c4 => ?_) (fun c4 => ?_)
  · have h := h.1 c4
    refine v_iconst C dX10_noBranch_21 ?_
    exact v_zret C (by decide) h dX10_noBranch_22
  · have h := h.2 c4
    refine v_iconst C dX10_noBranch_17 ?_
    refine v_goto C 22 dX10_noBranch_18 (by decide) ?_
    exact v_zret C (by decide) h dX10_noBranch_22
-- SplitTowersModel.degreeOfBranch(I)I
def wp_X10_degreeOfBranch (σ : SG) (a1 : Int) (Q : Int → SG → Prop) : Prop :=
  wp_X10_loadsBranch σ a1 1 (fun (σ1 : SG) => wp_X10_degree σ1 1 (fun (z3 : Int) (σ2 : SG) => Q z3 σ2))
def rm_X10_degreeOfBranch : Room := { frames := 4, cells := 0, slots := 0, locals := 91 }
theorem wy_X10_degreeOfBranch : Cond.instanceMethod yX10_degreeOfBranch ∈ WS ∧ Cond.selects "SplitTowersModel" yX10_degreeOfBranch yX10_degreeOfBranch ∈ WS ∧ Cond.initialized "SplitTowersModel" ∈ WS ∧ Cond.code yX10_degreeOfBranch prog_12_method_68_code 2 (some .int) ∈ WS := ⟨w1188, w61, w79, w1189⟩
theorem hd_X10_degreeOfBranch : yX10_degreeOfBranch.cls = "SplitTowersModel" ∧ yX10_degreeOfBranch.cls ≠ "java/lang/invoke/MethodHandle" ∧ yX10_degreeOfBranch.cls ≠ "java/lang/invoke/VarHandle" ∧ (parseMethodDescriptor yX10_degreeOfBranch.desc).map (fun d => d.parameters.length) = some 1 := by decide +kernel
set_option maxHeartbeats 4000000 in
set_option maxRecDepth 100000 in
theorem s_X10_degreeOfBranch {l : Launch} {D : va_G} {aC : Nat → ClassId} {B lo hi : Nat} {σ : SG} {a1 : Int} {Q : Int → SG → Prop} (hlo : lo ≤ 304) (hhi : 316 ≤ hi) (r1 : inR a1) (h : wp_X10_degreeOfBranch σ a1 Q) : Met l yX10_degreeOfBranch (Cond.code yX10_degreeOfBranch prog_12_method_68_code 2 (some .int) :: WS) rm_X10_degreeOfBranch (va_Pc [.ref (B + 304), .int (iI a1)] (WP D aC B lo hi σ)) (QI D aC B lo hi Q) 0 0 (AB B lo hi) := by
  refine met_of (by decide +kernel) (by decide +kernel : yX10_degreeOfBranch.cls = "SplitTowersModel") (Nat.le_of_ble_eq_true rfl) ?_
  intro p e s m args below meth c C
  unfold wp_X10_degreeOfBranch at h
  refine v_R (fun hR0 => ?_)
  show V p l e rm_X10_degreeOfBranch s m args below meth c D aC B lo hi 2 (MQ below (QI D aC B lo hi Q) args s 0 0 (AB B lo hi)) σ 0 [(0, .ref (B + 304)), (1, .int (iI a1))] []
  refine v_aload_n C 0 dX10_degreeOfBranch_0 rfl rfl ?_
  refine v_iload_n C 1 dX10_degreeOfBranch_1 rfl rfl ?_
  refine v_iconst C dX10_degreeOfBranch_2 ?_
  refine v_callv (i := 304) (As := [.int (iI a1), .int (iI 1)]) (rest := []) C (s_X10_loadsBranch hlo hhi r1 (by decide) h) w1038 wy_X10_loadsBranch ⟨rfl, rfl⟩ hd_X10_loadsBranch ⟨Nat.le_of_ble_eq_true rfl, Nat.le_of_ble_eq_true rfl⟩ (Nat.le_trans hlo (by decide)) (Nat.lt_of_lt_of_le (by decide) hhi) rfl rfl rfl rfl (Nat.le_of_ble_eq_true rfl) dX10_degreeOfBranch_3 (fun σ1 h => ?_)
  refine v_R (fun hRσ1 => ?_)
  refine v_aload_n C 0 dX10_degreeOfBranch_6 rfl rfl ?_
  refine v_iconst C dX10_degreeOfBranch_7 ?_
  refine v_calli (i := 304) (As := [.int (iI 1)]) (rest := []) C (s_X10_degree hlo hhi (by decide) h) w975 wy_X10_degree ⟨rfl, rfl⟩ hd_X10_degree ⟨Nat.le_of_ble_eq_true rfl, Nat.le_of_ble_eq_true rfl⟩ (Nat.le_trans hlo (by decide)) (Nat.lt_of_lt_of_le (by decide) hhi) rfl rfl rfl rfl (Nat.le_of_ble_eq_true rfl) dX10_degreeOfBranch_8 (fun z3 σ2 rz3 h => ?_)
  refine v_R (fun hRσ2 => ?_)
  exact v_iret C rz3 h dX10_degreeOfBranch_11
-- SplitTowersModel.branch(II)I
def wp_X10_branch (σ : SG) (a1 : Int) (a2 : Int) (Q : Int → SG → Prop) : Prop :=
  wp_X10_noBranch σ a1 (fun (z2 : Int) (σ1 : SG) => ((z2 = 0 → ((0 ≤ a2 → wp_X10_degreeOfBranch σ1 a1 (fun (z4 : Int) (σ3 : SG) => ((z4 < a2 → Q (-5) σ3) ∧ (¬ z4 < a2 → (inR (7 * a1) ∧ (inR (45 + (7 * a1)) ∧ (inR ((45 + (7 * a1)) + a2) ∧ ((0 ≤ (45 + (7 * a1)) + a2 ∧ (45 + (7 * a1)) + a2 < 87) ∧ Q (σ3 305 ((45 + (7 * a1)) + a2).toNat) σ3)))))))) ∧ (¬ 0 ≤ a2 → Q (-2) σ1))) ∧ (¬ z2 = 0 → Q (-1) σ1)))
def rm_X10_branch : Room := { frames := 5, cells := 0, slots := 0, locals := 112 }
theorem wy_X10_branch : Cond.instanceMethod yX10_branch ∈ WS ∧ Cond.selects "SplitTowersModel" yX10_branch yX10_branch ∈ WS ∧ Cond.initialized "SplitTowersModel" ∈ WS ∧ Cond.code yX10_branch prog_12_method_69_code 3 (some .int) ∈ WS := ⟨w1183, w1184, w79, w1185⟩
theorem hd_X10_branch : yX10_branch.cls = "SplitTowersModel" ∧ yX10_branch.cls ≠ "java/lang/invoke/MethodHandle" ∧ yX10_branch.cls ≠ "java/lang/invoke/VarHandle" ∧ (parseMethodDescriptor yX10_branch.desc).map (fun d => d.parameters.length) = some 2 := by decide +kernel
set_option maxHeartbeats 4000000 in
set_option maxRecDepth 100000 in
theorem s_X10_branch {l : Launch} {D : va_G} {aC : Nat → ClassId} {B lo hi : Nat} {σ : SG} {a1 : Int} {a2 : Int} {Q : Int → SG → Prop} (hlo : lo ≤ 304) (hhi : 316 ≤ hi) (r1 : inR a1) (r2 : inR a2) (h : wp_X10_branch σ a1 a2 Q) : Met l yX10_branch (Cond.code yX10_branch prog_12_method_69_code 3 (some .int) :: WS) rm_X10_branch (va_Pc [.ref (B + 304), .int (iI a1), .int (iI a2)] (WP D aC B lo hi σ)) (QI D aC B lo hi Q) 0 0 (AB B lo hi) := by
  refine met_of (by decide +kernel) (by decide +kernel : yX10_branch.cls = "SplitTowersModel") (Nat.le_of_ble_eq_true rfl) ?_
  intro p e s m args below meth c C
  unfold wp_X10_branch at h
  refine v_R (fun hR0 => ?_)
  show V p l e rm_X10_branch s m args below meth c D aC B lo hi 3 (MQ below (QI D aC B lo hi Q) args s 0 0 (AB B lo hi)) σ 0 [(0, .ref (B + 304)), (1, .int (iI a1)), (2, .int (iI a2))] []
  refine v_aload_n C 0 dX10_branch_0 rfl rfl ?_
  refine v_iload_n C 1 dX10_branch_1 rfl rfl ?_
  refine v_calli (i := 304) (As := [.int (iI a1)]) (rest := []) C (s_X10_noBranch hlo hhi r1 h) w1034 wy_X10_noBranch ⟨rfl, rfl⟩ hd_X10_noBranch ⟨Nat.le_of_ble_eq_true rfl, Nat.le_of_ble_eq_true rfl⟩ (Nat.le_trans hlo (by decide)) (Nat.lt_of_lt_of_le (by decide) hhi) rfl rfl rfl rfl (Nat.le_of_ble_eq_true rfl) dX10_branch_2 (fun z2 σ1 rz2 h => ?_)
  refine v_R (fun hRσ1 => ?_)
  refine v_if_eq C rz2 10 dX10_branch_5 (by decide) (fun c11 => ?_) (fun c11 => ?_)
  · have h := h.1 c11
    refine v_iload_n C 2 dX10_branch_10 rfl rfl ?_
    refine v_if_ge C r2 17 dX10_branch_11 (by decide) (fun c10 => ?_) (fun c10 => ?_)
    · have h := h.1 c10
      refine v_iload_n C 2 dX10_branch_17 rfl rfl ?_
      refine v_aload_n C 0 dX10_branch_18 rfl rfl ?_
      refine v_iload_n C 1 dX10_branch_19 rfl rfl ?_
      refine v_calli (i := 304) (As := [.int (iI a1)]) (rest := [.int (iI a2)]) C (s_X10_degreeOfBranch hlo hhi r1 h) w1186 wy_X10_degreeOfBranch ⟨rfl, rfl⟩ hd_X10_degreeOfBranch ⟨Nat.le_of_ble_eq_true rfl, Nat.le_of_ble_eq_true rfl⟩ (Nat.le_trans hlo (by decide)) (Nat.lt_of_lt_of_le (by decide) hhi) rfl rfl rfl rfl (Nat.le_of_ble_eq_true rfl) dX10_branch_20 (fun z4 σ3 rz4 h => ?_)
      refine v_R (fun hRσ3 => ?_)
      refine v_icmp_gt C r2 rz4 43 dX10_branch_23 (by decide) (fun c9 => ?_) (fun c9 => ?_)
      · have h := h.1 c9
        refine v_bipush C dX10_branch_43 (by decide) ?_
        exact v_iret C (by decide) h dX10_branch_45
      · have h := h.2 c9
        refine v_aload_n C 0 dX10_branch_26 rfl rfl ?_
        refine gf10_now C hlo hhi w877 dX10_branch_27 ?_
        refine v_bipush C dX10_branch_30 (by decide) ?_
        refine v_bipush C dX10_branch_32 (by decide) ?_
        refine v_iload_n C 1 dX10_branch_34 rfl rfl ?_
        have k5 := h.1
        have h := h.2
        refine v_imul C dX10_branch_35 ?_
        have k6 := h.1
        have h := h.2
        refine v_iadd C dX10_branch_36 ?_
        refine v_iload_n C 2 dX10_branch_37 rfl rfl ?_
        have k7 := h.1
        have h := h.2
        refine v_iadd C dX10_branch_38 ?_
        have k8 := h.1
        have h := h.2
        refine v_iald (i := 305) (n := 87) C (Nat.le_trans hlo (by decide)) (Nat.lt_of_lt_of_le (by decide) hhi) rfl k7 k8 dX10_branch_39 ?_
        refine v_goto C 45 dX10_branch_40 (by decide) ?_
        exact v_iret C (hRσ3 305 _) h dX10_branch_45
    · have h := h.2 c10
      refine v_bipush C dX10_branch_14 (by decide) ?_
      exact v_iret C (by decide) h dX10_branch_16
  · have h := h.2 c11
    refine v_iconst C dX10_branch_8 ?_
    exact v_iret C (by decide) h dX10_branch_9
-- SplitTowersModel.clearText()I
def wp_X10_clearText (σ : SG)  (Q : Int → SG → Prop) : Prop :=
  (∀ v1 : Int, v1 = (σ 304 8) → (∀ σ2 : SG, σ2 = ug σ 304 8 0 → Q v1 σ2))
def rm_X10_clearText : Room := { frames := 0, cells := 0, slots := 0, locals := 0 }
theorem wy_X10_clearText : Cond.instanceMethod yX10_clearText ∈ WS ∧ Cond.selects "SplitTowersModel" yX10_clearText yX10_clearText ∈ WS ∧ Cond.initialized "SplitTowersModel" ∈ WS ∧ Cond.code yX10_clearText prog_12_method_53_code 2 (some .int) ∈ WS := ⟨w1131, w1132, w79, w1133⟩
theorem hd_X10_clearText : yX10_clearText.cls = "SplitTowersModel" ∧ yX10_clearText.cls ≠ "java/lang/invoke/MethodHandle" ∧ yX10_clearText.cls ≠ "java/lang/invoke/VarHandle" ∧ (parseMethodDescriptor yX10_clearText.desc).map (fun d => d.parameters.length) = some 0 := by decide +kernel
set_option maxHeartbeats 4000000 in
set_option maxRecDepth 100000 in
theorem s_X10_clearText {l : Launch} {D : va_G} {aC : Nat → ClassId} {B lo hi : Nat} {σ : SG}  {Q : Int → SG → Prop} (hlo : lo ≤ 304) (hhi : 316 ≤ hi) (h : wp_X10_clearText σ  Q) : Met l yX10_clearText (Cond.code yX10_clearText prog_12_method_53_code 2 (some .int) :: WS) rm_X10_clearText (va_Pc [.ref (B + 304)] (WP D aC B lo hi σ)) (QI D aC B lo hi Q) 0 0 (AB B lo hi) := by
  refine met_of (by decide +kernel) (by decide +kernel : yX10_clearText.cls = "SplitTowersModel") (Nat.le_of_ble_eq_true rfl) ?_
  intro p e s m args below meth c C
  unfold wp_X10_clearText at h
  refine v_R (fun hR0 => ?_)
  show V p l e rm_X10_clearText s m args below meth c D aC B lo hi 2 (MQ below (QI D aC B lo hi Q) args s 0 0 (AB B lo hi)) σ 0 [(0, .ref (B + 304))] []
  refine v_aload_n C 0 dX10_clearText_0 rfl rfl ?_
  refine gf10_typed C hlo hhi w885 dX10_clearText_1 ?_
  refine v_name (fun v1 ev1 => ?_)
  have h := h v1 ev1
  have rv1 : inR v1 := by rw [ev1]; exact (hR0 304 8)
  refine v_istore_n (lv' := [(1, .int (iI v1)), (0, .ref (B + 304))]) C dX10_clearText_4 rfl (by decide) rfl ?_
  refine v_aload_n C 1 dX10_clearText_5 rfl rfl ?_
  refine v_iconst C dX10_clearText_6 ?_
  refine pf10_typed C hlo hhi (by decide) w885 dX10_clearText_7 ?_
  refine v_nameS (fun σ2 eσ2 => ?_)
  have h := h σ2 eσ2
  refine v_R (fun hRσ2 => ?_)
  refine v_iload_n C 0 dX10_clearText_10 rfl rfl ?_
  exact v_iret C rv1 h dX10_clearText_11
-- SplitTowersModel.coefficients()I
def wp_X10_coefficients (σ : SG)  (Q : Int → SG → Prop) : Prop :=
  (∀ σ1 : SG, σ1 = ug σ 304 10 0 → Lp2 (fun (rec5 : Int → Int → SG → Prop) (x2 : Int) (x3 : Int) (σ4 : SG) => ((x2 = 0 → Q x3 σ4) ∧ (¬ x2 = 0 → wp_X10_isBetween σ4 48 57 (fun (z9 : Int) (σ8 : SG) => ((¬ z9 = 0 → ((0 ≤ (σ8 304 10) ∧ (σ8 304 10) < 60) ∧ (inR ((σ8 311 (σ8 304 10).toNat) - 48) ∧ ((0 ≤ x3 ∧ x3 < 7) ∧ (∀ σ13 : SG, σ13 = ug σ8 312 x3.toNat ((σ8 311 (σ8 304 10).toNat) - 48) → (inR ((σ13 304 10) + 1) ∧ (∀ σ15 : SG, σ15 = ug σ13 304 10 ((σ13 304 10) + 1) → ((0 ≤ x3 ∧ x3 < 7) ∧ Jn0 (fun  (σ17 : SG) => (inR (x3 + 1) ∧ Jn1 (fun (x20 : Int) (σ21 : SG) => ((x20 = 0 → rec5 x20 (x3 + 1) σ21) ∧ (¬ x20 = 0 → ((x3 + 1 = 7 → Q (-5) σ21) ∧ (¬ x3 + 1 = 7 → wp_X10_takes σ21 44 (fun (z24 : Int) (σ23 : SG) => ((¬ z24 = 0 → rec5 x20 (x3 + 1) σ23) ∧ (z24 = 0 → Q (-5) σ23)))))))) (fun J22 => (((σ17 304 8) ≤ (σ17 304 10) → J22 0 σ17) ∧ (¬ (σ17 304 8) ≤ (σ17 304 10) → J22 1 σ17))))) (fun J18 => ((¬ (σ15 312 x3.toNat) = 1 → J18 σ15) ∧ ((σ15 312 x3.toNat) = 1 → wp_X10_isBetween σ15 48 50 (fun (z30 : Int) (σ29 : SG) => ((z30 = 0 → J18 σ29) ∧ (¬ z30 = 0 → ((0 ≤ (σ29 304 10) ∧ (σ29 304 10) < 60) ∧ (inR (10 + (σ29 311 (σ29 304 10).toNat)) ∧ (inR ((10 + (σ29 311 (σ29 304 10).toNat)) - 48) ∧ ((0 ≤ x3 ∧ x3 < 7) ∧ (∀ σ35 : SG, σ35 = ug σ29 312 x3.toNat ((10 + (σ29 311 (σ29 304 10).toNat)) - 48) → (inR ((σ35 304 10) + 1) ∧ (∀ σ37 : SG, σ37 = ug σ35 304 10 ((σ35 304 10) + 1) → J18 σ37))))))))))))))))))))) ∧ (z9 = 0 → Q (-5) σ8)))))) 1 0 σ1)
def rm_X10_coefficients : Room := { frames := 3, cells := 0, slots := 0, locals := 66 }
theorem wy_X10_coefficients : Cond.instanceMethod yX10_coefficients ∈ WS ∧ Cond.selects "SplitTowersModel" yX10_coefficients yX10_coefficients ∈ WS ∧ Cond.initialized "SplitTowersModel" ∈ WS ∧ Cond.code yX10_coefficients prog_12_method_56_code 3 (some .int) ∈ WS := ⟨w938, w15, w79, w939⟩
theorem hd_X10_coefficients : yX10_coefficients.cls = "SplitTowersModel" ∧ yX10_coefficients.cls ≠ "java/lang/invoke/MethodHandle" ∧ yX10_coefficients.cls ≠ "java/lang/invoke/VarHandle" ∧ (parseMethodDescriptor yX10_coefficients.desc).map (fun d => d.parameters.length) = some 0 := by decide +kernel
set_option maxHeartbeats 4000000 in
set_option maxRecDepth 100000 in
theorem s_X10_coefficients {l : Launch} {D : va_G} {aC : Nat → ClassId} {B lo hi : Nat} {σ : SG}  {Q : Int → SG → Prop} (hlo : lo ≤ 304) (hhi : 316 ≤ hi) (h : wp_X10_coefficients σ  Q) : Met l yX10_coefficients (Cond.code yX10_coefficients prog_12_method_56_code 3 (some .int) :: WS) rm_X10_coefficients (va_Pc [.ref (B + 304)] (WP D aC B lo hi σ)) (QI D aC B lo hi Q) 0 0 (AB B lo hi) := by
  refine met_of (by decide +kernel) (by decide +kernel : yX10_coefficients.cls = "SplitTowersModel") (Nat.le_of_ble_eq_true rfl) ?_
  intro p e s m args below meth c C
  unfold wp_X10_coefficients at h
  refine v_R (fun hR0 => ?_)
  show V p l e rm_X10_coefficients s m args below meth c D aC B lo hi 3 (MQ below (QI D aC B lo hi Q) args s 0 0 (AB B lo hi)) σ 0 [(0, .ref (B + 304))] []
  refine v_aload_n C 0 dX10_coefficients_0 rfl rfl ?_
  refine v_iconst C dX10_coefficients_1 ?_
  refine pf10_at C hlo hhi (by decide) w887 dX10_coefficients_2 ?_
  refine v_nameS (fun σ1 eσ1 => ?_)
  have h := h σ1 eσ1
  refine v_R (fun hRσ1 => ?_)
  refine v_iconst C dX10_coefficients_5 ?_
  refine v_istore_n (lv' := [(1, .int (iI 0)), (0, .ref (B + 304))]) C dX10_coefficients_6 rfl (by decide) rfl ?_
  refine v_iconst C dX10_coefficients_7 ?_
  refine v_istore_n (lv' := [(2, .int (iI 1)), (1, .int (iI 0)), (0, .ref (B + 304))]) C dX10_coefficients_8 rfl (by decide) rfl ?_
  obtain ⟨I42, ⟨n43, hnn43⟩, hII42⟩ := h
  have key7 : ∀ (n : Nat) (x2 : Int) (x3 : Int) (σ4 : SG), I42 n x2 x3 σ4 → inR x2 → inR x3 → V p l e rm_X10_coefficients s m args below meth c D aC B lo hi 3 (MQ below (QI D aC B lo hi Q) args s 0 0 (AB B lo hi)) σ4 9 [(2, .int (iI x2)), (1, .int (iI x3)), (0, .ref (B + 304))] [] := by
    intro n
    induction n using Nat.strongRecOn with
    | ind n ih6 =>
      intro x2 x3 σ4 hn rx2 rx3
      have h := hII42 n x2 x3 σ4 hn
      refine v_R (fun hRσ4 => ?_)
      refine v_iload_n C 0 dX10_coefficients_9 rfl rfl ?_
      refine v_if_eq C rx2 149 dX10_coefficients_10 (by decide) (fun c41 => ?_) (fun c41 => ?_)
      · have h := h.1 c41
        refine v_iload_n C 1 dX10_coefficients_149 rfl rfl ?_
        exact v_iret C rx3 h dX10_coefficients_150
      · have h := h.2 c41
        refine v_aload_n C 2 dX10_coefficients_13 rfl rfl ?_
        refine v_bipush C dX10_coefficients_14 (by decide) ?_
        refine v_bipush C dX10_coefficients_16 (by decide) ?_
        refine v_calli (i := 304) (As := [.int (iI 48), .int (iI 57)]) (rest := []) C (s_X10_isBetween hlo hhi (by decide) (by decide) h) w940 wy_X10_isBetween ⟨rfl, rfl⟩ hd_X10_isBetween ⟨Nat.le_of_ble_eq_true rfl, Nat.le_of_ble_eq_true rfl⟩ (Nat.le_trans hlo (by decide)) (Nat.lt_of_lt_of_le (by decide) hhi) rfl rfl rfl rfl (Nat.le_of_ble_eq_true rfl) dX10_coefficients_18 (fun z9 σ8 rz9 h => ?_)
        refine v_R (fun hRσ8 => ?_)
        refine v_if_ne C rz9 27 dX10_coefficients_21 (by decide) (fun c40 => ?_) (fun c40 => ?_)
        · have h := h.1 c40
          refine v_aload_n C 2 dX10_coefficients_27 rfl rfl ?_
          refine gf10_read C hlo hhi w888 dX10_coefficients_28 ?_
          refine v_iload_n C 1 dX10_coefficients_31 rfl rfl ?_
          refine v_aload_n C 2 dX10_coefficients_32 rfl rfl ?_
          refine gf10_text C hlo hhi w886 dX10_coefficients_33 ?_
          refine v_aload_n C 2 dX10_coefficients_36 rfl rfl ?_
          refine gf10_at C hlo hhi w887 dX10_coefficients_37 ?_
          have k10 := h.1
          have h := h.2
          refine v_cald (i := 311) (n := 60) C (Nat.le_trans hlo (by decide)) (Nat.lt_of_lt_of_le (by decide) hhi) rfl (hRσ8 304 10) k10 dX10_coefficients_40 ?_
          refine v_bipush C dX10_coefficients_41 (by decide) ?_
          have k11 := h.1
          have h := h.2
          refine v_isub C dX10_coefficients_43 ?_
          have k12 := h.1
          have h := h.2
          refine v_iast (i := 312) (n := 7) C (Nat.le_trans hlo (by decide)) (Nat.lt_of_lt_of_le (by decide) hhi) (fun _ => rfl) rx3 k12 k11 dX10_coefficients_44 ?_
          refine v_nameS (fun σ13 eσ13 => ?_)
          have h := h σ13 eσ13
          refine v_R (fun hRσ13 => ?_)
          refine v_aload_n C 2 dX10_coefficients_45 rfl rfl ?_
          refine v_dup C rfl dX10_coefficients_46 ?_
          refine gf10_at C hlo hhi w887 dX10_coefficients_47 ?_
          refine v_iconst C dX10_coefficients_50 ?_
          have k14 := h.1
          have h := h.2
          refine v_iadd C dX10_coefficients_51 ?_
          refine pf10_at C hlo hhi k14 w887 dX10_coefficients_52 ?_
          refine v_nameS (fun σ15 eσ15 => ?_)
          have h := h σ15 eσ15
          refine v_R (fun hRσ15 => ?_)
          refine v_aload_n C 2 dX10_coefficients_55 rfl rfl ?_
          refine gf10_read C hlo hhi w888 dX10_coefficients_56 ?_
          refine v_iload_n C 1 dX10_coefficients_59 rfl rfl ?_
          have k16 := h.1
          have h := h.2
          refine v_iald (i := 312) (n := 7) C (Nat.le_trans hlo (by decide)) (Nat.lt_of_lt_of_le (by decide) hhi) rfl rx3 k16 dX10_coefficients_60 ?_
          refine v_iconst C dX10_coefficients_61 ?_
          obtain ⟨J18, hJ18, h⟩ := h
          have kJ18 : ∀  (σ17 : SG), J18 σ17 → V p l e rm_X10_coefficients s m args below meth c D aC B lo hi 3 (MQ below (QI D aC B lo hi Q) args s 0 0 (AB B lo hi)) σ17 107 [(1, .int (iI x3)), (0, .ref (B + 304))] [] := by
            intro σ17 hj 
            have h := hJ18 σ17 hj
            refine v_R (fun hRσ17 => ?_)
            have k19 := h.1
            have h := h.2
            refine v_iinc (lv' := [(1, .int (iI (x3 + 1))), (0, .ref (B + 304))]) C 0 dX10_coefficients_107 rfl (by decide) rfl ?_
            refine v_aload_n C 1 dX10_coefficients_110 rfl rfl ?_
            refine gf10_at C hlo hhi w887 dX10_coefficients_111 ?_
            refine v_aload_n C 1 dX10_coefficients_114 rfl rfl ?_
            refine gf10_typed C hlo hhi w885 dX10_coefficients_115 ?_
            obtain ⟨J22, hJ22, h⟩ := h
            have kJ22 : ∀ (x20 : Int) (σ21 : SG), J22 x20 σ21 → inR x20 → V p l e rm_X10_coefficients s m args below meth c D aC B lo hi 3 (MQ below (QI D aC B lo hi Q) args s 0 0 (AB B lo hi)) σ21 126 [(1, .int (iI (x3 + 1))), (0, .ref (B + 304))] [.int (iI x20)] := by
              intro x20 σ21 hj rx20
              have h := hJ22 x20 σ21 hj
              refine v_R (fun hRσ21 => ?_)
              refine v_istore_n (lv' := [(2, .int (iI x20)), (1, .int (iI (x3 + 1))), (0, .ref (B + 304))]) C dX10_coefficients_126 rfl (by decide) rfl ?_
              refine v_iload_n C 0 dX10_coefficients_127 rfl rfl ?_
              refine v_if_eq C rx20 9 dX10_coefficients_128 (by decide) (fun c27 => ?_) (fun c27 => ?_)
              · have h := h.1 c27
                obtain ⟨m9, hm9, h⟩ := h
                exact ih6 m9 hm9 x20 (x3 + 1) σ21 h rx20 k19
              · have h := h.2 c27
                refine v_iload_n C 1 dX10_coefficients_131 rfl rfl ?_
                refine v_bipush C dX10_coefficients_132 (by decide) ?_
                refine v_icmp_eq C k19 (by decide) 146 dX10_coefficients_134 (by decide) (fun c26 => ?_) (fun c26 => ?_)
                · have h := h.1 c26
                  refine v_bipush C dX10_coefficients_146 (by decide) ?_
                  exact v_iret C (by decide) h dX10_coefficients_148
                · have h := h.2 c26
                  refine v_aload_n C 2 dX10_coefficients_137 rfl rfl ?_
                  refine v_bipush C dX10_coefficients_138 (by decide) ?_
                  refine v_calli (i := 304) (As := [.int (iI 44)]) (rest := []) C (s_X10_takes hlo hhi (by decide) h) w947 wy_X10_takes ⟨rfl, rfl⟩ hd_X10_takes ⟨Nat.le_of_ble_eq_true rfl, Nat.le_of_ble_eq_true rfl⟩ (Nat.le_trans hlo (by decide)) (Nat.lt_of_lt_of_le (by decide) hhi) rfl rfl rfl rfl (Nat.le_of_ble_eq_true rfl) dX10_coefficients_140 (fun z24 σ23 rz24 h => ?_)
                  refine v_R (fun hRσ23 => ?_)
                  refine v_if_ne C rz24 9 dX10_coefficients_143 (by decide) (fun c25 => ?_) (fun c25 => ?_)
                  · have h := h.1 c25
                    obtain ⟨m9, hm9, h⟩ := h
                    exact ih6 m9 hm9 x20 (x3 + 1) σ23 h rx20 k19
                  · have h := h.2 c25
                    refine v_bipush C dX10_coefficients_146 (by decide) ?_
                    exact v_iret C (by decide) h dX10_coefficients_148
            refine v_icmp_ge C (hRσ17 304 10) (hRσ17 304 8) 125 dX10_coefficients_118 (by decide) (fun c28 => ?_) (fun c28 => ?_)
            · have h := h.1 c28
              refine v_iconst C dX10_coefficients_125 ?_
              exact kJ22 0 σ17 h (by decide)
            · have h := h.2 c28
              refine v_iconst C dX10_coefficients_121 ?_
              refine v_goto C 126 dX10_coefficients_122 (by decide) ?_
              exact kJ22 1 σ17 h (by decide)
          refine v_icmp_ne C (hRσ15 312 _) (by decide) 107 dX10_coefficients_62 (by decide) (fun c39 => ?_) (fun c39 => ?_)
          · have h := h.1 c39
            refine v_sub [1, 2] rfl ?_
            exact kJ18 σ15 h 
          · have h := h.2 c39
            refine v_aload_n C 2 dX10_coefficients_65 rfl rfl ?_
            refine v_bipush C dX10_coefficients_66 (by decide) ?_
            refine v_bipush C dX10_coefficients_68 (by decide) ?_
            refine v_calli (i := 304) (As := [.int (iI 48), .int (iI 50)]) (rest := []) C (s_X10_isBetween hlo hhi (by decide) (by decide) h) w940 wy_X10_isBetween ⟨rfl, rfl⟩ hd_X10_isBetween ⟨Nat.le_of_ble_eq_true rfl, Nat.le_of_ble_eq_true rfl⟩ (Nat.le_trans hlo (by decide)) (Nat.lt_of_lt_of_le (by decide) hhi) rfl rfl rfl rfl (Nat.le_of_ble_eq_true rfl) dX10_coefficients_70 (fun z30 σ29 rz30 h => ?_)
            refine v_R (fun hRσ29 => ?_)
            refine v_if_eq C rz30 107 dX10_coefficients_73 (by decide) (fun c38 => ?_) (fun c38 => ?_)
            · have h := h.1 c38
              refine v_sub [1, 2] rfl ?_
              exact kJ18 σ29 h 
            · have h := h.2 c38
              refine v_aload_n C 2 dX10_coefficients_76 rfl rfl ?_
              refine gf10_read C hlo hhi w888 dX10_coefficients_77 ?_
              refine v_iload_n C 1 dX10_coefficients_80 rfl rfl ?_
              refine v_bipush C dX10_coefficients_81 (by decide) ?_
              refine v_aload_n C 2 dX10_coefficients_83 rfl rfl ?_
              refine gf10_text C hlo hhi w886 dX10_coefficients_84 ?_
              refine v_aload_n C 2 dX10_coefficients_87 rfl rfl ?_
              refine gf10_at C hlo hhi w887 dX10_coefficients_88 ?_
              have k31 := h.1
              have h := h.2
              refine v_cald (i := 311) (n := 60) C (Nat.le_trans hlo (by decide)) (Nat.lt_of_lt_of_le (by decide) hhi) rfl (hRσ29 304 10) k31 dX10_coefficients_91 ?_
              have k32 := h.1
              have h := h.2
              refine v_iadd C dX10_coefficients_92 ?_
              refine v_bipush C dX10_coefficients_93 (by decide) ?_
              have k33 := h.1
              have h := h.2
              refine v_isub C dX10_coefficients_95 ?_
              have k34 := h.1
              have h := h.2
              refine v_iast (i := 312) (n := 7) C (Nat.le_trans hlo (by decide)) (Nat.lt_of_lt_of_le (by decide) hhi) (fun _ => rfl) rx3 k34 k33 dX10_coefficients_96 ?_
              refine v_nameS (fun σ35 eσ35 => ?_)
              have h := h σ35 eσ35
              refine v_R (fun hRσ35 => ?_)
              refine v_aload_n C 2 dX10_coefficients_97 rfl rfl ?_
              refine v_dup C rfl dX10_coefficients_98 ?_
              refine gf10_at C hlo hhi w887 dX10_coefficients_99 ?_
              refine v_iconst C dX10_coefficients_102 ?_
              have k36 := h.1
              have h := h.2
              refine v_iadd C dX10_coefficients_103 ?_
              refine pf10_at C hlo hhi k36 w887 dX10_coefficients_104 ?_
              refine v_nameS (fun σ37 eσ37 => ?_)
              have h := h σ37 eσ37
              refine v_R (fun hRσ37 => ?_)
              refine v_sub [1, 2] rfl ?_
              exact kJ18 σ37 h 
        · have h := h.2 c40
          refine v_bipush C dX10_coefficients_24 (by decide) ?_
          exact v_iret C (by decide) h dX10_coefficients_26
  exact key7 n43 1 0 σ1 hnn43 (by decide) (by decide)
-- SplitTowersModel.degreeOfModulus()I
def wp_X10_degreeOfModulus (σ : SG)  (Q : Int → SG → Prop) : Prop :=
  wp_X10_loadsModulus σ (fun (σ1 : SG) => wp_X10_degree σ1 0 (fun (z3 : Int) (σ2 : SG) => Q z3 σ2))
def rm_X10_degreeOfModulus : Room := { frames := 4, cells := 0, slots := 0, locals := 89 }
theorem wy_X10_degreeOfModulus : Cond.instanceMethod yX10_degreeOfModulus ∈ WS ∧ Cond.selects "SplitTowersModel" yX10_degreeOfModulus yX10_degreeOfModulus ∈ WS ∧ Cond.initialized "SplitTowersModel" ∈ WS ∧ Cond.code yX10_degreeOfModulus prog_12_method_39_code 1 (some .int) ∈ WS := ⟨w1024, w34, w79, w1025⟩
theorem hd_X10_degreeOfModulus : yX10_degreeOfModulus.cls = "SplitTowersModel" ∧ yX10_degreeOfModulus.cls ≠ "java/lang/invoke/MethodHandle" ∧ yX10_degreeOfModulus.cls ≠ "java/lang/invoke/VarHandle" ∧ (parseMethodDescriptor yX10_degreeOfModulus.desc).map (fun d => d.parameters.length) = some 0 := by decide +kernel
set_option maxHeartbeats 4000000 in
set_option maxRecDepth 100000 in
theorem s_X10_degreeOfModulus {l : Launch} {D : va_G} {aC : Nat → ClassId} {B lo hi : Nat} {σ : SG}  {Q : Int → SG → Prop} (hlo : lo ≤ 304) (hhi : 316 ≤ hi) (h : wp_X10_degreeOfModulus σ  Q) : Met l yX10_degreeOfModulus (Cond.code yX10_degreeOfModulus prog_12_method_39_code 1 (some .int) :: WS) rm_X10_degreeOfModulus (va_Pc [.ref (B + 304)] (WP D aC B lo hi σ)) (QI D aC B lo hi Q) 0 0 (AB B lo hi) := by
  refine met_of (by decide +kernel) (by decide +kernel : yX10_degreeOfModulus.cls = "SplitTowersModel") (Nat.le_of_ble_eq_true rfl) ?_
  intro p e s m args below meth c C
  unfold wp_X10_degreeOfModulus at h
  refine v_R (fun hR0 => ?_)
  show V p l e rm_X10_degreeOfModulus s m args below meth c D aC B lo hi 1 (MQ below (QI D aC B lo hi Q) args s 0 0 (AB B lo hi)) σ 0 [(0, .ref (B + 304))] []
  refine v_aload_n C 0 dX10_degreeOfModulus_0 rfl rfl ?_
  refine v_callv (i := 304) (As := []) (rest := []) C (s_X10_loadsModulus hlo hhi h) w1026 wy_X10_loadsModulus ⟨rfl, rfl⟩ hd_X10_loadsModulus ⟨Nat.le_of_ble_eq_true rfl, Nat.le_of_ble_eq_true rfl⟩ (Nat.le_trans hlo (by decide)) (Nat.lt_of_lt_of_le (by decide) hhi) rfl rfl rfl rfl (Nat.le_of_ble_eq_true rfl) dX10_degreeOfModulus_1 (fun σ1 h => ?_)
  refine v_R (fun hRσ1 => ?_)
  refine v_aload_n C 0 dX10_degreeOfModulus_4 rfl rfl ?_
  refine v_iconst C dX10_degreeOfModulus_5 ?_
  refine v_calli (i := 304) (As := [.int (iI 0)]) (rest := []) C (s_X10_degree hlo hhi (by decide) h) w975 wy_X10_degree ⟨rfl, rfl⟩ hd_X10_degree ⟨Nat.le_of_ble_eq_true rfl, Nat.le_of_ble_eq_true rfl⟩ (Nat.le_trans hlo (by decide)) (Nat.lt_of_lt_of_le (by decide) hhi) rfl rfl rfl rfl (Nat.le_of_ble_eq_true rfl) dX10_degreeOfModulus_6 (fun z3 σ2 rz3 h => ?_)
  refine v_R (fun hRσ2 => ?_)
  exact v_iret C rz3 h dX10_degreeOfModulus_9
-- SplitTowersModel.zeros()I
def wp_X10_zeros (σ : SG)  (Q : Int → SG → Prop) : Prop :=
  Lp2 (fun (rec4 : Int → Int → SG → Prop) (x1 : Int) (x2 : Int) (σ3 : SG) => ((6 ≤ x1 → Q x2 σ3) ∧ (¬ 6 ≤ x1 → wp_X10_loadsNumber σ3 x1 2 (fun (σ7 : SG) => wp_X10_degree σ7 2 (fun (z9 : Int) (σ8 : SG) => ((0 ≤ z9 → (inR (x2 + 0) ∧ (∀ v11 : Int, v11 = x2 + 0 → (inR (x1 + 1) ∧ rec4 (x1 + 1) v11 σ8)))) ∧ (¬ 0 ≤ z9 → (inR (x2 + 1) ∧ (∀ v14 : Int, v14 = x2 + 1 → (inR (x1 + 1) ∧ rec4 (x1 + 1) v14 σ8)))))))))) 0 0 σ
def rm_X10_zeros : Room := { frames := 4, cells := 0, slots := 0, locals := 91 }
theorem wy_X10_zeros : Cond.instanceMethod yX10_zeros ∈ WS ∧ Cond.selects "SplitTowersModel" yX10_zeros yX10_zeros ∈ WS ∧ Cond.initialized "SplitTowersModel" ∈ WS ∧ Cond.code yX10_zeros prog_12_method_83_code 3 (some .int) ∈ WS := ⟨w1248, w66, w79, w1249⟩
theorem hd_X10_zeros : yX10_zeros.cls = "SplitTowersModel" ∧ yX10_zeros.cls ≠ "java/lang/invoke/MethodHandle" ∧ yX10_zeros.cls ≠ "java/lang/invoke/VarHandle" ∧ (parseMethodDescriptor yX10_zeros.desc).map (fun d => d.parameters.length) = some 0 := by decide +kernel
set_option maxHeartbeats 4000000 in
set_option maxRecDepth 100000 in
theorem s_X10_zeros {l : Launch} {D : va_G} {aC : Nat → ClassId} {B lo hi : Nat} {σ : SG}  {Q : Int → SG → Prop} (hlo : lo ≤ 304) (hhi : 316 ≤ hi) (h : wp_X10_zeros σ  Q) : Met l yX10_zeros (Cond.code yX10_zeros prog_12_method_83_code 3 (some .int) :: WS) rm_X10_zeros (va_Pc [.ref (B + 304)] (WP D aC B lo hi σ)) (QI D aC B lo hi Q) 0 0 (AB B lo hi) := by
  refine met_of (by decide +kernel) (by decide +kernel : yX10_zeros.cls = "SplitTowersModel") (Nat.le_of_ble_eq_true rfl) ?_
  intro p e s m args below meth c C
  unfold wp_X10_zeros at h
  refine v_R (fun hR0 => ?_)
  show V p l e rm_X10_zeros s m args below meth c D aC B lo hi 3 (MQ below (QI D aC B lo hi Q) args s 0 0 (AB B lo hi)) σ 0 [(0, .ref (B + 304))] []
  refine v_iconst C dX10_zeros_0 ?_
  refine v_istore_n (lv' := [(1, .int (iI 0)), (0, .ref (B + 304))]) C dX10_zeros_1 rfl (by decide) rfl ?_
  refine v_iconst C dX10_zeros_2 ?_
  refine v_istore_n (lv' := [(2, .int (iI 0)), (1, .int (iI 0)), (0, .ref (B + 304))]) C dX10_zeros_3 rfl (by decide) rfl ?_
  obtain ⟨I18, ⟨n19, hnn19⟩, hII18⟩ := h
  have key6 : ∀ (n : Nat) (x1 : Int) (x2 : Int) (σ3 : SG), I18 n x1 x2 σ3 → inR x1 → inR x2 → V p l e rm_X10_zeros s m args below meth c D aC B lo hi 3 (MQ below (QI D aC B lo hi Q) args s 0 0 (AB B lo hi)) σ3 4 [(2, .int (iI x1)), (1, .int (iI x2)), (0, .ref (B + 304))] [] := by
    intro n
    induction n using Nat.strongRecOn with
    | ind n ih5 =>
      intro x1 x2 σ3 hn rx1 rx2
      have h := hII18 n x1 x2 σ3 hn
      refine v_R (fun hRσ3 => ?_)
      refine v_iload_n C 0 dX10_zeros_4 rfl rfl ?_
      refine v_bipush C dX10_zeros_5 (by decide) ?_
      refine v_icmp_ge C rx1 (by decide) 38 dX10_zeros_7 (by decide) (fun c17 => ?_) (fun c17 => ?_)
      · have h := h.1 c17
        refine v_iload_n C 1 dX10_zeros_38 rfl rfl ?_
        exact v_iret C rx2 h dX10_zeros_39
      · have h := h.2 c17
        refine v_aload_n C 2 dX10_zeros_10 rfl rfl ?_
        refine v_iload_n C 0 dX10_zeros_11 rfl rfl ?_
        refine v_iconst C dX10_zeros_12 ?_
        refine v_callv (i := 304) (As := [.int (iI x1), .int (iI 2)]) (rest := []) C (s_X10_loadsNumber hlo hhi rx1 (by decide) h) w991 wy_X10_loadsNumber ⟨rfl, rfl⟩ hd_X10_loadsNumber ⟨Nat.le_of_ble_eq_true rfl, Nat.le_of_ble_eq_true rfl⟩ (Nat.le_trans hlo (by decide)) (Nat.lt_of_lt_of_le (by decide) hhi) rfl rfl rfl rfl (Nat.le_of_ble_eq_true rfl) dX10_zeros_13 (fun σ7 h => ?_)
        refine v_R (fun hRσ7 => ?_)
        refine v_iload_n C 1 dX10_zeros_16 rfl rfl ?_
        refine v_aload_n C 2 dX10_zeros_17 rfl rfl ?_
        refine v_iconst C dX10_zeros_18 ?_
        refine v_calli (i := 304) (As := [.int (iI 2)]) (rest := [.int (iI x2)]) C (s_X10_degree hlo hhi (by decide) h) w975 wy_X10_degree ⟨rfl, rfl⟩ hd_X10_degree ⟨Nat.le_of_ble_eq_true rfl, Nat.le_of_ble_eq_true rfl⟩ (Nat.le_trans hlo (by decide)) (Nat.lt_of_lt_of_le (by decide) hhi) rfl rfl rfl rfl (Nat.le_of_ble_eq_true rfl) dX10_zeros_19 (fun z9 σ8 rz9 h => ?_)
        refine v_R (fun hRσ8 => ?_)
        refine v_if_ge C rz9 29 dX10_zeros_22 (by decide) (fun c16 => ?_) (fun c16 => ?_)
        · have h := h.1 c16
          refine v_iconst C dX10_zeros_29 ?_
          have k10 := h.1
          have h := h.2
          refine v_iadd C dX10_zeros_30 ?_
          refine v_name (fun v11 ev11 => ?_)
          have h := h v11 ev11
          have rv11 : inR v11 := by rw [ev11]; exact k10
          refine v_istore_n (lv' := [(1, .int (iI v11)), (2, .int (iI x1)), (0, .ref (B + 304))]) C dX10_zeros_31 rfl (by decide) rfl ?_
          have k12 := h.1
          have h := h.2
          refine v_iinc (lv' := [(2, .int (iI (x1 + 1))), (1, .int (iI v11)), (0, .ref (B + 304))]) C 1 dX10_zeros_32 rfl (by decide) rfl ?_
          refine v_goto C 4 dX10_zeros_35 (by decide) ?_
          obtain ⟨m9, hm9, h⟩ := h
          exact ih5 m9 hm9 (x1 + 1) v11 σ8 h k12 rv11
        · have h := h.2 c16
          refine v_iconst C dX10_zeros_25 ?_
          refine v_goto C 30 dX10_zeros_26 (by decide) ?_
          have k13 := h.1
          have h := h.2
          refine v_iadd C dX10_zeros_30 ?_
          refine v_name (fun v14 ev14 => ?_)
          have h := h v14 ev14
          have rv14 : inR v14 := by rw [ev14]; exact k13
          refine v_istore_n (lv' := [(1, .int (iI v14)), (2, .int (iI x1)), (0, .ref (B + 304))]) C dX10_zeros_31 rfl (by decide) rfl ?_
          have k15 := h.1
          have h := h.2
          refine v_iinc (lv' := [(2, .int (iI (x1 + 1))), (1, .int (iI v14)), (0, .ref (B + 304))]) C 1 dX10_zeros_32 rfl (by decide) rfl ?_
          refine v_goto C 4 dX10_zeros_35 (by decide) ?_
          obtain ⟨m9, hm9, h⟩ := h
          exact ih5 m9 hm9 (x1 + 1) v14 σ8 h k15 rv14
  exact key6 n19 0 0 σ hnn19 (by decide) (by decide)
-- SplitTowersModel.count(I)I
def wp_X10_count (σ : SG) (a1 : Int) (Q : Int → SG → Prop) : Prop :=
  ((a1 = 0 → Q (σ 305 0) σ) ∧ (a1 = 1 → wp_X10_degreeOfModulus σ (fun (z3 : Int) (σ2 : SG) => Q z3 σ2)) ∧ (a1 = 2 → Q (σ 305 44) σ) ∧ (a1 = 3 → wp_X10_allFactors σ (fun (z7 : Int) (σ6 : SG) => Q z7 σ6)) ∧ (a1 = 4 → (inR ((σ 305 44) - 1) ∧ wp_X10_degreeOfBranch σ ((σ 305 44) - 1) (fun (z11 : Int) (σ10 : SG) => Q z11 σ10))) ∧ (a1 = 5 → wp_X10_zeros σ (fun (z14 : Int) (σ13 : SG) => Q z14 σ13)) ∧ (a1 = 6 → Q (σ 304 2) σ) ∧ (a1 = 7 → Q (σ 304 8) σ) ∧ (a1 < 0 ∨ 7 < a1 → Q (-2) σ))
def rm_X10_count : Room := { frames := 7, cells := 0, slots := 0, locals := 163 }
theorem wy_X10_count : Cond.instanceMethod yX10_count ∈ WS ∧ Cond.selects "SplitTowersModel" yX10_count yX10_count ∈ WS ∧ Cond.initialized "SplitTowersModel" ∈ WS ∧ Cond.code yX10_count prog_12_method_84_code 2 (some .int) ∈ WS := ⟨w1239, w1240, w79, w1241⟩
theorem hd_X10_count : yX10_count.cls = "SplitTowersModel" ∧ yX10_count.cls ≠ "java/lang/invoke/MethodHandle" ∧ yX10_count.cls ≠ "java/lang/invoke/VarHandle" ∧ (parseMethodDescriptor yX10_count.desc).map (fun d => d.parameters.length) = some 1 := by decide +kernel
set_option maxHeartbeats 4000000 in
set_option maxRecDepth 100000 in
theorem s_X10_count {l : Launch} {D : va_G} {aC : Nat → ClassId} {B lo hi : Nat} {σ : SG} {a1 : Int} {Q : Int → SG → Prop} (hlo : lo ≤ 304) (hhi : 316 ≤ hi) (r1 : inR a1) (h : wp_X10_count σ a1 Q) : Met l yX10_count (Cond.code yX10_count prog_12_method_84_code 2 (some .int) :: WS) rm_X10_count (va_Pc [.ref (B + 304), .int (iI a1)] (WP D aC B lo hi σ)) (QI D aC B lo hi Q) 0 0 (AB B lo hi) := by
  refine met_of (by decide +kernel) (by decide +kernel : yX10_count.cls = "SplitTowersModel") (Nat.le_of_ble_eq_true rfl) ?_
  intro p e s m args below meth c C
  unfold wp_X10_count at h
  refine v_R (fun hR0 => ?_)
  show V p l e rm_X10_count s m args below meth c D aC B lo hi 2 (MQ below (QI D aC B lo hi Q) args s 0 0 (AB B lo hi)) σ 0 [(0, .ref (B + 304)), (1, .int (iI a1))] []
  refine v_iload_n C 1 dX10_count_0 rfl rfl ?_
  rcases Decidable.em (a1 = 0) with c1 | c1
  · have h := h.1 c1
    refine v_tabIn C r1 0 c1 48 dX10_count_1 (by decide) (by decide) rfl (by decide) ?_
    refine v_aload_n C 0 dX10_count_48 rfl rfl ?_
    refine gf10_now C hlo hhi w877 dX10_count_49 ?_
    refine v_iconst C dX10_count_52 ?_
    refine v_iald (i := 305) (n := 87) C (Nat.le_trans hlo (by decide)) (Nat.lt_of_lt_of_le (by decide) hhi) rfl (by decide) ⟨by decide, by decide⟩ dX10_count_53 ?_
    exact v_iret C (hR0 305 _) h dX10_count_54
  rcases Decidable.em (a1 = 1) with c4 | c4
  · have h := h.2.1 c4
    refine v_tabIn C r1 1 c4 55 dX10_count_1 (by decide) (by decide) rfl (by decide) ?_
    refine v_aload_n C 0 dX10_count_55 rfl rfl ?_
    refine v_calli (i := 304) (As := []) (rest := []) C (s_X10_degreeOfModulus hlo hhi h) w1022 wy_X10_degreeOfModulus ⟨rfl, rfl⟩ hd_X10_degreeOfModulus ⟨Nat.le_of_ble_eq_true rfl, Nat.le_of_ble_eq_true rfl⟩ (Nat.le_trans hlo (by decide)) (Nat.lt_of_lt_of_le (by decide) hhi) rfl rfl rfl rfl (Nat.le_of_ble_eq_true rfl) dX10_count_56 (fun z3 σ2 rz3 h => ?_)
    refine v_R (fun hRσ2 => ?_)
    exact v_iret C rz3 h dX10_count_59
  rcases Decidable.em (a1 = 2) with c5 | c5
  · have h := h.2.2.1 c5
    refine v_tabIn C r1 2 c5 60 dX10_count_1 (by decide) (by decide) rfl (by decide) ?_
    refine v_aload_n C 0 dX10_count_60 rfl rfl ?_
    refine gf10_now C hlo hhi w877 dX10_count_61 ?_
    refine v_bipush C dX10_count_64 (by decide) ?_
    refine v_iald (i := 305) (n := 87) C (Nat.le_trans hlo (by decide)) (Nat.lt_of_lt_of_le (by decide) hhi) rfl (by decide) ⟨by decide, by decide⟩ dX10_count_66 ?_
    exact v_iret C (hR0 305 _) h dX10_count_67
  rcases Decidable.em (a1 = 3) with c8 | c8
  · have h := h.2.2.2.1 c8
    refine v_tabIn C r1 3 c8 68 dX10_count_1 (by decide) (by decide) rfl (by decide) ?_
    refine v_aload_n C 0 dX10_count_68 rfl rfl ?_
    refine v_calli (i := 304) (As := []) (rest := []) C (s_X10_allFactors hlo hhi h) w1242 wy_X10_allFactors ⟨rfl, rfl⟩ hd_X10_allFactors ⟨Nat.le_of_ble_eq_true rfl, Nat.le_of_ble_eq_true rfl⟩ (Nat.le_trans hlo (by decide)) (Nat.lt_of_lt_of_le (by decide) hhi) rfl rfl rfl rfl (Nat.le_of_ble_eq_true rfl) dX10_count_69 (fun z7 σ6 rz7 h => ?_)
    refine v_R (fun hRσ6 => ?_)
    exact v_iret C rz7 h dX10_count_72
  rcases Decidable.em (a1 = 4) with c12 | c12
  · have h := h.2.2.2.2.1 c12
    refine v_tabIn C r1 4 c12 73 dX10_count_1 (by decide) (by decide) rfl (by decide) ?_
    refine v_aload_n C 0 dX10_count_73 rfl rfl ?_
    refine v_aload_n C 0 dX10_count_74 rfl rfl ?_
    refine gf10_now C hlo hhi w877 dX10_count_75 ?_
    refine v_bipush C dX10_count_78 (by decide) ?_
    refine v_iald (i := 305) (n := 87) C (Nat.le_trans hlo (by decide)) (Nat.lt_of_lt_of_le (by decide) hhi) rfl (by decide) ⟨by decide, by decide⟩ dX10_count_80 ?_
    refine v_iconst C dX10_count_81 ?_
    have k9 := h.1
    have h := h.2
    refine v_isub C dX10_count_82 ?_
    refine v_calli (i := 304) (As := [.int (iI ((σ 305 44) - 1))]) (rest := []) C (s_X10_degreeOfBranch hlo hhi k9 h) w1186 wy_X10_degreeOfBranch ⟨rfl, rfl⟩ hd_X10_degreeOfBranch ⟨Nat.le_of_ble_eq_true rfl, Nat.le_of_ble_eq_true rfl⟩ (Nat.le_trans hlo (by decide)) (Nat.lt_of_lt_of_le (by decide) hhi) rfl rfl rfl rfl (Nat.le_of_ble_eq_true rfl) dX10_count_83 (fun z11 σ10 rz11 h => ?_)
    refine v_R (fun hRσ10 => ?_)
    exact v_iret C rz11 h dX10_count_86
  rcases Decidable.em (a1 = 5) with c15 | c15
  · have h := h.2.2.2.2.2.1 c15
    refine v_tabIn C r1 5 c15 87 dX10_count_1 (by decide) (by decide) rfl (by decide) ?_
    refine v_aload_n C 0 dX10_count_87 rfl rfl ?_
    refine v_calli (i := 304) (As := []) (rest := []) C (s_X10_zeros hlo hhi h) w1246 wy_X10_zeros ⟨rfl, rfl⟩ hd_X10_zeros ⟨Nat.le_of_ble_eq_true rfl, Nat.le_of_ble_eq_true rfl⟩ (Nat.le_trans hlo (by decide)) (Nat.lt_of_lt_of_le (by decide) hhi) rfl rfl rfl rfl (Nat.le_of_ble_eq_true rfl) dX10_count_88 (fun z14 σ13 rz14 h => ?_)
    refine v_R (fun hRσ13 => ?_)
    exact v_iret C rz14 h dX10_count_91
  rcases Decidable.em (a1 = 6) with c16 | c16
  · have h := h.2.2.2.2.2.2.1 c16
    refine v_tabIn C r1 6 c16 92 dX10_count_1 (by decide) (by decide) rfl (by decide) ?_
    refine v_aload_n C 0 dX10_count_92 rfl rfl ?_
    refine gf10_kept C hlo hhi w879 dX10_count_93 ?_
    exact v_iret C (hR0 304 2) h dX10_count_96
  rcases Decidable.em (a1 = 7) with c17 | c17
  · have h := h.2.2.2.2.2.2.2.1 c17
    refine v_tabIn C r1 7 c17 97 dX10_count_1 (by decide) (by decide) rfl (by decide) ?_
    refine v_aload_n C 0 dX10_count_97 rfl rfl ?_
    refine gf10_typed C hlo hhi w885 dX10_count_98 ?_
    exact v_iret C (hR0 304 8) h dX10_count_101
  have hout : a1 < 0 ∨ 7 < a1 := by omega
  have h := h.2.2.2.2.2.2.2.2 hout
  refine v_tabOut C r1 102 dX10_count_1 hout (by decide) ?_
  refine v_bipush C dX10_count_102 (by decide) ?_
  exact v_iret C (by decide) h dX10_count_104
-- SplitTowersModel.derives(II)V
def wp_X10_derives (σ : SG) (a1 : Int) (a2 : Int) (Q : SG → Prop) : Prop :=
  wp_X10_clears σ a2 (fun (σ1 : SG) => Lp1 (fun (rec4 : Int → SG → Prop) (x2 : Int) (σ3 : SG) => ((14 ≤ x2 → Q σ3) ∧ (¬ 14 ≤ x2 → (inR (x2 - 1) ∧ wp_X10_of σ3 a1 x2 (fun (z9 : Int) (σ8 : SG) => (inR (z9 * x2) ∧ ((σ8 305 0) ≠ 0 ∧ wp_X10_puts σ8 a2 (x2 - 1) (Int.tmod (z9 * x2) (σ8 305 0)) (fun (σ12 : SG) => (inR (x2 + 1) ∧ rec4 (x2 + 1) σ12))))))))) 1 σ1)
def rm_X10_derives : Room := { frames := 2, cells := 0, slots := 0, locals := 45 }
theorem wy_X10_derives : Cond.instanceMethod yX10_derives ∈ WS ∧ Cond.selects "SplitTowersModel" yX10_derives yX10_derives ∈ WS ∧ Cond.initialized "SplitTowersModel" ∈ WS ∧ Cond.code yX10_derives prog_12_method_36_code 4 none ∈ WS := ⟨w961, w20, w79, w962⟩
theorem hd_X10_derives : yX10_derives.cls = "SplitTowersModel" ∧ yX10_derives.cls ≠ "java/lang/invoke/MethodHandle" ∧ yX10_derives.cls ≠ "java/lang/invoke/VarHandle" ∧ (parseMethodDescriptor yX10_derives.desc).map (fun d => d.parameters.length) = some 2 := by decide +kernel
set_option maxHeartbeats 4000000 in
set_option maxRecDepth 100000 in
theorem s_X10_derives {l : Launch} {D : va_G} {aC : Nat → ClassId} {B lo hi : Nat} {σ : SG} {a1 : Int} {a2 : Int} {Q : SG → Prop} (hlo : lo ≤ 304) (hhi : 316 ≤ hi) (r1 : inR a1) (r2 : inR a2) (h : wp_X10_derives σ a1 a2 Q) : Met l yX10_derives (Cond.code yX10_derives prog_12_method_36_code 4 none :: WS) rm_X10_derives (va_Pc [.ref (B + 304), .int (iI a1), .int (iI a2)] (WP D aC B lo hi σ)) (QV D aC B lo hi Q) 0 0 (AB B lo hi) := by
  refine met_of (by decide +kernel) (by decide +kernel : yX10_derives.cls = "SplitTowersModel") (Nat.le_of_ble_eq_true rfl) ?_
  intro p e s m args below meth c C
  unfold wp_X10_derives at h
  refine v_R (fun hR0 => ?_)
  show V p l e rm_X10_derives s m args below meth c D aC B lo hi 4 (MQ below (QV D aC B lo hi Q) args s 0 0 (AB B lo hi)) σ 0 [(0, .ref (B + 304)), (1, .int (iI a1)), (2, .int (iI a2))] []
  refine v_aload_n C 0 dX10_derives_0 rfl rfl ?_
  refine v_iload_n C 2 dX10_derives_1 rfl rfl ?_
  refine v_callv (i := 304) (As := [.int (iI a2)]) (rest := []) C (s_X10_clears hlo hhi r2 h) w951 wy_X10_clears ⟨rfl, rfl⟩ hd_X10_clears ⟨Nat.le_of_ble_eq_true rfl, Nat.le_of_ble_eq_true rfl⟩ (Nat.le_trans hlo (by decide)) (Nat.lt_of_lt_of_le (by decide) hhi) rfl rfl rfl rfl (Nat.le_of_ble_eq_true rfl) dX10_derives_2 (fun σ1 h => ?_)
  refine v_R (fun hRσ1 => ?_)
  refine v_iconst C dX10_derives_5 ?_
  refine v_istore_n (lv' := [(3, .int (iI 1)), (0, .ref (B + 304)), (1, .int (iI a1)), (2, .int (iI a2))]) C dX10_derives_6 rfl (by decide) rfl ?_
  obtain ⟨I15, ⟨n16, hnn16⟩, hII15⟩ := h
  have key6 : ∀ (n : Nat) (x2 : Int) (σ3 : SG), I15 n x2 σ3 → inR x2 → V p l e rm_X10_derives s m args below meth c D aC B lo hi 4 (MQ below (QV D aC B lo hi Q) args s 0 0 (AB B lo hi)) σ3 7 [(3, .int (iI x2)), (0, .ref (B + 304)), (1, .int (iI a1)), (2, .int (iI a2))] [] := by
    intro n
    induction n using Nat.strongRecOn with
    | ind n ih5 =>
      intro x2 σ3 hn rx2
      have h := hII15 n x2 σ3 hn
      refine v_R (fun hRσ3 => ?_)
      refine v_iload_n C 0 dX10_derives_7 rfl rfl ?_
      refine v_bipush C dX10_derives_8 (by decide) ?_
      refine v_icmp_ge C rx2 (by decide) 42 dX10_derives_10 (by decide) (fun c14 => ?_) (fun c14 => ?_)
      · have h := h.1 c14
        exact v_vret C h dX10_derives_42
      · have h := h.2 c14
        refine v_aload_n C 1 dX10_derives_13 rfl rfl ?_
        refine v_iload_n C 3 dX10_derives_14 rfl rfl ?_
        refine v_iload_n C 0 dX10_derives_15 rfl rfl ?_
        refine v_iconst C dX10_derives_16 ?_
        have k7 := h.1
        have h := h.2
        refine v_isub C dX10_derives_17 ?_
        refine v_aload_n C 1 dX10_derives_18 rfl rfl ?_
        refine v_iload_n C 2 dX10_derives_19 rfl rfl ?_
        refine v_iload_n C 0 dX10_derives_20 rfl rfl ?_
        refine v_calli (i := 304) (As := [.int (iI a1), .int (iI x2)]) (rest := [.int (iI (x2 - 1)), .int (iI a2), .ref (B + 304)]) C (s_X10_of hlo hhi r1 rx2 h) w963 wy_X10_of ⟨rfl, rfl⟩ hd_X10_of ⟨Nat.le_of_ble_eq_true rfl, Nat.le_of_ble_eq_true rfl⟩ (Nat.le_trans hlo (by decide)) (Nat.lt_of_lt_of_le (by decide) hhi) rfl rfl rfl rfl (Nat.le_of_ble_eq_true rfl) dX10_derives_21 (fun z9 σ8 rz9 h => ?_)
        refine v_R (fun hRσ8 => ?_)
        refine v_iload_n C 0 dX10_derives_24 rfl rfl ?_
        have k10 := h.1
        have h := h.2
        refine v_imul C dX10_derives_25 ?_
        refine v_aload_n C 1 dX10_derives_26 rfl rfl ?_
        refine gf10_now C hlo hhi w877 dX10_derives_27 ?_
        refine v_iconst C dX10_derives_30 ?_
        refine v_iald (i := 305) (n := 87) C (Nat.le_trans hlo (by decide)) (Nat.lt_of_lt_of_le (by decide) hhi) rfl (by decide) ⟨by decide, by decide⟩ dX10_derives_31 ?_
        have k11 := h.1
        have h := h.2
        refine v_irem C k10 (hRσ8 305 _) k11 dX10_derives_32 ?_
        refine v_callv (i := 304) (As := [.int (iI a2), .int (iI (x2 - 1)), .int (iI (Int.tmod (z9 * x2) (σ8 305 0)))]) (rest := []) C (s_X10_puts hlo hhi r2 k7 (inR_tmod k10) h) w955 wy_X10_puts ⟨rfl, rfl⟩ hd_X10_puts ⟨Nat.le_of_ble_eq_true rfl, Nat.le_of_ble_eq_true rfl⟩ (Nat.le_trans hlo (by decide)) (Nat.lt_of_lt_of_le (by decide) hhi) rfl rfl rfl rfl (Nat.le_of_ble_eq_true rfl) dX10_derives_33 (fun σ12 h => ?_)
        refine v_R (fun hRσ12 => ?_)
        have k13 := h.1
        have h := h.2
        refine v_iinc (lv' := [(3, .int (iI (x2 + 1))), (0, .ref (B + 304)), (1, .int (iI a1)), (2, .int (iI a2))]) C 0 dX10_derives_36 rfl (by decide) rfl ?_
        refine v_goto C 7 dX10_derives_39 (by decide) ?_
        obtain ⟨m9, hm9, h⟩ := h
        exact ih5 m9 hm9 (x2 + 1) σ12 h k13
  exact key6 n16 1 σ1 hnn16 (by decide)
-- SplitTowersModel.divisor(II)I
def wp_X10_divisor (σ : SG) (a1 : Int) (a2 : Int) (Q : Int → SG → Prop) : Prop :=
  Lp2 (fun (rec4 : Int → Int → SG → Prop) (x1 : Int) (x2 : Int) (σ3 : SG) => ((x1 ≤ 0 → Q x2 σ3) ∧ (¬ x1 ≤ 0 → (x1 ≠ 0 ∧ (∀ v8 : Int, v8 = (Int.tmod x2 x1) → rec4 v8 x1 σ3))))) a2 a1 σ
def rm_X10_divisor : Room := { frames := 0, cells := 0, slots := 0, locals := 0 }
theorem wy_X10_divisor : Cond.static yX10_divisor ∈ WS ∧ Cond.initialized "SplitTowersModel" ∈ WS ∧ Cond.code yX10_divisor prog_12_method_78_code 5 (some .int) ∈ WS := ⟨w1228, w79, w1229⟩
theorem hd_X10_divisor : yX10_divisor.cls ≠ "java/lang/invoke/MethodHandle" ∧ yX10_divisor.cls ≠ "java/lang/invoke/VarHandle" ∧ (parseMethodDescriptor yX10_divisor.desc).map (fun d => d.parameters.length) = some 2 := by decide +kernel
set_option maxHeartbeats 4000000 in
set_option maxRecDepth 100000 in
theorem s_X10_divisor {l : Launch} {D : va_G} {aC : Nat → ClassId} {B lo hi : Nat} {σ : SG} {a1 : Int} {a2 : Int} {Q : Int → SG → Prop} (hlo : lo ≤ 304) (hhi : 316 ≤ hi) (r1 : inR a1) (r2 : inR a2) (h : wp_X10_divisor σ a1 a2 Q) : Met l yX10_divisor (Cond.code yX10_divisor prog_12_method_78_code 5 (some .int) :: WS) rm_X10_divisor (va_Pc [.int (iI a1), .int (iI a2)] (WP D aC B lo hi σ)) (QI D aC B lo hi Q) 0 0 (AB B lo hi) := by
  refine met_of (by decide +kernel) (by decide +kernel : yX10_divisor.cls = "SplitTowersModel") (Nat.le_of_ble_eq_true rfl) ?_
  intro p e s m args below meth c C
  unfold wp_X10_divisor at h
  refine v_R (fun hR0 => ?_)
  show V p l e rm_X10_divisor s m args below meth c D aC B lo hi 5 (MQ below (QI D aC B lo hi Q) args s 0 0 (AB B lo hi)) σ 0 [(0, .int (iI a1)), (1, .int (iI a2))] []
  refine v_iload_n C 0 dX10_divisor_0 rfl rfl ?_
  refine v_istore_n (lv' := [(2, .int (iI a1)), (0, .int (iI a1)), (1, .int (iI a2))]) C dX10_divisor_1 rfl (by decide) rfl ?_
  refine v_iload_n C 2 dX10_divisor_2 rfl rfl ?_
  refine v_istore_n (lv' := [(3, .int (iI a2)), (2, .int (iI a1)), (0, .int (iI a1)), (1, .int (iI a2))]) C dX10_divisor_3 rfl (by decide) rfl ?_
  obtain ⟨I10, ⟨n11, hnn11⟩, hII10⟩ := h
  have key6 : ∀ (n : Nat) (x1 : Int) (x2 : Int) (σ3 : SG), I10 n x1 x2 σ3 → inR x1 → inR x2 → V p l e rm_X10_divisor s m args below meth c D aC B lo hi 5 (MQ below (QI D aC B lo hi Q) args s 0 0 (AB B lo hi)) σ3 4 [(3, .int (iI x1)), (2, .int (iI x2))] [] := by
    intro n
    induction n using Nat.strongRecOn with
    | ind n ih5 =>
      intro x1 x2 σ3 hn rx1 rx2
      have h := hII10 n x1 x2 σ3 hn
      refine v_R (fun hRσ3 => ?_)
      refine v_iload_n C 0 dX10_divisor_4 rfl rfl ?_
      refine v_if_le C rx1 21 dX10_divisor_5 (by decide) (fun c9 => ?_) (fun c9 => ?_)
      · have h := h.1 c9
        refine v_iload_n C 1 dX10_divisor_21 rfl rfl ?_
        exact v_iret C rx2 h dX10_divisor_22
      · have h := h.2 c9
        refine v_iload_n C 1 dX10_divisor_8 rfl rfl ?_
        refine v_iload_n C 0 dX10_divisor_9 rfl rfl ?_
        have k7 := h.1
        have h := h.2
        refine v_irem C rx2 rx1 k7 dX10_divisor_10 ?_
        refine v_name (fun v8 ev8 => ?_)
        have h := h v8 ev8
        have rv8 : inR v8 := by rw [ev8]; exact (inR_tmod rx2)
        refine v_istore (lv' := [(4, .int (iI v8)), (3, .int (iI x1)), (2, .int (iI x2))]) C dX10_divisor_11 (by decide) rfl ?_
        refine v_iload_n C 1 dX10_divisor_13 rfl rfl ?_
        refine v_istore_n (lv' := [(2, .int (iI x1)), (4, .int (iI v8)), (3, .int (iI x1))]) C dX10_divisor_14 rfl (by decide) rfl ?_
        refine v_iload C 1 dX10_divisor_15 rfl ?_
        refine v_istore_n (lv' := [(3, .int (iI v8)), (2, .int (iI x1)), (4, .int (iI v8))]) C dX10_divisor_17 rfl (by decide) rfl ?_
        refine v_goto C 4 dX10_divisor_18 (by decide) ?_
        obtain ⟨m9, hm9, h⟩ := h
        refine v_sub [0, 1] rfl ?_
        exact ih5 m9 hm9 v8 x1 σ3 h rv8 rx1
  refine v_sub [0, 1] rfl ?_
  exact key6 n11 a2 a1 σ hnn11 r2 r1
-- SplitTowersModel.factors(I)I
def wp_X10_factors (σ : SG) (a1 : Int) (Q : Int → SG → Prop) : Prop :=
  wp_X10_in σ a1 1 6 (fun (z2 : Int) (σ1 : SG) => ((¬ z2 = 0 → wp_X10_countsFactors σ1 (fun (σ3 : SG) => ((0 ≤ a1 ∧ a1 < 7) ∧ Q (σ3 315 a1.toNat) σ3))) ∧ (z2 = 0 → Q (-2) σ1)))
def rm_X10_factors : Room := { frames := 6, cells := 0, slots := 0, locals := 143 }
theorem wy_X10_factors : Cond.instanceMethod yX10_factors ∈ WS ∧ Cond.selects "SplitTowersModel" yX10_factors yX10_factors ∈ WS ∧ Cond.initialized "SplitTowersModel" ∈ WS ∧ Cond.code yX10_factors prog_12_method_81_code 2 (some .int) ∈ WS := ⟨w1235, w1236, w79, w1237⟩
theorem hd_X10_factors : yX10_factors.cls = "SplitTowersModel" ∧ yX10_factors.cls ≠ "java/lang/invoke/MethodHandle" ∧ yX10_factors.cls ≠ "java/lang/invoke/VarHandle" ∧ (parseMethodDescriptor yX10_factors.desc).map (fun d => d.parameters.length) = some 1 := by decide +kernel
set_option maxHeartbeats 4000000 in
set_option maxRecDepth 100000 in
theorem s_X10_factors {l : Launch} {D : va_G} {aC : Nat → ClassId} {B lo hi : Nat} {σ : SG} {a1 : Int} {Q : Int → SG → Prop} (hlo : lo ≤ 304) (hhi : 316 ≤ hi) (r1 : inR a1) (h : wp_X10_factors σ a1 Q) : Met l yX10_factors (Cond.code yX10_factors prog_12_method_81_code 2 (some .int) :: WS) rm_X10_factors (va_Pc [.ref (B + 304), .int (iI a1)] (WP D aC B lo hi σ)) (QI D aC B lo hi Q) 0 0 (AB B lo hi) := by
  refine met_of (by decide +kernel) (by decide +kernel : yX10_factors.cls = "SplitTowersModel") (Nat.le_of_ble_eq_true rfl) ?_
  intro p e s m args below meth c C
  unfold wp_X10_factors at h
  refine v_R (fun hR0 => ?_)
  show V p l e rm_X10_factors s m args below meth c D aC B lo hi 2 (MQ below (QI D aC B lo hi Q) args s 0 0 (AB B lo hi)) σ 0 [(0, .ref (B + 304)), (1, .int (iI a1))] []
  refine v_iload_n C 1 dX10_factors_0 rfl rfl ?_
  refine v_iconst C dX10_factors_1 ?_
  refine v_bipush C dX10_factors_2 (by decide) ?_
  refine v_callsi (As := [.int (iI a1), .int (iI 1), .int (iI 6)]) (rest := []) C (s_X10_in hlo hhi r1 (by decide) (by decide) h) w944 wy_X10_in ⟨rfl, rfl⟩ hd_X10_in ⟨Nat.le_of_ble_eq_true rfl, Nat.le_of_ble_eq_true rfl⟩ rfl rfl (Nat.le_of_ble_eq_true rfl) dX10_factors_4 (fun z2 σ1 rz2 h => ?_)
  refine v_R (fun hRσ1 => ?_)
  refine v_if_ne C rz2 13 dX10_factors_7 (by decide) (fun c5 => ?_) (fun c5 => ?_)
  · have h := h.1 c5
    refine v_aload_n C 0 dX10_factors_13 rfl rfl ?_
    refine v_callv (i := 304) (As := []) (rest := []) C (s_X10_countsFactors hlo hhi h) w1223 wy_X10_countsFactors ⟨rfl, rfl⟩ hd_X10_countsFactors ⟨Nat.le_of_ble_eq_true rfl, Nat.le_of_ble_eq_true rfl⟩ (Nat.le_trans hlo (by decide)) (Nat.lt_of_lt_of_le (by decide) hhi) rfl rfl rfl rfl (Nat.le_of_ble_eq_true rfl) dX10_factors_14 (fun σ3 h => ?_)
    refine v_R (fun hRσ3 => ?_)
    refine v_aload_n C 0 dX10_factors_17 rfl rfl ?_
    refine gf10_factors C hlo hhi w891 dX10_factors_18 ?_
    refine v_iload_n C 1 dX10_factors_21 rfl rfl ?_
    have k4 := h.1
    have h := h.2
    refine v_iald (i := 315) (n := 7) C (Nat.le_trans hlo (by decide)) (Nat.lt_of_lt_of_le (by decide) hhi) rfl r1 k4 dX10_factors_22 ?_
    exact v_iret C (hRσ3 315 _) h dX10_factors_23
  · have h := h.2 c5
    refine v_bipush C dX10_factors_10 (by decide) ?_
    exact v_iret C (by decide) h dX10_factors_12
-- SplitTowersModel.findsLeast()V
def wp_X10_findsLeast (σ : SG)  (Q : SG → Prop) : Prop :=
  wp_X10_degree σ 0 (fun (z2 : Int) (σ1 : SG) => (∀ v3 : Int, v3 = (σ1 305 0) → wp_X10_constant σ1 4 1 (fun (σ4 : SG) => Lp1 (fun (rec7 : Int → SG → Prop) (x5 : Int) (σ6 : SG) => ((z2 < x5 → Q σ6) ∧ (¬ z2 < x5 → (inR (2 * x5) ∧ (inR (34 + (2 * x5)) ∧ (∀ v12 : Int, v12 = 34 + (2 * x5) → wp_X10_copies σ6 4 v12 (fun (σ13 : SG) => (inR (v12 + 1) ∧ wp_X10_clears σ13 (v12 + 1) (fun (σ15 : SG) => (inR (v12 + 1) ∧ wp_X10_puts σ15 (v12 + 1) x5 1 (fun (σ17 : SG) => Lp1 (fun (rec20 : Int → SG → Prop) (x18 : Int) (σ19 : SG) => ((x5 ≤ x18 → wp_X10_degree σ19 v12 (fun (z24 : Int) (σ23 : SG) => ((0 ≤ z24 → wp_X10_multiplies σ23 4 2 4 (fun (σ25 : SG) => wp_X10_divides σ25 4 0 (-1) (fun (σ26 : SG) => (inR (x5 + 1) ∧ rec7 (x5 + 1) σ26)))) ∧ (¬ 0 ≤ z24 → (inR (v12 + 1) ∧ wp_X10_copies σ23 (v12 + 1) 3 (fun (σ29 : SG) => Q σ29)))))) ∧ (¬ x5 ≤ x18 → (inR (2 * x18) ∧ (inR (34 + (2 * x18)) ∧ (∀ v33 : Int, v33 = 34 + (2 * x18) → wp_X10_degree σ19 v33 (fun (z35 : Int) (σ34 : SG) => wp_X10_of σ34 v12 z35 (fun (z37 : Int) (σ36 : SG) => wp_X10_of σ36 v33 z35 (fun (z39 : Int) (σ38 : SG) => wp_X10_inverse σ38 z39 (fun (z41 : Int) (σ40 : SG) => (inR (z37 * z41) ∧ (v3 ≠ 0 ∧ (∀ v44 : Int, v44 = (Int.tmod (z37 * z41) v3) → (inR (v3 - v44) ∧ (v3 ≠ 0 ∧ wp_X10_adds σ40 v33 v12 (Int.tmod (v3 - v44) v3) (fun (σ47 : SG) => (inR (v33 + 1) ∧ (inR (v12 + 1) ∧ (inR (v3 - v44) ∧ (v3 ≠ 0 ∧ wp_X10_adds σ47 (v33 + 1) (v12 + 1) (Int.tmod (v3 - v44) v3) (fun (σ52 : SG) => (inR (x18 + 1) ∧ rec20 (x18 + 1) σ52)))))))))))))))))))))) 0 σ17))))))))))) 0 σ4)))
def rm_X10_findsLeast : Room := { frames := 3, cells := 0, slots := 0, locals := 74 }
theorem wy_X10_findsLeast : Cond.instanceMethod yX10_findsLeast ∈ WS ∧ Cond.selects "SplitTowersModel" yX10_findsLeast yX10_findsLeast ∈ WS ∧ Cond.initialized "SplitTowersModel" ∈ WS ∧ Cond.code yX10_findsLeast prog_12_method_74_code 9 none ∈ WS := ⟨w1213, w62, w79, w1214⟩
theorem hd_X10_findsLeast : yX10_findsLeast.cls = "SplitTowersModel" ∧ yX10_findsLeast.cls ≠ "java/lang/invoke/MethodHandle" ∧ yX10_findsLeast.cls ≠ "java/lang/invoke/VarHandle" ∧ (parseMethodDescriptor yX10_findsLeast.desc).map (fun d => d.parameters.length) = some 0 := by decide +kernel
set_option maxHeartbeats 4000000 in
set_option maxRecDepth 100000 in
theorem s_X10_findsLeast {l : Launch} {D : va_G} {aC : Nat → ClassId} {B lo hi : Nat} {σ : SG}  {Q : SG → Prop} (hlo : lo ≤ 304) (hhi : 316 ≤ hi) (h : wp_X10_findsLeast σ  Q) : Met l yX10_findsLeast (Cond.code yX10_findsLeast prog_12_method_74_code 9 none :: WS) rm_X10_findsLeast (va_Pc [.ref (B + 304)] (WP D aC B lo hi σ)) (QV D aC B lo hi Q) 0 0 (AB B lo hi) := by
  refine met_of (by decide +kernel) (by decide +kernel : yX10_findsLeast.cls = "SplitTowersModel") (Nat.le_of_ble_eq_true rfl) ?_
  intro p e s m args below meth c C
  unfold wp_X10_findsLeast at h
  refine v_R (fun hR0 => ?_)
  show V p l e rm_X10_findsLeast s m args below meth c D aC B lo hi 9 (MQ below (QV D aC B lo hi Q) args s 0 0 (AB B lo hi)) σ 0 [(0, .ref (B + 304))] []
  refine v_aload_n C 0 dX10_findsLeast_0 rfl rfl ?_
  refine v_iconst C dX10_findsLeast_1 ?_
  refine v_calli (i := 304) (As := [.int (iI 0)]) (rest := []) C (s_X10_degree hlo hhi (by decide) h) w975 wy_X10_degree ⟨rfl, rfl⟩ hd_X10_degree ⟨Nat.le_of_ble_eq_true rfl, Nat.le_of_ble_eq_true rfl⟩ (Nat.le_trans hlo (by decide)) (Nat.lt_of_lt_of_le (by decide) hhi) rfl rfl rfl rfl (Nat.le_of_ble_eq_true rfl) dX10_findsLeast_2 (fun z2 σ1 rz2 h => ?_)
  refine v_R (fun hRσ1 => ?_)
  refine v_istore_n (lv' := [(1, .int (iI z2)), (0, .ref (B + 304))]) C dX10_findsLeast_5 rfl (by decide) rfl ?_
  refine v_aload_n C 1 dX10_findsLeast_6 rfl rfl ?_
  refine gf10_now C hlo hhi w877 dX10_findsLeast_7 ?_
  refine v_iconst C dX10_findsLeast_10 ?_
  refine v_iald (i := 305) (n := 87) C (Nat.le_trans hlo (by decide)) (Nat.lt_of_lt_of_le (by decide) hhi) rfl (by decide) ⟨by decide, by decide⟩ dX10_findsLeast_11 ?_
  refine v_name (fun v3 ev3 => ?_)
  have h := h v3 ev3
  have rv3 : inR v3 := by rw [ev3]; exact (hRσ1 305 _)
  refine v_istore_n (lv' := [(2, .int (iI v3)), (1, .int (iI z2)), (0, .ref (B + 304))]) C dX10_findsLeast_12 rfl (by decide) rfl ?_
  refine v_aload_n C 2 dX10_findsLeast_13 rfl rfl ?_
  refine v_iconst C dX10_findsLeast_14 ?_
  refine v_iconst C dX10_findsLeast_15 ?_
  refine v_callv (i := 304) (As := [.int (iI 4), .int (iI 1)]) (rest := []) C (s_X10_constant hlo hhi (by decide) (by decide) h) w1050 wy_X10_constant ⟨rfl, rfl⟩ hd_X10_constant ⟨Nat.le_of_ble_eq_true rfl, Nat.le_of_ble_eq_true rfl⟩ (Nat.le_trans hlo (by decide)) (Nat.lt_of_lt_of_le (by decide) hhi) rfl rfl rfl rfl (Nat.le_of_ble_eq_true rfl) dX10_findsLeast_16 (fun σ4 h => ?_)
  refine v_R (fun hRσ4 => ?_)
  refine v_iconst C dX10_findsLeast_19 ?_
  refine v_istore_n (lv' := [(3, .int (iI 0)), (2, .int (iI v3)), (1, .int (iI z2)), (0, .ref (B + 304))]) C dX10_findsLeast_20 rfl (by decide) rfl ?_
  obtain ⟨I58, ⟨n59, hnn59⟩, hII58⟩ := h
  have key9 : ∀ (n : Nat) (x5 : Int) (σ6 : SG), I58 n x5 σ6 → inR x5 → V p l e rm_X10_findsLeast s m args below meth c D aC B lo hi 9 (MQ below (QV D aC B lo hi Q) args s 0 0 (AB B lo hi)) σ6 21 [(3, .int (iI x5)), (2, .int (iI v3)), (1, .int (iI z2)), (0, .ref (B + 304))] [] := by
    intro n
    induction n using Nat.strongRecOn with
    | ind n ih8 =>
      intro x5 σ6 hn rx5
      have h := hII58 n x5 σ6 hn
      refine v_R (fun hRσ6 => ?_)
      refine v_iload_n C 0 dX10_findsLeast_21 rfl rfl ?_
      refine v_iload_n C 2 dX10_findsLeast_22 rfl rfl ?_
      refine v_icmp_gt C rx5 rz2 187 dX10_findsLeast_23 (by decide) (fun c57 => ?_) (fun c57 => ?_)
      · have h := h.1 c57
        exact v_vret C h dX10_findsLeast_187
      · have h := h.2 c57
        refine v_bipush C dX10_findsLeast_26 (by decide) ?_
        refine v_iconst C dX10_findsLeast_28 ?_
        refine v_iload_n C 0 dX10_findsLeast_29 rfl rfl ?_
        have k10 := h.1
        have h := h.2
        refine v_imul C dX10_findsLeast_30 ?_
        have k11 := h.1
        have h := h.2
        refine v_iadd C dX10_findsLeast_31 ?_
        refine v_name (fun v12 ev12 => ?_)
        have h := h v12 ev12
        have rv12 : inR v12 := by rw [ev12]; exact k11
        refine v_istore (lv' := [(4, .int (iI v12)), (3, .int (iI x5)), (2, .int (iI v3)), (1, .int (iI z2)), (0, .ref (B + 304))]) C dX10_findsLeast_32 (by decide) rfl ?_
        refine v_aload_n C 4 dX10_findsLeast_34 rfl rfl ?_
        refine v_iconst C dX10_findsLeast_35 ?_
        refine v_iload C 0 dX10_findsLeast_36 rfl ?_
        refine v_callv (i := 304) (As := [.int (iI 4), .int (iI v12)]) (rest := []) C (s_X10_copies hlo hhi (by decide) rv12 h) w971 wy_X10_copies ⟨rfl, rfl⟩ hd_X10_copies ⟨Nat.le_of_ble_eq_true rfl, Nat.le_of_ble_eq_true rfl⟩ (Nat.le_trans hlo (by decide)) (Nat.lt_of_lt_of_le (by decide) hhi) rfl rfl rfl rfl (Nat.le_of_ble_eq_true rfl) dX10_findsLeast_38 (fun σ13 h => ?_)
        refine v_R (fun hRσ13 => ?_)
        refine v_aload_n C 4 dX10_findsLeast_41 rfl rfl ?_
        refine v_iload C 0 dX10_findsLeast_42 rfl ?_
        refine v_iconst C dX10_findsLeast_44 ?_
        have k14 := h.1
        have h := h.2
        refine v_iadd C dX10_findsLeast_45 ?_
        refine v_callv (i := 304) (As := [.int (iI (v12 + 1))]) (rest := []) C (s_X10_clears hlo hhi k14 h) w951 wy_X10_clears ⟨rfl, rfl⟩ hd_X10_clears ⟨Nat.le_of_ble_eq_true rfl, Nat.le_of_ble_eq_true rfl⟩ (Nat.le_trans hlo (by decide)) (Nat.lt_of_lt_of_le (by decide) hhi) rfl rfl rfl rfl (Nat.le_of_ble_eq_true rfl) dX10_findsLeast_46 (fun σ15 h => ?_)
        refine v_R (fun hRσ15 => ?_)
        refine v_aload_n C 4 dX10_findsLeast_49 rfl rfl ?_
        refine v_iload C 0 dX10_findsLeast_50 rfl ?_
        refine v_iconst C dX10_findsLeast_52 ?_
        have k16 := h.1
        have h := h.2
        refine v_iadd C dX10_findsLeast_53 ?_
        refine v_iload_n C 1 dX10_findsLeast_54 rfl rfl ?_
        refine v_iconst C dX10_findsLeast_55 ?_
        refine v_callv (i := 304) (As := [.int (iI (v12 + 1)), .int (iI x5), .int (iI 1)]) (rest := []) C (s_X10_puts hlo hhi k16 rx5 (by decide) h) w955 wy_X10_puts ⟨rfl, rfl⟩ hd_X10_puts ⟨Nat.le_of_ble_eq_true rfl, Nat.le_of_ble_eq_true rfl⟩ (Nat.le_trans hlo (by decide)) (Nat.lt_of_lt_of_le (by decide) hhi) rfl rfl rfl rfl (Nat.le_of_ble_eq_true rfl) dX10_findsLeast_56 (fun σ17 h => ?_)
        refine v_R (fun hRσ17 => ?_)
        refine v_iconst C dX10_findsLeast_59 ?_
        refine v_istore (lv' := [(5, .int (iI 0)), (4, .int (iI v12)), (3, .int (iI x5)), (2, .int (iI v3)), (1, .int (iI z2)), (0, .ref (B + 304))]) C dX10_findsLeast_60 (by decide) rfl ?_
        obtain ⟨I55, ⟨n56, hnn56⟩, hII55⟩ := h
        have key22 : ∀ (n : Nat) (x18 : Int) (σ19 : SG), I55 n x18 σ19 → inR x18 → V p l e rm_X10_findsLeast s m args below meth c D aC B lo hi 9 (MQ below (QV D aC B lo hi Q) args s 0 0 (AB B lo hi)) σ19 62 [(5, .int (iI x18)), (4, .int (iI v12)), (3, .int (iI x5)), (2, .int (iI v3)), (1, .int (iI z2)), (0, .ref (B + 304))] [] := by
          intro n
          induction n using Nat.strongRecOn with
          | ind n ih21 =>
            intro x18 σ19 hn rx18
            have h := hII55 n x18 σ19 hn
            refine v_R (fun hRσ19 => ?_)
            refine v_iload C 0 dX10_findsLeast_62 rfl ?_
            refine v_iload_n C 2 dX10_findsLeast_64 rfl rfl ?_
            refine v_icmp_ge C rx18 rx5 148 dX10_findsLeast_65 (by decide) (fun c54 => ?_) (fun c54 => ?_)
            · have h := h.1 c54
              refine v_aload_n C 5 dX10_findsLeast_148 rfl rfl ?_
              refine v_iload C 1 dX10_findsLeast_149 rfl ?_
              refine v_calli (i := 304) (As := [.int (iI v12)]) (rest := []) C (s_X10_degree hlo hhi rv12 h) w975 wy_X10_degree ⟨rfl, rfl⟩ hd_X10_degree ⟨Nat.le_of_ble_eq_true rfl, Nat.le_of_ble_eq_true rfl⟩ (Nat.le_trans hlo (by decide)) (Nat.lt_of_lt_of_le (by decide) hhi) rfl rfl rfl rfl (Nat.le_of_ble_eq_true rfl) dX10_findsLeast_151 (fun z24 σ23 rz24 h => ?_)
              refine v_R (fun hRσ23 => ?_)
              refine v_if_ge C rz24 167 dX10_findsLeast_154 (by decide) (fun c30 => ?_) (fun c30 => ?_)
              · have h := h.1 c30
                refine v_aload_n C 5 dX10_findsLeast_167 rfl rfl ?_
                refine v_iconst C dX10_findsLeast_168 ?_
                refine v_iconst C dX10_findsLeast_169 ?_
                refine v_iconst C dX10_findsLeast_170 ?_
                refine v_callv (i := 304) (As := [.int (iI 4), .int (iI 2), .int (iI 4)]) (rest := []) C (s_X10_multiplies hlo hhi (by decide) (by decide) (by decide) h) w1054 wy_X10_multiplies ⟨rfl, rfl⟩ hd_X10_multiplies ⟨Nat.le_of_ble_eq_true rfl, Nat.le_of_ble_eq_true rfl⟩ (Nat.le_trans hlo (by decide)) (Nat.lt_of_lt_of_le (by decide) hhi) rfl rfl rfl rfl (Nat.le_of_ble_eq_true rfl) dX10_findsLeast_171 (fun σ25 h => ?_)
                refine v_R (fun hRσ25 => ?_)
                refine v_aload_n C 5 dX10_findsLeast_174 rfl rfl ?_
                refine v_iconst C dX10_findsLeast_175 ?_
                refine v_iconst C dX10_findsLeast_176 ?_
                refine v_iconst C dX10_findsLeast_177 ?_
                refine v_callv (i := 304) (As := [.int (iI 4), .int (iI 0), .int (iI (-1))]) (rest := []) C (s_X10_divides hlo hhi (by decide) (by decide) (by decide) h) w979 wy_X10_divides ⟨rfl, rfl⟩ hd_X10_divides ⟨Nat.le_of_ble_eq_true rfl, Nat.le_of_ble_eq_true rfl⟩ (Nat.le_trans hlo (by decide)) (Nat.lt_of_lt_of_le (by decide) hhi) rfl rfl rfl rfl (Nat.le_of_ble_eq_true rfl) dX10_findsLeast_178 (fun σ26 h => ?_)
                refine v_R (fun hRσ26 => ?_)
                have k27 := h.1
                have h := h.2
                refine v_iinc (lv' := [(3, .int (iI (x5 + 1))), (5, .int (iI x18)), (4, .int (iI v12)), (2, .int (iI v3)), (1, .int (iI z2)), (0, .ref (B + 304))]) C 2 dX10_findsLeast_181 rfl (by decide) rfl ?_
                refine v_goto C 21 dX10_findsLeast_184 (by decide) ?_
                obtain ⟨m9, hm9, h⟩ := h
                refine v_sub [0, 3, 4, 5] rfl ?_
                exact ih8 m9 hm9 (x5 + 1) σ26 h k27
              · have h := h.2 c30
                refine v_aload_n C 5 dX10_findsLeast_157 rfl rfl ?_
                refine v_iload C 1 dX10_findsLeast_158 rfl ?_
                refine v_iconst C dX10_findsLeast_160 ?_
                have k28 := h.1
                have h := h.2
                refine v_iadd C dX10_findsLeast_161 ?_
                refine v_iconst C dX10_findsLeast_162 ?_
                refine v_callv (i := 304) (As := [.int (iI (v12 + 1)), .int (iI 3)]) (rest := []) C (s_X10_copies hlo hhi k28 (by decide) h) w971 wy_X10_copies ⟨rfl, rfl⟩ hd_X10_copies ⟨Nat.le_of_ble_eq_true rfl, Nat.le_of_ble_eq_true rfl⟩ (Nat.le_trans hlo (by decide)) (Nat.lt_of_lt_of_le (by decide) hhi) rfl rfl rfl rfl (Nat.le_of_ble_eq_true rfl) dX10_findsLeast_163 (fun σ29 h => ?_)
                refine v_R (fun hRσ29 => ?_)
                exact v_vret C h dX10_findsLeast_166
            · have h := h.2 c54
              refine v_bipush C dX10_findsLeast_68 (by decide) ?_
              refine v_iconst C dX10_findsLeast_70 ?_
              refine v_iload C 0 dX10_findsLeast_71 rfl ?_
              have k31 := h.1
              have h := h.2
              refine v_imul C dX10_findsLeast_73 ?_
              have k32 := h.1
              have h := h.2
              refine v_iadd C dX10_findsLeast_74 ?_
              refine v_name (fun v33 ev33 => ?_)
              have h := h v33 ev33
              have rv33 : inR v33 := by rw [ev33]; exact k32
              refine v_istore (lv' := [(6, .int (iI v33)), (5, .int (iI x18)), (4, .int (iI v12)), (3, .int (iI x5)), (2, .int (iI v3)), (1, .int (iI z2)), (0, .ref (B + 304))]) C dX10_findsLeast_75 (by decide) rfl ?_
              refine v_aload_n C 6 dX10_findsLeast_77 rfl rfl ?_
              refine v_iload C 0 dX10_findsLeast_78 rfl ?_
              refine v_calli (i := 304) (As := [.int (iI v33)]) (rest := []) C (s_X10_degree hlo hhi rv33 h) w975 wy_X10_degree ⟨rfl, rfl⟩ hd_X10_degree ⟨Nat.le_of_ble_eq_true rfl, Nat.le_of_ble_eq_true rfl⟩ (Nat.le_trans hlo (by decide)) (Nat.lt_of_lt_of_le (by decide) hhi) rfl rfl rfl rfl (Nat.le_of_ble_eq_true rfl) dX10_findsLeast_80 (fun z35 σ34 rz35 h => ?_)
              refine v_R (fun hRσ34 => ?_)
              refine v_istore (lv' := [(7, .int (iI z35)), (6, .int (iI v33)), (5, .int (iI x18)), (4, .int (iI v12)), (3, .int (iI x5)), (2, .int (iI v3)), (1, .int (iI z2)), (0, .ref (B + 304))]) C dX10_findsLeast_83 (by decide) rfl ?_
              refine v_aload_n C 7 dX10_findsLeast_85 rfl rfl ?_
              refine v_iload C 3 dX10_findsLeast_86 rfl ?_
              refine v_iload C 0 dX10_findsLeast_88 rfl ?_
              refine v_calli (i := 304) (As := [.int (iI v12), .int (iI z35)]) (rest := []) C (s_X10_of hlo hhi rv12 rz35 h) w963 wy_X10_of ⟨rfl, rfl⟩ hd_X10_of ⟨Nat.le_of_ble_eq_true rfl, Nat.le_of_ble_eq_true rfl⟩ (Nat.le_trans hlo (by decide)) (Nat.lt_of_lt_of_le (by decide) hhi) rfl rfl rfl rfl (Nat.le_of_ble_eq_true rfl) dX10_findsLeast_90 (fun z37 σ36 rz37 h => ?_)
              refine v_R (fun hRσ36 => ?_)
              refine v_aload_n C 7 dX10_findsLeast_93 rfl rfl ?_
              refine v_aload_n C 7 dX10_findsLeast_94 rfl rfl ?_
              refine v_iload C 1 dX10_findsLeast_95 rfl ?_
              refine v_iload C 0 dX10_findsLeast_97 rfl ?_
              refine v_calli (i := 304) (As := [.int (iI v33), .int (iI z35)]) (rest := [.ref (B + 304), .int (iI z37)]) C (s_X10_of hlo hhi rv33 rz35 h) w963 wy_X10_of ⟨rfl, rfl⟩ hd_X10_of ⟨Nat.le_of_ble_eq_true rfl, Nat.le_of_ble_eq_true rfl⟩ (Nat.le_trans hlo (by decide)) (Nat.lt_of_lt_of_le (by decide) hhi) rfl rfl rfl rfl (Nat.le_of_ble_eq_true rfl) dX10_findsLeast_99 (fun z39 σ38 rz39 h => ?_)
              refine v_R (fun hRσ38 => ?_)
              refine v_calli (i := 304) (As := [.int (iI z39)]) (rest := [.int (iI z37)]) C (s_X10_inverse hlo hhi rz39 h) w983 wy_X10_inverse ⟨rfl, rfl⟩ hd_X10_inverse ⟨Nat.le_of_ble_eq_true rfl, Nat.le_of_ble_eq_true rfl⟩ (Nat.le_trans hlo (by decide)) (Nat.lt_of_lt_of_le (by decide) hhi) rfl rfl rfl rfl (Nat.le_of_ble_eq_true rfl) dX10_findsLeast_102 (fun z41 σ40 rz41 h => ?_)
              refine v_R (fun hRσ40 => ?_)
              have k42 := h.1
              have h := h.2
              refine v_imul C dX10_findsLeast_105 ?_
              refine v_iload_n C 5 dX10_findsLeast_106 rfl rfl ?_
              have k43 := h.1
              have h := h.2
              refine v_irem C k42 rv3 k43 dX10_findsLeast_107 ?_
              refine v_name (fun v44 ev44 => ?_)
              have h := h v44 ev44
              have rv44 : inR v44 := by rw [ev44]; exact (inR_tmod k42)
              refine v_istore (lv' := [(8, .int (iI v44)), (7, .int (iI z35)), (6, .int (iI v33)), (5, .int (iI x18)), (4, .int (iI v12)), (3, .int (iI x5)), (2, .int (iI v3)), (1, .int (iI z2)), (0, .ref (B + 304))]) C dX10_findsLeast_108 (by decide) rfl ?_
              refine v_aload_n C 8 dX10_findsLeast_110 rfl rfl ?_
              refine v_iload C 2 dX10_findsLeast_111 rfl ?_
              refine v_iload C 4 dX10_findsLeast_113 rfl ?_
              refine v_iload_n C 6 dX10_findsLeast_115 rfl rfl ?_
              refine v_iload C 0 dX10_findsLeast_116 rfl ?_
              have k45 := h.1
              have h := h.2
              refine v_isub C dX10_findsLeast_118 ?_
              refine v_iload_n C 6 dX10_findsLeast_119 rfl rfl ?_
              have k46 := h.1
              have h := h.2
              refine v_irem C k45 rv3 k46 dX10_findsLeast_120 ?_
              refine v_callv (i := 304) (As := [.int (iI v33), .int (iI v12), .int (iI (Int.tmod (v3 - v44) v3))]) (rest := []) C (s_X10_adds hlo hhi rv33 rv12 (inR_tmod k45) h) w1058 wy_X10_adds ⟨rfl, rfl⟩ hd_X10_adds ⟨Nat.le_of_ble_eq_true rfl, Nat.le_of_ble_eq_true rfl⟩ (Nat.le_trans hlo (by decide)) (Nat.lt_of_lt_of_le (by decide) hhi) rfl rfl rfl rfl (Nat.le_of_ble_eq_true rfl) dX10_findsLeast_121 (fun σ47 h => ?_)
              refine v_R (fun hRσ47 => ?_)
              refine v_aload_n C 8 dX10_findsLeast_124 rfl rfl ?_
              refine v_iload C 2 dX10_findsLeast_125 rfl ?_
              refine v_iconst C dX10_findsLeast_127 ?_
              have k48 := h.1
              have h := h.2
              refine v_iadd C dX10_findsLeast_128 ?_
              refine v_iload C 4 dX10_findsLeast_129 rfl ?_
              refine v_iconst C dX10_findsLeast_131 ?_
              have k49 := h.1
              have h := h.2
              refine v_iadd C dX10_findsLeast_132 ?_
              refine v_iload_n C 6 dX10_findsLeast_133 rfl rfl ?_
              refine v_iload C 0 dX10_findsLeast_134 rfl ?_
              have k50 := h.1
              have h := h.2
              refine v_isub C dX10_findsLeast_136 ?_
              refine v_iload_n C 6 dX10_findsLeast_137 rfl rfl ?_
              have k51 := h.1
              have h := h.2
              refine v_irem C k50 rv3 k51 dX10_findsLeast_138 ?_
              refine v_callv (i := 304) (As := [.int (iI (v33 + 1)), .int (iI (v12 + 1)), .int (iI (Int.tmod (v3 - v44) v3))]) (rest := []) C (s_X10_adds hlo hhi k48 k49 (inR_tmod k50) h) w1058 wy_X10_adds ⟨rfl, rfl⟩ hd_X10_adds ⟨Nat.le_of_ble_eq_true rfl, Nat.le_of_ble_eq_true rfl⟩ (Nat.le_trans hlo (by decide)) (Nat.lt_of_lt_of_le (by decide) hhi) rfl rfl rfl rfl (Nat.le_of_ble_eq_true rfl) dX10_findsLeast_139 (fun σ52 h => ?_)
              refine v_R (fun hRσ52 => ?_)
              have k53 := h.1
              have h := h.2
              refine v_iinc (lv' := [(5, .int (iI (x18 + 1))), (8, .int (iI v44)), (7, .int (iI z35)), (6, .int (iI v33)), (4, .int (iI v12)), (3, .int (iI x5)), (2, .int (iI v3)), (1, .int (iI z2)), (0, .ref (B + 304))]) C 3 dX10_findsLeast_142 rfl (by decide) rfl ?_
              refine v_goto C 62 dX10_findsLeast_145 (by decide) ?_
              obtain ⟨m9, hm9, h⟩ := h
              refine v_sub [0, 4, 5, 6, 7, 8] rfl ?_
              exact ih21 m9 hm9 (x18 + 1) σ52 h k53
        exact key22 n56 0 σ17 hnn56 (by decide)
  exact key9 n59 0 σ4 hnn59 (by decide)
-- SplitTowersModel.goes(I)V
def wp_X10_goes (σ : SG) (a1 : Int) (Q : SG → Prop) : Prop :=
  (inR ((σ 305 44) - 1) ∧ (∀ σ2 : SG, σ2 = ug σ 305 44 ((σ 305 44) - 1) → wp_X10_swaps σ2 a1 (σ2 305 44) (fun (σ3 : SG) => Q σ3)))
def rm_X10_goes : Room := { frames := 1, cells := 0, slots := 0, locals := 24 }
theorem wy_X10_goes : Cond.instanceMethod yX10_goes ∈ WS ∧ Cond.selects "SplitTowersModel" yX10_goes yX10_goes ∈ WS ∧ Cond.initialized "SplitTowersModel" ∈ WS ∧ Cond.code yX10_goes prog_12_method_30_code 2 none ∈ WS := ⟨w1116, w53, w79, w1117⟩
theorem hd_X10_goes : yX10_goes.cls = "SplitTowersModel" ∧ yX10_goes.cls ≠ "java/lang/invoke/MethodHandle" ∧ yX10_goes.cls ≠ "java/lang/invoke/VarHandle" ∧ (parseMethodDescriptor yX10_goes.desc).map (fun d => d.parameters.length) = some 1 := by decide +kernel
set_option maxHeartbeats 4000000 in
set_option maxRecDepth 100000 in
theorem s_X10_goes {l : Launch} {D : va_G} {aC : Nat → ClassId} {B lo hi : Nat} {σ : SG} {a1 : Int} {Q : SG → Prop} (hlo : lo ≤ 304) (hhi : 316 ≤ hi) (r1 : inR a1) (h : wp_X10_goes σ a1 Q) : Met l yX10_goes (Cond.code yX10_goes prog_12_method_30_code 2 none :: WS) rm_X10_goes (va_Pc [.ref (B + 304), .int (iI a1)] (WP D aC B lo hi σ)) (QV D aC B lo hi Q) 0 0 (AB B lo hi) := by
  refine met_of (by decide +kernel) (by decide +kernel : yX10_goes.cls = "SplitTowersModel") (Nat.le_of_ble_eq_true rfl) ?_
  intro p e s m args below meth c C
  unfold wp_X10_goes at h
  refine v_R (fun hR0 => ?_)
  show V p l e rm_X10_goes s m args below meth c D aC B lo hi 2 (MQ below (QV D aC B lo hi Q) args s 0 0 (AB B lo hi)) σ 0 [(0, .ref (B + 304)), (1, .int (iI a1))] []
  refine v_aload_n C 0 dX10_goes_0 rfl rfl ?_
  refine gf10_now C hlo hhi w877 dX10_goes_1 ?_
  refine v_bipush C dX10_goes_4 (by decide) ?_
  refine v_dup2 C rfl rfl dX10_goes_6 ?_
  refine v_iald (i := 305) (n := 87) C (Nat.le_trans hlo (by decide)) (Nat.lt_of_lt_of_le (by decide) hhi) rfl (by decide) ⟨by decide, by decide⟩ dX10_goes_7 ?_
  refine v_iconst C dX10_goes_8 ?_
  have k1 := h.1
  have h := h.2
  refine v_isub C dX10_goes_9 ?_
  refine v_iast (i := 305) (n := 87) C (Nat.le_trans hlo (by decide)) (Nat.lt_of_lt_of_le (by decide) hhi) (fun _ => rfl) (by decide) ⟨by decide, by decide⟩ k1 dX10_goes_10 ?_
  refine v_nameS (fun σ2 eσ2 => ?_)
  have h := h σ2 eσ2
  refine v_R (fun hRσ2 => ?_)
  refine v_aload_n C 0 dX10_goes_11 rfl rfl ?_
  refine v_iload_n C 1 dX10_goes_12 rfl rfl ?_
  refine v_aload_n C 0 dX10_goes_13 rfl rfl ?_
  refine gf10_now C hlo hhi w877 dX10_goes_14 ?_
  refine v_bipush C dX10_goes_17 (by decide) ?_
  refine v_iald (i := 305) (n := 87) C (Nat.le_trans hlo (by decide)) (Nat.lt_of_lt_of_le (by decide) hhi) rfl (by decide) ⟨by decide, by decide⟩ dX10_goes_19 ?_
  refine v_callv (i := 304) (As := [.int (iI a1), .int (iI (σ2 305 44))]) (rest := []) C (s_X10_swaps hlo hhi r1 (hRσ2 305 _) h) w1086 wy_X10_swaps ⟨rfl, rfl⟩ hd_X10_swaps ⟨Nat.le_of_ble_eq_true rfl, Nat.le_of_ble_eq_true rfl⟩ (Nat.le_trans hlo (by decide)) (Nat.lt_of_lt_of_le (by decide) hhi) rfl rfl rfl rfl (Nat.le_of_ble_eq_true rfl) dX10_goes_20 (fun σ3 h => ?_)
  refine v_R (fun hRσ3 => ?_)
  exact v_vret C h dX10_goes_23
-- SplitTowersModel.isOne(I)Z
def wp_X10_isOne (σ : SG) (a1 : Int) (Q : Int → SG → Prop) : Prop :=
  wp_X10_raises σ 2 a1 0 5 (fun (σ1 : SG) => wp_X10_degree σ1 5 (fun (z3 : Int) (σ2 : SG) => ((¬ z3 = 0 → Q 0 σ2) ∧ (z3 = 0 → wp_X10_of σ2 5 0 (fun (z5 : Int) (σ4 : SG) => ((¬ z5 = 1 → Q 0 σ4) ∧ (z5 = 1 → Q 1 σ4)))))))
def rm_X10_isOne : Room := { frames := 4, cells := 0, slots := 0, locals := 99 }
theorem wy_X10_isOne : Cond.instanceMethod yX10_isOne ∈ WS ∧ Cond.selects "SplitTowersModel" yX10_isOne yX10_isOne ∈ WS ∧ Cond.initialized "SplitTowersModel" ∈ WS ∧ Cond.code yX10_isOne prog_12_method_77_code 2 (some .boolean) ∈ WS := ⟨w1232, w64, w79, w1233⟩
theorem hd_X10_isOne : yX10_isOne.cls = "SplitTowersModel" ∧ yX10_isOne.cls ≠ "java/lang/invoke/MethodHandle" ∧ yX10_isOne.cls ≠ "java/lang/invoke/VarHandle" ∧ (parseMethodDescriptor yX10_isOne.desc).map (fun d => d.parameters.length) = some 1 := by decide +kernel
set_option maxHeartbeats 4000000 in
set_option maxRecDepth 100000 in
theorem s_X10_isOne {l : Launch} {D : va_G} {aC : Nat → ClassId} {B lo hi : Nat} {σ : SG} {a1 : Int} {Q : Int → SG → Prop} (hlo : lo ≤ 304) (hhi : 316 ≤ hi) (r1 : inR a1) (h : wp_X10_isOne σ a1 Q) : Met l yX10_isOne (Cond.code yX10_isOne prog_12_method_77_code 2 (some .boolean) :: WS) rm_X10_isOne (va_Pc [.ref (B + 304), .int (iI a1)] (WP D aC B lo hi σ)) (QI D aC B lo hi Q) 0 0 (AB B lo hi) := by
  refine met_of (by decide +kernel) (by decide +kernel : yX10_isOne.cls = "SplitTowersModel") (Nat.le_of_ble_eq_true rfl) ?_
  intro p e s m args below meth c C
  unfold wp_X10_isOne at h
  refine v_R (fun hR0 => ?_)
  show V p l e rm_X10_isOne s m args below meth c D aC B lo hi 2 (MQ below (QI D aC B lo hi Q) args s 0 0 (AB B lo hi)) σ 0 [(0, .ref (B + 304)), (1, .int (iI a1))] []
  refine v_aload_n C 0 dX10_isOne_0 rfl rfl ?_
  refine v_iconst C dX10_isOne_1 ?_
  refine v_iload_n C 1 dX10_isOne_2 rfl rfl ?_
  refine v_iconst C dX10_isOne_3 ?_
  refine v_iconst C dX10_isOne_4 ?_
  refine v_callv (i := 304) (As := [.int (iI 2), .int (iI a1), .int (iI 0), .int (iI 5)]) (rest := []) C (s_X10_raises hlo hhi (by decide) r1 (by decide) (by decide) h) w1106 wy_X10_raises ⟨rfl, rfl⟩ hd_X10_raises ⟨Nat.le_of_ble_eq_true rfl, Nat.le_of_ble_eq_true rfl⟩ (Nat.le_trans hlo (by decide)) (Nat.lt_of_lt_of_le (by decide) hhi) rfl rfl rfl rfl (Nat.le_of_ble_eq_true rfl) dX10_isOne_5 (fun σ1 h => ?_)
  refine v_R (fun hRσ1 => ?_)
  refine v_aload_n C 0 dX10_isOne_8 rfl rfl ?_
  refine v_iconst C dX10_isOne_9 ?_
  refine v_calli (i := 304) (As := [.int (iI 5)]) (rest := []) C (s_X10_degree hlo hhi (by decide) h) w975 wy_X10_degree ⟨rfl, rfl⟩ hd_X10_degree ⟨Nat.le_of_ble_eq_true rfl, Nat.le_of_ble_eq_true rfl⟩ (Nat.le_trans hlo (by decide)) (Nat.lt_of_lt_of_le (by decide) hhi) rfl rfl rfl rfl (Nat.le_of_ble_eq_true rfl) dX10_isOne_10 (fun z3 σ2 rz3 h => ?_)
  refine v_R (fun hRσ2 => ?_)
  refine v_if_ne C rz3 30 dX10_isOne_13 (by decide) (fun c7 => ?_) (fun c7 => ?_)
  · have h := h.1 c7
    refine v_iconst C dX10_isOne_30 ?_
    exact v_zret C (by decide) h dX10_isOne_31
  · have h := h.2 c7
    refine v_aload_n C 0 dX10_isOne_16 rfl rfl ?_
    refine v_iconst C dX10_isOne_17 ?_
    refine v_iconst C dX10_isOne_18 ?_
    refine v_calli (i := 304) (As := [.int (iI 5), .int (iI 0)]) (rest := []) C (s_X10_of hlo hhi (by decide) (by decide) h) w963 wy_X10_of ⟨rfl, rfl⟩ hd_X10_of ⟨Nat.le_of_ble_eq_true rfl, Nat.le_of_ble_eq_true rfl⟩ (Nat.le_trans hlo (by decide)) (Nat.lt_of_lt_of_le (by decide) hhi) rfl rfl rfl rfl (Nat.le_of_ble_eq_true rfl) dX10_isOne_19 (fun z5 σ4 rz5 h => ?_)
    refine v_R (fun hRσ4 => ?_)
    refine v_iconst C dX10_isOne_22 ?_
    refine v_icmp_ne C rz5 (by decide) 30 dX10_isOne_23 (by decide) (fun c6 => ?_) (fun c6 => ?_)
    · have h := h.1 c6
      refine v_iconst C dX10_isOne_30 ?_
      exact v_zret C (by decide) h dX10_isOne_31
    · have h := h.2 c6
      refine v_iconst C dX10_isOne_26 ?_
      refine v_goto C 31 dX10_isOne_27 (by decide) ?_
      exact v_zret C (by decide) h dX10_isOne_31
