-- SplitTowersModel.placeOf(I)I
def wp_X10_placeOf (σ : SG) (a1 : Int) (Q : Int → SG → Prop) : Prop :=
  Lp1 (fun (rec3 : Int → SG → Prop) (x1 : Int) (σ2 : SG) => (((σ2 305 44) ≤ x1 → Q (-5) σ2) ∧ (¬ (σ2 305 44) ≤ x1 → Lp2 (fun (rec9 : Int → Int → SG → Prop) (x6 : Int) (x7 : Int) (σ8 : SG) => ((7 ≤ x6 → ((x7 = 0 → (inR (x1 + 1) ∧ rec3 (x1 + 1) σ8)) ∧ (¬ x7 = 0 → Q x1 σ8))) ∧ (¬ 7 ≤ x6 → (inR (7 * x1) ∧ (inR (45 + (7 * x1)) ∧ (inR ((45 + (7 * x1)) + x6) ∧ ((0 ≤ (45 + (7 * x1)) + x6 ∧ (45 + (7 * x1)) + x6 < 87) ∧ wp_X10_of σ8 a1 x6 (fun (z19 : Int) (σ18 : SG) => ((¬ (σ8 305 ((45 + (7 * x1)) + x6).toNat) = z19 → (∀ v20 : Int, v20 = (iand x7 0) → (inR (x6 + 1) ∧ rec9 (x6 + 1) v20 σ18))) ∧ ((σ8 305 ((45 + (7 * x1)) + x6).toNat) = z19 → (∀ v22 : Int, v22 = (iand x7 1) → (inR (x6 + 1) ∧ rec9 (x6 + 1) v22 σ18)))))))))))) 0 1 σ2))) 0 σ
def rm_X10_placeOf : Room := { frames := 1, cells := 0, slots := 0, locals := 22 }
theorem wy_X10_placeOf : Cond.instanceMethod yX10_placeOf ∈ WS ∧ Cond.selects "SplitTowersModel" yX10_placeOf yX10_placeOf ∈ WS ∧ Cond.initialized "SplitTowersModel" ∈ WS ∧ Cond.code yX10_placeOf prog_12_method_49_code 5 (some .int) ∈ WS := ⟨w1120, w54, w79, w1121⟩
theorem hd_X10_placeOf : yX10_placeOf.cls = "SplitTowersModel" ∧ yX10_placeOf.cls ≠ "java/lang/invoke/MethodHandle" ∧ yX10_placeOf.cls ≠ "java/lang/invoke/VarHandle" ∧ (parseMethodDescriptor yX10_placeOf.desc).map (fun d => d.parameters.length) = some 1 := by decide +kernel
set_option maxHeartbeats 4000000 in
set_option maxRecDepth 100000 in
theorem s_X10_placeOf {l : Launch} {D : va_G} {aC : Nat → ClassId} {B lo hi : Nat} {σ : SG} {a1 : Int} {Q : Int → SG → Prop} (hlo : lo ≤ 304) (hhi : 316 ≤ hi) (r1 : inR a1) (h : wp_X10_placeOf σ a1 Q) : Met l yX10_placeOf (Cond.code yX10_placeOf prog_12_method_49_code 5 (some .int) :: WS) rm_X10_placeOf (va_Pc [.ref (B + 304), .int (iI a1)] (WP D aC B lo hi σ)) (QI D aC B lo hi Q) 0 0 (AB B lo hi) := by
  refine met_of (by decide +kernel) (by decide +kernel : yX10_placeOf.cls = "SplitTowersModel") (Nat.le_of_ble_eq_true rfl) ?_
  intro p e s m args below meth c C
  unfold wp_X10_placeOf at h
  refine v_R (fun hR0 => ?_)
  show V p l e rm_X10_placeOf s m args below meth c D aC B lo hi 5 (MQ below (QI D aC B lo hi Q) args s 0 0 (AB B lo hi)) σ 0 [(0, .ref (B + 304)), (1, .int (iI a1))] []
  refine v_iconst C dX10_placeOf_0 ?_
  refine v_istore_n (lv' := [(2, .int (iI 0)), (0, .ref (B + 304)), (1, .int (iI a1))]) C dX10_placeOf_1 rfl (by decide) rfl ?_
  obtain ⟨I29, ⟨n30, hnn30⟩, hII29⟩ := h
  have key5 : ∀ (n : Nat) (x1 : Int) (σ2 : SG), I29 n x1 σ2 → inR x1 → V p l e rm_X10_placeOf s m args below meth c D aC B lo hi 5 (MQ below (QI D aC B lo hi Q) args s 0 0 (AB B lo hi)) σ2 2 [(2, .int (iI x1)), (0, .ref (B + 304)), (1, .int (iI a1))] [] := by
    intro n
    induction n using Nat.strongRecOn with
    | ind n ih4 =>
      intro x1 σ2 hn rx1
      have h := hII29 n x1 σ2 hn
      refine v_R (fun hRσ2 => ?_)
      refine v_iload_n C 0 dX10_placeOf_2 rfl rfl ?_
      refine v_aload_n C 1 dX10_placeOf_3 rfl rfl ?_
      refine gf10_now C hlo hhi w877 dX10_placeOf_4 ?_
      refine v_bipush C dX10_placeOf_7 (by decide) ?_
      refine v_iald (i := 305) (n := 87) C (Nat.le_trans hlo (by decide)) (Nat.lt_of_lt_of_le (by decide) hhi) rfl (by decide) ⟨by decide, by decide⟩ dX10_placeOf_9 ?_
      refine v_icmp_ge C rx1 (hRσ2 305 _) 76 dX10_placeOf_10 (by decide) (fun c28 => ?_) (fun c28 => ?_)
      · have h := h.1 c28
        refine v_bipush C dX10_placeOf_76 (by decide) ?_
        exact v_iret C (by decide) h dX10_placeOf_78
      · have h := h.2 c28
        refine v_iconst C dX10_placeOf_13 ?_
        refine v_istore_n (lv' := [(3, .int (iI 1)), (2, .int (iI x1)), (0, .ref (B + 304)), (1, .int (iI a1))]) C dX10_placeOf_14 rfl (by decide) rfl ?_
        refine v_iconst C dX10_placeOf_15 ?_
        refine v_istore (lv' := [(4, .int (iI 0)), (3, .int (iI 1)), (2, .int (iI x1)), (0, .ref (B + 304)), (1, .int (iI a1))]) C dX10_placeOf_16 (by decide) rfl ?_
        obtain ⟨I26, ⟨n27, hnn27⟩, hII26⟩ := h
        have key11 : ∀ (n : Nat) (x6 : Int) (x7 : Int) (σ8 : SG), I26 n x6 x7 σ8 → inR x6 → inR x7 → V p l e rm_X10_placeOf s m args below meth c D aC B lo hi 5 (MQ below (QI D aC B lo hi Q) args s 0 0 (AB B lo hi)) σ8 18 [(4, .int (iI x6)), (3, .int (iI x7)), (2, .int (iI x1)), (0, .ref (B + 304)), (1, .int (iI a1))] [] := by
          intro n
          induction n using Nat.strongRecOn with
          | ind n ih10 =>
            intro x6 x7 σ8 hn rx6 rx7
            have h := hII26 n x6 x7 σ8 hn
            refine v_R (fun hRσ8 => ?_)
            refine v_iload C 0 dX10_placeOf_18 rfl ?_
            refine v_bipush C dX10_placeOf_20 (by decide) ?_
            refine v_icmp_ge C rx6 (by decide) 64 dX10_placeOf_22 (by decide) (fun c25 => ?_) (fun c25 => ?_)
            · have h := h.1 c25
              refine v_iload_n C 1 dX10_placeOf_64 rfl rfl ?_
              refine v_if_eq C rx7 70 dX10_placeOf_65 (by decide) (fun c13 => ?_) (fun c13 => ?_)
              · have h := h.1 c13
                have k12 := h.1
                have h := h.2
                refine v_iinc (lv' := [(2, .int (iI (x1 + 1))), (4, .int (iI x6)), (3, .int (iI x7)), (0, .ref (B + 304)), (1, .int (iI a1))]) C 2 dX10_placeOf_70 rfl (by decide) rfl ?_
                refine v_goto C 2 dX10_placeOf_73 (by decide) ?_
                obtain ⟨m9, hm9, h⟩ := h
                refine v_sub [0, 3, 4] rfl ?_
                exact ih4 m9 hm9 (x1 + 1) σ8 h k12
              · have h := h.2 c13
                refine v_iload_n C 2 dX10_placeOf_68 rfl rfl ?_
                exact v_iret C rx1 h dX10_placeOf_69
            · have h := h.2 c25
              refine v_iload_n C 1 dX10_placeOf_25 rfl rfl ?_
              refine v_aload_n C 3 dX10_placeOf_26 rfl rfl ?_
              refine gf10_now C hlo hhi w877 dX10_placeOf_27 ?_
              refine v_bipush C dX10_placeOf_30 (by decide) ?_
              refine v_bipush C dX10_placeOf_32 (by decide) ?_
              refine v_iload_n C 2 dX10_placeOf_34 rfl rfl ?_
              have k14 := h.1
              have h := h.2
              refine v_imul C dX10_placeOf_35 ?_
              have k15 := h.1
              have h := h.2
              refine v_iadd C dX10_placeOf_36 ?_
              refine v_iload C 0 dX10_placeOf_37 rfl ?_
              have k16 := h.1
              have h := h.2
              refine v_iadd C dX10_placeOf_39 ?_
              have k17 := h.1
              have h := h.2
              refine v_iald (i := 305) (n := 87) C (Nat.le_trans hlo (by decide)) (Nat.lt_of_lt_of_le (by decide) hhi) rfl k16 k17 dX10_placeOf_40 ?_
              refine v_aload_n C 3 dX10_placeOf_41 rfl rfl ?_
              refine v_iload_n C 4 dX10_placeOf_42 rfl rfl ?_
              refine v_iload C 0 dX10_placeOf_43 rfl ?_
              refine v_calli (i := 304) (As := [.int (iI a1), .int (iI x6)]) (rest := [.int (iI (σ8 305 ((45 + (7 * x1)) + x6).toNat)), .int (iI x7)]) C (s_X10_of hlo hhi r1 rx6 h) w963 wy_X10_of ⟨rfl, rfl⟩ hd_X10_of ⟨Nat.le_of_ble_eq_true rfl, Nat.le_of_ble_eq_true rfl⟩ (Nat.le_trans hlo (by decide)) (Nat.lt_of_lt_of_le (by decide) hhi) rfl rfl rfl rfl (Nat.le_of_ble_eq_true rfl) dX10_placeOf_45 (fun z19 σ18 rz19 h => ?_)
              refine v_R (fun hRσ18 => ?_)
              refine v_icmp_ne C (hRσ8 305 _) rz19 55 dX10_placeOf_48 (by decide) (fun c24 => ?_) (fun c24 => ?_)
              · have h := h.1 c24
                refine v_iconst C dX10_placeOf_55 ?_
                refine v_iand C dX10_placeOf_56 ?_
                refine v_name (fun v20 ev20 => ?_)
                have h := h v20 ev20
                have rv20 : inR v20 := by rw [ev20]; exact (inR_iand _ _)
                refine v_istore_n (lv' := [(3, .int (iI v20)), (4, .int (iI x6)), (2, .int (iI x1)), (0, .ref (B + 304)), (1, .int (iI a1))]) C dX10_placeOf_57 rfl (by decide) rfl ?_
                have k21 := h.1
                have h := h.2
                refine v_iinc (lv' := [(4, .int (iI (x6 + 1))), (3, .int (iI v20)), (2, .int (iI x1)), (0, .ref (B + 304)), (1, .int (iI a1))]) C 1 dX10_placeOf_58 rfl (by decide) rfl ?_
                refine v_goto C 18 dX10_placeOf_61 (by decide) ?_
                obtain ⟨m9, hm9, h⟩ := h
                exact ih10 m9 hm9 (x6 + 1) v20 σ18 h k21 rv20
              · have h := h.2 c24
                refine v_iconst C dX10_placeOf_51 ?_
                refine v_goto C 56 dX10_placeOf_52 (by decide) ?_
                refine v_iand C dX10_placeOf_56 ?_
                refine v_name (fun v22 ev22 => ?_)
                have h := h v22 ev22
                have rv22 : inR v22 := by rw [ev22]; exact (inR_iand _ _)
                refine v_istore_n (lv' := [(3, .int (iI v22)), (4, .int (iI x6)), (2, .int (iI x1)), (0, .ref (B + 304)), (1, .int (iI a1))]) C dX10_placeOf_57 rfl (by decide) rfl ?_
                have k23 := h.1
                have h := h.2
                refine v_iinc (lv' := [(4, .int (iI (x6 + 1))), (3, .int (iI v22)), (2, .int (iI x1)), (0, .ref (B + 304)), (1, .int (iI a1))]) C 1 dX10_placeOf_58 rfl (by decide) rfl ?_
                refine v_goto C 18 dX10_placeOf_61 (by decide) ?_
                obtain ⟨m9, hm9, h⟩ := h
                exact ih10 m9 hm9 (x6 + 1) v22 σ18 h k23 rv22
        exact key11 n27 0 1 σ2 hnn27 (by decide) (by decide)
  exact key5 n30 0 σ hnn30 (by decide)
-- SplitTowersModel.join(II)I
def wp_X10_join (σ : SG) (a1 : Int) (a2 : Int) (Q : Int → SG → Prop) : Prop :=
  wp_X10_noBranch σ a1 (fun (z2 : Int) (σ1 : SG) => ((¬ z2 = 0 → Q (-1) σ1) ∧ (z2 = 0 → wp_X10_noBranch σ1 a2 (fun (z4 : Int) (σ3 : SG) => ((z4 = 0 → ((¬ a1 = a2 → wp_X10_record σ3 (fun (σ5 : SG) => wp_X10_loadsBranch σ5 a1 2 (fun (σ6 : SG) => wp_X10_loadsBranch σ6 a2 3 (fun (σ7 : SG) => wp_X10_multiplies σ7 2 3 2 (fun (σ8 : SG) => Jn1 (fun (x9 : Int) (σ10 : SG) => wp_X10_goes σ10 x9 (fun (σ12 : SG) => Jn1 (fun (x13 : Int) (σ14 : SG) => wp_X10_lays σ14 2 x13 (fun (σ16 : SG) => wp_X10_sorts σ16 (fun (σ17 : SG) => wp_X10_placeOf σ17 2 (fun (z19 : Int) (σ18 : SG) => Q z19 σ18)))) (fun J15 => ((a1 ≤ a2 → J15 a1 σ12) ∧ (¬ a1 ≤ a2 → J15 a2 σ12))))) (fun J11 => ((a1 ≤ a2 → J11 a2 σ8) ∧ (¬ a1 ≤ a2 → J11 a1 σ8)))))))) ∧ (a1 = a2 → Q (-2) σ3))) ∧ (¬ z4 = 0 → Q (-1) σ3))))))
def rm_X10_join : Room := { frames := 4, cells := 0, slots := 0, locals := 91 }
theorem wy_X10_join : Cond.instanceMethod yX10_join ∈ WS ∧ Cond.selects "SplitTowersModel" yX10_join yX10_join ∈ WS ∧ Cond.initialized "SplitTowersModel" ∈ WS ∧ Cond.code yX10_join prog_12_method_50_code 3 (some .int) ∈ WS := ⟨w1111, w1112, w79, w1113⟩
theorem hd_X10_join : yX10_join.cls = "SplitTowersModel" ∧ yX10_join.cls ≠ "java/lang/invoke/MethodHandle" ∧ yX10_join.cls ≠ "java/lang/invoke/VarHandle" ∧ (parseMethodDescriptor yX10_join.desc).map (fun d => d.parameters.length) = some 2 := by decide +kernel
set_option maxHeartbeats 4000000 in
set_option maxRecDepth 100000 in
theorem s_X10_join {l : Launch} {D : va_G} {aC : Nat → ClassId} {B lo hi : Nat} {σ : SG} {a1 : Int} {a2 : Int} {Q : Int → SG → Prop} (hlo : lo ≤ 304) (hhi : 316 ≤ hi) (r1 : inR a1) (r2 : inR a2) (h : wp_X10_join σ a1 a2 Q) : Met l yX10_join (Cond.code yX10_join prog_12_method_50_code 3 (some .int) :: WS) rm_X10_join (va_Pc [.ref (B + 304), .int (iI a1), .int (iI a2)] (WP D aC B lo hi σ)) (QI D aC B lo hi Q) 0 0 (AB B lo hi) := by
  refine met_of (by decide +kernel) (by decide +kernel : yX10_join.cls = "SplitTowersModel") (Nat.le_of_ble_eq_true rfl) ?_
  intro p e s m args below meth c C
  unfold wp_X10_join at h
  refine v_R (fun hR0 => ?_)
  show V p l e rm_X10_join s m args below meth c D aC B lo hi 3 (MQ below (QI D aC B lo hi Q) args s 0 0 (AB B lo hi)) σ 0 [(0, .ref (B + 304)), (1, .int (iI a1)), (2, .int (iI a2))] []
  refine v_aload_n C 0 dX10_join_0 rfl rfl ?_
  refine v_iload_n C 1 dX10_join_1 rfl rfl ?_
  refine v_calli (i := 304) (As := [.int (iI a1)]) (rest := []) C (s_X10_noBranch hlo hhi r1 h) w1034 wy_X10_noBranch ⟨rfl, rfl⟩ hd_X10_noBranch ⟨Nat.le_of_ble_eq_true rfl, Nat.le_of_ble_eq_true rfl⟩ (Nat.le_trans hlo (by decide)) (Nat.lt_of_lt_of_le (by decide) hhi) rfl rfl rfl rfl (Nat.le_of_ble_eq_true rfl) dX10_join_2 (fun z2 σ1 rz2 h => ?_)
  refine v_R (fun hRσ1 => ?_)
  refine v_if_ne C rz2 16 dX10_join_5 (by decide) (fun c24 => ?_) (fun c24 => ?_)
  · have h := h.1 c24
    refine v_iconst C dX10_join_16 ?_
    exact v_iret C (by decide) h dX10_join_17
  · have h := h.2 c24
    refine v_aload_n C 0 dX10_join_8 rfl rfl ?_
    refine v_iload_n C 2 dX10_join_9 rfl rfl ?_
    refine v_calli (i := 304) (As := [.int (iI a2)]) (rest := []) C (s_X10_noBranch hlo hhi r2 h) w1034 wy_X10_noBranch ⟨rfl, rfl⟩ hd_X10_noBranch ⟨Nat.le_of_ble_eq_true rfl, Nat.le_of_ble_eq_true rfl⟩ (Nat.le_trans hlo (by decide)) (Nat.lt_of_lt_of_le (by decide) hhi) rfl rfl rfl rfl (Nat.le_of_ble_eq_true rfl) dX10_join_10 (fun z4 σ3 rz4 h => ?_)
    refine v_R (fun hRσ3 => ?_)
    refine v_if_eq C rz4 18 dX10_join_13 (by decide) (fun c23 => ?_) (fun c23 => ?_)
    · have h := h.1 c23
      refine v_iload_n C 1 dX10_join_18 rfl rfl ?_
      refine v_iload_n C 2 dX10_join_19 rfl rfl ?_
      refine v_icmp_ne C r1 r2 26 dX10_join_20 (by decide) (fun c22 => ?_) (fun c22 => ?_)
      · have h := h.1 c22
        refine v_aload_n C 0 dX10_join_26 rfl rfl ?_
        refine v_callv (i := 304) (As := []) (rest := []) C (s_X10_record hlo hhi h) w928 wy_X10_record ⟨rfl, rfl⟩ hd_X10_record ⟨Nat.le_of_ble_eq_true rfl, Nat.le_of_ble_eq_true rfl⟩ (Nat.le_trans hlo (by decide)) (Nat.lt_of_lt_of_le (by decide) hhi) rfl rfl rfl rfl (Nat.le_of_ble_eq_true rfl) dX10_join_27 (fun σ5 h => ?_)
        refine v_R (fun hRσ5 => ?_)
        refine v_aload_n C 0 dX10_join_30 rfl rfl ?_
        refine v_iload_n C 1 dX10_join_31 rfl rfl ?_
        refine v_iconst C dX10_join_32 ?_
        refine v_callv (i := 304) (As := [.int (iI a1), .int (iI 2)]) (rest := []) C (s_X10_loadsBranch hlo hhi r1 (by decide) h) w1038 wy_X10_loadsBranch ⟨rfl, rfl⟩ hd_X10_loadsBranch ⟨Nat.le_of_ble_eq_true rfl, Nat.le_of_ble_eq_true rfl⟩ (Nat.le_trans hlo (by decide)) (Nat.lt_of_lt_of_le (by decide) hhi) rfl rfl rfl rfl (Nat.le_of_ble_eq_true rfl) dX10_join_33 (fun σ6 h => ?_)
        refine v_R (fun hRσ6 => ?_)
        refine v_aload_n C 0 dX10_join_36 rfl rfl ?_
        refine v_iload_n C 2 dX10_join_37 rfl rfl ?_
        refine v_iconst C dX10_join_38 ?_
        refine v_callv (i := 304) (As := [.int (iI a2), .int (iI 3)]) (rest := []) C (s_X10_loadsBranch hlo hhi r2 (by decide) h) w1038 wy_X10_loadsBranch ⟨rfl, rfl⟩ hd_X10_loadsBranch ⟨Nat.le_of_ble_eq_true rfl, Nat.le_of_ble_eq_true rfl⟩ (Nat.le_trans hlo (by decide)) (Nat.lt_of_lt_of_le (by decide) hhi) rfl rfl rfl rfl (Nat.le_of_ble_eq_true rfl) dX10_join_39 (fun σ7 h => ?_)
        refine v_R (fun hRσ7 => ?_)
        refine v_aload_n C 0 dX10_join_42 rfl rfl ?_
        refine v_iconst C dX10_join_43 ?_
        refine v_iconst C dX10_join_44 ?_
        refine v_iconst C dX10_join_45 ?_
        refine v_callv (i := 304) (As := [.int (iI 2), .int (iI 3), .int (iI 2)]) (rest := []) C (s_X10_multiplies hlo hhi (by decide) (by decide) (by decide) h) w1054 wy_X10_multiplies ⟨rfl, rfl⟩ hd_X10_multiplies ⟨Nat.le_of_ble_eq_true rfl, Nat.le_of_ble_eq_true rfl⟩ (Nat.le_trans hlo (by decide)) (Nat.lt_of_lt_of_le (by decide) hhi) rfl rfl rfl rfl (Nat.le_of_ble_eq_true rfl) dX10_join_46 (fun σ8 h => ?_)
        refine v_R (fun hRσ8 => ?_)
        refine v_aload_n C 0 dX10_join_49 rfl rfl ?_
        refine v_iload_n C 1 dX10_join_50 rfl rfl ?_
        refine v_iload_n C 2 dX10_join_51 rfl rfl ?_
        obtain ⟨J11, hJ11, h⟩ := h
        have kJ11 : ∀ (x9 : Int) (σ10 : SG), J11 x9 σ10 → inR x9 → V p l e rm_X10_join s m args below meth c D aC B lo hi 3 (MQ below (QI D aC B lo hi Q) args s 0 0 (AB B lo hi)) σ10 60 [(0, .ref (B + 304)), (1, .int (iI a1)), (2, .int (iI a2))] [.int (iI x9), .ref (B + 304)] := by
          intro x9 σ10 hj rx9
          have h := hJ11 x9 σ10 hj
          refine v_R (fun hRσ10 => ?_)
          refine v_callv (i := 304) (As := [.int (iI x9)]) (rest := []) C (s_X10_goes hlo hhi rx9 h) w1114 wy_X10_goes ⟨rfl, rfl⟩ hd_X10_goes ⟨Nat.le_of_ble_eq_true rfl, Nat.le_of_ble_eq_true rfl⟩ (Nat.le_trans hlo (by decide)) (Nat.lt_of_lt_of_le (by decide) hhi) rfl rfl rfl rfl (Nat.le_of_ble_eq_true rfl) dX10_join_60 (fun σ12 h => ?_)
          refine v_R (fun hRσ12 => ?_)
          refine v_aload_n C 0 dX10_join_63 rfl rfl ?_
          refine v_iconst C dX10_join_64 ?_
          refine v_iload_n C 1 dX10_join_65 rfl rfl ?_
          refine v_iload_n C 2 dX10_join_66 rfl rfl ?_
          obtain ⟨J15, hJ15, h⟩ := h
          have kJ15 : ∀ (x13 : Int) (σ14 : SG), J15 x13 σ14 → inR x13 → V p l e rm_X10_join s m args below meth c D aC B lo hi 3 (MQ below (QI D aC B lo hi Q) args s 0 0 (AB B lo hi)) σ14 75 [(0, .ref (B + 304))] [.int (iI x13), .int (iI 2), .ref (B + 304)] := by
            intro x13 σ14 hj rx13
            have h := hJ15 x13 σ14 hj
            refine v_R (fun hRσ14 => ?_)
            refine v_callv (i := 304) (As := [.int (iI 2), .int (iI x13)]) (rest := []) C (s_X10_lays hlo hhi (by decide) rx13 h) w1007 wy_X10_lays ⟨rfl, rfl⟩ hd_X10_lays ⟨Nat.le_of_ble_eq_true rfl, Nat.le_of_ble_eq_true rfl⟩ (Nat.le_trans hlo (by decide)) (Nat.lt_of_lt_of_le (by decide) hhi) rfl rfl rfl rfl (Nat.le_of_ble_eq_true rfl) dX10_join_75 (fun σ16 h => ?_)
            refine v_R (fun hRσ16 => ?_)
            refine v_aload_n C 0 dX10_join_78 rfl rfl ?_
            refine v_callv (i := 304) (As := []) (rest := []) C (s_X10_sorts hlo hhi h) w1078 wy_X10_sorts ⟨rfl, rfl⟩ hd_X10_sorts ⟨Nat.le_of_ble_eq_true rfl, Nat.le_of_ble_eq_true rfl⟩ (Nat.le_trans hlo (by decide)) (Nat.lt_of_lt_of_le (by decide) hhi) rfl rfl rfl rfl (Nat.le_of_ble_eq_true rfl) dX10_join_79 (fun σ17 h => ?_)
            refine v_R (fun hRσ17 => ?_)
            refine v_aload_n C 0 dX10_join_82 rfl rfl ?_
            refine v_iconst C dX10_join_83 ?_
            refine v_calli (i := 304) (As := [.int (iI 2)]) (rest := []) C (s_X10_placeOf hlo hhi (by decide) h) w1118 wy_X10_placeOf ⟨rfl, rfl⟩ hd_X10_placeOf ⟨Nat.le_of_ble_eq_true rfl, Nat.le_of_ble_eq_true rfl⟩ (Nat.le_trans hlo (by decide)) (Nat.lt_of_lt_of_le (by decide) hhi) rfl rfl rfl rfl (Nat.le_of_ble_eq_true rfl) dX10_join_84 (fun z19 σ18 rz19 h => ?_)
            refine v_R (fun hRσ18 => ?_)
            exact v_iret C rz19 h dX10_join_87
          refine v_icmp_le C r1 r2 74 dX10_join_67 (by decide) (fun c20 => ?_) (fun c20 => ?_)
          · have h := h.1 c20
            refine v_iload_n C 1 dX10_join_74 rfl rfl ?_
            refine v_sub [0] rfl ?_
            exact kJ15 a1 σ12 h r1
          · have h := h.2 c20
            refine v_iload_n C 2 dX10_join_70 rfl rfl ?_
            refine v_goto C 75 dX10_join_71 (by decide) ?_
            refine v_sub [0] rfl ?_
            exact kJ15 a2 σ12 h r2
        refine v_icmp_le C r1 r2 59 dX10_join_52 (by decide) (fun c21 => ?_) (fun c21 => ?_)
        · have h := h.1 c21
          refine v_iload_n C 2 dX10_join_59 rfl rfl ?_
          exact kJ11 a2 σ8 h r2
        · have h := h.2 c21
          refine v_iload_n C 1 dX10_join_55 rfl rfl ?_
          refine v_goto C 60 dX10_join_56 (by decide) ?_
          exact kJ11 a1 σ8 h r1
      · have h := h.2 c22
        refine v_bipush C dX10_join_23 (by decide) ?_
        exact v_iret C (by decide) h dX10_join_25
    · have h := h.2 c23
      refine v_iconst C dX10_join_16 ?_
      exact v_iret C (by decide) h dX10_join_17
-- SplitTowersModel.noRegister(I)Z
def wp_X10_noRegister (σ : SG) (a1 : Int) (Q : Int → SG → Prop) : Prop :=
  wp_X10_in σ a1 0 5 (fun (z2 : Int) (σ1 : SG) => ((¬ z2 = 0 → Q 0 σ1) ∧ (z2 = 0 → Q 1 σ1)))
def rm_X10_noRegister : Room := { frames := 1, cells := 0, slots := 0, locals := 22 }
theorem wy_X10_noRegister : Cond.static yX10_noRegister ∈ WS ∧ Cond.initialized "SplitTowersModel" ∈ WS ∧ Cond.code yX10_noRegister prog_12_method_4_code 1 (some .boolean) ∈ WS := ⟨w1016, w79, w1017⟩
theorem hd_X10_noRegister : yX10_noRegister.cls ≠ "java/lang/invoke/MethodHandle" ∧ yX10_noRegister.cls ≠ "java/lang/invoke/VarHandle" ∧ (parseMethodDescriptor yX10_noRegister.desc).map (fun d => d.parameters.length) = some 1 := by decide +kernel
set_option maxHeartbeats 4000000 in
set_option maxRecDepth 100000 in
theorem s_X10_noRegister {l : Launch} {D : va_G} {aC : Nat → ClassId} {B lo hi : Nat} {σ : SG} {a1 : Int} {Q : Int → SG → Prop} (hlo : lo ≤ 304) (hhi : 316 ≤ hi) (r1 : inR a1) (h : wp_X10_noRegister σ a1 Q) : Met l yX10_noRegister (Cond.code yX10_noRegister prog_12_method_4_code 1 (some .boolean) :: WS) rm_X10_noRegister (va_Pc [.int (iI a1)] (WP D aC B lo hi σ)) (QI D aC B lo hi Q) 0 0 (AB B lo hi) := by
  refine met_of (by decide +kernel) (by decide +kernel : yX10_noRegister.cls = "SplitTowersModel") (Nat.le_of_ble_eq_true rfl) ?_
  intro p e s m args below meth c C
  unfold wp_X10_noRegister at h
  refine v_R (fun hR0 => ?_)
  show V p l e rm_X10_noRegister s m args below meth c D aC B lo hi 1 (MQ below (QI D aC B lo hi Q) args s 0 0 (AB B lo hi)) σ 0 [(0, .int (iI a1))] []
  refine v_iload_n C 0 dX10_noRegister_0 rfl rfl ?_
  refine v_iconst C dX10_noRegister_1 ?_
  refine v_iconst C dX10_noRegister_2 ?_
  refine v_callsi (As := [.int (iI a1), .int (iI 0), .int (iI 5)]) (rest := []) C (s_X10_in hlo hhi r1 (by decide) (by decide) h) w944 wy_X10_in ⟨rfl, rfl⟩ hd_X10_in ⟨Nat.le_of_ble_eq_true rfl, Nat.le_of_ble_eq_true rfl⟩ rfl rfl (Nat.le_of_ble_eq_true rfl) dX10_noRegister_3 (fun z2 σ1 rz2 h => ?_)
  refine v_R (fun hRσ1 => ?_)
  refine v_if_ne C rz2 13 dX10_noRegister_6 (by decide) (fun c3 => ?_) (fun c3 => ?_)
  · have h := h.1 c3
    refine v_iconst C dX10_noRegister_13 ?_
    exact v_zret C (by decide) h dX10_noRegister_14
  · have h := h.2 c3
    refine v_iconst C dX10_noRegister_9 ?_
    refine v_goto C 14 dX10_noRegister_10 (by decide) ?_
    exact v_zret C (by decide) h dX10_noRegister_14
-- SplitTowersModel.joinAlike(I)I
def wp_X10_joinAlike (σ : SG) (a1 : Int) (Q : Int → SG → Prop) : Prop :=
  wp_X10_noRegister σ a1 (fun (z2 : Int) (σ1 : SG) => ((z2 = 0 → wp_X10_loadsNumber σ1 a1 2 (fun (σ3 : SG) => wp_X10_constant σ3 8 1 (fun (σ4 : SG) => wp_X10_constant σ4 9 1 (fun (σ5 : SG) => (∀ v6 : Int, v6 = (σ5 305 44) → Lp2 (fun (rec10 : Int → Int → SG → Prop) (x7 : Int) (x8 : Int) (σ9 : SG) => ((v6 ≤ x7 → ((2 ≤ x8 → wp_X10_record σ9 (fun (σ13 : SG) => (∀ σ14 : SG, σ14 = ug σ13 305 44 0 → Jn0 (fun  (σ15 : SG) => Jn0 (fun  (σ17 : SG) => wp_X10_sorts σ17 (fun (σ19 : SG) => Q (σ19 305 44) σ19)) (fun J18 => ((v6 ≤ x8 → J18 σ15) ∧ (¬ v6 ≤ x8 → wp_X10_comes σ15 9 (fun (σ20 : SG) => J18 σ20))))) (fun J16 => ((x8 ≤ 0 → J16 σ14) ∧ (¬ x8 ≤ 0 → wp_X10_comes σ14 8 (fun (σ22 : SG) => J16 σ22))))))) ∧ (¬ 2 ≤ x8 → (inR (v6 - x8) ∧ ((2 ≤ v6 - x8 → wp_X10_record σ9 (fun (σ25 : SG) => (∀ σ26 : SG, σ26 = ug σ25 305 44 0 → Jn0 (fun  (σ27 : SG) => Jn0 (fun  (σ29 : SG) => wp_X10_sorts σ29 (fun (σ31 : SG) => Q (σ31 305 44) σ31)) (fun J30 => ((v6 ≤ x8 → J30 σ27) ∧ (¬ v6 ≤ x8 → wp_X10_comes σ27 9 (fun (σ32 : SG) => J30 σ32))))) (fun J28 => ((x8 ≤ 0 → J28 σ26) ∧ (¬ x8 ≤ 0 → wp_X10_comes σ26 8 (fun (σ34 : SG) => J28 σ34))))))) ∧ (¬ 2 ≤ v6 - x8 → Q (-5) σ9)))))) ∧ (¬ v6 ≤ x7 → wp_X10_loadsBranch σ9 x7 1 (fun (σ38 : SG) => wp_X10_kindIn σ38 2 (fun (z40 : Int) (σ39 : SG) => ((¬ z40 = 2 → Jn1 (fun (x41 : Int) (σ42 : SG) => (inR (x8 + x41) ∧ (∀ v45 : Int, v45 = x8 + x41 → Jn1 (fun (x46 : Int) (σ47 : SG) => Jn1 (fun (x49 : Int) (σ50 : SG) => wp_X10_multiplies σ50 1 x46 x49 (fun (σ52 : SG) => (inR (x7 + 1) ∧ rec10 (x7 + 1) v45 σ52))) (fun J51 => ((¬ z40 = 0 → J51 9 σ47) ∧ (z40 = 0 → J51 8 σ47)))) (fun J48 => ((¬ z40 = 0 → J48 9 σ42) ∧ (z40 = 0 → J48 8 σ42)))))) (fun J43 => ((¬ z40 = 0 → J43 0 σ39) ∧ (z40 = 0 → J43 1 σ39)))) ∧ (z40 = 2 → Q (-4) σ39))))))) 0 0 σ5))))) ∧ (¬ z2 = 0 → Q (-1) σ1)))
def rm_X10_joinAlike : Room := { frames := 5, cells := 0, slots := 0, locals := 118 }
theorem wy_X10_joinAlike : Cond.instanceMethod yX10_joinAlike ∈ WS ∧ Cond.selects "SplitTowersModel" yX10_joinAlike yX10_joinAlike ∈ WS ∧ Cond.initialized "SplitTowersModel" ∈ WS ∧ Cond.code yX10_joinAlike prog_12_method_51_code 6 (some .int) ∈ WS := ⟨w1123, w1124, w79, w1125⟩
theorem hd_X10_joinAlike : yX10_joinAlike.cls = "SplitTowersModel" ∧ yX10_joinAlike.cls ≠ "java/lang/invoke/MethodHandle" ∧ yX10_joinAlike.cls ≠ "java/lang/invoke/VarHandle" ∧ (parseMethodDescriptor yX10_joinAlike.desc).map (fun d => d.parameters.length) = some 1 := by decide +kernel
set_option maxHeartbeats 4000000 in
set_option maxRecDepth 100000 in
theorem s_X10_joinAlike {l : Launch} {D : va_G} {aC : Nat → ClassId} {B lo hi : Nat} {σ : SG} {a1 : Int} {Q : Int → SG → Prop} (hlo : lo ≤ 304) (hhi : 316 ≤ hi) (r1 : inR a1) (h : wp_X10_joinAlike σ a1 Q) : Met l yX10_joinAlike (Cond.code yX10_joinAlike prog_12_method_51_code 6 (some .int) :: WS) rm_X10_joinAlike (va_Pc [.ref (B + 304), .int (iI a1)] (WP D aC B lo hi σ)) (QI D aC B lo hi Q) 0 0 (AB B lo hi) := by
  refine met_of (by decide +kernel) (by decide +kernel : yX10_joinAlike.cls = "SplitTowersModel") (Nat.le_of_ble_eq_true rfl) ?_
  intro p e s m args below meth c C
  unfold wp_X10_joinAlike at h
  refine v_R (fun hR0 => ?_)
  show V p l e rm_X10_joinAlike s m args below meth c D aC B lo hi 6 (MQ below (QI D aC B lo hi Q) args s 0 0 (AB B lo hi)) σ 0 [(0, .ref (B + 304)), (1, .int (iI a1))] []
  refine v_iload_n C 1 dX10_joinAlike_0 rfl rfl ?_
  refine v_callsi (As := [.int (iI a1)]) (rest := []) C (s_X10_noRegister hlo hhi r1 h) w1015 wy_X10_noRegister ⟨rfl, rfl⟩ hd_X10_noRegister ⟨Nat.le_of_ble_eq_true rfl, Nat.le_of_ble_eq_true rfl⟩ rfl rfl (Nat.le_of_ble_eq_true rfl) dX10_joinAlike_1 (fun z2 σ1 rz2 h => ?_)
  refine v_R (fun hRσ1 => ?_)
  refine v_if_eq C rz2 9 dX10_joinAlike_4 (by decide) (fun c61 => ?_) (fun c61 => ?_)
  · have h := h.1 c61
    refine v_aload_n C 0 dX10_joinAlike_9 rfl rfl ?_
    refine v_iload_n C 1 dX10_joinAlike_10 rfl rfl ?_
    refine v_iconst C dX10_joinAlike_11 ?_
    refine v_callv (i := 304) (As := [.int (iI a1), .int (iI 2)]) (rest := []) C (s_X10_loadsNumber hlo hhi r1 (by decide) h) w991 wy_X10_loadsNumber ⟨rfl, rfl⟩ hd_X10_loadsNumber ⟨Nat.le_of_ble_eq_true rfl, Nat.le_of_ble_eq_true rfl⟩ (Nat.le_trans hlo (by decide)) (Nat.lt_of_lt_of_le (by decide) hhi) rfl rfl rfl rfl (Nat.le_of_ble_eq_true rfl) dX10_joinAlike_12 (fun σ3 h => ?_)
    refine v_R (fun hRσ3 => ?_)
    refine v_aload_n C 0 dX10_joinAlike_15 rfl rfl ?_
    refine v_bipush C dX10_joinAlike_16 (by decide) ?_
    refine v_iconst C dX10_joinAlike_18 ?_
    refine v_callv (i := 304) (As := [.int (iI 8), .int (iI 1)]) (rest := []) C (s_X10_constant hlo hhi (by decide) (by decide) h) w1050 wy_X10_constant ⟨rfl, rfl⟩ hd_X10_constant ⟨Nat.le_of_ble_eq_true rfl, Nat.le_of_ble_eq_true rfl⟩ (Nat.le_trans hlo (by decide)) (Nat.lt_of_lt_of_le (by decide) hhi) rfl rfl rfl rfl (Nat.le_of_ble_eq_true rfl) dX10_joinAlike_19 (fun σ4 h => ?_)
    refine v_R (fun hRσ4 => ?_)
    refine v_aload_n C 0 dX10_joinAlike_22 rfl rfl ?_
    refine v_bipush C dX10_joinAlike_23 (by decide) ?_
    refine v_iconst C dX10_joinAlike_25 ?_
    refine v_callv (i := 304) (As := [.int (iI 9), .int (iI 1)]) (rest := []) C (s_X10_constant hlo hhi (by decide) (by decide) h) w1050 wy_X10_constant ⟨rfl, rfl⟩ hd_X10_constant ⟨Nat.le_of_ble_eq_true rfl, Nat.le_of_ble_eq_true rfl⟩ (Nat.le_trans hlo (by decide)) (Nat.lt_of_lt_of_le (by decide) hhi) rfl rfl rfl rfl (Nat.le_of_ble_eq_true rfl) dX10_joinAlike_26 (fun σ5 h => ?_)
    refine v_R (fun hRσ5 => ?_)
    refine v_aload_n C 0 dX10_joinAlike_29 rfl rfl ?_
    refine gf10_now C hlo hhi w877 dX10_joinAlike_30 ?_
    refine v_bipush C dX10_joinAlike_33 (by decide) ?_
    refine v_iald (i := 305) (n := 87) C (Nat.le_trans hlo (by decide)) (Nat.lt_of_lt_of_le (by decide) hhi) rfl (by decide) ⟨by decide, by decide⟩ dX10_joinAlike_35 ?_
    refine v_name (fun v6 ev6 => ?_)
    have h := h v6 ev6
    have rv6 : inR v6 := by rw [ev6]; exact (hRσ5 305 _)
    refine v_istore_n (lv' := [(2, .int (iI v6)), (0, .ref (B + 304)), (1, .int (iI a1))]) C dX10_joinAlike_36 rfl (by decide) rfl ?_
    refine v_iconst C dX10_joinAlike_37 ?_
    refine v_istore_n (lv' := [(3, .int (iI 0)), (2, .int (iI v6)), (0, .ref (B + 304)), (1, .int (iI a1))]) C dX10_joinAlike_38 rfl (by decide) rfl ?_
    refine v_iconst C dX10_joinAlike_39 ?_
    refine v_istore (lv' := [(4, .int (iI 0)), (3, .int (iI 0)), (2, .int (iI v6)), (0, .ref (B + 304)), (1, .int (iI a1))]) C dX10_joinAlike_40 (by decide) rfl ?_
    obtain ⟨I59, ⟨n60, hnn60⟩, hII59⟩ := h
    have key12 : ∀ (n : Nat) (x7 : Int) (x8 : Int) (σ9 : SG), I59 n x7 x8 σ9 → inR x7 → inR x8 → V p l e rm_X10_joinAlike s m args below meth c D aC B lo hi 6 (MQ below (QI D aC B lo hi Q) args s 0 0 (AB B lo hi)) σ9 42 [(4, .int (iI x7)), (3, .int (iI x8)), (2, .int (iI v6)), (0, .ref (B + 304))] [] := by
      intro n
      induction n using Nat.strongRecOn with
      | ind n ih11 =>
        intro x7 x8 σ9 hn rx7 rx8
        have h := hII59 n x7 x8 σ9 hn
        refine v_R (fun hRσ9 => ?_)
        refine v_iload C 0 dX10_joinAlike_42 rfl ?_
        refine v_iload_n C 2 dX10_joinAlike_44 rfl rfl ?_
        refine v_icmp_ge C rx7 rv6 119 dX10_joinAlike_45 (by decide) (fun c58 => ?_) (fun c58 => ?_)
        · have h := h.1 c58
          refine v_iload_n C 1 dX10_joinAlike_119 rfl rfl ?_
          refine v_iconst C dX10_joinAlike_120 ?_
          refine v_icmp_ge C rx8 (by decide) 134 dX10_joinAlike_121 (by decide) (fun c37 => ?_) (fun c37 => ?_)
          · have h := h.1 c37
            refine v_aload_n C 3 dX10_joinAlike_134 rfl rfl ?_
            refine v_callv (i := 304) (As := []) (rest := []) C (s_X10_record hlo hhi h) w928 wy_X10_record ⟨rfl, rfl⟩ hd_X10_record ⟨Nat.le_of_ble_eq_true rfl, Nat.le_of_ble_eq_true rfl⟩ (Nat.le_trans hlo (by decide)) (Nat.lt_of_lt_of_le (by decide) hhi) rfl rfl rfl rfl (Nat.le_of_ble_eq_true rfl) dX10_joinAlike_135 (fun σ13 h => ?_)
            refine v_R (fun hRσ13 => ?_)
            refine v_aload_n C 3 dX10_joinAlike_138 rfl rfl ?_
            refine gf10_now C hlo hhi w877 dX10_joinAlike_139 ?_
            refine v_bipush C dX10_joinAlike_142 (by decide) ?_
            refine v_iconst C dX10_joinAlike_144 ?_
            refine v_iast (i := 305) (n := 87) C (Nat.le_trans hlo (by decide)) (Nat.lt_of_lt_of_le (by decide) hhi) (fun _ => rfl) (by decide) ⟨by decide, by decide⟩ (by decide) dX10_joinAlike_145 ?_
            refine v_nameS (fun σ14 eσ14 => ?_)
            have h := h σ14 eσ14
            refine v_R (fun hRσ14 => ?_)
            refine v_iload_n C 1 dX10_joinAlike_146 rfl rfl ?_
            obtain ⟨J16, hJ16, h⟩ := h
            have kJ16 : ∀  (σ15 : SG), J16 σ15 → V p l e rm_X10_joinAlike s m args below meth c D aC B lo hi 6 (MQ below (QI D aC B lo hi Q) args s 0 0 (AB B lo hi)) σ15 156 [(3, .int (iI x8)), (2, .int (iI v6)), (0, .ref (B + 304))] [] := by
              intro σ15 hj 
              have h := hJ16 σ15 hj
              refine v_R (fun hRσ15 => ?_)
              refine v_iload_n C 1 dX10_joinAlike_156 rfl rfl ?_
              refine v_iload_n C 0 dX10_joinAlike_157 rfl rfl ?_
              obtain ⟨J18, hJ18, h⟩ := h
              have kJ18 : ∀  (σ17 : SG), J18 σ17 → V p l e rm_X10_joinAlike s m args below meth c D aC B lo hi 6 (MQ below (QI D aC B lo hi Q) args s 0 0 (AB B lo hi)) σ17 167 [(0, .ref (B + 304))] [] := by
                intro σ17 hj 
                have h := hJ18 σ17 hj
                refine v_R (fun hRσ17 => ?_)
                refine v_aload_n C 0 dX10_joinAlike_167 rfl rfl ?_
                refine v_callv (i := 304) (As := []) (rest := []) C (s_X10_sorts hlo hhi h) w1078 wy_X10_sorts ⟨rfl, rfl⟩ hd_X10_sorts ⟨Nat.le_of_ble_eq_true rfl, Nat.le_of_ble_eq_true rfl⟩ (Nat.le_trans hlo (by decide)) (Nat.lt_of_lt_of_le (by decide) hhi) rfl rfl rfl rfl (Nat.le_of_ble_eq_true rfl) dX10_joinAlike_168 (fun σ19 h => ?_)
                refine v_R (fun hRσ19 => ?_)
                refine v_aload_n C 0 dX10_joinAlike_171 rfl rfl ?_
                refine gf10_now C hlo hhi w877 dX10_joinAlike_172 ?_
                refine v_bipush C dX10_joinAlike_175 (by decide) ?_
                refine v_iald (i := 305) (n := 87) C (Nat.le_trans hlo (by decide)) (Nat.lt_of_lt_of_le (by decide) hhi) rfl (by decide) ⟨by decide, by decide⟩ dX10_joinAlike_177 ?_
                exact v_iret C (hRσ19 305 _) h dX10_joinAlike_178
              refine v_icmp_le C rv6 rx8 167 dX10_joinAlike_158 (by decide) (fun c21 => ?_) (fun c21 => ?_)
              · have h := h.1 c21
                refine v_sub [2] rfl ?_
                exact kJ18 σ15 h 
              · have h := h.2 c21
                refine v_aload_n C 2 dX10_joinAlike_161 rfl rfl ?_
                refine v_bipush C dX10_joinAlike_162 (by decide) ?_
                refine v_callv (i := 304) (As := [.int (iI 9)]) (rest := []) C (s_X10_comes hlo hhi (by decide) h) w1003 wy_X10_comes ⟨rfl, rfl⟩ hd_X10_comes ⟨Nat.le_of_ble_eq_true rfl, Nat.le_of_ble_eq_true rfl⟩ (Nat.le_trans hlo (by decide)) (Nat.lt_of_lt_of_le (by decide) hhi) rfl rfl rfl rfl (Nat.le_of_ble_eq_true rfl) dX10_joinAlike_164 (fun σ20 h => ?_)
                refine v_R (fun hRσ20 => ?_)
                refine v_sub [2] rfl ?_
                exact kJ18 σ20 h 
            refine v_if_le C rx8 156 dX10_joinAlike_147 (by decide) (fun c23 => ?_) (fun c23 => ?_)
            · have h := h.1 c23
              refine v_sub [1, 2, 3] rfl ?_
              exact kJ16 σ14 h 
            · have h := h.2 c23
              refine v_aload_n C 3 dX10_joinAlike_150 rfl rfl ?_
              refine v_bipush C dX10_joinAlike_151 (by decide) ?_
              refine v_callv (i := 304) (As := [.int (iI 8)]) (rest := []) C (s_X10_comes hlo hhi (by decide) h) w1003 wy_X10_comes ⟨rfl, rfl⟩ hd_X10_comes ⟨Nat.le_of_ble_eq_true rfl, Nat.le_of_ble_eq_true rfl⟩ (Nat.le_trans hlo (by decide)) (Nat.lt_of_lt_of_le (by decide) hhi) rfl rfl rfl rfl (Nat.le_of_ble_eq_true rfl) dX10_joinAlike_153 (fun σ22 h => ?_)
              refine v_R (fun hRσ22 => ?_)
              refine v_sub [1, 2, 3] rfl ?_
              exact kJ16 σ22 h 
          · have h := h.2 c37
            refine v_iload_n C 2 dX10_joinAlike_124 rfl rfl ?_
            refine v_iload_n C 1 dX10_joinAlike_125 rfl rfl ?_
            have k24 := h.1
            have h := h.2
            refine v_isub C dX10_joinAlike_126 ?_
            refine v_iconst C dX10_joinAlike_127 ?_
            refine v_icmp_ge C k24 (by decide) 134 dX10_joinAlike_128 (by decide) (fun c36 => ?_) (fun c36 => ?_)
            · have h := h.1 c36
              refine v_aload_n C 3 dX10_joinAlike_134 rfl rfl ?_
              refine v_callv (i := 304) (As := []) (rest := []) C (s_X10_record hlo hhi h) w928 wy_X10_record ⟨rfl, rfl⟩ hd_X10_record ⟨Nat.le_of_ble_eq_true rfl, Nat.le_of_ble_eq_true rfl⟩ (Nat.le_trans hlo (by decide)) (Nat.lt_of_lt_of_le (by decide) hhi) rfl rfl rfl rfl (Nat.le_of_ble_eq_true rfl) dX10_joinAlike_135 (fun σ25 h => ?_)
              refine v_R (fun hRσ25 => ?_)
              refine v_aload_n C 3 dX10_joinAlike_138 rfl rfl ?_
              refine gf10_now C hlo hhi w877 dX10_joinAlike_139 ?_
              refine v_bipush C dX10_joinAlike_142 (by decide) ?_
              refine v_iconst C dX10_joinAlike_144 ?_
              refine v_iast (i := 305) (n := 87) C (Nat.le_trans hlo (by decide)) (Nat.lt_of_lt_of_le (by decide) hhi) (fun _ => rfl) (by decide) ⟨by decide, by decide⟩ (by decide) dX10_joinAlike_145 ?_
              refine v_nameS (fun σ26 eσ26 => ?_)
              have h := h σ26 eσ26
              refine v_R (fun hRσ26 => ?_)
              refine v_iload_n C 1 dX10_joinAlike_146 rfl rfl ?_
              obtain ⟨J28, hJ28, h⟩ := h
              have kJ28 : ∀  (σ27 : SG), J28 σ27 → V p l e rm_X10_joinAlike s m args below meth c D aC B lo hi 6 (MQ below (QI D aC B lo hi Q) args s 0 0 (AB B lo hi)) σ27 156 [(3, .int (iI x8)), (2, .int (iI v6)), (0, .ref (B + 304))] [] := by
                intro σ27 hj 
                have h := hJ28 σ27 hj
                refine v_R (fun hRσ27 => ?_)
                refine v_iload_n C 1 dX10_joinAlike_156 rfl rfl ?_
                refine v_iload_n C 0 dX10_joinAlike_157 rfl rfl ?_
                obtain ⟨J30, hJ30, h⟩ := h
                have kJ30 : ∀  (σ29 : SG), J30 σ29 → V p l e rm_X10_joinAlike s m args below meth c D aC B lo hi 6 (MQ below (QI D aC B lo hi Q) args s 0 0 (AB B lo hi)) σ29 167 [(0, .ref (B + 304))] [] := by
                  intro σ29 hj 
                  have h := hJ30 σ29 hj
                  refine v_R (fun hRσ29 => ?_)
                  refine v_aload_n C 0 dX10_joinAlike_167 rfl rfl ?_
                  refine v_callv (i := 304) (As := []) (rest := []) C (s_X10_sorts hlo hhi h) w1078 wy_X10_sorts ⟨rfl, rfl⟩ hd_X10_sorts ⟨Nat.le_of_ble_eq_true rfl, Nat.le_of_ble_eq_true rfl⟩ (Nat.le_trans hlo (by decide)) (Nat.lt_of_lt_of_le (by decide) hhi) rfl rfl rfl rfl (Nat.le_of_ble_eq_true rfl) dX10_joinAlike_168 (fun σ31 h => ?_)
                  refine v_R (fun hRσ31 => ?_)
                  refine v_aload_n C 0 dX10_joinAlike_171 rfl rfl ?_
                  refine gf10_now C hlo hhi w877 dX10_joinAlike_172 ?_
                  refine v_bipush C dX10_joinAlike_175 (by decide) ?_
                  refine v_iald (i := 305) (n := 87) C (Nat.le_trans hlo (by decide)) (Nat.lt_of_lt_of_le (by decide) hhi) rfl (by decide) ⟨by decide, by decide⟩ dX10_joinAlike_177 ?_
                  exact v_iret C (hRσ31 305 _) h dX10_joinAlike_178
                refine v_icmp_le C rv6 rx8 167 dX10_joinAlike_158 (by decide) (fun c33 => ?_) (fun c33 => ?_)
                · have h := h.1 c33
                  refine v_sub [2] rfl ?_
                  exact kJ30 σ27 h 
                · have h := h.2 c33
                  refine v_aload_n C 2 dX10_joinAlike_161 rfl rfl ?_
                  refine v_bipush C dX10_joinAlike_162 (by decide) ?_
                  refine v_callv (i := 304) (As := [.int (iI 9)]) (rest := []) C (s_X10_comes hlo hhi (by decide) h) w1003 wy_X10_comes ⟨rfl, rfl⟩ hd_X10_comes ⟨Nat.le_of_ble_eq_true rfl, Nat.le_of_ble_eq_true rfl⟩ (Nat.le_trans hlo (by decide)) (Nat.lt_of_lt_of_le (by decide) hhi) rfl rfl rfl rfl (Nat.le_of_ble_eq_true rfl) dX10_joinAlike_164 (fun σ32 h => ?_)
                  refine v_R (fun hRσ32 => ?_)
                  refine v_sub [2] rfl ?_
                  exact kJ30 σ32 h 
              refine v_if_le C rx8 156 dX10_joinAlike_147 (by decide) (fun c35 => ?_) (fun c35 => ?_)
              · have h := h.1 c35
                refine v_sub [1, 2, 3] rfl ?_
                exact kJ28 σ26 h 
              · have h := h.2 c35
                refine v_aload_n C 3 dX10_joinAlike_150 rfl rfl ?_
                refine v_bipush C dX10_joinAlike_151 (by decide) ?_
                refine v_callv (i := 304) (As := [.int (iI 8)]) (rest := []) C (s_X10_comes hlo hhi (by decide) h) w1003 wy_X10_comes ⟨rfl, rfl⟩ hd_X10_comes ⟨Nat.le_of_ble_eq_true rfl, Nat.le_of_ble_eq_true rfl⟩ (Nat.le_trans hlo (by decide)) (Nat.lt_of_lt_of_le (by decide) hhi) rfl rfl rfl rfl (Nat.le_of_ble_eq_true rfl) dX10_joinAlike_153 (fun σ34 h => ?_)
                refine v_R (fun hRσ34 => ?_)
                refine v_sub [1, 2, 3] rfl ?_
                exact kJ28 σ34 h 
            · have h := h.2 c36
              refine v_bipush C dX10_joinAlike_131 (by decide) ?_
              exact v_iret C (by decide) h dX10_joinAlike_133
        · have h := h.2 c58
          refine v_aload_n C 3 dX10_joinAlike_48 rfl rfl ?_
          refine v_iload C 0 dX10_joinAlike_49 rfl ?_
          refine v_iconst C dX10_joinAlike_51 ?_
          refine v_callv (i := 304) (As := [.int (iI x7), .int (iI 1)]) (rest := []) C (s_X10_loadsBranch hlo hhi rx7 (by decide) h) w1038 wy_X10_loadsBranch ⟨rfl, rfl⟩ hd_X10_loadsBranch ⟨Nat.le_of_ble_eq_true rfl, Nat.le_of_ble_eq_true rfl⟩ (Nat.le_trans hlo (by decide)) (Nat.lt_of_lt_of_le (by decide) hhi) rfl rfl rfl rfl (Nat.le_of_ble_eq_true rfl) dX10_joinAlike_52 (fun σ38 h => ?_)
          refine v_R (fun hRσ38 => ?_)
          refine v_aload_n C 3 dX10_joinAlike_55 rfl rfl ?_
          refine v_iconst C dX10_joinAlike_56 ?_
          refine v_calli (i := 304) (As := [.int (iI 2)]) (rest := []) C (s_X10_kindIn hlo hhi (by decide) h) w1062 wy_X10_kindIn ⟨rfl, rfl⟩ hd_X10_kindIn ⟨Nat.le_of_ble_eq_true rfl, Nat.le_of_ble_eq_true rfl⟩ (Nat.le_trans hlo (by decide)) (Nat.lt_of_lt_of_le (by decide) hhi) rfl rfl rfl rfl (Nat.le_of_ble_eq_true rfl) dX10_joinAlike_57 (fun z40 σ39 rz40 h => ?_)
          refine v_R (fun hRσ39 => ?_)
          refine v_istore (lv' := [(5, .int (iI z40)), (4, .int (iI x7)), (3, .int (iI x8)), (2, .int (iI v6)), (0, .ref (B + 304))]) C dX10_joinAlike_60 (by decide) rfl ?_
          refine v_iload C 0 dX10_joinAlike_62 rfl ?_
          refine v_iconst C dX10_joinAlike_64 ?_
          refine v_icmp_ne C rz40 (by decide) 71 dX10_joinAlike_65 (by decide) (fun c57 => ?_) (fun c57 => ?_)
          · have h := h.1 c57
            refine v_iload_n C 2 dX10_joinAlike_71 rfl rfl ?_
            refine v_iload C 0 dX10_joinAlike_72 rfl ?_
            obtain ⟨J43, hJ43, h⟩ := h
            have kJ43 : ∀ (x41 : Int) (σ42 : SG), J43 x41 σ42 → inR x41 → V p l e rm_X10_joinAlike s m args below meth c D aC B lo hi 6 (MQ below (QI D aC B lo hi Q) args s 0 0 (AB B lo hi)) σ42 82 [(5, .int (iI z40)), (4, .int (iI x7)), (2, .int (iI v6)), (0, .ref (B + 304))] [.int (iI x41), .int (iI x8)] := by
              intro x41 σ42 hj rx41
              have h := hJ43 x41 σ42 hj
              refine v_R (fun hRσ42 => ?_)
              have k44 := h.1
              have h := h.2
              refine v_iadd C dX10_joinAlike_82 ?_
              refine v_name (fun v45 ev45 => ?_)
              have h := h v45 ev45
              have rv45 : inR v45 := by rw [ev45]; exact k44
              refine v_istore_n (lv' := [(3, .int (iI v45)), (5, .int (iI z40)), (4, .int (iI x7)), (2, .int (iI v6)), (0, .ref (B + 304))]) C dX10_joinAlike_83 rfl (by decide) rfl ?_
              refine v_aload_n C 4 dX10_joinAlike_84 rfl rfl ?_
              refine v_iconst C dX10_joinAlike_85 ?_
              refine v_iload C 1 dX10_joinAlike_86 rfl ?_
              obtain ⟨J48, hJ48, h⟩ := h
              have kJ48 : ∀ (x46 : Int) (σ47 : SG), J48 x46 σ47 → inR x46 → V p l e rm_X10_joinAlike s m args below meth c D aC B lo hi 6 (MQ below (QI D aC B lo hi Q) args s 0 0 (AB B lo hi)) σ47 98 [(3, .int (iI v45)), (5, .int (iI z40)), (4, .int (iI x7)), (2, .int (iI v6)), (0, .ref (B + 304))] [.int (iI x46), .int (iI 1), .ref (B + 304)] := by
                intro x46 σ47 hj rx46
                have h := hJ48 x46 σ47 hj
                refine v_R (fun hRσ47 => ?_)
                refine v_iload C 1 dX10_joinAlike_98 rfl ?_
                obtain ⟨J51, hJ51, h⟩ := h
                have kJ51 : ∀ (x49 : Int) (σ50 : SG), J51 x49 σ50 → inR x49 → V p l e rm_X10_joinAlike s m args below meth c D aC B lo hi 6 (MQ below (QI D aC B lo hi Q) args s 0 0 (AB B lo hi)) σ50 110 [(3, .int (iI v45)), (4, .int (iI x7)), (2, .int (iI v6)), (0, .ref (B + 304))] [.int (iI x49), .int (iI x46), .int (iI 1), .ref (B + 304)] := by
                  intro x49 σ50 hj rx49
                  have h := hJ51 x49 σ50 hj
                  refine v_R (fun hRσ50 => ?_)
                  refine v_callv (i := 304) (As := [.int (iI 1), .int (iI x46), .int (iI x49)]) (rest := []) C (s_X10_multiplies hlo hhi (by decide) rx46 rx49 h) w1054 wy_X10_multiplies ⟨rfl, rfl⟩ hd_X10_multiplies ⟨Nat.le_of_ble_eq_true rfl, Nat.le_of_ble_eq_true rfl⟩ (Nat.le_trans hlo (by decide)) (Nat.lt_of_lt_of_le (by decide) hhi) rfl rfl rfl rfl (Nat.le_of_ble_eq_true rfl) dX10_joinAlike_110 (fun σ52 h => ?_)
                  refine v_R (fun hRσ52 => ?_)
                  have k53 := h.1
                  have h := h.2
                  refine v_iinc (lv' := [(4, .int (iI (x7 + 1))), (3, .int (iI v45)), (2, .int (iI v6)), (0, .ref (B + 304))]) C 1 dX10_joinAlike_113 rfl (by decide) rfl ?_
                  refine v_goto C 42 dX10_joinAlike_116 (by decide) ?_
                  obtain ⟨m9, hm9, h⟩ := h
                  exact ih11 m9 hm9 (x7 + 1) v45 σ52 h k53 rv45
                refine v_if_ne C rz40 108 dX10_joinAlike_100 (by decide) (fun c54 => ?_) (fun c54 => ?_)
                · have h := h.1 c54
                  refine v_bipush C dX10_joinAlike_108 (by decide) ?_
                  refine v_sub [0, 2, 3, 4] rfl ?_
                  exact kJ51 9 σ47 h (by decide)
                · have h := h.2 c54
                  refine v_bipush C dX10_joinAlike_103 (by decide) ?_
                  refine v_goto C 110 dX10_joinAlike_105 (by decide) ?_
                  refine v_sub [0, 2, 3, 4] rfl ?_
                  exact kJ51 8 σ47 h (by decide)
              refine v_if_ne C rz40 96 dX10_joinAlike_88 (by decide) (fun c55 => ?_) (fun c55 => ?_)
              · have h := h.1 c55
                refine v_bipush C dX10_joinAlike_96 (by decide) ?_
                exact kJ48 9 σ42 h (by decide)
              · have h := h.2 c55
                refine v_bipush C dX10_joinAlike_91 (by decide) ?_
                refine v_goto C 98 dX10_joinAlike_93 (by decide) ?_
                exact kJ48 8 σ42 h (by decide)
            refine v_if_ne C rz40 81 dX10_joinAlike_74 (by decide) (fun c56 => ?_) (fun c56 => ?_)
            · have h := h.1 c56
              refine v_iconst C dX10_joinAlike_81 ?_
              refine v_sub [0, 1, 3, 4] rfl ?_
              exact kJ43 0 σ39 h (by decide)
            · have h := h.2 c56
              refine v_iconst C dX10_joinAlike_77 ?_
              refine v_goto C 82 dX10_joinAlike_78 (by decide) ?_
              refine v_sub [0, 1, 3, 4] rfl ?_
              exact kJ43 1 σ39 h (by decide)
          · have h := h.2 c57
            refine v_bipush C dX10_joinAlike_68 (by decide) ?_
            exact v_iret C (by decide) h dX10_joinAlike_70
    refine v_sub [0, 1, 2, 3] rfl ?_
    exact key12 n60 0 0 σ5 hnn60 (by decide) (by decide)
  · have h := h.2 c61
    refine v_iconst C dX10_joinAlike_7 ?_
    exact v_iret C (by decide) h dX10_joinAlike_8
-- SplitTowersModel.keep()I
def wp_X10_keep (σ : SG)  (Q : Int → SG → Prop) : Prop :=
  Lp1 (fun (rec3 : Int → SG → Prop) (x1 : Int) (σ2 : SG) => ((87 ≤ x1 → (∀ σ6 : SG, σ6 = ug σ2 304 4 1 → Q (σ6 305 44) σ6)) ∧ (¬ 87 ≤ x1 → ((0 ≤ x1 ∧ x1 < 87) ∧ ((0 ≤ x1 ∧ x1 < 87) ∧ (∀ σ9 : SG, σ9 = ug σ2 307 x1.toNat (σ2 305 x1.toNat) → (inR (x1 + 1) ∧ rec3 (x1 + 1) σ9))))))) 0 σ
def rm_X10_keep : Room := { frames := 0, cells := 0, slots := 0, locals := 0 }
theorem wy_X10_keep : Cond.instanceMethod yX10_keep ∈ WS ∧ Cond.selects "SplitTowersModel" yX10_keep yX10_keep ∈ WS ∧ Cond.initialized "SplitTowersModel" ∈ WS ∧ Cond.code yX10_keep prog_12_method_64_code 2 (some .int) ∈ WS := ⟨w1167, w1168, w79, w1169⟩
theorem hd_X10_keep : yX10_keep.cls = "SplitTowersModel" ∧ yX10_keep.cls ≠ "java/lang/invoke/MethodHandle" ∧ yX10_keep.cls ≠ "java/lang/invoke/VarHandle" ∧ (parseMethodDescriptor yX10_keep.desc).map (fun d => d.parameters.length) = some 0 := by decide +kernel
set_option maxHeartbeats 4000000 in
set_option maxRecDepth 100000 in
theorem s_X10_keep {l : Launch} {D : va_G} {aC : Nat → ClassId} {B lo hi : Nat} {σ : SG}  {Q : Int → SG → Prop} (hlo : lo ≤ 304) (hhi : 316 ≤ hi) (h : wp_X10_keep σ  Q) : Met l yX10_keep (Cond.code yX10_keep prog_12_method_64_code 2 (some .int) :: WS) rm_X10_keep (va_Pc [.ref (B + 304)] (WP D aC B lo hi σ)) (QI D aC B lo hi Q) 0 0 (AB B lo hi) := by
  refine met_of (by decide +kernel) (by decide +kernel : yX10_keep.cls = "SplitTowersModel") (Nat.le_of_ble_eq_true rfl) ?_
  intro p e s m args below meth c C
  unfold wp_X10_keep at h
  refine v_R (fun hR0 => ?_)
  show V p l e rm_X10_keep s m args below meth c D aC B lo hi 2 (MQ below (QI D aC B lo hi Q) args s 0 0 (AB B lo hi)) σ 0 [(0, .ref (B + 304))] []
  refine v_iconst C dX10_keep_0 ?_
  refine v_istore_n (lv' := [(1, .int (iI 0)), (0, .ref (B + 304))]) C dX10_keep_1 rfl (by decide) rfl ?_
  obtain ⟨I12, ⟨n13, hnn13⟩, hII12⟩ := h
  have key5 : ∀ (n : Nat) (x1 : Int) (σ2 : SG), I12 n x1 σ2 → inR x1 → V p l e rm_X10_keep s m args below meth c D aC B lo hi 2 (MQ below (QI D aC B lo hi Q) args s 0 0 (AB B lo hi)) σ2 2 [(1, .int (iI x1)), (0, .ref (B + 304))] [] := by
    intro n
    induction n using Nat.strongRecOn with
    | ind n ih4 =>
      intro x1 σ2 hn rx1
      have h := hII12 n x1 σ2 hn
      refine v_R (fun hRσ2 => ?_)
      refine v_iload_n C 0 dX10_keep_2 rfl rfl ?_
      refine v_bipush C dX10_keep_3 (by decide) ?_
      refine v_icmp_ge C rx1 (by decide) 26 dX10_keep_5 (by decide) (fun c11 => ?_) (fun c11 => ?_)
      · have h := h.1 c11
        refine v_aload_n C 1 dX10_keep_26 rfl rfl ?_
        refine v_iconst C dX10_keep_27 ?_
        refine pf10_isFilled C hlo hhi (by decide) (by decide) w881 dX10_keep_28 ?_
        refine v_nameS (fun σ6 eσ6 => ?_)
        have h := h σ6 eσ6
        refine v_R (fun hRσ6 => ?_)
        refine v_aload_n C 1 dX10_keep_31 rfl rfl ?_
        refine gf10_now C hlo hhi w877 dX10_keep_32 ?_
        refine v_bipush C dX10_keep_35 (by decide) ?_
        refine v_iald (i := 305) (n := 87) C (Nat.le_trans hlo (by decide)) (Nat.lt_of_lt_of_le (by decide) hhi) rfl (by decide) ⟨by decide, by decide⟩ dX10_keep_37 ?_
        exact v_iret C (hRσ6 305 _) h dX10_keep_38
      · have h := h.2 c11
        refine v_aload_n C 1 dX10_keep_8 rfl rfl ?_
        refine gf10_slot C hlo hhi w880 dX10_keep_9 ?_
        refine v_iload_n C 0 dX10_keep_12 rfl rfl ?_
        refine v_aload_n C 1 dX10_keep_13 rfl rfl ?_
        refine gf10_now C hlo hhi w877 dX10_keep_14 ?_
        refine v_iload_n C 0 dX10_keep_17 rfl rfl ?_
        have k7 := h.1
        have h := h.2
        refine v_iald (i := 305) (n := 87) C (Nat.le_trans hlo (by decide)) (Nat.lt_of_lt_of_le (by decide) hhi) rfl rx1 k7 dX10_keep_18 ?_
        have k8 := h.1
        have h := h.2
        refine v_iast (i := 307) (n := 87) C (Nat.le_trans hlo (by decide)) (Nat.lt_of_lt_of_le (by decide) hhi) (fun _ => rfl) rx1 k8 (hRσ2 305 _) dX10_keep_19 ?_
        refine v_nameS (fun σ9 eσ9 => ?_)
        have h := h σ9 eσ9
        refine v_R (fun hRσ9 => ?_)
        have k10 := h.1
        have h := h.2
        refine v_iinc (lv' := [(1, .int (iI (x1 + 1))), (0, .ref (B + 304))]) C 0 dX10_keep_20 rfl (by decide) rfl ?_
        refine v_goto C 2 dX10_keep_23 (by decide) ?_
        obtain ⟨m9, hm9, h⟩ := h
        exact ih4 m9 hm9 (x1 + 1) σ9 h k10
  exact key5 n13 0 σ hnn13 (by decide)
-- SplitTowersModel.kind(II)I
def wp_X10_kind (σ : SG) (a1 : Int) (a2 : Int) (Q : Int → SG → Prop) : Prop :=
  wp_X10_noRegister σ a1 (fun (z2 : Int) (σ1 : SG) => ((¬ z2 = 0 → Q (-1) σ1) ∧ (z2 = 0 → wp_X10_noBranch σ1 a2 (fun (z4 : Int) (σ3 : SG) => ((z4 = 0 → wp_X10_loadsNumber σ3 a1 2 (fun (σ5 : SG) => wp_X10_loadsBranch σ5 a2 1 (fun (σ6 : SG) => wp_X10_kindIn σ6 2 (fun (z8 : Int) (σ7 : SG) => Q z8 σ7)))) ∧ (¬ z4 = 0 → Q (-1) σ3))))))
def rm_X10_kind : Room := { frames := 5, cells := 0, slots := 0, locals := 118 }
theorem wy_X10_kind : Cond.instanceMethod yX10_kind ∈ WS ∧ Cond.selects "SplitTowersModel" yX10_kind yX10_kind ∈ WS ∧ Cond.initialized "SplitTowersModel" ∈ WS ∧ Cond.code yX10_kind prog_12_method_71_code 3 (some .int) ∈ WS := ⟨w1195, w1196, w79, w1197⟩
theorem hd_X10_kind : yX10_kind.cls = "SplitTowersModel" ∧ yX10_kind.cls ≠ "java/lang/invoke/MethodHandle" ∧ yX10_kind.cls ≠ "java/lang/invoke/VarHandle" ∧ (parseMethodDescriptor yX10_kind.desc).map (fun d => d.parameters.length) = some 2 := by decide +kernel
set_option maxHeartbeats 4000000 in
set_option maxRecDepth 100000 in
theorem s_X10_kind {l : Launch} {D : va_G} {aC : Nat → ClassId} {B lo hi : Nat} {σ : SG} {a1 : Int} {a2 : Int} {Q : Int → SG → Prop} (hlo : lo ≤ 304) (hhi : 316 ≤ hi) (r1 : inR a1) (r2 : inR a2) (h : wp_X10_kind σ a1 a2 Q) : Met l yX10_kind (Cond.code yX10_kind prog_12_method_71_code 3 (some .int) :: WS) rm_X10_kind (va_Pc [.ref (B + 304), .int (iI a1), .int (iI a2)] (WP D aC B lo hi σ)) (QI D aC B lo hi Q) 0 0 (AB B lo hi) := by
  refine met_of (by decide +kernel) (by decide +kernel : yX10_kind.cls = "SplitTowersModel") (Nat.le_of_ble_eq_true rfl) ?_
  intro p e s m args below meth c C
  unfold wp_X10_kind at h
  refine v_R (fun hR0 => ?_)
  show V p l e rm_X10_kind s m args below meth c D aC B lo hi 3 (MQ below (QI D aC B lo hi Q) args s 0 0 (AB B lo hi)) σ 0 [(0, .ref (B + 304)), (1, .int (iI a1)), (2, .int (iI a2))] []
  refine v_iload_n C 1 dX10_kind_0 rfl rfl ?_
  refine v_callsi (As := [.int (iI a1)]) (rest := []) C (s_X10_noRegister hlo hhi r1 h) w1015 wy_X10_noRegister ⟨rfl, rfl⟩ hd_X10_noRegister ⟨Nat.le_of_ble_eq_true rfl, Nat.le_of_ble_eq_true rfl⟩ rfl rfl (Nat.le_of_ble_eq_true rfl) dX10_kind_1 (fun z2 σ1 rz2 h => ?_)
  refine v_R (fun hRσ1 => ?_)
  refine v_if_ne C rz2 15 dX10_kind_4 (by decide) (fun c10 => ?_) (fun c10 => ?_)
  · have h := h.1 c10
    refine v_iconst C dX10_kind_15 ?_
    exact v_iret C (by decide) h dX10_kind_16
  · have h := h.2 c10
    refine v_aload_n C 0 dX10_kind_7 rfl rfl ?_
    refine v_iload_n C 2 dX10_kind_8 rfl rfl ?_
    refine v_calli (i := 304) (As := [.int (iI a2)]) (rest := []) C (s_X10_noBranch hlo hhi r2 h) w1034 wy_X10_noBranch ⟨rfl, rfl⟩ hd_X10_noBranch ⟨Nat.le_of_ble_eq_true rfl, Nat.le_of_ble_eq_true rfl⟩ (Nat.le_trans hlo (by decide)) (Nat.lt_of_lt_of_le (by decide) hhi) rfl rfl rfl rfl (Nat.le_of_ble_eq_true rfl) dX10_kind_9 (fun z4 σ3 rz4 h => ?_)
    refine v_R (fun hRσ3 => ?_)
    refine v_if_eq C rz4 17 dX10_kind_12 (by decide) (fun c9 => ?_) (fun c9 => ?_)
    · have h := h.1 c9
      refine v_aload_n C 0 dX10_kind_17 rfl rfl ?_
      refine v_iload_n C 1 dX10_kind_18 rfl rfl ?_
      refine v_iconst C dX10_kind_19 ?_
      refine v_callv (i := 304) (As := [.int (iI a1), .int (iI 2)]) (rest := []) C (s_X10_loadsNumber hlo hhi r1 (by decide) h) w991 wy_X10_loadsNumber ⟨rfl, rfl⟩ hd_X10_loadsNumber ⟨Nat.le_of_ble_eq_true rfl, Nat.le_of_ble_eq_true rfl⟩ (Nat.le_trans hlo (by decide)) (Nat.lt_of_lt_of_le (by decide) hhi) rfl rfl rfl rfl (Nat.le_of_ble_eq_true rfl) dX10_kind_20 (fun σ5 h => ?_)
      refine v_R (fun hRσ5 => ?_)
      refine v_aload_n C 0 dX10_kind_23 rfl rfl ?_
      refine v_iload_n C 2 dX10_kind_24 rfl rfl ?_
      refine v_iconst C dX10_kind_25 ?_
      refine v_callv (i := 304) (As := [.int (iI a2), .int (iI 1)]) (rest := []) C (s_X10_loadsBranch hlo hhi r2 (by decide) h) w1038 wy_X10_loadsBranch ⟨rfl, rfl⟩ hd_X10_loadsBranch ⟨Nat.le_of_ble_eq_true rfl, Nat.le_of_ble_eq_true rfl⟩ (Nat.le_trans hlo (by decide)) (Nat.lt_of_lt_of_le (by decide) hhi) rfl rfl rfl rfl (Nat.le_of_ble_eq_true rfl) dX10_kind_26 (fun σ6 h => ?_)
      refine v_R (fun hRσ6 => ?_)
      refine v_aload_n C 0 dX10_kind_29 rfl rfl ?_
      refine v_iconst C dX10_kind_30 ?_
      refine v_calli (i := 304) (As := [.int (iI 2)]) (rest := []) C (s_X10_kindIn hlo hhi (by decide) h) w1062 wy_X10_kindIn ⟨rfl, rfl⟩ hd_X10_kindIn ⟨Nat.le_of_ble_eq_true rfl, Nat.le_of_ble_eq_true rfl⟩ (Nat.le_trans hlo (by decide)) (Nat.lt_of_lt_of_le (by decide) hhi) rfl rfl rfl rfl (Nat.le_of_ble_eq_true rfl) dX10_kind_31 (fun z8 σ7 rz8 h => ?_)
      refine v_R (fun hRσ7 => ?_)
      exact v_iret C rz8 h dX10_kind_34
    · have h := h.2 c9
      refine v_iconst C dX10_kind_15 ?_
      exact v_iret C (by decide) h dX10_kind_16
-- SplitTowersModel.leastPolynomial(II)I
def wp_X10_leastPolynomial (σ : SG) (a1 : Int) (a2 : Int) (Q : Int → SG → Prop) : Prop :=
  wp_X10_noRegister σ a1 (fun (z2 : Int) (σ1 : SG) => ((z2 = 0 → ((0 ≤ a2 → wp_X10_loadsModulus σ1 (fun (σ3 : SG) => wp_X10_loadsNumber σ3 a1 2 (fun (σ4 : SG) => wp_X10_findsLeast σ4 (fun (σ5 : SG) => wp_X10_degree σ5 3 (fun (z7 : Int) (σ6 : SG) => ((z7 < a2 → Q (-5) σ6) ∧ (¬ z7 < a2 → wp_X10_of σ6 3 a2 (fun (z9 : Int) (σ8 : SG) => Q z9 σ8)))))))) ∧ (¬ 0 ≤ a2 → Q (-2) σ1))) ∧ (¬ z2 = 0 → Q (-1) σ1)))
def rm_X10_leastPolynomial : Room := { frames := 4, cells := 0, slots := 0, locals := 102 }
theorem wy_X10_leastPolynomial : Cond.instanceMethod yX10_leastPolynomial ∈ WS ∧ Cond.selects "SplitTowersModel" yX10_leastPolynomial yX10_leastPolynomial ∈ WS ∧ Cond.initialized "SplitTowersModel" ∈ WS ∧ Cond.code yX10_leastPolynomial prog_12_method_75_code 3 (some .int) ∈ WS := ⟨w1208, w1209, w79, w1210⟩
theorem hd_X10_leastPolynomial : yX10_leastPolynomial.cls = "SplitTowersModel" ∧ yX10_leastPolynomial.cls ≠ "java/lang/invoke/MethodHandle" ∧ yX10_leastPolynomial.cls ≠ "java/lang/invoke/VarHandle" ∧ (parseMethodDescriptor yX10_leastPolynomial.desc).map (fun d => d.parameters.length) = some 2 := by decide +kernel
set_option maxHeartbeats 4000000 in
set_option maxRecDepth 100000 in
theorem s_X10_leastPolynomial {l : Launch} {D : va_G} {aC : Nat → ClassId} {B lo hi : Nat} {σ : SG} {a1 : Int} {a2 : Int} {Q : Int → SG → Prop} (hlo : lo ≤ 304) (hhi : 316 ≤ hi) (r1 : inR a1) (r2 : inR a2) (h : wp_X10_leastPolynomial σ a1 a2 Q) : Met l yX10_leastPolynomial (Cond.code yX10_leastPolynomial prog_12_method_75_code 3 (some .int) :: WS) rm_X10_leastPolynomial (va_Pc [.ref (B + 304), .int (iI a1), .int (iI a2)] (WP D aC B lo hi σ)) (QI D aC B lo hi Q) 0 0 (AB B lo hi) := by
  refine met_of (by decide +kernel) (by decide +kernel : yX10_leastPolynomial.cls = "SplitTowersModel") (Nat.le_of_ble_eq_true rfl) ?_
  intro p e s m args below meth c C
  unfold wp_X10_leastPolynomial at h
  refine v_R (fun hR0 => ?_)
  show V p l e rm_X10_leastPolynomial s m args below meth c D aC B lo hi 3 (MQ below (QI D aC B lo hi Q) args s 0 0 (AB B lo hi)) σ 0 [(0, .ref (B + 304)), (1, .int (iI a1)), (2, .int (iI a2))] []
  refine v_iload_n C 1 dX10_leastPolynomial_0 rfl rfl ?_
  refine v_callsi (As := [.int (iI a1)]) (rest := []) C (s_X10_noRegister hlo hhi r1 h) w1015 wy_X10_noRegister ⟨rfl, rfl⟩ hd_X10_noRegister ⟨Nat.le_of_ble_eq_true rfl, Nat.le_of_ble_eq_true rfl⟩ rfl rfl (Nat.le_of_ble_eq_true rfl) dX10_leastPolynomial_1 (fun z2 σ1 rz2 h => ?_)
  refine v_R (fun hRσ1 => ?_)
  refine v_if_eq C rz2 9 dX10_leastPolynomial_4 (by decide) (fun c12 => ?_) (fun c12 => ?_)
  · have h := h.1 c12
    refine v_iload_n C 2 dX10_leastPolynomial_9 rfl rfl ?_
    refine v_if_ge C r2 16 dX10_leastPolynomial_10 (by decide) (fun c11 => ?_) (fun c11 => ?_)
    · have h := h.1 c11
      refine v_aload_n C 0 dX10_leastPolynomial_16 rfl rfl ?_
      refine v_callv (i := 304) (As := []) (rest := []) C (s_X10_loadsModulus hlo hhi h) w1026 wy_X10_loadsModulus ⟨rfl, rfl⟩ hd_X10_loadsModulus ⟨Nat.le_of_ble_eq_true rfl, Nat.le_of_ble_eq_true rfl⟩ (Nat.le_trans hlo (by decide)) (Nat.lt_of_lt_of_le (by decide) hhi) rfl rfl rfl rfl (Nat.le_of_ble_eq_true rfl) dX10_leastPolynomial_17 (fun σ3 h => ?_)
      refine v_R (fun hRσ3 => ?_)
      refine v_aload_n C 0 dX10_leastPolynomial_20 rfl rfl ?_
      refine v_iload_n C 1 dX10_leastPolynomial_21 rfl rfl ?_
      refine v_iconst C dX10_leastPolynomial_22 ?_
      refine v_callv (i := 304) (As := [.int (iI a1), .int (iI 2)]) (rest := []) C (s_X10_loadsNumber hlo hhi r1 (by decide) h) w991 wy_X10_loadsNumber ⟨rfl, rfl⟩ hd_X10_loadsNumber ⟨Nat.le_of_ble_eq_true rfl, Nat.le_of_ble_eq_true rfl⟩ (Nat.le_trans hlo (by decide)) (Nat.lt_of_lt_of_le (by decide) hhi) rfl rfl rfl rfl (Nat.le_of_ble_eq_true rfl) dX10_leastPolynomial_23 (fun σ4 h => ?_)
      refine v_R (fun hRσ4 => ?_)
      refine v_aload_n C 0 dX10_leastPolynomial_26 rfl rfl ?_
      refine v_callv (i := 304) (As := []) (rest := []) C (s_X10_findsLeast hlo hhi h) w1211 wy_X10_findsLeast ⟨rfl, rfl⟩ hd_X10_findsLeast ⟨Nat.le_of_ble_eq_true rfl, Nat.le_of_ble_eq_true rfl⟩ (Nat.le_trans hlo (by decide)) (Nat.lt_of_lt_of_le (by decide) hhi) rfl rfl rfl rfl (Nat.le_of_ble_eq_true rfl) dX10_leastPolynomial_27 (fun σ5 h => ?_)
      refine v_R (fun hRσ5 => ?_)
      refine v_iload_n C 2 dX10_leastPolynomial_30 rfl rfl ?_
      refine v_aload_n C 0 dX10_leastPolynomial_31 rfl rfl ?_
      refine v_iconst C dX10_leastPolynomial_32 ?_
      refine v_calli (i := 304) (As := [.int (iI 3)]) (rest := [.int (iI a2)]) C (s_X10_degree hlo hhi (by decide) h) w975 wy_X10_degree ⟨rfl, rfl⟩ hd_X10_degree ⟨Nat.le_of_ble_eq_true rfl, Nat.le_of_ble_eq_true rfl⟩ (Nat.le_trans hlo (by decide)) (Nat.lt_of_lt_of_le (by decide) hhi) rfl rfl rfl rfl (Nat.le_of_ble_eq_true rfl) dX10_leastPolynomial_33 (fun z7 σ6 rz7 h => ?_)
      refine v_R (fun hRσ6 => ?_)
      refine v_icmp_gt C r2 rz7 48 dX10_leastPolynomial_36 (by decide) (fun c10 => ?_) (fun c10 => ?_)
      · have h := h.1 c10
        refine v_bipush C dX10_leastPolynomial_48 (by decide) ?_
        exact v_iret C (by decide) h dX10_leastPolynomial_50
      · have h := h.2 c10
        refine v_aload_n C 0 dX10_leastPolynomial_39 rfl rfl ?_
        refine v_iconst C dX10_leastPolynomial_40 ?_
        refine v_iload_n C 2 dX10_leastPolynomial_41 rfl rfl ?_
        refine v_calli (i := 304) (As := [.int (iI 3), .int (iI a2)]) (rest := []) C (s_X10_of hlo hhi (by decide) r2 h) w963 wy_X10_of ⟨rfl, rfl⟩ hd_X10_of ⟨Nat.le_of_ble_eq_true rfl, Nat.le_of_ble_eq_true rfl⟩ (Nat.le_trans hlo (by decide)) (Nat.lt_of_lt_of_le (by decide) hhi) rfl rfl rfl rfl (Nat.le_of_ble_eq_true rfl) dX10_leastPolynomial_42 (fun z9 σ8 rz9 h => ?_)
        refine v_R (fun hRσ8 => ?_)
        refine v_goto C 50 dX10_leastPolynomial_45 (by decide) ?_
        exact v_iret C rz9 h dX10_leastPolynomial_50
    · have h := h.2 c11
      refine v_bipush C dX10_leastPolynomial_13 (by decide) ?_
      exact v_iret C (by decide) h dX10_leastPolynomial_15
  · have h := h.2 c12
    refine v_iconst C dX10_leastPolynomial_7 ?_
    exact v_iret C (by decide) h dX10_leastPolynomial_8
-- SplitTowersModel.modulus(I)I
def wp_X10_modulus (σ : SG) (a1 : Int) (Q : Int → SG → Prop) : Prop :=
  ((0 ≤ a1 → wp_X10_degreeOfModulus σ (fun (z2 : Int) (σ1 : SG) => ((z2 < a1 → Q (-5) σ1) ∧ (¬ z2 < a1 → (inR (1 + a1) ∧ ((0 ≤ 1 + a1 ∧ 1 + a1 < 87) ∧ Q (σ1 305 (1 + a1).toNat) σ1)))))) ∧ (¬ 0 ≤ a1 → Q (-2) σ))
def rm_X10_modulus : Room := { frames := 5, cells := 0, slots := 0, locals := 109 }
theorem wy_X10_modulus : Cond.instanceMethod yX10_modulus ∈ WS ∧ Cond.selects "SplitTowersModel" yX10_modulus yX10_modulus ∈ WS ∧ Cond.initialized "SplitTowersModel" ∈ WS ∧ Cond.code yX10_modulus prog_12_method_66_code 2 (some .int) ∈ WS := ⟨w1175, w1176, w79, w1177⟩
theorem hd_X10_modulus : yX10_modulus.cls = "SplitTowersModel" ∧ yX10_modulus.cls ≠ "java/lang/invoke/MethodHandle" ∧ yX10_modulus.cls ≠ "java/lang/invoke/VarHandle" ∧ (parseMethodDescriptor yX10_modulus.desc).map (fun d => d.parameters.length) = some 1 := by decide +kernel
set_option maxHeartbeats 4000000 in
set_option maxRecDepth 100000 in
theorem s_X10_modulus {l : Launch} {D : va_G} {aC : Nat → ClassId} {B lo hi : Nat} {σ : SG} {a1 : Int} {Q : Int → SG → Prop} (hlo : lo ≤ 304) (hhi : 316 ≤ hi) (r1 : inR a1) (h : wp_X10_modulus σ a1 Q) : Met l yX10_modulus (Cond.code yX10_modulus prog_12_method_66_code 2 (some .int) :: WS) rm_X10_modulus (va_Pc [.ref (B + 304), .int (iI a1)] (WP D aC B lo hi σ)) (QI D aC B lo hi Q) 0 0 (AB B lo hi) := by
  refine met_of (by decide +kernel) (by decide +kernel : yX10_modulus.cls = "SplitTowersModel") (Nat.le_of_ble_eq_true rfl) ?_
  intro p e s m args below meth c C
  unfold wp_X10_modulus at h
  refine v_R (fun hR0 => ?_)
  show V p l e rm_X10_modulus s m args below meth c D aC B lo hi 2 (MQ below (QI D aC B lo hi Q) args s 0 0 (AB B lo hi)) σ 0 [(0, .ref (B + 304)), (1, .int (iI a1))] []
  refine v_iload_n C 1 dX10_modulus_0 rfl rfl ?_
  refine v_if_ge C r1 7 dX10_modulus_1 (by decide) (fun c6 => ?_) (fun c6 => ?_)
  · have h := h.1 c6
    refine v_iload_n C 1 dX10_modulus_7 rfl rfl ?_
    refine v_aload_n C 0 dX10_modulus_8 rfl rfl ?_
    refine v_calli (i := 304) (As := []) (rest := [.int (iI a1)]) C (s_X10_degreeOfModulus hlo hhi h) w1022 wy_X10_degreeOfModulus ⟨rfl, rfl⟩ hd_X10_degreeOfModulus ⟨Nat.le_of_ble_eq_true rfl, Nat.le_of_ble_eq_true rfl⟩ (Nat.le_trans hlo (by decide)) (Nat.lt_of_lt_of_le (by decide) hhi) rfl rfl rfl rfl (Nat.le_of_ble_eq_true rfl) dX10_modulus_9 (fun z2 σ1 rz2 h => ?_)
    refine v_R (fun hRσ1 => ?_)
    refine v_icmp_gt C r1 rz2 26 dX10_modulus_12 (by decide) (fun c5 => ?_) (fun c5 => ?_)
    · have h := h.1 c5
      refine v_bipush C dX10_modulus_26 (by decide) ?_
      exact v_iret C (by decide) h dX10_modulus_28
    · have h := h.2 c5
      refine v_aload_n C 0 dX10_modulus_15 rfl rfl ?_
      refine gf10_now C hlo hhi w877 dX10_modulus_16 ?_
      refine v_iconst C dX10_modulus_19 ?_
      refine v_iload_n C 1 dX10_modulus_20 rfl rfl ?_
      have k3 := h.1
      have h := h.2
      refine v_iadd C dX10_modulus_21 ?_
      have k4 := h.1
      have h := h.2
      refine v_iald (i := 305) (n := 87) C (Nat.le_trans hlo (by decide)) (Nat.lt_of_lt_of_le (by decide) hhi) rfl k3 k4 dX10_modulus_22 ?_
      refine v_goto C 28 dX10_modulus_23 (by decide) ?_
      exact v_iret C (hRσ1 305 _) h dX10_modulus_28
  · have h := h.2 c6
    refine v_bipush C dX10_modulus_4 (by decide) ?_
    exact v_iret C (by decide) h dX10_modulus_6
-- SplitTowersModel.noPlace(I)Z
def wp_X10_noPlace (σ : SG) (a1 : Int) (Q : Int → SG → Prop) : Prop :=
  wp_X10_degreeOfModulus σ (fun (z2 : Int) (σ1 : SG) => (inR (z2 - 1) ∧ wp_X10_in σ1 a1 0 (z2 - 1) (fun (z5 : Int) (σ4 : SG) => ((¬ z5 = 0 → Q 0 σ4) ∧ (z5 = 0 → Q 1 σ4)))))
def rm_X10_noPlace : Room := { frames := 5, cells := 0, slots := 0, locals := 109 }
theorem wy_X10_noPlace : Cond.instanceMethod yX10_noPlace ∈ WS ∧ Cond.selects "SplitTowersModel" yX10_noPlace yX10_noPlace ∈ WS ∧ Cond.initialized "SplitTowersModel" ∈ WS ∧ Cond.code yX10_noPlace prog_12_method_40_code 2 (some .boolean) ∈ WS := ⟨w1020, w33, w79, w1021⟩
theorem hd_X10_noPlace : yX10_noPlace.cls = "SplitTowersModel" ∧ yX10_noPlace.cls ≠ "java/lang/invoke/MethodHandle" ∧ yX10_noPlace.cls ≠ "java/lang/invoke/VarHandle" ∧ (parseMethodDescriptor yX10_noPlace.desc).map (fun d => d.parameters.length) = some 1 := by decide +kernel
set_option maxHeartbeats 4000000 in
set_option maxRecDepth 100000 in
theorem s_X10_noPlace {l : Launch} {D : va_G} {aC : Nat → ClassId} {B lo hi : Nat} {σ : SG} {a1 : Int} {Q : Int → SG → Prop} (hlo : lo ≤ 304) (hhi : 316 ≤ hi) (r1 : inR a1) (h : wp_X10_noPlace σ a1 Q) : Met l yX10_noPlace (Cond.code yX10_noPlace prog_12_method_40_code 2 (some .boolean) :: WS) rm_X10_noPlace (va_Pc [.ref (B + 304), .int (iI a1)] (WP D aC B lo hi σ)) (QI D aC B lo hi Q) 0 0 (AB B lo hi) := by
  refine met_of (by decide +kernel) (by decide +kernel : yX10_noPlace.cls = "SplitTowersModel") (Nat.le_of_ble_eq_true rfl) ?_
  intro p e s m args below meth c C
  unfold wp_X10_noPlace at h
  refine v_R (fun hR0 => ?_)
  show V p l e rm_X10_noPlace s m args below meth c D aC B lo hi 2 (MQ below (QI D aC B lo hi Q) args s 0 0 (AB B lo hi)) σ 0 [(0, .ref (B + 304)), (1, .int (iI a1))] []
  refine v_iload_n C 1 dX10_noPlace_0 rfl rfl ?_
  refine v_iconst C dX10_noPlace_1 ?_
  refine v_aload_n C 0 dX10_noPlace_2 rfl rfl ?_
  refine v_calli (i := 304) (As := []) (rest := [.int (iI 0), .int (iI a1)]) C (s_X10_degreeOfModulus hlo hhi h) w1022 wy_X10_degreeOfModulus ⟨rfl, rfl⟩ hd_X10_degreeOfModulus ⟨Nat.le_of_ble_eq_true rfl, Nat.le_of_ble_eq_true rfl⟩ (Nat.le_trans hlo (by decide)) (Nat.lt_of_lt_of_le (by decide) hhi) rfl rfl rfl rfl (Nat.le_of_ble_eq_true rfl) dX10_noPlace_3 (fun z2 σ1 rz2 h => ?_)
  refine v_R (fun hRσ1 => ?_)
  refine v_iconst C dX10_noPlace_6 ?_
  have k3 := h.1
  have h := h.2
  refine v_isub C dX10_noPlace_7 ?_
  refine v_callsi (As := [.int (iI a1), .int (iI 0), .int (iI (z2 - 1))]) (rest := []) C (s_X10_in hlo hhi r1 (by decide) k3 h) w944 wy_X10_in ⟨rfl, rfl⟩ hd_X10_in ⟨Nat.le_of_ble_eq_true rfl, Nat.le_of_ble_eq_true rfl⟩ rfl rfl (Nat.le_of_ble_eq_true rfl) dX10_noPlace_8 (fun z5 σ4 rz5 h => ?_)
  refine v_R (fun hRσ4 => ?_)
  refine v_if_ne C rz5 18 dX10_noPlace_11 (by decide) (fun c6 => ?_) (fun c6 => ?_)
  · have h := h.1 c6
    refine v_iconst C dX10_noPlace_18 ?_
    exact v_zret C (by decide) h dX10_noPlace_19
  · have h := h.2 c6
    refine v_iconst C dX10_noPlace_14 ?_
    refine v_goto C 19 dX10_noPlace_15 (by decide) ?_
    exact v_zret C (by decide) h dX10_noPlace_19
-- SplitTowersModel.nothings(I)I
def wp_X10_nothings (σ : SG) (a1 : Int) (Q : Int → SG → Prop) : Prop :=
  wp_X10_loadsNumber σ a1 2 (fun (σ1 : SG) => Lp2 (fun (rec5 : Int → Int → SG → Prop) (x2 : Int) (x3 : Int) (σ4 : SG) => (((σ4 305 44) ≤ x2 → Q x3 σ4) ∧ (¬ (σ4 305 44) ≤ x2 → wp_X10_loadsBranch σ4 x2 1 (fun (σ8 : SG) => wp_X10_kindIn σ8 2 (fun (z10 : Int) (σ9 : SG) => ((¬ z10 = 0 → (inR (x3 + 0) ∧ (∀ v12 : Int, v12 = x3 + 0 → (inR (x2 + 1) ∧ rec5 (x2 + 1) v12 σ9)))) ∧ (z10 = 0 → (inR (x3 + 1) ∧ (∀ v15 : Int, v15 = x3 + 1 → (inR (x2 + 1) ∧ rec5 (x2 + 1) v15 σ9)))))))))) 0 0 σ1)
def rm_X10_nothings : Room := { frames := 5, cells := 0, slots := 0, locals := 118 }
theorem wy_X10_nothings : Cond.instanceMethod yX10_nothings ∈ WS ∧ Cond.selects "SplitTowersModel" yX10_nothings yX10_nothings ∈ WS ∧ Cond.initialized "SplitTowersModel" ∈ WS ∧ Cond.code yX10_nothings prog_12_method_43_code 4 (some .int) ∈ WS := ⟨w1096, w50, w79, w1097⟩
theorem hd_X10_nothings : yX10_nothings.cls = "SplitTowersModel" ∧ yX10_nothings.cls ≠ "java/lang/invoke/MethodHandle" ∧ yX10_nothings.cls ≠ "java/lang/invoke/VarHandle" ∧ (parseMethodDescriptor yX10_nothings.desc).map (fun d => d.parameters.length) = some 1 := by decide +kernel
set_option maxHeartbeats 4000000 in
set_option maxRecDepth 100000 in
theorem s_X10_nothings {l : Launch} {D : va_G} {aC : Nat → ClassId} {B lo hi : Nat} {σ : SG} {a1 : Int} {Q : Int → SG → Prop} (hlo : lo ≤ 304) (hhi : 316 ≤ hi) (r1 : inR a1) (h : wp_X10_nothings σ a1 Q) : Met l yX10_nothings (Cond.code yX10_nothings prog_12_method_43_code 4 (some .int) :: WS) rm_X10_nothings (va_Pc [.ref (B + 304), .int (iI a1)] (WP D aC B lo hi σ)) (QI D aC B lo hi Q) 0 0 (AB B lo hi) := by
  refine met_of (by decide +kernel) (by decide +kernel : yX10_nothings.cls = "SplitTowersModel") (Nat.le_of_ble_eq_true rfl) ?_
  intro p e s m args below meth c C
  unfold wp_X10_nothings at h
  refine v_R (fun hR0 => ?_)
  show V p l e rm_X10_nothings s m args below meth c D aC B lo hi 4 (MQ below (QI D aC B lo hi Q) args s 0 0 (AB B lo hi)) σ 0 [(0, .ref (B + 304)), (1, .int (iI a1))] []
  refine v_aload_n C 0 dX10_nothings_0 rfl rfl ?_
  refine v_iload_n C 1 dX10_nothings_1 rfl rfl ?_
  refine v_iconst C dX10_nothings_2 ?_
  refine v_callv (i := 304) (As := [.int (iI a1), .int (iI 2)]) (rest := []) C (s_X10_loadsNumber hlo hhi r1 (by decide) h) w991 wy_X10_loadsNumber ⟨rfl, rfl⟩ hd_X10_loadsNumber ⟨Nat.le_of_ble_eq_true rfl, Nat.le_of_ble_eq_true rfl⟩ (Nat.le_trans hlo (by decide)) (Nat.lt_of_lt_of_le (by decide) hhi) rfl rfl rfl rfl (Nat.le_of_ble_eq_true rfl) dX10_nothings_3 (fun σ1 h => ?_)
  refine v_R (fun hRσ1 => ?_)
  refine v_iconst C dX10_nothings_6 ?_
  refine v_istore_n (lv' := [(2, .int (iI 0)), (0, .ref (B + 304)), (1, .int (iI a1))]) C dX10_nothings_7 rfl (by decide) rfl ?_
  refine v_iconst C dX10_nothings_8 ?_
  refine v_istore_n (lv' := [(3, .int (iI 0)), (2, .int (iI 0)), (0, .ref (B + 304)), (1, .int (iI a1))]) C dX10_nothings_9 rfl (by decide) rfl ?_
  obtain ⟨I19, ⟨n20, hnn20⟩, hII19⟩ := h
  have key7 : ∀ (n : Nat) (x2 : Int) (x3 : Int) (σ4 : SG), I19 n x2 x3 σ4 → inR x2 → inR x3 → V p l e rm_X10_nothings s m args below meth c D aC B lo hi 4 (MQ below (QI D aC B lo hi Q) args s 0 0 (AB B lo hi)) σ4 10 [(3, .int (iI x2)), (2, .int (iI x3)), (0, .ref (B + 304))] [] := by
    intro n
    induction n using Nat.strongRecOn with
    | ind n ih6 =>
      intro x2 x3 σ4 hn rx2 rx3
      have h := hII19 n x2 x3 σ4 hn
      refine v_R (fun hRσ4 => ?_)
      refine v_iload_n C 0 dX10_nothings_10 rfl rfl ?_
      refine v_aload_n C 2 dX10_nothings_11 rfl rfl ?_
      refine gf10_now C hlo hhi w877 dX10_nothings_12 ?_
      refine v_bipush C dX10_nothings_15 (by decide) ?_
      refine v_iald (i := 305) (n := 87) C (Nat.le_trans hlo (by decide)) (Nat.lt_of_lt_of_le (by decide) hhi) rfl (by decide) ⟨by decide, by decide⟩ dX10_nothings_17 ?_
      refine v_icmp_ge C rx2 (hRσ4 305 _) 49 dX10_nothings_18 (by decide) (fun c18 => ?_) (fun c18 => ?_)
      · have h := h.1 c18
        refine v_iload_n C 1 dX10_nothings_49 rfl rfl ?_
        exact v_iret C rx3 h dX10_nothings_50
      · have h := h.2 c18
        refine v_aload_n C 2 dX10_nothings_21 rfl rfl ?_
        refine v_iload_n C 0 dX10_nothings_22 rfl rfl ?_
        refine v_iconst C dX10_nothings_23 ?_
        refine v_callv (i := 304) (As := [.int (iI x2), .int (iI 1)]) (rest := []) C (s_X10_loadsBranch hlo hhi rx2 (by decide) h) w1038 wy_X10_loadsBranch ⟨rfl, rfl⟩ hd_X10_loadsBranch ⟨Nat.le_of_ble_eq_true rfl, Nat.le_of_ble_eq_true rfl⟩ (Nat.le_trans hlo (by decide)) (Nat.lt_of_lt_of_le (by decide) hhi) rfl rfl rfl rfl (Nat.le_of_ble_eq_true rfl) dX10_nothings_24 (fun σ8 h => ?_)
        refine v_R (fun hRσ8 => ?_)
        refine v_iload_n C 1 dX10_nothings_27 rfl rfl ?_
        refine v_aload_n C 2 dX10_nothings_28 rfl rfl ?_
        refine v_iconst C dX10_nothings_29 ?_
        refine v_calli (i := 304) (As := [.int (iI 2)]) (rest := [.int (iI x3)]) C (s_X10_kindIn hlo hhi (by decide) h) w1062 wy_X10_kindIn ⟨rfl, rfl⟩ hd_X10_kindIn ⟨Nat.le_of_ble_eq_true rfl, Nat.le_of_ble_eq_true rfl⟩ (Nat.le_trans hlo (by decide)) (Nat.lt_of_lt_of_le (by decide) hhi) rfl rfl rfl rfl (Nat.le_of_ble_eq_true rfl) dX10_nothings_30 (fun z10 σ9 rz10 h => ?_)
        refine v_R (fun hRσ9 => ?_)
        refine v_if_ne C rz10 40 dX10_nothings_33 (by decide) (fun c17 => ?_) (fun c17 => ?_)
        · have h := h.1 c17
          refine v_iconst C dX10_nothings_40 ?_
          have k11 := h.1
          have h := h.2
          refine v_iadd C dX10_nothings_41 ?_
          refine v_name (fun v12 ev12 => ?_)
          have h := h v12 ev12
          have rv12 : inR v12 := by rw [ev12]; exact k11
          refine v_istore_n (lv' := [(2, .int (iI v12)), (3, .int (iI x2)), (0, .ref (B + 304))]) C dX10_nothings_42 rfl (by decide) rfl ?_
          have k13 := h.1
          have h := h.2
          refine v_iinc (lv' := [(3, .int (iI (x2 + 1))), (2, .int (iI v12)), (0, .ref (B + 304))]) C 1 dX10_nothings_43 rfl (by decide) rfl ?_
          refine v_goto C 10 dX10_nothings_46 (by decide) ?_
          obtain ⟨m9, hm9, h⟩ := h
          exact ih6 m9 hm9 (x2 + 1) v12 σ9 h k13 rv12
        · have h := h.2 c17
          refine v_iconst C dX10_nothings_36 ?_
          refine v_goto C 41 dX10_nothings_37 (by decide) ?_
          have k14 := h.1
          have h := h.2
          refine v_iadd C dX10_nothings_41 ?_
          refine v_name (fun v15 ev15 => ?_)
          have h := h v15 ev15
          have rv15 : inR v15 := by rw [ev15]; exact k14
          refine v_istore_n (lv' := [(2, .int (iI v15)), (3, .int (iI x2)), (0, .ref (B + 304))]) C dX10_nothings_42 rfl (by decide) rfl ?_
          have k16 := h.1
          have h := h.2
          refine v_iinc (lv' := [(3, .int (iI (x2 + 1))), (2, .int (iI v15)), (0, .ref (B + 304))]) C 1 dX10_nothings_43 rfl (by decide) rfl ?_
          refine v_goto C 10 dX10_nothings_46 (by decide) ?_
          obtain ⟨m9, hm9, h⟩ := h
          exact ih6 m9 hm9 (x2 + 1) v15 σ9 h k16 rv15
  refine v_sub [0, 1, 2] rfl ?_
  exact key7 n20 0 0 σ1 hnn20 (by decide) (by decide)
-- SplitTowersModel.number(II)I
def wp_X10_number (σ : SG) (a1 : Int) (a2 : Int) (Q : Int → SG → Prop) : Prop :=
  wp_X10_noRegister σ a1 (fun (z2 : Int) (σ1 : SG) => ((z2 = 0 → wp_X10_noPlace σ1 a2 (fun (z4 : Int) (σ3 : SG) => ((z4 = 0 → (inR (6 * a1) ∧ (inR (8 + (6 * a1)) ∧ (inR ((8 + (6 * a1)) + a2) ∧ ((0 ≤ (8 + (6 * a1)) + a2 ∧ (8 + (6 * a1)) + a2 < 87) ∧ Q (σ3 305 ((8 + (6 * a1)) + a2).toNat) σ3))))) ∧ (¬ z4 = 0 → Q (-2) σ3)))) ∧ (¬ z2 = 0 → Q (-1) σ1)))
def rm_X10_number : Room := { frames := 6, cells := 0, slots := 0, locals := 130 }
theorem wy_X10_number : Cond.instanceMethod yX10_number ∈ WS ∧ Cond.selects "SplitTowersModel" yX10_number yX10_number ∈ WS ∧ Cond.initialized "SplitTowersModel" ∈ WS ∧ Cond.code yX10_number prog_12_method_67_code 3 (some .int) ∈ WS := ⟨w1179, w1180, w79, w1181⟩
theorem hd_X10_number : yX10_number.cls = "SplitTowersModel" ∧ yX10_number.cls ≠ "java/lang/invoke/MethodHandle" ∧ yX10_number.cls ≠ "java/lang/invoke/VarHandle" ∧ (parseMethodDescriptor yX10_number.desc).map (fun d => d.parameters.length) = some 2 := by decide +kernel
set_option maxHeartbeats 4000000 in
set_option maxRecDepth 100000 in
theorem s_X10_number {l : Launch} {D : va_G} {aC : Nat → ClassId} {B lo hi : Nat} {σ : SG} {a1 : Int} {a2 : Int} {Q : Int → SG → Prop} (hlo : lo ≤ 304) (hhi : 316 ≤ hi) (r1 : inR a1) (r2 : inR a2) (h : wp_X10_number σ a1 a2 Q) : Met l yX10_number (Cond.code yX10_number prog_12_method_67_code 3 (some .int) :: WS) rm_X10_number (va_Pc [.ref (B + 304), .int (iI a1), .int (iI a2)] (WP D aC B lo hi σ)) (QI D aC B lo hi Q) 0 0 (AB B lo hi) := by
  refine met_of (by decide +kernel) (by decide +kernel : yX10_number.cls = "SplitTowersModel") (Nat.le_of_ble_eq_true rfl) ?_
  intro p e s m args below meth c C
  unfold wp_X10_number at h
  refine v_R (fun hR0 => ?_)
  show V p l e rm_X10_number s m args below meth c D aC B lo hi 3 (MQ below (QI D aC B lo hi Q) args s 0 0 (AB B lo hi)) σ 0 [(0, .ref (B + 304)), (1, .int (iI a1)), (2, .int (iI a2))] []
  refine v_iload_n C 1 dX10_number_0 rfl rfl ?_
  refine v_callsi (As := [.int (iI a1)]) (rest := []) C (s_X10_noRegister hlo hhi r1 h) w1015 wy_X10_noRegister ⟨rfl, rfl⟩ hd_X10_noRegister ⟨Nat.le_of_ble_eq_true rfl, Nat.le_of_ble_eq_true rfl⟩ rfl rfl (Nat.le_of_ble_eq_true rfl) dX10_number_1 (fun z2 σ1 rz2 h => ?_)
  refine v_R (fun hRσ1 => ?_)
  refine v_if_eq C rz2 9 dX10_number_4 (by decide) (fun c10 => ?_) (fun c10 => ?_)
  · have h := h.1 c10
    refine v_aload_n C 0 dX10_number_9 rfl rfl ?_
    refine v_iload_n C 2 dX10_number_10 rfl rfl ?_
    refine v_calli (i := 304) (As := [.int (iI a2)]) (rest := []) C (s_X10_noPlace hlo hhi r2 h) w1018 wy_X10_noPlace ⟨rfl, rfl⟩ hd_X10_noPlace ⟨Nat.le_of_ble_eq_true rfl, Nat.le_of_ble_eq_true rfl⟩ (Nat.le_trans hlo (by decide)) (Nat.lt_of_lt_of_le (by decide) hhi) rfl rfl rfl rfl (Nat.le_of_ble_eq_true rfl) dX10_number_11 (fun z4 σ3 rz4 h => ?_)
    refine v_R (fun hRσ3 => ?_)
    refine v_if_eq C rz4 22 dX10_number_14 (by decide) (fun c9 => ?_) (fun c9 => ?_)
    · have h := h.1 c9
      refine v_aload_n C 0 dX10_number_22 rfl rfl ?_
      refine gf10_now C hlo hhi w877 dX10_number_23 ?_
      refine v_bipush C dX10_number_26 (by decide) ?_
      refine v_bipush C dX10_number_28 (by decide) ?_
      refine v_iload_n C 1 dX10_number_30 rfl rfl ?_
      have k5 := h.1
      have h := h.2
      refine v_imul C dX10_number_31 ?_
      have k6 := h.1
      have h := h.2
      refine v_iadd C dX10_number_32 ?_
      refine v_iload_n C 2 dX10_number_33 rfl rfl ?_
      have k7 := h.1
      have h := h.2
      refine v_iadd C dX10_number_34 ?_
      have k8 := h.1
      have h := h.2
      refine v_iald (i := 305) (n := 87) C (Nat.le_trans hlo (by decide)) (Nat.lt_of_lt_of_le (by decide) hhi) rfl k7 k8 dX10_number_35 ?_
      exact v_iret C (hRσ3 305 _) h dX10_number_36
    · have h := h.2 c9
      refine v_bipush C dX10_number_17 (by decide) ?_
      refine v_goto C 36 dX10_number_19 (by decide) ?_
      exact v_iret C (by decide) h dX10_number_36
  · have h := h.2 c10
    refine v_iconst C dX10_number_7 ?_
    exact v_iret C (by decide) h dX10_number_8
-- SplitTowersModel.order(I)I
def wp_X10_order (σ : SG) (a1 : Int) (Q : Int → SG → Prop) : Prop :=
  wp_X10_noRegister σ a1 (fun (z2 : Int) (σ1 : SG) => ((z2 = 0 → wp_X10_countsFactors σ1 (fun (σ3 : SG) => Lp3 (fun (rec8 : Int → Int → Int → SG → Prop) (x4 : Int) (x5 : Int) (x6 : Int) (σ7 : SG) => ((6 < x4 → wp_X10_loadsNumber σ7 a1 2 (fun (σ11 : SG) => wp_X10_isOne σ11 x6 (fun (z13 : Int) (σ12 : SG) => ((¬ z13 = 0 → Lp3 (fun (rec18 : Int → Int → Int → SG → Prop) (x14 : Int) (x15 : Int) (x16 : Int) (σ17 : SG) => ((x15 ≤ 1 → Q x16 σ17) ∧ (¬ x15 ≤ 1 → Lp2 (fun (rec24 : Int → Int → SG → Prop) (x21 : Int) (x22 : Int) (σ23 : SG) => (x14 ≠ 0 ∧ ((¬ (Int.tmod x21 x14) = 0 → (inR (x14 + 1) ∧ rec18 (x14 + 1) x21 x22 σ23)) ∧ ((Int.tmod x21 x14) = 0 → (x14 ≠ 0 ∧ inR (Int.tdiv x21 x14) ∧ (∀ v31 : Int, v31 = (Int.tdiv x21 x14) → (x14 ≠ 0 ∧ inR (Int.tdiv x22 x14) ∧ wp_X10_isOne σ23 (Int.tdiv x22 x14) (fun (z35 : Int) (σ34 : SG) => ((z35 = 0 → rec24 v31 x22 σ34) ∧ (¬ z35 = 0 → (x14 ≠ 0 ∧ inR (Int.tdiv x22 x14) ∧ (∀ v38 : Int, v38 = (Int.tdiv x22 x14) → rec24 v31 v38 σ34)))))))))))) x15 x16 σ17))) 2 x6 x6 σ12) ∧ (z13 = 0 → Q (-5) σ12))))) ∧ (¬ 6 < x4 → (inR (x5 * (σ7 305 0)) ∧ (∀ v48 : Int, v48 = x5 * (σ7 305 0) → ((0 ≤ x4 ∧ x4 < 7) ∧ (((σ7 315 x4.toNat) ≤ 0 → (inR (x4 + 1) ∧ rec8 (x4 + 1) v48 x6 σ7)) ∧ (¬ (σ7 315 x4.toNat) ≤ 0 → (inR (v48 - 1) ∧ wp_X10_divisor σ7 x6 (v48 - 1) (fun (z53 : Int) (σ52 : SG) => (z53 ≠ 0 ∧ inR (Int.tdiv x6 z53) ∧ (inR (v48 - 1) ∧ (inR ((Int.tdiv x6 z53) * (v48 - 1)) ∧ (∀ v58 : Int, v58 = (Int.tdiv x6 z53) * (v48 - 1) → (inR (x4 + 1) ∧ rec8 (x4 + 1) v48 v58 σ52))))))))))))))) 1 1 1 σ3)) ∧ (¬ z2 = 0 → Q (-1) σ1)))
def rm_X10_order : Room := { frames := 6, cells := 0, slots := 0, locals := 143 }
theorem wy_X10_order : Cond.instanceMethod yX10_order ∈ WS ∧ Cond.selects "SplitTowersModel" yX10_order yX10_order ∈ WS ∧ Cond.initialized "SplitTowersModel" ∈ WS ∧ Cond.code yX10_order prog_12_method_80_code 6 (some .int) ∈ WS := ⟨w1220, w1221, w79, w1222⟩
theorem hd_X10_order : yX10_order.cls = "SplitTowersModel" ∧ yX10_order.cls ≠ "java/lang/invoke/MethodHandle" ∧ yX10_order.cls ≠ "java/lang/invoke/VarHandle" ∧ (parseMethodDescriptor yX10_order.desc).map (fun d => d.parameters.length) = some 1 := by decide +kernel
set_option maxHeartbeats 4000000 in
set_option maxRecDepth 100000 in
theorem s_X10_order {l : Launch} {D : va_G} {aC : Nat → ClassId} {B lo hi : Nat} {σ : SG} {a1 : Int} {Q : Int → SG → Prop} (hlo : lo ≤ 304) (hhi : 316 ≤ hi) (r1 : inR a1) (h : wp_X10_order σ a1 Q) : Met l yX10_order (Cond.code yX10_order prog_12_method_80_code 6 (some .int) :: WS) rm_X10_order (va_Pc [.ref (B + 304), .int (iI a1)] (WP D aC B lo hi σ)) (QI D aC B lo hi Q) 0 0 (AB B lo hi) := by
  refine met_of (by decide +kernel) (by decide +kernel : yX10_order.cls = "SplitTowersModel") (Nat.le_of_ble_eq_true rfl) ?_
  intro p e s m args below meth c C
  unfold wp_X10_order at h
  refine v_R (fun hR0 => ?_)
  show V p l e rm_X10_order s m args below meth c D aC B lo hi 6 (MQ below (QI D aC B lo hi Q) args s 0 0 (AB B lo hi)) σ 0 [(0, .ref (B + 304)), (1, .int (iI a1))] []
  refine v_iload_n C 1 dX10_order_0 rfl rfl ?_
  refine v_callsi (As := [.int (iI a1)]) (rest := []) C (s_X10_noRegister hlo hhi r1 h) w1015 wy_X10_noRegister ⟨rfl, rfl⟩ hd_X10_noRegister ⟨Nat.le_of_ble_eq_true rfl, Nat.le_of_ble_eq_true rfl⟩ rfl rfl (Nat.le_of_ble_eq_true rfl) dX10_order_1 (fun z2 σ1 rz2 h => ?_)
  refine v_R (fun hRσ1 => ?_)
  refine v_if_eq C rz2 9 dX10_order_4 (by decide) (fun c64 => ?_) (fun c64 => ?_)
  · have h := h.1 c64
    refine v_aload_n C 0 dX10_order_9 rfl rfl ?_
    refine v_callv (i := 304) (As := []) (rest := []) C (s_X10_countsFactors hlo hhi h) w1223 wy_X10_countsFactors ⟨rfl, rfl⟩ hd_X10_countsFactors ⟨Nat.le_of_ble_eq_true rfl, Nat.le_of_ble_eq_true rfl⟩ (Nat.le_trans hlo (by decide)) (Nat.lt_of_lt_of_le (by decide) hhi) rfl rfl rfl rfl (Nat.le_of_ble_eq_true rfl) dX10_order_10 (fun σ3 h => ?_)
    refine v_R (fun hRσ3 => ?_)
    refine v_iconst C dX10_order_13 ?_
    refine v_istore_n (lv' := [(2, .int (iI 1)), (0, .ref (B + 304)), (1, .int (iI a1))]) C dX10_order_14 rfl (by decide) rfl ?_
    refine v_iconst C dX10_order_15 ?_
    refine v_istore_n (lv' := [(3, .int (iI 1)), (2, .int (iI 1)), (0, .ref (B + 304)), (1, .int (iI a1))]) C dX10_order_16 rfl (by decide) rfl ?_
    refine v_iconst C dX10_order_17 ?_
    refine v_istore (lv' := [(4, .int (iI 1)), (3, .int (iI 1)), (2, .int (iI 1)), (0, .ref (B + 304)), (1, .int (iI a1))]) C dX10_order_18 (by decide) rfl ?_
    obtain ⟨I62, ⟨n63, hnn63⟩, hII62⟩ := h
    have key10 : ∀ (n : Nat) (x4 : Int) (x5 : Int) (x6 : Int) (σ7 : SG), I62 n x4 x5 x6 σ7 → inR x4 → inR x5 → inR x6 → V p l e rm_X10_order s m args below meth c D aC B lo hi 6 (MQ below (QI D aC B lo hi Q) args s 0 0 (AB B lo hi)) σ7 20 [(4, .int (iI x4)), (3, .int (iI x5)), (2, .int (iI x6)), (0, .ref (B + 304)), (1, .int (iI a1))] [] := by
      intro n
      induction n using Nat.strongRecOn with
      | ind n ih9 =>
        intro x4 x5 x6 σ7 hn rx4 rx5 rx6
        have h := hII62 n x4 x5 x6 σ7 hn
        refine v_R (fun hRσ7 => ?_)
        refine v_iload C 0 dX10_order_20 rfl ?_
        refine v_bipush C dX10_order_22 (by decide) ?_
        refine v_icmp_gt C rx4 (by decide) 70 dX10_order_24 (by decide) (fun c61 => ?_) (fun c61 => ?_)
        · have h := h.1 c61
          refine v_aload_n C 3 dX10_order_70 rfl rfl ?_
          refine v_iload_n C 4 dX10_order_71 rfl rfl ?_
          refine v_iconst C dX10_order_72 ?_
          refine v_callv (i := 304) (As := [.int (iI a1), .int (iI 2)]) (rest := []) C (s_X10_loadsNumber hlo hhi r1 (by decide) h) w991 wy_X10_loadsNumber ⟨rfl, rfl⟩ hd_X10_loadsNumber ⟨Nat.le_of_ble_eq_true rfl, Nat.le_of_ble_eq_true rfl⟩ (Nat.le_trans hlo (by decide)) (Nat.lt_of_lt_of_le (by decide) hhi) rfl rfl rfl rfl (Nat.le_of_ble_eq_true rfl) dX10_order_73 (fun σ11 h => ?_)
          refine v_R (fun hRσ11 => ?_)
          refine v_aload_n C 3 dX10_order_76 rfl rfl ?_
          refine v_iload_n C 2 dX10_order_77 rfl rfl ?_
          refine v_calli (i := 304) (As := [.int (iI x6)]) (rest := []) C (s_X10_isOne hlo hhi rx6 h) w1230 wy_X10_isOne ⟨rfl, rfl⟩ hd_X10_isOne ⟨Nat.le_of_ble_eq_true rfl, Nat.le_of_ble_eq_true rfl⟩ (Nat.le_trans hlo (by decide)) (Nat.lt_of_lt_of_le (by decide) hhi) rfl rfl rfl rfl (Nat.le_of_ble_eq_true rfl) dX10_order_78 (fun z13 σ12 rz13 h => ?_)
          refine v_R (fun hRσ12 => ?_)
          refine v_if_ne C rz13 87 dX10_order_81 (by decide) (fun c46 => ?_) (fun c46 => ?_)
          · have h := h.1 c46
            refine v_iload_n C 2 dX10_order_87 rfl rfl ?_
            refine v_istore (lv' := [(4, .int (iI x6)), (3, .int (iI x5)), (2, .int (iI x6)), (0, .ref (B + 304)), (1, .int (iI a1))]) C dX10_order_88 (by decide) rfl ?_
            refine v_iconst C dX10_order_90 ?_
            refine v_istore (lv' := [(5, .int (iI 2)), (4, .int (iI x6)), (3, .int (iI x5)), (2, .int (iI x6)), (0, .ref (B + 304)), (1, .int (iI a1))]) C dX10_order_91 (by decide) rfl ?_
            obtain ⟨I44, ⟨n45, hnn45⟩, hII44⟩ := h
            have key20 : ∀ (n : Nat) (x14 : Int) (x15 : Int) (x16 : Int) (σ17 : SG), I44 n x14 x15 x16 σ17 → inR x14 → inR x15 → inR x16 → V p l e rm_X10_order s m args below meth c D aC B lo hi 6 (MQ below (QI D aC B lo hi Q) args s 0 0 (AB B lo hi)) σ17 93 [(5, .int (iI x14)), (4, .int (iI x15)), (2, .int (iI x16)), (0, .ref (B + 304))] [] := by
              intro n
              induction n using Nat.strongRecOn with
              | ind n ih19 =>
                intro x14 x15 x16 σ17 hn rx14 rx15 rx16
                have h := hII44 n x14 x15 x16 σ17 hn
                refine v_R (fun hRσ17 => ?_)
                refine v_iload C 1 dX10_order_93 rfl ?_
                refine v_iconst C dX10_order_95 ?_
                refine v_icmp_le C rx15 (by decide) 143 dX10_order_96 (by decide) (fun c43 => ?_) (fun c43 => ?_)
                · have h := h.1 c43
                  refine v_iload_n C 2 dX10_order_143 rfl rfl ?_
                  exact v_iret C rx16 h dX10_order_144
                · have h := h.2 c43
                  obtain ⟨I41, ⟨n42, hnn42⟩, hII41⟩ := h
                  have key26 : ∀ (n : Nat) (x21 : Int) (x22 : Int) (σ23 : SG), I41 n x21 x22 σ23 → inR x21 → inR x22 → V p l e rm_X10_order s m args below meth c D aC B lo hi 6 (MQ below (QI D aC B lo hi Q) args s 0 0 (AB B lo hi)) σ23 99 [(5, .int (iI x14)), (4, .int (iI x21)), (2, .int (iI x22)), (0, .ref (B + 304))] [] := by
                    intro n
                    induction n using Nat.strongRecOn with
                    | ind n ih25 =>
                      intro x21 x22 σ23 hn rx21 rx22
                      have h := hII41 n x21 x22 σ23 hn
                      refine v_R (fun hRσ23 => ?_)
                      refine v_iload C 1 dX10_order_99 rfl ?_
                      refine v_iload C 0 dX10_order_101 rfl ?_
                      have k27 := h.1
                      have h := h.2
                      refine v_irem C rx21 rx14 k27 dX10_order_103 ?_
                      refine v_if_ne C (inR_tmod rx21) 137 dX10_order_104 (by decide) (fun c40 => ?_) (fun c40 => ?_)
                      · have h := h.1 c40
                        have k28 := h.1
                        have h := h.2
                        refine v_iinc (lv' := [(5, .int (iI (x14 + 1))), (4, .int (iI x21)), (2, .int (iI x22)), (0, .ref (B + 304))]) C 0 dX10_order_137 rfl (by decide) rfl ?_
                        refine v_goto C 93 dX10_order_140 (by decide) ?_
                        obtain ⟨m9, hm9, h⟩ := h
                        exact ih19 m9 hm9 (x14 + 1) x21 x22 σ23 h k28 rx21 rx22
                      · have h := h.2 c40
                        refine v_iload C 1 dX10_order_107 rfl ?_
                        refine v_iload C 0 dX10_order_109 rfl ?_
                        have k29 := h.1
                        have h := h.2
                        have k30 := h.1
                        have h := h.2
                        refine v_idiv C rx21 rx14 k29 dX10_order_111 ?_
                        refine v_name (fun v31 ev31 => ?_)
                        have h := h v31 ev31
                        have rv31 : inR v31 := by rw [ev31]; exact k30
                        refine v_istore (lv' := [(4, .int (iI v31)), (5, .int (iI x14)), (2, .int (iI x22)), (0, .ref (B + 304))]) C dX10_order_112 (by decide) rfl ?_
                        refine v_aload_n C 3 dX10_order_114 rfl rfl ?_
                        refine v_iload_n C 2 dX10_order_115 rfl rfl ?_
                        refine v_iload C 1 dX10_order_116 rfl ?_
                        have k32 := h.1
                        have h := h.2
                        have k33 := h.1
                        have h := h.2
                        refine v_idiv C rx22 rx14 k32 dX10_order_118 ?_
                        refine v_calli (i := 304) (As := [.int (iI (Int.tdiv x22 x14))]) (rest := []) C (s_X10_isOne hlo hhi k33 h) w1230 wy_X10_isOne ⟨rfl, rfl⟩ hd_X10_isOne ⟨Nat.le_of_ble_eq_true rfl, Nat.le_of_ble_eq_true rfl⟩ (Nat.le_trans hlo (by decide)) (Nat.lt_of_lt_of_le (by decide) hhi) rfl rfl rfl rfl (Nat.le_of_ble_eq_true rfl) dX10_order_119 (fun z35 σ34 rz35 h => ?_)
                        refine v_R (fun hRσ34 => ?_)
                        refine v_if_eq C rz35 132 dX10_order_122 (by decide) (fun c39 => ?_) (fun c39 => ?_)
                        · have h := h.1 c39
                          refine v_iload_n C 2 dX10_order_132 rfl rfl ?_
                          refine v_istore_n (lv' := [(2, .int (iI x22)), (4, .int (iI v31)), (5, .int (iI x14)), (0, .ref (B + 304))]) C dX10_order_133 rfl (by decide) rfl ?_
                          refine v_goto C 99 dX10_order_134 (by decide) ?_
                          obtain ⟨m9, hm9, h⟩ := h
                          refine v_sub [2, 1, 0, 3] rfl ?_
                          exact ih25 m9 hm9 v31 x22 σ34 h rv31 rx22
                        · have h := h.2 c39
                          refine v_iload_n C 2 dX10_order_125 rfl rfl ?_
                          refine v_iload C 1 dX10_order_126 rfl ?_
                          have k36 := h.1
                          have h := h.2
                          have k37 := h.1
                          have h := h.2
                          refine v_idiv C rx22 rx14 k36 dX10_order_128 ?_
                          refine v_goto C 133 dX10_order_129 (by decide) ?_
                          refine v_name (fun v38 ev38 => ?_)
                          have h := h v38 ev38
                          have rv38 : inR v38 := by rw [ev38]; exact k37
                          refine v_istore_n (lv' := [(2, .int (iI v38)), (4, .int (iI v31)), (5, .int (iI x14)), (0, .ref (B + 304))]) C dX10_order_133 rfl (by decide) rfl ?_
                          refine v_goto C 99 dX10_order_134 (by decide) ?_
                          obtain ⟨m9, hm9, h⟩ := h
                          refine v_sub [2, 1, 0, 3] rfl ?_
                          exact ih25 m9 hm9 v31 v38 σ34 h rv31 rv38
                  exact key26 n42 x15 x16 σ17 hnn42 rx15 rx16
            refine v_sub [0, 1, 3, 4] rfl ?_
            exact key20 n45 2 x6 x6 σ12 hnn45 (by decide) rx6 rx6
          · have h := h.2 c46
            refine v_bipush C dX10_order_84 (by decide) ?_
            exact v_iret C (by decide) h dX10_order_86
        · have h := h.2 c61
          refine v_iload_n C 1 dX10_order_27 rfl rfl ?_
          refine v_aload_n C 3 dX10_order_28 rfl rfl ?_
          refine gf10_now C hlo hhi w877 dX10_order_29 ?_
          refine v_iconst C dX10_order_32 ?_
          refine v_iald (i := 305) (n := 87) C (Nat.le_trans hlo (by decide)) (Nat.lt_of_lt_of_le (by decide) hhi) rfl (by decide) ⟨by decide, by decide⟩ dX10_order_33 ?_
          have k47 := h.1
          have h := h.2
          refine v_imul C dX10_order_34 ?_
          refine v_name (fun v48 ev48 => ?_)
          have h := h v48 ev48
          have rv48 : inR v48 := by rw [ev48]; exact k47
          refine v_istore_n (lv' := [(3, .int (iI v48)), (4, .int (iI x4)), (2, .int (iI x6)), (0, .ref (B + 304)), (1, .int (iI a1))]) C dX10_order_35 rfl (by decide) rfl ?_
          refine v_aload_n C 3 dX10_order_36 rfl rfl ?_
          refine gf10_factors C hlo hhi w891 dX10_order_37 ?_
          refine v_iload C 1 dX10_order_40 rfl ?_
          have k49 := h.1
          have h := h.2
          refine v_iald (i := 315) (n := 7) C (Nat.le_trans hlo (by decide)) (Nat.lt_of_lt_of_le (by decide) hhi) rfl rx4 k49 dX10_order_42 ?_
          refine v_if_le C (hRσ7 315 _) 62 dX10_order_43 (by decide) (fun c60 => ?_) (fun c60 => ?_)
          · have h := h.1 c60
            refine v_iload_n C 2 dX10_order_62 rfl rfl ?_
            refine v_istore_n (lv' := [(2, .int (iI x6)), (3, .int (iI v48)), (4, .int (iI x4)), (0, .ref (B + 304)), (1, .int (iI a1))]) C dX10_order_63 rfl (by decide) rfl ?_
            have k50 := h.1
            have h := h.2
            refine v_iinc (lv' := [(4, .int (iI (x4 + 1))), (2, .int (iI x6)), (3, .int (iI v48)), (0, .ref (B + 304)), (1, .int (iI a1))]) C 2 dX10_order_64 rfl (by decide) rfl ?_
            refine v_goto C 20 dX10_order_67 (by decide) ?_
            obtain ⟨m9, hm9, h⟩ := h
            refine v_sub [0, 2, 1, 3, 4] rfl ?_
            exact ih9 m9 hm9 (x4 + 1) v48 x6 σ7 h k50 rv48 rx6
          · have h := h.2 c60
            refine v_iload_n C 2 dX10_order_46 rfl rfl ?_
            refine v_iload_n C 2 dX10_order_47 rfl rfl ?_
            refine v_iload_n C 0 dX10_order_48 rfl rfl ?_
            refine v_iconst C dX10_order_49 ?_
            have k51 := h.1
            have h := h.2
            refine v_isub C dX10_order_50 ?_
            refine v_callsi (As := [.int (iI x6), .int (iI (v48 - 1))]) (rest := [.int (iI x6)]) C (s_X10_divisor hlo hhi rx6 k51 h) w1227 wy_X10_divisor ⟨rfl, rfl⟩ hd_X10_divisor ⟨Nat.le_of_ble_eq_true rfl, Nat.le_of_ble_eq_true rfl⟩ rfl rfl (Nat.le_of_ble_eq_true rfl) dX10_order_51 (fun z53 σ52 rz53 h => ?_)
            refine v_R (fun hRσ52 => ?_)
            have k54 := h.1
            have h := h.2
            have k55 := h.1
            have h := h.2
            refine v_idiv C rx6 rz53 k54 dX10_order_54 ?_
            refine v_iload_n C 0 dX10_order_55 rfl rfl ?_
            refine v_iconst C dX10_order_56 ?_
            have k56 := h.1
            have h := h.2
            refine v_isub C dX10_order_57 ?_
            have k57 := h.1
            have h := h.2
            refine v_imul C dX10_order_58 ?_
            refine v_goto C 63 dX10_order_59 (by decide) ?_
            refine v_name (fun v58 ev58 => ?_)
            have h := h v58 ev58
            have rv58 : inR v58 := by rw [ev58]; exact k57
            refine v_istore_n (lv' := [(2, .int (iI v58)), (3, .int (iI v48)), (4, .int (iI x4)), (0, .ref (B + 304)), (1, .int (iI a1))]) C dX10_order_63 rfl (by decide) rfl ?_
            have k59 := h.1
            have h := h.2
            refine v_iinc (lv' := [(4, .int (iI (x4 + 1))), (2, .int (iI v58)), (3, .int (iI v48)), (0, .ref (B + 304)), (1, .int (iI a1))]) C 2 dX10_order_64 rfl (by decide) rfl ?_
            refine v_goto C 20 dX10_order_67 (by decide) ?_
            obtain ⟨m9, hm9, h⟩ := h
            refine v_sub [0, 2, 1, 3, 4] rfl ?_
            exact ih9 m9 hm9 (x4 + 1) v48 v58 σ52 h k59 rv48 rv58
    exact key10 n63 1 1 1 σ3 hnn63 (by decide) (by decide) (by decide)
  · have h := h.2 c64
    refine v_iconst C dX10_order_7 ?_
    exact v_iret C (by decide) h dX10_order_8
-- SplitTowersModel.remembers()V
def wp_X10_remembers (σ : SG)  (Q : SG → Prop) : Prop :=
  Lp1 (fun (rec3 : Int → SG → Prop) (x1 : Int) (σ2 : SG) => ((87 ≤ x1 → Q σ2) ∧ (¬ 87 ≤ x1 → ((0 ≤ x1 ∧ x1 < 87) ∧ ((0 ≤ x1 ∧ x1 < 87) ∧ (∀ σ8 : SG, σ8 = ug σ2 310 x1.toNat (σ2 305 x1.toNat) → (inR (x1 + 1) ∧ rec3 (x1 + 1) σ8))))))) 0 σ
def rm_X10_remembers : Room := { frames := 0, cells := 0, slots := 0, locals := 0 }
theorem wy_X10_remembers : Cond.instanceMethod yX10_remembers ∈ WS ∧ Cond.selects "SplitTowersModel" yX10_remembers yX10_remembers ∈ WS ∧ Cond.initialized "SplitTowersModel" ∈ WS ∧ Cond.code yX10_remembers prog_12_method_44_code 2 none ∈ WS := ⟨w1072, w44, w79, w1073⟩
theorem hd_X10_remembers : yX10_remembers.cls = "SplitTowersModel" ∧ yX10_remembers.cls ≠ "java/lang/invoke/MethodHandle" ∧ yX10_remembers.cls ≠ "java/lang/invoke/VarHandle" ∧ (parseMethodDescriptor yX10_remembers.desc).map (fun d => d.parameters.length) = some 0 := by decide +kernel
set_option maxHeartbeats 4000000 in
set_option maxRecDepth 100000 in
theorem s_X10_remembers {l : Launch} {D : va_G} {aC : Nat → ClassId} {B lo hi : Nat} {σ : SG}  {Q : SG → Prop} (hlo : lo ≤ 304) (hhi : 316 ≤ hi) (h : wp_X10_remembers σ  Q) : Met l yX10_remembers (Cond.code yX10_remembers prog_12_method_44_code 2 none :: WS) rm_X10_remembers (va_Pc [.ref (B + 304)] (WP D aC B lo hi σ)) (QV D aC B lo hi Q) 0 0 (AB B lo hi) := by
  refine met_of (by decide +kernel) (by decide +kernel : yX10_remembers.cls = "SplitTowersModel") (Nat.le_of_ble_eq_true rfl) ?_
  intro p e s m args below meth c C
  unfold wp_X10_remembers at h
  refine v_R (fun hR0 => ?_)
  show V p l e rm_X10_remembers s m args below meth c D aC B lo hi 2 (MQ below (QV D aC B lo hi Q) args s 0 0 (AB B lo hi)) σ 0 [(0, .ref (B + 304))] []
  refine v_iconst C dX10_remembers_0 ?_
  refine v_istore_n (lv' := [(1, .int (iI 0)), (0, .ref (B + 304))]) C dX10_remembers_1 rfl (by decide) rfl ?_
  obtain ⟨I11, ⟨n12, hnn12⟩, hII11⟩ := h
  have key5 : ∀ (n : Nat) (x1 : Int) (σ2 : SG), I11 n x1 σ2 → inR x1 → V p l e rm_X10_remembers s m args below meth c D aC B lo hi 2 (MQ below (QV D aC B lo hi Q) args s 0 0 (AB B lo hi)) σ2 2 [(1, .int (iI x1)), (0, .ref (B + 304))] [] := by
    intro n
    induction n using Nat.strongRecOn with
    | ind n ih4 =>
      intro x1 σ2 hn rx1
      have h := hII11 n x1 σ2 hn
      refine v_R (fun hRσ2 => ?_)
      refine v_iload_n C 0 dX10_remembers_2 rfl rfl ?_
      refine v_bipush C dX10_remembers_3 (by decide) ?_
      refine v_icmp_ge C rx1 (by decide) 26 dX10_remembers_5 (by decide) (fun c10 => ?_) (fun c10 => ?_)
      · have h := h.1 c10
        exact v_vret C h dX10_remembers_26
      · have h := h.2 c10
        refine v_aload_n C 1 dX10_remembers_8 rfl rfl ?_
        refine gf10_before C hlo hhi w884 dX10_remembers_9 ?_
        refine v_iload_n C 0 dX10_remembers_12 rfl rfl ?_
        refine v_aload_n C 1 dX10_remembers_13 rfl rfl ?_
        refine gf10_now C hlo hhi w877 dX10_remembers_14 ?_
        refine v_iload_n C 0 dX10_remembers_17 rfl rfl ?_
        have k6 := h.1
        have h := h.2
        refine v_iald (i := 305) (n := 87) C (Nat.le_trans hlo (by decide)) (Nat.lt_of_lt_of_le (by decide) hhi) rfl rx1 k6 dX10_remembers_18 ?_
        have k7 := h.1
        have h := h.2
        refine v_iast (i := 310) (n := 87) C (Nat.le_trans hlo (by decide)) (Nat.lt_of_lt_of_le (by decide) hhi) (fun _ => rfl) rx1 k7 (hRσ2 305 _) dX10_remembers_19 ?_
        refine v_nameS (fun σ8 eσ8 => ?_)
        have h := h σ8 eσ8
        refine v_R (fun hRσ8 => ?_)
        have k9 := h.1
        have h := h.2
        refine v_iinc (lv' := [(1, .int (iI (x1 + 1))), (0, .ref (B + 304))]) C 0 dX10_remembers_20 rfl (by decide) rfl ?_
        refine v_goto C 2 dX10_remembers_23 (by decide) ?_
        obtain ⟨m9, hm9, h⟩ := h
        exact ih4 m9 hm9 (x1 + 1) σ8 h k9
  exact key5 n12 0 σ hnn12 (by decide)
-- SplitTowersModel.recordsBefore()V
def wp_X10_recordsBefore (σ : SG)  (Q : SG → Prop) : Prop :=
  Lp1 (fun (rec3 : Int → SG → Prop) (x1 : Int) (σ2 : SG) => ((87 ≤ x1 → wp_X10_record σ2 (fun (σ6 : SG) => Lp1 (fun (rec9 : Int → SG → Prop) (x7 : Int) (σ8 : SG) => ((87 ≤ x7 → Q σ8) ∧ (¬ 87 ≤ x7 → ((0 ≤ x7 ∧ x7 < 87) ∧ ((0 ≤ x7 ∧ x7 < 87) ∧ (∀ σ14 : SG, σ14 = ug σ8 305 x7.toNat (σ8 310 x7.toNat) → (inR (x7 + 1) ∧ rec9 (x7 + 1) σ14))))))) 0 σ6)) ∧ (¬ 87 ≤ x1 → ((0 ≤ x1 ∧ x1 < 87) ∧ (∀ v20 : Int, v20 = (σ2 305 x1.toNat) → ((0 ≤ x1 ∧ x1 < 87) ∧ ((0 ≤ x1 ∧ x1 < 87) ∧ (∀ σ23 : SG, σ23 = ug σ2 305 x1.toNat (σ2 310 x1.toNat) → ((0 ≤ x1 ∧ x1 < 87) ∧ (∀ σ25 : SG, σ25 = ug σ23 310 x1.toNat v20 → (inR (x1 + 1) ∧ rec3 (x1 + 1) σ25))))))))))) 0 σ
def rm_X10_recordsBefore : Room := { frames := 1, cells := 0, slots := 0, locals := 21 }
theorem wy_X10_recordsBefore : Cond.instanceMethod yX10_recordsBefore ∈ WS ∧ Cond.selects "SplitTowersModel" yX10_recordsBefore yX10_recordsBefore ∈ WS ∧ Cond.initialized "SplitTowersModel" ∈ WS ∧ Cond.code yX10_recordsBefore prog_12_method_45_code 3 none ∈ WS := ⟨w1092, w49, w79, w1093⟩
theorem hd_X10_recordsBefore : yX10_recordsBefore.cls = "SplitTowersModel" ∧ yX10_recordsBefore.cls ≠ "java/lang/invoke/MethodHandle" ∧ yX10_recordsBefore.cls ≠ "java/lang/invoke/VarHandle" ∧ (parseMethodDescriptor yX10_recordsBefore.desc).map (fun d => d.parameters.length) = some 0 := by decide +kernel
set_option maxHeartbeats 4000000 in
set_option maxRecDepth 100000 in
theorem s_X10_recordsBefore {l : Launch} {D : va_G} {aC : Nat → ClassId} {B lo hi : Nat} {σ : SG}  {Q : SG → Prop} (hlo : lo ≤ 304) (hhi : 316 ≤ hi) (h : wp_X10_recordsBefore σ  Q) : Met l yX10_recordsBefore (Cond.code yX10_recordsBefore prog_12_method_45_code 3 none :: WS) rm_X10_recordsBefore (va_Pc [.ref (B + 304)] (WP D aC B lo hi σ)) (QV D aC B lo hi Q) 0 0 (AB B lo hi) := by
  refine met_of (by decide +kernel) (by decide +kernel : yX10_recordsBefore.cls = "SplitTowersModel") (Nat.le_of_ble_eq_true rfl) ?_
  intro p e s m args below meth c C
  unfold wp_X10_recordsBefore at h
  refine v_R (fun hR0 => ?_)
  show V p l e rm_X10_recordsBefore s m args below meth c D aC B lo hi 3 (MQ below (QV D aC B lo hi Q) args s 0 0 (AB B lo hi)) σ 0 [(0, .ref (B + 304))] []
  refine v_iconst C dX10_recordsBefore_0 ?_
  refine v_istore_n (lv' := [(1, .int (iI 0)), (0, .ref (B + 304))]) C dX10_recordsBefore_1 rfl (by decide) rfl ?_
  obtain ⟨I28, ⟨n29, hnn29⟩, hII28⟩ := h
  have key5 : ∀ (n : Nat) (x1 : Int) (σ2 : SG), I28 n x1 σ2 → inR x1 → V p l e rm_X10_recordsBefore s m args below meth c D aC B lo hi 3 (MQ below (QV D aC B lo hi Q) args s 0 0 (AB B lo hi)) σ2 2 [(1, .int (iI x1)), (0, .ref (B + 304))] [] := by
    intro n
    induction n using Nat.strongRecOn with
    | ind n ih4 =>
      intro x1 σ2 hn rx1
      have h := hII28 n x1 σ2 hn
      refine v_R (fun hRσ2 => ?_)
      refine v_iload_n C 0 dX10_recordsBefore_2 rfl rfl ?_
      refine v_bipush C dX10_recordsBefore_3 (by decide) ?_
      refine v_icmp_ge C rx1 (by decide) 40 dX10_recordsBefore_5 (by decide) (fun c27 => ?_) (fun c27 => ?_)
      · have h := h.1 c27
        refine v_aload_n C 1 dX10_recordsBefore_40 rfl rfl ?_
        refine v_callv (i := 304) (As := []) (rest := []) C (s_X10_record hlo hhi h) w928 wy_X10_record ⟨rfl, rfl⟩ hd_X10_record ⟨Nat.le_of_ble_eq_true rfl, Nat.le_of_ble_eq_true rfl⟩ (Nat.le_trans hlo (by decide)) (Nat.lt_of_lt_of_le (by decide) hhi) rfl rfl rfl rfl (Nat.le_of_ble_eq_true rfl) dX10_recordsBefore_41 (fun σ6 h => ?_)
        refine v_R (fun hRσ6 => ?_)
        refine v_iconst C dX10_recordsBefore_44 ?_
        refine v_istore_n (lv' := [(1, .int (iI 0)), (0, .ref (B + 304))]) C dX10_recordsBefore_45 rfl (by decide) rfl ?_
        obtain ⟨I17, ⟨n18, hnn18⟩, hII17⟩ := h
        have key11 : ∀ (n : Nat) (x7 : Int) (σ8 : SG), I17 n x7 σ8 → inR x7 → V p l e rm_X10_recordsBefore s m args below meth c D aC B lo hi 3 (MQ below (QV D aC B lo hi Q) args s 0 0 (AB B lo hi)) σ8 46 [(1, .int (iI x7)), (0, .ref (B + 304))] [] := by
          intro n
          induction n using Nat.strongRecOn with
          | ind n ih10 =>
            intro x7 σ8 hn rx7
            have h := hII17 n x7 σ8 hn
            refine v_R (fun hRσ8 => ?_)
            refine v_iload_n C 0 dX10_recordsBefore_46 rfl rfl ?_
            refine v_bipush C dX10_recordsBefore_47 (by decide) ?_
            refine v_icmp_ge C rx7 (by decide) 70 dX10_recordsBefore_49 (by decide) (fun c16 => ?_) (fun c16 => ?_)
            · have h := h.1 c16
              exact v_vret C h dX10_recordsBefore_70
            · have h := h.2 c16
              refine v_aload_n C 1 dX10_recordsBefore_52 rfl rfl ?_
              refine gf10_now C hlo hhi w877 dX10_recordsBefore_53 ?_
              refine v_iload_n C 0 dX10_recordsBefore_56 rfl rfl ?_
              refine v_aload_n C 1 dX10_recordsBefore_57 rfl rfl ?_
              refine gf10_before C hlo hhi w884 dX10_recordsBefore_58 ?_
              refine v_iload_n C 0 dX10_recordsBefore_61 rfl rfl ?_
              have k12 := h.1
              have h := h.2
              refine v_iald (i := 310) (n := 87) C (Nat.le_trans hlo (by decide)) (Nat.lt_of_lt_of_le (by decide) hhi) rfl rx7 k12 dX10_recordsBefore_62 ?_
              have k13 := h.1
              have h := h.2
              refine v_iast (i := 305) (n := 87) C (Nat.le_trans hlo (by decide)) (Nat.lt_of_lt_of_le (by decide) hhi) (fun _ => rfl) rx7 k13 (hRσ8 310 _) dX10_recordsBefore_63 ?_
              refine v_nameS (fun σ14 eσ14 => ?_)
              have h := h σ14 eσ14
              refine v_R (fun hRσ14 => ?_)
              have k15 := h.1
              have h := h.2
              refine v_iinc (lv' := [(1, .int (iI (x7 + 1))), (0, .ref (B + 304))]) C 0 dX10_recordsBefore_64 rfl (by decide) rfl ?_
              refine v_goto C 46 dX10_recordsBefore_67 (by decide) ?_
              obtain ⟨m9, hm9, h⟩ := h
              exact ih10 m9 hm9 (x7 + 1) σ14 h k15
        exact key11 n18 0 σ6 hnn18 (by decide)
      · have h := h.2 c27
        refine v_aload_n C 1 dX10_recordsBefore_8 rfl rfl ?_
        refine gf10_now C hlo hhi w877 dX10_recordsBefore_9 ?_
        refine v_iload_n C 0 dX10_recordsBefore_12 rfl rfl ?_
        have k19 := h.1
        have h := h.2
        refine v_iald (i := 305) (n := 87) C (Nat.le_trans hlo (by decide)) (Nat.lt_of_lt_of_le (by decide) hhi) rfl rx1 k19 dX10_recordsBefore_13 ?_
        refine v_name (fun v20 ev20 => ?_)
        have h := h v20 ev20
        have rv20 : inR v20 := by rw [ev20]; exact (hRσ2 305 _)
        refine v_istore_n (lv' := [(2, .int (iI v20)), (1, .int (iI x1)), (0, .ref (B + 304))]) C dX10_recordsBefore_14 rfl (by decide) rfl ?_
        refine v_aload_n C 2 dX10_recordsBefore_15 rfl rfl ?_
        refine gf10_now C hlo hhi w877 dX10_recordsBefore_16 ?_
        refine v_iload_n C 1 dX10_recordsBefore_19 rfl rfl ?_
        refine v_aload_n C 2 dX10_recordsBefore_20 rfl rfl ?_
        refine gf10_before C hlo hhi w884 dX10_recordsBefore_21 ?_
        refine v_iload_n C 1 dX10_recordsBefore_24 rfl rfl ?_
        have k21 := h.1
        have h := h.2
        refine v_iald (i := 310) (n := 87) C (Nat.le_trans hlo (by decide)) (Nat.lt_of_lt_of_le (by decide) hhi) rfl rx1 k21 dX10_recordsBefore_25 ?_
        have k22 := h.1
        have h := h.2
        refine v_iast (i := 305) (n := 87) C (Nat.le_trans hlo (by decide)) (Nat.lt_of_lt_of_le (by decide) hhi) (fun _ => rfl) rx1 k22 (hRσ2 310 _) dX10_recordsBefore_26 ?_
        refine v_nameS (fun σ23 eσ23 => ?_)
        have h := h σ23 eσ23
        refine v_R (fun hRσ23 => ?_)
        refine v_aload_n C 2 dX10_recordsBefore_27 rfl rfl ?_
        refine gf10_before C hlo hhi w884 dX10_recordsBefore_28 ?_
        refine v_iload_n C 1 dX10_recordsBefore_31 rfl rfl ?_
        refine v_iload_n C 0 dX10_recordsBefore_32 rfl rfl ?_
        have k24 := h.1
        have h := h.2
        refine v_iast (i := 310) (n := 87) C (Nat.le_trans hlo (by decide)) (Nat.lt_of_lt_of_le (by decide) hhi) (fun _ => rfl) rx1 k24 rv20 dX10_recordsBefore_33 ?_
        refine v_nameS (fun σ25 eσ25 => ?_)
        have h := h σ25 eσ25
        refine v_R (fun hRσ25 => ?_)
        have k26 := h.1
        have h := h.2
        refine v_iinc (lv' := [(1, .int (iI (x1 + 1))), (2, .int (iI v20)), (0, .ref (B + 304))]) C 1 dX10_recordsBefore_34 rfl (by decide) rfl ?_
        refine v_goto C 2 dX10_recordsBefore_37 (by decide) ?_
        obtain ⟨m9, hm9, h⟩ := h
        refine v_sub [0, 2] rfl ?_
        exact ih4 m9 hm9 (x1 + 1) σ25 h k26
  exact key5 n29 0 σ hnn29 (by decide)
-- SplitTowersModel.part(I)I
def wp_X10_part (σ : SG) (a1 : Int) (Q : Int → SG → Prop) : Prop :=
  wp_X10_noRegister σ a1 (fun (z2 : Int) (σ1 : SG) => ((z2 = 0 → wp_X10_remembers σ1 (fun (σ3 : SG) => wp_X10_loadsNumber σ3 a1 2 (fun (σ4 : SG) => wp_X10_parts σ4 2 (fun (z6 : Int) (σ5 : SG) => ((¬ z6 = 0 → wp_X10_recordsBefore σ5 (fun (σ7 : SG) => wp_X10_nothings σ7 a1 (fun (z9 : Int) (σ8 : SG) => Q z9 σ8))) ∧ (z6 = 0 → Q (-5) σ5)))))) ∧ (¬ z2 = 0 → Q (-1) σ1)))
def rm_X10_part : Room := { frames := 6, cells := 0, slots := 0, locals := 141 }
theorem wy_X10_part : Cond.instanceMethod yX10_part ∈ WS ∧ Cond.selects "SplitTowersModel" yX10_part yX10_part ∈ WS ∧ Cond.initialized "SplitTowersModel" ∈ WS ∧ Cond.code yX10_part prog_12_method_46_code 2 (some .int) ∈ WS := ⟨w1067, w1068, w79, w1069⟩
theorem hd_X10_part : yX10_part.cls = "SplitTowersModel" ∧ yX10_part.cls ≠ "java/lang/invoke/MethodHandle" ∧ yX10_part.cls ≠ "java/lang/invoke/VarHandle" ∧ (parseMethodDescriptor yX10_part.desc).map (fun d => d.parameters.length) = some 1 := by decide +kernel
set_option maxHeartbeats 4000000 in
set_option maxRecDepth 100000 in
theorem s_X10_part {l : Launch} {D : va_G} {aC : Nat → ClassId} {B lo hi : Nat} {σ : SG} {a1 : Int} {Q : Int → SG → Prop} (hlo : lo ≤ 304) (hhi : 316 ≤ hi) (r1 : inR a1) (h : wp_X10_part σ a1 Q) : Met l yX10_part (Cond.code yX10_part prog_12_method_46_code 2 (some .int) :: WS) rm_X10_part (va_Pc [.ref (B + 304), .int (iI a1)] (WP D aC B lo hi σ)) (QI D aC B lo hi Q) 0 0 (AB B lo hi) := by
  refine met_of (by decide +kernel) (by decide +kernel : yX10_part.cls = "SplitTowersModel") (Nat.le_of_ble_eq_true rfl) ?_
  intro p e s m args below meth c C
  unfold wp_X10_part at h
  refine v_R (fun hR0 => ?_)
  show V p l e rm_X10_part s m args below meth c D aC B lo hi 2 (MQ below (QI D aC B lo hi Q) args s 0 0 (AB B lo hi)) σ 0 [(0, .ref (B + 304)), (1, .int (iI a1))] []
  refine v_iload_n C 1 dX10_part_0 rfl rfl ?_
  refine v_callsi (As := [.int (iI a1)]) (rest := []) C (s_X10_noRegister hlo hhi r1 h) w1015 wy_X10_noRegister ⟨rfl, rfl⟩ hd_X10_noRegister ⟨Nat.le_of_ble_eq_true rfl, Nat.le_of_ble_eq_true rfl⟩ rfl rfl (Nat.le_of_ble_eq_true rfl) dX10_part_1 (fun z2 σ1 rz2 h => ?_)
  refine v_R (fun hRσ1 => ?_)
  refine v_if_eq C rz2 9 dX10_part_4 (by decide) (fun c11 => ?_) (fun c11 => ?_)
  · have h := h.1 c11
    refine v_aload_n C 0 dX10_part_9 rfl rfl ?_
    refine v_callv (i := 304) (As := []) (rest := []) C (s_X10_remembers hlo hhi h) w1070 wy_X10_remembers ⟨rfl, rfl⟩ hd_X10_remembers ⟨Nat.le_of_ble_eq_true rfl, Nat.le_of_ble_eq_true rfl⟩ (Nat.le_trans hlo (by decide)) (Nat.lt_of_lt_of_le (by decide) hhi) rfl rfl rfl rfl (Nat.le_of_ble_eq_true rfl) dX10_part_10 (fun σ3 h => ?_)
    refine v_R (fun hRσ3 => ?_)
    refine v_aload_n C 0 dX10_part_13 rfl rfl ?_
    refine v_iload_n C 1 dX10_part_14 rfl rfl ?_
    refine v_iconst C dX10_part_15 ?_
    refine v_callv (i := 304) (As := [.int (iI a1), .int (iI 2)]) (rest := []) C (s_X10_loadsNumber hlo hhi r1 (by decide) h) w991 wy_X10_loadsNumber ⟨rfl, rfl⟩ hd_X10_loadsNumber ⟨Nat.le_of_ble_eq_true rfl, Nat.le_of_ble_eq_true rfl⟩ (Nat.le_trans hlo (by decide)) (Nat.lt_of_lt_of_le (by decide) hhi) rfl rfl rfl rfl (Nat.le_of_ble_eq_true rfl) dX10_part_16 (fun σ4 h => ?_)
    refine v_R (fun hRσ4 => ?_)
    refine v_aload_n C 0 dX10_part_19 rfl rfl ?_
    refine v_iconst C dX10_part_20 ?_
    refine v_calli (i := 304) (As := [.int (iI 2)]) (rest := []) C (s_X10_parts hlo hhi (by decide) h) w1074 wy_X10_parts ⟨rfl, rfl⟩ hd_X10_parts ⟨Nat.le_of_ble_eq_true rfl, Nat.le_of_ble_eq_true rfl⟩ (Nat.le_trans hlo (by decide)) (Nat.lt_of_lt_of_le (by decide) hhi) rfl rfl rfl rfl (Nat.le_of_ble_eq_true rfl) dX10_part_21 (fun z6 σ5 rz6 h => ?_)
    refine v_R (fun hRσ5 => ?_)
    refine v_if_ne C rz6 30 dX10_part_24 (by decide) (fun c10 => ?_) (fun c10 => ?_)
    · have h := h.1 c10
      refine v_aload_n C 0 dX10_part_30 rfl rfl ?_
      refine v_callv (i := 304) (As := []) (rest := []) C (s_X10_recordsBefore hlo hhi h) w1090 wy_X10_recordsBefore ⟨rfl, rfl⟩ hd_X10_recordsBefore ⟨Nat.le_of_ble_eq_true rfl, Nat.le_of_ble_eq_true rfl⟩ (Nat.le_trans hlo (by decide)) (Nat.lt_of_lt_of_le (by decide) hhi) rfl rfl rfl rfl (Nat.le_of_ble_eq_true rfl) dX10_part_31 (fun σ7 h => ?_)
      refine v_R (fun hRσ7 => ?_)
      refine v_aload_n C 0 dX10_part_34 rfl rfl ?_
      refine v_iload_n C 1 dX10_part_35 rfl rfl ?_
      refine v_calli (i := 304) (As := [.int (iI a1)]) (rest := []) C (s_X10_nothings hlo hhi r1 h) w1094 wy_X10_nothings ⟨rfl, rfl⟩ hd_X10_nothings ⟨Nat.le_of_ble_eq_true rfl, Nat.le_of_ble_eq_true rfl⟩ (Nat.le_trans hlo (by decide)) (Nat.lt_of_lt_of_le (by decide) hhi) rfl rfl rfl rfl (Nat.le_of_ble_eq_true rfl) dX10_part_36 (fun z9 σ8 rz9 h => ?_)
      refine v_R (fun hRσ8 => ?_)
      exact v_iret C rz9 h dX10_part_39
    · have h := h.2 c10
      refine v_bipush C dX10_part_27 (by decide) ?_
      exact v_iret C (by decide) h dX10_part_29
  · have h := h.2 c11
    refine v_iconst C dX10_part_7 ?_
    exact v_iret C (by decide) h dX10_part_8
-- SplitTowersModel.partByDegrees()I
def wp_X10_partByDegrees (σ : SG)  (Q : Int → SG → Prop) : Prop :=
  wp_X10_remembers σ (fun (σ1 : SG) => (∀ v2 : Int, v2 = (σ1 305 44) → Lp1 (fun (rec5 : Int → SG → Prop) (x3 : Int) (σ4 : SG) => ((v2 ≤ x3 → ((¬ (σ4 305 44) = v2 → wp_X10_sorts σ4 (fun (σ8 : SG) => wp_X10_recordsBefore σ8 (fun (σ9 : SG) => Q (σ9 305 44) σ9))) ∧ ((σ4 305 44) = v2 → Q (-5) σ4))) ∧ (¬ v2 ≤ x3 → wp_X10_loadsBranch σ4 x3 1 (fun (σ11 : SG) => Lp2 (fun (rec15 : Int → Int → SG → Prop) (x12 : Int) (x13 : Int) (σ14 : SG) => ((6 < x12 → (inR (x3 + 1) ∧ rec5 (x3 + 1) σ14)) ∧ (¬ 6 < x12 → wp_X10_degree σ14 1 (fun (z20 : Int) (σ19 : SG) => ((z20 ≤ 0 → (inR (x3 + 1) ∧ rec5 (x3 + 1) σ19)) ∧ (¬ z20 ≤ 0 → wp_X10_takesDegree σ19 x12 4 (fun (σ22 : SG) => wp_X10_degree σ22 4 (fun (z24 : Int) (σ23 : SG) => ((z24 ≤ 0 → wp_X10_degree σ23 4 (fun (z26 : Int) (σ25 : SG) => ((z26 ≤ 0 → (inR (x12 + 1) ∧ rec15 (x12 + 1) x13 σ25)) ∧ (¬ z26 ≤ 0 → wp_X10_comes σ25 4 (fun (σ28 : SG) => (inR (x12 + 1) ∧ rec15 (x12 + 1) x13 σ28)))))) ∧ (¬ z24 ≤ 0 → ((x13 = 0 → wp_X10_degree σ23 4 (fun (z32 : Int) (σ31 : SG) => ((z32 ≤ 0 → (inR (x12 + 1) ∧ rec15 (x12 + 1) x13 σ31)) ∧ (¬ z32 ≤ 0 → wp_X10_comes σ31 4 (fun (σ34 : SG) => (inR (x12 + 1) ∧ rec15 (x12 + 1) x13 σ34)))))) ∧ (¬ x13 = 0 → wp_X10_lays σ23 4 x3 (fun (σ37 : SG) => (inR (x12 + 1) ∧ rec15 (x12 + 1) 0 σ37)))))))))))))) 1 1 σ11)))) 0 σ1))
def rm_X10_partByDegrees : Room := { frames := 5, cells := 0, slots := 0, locals := 122 }
theorem wy_X10_partByDegrees : Cond.instanceMethod yX10_partByDegrees ∈ WS ∧ Cond.selects "SplitTowersModel" yX10_partByDegrees yX10_partByDegrees ∈ WS ∧ Cond.initialized "SplitTowersModel" ∈ WS ∧ Cond.code yX10_partByDegrees prog_12_method_48_code 5 (some .int) ∈ WS := ⟨w1099, w1100, w79, w1101⟩
theorem hd_X10_partByDegrees : yX10_partByDegrees.cls = "SplitTowersModel" ∧ yX10_partByDegrees.cls ≠ "java/lang/invoke/MethodHandle" ∧ yX10_partByDegrees.cls ≠ "java/lang/invoke/VarHandle" ∧ (parseMethodDescriptor yX10_partByDegrees.desc).map (fun d => d.parameters.length) = some 0 := by decide +kernel
set_option maxHeartbeats 4000000 in
set_option maxRecDepth 100000 in
theorem s_X10_partByDegrees {l : Launch} {D : va_G} {aC : Nat → ClassId} {B lo hi : Nat} {σ : SG}  {Q : Int → SG → Prop} (hlo : lo ≤ 304) (hhi : 316 ≤ hi) (h : wp_X10_partByDegrees σ  Q) : Met l yX10_partByDegrees (Cond.code yX10_partByDegrees prog_12_method_48_code 5 (some .int) :: WS) rm_X10_partByDegrees (va_Pc [.ref (B + 304)] (WP D aC B lo hi σ)) (QI D aC B lo hi Q) 0 0 (AB B lo hi) := by
  refine met_of (by decide +kernel) (by decide +kernel : yX10_partByDegrees.cls = "SplitTowersModel") (Nat.le_of_ble_eq_true rfl) ?_
  intro p e s m args below meth c C
  unfold wp_X10_partByDegrees at h
  refine v_R (fun hR0 => ?_)
  show V p l e rm_X10_partByDegrees s m args below meth c D aC B lo hi 5 (MQ below (QI D aC B lo hi Q) args s 0 0 (AB B lo hi)) σ 0 [(0, .ref (B + 304))] []
  refine v_aload_n C 0 dX10_partByDegrees_0 rfl rfl ?_
  refine v_callv (i := 304) (As := []) (rest := []) C (s_X10_remembers hlo hhi h) w1070 wy_X10_remembers ⟨rfl, rfl⟩ hd_X10_remembers ⟨Nat.le_of_ble_eq_true rfl, Nat.le_of_ble_eq_true rfl⟩ (Nat.le_trans hlo (by decide)) (Nat.lt_of_lt_of_le (by decide) hhi) rfl rfl rfl rfl (Nat.le_of_ble_eq_true rfl) dX10_partByDegrees_1 (fun σ1 h => ?_)
  refine v_R (fun hRσ1 => ?_)
  refine v_aload_n C 0 dX10_partByDegrees_4 rfl rfl ?_
  refine gf10_now C hlo hhi w877 dX10_partByDegrees_5 ?_
  refine v_bipush C dX10_partByDegrees_8 (by decide) ?_
  refine v_iald (i := 305) (n := 87) C (Nat.le_trans hlo (by decide)) (Nat.lt_of_lt_of_le (by decide) hhi) rfl (by decide) ⟨by decide, by decide⟩ dX10_partByDegrees_10 ?_
  refine v_name (fun v2 ev2 => ?_)
  have h := h v2 ev2
  have rv2 : inR v2 := by rw [ev2]; exact (hRσ1 305 _)
  refine v_istore_n (lv' := [(1, .int (iI v2)), (0, .ref (B + 304))]) C dX10_partByDegrees_11 rfl (by decide) rfl ?_
  refine v_iconst C dX10_partByDegrees_12 ?_
  refine v_istore_n (lv' := [(2, .int (iI 0)), (1, .int (iI v2)), (0, .ref (B + 304))]) C dX10_partByDegrees_13 rfl (by decide) rfl ?_
  obtain ⟨I46, ⟨n47, hnn47⟩, hII46⟩ := h
  have key7 : ∀ (n : Nat) (x3 : Int) (σ4 : SG), I46 n x3 σ4 → inR x3 → V p l e rm_X10_partByDegrees s m args below meth c D aC B lo hi 5 (MQ below (QI D aC B lo hi Q) args s 0 0 (AB B lo hi)) σ4 14 [(2, .int (iI x3)), (1, .int (iI v2)), (0, .ref (B + 304))] [] := by
    intro n
    induction n using Nat.strongRecOn with
    | ind n ih6 =>
      intro x3 σ4 hn rx3
      have h := hII46 n x3 σ4 hn
      refine v_R (fun hRσ4 => ?_)
      refine v_iload_n C 0 dX10_partByDegrees_14 rfl rfl ?_
      refine v_iload_n C 1 dX10_partByDegrees_15 rfl rfl ?_
      refine v_icmp_ge C rx3 rv2 100 dX10_partByDegrees_16 (by decide) (fun c45 => ?_) (fun c45 => ?_)
      · have h := h.1 c45
        refine v_aload_n C 2 dX10_partByDegrees_100 rfl rfl ?_
        refine gf10_now C hlo hhi w877 dX10_partByDegrees_101 ?_
        refine v_bipush C dX10_partByDegrees_104 (by decide) ?_
        refine v_iald (i := 305) (n := 87) C (Nat.le_trans hlo (by decide)) (Nat.lt_of_lt_of_le (by decide) hhi) rfl (by decide) ⟨by decide, by decide⟩ dX10_partByDegrees_106 ?_
        refine v_iload_n C 1 dX10_partByDegrees_107 rfl rfl ?_
        refine v_icmp_ne C (hRσ4 305 _) rv2 114 dX10_partByDegrees_108 (by decide) (fun c10 => ?_) (fun c10 => ?_)
        · have h := h.1 c10
          refine v_aload_n C 2 dX10_partByDegrees_114 rfl rfl ?_
          refine v_callv (i := 304) (As := []) (rest := []) C (s_X10_sorts hlo hhi h) w1078 wy_X10_sorts ⟨rfl, rfl⟩ hd_X10_sorts ⟨Nat.le_of_ble_eq_true rfl, Nat.le_of_ble_eq_true rfl⟩ (Nat.le_trans hlo (by decide)) (Nat.lt_of_lt_of_le (by decide) hhi) rfl rfl rfl rfl (Nat.le_of_ble_eq_true rfl) dX10_partByDegrees_115 (fun σ8 h => ?_)
          refine v_R (fun hRσ8 => ?_)
          refine v_aload_n C 2 dX10_partByDegrees_118 rfl rfl ?_
          refine v_callv (i := 304) (As := []) (rest := []) C (s_X10_recordsBefore hlo hhi h) w1090 wy_X10_recordsBefore ⟨rfl, rfl⟩ hd_X10_recordsBefore ⟨Nat.le_of_ble_eq_true rfl, Nat.le_of_ble_eq_true rfl⟩ (Nat.le_trans hlo (by decide)) (Nat.lt_of_lt_of_le (by decide) hhi) rfl rfl rfl rfl (Nat.le_of_ble_eq_true rfl) dX10_partByDegrees_119 (fun σ9 h => ?_)
          refine v_R (fun hRσ9 => ?_)
          refine v_aload_n C 2 dX10_partByDegrees_122 rfl rfl ?_
          refine gf10_now C hlo hhi w877 dX10_partByDegrees_123 ?_
          refine v_bipush C dX10_partByDegrees_126 (by decide) ?_
          refine v_iald (i := 305) (n := 87) C (Nat.le_trans hlo (by decide)) (Nat.lt_of_lt_of_le (by decide) hhi) rfl (by decide) ⟨by decide, by decide⟩ dX10_partByDegrees_128 ?_
          exact v_iret C (hRσ9 305 _) h dX10_partByDegrees_129
        · have h := h.2 c10
          refine v_bipush C dX10_partByDegrees_111 (by decide) ?_
          exact v_iret C (by decide) h dX10_partByDegrees_113
      · have h := h.2 c45
        refine v_aload_n C 2 dX10_partByDegrees_19 rfl rfl ?_
        refine v_iload_n C 0 dX10_partByDegrees_20 rfl rfl ?_
        refine v_iconst C dX10_partByDegrees_21 ?_
        refine v_callv (i := 304) (As := [.int (iI x3), .int (iI 1)]) (rest := []) C (s_X10_loadsBranch hlo hhi rx3 (by decide) h) w1038 wy_X10_loadsBranch ⟨rfl, rfl⟩ hd_X10_loadsBranch ⟨Nat.le_of_ble_eq_true rfl, Nat.le_of_ble_eq_true rfl⟩ (Nat.le_trans hlo (by decide)) (Nat.lt_of_lt_of_le (by decide) hhi) rfl rfl rfl rfl (Nat.le_of_ble_eq_true rfl) dX10_partByDegrees_22 (fun σ11 h => ?_)
        refine v_R (fun hRσ11 => ?_)
        refine v_iconst C dX10_partByDegrees_25 ?_
        refine v_istore_n (lv' := [(3, .int (iI 1)), (2, .int (iI x3)), (1, .int (iI v2)), (0, .ref (B + 304))]) C dX10_partByDegrees_26 rfl (by decide) rfl ?_
        refine v_iconst C dX10_partByDegrees_27 ?_
        refine v_istore (lv' := [(4, .int (iI 1)), (3, .int (iI 1)), (2, .int (iI x3)), (1, .int (iI v2)), (0, .ref (B + 304))]) C dX10_partByDegrees_28 (by decide) rfl ?_
        obtain ⟨I43, ⟨n44, hnn44⟩, hII43⟩ := h
        have key17 : ∀ (n : Nat) (x12 : Int) (x13 : Int) (σ14 : SG), I43 n x12 x13 σ14 → inR x12 → inR x13 → V p l e rm_X10_partByDegrees s m args below meth c D aC B lo hi 5 (MQ below (QI D aC B lo hi Q) args s 0 0 (AB B lo hi)) σ14 30 [(4, .int (iI x12)), (3, .int (iI x13)), (2, .int (iI x3)), (1, .int (iI v2)), (0, .ref (B + 304))] [] := by
          intro n
          induction n using Nat.strongRecOn with
          | ind n ih16 =>
            intro x12 x13 σ14 hn rx12 rx13
            have h := hII43 n x12 x13 σ14 hn
            refine v_R (fun hRσ14 => ?_)
            refine v_iload C 0 dX10_partByDegrees_30 rfl ?_
            refine v_bipush C dX10_partByDegrees_32 (by decide) ?_
            refine v_icmp_gt C rx12 (by decide) 94 dX10_partByDegrees_34 (by decide) (fun c42 => ?_) (fun c42 => ?_)
            · have h := h.1 c42
              have k18 := h.1
              have h := h.2
              refine v_iinc (lv' := [(2, .int (iI (x3 + 1))), (4, .int (iI x12)), (3, .int (iI x13)), (1, .int (iI v2)), (0, .ref (B + 304))]) C 2 dX10_partByDegrees_94 rfl (by decide) rfl ?_
              refine v_goto C 14 dX10_partByDegrees_97 (by decide) ?_
              obtain ⟨m9, hm9, h⟩ := h
              refine v_sub [0, 3, 4] rfl ?_
              exact ih6 m9 hm9 (x3 + 1) σ14 h k18
            · have h := h.2 c42
              refine v_aload_n C 4 dX10_partByDegrees_37 rfl rfl ?_
              refine v_iconst C dX10_partByDegrees_38 ?_
              refine v_calli (i := 304) (As := [.int (iI 1)]) (rest := []) C (s_X10_degree hlo hhi (by decide) h) w975 wy_X10_degree ⟨rfl, rfl⟩ hd_X10_degree ⟨Nat.le_of_ble_eq_true rfl, Nat.le_of_ble_eq_true rfl⟩ (Nat.le_trans hlo (by decide)) (Nat.lt_of_lt_of_le (by decide) hhi) rfl rfl rfl rfl (Nat.le_of_ble_eq_true rfl) dX10_partByDegrees_39 (fun z20 σ19 rz20 h => ?_)
              refine v_R (fun hRσ19 => ?_)
              refine v_if_le C rz20 94 dX10_partByDegrees_42 (by decide) (fun c41 => ?_) (fun c41 => ?_)
              · have h := h.1 c41
                have k21 := h.1
                have h := h.2
                refine v_iinc (lv' := [(2, .int (iI (x3 + 1))), (4, .int (iI x12)), (3, .int (iI x13)), (1, .int (iI v2)), (0, .ref (B + 304))]) C 2 dX10_partByDegrees_94 rfl (by decide) rfl ?_
                refine v_goto C 14 dX10_partByDegrees_97 (by decide) ?_
                obtain ⟨m9, hm9, h⟩ := h
                refine v_sub [0, 3, 4] rfl ?_
                exact ih6 m9 hm9 (x3 + 1) σ19 h k21
              · have h := h.2 c41
                refine v_aload_n C 4 dX10_partByDegrees_45 rfl rfl ?_
                refine v_iload C 0 dX10_partByDegrees_46 rfl ?_
                refine v_iconst C dX10_partByDegrees_48 ?_
                refine v_callv (i := 304) (As := [.int (iI x12), .int (iI 4)]) (rest := []) C (s_X10_takesDegree hlo hhi rx12 (by decide) h) w1102 wy_X10_takesDegree ⟨rfl, rfl⟩ hd_X10_takesDegree ⟨Nat.le_of_ble_eq_true rfl, Nat.le_of_ble_eq_true rfl⟩ (Nat.le_trans hlo (by decide)) (Nat.lt_of_lt_of_le (by decide) hhi) rfl rfl rfl rfl (Nat.le_of_ble_eq_true rfl) dX10_partByDegrees_49 (fun σ22 h => ?_)
                refine v_R (fun hRσ22 => ?_)
                refine v_aload_n C 4 dX10_partByDegrees_52 rfl rfl ?_
                refine v_iconst C dX10_partByDegrees_53 ?_
                refine v_calli (i := 304) (As := [.int (iI 4)]) (rest := []) C (s_X10_degree hlo hhi (by decide) h) w975 wy_X10_degree ⟨rfl, rfl⟩ hd_X10_degree ⟨Nat.le_of_ble_eq_true rfl, Nat.le_of_ble_eq_true rfl⟩ (Nat.le_trans hlo (by decide)) (Nat.lt_of_lt_of_le (by decide) hhi) rfl rfl rfl rfl (Nat.le_of_ble_eq_true rfl) dX10_partByDegrees_54 (fun z24 σ23 rz24 h => ?_)
                refine v_R (fun hRσ23 => ?_)
                refine v_if_le C rz24 75 dX10_partByDegrees_57 (by decide) (fun c40 => ?_) (fun c40 => ?_)
                · have h := h.1 c40
                  refine v_aload_n C 4 dX10_partByDegrees_75 rfl rfl ?_
                  refine v_iconst C dX10_partByDegrees_76 ?_
                  refine v_calli (i := 304) (As := [.int (iI 4)]) (rest := []) C (s_X10_degree hlo hhi (by decide) h) w975 wy_X10_degree ⟨rfl, rfl⟩ hd_X10_degree ⟨Nat.le_of_ble_eq_true rfl, Nat.le_of_ble_eq_true rfl⟩ (Nat.le_trans hlo (by decide)) (Nat.lt_of_lt_of_le (by decide) hhi) rfl rfl rfl rfl (Nat.le_of_ble_eq_true rfl) dX10_partByDegrees_77 (fun z26 σ25 rz26 h => ?_)
                  refine v_R (fun hRσ25 => ?_)
                  refine v_if_le C rz26 88 dX10_partByDegrees_80 (by decide) (fun c30 => ?_) (fun c30 => ?_)
                  · have h := h.1 c30
                    have k27 := h.1
                    have h := h.2
                    refine v_iinc (lv' := [(4, .int (iI (x12 + 1))), (3, .int (iI x13)), (2, .int (iI x3)), (1, .int (iI v2)), (0, .ref (B + 304))]) C 0 dX10_partByDegrees_88 rfl (by decide) rfl ?_
                    refine v_goto C 30 dX10_partByDegrees_91 (by decide) ?_
                    obtain ⟨m9, hm9, h⟩ := h
                    exact ih16 m9 hm9 (x12 + 1) x13 σ25 h k27 rx13
                  · have h := h.2 c30
                    refine v_aload_n C 4 dX10_partByDegrees_83 rfl rfl ?_
                    refine v_iconst C dX10_partByDegrees_84 ?_
                    refine v_callv (i := 304) (As := [.int (iI 4)]) (rest := []) C (s_X10_comes hlo hhi (by decide) h) w1003 wy_X10_comes ⟨rfl, rfl⟩ hd_X10_comes ⟨Nat.le_of_ble_eq_true rfl, Nat.le_of_ble_eq_true rfl⟩ (Nat.le_trans hlo (by decide)) (Nat.lt_of_lt_of_le (by decide) hhi) rfl rfl rfl rfl (Nat.le_of_ble_eq_true rfl) dX10_partByDegrees_85 (fun σ28 h => ?_)
                    refine v_R (fun hRσ28 => ?_)
                    have k29 := h.1
                    have h := h.2
                    refine v_iinc (lv' := [(4, .int (iI (x12 + 1))), (3, .int (iI x13)), (2, .int (iI x3)), (1, .int (iI v2)), (0, .ref (B + 304))]) C 0 dX10_partByDegrees_88 rfl (by decide) rfl ?_
                    refine v_goto C 30 dX10_partByDegrees_91 (by decide) ?_
                    obtain ⟨m9, hm9, h⟩ := h
                    exact ih16 m9 hm9 (x12 + 1) x13 σ28 h k29 rx13
                · have h := h.2 c40
                  refine v_iload_n C 1 dX10_partByDegrees_60 rfl rfl ?_
                  refine v_if_eq C rx13 75 dX10_partByDegrees_61 (by decide) (fun c39 => ?_) (fun c39 => ?_)
                  · have h := h.1 c39
                    refine v_aload_n C 4 dX10_partByDegrees_75 rfl rfl ?_
                    refine v_iconst C dX10_partByDegrees_76 ?_
                    refine v_calli (i := 304) (As := [.int (iI 4)]) (rest := []) C (s_X10_degree hlo hhi (by decide) h) w975 wy_X10_degree ⟨rfl, rfl⟩ hd_X10_degree ⟨Nat.le_of_ble_eq_true rfl, Nat.le_of_ble_eq_true rfl⟩ (Nat.le_trans hlo (by decide)) (Nat.lt_of_lt_of_le (by decide) hhi) rfl rfl rfl rfl (Nat.le_of_ble_eq_true rfl) dX10_partByDegrees_77 (fun z32 σ31 rz32 h => ?_)
                    refine v_R (fun hRσ31 => ?_)
                    refine v_if_le C rz32 88 dX10_partByDegrees_80 (by decide) (fun c36 => ?_) (fun c36 => ?_)
                    · have h := h.1 c36
                      have k33 := h.1
                      have h := h.2
                      refine v_iinc (lv' := [(4, .int (iI (x12 + 1))), (3, .int (iI x13)), (2, .int (iI x3)), (1, .int (iI v2)), (0, .ref (B + 304))]) C 0 dX10_partByDegrees_88 rfl (by decide) rfl ?_
                      refine v_goto C 30 dX10_partByDegrees_91 (by decide) ?_
                      obtain ⟨m9, hm9, h⟩ := h
                      exact ih16 m9 hm9 (x12 + 1) x13 σ31 h k33 rx13
                    · have h := h.2 c36
                      refine v_aload_n C 4 dX10_partByDegrees_83 rfl rfl ?_
                      refine v_iconst C dX10_partByDegrees_84 ?_
                      refine v_callv (i := 304) (As := [.int (iI 4)]) (rest := []) C (s_X10_comes hlo hhi (by decide) h) w1003 wy_X10_comes ⟨rfl, rfl⟩ hd_X10_comes ⟨Nat.le_of_ble_eq_true rfl, Nat.le_of_ble_eq_true rfl⟩ (Nat.le_trans hlo (by decide)) (Nat.lt_of_lt_of_le (by decide) hhi) rfl rfl rfl rfl (Nat.le_of_ble_eq_true rfl) dX10_partByDegrees_85 (fun σ34 h => ?_)
                      refine v_R (fun hRσ34 => ?_)
                      have k35 := h.1
                      have h := h.2
                      refine v_iinc (lv' := [(4, .int (iI (x12 + 1))), (3, .int (iI x13)), (2, .int (iI x3)), (1, .int (iI v2)), (0, .ref (B + 304))]) C 0 dX10_partByDegrees_88 rfl (by decide) rfl ?_
                      refine v_goto C 30 dX10_partByDegrees_91 (by decide) ?_
                      obtain ⟨m9, hm9, h⟩ := h
                      exact ih16 m9 hm9 (x12 + 1) x13 σ34 h k35 rx13
                  · have h := h.2 c39
                    refine v_aload_n C 4 dX10_partByDegrees_64 rfl rfl ?_
                    refine v_iconst C dX10_partByDegrees_65 ?_
                    refine v_iload_n C 2 dX10_partByDegrees_66 rfl rfl ?_
                    refine v_callv (i := 304) (As := [.int (iI 4), .int (iI x3)]) (rest := []) C (s_X10_lays hlo hhi (by decide) rx3 h) w1007 wy_X10_lays ⟨rfl, rfl⟩ hd_X10_lays ⟨Nat.le_of_ble_eq_true rfl, Nat.le_of_ble_eq_true rfl⟩ (Nat.le_trans hlo (by decide)) (Nat.lt_of_lt_of_le (by decide) hhi) rfl rfl rfl rfl (Nat.le_of_ble_eq_true rfl) dX10_partByDegrees_67 (fun σ37 h => ?_)
                    refine v_R (fun hRσ37 => ?_)
                    refine v_iconst C dX10_partByDegrees_70 ?_
                    refine v_istore_n (lv' := [(3, .int (iI 0)), (4, .int (iI x12)), (2, .int (iI x3)), (1, .int (iI v2)), (0, .ref (B + 304))]) C dX10_partByDegrees_71 rfl (by decide) rfl ?_
                    refine v_goto C 88 dX10_partByDegrees_72 (by decide) ?_
                    have k38 := h.1
                    have h := h.2
                    refine v_iinc (lv' := [(4, .int (iI (x12 + 1))), (3, .int (iI 0)), (2, .int (iI x3)), (1, .int (iI v2)), (0, .ref (B + 304))]) C 1 dX10_partByDegrees_88 rfl (by decide) rfl ?_
                    refine v_goto C 30 dX10_partByDegrees_91 (by decide) ?_
                    obtain ⟨m9, hm9, h⟩ := h
                    exact ih16 m9 hm9 (x12 + 1) 0 σ37 h k38 (by decide)
        exact key17 n44 1 1 σ11 hnn44 (by decide) (by decide)
  exact key7 n47 0 σ1 hnn47 (by decide)
-- SplitTowersModel.power(III)I
def wp_X10_power (σ : SG) (a1 : Int) (a2 : Int) (a3 : Int) (Q : Int → SG → Prop) : Prop :=
  wp_X10_noRegister σ a1 (fun (z2 : Int) (σ1 : SG) => ((z2 = 0 → wp_X10_in σ1 a2 0 1000000 (fun (z4 : Int) (σ3 : SG) => ((z4 = 0 → Q (-2) σ3) ∧ (¬ z4 = 0 → wp_X10_noPlace σ3 a3 (fun (z6 : Int) (σ5 : SG) => ((z6 = 0 → wp_X10_loadsNumber σ5 a1 2 (fun (σ7 : SG) => wp_X10_raises σ7 2 a2 0 2 (fun (σ8 : SG) => wp_X10_of σ8 2 a3 (fun (z10 : Int) (σ9 : SG) => Q z10 σ9)))) ∧ (¬ z6 = 0 → Q (-2) σ5))))))) ∧ (¬ z2 = 0 → Q (-1) σ1)))
def rm_X10_power : Room := { frames := 6, cells := 0, slots := 0, locals := 130 }
theorem wy_X10_power : Cond.instanceMethod yX10_power ∈ WS ∧ Cond.selects "SplitTowersModel" yX10_power yX10_power ∈ WS ∧ Cond.initialized "SplitTowersModel" ∈ WS ∧ Cond.code yX10_power prog_12_method_73_code 4 (some .int) ∈ WS := ⟨w1203, w1204, w79, w1205⟩
theorem hd_X10_power : yX10_power.cls = "SplitTowersModel" ∧ yX10_power.cls ≠ "java/lang/invoke/MethodHandle" ∧ yX10_power.cls ≠ "java/lang/invoke/VarHandle" ∧ (parseMethodDescriptor yX10_power.desc).map (fun d => d.parameters.length) = some 3 := by decide +kernel
set_option maxHeartbeats 4000000 in
set_option maxRecDepth 100000 in
theorem s_X10_power {l : Launch} {D : va_G} {aC : Nat → ClassId} {B lo hi : Nat} {σ : SG} {a1 : Int} {a2 : Int} {a3 : Int} {Q : Int → SG → Prop} (hlo : lo ≤ 304) (hhi : 316 ≤ hi) (r1 : inR a1) (r2 : inR a2) (r3 : inR a3) (h : wp_X10_power σ a1 a2 a3 Q) : Met l yX10_power (Cond.code yX10_power prog_12_method_73_code 4 (some .int) :: WS) rm_X10_power (va_Pc [.ref (B + 304), .int (iI a1), .int (iI a2), .int (iI a3)] (WP D aC B lo hi σ)) (QI D aC B lo hi Q) 0 0 (AB B lo hi) := by
  refine met_of (by decide +kernel) (by decide +kernel : yX10_power.cls = "SplitTowersModel") (Nat.le_of_ble_eq_true rfl) ?_
  intro p e s m args below meth c C
  unfold wp_X10_power at h
  refine v_R (fun hR0 => ?_)
  show V p l e rm_X10_power s m args below meth c D aC B lo hi 4 (MQ below (QI D aC B lo hi Q) args s 0 0 (AB B lo hi)) σ 0 [(0, .ref (B + 304)), (1, .int (iI a1)), (2, .int (iI a2)), (3, .int (iI a3))] []
  refine v_iload_n C 1 dX10_power_0 rfl rfl ?_
  refine v_callsi (As := [.int (iI a1)]) (rest := []) C (s_X10_noRegister hlo hhi r1 h) w1015 wy_X10_noRegister ⟨rfl, rfl⟩ hd_X10_noRegister ⟨Nat.le_of_ble_eq_true rfl, Nat.le_of_ble_eq_true rfl⟩ rfl rfl (Nat.le_of_ble_eq_true rfl) dX10_power_1 (fun z2 σ1 rz2 h => ?_)
  refine v_R (fun hRσ1 => ?_)
  refine v_if_eq C rz2 9 dX10_power_4 (by decide) (fun c13 => ?_) (fun c13 => ?_)
  · have h := h.1 c13
    refine v_iload_n C 2 dX10_power_9 rfl rfl ?_
    refine v_iconst C dX10_power_10 ?_
    refine v_ldc C 1000000 (by decide) w1206 dX10_power_11 ?_
    refine v_callsi (As := [.int (iI a2), .int (iI 0), .int (iI 1000000)]) (rest := []) C (s_X10_in hlo hhi r2 (by decide) (by decide) h) w944 wy_X10_in ⟨rfl, rfl⟩ hd_X10_in ⟨Nat.le_of_ble_eq_true rfl, Nat.le_of_ble_eq_true rfl⟩ rfl rfl (Nat.le_of_ble_eq_true rfl) dX10_power_13 (fun z4 σ3 rz4 h => ?_)
    refine v_R (fun hRσ3 => ?_)
    refine v_if_eq C rz4 27 dX10_power_16 (by decide) (fun c12 => ?_) (fun c12 => ?_)
    · have h := h.1 c12
      refine v_bipush C dX10_power_27 (by decide) ?_
      exact v_iret C (by decide) h dX10_power_29
    · have h := h.2 c12
      refine v_aload_n C 0 dX10_power_19 rfl rfl ?_
      refine v_iload_n C 3 dX10_power_20 rfl rfl ?_
      refine v_calli (i := 304) (As := [.int (iI a3)]) (rest := []) C (s_X10_noPlace hlo hhi r3 h) w1018 wy_X10_noPlace ⟨rfl, rfl⟩ hd_X10_noPlace ⟨Nat.le_of_ble_eq_true rfl, Nat.le_of_ble_eq_true rfl⟩ (Nat.le_trans hlo (by decide)) (Nat.lt_of_lt_of_le (by decide) hhi) rfl rfl rfl rfl (Nat.le_of_ble_eq_true rfl) dX10_power_21 (fun z6 σ5 rz6 h => ?_)
      refine v_R (fun hRσ5 => ?_)
      refine v_if_eq C rz6 30 dX10_power_24 (by decide) (fun c11 => ?_) (fun c11 => ?_)
      · have h := h.1 c11
        refine v_aload_n C 0 dX10_power_30 rfl rfl ?_
        refine v_iload_n C 1 dX10_power_31 rfl rfl ?_
        refine v_iconst C dX10_power_32 ?_
        refine v_callv (i := 304) (As := [.int (iI a1), .int (iI 2)]) (rest := []) C (s_X10_loadsNumber hlo hhi r1 (by decide) h) w991 wy_X10_loadsNumber ⟨rfl, rfl⟩ hd_X10_loadsNumber ⟨Nat.le_of_ble_eq_true rfl, Nat.le_of_ble_eq_true rfl⟩ (Nat.le_trans hlo (by decide)) (Nat.lt_of_lt_of_le (by decide) hhi) rfl rfl rfl rfl (Nat.le_of_ble_eq_true rfl) dX10_power_33 (fun σ7 h => ?_)
        refine v_R (fun hRσ7 => ?_)
        refine v_aload_n C 0 dX10_power_36 rfl rfl ?_
        refine v_iconst C dX10_power_37 ?_
        refine v_iload_n C 2 dX10_power_38 rfl rfl ?_
        refine v_iconst C dX10_power_39 ?_
        refine v_iconst C dX10_power_40 ?_
        refine v_callv (i := 304) (As := [.int (iI 2), .int (iI a2), .int (iI 0), .int (iI 2)]) (rest := []) C (s_X10_raises hlo hhi (by decide) r2 (by decide) (by decide) h) w1106 wy_X10_raises ⟨rfl, rfl⟩ hd_X10_raises ⟨Nat.le_of_ble_eq_true rfl, Nat.le_of_ble_eq_true rfl⟩ (Nat.le_trans hlo (by decide)) (Nat.lt_of_lt_of_le (by decide) hhi) rfl rfl rfl rfl (Nat.le_of_ble_eq_true rfl) dX10_power_41 (fun σ8 h => ?_)
        refine v_R (fun hRσ8 => ?_)
        refine v_aload_n C 0 dX10_power_44 rfl rfl ?_
        refine v_iconst C dX10_power_45 ?_
        refine v_iload_n C 3 dX10_power_46 rfl rfl ?_
        refine v_calli (i := 304) (As := [.int (iI 2), .int (iI a3)]) (rest := []) C (s_X10_of hlo hhi (by decide) r3 h) w963 wy_X10_of ⟨rfl, rfl⟩ hd_X10_of ⟨Nat.le_of_ble_eq_true rfl, Nat.le_of_ble_eq_true rfl⟩ (Nat.le_trans hlo (by decide)) (Nat.lt_of_lt_of_le (by decide) hhi) rfl rfl rfl rfl (Nat.le_of_ble_eq_true rfl) dX10_power_47 (fun z10 σ9 rz10 h => ?_)
        refine v_R (fun hRσ9 => ?_)
        exact v_iret C rz10 h dX10_power_50
      · have h := h.2 c11
        refine v_bipush C dX10_power_27 (by decide) ?_
        exact v_iret C (by decide) h dX10_power_29
  · have h := h.2 c13
    refine v_iconst C dX10_power_7 ?_
    exact v_iret C (by decide) h dX10_power_8
-- SplitTowersModel.put(III)I
def wp_X10_put (σ : SG) (a1 : Int) (a2 : Int) (a3 : Int) (Q : Int → SG → Prop) : Prop :=
  wp_X10_noRegister σ a1 (fun (z2 : Int) (σ1 : SG) => ((¬ z2 = 0 → Q (-1) σ1) ∧ (z2 = 0 → wp_X10_noBranch σ1 a2 (fun (z4 : Int) (σ3 : SG) => ((¬ z4 = 0 → Q (-1) σ3) ∧ (z4 = 0 → wp_X10_noRegister σ3 a3 (fun (z6 : Int) (σ5 : SG) => ((z6 = 0 → ((¬ a1 = a3 → wp_X10_loadsModulus σ5 (fun (σ7 : SG) => wp_X10_loadsBranch σ7 a2 1 (fun (σ8 : SG) => wp_X10_unitOf σ8 8 (fun (σ9 : SG) => wp_X10_loadsNumber σ9 a1 2 (fun (σ10 : SG) => wp_X10_loadsNumber σ10 a3 3 (fun (σ11 : SG) => (inR ((σ11 305 0) - 1) ∧ wp_X10_adds σ11 3 2 ((σ11 305 0) - 1) (fun (σ13 : SG) => wp_X10_multiplies σ13 8 2 2 (fun (σ14 : SG) => wp_X10_divides σ14 2 0 (-1) (fun (σ15 : SG) => wp_X10_adds σ15 3 2 1 (fun (σ16 : SG) => wp_X10_loadsNumber σ16 a1 3 (fun (σ17 : SG) => wp_X10_copies σ17 2 5 (fun (σ18 : SG) => (inR ((σ18 305 0) - 1) ∧ wp_X10_adds σ18 3 5 ((σ18 305 0) - 1) (fun (σ20 : SG) => Lp2 (fun (rec24 : Int → Int → SG → Prop) (x21 : Int) (x22 : Int) (σ23 : SG) => (((σ23 305 44) ≤ x21 → ((¬ x22 = 0 → wp_X10_record σ23 (fun (σ27 : SG) => wp_X10_stores σ27 2 a1 (fun (σ28 : SG) => Q x22 σ28))) ∧ (x22 = 0 → Q (-5) σ23))) ∧ (¬ (σ23 305 44) ≤ x21 → wp_X10_loadsBranch σ23 x21 1 (fun (σ30 : SG) => wp_X10_kindIn σ30 5 (fun (z32 : Int) (σ31 : SG) => ((¬ z32 = 0 → (inR (x22 + 1) ∧ (∀ v34 : Int, v34 = x22 + 1 → (inR (x21 + 1) ∧ rec24 (x21 + 1) v34 σ31)))) ∧ (z32 = 0 → (inR (x22 + 0) ∧ (∀ v37 : Int, v37 = x22 + 0 → (inR (x21 + 1) ∧ rec24 (x21 + 1) v37 σ31)))))))))) 0 0 σ20))))))))))))))) ∧ (a1 = a3 → Q (-2) σ5))) ∧ (¬ z6 = 0 → Q (-1) σ5)))))))))
def rm_X10_put : Room := { frames := 5, cells := 0, slots := 0, locals := 119 }
theorem wy_X10_put : Cond.instanceMethod yX10_put ∈ WS ∧ Cond.selects "SplitTowersModel" yX10_put yX10_put ∈ WS ∧ Cond.initialized "SplitTowersModel" ∈ WS ∧ Cond.code yX10_put prog_12_method_42_code 6 (some .int) ∈ WS := ⟨w1031, w1032, w79, w1033⟩
theorem hd_X10_put : yX10_put.cls = "SplitTowersModel" ∧ yX10_put.cls ≠ "java/lang/invoke/MethodHandle" ∧ yX10_put.cls ≠ "java/lang/invoke/VarHandle" ∧ (parseMethodDescriptor yX10_put.desc).map (fun d => d.parameters.length) = some 3 := by decide +kernel
set_option maxHeartbeats 4000000 in
set_option maxRecDepth 100000 in
theorem s_X10_put {l : Launch} {D : va_G} {aC : Nat → ClassId} {B lo hi : Nat} {σ : SG} {a1 : Int} {a2 : Int} {a3 : Int} {Q : Int → SG → Prop} (hlo : lo ≤ 304) (hhi : 316 ≤ hi) (r1 : inR a1) (r2 : inR a2) (r3 : inR a3) (h : wp_X10_put σ a1 a2 a3 Q) : Met l yX10_put (Cond.code yX10_put prog_12_method_42_code 6 (some .int) :: WS) rm_X10_put (va_Pc [.ref (B + 304), .int (iI a1), .int (iI a2), .int (iI a3)] (WP D aC B lo hi σ)) (QI D aC B lo hi Q) 0 0 (AB B lo hi) := by
  refine met_of (by decide +kernel) (by decide +kernel : yX10_put.cls = "SplitTowersModel") (Nat.le_of_ble_eq_true rfl) ?_
  intro p e s m args below meth c C
  unfold wp_X10_put at h
  refine v_R (fun hR0 => ?_)
  show V p l e rm_X10_put s m args below meth c D aC B lo hi 6 (MQ below (QI D aC B lo hi Q) args s 0 0 (AB B lo hi)) σ 0 [(0, .ref (B + 304)), (1, .int (iI a1)), (2, .int (iI a2)), (3, .int (iI a3))] []
  refine v_iload_n C 1 dX10_put_0 rfl rfl ?_
  refine v_callsi (As := [.int (iI a1)]) (rest := []) C (s_X10_noRegister hlo hhi r1 h) w1015 wy_X10_noRegister ⟨rfl, rfl⟩ hd_X10_noRegister ⟨Nat.le_of_ble_eq_true rfl, Nat.le_of_ble_eq_true rfl⟩ rfl rfl (Nat.le_of_ble_eq_true rfl) dX10_put_1 (fun z2 σ1 rz2 h => ?_)
  refine v_R (fun hRσ1 => ?_)
  refine v_if_ne C rz2 22 dX10_put_4 (by decide) (fun c46 => ?_) (fun c46 => ?_)
  · have h := h.1 c46
    refine v_iconst C dX10_put_22 ?_
    exact v_iret C (by decide) h dX10_put_23
  · have h := h.2 c46
    refine v_aload_n C 0 dX10_put_7 rfl rfl ?_
    refine v_iload_n C 2 dX10_put_8 rfl rfl ?_
    refine v_calli (i := 304) (As := [.int (iI a2)]) (rest := []) C (s_X10_noBranch hlo hhi r2 h) w1034 wy_X10_noBranch ⟨rfl, rfl⟩ hd_X10_noBranch ⟨Nat.le_of_ble_eq_true rfl, Nat.le_of_ble_eq_true rfl⟩ (Nat.le_trans hlo (by decide)) (Nat.lt_of_lt_of_le (by decide) hhi) rfl rfl rfl rfl (Nat.le_of_ble_eq_true rfl) dX10_put_9 (fun z4 σ3 rz4 h => ?_)
    refine v_R (fun hRσ3 => ?_)
    refine v_if_ne C rz4 22 dX10_put_12 (by decide) (fun c45 => ?_) (fun c45 => ?_)
    · have h := h.1 c45
      refine v_iconst C dX10_put_22 ?_
      exact v_iret C (by decide) h dX10_put_23
    · have h := h.2 c45
      refine v_iload_n C 3 dX10_put_15 rfl rfl ?_
      refine v_callsi (As := [.int (iI a3)]) (rest := []) C (s_X10_noRegister hlo hhi r3 h) w1015 wy_X10_noRegister ⟨rfl, rfl⟩ hd_X10_noRegister ⟨Nat.le_of_ble_eq_true rfl, Nat.le_of_ble_eq_true rfl⟩ rfl rfl (Nat.le_of_ble_eq_true rfl) dX10_put_16 (fun z6 σ5 rz6 h => ?_)
      refine v_R (fun hRσ5 => ?_)
      refine v_if_eq C rz6 24 dX10_put_19 (by decide) (fun c44 => ?_) (fun c44 => ?_)
      · have h := h.1 c44
        refine v_iload_n C 1 dX10_put_24 rfl rfl ?_
        refine v_iload_n C 3 dX10_put_25 rfl rfl ?_
        refine v_icmp_ne C r1 r3 32 dX10_put_26 (by decide) (fun c43 => ?_) (fun c43 => ?_)
        · have h := h.1 c43
          refine v_aload_n C 0 dX10_put_32 rfl rfl ?_
          refine v_callv (i := 304) (As := []) (rest := []) C (s_X10_loadsModulus hlo hhi h) w1026 wy_X10_loadsModulus ⟨rfl, rfl⟩ hd_X10_loadsModulus ⟨Nat.le_of_ble_eq_true rfl, Nat.le_of_ble_eq_true rfl⟩ (Nat.le_trans hlo (by decide)) (Nat.lt_of_lt_of_le (by decide) hhi) rfl rfl rfl rfl (Nat.le_of_ble_eq_true rfl) dX10_put_33 (fun σ7 h => ?_)
          refine v_R (fun hRσ7 => ?_)
          refine v_aload_n C 0 dX10_put_36 rfl rfl ?_
          refine v_iload_n C 2 dX10_put_37 rfl rfl ?_
          refine v_iconst C dX10_put_38 ?_
          refine v_callv (i := 304) (As := [.int (iI a2), .int (iI 1)]) (rest := []) C (s_X10_loadsBranch hlo hhi r2 (by decide) h) w1038 wy_X10_loadsBranch ⟨rfl, rfl⟩ hd_X10_loadsBranch ⟨Nat.le_of_ble_eq_true rfl, Nat.le_of_ble_eq_true rfl⟩ (Nat.le_trans hlo (by decide)) (Nat.lt_of_lt_of_le (by decide) hhi) rfl rfl rfl rfl (Nat.le_of_ble_eq_true rfl) dX10_put_39 (fun σ8 h => ?_)
          refine v_R (fun hRσ8 => ?_)
          refine v_aload_n C 0 dX10_put_42 rfl rfl ?_
          refine v_bipush C dX10_put_43 (by decide) ?_
          refine v_callv (i := 304) (As := [.int (iI 8)]) (rest := []) C (s_X10_unitOf hlo hhi (by decide) h) w1042 wy_X10_unitOf ⟨rfl, rfl⟩ hd_X10_unitOf ⟨Nat.le_of_ble_eq_true rfl, Nat.le_of_ble_eq_true rfl⟩ (Nat.le_trans hlo (by decide)) (Nat.lt_of_lt_of_le (by decide) hhi) rfl rfl rfl rfl (Nat.le_of_ble_eq_true rfl) dX10_put_45 (fun σ9 h => ?_)
          refine v_R (fun hRσ9 => ?_)
          refine v_aload_n C 0 dX10_put_48 rfl rfl ?_
          refine v_iload_n C 1 dX10_put_49 rfl rfl ?_
          refine v_iconst C dX10_put_50 ?_
          refine v_callv (i := 304) (As := [.int (iI a1), .int (iI 2)]) (rest := []) C (s_X10_loadsNumber hlo hhi r1 (by decide) h) w991 wy_X10_loadsNumber ⟨rfl, rfl⟩ hd_X10_loadsNumber ⟨Nat.le_of_ble_eq_true rfl, Nat.le_of_ble_eq_true rfl⟩ (Nat.le_trans hlo (by decide)) (Nat.lt_of_lt_of_le (by decide) hhi) rfl rfl rfl rfl (Nat.le_of_ble_eq_true rfl) dX10_put_51 (fun σ10 h => ?_)
          refine v_R (fun hRσ10 => ?_)
          refine v_aload_n C 0 dX10_put_54 rfl rfl ?_
          refine v_iload_n C 3 dX10_put_55 rfl rfl ?_
          refine v_iconst C dX10_put_56 ?_
          refine v_callv (i := 304) (As := [.int (iI a3), .int (iI 3)]) (rest := []) C (s_X10_loadsNumber hlo hhi r3 (by decide) h) w991 wy_X10_loadsNumber ⟨rfl, rfl⟩ hd_X10_loadsNumber ⟨Nat.le_of_ble_eq_true rfl, Nat.le_of_ble_eq_true rfl⟩ (Nat.le_trans hlo (by decide)) (Nat.lt_of_lt_of_le (by decide) hhi) rfl rfl rfl rfl (Nat.le_of_ble_eq_true rfl) dX10_put_57 (fun σ11 h => ?_)
          refine v_R (fun hRσ11 => ?_)
          refine v_aload_n C 0 dX10_put_60 rfl rfl ?_
          refine v_iconst C dX10_put_61 ?_
          refine v_iconst C dX10_put_62 ?_
          refine v_aload_n C 0 dX10_put_63 rfl rfl ?_
          refine gf10_now C hlo hhi w877 dX10_put_64 ?_
          refine v_iconst C dX10_put_67 ?_
          refine v_iald (i := 305) (n := 87) C (Nat.le_trans hlo (by decide)) (Nat.lt_of_lt_of_le (by decide) hhi) rfl (by decide) ⟨by decide, by decide⟩ dX10_put_68 ?_
          refine v_iconst C dX10_put_69 ?_
          have k12 := h.1
          have h := h.2
          refine v_isub C dX10_put_70 ?_
          refine v_callv (i := 304) (As := [.int (iI 3), .int (iI 2), .int (iI ((σ11 305 0) - 1))]) (rest := []) C (s_X10_adds hlo hhi (by decide) (by decide) k12 h) w1058 wy_X10_adds ⟨rfl, rfl⟩ hd_X10_adds ⟨Nat.le_of_ble_eq_true rfl, Nat.le_of_ble_eq_true rfl⟩ (Nat.le_trans hlo (by decide)) (Nat.lt_of_lt_of_le (by decide) hhi) rfl rfl rfl rfl (Nat.le_of_ble_eq_true rfl) dX10_put_71 (fun σ13 h => ?_)
          refine v_R (fun hRσ13 => ?_)
          refine v_aload_n C 0 dX10_put_74 rfl rfl ?_
          refine v_bipush C dX10_put_75 (by decide) ?_
          refine v_iconst C dX10_put_77 ?_
          refine v_iconst C dX10_put_78 ?_
          refine v_callv (i := 304) (As := [.int (iI 8), .int (iI 2), .int (iI 2)]) (rest := []) C (s_X10_multiplies hlo hhi (by decide) (by decide) (by decide) h) w1054 wy_X10_multiplies ⟨rfl, rfl⟩ hd_X10_multiplies ⟨Nat.le_of_ble_eq_true rfl, Nat.le_of_ble_eq_true rfl⟩ (Nat.le_trans hlo (by decide)) (Nat.lt_of_lt_of_le (by decide) hhi) rfl rfl rfl rfl (Nat.le_of_ble_eq_true rfl) dX10_put_79 (fun σ14 h => ?_)
          refine v_R (fun hRσ14 => ?_)
          refine v_aload_n C 0 dX10_put_82 rfl rfl ?_
          refine v_iconst C dX10_put_83 ?_
          refine v_iconst C dX10_put_84 ?_
          refine v_iconst C dX10_put_85 ?_
          refine v_callv (i := 304) (As := [.int (iI 2), .int (iI 0), .int (iI (-1))]) (rest := []) C (s_X10_divides hlo hhi (by decide) (by decide) (by decide) h) w979 wy_X10_divides ⟨rfl, rfl⟩ hd_X10_divides ⟨Nat.le_of_ble_eq_true rfl, Nat.le_of_ble_eq_true rfl⟩ (Nat.le_trans hlo (by decide)) (Nat.lt_of_lt_of_le (by decide) hhi) rfl rfl rfl rfl (Nat.le_of_ble_eq_true rfl) dX10_put_86 (fun σ15 h => ?_)
          refine v_R (fun hRσ15 => ?_)
          refine v_aload_n C 0 dX10_put_89 rfl rfl ?_
          refine v_iconst C dX10_put_90 ?_
          refine v_iconst C dX10_put_91 ?_
          refine v_iconst C dX10_put_92 ?_
          refine v_callv (i := 304) (As := [.int (iI 3), .int (iI 2), .int (iI 1)]) (rest := []) C (s_X10_adds hlo hhi (by decide) (by decide) (by decide) h) w1058 wy_X10_adds ⟨rfl, rfl⟩ hd_X10_adds ⟨Nat.le_of_ble_eq_true rfl, Nat.le_of_ble_eq_true rfl⟩ (Nat.le_trans hlo (by decide)) (Nat.lt_of_lt_of_le (by decide) hhi) rfl rfl rfl rfl (Nat.le_of_ble_eq_true rfl) dX10_put_93 (fun σ16 h => ?_)
          refine v_R (fun hRσ16 => ?_)
          refine v_aload_n C 0 dX10_put_96 rfl rfl ?_
          refine v_iload_n C 1 dX10_put_97 rfl rfl ?_
          refine v_iconst C dX10_put_98 ?_
          refine v_callv (i := 304) (As := [.int (iI a1), .int (iI 3)]) (rest := []) C (s_X10_loadsNumber hlo hhi r1 (by decide) h) w991 wy_X10_loadsNumber ⟨rfl, rfl⟩ hd_X10_loadsNumber ⟨Nat.le_of_ble_eq_true rfl, Nat.le_of_ble_eq_true rfl⟩ (Nat.le_trans hlo (by decide)) (Nat.lt_of_lt_of_le (by decide) hhi) rfl rfl rfl rfl (Nat.le_of_ble_eq_true rfl) dX10_put_99 (fun σ17 h => ?_)
          refine v_R (fun hRσ17 => ?_)
          refine v_aload_n C 0 dX10_put_102 rfl rfl ?_
          refine v_iconst C dX10_put_103 ?_
          refine v_iconst C dX10_put_104 ?_
          refine v_callv (i := 304) (As := [.int (iI 2), .int (iI 5)]) (rest := []) C (s_X10_copies hlo hhi (by decide) (by decide) h) w971 wy_X10_copies ⟨rfl, rfl⟩ hd_X10_copies ⟨Nat.le_of_ble_eq_true rfl, Nat.le_of_ble_eq_true rfl⟩ (Nat.le_trans hlo (by decide)) (Nat.lt_of_lt_of_le (by decide) hhi) rfl rfl rfl rfl (Nat.le_of_ble_eq_true rfl) dX10_put_105 (fun σ18 h => ?_)
          refine v_R (fun hRσ18 => ?_)
          refine v_aload_n C 0 dX10_put_108 rfl rfl ?_
          refine v_iconst C dX10_put_109 ?_
          refine v_iconst C dX10_put_110 ?_
          refine v_aload_n C 0 dX10_put_111 rfl rfl ?_
          refine gf10_now C hlo hhi w877 dX10_put_112 ?_
          refine v_iconst C dX10_put_115 ?_
          refine v_iald (i := 305) (n := 87) C (Nat.le_trans hlo (by decide)) (Nat.lt_of_lt_of_le (by decide) hhi) rfl (by decide) ⟨by decide, by decide⟩ dX10_put_116 ?_
          refine v_iconst C dX10_put_117 ?_
          have k19 := h.1
          have h := h.2
          refine v_isub C dX10_put_118 ?_
          refine v_callv (i := 304) (As := [.int (iI 3), .int (iI 5), .int (iI ((σ18 305 0) - 1))]) (rest := []) C (s_X10_adds hlo hhi (by decide) (by decide) k19 h) w1058 wy_X10_adds ⟨rfl, rfl⟩ hd_X10_adds ⟨Nat.le_of_ble_eq_true rfl, Nat.le_of_ble_eq_true rfl⟩ (Nat.le_trans hlo (by decide)) (Nat.lt_of_lt_of_le (by decide) hhi) rfl rfl rfl rfl (Nat.le_of_ble_eq_true rfl) dX10_put_119 (fun σ20 h => ?_)
          refine v_R (fun hRσ20 => ?_)
          refine v_iconst C dX10_put_122 ?_
          refine v_istore (lv' := [(4, .int (iI 0)), (0, .ref (B + 304)), (1, .int (iI a1)), (2, .int (iI a2)), (3, .int (iI a3))]) C dX10_put_123 (by decide) rfl ?_
          refine v_iconst C dX10_put_125 ?_
          refine v_istore (lv' := [(5, .int (iI 0)), (4, .int (iI 0)), (0, .ref (B + 304)), (1, .int (iI a1)), (2, .int (iI a2)), (3, .int (iI a3))]) C dX10_put_126 (by decide) rfl ?_
          obtain ⟨I41, ⟨n42, hnn42⟩, hII41⟩ := h
          have key26 : ∀ (n : Nat) (x21 : Int) (x22 : Int) (σ23 : SG), I41 n x21 x22 σ23 → inR x21 → inR x22 → V p l e rm_X10_put s m args below meth c D aC B lo hi 6 (MQ below (QI D aC B lo hi Q) args s 0 0 (AB B lo hi)) σ23 128 [(5, .int (iI x21)), (4, .int (iI x22)), (0, .ref (B + 304)), (1, .int (iI a1))] [] := by
            intro n
            induction n using Nat.strongRecOn with
            | ind n ih25 =>
              intro x21 x22 σ23 hn rx21 rx22
              have h := hII41 n x21 x22 σ23 hn
              refine v_R (fun hRσ23 => ?_)
              refine v_iload C 0 dX10_put_128 rfl ?_
              refine v_aload_n C 2 dX10_put_130 rfl rfl ?_
              refine gf10_now C hlo hhi w877 dX10_put_131 ?_
              refine v_bipush C dX10_put_134 (by decide) ?_
              refine v_iald (i := 305) (n := 87) C (Nat.le_trans hlo (by decide)) (Nat.lt_of_lt_of_le (by decide) hhi) rfl (by decide) ⟨by decide, by decide⟩ dX10_put_136 ?_
              refine v_icmp_ge C rx21 (hRσ23 305 _) 171 dX10_put_137 (by decide) (fun c40 => ?_) (fun c40 => ?_)
              · have h := h.1 c40
                refine v_iload C 1 dX10_put_171 rfl ?_
                refine v_if_ne C rx22 179 dX10_put_173 (by decide) (fun c29 => ?_) (fun c29 => ?_)
                · have h := h.1 c29
                  refine v_aload_n C 2 dX10_put_179 rfl rfl ?_
                  refine v_callv (i := 304) (As := []) (rest := []) C (s_X10_record hlo hhi h) w928 wy_X10_record ⟨rfl, rfl⟩ hd_X10_record ⟨Nat.le_of_ble_eq_true rfl, Nat.le_of_ble_eq_true rfl⟩ (Nat.le_trans hlo (by decide)) (Nat.lt_of_lt_of_le (by decide) hhi) rfl rfl rfl rfl (Nat.le_of_ble_eq_true rfl) dX10_put_180 (fun σ27 h => ?_)
                  refine v_R (fun hRσ27 => ?_)
                  refine v_aload_n C 2 dX10_put_183 rfl rfl ?_
                  refine v_iconst C dX10_put_184 ?_
                  refine v_iload_n C 3 dX10_put_185 rfl rfl ?_
                  refine v_callv (i := 304) (As := [.int (iI 2), .int (iI a1)]) (rest := []) C (s_X10_stores hlo hhi (by decide) r1 h) w999 wy_X10_stores ⟨rfl, rfl⟩ hd_X10_stores ⟨Nat.le_of_ble_eq_true rfl, Nat.le_of_ble_eq_true rfl⟩ (Nat.le_trans hlo (by decide)) (Nat.lt_of_lt_of_le (by decide) hhi) rfl rfl rfl rfl (Nat.le_of_ble_eq_true rfl) dX10_put_186 (fun σ28 h => ?_)
                  refine v_R (fun hRσ28 => ?_)
                  refine v_iload C 1 dX10_put_189 rfl ?_
                  exact v_iret C rx22 h dX10_put_191
                · have h := h.2 c29
                  refine v_bipush C dX10_put_176 (by decide) ?_
                  exact v_iret C (by decide) h dX10_put_178
              · have h := h.2 c40
                refine v_aload_n C 2 dX10_put_140 rfl rfl ?_
                refine v_iload C 0 dX10_put_141 rfl ?_
                refine v_iconst C dX10_put_143 ?_
                refine v_callv (i := 304) (As := [.int (iI x21), .int (iI 1)]) (rest := []) C (s_X10_loadsBranch hlo hhi rx21 (by decide) h) w1038 wy_X10_loadsBranch ⟨rfl, rfl⟩ hd_X10_loadsBranch ⟨Nat.le_of_ble_eq_true rfl, Nat.le_of_ble_eq_true rfl⟩ (Nat.le_trans hlo (by decide)) (Nat.lt_of_lt_of_le (by decide) hhi) rfl rfl rfl rfl (Nat.le_of_ble_eq_true rfl) dX10_put_144 (fun σ30 h => ?_)
                refine v_R (fun hRσ30 => ?_)
                refine v_iload C 1 dX10_put_147 rfl ?_
                refine v_aload_n C 2 dX10_put_149 rfl rfl ?_
                refine v_iconst C dX10_put_150 ?_
                refine v_calli (i := 304) (As := [.int (iI 5)]) (rest := [.int (iI x22)]) C (s_X10_kindIn hlo hhi (by decide) h) w1062 wy_X10_kindIn ⟨rfl, rfl⟩ hd_X10_kindIn ⟨Nat.le_of_ble_eq_true rfl, Nat.le_of_ble_eq_true rfl⟩ (Nat.le_trans hlo (by decide)) (Nat.lt_of_lt_of_le (by decide) hhi) rfl rfl rfl rfl (Nat.le_of_ble_eq_true rfl) dX10_put_151 (fun z32 σ31 rz32 h => ?_)
                refine v_R (fun hRσ31 => ?_)
                refine v_if_ne C rz32 161 dX10_put_154 (by decide) (fun c39 => ?_) (fun c39 => ?_)
                · have h := h.1 c39
                  refine v_iconst C dX10_put_161 ?_
                  have k33 := h.1
                  have h := h.2
                  refine v_iadd C dX10_put_162 ?_
                  refine v_name (fun v34 ev34 => ?_)
                  have h := h v34 ev34
                  have rv34 : inR v34 := by rw [ev34]; exact k33
                  refine v_istore (lv' := [(4, .int (iI v34)), (5, .int (iI x21)), (0, .ref (B + 304)), (1, .int (iI a1))]) C dX10_put_163 (by decide) rfl ?_
                  have k35 := h.1
                  have h := h.2
                  refine v_iinc (lv' := [(5, .int (iI (x21 + 1))), (4, .int (iI v34)), (0, .ref (B + 304)), (1, .int (iI a1))]) C 1 dX10_put_165 rfl (by decide) rfl ?_
                  refine v_goto C 128 dX10_put_168 (by decide) ?_
                  obtain ⟨m9, hm9, h⟩ := h
                  exact ih25 m9 hm9 (x21 + 1) v34 σ31 h k35 rv34
                · have h := h.2 c39
                  refine v_iconst C dX10_put_157 ?_
                  refine v_goto C 162 dX10_put_158 (by decide) ?_
                  have k36 := h.1
                  have h := h.2
                  refine v_iadd C dX10_put_162 ?_
                  refine v_name (fun v37 ev37 => ?_)
                  have h := h v37 ev37
                  have rv37 : inR v37 := by rw [ev37]; exact k36
                  refine v_istore (lv' := [(4, .int (iI v37)), (5, .int (iI x21)), (0, .ref (B + 304)), (1, .int (iI a1))]) C dX10_put_163 (by decide) rfl ?_
                  have k38 := h.1
                  have h := h.2
                  refine v_iinc (lv' := [(5, .int (iI (x21 + 1))), (4, .int (iI v37)), (0, .ref (B + 304)), (1, .int (iI a1))]) C 1 dX10_put_165 rfl (by decide) rfl ?_
                  refine v_goto C 128 dX10_put_168 (by decide) ?_
                  obtain ⟨m9, hm9, h⟩ := h
                  exact ih25 m9 hm9 (x21 + 1) v37 σ31 h k38 rv37
          refine v_sub [0, 1, 2, 3] rfl ?_
          exact key26 n42 0 0 σ20 hnn42 (by decide) (by decide)
        · have h := h.2 c43
          refine v_bipush C dX10_put_29 (by decide) ?_
          exact v_iret C (by decide) h dX10_put_31
      · have h := h.2 c44
        refine v_iconst C dX10_put_22 ?_
        exact v_iret C (by decide) h dX10_put_23
-- SplitTowersModel.readModulus()I
def wp_X10_readModulus (σ : SG)  (Q : Int → SG → Prop) : Prop :=
  wp_X10_coefficients σ (fun (z2 : Int) (σ1 : SG) => ((¬ z2 = (-5) → wp_X10_clears σ1 2 (fun (σ3 : SG) => Jn1 (fun (x4 : Int) (σ5 : SG) => Lp2 (fun (rec10 : Int → Int → SG → Prop) (x7 : Int) (x8 : Int) (σ9 : SG) => ((z2 ≤ x7 → ((x8 = 0 → wp_X10_derives σ9 2 3 (fun (σ13 : SG) => wp_X10_common σ13 2 3 4 (fun (σ14 : SG) => wp_X10_degree σ14 4 (fun (z16 : Int) (σ15 : SG) => ((z16 ≤ 0 → Lp2 (fun (rec20 : Int → Int → SG → Prop) (x17 : Int) (x18 : Int) (σ19 : SG) => ((7 ≤ x17 → ((x18 = 0 → wp_X10_record σ19 (fun (σ23 : SG) => Lp1 (fun (rec26 : Int → SG → Prop) (x24 : Int) (σ25 : SG) => ((7 ≤ x24 → Lp1 (fun (rec31 : Int → SG → Prop) (x29 : Int) (σ30 : SG) => ((6 ≤ x29 → (∀ σ34 : SG, σ34 = ug σ30 305 44 0 → wp_X10_comes σ34 2 (fun (σ35 : SG) => (inR (z2 - 1) ∧ Q (z2 - 1) σ35)))) ∧ (¬ 6 ≤ x29 → wp_X10_loadsNumber σ30 x29 3 (fun (σ37 : SG) => wp_X10_divides σ37 3 2 (-1) (fun (σ38 : SG) => wp_X10_stores σ38 3 x29 (fun (σ39 : SG) => (inR (x29 + 1) ∧ rec31 (x29 + 1) σ39))))))) 0 σ25) ∧ (¬ 7 ≤ x24 → (inR (1 + x24) ∧ wp_X10_of σ25 2 x24 (fun (z46 : Int) (σ45 : SG) => ((0 ≤ 1 + x24 ∧ 1 + x24 < 87) ∧ (∀ σ48 : SG, σ48 = ug σ45 305 ((1 + x24).toNat) z46 → (inR (x24 + 1) ∧ rec26 (x24 + 1) σ48)))))))) 0 σ23)) ∧ (¬ x18 = 0 → Q (-5) σ19))) ∧ (¬ 7 ≤ x17 → (inR (1 + x17) ∧ ((0 ≤ 1 + x17 ∧ 1 + x17 < 87) ∧ wp_X10_of σ19 2 x17 (fun (z57 : Int) (σ56 : SG) => ((¬ (σ19 305 (1 + x17).toNat) = z57 → (∀ v58 : Int, v58 = (iand x18 0) → (inR (x17 + 1) ∧ rec20 (x17 + 1) v58 σ56))) ∧ ((σ19 305 (1 + x17).toNat) = z57 → (∀ v60 : Int, v60 = (iand x18 1) → (inR (x17 + 1) ∧ rec20 (x17 + 1) v60 σ56)))))))))) 0 1 σ15) ∧ (¬ z16 ≤ 0 → Q (-4) σ15)))))) ∧ (¬ x8 = 0 → Q (-2) σ9))) ∧ (¬ z2 ≤ x7 → ((0 ≤ x7 ∧ x7 < 7) ∧ Jn1 (fun (x69 : Int) (σ70 : SG) => (∀ v72 : Int, v72 = (ior x8 x69) → ((0 ≤ x7 ∧ x7 < 7) ∧ ((σ70 305 0) ≠ 0 ∧ wp_X10_puts σ70 2 x7 (Int.tmod (σ70 312 x7.toNat) (σ70 305 0)) (fun (σ75 : SG) => (inR (x7 + 1) ∧ rec10 (x7 + 1) v72 σ75)))))) (fun J71 => (((σ9 312 x7.toNat) < (σ9 305 0) → J71 0 σ9) ∧ (¬ (σ9 312 x7.toNat) < (σ9 305 0) → J71 1 σ9))))))) 0 x4 σ5) (fun J6 => ((z2 = 1 → J6 1 σ3) ∧ (¬ z2 = 1 → (inR (z2 - 1) ∧ ((0 ≤ z2 - 1 ∧ z2 - 1 < 7) ∧ (((σ3 312 (z2 - 1).toNat) = 1 → J6 0 σ3) ∧ (¬ (σ3 312 (z2 - 1).toNat) = 1 → J6 1 σ3))))))))) ∧ (z2 = (-5) → (inR ((-100) - (σ1 304 10)) ∧ Q ((-100) - (σ1 304 10)) σ1))))
def rm_X10_readModulus : Room := { frames := 4, cells := 0, slots := 0, locals := 97 }
theorem wy_X10_readModulus : Cond.instanceMethod yX10_readModulus ∈ WS ∧ Cond.selects "SplitTowersModel" yX10_readModulus yX10_readModulus ∈ WS ∧ Cond.initialized "SplitTowersModel" ∈ WS ∧ Cond.code yX10_readModulus prog_12_method_37_code 5 (some .int) ∈ WS := ⟨w933, w934, w79, w935⟩
theorem hd_X10_readModulus : yX10_readModulus.cls = "SplitTowersModel" ∧ yX10_readModulus.cls ≠ "java/lang/invoke/MethodHandle" ∧ yX10_readModulus.cls ≠ "java/lang/invoke/VarHandle" ∧ (parseMethodDescriptor yX10_readModulus.desc).map (fun d => d.parameters.length) = some 0 := by decide +kernel
set_option maxHeartbeats 4000000 in
set_option maxRecDepth 100000 in
theorem s_X10_readModulus {l : Launch} {D : va_G} {aC : Nat → ClassId} {B lo hi : Nat} {σ : SG}  {Q : Int → SG → Prop} (hlo : lo ≤ 304) (hhi : 316 ≤ hi) (h : wp_X10_readModulus σ  Q) : Met l yX10_readModulus (Cond.code yX10_readModulus prog_12_method_37_code 5 (some .int) :: WS) rm_X10_readModulus (va_Pc [.ref (B + 304)] (WP D aC B lo hi σ)) (QI D aC B lo hi Q) 0 0 (AB B lo hi) := by
  refine met_of (by decide +kernel) (by decide +kernel : yX10_readModulus.cls = "SplitTowersModel") (Nat.le_of_ble_eq_true rfl) ?_
  intro p e s m args below meth c C
  unfold wp_X10_readModulus at h
  refine v_R (fun hR0 => ?_)
  show V p l e rm_X10_readModulus s m args below meth c D aC B lo hi 5 (MQ below (QI D aC B lo hi Q) args s 0 0 (AB B lo hi)) σ 0 [(0, .ref (B + 304))] []
  refine v_aload_n C 0 dX10_readModulus_0 rfl rfl ?_
  refine v_calli (i := 304) (As := []) (rest := []) C (s_X10_coefficients hlo hhi h) w936 wy_X10_coefficients ⟨rfl, rfl⟩ hd_X10_coefficients ⟨Nat.le_of_ble_eq_true rfl, Nat.le_of_ble_eq_true rfl⟩ (Nat.le_trans hlo (by decide)) (Nat.lt_of_lt_of_le (by decide) hhi) rfl rfl rfl rfl (Nat.le_of_ble_eq_true rfl) dX10_readModulus_1 (fun z2 σ1 rz2 h => ?_)
  refine v_R (fun hRσ1 => ?_)
  refine v_istore_n (lv' := [(1, .int (iI z2)), (0, .ref (B + 304))]) C dX10_readModulus_4 rfl (by decide) rfl ?_
  refine v_iload_n C 0 dX10_readModulus_5 rfl rfl ?_
  refine v_bipush C dX10_readModulus_6 (by decide) ?_
  refine v_icmp_ne C rz2 (by decide) 19 dX10_readModulus_8 (by decide) (fun c86 => ?_) (fun c86 => ?_)
  · have h := h.1 c86
    refine v_aload_n C 1 dX10_readModulus_19 rfl rfl ?_
    refine v_iconst C dX10_readModulus_20 ?_
    refine v_callv (i := 304) (As := [.int (iI 2)]) (rest := []) C (s_X10_clears hlo hhi (by decide) h) w951 wy_X10_clears ⟨rfl, rfl⟩ hd_X10_clears ⟨Nat.le_of_ble_eq_true rfl, Nat.le_of_ble_eq_true rfl⟩ (Nat.le_trans hlo (by decide)) (Nat.lt_of_lt_of_le (by decide) hhi) rfl rfl rfl rfl (Nat.le_of_ble_eq_true rfl) dX10_readModulus_21 (fun σ3 h => ?_)
    refine v_R (fun hRσ3 => ?_)
    refine v_iload_n C 0 dX10_readModulus_24 rfl rfl ?_
    refine v_iconst C dX10_readModulus_25 ?_
    obtain ⟨J6, hJ6, h⟩ := h
    have kJ6 : ∀ (x4 : Int) (σ5 : SG), J6 x4 σ5 → inR x4 → V p l e rm_X10_readModulus s m args below meth c D aC B lo hi 5 (MQ below (QI D aC B lo hi Q) args s 0 0 (AB B lo hi)) σ5 46 [(1, .int (iI z2)), (0, .ref (B + 304))] [.int (iI x4)] := by
      intro x4 σ5 hj rx4
      have h := hJ6 x4 σ5 hj
      refine v_R (fun hRσ5 => ?_)
      refine v_istore_n (lv' := [(2, .int (iI x4)), (1, .int (iI z2)), (0, .ref (B + 304))]) C dX10_readModulus_46 rfl (by decide) rfl ?_
      refine v_iconst C dX10_readModulus_47 ?_
      refine v_istore_n (lv' := [(3, .int (iI 0)), (2, .int (iI x4)), (1, .int (iI z2)), (0, .ref (B + 304))]) C dX10_readModulus_48 rfl (by decide) rfl ?_
      obtain ⟨I79, ⟨n80, hnn80⟩, hII79⟩ := h
      have key12 : ∀ (n : Nat) (x7 : Int) (x8 : Int) (σ9 : SG), I79 n x7 x8 σ9 → inR x7 → inR x8 → V p l e rm_X10_readModulus s m args below meth c D aC B lo hi 5 (MQ below (QI D aC B lo hi Q) args s 0 0 (AB B lo hi)) σ9 49 [(3, .int (iI x7)), (2, .int (iI x8)), (1, .int (iI z2)), (0, .ref (B + 304))] [] := by
        intro n
        induction n using Nat.strongRecOn with
        | ind n ih11 =>
          intro x7 x8 σ9 hn rx7 rx8
          have h := hII79 n x7 x8 σ9 hn
          refine v_R (fun hRσ9 => ?_)
          refine v_iload_n C 0 dX10_readModulus_49 rfl rfl ?_
          refine v_iload_n C 2 dX10_readModulus_50 rfl rfl ?_
          refine v_icmp_ge C rx7 rz2 102 dX10_readModulus_51 (by decide) (fun c78 => ?_) (fun c78 => ?_)
          · have h := h.1 c78
            refine v_iload_n C 1 dX10_readModulus_102 rfl rfl ?_
            refine v_if_eq C rx8 109 dX10_readModulus_103 (by decide) (fun c67 => ?_) (fun c67 => ?_)
            · have h := h.1 c67
              refine v_aload_n C 3 dX10_readModulus_109 rfl rfl ?_
              refine v_iconst C dX10_readModulus_110 ?_
              refine v_iconst C dX10_readModulus_111 ?_
              refine v_callv (i := 304) (As := [.int (iI 2), .int (iI 3)]) (rest := []) C (s_X10_derives hlo hhi (by decide) (by decide) h) w959 wy_X10_derives ⟨rfl, rfl⟩ hd_X10_derives ⟨Nat.le_of_ble_eq_true rfl, Nat.le_of_ble_eq_true rfl⟩ (Nat.le_trans hlo (by decide)) (Nat.lt_of_lt_of_le (by decide) hhi) rfl rfl rfl rfl (Nat.le_of_ble_eq_true rfl) dX10_readModulus_112 (fun σ13 h => ?_)
              refine v_R (fun hRσ13 => ?_)
              refine v_aload_n C 3 dX10_readModulus_115 rfl rfl ?_
              refine v_iconst C dX10_readModulus_116 ?_
              refine v_iconst C dX10_readModulus_117 ?_
              refine v_iconst C dX10_readModulus_118 ?_
              refine v_callv (i := 304) (As := [.int (iI 2), .int (iI 3), .int (iI 4)]) (rest := []) C (s_X10_common hlo hhi (by decide) (by decide) (by decide) h) w967 wy_X10_common ⟨rfl, rfl⟩ hd_X10_common ⟨Nat.le_of_ble_eq_true rfl, Nat.le_of_ble_eq_true rfl⟩ (Nat.le_trans hlo (by decide)) (Nat.lt_of_lt_of_le (by decide) hhi) rfl rfl rfl rfl (Nat.le_of_ble_eq_true rfl) dX10_readModulus_119 (fun σ14 h => ?_)
              refine v_R (fun hRσ14 => ?_)
              refine v_aload_n C 3 dX10_readModulus_122 rfl rfl ?_
              refine v_iconst C dX10_readModulus_123 ?_
              refine v_calli (i := 304) (As := [.int (iI 4)]) (rest := []) C (s_X10_degree hlo hhi (by decide) h) w975 wy_X10_degree ⟨rfl, rfl⟩ hd_X10_degree ⟨Nat.le_of_ble_eq_true rfl, Nat.le_of_ble_eq_true rfl⟩ (Nat.le_trans hlo (by decide)) (Nat.lt_of_lt_of_le (by decide) hhi) rfl rfl rfl rfl (Nat.le_of_ble_eq_true rfl) dX10_readModulus_124 (fun z16 σ15 rz16 h => ?_)
              refine v_R (fun hRσ15 => ?_)
              refine v_if_le C rz16 133 dX10_readModulus_127 (by decide) (fun c66 => ?_) (fun c66 => ?_)
              · have h := h.1 c66
                refine v_iconst C dX10_readModulus_133 ?_
                refine v_istore_n (lv' := [(3, .int (iI 1)), (2, .int (iI x8)), (1, .int (iI z2)), (0, .ref (B + 304))]) C dX10_readModulus_134 rfl (by decide) rfl ?_
                refine v_iconst C dX10_readModulus_135 ?_
                refine v_istore (lv' := [(4, .int (iI 0)), (3, .int (iI 1)), (2, .int (iI x8)), (1, .int (iI z2)), (0, .ref (B + 304))]) C dX10_readModulus_136 (by decide) rfl ?_
                obtain ⟨I64, ⟨n65, hnn65⟩, hII64⟩ := h
                have key22 : ∀ (n : Nat) (x17 : Int) (x18 : Int) (σ19 : SG), I64 n x17 x18 σ19 → inR x17 → inR x18 → V p l e rm_X10_readModulus s m args below meth c D aC B lo hi 5 (MQ below (QI D aC B lo hi Q) args s 0 0 (AB B lo hi)) σ19 138 [(4, .int (iI x17)), (3, .int (iI x18)), (1, .int (iI z2)), (0, .ref (B + 304))] [] := by
                  intro n
                  induction n using Nat.strongRecOn with
                  | ind n ih21 =>
                    intro x17 x18 σ19 hn rx17 rx18
                    have h := hII64 n x17 x18 σ19 hn
                    refine v_R (fun hRσ19 => ?_)
                    refine v_iload C 0 dX10_readModulus_138 rfl ?_
                    refine v_bipush C dX10_readModulus_140 (by decide) ?_
                    refine v_icmp_ge C rx17 (by decide) 178 dX10_readModulus_142 (by decide) (fun c63 => ?_) (fun c63 => ?_)
                    · have h := h.1 c63
                      refine v_iload_n C 1 dX10_readModulus_178 rfl rfl ?_
                      refine v_if_eq C rx18 185 dX10_readModulus_179 (by decide) (fun c53 => ?_) (fun c53 => ?_)
                      · have h := h.1 c53
                        refine v_aload_n C 3 dX10_readModulus_185 rfl rfl ?_
                        refine v_callv (i := 304) (As := []) (rest := []) C (s_X10_record hlo hhi h) w928 wy_X10_record ⟨rfl, rfl⟩ hd_X10_record ⟨Nat.le_of_ble_eq_true rfl, Nat.le_of_ble_eq_true rfl⟩ (Nat.le_trans hlo (by decide)) (Nat.lt_of_lt_of_le (by decide) hhi) rfl rfl rfl rfl (Nat.le_of_ble_eq_true rfl) dX10_readModulus_186 (fun σ23 h => ?_)
                        refine v_R (fun hRσ23 => ?_)
                        refine v_iconst C dX10_readModulus_189 ?_
                        refine v_istore (lv' := [(4, .int (iI 0)), (3, .int (iI x18)), (1, .int (iI z2)), (0, .ref (B + 304))]) C dX10_readModulus_190 (by decide) rfl ?_
                        obtain ⟨I51, ⟨n52, hnn52⟩, hII51⟩ := h
                        have key28 : ∀ (n : Nat) (x24 : Int) (σ25 : SG), I51 n x24 σ25 → inR x24 → V p l e rm_X10_readModulus s m args below meth c D aC B lo hi 5 (MQ below (QI D aC B lo hi Q) args s 0 0 (AB B lo hi)) σ25 192 [(4, .int (iI x24)), (1, .int (iI z2)), (0, .ref (B + 304))] [] := by
                          intro n
                          induction n using Nat.strongRecOn with
                          | ind n ih27 =>
                            intro x24 σ25 hn rx24
                            have h := hII51 n x24 σ25 hn
                            refine v_R (fun hRσ25 => ?_)
                            refine v_iload C 0 dX10_readModulus_192 rfl ?_
                            refine v_bipush C dX10_readModulus_194 (by decide) ?_
                            refine v_icmp_ge C rx24 (by decide) 221 dX10_readModulus_196 (by decide) (fun c50 => ?_) (fun c50 => ?_)
                            · have h := h.1 c50
                              refine v_iconst C dX10_readModulus_221 ?_
                              refine v_istore (lv' := [(4, .int (iI 0)), (1, .int (iI z2)), (0, .ref (B + 304))]) C dX10_readModulus_222 (by decide) rfl ?_
                              obtain ⟨I42, ⟨n43, hnn43⟩, hII42⟩ := h
                              have key33 : ∀ (n : Nat) (x29 : Int) (σ30 : SG), I42 n x29 σ30 → inR x29 → V p l e rm_X10_readModulus s m args below meth c D aC B lo hi 5 (MQ below (QI D aC B lo hi Q) args s 0 0 (AB B lo hi)) σ30 224 [(4, .int (iI x29)), (1, .int (iI z2)), (0, .ref (B + 304))] [] := by
                                intro n
                                induction n using Nat.strongRecOn with
                                | ind n ih32 =>
                                  intro x29 σ30 hn rx29
                                  have h := hII42 n x29 σ30 hn
                                  refine v_R (fun hRσ30 => ?_)
                                  refine v_iload C 0 dX10_readModulus_224 rfl ?_
                                  refine v_bipush C dX10_readModulus_226 (by decide) ?_
                                  refine v_icmp_ge C rx29 (by decide) 258 dX10_readModulus_228 (by decide) (fun c41 => ?_) (fun c41 => ?_)
                                  · have h := h.1 c41
                                    refine v_aload_n C 2 dX10_readModulus_258 rfl rfl ?_
                                    refine gf10_now C hlo hhi w877 dX10_readModulus_259 ?_
                                    refine v_bipush C dX10_readModulus_262 (by decide) ?_
                                    refine v_iconst C dX10_readModulus_264 ?_
                                    refine v_iast (i := 305) (n := 87) C (Nat.le_trans hlo (by decide)) (Nat.lt_of_lt_of_le (by decide) hhi) (fun _ => rfl) (by decide) ⟨by decide, by decide⟩ (by decide) dX10_readModulus_265 ?_
                                    refine v_nameS (fun σ34 eσ34 => ?_)
                                    have h := h σ34 eσ34
                                    refine v_R (fun hRσ34 => ?_)
                                    refine v_aload_n C 2 dX10_readModulus_266 rfl rfl ?_
                                    refine v_iconst C dX10_readModulus_267 ?_
                                    refine v_callv (i := 304) (As := [.int (iI 2)]) (rest := []) C (s_X10_comes hlo hhi (by decide) h) w1003 wy_X10_comes ⟨rfl, rfl⟩ hd_X10_comes ⟨Nat.le_of_ble_eq_true rfl, Nat.le_of_ble_eq_true rfl⟩ (Nat.le_trans hlo (by decide)) (Nat.lt_of_lt_of_le (by decide) hhi) rfl rfl rfl rfl (Nat.le_of_ble_eq_true rfl) dX10_readModulus_268 (fun σ35 h => ?_)
                                    refine v_R (fun hRσ35 => ?_)
                                    refine v_iload_n C 1 dX10_readModulus_271 rfl rfl ?_
                                    refine v_iconst C dX10_readModulus_272 ?_
                                    have k36 := h.1
                                    have h := h.2
                                    refine v_isub C dX10_readModulus_273 ?_
                                    exact v_iret C k36 h dX10_readModulus_274
                                  · have h := h.2 c41
                                    refine v_aload_n C 2 dX10_readModulus_231 rfl rfl ?_
                                    refine v_iload C 0 dX10_readModulus_232 rfl ?_
                                    refine v_iconst C dX10_readModulus_234 ?_
                                    refine v_callv (i := 304) (As := [.int (iI x29), .int (iI 3)]) (rest := []) C (s_X10_loadsNumber hlo hhi rx29 (by decide) h) w991 wy_X10_loadsNumber ⟨rfl, rfl⟩ hd_X10_loadsNumber ⟨Nat.le_of_ble_eq_true rfl, Nat.le_of_ble_eq_true rfl⟩ (Nat.le_trans hlo (by decide)) (Nat.lt_of_lt_of_le (by decide) hhi) rfl rfl rfl rfl (Nat.le_of_ble_eq_true rfl) dX10_readModulus_235 (fun σ37 h => ?_)
                                    refine v_R (fun hRσ37 => ?_)
                                    refine v_aload_n C 2 dX10_readModulus_238 rfl rfl ?_
                                    refine v_iconst C dX10_readModulus_239 ?_
                                    refine v_iconst C dX10_readModulus_240 ?_
                                    refine v_iconst C dX10_readModulus_241 ?_
                                    refine v_callv (i := 304) (As := [.int (iI 3), .int (iI 2), .int (iI (-1))]) (rest := []) C (s_X10_divides hlo hhi (by decide) (by decide) (by decide) h) w979 wy_X10_divides ⟨rfl, rfl⟩ hd_X10_divides ⟨Nat.le_of_ble_eq_true rfl, Nat.le_of_ble_eq_true rfl⟩ (Nat.le_trans hlo (by decide)) (Nat.lt_of_lt_of_le (by decide) hhi) rfl rfl rfl rfl (Nat.le_of_ble_eq_true rfl) dX10_readModulus_242 (fun σ38 h => ?_)
                                    refine v_R (fun hRσ38 => ?_)
                                    refine v_aload_n C 2 dX10_readModulus_245 rfl rfl ?_
                                    refine v_iconst C dX10_readModulus_246 ?_
                                    refine v_iload C 0 dX10_readModulus_247 rfl ?_
                                    refine v_callv (i := 304) (As := [.int (iI 3), .int (iI x29)]) (rest := []) C (s_X10_stores hlo hhi (by decide) rx29 h) w999 wy_X10_stores ⟨rfl, rfl⟩ hd_X10_stores ⟨Nat.le_of_ble_eq_true rfl, Nat.le_of_ble_eq_true rfl⟩ (Nat.le_trans hlo (by decide)) (Nat.lt_of_lt_of_le (by decide) hhi) rfl rfl rfl rfl (Nat.le_of_ble_eq_true rfl) dX10_readModulus_249 (fun σ39 h => ?_)
                                    refine v_R (fun hRσ39 => ?_)
                                    have k40 := h.1
                                    have h := h.2
                                    refine v_iinc (lv' := [(4, .int (iI (x29 + 1))), (1, .int (iI z2)), (0, .ref (B + 304))]) C 0 dX10_readModulus_252 rfl (by decide) rfl ?_
                                    refine v_goto C 224 dX10_readModulus_255 (by decide) ?_
                                    obtain ⟨m9, hm9, h⟩ := h
                                    exact ih32 m9 hm9 (x29 + 1) σ39 h k40
                              exact key33 n43 0 σ25 hnn43 (by decide)
                            · have h := h.2 c50
                              refine v_aload_n C 2 dX10_readModulus_199 rfl rfl ?_
                              refine gf10_now C hlo hhi w877 dX10_readModulus_200 ?_
                              refine v_iconst C dX10_readModulus_203 ?_
                              refine v_iload C 0 dX10_readModulus_204 rfl ?_
                              have k44 := h.1
                              have h := h.2
                              refine v_iadd C dX10_readModulus_206 ?_
                              refine v_aload_n C 2 dX10_readModulus_207 rfl rfl ?_
                              refine v_iconst C dX10_readModulus_208 ?_
                              refine v_iload C 0 dX10_readModulus_209 rfl ?_
                              refine v_calli (i := 304) (As := [.int (iI 2), .int (iI x24)]) (rest := [.int (iI (1 + x24)), .ref (B + 305)]) C (s_X10_of hlo hhi (by decide) rx24 h) w963 wy_X10_of ⟨rfl, rfl⟩ hd_X10_of ⟨Nat.le_of_ble_eq_true rfl, Nat.le_of_ble_eq_true rfl⟩ (Nat.le_trans hlo (by decide)) (Nat.lt_of_lt_of_le (by decide) hhi) rfl rfl rfl rfl (Nat.le_of_ble_eq_true rfl) dX10_readModulus_211 (fun z46 σ45 rz46 h => ?_)
                              refine v_R (fun hRσ45 => ?_)
                              have k47 := h.1
                              have h := h.2
                              refine v_iast (i := 305) (n := 87) C (Nat.le_trans hlo (by decide)) (Nat.lt_of_lt_of_le (by decide) hhi) (fun _ => rfl) k44 k47 rz46 dX10_readModulus_214 ?_
                              refine v_nameS (fun σ48 eσ48 => ?_)
                              have h := h σ48 eσ48
                              refine v_R (fun hRσ48 => ?_)
                              have k49 := h.1
                              have h := h.2
                              refine v_iinc (lv' := [(4, .int (iI (x24 + 1))), (1, .int (iI z2)), (0, .ref (B + 304))]) C 0 dX10_readModulus_215 rfl (by decide) rfl ?_
                              refine v_goto C 192 dX10_readModulus_218 (by decide) ?_
                              obtain ⟨m9, hm9, h⟩ := h
                              exact ih27 m9 hm9 (x24 + 1) σ48 h k49
                        refine v_sub [0, 2, 3] rfl ?_
                        exact key28 n52 0 σ23 hnn52 (by decide)
                      · have h := h.2 c53
                        refine v_bipush C dX10_readModulus_182 (by decide) ?_
                        exact v_iret C (by decide) h dX10_readModulus_184
                    · have h := h.2 c63
                      refine v_iload_n C 1 dX10_readModulus_145 rfl rfl ?_
                      refine v_aload_n C 3 dX10_readModulus_146 rfl rfl ?_
                      refine gf10_now C hlo hhi w877 dX10_readModulus_147 ?_
                      refine v_iconst C dX10_readModulus_150 ?_
                      refine v_iload C 0 dX10_readModulus_151 rfl ?_
                      have k54 := h.1
                      have h := h.2
                      refine v_iadd C dX10_readModulus_153 ?_
                      have k55 := h.1
                      have h := h.2
                      refine v_iald (i := 305) (n := 87) C (Nat.le_trans hlo (by decide)) (Nat.lt_of_lt_of_le (by decide) hhi) rfl k54 k55 dX10_readModulus_154 ?_
                      refine v_aload_n C 3 dX10_readModulus_155 rfl rfl ?_
                      refine v_iconst C dX10_readModulus_156 ?_
                      refine v_iload C 0 dX10_readModulus_157 rfl ?_
                      refine v_calli (i := 304) (As := [.int (iI 2), .int (iI x17)]) (rest := [.int (iI (σ19 305 (1 + x17).toNat)), .int (iI x18)]) C (s_X10_of hlo hhi (by decide) rx17 h) w963 wy_X10_of ⟨rfl, rfl⟩ hd_X10_of ⟨Nat.le_of_ble_eq_true rfl, Nat.le_of_ble_eq_true rfl⟩ (Nat.le_trans hlo (by decide)) (Nat.lt_of_lt_of_le (by decide) hhi) rfl rfl rfl rfl (Nat.le_of_ble_eq_true rfl) dX10_readModulus_159 (fun z57 σ56 rz57 h => ?_)
                      refine v_R (fun hRσ56 => ?_)
                      refine v_icmp_ne C (hRσ19 305 _) rz57 169 dX10_readModulus_162 (by decide) (fun c62 => ?_) (fun c62 => ?_)
                      · have h := h.1 c62
                        refine v_iconst C dX10_readModulus_169 ?_
                        refine v_iand C dX10_readModulus_170 ?_
                        refine v_name (fun v58 ev58 => ?_)
                        have h := h v58 ev58
                        have rv58 : inR v58 := by rw [ev58]; exact (inR_iand _ _)
                        refine v_istore_n (lv' := [(3, .int (iI v58)), (4, .int (iI x17)), (1, .int (iI z2)), (0, .ref (B + 304))]) C dX10_readModulus_171 rfl (by decide) rfl ?_
                        have k59 := h.1
                        have h := h.2
                        refine v_iinc (lv' := [(4, .int (iI (x17 + 1))), (3, .int (iI v58)), (1, .int (iI z2)), (0, .ref (B + 304))]) C 1 dX10_readModulus_172 rfl (by decide) rfl ?_
                        refine v_goto C 138 dX10_readModulus_175 (by decide) ?_
                        obtain ⟨m9, hm9, h⟩ := h
                        exact ih21 m9 hm9 (x17 + 1) v58 σ56 h k59 rv58
                      · have h := h.2 c62
                        refine v_iconst C dX10_readModulus_165 ?_
                        refine v_goto C 170 dX10_readModulus_166 (by decide) ?_
                        refine v_iand C dX10_readModulus_170 ?_
                        refine v_name (fun v60 ev60 => ?_)
                        have h := h v60 ev60
                        have rv60 : inR v60 := by rw [ev60]; exact (inR_iand _ _)
                        refine v_istore_n (lv' := [(3, .int (iI v60)), (4, .int (iI x17)), (1, .int (iI z2)), (0, .ref (B + 304))]) C dX10_readModulus_171 rfl (by decide) rfl ?_
                        have k61 := h.1
                        have h := h.2
                        refine v_iinc (lv' := [(4, .int (iI (x17 + 1))), (3, .int (iI v60)), (1, .int (iI z2)), (0, .ref (B + 304))]) C 1 dX10_readModulus_172 rfl (by decide) rfl ?_
                        refine v_goto C 138 dX10_readModulus_175 (by decide) ?_
                        obtain ⟨m9, hm9, h⟩ := h
                        exact ih21 m9 hm9 (x17 + 1) v60 σ56 h k61 rv60
                refine v_sub [0, 1, 3, 4] rfl ?_
                exact key22 n65 0 1 σ15 hnn65 (by decide) (by decide)
              · have h := h.2 c66
                refine v_bipush C dX10_readModulus_130 (by decide) ?_
                exact v_iret C (by decide) h dX10_readModulus_132
            · have h := h.2 c67
              refine v_bipush C dX10_readModulus_106 (by decide) ?_
              exact v_iret C (by decide) h dX10_readModulus_108
          · have h := h.2 c78
            refine v_iload_n C 1 dX10_readModulus_54 rfl rfl ?_
            refine v_aload_n C 3 dX10_readModulus_55 rfl rfl ?_
            refine gf10_read C hlo hhi w888 dX10_readModulus_56 ?_
            refine v_iload_n C 0 dX10_readModulus_59 rfl rfl ?_
            have k68 := h.1
            have h := h.2
            refine v_iald (i := 312) (n := 7) C (Nat.le_trans hlo (by decide)) (Nat.lt_of_lt_of_le (by decide) hhi) rfl rx7 k68 dX10_readModulus_60 ?_
            refine v_aload_n C 3 dX10_readModulus_61 rfl rfl ?_
            refine gf10_now C hlo hhi w877 dX10_readModulus_62 ?_
            refine v_iconst C dX10_readModulus_65 ?_
            refine v_iald (i := 305) (n := 87) C (Nat.le_trans hlo (by decide)) (Nat.lt_of_lt_of_le (by decide) hhi) rfl (by decide) ⟨by decide, by decide⟩ dX10_readModulus_66 ?_
            obtain ⟨J71, hJ71, h⟩ := h
            have kJ71 : ∀ (x69 : Int) (σ70 : SG), J71 x69 σ70 → inR x69 → V p l e rm_X10_readModulus s m args below meth c D aC B lo hi 5 (MQ below (QI D aC B lo hi Q) args s 0 0 (AB B lo hi)) σ70 75 [(3, .int (iI x7)), (1, .int (iI z2)), (0, .ref (B + 304))] [.int (iI x69), .int (iI x8)] := by
              intro x69 σ70 hj rx69
              have h := hJ71 x69 σ70 hj
              refine v_R (fun hRσ70 => ?_)
              refine v_ior C dX10_readModulus_75 ?_
              refine v_name (fun v72 ev72 => ?_)
              have h := h v72 ev72
              have rv72 : inR v72 := by rw [ev72]; exact (inR_ior _ _)
              refine v_istore_n (lv' := [(2, .int (iI v72)), (3, .int (iI x7)), (1, .int (iI z2)), (0, .ref (B + 304))]) C dX10_readModulus_76 rfl (by decide) rfl ?_
              refine v_aload_n C 3 dX10_readModulus_77 rfl rfl ?_
              refine v_iconst C dX10_readModulus_78 ?_
              refine v_iload_n C 1 dX10_readModulus_79 rfl rfl ?_
              refine v_aload_n C 3 dX10_readModulus_80 rfl rfl ?_
              refine gf10_read C hlo hhi w888 dX10_readModulus_81 ?_
              refine v_iload_n C 1 dX10_readModulus_84 rfl rfl ?_
              have k73 := h.1
              have h := h.2
              refine v_iald (i := 312) (n := 7) C (Nat.le_trans hlo (by decide)) (Nat.lt_of_lt_of_le (by decide) hhi) rfl rx7 k73 dX10_readModulus_85 ?_
              refine v_aload_n C 3 dX10_readModulus_86 rfl rfl ?_
              refine gf10_now C hlo hhi w877 dX10_readModulus_87 ?_
              refine v_iconst C dX10_readModulus_90 ?_
              refine v_iald (i := 305) (n := 87) C (Nat.le_trans hlo (by decide)) (Nat.lt_of_lt_of_le (by decide) hhi) rfl (by decide) ⟨by decide, by decide⟩ dX10_readModulus_91 ?_
              have k74 := h.1
              have h := h.2
              refine v_irem C (hRσ70 312 _) (hRσ70 305 _) k74 dX10_readModulus_92 ?_
              refine v_callv (i := 304) (As := [.int (iI 2), .int (iI x7), .int (iI (Int.tmod (σ70 312 x7.toNat) (σ70 305 0)))]) (rest := []) C (s_X10_puts hlo hhi (by decide) rx7 (inR_tmod (hRσ70 312 _)) h) w955 wy_X10_puts ⟨rfl, rfl⟩ hd_X10_puts ⟨Nat.le_of_ble_eq_true rfl, Nat.le_of_ble_eq_true rfl⟩ (Nat.le_trans hlo (by decide)) (Nat.lt_of_lt_of_le (by decide) hhi) rfl rfl rfl rfl (Nat.le_of_ble_eq_true rfl) dX10_readModulus_93 (fun σ75 h => ?_)
              refine v_R (fun hRσ75 => ?_)
              have k76 := h.1
              have h := h.2
              refine v_iinc (lv' := [(3, .int (iI (x7 + 1))), (2, .int (iI v72)), (1, .int (iI z2)), (0, .ref (B + 304))]) C 1 dX10_readModulus_96 rfl (by decide) rfl ?_
              refine v_goto C 49 dX10_readModulus_99 (by decide) ?_
              obtain ⟨m9, hm9, h⟩ := h
              exact ih11 m9 hm9 (x7 + 1) v72 σ75 h k76 rv72
            refine v_icmp_lt C (hRσ9 312 _) (hRσ9 305 _) 74 dX10_readModulus_67 (by decide) (fun c77 => ?_) (fun c77 => ?_)
            · have h := h.1 c77
              refine v_iconst C dX10_readModulus_74 ?_
              refine v_sub [0, 2, 3] rfl ?_
              exact kJ71 0 σ9 h (by decide)
            · have h := h.2 c77
              refine v_iconst C dX10_readModulus_70 ?_
              refine v_goto C 75 dX10_readModulus_71 (by decide) ?_
              refine v_sub [0, 2, 3] rfl ?_
              exact kJ71 1 σ9 h (by decide)
      exact key12 n80 0 x4 σ5 hnn80 (by decide) rx4
    refine v_icmp_eq C rz2 (by decide) 41 dX10_readModulus_26 (by decide) (fun c84 => ?_) (fun c84 => ?_)
    · have h := h.1 c84
      refine v_iconst C dX10_readModulus_41 ?_
      refine v_goto C 46 dX10_readModulus_42 (by decide) ?_
      exact kJ6 1 σ3 h (by decide)
    · have h := h.2 c84
      refine v_aload_n C 1 dX10_readModulus_29 rfl rfl ?_
      refine gf10_read C hlo hhi w888 dX10_readModulus_30 ?_
      refine v_iload_n C 0 dX10_readModulus_33 rfl rfl ?_
      refine v_iconst C dX10_readModulus_34 ?_
      have k81 := h.1
      have h := h.2
      refine v_isub C dX10_readModulus_35 ?_
      have k82 := h.1
      have h := h.2
      refine v_iald (i := 312) (n := 7) C (Nat.le_trans hlo (by decide)) (Nat.lt_of_lt_of_le (by decide) hhi) rfl k81 k82 dX10_readModulus_36 ?_
      refine v_iconst C dX10_readModulus_37 ?_
      refine v_icmp_eq C (hRσ3 312 _) (by decide) 45 dX10_readModulus_38 (by decide) (fun c83 => ?_) (fun c83 => ?_)
      · have h := h.1 c83
        refine v_iconst C dX10_readModulus_45 ?_
        exact kJ6 0 σ3 h (by decide)
      · have h := h.2 c83
        refine v_iconst C dX10_readModulus_41 ?_
        refine v_goto C 46 dX10_readModulus_42 (by decide) ?_
        exact kJ6 1 σ3 h (by decide)
  · have h := h.2 c86
    refine v_bipush C dX10_readModulus_11 (by decide) ?_
    refine v_aload_n C 1 dX10_readModulus_13 rfl rfl ?_
    refine gf10_at C hlo hhi w887 dX10_readModulus_14 ?_
    have k85 := h.1
    have h := h.2
    refine v_isub C dX10_readModulus_17 ?_
    exact v_iret C k85 h dX10_readModulus_18
-- SplitTowersModel.resets()V
def wp_X10_resets (σ : SG)  (Q : SG → Prop) : Prop :=
  Lp1 (fun (rec3 : Int → SG → Prop) (x1 : Int) (σ2 : SG) => ((87 ≤ x1 → (∀ σ6 : SG, σ6 = ug σ2 305 2 1 → (∀ σ7 : SG, σ7 = ug σ6 305 44 1 → (∀ σ8 : SG, σ8 = ug σ7 305 46 1 → Q σ8)))) ∧ (¬ 87 ≤ x1 → ((0 ≤ x1 ∧ x1 < 87) ∧ (∀ σ10 : SG, σ10 = ug σ2 305 x1.toNat 0 → (inR (x1 + 1) ∧ rec3 (x1 + 1) σ10)))))) 1 σ
def rm_X10_resets : Room := { frames := 0, cells := 0, slots := 0, locals := 0 }
theorem wy_X10_resets : Cond.instanceMethod yX10_resets ∈ WS ∧ Cond.selects "SplitTowersModel" yX10_resets yX10_resets ∈ WS ∧ Cond.initialized "SplitTowersModel" ∈ WS ∧ Cond.code yX10_resets prog_12_method_2_code 2 none ∈ WS := ⟨w875, w13, w79, w876⟩
theorem hd_X10_resets : yX10_resets.cls = "SplitTowersModel" ∧ yX10_resets.cls ≠ "java/lang/invoke/MethodHandle" ∧ yX10_resets.cls ≠ "java/lang/invoke/VarHandle" ∧ (parseMethodDescriptor yX10_resets.desc).map (fun d => d.parameters.length) = some 0 := by decide +kernel
set_option maxHeartbeats 4000000 in
set_option maxRecDepth 100000 in
theorem s_X10_resets {l : Launch} {D : va_G} {aC : Nat → ClassId} {B lo hi : Nat} {σ : SG}  {Q : SG → Prop} (hlo : lo ≤ 304) (hhi : 316 ≤ hi) (h : wp_X10_resets σ  Q) : Met l yX10_resets (Cond.code yX10_resets prog_12_method_2_code 2 none :: WS) rm_X10_resets (va_Pc [.ref (B + 304)] (WP D aC B lo hi σ)) (QV D aC B lo hi Q) 0 0 (AB B lo hi) := by
  refine met_of (by decide +kernel) (by decide +kernel : yX10_resets.cls = "SplitTowersModel") (Nat.le_of_ble_eq_true rfl) ?_
  intro p e s m args below meth c C
  unfold wp_X10_resets at h
  refine v_R (fun hR0 => ?_)
  show V p l e rm_X10_resets s m args below meth c D aC B lo hi 2 (MQ below (QV D aC B lo hi Q) args s 0 0 (AB B lo hi)) σ 0 [(0, .ref (B + 304))] []
  refine v_iconst C dX10_resets_0 ?_
  refine v_istore_n (lv' := [(1, .int (iI 1)), (0, .ref (B + 304))]) C dX10_resets_1 rfl (by decide) rfl ?_
  obtain ⟨I13, ⟨n14, hnn14⟩, hII13⟩ := h
  have key5 : ∀ (n : Nat) (x1 : Int) (σ2 : SG), I13 n x1 σ2 → inR x1 → V p l e rm_X10_resets s m args below meth c D aC B lo hi 2 (MQ below (QV D aC B lo hi Q) args s 0 0 (AB B lo hi)) σ2 2 [(1, .int (iI x1)), (0, .ref (B + 304))] [] := by
    intro n
    induction n using Nat.strongRecOn with
    | ind n ih4 =>
      intro x1 σ2 hn rx1
      have h := hII13 n x1 σ2 hn
      refine v_R (fun hRσ2 => ?_)
      refine v_iload_n C 0 dX10_resets_2 rfl rfl ?_
      refine v_bipush C dX10_resets_3 (by decide) ?_
      refine v_icmp_ge C rx1 (by decide) 21 dX10_resets_5 (by decide) (fun c12 => ?_) (fun c12 => ?_)
      · have h := h.1 c12
        refine v_aload_n C 1 dX10_resets_21 rfl rfl ?_
        refine gf10_now C hlo hhi w877 dX10_resets_22 ?_
        refine v_iconst C dX10_resets_25 ?_
        refine v_iconst C dX10_resets_26 ?_
        refine v_iast (i := 305) (n := 87) C (Nat.le_trans hlo (by decide)) (Nat.lt_of_lt_of_le (by decide) hhi) (fun _ => rfl) (by decide) ⟨by decide, by decide⟩ (by decide) dX10_resets_27 ?_
        refine v_nameS (fun σ6 eσ6 => ?_)
        have h := h σ6 eσ6
        refine v_R (fun hRσ6 => ?_)
        refine v_aload_n C 1 dX10_resets_28 rfl rfl ?_
        refine gf10_now C hlo hhi w877 dX10_resets_29 ?_
        refine v_bipush C dX10_resets_32 (by decide) ?_
        refine v_iconst C dX10_resets_34 ?_
        refine v_iast (i := 305) (n := 87) C (Nat.le_trans hlo (by decide)) (Nat.lt_of_lt_of_le (by decide) hhi) (fun _ => rfl) (by decide) ⟨by decide, by decide⟩ (by decide) dX10_resets_35 ?_
        refine v_nameS (fun σ7 eσ7 => ?_)
        have h := h σ7 eσ7
        refine v_R (fun hRσ7 => ?_)
        refine v_aload_n C 1 dX10_resets_36 rfl rfl ?_
        refine gf10_now C hlo hhi w877 dX10_resets_37 ?_
        refine v_bipush C dX10_resets_40 (by decide) ?_
        refine v_iconst C dX10_resets_42 ?_
        refine v_iast (i := 305) (n := 87) C (Nat.le_trans hlo (by decide)) (Nat.lt_of_lt_of_le (by decide) hhi) (fun _ => rfl) (by decide) ⟨by decide, by decide⟩ (by decide) dX10_resets_43 ?_
        refine v_nameS (fun σ8 eσ8 => ?_)
        have h := h σ8 eσ8
        refine v_R (fun hRσ8 => ?_)
        exact v_vret C h dX10_resets_44
      · have h := h.2 c12
        refine v_aload_n C 1 dX10_resets_8 rfl rfl ?_
        refine gf10_now C hlo hhi w877 dX10_resets_9 ?_
        refine v_iload_n C 0 dX10_resets_12 rfl rfl ?_
        refine v_iconst C dX10_resets_13 ?_
        have k9 := h.1
        have h := h.2
        refine v_iast (i := 305) (n := 87) C (Nat.le_trans hlo (by decide)) (Nat.lt_of_lt_of_le (by decide) hhi) (fun _ => rfl) rx1 k9 (by decide) dX10_resets_14 ?_
        refine v_nameS (fun σ10 eσ10 => ?_)
        have h := h σ10 eσ10
        refine v_R (fun hRσ10 => ?_)
        have k11 := h.1
        have h := h.2
        refine v_iinc (lv' := [(1, .int (iI (x1 + 1))), (0, .ref (B + 304))]) C 0 dX10_resets_15 rfl (by decide) rfl ?_
        refine v_goto C 2 dX10_resets_18 (by decide) ?_
        obtain ⟨m9, hm9, h⟩ := h
        exact ih4 m9 hm9 (x1 + 1) σ10 h k11
  exact key5 n14 1 σ hnn14 (by decide)
-- SplitTowersModel.restore()I
def wp_X10_restore (σ : SG)  (Q : Int → SG → Prop) : Prop :=
  ((¬ (σ 304 4) = 0 → wp_X10_record σ (fun (σ1 : SG) => Lp1 (fun (rec4 : Int → SG → Prop) (x2 : Int) (σ3 : SG) => ((87 ≤ x2 → Q (σ3 305 44) σ3) ∧ (¬ 87 ≤ x2 → ((0 ≤ x2 ∧ x2 < 87) ∧ ((0 ≤ x2 ∧ x2 < 87) ∧ (∀ σ9 : SG, σ9 = ug σ3 305 x2.toNat (σ3 307 x2.toNat) → (inR (x2 + 1) ∧ rec4 (x2 + 1) σ9))))))) 0 σ1)) ∧ ((σ 304 4) = 0 → Q (-5) σ))
def rm_X10_restore : Room := { frames := 1, cells := 0, slots := 0, locals := 21 }
theorem wy_X10_restore : Cond.instanceMethod yX10_restore ∈ WS ∧ Cond.selects "SplitTowersModel" yX10_restore yX10_restore ∈ WS ∧ Cond.initialized "SplitTowersModel" ∈ WS ∧ Cond.code yX10_restore prog_12_method_65_code 2 (some .int) ∈ WS := ⟨w1171, w1172, w79, w1173⟩
theorem hd_X10_restore : yX10_restore.cls = "SplitTowersModel" ∧ yX10_restore.cls ≠ "java/lang/invoke/MethodHandle" ∧ yX10_restore.cls ≠ "java/lang/invoke/VarHandle" ∧ (parseMethodDescriptor yX10_restore.desc).map (fun d => d.parameters.length) = some 0 := by decide +kernel
set_option maxHeartbeats 4000000 in
set_option maxRecDepth 100000 in
theorem s_X10_restore {l : Launch} {D : va_G} {aC : Nat → ClassId} {B lo hi : Nat} {σ : SG}  {Q : Int → SG → Prop} (hlo : lo ≤ 304) (hhi : 316 ≤ hi) (h : wp_X10_restore σ  Q) : Met l yX10_restore (Cond.code yX10_restore prog_12_method_65_code 2 (some .int) :: WS) rm_X10_restore (va_Pc [.ref (B + 304)] (WP D aC B lo hi σ)) (QI D aC B lo hi Q) 0 0 (AB B lo hi) := by
  refine met_of (by decide +kernel) (by decide +kernel : yX10_restore.cls = "SplitTowersModel") (Nat.le_of_ble_eq_true rfl) ?_
  intro p e s m args below meth c C
  unfold wp_X10_restore at h
  refine v_R (fun hR0 => ?_)
  show V p l e rm_X10_restore s m args below meth c D aC B lo hi 2 (MQ below (QI D aC B lo hi Q) args s 0 0 (AB B lo hi)) σ 0 [(0, .ref (B + 304))] []
  refine v_aload_n C 0 dX10_restore_0 rfl rfl ?_
  refine gf10_isFilled C hlo hhi w881 dX10_restore_1 ?_
  refine v_if_ne C (hR0 304 4) 10 dX10_restore_4 (by decide) (fun c14 => ?_) (fun c14 => ?_)
  · have h := h.1 c14
    refine v_aload_n C 0 dX10_restore_10 rfl rfl ?_
    refine v_callv (i := 304) (As := []) (rest := []) C (s_X10_record hlo hhi h) w928 wy_X10_record ⟨rfl, rfl⟩ hd_X10_record ⟨Nat.le_of_ble_eq_true rfl, Nat.le_of_ble_eq_true rfl⟩ (Nat.le_trans hlo (by decide)) (Nat.lt_of_lt_of_le (by decide) hhi) rfl rfl rfl rfl (Nat.le_of_ble_eq_true rfl) dX10_restore_11 (fun σ1 h => ?_)
    refine v_R (fun hRσ1 => ?_)
    refine v_iconst C dX10_restore_14 ?_
    refine v_istore_n (lv' := [(1, .int (iI 0)), (0, .ref (B + 304))]) C dX10_restore_15 rfl (by decide) rfl ?_
    obtain ⟨I12, ⟨n13, hnn13⟩, hII12⟩ := h
    have key6 : ∀ (n : Nat) (x2 : Int) (σ3 : SG), I12 n x2 σ3 → inR x2 → V p l e rm_X10_restore s m args below meth c D aC B lo hi 2 (MQ below (QI D aC B lo hi Q) args s 0 0 (AB B lo hi)) σ3 16 [(1, .int (iI x2)), (0, .ref (B + 304))] [] := by
      intro n
      induction n using Nat.strongRecOn with
      | ind n ih5 =>
        intro x2 σ3 hn rx2
        have h := hII12 n x2 σ3 hn
        refine v_R (fun hRσ3 => ?_)
        refine v_iload_n C 0 dX10_restore_16 rfl rfl ?_
        refine v_bipush C dX10_restore_17 (by decide) ?_
        refine v_icmp_ge C rx2 (by decide) 40 dX10_restore_19 (by decide) (fun c11 => ?_) (fun c11 => ?_)
        · have h := h.1 c11
          refine v_aload_n C 1 dX10_restore_40 rfl rfl ?_
          refine gf10_now C hlo hhi w877 dX10_restore_41 ?_
          refine v_bipush C dX10_restore_44 (by decide) ?_
          refine v_iald (i := 305) (n := 87) C (Nat.le_trans hlo (by decide)) (Nat.lt_of_lt_of_le (by decide) hhi) rfl (by decide) ⟨by decide, by decide⟩ dX10_restore_46 ?_
          exact v_iret C (hRσ3 305 _) h dX10_restore_47
        · have h := h.2 c11
          refine v_aload_n C 1 dX10_restore_22 rfl rfl ?_
          refine gf10_now C hlo hhi w877 dX10_restore_23 ?_
          refine v_iload_n C 0 dX10_restore_26 rfl rfl ?_
          refine v_aload_n C 1 dX10_restore_27 rfl rfl ?_
          refine gf10_slot C hlo hhi w880 dX10_restore_28 ?_
          refine v_iload_n C 0 dX10_restore_31 rfl rfl ?_
          have k7 := h.1
          have h := h.2
          refine v_iald (i := 307) (n := 87) C (Nat.le_trans hlo (by decide)) (Nat.lt_of_lt_of_le (by decide) hhi) rfl rx2 k7 dX10_restore_32 ?_
          have k8 := h.1
          have h := h.2
          refine v_iast (i := 305) (n := 87) C (Nat.le_trans hlo (by decide)) (Nat.lt_of_lt_of_le (by decide) hhi) (fun _ => rfl) rx2 k8 (hRσ3 307 _) dX10_restore_33 ?_
          refine v_nameS (fun σ9 eσ9 => ?_)
          have h := h σ9 eσ9
          refine v_R (fun hRσ9 => ?_)
          have k10 := h.1
          have h := h.2
          refine v_iinc (lv' := [(1, .int (iI (x2 + 1))), (0, .ref (B + 304))]) C 0 dX10_restore_34 rfl (by decide) rfl ?_
          refine v_goto C 16 dX10_restore_37 (by decide) ?_
          obtain ⟨m9, hm9, h⟩ := h
          exact ih5 m9 hm9 (x2 + 1) σ9 h k10
    exact key6 n13 0 σ1 hnn13 (by decide)
  · have h := h.2 c14
    refine v_bipush C dX10_restore_7 (by decide) ?_
    exact v_iret C (by decide) h dX10_restore_9
-- SplitTowersModel.seen(III)I
def wp_X10_seen (σ : SG) (a1 : Int) (a2 : Int) (a3 : Int) (Q : Int → SG → Prop) : Prop :=
  wp_X10_noRegister σ a1 (fun (z2 : Int) (σ1 : SG) => ((¬ z2 = 0 → Q (-1) σ1) ∧ (z2 = 0 → wp_X10_noBranch σ1 a2 (fun (z4 : Int) (σ3 : SG) => ((z4 = 0 → wp_X10_degreeOfBranch σ3 a2 (fun (z6 : Int) (σ5 : SG) => (inR (z6 - 1) ∧ wp_X10_in σ5 a3 0 (z6 - 1) (fun (z9 : Int) (σ8 : SG) => ((¬ z9 = 0 → wp_X10_loadsNumber σ8 a1 2 (fun (σ10 : SG) => wp_X10_divides σ10 2 1 (-1) (fun (σ11 : SG) => wp_X10_of σ11 2 a3 (fun (z13 : Int) (σ12 : SG) => Q z13 σ12)))) ∧ (z9 = 0 → Q (-2) σ8)))))) ∧ (¬ z4 = 0 → Q (-1) σ3))))))
def rm_X10_seen : Room := { frames := 5, cells := 0, slots := 0, locals := 112 }
theorem wy_X10_seen : Cond.instanceMethod yX10_seen ∈ WS ∧ Cond.selects "SplitTowersModel" yX10_seen yX10_seen ∈ WS ∧ Cond.initialized "SplitTowersModel" ∈ WS ∧ Cond.code yX10_seen prog_12_method_70_code 4 (some .int) ∈ WS := ⟨w1191, w1192, w79, w1193⟩
theorem hd_X10_seen : yX10_seen.cls = "SplitTowersModel" ∧ yX10_seen.cls ≠ "java/lang/invoke/MethodHandle" ∧ yX10_seen.cls ≠ "java/lang/invoke/VarHandle" ∧ (parseMethodDescriptor yX10_seen.desc).map (fun d => d.parameters.length) = some 3 := by decide +kernel
set_option maxHeartbeats 4000000 in
set_option maxRecDepth 100000 in
theorem s_X10_seen {l : Launch} {D : va_G} {aC : Nat → ClassId} {B lo hi : Nat} {σ : SG} {a1 : Int} {a2 : Int} {a3 : Int} {Q : Int → SG → Prop} (hlo : lo ≤ 304) (hhi : 316 ≤ hi) (r1 : inR a1) (r2 : inR a2) (r3 : inR a3) (h : wp_X10_seen σ a1 a2 a3 Q) : Met l yX10_seen (Cond.code yX10_seen prog_12_method_70_code 4 (some .int) :: WS) rm_X10_seen (va_Pc [.ref (B + 304), .int (iI a1), .int (iI a2), .int (iI a3)] (WP D aC B lo hi σ)) (QI D aC B lo hi Q) 0 0 (AB B lo hi) := by
  refine met_of (by decide +kernel) (by decide +kernel : yX10_seen.cls = "SplitTowersModel") (Nat.le_of_ble_eq_true rfl) ?_
  intro p e s m args below meth c C
  unfold wp_X10_seen at h
  refine v_R (fun hR0 => ?_)
  show V p l e rm_X10_seen s m args below meth c D aC B lo hi 4 (MQ below (QI D aC B lo hi Q) args s 0 0 (AB B lo hi)) σ 0 [(0, .ref (B + 304)), (1, .int (iI a1)), (2, .int (iI a2)), (3, .int (iI a3))] []
  refine v_iload_n C 1 dX10_seen_0 rfl rfl ?_
  refine v_callsi (As := [.int (iI a1)]) (rest := []) C (s_X10_noRegister hlo hhi r1 h) w1015 wy_X10_noRegister ⟨rfl, rfl⟩ hd_X10_noRegister ⟨Nat.le_of_ble_eq_true rfl, Nat.le_of_ble_eq_true rfl⟩ rfl rfl (Nat.le_of_ble_eq_true rfl) dX10_seen_1 (fun z2 σ1 rz2 h => ?_)
  refine v_R (fun hRσ1 => ?_)
  refine v_if_ne C rz2 15 dX10_seen_4 (by decide) (fun c16 => ?_) (fun c16 => ?_)
  · have h := h.1 c16
    refine v_iconst C dX10_seen_15 ?_
    exact v_iret C (by decide) h dX10_seen_16
  · have h := h.2 c16
    refine v_aload_n C 0 dX10_seen_7 rfl rfl ?_
    refine v_iload_n C 2 dX10_seen_8 rfl rfl ?_
    refine v_calli (i := 304) (As := [.int (iI a2)]) (rest := []) C (s_X10_noBranch hlo hhi r2 h) w1034 wy_X10_noBranch ⟨rfl, rfl⟩ hd_X10_noBranch ⟨Nat.le_of_ble_eq_true rfl, Nat.le_of_ble_eq_true rfl⟩ (Nat.le_trans hlo (by decide)) (Nat.lt_of_lt_of_le (by decide) hhi) rfl rfl rfl rfl (Nat.le_of_ble_eq_true rfl) dX10_seen_9 (fun z4 σ3 rz4 h => ?_)
    refine v_R (fun hRσ3 => ?_)
    refine v_if_eq C rz4 17 dX10_seen_12 (by decide) (fun c15 => ?_) (fun c15 => ?_)
    · have h := h.1 c15
      refine v_iload_n C 3 dX10_seen_17 rfl rfl ?_
      refine v_iconst C dX10_seen_18 ?_
      refine v_aload_n C 0 dX10_seen_19 rfl rfl ?_
      refine v_iload_n C 2 dX10_seen_20 rfl rfl ?_
      refine v_calli (i := 304) (As := [.int (iI a2)]) (rest := [.int (iI 0), .int (iI a3)]) C (s_X10_degreeOfBranch hlo hhi r2 h) w1186 wy_X10_degreeOfBranch ⟨rfl, rfl⟩ hd_X10_degreeOfBranch ⟨Nat.le_of_ble_eq_true rfl, Nat.le_of_ble_eq_true rfl⟩ (Nat.le_trans hlo (by decide)) (Nat.lt_of_lt_of_le (by decide) hhi) rfl rfl rfl rfl (Nat.le_of_ble_eq_true rfl) dX10_seen_21 (fun z6 σ5 rz6 h => ?_)
      refine v_R (fun hRσ5 => ?_)
      refine v_iconst C dX10_seen_24 ?_
      have k7 := h.1
      have h := h.2
      refine v_isub C dX10_seen_25 ?_
      refine v_callsi (As := [.int (iI a3), .int (iI 0), .int (iI (z6 - 1))]) (rest := []) C (s_X10_in hlo hhi r3 (by decide) k7 h) w944 wy_X10_in ⟨rfl, rfl⟩ hd_X10_in ⟨Nat.le_of_ble_eq_true rfl, Nat.le_of_ble_eq_true rfl⟩ rfl rfl (Nat.le_of_ble_eq_true rfl) dX10_seen_26 (fun z9 σ8 rz9 h => ?_)
      refine v_R (fun hRσ8 => ?_)
      refine v_if_ne C rz9 35 dX10_seen_29 (by decide) (fun c14 => ?_) (fun c14 => ?_)
      · have h := h.1 c14
        refine v_aload_n C 0 dX10_seen_35 rfl rfl ?_
        refine v_iload_n C 1 dX10_seen_36 rfl rfl ?_
        refine v_iconst C dX10_seen_37 ?_
        refine v_callv (i := 304) (As := [.int (iI a1), .int (iI 2)]) (rest := []) C (s_X10_loadsNumber hlo hhi r1 (by decide) h) w991 wy_X10_loadsNumber ⟨rfl, rfl⟩ hd_X10_loadsNumber ⟨Nat.le_of_ble_eq_true rfl, Nat.le_of_ble_eq_true rfl⟩ (Nat.le_trans hlo (by decide)) (Nat.lt_of_lt_of_le (by decide) hhi) rfl rfl rfl rfl (Nat.le_of_ble_eq_true rfl) dX10_seen_38 (fun σ10 h => ?_)
        refine v_R (fun hRσ10 => ?_)
        refine v_aload_n C 0 dX10_seen_41 rfl rfl ?_
        refine v_iconst C dX10_seen_42 ?_
        refine v_iconst C dX10_seen_43 ?_
        refine v_iconst C dX10_seen_44 ?_
        refine v_callv (i := 304) (As := [.int (iI 2), .int (iI 1), .int (iI (-1))]) (rest := []) C (s_X10_divides hlo hhi (by decide) (by decide) (by decide) h) w979 wy_X10_divides ⟨rfl, rfl⟩ hd_X10_divides ⟨Nat.le_of_ble_eq_true rfl, Nat.le_of_ble_eq_true rfl⟩ (Nat.le_trans hlo (by decide)) (Nat.lt_of_lt_of_le (by decide) hhi) rfl rfl rfl rfl (Nat.le_of_ble_eq_true rfl) dX10_seen_45 (fun σ11 h => ?_)
        refine v_R (fun hRσ11 => ?_)
        refine v_aload_n C 0 dX10_seen_48 rfl rfl ?_
        refine v_iconst C dX10_seen_49 ?_
        refine v_iload_n C 3 dX10_seen_50 rfl rfl ?_
        refine v_calli (i := 304) (As := [.int (iI 2), .int (iI a3)]) (rest := []) C (s_X10_of hlo hhi (by decide) r3 h) w963 wy_X10_of ⟨rfl, rfl⟩ hd_X10_of ⟨Nat.le_of_ble_eq_true rfl, Nat.le_of_ble_eq_true rfl⟩ (Nat.le_trans hlo (by decide)) (Nat.lt_of_lt_of_le (by decide) hhi) rfl rfl rfl rfl (Nat.le_of_ble_eq_true rfl) dX10_seen_51 (fun z13 σ12 rz13 h => ?_)
        refine v_R (fun hRσ12 => ?_)
        exact v_iret C rz13 h dX10_seen_54
      · have h := h.2 c14
        refine v_bipush C dX10_seen_32 (by decide) ?_
        exact v_iret C (by decide) h dX10_seen_34
    · have h := h.2 c15
      refine v_iconst C dX10_seen_15 ?_
      exact v_iret C (by decide) h dX10_seen_16
-- SplitTowersModel.setNumber(III)I
def wp_X10_setNumber (σ : SG) (a1 : Int) (a2 : Int) (a3 : Int) (Q : Int → SG → Prop) : Prop :=
  wp_X10_noRegister σ a1 (fun (z2 : Int) (σ1 : SG) => ((z2 = 0 → wp_X10_noPlace σ1 a2 (fun (z4 : Int) (σ3 : SG) => ((¬ z4 = 0 → Q (-2) σ3) ∧ (z4 = 0 → (inR ((σ3 305 0) - 1) ∧ wp_X10_in σ3 a3 0 ((σ3 305 0) - 1) (fun (z7 : Int) (σ6 : SG) => ((¬ z7 = 0 → (inR (6 * a1) ∧ (inR (8 + (6 * a1)) ∧ (inR ((8 + (6 * a1)) + a2) ∧ ((0 ≤ (8 + (6 * a1)) + a2 ∧ (8 + (6 * a1)) + a2 < 87) ∧ (∀ v12 : Int, v12 = (σ6 305 ((8 + (6 * a1)) + a2).toNat) → ((¬ v12 = a3 → wp_X10_record σ6 (fun (σ13 : SG) => (inR (6 * a1) ∧ (inR (8 + (6 * a1)) ∧ (inR ((8 + (6 * a1)) + a2) ∧ ((0 ≤ (8 + (6 * a1)) + a2 ∧ (8 + (6 * a1)) + a2 < 87) ∧ (∀ σ18 : SG, σ18 = ug σ13 305 (((8 + (6 * a1)) + a2).toNat) a3 → Q v12 σ18))))))) ∧ (v12 = a3 → Q (-5) σ6)))))))) ∧ (z7 = 0 → Q (-2) σ6)))))))) ∧ (¬ z2 = 0 → Q (-1) σ1)))
def rm_X10_setNumber : Room := { frames := 6, cells := 0, slots := 0, locals := 130 }
theorem wy_X10_setNumber : Cond.instanceMethod yX10_setNumber ∈ WS ∧ Cond.selects "SplitTowersModel" yX10_setNumber yX10_setNumber ∈ WS ∧ Cond.initialized "SplitTowersModel" ∈ WS ∧ Cond.code yX10_setNumber prog_12_method_41_code 5 (some .int) ∈ WS := ⟨w1012, w1013, w79, w1014⟩
theorem hd_X10_setNumber : yX10_setNumber.cls = "SplitTowersModel" ∧ yX10_setNumber.cls ≠ "java/lang/invoke/MethodHandle" ∧ yX10_setNumber.cls ≠ "java/lang/invoke/VarHandle" ∧ (parseMethodDescriptor yX10_setNumber.desc).map (fun d => d.parameters.length) = some 3 := by decide +kernel
set_option maxHeartbeats 4000000 in
set_option maxRecDepth 100000 in
theorem s_X10_setNumber {l : Launch} {D : va_G} {aC : Nat → ClassId} {B lo hi : Nat} {σ : SG} {a1 : Int} {a2 : Int} {a3 : Int} {Q : Int → SG → Prop} (hlo : lo ≤ 304) (hhi : 316 ≤ hi) (r1 : inR a1) (r2 : inR a2) (r3 : inR a3) (h : wp_X10_setNumber σ a1 a2 a3 Q) : Met l yX10_setNumber (Cond.code yX10_setNumber prog_12_method_41_code 5 (some .int) :: WS) rm_X10_setNumber (va_Pc [.ref (B + 304), .int (iI a1), .int (iI a2), .int (iI a3)] (WP D aC B lo hi σ)) (QI D aC B lo hi Q) 0 0 (AB B lo hi) := by
  refine met_of (by decide +kernel) (by decide +kernel : yX10_setNumber.cls = "SplitTowersModel") (Nat.le_of_ble_eq_true rfl) ?_
  intro p e s m args below meth c C
  unfold wp_X10_setNumber at h
  refine v_R (fun hR0 => ?_)
  show V p l e rm_X10_setNumber s m args below meth c D aC B lo hi 5 (MQ below (QI D aC B lo hi Q) args s 0 0 (AB B lo hi)) σ 0 [(0, .ref (B + 304)), (1, .int (iI a1)), (2, .int (iI a2)), (3, .int (iI a3))] []
  refine v_iload_n C 1 dX10_setNumber_0 rfl rfl ?_
  refine v_callsi (As := [.int (iI a1)]) (rest := []) C (s_X10_noRegister hlo hhi r1 h) w1015 wy_X10_noRegister ⟨rfl, rfl⟩ hd_X10_noRegister ⟨Nat.le_of_ble_eq_true rfl, Nat.le_of_ble_eq_true rfl⟩ rfl rfl (Nat.le_of_ble_eq_true rfl) dX10_setNumber_1 (fun z2 σ1 rz2 h => ?_)
  refine v_R (fun hRσ1 => ?_)
  refine v_if_eq C rz2 9 dX10_setNumber_4 (by decide) (fun c22 => ?_) (fun c22 => ?_)
  · have h := h.1 c22
    refine v_aload_n C 0 dX10_setNumber_9 rfl rfl ?_
    refine v_iload_n C 2 dX10_setNumber_10 rfl rfl ?_
    refine v_calli (i := 304) (As := [.int (iI a2)]) (rest := []) C (s_X10_noPlace hlo hhi r2 h) w1018 wy_X10_noPlace ⟨rfl, rfl⟩ hd_X10_noPlace ⟨Nat.le_of_ble_eq_true rfl, Nat.le_of_ble_eq_true rfl⟩ (Nat.le_trans hlo (by decide)) (Nat.lt_of_lt_of_le (by decide) hhi) rfl rfl rfl rfl (Nat.le_of_ble_eq_true rfl) dX10_setNumber_11 (fun z4 σ3 rz4 h => ?_)
    refine v_R (fun hRσ3 => ?_)
    refine v_if_ne C rz4 33 dX10_setNumber_14 (by decide) (fun c21 => ?_) (fun c21 => ?_)
    · have h := h.1 c21
      refine v_bipush C dX10_setNumber_33 (by decide) ?_
      exact v_iret C (by decide) h dX10_setNumber_35
    · have h := h.2 c21
      refine v_iload_n C 3 dX10_setNumber_17 rfl rfl ?_
      refine v_iconst C dX10_setNumber_18 ?_
      refine v_aload_n C 0 dX10_setNumber_19 rfl rfl ?_
      refine gf10_now C hlo hhi w877 dX10_setNumber_20 ?_
      refine v_iconst C dX10_setNumber_23 ?_
      refine v_iald (i := 305) (n := 87) C (Nat.le_trans hlo (by decide)) (Nat.lt_of_lt_of_le (by decide) hhi) rfl (by decide) ⟨by decide, by decide⟩ dX10_setNumber_24 ?_
      refine v_iconst C dX10_setNumber_25 ?_
      have k5 := h.1
      have h := h.2
      refine v_isub C dX10_setNumber_26 ?_
      refine v_callsi (As := [.int (iI a3), .int (iI 0), .int (iI ((σ3 305 0) - 1))]) (rest := []) C (s_X10_in hlo hhi r3 (by decide) k5 h) w944 wy_X10_in ⟨rfl, rfl⟩ hd_X10_in ⟨Nat.le_of_ble_eq_true rfl, Nat.le_of_ble_eq_true rfl⟩ rfl rfl (Nat.le_of_ble_eq_true rfl) dX10_setNumber_27 (fun z7 σ6 rz7 h => ?_)
      refine v_R (fun hRσ6 => ?_)
      refine v_if_ne C rz7 36 dX10_setNumber_30 (by decide) (fun c20 => ?_) (fun c20 => ?_)
      · have h := h.1 c20
        refine v_aload_n C 0 dX10_setNumber_36 rfl rfl ?_
        refine gf10_now C hlo hhi w877 dX10_setNumber_37 ?_
        refine v_bipush C dX10_setNumber_40 (by decide) ?_
        refine v_bipush C dX10_setNumber_42 (by decide) ?_
        refine v_iload_n C 1 dX10_setNumber_44 rfl rfl ?_
        have k8 := h.1
        have h := h.2
        refine v_imul C dX10_setNumber_45 ?_
        have k9 := h.1
        have h := h.2
        refine v_iadd C dX10_setNumber_46 ?_
        refine v_iload_n C 2 dX10_setNumber_47 rfl rfl ?_
        have k10 := h.1
        have h := h.2
        refine v_iadd C dX10_setNumber_48 ?_
        have k11 := h.1
        have h := h.2
        refine v_iald (i := 305) (n := 87) C (Nat.le_trans hlo (by decide)) (Nat.lt_of_lt_of_le (by decide) hhi) rfl k10 k11 dX10_setNumber_49 ?_
        refine v_name (fun v12 ev12 => ?_)
        have h := h v12 ev12
        have rv12 : inR v12 := by rw [ev12]; exact (hRσ6 305 _)
        refine v_istore (lv' := [(4, .int (iI v12)), (0, .ref (B + 304)), (1, .int (iI a1)), (2, .int (iI a2)), (3, .int (iI a3))]) C dX10_setNumber_50 (by decide) rfl ?_
        refine v_iload C 0 dX10_setNumber_52 rfl ?_
        refine v_iload_n C 4 dX10_setNumber_54 rfl rfl ?_
        refine v_icmp_ne C rv12 r3 61 dX10_setNumber_55 (by decide) (fun c19 => ?_) (fun c19 => ?_)
        · have h := h.1 c19
          refine v_aload_n C 1 dX10_setNumber_61 rfl rfl ?_
          refine v_callv (i := 304) (As := []) (rest := []) C (s_X10_record hlo hhi h) w928 wy_X10_record ⟨rfl, rfl⟩ hd_X10_record ⟨Nat.le_of_ble_eq_true rfl, Nat.le_of_ble_eq_true rfl⟩ (Nat.le_trans hlo (by decide)) (Nat.lt_of_lt_of_le (by decide) hhi) rfl rfl rfl rfl (Nat.le_of_ble_eq_true rfl) dX10_setNumber_62 (fun σ13 h => ?_)
          refine v_R (fun hRσ13 => ?_)
          refine v_aload_n C 1 dX10_setNumber_65 rfl rfl ?_
          refine gf10_now C hlo hhi w877 dX10_setNumber_66 ?_
          refine v_bipush C dX10_setNumber_69 (by decide) ?_
          refine v_bipush C dX10_setNumber_71 (by decide) ?_
          refine v_iload_n C 2 dX10_setNumber_73 rfl rfl ?_
          have k14 := h.1
          have h := h.2
          refine v_imul C dX10_setNumber_74 ?_
          have k15 := h.1
          have h := h.2
          refine v_iadd C dX10_setNumber_75 ?_
          refine v_iload_n C 3 dX10_setNumber_76 rfl rfl ?_
          have k16 := h.1
          have h := h.2
          refine v_iadd C dX10_setNumber_77 ?_
          refine v_iload_n C 4 dX10_setNumber_78 rfl rfl ?_
          have k17 := h.1
          have h := h.2
          refine v_iast (i := 305) (n := 87) C (Nat.le_trans hlo (by decide)) (Nat.lt_of_lt_of_le (by decide) hhi) (fun _ => rfl) k16 k17 r3 dX10_setNumber_79 ?_
          refine v_nameS (fun σ18 eσ18 => ?_)
          have h := h σ18 eσ18
          refine v_R (fun hRσ18 => ?_)
          refine v_iload C 0 dX10_setNumber_80 rfl ?_
          exact v_iret C rv12 h dX10_setNumber_82
        · have h := h.2 c19
          refine v_bipush C dX10_setNumber_58 (by decide) ?_
          exact v_iret C (by decide) h dX10_setNumber_60
      · have h := h.2 c20
        refine v_bipush C dX10_setNumber_33 (by decide) ?_
        exact v_iret C (by decide) h dX10_setNumber_35
  · have h := h.2 c22
    refine v_iconst C dX10_setNumber_7 ?_
    exact v_iret C (by decide) h dX10_setNumber_8
-- SplitTowersModel.setPrime(I)I
def wp_X10_setPrime (σ : SG) (a1 : Int) (Q : Int → SG → Prop) : Prop :=
  ((a1 = 2 → (∀ v1 : Int, v1 = (σ 305 0) → ((¬ v1 = a1 → wp_X10_record σ (fun (σ2 : SG) => (∀ σ3 : SG, σ3 = ug σ2 305 0 a1 → wp_X10_resets σ3 (fun (σ4 : SG) => Q v1 σ4)))) ∧ (v1 = a1 → Q (-5) σ)))) ∧ (¬ a1 = 2 → ((a1 = 3 → (∀ v6 : Int, v6 = (σ 305 0) → ((¬ v6 = a1 → wp_X10_record σ (fun (σ7 : SG) => (∀ σ8 : SG, σ8 = ug σ7 305 0 a1 → wp_X10_resets σ8 (fun (σ9 : SG) => Q v6 σ9)))) ∧ (v6 = a1 → Q (-5) σ)))) ∧ (¬ a1 = 3 → ((a1 = 5 → (∀ v11 : Int, v11 = (σ 305 0) → ((¬ v11 = a1 → wp_X10_record σ (fun (σ12 : SG) => (∀ σ13 : SG, σ13 = ug σ12 305 0 a1 → wp_X10_resets σ13 (fun (σ14 : SG) => Q v11 σ14)))) ∧ (v11 = a1 → Q (-5) σ)))) ∧ (¬ a1 = 5 → ((a1 = 7 → (∀ v16 : Int, v16 = (σ 305 0) → ((¬ v16 = a1 → wp_X10_record σ (fun (σ17 : SG) => (∀ σ18 : SG, σ18 = ug σ17 305 0 a1 → wp_X10_resets σ18 (fun (σ19 : SG) => Q v16 σ19)))) ∧ (v16 = a1 → Q (-5) σ)))) ∧ (¬ a1 = 7 → ((a1 = 11 → (∀ v21 : Int, v21 = (σ 305 0) → ((¬ v21 = a1 → wp_X10_record σ (fun (σ22 : SG) => (∀ σ23 : SG, σ23 = ug σ22 305 0 a1 → wp_X10_resets σ23 (fun (σ24 : SG) => Q v21 σ24)))) ∧ (v21 = a1 → Q (-5) σ)))) ∧ (¬ a1 = 11 → ((a1 = 13 → (∀ v26 : Int, v26 = (σ 305 0) → ((¬ v26 = a1 → wp_X10_record σ (fun (σ27 : SG) => (∀ σ28 : SG, σ28 = ug σ27 305 0 a1 → wp_X10_resets σ28 (fun (σ29 : SG) => Q v26 σ29)))) ∧ (v26 = a1 → Q (-5) σ)))) ∧ (¬ a1 = 13 → Q (-2) σ))))))))))))
def rm_X10_setPrime : Room := { frames := 1, cells := 0, slots := 0, locals := 21 }
theorem wy_X10_setPrime : Cond.instanceMethod yX10_setPrime ∈ WS ∧ Cond.selects "SplitTowersModel" yX10_setPrime yX10_setPrime ∈ WS ∧ Cond.initialized "SplitTowersModel" ∈ WS ∧ Cond.code yX10_setPrime prog_12_method_35_code 3 (some .int) ∈ WS := ⟨w925, w926, w79, w927⟩
theorem hd_X10_setPrime : yX10_setPrime.cls = "SplitTowersModel" ∧ yX10_setPrime.cls ≠ "java/lang/invoke/MethodHandle" ∧ yX10_setPrime.cls ≠ "java/lang/invoke/VarHandle" ∧ (parseMethodDescriptor yX10_setPrime.desc).map (fun d => d.parameters.length) = some 1 := by decide +kernel
set_option maxHeartbeats 4000000 in
set_option maxRecDepth 100000 in
theorem s_X10_setPrime {l : Launch} {D : va_G} {aC : Nat → ClassId} {B lo hi : Nat} {σ : SG} {a1 : Int} {Q : Int → SG → Prop} (hlo : lo ≤ 304) (hhi : 316 ≤ hi) (r1 : inR a1) (h : wp_X10_setPrime σ a1 Q) : Met l yX10_setPrime (Cond.code yX10_setPrime prog_12_method_35_code 3 (some .int) :: WS) rm_X10_setPrime (va_Pc [.ref (B + 304), .int (iI a1)] (WP D aC B lo hi σ)) (QI D aC B lo hi Q) 0 0 (AB B lo hi) := by
  refine met_of (by decide +kernel) (by decide +kernel : yX10_setPrime.cls = "SplitTowersModel") (Nat.le_of_ble_eq_true rfl) ?_
  intro p e s m args below meth c C
  unfold wp_X10_setPrime at h
  refine v_R (fun hR0 => ?_)
  show V p l e rm_X10_setPrime s m args below meth c D aC B lo hi 3 (MQ below (QI D aC B lo hi Q) args s 0 0 (AB B lo hi)) σ 0 [(0, .ref (B + 304)), (1, .int (iI a1))] []
  refine v_iload_n C 1 dX10_setPrime_0 rfl rfl ?_
  refine v_iconst C dX10_setPrime_1 ?_
  refine v_icmp_eq C r1 (by decide) 36 dX10_setPrime_2 (by decide) (fun c36 => ?_) (fun c36 => ?_)
  · have h := h.1 c36
    refine v_aload_n C 0 dX10_setPrime_36 rfl rfl ?_
    refine gf10_now C hlo hhi w877 dX10_setPrime_37 ?_
    refine v_iconst C dX10_setPrime_40 ?_
    refine v_iald (i := 305) (n := 87) C (Nat.le_trans hlo (by decide)) (Nat.lt_of_lt_of_le (by decide) hhi) rfl (by decide) ⟨by decide, by decide⟩ dX10_setPrime_41 ?_
    refine v_name (fun v1 ev1 => ?_)
    have h := h v1 ev1
    have rv1 : inR v1 := by rw [ev1]; exact (hR0 305 _)
    refine v_istore_n (lv' := [(2, .int (iI v1)), (0, .ref (B + 304)), (1, .int (iI a1))]) C dX10_setPrime_42 rfl (by decide) rfl ?_
    refine v_iload_n C 0 dX10_setPrime_43 rfl rfl ?_
    refine v_iload_n C 2 dX10_setPrime_44 rfl rfl ?_
    refine v_icmp_ne C rv1 r1 51 dX10_setPrime_45 (by decide) (fun c5 => ?_) (fun c5 => ?_)
    · have h := h.1 c5
      refine v_aload_n C 1 dX10_setPrime_51 rfl rfl ?_
      refine v_callv (i := 304) (As := []) (rest := []) C (s_X10_record hlo hhi h) w928 wy_X10_record ⟨rfl, rfl⟩ hd_X10_record ⟨Nat.le_of_ble_eq_true rfl, Nat.le_of_ble_eq_true rfl⟩ (Nat.le_trans hlo (by decide)) (Nat.lt_of_lt_of_le (by decide) hhi) rfl rfl rfl rfl (Nat.le_of_ble_eq_true rfl) dX10_setPrime_52 (fun σ2 h => ?_)
      refine v_R (fun hRσ2 => ?_)
      refine v_aload_n C 1 dX10_setPrime_55 rfl rfl ?_
      refine gf10_now C hlo hhi w877 dX10_setPrime_56 ?_
      refine v_iconst C dX10_setPrime_59 ?_
      refine v_iload_n C 2 dX10_setPrime_60 rfl rfl ?_
      refine v_iast (i := 305) (n := 87) C (Nat.le_trans hlo (by decide)) (Nat.lt_of_lt_of_le (by decide) hhi) (fun _ => rfl) (by decide) ⟨by decide, by decide⟩ r1 dX10_setPrime_61 ?_
      refine v_nameS (fun σ3 eσ3 => ?_)
      have h := h σ3 eσ3
      refine v_R (fun hRσ3 => ?_)
      refine v_aload_n C 1 dX10_setPrime_62 rfl rfl ?_
      refine v_callv (i := 304) (As := []) (rest := []) C (s_X10_resets hlo hhi h) w873 wy_X10_resets ⟨rfl, rfl⟩ hd_X10_resets ⟨Nat.le_of_ble_eq_true rfl, Nat.le_of_ble_eq_true rfl⟩ (Nat.le_trans hlo (by decide)) (Nat.lt_of_lt_of_le (by decide) hhi) rfl rfl rfl rfl (Nat.le_of_ble_eq_true rfl) dX10_setPrime_63 (fun σ4 h => ?_)
      refine v_R (fun hRσ4 => ?_)
      refine v_iload_n C 0 dX10_setPrime_66 rfl rfl ?_
      exact v_iret C rv1 h dX10_setPrime_67
    · have h := h.2 c5
      refine v_bipush C dX10_setPrime_48 (by decide) ?_
      exact v_iret C (by decide) h dX10_setPrime_50
  · have h := h.2 c36
    refine v_iload_n C 1 dX10_setPrime_5 rfl rfl ?_
    refine v_iconst C dX10_setPrime_6 ?_
    refine v_icmp_eq C r1 (by decide) 36 dX10_setPrime_7 (by decide) (fun c35 => ?_) (fun c35 => ?_)
    · have h := h.1 c35
      refine v_aload_n C 0 dX10_setPrime_36 rfl rfl ?_
      refine gf10_now C hlo hhi w877 dX10_setPrime_37 ?_
      refine v_iconst C dX10_setPrime_40 ?_
      refine v_iald (i := 305) (n := 87) C (Nat.le_trans hlo (by decide)) (Nat.lt_of_lt_of_le (by decide) hhi) rfl (by decide) ⟨by decide, by decide⟩ dX10_setPrime_41 ?_
      refine v_name (fun v6 ev6 => ?_)
      have h := h v6 ev6
      have rv6 : inR v6 := by rw [ev6]; exact (hR0 305 _)
      refine v_istore_n (lv' := [(2, .int (iI v6)), (0, .ref (B + 304)), (1, .int (iI a1))]) C dX10_setPrime_42 rfl (by decide) rfl ?_
      refine v_iload_n C 0 dX10_setPrime_43 rfl rfl ?_
      refine v_iload_n C 2 dX10_setPrime_44 rfl rfl ?_
      refine v_icmp_ne C rv6 r1 51 dX10_setPrime_45 (by decide) (fun c10 => ?_) (fun c10 => ?_)
      · have h := h.1 c10
        refine v_aload_n C 1 dX10_setPrime_51 rfl rfl ?_
        refine v_callv (i := 304) (As := []) (rest := []) C (s_X10_record hlo hhi h) w928 wy_X10_record ⟨rfl, rfl⟩ hd_X10_record ⟨Nat.le_of_ble_eq_true rfl, Nat.le_of_ble_eq_true rfl⟩ (Nat.le_trans hlo (by decide)) (Nat.lt_of_lt_of_le (by decide) hhi) rfl rfl rfl rfl (Nat.le_of_ble_eq_true rfl) dX10_setPrime_52 (fun σ7 h => ?_)
        refine v_R (fun hRσ7 => ?_)
        refine v_aload_n C 1 dX10_setPrime_55 rfl rfl ?_
        refine gf10_now C hlo hhi w877 dX10_setPrime_56 ?_
        refine v_iconst C dX10_setPrime_59 ?_
        refine v_iload_n C 2 dX10_setPrime_60 rfl rfl ?_
        refine v_iast (i := 305) (n := 87) C (Nat.le_trans hlo (by decide)) (Nat.lt_of_lt_of_le (by decide) hhi) (fun _ => rfl) (by decide) ⟨by decide, by decide⟩ r1 dX10_setPrime_61 ?_
        refine v_nameS (fun σ8 eσ8 => ?_)
        have h := h σ8 eσ8
        refine v_R (fun hRσ8 => ?_)
        refine v_aload_n C 1 dX10_setPrime_62 rfl rfl ?_
        refine v_callv (i := 304) (As := []) (rest := []) C (s_X10_resets hlo hhi h) w873 wy_X10_resets ⟨rfl, rfl⟩ hd_X10_resets ⟨Nat.le_of_ble_eq_true rfl, Nat.le_of_ble_eq_true rfl⟩ (Nat.le_trans hlo (by decide)) (Nat.lt_of_lt_of_le (by decide) hhi) rfl rfl rfl rfl (Nat.le_of_ble_eq_true rfl) dX10_setPrime_63 (fun σ9 h => ?_)
        refine v_R (fun hRσ9 => ?_)
        refine v_iload_n C 0 dX10_setPrime_66 rfl rfl ?_
        exact v_iret C rv6 h dX10_setPrime_67
      · have h := h.2 c10
        refine v_bipush C dX10_setPrime_48 (by decide) ?_
        exact v_iret C (by decide) h dX10_setPrime_50
    · have h := h.2 c35
      refine v_iload_n C 1 dX10_setPrime_10 rfl rfl ?_
      refine v_iconst C dX10_setPrime_11 ?_
      refine v_icmp_eq C r1 (by decide) 36 dX10_setPrime_12 (by decide) (fun c34 => ?_) (fun c34 => ?_)
      · have h := h.1 c34
        refine v_aload_n C 0 dX10_setPrime_36 rfl rfl ?_
        refine gf10_now C hlo hhi w877 dX10_setPrime_37 ?_
        refine v_iconst C dX10_setPrime_40 ?_
        refine v_iald (i := 305) (n := 87) C (Nat.le_trans hlo (by decide)) (Nat.lt_of_lt_of_le (by decide) hhi) rfl (by decide) ⟨by decide, by decide⟩ dX10_setPrime_41 ?_
        refine v_name (fun v11 ev11 => ?_)
        have h := h v11 ev11
        have rv11 : inR v11 := by rw [ev11]; exact (hR0 305 _)
        refine v_istore_n (lv' := [(2, .int (iI v11)), (0, .ref (B + 304)), (1, .int (iI a1))]) C dX10_setPrime_42 rfl (by decide) rfl ?_
        refine v_iload_n C 0 dX10_setPrime_43 rfl rfl ?_
        refine v_iload_n C 2 dX10_setPrime_44 rfl rfl ?_
        refine v_icmp_ne C rv11 r1 51 dX10_setPrime_45 (by decide) (fun c15 => ?_) (fun c15 => ?_)
        · have h := h.1 c15
          refine v_aload_n C 1 dX10_setPrime_51 rfl rfl ?_
          refine v_callv (i := 304) (As := []) (rest := []) C (s_X10_record hlo hhi h) w928 wy_X10_record ⟨rfl, rfl⟩ hd_X10_record ⟨Nat.le_of_ble_eq_true rfl, Nat.le_of_ble_eq_true rfl⟩ (Nat.le_trans hlo (by decide)) (Nat.lt_of_lt_of_le (by decide) hhi) rfl rfl rfl rfl (Nat.le_of_ble_eq_true rfl) dX10_setPrime_52 (fun σ12 h => ?_)
          refine v_R (fun hRσ12 => ?_)
          refine v_aload_n C 1 dX10_setPrime_55 rfl rfl ?_
          refine gf10_now C hlo hhi w877 dX10_setPrime_56 ?_
          refine v_iconst C dX10_setPrime_59 ?_
          refine v_iload_n C 2 dX10_setPrime_60 rfl rfl ?_
          refine v_iast (i := 305) (n := 87) C (Nat.le_trans hlo (by decide)) (Nat.lt_of_lt_of_le (by decide) hhi) (fun _ => rfl) (by decide) ⟨by decide, by decide⟩ r1 dX10_setPrime_61 ?_
          refine v_nameS (fun σ13 eσ13 => ?_)
          have h := h σ13 eσ13
          refine v_R (fun hRσ13 => ?_)
          refine v_aload_n C 1 dX10_setPrime_62 rfl rfl ?_
          refine v_callv (i := 304) (As := []) (rest := []) C (s_X10_resets hlo hhi h) w873 wy_X10_resets ⟨rfl, rfl⟩ hd_X10_resets ⟨Nat.le_of_ble_eq_true rfl, Nat.le_of_ble_eq_true rfl⟩ (Nat.le_trans hlo (by decide)) (Nat.lt_of_lt_of_le (by decide) hhi) rfl rfl rfl rfl (Nat.le_of_ble_eq_true rfl) dX10_setPrime_63 (fun σ14 h => ?_)
          refine v_R (fun hRσ14 => ?_)
          refine v_iload_n C 0 dX10_setPrime_66 rfl rfl ?_
          exact v_iret C rv11 h dX10_setPrime_67
        · have h := h.2 c15
          refine v_bipush C dX10_setPrime_48 (by decide) ?_
          exact v_iret C (by decide) h dX10_setPrime_50
      · have h := h.2 c34
        refine v_iload_n C 1 dX10_setPrime_15 rfl rfl ?_
        refine v_bipush C dX10_setPrime_16 (by decide) ?_
        refine v_icmp_eq C r1 (by decide) 36 dX10_setPrime_18 (by decide) (fun c33 => ?_) (fun c33 => ?_)
        · have h := h.1 c33
          refine v_aload_n C 0 dX10_setPrime_36 rfl rfl ?_
          refine gf10_now C hlo hhi w877 dX10_setPrime_37 ?_
          refine v_iconst C dX10_setPrime_40 ?_
          refine v_iald (i := 305) (n := 87) C (Nat.le_trans hlo (by decide)) (Nat.lt_of_lt_of_le (by decide) hhi) rfl (by decide) ⟨by decide, by decide⟩ dX10_setPrime_41 ?_
          refine v_name (fun v16 ev16 => ?_)
          have h := h v16 ev16
          have rv16 : inR v16 := by rw [ev16]; exact (hR0 305 _)
          refine v_istore_n (lv' := [(2, .int (iI v16)), (0, .ref (B + 304)), (1, .int (iI a1))]) C dX10_setPrime_42 rfl (by decide) rfl ?_
          refine v_iload_n C 0 dX10_setPrime_43 rfl rfl ?_
          refine v_iload_n C 2 dX10_setPrime_44 rfl rfl ?_
          refine v_icmp_ne C rv16 r1 51 dX10_setPrime_45 (by decide) (fun c20 => ?_) (fun c20 => ?_)
          · have h := h.1 c20
            refine v_aload_n C 1 dX10_setPrime_51 rfl rfl ?_
            refine v_callv (i := 304) (As := []) (rest := []) C (s_X10_record hlo hhi h) w928 wy_X10_record ⟨rfl, rfl⟩ hd_X10_record ⟨Nat.le_of_ble_eq_true rfl, Nat.le_of_ble_eq_true rfl⟩ (Nat.le_trans hlo (by decide)) (Nat.lt_of_lt_of_le (by decide) hhi) rfl rfl rfl rfl (Nat.le_of_ble_eq_true rfl) dX10_setPrime_52 (fun σ17 h => ?_)
            refine v_R (fun hRσ17 => ?_)
            refine v_aload_n C 1 dX10_setPrime_55 rfl rfl ?_
            refine gf10_now C hlo hhi w877 dX10_setPrime_56 ?_
            refine v_iconst C dX10_setPrime_59 ?_
            refine v_iload_n C 2 dX10_setPrime_60 rfl rfl ?_
            refine v_iast (i := 305) (n := 87) C (Nat.le_trans hlo (by decide)) (Nat.lt_of_lt_of_le (by decide) hhi) (fun _ => rfl) (by decide) ⟨by decide, by decide⟩ r1 dX10_setPrime_61 ?_
            refine v_nameS (fun σ18 eσ18 => ?_)
            have h := h σ18 eσ18
            refine v_R (fun hRσ18 => ?_)
            refine v_aload_n C 1 dX10_setPrime_62 rfl rfl ?_
            refine v_callv (i := 304) (As := []) (rest := []) C (s_X10_resets hlo hhi h) w873 wy_X10_resets ⟨rfl, rfl⟩ hd_X10_resets ⟨Nat.le_of_ble_eq_true rfl, Nat.le_of_ble_eq_true rfl⟩ (Nat.le_trans hlo (by decide)) (Nat.lt_of_lt_of_le (by decide) hhi) rfl rfl rfl rfl (Nat.le_of_ble_eq_true rfl) dX10_setPrime_63 (fun σ19 h => ?_)
            refine v_R (fun hRσ19 => ?_)
            refine v_iload_n C 0 dX10_setPrime_66 rfl rfl ?_
            exact v_iret C rv16 h dX10_setPrime_67
          · have h := h.2 c20
            refine v_bipush C dX10_setPrime_48 (by decide) ?_
            exact v_iret C (by decide) h dX10_setPrime_50
        · have h := h.2 c33
          refine v_iload_n C 1 dX10_setPrime_21 rfl rfl ?_
          refine v_bipush C dX10_setPrime_22 (by decide) ?_
          refine v_icmp_eq C r1 (by decide) 36 dX10_setPrime_24 (by decide) (fun c32 => ?_) (fun c32 => ?_)
          · have h := h.1 c32
            refine v_aload_n C 0 dX10_setPrime_36 rfl rfl ?_
            refine gf10_now C hlo hhi w877 dX10_setPrime_37 ?_
            refine v_iconst C dX10_setPrime_40 ?_
            refine v_iald (i := 305) (n := 87) C (Nat.le_trans hlo (by decide)) (Nat.lt_of_lt_of_le (by decide) hhi) rfl (by decide) ⟨by decide, by decide⟩ dX10_setPrime_41 ?_
            refine v_name (fun v21 ev21 => ?_)
            have h := h v21 ev21
            have rv21 : inR v21 := by rw [ev21]; exact (hR0 305 _)
            refine v_istore_n (lv' := [(2, .int (iI v21)), (0, .ref (B + 304)), (1, .int (iI a1))]) C dX10_setPrime_42 rfl (by decide) rfl ?_
            refine v_iload_n C 0 dX10_setPrime_43 rfl rfl ?_
            refine v_iload_n C 2 dX10_setPrime_44 rfl rfl ?_
            refine v_icmp_ne C rv21 r1 51 dX10_setPrime_45 (by decide) (fun c25 => ?_) (fun c25 => ?_)
            · have h := h.1 c25
              refine v_aload_n C 1 dX10_setPrime_51 rfl rfl ?_
              refine v_callv (i := 304) (As := []) (rest := []) C (s_X10_record hlo hhi h) w928 wy_X10_record ⟨rfl, rfl⟩ hd_X10_record ⟨Nat.le_of_ble_eq_true rfl, Nat.le_of_ble_eq_true rfl⟩ (Nat.le_trans hlo (by decide)) (Nat.lt_of_lt_of_le (by decide) hhi) rfl rfl rfl rfl (Nat.le_of_ble_eq_true rfl) dX10_setPrime_52 (fun σ22 h => ?_)
              refine v_R (fun hRσ22 => ?_)
              refine v_aload_n C 1 dX10_setPrime_55 rfl rfl ?_
              refine gf10_now C hlo hhi w877 dX10_setPrime_56 ?_
              refine v_iconst C dX10_setPrime_59 ?_
              refine v_iload_n C 2 dX10_setPrime_60 rfl rfl ?_
              refine v_iast (i := 305) (n := 87) C (Nat.le_trans hlo (by decide)) (Nat.lt_of_lt_of_le (by decide) hhi) (fun _ => rfl) (by decide) ⟨by decide, by decide⟩ r1 dX10_setPrime_61 ?_
              refine v_nameS (fun σ23 eσ23 => ?_)
              have h := h σ23 eσ23
              refine v_R (fun hRσ23 => ?_)
              refine v_aload_n C 1 dX10_setPrime_62 rfl rfl ?_
              refine v_callv (i := 304) (As := []) (rest := []) C (s_X10_resets hlo hhi h) w873 wy_X10_resets ⟨rfl, rfl⟩ hd_X10_resets ⟨Nat.le_of_ble_eq_true rfl, Nat.le_of_ble_eq_true rfl⟩ (Nat.le_trans hlo (by decide)) (Nat.lt_of_lt_of_le (by decide) hhi) rfl rfl rfl rfl (Nat.le_of_ble_eq_true rfl) dX10_setPrime_63 (fun σ24 h => ?_)
              refine v_R (fun hRσ24 => ?_)
              refine v_iload_n C 0 dX10_setPrime_66 rfl rfl ?_
              exact v_iret C rv21 h dX10_setPrime_67
            · have h := h.2 c25
              refine v_bipush C dX10_setPrime_48 (by decide) ?_
              exact v_iret C (by decide) h dX10_setPrime_50
          · have h := h.2 c32
            refine v_iload_n C 1 dX10_setPrime_27 rfl rfl ?_
            refine v_bipush C dX10_setPrime_28 (by decide) ?_
            refine v_icmp_eq C r1 (by decide) 36 dX10_setPrime_30 (by decide) (fun c31 => ?_) (fun c31 => ?_)
            · have h := h.1 c31
              refine v_aload_n C 0 dX10_setPrime_36 rfl rfl ?_
              refine gf10_now C hlo hhi w877 dX10_setPrime_37 ?_
              refine v_iconst C dX10_setPrime_40 ?_
              refine v_iald (i := 305) (n := 87) C (Nat.le_trans hlo (by decide)) (Nat.lt_of_lt_of_le (by decide) hhi) rfl (by decide) ⟨by decide, by decide⟩ dX10_setPrime_41 ?_
              refine v_name (fun v26 ev26 => ?_)
              have h := h v26 ev26
              have rv26 : inR v26 := by rw [ev26]; exact (hR0 305 _)
              refine v_istore_n (lv' := [(2, .int (iI v26)), (0, .ref (B + 304)), (1, .int (iI a1))]) C dX10_setPrime_42 rfl (by decide) rfl ?_
              refine v_iload_n C 0 dX10_setPrime_43 rfl rfl ?_
              refine v_iload_n C 2 dX10_setPrime_44 rfl rfl ?_
              refine v_icmp_ne C rv26 r1 51 dX10_setPrime_45 (by decide) (fun c30 => ?_) (fun c30 => ?_)
              · have h := h.1 c30
                refine v_aload_n C 1 dX10_setPrime_51 rfl rfl ?_
                refine v_callv (i := 304) (As := []) (rest := []) C (s_X10_record hlo hhi h) w928 wy_X10_record ⟨rfl, rfl⟩ hd_X10_record ⟨Nat.le_of_ble_eq_true rfl, Nat.le_of_ble_eq_true rfl⟩ (Nat.le_trans hlo (by decide)) (Nat.lt_of_lt_of_le (by decide) hhi) rfl rfl rfl rfl (Nat.le_of_ble_eq_true rfl) dX10_setPrime_52 (fun σ27 h => ?_)
                refine v_R (fun hRσ27 => ?_)
                refine v_aload_n C 1 dX10_setPrime_55 rfl rfl ?_
                refine gf10_now C hlo hhi w877 dX10_setPrime_56 ?_
                refine v_iconst C dX10_setPrime_59 ?_
                refine v_iload_n C 2 dX10_setPrime_60 rfl rfl ?_
                refine v_iast (i := 305) (n := 87) C (Nat.le_trans hlo (by decide)) (Nat.lt_of_lt_of_le (by decide) hhi) (fun _ => rfl) (by decide) ⟨by decide, by decide⟩ r1 dX10_setPrime_61 ?_
                refine v_nameS (fun σ28 eσ28 => ?_)
                have h := h σ28 eσ28
                refine v_R (fun hRσ28 => ?_)
                refine v_aload_n C 1 dX10_setPrime_62 rfl rfl ?_
                refine v_callv (i := 304) (As := []) (rest := []) C (s_X10_resets hlo hhi h) w873 wy_X10_resets ⟨rfl, rfl⟩ hd_X10_resets ⟨Nat.le_of_ble_eq_true rfl, Nat.le_of_ble_eq_true rfl⟩ (Nat.le_trans hlo (by decide)) (Nat.lt_of_lt_of_le (by decide) hhi) rfl rfl rfl rfl (Nat.le_of_ble_eq_true rfl) dX10_setPrime_63 (fun σ29 h => ?_)
                refine v_R (fun hRσ29 => ?_)
                refine v_iload_n C 0 dX10_setPrime_66 rfl rfl ?_
                exact v_iret C rv26 h dX10_setPrime_67
              · have h := h.2 c30
                refine v_bipush C dX10_setPrime_48 (by decide) ?_
                exact v_iret C (by decide) h dX10_setPrime_50
            · have h := h.2 c31
              refine v_bipush C dX10_setPrime_33 (by decide) ?_
              exact v_iret C (by decide) h dX10_setPrime_35
-- SplitTowersModel.trace(I)I
def wp_X10_trace (σ : SG) (a1 : Int) (Q : Int → SG → Prop) : Prop :=
  wp_X10_noRegister σ a1 (fun (z2 : Int) (σ1 : SG) => ((z2 = 0 → wp_X10_loadsModulus σ1 (fun (σ3 : SG) => wp_X10_loadsNumber σ3 a1 2 (fun (σ4 : SG) => wp_X10_clears σ4 3 (fun (σ5 : SG) => wp_X10_puts σ5 3 1 1 (fun (σ6 : SG) => Lp2 (fun (rec10 : Int → Int → SG → Prop) (x7 : Int) (x8 : Int) (σ9 : SG) => wp_X10_degree σ9 0 (fun (z14 : Int) (σ13 : SG) => ((z14 ≤ x7 → ((σ13 305 0) ≠ 0 ∧ Q (Int.tmod x8 (σ13 305 0)) σ13)) ∧ (¬ z14 ≤ x7 → wp_X10_of σ13 2 x7 (fun (z17 : Int) (σ16 : SG) => (inR (x8 + z17) ∧ (∀ v19 : Int, v19 = x8 + z17 → wp_X10_multiplies σ16 2 3 2 (fun (σ20 : SG) => wp_X10_divides σ20 2 0 (-1) (fun (σ21 : SG) => (inR (x7 + 1) ∧ rec10 (x7 + 1) v19 σ21)))))))))) 0 0 σ6))))) ∧ (¬ z2 = 0 → Q (-1) σ1)))
def rm_X10_trace : Room := { frames := 4, cells := 0, slots := 0, locals := 91 }
theorem wy_X10_trace : Cond.instanceMethod yX10_trace ∈ WS ∧ Cond.selects "SplitTowersModel" yX10_trace yX10_trace ∈ WS ∧ Cond.initialized "SplitTowersModel" ∈ WS ∧ Cond.code yX10_trace prog_12_method_76_code 4 (some .int) ∈ WS := ⟨w1216, w1217, w79, w1218⟩
theorem hd_X10_trace : yX10_trace.cls = "SplitTowersModel" ∧ yX10_trace.cls ≠ "java/lang/invoke/MethodHandle" ∧ yX10_trace.cls ≠ "java/lang/invoke/VarHandle" ∧ (parseMethodDescriptor yX10_trace.desc).map (fun d => d.parameters.length) = some 1 := by decide +kernel
set_option maxHeartbeats 4000000 in
set_option maxRecDepth 100000 in
theorem s_X10_trace {l : Launch} {D : va_G} {aC : Nat → ClassId} {B lo hi : Nat} {σ : SG} {a1 : Int} {Q : Int → SG → Prop} (hlo : lo ≤ 304) (hhi : 316 ≤ hi) (r1 : inR a1) (h : wp_X10_trace σ a1 Q) : Met l yX10_trace (Cond.code yX10_trace prog_12_method_76_code 4 (some .int) :: WS) rm_X10_trace (va_Pc [.ref (B + 304), .int (iI a1)] (WP D aC B lo hi σ)) (QI D aC B lo hi Q) 0 0 (AB B lo hi) := by
  refine met_of (by decide +kernel) (by decide +kernel : yX10_trace.cls = "SplitTowersModel") (Nat.le_of_ble_eq_true rfl) ?_
  intro p e s m args below meth c C
  unfold wp_X10_trace at h
  refine v_R (fun hR0 => ?_)
  show V p l e rm_X10_trace s m args below meth c D aC B lo hi 4 (MQ below (QI D aC B lo hi Q) args s 0 0 (AB B lo hi)) σ 0 [(0, .ref (B + 304)), (1, .int (iI a1))] []
  refine v_iload_n C 1 dX10_trace_0 rfl rfl ?_
  refine v_callsi (As := [.int (iI a1)]) (rest := []) C (s_X10_noRegister hlo hhi r1 h) w1015 wy_X10_noRegister ⟨rfl, rfl⟩ hd_X10_noRegister ⟨Nat.le_of_ble_eq_true rfl, Nat.le_of_ble_eq_true rfl⟩ rfl rfl (Nat.le_of_ble_eq_true rfl) dX10_trace_1 (fun z2 σ1 rz2 h => ?_)
  refine v_R (fun hRσ1 => ?_)
  refine v_if_eq C rz2 9 dX10_trace_4 (by decide) (fun c26 => ?_) (fun c26 => ?_)
  · have h := h.1 c26
    refine v_aload_n C 0 dX10_trace_9 rfl rfl ?_
    refine v_callv (i := 304) (As := []) (rest := []) C (s_X10_loadsModulus hlo hhi h) w1026 wy_X10_loadsModulus ⟨rfl, rfl⟩ hd_X10_loadsModulus ⟨Nat.le_of_ble_eq_true rfl, Nat.le_of_ble_eq_true rfl⟩ (Nat.le_trans hlo (by decide)) (Nat.lt_of_lt_of_le (by decide) hhi) rfl rfl rfl rfl (Nat.le_of_ble_eq_true rfl) dX10_trace_10 (fun σ3 h => ?_)
    refine v_R (fun hRσ3 => ?_)
    refine v_aload_n C 0 dX10_trace_13 rfl rfl ?_
    refine v_iload_n C 1 dX10_trace_14 rfl rfl ?_
    refine v_iconst C dX10_trace_15 ?_
    refine v_callv (i := 304) (As := [.int (iI a1), .int (iI 2)]) (rest := []) C (s_X10_loadsNumber hlo hhi r1 (by decide) h) w991 wy_X10_loadsNumber ⟨rfl, rfl⟩ hd_X10_loadsNumber ⟨Nat.le_of_ble_eq_true rfl, Nat.le_of_ble_eq_true rfl⟩ (Nat.le_trans hlo (by decide)) (Nat.lt_of_lt_of_le (by decide) hhi) rfl rfl rfl rfl (Nat.le_of_ble_eq_true rfl) dX10_trace_16 (fun σ4 h => ?_)
    refine v_R (fun hRσ4 => ?_)
    refine v_aload_n C 0 dX10_trace_19 rfl rfl ?_
    refine v_iconst C dX10_trace_20 ?_
    refine v_callv (i := 304) (As := [.int (iI 3)]) (rest := []) C (s_X10_clears hlo hhi (by decide) h) w951 wy_X10_clears ⟨rfl, rfl⟩ hd_X10_clears ⟨Nat.le_of_ble_eq_true rfl, Nat.le_of_ble_eq_true rfl⟩ (Nat.le_trans hlo (by decide)) (Nat.lt_of_lt_of_le (by decide) hhi) rfl rfl rfl rfl (Nat.le_of_ble_eq_true rfl) dX10_trace_21 (fun σ5 h => ?_)
    refine v_R (fun hRσ5 => ?_)
    refine v_aload_n C 0 dX10_trace_24 rfl rfl ?_
    refine v_iconst C dX10_trace_25 ?_
    refine v_iconst C dX10_trace_26 ?_
    refine v_iconst C dX10_trace_27 ?_
    refine v_callv (i := 304) (As := [.int (iI 3), .int (iI 1), .int (iI 1)]) (rest := []) C (s_X10_puts hlo hhi (by decide) (by decide) (by decide) h) w955 wy_X10_puts ⟨rfl, rfl⟩ hd_X10_puts ⟨Nat.le_of_ble_eq_true rfl, Nat.le_of_ble_eq_true rfl⟩ (Nat.le_trans hlo (by decide)) (Nat.lt_of_lt_of_le (by decide) hhi) rfl rfl rfl rfl (Nat.le_of_ble_eq_true rfl) dX10_trace_28 (fun σ6 h => ?_)
    refine v_R (fun hRσ6 => ?_)
    refine v_iconst C dX10_trace_31 ?_
    refine v_istore_n (lv' := [(2, .int (iI 0)), (0, .ref (B + 304)), (1, .int (iI a1))]) C dX10_trace_32 rfl (by decide) rfl ?_
    refine v_iconst C dX10_trace_33 ?_
    refine v_istore_n (lv' := [(3, .int (iI 0)), (2, .int (iI 0)), (0, .ref (B + 304)), (1, .int (iI a1))]) C dX10_trace_34 rfl (by decide) rfl ?_
    obtain ⟨I24, ⟨n25, hnn25⟩, hII24⟩ := h
    have key12 : ∀ (n : Nat) (x7 : Int) (x8 : Int) (σ9 : SG), I24 n x7 x8 σ9 → inR x7 → inR x8 → V p l e rm_X10_trace s m args below meth c D aC B lo hi 4 (MQ below (QI D aC B lo hi Q) args s 0 0 (AB B lo hi)) σ9 35 [(3, .int (iI x7)), (2, .int (iI x8)), (0, .ref (B + 304))] [] := by
      intro n
      induction n using Nat.strongRecOn with
      | ind n ih11 =>
        intro x7 x8 σ9 hn rx7 rx8
        have h := hII24 n x7 x8 σ9 hn
        refine v_R (fun hRσ9 => ?_)
        refine v_iload_n C 0 dX10_trace_35 rfl rfl ?_
        refine v_aload_n C 2 dX10_trace_36 rfl rfl ?_
        refine v_iconst C dX10_trace_37 ?_
        refine v_calli (i := 304) (As := [.int (iI 0)]) (rest := [.int (iI x7)]) C (s_X10_degree hlo hhi (by decide) h) w975 wy_X10_degree ⟨rfl, rfl⟩ hd_X10_degree ⟨Nat.le_of_ble_eq_true rfl, Nat.le_of_ble_eq_true rfl⟩ (Nat.le_trans hlo (by decide)) (Nat.lt_of_lt_of_le (by decide) hhi) rfl rfl rfl rfl (Nat.le_of_ble_eq_true rfl) dX10_trace_38 (fun z14 σ13 rz14 h => ?_)
        refine v_R (fun hRσ13 => ?_)
        refine v_icmp_ge C rx7 rz14 73 dX10_trace_41 (by decide) (fun c23 => ?_) (fun c23 => ?_)
        · have h := h.1 c23
          refine v_iload_n C 1 dX10_trace_73 rfl rfl ?_
          refine v_aload_n C 2 dX10_trace_74 rfl rfl ?_
          refine gf10_now C hlo hhi w877 dX10_trace_75 ?_
          refine v_iconst C dX10_trace_78 ?_
          refine v_iald (i := 305) (n := 87) C (Nat.le_trans hlo (by decide)) (Nat.lt_of_lt_of_le (by decide) hhi) rfl (by decide) ⟨by decide, by decide⟩ dX10_trace_79 ?_
          have k15 := h.1
          have h := h.2
          refine v_irem C rx8 (hRσ13 305 _) k15 dX10_trace_80 ?_
          exact v_iret C (inR_tmod rx8) h dX10_trace_81
        · have h := h.2 c23
          refine v_iload_n C 1 dX10_trace_44 rfl rfl ?_
          refine v_aload_n C 2 dX10_trace_45 rfl rfl ?_
          refine v_iconst C dX10_trace_46 ?_
          refine v_iload_n C 0 dX10_trace_47 rfl rfl ?_
          refine v_calli (i := 304) (As := [.int (iI 2), .int (iI x7)]) (rest := [.int (iI x8)]) C (s_X10_of hlo hhi (by decide) rx7 h) w963 wy_X10_of ⟨rfl, rfl⟩ hd_X10_of ⟨Nat.le_of_ble_eq_true rfl, Nat.le_of_ble_eq_true rfl⟩ (Nat.le_trans hlo (by decide)) (Nat.lt_of_lt_of_le (by decide) hhi) rfl rfl rfl rfl (Nat.le_of_ble_eq_true rfl) dX10_trace_48 (fun z17 σ16 rz17 h => ?_)
          refine v_R (fun hRσ16 => ?_)
          have k18 := h.1
          have h := h.2
          refine v_iadd C dX10_trace_51 ?_
          refine v_name (fun v19 ev19 => ?_)
          have h := h v19 ev19
          have rv19 : inR v19 := by rw [ev19]; exact k18
          refine v_istore_n (lv' := [(2, .int (iI v19)), (3, .int (iI x7)), (0, .ref (B + 304))]) C dX10_trace_52 rfl (by decide) rfl ?_
          refine v_aload_n C 2 dX10_trace_53 rfl rfl ?_
          refine v_iconst C dX10_trace_54 ?_
          refine v_iconst C dX10_trace_55 ?_
          refine v_iconst C dX10_trace_56 ?_
          refine v_callv (i := 304) (As := [.int (iI 2), .int (iI 3), .int (iI 2)]) (rest := []) C (s_X10_multiplies hlo hhi (by decide) (by decide) (by decide) h) w1054 wy_X10_multiplies ⟨rfl, rfl⟩ hd_X10_multiplies ⟨Nat.le_of_ble_eq_true rfl, Nat.le_of_ble_eq_true rfl⟩ (Nat.le_trans hlo (by decide)) (Nat.lt_of_lt_of_le (by decide) hhi) rfl rfl rfl rfl (Nat.le_of_ble_eq_true rfl) dX10_trace_57 (fun σ20 h => ?_)
          refine v_R (fun hRσ20 => ?_)
          refine v_aload_n C 2 dX10_trace_60 rfl rfl ?_
          refine v_iconst C dX10_trace_61 ?_
          refine v_iconst C dX10_trace_62 ?_
          refine v_iconst C dX10_trace_63 ?_
          refine v_callv (i := 304) (As := [.int (iI 2), .int (iI 0), .int (iI (-1))]) (rest := []) C (s_X10_divides hlo hhi (by decide) (by decide) (by decide) h) w979 wy_X10_divides ⟨rfl, rfl⟩ hd_X10_divides ⟨Nat.le_of_ble_eq_true rfl, Nat.le_of_ble_eq_true rfl⟩ (Nat.le_trans hlo (by decide)) (Nat.lt_of_lt_of_le (by decide) hhi) rfl rfl rfl rfl (Nat.le_of_ble_eq_true rfl) dX10_trace_64 (fun σ21 h => ?_)
          refine v_R (fun hRσ21 => ?_)
          have k22 := h.1
          have h := h.2
          refine v_iinc (lv' := [(3, .int (iI (x7 + 1))), (2, .int (iI v19)), (0, .ref (B + 304))]) C 1 dX10_trace_67 rfl (by decide) rfl ?_
          refine v_goto C 35 dX10_trace_70 (by decide) ?_
          obtain ⟨m9, hm9, h⟩ := h
          exact ih11 m9 hm9 (x7 + 1) v19 σ21 h k22 rv19
    refine v_sub [0, 1, 2] rfl ?_
    exact key12 n25 0 0 σ6 hnn25 (by decide) (by decide)
  · have h := h.2 c26
    refine v_iconst C dX10_trace_7 ?_
    exact v_iret C (by decide) h dX10_trace_8
-- SplitTowersModel.type(C)I
def wp_X10_type (σ : SG) (a1 : Int) (Q : Int → SG → Prop) : Prop :=
  ((¬ (σ 304 8) = 60 → ((0 ≤ (σ 304 8) ∧ (σ 304 8) < 60) ∧ ((0 ≤ a1 ∧ a1 < 65536) ∧ (∀ σ3 : SG, σ3 = ug σ 311 ((σ 304 8).toNat) a1 → (inR ((σ3 304 8) + 1) ∧ (∀ σ5 : SG, σ5 = ug σ3 304 8 ((σ3 304 8) + 1) → Q (σ5 304 8) σ5)))))) ∧ ((σ 304 8) = 60 → Q (-3) σ))
def rm_X10_type : Room := { frames := 0, cells := 0, slots := 0, locals := 0 }
theorem wy_X10_type : Cond.instanceMethod yX10_type ∈ WS ∧ Cond.selects "SplitTowersModel" yX10_type yX10_type ∈ WS ∧ Cond.initialized "SplitTowersModel" ∈ WS ∧ Cond.code yX10_type prog_12_method_52_code 2 (some .int) ∈ WS := ⟨w1127, w1128, w79, w1129⟩
theorem hd_X10_type : yX10_type.cls = "SplitTowersModel" ∧ yX10_type.cls ≠ "java/lang/invoke/MethodHandle" ∧ yX10_type.cls ≠ "java/lang/invoke/VarHandle" ∧ (parseMethodDescriptor yX10_type.desc).map (fun d => d.parameters.length) = some 1 := by decide +kernel
set_option maxHeartbeats 4000000 in
set_option maxRecDepth 100000 in
theorem s_X10_type {l : Launch} {D : va_G} {aC : Nat → ClassId} {B lo hi : Nat} {σ : SG} {a1 : Int} {Q : Int → SG → Prop} (hlo : lo ≤ 304) (hhi : 316 ≤ hi) (r1 : inR a1) (h : wp_X10_type σ a1 Q) : Met l yX10_type (Cond.code yX10_type prog_12_method_52_code 2 (some .int) :: WS) rm_X10_type (va_Pc [.ref (B + 304), .int (iI a1)] (WP D aC B lo hi σ)) (QI D aC B lo hi Q) 0 0 (AB B lo hi) := by
  refine met_of (by decide +kernel) (by decide +kernel : yX10_type.cls = "SplitTowersModel") (Nat.le_of_ble_eq_true rfl) ?_
  intro p e s m args below meth c C
  unfold wp_X10_type at h
  refine v_R (fun hR0 => ?_)
  show V p l e rm_X10_type s m args below meth c D aC B lo hi 2 (MQ below (QI D aC B lo hi Q) args s 0 0 (AB B lo hi)) σ 0 [(0, .ref (B + 304)), (1, .int (iI a1))] []
  refine v_aload_n C 0 dX10_type_0 rfl rfl ?_
  refine gf10_typed C hlo hhi w885 dX10_type_1 ?_
  refine v_bipush C dX10_type_4 (by decide) ?_
  refine v_icmp_ne C (hR0 304 8) (by decide) 12 dX10_type_6 (by decide) (fun c6 => ?_) (fun c6 => ?_)
  · have h := h.1 c6
    refine v_aload_n C 0 dX10_type_12 rfl rfl ?_
    refine gf10_text C hlo hhi w886 dX10_type_13 ?_
    refine v_aload_n C 0 dX10_type_16 rfl rfl ?_
    refine gf10_typed C hlo hhi w885 dX10_type_17 ?_
    refine v_iload_n C 1 dX10_type_20 rfl rfl ?_
    have k1 := h.1
    have h := h.2
    have k2 := h.1
    have h := h.2
    refine v_cast (i := 311) (n := 60) C (Nat.le_trans hlo (by decide)) (Nat.lt_of_lt_of_le (by decide) hhi) (fun _ => rfl) (hR0 304 8) k1 k2 dX10_type_21 ?_
    refine v_nameS (fun σ3 eσ3 => ?_)
    have h := h σ3 eσ3
    refine v_R (fun hRσ3 => ?_)
    refine v_aload_n C 0 dX10_type_22 rfl rfl ?_
    refine v_dup C rfl dX10_type_23 ?_
    refine gf10_typed C hlo hhi w885 dX10_type_24 ?_
    refine v_iconst C dX10_type_27 ?_
    have k4 := h.1
    have h := h.2
    refine v_iadd C dX10_type_28 ?_
    refine pf10_typed C hlo hhi k4 w885 dX10_type_29 ?_
    refine v_nameS (fun σ5 eσ5 => ?_)
    have h := h σ5 eσ5
    refine v_R (fun hRσ5 => ?_)
    refine v_aload_n C 0 dX10_type_32 rfl rfl ?_
    refine gf10_typed C hlo hhi w885 dX10_type_33 ?_
    exact v_iret C (hRσ5 304 8) h dX10_type_36
  · have h := h.2 c6
    refine v_bipush C dX10_type_9 (by decide) ?_
    exact v_iret C (by decide) h dX10_type_11
-- SplitTowersModel.undo()I
def wp_X10_undo (σ : SG)  (Q : Int → SG → Prop) : Prop :=
  ((¬ (σ 304 2) = 0 → (inR ((σ 304 2) - 1) ∧ (∀ σ2 : SG, σ2 = ug σ 304 2 ((σ 304 2) - 1) → Lp1 (fun (rec5 : Int → SG → Prop) (x3 : Int) (σ4 : SG) => ((87 ≤ x3 → Q (σ4 304 2) σ4) ∧ (¬ 87 ≤ x3 → (inR (87 * (σ4 304 2)) ∧ (inR ((87 * (σ4 304 2)) + x3) ∧ ((0 ≤ (87 * (σ4 304 2)) + x3 ∧ (87 * (σ4 304 2)) + x3 < 348) ∧ ((0 ≤ x3 ∧ x3 < 87) ∧ (∀ σ12 : SG, σ12 = ug σ4 305 x3.toNat (σ4 306 ((87 * (σ4 304 2)) + x3).toNat) → (inR (x3 + 1) ∧ rec5 (x3 + 1) σ12))))))))) 0 σ2))) ∧ ((σ 304 2) = 0 → Q (-5) σ))
def rm_X10_undo : Room := { frames := 0, cells := 0, slots := 0, locals := 0 }
theorem wy_X10_undo : Cond.instanceMethod yX10_undo ∈ WS ∧ Cond.selects "SplitTowersModel" yX10_undo yX10_undo ∈ WS ∧ Cond.initialized "SplitTowersModel" ∈ WS ∧ Cond.code yX10_undo prog_12_method_63_code 2 (some .int) ∈ WS := ⟨w1163, w1164, w79, w1165⟩
theorem hd_X10_undo : yX10_undo.cls = "SplitTowersModel" ∧ yX10_undo.cls ≠ "java/lang/invoke/MethodHandle" ∧ yX10_undo.cls ≠ "java/lang/invoke/VarHandle" ∧ (parseMethodDescriptor yX10_undo.desc).map (fun d => d.parameters.length) = some 0 := by decide +kernel
set_option maxHeartbeats 4000000 in
set_option maxRecDepth 100000 in
theorem s_X10_undo {l : Launch} {D : va_G} {aC : Nat → ClassId} {B lo hi : Nat} {σ : SG}  {Q : Int → SG → Prop} (hlo : lo ≤ 304) (hhi : 316 ≤ hi) (h : wp_X10_undo σ  Q) : Met l yX10_undo (Cond.code yX10_undo prog_12_method_63_code 2 (some .int) :: WS) rm_X10_undo (va_Pc [.ref (B + 304)] (WP D aC B lo hi σ)) (QI D aC B lo hi Q) 0 0 (AB B lo hi) := by
  refine met_of (by decide +kernel) (by decide +kernel : yX10_undo.cls = "SplitTowersModel") (Nat.le_of_ble_eq_true rfl) ?_
  intro p e s m args below meth c C
  unfold wp_X10_undo at h
  refine v_R (fun hR0 => ?_)
  show V p l e rm_X10_undo s m args below meth c D aC B lo hi 2 (MQ below (QI D aC B lo hi Q) args s 0 0 (AB B lo hi)) σ 0 [(0, .ref (B + 304))] []
  refine v_aload_n C 0 dX10_undo_0 rfl rfl ?_
  refine gf10_kept C hlo hhi w879 dX10_undo_1 ?_
  refine v_if_ne C (hR0 304 2) 10 dX10_undo_4 (by decide) (fun c17 => ?_) (fun c17 => ?_)
  · have h := h.1 c17
    refine v_aload_n C 0 dX10_undo_10 rfl rfl ?_
    refine v_dup C rfl dX10_undo_11 ?_
    refine gf10_kept C hlo hhi w879 dX10_undo_12 ?_
    refine v_iconst C dX10_undo_15 ?_
    have k1 := h.1
    have h := h.2
    refine v_isub C dX10_undo_16 ?_
    refine pf10_kept C hlo hhi k1 w879 dX10_undo_17 ?_
    refine v_nameS (fun σ2 eσ2 => ?_)
    have h := h σ2 eσ2
    refine v_R (fun hRσ2 => ?_)
    refine v_iconst C dX10_undo_20 ?_
    refine v_istore_n (lv' := [(1, .int (iI 0)), (0, .ref (B + 304))]) C dX10_undo_21 rfl (by decide) rfl ?_
    obtain ⟨I15, ⟨n16, hnn16⟩, hII15⟩ := h
    have key7 : ∀ (n : Nat) (x3 : Int) (σ4 : SG), I15 n x3 σ4 → inR x3 → V p l e rm_X10_undo s m args below meth c D aC B lo hi 2 (MQ below (QI D aC B lo hi Q) args s 0 0 (AB B lo hi)) σ4 22 [(1, .int (iI x3)), (0, .ref (B + 304))] [] := by
      intro n
      induction n using Nat.strongRecOn with
      | ind n ih6 =>
        intro x3 σ4 hn rx3
        have h := hII15 n x3 σ4 hn
        refine v_R (fun hRσ4 => ?_)
        refine v_iload_n C 0 dX10_undo_22 rfl rfl ?_
        refine v_bipush C dX10_undo_23 (by decide) ?_
        refine v_icmp_ge C rx3 (by decide) 54 dX10_undo_25 (by decide) (fun c14 => ?_) (fun c14 => ?_)
        · have h := h.1 c14
          refine v_aload_n C 1 dX10_undo_54 rfl rfl ?_
          refine gf10_kept C hlo hhi w879 dX10_undo_55 ?_
          exact v_iret C (hRσ4 304 2) h dX10_undo_58
        · have h := h.2 c14
          refine v_aload_n C 1 dX10_undo_28 rfl rfl ?_
          refine gf10_now C hlo hhi w877 dX10_undo_29 ?_
          refine v_iload_n C 0 dX10_undo_32 rfl rfl ?_
          refine v_aload_n C 1 dX10_undo_33 rfl rfl ?_
          refine gf10_history C hlo hhi w878 dX10_undo_34 ?_
          refine v_bipush C dX10_undo_37 (by decide) ?_
          refine v_aload_n C 1 dX10_undo_39 rfl rfl ?_
          refine gf10_kept C hlo hhi w879 dX10_undo_40 ?_
          have k8 := h.1
          have h := h.2
          refine v_imul C dX10_undo_43 ?_
          refine v_iload_n C 0 dX10_undo_44 rfl rfl ?_
          have k9 := h.1
          have h := h.2
          refine v_iadd C dX10_undo_45 ?_
          have k10 := h.1
          have h := h.2
          refine v_iald (i := 306) (n := 348) C (Nat.le_trans hlo (by decide)) (Nat.lt_of_lt_of_le (by decide) hhi) rfl k9 k10 dX10_undo_46 ?_
          have k11 := h.1
          have h := h.2
          refine v_iast (i := 305) (n := 87) C (Nat.le_trans hlo (by decide)) (Nat.lt_of_lt_of_le (by decide) hhi) (fun _ => rfl) rx3 k11 (hRσ4 306 _) dX10_undo_47 ?_
          refine v_nameS (fun σ12 eσ12 => ?_)
          have h := h σ12 eσ12
          refine v_R (fun hRσ12 => ?_)
          have k13 := h.1
          have h := h.2
          refine v_iinc (lv' := [(1, .int (iI (x3 + 1))), (0, .ref (B + 304))]) C 0 dX10_undo_48 rfl (by decide) rfl ?_
          refine v_goto C 22 dX10_undo_51 (by decide) ?_
          obtain ⟨m9, hm9, h⟩ := h
          exact ih6 m9 hm9 (x3 + 1) σ12 h k13
    exact key7 n16 0 σ2 hnn16 (by decide)
  · have h := h.2 c17
    refine v_bipush C dX10_undo_7 (by decide) ?_
    exact v_iret C (by decide) h dX10_undo_9
-- SplitTowersModel.unit(II)I
def wp_X10_unit (σ : SG) (a1 : Int) (a2 : Int) (Q : Int → SG → Prop) : Prop :=
  wp_X10_noBranch σ a1 (fun (z2 : Int) (σ1 : SG) => ((z2 = 0 → wp_X10_noPlace σ1 a2 (fun (z4 : Int) (σ3 : SG) => ((z4 = 0 → wp_X10_loadsBranch σ3 a1 1 (fun (σ5 : SG) => wp_X10_unitOf σ5 2 (fun (σ6 : SG) => wp_X10_of σ6 2 a2 (fun (z8 : Int) (σ7 : SG) => Q z8 σ7)))) ∧ (¬ z4 = 0 → Q (-2) σ3)))) ∧ (¬ z2 = 0 → Q (-1) σ1)))
def rm_X10_unit : Room := { frames := 6, cells := 0, slots := 0, locals := 130 }
theorem wy_X10_unit : Cond.instanceMethod yX10_unit ∈ WS ∧ Cond.selects "SplitTowersModel" yX10_unit yX10_unit ∈ WS ∧ Cond.initialized "SplitTowersModel" ∈ WS ∧ Cond.code yX10_unit prog_12_method_72_code 3 (some .int) ∈ WS := ⟨w1199, w1200, w79, w1201⟩
theorem hd_X10_unit : yX10_unit.cls = "SplitTowersModel" ∧ yX10_unit.cls ≠ "java/lang/invoke/MethodHandle" ∧ yX10_unit.cls ≠ "java/lang/invoke/VarHandle" ∧ (parseMethodDescriptor yX10_unit.desc).map (fun d => d.parameters.length) = some 2 := by decide +kernel
set_option maxHeartbeats 4000000 in
set_option maxRecDepth 100000 in
theorem s_X10_unit {l : Launch} {D : va_G} {aC : Nat → ClassId} {B lo hi : Nat} {σ : SG} {a1 : Int} {a2 : Int} {Q : Int → SG → Prop} (hlo : lo ≤ 304) (hhi : 316 ≤ hi) (r1 : inR a1) (r2 : inR a2) (h : wp_X10_unit σ a1 a2 Q) : Met l yX10_unit (Cond.code yX10_unit prog_12_method_72_code 3 (some .int) :: WS) rm_X10_unit (va_Pc [.ref (B + 304), .int (iI a1), .int (iI a2)] (WP D aC B lo hi σ)) (QI D aC B lo hi Q) 0 0 (AB B lo hi) := by
  refine met_of (by decide +kernel) (by decide +kernel : yX10_unit.cls = "SplitTowersModel") (Nat.le_of_ble_eq_true rfl) ?_
  intro p e s m args below meth c C
  unfold wp_X10_unit at h
  refine v_R (fun hR0 => ?_)
  show V p l e rm_X10_unit s m args below meth c D aC B lo hi 3 (MQ below (QI D aC B lo hi Q) args s 0 0 (AB B lo hi)) σ 0 [(0, .ref (B + 304)), (1, .int (iI a1)), (2, .int (iI a2))] []
  refine v_aload_n C 0 dX10_unit_0 rfl rfl ?_
  refine v_iload_n C 1 dX10_unit_1 rfl rfl ?_
  refine v_calli (i := 304) (As := [.int (iI a1)]) (rest := []) C (s_X10_noBranch hlo hhi r1 h) w1034 wy_X10_noBranch ⟨rfl, rfl⟩ hd_X10_noBranch ⟨Nat.le_of_ble_eq_true rfl, Nat.le_of_ble_eq_true rfl⟩ (Nat.le_trans hlo (by decide)) (Nat.lt_of_lt_of_le (by decide) hhi) rfl rfl rfl rfl (Nat.le_of_ble_eq_true rfl) dX10_unit_2 (fun z2 σ1 rz2 h => ?_)
  refine v_R (fun hRσ1 => ?_)
  refine v_if_eq C rz2 10 dX10_unit_5 (by decide) (fun c10 => ?_) (fun c10 => ?_)
  · have h := h.1 c10
    refine v_aload_n C 0 dX10_unit_10 rfl rfl ?_
    refine v_iload_n C 2 dX10_unit_11 rfl rfl ?_
    refine v_calli (i := 304) (As := [.int (iI a2)]) (rest := []) C (s_X10_noPlace hlo hhi r2 h) w1018 wy_X10_noPlace ⟨rfl, rfl⟩ hd_X10_noPlace ⟨Nat.le_of_ble_eq_true rfl, Nat.le_of_ble_eq_true rfl⟩ (Nat.le_trans hlo (by decide)) (Nat.lt_of_lt_of_le (by decide) hhi) rfl rfl rfl rfl (Nat.le_of_ble_eq_true rfl) dX10_unit_12 (fun z4 σ3 rz4 h => ?_)
    refine v_R (fun hRσ3 => ?_)
    refine v_if_eq C rz4 21 dX10_unit_15 (by decide) (fun c9 => ?_) (fun c9 => ?_)
    · have h := h.1 c9
      refine v_aload_n C 0 dX10_unit_21 rfl rfl ?_
      refine v_iload_n C 1 dX10_unit_22 rfl rfl ?_
      refine v_iconst C dX10_unit_23 ?_
      refine v_callv (i := 304) (As := [.int (iI a1), .int (iI 1)]) (rest := []) C (s_X10_loadsBranch hlo hhi r1 (by decide) h) w1038 wy_X10_loadsBranch ⟨rfl, rfl⟩ hd_X10_loadsBranch ⟨Nat.le_of_ble_eq_true rfl, Nat.le_of_ble_eq_true rfl⟩ (Nat.le_trans hlo (by decide)) (Nat.lt_of_lt_of_le (by decide) hhi) rfl rfl rfl rfl (Nat.le_of_ble_eq_true rfl) dX10_unit_24 (fun σ5 h => ?_)
      refine v_R (fun hRσ5 => ?_)
      refine v_aload_n C 0 dX10_unit_27 rfl rfl ?_
      refine v_iconst C dX10_unit_28 ?_
      refine v_callv (i := 304) (As := [.int (iI 2)]) (rest := []) C (s_X10_unitOf hlo hhi (by decide) h) w1042 wy_X10_unitOf ⟨rfl, rfl⟩ hd_X10_unitOf ⟨Nat.le_of_ble_eq_true rfl, Nat.le_of_ble_eq_true rfl⟩ (Nat.le_trans hlo (by decide)) (Nat.lt_of_lt_of_le (by decide) hhi) rfl rfl rfl rfl (Nat.le_of_ble_eq_true rfl) dX10_unit_29 (fun σ6 h => ?_)
      refine v_R (fun hRσ6 => ?_)
      refine v_aload_n C 0 dX10_unit_32 rfl rfl ?_
      refine v_iconst C dX10_unit_33 ?_
      refine v_iload_n C 2 dX10_unit_34 rfl rfl ?_
      refine v_calli (i := 304) (As := [.int (iI 2), .int (iI a2)]) (rest := []) C (s_X10_of hlo hhi (by decide) r2 h) w963 wy_X10_of ⟨rfl, rfl⟩ hd_X10_of ⟨Nat.le_of_ble_eq_true rfl, Nat.le_of_ble_eq_true rfl⟩ (Nat.le_trans hlo (by decide)) (Nat.lt_of_lt_of_le (by decide) hhi) rfl rfl rfl rfl (Nat.le_of_ble_eq_true rfl) dX10_unit_35 (fun z8 σ7 rz8 h => ?_)
      refine v_R (fun hRσ7 => ?_)
      exact v_iret C rz8 h dX10_unit_38
    · have h := h.2 c9
      refine v_bipush C dX10_unit_18 (by decide) ?_
      exact v_iret C (by decide) h dX10_unit_20
  · have h := h.2 c10
    refine v_iconst C dX10_unit_8 ?_
    exact v_iret C (by decide) h dX10_unit_9
