-- SplitTowers$Field.inverseOf(I)I
def wp_X2_inverseOf (σ : SG) (a1 : Int) (Q : Int → SG → Prop) : Prop :=
  Lp1 (fun (rec3 : Int → SG → Prop) (x1 : Int) (σ2 : SG) => (((σ2 1 0) ≤ x1 → Q 0 σ2) ∧ (¬ (σ2 1 0) ≤ x1 → (inR (x1 * a1) ∧ wp_X7_reduced σ2 1 (x1 * a1) (fun (z8 : Int) (σ7 : SG) => ((¬ z8 = 1 → (inR (x1 + 1) ∧ rec3 (x1 + 1) σ7)) ∧ (z8 = 1 → Q x1 σ7))))))) 1 σ
def rm_X2_inverseOf : Room := { frames := 1, cells := 0, slots := 0, locals := 22 }
theorem wy_X2_inverseOf : Cond.instanceMethod yX2_inverseOf ∈ WS ∧ Cond.selects "SplitTowers$Field" yX2_inverseOf yX2_inverseOf ∈ WS ∧ Cond.initialized "SplitTowers$Field" ∈ WS ∧ Cond.code yX2_inverseOf prog_4_method_2_code 3 (some .int) ∈ WS := ⟨w508, w509, w73, w510⟩
theorem hd_X2_inverseOf : yX2_inverseOf.cls = "SplitTowers$Field" ∧ yX2_inverseOf.cls ≠ "java/lang/invoke/MethodHandle" ∧ yX2_inverseOf.cls ≠ "java/lang/invoke/VarHandle" ∧ (parseMethodDescriptor yX2_inverseOf.desc).map (fun d => d.parameters.length) = some 1 := by decide +kernel
set_option maxHeartbeats 4000000 in
set_option maxRecDepth 100000 in
theorem s_X2_inverseOf {l : Launch} {D : va_G} {aC : Nat → ClassId} {B lo hi : Nat} {σ : SG} {a1 : Int} {Q : Int → SG → Prop} (hlo : lo ≤ 0) (hhi : 304 ≤ hi) (r1 : inR a1) (h : wp_X2_inverseOf σ a1 Q) : Met l yX2_inverseOf (Cond.code yX2_inverseOf prog_4_method_2_code 3 (some .int) :: WS) rm_X2_inverseOf (va_Pc [.ref (B + 33), .int (iI a1)] (WP D aC B lo hi σ)) (QI D aC B lo hi Q) 0 0 (AB B lo hi) := by
  refine met_of (by decide +kernel) (by decide +kernel : yX2_inverseOf.cls = "SplitTowers$Field") (Nat.le_of_ble_eq_true rfl) ?_
  intro p e s m args below meth c C
  unfold wp_X2_inverseOf at h
  refine v_R (fun hR0 => ?_)
  show V p l e rm_X2_inverseOf s m args below meth c D aC B lo hi 3 (MQ below (QI D aC B lo hi Q) args s 0 0 (AB B lo hi)) σ 0 [(0, .ref (B + 33)), (1, .int (iI a1))] []
  refine v_iconst C dX2_inverseOf_0 ?_
  refine v_istore_n (lv' := [(2, .int (iI 1)), (0, .ref (B + 33)), (1, .int (iI a1))]) C dX2_inverseOf_1 rfl (by decide) rfl ?_
  obtain ⟨I12, ⟨n13, hnn13⟩, hII12⟩ := h
  have key5 : ∀ (n : Nat) (x1 : Int) (σ2 : SG), I12 n x1 σ2 → inR x1 → V p l e rm_X2_inverseOf s m args below meth c D aC B lo hi 3 (MQ below (QI D aC B lo hi Q) args s 0 0 (AB B lo hi)) σ2 2 [(2, .int (iI x1)), (0, .ref (B + 33)), (1, .int (iI a1))] [] := by
    intro n
    induction n using Nat.strongRecOn with
    | ind n ih4 =>
      intro x1 σ2 hn rx1
      have h := hII12 n x1 σ2 hn
      refine v_R (fun hRσ2 => ?_)
      refine v_iload_n C 0 dX2_inverseOf_2 rfl rfl ?_
      refine v_aload_n C 1 dX2_inverseOf_3 rfl rfl ?_
      refine gf2_state C hlo hhi w212 dX2_inverseOf_4 ?_
      refine gf7_prime C (SO_full hlo hhi kt1) w152 dX2_inverseOf_7 ?_
      refine v_icmp_ge C rx1 (hRσ2 1 0) 35 dX2_inverseOf_10 (by decide) (fun c11 => ?_) (fun c11 => ?_)
      · have h := h.1 c11
        refine v_iconst C dX2_inverseOf_35 ?_
        exact v_iret C (by decide) h dX2_inverseOf_36
      · have h := h.2 c11
        refine v_aload_n C 1 dX2_inverseOf_13 rfl rfl ?_
        refine gf2_state C hlo hhi w212 dX2_inverseOf_14 ?_
        refine v_iload_n C 0 dX2_inverseOf_17 rfl rfl ?_
        refine v_iload_n C 2 dX2_inverseOf_18 rfl rfl ?_
        have k6 := h.1
        have h := h.2
        refine v_imul C dX2_inverseOf_19 ?_
        refine v_calli (i := 1) (As := [.int (iI (x1 * a1))]) (rest := []) C (s_X7_reduced (SO_full hlo hhi kt1) k6 h) w493 wy_X7_reduced ⟨rfl, rfl⟩ hd_X7_reduced ⟨Nat.le_of_ble_eq_true rfl, Nat.le_of_ble_eq_true rfl⟩ (SO.lo (SO_full hlo hhi kt1)) (SO.hi (SO_full hlo hhi kt1)) (cel_of ((SO_full hlo hhi kt1)).1) rfl rfl rfl (Nat.le_of_ble_eq_true rfl) dX2_inverseOf_20 (fun z8 σ7 rz8 h => ?_)
        refine v_R (fun hRσ7 => ?_)
        refine v_iconst C dX2_inverseOf_23 ?_
        refine v_icmp_ne C rz8 (by decide) 29 dX2_inverseOf_24 (by decide) (fun c10 => ?_) (fun c10 => ?_)
        · have h := h.1 c10
          have k9 := h.1
          have h := h.2
          refine v_iinc (lv' := [(2, .int (iI (x1 + 1))), (0, .ref (B + 33)), (1, .int (iI a1))]) C 0 dX2_inverseOf_29 rfl (by decide) rfl ?_
          refine v_goto C 2 dX2_inverseOf_32 (by decide) ?_
          obtain ⟨m9, hm9, h⟩ := h
          exact ih4 m9 hm9 (x1 + 1) σ7 h k9
        · have h := h.2 c10
          refine v_iload_n C 0 dX2_inverseOf_27 rfl rfl ?_
          exact v_iret C rx1 h dX2_inverseOf_28
  exact key5 n13 1 σ hnn13 (by decide)
-- SplitTowers$Field.divide(LSplitTowers$Poly;LSplitTowers$Poly;LSplitTowers$Poly;)V
def wp_X2_divide (σ : SG) (q1 : Nat) (q2 : Nat) (q3 : Nat) (Q : SG → Prop) : Prop :=
  wp_X4_clear σ q3 (fun (σ1 : SG) => wp_X4_at σ1 q2 (σ1 q2 1) (fun (z3 : Int) (σ2 : SG) => wp_X2_inverseOf σ2 z3 (fun (z5 : Int) (σ4 : SG) => ((¬ z5 = 0 → (inR ((σ4 q1 1) - (σ4 q2 1)) ∧ (∀ v7 : Int, v7 = (σ4 q1 1) - (σ4 q2 1) → Lp1 (fun (rec10 : Int → SG → Prop) (x8 : Int) (σ9 : SG) => ((x8 < 0 → Q σ9) ∧ (¬ x8 < 0 → (inR (x8 + (σ9 q2 1)) ∧ wp_X4_at σ9 q1 (x8 + (σ9 q2 1)) (fun (z15 : Int) (σ14 : SG) => (inR (z15 * z5) ∧ wp_X7_reduced σ14 1 (z15 * z5) (fun (z18 : Int) (σ17 : SG) => (inR (-z18) ∧ wp_X4_addMultiple σ17 q1 (-z18) q2 x8 (σ17 1 0) (fun (σ20 : SG) => wp_X4_set σ20 q3 x8 z18 (fun (σ21 : SG) => (inR (x8 + (-1)) ∧ rec10 (x8 + (-1)) σ21))))))))))) v7 σ4))) ∧ (z5 = 0 → Q σ4)))))
def rm_X2_divide : Room := { frames := 2, cells := 0, slots := 0, locals := 48 }
theorem wy_X2_divide : Cond.instanceMethod yX2_divide ∈ WS ∧ Cond.selects "SplitTowers$Field" yX2_divide yX2_divide ∈ WS ∧ Cond.initialized "SplitTowers$Field" ∈ WS ∧ Cond.code yX2_divide prog_4_method_5_code 7 none ∈ WS := ⟨w504, w505, w73, w506⟩
theorem hd_X2_divide : yX2_divide.cls = "SplitTowers$Field" ∧ yX2_divide.cls ≠ "java/lang/invoke/MethodHandle" ∧ yX2_divide.cls ≠ "java/lang/invoke/VarHandle" ∧ (parseMethodDescriptor yX2_divide.desc).map (fun d => d.parameters.length) = some 3 := by decide +kernel
set_option maxHeartbeats 4000000 in
set_option maxRecDepth 100000 in
theorem s_X2_divide {l : Launch} {D : va_G} {aC : Nat → ClassId} {B lo hi : Nat} {σ : SG} {q1 : Nat} {q2 : Nat} {q3 : Nat} {Q : SG → Prop} (hlo : lo ≤ 0) (hhi : 304 ≤ hi) (p1 : PO lo hi q1) (p2 : PO lo hi q2) (p3 : PO lo hi q3) (h : wp_X2_divide σ q1 q2 q3 Q) : Met l yX2_divide (Cond.code yX2_divide prog_4_method_5_code 7 none :: WS) rm_X2_divide (va_Pc [.ref (B + 33), .ref (B + q1), .ref (B + q2), .ref (B + q3)] (WP D aC B lo hi σ)) (QV D aC B lo hi Q) 0 0 (AB B lo hi) := by
  refine met_of (by decide +kernel) (by decide +kernel : yX2_divide.cls = "SplitTowers$Field") (Nat.le_of_ble_eq_true rfl) ?_
  intro p e s m args below meth c C
  unfold wp_X2_divide at h
  refine v_R (fun hR0 => ?_)
  show V p l e rm_X2_divide s m args below meth c D aC B lo hi 7 (MQ below (QV D aC B lo hi Q) args s 0 0 (AB B lo hi)) σ 0 [(0, .ref (B + 33)), (1, .ref (B + q1)), (2, .ref (B + q2)), (3, .ref (B + q3))] []
  refine v_aload_n C 3 dX2_divide_0 rfl rfl ?_
  refine v_callv (i := q3) (As := []) (rest := []) C (s_X4_clear p3 h) w488 wy_X4_clear ⟨rfl, rfl⟩ hd_X4_clear ⟨Nat.le_of_ble_eq_true rfl, Nat.le_of_ble_eq_true rfl⟩ (PO.lo p3) (PO.hi p3) (cel_of (p3).1) rfl rfl rfl (Nat.le_of_ble_eq_true rfl) dX2_divide_1 (fun σ1 h => ?_)
  refine v_R (fun hRσ1 => ?_)
  refine v_aload_n C 0 dX2_divide_4 rfl rfl ?_
  refine v_aload_n C 2 dX2_divide_5 rfl rfl ?_
  refine v_aload_n C 2 dX2_divide_6 rfl rfl ?_
  refine gf4_degree C p2 w105 dX2_divide_7 ?_
  refine v_calli (i := q2) (As := [.int (iI (σ1 q2 1))]) (rest := [.ref (B + 33)]) C (s_X4_at p2 (hRσ1 q2 1) h) w489 wy_X4_at ⟨rfl, rfl⟩ hd_X4_at ⟨Nat.le_of_ble_eq_true rfl, Nat.le_of_ble_eq_true rfl⟩ (PO.lo p2) (PO.hi p2) (cel_of (p2).1) rfl rfl rfl (Nat.le_of_ble_eq_true rfl) dX2_divide_10 (fun z3 σ2 rz3 h => ?_)
  refine v_R (fun hRσ2 => ?_)
  refine v_calli (i := 33) (As := [.int (iI z3)]) (rest := []) C (s_X2_inverseOf hlo hhi rz3 h) w507 wy_X2_inverseOf ⟨rfl, rfl⟩ hd_X2_inverseOf ⟨Nat.le_of_ble_eq_true rfl, Nat.le_of_ble_eq_true rfl⟩ (Nat.le_trans hlo (Nat.zero_le _)) (Nat.lt_of_lt_of_le (by decide) hhi) rfl rfl rfl rfl (Nat.le_of_ble_eq_true rfl) dX2_divide_13 (fun z5 σ4 rz5 h => ?_)
  refine v_R (fun hRσ4 => ?_)
  refine v_istore (lv' := [(4, .int (iI z5)), (0, .ref (B + 33)), (1, .ref (B + q1)), (2, .ref (B + q2)), (3, .ref (B + q3))]) C dX2_divide_16 (by decide) rfl ?_
  refine v_iload C 0 dX2_divide_18 rfl ?_
  refine v_if_ne C rz5 24 dX2_divide_20 (by decide) (fun c26 => ?_) (fun c26 => ?_)
  · have h := h.1 c26
    refine v_aload_n C 2 dX2_divide_24 rfl rfl ?_
    refine gf4_degree C p1 w105 dX2_divide_25 ?_
    refine v_aload_n C 3 dX2_divide_28 rfl rfl ?_
    refine gf4_degree C p2 w105 dX2_divide_29 ?_
    have k6 := h.1
    have h := h.2
    refine v_isub C dX2_divide_32 ?_
    refine v_name (fun v7 ev7 => ?_)
    have h := h v7 ev7
    have rv7 : inR v7 := by rw [ev7]; exact k6
    refine v_istore (lv' := [(5, .int (iI v7)), (4, .int (iI z5)), (0, .ref (B + 33)), (1, .ref (B + q1)), (2, .ref (B + q2)), (3, .ref (B + q3))]) C dX2_divide_33 (by decide) rfl ?_
    obtain ⟨I24, ⟨n25, hnn25⟩, hII24⟩ := h
    have key12 : ∀ (n : Nat) (x8 : Int) (σ9 : SG), I24 n x8 σ9 → inR x8 → V p l e rm_X2_divide s m args below meth c D aC B lo hi 7 (MQ below (QV D aC B lo hi Q) args s 0 0 (AB B lo hi)) σ9 35 [(5, .int (iI x8)), (4, .int (iI z5)), (0, .ref (B + 33)), (1, .ref (B + q1)), (2, .ref (B + q2)), (3, .ref (B + q3))] [] := by
      intro n
      induction n using Nat.strongRecOn with
      | ind n ih11 =>
        intro x8 σ9 hn rx8
        have h := hII24 n x8 σ9 hn
        refine v_R (fun hRσ9 => ?_)
        refine v_iload C 0 dX2_divide_35 rfl ?_
        refine v_if_lt C rx8 94 dX2_divide_37 (by decide) (fun c23 => ?_) (fun c23 => ?_)
        · have h := h.1 c23
          exact v_vret C h dX2_divide_94
        · have h := h.2 c23
          refine v_aload_n C 2 dX2_divide_40 rfl rfl ?_
          refine gf2_state C hlo hhi w212 dX2_divide_41 ?_
          refine v_aload_n C 3 dX2_divide_44 rfl rfl ?_
          refine v_iload C 0 dX2_divide_45 rfl ?_
          refine v_aload_n C 4 dX2_divide_47 rfl rfl ?_
          refine gf4_degree C p2 w105 dX2_divide_48 ?_
          have k13 := h.1
          have h := h.2
          refine v_iadd C dX2_divide_51 ?_
          refine v_calli (i := q1) (As := [.int (iI (x8 + (σ9 q2 1)))]) (rest := [.ref (B + 1)]) C (s_X4_at p1 k13 h) w489 wy_X4_at ⟨rfl, rfl⟩ hd_X4_at ⟨Nat.le_of_ble_eq_true rfl, Nat.le_of_ble_eq_true rfl⟩ (PO.lo p1) (PO.hi p1) (cel_of (p1).1) rfl rfl rfl (Nat.le_of_ble_eq_true rfl) dX2_divide_52 (fun z15 σ14 rz15 h => ?_)
          refine v_R (fun hRσ14 => ?_)
          refine v_iload C 1 dX2_divide_55 rfl ?_
          have k16 := h.1
          have h := h.2
          refine v_imul C dX2_divide_57 ?_
          refine v_calli (i := 1) (As := [.int (iI (z15 * z5))]) (rest := []) C (s_X7_reduced (SO_full hlo hhi kt1) k16 h) w493 wy_X7_reduced ⟨rfl, rfl⟩ hd_X7_reduced ⟨Nat.le_of_ble_eq_true rfl, Nat.le_of_ble_eq_true rfl⟩ (SO.lo (SO_full hlo hhi kt1)) (SO.hi (SO_full hlo hhi kt1)) (cel_of ((SO_full hlo hhi kt1)).1) rfl rfl rfl (Nat.le_of_ble_eq_true rfl) dX2_divide_58 (fun z18 σ17 rz18 h => ?_)
          refine v_R (fun hRσ17 => ?_)
          refine v_istore (lv' := [(6, .int (iI z18)), (5, .int (iI x8)), (4, .int (iI z5)), (0, .ref (B + 33)), (1, .ref (B + q1)), (2, .ref (B + q2)), (3, .ref (B + q3))]) C dX2_divide_61 (by decide) rfl ?_
          refine v_aload_n C 4 dX2_divide_63 rfl rfl ?_
          refine v_iload C 0 dX2_divide_64 rfl ?_
          have k19 := h.1
          have h := h.2
          refine v_ineg C dX2_divide_66 ?_
          refine v_aload_n C 5 dX2_divide_67 rfl rfl ?_
          refine v_iload C 1 dX2_divide_68 rfl ?_
          refine v_aload_n C 3 dX2_divide_70 rfl rfl ?_
          refine gf2_state C hlo hhi w212 dX2_divide_71 ?_
          refine gf7_prime C (SO_full hlo hhi kt1) w152 dX2_divide_74 ?_
          refine v_callv (i := q1) (As := [.int (iI (-z18)), .ref (B + q2), .int (iI x8), .int (iI (σ17 1 0))]) (rest := []) C (s_X4_addMultiple p1 k19 p2 rx8 (hRσ17 1 0) h) w511 wy_X4_addMultiple ⟨rfl, rfl⟩ hd_X4_addMultiple ⟨Nat.le_of_ble_eq_true rfl, Nat.le_of_ble_eq_true rfl⟩ (PO.lo p1) (PO.hi p1) (cel_of (p1).1) rfl rfl rfl (Nat.le_of_ble_eq_true rfl) dX2_divide_77 (fun σ20 h => ?_)
          refine v_R (fun hRσ20 => ?_)
          refine v_aload_n C 6 dX2_divide_80 rfl rfl ?_
          refine v_iload C 1 dX2_divide_81 rfl ?_
          refine v_iload C 0 dX2_divide_83 rfl ?_
          refine v_callv (i := q3) (As := [.int (iI x8), .int (iI z18)]) (rest := []) C (s_X4_set p3 rx8 rz18 h) w497 wy_X4_set ⟨rfl, rfl⟩ hd_X4_set ⟨Nat.le_of_ble_eq_true rfl, Nat.le_of_ble_eq_true rfl⟩ (PO.lo p3) (PO.hi p3) (cel_of (p3).1) rfl rfl rfl (Nat.le_of_ble_eq_true rfl) dX2_divide_85 (fun σ21 h => ?_)
          refine v_R (fun hRσ21 => ?_)
          have k22 := h.1
          have h := h.2
          refine v_iinc (lv' := [(5, .int (iI (x8 + (-1)))), (6, .int (iI z18)), (4, .int (iI z5)), (0, .ref (B + 33)), (1, .ref (B + q1)), (2, .ref (B + q2)), (3, .ref (B + q3))]) C 1 dX2_divide_88 rfl (by decide) rfl ?_
          refine v_goto C 35 dX2_divide_91 (by decide) ?_
          obtain ⟨m9, hm9, h⟩ := h
          refine v_sub [0, 2, 3, 4, 5, 6] rfl ?_
          exact ih11 m9 hm9 (x8 + (-1)) σ21 h k22
    exact key12 n25 v7 σ4 hnn25 rv7
  · have h := h.2 c26
    exact v_vret C h dX2_divide_23
-- SplitTowers$Field.scale(LSplitTowers$Poly;I)V
def wp_X2_scale (σ : SG) (q1 : Nat) (a2 : Int) (Q : SG → Prop) : Prop :=
  (inR (a2 - 1) ∧ wp_X4_addMultiple σ q1 (a2 - 1) q1 0 (σ 1 0) (fun (σ2 : SG) => Q σ2))
def rm_X2_scale : Room := { frames := 2, cells := 0, slots := 0, locals := 48 }
theorem wy_X2_scale : Cond.instanceMethod yX2_scale ∈ WS ∧ Cond.selects "SplitTowers$Field" yX2_scale yX2_scale ∈ WS ∧ Cond.initialized "SplitTowers$Field" ∈ WS ∧ Cond.code yX2_scale prog_4_method_3_code 3 none ∈ WS := ⟨w516, w517, w73, w518⟩
theorem hd_X2_scale : yX2_scale.cls = "SplitTowers$Field" ∧ yX2_scale.cls ≠ "java/lang/invoke/MethodHandle" ∧ yX2_scale.cls ≠ "java/lang/invoke/VarHandle" ∧ (parseMethodDescriptor yX2_scale.desc).map (fun d => d.parameters.length) = some 2 := by decide +kernel
set_option maxHeartbeats 4000000 in
set_option maxRecDepth 100000 in
theorem s_X2_scale {l : Launch} {D : va_G} {aC : Nat → ClassId} {B lo hi : Nat} {σ : SG} {q1 : Nat} {a2 : Int} {Q : SG → Prop} (hlo : lo ≤ 0) (hhi : 304 ≤ hi) (p1 : PO lo hi q1) (r2 : inR a2) (h : wp_X2_scale σ q1 a2 Q) : Met l yX2_scale (Cond.code yX2_scale prog_4_method_3_code 3 none :: WS) rm_X2_scale (va_Pc [.ref (B + 33), .ref (B + q1), .int (iI a2)] (WP D aC B lo hi σ)) (QV D aC B lo hi Q) 0 0 (AB B lo hi) := by
  refine met_of (by decide +kernel) (by decide +kernel : yX2_scale.cls = "SplitTowers$Field") (Nat.le_of_ble_eq_true rfl) ?_
  intro p e s m args below meth c C
  unfold wp_X2_scale at h
  refine v_R (fun hR0 => ?_)
  show V p l e rm_X2_scale s m args below meth c D aC B lo hi 3 (MQ below (QV D aC B lo hi Q) args s 0 0 (AB B lo hi)) σ 0 [(0, .ref (B + 33)), (1, .ref (B + q1)), (2, .int (iI a2))] []
  refine v_aload_n C 1 dX2_scale_0 rfl rfl ?_
  refine v_iload_n C 2 dX2_scale_1 rfl rfl ?_
  refine v_iconst C dX2_scale_2 ?_
  have k1 := h.1
  have h := h.2
  refine v_isub C dX2_scale_3 ?_
  refine v_aload_n C 1 dX2_scale_4 rfl rfl ?_
  refine v_iconst C dX2_scale_5 ?_
  refine v_aload_n C 0 dX2_scale_6 rfl rfl ?_
  refine gf2_state C hlo hhi w212 dX2_scale_7 ?_
  refine gf7_prime C (SO_full hlo hhi kt1) w152 dX2_scale_10 ?_
  refine v_callv (i := q1) (As := [.int (iI (a2 - 1)), .ref (B + q1), .int (iI 0), .int (iI (σ 1 0))]) (rest := []) C (s_X4_addMultiple p1 k1 p1 (by decide) (hR0 1 0) h) w511 wy_X4_addMultiple ⟨rfl, rfl⟩ hd_X4_addMultiple ⟨Nat.le_of_ble_eq_true rfl, Nat.le_of_ble_eq_true rfl⟩ (PO.lo p1) (PO.hi p1) (cel_of (p1).1) rfl rfl rfl (Nat.le_of_ble_eq_true rfl) dX2_scale_13 (fun σ2 h => ?_)
  refine v_R (fun hRσ2 => ?_)
  exact v_vret C h dX2_scale_16
-- SplitTowers$Field.commonFactor(LSplitTowers$Poly;LSplitTowers$Poly;LSplitTowers$Poly;)V
def wp_X2_commonFactor (σ : SG) (q1 : Nat) (q2 : Nat) (q3 : Nat) (Q : SG → Prop) : Prop :=
  wp_X4_copy σ 40 q2 (fun (σ1 : SG) => wp_X4_copy σ1 42 q3 (fun (σ2 : SG) => Jn1 (fun (u3 : Nat) (σ4 : SG) => wp_X4_copy σ4 q1 u3 (fun (σ6 : SG) => wp_X4_at σ6 q1 (σ6 q1 1) (fun (z8 : Int) (σ7 : SG) => wp_X2_inverseOf σ7 z8 (fun (z10 : Int) (σ9 : SG) => wp_X2_scale σ9 q1 z10 (fun (σ11 : SG) => Q σ11))))) (fun J5 => Lp3 (fun (rec16 : Int → Nat → Nat → SG → Prop) (x12 : Int) (u13 : Nat) (u14 : Nat) (σ15 : SG) => ((13 < x12 → J5 u14 σ15) ∧ (¬ 13 < x12 → (((σ15 u13 1) < 0 → J5 u14 σ15) ∧ (¬ (σ15 u13 1) < 0 → wp_X2_divide σ15 u14 u13 36 (fun (σ19 : SG) => (inR (x12 + 1) ∧ rec16 (x12 + 1) u14 u13 σ19))))))) 0 42 40 σ2)))
def rm_X2_commonFactor : Room := { frames := 3, cells := 0, slots := 0, locals := 74 }
theorem wy_X2_commonFactor : Cond.instanceMethod yX2_commonFactor ∈ WS ∧ Cond.selects "SplitTowers$Field" yX2_commonFactor yX2_commonFactor ∈ WS ∧ Cond.initialized "SplitTowers$Field" ∈ WS ∧ Cond.code yX2_commonFactor prog_4_method_8_code 8 none ∈ WS := ⟨w499, w500, w73, w501⟩
theorem hd_X2_commonFactor : yX2_commonFactor.cls = "SplitTowers$Field" ∧ yX2_commonFactor.cls ≠ "java/lang/invoke/MethodHandle" ∧ yX2_commonFactor.cls ≠ "java/lang/invoke/VarHandle" ∧ (parseMethodDescriptor yX2_commonFactor.desc).map (fun d => d.parameters.length) = some 3 := by decide +kernel
set_option maxHeartbeats 4000000 in
set_option maxRecDepth 100000 in
theorem s_X2_commonFactor {l : Launch} {D : va_G} {aC : Nat → ClassId} {B lo hi : Nat} {σ : SG} {q1 : Nat} {q2 : Nat} {q3 : Nat} {Q : SG → Prop} (hlo : lo ≤ 0) (hhi : 304 ≤ hi) (p1 : PO lo hi q1) (p2 : PO lo hi q2) (p3 : PO lo hi q3) (h : wp_X2_commonFactor σ q1 q2 q3 Q) : Met l yX2_commonFactor (Cond.code yX2_commonFactor prog_4_method_8_code 8 none :: WS) rm_X2_commonFactor (va_Pc [.ref (B + 33), .ref (B + q1), .ref (B + q2), .ref (B + q3)] (WP D aC B lo hi σ)) (QV D aC B lo hi Q) 0 0 (AB B lo hi) := by
  refine met_of (by decide +kernel) (by decide +kernel : yX2_commonFactor.cls = "SplitTowers$Field") (Nat.le_of_ble_eq_true rfl) ?_
  intro p e s m args below meth c C
  unfold wp_X2_commonFactor at h
  refine v_R (fun hR0 => ?_)
  show V p l e rm_X2_commonFactor s m args below meth c D aC B lo hi 8 (MQ below (QV D aC B lo hi Q) args s 0 0 (AB B lo hi)) σ 0 [(0, .ref (B + 33)), (1, .ref (B + q1)), (2, .ref (B + q2)), (3, .ref (B + q3))] []
  refine v_aload_n C 0 dX2_commonFactor_0 rfl rfl ?_
  refine gf2_left C hlo hhi w216 dX2_commonFactor_1 ?_
  refine v_aload_n C 2 dX2_commonFactor_4 rfl rfl ?_
  refine v_callv (i := 40) (As := [.ref (B + q2)]) (rest := []) C (s_X4_copy (PO_full hlo hhi kt40) p2 h) w502 wy_X4_copy ⟨rfl, rfl⟩ hd_X4_copy ⟨Nat.le_of_ble_eq_true rfl, Nat.le_of_ble_eq_true rfl⟩ (PO.lo (PO_full hlo hhi kt40)) (PO.hi (PO_full hlo hhi kt40)) (cel_of ((PO_full hlo hhi kt40)).1) rfl rfl rfl (Nat.le_of_ble_eq_true rfl) dX2_commonFactor_5 (fun σ1 h => ?_)
  refine v_R (fun hRσ1 => ?_)
  refine v_aload_n C 0 dX2_commonFactor_8 rfl rfl ?_
  refine gf2_right C hlo hhi w217 dX2_commonFactor_9 ?_
  refine v_aload_n C 3 dX2_commonFactor_12 rfl rfl ?_
  refine v_callv (i := 42) (As := [.ref (B + q3)]) (rest := []) C (s_X4_copy (PO_full hlo hhi kt42) p3 h) w502 wy_X4_copy ⟨rfl, rfl⟩ hd_X4_copy ⟨Nat.le_of_ble_eq_true rfl, Nat.le_of_ble_eq_true rfl⟩ (PO.lo (PO_full hlo hhi kt42)) (PO.hi (PO_full hlo hhi kt42)) (cel_of ((PO_full hlo hhi kt42)).1) rfl rfl rfl (Nat.le_of_ble_eq_true rfl) dX2_commonFactor_13 (fun σ2 h => ?_)
  refine v_R (fun hRσ2 => ?_)
  refine v_aload_n C 0 dX2_commonFactor_16 rfl rfl ?_
  refine gf2_left C hlo hhi w216 dX2_commonFactor_17 ?_
  refine v_astore (lv' := [(4, .ref (B + 40)), (0, .ref (B + 33)), (1, .ref (B + q1)), (2, .ref (B + q2)), (3, .ref (B + q3))]) C dX2_commonFactor_20 (by decide) rfl ?_
  refine v_aload_n C 1 dX2_commonFactor_22 rfl rfl ?_
  refine gf2_right C hlo hhi w217 dX2_commonFactor_23 ?_
  refine v_astore (lv' := [(5, .ref (B + 42)), (4, .ref (B + 40)), (0, .ref (B + 33)), (1, .ref (B + q1)), (2, .ref (B + q2)), (3, .ref (B + q3))]) C dX2_commonFactor_26 (by decide) rfl ?_
  refine v_iconst C dX2_commonFactor_28 ?_
  refine v_istore (lv' := [(6, .int (iI 0)), (5, .ref (B + 42)), (4, .ref (B + 40)), (0, .ref (B + 33)), (1, .ref (B + q1)), (2, .ref (B + q2)), (3, .ref (B + q3))]) C dX2_commonFactor_29 (by decide) rfl ?_
  obtain ⟨J5, hJ5, h⟩ := h
  have kJ5 : ∀ (u3 : Nat) (σ4 : SG), J5 u3 σ4 → PO lo hi u3 → V p l e rm_X2_commonFactor s m args below meth c D aC B lo hi 8 (MQ below (QV D aC B lo hi Q) args s 0 0 (AB B lo hi)) σ4 76 [(4, .ref (B + u3)), (0, .ref (B + 33)), (1, .ref (B + q1))] [] := by
    intro u3 σ4 hj pu3
    have h := hJ5 u3 σ4 hj
    refine v_R (fun hRσ4 => ?_)
    refine v_aload_n C 2 dX2_commonFactor_76 rfl rfl ?_
    refine v_aload C 0 dX2_commonFactor_77 rfl ?_
    refine v_callv (i := q1) (As := [.ref (B + u3)]) (rest := []) C (s_X4_copy p1 pu3 h) w502 wy_X4_copy ⟨rfl, rfl⟩ hd_X4_copy ⟨Nat.le_of_ble_eq_true rfl, Nat.le_of_ble_eq_true rfl⟩ (PO.lo p1) (PO.hi p1) (cel_of (p1).1) rfl rfl rfl (Nat.le_of_ble_eq_true rfl) dX2_commonFactor_79 (fun σ6 h => ?_)
    refine v_R (fun hRσ6 => ?_)
    refine v_aload_n C 1 dX2_commonFactor_82 rfl rfl ?_
    refine v_aload_n C 2 dX2_commonFactor_83 rfl rfl ?_
    refine v_aload_n C 1 dX2_commonFactor_84 rfl rfl ?_
    refine v_aload_n C 2 dX2_commonFactor_85 rfl rfl ?_
    refine v_aload_n C 2 dX2_commonFactor_86 rfl rfl ?_
    refine gf4_degree C p1 w105 dX2_commonFactor_87 ?_
    refine v_calli (i := q1) (As := [.int (iI (σ6 q1 1))]) (rest := [.ref (B + 33), .ref (B + q1), .ref (B + 33)]) C (s_X4_at p1 (hRσ6 q1 1) h) w489 wy_X4_at ⟨rfl, rfl⟩ hd_X4_at ⟨Nat.le_of_ble_eq_true rfl, Nat.le_of_ble_eq_true rfl⟩ (PO.lo p1) (PO.hi p1) (cel_of (p1).1) rfl rfl rfl (Nat.le_of_ble_eq_true rfl) dX2_commonFactor_90 (fun z8 σ7 rz8 h => ?_)
    refine v_R (fun hRσ7 => ?_)
    refine v_calli (i := 33) (As := [.int (iI z8)]) (rest := [.ref (B + q1), .ref (B + 33)]) C (s_X2_inverseOf hlo hhi rz8 h) w507 wy_X2_inverseOf ⟨rfl, rfl⟩ hd_X2_inverseOf ⟨Nat.le_of_ble_eq_true rfl, Nat.le_of_ble_eq_true rfl⟩ (Nat.le_trans hlo (Nat.zero_le _)) (Nat.lt_of_lt_of_le (by decide) hhi) rfl rfl rfl rfl (Nat.le_of_ble_eq_true rfl) dX2_commonFactor_93 (fun z10 σ9 rz10 h => ?_)
    refine v_R (fun hRσ9 => ?_)
    refine v_callv (i := 33) (As := [.ref (B + q1), .int (iI z10)]) (rest := []) C (s_X2_scale hlo hhi p1 rz10 h) w515 wy_X2_scale ⟨rfl, rfl⟩ hd_X2_scale ⟨Nat.le_of_ble_eq_true rfl, Nat.le_of_ble_eq_true rfl⟩ (Nat.le_trans hlo (Nat.zero_le _)) (Nat.lt_of_lt_of_le (by decide) hhi) rfl rfl rfl rfl (Nat.le_of_ble_eq_true rfl) dX2_commonFactor_96 (fun σ11 h => ?_)
    refine v_R (fun hRσ11 => ?_)
    exact v_vret C h dX2_commonFactor_99
  obtain ⟨I23, ⟨n24, hnn24⟩, hII23⟩ := h
  have key18 : ∀ (n : Nat) (x12 : Int) (u13 : Nat) (u14 : Nat) (σ15 : SG), I23 n x12 u13 u14 σ15 → inR x12 → PO lo hi u13 → PO lo hi u14 → V p l e rm_X2_commonFactor s m args below meth c D aC B lo hi 8 (MQ below (QV D aC B lo hi Q) args s 0 0 (AB B lo hi)) σ15 31 [(6, .int (iI x12)), (5, .ref (B + u13)), (4, .ref (B + u14)), (0, .ref (B + 33)), (1, .ref (B + q1))] [] := by
    intro n
    induction n using Nat.strongRecOn with
    | ind n ih17 =>
      intro x12 u13 u14 σ15 hn rx12 pu13 pu14
      have h := hII23 n x12 u13 u14 σ15 hn
      refine v_R (fun hRσ15 => ?_)
      refine v_iload C 0 dX2_commonFactor_31 rfl ?_
      refine v_bipush C dX2_commonFactor_33 (by decide) ?_
      refine v_icmp_gt C rx12 (by decide) 76 dX2_commonFactor_35 (by decide) (fun c22 => ?_) (fun c22 => ?_)
      · have h := h.1 c22
        refine v_sub [2, 3, 4] rfl ?_
        exact kJ5 u14 σ15 h pu14
      · have h := h.2 c22
        refine v_aload C 1 dX2_commonFactor_38 rfl ?_
        refine gf4_degree C pu13 w105 dX2_commonFactor_40 ?_
        refine v_if_lt C (hRσ15 u13 1) 76 dX2_commonFactor_43 (by decide) (fun c21 => ?_) (fun c21 => ?_)
        · have h := h.1 c21
          refine v_sub [2, 3, 4] rfl ?_
          exact kJ5 u14 σ15 h pu14
        · have h := h.2 c21
          refine v_aload_n C 3 dX2_commonFactor_46 rfl rfl ?_
          refine v_aload C 2 dX2_commonFactor_47 rfl ?_
          refine v_aload C 1 dX2_commonFactor_49 rfl ?_
          refine v_aload_n C 3 dX2_commonFactor_51 rfl rfl ?_
          refine gf2_quotient C hlo hhi w214 dX2_commonFactor_52 ?_
          refine v_callv (i := 33) (As := [.ref (B + u14), .ref (B + u13), .ref (B + 36)]) (rest := []) C (s_X2_divide hlo hhi pu14 pu13 (PO_full hlo hhi kt36) h) w503 wy_X2_divide ⟨rfl, rfl⟩ hd_X2_divide ⟨Nat.le_of_ble_eq_true rfl, Nat.le_of_ble_eq_true rfl⟩ (Nat.le_trans hlo (Nat.zero_le _)) (Nat.lt_of_lt_of_le (by decide) hhi) rfl rfl rfl rfl (Nat.le_of_ble_eq_true rfl) dX2_commonFactor_55 (fun σ19 h => ?_)
          refine v_R (fun hRσ19 => ?_)
          refine v_aload C 2 dX2_commonFactor_58 rfl ?_
          refine v_astore (lv' := [(7, .ref (B + u14)), (6, .int (iI x12)), (5, .ref (B + u13)), (4, .ref (B + u14)), (0, .ref (B + 33)), (1, .ref (B + q1))]) C dX2_commonFactor_60 (by decide) rfl ?_
          refine v_aload C 2 dX2_commonFactor_62 rfl ?_
          refine v_astore (lv' := [(4, .ref (B + u13)), (7, .ref (B + u14)), (6, .int (iI x12)), (5, .ref (B + u13)), (0, .ref (B + 33)), (1, .ref (B + q1))]) C dX2_commonFactor_64 (by decide) rfl ?_
          refine v_aload C 1 dX2_commonFactor_66 rfl ?_
          refine v_astore (lv' := [(5, .ref (B + u14)), (4, .ref (B + u13)), (7, .ref (B + u14)), (6, .int (iI x12)), (0, .ref (B + 33)), (1, .ref (B + q1))]) C dX2_commonFactor_68 (by decide) rfl ?_
          have k20 := h.1
          have h := h.2
          refine v_iinc (lv' := [(6, .int (iI (x12 + 1))), (5, .ref (B + u14)), (4, .ref (B + u13)), (7, .ref (B + u14)), (0, .ref (B + 33)), (1, .ref (B + q1))]) C 3 dX2_commonFactor_70 rfl (by decide) rfl ?_
          refine v_goto C 31 dX2_commonFactor_73 (by decide) ?_
          obtain ⟨m9, hm9, h⟩ := h
          refine v_sub [0, 1, 2, 4, 5] rfl ?_
          exact ih17 m9 hm9 (x12 + 1) u14 u13 σ19 h k20 pu14 pu13
  refine v_sub [0, 1, 2, 3, 4] rfl ?_
  exact key18 n24 0 42 40 σ2 hnn24 (by decide) (PO_full hlo hhi kt42) (PO_full hlo hhi kt40)
-- SplitTowers$Field.multiply(LSplitTowers$Poly;LSplitTowers$Poly;LSplitTowers$Poly;)V
def wp_X2_multiply (σ : SG) (q1 : Nat) (q2 : Nat) (q3 : Nat) (Q : SG → Prop) : Prop :=
  wp_X4_clear σ 34 (fun (σ1 : SG) => Lp1 (fun (rec4 : Int → SG → Prop) (x2 : Int) (σ3 : SG) => (((σ3 q2 1) < x2 → wp_X4_copy σ3 q1 34 (fun (σ7 : SG) => Q σ7)) ∧ (¬ (σ3 q2 1) < x2 → wp_X4_at σ3 q2 x2 (fun (z9 : Int) (σ8 : SG) => wp_X4_addMultiple σ8 34 z9 q3 x2 (σ8 1 0) (fun (σ10 : SG) => (inR (x2 + 1) ∧ rec4 (x2 + 1) σ10)))))) 0 σ1)
def rm_X2_multiply : Room := { frames := 2, cells := 0, slots := 0, locals := 48 }
theorem wy_X2_multiply : Cond.instanceMethod yX2_multiply ∈ WS ∧ Cond.selects "SplitTowers$Field" yX2_multiply yX2_multiply ∈ WS ∧ Cond.initialized "SplitTowers$Field" ∈ WS ∧ Cond.code yX2_multiply prog_4_method_4_code 5 none ∈ WS := ⟨w612, w613, w73, w614⟩
theorem hd_X2_multiply : yX2_multiply.cls = "SplitTowers$Field" ∧ yX2_multiply.cls ≠ "java/lang/invoke/MethodHandle" ∧ yX2_multiply.cls ≠ "java/lang/invoke/VarHandle" ∧ (parseMethodDescriptor yX2_multiply.desc).map (fun d => d.parameters.length) = some 3 := by decide +kernel
set_option maxHeartbeats 4000000 in
set_option maxRecDepth 100000 in
theorem s_X2_multiply {l : Launch} {D : va_G} {aC : Nat → ClassId} {B lo hi : Nat} {σ : SG} {q1 : Nat} {q2 : Nat} {q3 : Nat} {Q : SG → Prop} (hlo : lo ≤ 0) (hhi : 304 ≤ hi) (p1 : PO lo hi q1) (p2 : PO lo hi q2) (p3 : PO lo hi q3) (h : wp_X2_multiply σ q1 q2 q3 Q) : Met l yX2_multiply (Cond.code yX2_multiply prog_4_method_4_code 5 none :: WS) rm_X2_multiply (va_Pc [.ref (B + 33), .ref (B + q1), .ref (B + q2), .ref (B + q3)] (WP D aC B lo hi σ)) (QV D aC B lo hi Q) 0 0 (AB B lo hi) := by
  refine met_of (by decide +kernel) (by decide +kernel : yX2_multiply.cls = "SplitTowers$Field") (Nat.le_of_ble_eq_true rfl) ?_
  intro p e s m args below meth c C
  unfold wp_X2_multiply at h
  refine v_R (fun hR0 => ?_)
  show V p l e rm_X2_multiply s m args below meth c D aC B lo hi 5 (MQ below (QV D aC B lo hi Q) args s 0 0 (AB B lo hi)) σ 0 [(0, .ref (B + 33)), (1, .ref (B + q1)), (2, .ref (B + q2)), (3, .ref (B + q3))] []
  refine v_aload_n C 0 dX2_multiply_0 rfl rfl ?_
  refine gf2_product C hlo hhi w213 dX2_multiply_1 ?_
  refine v_callv (i := 34) (As := []) (rest := []) C (s_X4_clear (PO_full hlo hhi kt34) h) w488 wy_X4_clear ⟨rfl, rfl⟩ hd_X4_clear ⟨Nat.le_of_ble_eq_true rfl, Nat.le_of_ble_eq_true rfl⟩ (PO.lo (PO_full hlo hhi kt34)) (PO.hi (PO_full hlo hhi kt34)) (cel_of ((PO_full hlo hhi kt34)).1) rfl rfl rfl (Nat.le_of_ble_eq_true rfl) dX2_multiply_4 (fun σ1 h => ?_)
  refine v_R (fun hRσ1 => ?_)
  refine v_iconst C dX2_multiply_7 ?_
  refine v_istore (lv' := [(4, .int (iI 0)), (0, .ref (B + 33)), (1, .ref (B + q1)), (2, .ref (B + q2)), (3, .ref (B + q3))]) C dX2_multiply_8 (by decide) rfl ?_
  obtain ⟨I13, ⟨n14, hnn14⟩, hII13⟩ := h
  have key6 : ∀ (n : Nat) (x2 : Int) (σ3 : SG), I13 n x2 σ3 → inR x2 → V p l e rm_X2_multiply s m args below meth c D aC B lo hi 5 (MQ below (QV D aC B lo hi Q) args s 0 0 (AB B lo hi)) σ3 10 [(4, .int (iI x2)), (0, .ref (B + 33)), (1, .ref (B + q1)), (2, .ref (B + q2)), (3, .ref (B + q3))] [] := by
    intro n
    induction n using Nat.strongRecOn with
    | ind n ih5 =>
      intro x2 σ3 hn rx2
      have h := hII13 n x2 σ3 hn
      refine v_R (fun hRσ3 => ?_)
      refine v_iload C 0 dX2_multiply_10 rfl ?_
      refine v_aload_n C 3 dX2_multiply_12 rfl rfl ?_
      refine gf4_degree C p2 w105 dX2_multiply_13 ?_
      refine v_icmp_gt C rx2 (hRσ3 q2 1) 48 dX2_multiply_16 (by decide) (fun c12 => ?_) (fun c12 => ?_)
      · have h := h.1 c12
        refine v_aload_n C 2 dX2_multiply_48 rfl rfl ?_
        refine v_aload_n C 1 dX2_multiply_49 rfl rfl ?_
        refine gf2_product C hlo hhi w213 dX2_multiply_50 ?_
        refine v_callv (i := q1) (As := [.ref (B + 34)]) (rest := []) C (s_X4_copy p1 (PO_full hlo hhi kt34) h) w502 wy_X4_copy ⟨rfl, rfl⟩ hd_X4_copy ⟨Nat.le_of_ble_eq_true rfl, Nat.le_of_ble_eq_true rfl⟩ (PO.lo p1) (PO.hi p1) (cel_of (p1).1) rfl rfl rfl (Nat.le_of_ble_eq_true rfl) dX2_multiply_53 (fun σ7 h => ?_)
        refine v_R (fun hRσ7 => ?_)
        exact v_vret C h dX2_multiply_56
      · have h := h.2 c12
        refine v_aload_n C 1 dX2_multiply_19 rfl rfl ?_
        refine gf2_product C hlo hhi w213 dX2_multiply_20 ?_
        refine v_aload_n C 3 dX2_multiply_23 rfl rfl ?_
        refine v_iload C 0 dX2_multiply_24 rfl ?_
        refine v_calli (i := q2) (As := [.int (iI x2)]) (rest := [.ref (B + 34)]) C (s_X4_at p2 rx2 h) w489 wy_X4_at ⟨rfl, rfl⟩ hd_X4_at ⟨Nat.le_of_ble_eq_true rfl, Nat.le_of_ble_eq_true rfl⟩ (PO.lo p2) (PO.hi p2) (cel_of (p2).1) rfl rfl rfl (Nat.le_of_ble_eq_true rfl) dX2_multiply_26 (fun z9 σ8 rz9 h => ?_)
        refine v_R (fun hRσ8 => ?_)
        refine v_aload_n C 4 dX2_multiply_29 rfl rfl ?_
        refine v_iload C 0 dX2_multiply_30 rfl ?_
        refine v_aload_n C 1 dX2_multiply_32 rfl rfl ?_
        refine gf2_state C hlo hhi w212 dX2_multiply_33 ?_
        refine gf7_prime C (SO_full hlo hhi kt1) w152 dX2_multiply_36 ?_
        refine v_callv (i := 34) (As := [.int (iI z9), .ref (B + q3), .int (iI x2), .int (iI (σ8 1 0))]) (rest := []) C (s_X4_addMultiple (PO_full hlo hhi kt34) rz9 p3 rx2 (hRσ8 1 0) h) w511 wy_X4_addMultiple ⟨rfl, rfl⟩ hd_X4_addMultiple ⟨Nat.le_of_ble_eq_true rfl, Nat.le_of_ble_eq_true rfl⟩ (PO.lo (PO_full hlo hhi kt34)) (PO.hi (PO_full hlo hhi kt34)) (cel_of ((PO_full hlo hhi kt34)).1) rfl rfl rfl (Nat.le_of_ble_eq_true rfl) dX2_multiply_39 (fun σ10 h => ?_)
        refine v_R (fun hRσ10 => ?_)
        have k11 := h.1
        have h := h.2
        refine v_iinc (lv' := [(4, .int (iI (x2 + 1))), (0, .ref (B + 33)), (1, .ref (B + q1)), (2, .ref (B + q2)), (3, .ref (B + q3))]) C 0 dX2_multiply_42 rfl (by decide) rfl ?_
        refine v_goto C 10 dX2_multiply_45 (by decide) ?_
        obtain ⟨m9, hm9, h⟩ := h
        exact ih5 m9 hm9 (x2 + 1) σ10 h k11
  exact key6 n14 0 σ1 hnn14 (by decide)
-- SplitTowers$Field.divideWhole(LSplitTowers$Poly;LSplitTowers$Poly;LSplitTowers$Poly;)V
def wp_X2_divideWhole (σ : SG) (q1 : Nat) (q2 : Nat) (q3 : Nat) (Q : SG → Prop) : Prop :=
  wp_X4_copy σ 38 q2 (fun (σ1 : SG) => wp_X2_divide σ1 38 q3 36 (fun (σ2 : SG) => wp_X4_copy σ2 q1 36 (fun (σ3 : SG) => Q σ3)))
def rm_X2_divideWhole : Room := { frames := 3, cells := 0, slots := 0, locals := 74 }
theorem wy_X2_divideWhole : Cond.instanceMethod yX2_divideWhole ∈ WS ∧ Cond.selects "SplitTowers$Field" yX2_divideWhole yX2_divideWhole ∈ WS ∧ Cond.initialized "SplitTowers$Field" ∈ WS ∧ Cond.code yX2_divideWhole prog_4_method_7_code 4 none ∈ WS := ⟨w592, w593, w73, w594⟩
theorem hd_X2_divideWhole : yX2_divideWhole.cls = "SplitTowers$Field" ∧ yX2_divideWhole.cls ≠ "java/lang/invoke/MethodHandle" ∧ yX2_divideWhole.cls ≠ "java/lang/invoke/VarHandle" ∧ (parseMethodDescriptor yX2_divideWhole.desc).map (fun d => d.parameters.length) = some 3 := by decide +kernel
set_option maxHeartbeats 4000000 in
set_option maxRecDepth 100000 in
theorem s_X2_divideWhole {l : Launch} {D : va_G} {aC : Nat → ClassId} {B lo hi : Nat} {σ : SG} {q1 : Nat} {q2 : Nat} {q3 : Nat} {Q : SG → Prop} (hlo : lo ≤ 0) (hhi : 304 ≤ hi) (p1 : PO lo hi q1) (p2 : PO lo hi q2) (p3 : PO lo hi q3) (h : wp_X2_divideWhole σ q1 q2 q3 Q) : Met l yX2_divideWhole (Cond.code yX2_divideWhole prog_4_method_7_code 4 none :: WS) rm_X2_divideWhole (va_Pc [.ref (B + 33), .ref (B + q1), .ref (B + q2), .ref (B + q3)] (WP D aC B lo hi σ)) (QV D aC B lo hi Q) 0 0 (AB B lo hi) := by
  refine met_of (by decide +kernel) (by decide +kernel : yX2_divideWhole.cls = "SplitTowers$Field") (Nat.le_of_ble_eq_true rfl) ?_
  intro p e s m args below meth c C
  unfold wp_X2_divideWhole at h
  refine v_R (fun hR0 => ?_)
  show V p l e rm_X2_divideWhole s m args below meth c D aC B lo hi 4 (MQ below (QV D aC B lo hi Q) args s 0 0 (AB B lo hi)) σ 0 [(0, .ref (B + 33)), (1, .ref (B + q1)), (2, .ref (B + q2)), (3, .ref (B + q3))] []
  refine v_aload_n C 0 dX2_divideWhole_0 rfl rfl ?_
  refine gf2_dividend C hlo hhi w215 dX2_divideWhole_1 ?_
  refine v_aload_n C 2 dX2_divideWhole_4 rfl rfl ?_
  refine v_callv (i := 38) (As := [.ref (B + q2)]) (rest := []) C (s_X4_copy (PO_full hlo hhi kt38) p2 h) w502 wy_X4_copy ⟨rfl, rfl⟩ hd_X4_copy ⟨Nat.le_of_ble_eq_true rfl, Nat.le_of_ble_eq_true rfl⟩ (PO.lo (PO_full hlo hhi kt38)) (PO.hi (PO_full hlo hhi kt38)) (cel_of ((PO_full hlo hhi kt38)).1) rfl rfl rfl (Nat.le_of_ble_eq_true rfl) dX2_divideWhole_5 (fun σ1 h => ?_)
  refine v_R (fun hRσ1 => ?_)
  refine v_aload_n C 0 dX2_divideWhole_8 rfl rfl ?_
  refine v_aload_n C 0 dX2_divideWhole_9 rfl rfl ?_
  refine gf2_dividend C hlo hhi w215 dX2_divideWhole_10 ?_
  refine v_aload_n C 3 dX2_divideWhole_13 rfl rfl ?_
  refine v_aload_n C 0 dX2_divideWhole_14 rfl rfl ?_
  refine gf2_quotient C hlo hhi w214 dX2_divideWhole_15 ?_
  refine v_callv (i := 33) (As := [.ref (B + 38), .ref (B + q3), .ref (B + 36)]) (rest := []) C (s_X2_divide hlo hhi (PO_full hlo hhi kt38) p3 (PO_full hlo hhi kt36) h) w503 wy_X2_divide ⟨rfl, rfl⟩ hd_X2_divide ⟨Nat.le_of_ble_eq_true rfl, Nat.le_of_ble_eq_true rfl⟩ (Nat.le_trans hlo (Nat.zero_le _)) (Nat.lt_of_lt_of_le (by decide) hhi) rfl rfl rfl rfl (Nat.le_of_ble_eq_true rfl) dX2_divideWhole_18 (fun σ2 h => ?_)
  refine v_R (fun hRσ2 => ?_)
  refine v_aload_n C 1 dX2_divideWhole_21 rfl rfl ?_
  refine v_aload_n C 0 dX2_divideWhole_22 rfl rfl ?_
  refine gf2_quotient C hlo hhi w214 dX2_divideWhole_23 ?_
  refine v_callv (i := q1) (As := [.ref (B + 36)]) (rest := []) C (s_X4_copy p1 (PO_full hlo hhi kt36) h) w502 wy_X4_copy ⟨rfl, rfl⟩ hd_X4_copy ⟨Nat.le_of_ble_eq_true rfl, Nat.le_of_ble_eq_true rfl⟩ (PO.lo p1) (PO.hi p1) (cel_of (p1).1) rfl rfl rfl (Nat.le_of_ble_eq_true rfl) dX2_divideWhole_26 (fun σ3 h => ?_)
  refine v_R (fun hRσ3 => ?_)
  exact v_vret C h dX2_divideWhole_29
-- SplitTowers$Field.reduce(LSplitTowers$Poly;LSplitTowers$Poly;)V
def wp_X2_reduce (σ : SG) (q1 : Nat) (q2 : Nat) (Q : SG → Prop) : Prop :=
  wp_X2_divide σ q1 q2 36 (fun (σ1 : SG) => Q σ1)
def rm_X2_reduce : Room := { frames := 3, cells := 0, slots := 0, locals := 74 }
theorem wy_X2_reduce : Cond.instanceMethod yX2_reduce ∈ WS ∧ Cond.selects "SplitTowers$Field" yX2_reduce yX2_reduce ∈ WS ∧ Cond.initialized "SplitTowers$Field" ∈ WS ∧ Cond.code yX2_reduce prog_4_method_6_code 3 none ∈ WS := ⟨w528, w529, w73, w530⟩
theorem hd_X2_reduce : yX2_reduce.cls = "SplitTowers$Field" ∧ yX2_reduce.cls ≠ "java/lang/invoke/MethodHandle" ∧ yX2_reduce.cls ≠ "java/lang/invoke/VarHandle" ∧ (parseMethodDescriptor yX2_reduce.desc).map (fun d => d.parameters.length) = some 2 := by decide +kernel
set_option maxHeartbeats 4000000 in
set_option maxRecDepth 100000 in
theorem s_X2_reduce {l : Launch} {D : va_G} {aC : Nat → ClassId} {B lo hi : Nat} {σ : SG} {q1 : Nat} {q2 : Nat} {Q : SG → Prop} (hlo : lo ≤ 0) (hhi : 304 ≤ hi) (p1 : PO lo hi q1) (p2 : PO lo hi q2) (h : wp_X2_reduce σ q1 q2 Q) : Met l yX2_reduce (Cond.code yX2_reduce prog_4_method_6_code 3 none :: WS) rm_X2_reduce (va_Pc [.ref (B + 33), .ref (B + q1), .ref (B + q2)] (WP D aC B lo hi σ)) (QV D aC B lo hi Q) 0 0 (AB B lo hi) := by
  refine met_of (by decide +kernel) (by decide +kernel : yX2_reduce.cls = "SplitTowers$Field") (Nat.le_of_ble_eq_true rfl) ?_
  intro p e s m args below meth c C
  unfold wp_X2_reduce at h
  refine v_R (fun hR0 => ?_)
  show V p l e rm_X2_reduce s m args below meth c D aC B lo hi 3 (MQ below (QV D aC B lo hi Q) args s 0 0 (AB B lo hi)) σ 0 [(0, .ref (B + 33)), (1, .ref (B + q1)), (2, .ref (B + q2))] []
  refine v_aload_n C 0 dX2_reduce_0 rfl rfl ?_
  refine v_aload_n C 1 dX2_reduce_1 rfl rfl ?_
  refine v_aload_n C 2 dX2_reduce_2 rfl rfl ?_
  refine v_aload_n C 0 dX2_reduce_3 rfl rfl ?_
  refine gf2_quotient C hlo hhi w214 dX2_reduce_4 ?_
  refine v_callv (i := 33) (As := [.ref (B + q1), .ref (B + q2), .ref (B + 36)]) (rest := []) C (s_X2_divide hlo hhi p1 p2 (PO_full hlo hhi kt36) h) w503 wy_X2_divide ⟨rfl, rfl⟩ hd_X2_divide ⟨Nat.le_of_ble_eq_true rfl, Nat.le_of_ble_eq_true rfl⟩ (Nat.le_trans hlo (Nat.zero_le _)) (Nat.lt_of_lt_of_le (by decide) hhi) rfl rfl rfl rfl (Nat.le_of_ble_eq_true rfl) dX2_reduce_7 (fun σ1 h => ?_)
  refine v_R (fun hRσ1 => ?_)
  exact v_vret C h dX2_reduce_10
-- SplitTowers$Field.hasSquare(LSplitTowers$Poly;)Z
def wp_X2_hasSquare (σ : SG) (q1 : Nat) (Q : Int → SG → Prop) : Prop :=
  wp_X4_clear σ 42 (fun (σ1 : SG) => Lp1 (fun (rec4 : Int → SG → Prop) (x2 : Int) (σ3 : SG) => (((σ3 q1 1) < x2 → wp_X2_commonFactor σ3 38 q1 42 (fun (σ7 : SG) => (((σ7 38 1) ≤ 0 → Q 0 σ7) ∧ (¬ (σ7 38 1) ≤ 0 → Q 1 σ7)))) ∧ (¬ (σ3 q1 1) < x2 → (inR (x2 - 1) ∧ wp_X4_at σ3 q1 x2 (fun (z11 : Int) (σ10 : SG) => (inR (x2 * z11) ∧ wp_X7_reduced σ10 1 (x2 * z11) (fun (z14 : Int) (σ13 : SG) => wp_X4_set σ13 42 (x2 - 1) z14 (fun (σ15 : SG) => (inR (x2 + 1) ∧ rec4 (x2 + 1) σ15))))))))) 1 σ1)
def rm_X2_hasSquare : Room := { frames := 4, cells := 0, slots := 0, locals := 101 }
theorem wy_X2_hasSquare : Cond.instanceMethod yX2_hasSquare ∈ WS ∧ Cond.selects "SplitTowers$Field" yX2_hasSquare yX2_hasSquare ∈ WS ∧ Cond.initialized "SplitTowers$Field" ∈ WS ∧ Cond.code yX2_hasSquare prog_4_method_10_code 3 (some .boolean) ∈ WS := ⟨w485, w486, w73, w487⟩
theorem hd_X2_hasSquare : yX2_hasSquare.cls = "SplitTowers$Field" ∧ yX2_hasSquare.cls ≠ "java/lang/invoke/MethodHandle" ∧ yX2_hasSquare.cls ≠ "java/lang/invoke/VarHandle" ∧ (parseMethodDescriptor yX2_hasSquare.desc).map (fun d => d.parameters.length) = some 1 := by decide +kernel
set_option maxHeartbeats 4000000 in
set_option maxRecDepth 100000 in
theorem s_X2_hasSquare {l : Launch} {D : va_G} {aC : Nat → ClassId} {B lo hi : Nat} {σ : SG} {q1 : Nat} {Q : Int → SG → Prop} (hlo : lo ≤ 0) (hhi : 304 ≤ hi) (p1 : PO lo hi q1) (h : wp_X2_hasSquare σ q1 Q) : Met l yX2_hasSquare (Cond.code yX2_hasSquare prog_4_method_10_code 3 (some .boolean) :: WS) rm_X2_hasSquare (va_Pc [.ref (B + 33), .ref (B + q1)] (WP D aC B lo hi σ)) (QI D aC B lo hi Q) 0 0 (AB B lo hi) := by
  refine met_of (by decide +kernel) (by decide +kernel : yX2_hasSquare.cls = "SplitTowers$Field") (Nat.le_of_ble_eq_true rfl) ?_
  intro p e s m args below meth c C
  unfold wp_X2_hasSquare at h
  refine v_R (fun hR0 => ?_)
  show V p l e rm_X2_hasSquare s m args below meth c D aC B lo hi 3 (MQ below (QI D aC B lo hi Q) args s 0 0 (AB B lo hi)) σ 0 [(0, .ref (B + 33)), (1, .ref (B + q1))] []
  refine v_aload_n C 0 dX2_hasSquare_0 rfl rfl ?_
  refine gf2_right C hlo hhi w217 dX2_hasSquare_1 ?_
  refine v_callv (i := 42) (As := []) (rest := []) C (s_X4_clear (PO_full hlo hhi kt42) h) w488 wy_X4_clear ⟨rfl, rfl⟩ hd_X4_clear ⟨Nat.le_of_ble_eq_true rfl, Nat.le_of_ble_eq_true rfl⟩ (PO.lo (PO_full hlo hhi kt42)) (PO.hi (PO_full hlo hhi kt42)) (cel_of ((PO_full hlo hhi kt42)).1) rfl rfl rfl (Nat.le_of_ble_eq_true rfl) dX2_hasSquare_4 (fun σ1 h => ?_)
  refine v_R (fun hRσ1 => ?_)
  refine v_iconst C dX2_hasSquare_7 ?_
  refine v_istore_n (lv' := [(2, .int (iI 1)), (0, .ref (B + 33)), (1, .ref (B + q1))]) C dX2_hasSquare_8 rfl (by decide) rfl ?_
  obtain ⟨I18, ⟨n19, hnn19⟩, hII18⟩ := h
  have key6 : ∀ (n : Nat) (x2 : Int) (σ3 : SG), I18 n x2 σ3 → inR x2 → V p l e rm_X2_hasSquare s m args below meth c D aC B lo hi 3 (MQ below (QI D aC B lo hi Q) args s 0 0 (AB B lo hi)) σ3 9 [(2, .int (iI x2)), (0, .ref (B + 33)), (1, .ref (B + q1))] [] := by
    intro n
    induction n using Nat.strongRecOn with
    | ind n ih5 =>
      intro x2 σ3 hn rx2
      have h := hII18 n x2 σ3 hn
      refine v_R (fun hRσ3 => ?_)
      refine v_iload_n C 0 dX2_hasSquare_9 rfl rfl ?_
      refine v_aload_n C 2 dX2_hasSquare_10 rfl rfl ?_
      refine gf4_degree C p1 w105 dX2_hasSquare_11 ?_
      refine v_icmp_gt C rx2 (hRσ3 q1 1) 47 dX2_hasSquare_14 (by decide) (fun c17 => ?_) (fun c17 => ?_)
      · have h := h.1 c17
        refine v_aload_n C 1 dX2_hasSquare_47 rfl rfl ?_
        refine v_aload_n C 1 dX2_hasSquare_48 rfl rfl ?_
        refine gf2_dividend C hlo hhi w215 dX2_hasSquare_49 ?_
        refine v_aload_n C 2 dX2_hasSquare_52 rfl rfl ?_
        refine v_aload_n C 1 dX2_hasSquare_53 rfl rfl ?_
        refine gf2_right C hlo hhi w217 dX2_hasSquare_54 ?_
        refine v_callv (i := 33) (As := [.ref (B + 38), .ref (B + q1), .ref (B + 42)]) (rest := []) C (s_X2_commonFactor hlo hhi (PO_full hlo hhi kt38) p1 (PO_full hlo hhi kt42) h) w498 wy_X2_commonFactor ⟨rfl, rfl⟩ hd_X2_commonFactor ⟨Nat.le_of_ble_eq_true rfl, Nat.le_of_ble_eq_true rfl⟩ (Nat.le_trans hlo (Nat.zero_le _)) (Nat.lt_of_lt_of_le (by decide) hhi) rfl rfl rfl rfl (Nat.le_of_ble_eq_true rfl) dX2_hasSquare_57 (fun σ7 h => ?_)
        refine v_R (fun hRσ7 => ?_)
        refine v_aload_n C 1 dX2_hasSquare_60 rfl rfl ?_
        refine gf2_dividend C hlo hhi w215 dX2_hasSquare_61 ?_
        refine gf4_degree C (PO_full hlo hhi kt38) w105 dX2_hasSquare_64 ?_
        refine v_if_le C (hRσ7 38 1) 74 dX2_hasSquare_67 (by decide) (fun c8 => ?_) (fun c8 => ?_)
        · have h := h.1 c8
          refine v_iconst C dX2_hasSquare_74 ?_
          exact v_zret C (by decide) h dX2_hasSquare_75
        · have h := h.2 c8
          refine v_iconst C dX2_hasSquare_70 ?_
          refine v_goto C 75 dX2_hasSquare_71 (by decide) ?_
          exact v_zret C (by decide) h dX2_hasSquare_75
      · have h := h.2 c17
        refine v_aload_n C 1 dX2_hasSquare_17 rfl rfl ?_
        refine gf2_right C hlo hhi w217 dX2_hasSquare_18 ?_
        refine v_iload_n C 0 dX2_hasSquare_21 rfl rfl ?_
        refine v_iconst C dX2_hasSquare_22 ?_
        have k9 := h.1
        have h := h.2
        refine v_isub C dX2_hasSquare_23 ?_
        refine v_aload_n C 1 dX2_hasSquare_24 rfl rfl ?_
        refine gf2_state C hlo hhi w212 dX2_hasSquare_25 ?_
        refine v_iload_n C 0 dX2_hasSquare_28 rfl rfl ?_
        refine v_aload_n C 2 dX2_hasSquare_29 rfl rfl ?_
        refine v_iload_n C 0 dX2_hasSquare_30 rfl rfl ?_
        refine v_calli (i := q1) (As := [.int (iI x2)]) (rest := [.int (iI x2), .ref (B + 1), .int (iI (x2 - 1)), .ref (B + 42)]) C (s_X4_at p1 rx2 h) w489 wy_X4_at ⟨rfl, rfl⟩ hd_X4_at ⟨Nat.le_of_ble_eq_true rfl, Nat.le_of_ble_eq_true rfl⟩ (PO.lo p1) (PO.hi p1) (cel_of (p1).1) rfl rfl rfl (Nat.le_of_ble_eq_true rfl) dX2_hasSquare_31 (fun z11 σ10 rz11 h => ?_)
        refine v_R (fun hRσ10 => ?_)
        have k12 := h.1
        have h := h.2
        refine v_imul C dX2_hasSquare_34 ?_
        refine v_calli (i := 1) (As := [.int (iI (x2 * z11))]) (rest := [.int (iI (x2 - 1)), .ref (B + 42)]) C (s_X7_reduced (SO_full hlo hhi kt1) k12 h) w493 wy_X7_reduced ⟨rfl, rfl⟩ hd_X7_reduced ⟨Nat.le_of_ble_eq_true rfl, Nat.le_of_ble_eq_true rfl⟩ (SO.lo (SO_full hlo hhi kt1)) (SO.hi (SO_full hlo hhi kt1)) (cel_of ((SO_full hlo hhi kt1)).1) rfl rfl rfl (Nat.le_of_ble_eq_true rfl) dX2_hasSquare_35 (fun z14 σ13 rz14 h => ?_)
        refine v_R (fun hRσ13 => ?_)
        refine v_callv (i := 42) (As := [.int (iI (x2 - 1)), .int (iI z14)]) (rest := []) C (s_X4_set (PO_full hlo hhi kt42) k9 rz14 h) w497 wy_X4_set ⟨rfl, rfl⟩ hd_X4_set ⟨Nat.le_of_ble_eq_true rfl, Nat.le_of_ble_eq_true rfl⟩ (PO.lo (PO_full hlo hhi kt42)) (PO.hi (PO_full hlo hhi kt42)) (cel_of ((PO_full hlo hhi kt42)).1) rfl rfl rfl (Nat.le_of_ble_eq_true rfl) dX2_hasSquare_38 (fun σ15 h => ?_)
        refine v_R (fun hRσ15 => ?_)
        have k16 := h.1
        have h := h.2
        refine v_iinc (lv' := [(2, .int (iI (x2 + 1))), (0, .ref (B + 33)), (1, .ref (B + q1))]) C 0 dX2_hasSquare_41 rfl (by decide) rfl ?_
        refine v_goto C 9 dX2_hasSquare_44 (by decide) ?_
        obtain ⟨m9, hm9, h⟩ := h
        exact ih5 m9 hm9 (x2 + 1) σ15 h k16
  exact key6 n19 1 σ1 hnn19 (by decide)
-- SplitTowers$Field.invert(LSplitTowers$Poly;LSplitTowers$Poly;LSplitTowers$Poly;)V
def wp_X2_invert (σ : SG) (q1 : Nat) (q2 : Nat) (q3 : Nat) (Q : SG → Prop) : Prop :=
  wp_X4_copy σ 40 q3 (fun (σ1 : SG) => wp_X4_copy σ1 42 q2 (fun (σ2 : SG) => wp_X4_clear σ2 44 (fun (σ3 : SG) => wp_X4_becomeConstant σ3 46 1 (fun (σ4 : SG) => Jn2 (fun (u5 : Nat) (u6 : Nat) (σ7 : SG) => wp_X4_copy σ7 q1 u5 (fun (σ9 : SG) => wp_X4_at σ9 u6 0 (fun (z11 : Int) (σ10 : SG) => wp_X2_inverseOf σ10 z11 (fun (z13 : Int) (σ12 : SG) => wp_X2_scale σ12 q1 z13 (fun (σ14 : SG) => Q σ14))))) (fun J8 => Lp5 (fun (rec21 : Int → Nat → Nat → Nat → Nat → SG → Prop) (x15 : Int) (u16 : Nat) (u17 : Nat) (u18 : Nat) (u19 : Nat) (σ20 : SG) => ((13 < x15 → J8 u17 u19 σ20) ∧ (¬ 13 < x15 → (((σ20 u18 1) < 0 → J8 u17 u19 σ20) ∧ (¬ (σ20 u18 1) < 0 → wp_X2_divide σ20 u19 u18 36 (fun (σ24 : SG) => wp_X2_multiply σ24 36 36 u16 (fun (σ25 : SG) => wp_X4_addMultiple σ25 u17 (-1) 36 0 (σ25 1 0) (fun (σ26 : SG) => (inR (x15 + 1) ∧ rec21 (x15 + 1) u17 u16 u19 u18 σ26))))))))) 0 46 44 42 40 σ4)))))
def rm_X2_invert : Room := { frames := 3, cells := 0, slots := 0, locals := 74 }
theorem wy_X2_invert : Cond.instanceMethod yX2_invert ∈ WS ∧ Cond.selects "SplitTowers$Field" yX2_invert yX2_invert ∈ WS ∧ Cond.initialized "SplitTowers$Field" ∈ WS ∧ Cond.code yX2_invert prog_4_method_9_code 11 none ∈ WS := ⟨w617, w618, w73, w619⟩
theorem hd_X2_invert : yX2_invert.cls = "SplitTowers$Field" ∧ yX2_invert.cls ≠ "java/lang/invoke/MethodHandle" ∧ yX2_invert.cls ≠ "java/lang/invoke/VarHandle" ∧ (parseMethodDescriptor yX2_invert.desc).map (fun d => d.parameters.length) = some 3 := by decide +kernel
set_option maxHeartbeats 4000000 in
set_option maxRecDepth 100000 in
theorem s_X2_invert {l : Launch} {D : va_G} {aC : Nat → ClassId} {B lo hi : Nat} {σ : SG} {q1 : Nat} {q2 : Nat} {q3 : Nat} {Q : SG → Prop} (hlo : lo ≤ 0) (hhi : 304 ≤ hi) (p1 : PO lo hi q1) (p2 : PO lo hi q2) (p3 : PO lo hi q3) (h : wp_X2_invert σ q1 q2 q3 Q) : Met l yX2_invert (Cond.code yX2_invert prog_4_method_9_code 11 none :: WS) rm_X2_invert (va_Pc [.ref (B + 33), .ref (B + q1), .ref (B + q2), .ref (B + q3)] (WP D aC B lo hi σ)) (QV D aC B lo hi Q) 0 0 (AB B lo hi) := by
  refine met_of (by decide +kernel) (by decide +kernel : yX2_invert.cls = "SplitTowers$Field") (Nat.le_of_ble_eq_true rfl) ?_
  intro p e s m args below meth c C
  unfold wp_X2_invert at h
  refine v_R (fun hR0 => ?_)
  show V p l e rm_X2_invert s m args below meth c D aC B lo hi 11 (MQ below (QV D aC B lo hi Q) args s 0 0 (AB B lo hi)) σ 0 [(0, .ref (B + 33)), (1, .ref (B + q1)), (2, .ref (B + q2)), (3, .ref (B + q3))] []
  refine v_aload_n C 0 dX2_invert_0 rfl rfl ?_
  refine gf2_left C hlo hhi w216 dX2_invert_1 ?_
  refine v_aload_n C 3 dX2_invert_4 rfl rfl ?_
  refine v_callv (i := 40) (As := [.ref (B + q3)]) (rest := []) C (s_X4_copy (PO_full hlo hhi kt40) p3 h) w502 wy_X4_copy ⟨rfl, rfl⟩ hd_X4_copy ⟨Nat.le_of_ble_eq_true rfl, Nat.le_of_ble_eq_true rfl⟩ (PO.lo (PO_full hlo hhi kt40)) (PO.hi (PO_full hlo hhi kt40)) (cel_of ((PO_full hlo hhi kt40)).1) rfl rfl rfl (Nat.le_of_ble_eq_true rfl) dX2_invert_5 (fun σ1 h => ?_)
  refine v_R (fun hRσ1 => ?_)
  refine v_aload_n C 0 dX2_invert_8 rfl rfl ?_
  refine gf2_right C hlo hhi w217 dX2_invert_9 ?_
  refine v_aload_n C 2 dX2_invert_12 rfl rfl ?_
  refine v_callv (i := 42) (As := [.ref (B + q2)]) (rest := []) C (s_X4_copy (PO_full hlo hhi kt42) p2 h) w502 wy_X4_copy ⟨rfl, rfl⟩ hd_X4_copy ⟨Nat.le_of_ble_eq_true rfl, Nat.le_of_ble_eq_true rfl⟩ (PO.lo (PO_full hlo hhi kt42)) (PO.hi (PO_full hlo hhi kt42)) (cel_of ((PO_full hlo hhi kt42)).1) rfl rfl rfl (Nat.le_of_ble_eq_true rfl) dX2_invert_13 (fun σ2 h => ?_)
  refine v_R (fun hRσ2 => ?_)
  refine v_aload_n C 0 dX2_invert_16 rfl rfl ?_
  refine gf2_leftFactor C hlo hhi w218 dX2_invert_17 ?_
  refine v_callv (i := 44) (As := []) (rest := []) C (s_X4_clear (PO_full hlo hhi kt44) h) w488 wy_X4_clear ⟨rfl, rfl⟩ hd_X4_clear ⟨Nat.le_of_ble_eq_true rfl, Nat.le_of_ble_eq_true rfl⟩ (PO.lo (PO_full hlo hhi kt44)) (PO.hi (PO_full hlo hhi kt44)) (cel_of ((PO_full hlo hhi kt44)).1) rfl rfl rfl (Nat.le_of_ble_eq_true rfl) dX2_invert_20 (fun σ3 h => ?_)
  refine v_R (fun hRσ3 => ?_)
  refine v_aload_n C 0 dX2_invert_23 rfl rfl ?_
  refine gf2_rightFactor C hlo hhi w219 dX2_invert_24 ?_
  refine v_iconst C dX2_invert_27 ?_
  refine v_callv (i := 46) (As := [.int (iI 1)]) (rest := []) C (s_X4_becomeConstant (PO_full hlo hhi kt46) (by decide) h) w620 wy_X4_becomeConstant ⟨rfl, rfl⟩ hd_X4_becomeConstant ⟨Nat.le_of_ble_eq_true rfl, Nat.le_of_ble_eq_true rfl⟩ (PO.lo (PO_full hlo hhi kt46)) (PO.hi (PO_full hlo hhi kt46)) (cel_of ((PO_full hlo hhi kt46)).1) rfl rfl rfl (Nat.le_of_ble_eq_true rfl) dX2_invert_28 (fun σ4 h => ?_)
  refine v_R (fun hRσ4 => ?_)
  refine v_aload_n C 0 dX2_invert_31 rfl rfl ?_
  refine gf2_left C hlo hhi w216 dX2_invert_32 ?_
  refine v_astore (lv' := [(4, .ref (B + 40)), (0, .ref (B + 33)), (1, .ref (B + q1)), (2, .ref (B + q2)), (3, .ref (B + q3))]) C dX2_invert_35 (by decide) rfl ?_
  refine v_aload_n C 1 dX2_invert_37 rfl rfl ?_
  refine gf2_right C hlo hhi w217 dX2_invert_38 ?_
  refine v_astore (lv' := [(5, .ref (B + 42)), (4, .ref (B + 40)), (0, .ref (B + 33)), (1, .ref (B + q1)), (2, .ref (B + q2)), (3, .ref (B + q3))]) C dX2_invert_41 (by decide) rfl ?_
  refine v_aload_n C 2 dX2_invert_43 rfl rfl ?_
  refine gf2_leftFactor C hlo hhi w218 dX2_invert_44 ?_
  refine v_astore (lv' := [(6, .ref (B + 44)), (5, .ref (B + 42)), (4, .ref (B + 40)), (0, .ref (B + 33)), (1, .ref (B + q1)), (2, .ref (B + q2)), (3, .ref (B + q3))]) C dX2_invert_47 (by decide) rfl ?_
  refine v_aload_n C 3 dX2_invert_49 rfl rfl ?_
  refine gf2_rightFactor C hlo hhi w219 dX2_invert_50 ?_
  refine v_astore (lv' := [(7, .ref (B + 46)), (6, .ref (B + 44)), (5, .ref (B + 42)), (4, .ref (B + 40)), (0, .ref (B + 33)), (1, .ref (B + q1)), (2, .ref (B + q2)), (3, .ref (B + q3))]) C dX2_invert_53 (by decide) rfl ?_
  refine v_iconst C dX2_invert_55 ?_
  refine v_istore (lv' := [(8, .int (iI 0)), (7, .ref (B + 46)), (6, .ref (B + 44)), (5, .ref (B + 42)), (4, .ref (B + 40)), (0, .ref (B + 33)), (1, .ref (B + q1)), (2, .ref (B + q2)), (3, .ref (B + q3))]) C dX2_invert_56 (by decide) rfl ?_
  obtain ⟨J8, hJ8, h⟩ := h
  have kJ8 : ∀ (u5 : Nat) (u6 : Nat) (σ7 : SG), J8 u5 u6 σ7 → PO lo hi u5 → PO lo hi u6 → V p l e rm_X2_invert s m args below meth c D aC B lo hi 11 (MQ below (QV D aC B lo hi Q) args s 0 0 (AB B lo hi)) σ7 147 [(6, .ref (B + u5)), (4, .ref (B + u6)), (0, .ref (B + 33)), (1, .ref (B + q1))] [] := by
    intro u5 u6 σ7 hj pu5 pu6
    have h := hJ8 u5 u6 σ7 hj
    refine v_R (fun hRσ7 => ?_)
    refine v_aload_n C 3 dX2_invert_147 rfl rfl ?_
    refine v_aload C 0 dX2_invert_148 rfl ?_
    refine v_callv (i := q1) (As := [.ref (B + u5)]) (rest := []) C (s_X4_copy p1 pu5 h) w502 wy_X4_copy ⟨rfl, rfl⟩ hd_X4_copy ⟨Nat.le_of_ble_eq_true rfl, Nat.le_of_ble_eq_true rfl⟩ (PO.lo p1) (PO.hi p1) (cel_of (p1).1) rfl rfl rfl (Nat.le_of_ble_eq_true rfl) dX2_invert_150 (fun σ9 h => ?_)
    refine v_R (fun hRσ9 => ?_)
    refine v_aload_n C 2 dX2_invert_153 rfl rfl ?_
    refine v_aload_n C 3 dX2_invert_154 rfl rfl ?_
    refine v_aload_n C 2 dX2_invert_155 rfl rfl ?_
    refine v_aload C 1 dX2_invert_156 rfl ?_
    refine v_iconst C dX2_invert_158 ?_
    refine v_calli (i := u6) (As := [.int (iI 0)]) (rest := [.ref (B + 33), .ref (B + q1), .ref (B + 33)]) C (s_X4_at pu6 (by decide) h) w489 wy_X4_at ⟨rfl, rfl⟩ hd_X4_at ⟨Nat.le_of_ble_eq_true rfl, Nat.le_of_ble_eq_true rfl⟩ (PO.lo pu6) (PO.hi pu6) (cel_of (pu6).1) rfl rfl rfl (Nat.le_of_ble_eq_true rfl) dX2_invert_159 (fun z11 σ10 rz11 h => ?_)
    refine v_R (fun hRσ10 => ?_)
    refine v_calli (i := 33) (As := [.int (iI z11)]) (rest := [.ref (B + q1), .ref (B + 33)]) C (s_X2_inverseOf hlo hhi rz11 h) w507 wy_X2_inverseOf ⟨rfl, rfl⟩ hd_X2_inverseOf ⟨Nat.le_of_ble_eq_true rfl, Nat.le_of_ble_eq_true rfl⟩ (Nat.le_trans hlo (Nat.zero_le _)) (Nat.lt_of_lt_of_le (by decide) hhi) rfl rfl rfl rfl (Nat.le_of_ble_eq_true rfl) dX2_invert_162 (fun z13 σ12 rz13 h => ?_)
    refine v_R (fun hRσ12 => ?_)
    refine v_callv (i := 33) (As := [.ref (B + q1), .int (iI z13)]) (rest := []) C (s_X2_scale hlo hhi p1 rz13 h) w515 wy_X2_scale ⟨rfl, rfl⟩ hd_X2_scale ⟨Nat.le_of_ble_eq_true rfl, Nat.le_of_ble_eq_true rfl⟩ (Nat.le_trans hlo (Nat.zero_le _)) (Nat.lt_of_lt_of_le (by decide) hhi) rfl rfl rfl rfl (Nat.le_of_ble_eq_true rfl) dX2_invert_165 (fun σ14 h => ?_)
    refine v_R (fun hRσ14 => ?_)
    exact v_vret C h dX2_invert_168
  obtain ⟨I30, ⟨n31, hnn31⟩, hII30⟩ := h
  have key23 : ∀ (n : Nat) (x15 : Int) (u16 : Nat) (u17 : Nat) (u18 : Nat) (u19 : Nat) (σ20 : SG), I30 n x15 u16 u17 u18 u19 σ20 → inR x15 → PO lo hi u16 → PO lo hi u17 → PO lo hi u18 → PO lo hi u19 → V p l e rm_X2_invert s m args below meth c D aC B lo hi 11 (MQ below (QV D aC B lo hi Q) args s 0 0 (AB B lo hi)) σ20 58 [(8, .int (iI x15)), (7, .ref (B + u16)), (6, .ref (B + u17)), (5, .ref (B + u18)), (4, .ref (B + u19)), (0, .ref (B + 33)), (1, .ref (B + q1))] [] := by
    intro n
    induction n using Nat.strongRecOn with
    | ind n ih22 =>
      intro x15 u16 u17 u18 u19 σ20 hn rx15 pu16 pu17 pu18 pu19
      have h := hII30 n x15 u16 u17 u18 u19 σ20 hn
      refine v_R (fun hRσ20 => ?_)
      refine v_iload C 0 dX2_invert_58 rfl ?_
      refine v_bipush C dX2_invert_60 (by decide) ?_
      refine v_icmp_gt C rx15 (by decide) 147 dX2_invert_62 (by decide) (fun c29 => ?_) (fun c29 => ?_)
      · have h := h.1 c29
        refine v_sub [2, 4, 5, 6] rfl ?_
        exact kJ8 u17 u19 σ20 h pu17 pu19
      · have h := h.2 c29
        refine v_aload C 3 dX2_invert_65 rfl ?_
        refine gf4_degree C pu18 w105 dX2_invert_67 ?_
        refine v_if_lt C (hRσ20 u18 1) 147 dX2_invert_70 (by decide) (fun c28 => ?_) (fun c28 => ?_)
        · have h := h.1 c28
          refine v_sub [2, 4, 5, 6] rfl ?_
          exact kJ8 u17 u19 σ20 h pu17 pu19
        · have h := h.2 c28
          refine v_aload_n C 5 dX2_invert_73 rfl rfl ?_
          refine v_aload C 4 dX2_invert_74 rfl ?_
          refine v_aload C 3 dX2_invert_76 rfl ?_
          refine v_aload_n C 5 dX2_invert_78 rfl rfl ?_
          refine gf2_quotient C hlo hhi w214 dX2_invert_79 ?_
          refine v_callv (i := 33) (As := [.ref (B + u19), .ref (B + u18), .ref (B + 36)]) (rest := []) C (s_X2_divide hlo hhi pu19 pu18 (PO_full hlo hhi kt36) h) w503 wy_X2_divide ⟨rfl, rfl⟩ hd_X2_divide ⟨Nat.le_of_ble_eq_true rfl, Nat.le_of_ble_eq_true rfl⟩ (Nat.le_trans hlo (Nat.zero_le _)) (Nat.lt_of_lt_of_le (by decide) hhi) rfl rfl rfl rfl (Nat.le_of_ble_eq_true rfl) dX2_invert_82 (fun σ24 h => ?_)
          refine v_R (fun hRσ24 => ?_)
          refine v_aload_n C 5 dX2_invert_85 rfl rfl ?_
          refine v_aload_n C 5 dX2_invert_86 rfl rfl ?_
          refine gf2_quotient C hlo hhi w214 dX2_invert_87 ?_
          refine v_aload_n C 5 dX2_invert_90 rfl rfl ?_
          refine gf2_quotient C hlo hhi w214 dX2_invert_91 ?_
          refine v_aload C 1 dX2_invert_94 rfl ?_
          refine v_callv (i := 33) (As := [.ref (B + 36), .ref (B + 36), .ref (B + u16)]) (rest := []) C (s_X2_multiply hlo hhi (PO_full hlo hhi kt36) (PO_full hlo hhi kt36) pu16 h) w621 wy_X2_multiply ⟨rfl, rfl⟩ hd_X2_multiply ⟨Nat.le_of_ble_eq_true rfl, Nat.le_of_ble_eq_true rfl⟩ (Nat.le_trans hlo (Nat.zero_le _)) (Nat.lt_of_lt_of_le (by decide) hhi) rfl rfl rfl rfl (Nat.le_of_ble_eq_true rfl) dX2_invert_96 (fun σ25 h => ?_)
          refine v_R (fun hRσ25 => ?_)
          refine v_aload C 2 dX2_invert_99 rfl ?_
          refine v_iconst C dX2_invert_101 ?_
          refine v_aload_n C 5 dX2_invert_102 rfl rfl ?_
          refine gf2_quotient C hlo hhi w214 dX2_invert_103 ?_
          refine v_iconst C dX2_invert_106 ?_
          refine v_aload_n C 5 dX2_invert_107 rfl rfl ?_
          refine gf2_state C hlo hhi w212 dX2_invert_108 ?_
          refine gf7_prime C (SO_full hlo hhi kt1) w152 dX2_invert_111 ?_
          refine v_callv (i := u17) (As := [.int (iI (-1)), .ref (B + 36), .int (iI 0), .int (iI (σ25 1 0))]) (rest := []) C (s_X4_addMultiple pu17 (by decide) (PO_full hlo hhi kt36) (by decide) (hRσ25 1 0) h) w511 wy_X4_addMultiple ⟨rfl, rfl⟩ hd_X4_addMultiple ⟨Nat.le_of_ble_eq_true rfl, Nat.le_of_ble_eq_true rfl⟩ (PO.lo pu17) (PO.hi pu17) (cel_of (pu17).1) rfl rfl rfl (Nat.le_of_ble_eq_true rfl) dX2_invert_114 (fun σ26 h => ?_)
          refine v_R (fun hRσ26 => ?_)
          refine v_aload C 4 dX2_invert_117 rfl ?_
          refine v_astore (lv' := [(9, .ref (B + u19)), (8, .int (iI x15)), (7, .ref (B + u16)), (6, .ref (B + u17)), (5, .ref (B + u18)), (4, .ref (B + u19)), (0, .ref (B + 33)), (1, .ref (B + q1))]) C dX2_invert_119 (by decide) rfl ?_
          refine v_aload C 4 dX2_invert_121 rfl ?_
          refine v_astore (lv' := [(4, .ref (B + u18)), (9, .ref (B + u19)), (8, .int (iI x15)), (7, .ref (B + u16)), (6, .ref (B + u17)), (5, .ref (B + u18)), (0, .ref (B + 33)), (1, .ref (B + q1))]) C dX2_invert_123 (by decide) rfl ?_
          refine v_aload C 1 dX2_invert_125 rfl ?_
          refine v_astore (lv' := [(5, .ref (B + u19)), (4, .ref (B + u18)), (9, .ref (B + u19)), (8, .int (iI x15)), (7, .ref (B + u16)), (6, .ref (B + u17)), (0, .ref (B + 33)), (1, .ref (B + q1))]) C dX2_invert_127 (by decide) rfl ?_
          refine v_aload C 5 dX2_invert_129 rfl ?_
          refine v_astore (lv' := [(10, .ref (B + u17)), (5, .ref (B + u19)), (4, .ref (B + u18)), (9, .ref (B + u19)), (8, .int (iI x15)), (7, .ref (B + u16)), (6, .ref (B + u17)), (0, .ref (B + 33)), (1, .ref (B + q1))]) C dX2_invert_131 (by decide) rfl ?_
          refine v_aload C 5 dX2_invert_133 rfl ?_
          refine v_astore (lv' := [(6, .ref (B + u16)), (10, .ref (B + u17)), (5, .ref (B + u19)), (4, .ref (B + u18)), (9, .ref (B + u19)), (8, .int (iI x15)), (7, .ref (B + u16)), (0, .ref (B + 33)), (1, .ref (B + q1))]) C dX2_invert_135 (by decide) rfl ?_
          refine v_aload C 1 dX2_invert_137 rfl ?_
          refine v_astore (lv' := [(7, .ref (B + u17)), (6, .ref (B + u16)), (10, .ref (B + u17)), (5, .ref (B + u19)), (4, .ref (B + u18)), (9, .ref (B + u19)), (8, .int (iI x15)), (0, .ref (B + 33)), (1, .ref (B + q1))]) C dX2_invert_139 (by decide) rfl ?_
          have k27 := h.1
          have h := h.2
          refine v_iinc (lv' := [(8, .int (iI (x15 + 1))), (7, .ref (B + u17)), (6, .ref (B + u16)), (10, .ref (B + u17)), (5, .ref (B + u19)), (4, .ref (B + u18)), (9, .ref (B + u19)), (0, .ref (B + 33)), (1, .ref (B + q1))]) C 6 dX2_invert_141 rfl (by decide) rfl ?_
          refine v_goto C 58 dX2_invert_144 (by decide) ?_
          obtain ⟨m9, hm9, h⟩ := h
          refine v_sub [0, 1, 2, 4, 5, 7, 8] rfl ?_
          exact ih22 m9 hm9 (x15 + 1) u17 u16 u19 u18 σ26 h k27 pu17 pu16 pu19 pu18
  refine v_sub [0, 1, 2, 3, 4, 5, 6] rfl ?_
  exact key23 n31 0 46 44 42 40 σ4 hnn31 (by decide) (PO_full hlo hhi kt46) (PO_full hlo hhi kt44) (PO_full hlo hhi kt42) (PO_full hlo hhi kt40)
