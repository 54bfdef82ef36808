-- SplitTowers$Ring.becomeVariable(LSplitTowers$Poly;)V
def wp_X6_becomeVariable (σ : SG) (q1 : Nat) (Q : SG → Prop) : Prop :=
  wp_X4_becomeVariable σ q1 (fun (σ1 : SG) => wp_X2_reduce σ1 q1 2 (fun (σ2 : SG) => Q σ2))
def rm_X6_becomeVariable : Room := { frames := 4, cells := 0, slots := 0, locals := 96 }
theorem wy_X6_becomeVariable : Cond.instanceMethod yX6_becomeVariable ∈ WS ∧ Cond.selects "SplitTowers$Ring" yX6_becomeVariable yX6_becomeVariable ∈ WS ∧ Cond.initialized "SplitTowers$Ring" ∈ WS ∧ Cond.code yX6_becomeVariable prog_8_method_2_code 2 none ∈ WS := ⟨w650, w651, w74, w652⟩
theorem hd_X6_becomeVariable : yX6_becomeVariable.cls = "SplitTowers$Ring" ∧ yX6_becomeVariable.cls ≠ "java/lang/invoke/MethodHandle" ∧ yX6_becomeVariable.cls ≠ "java/lang/invoke/VarHandle" ∧ (parseMethodDescriptor yX6_becomeVariable.desc).map (fun d => d.parameters.length) = some 1 := by decide +kernel
set_option maxHeartbeats 4000000 in
set_option maxRecDepth 100000 in
theorem s_X6_becomeVariable {l : Launch} {D : va_G} {aC : Nat → ClassId} {B lo hi : Nat} {σ : SG} {q1 : Nat} {Q : SG → Prop} (hlo : lo ≤ 0) (hhi : 304 ≤ hi) (p1 : PO lo hi q1) (h : wp_X6_becomeVariable σ q1 Q) : Met l yX6_becomeVariable (Cond.code yX6_becomeVariable prog_8_method_2_code 2 none :: WS) rm_X6_becomeVariable (va_Pc [.ref (B + 48), .ref (B + q1)] (WP D aC B lo hi σ)) (QV D aC B lo hi Q) 0 0 (AB B lo hi) := by
  refine met_of (by decide +kernel) (by decide +kernel : yX6_becomeVariable.cls = "SplitTowers$Ring") (Nat.le_of_ble_eq_true rfl) ?_
  intro p e s m args below meth c C
  unfold wp_X6_becomeVariable at h
  refine v_R (fun hR0 => ?_)
  show V p l e rm_X6_becomeVariable s m args below meth c D aC B lo hi 2 (MQ below (QV D aC B lo hi Q) args s 0 0 (AB B lo hi)) σ 0 [(0, .ref (B + 48)), (1, .ref (B + q1))] []
  refine v_aload_n C 1 dX6_becomeVariable_0 rfl rfl ?_
  refine v_callv (i := q1) (As := []) (rest := []) C (s_X4_becomeVariable p1 h) w653 wy_X4_becomeVariable ⟨rfl, rfl⟩ hd_X4_becomeVariable ⟨Nat.le_of_ble_eq_true rfl, Nat.le_of_ble_eq_true rfl⟩ (PO.lo p1) (PO.hi p1) (cel_of (p1).1) rfl rfl rfl (Nat.le_of_ble_eq_true rfl) dX6_becomeVariable_1 (fun σ1 h => ?_)
  refine v_R (fun hRσ1 => ?_)
  refine v_aload_n C 0 dX6_becomeVariable_4 rfl rfl ?_
  refine gf6_field C hlo hhi w246 dX6_becomeVariable_5 ?_
  refine v_aload_n C 1 dX6_becomeVariable_8 rfl rfl ?_
  refine v_aload_n C 0 dX6_becomeVariable_9 rfl rfl ?_
  refine gf6_state C hlo hhi w245 dX6_becomeVariable_10 ?_
  refine gf7_modulus C (SO_full hlo hhi kt1) w159 dX6_becomeVariable_13 ?_
  refine v_callv (i := 33) (As := [.ref (B + q1), .ref (B + 2)]) (rest := []) C (s_X2_reduce hlo hhi p1 (PO_mod (SO_full hlo hhi kt1)) h) w615 wy_X2_reduce ⟨rfl, rfl⟩ hd_X2_reduce ⟨Nat.le_of_ble_eq_true rfl, Nat.le_of_ble_eq_true rfl⟩ (Nat.le_trans hlo (Nat.zero_le _)) (Nat.lt_of_lt_of_le (by decide) hhi) rfl rfl rfl rfl (Nat.le_of_ble_eq_true rfl) dX6_becomeVariable_16 (fun σ2 h => ?_)
  refine v_R (fun hRσ2 => ?_)
  exact v_vret C h dX6_becomeVariable_19
-- SplitTowers$Ring.multiply(LSplitTowers$Poly;LSplitTowers$Poly;LSplitTowers$Poly;)V
def wp_X6_multiply (σ : SG) (q1 : Nat) (q2 : Nat) (q3 : Nat) (Q : SG → Prop) : Prop :=
  wp_X2_multiply σ q1 q2 q3 (fun (σ1 : SG) => wp_X2_divide σ1 q1 2 49 (fun (σ2 : SG) => Q σ2))
def rm_X6_multiply : Room := { frames := 3, cells := 0, slots := 0, locals := 74 }
theorem wy_X6_multiply : Cond.instanceMethod yX6_multiply ∈ WS ∧ Cond.selects "SplitTowers$Ring" yX6_multiply yX6_multiply ∈ WS ∧ Cond.initialized "SplitTowers$Ring" ∈ WS ∧ Cond.code yX6_multiply prog_8_method_4_code 4 none ∈ WS := ⟨w623, w624, w74, w625⟩
theorem hd_X6_multiply : yX6_multiply.cls = "SplitTowers$Ring" ∧ yX6_multiply.cls ≠ "java/lang/invoke/MethodHandle" ∧ yX6_multiply.cls ≠ "java/lang/invoke/VarHandle" ∧ (parseMethodDescriptor yX6_multiply.desc).map (fun d => d.parameters.length) = some 3 := by decide +kernel
set_option maxHeartbeats 4000000 in
set_option maxRecDepth 100000 in
theorem s_X6_multiply {l : Launch} {D : va_G} {aC : Nat → ClassId} {B lo hi : Nat} {σ : SG} {q1 : Nat} {q2 : Nat} {q3 : Nat} {Q : SG → Prop} (hlo : lo ≤ 0) (hhi : 304 ≤ hi) (p1 : PO lo hi q1) (p2 : PO lo hi q2) (p3 : PO lo hi q3) (h : wp_X6_multiply σ q1 q2 q3 Q) : Met l yX6_multiply (Cond.code yX6_multiply prog_8_method_4_code 4 none :: WS) rm_X6_multiply (va_Pc [.ref (B + 48), .ref (B + q1), .ref (B + q2), .ref (B + q3)] (WP D aC B lo hi σ)) (QV D aC B lo hi Q) 0 0 (AB B lo hi) := by
  refine met_of (by decide +kernel) (by decide +kernel : yX6_multiply.cls = "SplitTowers$Ring") (Nat.le_of_ble_eq_true rfl) ?_
  intro p e s m args below meth c C
  unfold wp_X6_multiply at h
  refine v_R (fun hR0 => ?_)
  show V p l e rm_X6_multiply s m args below meth c D aC B lo hi 4 (MQ below (QV D aC B lo hi Q) args s 0 0 (AB B lo hi)) σ 0 [(0, .ref (B + 48)), (1, .ref (B + q1)), (2, .ref (B + q2)), (3, .ref (B + q3))] []
  refine v_aload_n C 0 dX6_multiply_0 rfl rfl ?_
  refine gf6_field C hlo hhi w246 dX6_multiply_1 ?_
  refine v_aload_n C 1 dX6_multiply_4 rfl rfl ?_
  refine v_aload_n C 2 dX6_multiply_5 rfl rfl ?_
  refine v_aload_n C 3 dX6_multiply_6 rfl rfl ?_
  refine v_callv (i := 33) (As := [.ref (B + q1), .ref (B + q2), .ref (B + q3)]) (rest := []) C (s_X2_multiply hlo hhi p1 p2 p3 h) w611 wy_X2_multiply ⟨rfl, rfl⟩ hd_X2_multiply ⟨Nat.le_of_ble_eq_true rfl, Nat.le_of_ble_eq_true rfl⟩ (Nat.le_trans hlo (Nat.zero_le _)) (Nat.lt_of_lt_of_le (by decide) hhi) rfl rfl rfl rfl (Nat.le_of_ble_eq_true rfl) dX6_multiply_7 (fun σ1 h => ?_)
  refine v_R (fun hRσ1 => ?_)
  refine v_aload_n C 0 dX6_multiply_10 rfl rfl ?_
  refine gf6_field C hlo hhi w246 dX6_multiply_11 ?_
  refine v_aload_n C 1 dX6_multiply_14 rfl rfl ?_
  refine v_aload_n C 0 dX6_multiply_15 rfl rfl ?_
  refine gf6_state C hlo hhi w245 dX6_multiply_16 ?_
  refine gf7_modulus C (SO_full hlo hhi kt1) w159 dX6_multiply_19 ?_
  refine v_aload_n C 0 dX6_multiply_22 rfl rfl ?_
  refine gf6_quotient C hlo hhi w247 dX6_multiply_23 ?_
  refine v_callv (i := 33) (As := [.ref (B + q1), .ref (B + 2), .ref (B + 49)]) (rest := []) C (s_X2_divide hlo hhi p1 (PO_mod (SO_full hlo hhi kt1)) (PO_full hlo hhi kt49) h) w626 wy_X2_divide ⟨rfl, rfl⟩ hd_X2_divide ⟨Nat.le_of_ble_eq_true rfl, Nat.le_of_ble_eq_true rfl⟩ (Nat.le_trans hlo (Nat.zero_le _)) (Nat.lt_of_lt_of_le (by decide) hhi) rfl rfl rfl rfl (Nat.le_of_ble_eq_true rfl) dX6_multiply_26 (fun σ2 h => ?_)
  refine v_R (fun hRσ2 => ?_)
  exact v_vret C h dX6_multiply_29
-- SplitTowers$Ring.raise(LSplitTowers$Poly;LSplitTowers$Poly;I)V
def wp_X6_raise (σ : SG) (q1 : Nat) (q2 : Nat) (a3 : Int) (Q : SG → Prop) : Prop :=
  wp_X4_copy σ 51 q2 (fun (σ1 : SG) => wp_X4_becomeConstant σ1 q1 1 (fun (σ2 : SG) => Lp1 (fun (rec5 : Int → SG → Prop) (x3 : Int) (σ4 : SG) => ((x3 ≤ 0 → Q σ4) ∧ (¬ x3 ≤ 0 → Jn0 (fun  (σ8 : SG) => ((x3 ≤ 1 → (∀ v10 : Int, v10 = (ishr x3 1) → rec5 v10 σ8)) ∧ (¬ x3 ≤ 1 → wp_X6_multiply σ8 51 51 51 (fun (σ11 : SG) => (∀ v12 : Int, v12 = (ishr x3 1) → rec5 v12 σ11))))) (fun J9 => ((¬ (iand x3 1) = 1 → J9 σ4) ∧ ((iand x3 1) = 1 → wp_X6_multiply σ4 q1 q1 51 (fun (σ14 : SG) => J9 σ14))))))) a3 σ2))
def rm_X6_raise : Room := { frames := 4, cells := 0, slots := 0, locals := 97 }
theorem wy_X6_raise : Cond.instanceMethod yX6_raise ∈ WS ∧ Cond.selects "SplitTowers$Ring" yX6_raise yX6_raise ∈ WS ∧ Cond.initialized "SplitTowers$Ring" ∈ WS ∧ Cond.code yX6_raise prog_8_method_5_code 5 none ∈ WS := ⟨w644, w645, w74, w646⟩
theorem hd_X6_raise : yX6_raise.cls = "SplitTowers$Ring" ∧ yX6_raise.cls ≠ "java/lang/invoke/MethodHandle" ∧ yX6_raise.cls ≠ "java/lang/invoke/VarHandle" ∧ (parseMethodDescriptor yX6_raise.desc).map (fun d => d.parameters.length) = some 3 := by decide +kernel
set_option maxHeartbeats 4000000 in
set_option maxRecDepth 100000 in
theorem s_X6_raise {l : Launch} {D : va_G} {aC : Nat → ClassId} {B lo hi : Nat} {σ : SG} {q1 : Nat} {q2 : Nat} {a3 : Int} {Q : SG → Prop} (hlo : lo ≤ 0) (hhi : 304 ≤ hi) (p1 : PO lo hi q1) (p2 : PO lo hi q2) (r3 : inR a3) (h : wp_X6_raise σ q1 q2 a3 Q) : Met l yX6_raise (Cond.code yX6_raise prog_8_method_5_code 5 none :: WS) rm_X6_raise (va_Pc [.ref (B + 48), .ref (B + q1), .ref (B + q2), .int (iI a3)] (WP D aC B lo hi σ)) (QV D aC B lo hi Q) 0 0 (AB B lo hi) := by
  refine met_of (by decide +kernel) (by decide +kernel : yX6_raise.cls = "SplitTowers$Ring") (Nat.le_of_ble_eq_true rfl) ?_
  intro p e s m args below meth c C
  unfold wp_X6_raise at h
  refine v_R (fun hR0 => ?_)
  show V p l e rm_X6_raise s m args below meth c D aC B lo hi 5 (MQ below (QV D aC B lo hi Q) args s 0 0 (AB B lo hi)) σ 0 [(0, .ref (B + 48)), (1, .ref (B + q1)), (2, .ref (B + q2)), (3, .int (iI a3))] []
  refine v_aload_n C 0 dX6_raise_0 rfl rfl ?_
  refine gf6_square C hlo hhi w248 dX6_raise_1 ?_
  refine v_aload_n C 2 dX6_raise_4 rfl rfl ?_
  refine v_callv (i := 51) (As := [.ref (B + q2)]) (rest := []) C (s_X4_copy (PO_full hlo hhi kt51) p2 h) w647 wy_X4_copy ⟨rfl, rfl⟩ hd_X4_copy ⟨Nat.le_of_ble_eq_true rfl, Nat.le_of_ble_eq_true rfl⟩ (PO.lo (PO_full hlo hhi kt51)) (PO.hi (PO_full hlo hhi kt51)) (cel_of ((PO_full hlo hhi kt51)).1) rfl rfl rfl (Nat.le_of_ble_eq_true rfl) dX6_raise_5 (fun σ1 h => ?_)
  refine v_R (fun hRσ1 => ?_)
  refine v_aload_n C 1 dX6_raise_8 rfl rfl ?_
  refine v_iconst C dX6_raise_9 ?_
  refine v_callv (i := q1) (As := [.int (iI 1)]) (rest := []) C (s_X4_becomeConstant p1 (by decide) h) w648 wy_X4_becomeConstant ⟨rfl, rfl⟩ hd_X4_becomeConstant ⟨Nat.le_of_ble_eq_true rfl, Nat.le_of_ble_eq_true rfl⟩ (PO.lo p1) (PO.hi p1) (cel_of (p1).1) rfl rfl rfl (Nat.le_of_ble_eq_true rfl) dX6_raise_10 (fun σ2 h => ?_)
  refine v_R (fun hRσ2 => ?_)
  refine v_iload_n C 3 dX6_raise_13 rfl rfl ?_
  refine v_istore (lv' := [(4, .int (iI a3)), (0, .ref (B + 48)), (1, .ref (B + q1)), (2, .ref (B + q2)), (3, .int (iI a3))]) C dX6_raise_14 (by decide) rfl ?_
  obtain ⟨I17, ⟨n18, hnn18⟩, hII17⟩ := h
  have key7 : ∀ (n : Nat) (x3 : Int) (σ4 : SG), I17 n x3 σ4 → inR x3 → V p l e rm_X6_raise s m args below meth c D aC B lo hi 5 (MQ below (QV D aC B lo hi Q) args s 0 0 (AB B lo hi)) σ4 16 [(4, .int (iI x3)), (0, .ref (B + 48)), (1, .ref (B + q1))] [] := by
    intro n
    induction n using Nat.strongRecOn with
    | ind n ih6 =>
      intro x3 σ4 hn rx3
      have h := hII17 n x3 σ4 hn
      refine v_R (fun hRσ4 => ?_)
      refine v_iload C 0 dX6_raise_16 rfl ?_
      refine v_if_le C rx3 70 dX6_raise_18 (by decide) (fun c16 => ?_) (fun c16 => ?_)
      · have h := h.1 c16
        exact v_vret C h dX6_raise_70
      · have h := h.2 c16
        refine v_iload C 0 dX6_raise_21 rfl ?_
        refine v_iconst C dX6_raise_23 ?_
        refine v_iand C dX6_raise_24 ?_
        refine v_iconst C dX6_raise_25 ?_
        obtain ⟨J9, hJ9, h⟩ := h
        have kJ9 : ∀  (σ8 : SG), J9 σ8 → V p l e rm_X6_raise s m args below meth c D aC B lo hi 5 (MQ below (QV D aC B lo hi Q) args s 0 0 (AB B lo hi)) σ8 39 [(4, .int (iI x3)), (0, .ref (B + 48)), (1, .ref (B + q1))] [] := by
          intro σ8 hj 
          have h := hJ9 σ8 hj
          refine v_R (fun hRσ8 => ?_)
          refine v_iload C 0 dX6_raise_39 rfl ?_
          refine v_iconst C dX6_raise_41 ?_
          refine v_icmp_le C rx3 (by decide) 61 dX6_raise_42 (by decide) (fun c13 => ?_) (fun c13 => ?_)
          · have h := h.1 c13
            refine v_iload C 0 dX6_raise_61 rfl ?_
            refine v_iconst C dX6_raise_63 ?_
            refine v_ishr C dX6_raise_64 ?_
            refine v_name (fun v10 ev10 => ?_)
            have h := h v10 ev10
            have rv10 : inR v10 := by rw [ev10]; exact (inR_ishr _ _)
            refine v_istore (lv' := [(4, .int (iI v10)), (0, .ref (B + 48)), (1, .ref (B + q1))]) C dX6_raise_65 (by decide) rfl ?_
            refine v_goto C 16 dX6_raise_67 (by decide) ?_
            obtain ⟨m9, hm9, h⟩ := h
            exact ih6 m9 hm9 v10 σ8 h rv10
          · have h := h.2 c13
            refine v_aload_n C 1 dX6_raise_45 rfl rfl ?_
            refine v_aload_n C 1 dX6_raise_46 rfl rfl ?_
            refine gf6_square C hlo hhi w248 dX6_raise_47 ?_
            refine v_aload_n C 1 dX6_raise_50 rfl rfl ?_
            refine gf6_square C hlo hhi w248 dX6_raise_51 ?_
            refine v_aload_n C 1 dX6_raise_54 rfl rfl ?_
            refine gf6_square C hlo hhi w248 dX6_raise_55 ?_
            refine v_callv (i := 48) (As := [.ref (B + 51), .ref (B + 51), .ref (B + 51)]) (rest := []) C (s_X6_multiply hlo hhi (PO_full hlo hhi kt51) (PO_full hlo hhi kt51) (PO_full hlo hhi kt51) h) w622 wy_X6_multiply ⟨rfl, rfl⟩ hd_X6_multiply ⟨Nat.le_of_ble_eq_true rfl, Nat.le_of_ble_eq_true rfl⟩ (Nat.le_trans hlo (Nat.zero_le _)) (Nat.lt_of_lt_of_le (by decide) hhi) rfl rfl rfl rfl (Nat.le_of_ble_eq_true rfl) dX6_raise_58 (fun σ11 h => ?_)
            refine v_R (fun hRσ11 => ?_)
            refine v_iload C 0 dX6_raise_61 rfl ?_
            refine v_iconst C dX6_raise_63 ?_
            refine v_ishr C dX6_raise_64 ?_
            refine v_name (fun v12 ev12 => ?_)
            have h := h v12 ev12
            have rv12 : inR v12 := by rw [ev12]; exact (inR_ishr _ _)
            refine v_istore (lv' := [(4, .int (iI v12)), (0, .ref (B + 48)), (1, .ref (B + q1))]) C dX6_raise_65 (by decide) rfl ?_
            refine v_goto C 16 dX6_raise_67 (by decide) ?_
            obtain ⟨m9, hm9, h⟩ := h
            exact ih6 m9 hm9 v12 σ11 h rv12
        refine v_icmp_ne C (inR_iand _ _) (by decide) 39 dX6_raise_26 (by decide) (fun c15 => ?_) (fun c15 => ?_)
        · have h := h.1 c15
          exact kJ9 σ4 h 
        · have h := h.2 c15
          refine v_aload_n C 1 dX6_raise_29 rfl rfl ?_
          refine v_aload_n C 2 dX6_raise_30 rfl rfl ?_
          refine v_aload_n C 2 dX6_raise_31 rfl rfl ?_
          refine v_aload_n C 1 dX6_raise_32 rfl rfl ?_
          refine gf6_square C hlo hhi w248 dX6_raise_33 ?_
          refine v_callv (i := 48) (As := [.ref (B + q1), .ref (B + q1), .ref (B + 51)]) (rest := []) C (s_X6_multiply hlo hhi p1 p1 (PO_full hlo hhi kt51) h) w622 wy_X6_multiply ⟨rfl, rfl⟩ hd_X6_multiply ⟨Nat.le_of_ble_eq_true rfl, Nat.le_of_ble_eq_true rfl⟩ (Nat.le_trans hlo (Nat.zero_le _)) (Nat.lt_of_lt_of_le (by decide) hhi) rfl rfl rfl rfl (Nat.le_of_ble_eq_true rfl) dX6_raise_36 (fun σ14 h => ?_)
          refine v_R (fun hRσ14 => ?_)
          exact kJ9 σ14 h 
  refine v_sub [0, 1, 2] rfl ?_
  exact key7 n18 a3 σ2 hnn18 r3
-- SplitTowers$Ring.add(LSplitTowers$Poly;LSplitTowers$Poly;Z)V
def wp_X6_add (σ : SG) (q1 : Nat) (q2 : Nat) (a3 : Int) (Q : SG → Prop) : Prop :=
  Jn1 (fun (x1 : Int) (σ2 : SG) => wp_X4_addMultiple σ2 q1 x1 q2 0 (σ2 1 0) (fun (σ4 : SG) => Q σ4)) (fun J3 => ((a3 = 0 → J3 1 σ) ∧ (¬ a3 = 0 → J3 (-1) σ)))
def rm_X6_add : Room := { frames := 2, cells := 0, slots := 0, locals := 48 }
theorem wy_X6_add : Cond.instanceMethod yX6_add ∈ WS ∧ Cond.selects "SplitTowers$Ring" yX6_add yX6_add ∈ WS ∧ Cond.initialized "SplitTowers$Ring" ∈ WS ∧ Cond.code yX6_add prog_8_method_3_code 4 none ∈ WS := ⟨w633, w634, w74, w635⟩
theorem hd_X6_add : yX6_add.cls = "SplitTowers$Ring" ∧ yX6_add.cls ≠ "java/lang/invoke/MethodHandle" ∧ yX6_add.cls ≠ "java/lang/invoke/VarHandle" ∧ (parseMethodDescriptor yX6_add.desc).map (fun d => d.parameters.length) = some 3 := by decide +kernel
set_option maxHeartbeats 4000000 in
set_option maxRecDepth 100000 in
theorem s_X6_add {l : Launch} {D : va_G} {aC : Nat → ClassId} {B lo hi : Nat} {σ : SG} {q1 : Nat} {q2 : Nat} {a3 : Int} {Q : SG → Prop} (hlo : lo ≤ 0) (hhi : 304 ≤ hi) (p1 : PO lo hi q1) (p2 : PO lo hi q2) (r3 : inR a3) (h : wp_X6_add σ q1 q2 a3 Q) : Met l yX6_add (Cond.code yX6_add prog_8_method_3_code 4 none :: WS) rm_X6_add (va_Pc [.ref (B + 48), .ref (B + q1), .ref (B + q2), .int (iI a3)] (WP D aC B lo hi σ)) (QV D aC B lo hi Q) 0 0 (AB B lo hi) := by
  refine met_of (by decide +kernel) (by decide +kernel : yX6_add.cls = "SplitTowers$Ring") (Nat.le_of_ble_eq_true rfl) ?_
  intro p e s m args below meth c C
  unfold wp_X6_add at h
  refine v_R (fun hR0 => ?_)
  show V p l e rm_X6_add s m args below meth c D aC B lo hi 4 (MQ below (QV D aC B lo hi Q) args s 0 0 (AB B lo hi)) σ 0 [(0, .ref (B + 48)), (1, .ref (B + q1)), (2, .ref (B + q2)), (3, .int (iI a3))] []
  refine v_aload_n C 1 dX6_add_0 rfl rfl ?_
  refine v_iload_n C 3 dX6_add_1 rfl rfl ?_
  obtain ⟨J3, hJ3, h⟩ := h
  have kJ3 : ∀ (x1 : Int) (σ2 : SG), J3 x1 σ2 → inR x1 → V p l e rm_X6_add s m args below meth c D aC B lo hi 4 (MQ below (QV D aC B lo hi Q) args s 0 0 (AB B lo hi)) σ2 10 [(0, .ref (B + 48)), (2, .ref (B + q2))] [.int (iI x1), .ref (B + q1)] := by
    intro x1 σ2 hj rx1
    have h := hJ3 x1 σ2 hj
    refine v_R (fun hRσ2 => ?_)
    refine v_aload_n C 1 dX6_add_10 rfl rfl ?_
    refine v_iconst C dX6_add_11 ?_
    refine v_aload_n C 0 dX6_add_12 rfl rfl ?_
    refine gf6_state C hlo hhi w245 dX6_add_13 ?_
    refine gf7_prime C (SO_full hlo hhi kt1) w155 dX6_add_16 ?_
    refine v_callv (i := q1) (As := [.int (iI x1), .ref (B + q2), .int (iI 0), .int (iI (σ2 1 0))]) (rest := []) C (s_X4_addMultiple p1 rx1 p2 (by decide) (hRσ2 1 0) h) w636 wy_X4_addMultiple ⟨rfl, rfl⟩ hd_X4_addMultiple ⟨Nat.le_of_ble_eq_true rfl, Nat.le_of_ble_eq_true rfl⟩ (PO.lo p1) (PO.hi p1) (cel_of (p1).1) rfl rfl rfl (Nat.le_of_ble_eq_true rfl) dX6_add_19 (fun σ4 h => ?_)
    refine v_R (fun hRσ4 => ?_)
    exact v_vret C h dX6_add_22
  refine v_if_eq C r3 9 dX6_add_2 (by decide) (fun c5 => ?_) (fun c5 => ?_)
  · have h := h.1 c5
    refine v_iconst C dX6_add_9 ?_
    refine v_sub [0, 2] rfl ?_
    exact kJ3 1 σ h (by decide)
  · have h := h.2 c5
    refine v_iconst C dX6_add_5 ?_
    refine v_goto C 10 dX6_add_6 (by decide) ?_
    refine v_sub [0, 2] rfl ?_
    exact kJ3 (-1) σ h (by decide)
-- SplitTowers$Ring.divide(LSplitTowers$Poly;LSplitTowers$Poly;LSplitTowers$Poly;)V
def wp_X6_divide (σ : SG) (q1 : Nat) (q2 : Nat) (q3 : Nat) (Q : SG → Prop) : Prop :=
  wp_X2_commonFactor σ 53 2 q3 (fun (σ1 : SG) => wp_X2_divideWhole σ1 55 2 53 (fun (σ2 : SG) => wp_X2_multiply σ2 59 53 q3 (fun (σ3 : SG) => wp_X2_reduce σ3 59 55 (fun (σ4 : SG) => wp_X2_invert σ4 57 59 55 (fun (σ5 : SG) => wp_X6_multiply σ5 59 53 57 (fun (σ6 : SG) => wp_X6_multiply σ6 q1 q2 59 (fun (σ7 : SG) => Q σ7)))))))
def rm_X6_divide : Room := { frames := 4, cells := 0, slots := 0, locals := 104 }
theorem wy_X6_divide : Cond.instanceMethod yX6_divide ∈ WS ∧ Cond.selects "SplitTowers$Ring" yX6_divide yX6_divide ∈ WS ∧ Cond.initialized "SplitTowers$Ring" ∈ WS ∧ Cond.code yX6_divide prog_8_method_6_code 4 none ∈ WS := ⟨w606, w607, w74, w608⟩
theorem hd_X6_divide : yX6_divide.cls = "SplitTowers$Ring" ∧ yX6_divide.cls ≠ "java/lang/invoke/MethodHandle" ∧ yX6_divide.cls ≠ "java/lang/invoke/VarHandle" ∧ (parseMethodDescriptor yX6_divide.desc).map (fun d => d.parameters.length) = some 3 := by decide +kernel
set_option maxHeartbeats 4000000 in
set_option maxRecDepth 100000 in
theorem s_X6_divide {l : Launch} {D : va_G} {aC : Nat → ClassId} {B lo hi : Nat} {σ : SG} {q1 : Nat} {q2 : Nat} {q3 : Nat} {Q : SG → Prop} (hlo : lo ≤ 0) (hhi : 304 ≤ hi) (p1 : PO lo hi q1) (p2 : PO lo hi q2) (p3 : PO lo hi q3) (h : wp_X6_divide σ q1 q2 q3 Q) : Met l yX6_divide (Cond.code yX6_divide prog_8_method_6_code 4 none :: WS) rm_X6_divide (va_Pc [.ref (B + 48), .ref (B + q1), .ref (B + q2), .ref (B + q3)] (WP D aC B lo hi σ)) (QV D aC B lo hi Q) 0 0 (AB B lo hi) := by
  refine met_of (by decide +kernel) (by decide +kernel : yX6_divide.cls = "SplitTowers$Ring") (Nat.le_of_ble_eq_true rfl) ?_
  intro p e s m args below meth c C
  unfold wp_X6_divide at h
  refine v_R (fun hR0 => ?_)
  show V p l e rm_X6_divide s m args below meth c D aC B lo hi 4 (MQ below (QV D aC B lo hi Q) args s 0 0 (AB B lo hi)) σ 0 [(0, .ref (B + 48)), (1, .ref (B + q1)), (2, .ref (B + q2)), (3, .ref (B + q3))] []
  refine v_aload_n C 0 dX6_divide_0 rfl rfl ?_
  refine gf6_field C hlo hhi w246 dX6_divide_1 ?_
  refine v_aload_n C 0 dX6_divide_4 rfl rfl ?_
  refine gf6_common C hlo hhi w249 dX6_divide_5 ?_
  refine v_aload_n C 0 dX6_divide_8 rfl rfl ?_
  refine gf6_state C hlo hhi w245 dX6_divide_9 ?_
  refine gf7_modulus C (SO_full hlo hhi kt1) w159 dX6_divide_12 ?_
  refine v_aload_n C 3 dX6_divide_15 rfl rfl ?_
  refine v_callv (i := 33) (As := [.ref (B + 53), .ref (B + 2), .ref (B + q3)]) (rest := []) C (s_X2_commonFactor hlo hhi (PO_full hlo hhi kt53) (PO_mod (SO_full hlo hhi kt1)) p3 h) w609 wy_X2_commonFactor ⟨rfl, rfl⟩ hd_X2_commonFactor ⟨Nat.le_of_ble_eq_true rfl, Nat.le_of_ble_eq_true rfl⟩ (Nat.le_trans hlo (Nat.zero_le _)) (Nat.lt_of_lt_of_le (by decide) hhi) rfl rfl rfl rfl (Nat.le_of_ble_eq_true rfl) dX6_divide_16 (fun σ1 h => ?_)
  refine v_R (fun hRσ1 => ?_)
  refine v_aload_n C 0 dX6_divide_19 rfl rfl ?_
  refine gf6_field C hlo hhi w246 dX6_divide_20 ?_
  refine v_aload_n C 0 dX6_divide_23 rfl rfl ?_
  refine gf6_cofactor C hlo hhi w250 dX6_divide_24 ?_
  refine v_aload_n C 0 dX6_divide_27 rfl rfl ?_
  refine gf6_state C hlo hhi w245 dX6_divide_28 ?_
  refine gf7_modulus C (SO_full hlo hhi kt1) w159 dX6_divide_31 ?_
  refine v_aload_n C 0 dX6_divide_34 rfl rfl ?_
  refine gf6_common C hlo hhi w249 dX6_divide_35 ?_
  refine v_callv (i := 33) (As := [.ref (B + 55), .ref (B + 2), .ref (B + 53)]) (rest := []) C (s_X2_divideWhole hlo hhi (PO_full hlo hhi kt55) (PO_mod (SO_full hlo hhi kt1)) (PO_full hlo hhi kt53) h) w610 wy_X2_divideWhole ⟨rfl, rfl⟩ hd_X2_divideWhole ⟨Nat.le_of_ble_eq_true rfl, Nat.le_of_ble_eq_true rfl⟩ (Nat.le_trans hlo (Nat.zero_le _)) (Nat.lt_of_lt_of_le (by decide) hhi) rfl rfl rfl rfl (Nat.le_of_ble_eq_true rfl) dX6_divide_38 (fun σ2 h => ?_)
  refine v_R (fun hRσ2 => ?_)
  refine v_aload_n C 0 dX6_divide_41 rfl rfl ?_
  refine gf6_field C hlo hhi w246 dX6_divide_42 ?_
  refine v_aload_n C 0 dX6_divide_45 rfl rfl ?_
  refine gf6_work C hlo hhi w252 dX6_divide_46 ?_
  refine v_aload_n C 0 dX6_divide_49 rfl rfl ?_
  refine gf6_common C hlo hhi w249 dX6_divide_50 ?_
  refine v_aload_n C 3 dX6_divide_53 rfl rfl ?_
  refine v_callv (i := 33) (As := [.ref (B + 59), .ref (B + 53), .ref (B + q3)]) (rest := []) C (s_X2_multiply hlo hhi (PO_full hlo hhi kt59) (PO_full hlo hhi kt53) p3 h) w611 wy_X2_multiply ⟨rfl, rfl⟩ hd_X2_multiply ⟨Nat.le_of_ble_eq_true rfl, Nat.le_of_ble_eq_true rfl⟩ (Nat.le_trans hlo (Nat.zero_le _)) (Nat.lt_of_lt_of_le (by decide) hhi) rfl rfl rfl rfl (Nat.le_of_ble_eq_true rfl) dX6_divide_54 (fun σ3 h => ?_)
  refine v_R (fun hRσ3 => ?_)
  refine v_aload_n C 0 dX6_divide_57 rfl rfl ?_
  refine gf6_field C hlo hhi w246 dX6_divide_58 ?_
  refine v_aload_n C 0 dX6_divide_61 rfl rfl ?_
  refine gf6_work C hlo hhi w252 dX6_divide_62 ?_
  refine v_aload_n C 0 dX6_divide_65 rfl rfl ?_
  refine gf6_cofactor C hlo hhi w250 dX6_divide_66 ?_
  refine v_callv (i := 33) (As := [.ref (B + 59), .ref (B + 55)]) (rest := []) C (s_X2_reduce hlo hhi (PO_full hlo hhi kt59) (PO_full hlo hhi kt55) h) w615 wy_X2_reduce ⟨rfl, rfl⟩ hd_X2_reduce ⟨Nat.le_of_ble_eq_true rfl, Nat.le_of_ble_eq_true rfl⟩ (Nat.le_trans hlo (Nat.zero_le _)) (Nat.lt_of_lt_of_le (by decide) hhi) rfl rfl rfl rfl (Nat.le_of_ble_eq_true rfl) dX6_divide_69 (fun σ4 h => ?_)
  refine v_R (fun hRσ4 => ?_)
  refine v_aload_n C 0 dX6_divide_72 rfl rfl ?_
  refine gf6_field C hlo hhi w246 dX6_divide_73 ?_
  refine v_aload_n C 0 dX6_divide_76 rfl rfl ?_
  refine gf6_inverse C hlo hhi w251 dX6_divide_77 ?_
  refine v_aload_n C 0 dX6_divide_80 rfl rfl ?_
  refine gf6_work C hlo hhi w252 dX6_divide_81 ?_
  refine v_aload_n C 0 dX6_divide_84 rfl rfl ?_
  refine gf6_cofactor C hlo hhi w250 dX6_divide_85 ?_
  refine v_callv (i := 33) (As := [.ref (B + 57), .ref (B + 59), .ref (B + 55)]) (rest := []) C (s_X2_invert hlo hhi (PO_full hlo hhi kt57) (PO_full hlo hhi kt59) (PO_full hlo hhi kt55) h) w616 wy_X2_invert ⟨rfl, rfl⟩ hd_X2_invert ⟨Nat.le_of_ble_eq_true rfl, Nat.le_of_ble_eq_true rfl⟩ (Nat.le_trans hlo (Nat.zero_le _)) (Nat.lt_of_lt_of_le (by decide) hhi) rfl rfl rfl rfl (Nat.le_of_ble_eq_true rfl) dX6_divide_88 (fun σ5 h => ?_)
  refine v_R (fun hRσ5 => ?_)
  refine v_aload_n C 0 dX6_divide_91 rfl rfl ?_
  refine v_aload_n C 0 dX6_divide_92 rfl rfl ?_
  refine gf6_work C hlo hhi w252 dX6_divide_93 ?_
  refine v_aload_n C 0 dX6_divide_96 rfl rfl ?_
  refine gf6_common C hlo hhi w249 dX6_divide_97 ?_
  refine v_aload_n C 0 dX6_divide_100 rfl rfl ?_
  refine gf6_inverse C hlo hhi w251 dX6_divide_101 ?_
  refine v_callv (i := 48) (As := [.ref (B + 59), .ref (B + 53), .ref (B + 57)]) (rest := []) C (s_X6_multiply hlo hhi (PO_full hlo hhi kt59) (PO_full hlo hhi kt53) (PO_full hlo hhi kt57) h) w622 wy_X6_multiply ⟨rfl, rfl⟩ hd_X6_multiply ⟨Nat.le_of_ble_eq_true rfl, Nat.le_of_ble_eq_true rfl⟩ (Nat.le_trans hlo (Nat.zero_le _)) (Nat.lt_of_lt_of_le (by decide) hhi) rfl rfl rfl rfl (Nat.le_of_ble_eq_true rfl) dX6_divide_104 (fun σ6 h => ?_)
  refine v_R (fun hRσ6 => ?_)
  refine v_aload_n C 0 dX6_divide_107 rfl rfl ?_
  refine v_aload_n C 1 dX6_divide_108 rfl rfl ?_
  refine v_aload_n C 2 dX6_divide_109 rfl rfl ?_
  refine v_aload_n C 0 dX6_divide_110 rfl rfl ?_
  refine gf6_work C hlo hhi w252 dX6_divide_111 ?_
  refine v_callv (i := 48) (As := [.ref (B + q1), .ref (B + q2), .ref (B + 59)]) (rest := []) C (s_X6_multiply hlo hhi p1 p2 (PO_full hlo hhi kt59) h) w622 wy_X6_multiply ⟨rfl, rfl⟩ hd_X6_multiply ⟨Nat.le_of_ble_eq_true rfl, Nat.le_of_ble_eq_true rfl⟩ (Nat.le_trans hlo (Nat.zero_le _)) (Nat.lt_of_lt_of_le (by decide) hhi) rfl rfl rfl rfl (Nat.le_of_ble_eq_true rfl) dX6_divide_114 (fun σ7 h => ?_)
  refine v_R (fun hRσ7 => ?_)
  exact v_vret C h dX6_divide_117
-- SplitTowers$Ring.reduceByRows()V
def wp_X6_reduceByRows (σ : SG)  (Q : SG → Prop) : Prop :=
  Lp1 (fun (rec3 : Int → SG → Prop) (x1 : Int) (σ2 : SG) => ((x1 < 0 → Q σ2) ∧ (¬ x1 < 0 → ((0 ≤ x1 ∧ x1 < 6) ∧ wp_X4_at σ2 (65 + 2 + 4 * x1.toNat) x1 (fun (z8 : Int) (σ7 : SG) => wp_X2_inverseOf σ7 z8 (fun (z10 : Int) (σ9 : SG) => wp_X4_at σ9 61 x1 (fun (z12 : Int) (σ11 : SG) => (inR (-z12) ∧ (inR ((-z12) * z10) ∧ (∀ v15 : Int, v15 = (-z12) * z10 → ((v15 = 0 → (inR (x1 + (-1)) ∧ rec3 (x1 + (-1)) σ11)) ∧ (¬ v15 = 0 → ((0 ≤ x1 ∧ x1 < 6) ∧ wp_X4_addMultiple σ11 61 v15 (65 + 2 + 4 * x1.toNat) 0 (σ11 1 0) (fun (σ18 : SG) => ((0 ≤ x1 ∧ x1 < 6) ∧ wp_X4_addMultiple σ18 63 v15 (66 + 3 + 4 * x1.toNat) 0 (σ18 1 0) (fun (σ20 : SG) => (inR (x1 + (-1)) ∧ rec3 (x1 + (-1)) σ20))))))))))))))))) 5 σ
def rm_X6_reduceByRows : Room := { frames := 2, cells := 0, slots := 0, locals := 48 }
theorem wy_X6_reduceByRows : Cond.instanceMethod yX6_reduceByRows ∈ WS ∧ Cond.selects "SplitTowers$Ring" yX6_reduceByRows yX6_reduceByRows ∈ WS ∧ Cond.initialized "SplitTowers$Ring" ∈ WS ∧ Cond.code yX6_reduceByRows prog_8_method_11_code 4 none ∈ WS := ⟨w808, w12, w74, w809⟩
theorem hd_X6_reduceByRows : yX6_reduceByRows.cls = "SplitTowers$Ring" ∧ yX6_reduceByRows.cls ≠ "java/lang/invoke/MethodHandle" ∧ yX6_reduceByRows.cls ≠ "java/lang/invoke/VarHandle" ∧ (parseMethodDescriptor yX6_reduceByRows.desc).map (fun d => d.parameters.length) = some 0 := by decide +kernel
set_option maxHeartbeats 4000000 in
set_option maxRecDepth 100000 in
theorem s_X6_reduceByRows {l : Launch} {D : va_G} {aC : Nat → ClassId} {B lo hi : Nat} {σ : SG}  {Q : SG → Prop} (hlo : lo ≤ 0) (hhi : 304 ≤ hi) (h : wp_X6_reduceByRows σ  Q) : Met l yX6_reduceByRows (Cond.code yX6_reduceByRows prog_8_method_11_code 4 none :: WS) rm_X6_reduceByRows (va_Pc [.ref (B + 48)] (WP D aC B lo hi σ)) (QV D aC B lo hi Q) 0 0 (AB B lo hi) := by
  refine met_of (by decide +kernel) (by decide +kernel : yX6_reduceByRows.cls = "SplitTowers$Ring") (Nat.le_of_ble_eq_true rfl) ?_
  intro p e s m args below meth c C
  unfold wp_X6_reduceByRows at h
  refine v_R (fun hR0 => ?_)
  show V p l e rm_X6_reduceByRows s m args below meth c D aC B lo hi 4 (MQ below (QV D aC B lo hi Q) args s 0 0 (AB B lo hi)) σ 0 [(0, .ref (B + 48))] []
  refine v_iconst C dX6_reduceByRows_0 ?_
  refine v_istore_n (lv' := [(1, .int (iI 5)), (0, .ref (B + 48))]) C dX6_reduceByRows_1 rfl (by decide) rfl ?_
  obtain ⟨I24, ⟨n25, hnn25⟩, hII24⟩ := h
  have key5 : ∀ (n : Nat) (x1 : Int) (σ2 : SG), I24 n x1 σ2 → inR x1 → V p l e rm_X6_reduceByRows s m args below meth c D aC B lo hi 4 (MQ below (QV D aC B lo hi Q) args s 0 0 (AB B lo hi)) σ2 2 [(1, .int (iI x1)), (0, .ref (B + 48))] [] := by
    intro n
    induction n using Nat.strongRecOn with
    | ind n ih4 =>
      intro x1 σ2 hn rx1
      have h := hII24 n x1 σ2 hn
      refine v_R (fun hRσ2 => ?_)
      refine v_iload_n C 0 dX6_reduceByRows_2 rfl rfl ?_
      refine v_if_lt C rx1 90 dX6_reduceByRows_3 (by decide) (fun c23 => ?_) (fun c23 => ?_)
      · have h := h.1 c23
        exact v_vret C h dX6_reduceByRows_90
      · have h := h.2 c23
        refine v_aload_n C 1 dX6_reduceByRows_6 rfl rfl ?_
        refine gf6_field C hlo hhi w246 dX6_reduceByRows_7 ?_
        refine v_aload_n C 1 dX6_reduceByRows_10 rfl rfl ?_
        refine gf6_rows C hlo hhi w255 dX6_reduceByRows_11 ?_
        refine v_iload_n C 0 dX6_reduceByRows_14 rfl rfl ?_
        have k6 := h.1
        have h := h.2
        refine v_aald (i := 65) (n := 6) (g := fun j => 65 + 2 + 4 * j) C 3 rfl (Nat.le_trans hlo (Nat.zero_le _)) (Nat.lt_of_lt_of_le (by decide) hhi) rfl rx1 k6 dX6_reduceByRows_15 ?_
        refine v_iload_n C 0 dX6_reduceByRows_16 rfl rfl ?_
        refine v_calli (i := 65 + 2 + 4 * x1.toNat) (As := [.int (iI x1)]) (rest := [.ref (B + 33)]) C (s_X4_at (PO_full hlo hhi (pa65 _ (toNat_lt k6))) rx1 h) w810 wy_X4_at ⟨rfl, rfl⟩ hd_X4_at ⟨Nat.le_of_ble_eq_true rfl, Nat.le_of_ble_eq_true rfl⟩ (PO.lo (PO_full hlo hhi (pa65 _ (toNat_lt k6)))) (PO.hi (PO_full hlo hhi (pa65 _ (toNat_lt k6)))) (cel_of ((PO_full hlo hhi (pa65 _ (toNat_lt k6)))).1) rfl rfl rfl (Nat.le_of_ble_eq_true rfl) dX6_reduceByRows_17 (fun z8 σ7 rz8 h => ?_)
        refine v_R (fun hRσ7 => ?_)
        refine v_calli (i := 33) (As := [.int (iI z8)]) (rest := []) C (s_X2_inverseOf hlo hhi rz8 h) w811 wy_X2_inverseOf ⟨rfl, rfl⟩ hd_X2_inverseOf ⟨Nat.le_of_ble_eq_true rfl, Nat.le_of_ble_eq_true rfl⟩ (Nat.le_trans hlo (Nat.zero_le _)) (Nat.lt_of_lt_of_le (by decide) hhi) rfl rfl rfl rfl (Nat.le_of_ble_eq_true rfl) dX6_reduceByRows_20 (fun z10 σ9 rz10 h => ?_)
        refine v_R (fun hRσ9 => ?_)
        refine v_istore_n (lv' := [(2, .int (iI z10)), (1, .int (iI x1)), (0, .ref (B + 48))]) C dX6_reduceByRows_23 rfl (by decide) rfl ?_
        refine v_aload_n C 2 dX6_reduceByRows_24 rfl rfl ?_
        refine gf6_vector C hlo hhi w253 dX6_reduceByRows_25 ?_
        refine v_iload_n C 1 dX6_reduceByRows_28 rfl rfl ?_
        refine v_calli (i := 61) (As := [.int (iI x1)]) (rest := []) C (s_X4_at (PO_full hlo hhi kt61) rx1 h) w810 wy_X4_at ⟨rfl, rfl⟩ hd_X4_at ⟨Nat.le_of_ble_eq_true rfl, Nat.le_of_ble_eq_true rfl⟩ (PO.lo (PO_full hlo hhi kt61)) (PO.hi (PO_full hlo hhi kt61)) (cel_of ((PO_full hlo hhi kt61)).1) rfl rfl rfl (Nat.le_of_ble_eq_true rfl) dX6_reduceByRows_29 (fun z12 σ11 rz12 h => ?_)
        refine v_R (fun hRσ11 => ?_)
        have k13 := h.1
        have h := h.2
        refine v_ineg C dX6_reduceByRows_32 ?_
        refine v_iload_n C 0 dX6_reduceByRows_33 rfl rfl ?_
        have k14 := h.1
        have h := h.2
        refine v_imul C dX6_reduceByRows_34 ?_
        refine v_name (fun v15 ev15 => ?_)
        have h := h v15 ev15
        have rv15 : inR v15 := by rw [ev15]; exact k14
        refine v_istore_n (lv' := [(3, .int (iI v15)), (2, .int (iI z10)), (1, .int (iI x1)), (0, .ref (B + 48))]) C dX6_reduceByRows_35 rfl (by decide) rfl ?_
        refine v_iload_n C 0 dX6_reduceByRows_36 rfl rfl ?_
        refine v_if_eq C rv15 84 dX6_reduceByRows_37 (by decide) (fun c22 => ?_) (fun c22 => ?_)
        · have h := h.1 c22
          have k16 := h.1
          have h := h.2
          refine v_iinc (lv' := [(1, .int (iI (x1 + (-1)))), (3, .int (iI v15)), (2, .int (iI z10)), (0, .ref (B + 48))]) C 2 dX6_reduceByRows_84 rfl (by decide) rfl ?_
          refine v_goto C 2 dX6_reduceByRows_87 (by decide) ?_
          obtain ⟨m9, hm9, h⟩ := h
          refine v_sub [0, 3] rfl ?_
          exact ih4 m9 hm9 (x1 + (-1)) σ11 h k16
        · have h := h.2 c22
          refine v_aload_n C 3 dX6_reduceByRows_40 rfl rfl ?_
          refine gf6_vector C hlo hhi w253 dX6_reduceByRows_41 ?_
          refine v_iload_n C 0 dX6_reduceByRows_44 rfl rfl ?_
          refine v_aload_n C 3 dX6_reduceByRows_45 rfl rfl ?_
          refine gf6_rows C hlo hhi w255 dX6_reduceByRows_46 ?_
          refine v_iload_n C 2 dX6_reduceByRows_49 rfl rfl ?_
          have k17 := h.1
          have h := h.2
          refine v_aald (i := 65) (n := 6) (g := fun j => 65 + 2 + 4 * j) C 3 rfl (Nat.le_trans hlo (Nat.zero_le _)) (Nat.lt_of_lt_of_le (by decide) hhi) rfl rx1 k17 dX6_reduceByRows_50 ?_
          refine v_iconst C dX6_reduceByRows_51 ?_
          refine v_aload_n C 3 dX6_reduceByRows_52 rfl rfl ?_
          refine gf6_state C hlo hhi w245 dX6_reduceByRows_53 ?_
          refine gf7_prime C (SO_full hlo hhi kt1) w155 dX6_reduceByRows_56 ?_
          refine v_callv (i := 61) (As := [.int (iI v15), .ref (B + (65 + 2 + 4 * x1.toNat)), .int (iI 0), .int (iI (σ11 1 0))]) (rest := []) C (s_X4_addMultiple (PO_full hlo hhi kt61) rv15 (PO_full hlo hhi (pa65 _ (toNat_lt k17))) (by decide) (hRσ11 1 0) h) w636 wy_X4_addMultiple ⟨rfl, rfl⟩ hd_X4_addMultiple ⟨Nat.le_of_ble_eq_true rfl, Nat.le_of_ble_eq_true rfl⟩ (PO.lo (PO_full hlo hhi kt61)) (PO.hi (PO_full hlo hhi kt61)) (cel_of ((PO_full hlo hhi kt61)).1) rfl rfl rfl (Nat.le_of_ble_eq_true rfl) dX6_reduceByRows_59 (fun σ18 h => ?_)
          refine v_R (fun hRσ18 => ?_)
          refine v_aload_n C 3 dX6_reduceByRows_62 rfl rfl ?_
          refine gf6_relation C hlo hhi w254 dX6_reduceByRows_63 ?_
          refine v_iload_n C 0 dX6_reduceByRows_66 rfl rfl ?_
          refine v_aload_n C 3 dX6_reduceByRows_67 rfl rfl ?_
          refine gf6_relations C hlo hhi w256 dX6_reduceByRows_68 ?_
          refine v_iload_n C 2 dX6_reduceByRows_71 rfl rfl ?_
          have k19 := h.1
          have h := h.2
          refine v_aald (i := 66) (n := 6) (g := fun j => 66 + 3 + 4 * j) C 3 rfl (Nat.le_trans hlo (Nat.zero_le _)) (Nat.lt_of_lt_of_le (by decide) hhi) rfl rx1 k19 dX6_reduceByRows_72 ?_
          refine v_iconst C dX6_reduceByRows_73 ?_
          refine v_aload_n C 3 dX6_reduceByRows_74 rfl rfl ?_
          refine gf6_state C hlo hhi w245 dX6_reduceByRows_75 ?_
          refine gf7_prime C (SO_full hlo hhi kt1) w155 dX6_reduceByRows_78 ?_
          refine v_callv (i := 63) (As := [.int (iI v15), .ref (B + (66 + 3 + 4 * x1.toNat)), .int (iI 0), .int (iI (σ18 1 0))]) (rest := []) C (s_X4_addMultiple (PO_full hlo hhi kt63) rv15 (PO_full hlo hhi (pa66 _ (toNat_lt k19))) (by decide) (hRσ18 1 0) h) w636 wy_X4_addMultiple ⟨rfl, rfl⟩ hd_X4_addMultiple ⟨Nat.le_of_ble_eq_true rfl, Nat.le_of_ble_eq_true rfl⟩ (PO.lo (PO_full hlo hhi kt63)) (PO.hi (PO_full hlo hhi kt63)) (cel_of ((PO_full hlo hhi kt63)).1) rfl rfl rfl (Nat.le_of_ble_eq_true rfl) dX6_reduceByRows_81 (fun σ20 h => ?_)
          refine v_R (fun hRσ20 => ?_)
          have k21 := h.1
          have h := h.2
          refine v_iinc (lv' := [(1, .int (iI (x1 + (-1)))), (3, .int (iI v15)), (2, .int (iI z10)), (0, .ref (B + 48))]) C 2 dX6_reduceByRows_84 rfl (by decide) rfl ?_
          refine v_goto C 2 dX6_reduceByRows_87 (by decide) ?_
          obtain ⟨m9, hm9, h⟩ := h
          refine v_sub [0, 3] rfl ?_
          exact ih4 m9 hm9 (x1 + (-1)) σ20 h k21
  exact key5 n25 5 σ hnn25 (by decide)
-- SplitTowers$Ring.findLeastPolynomial(LSplitTowers$Poly;LSplitTowers$Poly;)V
def wp_X6_findLeastPolynomial (σ : SG) (q1 : Nat) (q2 : Nat) (Q : SG → Prop) : Prop :=
  Lp1 (fun (rec3 : Int → SG → Prop) (x1 : Int) (σ2 : SG) => ((6 ≤ x1 → wp_X4_becomeConstant σ2 59 1 (fun (σ6 : SG) => Lp1 (fun (rec9 : Int → SG → Prop) (x7 : Int) (σ8 : SG) => (((σ8 2 1) < x7 → wp_X4_copy σ8 q1 63 (fun (σ12 : SG) => Q σ12)) ∧ (¬ (σ8 2 1) < x7 → wp_X4_copy σ8 61 59 (fun (σ13 : SG) => wp_X4_clear σ13 63 (fun (σ14 : SG) => wp_X4_set σ14 63 x7 1 (fun (σ15 : SG) => wp_X6_reduceByRows σ15 (fun (σ16 : SG) => (∀ v17 : Int, v17 = (σ16 61 1) → ((v17 < 0 → wp_X4_copy σ16 q1 63 (fun (σ18 : SG) => Q σ18)) ∧ (¬ v17 < 0 → ((v17 < 6 → ((0 ≤ v17 ∧ v17 < 6) ∧ wp_X4_copy σ16 (65 + 2 + 4 * v17.toNat) 61 (fun (σ20 : SG) => ((0 ≤ v17 ∧ v17 < 6) ∧ wp_X4_copy σ20 (66 + 3 + 4 * v17.toNat) 63 (fun (σ22 : SG) => wp_X6_multiply σ22 59 59 q2 (fun (σ23 : SG) => (inR (x7 + 1) ∧ rec9 (x7 + 1) σ23))))))) ∧ (¬ v17 < 6 → wp_X4_copy σ16 q1 63 (fun (σ25 : SG) => Q σ25))))))))))))) 0 σ6)) ∧ (¬ 6 ≤ x1 → ((0 ≤ x1 ∧ x1 < 6) ∧ wp_X4_clear σ2 (65 + 2 + 4 * x1.toNat) (fun (σ32 : SG) => (inR (x1 + 1) ∧ rec3 (x1 + 1) σ32)))))) 0 σ
def rm_X6_findLeastPolynomial : Room := { frames := 4, cells := 0, slots := 0, locals := 97 }
theorem wy_X6_findLeastPolynomial : Cond.instanceMethod yX6_findLeastPolynomial ∈ WS ∧ Cond.selects "SplitTowers$Ring" yX6_findLeastPolynomial yX6_findLeastPolynomial ∈ WS ∧ Cond.initialized "SplitTowers$Ring" ∈ WS ∧ Cond.code yX6_findLeastPolynomial prog_8_method_10_code 5 none ∈ WS := ⟨w801, w802, w74, w803⟩
theorem hd_X6_findLeastPolynomial : yX6_findLeastPolynomial.cls = "SplitTowers$Ring" ∧ yX6_findLeastPolynomial.cls ≠ "java/lang/invoke/MethodHandle" ∧ yX6_findLeastPolynomial.cls ≠ "java/lang/invoke/VarHandle" ∧ (parseMethodDescriptor yX6_findLeastPolynomial.desc).map (fun d => d.parameters.length) = some 2 := by decide +kernel
set_option maxHeartbeats 4000000 in
set_option maxRecDepth 100000 in
theorem s_X6_findLeastPolynomial {l : Launch} {D : va_G} {aC : Nat → ClassId} {B lo hi : Nat} {σ : SG} {q1 : Nat} {q2 : Nat} {Q : SG → Prop} (hlo : lo ≤ 0) (hhi : 304 ≤ hi) (p1 : PO lo hi q1) (p2 : PO lo hi q2) (h : wp_X6_findLeastPolynomial σ q1 q2 Q) : Met l yX6_findLeastPolynomial (Cond.code yX6_findLeastPolynomial prog_8_method_10_code 5 none :: WS) rm_X6_findLeastPolynomial (va_Pc [.ref (B + 48), .ref (B + q1), .ref (B + q2)] (WP D aC B lo hi σ)) (QV D aC B lo hi Q) 0 0 (AB B lo hi) := by
  refine met_of (by decide +kernel) (by decide +kernel : yX6_findLeastPolynomial.cls = "SplitTowers$Ring") (Nat.le_of_ble_eq_true rfl) ?_
  intro p e s m args below meth c C
  unfold wp_X6_findLeastPolynomial at h
  refine v_R (fun hR0 => ?_)
  show V p l e rm_X6_findLeastPolynomial s m args below meth c D aC B lo hi 5 (MQ below (QV D aC B lo hi Q) args s 0 0 (AB B lo hi)) σ 0 [(0, .ref (B + 48)), (1, .ref (B + q1)), (2, .ref (B + q2))] []
  refine v_iconst C dX6_findLeastPolynomial_0 ?_
  refine v_istore_n (lv' := [(3, .int (iI 0)), (0, .ref (B + 48)), (1, .ref (B + q1)), (2, .ref (B + q2))]) C dX6_findLeastPolynomial_1 rfl (by decide) rfl ?_
  obtain ⟨I35, ⟨n36, hnn36⟩, hII35⟩ := h
  have key5 : ∀ (n : Nat) (x1 : Int) (σ2 : SG), I35 n x1 σ2 → inR x1 → V p l e rm_X6_findLeastPolynomial s m args below meth c D aC B lo hi 5 (MQ below (QV D aC B lo hi Q) args s 0 0 (AB B lo hi)) σ2 2 [(3, .int (iI x1)), (0, .ref (B + 48)), (1, .ref (B + q1)), (2, .ref (B + q2))] [] := by
    intro n
    induction n using Nat.strongRecOn with
    | ind n ih4 =>
      intro x1 σ2 hn rx1
      have h := hII35 n x1 σ2 hn
      refine v_R (fun hRσ2 => ?_)
      refine v_iload_n C 0 dX6_findLeastPolynomial_2 rfl rfl ?_
      refine v_bipush C dX6_findLeastPolynomial_3 (by decide) ?_
      refine v_icmp_ge C rx1 (by decide) 23 dX6_findLeastPolynomial_5 (by decide) (fun c34 => ?_) (fun c34 => ?_)
      · have h := h.1 c34
        refine v_aload_n C 1 dX6_findLeastPolynomial_23 rfl rfl ?_
        refine gf6_work C hlo hhi w252 dX6_findLeastPolynomial_24 ?_
        refine v_iconst C dX6_findLeastPolynomial_27 ?_
        refine v_callv (i := 59) (As := [.int (iI 1)]) (rest := []) C (s_X4_becomeConstant (PO_full hlo hhi kt59) (by decide) h) w648 wy_X4_becomeConstant ⟨rfl, rfl⟩ hd_X4_becomeConstant ⟨Nat.le_of_ble_eq_true rfl, Nat.le_of_ble_eq_true rfl⟩ (PO.lo (PO_full hlo hhi kt59)) (PO.hi (PO_full hlo hhi kt59)) (cel_of ((PO_full hlo hhi kt59)).1) rfl rfl rfl (Nat.le_of_ble_eq_true rfl) dX6_findLeastPolynomial_28 (fun σ6 h => ?_)
        refine v_R (fun hRσ6 => ?_)
        refine v_iconst C dX6_findLeastPolynomial_31 ?_
        refine v_istore_n (lv' := [(3, .int (iI 0)), (0, .ref (B + 48)), (1, .ref (B + q1)), (2, .ref (B + q2))]) C dX6_findLeastPolynomial_32 rfl (by decide) rfl ?_
        obtain ⟨I29, ⟨n30, hnn30⟩, hII29⟩ := h
        have key11 : ∀ (n : Nat) (x7 : Int) (σ8 : SG), I29 n x7 σ8 → inR x7 → V p l e rm_X6_findLeastPolynomial s m args below meth c D aC B lo hi 5 (MQ below (QV D aC B lo hi Q) args s 0 0 (AB B lo hi)) σ8 33 [(3, .int (iI x7)), (0, .ref (B + 48)), (1, .ref (B + q1)), (2, .ref (B + q2))] [] := by
          intro n
          induction n using Nat.strongRecOn with
          | ind n ih10 =>
            intro x7 σ8 hn rx7
            have h := hII29 n x7 σ8 hn
            refine v_R (fun hRσ8 => ?_)
            refine v_iload_n C 0 dX6_findLeastPolynomial_33 rfl rfl ?_
            refine v_aload_n C 1 dX6_findLeastPolynomial_34 rfl rfl ?_
            refine gf6_state C hlo hhi w245 dX6_findLeastPolynomial_35 ?_
            refine gf7_modulus C (SO_full hlo hhi kt1) w159 dX6_findLeastPolynomial_38 ?_
            refine gf4_degree C (PO_mod (SO_full hlo hhi kt1)) w107 dX6_findLeastPolynomial_41 ?_
            refine v_icmp_gt C rx7 (hRσ8 2 1) 149 dX6_findLeastPolynomial_44 (by decide) (fun c28 => ?_) (fun c28 => ?_)
            · have h := h.1 c28
              refine v_aload_n C 2 dX6_findLeastPolynomial_149 rfl rfl ?_
              refine v_aload_n C 1 dX6_findLeastPolynomial_150 rfl rfl ?_
              refine gf6_relation C hlo hhi w254 dX6_findLeastPolynomial_151 ?_
              refine v_callv (i := q1) (As := [.ref (B + 63)]) (rest := []) C (s_X4_copy p1 (PO_full hlo hhi kt63) h) w647 wy_X4_copy ⟨rfl, rfl⟩ hd_X4_copy ⟨Nat.le_of_ble_eq_true rfl, Nat.le_of_ble_eq_true rfl⟩ (PO.lo p1) (PO.hi p1) (cel_of (p1).1) rfl rfl rfl (Nat.le_of_ble_eq_true rfl) dX6_findLeastPolynomial_154 (fun σ12 h => ?_)
              refine v_R (fun hRσ12 => ?_)
              exact v_vret C h dX6_findLeastPolynomial_157
            · have h := h.2 c28
              refine v_aload_n C 1 dX6_findLeastPolynomial_47 rfl rfl ?_
              refine gf6_vector C hlo hhi w253 dX6_findLeastPolynomial_48 ?_
              refine v_aload_n C 1 dX6_findLeastPolynomial_51 rfl rfl ?_
              refine gf6_work C hlo hhi w252 dX6_findLeastPolynomial_52 ?_
              refine v_callv (i := 61) (As := [.ref (B + 59)]) (rest := []) C (s_X4_copy (PO_full hlo hhi kt61) (PO_full hlo hhi kt59) h) w647 wy_X4_copy ⟨rfl, rfl⟩ hd_X4_copy ⟨Nat.le_of_ble_eq_true rfl, Nat.le_of_ble_eq_true rfl⟩ (PO.lo (PO_full hlo hhi kt61)) (PO.hi (PO_full hlo hhi kt61)) (cel_of ((PO_full hlo hhi kt61)).1) rfl rfl rfl (Nat.le_of_ble_eq_true rfl) dX6_findLeastPolynomial_55 (fun σ13 h => ?_)
              refine v_R (fun hRσ13 => ?_)
              refine v_aload_n C 1 dX6_findLeastPolynomial_58 rfl rfl ?_
              refine gf6_relation C hlo hhi w254 dX6_findLeastPolynomial_59 ?_
              refine v_callv (i := 63) (As := []) (rest := []) C (s_X4_clear (PO_full hlo hhi kt63) h) w804 wy_X4_clear ⟨rfl, rfl⟩ hd_X4_clear ⟨Nat.le_of_ble_eq_true rfl, Nat.le_of_ble_eq_true rfl⟩ (PO.lo (PO_full hlo hhi kt63)) (PO.hi (PO_full hlo hhi kt63)) (cel_of ((PO_full hlo hhi kt63)).1) rfl rfl rfl (Nat.le_of_ble_eq_true rfl) dX6_findLeastPolynomial_62 (fun σ14 h => ?_)
              refine v_R (fun hRσ14 => ?_)
              refine v_aload_n C 1 dX6_findLeastPolynomial_65 rfl rfl ?_
              refine gf6_relation C hlo hhi w254 dX6_findLeastPolynomial_66 ?_
              refine v_iload_n C 0 dX6_findLeastPolynomial_69 rfl rfl ?_
              refine v_iconst C dX6_findLeastPolynomial_70 ?_
              refine v_callv (i := 63) (As := [.int (iI x7), .int (iI 1)]) (rest := []) C (s_X4_set (PO_full hlo hhi kt63) rx7 (by decide) h) w805 wy_X4_set ⟨rfl, rfl⟩ hd_X4_set ⟨Nat.le_of_ble_eq_true rfl, Nat.le_of_ble_eq_true rfl⟩ (PO.lo (PO_full hlo hhi kt63)) (PO.hi (PO_full hlo hhi kt63)) (cel_of ((PO_full hlo hhi kt63)).1) rfl rfl rfl (Nat.le_of_ble_eq_true rfl) dX6_findLeastPolynomial_71 (fun σ15 h => ?_)
              refine v_R (fun hRσ15 => ?_)
              refine v_aload_n C 1 dX6_findLeastPolynomial_74 rfl rfl ?_
              refine v_callv (i := 48) (As := []) (rest := []) C (s_X6_reduceByRows hlo hhi h) w806 wy_X6_reduceByRows ⟨rfl, rfl⟩ hd_X6_reduceByRows ⟨Nat.le_of_ble_eq_true rfl, Nat.le_of_ble_eq_true rfl⟩ (Nat.le_trans hlo (Nat.zero_le _)) (Nat.lt_of_lt_of_le (by decide) hhi) rfl rfl rfl rfl (Nat.le_of_ble_eq_true rfl) dX6_findLeastPolynomial_75 (fun σ16 h => ?_)
              refine v_R (fun hRσ16 => ?_)
              refine v_aload_n C 1 dX6_findLeastPolynomial_78 rfl rfl ?_
              refine gf6_vector C hlo hhi w253 dX6_findLeastPolynomial_79 ?_
              refine gf4_degree C (PO_full hlo hhi kt61) w107 dX6_findLeastPolynomial_82 ?_
              refine v_name (fun v17 ev17 => ?_)
              have h := h v17 ev17
              have rv17 : inR v17 := by rw [ev17]; exact (hRσ16 61 1)
              refine v_istore (lv' := [(4, .int (iI v17)), (3, .int (iI x7)), (0, .ref (B + 48)), (1, .ref (B + q1)), (2, .ref (B + q2))]) C dX6_findLeastPolynomial_85 (by decide) rfl ?_
              refine v_iload C 0 dX6_findLeastPolynomial_87 rfl ?_
              refine v_if_lt C rv17 149 dX6_findLeastPolynomial_89 (by decide) (fun c27 => ?_) (fun c27 => ?_)
              · have h := h.1 c27
                refine v_aload_n C 3 dX6_findLeastPolynomial_149 rfl rfl ?_
                refine v_aload_n C 2 dX6_findLeastPolynomial_150 rfl rfl ?_
                refine gf6_relation C hlo hhi w254 dX6_findLeastPolynomial_151 ?_
                refine v_callv (i := q1) (As := [.ref (B + 63)]) (rest := []) C (s_X4_copy p1 (PO_full hlo hhi kt63) h) w647 wy_X4_copy ⟨rfl, rfl⟩ hd_X4_copy ⟨Nat.le_of_ble_eq_true rfl, Nat.le_of_ble_eq_true rfl⟩ (PO.lo p1) (PO.hi p1) (cel_of (p1).1) rfl rfl rfl (Nat.le_of_ble_eq_true rfl) dX6_findLeastPolynomial_154 (fun σ18 h => ?_)
                refine v_R (fun hRσ18 => ?_)
                exact v_vret C h dX6_findLeastPolynomial_157
              · have h := h.2 c27
                refine v_iload C 0 dX6_findLeastPolynomial_92 rfl ?_
                refine v_bipush C dX6_findLeastPolynomial_94 (by decide) ?_
                refine v_icmp_lt C rv17 (by decide) 102 dX6_findLeastPolynomial_96 (by decide) (fun c26 => ?_) (fun c26 => ?_)
                · have h := h.1 c26
                  refine v_aload_n C 2 dX6_findLeastPolynomial_102 rfl rfl ?_
                  refine gf6_rows C hlo hhi w255 dX6_findLeastPolynomial_103 ?_
                  refine v_iload C 0 dX6_findLeastPolynomial_106 rfl ?_
                  have k19 := h.1
                  have h := h.2
                  refine v_aald (i := 65) (n := 6) (g := fun j => 65 + 2 + 4 * j) C 3 rfl (Nat.le_trans hlo (Nat.zero_le _)) (Nat.lt_of_lt_of_le (by decide) hhi) rfl rv17 k19 dX6_findLeastPolynomial_108 ?_
                  refine v_aload_n C 2 dX6_findLeastPolynomial_109 rfl rfl ?_
                  refine gf6_vector C hlo hhi w253 dX6_findLeastPolynomial_110 ?_
                  refine v_callv (i := 65 + 2 + 4 * v17.toNat) (As := [.ref (B + 61)]) (rest := []) C (s_X4_copy (PO_full hlo hhi (pa65 _ (toNat_lt k19))) (PO_full hlo hhi kt61) h) w647 wy_X4_copy ⟨rfl, rfl⟩ hd_X4_copy ⟨Nat.le_of_ble_eq_true rfl, Nat.le_of_ble_eq_true rfl⟩ (PO.lo (PO_full hlo hhi (pa65 _ (toNat_lt k19)))) (PO.hi (PO_full hlo hhi (pa65 _ (toNat_lt k19)))) (cel_of ((PO_full hlo hhi (pa65 _ (toNat_lt k19)))).1) rfl rfl rfl (Nat.le_of_ble_eq_true rfl) dX6_findLeastPolynomial_113 (fun σ20 h => ?_)
                  refine v_R (fun hRσ20 => ?_)
                  refine v_aload_n C 2 dX6_findLeastPolynomial_116 rfl rfl ?_
                  refine gf6_relations C hlo hhi w256 dX6_findLeastPolynomial_117 ?_
                  refine v_iload C 0 dX6_findLeastPolynomial_120 rfl ?_
                  have k21 := h.1
                  have h := h.2
                  refine v_aald (i := 66) (n := 6) (g := fun j => 66 + 3 + 4 * j) C 3 rfl (Nat.le_trans hlo (Nat.zero_le _)) (Nat.lt_of_lt_of_le (by decide) hhi) rfl rv17 k21 dX6_findLeastPolynomial_122 ?_
                  refine v_aload_n C 2 dX6_findLeastPolynomial_123 rfl rfl ?_
                  refine gf6_relation C hlo hhi w254 dX6_findLeastPolynomial_124 ?_
                  refine v_callv (i := 66 + 3 + 4 * v17.toNat) (As := [.ref (B + 63)]) (rest := []) C (s_X4_copy (PO_full hlo hhi (pa66 _ (toNat_lt k21))) (PO_full hlo hhi kt63) h) w647 wy_X4_copy ⟨rfl, rfl⟩ hd_X4_copy ⟨Nat.le_of_ble_eq_true rfl, Nat.le_of_ble_eq_true rfl⟩ (PO.lo (PO_full hlo hhi (pa66 _ (toNat_lt k21)))) (PO.hi (PO_full hlo hhi (pa66 _ (toNat_lt k21)))) (cel_of ((PO_full hlo hhi (pa66 _ (toNat_lt k21)))).1) rfl rfl rfl (Nat.le_of_ble_eq_true rfl) dX6_findLeastPolynomial_127 (fun σ22 h => ?_)
                  refine v_R (fun hRσ22 => ?_)
                  refine v_aload_n C 2 dX6_findLeastPolynomial_130 rfl rfl ?_
                  refine v_aload_n C 2 dX6_findLeastPolynomial_131 rfl rfl ?_
                  refine gf6_work C hlo hhi w252 dX6_findLeastPolynomial_132 ?_
                  refine v_aload_n C 2 dX6_findLeastPolynomial_135 rfl rfl ?_
                  refine gf6_work C hlo hhi w252 dX6_findLeastPolynomial_136 ?_
                  refine v_aload_n C 4 dX6_findLeastPolynomial_139 rfl rfl ?_
                  refine v_callv (i := 48) (As := [.ref (B + 59), .ref (B + 59), .ref (B + q2)]) (rest := []) C (s_X6_multiply hlo hhi (PO_full hlo hhi kt59) (PO_full hlo hhi kt59) p2 h) w622 wy_X6_multiply ⟨rfl, rfl⟩ hd_X6_multiply ⟨Nat.le_of_ble_eq_true rfl, Nat.le_of_ble_eq_true rfl⟩ (Nat.le_trans hlo (Nat.zero_le _)) (Nat.lt_of_lt_of_le (by decide) hhi) rfl rfl rfl rfl (Nat.le_of_ble_eq_true rfl) dX6_findLeastPolynomial_140 (fun σ23 h => ?_)
                  refine v_R (fun hRσ23 => ?_)
                  have k24 := h.1
                  have h := h.2
                  refine v_iinc (lv' := [(3, .int (iI (x7 + 1))), (4, .int (iI v17)), (0, .ref (B + 48)), (1, .ref (B + q1)), (2, .ref (B + q2))]) C 1 dX6_findLeastPolynomial_143 rfl (by decide) rfl ?_
                  refine v_goto C 33 dX6_findLeastPolynomial_146 (by decide) ?_
                  obtain ⟨m9, hm9, h⟩ := h
                  refine v_sub [0, 2, 3, 4] rfl ?_
                  exact ih10 m9 hm9 (x7 + 1) σ23 h k24
                · have h := h.2 c26
                  refine v_goto C 149 dX6_findLeastPolynomial_99 (by decide) ?_
                  refine v_aload_n C 3 dX6_findLeastPolynomial_149 rfl rfl ?_
                  refine v_aload_n C 2 dX6_findLeastPolynomial_150 rfl rfl ?_
                  refine gf6_relation C hlo hhi w254 dX6_findLeastPolynomial_151 ?_
                  refine v_callv (i := q1) (As := [.ref (B + 63)]) (rest := []) C (s_X4_copy p1 (PO_full hlo hhi kt63) h) w647 wy_X4_copy ⟨rfl, rfl⟩ hd_X4_copy ⟨Nat.le_of_ble_eq_true rfl, Nat.le_of_ble_eq_true rfl⟩ (PO.lo p1) (PO.hi p1) (cel_of (p1).1) rfl rfl rfl (Nat.le_of_ble_eq_true rfl) dX6_findLeastPolynomial_154 (fun σ25 h => ?_)
                  refine v_R (fun hRσ25 => ?_)
                  exact v_vret C h dX6_findLeastPolynomial_157
        exact key11 n30 0 σ6 hnn30 (by decide)
      · have h := h.2 c34
        refine v_aload_n C 1 dX6_findLeastPolynomial_8 rfl rfl ?_
        refine gf6_rows C hlo hhi w255 dX6_findLeastPolynomial_9 ?_
        refine v_iload_n C 0 dX6_findLeastPolynomial_12 rfl rfl ?_
        have k31 := h.1
        have h := h.2
        refine v_aald (i := 65) (n := 6) (g := fun j => 65 + 2 + 4 * j) C 3 rfl (Nat.le_trans hlo (Nat.zero_le _)) (Nat.lt_of_lt_of_le (by decide) hhi) rfl rx1 k31 dX6_findLeastPolynomial_13 ?_
        refine v_callv (i := 65 + 2 + 4 * x1.toNat) (As := []) (rest := []) C (s_X4_clear (PO_full hlo hhi (pa65 _ (toNat_lt k31))) h) w804 wy_X4_clear ⟨rfl, rfl⟩ hd_X4_clear ⟨Nat.le_of_ble_eq_true rfl, Nat.le_of_ble_eq_true rfl⟩ (PO.lo (PO_full hlo hhi (pa65 _ (toNat_lt k31)))) (PO.hi (PO_full hlo hhi (pa65 _ (toNat_lt k31)))) (cel_of ((PO_full hlo hhi (pa65 _ (toNat_lt k31)))).1) rfl rfl rfl (Nat.le_of_ble_eq_true rfl) dX6_findLeastPolynomial_14 (fun σ32 h => ?_)
        refine v_R (fun hRσ32 => ?_)
        have k33 := h.1
        have h := h.2
        refine v_iinc (lv' := [(3, .int (iI (x1 + 1))), (0, .ref (B + 48)), (1, .ref (B + q1)), (2, .ref (B + q2))]) C 0 dX6_findLeastPolynomial_17 rfl (by decide) rfl ?_
        refine v_goto C 2 dX6_findLeastPolynomial_20 (by decide) ?_
        obtain ⟨m9, hm9, h⟩ := h
        exact ih4 m9 hm9 (x1 + 1) σ32 h k33
  exact key5 n36 0 σ hnn36 (by decide)
-- SplitTowers$Ring.leastExponent(LSplitTowers$Poly;I)I
def wp_X6_leastExponent (σ : SG) (q1 : Nat) (a2 : Int) (Q : Int → SG → Prop) : Prop :=
  Lp3 (fun (rec5 : Int → Int → Int → SG → Prop) (x1 : Int) (x2 : Int) (x3 : Int) (σ4 : SG) => ((a2 < x1 → Q x3 σ4) ∧ (¬ a2 < x1 → ((x2 ≤ 1 → Q x3 σ4) ∧ (¬ x2 ≤ 1 → (x1 ≠ 0 ∧ inR (Int.tdiv x2 x1) ∧ Jn1 (fun (x10 : Int) (σ11 : SG) => Lp3 (fun (rec17 : Int → Int → Int → SG → Prop) (x13 : Int) (x14 : Int) (x15 : Int) (σ16 : SG) => ((31 ≤ x13 → (inR (x1 + 1) ∧ rec5 (x1 + 1) x14 x15 σ16)) ∧ (¬ 31 ≤ x13 → (x10 ≠ 0 ∧ ((¬ (Int.tmod x14 x10) = 0 → (inR (x1 + 1) ∧ rec5 (x1 + 1) x14 x15 σ16)) ∧ ((Int.tmod x14 x10) = 0 → (x10 ≠ 0 ∧ inR (Int.tdiv x14 x10) ∧ (∀ v25 : Int, v25 = (Int.tdiv x14 x10) → (x10 ≠ 0 ∧ inR (Int.tdiv x15 x10) ∧ wp_X6_raise σ16 59 q1 (Int.tdiv x15 x10) (fun (σ28 : SG) => wp_X4_isOne σ28 59 (fun (z30 : Int) (σ29 : SG) => ((z30 = 0 → (inR (x13 + 1) ∧ rec17 (x13 + 1) v25 x15 σ29)) ∧ (¬ z30 = 0 → (x10 ≠ 0 ∧ inR (Int.tdiv x15 x10) ∧ (∀ v34 : Int, v34 = (Int.tdiv x15 x10) → (inR (x13 + 1) ∧ rec17 (x13 + 1) v25 v34 σ29)))))))))))))))) 0 x2 x3 σ11) (fun J12 => ((x1 ≤ (Int.tdiv x2 x1) → J12 x1 σ4) ∧ (¬ x1 ≤ (Int.tdiv x2 x1) → J12 x2 σ4))))))))) 2 a2 a2 σ
def rm_X6_leastExponent : Room := { frames := 5, cells := 0, slots := 0, locals := 121 }
theorem wy_X6_leastExponent : Cond.instanceMethod yX6_leastExponent ∈ WS ∧ Cond.selects "SplitTowers$Ring" yX6_leastExponent yX6_leastExponent ∈ WS ∧ Cond.initialized "SplitTowers$Ring" ∈ WS ∧ Cond.code yX6_leastExponent prog_8_method_12_code 8 (some .int) ∈ WS := ⟨w837, w838, w74, w839⟩
theorem hd_X6_leastExponent : yX6_leastExponent.cls = "SplitTowers$Ring" ∧ yX6_leastExponent.cls ≠ "java/lang/invoke/MethodHandle" ∧ yX6_leastExponent.cls ≠ "java/lang/invoke/VarHandle" ∧ (parseMethodDescriptor yX6_leastExponent.desc).map (fun d => d.parameters.length) = some 2 := by decide +kernel
set_option maxHeartbeats 4000000 in
set_option maxRecDepth 100000 in
theorem s_X6_leastExponent {l : Launch} {D : va_G} {aC : Nat → ClassId} {B lo hi : Nat} {σ : SG} {q1 : Nat} {a2 : Int} {Q : Int → SG → Prop} (hlo : lo ≤ 0) (hhi : 304 ≤ hi) (p1 : PO lo hi q1) (r2 : inR a2) (h : wp_X6_leastExponent σ q1 a2 Q) : Met l yX6_leastExponent (Cond.code yX6_leastExponent prog_8_method_12_code 8 (some .int) :: WS) rm_X6_leastExponent (va_Pc [.ref (B + 48), .ref (B + q1), .int (iI a2)] (WP D aC B lo hi σ)) (QI D aC B lo hi Q) 0 0 (AB B lo hi) := by
  refine met_of (by decide +kernel) (by decide +kernel : yX6_leastExponent.cls = "SplitTowers$Ring") (Nat.le_of_ble_eq_true rfl) ?_
  intro p e s m args below meth c C
  unfold wp_X6_leastExponent at h
  refine v_R (fun hR0 => ?_)
  show V p l e rm_X6_leastExponent s m args below meth c D aC B lo hi 8 (MQ below (QI D aC B lo hi Q) args s 0 0 (AB B lo hi)) σ 0 [(0, .ref (B + 48)), (1, .ref (B + q1)), (2, .int (iI a2))] []
  refine v_iload_n C 2 dX6_leastExponent_0 rfl rfl ?_
  refine v_istore_n (lv' := [(3, .int (iI a2)), (0, .ref (B + 48)), (1, .ref (B + q1)), (2, .int (iI a2))]) C dX6_leastExponent_1 rfl (by decide) rfl ?_
  refine v_iload_n C 3 dX6_leastExponent_2 rfl rfl ?_
  refine v_istore (lv' := [(4, .int (iI a2)), (3, .int (iI a2)), (0, .ref (B + 48)), (1, .ref (B + q1)), (2, .int (iI a2))]) C dX6_leastExponent_3 (by decide) rfl ?_
  refine v_iconst C dX6_leastExponent_5 ?_
  refine v_istore (lv' := [(5, .int (iI 2)), (4, .int (iI a2)), (3, .int (iI a2)), (0, .ref (B + 48)), (1, .ref (B + q1)), (2, .int (iI a2))]) C dX6_leastExponent_6 (by decide) rfl ?_
  obtain ⟨I44, ⟨n45, hnn45⟩, hII44⟩ := h
  have key7 : ∀ (n : Nat) (x1 : Int) (x2 : Int) (x3 : Int) (σ4 : SG), I44 n x1 x2 x3 σ4 → inR x1 → inR x2 → inR x3 → V p l e rm_X6_leastExponent s m args below meth c D aC B lo hi 8 (MQ below (QI D aC B lo hi Q) args s 0 0 (AB B lo hi)) σ4 8 [(5, .int (iI x1)), (4, .int (iI x2)), (3, .int (iI x3)), (0, .ref (B + 48)), (1, .ref (B + q1)), (2, .int (iI a2))] [] := by
    intro n
    induction n using Nat.strongRecOn with
    | ind n ih6 =>
      intro x1 x2 x3 σ4 hn rx1 rx2 rx3
      have h := hII44 n x1 x2 x3 σ4 hn
      refine v_R (fun hRσ4 => ?_)
      refine v_iload C 0 dX6_leastExponent_8 rfl ?_
      refine v_iload_n C 5 dX6_leastExponent_10 rfl rfl ?_
      refine v_icmp_gt C rx1 r2 104 dX6_leastExponent_11 (by decide) (fun c43 => ?_) (fun c43 => ?_)
      · have h := h.1 c43
        refine v_iload_n C 2 dX6_leastExponent_104 rfl rfl ?_
        exact v_iret C rx3 h dX6_leastExponent_105
      · have h := h.2 c43
        refine v_iload C 1 dX6_leastExponent_14 rfl ?_
        refine v_iconst C dX6_leastExponent_16 ?_
        refine v_icmp_le C rx2 (by decide) 104 dX6_leastExponent_17 (by decide) (fun c42 => ?_) (fun c42 => ?_)
        · have h := h.1 c42
          refine v_iload_n C 2 dX6_leastExponent_104 rfl rfl ?_
          exact v_iret C rx3 h dX6_leastExponent_105
        · have h := h.2 c42
          refine v_iload C 0 dX6_leastExponent_20 rfl ?_
          refine v_iload C 1 dX6_leastExponent_22 rfl ?_
          refine v_iload C 0 dX6_leastExponent_24 rfl ?_
          have k8 := h.1
          have h := h.2
          have k9 := h.1
          have h := h.2
          refine v_idiv C rx2 rx1 k8 dX6_leastExponent_26 ?_
          obtain ⟨J12, hJ12, h⟩ := h
          have kJ12 : ∀ (x10 : Int) (σ11 : SG), J12 x10 σ11 → inR x10 → V p l e rm_X6_leastExponent s m args below meth c D aC B lo hi 8 (MQ below (QI D aC B lo hi Q) args s 0 0 (AB B lo hi)) σ11 37 [(5, .int (iI x1)), (4, .int (iI x2)), (3, .int (iI x3)), (0, .ref (B + 48)), (1, .ref (B + q1)), (2, .int (iI a2))] [.int (iI x10)] := by
            intro x10 σ11 hj rx10
            have h := hJ12 x10 σ11 hj
            refine v_R (fun hRσ11 => ?_)
            refine v_istore (lv' := [(6, .int (iI x10)), (5, .int (iI x1)), (4, .int (iI x2)), (3, .int (iI x3)), (0, .ref (B + 48)), (1, .ref (B + q1)), (2, .int (iI a2))]) C dX6_leastExponent_37 (by decide) rfl ?_
            refine v_iconst C dX6_leastExponent_39 ?_
            refine v_istore (lv' := [(7, .int (iI 0)), (6, .int (iI x10)), (5, .int (iI x1)), (4, .int (iI x2)), (3, .int (iI x3)), (0, .ref (B + 48)), (1, .ref (B + q1)), (2, .int (iI a2))]) C dX6_leastExponent_40 (by decide) rfl ?_
            obtain ⟨I39, ⟨n40, hnn40⟩, hII39⟩ := h
            have key19 : ∀ (n : Nat) (x13 : Int) (x14 : Int) (x15 : Int) (σ16 : SG), I39 n x13 x14 x15 σ16 → inR x13 → inR x14 → inR x15 → V p l e rm_X6_leastExponent s m args below meth c D aC B lo hi 8 (MQ below (QI D aC B lo hi Q) args s 0 0 (AB B lo hi)) σ16 42 [(7, .int (iI x13)), (6, .int (iI x10)), (5, .int (iI x1)), (4, .int (iI x14)), (3, .int (iI x15)), (0, .ref (B + 48)), (1, .ref (B + q1)), (2, .int (iI a2))] [] := by
              intro n
              induction n using Nat.strongRecOn with
              | ind n ih18 =>
                intro x13 x14 x15 σ16 hn rx13 rx14 rx15
                have h := hII39 n x13 x14 x15 σ16 hn
                refine v_R (fun hRσ16 => ?_)
                refine v_iload C 0 dX6_leastExponent_42 rfl ?_
                refine v_bipush C dX6_leastExponent_44 (by decide) ?_
                refine v_icmp_ge C rx13 (by decide) 98 dX6_leastExponent_46 (by decide) (fun c38 => ?_) (fun c38 => ?_)
                · have h := h.1 c38
                  have k20 := h.1
                  have h := h.2
                  refine v_iinc (lv' := [(5, .int (iI (x1 + 1))), (7, .int (iI x13)), (6, .int (iI x10)), (4, .int (iI x14)), (3, .int (iI x15)), (0, .ref (B + 48)), (1, .ref (B + q1)), (2, .int (iI a2))]) C 2 dX6_leastExponent_98 rfl (by decide) rfl ?_
                  refine v_goto C 8 dX6_leastExponent_101 (by decide) ?_
                  obtain ⟨m9, hm9, h⟩ := h
                  refine v_sub [0, 3, 4, 5, 6, 7] rfl ?_
                  exact ih6 m9 hm9 (x1 + 1) x14 x15 σ16 h k20 rx14 rx15
                · have h := h.2 c38
                  refine v_iload C 3 dX6_leastExponent_49 rfl ?_
                  refine v_iload C 1 dX6_leastExponent_51 rfl ?_
                  have k21 := h.1
                  have h := h.2
                  refine v_irem C rx14 rx10 k21 dX6_leastExponent_53 ?_
                  refine v_if_ne C (inR_tmod rx14) 98 dX6_leastExponent_54 (by decide) (fun c37 => ?_) (fun c37 => ?_)
                  · have h := h.1 c37
                    have k22 := h.1
                    have h := h.2
                    refine v_iinc (lv' := [(5, .int (iI (x1 + 1))), (7, .int (iI x13)), (6, .int (iI x10)), (4, .int (iI x14)), (3, .int (iI x15)), (0, .ref (B + 48)), (1, .ref (B + q1)), (2, .int (iI a2))]) C 2 dX6_leastExponent_98 rfl (by decide) rfl ?_
                    refine v_goto C 8 dX6_leastExponent_101 (by decide) ?_
                    obtain ⟨m9, hm9, h⟩ := h
                    refine v_sub [0, 3, 4, 5, 6, 7] rfl ?_
                    exact ih6 m9 hm9 (x1 + 1) x14 x15 σ16 h k22 rx14 rx15
                  · have h := h.2 c37
                    refine v_iload C 3 dX6_leastExponent_57 rfl ?_
                    refine v_iload C 1 dX6_leastExponent_59 rfl ?_
                    have k23 := h.1
                    have h := h.2
                    have k24 := h.1
                    have h := h.2
                    refine v_idiv C rx14 rx10 k23 dX6_leastExponent_61 ?_
                    refine v_name (fun v25 ev25 => ?_)
                    have h := h v25 ev25
                    have rv25 : inR v25 := by rw [ev25]; exact k24
                    refine v_istore (lv' := [(4, .int (iI v25)), (7, .int (iI x13)), (6, .int (iI x10)), (5, .int (iI x1)), (3, .int (iI x15)), (0, .ref (B + 48)), (1, .ref (B + q1)), (2, .int (iI a2))]) C dX6_leastExponent_62 (by decide) rfl ?_
                    refine v_aload_n C 5 dX6_leastExponent_64 rfl rfl ?_
                    refine v_aload_n C 5 dX6_leastExponent_65 rfl rfl ?_
                    refine gf6_work C hlo hhi w252 dX6_leastExponent_66 ?_
                    refine v_aload_n C 6 dX6_leastExponent_69 rfl rfl ?_
                    refine v_iload_n C 4 dX6_leastExponent_70 rfl rfl ?_
                    refine v_iload C 2 dX6_leastExponent_71 rfl ?_
                    have k26 := h.1
                    have h := h.2
                    have k27 := h.1
                    have h := h.2
                    refine v_idiv C rx15 rx10 k26 dX6_leastExponent_73 ?_
                    refine v_callv (i := 48) (As := [.ref (B + 59), .ref (B + q1), .int (iI (Int.tdiv x15 x10))]) (rest := []) C (s_X6_raise hlo hhi (PO_full hlo hhi kt59) p1 k27 h) w840 wy_X6_raise ⟨rfl, rfl⟩ hd_X6_raise ⟨Nat.le_of_ble_eq_true rfl, Nat.le_of_ble_eq_true rfl⟩ (Nat.le_trans hlo (Nat.zero_le _)) (Nat.lt_of_lt_of_le (by decide) hhi) rfl rfl rfl rfl (Nat.le_of_ble_eq_true rfl) dX6_leastExponent_74 (fun σ28 h => ?_)
                    refine v_R (fun hRσ28 => ?_)
                    refine v_aload_n C 5 dX6_leastExponent_77 rfl rfl ?_
                    refine gf6_work C hlo hhi w252 dX6_leastExponent_78 ?_
                    refine v_calli (i := 59) (As := []) (rest := []) C (s_X4_isOne (PO_full hlo hhi kt59) h) w841 wy_X4_isOne ⟨rfl, rfl⟩ hd_X4_isOne ⟨Nat.le_of_ble_eq_true rfl, Nat.le_of_ble_eq_true rfl⟩ (PO.lo (PO_full hlo hhi kt59)) (PO.hi (PO_full hlo hhi kt59)) (cel_of ((PO_full hlo hhi kt59)).1) rfl rfl rfl (Nat.le_of_ble_eq_true rfl) dX6_leastExponent_81 (fun z30 σ29 rz30 h => ?_)
                    refine v_R (fun hRσ29 => ?_)
                    refine v_if_eq C rz30 92 dX6_leastExponent_84 (by decide) (fun c36 => ?_) (fun c36 => ?_)
                    · have h := h.1 c36
                      have k31 := h.1
                      have h := h.2
                      refine v_iinc (lv' := [(7, .int (iI (x13 + 1))), (4, .int (iI v25)), (6, .int (iI x10)), (5, .int (iI x1)), (3, .int (iI x15)), (0, .ref (B + 48)), (1, .ref (B + q1)), (2, .int (iI a2))]) C 1 dX6_leastExponent_92 rfl (by decide) rfl ?_
                      refine v_goto C 42 dX6_leastExponent_95 (by decide) ?_
                      obtain ⟨m9, hm9, h⟩ := h
                      refine v_sub [0, 2, 3, 1, 4, 5, 6, 7] rfl ?_
                      exact ih18 m9 hm9 (x13 + 1) v25 x15 σ29 h k31 rv25 rx15
                    · have h := h.2 c36
                      refine v_iload_n C 4 dX6_leastExponent_87 rfl rfl ?_
                      refine v_iload C 2 dX6_leastExponent_88 rfl ?_
                      have k32 := h.1
                      have h := h.2
                      have k33 := h.1
                      have h := h.2
                      refine v_idiv C rx15 rx10 k32 dX6_leastExponent_90 ?_
                      refine v_name (fun v34 ev34 => ?_)
                      have h := h v34 ev34
                      have rv34 : inR v34 := by rw [ev34]; exact k33
                      refine v_istore_n (lv' := [(3, .int (iI v34)), (4, .int (iI v25)), (7, .int (iI x13)), (6, .int (iI x10)), (5, .int (iI x1)), (0, .ref (B + 48)), (1, .ref (B + q1)), (2, .int (iI a2))]) C dX6_leastExponent_91 rfl (by decide) rfl ?_
                      have k35 := h.1
                      have h := h.2
                      refine v_iinc (lv' := [(7, .int (iI (x13 + 1))), (3, .int (iI v34)), (4, .int (iI v25)), (6, .int (iI x10)), (5, .int (iI x1)), (0, .ref (B + 48)), (1, .ref (B + q1)), (2, .int (iI a2))]) C 2 dX6_leastExponent_92 rfl (by decide) rfl ?_
                      refine v_goto C 42 dX6_leastExponent_95 (by decide) ?_
                      obtain ⟨m9, hm9, h⟩ := h
                      refine v_sub [0, 3, 4, 2, 1, 5, 6, 7] rfl ?_
                      exact ih18 m9 hm9 (x13 + 1) v25 v34 σ29 h k35 rv25 rv34
            exact key19 n40 0 x2 x3 σ11 hnn40 (by decide) rx2 rx3
          refine v_icmp_le C rx1 k9 35 dX6_leastExponent_27 (by decide) (fun c41 => ?_) (fun c41 => ?_)
          · have h := h.1 c41
            refine v_iload C 0 dX6_leastExponent_35 rfl ?_
            exact kJ12 x1 σ4 h rx1
          · have h := h.2 c41
            refine v_iload C 1 dX6_leastExponent_30 rfl ?_
            refine v_goto C 37 dX6_leastExponent_32 (by decide) ?_
            exact kJ12 x2 σ4 h rx2
  exact key7 n45 2 a2 a2 σ hnn45 (by decide) r2 r2
-- SplitTowers$Ring.unitOf(LSplitTowers$Poly;LSplitTowers$Poly;)V
def wp_X6_unitOf (σ : SG) (q1 : Nat) (q2 : Nat) (Q : SG → Prop) : Prop :=
  wp_X2_divideWhole σ q1 2 q2 (fun (σ1 : SG) => wp_X6_divide σ1 q1 q1 q1 (fun (σ2 : SG) => Q σ2))
def rm_X6_unitOf : Room := { frames := 5, cells := 0, slots := 0, locals := 127 }
theorem wy_X6_unitOf : Cond.instanceMethod yX6_unitOf ∈ WS ∧ Cond.selects "SplitTowers$Ring" yX6_unitOf yX6_unitOf ∈ WS ∧ Cond.initialized "SplitTowers$Ring" ∈ WS ∧ Cond.code yX6_unitOf prog_8_method_7_code 3 none ∈ WS := ⟨w670, w671, w74, w672⟩
theorem hd_X6_unitOf : yX6_unitOf.cls = "SplitTowers$Ring" ∧ yX6_unitOf.cls ≠ "java/lang/invoke/MethodHandle" ∧ yX6_unitOf.cls ≠ "java/lang/invoke/VarHandle" ∧ (parseMethodDescriptor yX6_unitOf.desc).map (fun d => d.parameters.length) = some 2 := by decide +kernel
set_option maxHeartbeats 4000000 in
set_option maxRecDepth 100000 in
theorem s_X6_unitOf {l : Launch} {D : va_G} {aC : Nat → ClassId} {B lo hi : Nat} {σ : SG} {q1 : Nat} {q2 : Nat} {Q : SG → Prop} (hlo : lo ≤ 0) (hhi : 304 ≤ hi) (p1 : PO lo hi q1) (p2 : PO lo hi q2) (h : wp_X6_unitOf σ q1 q2 Q) : Met l yX6_unitOf (Cond.code yX6_unitOf prog_8_method_7_code 3 none :: WS) rm_X6_unitOf (va_Pc [.ref (B + 48), .ref (B + q1), .ref (B + q2)] (WP D aC B lo hi σ)) (QV D aC B lo hi Q) 0 0 (AB B lo hi) := by
  refine met_of (by decide +kernel) (by decide +kernel : yX6_unitOf.cls = "SplitTowers$Ring") (Nat.le_of_ble_eq_true rfl) ?_
  intro p e s m args below meth c C
  unfold wp_X6_unitOf at h
  refine v_R (fun hR0 => ?_)
  show V p l e rm_X6_unitOf s m args below meth c D aC B lo hi 3 (MQ below (QV D aC B lo hi Q) args s 0 0 (AB B lo hi)) σ 0 [(0, .ref (B + 48)), (1, .ref (B + q1)), (2, .ref (B + q2))] []
  refine v_aload_n C 0 dX6_unitOf_0 rfl rfl ?_
  refine gf6_field C hlo hhi w246 dX6_unitOf_1 ?_
  refine v_aload_n C 1 dX6_unitOf_4 rfl rfl ?_
  refine v_aload_n C 0 dX6_unitOf_5 rfl rfl ?_
  refine gf6_state C hlo hhi w245 dX6_unitOf_6 ?_
  refine gf7_modulus C (SO_full hlo hhi kt1) w159 dX6_unitOf_9 ?_
  refine v_aload_n C 2 dX6_unitOf_12 rfl rfl ?_
  refine v_callv (i := 33) (As := [.ref (B + q1), .ref (B + 2), .ref (B + q2)]) (rest := []) C (s_X2_divideWhole hlo hhi p1 (PO_mod (SO_full hlo hhi kt1)) p2 h) w610 wy_X2_divideWhole ⟨rfl, rfl⟩ hd_X2_divideWhole ⟨Nat.le_of_ble_eq_true rfl, Nat.le_of_ble_eq_true rfl⟩ (Nat.le_trans hlo (Nat.zero_le _)) (Nat.lt_of_lt_of_le (by decide) hhi) rfl rfl rfl rfl (Nat.le_of_ble_eq_true rfl) dX6_unitOf_13 (fun σ1 h => ?_)
  refine v_R (fun hRσ1 => ?_)
  refine v_aload_n C 0 dX6_unitOf_16 rfl rfl ?_
  refine v_aload_n C 1 dX6_unitOf_17 rfl rfl ?_
  refine v_aload_n C 1 dX6_unitOf_18 rfl rfl ?_
  refine v_aload_n C 1 dX6_unitOf_19 rfl rfl ?_
  refine v_callv (i := 48) (As := [.ref (B + q1), .ref (B + q1), .ref (B + q1)]) (rest := []) C (s_X6_divide hlo hhi p1 p1 p1 h) w673 wy_X6_divide ⟨rfl, rfl⟩ hd_X6_divide ⟨Nat.le_of_ble_eq_true rfl, Nat.le_of_ble_eq_true rfl⟩ (Nat.le_trans hlo (Nat.zero_le _)) (Nat.lt_of_lt_of_le (by decide) hhi) rfl rfl rfl rfl (Nat.le_of_ble_eq_true rfl) dX6_unitOf_20 (fun σ2 h => ?_)
  refine v_R (fun hRσ2 => ?_)
  exact v_vret C h dX6_unitOf_23
-- SplitTowers$Ring.putTogether(LSplitTowers$Poly;LSplitTowers$Poly;LSplitTowers$Poly;LSplitTowers$Poly;)V
def wp_X6_putTogether (σ : SG) (q1 : Nat) (q2 : Nat) (q3 : Nat) (q4 : Nat) (Q : SG → Prop) : Prop :=
  wp_X4_copy σ 61 q2 (fun (σ1 : SG) => wp_X6_add σ1 61 q4 1 (fun (σ2 : SG) => wp_X6_unitOf σ2 q1 q3 (fun (σ3 : SG) => wp_X6_multiply σ3 q1 q1 61 (fun (σ4 : SG) => wp_X6_add σ4 q1 q4 0 (fun (σ5 : SG) => Q σ5)))))
def rm_X6_putTogether : Room := { frames := 6, cells := 0, slots := 0, locals := 149 }
theorem wy_X6_putTogether : Cond.instanceMethod yX6_putTogether ∈ WS ∧ Cond.selects "SplitTowers$Ring" yX6_putTogether yX6_putTogether ∈ WS ∧ Cond.initialized "SplitTowers$Ring" ∈ WS ∧ Cond.code yX6_putTogether prog_8_method_8_code 5 none ∈ WS := ⟨w665, w666, w74, w667⟩
theorem hd_X6_putTogether : yX6_putTogether.cls = "SplitTowers$Ring" ∧ yX6_putTogether.cls ≠ "java/lang/invoke/MethodHandle" ∧ yX6_putTogether.cls ≠ "java/lang/invoke/VarHandle" ∧ (parseMethodDescriptor yX6_putTogether.desc).map (fun d => d.parameters.length) = some 4 := by decide +kernel
set_option maxHeartbeats 4000000 in
set_option maxRecDepth 100000 in
theorem s_X6_putTogether {l : Launch} {D : va_G} {aC : Nat → ClassId} {B lo hi : Nat} {σ : SG} {q1 : Nat} {q2 : Nat} {q3 : Nat} {q4 : Nat} {Q : SG → Prop} (hlo : lo ≤ 0) (hhi : 304 ≤ hi) (p1 : PO lo hi q1) (p2 : PO lo hi q2) (p3 : PO lo hi q3) (p4 : PO lo hi q4) (h : wp_X6_putTogether σ q1 q2 q3 q4 Q) : Met l yX6_putTogether (Cond.code yX6_putTogether prog_8_method_8_code 5 none :: WS) rm_X6_putTogether (va_Pc [.ref (B + 48), .ref (B + q1), .ref (B + q2), .ref (B + q3), .ref (B + q4)] (WP D aC B lo hi σ)) (QV D aC B lo hi Q) 0 0 (AB B lo hi) := by
  refine met_of (by decide +kernel) (by decide +kernel : yX6_putTogether.cls = "SplitTowers$Ring") (Nat.le_of_ble_eq_true rfl) ?_
  intro p e s m args below meth c C
  unfold wp_X6_putTogether at h
  refine v_R (fun hR0 => ?_)
  show V p l e rm_X6_putTogether s m args below meth c D aC B lo hi 5 (MQ below (QV D aC B lo hi Q) args s 0 0 (AB B lo hi)) σ 0 [(0, .ref (B + 48)), (1, .ref (B + q1)), (2, .ref (B + q2)), (3, .ref (B + q3)), (4, .ref (B + q4))] []
  refine v_aload_n C 0 dX6_putTogether_0 rfl rfl ?_
  refine gf6_vector C hlo hhi w253 dX6_putTogether_1 ?_
  refine v_aload_n C 2 dX6_putTogether_4 rfl rfl ?_
  refine v_callv (i := 61) (As := [.ref (B + q2)]) (rest := []) C (s_X4_copy (PO_full hlo hhi kt61) p2 h) w647 wy_X4_copy ⟨rfl, rfl⟩ hd_X4_copy ⟨Nat.le_of_ble_eq_true rfl, Nat.le_of_ble_eq_true rfl⟩ (PO.lo (PO_full hlo hhi kt61)) (PO.hi (PO_full hlo hhi kt61)) (cel_of ((PO_full hlo hhi kt61)).1) rfl rfl rfl (Nat.le_of_ble_eq_true rfl) dX6_putTogether_5 (fun σ1 h => ?_)
  refine v_R (fun hRσ1 => ?_)
  refine v_aload_n C 0 dX6_putTogether_8 rfl rfl ?_
  refine v_aload_n C 0 dX6_putTogether_9 rfl rfl ?_
  refine gf6_vector C hlo hhi w253 dX6_putTogether_10 ?_
  refine v_aload C 4 dX6_putTogether_13 rfl ?_
  refine v_iconst C dX6_putTogether_15 ?_
  refine v_callv (i := 48) (As := [.ref (B + 61), .ref (B + q4), .int (iI 1)]) (rest := []) C (s_X6_add hlo hhi (PO_full hlo hhi kt61) p4 (by decide) h) w668 wy_X6_add ⟨rfl, rfl⟩ hd_X6_add ⟨Nat.le_of_ble_eq_true rfl, Nat.le_of_ble_eq_true rfl⟩ (Nat.le_trans hlo (Nat.zero_le _)) (Nat.lt_of_lt_of_le (by decide) hhi) rfl rfl rfl rfl (Nat.le_of_ble_eq_true rfl) dX6_putTogether_16 (fun σ2 h => ?_)
  refine v_R (fun hRσ2 => ?_)
  refine v_aload_n C 0 dX6_putTogether_19 rfl rfl ?_
  refine v_aload_n C 1 dX6_putTogether_20 rfl rfl ?_
  refine v_aload_n C 3 dX6_putTogether_21 rfl rfl ?_
  refine v_callv (i := 48) (As := [.ref (B + q1), .ref (B + q3)]) (rest := []) C (s_X6_unitOf hlo hhi p1 p3 h) w669 wy_X6_unitOf ⟨rfl, rfl⟩ hd_X6_unitOf ⟨Nat.le_of_ble_eq_true rfl, Nat.le_of_ble_eq_true rfl⟩ (Nat.le_trans hlo (Nat.zero_le _)) (Nat.lt_of_lt_of_le (by decide) hhi) rfl rfl rfl rfl (Nat.le_of_ble_eq_true rfl) dX6_putTogether_22 (fun σ3 h => ?_)
  refine v_R (fun hRσ3 => ?_)
  refine v_aload_n C 0 dX6_putTogether_25 rfl rfl ?_
  refine v_aload_n C 1 dX6_putTogether_26 rfl rfl ?_
  refine v_aload_n C 1 dX6_putTogether_27 rfl rfl ?_
  refine v_aload_n C 0 dX6_putTogether_28 rfl rfl ?_
  refine gf6_vector C hlo hhi w253 dX6_putTogether_29 ?_
  refine v_callv (i := 48) (As := [.ref (B + q1), .ref (B + q1), .ref (B + 61)]) (rest := []) C (s_X6_multiply hlo hhi p1 p1 (PO_full hlo hhi kt61) h) w622 wy_X6_multiply ⟨rfl, rfl⟩ hd_X6_multiply ⟨Nat.le_of_ble_eq_true rfl, Nat.le_of_ble_eq_true rfl⟩ (Nat.le_trans hlo (Nat.zero_le _)) (Nat.lt_of_lt_of_le (by decide) hhi) rfl rfl rfl rfl (Nat.le_of_ble_eq_true rfl) dX6_putTogether_32 (fun σ4 h => ?_)
  refine v_R (fun hRσ4 => ?_)
  refine v_aload_n C 0 dX6_putTogether_35 rfl rfl ?_
  refine v_aload_n C 1 dX6_putTogether_36 rfl rfl ?_
  refine v_aload C 4 dX6_putTogether_37 rfl ?_
  refine v_iconst C dX6_putTogether_39 ?_
  refine v_callv (i := 48) (As := [.ref (B + q1), .ref (B + q4), .int (iI 0)]) (rest := []) C (s_X6_add hlo hhi p1 p4 (by decide) h) w668 wy_X6_add ⟨rfl, rfl⟩ hd_X6_add ⟨Nat.le_of_ble_eq_true rfl, Nat.le_of_ble_eq_true rfl⟩ (Nat.le_trans hlo (Nat.zero_le _)) (Nat.lt_of_lt_of_le (by decide) hhi) rfl rfl rfl rfl (Nat.le_of_ble_eq_true rfl) dX6_putTogether_40 (fun σ5 h => ?_)
  refine v_R (fun hRσ5 => ?_)
  exact v_vret C h dX6_putTogether_43
-- SplitTowers$Ring.traceOf(LSplitTowers$Poly;)I
def wp_X6_traceOf (σ : SG) (q1 : Nat) (Q : Int → SG → Prop) : Prop :=
  wp_X4_copy σ 59 q1 (fun (σ1 : SG) => wp_X4_becomeVariable σ1 61 (fun (σ2 : SG) => Lp2 (fun (rec6 : Int → Int → SG → Prop) (x3 : Int) (x4 : Int) (σ5 : SG) => (((σ5 2 1) ≤ x3 → wp_X7_reduced σ5 1 x4 (fun (z10 : Int) (σ9 : SG) => Q z10 σ9)) ∧ (¬ (σ5 2 1) ≤ x3 → wp_X4_at σ5 59 x3 (fun (z12 : Int) (σ11 : SG) => (inR (x4 + z12) ∧ (∀ v14 : Int, v14 = x4 + z12 → wp_X6_multiply σ11 59 59 61 (fun (σ15 : SG) => (inR (x3 + 1) ∧ rec6 (x3 + 1) v14 σ15)))))))) 0 0 σ2))
def rm_X6_traceOf : Room := { frames := 4, cells := 0, slots := 0, locals := 97 }
theorem wy_X6_traceOf : Cond.instanceMethod yX6_traceOf ∈ WS ∧ Cond.selects "SplitTowers$Ring" yX6_traceOf yX6_traceOf ∈ WS ∧ Cond.initialized "SplitTowers$Ring" ∈ WS ∧ Cond.code yX6_traceOf prog_8_method_9_code 4 (some .int) ∈ WS := ⟨w817, w818, w74, w819⟩
theorem hd_X6_traceOf : yX6_traceOf.cls = "SplitTowers$Ring" ∧ yX6_traceOf.cls ≠ "java/lang/invoke/MethodHandle" ∧ yX6_traceOf.cls ≠ "java/lang/invoke/VarHandle" ∧ (parseMethodDescriptor yX6_traceOf.desc).map (fun d => d.parameters.length) = some 1 := by decide +kernel
set_option maxHeartbeats 4000000 in
set_option maxRecDepth 100000 in
theorem s_X6_traceOf {l : Launch} {D : va_G} {aC : Nat → ClassId} {B lo hi : Nat} {σ : SG} {q1 : Nat} {Q : Int → SG → Prop} (hlo : lo ≤ 0) (hhi : 304 ≤ hi) (p1 : PO lo hi q1) (h : wp_X6_traceOf σ q1 Q) : Met l yX6_traceOf (Cond.code yX6_traceOf prog_8_method_9_code 4 (some .int) :: WS) rm_X6_traceOf (va_Pc [.ref (B + 48), .ref (B + q1)] (WP D aC B lo hi σ)) (QI D aC B lo hi Q) 0 0 (AB B lo hi) := by
  refine met_of (by decide +kernel) (by decide +kernel : yX6_traceOf.cls = "SplitTowers$Ring") (Nat.le_of_ble_eq_true rfl) ?_
  intro p e s m args below meth c C
  unfold wp_X6_traceOf at h
  refine v_R (fun hR0 => ?_)
  show V p l e rm_X6_traceOf s m args below meth c D aC B lo hi 4 (MQ below (QI D aC B lo hi Q) args s 0 0 (AB B lo hi)) σ 0 [(0, .ref (B + 48)), (1, .ref (B + q1))] []
  refine v_aload_n C 0 dX6_traceOf_0 rfl rfl ?_
  refine gf6_work C hlo hhi w252 dX6_traceOf_1 ?_
  refine v_aload_n C 1 dX6_traceOf_4 rfl rfl ?_
  refine v_callv (i := 59) (As := [.ref (B + q1)]) (rest := []) C (s_X4_copy (PO_full hlo hhi kt59) p1 h) w647 wy_X4_copy ⟨rfl, rfl⟩ hd_X4_copy ⟨Nat.le_of_ble_eq_true rfl, Nat.le_of_ble_eq_true rfl⟩ (PO.lo (PO_full hlo hhi kt59)) (PO.hi (PO_full hlo hhi kt59)) (cel_of ((PO_full hlo hhi kt59)).1) rfl rfl rfl (Nat.le_of_ble_eq_true rfl) dX6_traceOf_5 (fun σ1 h => ?_)
  refine v_R (fun hRσ1 => ?_)
  refine v_aload_n C 0 dX6_traceOf_8 rfl rfl ?_
  refine gf6_vector C hlo hhi w253 dX6_traceOf_9 ?_
  refine v_callv (i := 61) (As := []) (rest := []) C (s_X4_becomeVariable (PO_full hlo hhi kt61) h) w653 wy_X4_becomeVariable ⟨rfl, rfl⟩ hd_X4_becomeVariable ⟨Nat.le_of_ble_eq_true rfl, Nat.le_of_ble_eq_true rfl⟩ (PO.lo (PO_full hlo hhi kt61)) (PO.hi (PO_full hlo hhi kt61)) (cel_of ((PO_full hlo hhi kt61)).1) rfl rfl rfl (Nat.le_of_ble_eq_true rfl) dX6_traceOf_12 (fun σ2 h => ?_)
  refine v_R (fun hRσ2 => ?_)
  refine v_iconst C dX6_traceOf_15 ?_
  refine v_istore_n (lv' := [(2, .int (iI 0)), (0, .ref (B + 48)), (1, .ref (B + q1))]) C dX6_traceOf_16 rfl (by decide) rfl ?_
  refine v_iconst C dX6_traceOf_17 ?_
  refine v_istore_n (lv' := [(3, .int (iI 0)), (2, .int (iI 0)), (0, .ref (B + 48)), (1, .ref (B + q1))]) C dX6_traceOf_18 rfl (by decide) rfl ?_
  obtain ⟨I18, ⟨n19, hnn19⟩, hII18⟩ := h
  have key8 : ∀ (n : Nat) (x3 : Int) (x4 : Int) (σ5 : SG), I18 n x3 x4 σ5 → inR x3 → inR x4 → V p l e rm_X6_traceOf s m args below meth c D aC B lo hi 4 (MQ below (QI D aC B lo hi Q) args s 0 0 (AB B lo hi)) σ5 19 [(3, .int (iI x3)), (2, .int (iI x4)), (0, .ref (B + 48))] [] := by
    intro n
    induction n using Nat.strongRecOn with
    | ind n ih7 =>
      intro x3 x4 σ5 hn rx3 rx4
      have h := hII18 n x3 x4 σ5 hn
      refine v_R (fun hRσ5 => ?_)
      refine v_iload_n C 0 dX6_traceOf_19 rfl rfl ?_
      refine v_aload_n C 2 dX6_traceOf_20 rfl rfl ?_
      refine gf6_state C hlo hhi w245 dX6_traceOf_21 ?_
      refine gf7_modulus C (SO_full hlo hhi kt1) w159 dX6_traceOf_24 ?_
      refine gf4_degree C (PO_mod (SO_full hlo hhi kt1)) w107 dX6_traceOf_27 ?_
      refine v_icmp_ge C rx3 (hRσ5 2 1) 66 dX6_traceOf_30 (by decide) (fun c17 => ?_) (fun c17 => ?_)
      · have h := h.1 c17
        refine v_aload_n C 2 dX6_traceOf_66 rfl rfl ?_
        refine gf6_state C hlo hhi w245 dX6_traceOf_67 ?_
        refine v_iload_n C 1 dX6_traceOf_70 rfl rfl ?_
        refine v_calli (i := 1) (As := [.int (iI x4)]) (rest := []) C (s_X7_reduced (SO_full hlo hhi kt1) rx4 h) w820 wy_X7_reduced ⟨rfl, rfl⟩ hd_X7_reduced ⟨Nat.le_of_ble_eq_true rfl, Nat.le_of_ble_eq_true rfl⟩ (SO.lo (SO_full hlo hhi kt1)) (SO.hi (SO_full hlo hhi kt1)) (cel_of ((SO_full hlo hhi kt1)).1) rfl rfl rfl (Nat.le_of_ble_eq_true rfl) dX6_traceOf_71 (fun z10 σ9 rz10 h => ?_)
        refine v_R (fun hRσ9 => ?_)
        exact v_iret C rz10 h dX6_traceOf_74
      · have h := h.2 c17
        refine v_iload_n C 1 dX6_traceOf_33 rfl rfl ?_
        refine v_aload_n C 2 dX6_traceOf_34 rfl rfl ?_
        refine gf6_work C hlo hhi w252 dX6_traceOf_35 ?_
        refine v_iload_n C 0 dX6_traceOf_38 rfl rfl ?_
        refine v_calli (i := 59) (As := [.int (iI x3)]) (rest := [.int (iI x4)]) C (s_X4_at (PO_full hlo hhi kt59) rx3 h) w810 wy_X4_at ⟨rfl, rfl⟩ hd_X4_at ⟨Nat.le_of_ble_eq_true rfl, Nat.le_of_ble_eq_true rfl⟩ (PO.lo (PO_full hlo hhi kt59)) (PO.hi (PO_full hlo hhi kt59)) (cel_of ((PO_full hlo hhi kt59)).1) rfl rfl rfl (Nat.le_of_ble_eq_true rfl) dX6_traceOf_39 (fun z12 σ11 rz12 h => ?_)
        refine v_R (fun hRσ11 => ?_)
        have k13 := h.1
        have h := h.2
        refine v_iadd C dX6_traceOf_42 ?_
        refine v_name (fun v14 ev14 => ?_)
        have h := h v14 ev14
        have rv14 : inR v14 := by rw [ev14]; exact k13
        refine v_istore_n (lv' := [(2, .int (iI v14)), (3, .int (iI x3)), (0, .ref (B + 48))]) C dX6_traceOf_43 rfl (by decide) rfl ?_
        refine v_aload_n C 2 dX6_traceOf_44 rfl rfl ?_
        refine v_aload_n C 2 dX6_traceOf_45 rfl rfl ?_
        refine gf6_work C hlo hhi w252 dX6_traceOf_46 ?_
        refine v_aload_n C 2 dX6_traceOf_49 rfl rfl ?_
        refine gf6_work C hlo hhi w252 dX6_traceOf_50 ?_
        refine v_aload_n C 2 dX6_traceOf_53 rfl rfl ?_
        refine gf6_vector C hlo hhi w253 dX6_traceOf_54 ?_
        refine v_callv (i := 48) (As := [.ref (B + 59), .ref (B + 59), .ref (B + 61)]) (rest := []) C (s_X6_multiply hlo hhi (PO_full hlo hhi kt59) (PO_full hlo hhi kt59) (PO_full hlo hhi kt61) h) w622 wy_X6_multiply ⟨rfl, rfl⟩ hd_X6_multiply ⟨Nat.le_of_ble_eq_true rfl, Nat.le_of_ble_eq_true rfl⟩ (Nat.le_trans hlo (Nat.zero_le _)) (Nat.lt_of_lt_of_le (by decide) hhi) rfl rfl rfl rfl (Nat.le_of_ble_eq_true rfl) dX6_traceOf_57 (fun σ15 h => ?_)
        refine v_R (fun hRσ15 => ?_)
        have k16 := h.1
        have h := h.2
        refine v_iinc (lv' := [(3, .int (iI (x3 + 1))), (2, .int (iI v14)), (0, .ref (B + 48))]) C 1 dX6_traceOf_60 rfl (by decide) rfl ?_
        refine v_goto C 19 dX6_traceOf_63 (by decide) ?_
        obtain ⟨m9, hm9, h⟩ := h
        exact ih7 m9 hm9 (x3 + 1) v14 σ15 h k16 rv14
  refine v_sub [0, 1, 2] rfl ?_
  exact key8 n19 0 0 σ2 hnn19 (by decide) (by decide)
