-- SplitTowersModel.of(II)I
def wp_X10_of (σ : SG) (a1 : Int) (a2 : Int) (Q : Int → SG → Prop) : Prop :=
  (inR (14 * a1) ∧ (inR ((14 * a1) + a2) ∧ ((0 ≤ (14 * a1) + a2 ∧ (14 * a1) + a2 < 840) ∧ Q (σ 308 ((14 * a1) + a2).toNat) σ)))
def rm_X10_of : Room := { frames := 0, cells := 0, slots := 0, locals := 0 }
theorem wy_X10_of : Cond.instanceMethod yX10_of ∈ WS ∧ Cond.selects "SplitTowersModel" yX10_of yX10_of ∈ WS ∧ Cond.initialized "SplitTowersModel" ∈ WS ∧ Cond.code yX10_of prog_12_method_7_code 3 (some .int) ∈ WS := ⟨w965, w21, w79, w966⟩
theorem hd_X10_of : yX10_of.cls = "SplitTowersModel" ∧ yX10_of.cls ≠ "java/lang/invoke/MethodHandle" ∧ yX10_of.cls ≠ "java/lang/invoke/VarHandle" ∧ (parseMethodDescriptor yX10_of.desc).map (fun d => d.parameters.length) = some 2 := by decide +kernel
set_option maxHeartbeats 4000000 in
set_option maxRecDepth 100000 in
theorem s_X10_of {l : Launch} {D : va_G} {aC : Nat → ClassId} {B lo hi : Nat} {σ : SG} {a1 : Int} {a2 : Int} {Q : Int → SG → Prop} (hlo : lo ≤ 304) (hhi : 316 ≤ hi) (r1 : inR a1) (r2 : inR a2) (h : wp_X10_of σ a1 a2 Q) : Met l yX10_of (Cond.code yX10_of prog_12_method_7_code 3 (some .int) :: WS) rm_X10_of (va_Pc [.ref (B + 304), .int (iI a1), .int (iI a2)] (WP D aC B lo hi σ)) (QI D aC B lo hi Q) 0 0 (AB B lo hi) := by
  refine met_of (by decide +kernel) (by decide +kernel : yX10_of.cls = "SplitTowersModel") (Nat.le_of_ble_eq_true rfl) ?_
  intro p e s m args below meth c C
  unfold wp_X10_of at h
  refine v_R (fun hR0 => ?_)
  show V p l e rm_X10_of s m args below meth c D aC B lo hi 3 (MQ below (QI D aC B lo hi Q) args s 0 0 (AB B lo hi)) σ 0 [(0, .ref (B + 304)), (1, .int (iI a1)), (2, .int (iI a2))] []
  refine v_aload_n C 0 dX10_of_0 rfl rfl ?_
  refine gf10_table C hlo hhi w882 dX10_of_1 ?_
  refine v_bipush C dX10_of_4 (by decide) ?_
  refine v_iload_n C 1 dX10_of_6 rfl rfl ?_
  have k1 := h.1
  have h := h.2
  refine v_imul C dX10_of_7 ?_
  refine v_iload_n C 2 dX10_of_8 rfl rfl ?_
  have k2 := h.1
  have h := h.2
  refine v_iadd C dX10_of_9 ?_
  have k3 := h.1
  have h := h.2
  refine v_iald (i := 308) (n := 840) C (Nat.le_trans hlo (by decide)) (Nat.lt_of_lt_of_le (by decide) hhi) rfl k2 k3 dX10_of_10 ?_
  exact v_iret C (hR0 308 _) h dX10_of_11
-- SplitTowersModel.puts(III)V
def wp_X10_puts (σ : SG) (a1 : Int) (a2 : Int) (a3 : Int) (Q : SG → Prop) : Prop :=
  (inR (14 * a1) ∧ (inR ((14 * a1) + a2) ∧ ((0 ≤ (14 * a1) + a2 ∧ (14 * a1) + a2 < 840) ∧ (∀ σ4 : SG, σ4 = ug σ 308 (((14 * a1) + a2).toNat) a3 → Q σ4))))
def rm_X10_puts : Room := { frames := 0, cells := 0, slots := 0, locals := 0 }
theorem wy_X10_puts : Cond.instanceMethod yX10_puts ∈ WS ∧ Cond.selects "SplitTowersModel" yX10_puts yX10_puts ∈ WS ∧ Cond.initialized "SplitTowersModel" ∈ WS ∧ Cond.code yX10_puts prog_12_method_8_code 4 none ∈ WS := ⟨w957, w19, w79, w958⟩
theorem hd_X10_puts : yX10_puts.cls = "SplitTowersModel" ∧ yX10_puts.cls ≠ "java/lang/invoke/MethodHandle" ∧ yX10_puts.cls ≠ "java/lang/invoke/VarHandle" ∧ (parseMethodDescriptor yX10_puts.desc).map (fun d => d.parameters.length) = some 3 := by decide +kernel
set_option maxHeartbeats 4000000 in
set_option maxRecDepth 100000 in
theorem s_X10_puts {l : Launch} {D : va_G} {aC : Nat → ClassId} {B lo hi : Nat} {σ : SG} {a1 : Int} {a2 : Int} {a3 : Int} {Q : SG → Prop} (hlo : lo ≤ 304) (hhi : 316 ≤ hi) (r1 : inR a1) (r2 : inR a2) (r3 : inR a3) (h : wp_X10_puts σ a1 a2 a3 Q) : Met l yX10_puts (Cond.code yX10_puts prog_12_method_8_code 4 none :: WS) rm_X10_puts (va_Pc [.ref (B + 304), .int (iI a1), .int (iI a2), .int (iI a3)] (WP D aC B lo hi σ)) (QV D aC B lo hi Q) 0 0 (AB B lo hi) := by
  refine met_of (by decide +kernel) (by decide +kernel : yX10_puts.cls = "SplitTowersModel") (Nat.le_of_ble_eq_true rfl) ?_
  intro p e s m args below meth c C
  unfold wp_X10_puts at h
  refine v_R (fun hR0 => ?_)
  show V p l e rm_X10_puts s m args below meth c D aC B lo hi 4 (MQ below (QV D aC B lo hi Q) args s 0 0 (AB B lo hi)) σ 0 [(0, .ref (B + 304)), (1, .int (iI a1)), (2, .int (iI a2)), (3, .int (iI a3))] []
  refine v_aload_n C 0 dX10_puts_0 rfl rfl ?_
  refine gf10_table C hlo hhi w882 dX10_puts_1 ?_
  refine v_bipush C dX10_puts_4 (by decide) ?_
  refine v_iload_n C 1 dX10_puts_6 rfl rfl ?_
  have k1 := h.1
  have h := h.2
  refine v_imul C dX10_puts_7 ?_
  refine v_iload_n C 2 dX10_puts_8 rfl rfl ?_
  have k2 := h.1
  have h := h.2
  refine v_iadd C dX10_puts_9 ?_
  refine v_iload_n C 3 dX10_puts_10 rfl rfl ?_
  have k3 := h.1
  have h := h.2
  refine v_iast (i := 308) (n := 840) C (Nat.le_trans hlo (by decide)) (Nat.lt_of_lt_of_le (by decide) hhi) (fun _ => rfl) k2 k3 r3 dX10_puts_11 ?_
  refine v_nameS (fun σ4 eσ4 => ?_)
  have h := h σ4 eσ4
  refine v_R (fun hRσ4 => ?_)
  exact v_vret C h dX10_puts_12
-- SplitTowersModel.adds(III)V
def wp_X10_adds (σ : SG) (a1 : Int) (a2 : Int) (a3 : Int) (Q : SG → Prop) : Prop :=
  (∀ v1 : Int, v1 = (σ 305 0) → Lp1 (fun (rec4 : Int → SG → Prop) (x2 : Int) (σ3 : SG) => ((14 ≤ x2 → Q σ3) ∧ (¬ 14 ≤ x2 → wp_X10_of σ3 a2 x2 (fun (z8 : Int) (σ7 : SG) => wp_X10_of σ7 a1 x2 (fun (z10 : Int) (σ9 : SG) => (inR (a3 * z10) ∧ (inR (z8 + (a3 * z10)) ∧ (v1 ≠ 0 ∧ wp_X10_puts σ9 a2 x2 (Int.tmod (z8 + (a3 * z10)) v1) (fun (σ14 : SG) => (inR (x2 + 1) ∧ rec4 (x2 + 1) σ14)))))))))) 0 σ)
def rm_X10_adds : Room := { frames := 1, cells := 0, slots := 0, locals := 23 }
theorem wy_X10_adds : Cond.instanceMethod yX10_adds ∈ WS ∧ Cond.selects "SplitTowersModel" yX10_adds yX10_adds ∈ WS ∧ Cond.initialized "SplitTowersModel" ∈ WS ∧ Cond.code yX10_adds prog_12_method_18_code 6 none ∈ WS := ⟨w1060, w42, w79, w1061⟩
theorem hd_X10_adds : yX10_adds.cls = "SplitTowersModel" ∧ yX10_adds.cls ≠ "java/lang/invoke/MethodHandle" ∧ yX10_adds.cls ≠ "java/lang/invoke/VarHandle" ∧ (parseMethodDescriptor yX10_adds.desc).map (fun d => d.parameters.length) = some 3 := by decide +kernel
set_option maxHeartbeats 4000000 in
set_option maxRecDepth 100000 in
theorem s_X10_adds {l : Launch} {D : va_G} {aC : Nat → ClassId} {B lo hi : Nat} {σ : SG} {a1 : Int} {a2 : Int} {a3 : Int} {Q : SG → Prop} (hlo : lo ≤ 304) (hhi : 316 ≤ hi) (r1 : inR a1) (r2 : inR a2) (r3 : inR a3) (h : wp_X10_adds σ a1 a2 a3 Q) : Met l yX10_adds (Cond.code yX10_adds prog_12_method_18_code 6 none :: WS) rm_X10_adds (va_Pc [.ref (B + 304), .int (iI a1), .int (iI a2), .int (iI a3)] (WP D aC B lo hi σ)) (QV D aC B lo hi Q) 0 0 (AB B lo hi) := by
  refine met_of (by decide +kernel) (by decide +kernel : yX10_adds.cls = "SplitTowersModel") (Nat.le_of_ble_eq_true rfl) ?_
  intro p e s m args below meth c C
  unfold wp_X10_adds at h
  refine v_R (fun hR0 => ?_)
  show V p l e rm_X10_adds s m args below meth c D aC B lo hi 6 (MQ below (QV D aC B lo hi Q) args s 0 0 (AB B lo hi)) σ 0 [(0, .ref (B + 304)), (1, .int (iI a1)), (2, .int (iI a2)), (3, .int (iI a3))] []
  refine v_aload_n C 0 dX10_adds_0 rfl rfl ?_
  refine gf10_now C hlo hhi w877 dX10_adds_1 ?_
  refine v_iconst C dX10_adds_4 ?_
  refine v_iald (i := 305) (n := 87) C (Nat.le_trans hlo (by decide)) (Nat.lt_of_lt_of_le (by decide) hhi) rfl (by decide) ⟨by decide, by decide⟩ dX10_adds_5 ?_
  refine v_name (fun v1 ev1 => ?_)
  have h := h v1 ev1
  have rv1 : inR v1 := by rw [ev1]; exact (hR0 305 _)
  refine v_istore (lv' := [(4, .int (iI v1)), (0, .ref (B + 304)), (1, .int (iI a1)), (2, .int (iI a2)), (3, .int (iI a3))]) C dX10_adds_6 (by decide) rfl ?_
  refine v_iconst C dX10_adds_8 ?_
  refine v_istore (lv' := [(5, .int (iI 0)), (4, .int (iI v1)), (0, .ref (B + 304)), (1, .int (iI a1)), (2, .int (iI a2)), (3, .int (iI a3))]) C dX10_adds_9 (by decide) rfl ?_
  obtain ⟨I17, ⟨n18, hnn18⟩, hII17⟩ := h
  have key6 : ∀ (n : Nat) (x2 : Int) (σ3 : SG), I17 n x2 σ3 → inR x2 → V p l e rm_X10_adds s m args below meth c D aC B lo hi 6 (MQ below (QV D aC B lo hi Q) args s 0 0 (AB B lo hi)) σ3 11 [(5, .int (iI x2)), (4, .int (iI v1)), (0, .ref (B + 304)), (1, .int (iI a1)), (2, .int (iI a2)), (3, .int (iI a3))] [] := by
    intro n
    induction n using Nat.strongRecOn with
    | ind n ih5 =>
      intro x2 σ3 hn rx2
      have h := hII17 n x2 σ3 hn
      refine v_R (fun hRσ3 => ?_)
      refine v_iload C 0 dX10_adds_11 rfl ?_
      refine v_bipush C dX10_adds_13 (by decide) ?_
      refine v_icmp_ge C rx2 (by decide) 51 dX10_adds_15 (by decide) (fun c16 => ?_) (fun c16 => ?_)
      · have h := h.1 c16
        exact v_vret C h dX10_adds_51
      · have h := h.2 c16
        refine v_aload_n C 2 dX10_adds_18 rfl rfl ?_
        refine v_iload_n C 4 dX10_adds_19 rfl rfl ?_
        refine v_iload C 0 dX10_adds_20 rfl ?_
        refine v_aload_n C 2 dX10_adds_22 rfl rfl ?_
        refine v_iload_n C 4 dX10_adds_23 rfl rfl ?_
        refine v_iload C 0 dX10_adds_24 rfl ?_
        refine v_calli (i := 304) (As := [.int (iI a2), .int (iI x2)]) (rest := [.int (iI x2), .int (iI a2), .ref (B + 304)]) C (s_X10_of hlo hhi r2 rx2 h) w963 wy_X10_of ⟨rfl, rfl⟩ hd_X10_of ⟨Nat.le_of_ble_eq_true rfl, Nat.le_of_ble_eq_true rfl⟩ (Nat.le_trans hlo (by decide)) (Nat.lt_of_lt_of_le (by decide) hhi) rfl rfl rfl rfl (Nat.le_of_ble_eq_true rfl) dX10_adds_26 (fun z8 σ7 rz8 h => ?_)
        refine v_R (fun hRσ7 => ?_)
        refine v_iload_n C 5 dX10_adds_29 rfl rfl ?_
        refine v_aload_n C 2 dX10_adds_30 rfl rfl ?_
        refine v_iload_n C 3 dX10_adds_31 rfl rfl ?_
        refine v_iload C 0 dX10_adds_32 rfl ?_
        refine v_calli (i := 304) (As := [.int (iI a1), .int (iI x2)]) (rest := [.int (iI a3), .int (iI z8), .int (iI x2), .int (iI a2), .ref (B + 304)]) C (s_X10_of hlo hhi r1 rx2 h) w963 wy_X10_of ⟨rfl, rfl⟩ hd_X10_of ⟨Nat.le_of_ble_eq_true rfl, Nat.le_of_ble_eq_true rfl⟩ (Nat.le_trans hlo (by decide)) (Nat.lt_of_lt_of_le (by decide) hhi) rfl rfl rfl rfl (Nat.le_of_ble_eq_true rfl) dX10_adds_34 (fun z10 σ9 rz10 h => ?_)
        refine v_R (fun hRσ9 => ?_)
        have k11 := h.1
        have h := h.2
        refine v_imul C dX10_adds_37 ?_
        have k12 := h.1
        have h := h.2
        refine v_iadd C dX10_adds_38 ?_
        refine v_iload C 1 dX10_adds_39 rfl ?_
        have k13 := h.1
        have h := h.2
        refine v_irem C k12 rv1 k13 dX10_adds_41 ?_
        refine v_callv (i := 304) (As := [.int (iI a2), .int (iI x2), .int (iI (Int.tmod (z8 + (a3 * z10)) v1))]) (rest := []) C (s_X10_puts hlo hhi r2 rx2 (inR_tmod k12) h) w955 wy_X10_puts ⟨rfl, rfl⟩ hd_X10_puts ⟨Nat.le_of_ble_eq_true rfl, Nat.le_of_ble_eq_true rfl⟩ (Nat.le_trans hlo (by decide)) (Nat.lt_of_lt_of_le (by decide) hhi) rfl rfl rfl rfl (Nat.le_of_ble_eq_true rfl) dX10_adds_42 (fun σ14 h => ?_)
        refine v_R (fun hRσ14 => ?_)
        have k15 := h.1
        have h := h.2
        refine v_iinc (lv' := [(5, .int (iI (x2 + 1))), (4, .int (iI v1)), (0, .ref (B + 304)), (1, .int (iI a1)), (2, .int (iI a2)), (3, .int (iI a3))]) C 0 dX10_adds_45 rfl (by decide) rfl ?_
        refine v_goto C 11 dX10_adds_48 (by decide) ?_
        obtain ⟨m9, hm9, h⟩ := h
        exact ih5 m9 hm9 (x2 + 1) σ14 h k15
  exact key6 n18 0 σ hnn18 (by decide)
-- SplitTowersModel.clears(I)V
def wp_X10_clears (σ : SG) (a1 : Int) (Q : SG → Prop) : Prop :=
  Lp1 (fun (rec3 : Int → SG → Prop) (x1 : Int) (σ2 : SG) => ((14 ≤ x1 → Q σ2) ∧ (¬ 14 ≤ x1 → wp_X10_puts σ2 a1 x1 0 (fun (σ6 : SG) => (inR (x1 + 1) ∧ rec3 (x1 + 1) σ6))))) 0 σ
def rm_X10_clears : Room := { frames := 1, cells := 0, slots := 0, locals := 23 }
theorem wy_X10_clears : Cond.instanceMethod yX10_clears ∈ WS ∧ Cond.selects "SplitTowersModel" yX10_clears yX10_clears ∈ WS ∧ Cond.initialized "SplitTowersModel" ∈ WS ∧ Cond.code yX10_clears prog_12_method_10_code 3 none ∈ WS := ⟨w953, w18, w79, w954⟩
theorem hd_X10_clears : yX10_clears.cls = "SplitTowersModel" ∧ yX10_clears.cls ≠ "java/lang/invoke/MethodHandle" ∧ yX10_clears.cls ≠ "java/lang/invoke/VarHandle" ∧ (parseMethodDescriptor yX10_clears.desc).map (fun d => d.parameters.length) = some 1 := by decide +kernel
set_option maxHeartbeats 4000000 in
set_option maxRecDepth 100000 in
theorem s_X10_clears {l : Launch} {D : va_G} {aC : Nat → ClassId} {B lo hi : Nat} {σ : SG} {a1 : Int} {Q : SG → Prop} (hlo : lo ≤ 304) (hhi : 316 ≤ hi) (r1 : inR a1) (h : wp_X10_clears σ a1 Q) : Met l yX10_clears (Cond.code yX10_clears prog_12_method_10_code 3 none :: WS) rm_X10_clears (va_Pc [.ref (B + 304), .int (iI a1)] (WP D aC B lo hi σ)) (QV D aC B lo hi Q) 0 0 (AB B lo hi) := by
  refine met_of (by decide +kernel) (by decide +kernel : yX10_clears.cls = "SplitTowersModel") (Nat.le_of_ble_eq_true rfl) ?_
  intro p e s m args below meth c C
  unfold wp_X10_clears at h
  refine v_R (fun hR0 => ?_)
  show V p l e rm_X10_clears s m args below meth c D aC B lo hi 3 (MQ below (QV D aC B lo hi Q) args s 0 0 (AB B lo hi)) σ 0 [(0, .ref (B + 304)), (1, .int (iI a1))] []
  refine v_iconst C dX10_clears_0 ?_
  refine v_istore_n (lv' := [(2, .int (iI 0)), (0, .ref (B + 304)), (1, .int (iI a1))]) C dX10_clears_1 rfl (by decide) rfl ?_
  obtain ⟨I9, ⟨n10, hnn10⟩, hII9⟩ := h
  have key5 : ∀ (n : Nat) (x1 : Int) (σ2 : SG), I9 n x1 σ2 → inR x1 → V p l e rm_X10_clears s m args below meth c D aC B lo hi 3 (MQ below (QV D aC B lo hi Q) args s 0 0 (AB B lo hi)) σ2 2 [(2, .int (iI x1)), (0, .ref (B + 304)), (1, .int (iI a1))] [] := by
    intro n
    induction n using Nat.strongRecOn with
    | ind n ih4 =>
      intro x1 σ2 hn rx1
      have h := hII9 n x1 σ2 hn
      refine v_R (fun hRσ2 => ?_)
      refine v_iload_n C 0 dX10_clears_2 rfl rfl ?_
      refine v_bipush C dX10_clears_3 (by decide) ?_
      refine v_icmp_ge C rx1 (by decide) 21 dX10_clears_5 (by decide) (fun c8 => ?_) (fun c8 => ?_)
      · have h := h.1 c8
        exact v_vret C h dX10_clears_21
      · have h := h.2 c8
        refine v_aload_n C 1 dX10_clears_8 rfl rfl ?_
        refine v_iload_n C 2 dX10_clears_9 rfl rfl ?_
        refine v_iload_n C 0 dX10_clears_10 rfl rfl ?_
        refine v_iconst C dX10_clears_11 ?_
        refine v_callv (i := 304) (As := [.int (iI a1), .int (iI x1), .int (iI 0)]) (rest := []) C (s_X10_puts hlo hhi r1 rx1 (by decide) h) w955 wy_X10_puts ⟨rfl, rfl⟩ hd_X10_puts ⟨Nat.le_of_ble_eq_true rfl, Nat.le_of_ble_eq_true rfl⟩ (Nat.le_trans hlo (by decide)) (Nat.lt_of_lt_of_le (by decide) hhi) rfl rfl rfl rfl (Nat.le_of_ble_eq_true rfl) dX10_clears_12 (fun σ6 h => ?_)
        refine v_R (fun hRσ6 => ?_)
        have k7 := h.1
        have h := h.2
        refine v_iinc (lv' := [(2, .int (iI (x1 + 1))), (0, .ref (B + 304)), (1, .int (iI a1))]) C 0 dX10_clears_15 rfl (by decide) rfl ?_
        refine v_goto C 2 dX10_clears_18 (by decide) ?_
        obtain ⟨m9, hm9, h⟩ := h
        exact ih4 m9 hm9 (x1 + 1) σ6 h k7
  exact key5 n10 0 σ hnn10 (by decide)
-- SplitTowersModel.loads(III)V
def wp_X10_loads (σ : SG) (a1 : Int) (a2 : Int) (a3 : Int) (Q : SG → Prop) : Prop :=
  wp_X10_clears σ a3 (fun (σ1 : SG) => Lp1 (fun (rec4 : Int → SG → Prop) (x2 : Int) (σ3 : SG) => ((a2 ≤ x2 → Q σ3) ∧ (¬ a2 ≤ x2 → (inR (a1 + x2) ∧ ((0 ≤ a1 + x2 ∧ a1 + x2 < 87) ∧ wp_X10_puts σ3 a3 x2 (σ3 305 (a1 + x2).toNat) (fun (σ9 : SG) => (inR (x2 + 1) ∧ rec4 (x2 + 1) σ9))))))) 0 σ1)
def rm_X10_loads : Room := { frames := 2, cells := 0, slots := 0, locals := 45 }
theorem wy_X10_loads : Cond.instanceMethod yX10_loads ∈ WS ∧ Cond.selects "SplitTowersModel" yX10_loads yX10_loads ∈ WS ∧ Cond.initialized "SplitTowersModel" ∈ WS ∧ Cond.code yX10_loads prog_12_method_13_code 5 none ∈ WS := ⟨w997, w29, w79, w998⟩
theorem hd_X10_loads : yX10_loads.cls = "SplitTowersModel" ∧ yX10_loads.cls ≠ "java/lang/invoke/MethodHandle" ∧ yX10_loads.cls ≠ "java/lang/invoke/VarHandle" ∧ (parseMethodDescriptor yX10_loads.desc).map (fun d => d.parameters.length) = some 3 := by decide +kernel
set_option maxHeartbeats 4000000 in
set_option maxRecDepth 100000 in
theorem s_X10_loads {l : Launch} {D : va_G} {aC : Nat → ClassId} {B lo hi : Nat} {σ : SG} {a1 : Int} {a2 : Int} {a3 : Int} {Q : SG → Prop} (hlo : lo ≤ 304) (hhi : 316 ≤ hi) (r1 : inR a1) (r2 : inR a2) (r3 : inR a3) (h : wp_X10_loads σ a1 a2 a3 Q) : Met l yX10_loads (Cond.code yX10_loads prog_12_method_13_code 5 none :: WS) rm_X10_loads (va_Pc [.ref (B + 304), .int (iI a1), .int (iI a2), .int (iI a3)] (WP D aC B lo hi σ)) (QV D aC B lo hi Q) 0 0 (AB B lo hi) := by
  refine met_of (by decide +kernel) (by decide +kernel : yX10_loads.cls = "SplitTowersModel") (Nat.le_of_ble_eq_true rfl) ?_
  intro p e s m args below meth c C
  unfold wp_X10_loads at h
  refine v_R (fun hR0 => ?_)
  show V p l e rm_X10_loads s m args below meth c D aC B lo hi 5 (MQ below (QV D aC B lo hi Q) args s 0 0 (AB B lo hi)) σ 0 [(0, .ref (B + 304)), (1, .int (iI a1)), (2, .int (iI a2)), (3, .int (iI a3))] []
  refine v_aload_n C 0 dX10_loads_0 rfl rfl ?_
  refine v_iload_n C 3 dX10_loads_1 rfl rfl ?_
  refine v_callv (i := 304) (As := [.int (iI a3)]) (rest := []) C (s_X10_clears hlo hhi r3 h) w951 wy_X10_clears ⟨rfl, rfl⟩ hd_X10_clears ⟨Nat.le_of_ble_eq_true rfl, Nat.le_of_ble_eq_true rfl⟩ (Nat.le_trans hlo (by decide)) (Nat.lt_of_lt_of_le (by decide) hhi) rfl rfl rfl rfl (Nat.le_of_ble_eq_true rfl) dX10_loads_2 (fun σ1 h => ?_)
  refine v_R (fun hRσ1 => ?_)
  refine v_iconst C dX10_loads_5 ?_
  refine v_istore (lv' := [(4, .int (iI 0)), (0, .ref (B + 304)), (1, .int (iI a1)), (2, .int (iI a2)), (3, .int (iI a3))]) C dX10_loads_6 (by decide) rfl ?_
  obtain ⟨I12, ⟨n13, hnn13⟩, hII12⟩ := h
  have key6 : ∀ (n : Nat) (x2 : Int) (σ3 : SG), I12 n x2 σ3 → inR x2 → V p l e rm_X10_loads s m args below meth c D aC B lo hi 5 (MQ below (QV D aC B lo hi Q) args s 0 0 (AB B lo hi)) σ3 8 [(4, .int (iI x2)), (0, .ref (B + 304)), (1, .int (iI a1)), (2, .int (iI a2)), (3, .int (iI a3))] [] := by
    intro n
    induction n using Nat.strongRecOn with
    | ind n ih5 =>
      intro x2 σ3 hn rx2
      have h := hII12 n x2 σ3 hn
      refine v_R (fun hRσ3 => ?_)
      refine v_iload C 0 dX10_loads_8 rfl ?_
      refine v_iload_n C 3 dX10_loads_10 rfl rfl ?_
      refine v_icmp_ge C rx2 r2 36 dX10_loads_11 (by decide) (fun c11 => ?_) (fun c11 => ?_)
      · have h := h.1 c11
        exact v_vret C h dX10_loads_36
      · have h := h.2 c11
        refine v_aload_n C 1 dX10_loads_14 rfl rfl ?_
        refine v_iload_n C 4 dX10_loads_15 rfl rfl ?_
        refine v_iload C 0 dX10_loads_16 rfl ?_
        refine v_aload_n C 1 dX10_loads_18 rfl rfl ?_
        refine gf10_now C hlo hhi w877 dX10_loads_19 ?_
        refine v_iload_n C 2 dX10_loads_22 rfl rfl ?_
        refine v_iload C 0 dX10_loads_23 rfl ?_
        have k7 := h.1
        have h := h.2
        refine v_iadd C dX10_loads_25 ?_
        have k8 := h.1
        have h := h.2
        refine v_iald (i := 305) (n := 87) C (Nat.le_trans hlo (by decide)) (Nat.lt_of_lt_of_le (by decide) hhi) rfl k7 k8 dX10_loads_26 ?_
        refine v_callv (i := 304) (As := [.int (iI a3), .int (iI x2), .int (iI (σ3 305 (a1 + x2).toNat))]) (rest := []) C (s_X10_puts hlo hhi r3 rx2 (hRσ3 305 _) h) w955 wy_X10_puts ⟨rfl, rfl⟩ hd_X10_puts ⟨Nat.le_of_ble_eq_true rfl, Nat.le_of_ble_eq_true rfl⟩ (Nat.le_trans hlo (by decide)) (Nat.lt_of_lt_of_le (by decide) hhi) rfl rfl rfl rfl (Nat.le_of_ble_eq_true rfl) dX10_loads_27 (fun σ9 h => ?_)
        refine v_R (fun hRσ9 => ?_)
        have k10 := h.1
        have h := h.2
        refine v_iinc (lv' := [(4, .int (iI (x2 + 1))), (0, .ref (B + 304)), (1, .int (iI a1)), (2, .int (iI a2)), (3, .int (iI a3))]) C 0 dX10_loads_30 rfl (by decide) rfl ?_
        refine v_goto C 8 dX10_loads_33 (by decide) ?_
        obtain ⟨m9, hm9, h⟩ := h
        exact ih5 m9 hm9 (x2 + 1) σ9 h k10
  exact key6 n13 0 σ1 hnn13 (by decide)
-- SplitTowersModel.loadsModulus()V
def wp_X10_loadsModulus (σ : SG)  (Q : SG → Prop) : Prop :=
  wp_X10_loads σ 1 7 0 (fun (σ1 : SG) => Q σ1)
def rm_X10_loadsModulus : Room := { frames := 3, cells := 0, slots := 0, locals := 69 }
theorem wy_X10_loadsModulus : Cond.instanceMethod yX10_loadsModulus ∈ WS ∧ Cond.selects "SplitTowersModel" yX10_loadsModulus yX10_loadsModulus ∈ WS ∧ Cond.initialized "SplitTowersModel" ∈ WS ∧ Cond.code yX10_loadsModulus prog_12_method_14_code 1 none ∈ WS := ⟨w1028, w35, w79, w1029⟩
theorem hd_X10_loadsModulus : yX10_loadsModulus.cls = "SplitTowersModel" ∧ yX10_loadsModulus.cls ≠ "java/lang/invoke/MethodHandle" ∧ yX10_loadsModulus.cls ≠ "java/lang/invoke/VarHandle" ∧ (parseMethodDescriptor yX10_loadsModulus.desc).map (fun d => d.parameters.length) = some 0 := by decide +kernel
set_option maxHeartbeats 4000000 in
set_option maxRecDepth 100000 in
theorem s_X10_loadsModulus {l : Launch} {D : va_G} {aC : Nat → ClassId} {B lo hi : Nat} {σ : SG}  {Q : SG → Prop} (hlo : lo ≤ 304) (hhi : 316 ≤ hi) (h : wp_X10_loadsModulus σ  Q) : Met l yX10_loadsModulus (Cond.code yX10_loadsModulus prog_12_method_14_code 1 none :: WS) rm_X10_loadsModulus (va_Pc [.ref (B + 304)] (WP D aC B lo hi σ)) (QV D aC B lo hi Q) 0 0 (AB B lo hi) := by
  refine met_of (by decide +kernel) (by decide +kernel : yX10_loadsModulus.cls = "SplitTowersModel") (Nat.le_of_ble_eq_true rfl) ?_
  intro p e s m args below meth c C
  unfold wp_X10_loadsModulus at h
  refine v_R (fun hR0 => ?_)
  show V p l e rm_X10_loadsModulus s m args below meth c D aC B lo hi 1 (MQ below (QV D aC B lo hi Q) args s 0 0 (AB B lo hi)) σ 0 [(0, .ref (B + 304))] []
  refine v_aload_n C 0 dX10_loadsModulus_0 rfl rfl ?_
  refine v_iconst C dX10_loadsModulus_1 ?_
  refine v_bipush C dX10_loadsModulus_2 (by decide) ?_
  refine v_iconst C dX10_loadsModulus_4 ?_
  refine v_callv (i := 304) (As := [.int (iI 1), .int (iI 7), .int (iI 0)]) (rest := []) C (s_X10_loads hlo hhi (by decide) (by decide) (by decide) h) w995 wy_X10_loads ⟨rfl, rfl⟩ hd_X10_loads ⟨Nat.le_of_ble_eq_true rfl, Nat.le_of_ble_eq_true rfl⟩ (Nat.le_trans hlo (by decide)) (Nat.lt_of_lt_of_le (by decide) hhi) rfl rfl rfl rfl (Nat.le_of_ble_eq_true rfl) dX10_loadsModulus_5 (fun σ1 h => ?_)
  refine v_R (fun hRσ1 => ?_)
  exact v_vret C h dX10_loadsModulus_8
-- SplitTowersModel.copies(II)V
def wp_X10_copies (σ : SG) (a1 : Int) (a2 : Int) (Q : SG → Prop) : Prop :=
  Lp1 (fun (rec3 : Int → SG → Prop) (x1 : Int) (σ2 : SG) => ((14 ≤ x1 → Q σ2) ∧ (¬ 14 ≤ x1 → wp_X10_of σ2 a1 x1 (fun (z7 : Int) (σ6 : SG) => wp_X10_puts σ6 a2 x1 z7 (fun (σ8 : SG) => (inR (x1 + 1) ∧ rec3 (x1 + 1) σ8)))))) 0 σ
def rm_X10_copies : Room := { frames := 1, cells := 0, slots := 0, locals := 23 }
theorem wy_X10_copies : Cond.instanceMethod yX10_copies ∈ WS ∧ Cond.selects "SplitTowersModel" yX10_copies yX10_copies ∈ WS ∧ Cond.initialized "SplitTowersModel" ∈ WS ∧ Cond.code yX10_copies prog_12_method_11_code 4 none ∈ WS := ⟨w973, w23, w79, w974⟩
theorem hd_X10_copies : yX10_copies.cls = "SplitTowersModel" ∧ yX10_copies.cls ≠ "java/lang/invoke/MethodHandle" ∧ yX10_copies.cls ≠ "java/lang/invoke/VarHandle" ∧ (parseMethodDescriptor yX10_copies.desc).map (fun d => d.parameters.length) = some 2 := by decide +kernel
set_option maxHeartbeats 4000000 in
set_option maxRecDepth 100000 in
theorem s_X10_copies {l : Launch} {D : va_G} {aC : Nat → ClassId} {B lo hi : Nat} {σ : SG} {a1 : Int} {a2 : Int} {Q : SG → Prop} (hlo : lo ≤ 304) (hhi : 316 ≤ hi) (r1 : inR a1) (r2 : inR a2) (h : wp_X10_copies σ a1 a2 Q) : Met l yX10_copies (Cond.code yX10_copies prog_12_method_11_code 4 none :: WS) rm_X10_copies (va_Pc [.ref (B + 304), .int (iI a1), .int (iI a2)] (WP D aC B lo hi σ)) (QV D aC B lo hi Q) 0 0 (AB B lo hi) := by
  refine met_of (by decide +kernel) (by decide +kernel : yX10_copies.cls = "SplitTowersModel") (Nat.le_of_ble_eq_true rfl) ?_
  intro p e s m args below meth c C
  unfold wp_X10_copies at h
  refine v_R (fun hR0 => ?_)
  show V p l e rm_X10_copies s m args below meth c D aC B lo hi 4 (MQ below (QV D aC B lo hi Q) args s 0 0 (AB B lo hi)) σ 0 [(0, .ref (B + 304)), (1, .int (iI a1)), (2, .int (iI a2))] []
  refine v_iconst C dX10_copies_0 ?_
  refine v_istore_n (lv' := [(3, .int (iI 0)), (0, .ref (B + 304)), (1, .int (iI a1)), (2, .int (iI a2))]) C dX10_copies_1 rfl (by decide) rfl ?_
  obtain ⟨I11, ⟨n12, hnn12⟩, hII11⟩ := h
  have key5 : ∀ (n : Nat) (x1 : Int) (σ2 : SG), I11 n x1 σ2 → inR x1 → V p l e rm_X10_copies s m args below meth c D aC B lo hi 4 (MQ below (QV D aC B lo hi Q) args s 0 0 (AB B lo hi)) σ2 2 [(3, .int (iI x1)), (0, .ref (B + 304)), (1, .int (iI a1)), (2, .int (iI a2))] [] := by
    intro n
    induction n using Nat.strongRecOn with
    | ind n ih4 =>
      intro x1 σ2 hn rx1
      have h := hII11 n x1 σ2 hn
      refine v_R (fun hRσ2 => ?_)
      refine v_iload_n C 0 dX10_copies_2 rfl rfl ?_
      refine v_bipush C dX10_copies_3 (by decide) ?_
      refine v_icmp_ge C rx1 (by decide) 26 dX10_copies_5 (by decide) (fun c10 => ?_) (fun c10 => ?_)
      · have h := h.1 c10
        exact v_vret C h dX10_copies_26
      · have h := h.2 c10
        refine v_aload_n C 1 dX10_copies_8 rfl rfl ?_
        refine v_iload_n C 3 dX10_copies_9 rfl rfl ?_
        refine v_iload_n C 0 dX10_copies_10 rfl rfl ?_
        refine v_aload_n C 1 dX10_copies_11 rfl rfl ?_
        refine v_iload_n C 2 dX10_copies_12 rfl rfl ?_
        refine v_iload_n C 0 dX10_copies_13 rfl rfl ?_
        refine v_calli (i := 304) (As := [.int (iI a1), .int (iI x1)]) (rest := [.int (iI x1), .int (iI a2), .ref (B + 304)]) C (s_X10_of hlo hhi r1 rx1 h) w963 wy_X10_of ⟨rfl, rfl⟩ hd_X10_of ⟨Nat.le_of_ble_eq_true rfl, Nat.le_of_ble_eq_true rfl⟩ (Nat.le_trans hlo (by decide)) (Nat.lt_of_lt_of_le (by decide) hhi) rfl rfl rfl rfl (Nat.le_of_ble_eq_true rfl) dX10_copies_14 (fun z7 σ6 rz7 h => ?_)
        refine v_R (fun hRσ6 => ?_)
        refine v_callv (i := 304) (As := [.int (iI a2), .int (iI x1), .int (iI z7)]) (rest := []) C (s_X10_puts hlo hhi r2 rx1 rz7 h) w955 wy_X10_puts ⟨rfl, rfl⟩ hd_X10_puts ⟨Nat.le_of_ble_eq_true rfl, Nat.le_of_ble_eq_true rfl⟩ (Nat.le_trans hlo (by decide)) (Nat.lt_of_lt_of_le (by decide) hhi) rfl rfl rfl rfl (Nat.le_of_ble_eq_true rfl) dX10_copies_17 (fun σ8 h => ?_)
        refine v_R (fun hRσ8 => ?_)
        have k9 := h.1
        have h := h.2
        refine v_iinc (lv' := [(3, .int (iI (x1 + 1))), (0, .ref (B + 304)), (1, .int (iI a1)), (2, .int (iI a2))]) C 0 dX10_copies_20 rfl (by decide) rfl ?_
        refine v_goto C 2 dX10_copies_23 (by decide) ?_
        obtain ⟨m9, hm9, h⟩ := h
        exact ih4 m9 hm9 (x1 + 1) σ8 h k9
  exact key5 n12 0 σ hnn12 (by decide)
-- SplitTowersModel.degree(I)I
def wp_X10_degree (σ : SG) (a1 : Int) (Q : Int → SG → Prop) : Prop :=
  Lp1 (fun (rec3 : Int → SG → Prop) (x1 : Int) (σ2 : SG) => ((x1 < 0 → Q x1 σ2) ∧ (¬ x1 < 0 → wp_X10_of σ2 a1 x1 (fun (z7 : Int) (σ6 : SG) => ((¬ z7 = 0 → Q x1 σ6) ∧ (z7 = 0 → (inR (x1 + (-1)) ∧ rec3 (x1 + (-1)) σ6))))))) 13 σ
def rm_X10_degree : Room := { frames := 1, cells := 0, slots := 0, locals := 22 }
theorem wy_X10_degree : Cond.instanceMethod yX10_degree ∈ WS ∧ Cond.selects "SplitTowersModel" yX10_degree yX10_degree ∈ WS ∧ Cond.initialized "SplitTowersModel" ∈ WS ∧ Cond.code yX10_degree prog_12_method_9_code 3 (some .int) ∈ WS := ⟨w977, w24, w79, w978⟩
theorem hd_X10_degree : yX10_degree.cls = "SplitTowersModel" ∧ yX10_degree.cls ≠ "java/lang/invoke/MethodHandle" ∧ yX10_degree.cls ≠ "java/lang/invoke/VarHandle" ∧ (parseMethodDescriptor yX10_degree.desc).map (fun d => d.parameters.length) = some 1 := by decide +kernel
set_option maxHeartbeats 4000000 in
set_option maxRecDepth 100000 in
theorem s_X10_degree {l : Launch} {D : va_G} {aC : Nat → ClassId} {B lo hi : Nat} {σ : SG} {a1 : Int} {Q : Int → SG → Prop} (hlo : lo ≤ 304) (hhi : 316 ≤ hi) (r1 : inR a1) (h : wp_X10_degree σ a1 Q) : Met l yX10_degree (Cond.code yX10_degree prog_12_method_9_code 3 (some .int) :: WS) rm_X10_degree (va_Pc [.ref (B + 304), .int (iI a1)] (WP D aC B lo hi σ)) (QI D aC B lo hi Q) 0 0 (AB B lo hi) := by
  refine met_of (by decide +kernel) (by decide +kernel : yX10_degree.cls = "SplitTowersModel") (Nat.le_of_ble_eq_true rfl) ?_
  intro p e s m args below meth c C
  unfold wp_X10_degree at h
  refine v_R (fun hR0 => ?_)
  show V p l e rm_X10_degree s m args below meth c D aC B lo hi 3 (MQ below (QI D aC B lo hi Q) args s 0 0 (AB B lo hi)) σ 0 [(0, .ref (B + 304)), (1, .int (iI a1))] []
  refine v_bipush C dX10_degree_0 (by decide) ?_
  refine v_istore_n (lv' := [(2, .int (iI 13)), (0, .ref (B + 304)), (1, .int (iI a1))]) C dX10_degree_2 rfl (by decide) rfl ?_
  obtain ⟨I11, ⟨n12, hnn12⟩, hII11⟩ := h
  have key5 : ∀ (n : Nat) (x1 : Int) (σ2 : SG), I11 n x1 σ2 → inR x1 → V p l e rm_X10_degree s m args below meth c D aC B lo hi 3 (MQ below (QI D aC B lo hi Q) args s 0 0 (AB B lo hi)) σ2 3 [(2, .int (iI x1)), (0, .ref (B + 304)), (1, .int (iI a1))] [] := by
    intro n
    induction n using Nat.strongRecOn with
    | ind n ih4 =>
      intro x1 σ2 hn rx1
      have h := hII11 n x1 σ2 hn
      refine v_R (fun hRσ2 => ?_)
      refine v_iload_n C 0 dX10_degree_3 rfl rfl ?_
      refine v_if_lt C rx1 22 dX10_degree_4 (by decide) (fun c10 => ?_) (fun c10 => ?_)
      · have h := h.1 c10
        refine v_iload_n C 0 dX10_degree_22 rfl rfl ?_
        exact v_iret C rx1 h dX10_degree_23
      · have h := h.2 c10
        refine v_aload_n C 1 dX10_degree_7 rfl rfl ?_
        refine v_iload_n C 2 dX10_degree_8 rfl rfl ?_
        refine v_iload_n C 0 dX10_degree_9 rfl rfl ?_
        refine v_calli (i := 304) (As := [.int (iI a1), .int (iI x1)]) (rest := []) C (s_X10_of hlo hhi r1 rx1 h) w963 wy_X10_of ⟨rfl, rfl⟩ hd_X10_of ⟨Nat.le_of_ble_eq_true rfl, Nat.le_of_ble_eq_true rfl⟩ (Nat.le_trans hlo (by decide)) (Nat.lt_of_lt_of_le (by decide) hhi) rfl rfl rfl rfl (Nat.le_of_ble_eq_true rfl) dX10_degree_10 (fun z7 σ6 rz7 h => ?_)
        refine v_R (fun hRσ6 => ?_)
        refine v_if_ne C rz7 22 dX10_degree_13 (by decide) (fun c9 => ?_) (fun c9 => ?_)
        · have h := h.1 c9
          refine v_iload_n C 0 dX10_degree_22 rfl rfl ?_
          exact v_iret C rx1 h dX10_degree_23
        · have h := h.2 c9
          have k8 := h.1
          have h := h.2
          refine v_iinc (lv' := [(2, .int (iI (x1 + (-1)))), (0, .ref (B + 304)), (1, .int (iI a1))]) C 0 dX10_degree_16 rfl (by decide) rfl ?_
          refine v_goto C 3 dX10_degree_19 (by decide) ?_
          obtain ⟨m9, hm9, h⟩ := h
          exact ih4 m9 hm9 (x1 + (-1)) σ6 h k8
  exact key5 n12 13 σ hnn12 (by decide)
-- SplitTowersModel.inverse(I)I
def wp_X10_inverse (σ : SG) (a1 : Int) (Q : Int → SG → Prop) : Prop :=
  Lp1 (fun (rec3 : Int → SG → Prop) (x1 : Int) (σ2 : SG) => (inR (a1 * x1) ∧ ((σ2 305 0) ≠ 0 ∧ (((Int.tmod (a1 * x1) (σ2 305 0)) = 1 → Q x1 σ2) ∧ (¬ (Int.tmod (a1 * x1) (σ2 305 0)) = 1 → (inR (x1 + 1) ∧ rec3 (x1 + 1) σ2)))))) 1 σ
def rm_X10_inverse : Room := { frames := 0, cells := 0, slots := 0, locals := 0 }
theorem wy_X10_inverse : Cond.instanceMethod yX10_inverse ∈ WS ∧ Cond.selects "SplitTowersModel" yX10_inverse yX10_inverse ∈ WS ∧ Cond.initialized "SplitTowersModel" ∈ WS ∧ Cond.code yX10_inverse prog_12_method_17_code 3 (some .int) ∈ WS := ⟨w985, w26, w79, w986⟩
theorem hd_X10_inverse : yX10_inverse.cls = "SplitTowersModel" ∧ yX10_inverse.cls ≠ "java/lang/invoke/MethodHandle" ∧ yX10_inverse.cls ≠ "java/lang/invoke/VarHandle" ∧ (parseMethodDescriptor yX10_inverse.desc).map (fun d => d.parameters.length) = some 1 := by decide +kernel
set_option maxHeartbeats 4000000 in
set_option maxRecDepth 100000 in
theorem s_X10_inverse {l : Launch} {D : va_G} {aC : Nat → ClassId} {B lo hi : Nat} {σ : SG} {a1 : Int} {Q : Int → SG → Prop} (hlo : lo ≤ 304) (hhi : 316 ≤ hi) (r1 : inR a1) (h : wp_X10_inverse σ a1 Q) : Met l yX10_inverse (Cond.code yX10_inverse prog_12_method_17_code 3 (some .int) :: WS) rm_X10_inverse (va_Pc [.ref (B + 304), .int (iI a1)] (WP D aC B lo hi σ)) (QI D aC B lo hi Q) 0 0 (AB B lo hi) := by
  refine met_of (by decide +kernel) (by decide +kernel : yX10_inverse.cls = "SplitTowersModel") (Nat.le_of_ble_eq_true rfl) ?_
  intro p e s m args below meth c C
  unfold wp_X10_inverse at h
  refine v_R (fun hR0 => ?_)
  show V p l e rm_X10_inverse s m args below meth c D aC B lo hi 3 (MQ below (QI D aC B lo hi Q) args s 0 0 (AB B lo hi)) σ 0 [(0, .ref (B + 304)), (1, .int (iI a1))] []
  refine v_iconst C dX10_inverse_0 ?_
  refine v_istore_n (lv' := [(2, .int (iI 1)), (0, .ref (B + 304)), (1, .int (iI a1))]) C dX10_inverse_1 rfl (by decide) rfl ?_
  obtain ⟨I10, ⟨n11, hnn11⟩, hII10⟩ := h
  have key5 : ∀ (n : Nat) (x1 : Int) (σ2 : SG), I10 n x1 σ2 → inR x1 → V p l e rm_X10_inverse s m args below meth c D aC B lo hi 3 (MQ below (QI D aC B lo hi Q) args s 0 0 (AB B lo hi)) σ2 2 [(2, .int (iI x1)), (0, .ref (B + 304)), (1, .int (iI a1))] [] := by
    intro n
    induction n using Nat.strongRecOn with
    | ind n ih4 =>
      intro x1 σ2 hn rx1
      have h := hII10 n x1 σ2 hn
      refine v_R (fun hRσ2 => ?_)
      refine v_iload_n C 2 dX10_inverse_2 rfl rfl ?_
      refine v_iload_n C 0 dX10_inverse_3 rfl rfl ?_
      have k6 := h.1
      have h := h.2
      refine v_imul C dX10_inverse_4 ?_
      refine v_aload_n C 1 dX10_inverse_5 rfl rfl ?_
      refine gf10_now C hlo hhi w877 dX10_inverse_6 ?_
      refine v_iconst C dX10_inverse_9 ?_
      refine v_iald (i := 305) (n := 87) C (Nat.le_trans hlo (by decide)) (Nat.lt_of_lt_of_le (by decide) hhi) rfl (by decide) ⟨by decide, by decide⟩ dX10_inverse_10 ?_
      have k7 := h.1
      have h := h.2
      refine v_irem C k6 (hRσ2 305 _) k7 dX10_inverse_11 ?_
      refine v_iconst C dX10_inverse_12 ?_
      refine v_icmp_eq C (inR_tmod k6) (by decide) 22 dX10_inverse_13 (by decide) (fun c9 => ?_) (fun c9 => ?_)
      · have h := h.1 c9
        refine v_iload_n C 0 dX10_inverse_22 rfl rfl ?_
        exact v_iret C rx1 h dX10_inverse_23
      · have h := h.2 c9
        have k8 := h.1
        have h := h.2
        refine v_iinc (lv' := [(2, .int (iI (x1 + 1))), (0, .ref (B + 304)), (1, .int (iI a1))]) C 0 dX10_inverse_16 rfl (by decide) rfl ?_
        refine v_goto C 2 dX10_inverse_19 (by decide) ?_
        obtain ⟨m9, hm9, h⟩ := h
        exact ih4 m9 hm9 (x1 + 1) σ2 h k8
  exact key5 n11 1 σ hnn11 (by decide)
-- SplitTowersModel.divides(III)V
def wp_X10_divides (σ : SG) (a1 : Int) (a2 : Int) (a3 : Int) (Q : SG → Prop) : Prop :=
  (∀ v1 : Int, v1 = (σ 305 0) → wp_X10_degree σ a2 (fun (z3 : Int) (σ2 : SG) => wp_X10_of σ2 a2 z3 (fun (z5 : Int) (σ4 : SG) => wp_X10_inverse σ4 z5 (fun (z7 : Int) (σ6 : SG) => Jn0 (fun  (σ8 : SG) => wp_X10_degree σ8 a1 (fun (z11 : Int) (σ10 : SG) => Lp1 (fun (rec14 : Int → SG → Prop) (x12 : Int) (σ13 : SG) => ((x12 < z3 → Q σ13) ∧ (¬ x12 < z3 → wp_X10_of σ13 a1 x12 (fun (z18 : Int) (σ17 : SG) => (inR (z18 * z7) ∧ (v1 ≠ 0 ∧ (∀ v21 : Int, v21 = (Int.tmod (z18 * z7) v1) → Lp1 (fun (rec24 : Int → SG → Prop) (x22 : Int) (σ23 : SG) => ((z3 < x22 → Jn0 (fun  (σ27 : SG) => wp_X10_degree σ27 a1 (fun (z30 : Int) (σ29 : SG) => rec14 z30 σ29)) (fun J28 => ((a3 < 0 → J28 σ23) ∧ (¬ a3 < 0 → (inR (x12 - z3) ∧ wp_X10_puts σ23 a3 (x12 - z3) v21 (fun (σ32 : SG) => J28 σ32)))))) ∧ (¬ z3 < x22 → (inR (x12 - z3) ∧ (inR ((x12 - z3) + x22) ∧ (inR (x12 - z3) ∧ (inR ((x12 - z3) + x22) ∧ wp_X10_of σ23 a1 ((x12 - z3) + x22) (fun (z39 : Int) (σ38 : SG) => (inR (v1 - v21) ∧ wp_X10_of σ38 a2 x22 (fun (z42 : Int) (σ41 : SG) => (inR ((v1 - v21) * z42) ∧ (inR (z39 + ((v1 - v21) * z42)) ∧ (v1 ≠ 0 ∧ wp_X10_puts σ41 a1 ((x12 - z3) + x22) (Int.tmod (z39 + ((v1 - v21) * z42)) v1) (fun (σ46 : SG) => (inR (x22 + 1) ∧ rec24 (x22 + 1) σ46))))))))))))))) 0 σ17))))))) z11 σ10)) (fun J9 => ((a3 < 0 → J9 σ6) ∧ (¬ a3 < 0 → wp_X10_clears σ6 a3 (fun (σ54 : SG) => J9 σ54))))))))
def rm_X10_divides : Room := { frames := 2, cells := 0, slots := 0, locals := 45 }
theorem wy_X10_divides : Cond.instanceMethod yX10_divides ∈ WS ∧ Cond.selects "SplitTowersModel" yX10_divides yX10_divides ∈ WS ∧ Cond.initialized "SplitTowersModel" ∈ WS ∧ Cond.code yX10_divides prog_12_method_20_code 10 none ∈ WS := ⟨w981, w25, w79, w982⟩
theorem hd_X10_divides : yX10_divides.cls = "SplitTowersModel" ∧ yX10_divides.cls ≠ "java/lang/invoke/MethodHandle" ∧ yX10_divides.cls ≠ "java/lang/invoke/VarHandle" ∧ (parseMethodDescriptor yX10_divides.desc).map (fun d => d.parameters.length) = some 3 := by decide +kernel
set_option maxHeartbeats 4000000 in
set_option maxRecDepth 100000 in
theorem s_X10_divides {l : Launch} {D : va_G} {aC : Nat → ClassId} {B lo hi : Nat} {σ : SG} {a1 : Int} {a2 : Int} {a3 : Int} {Q : SG → Prop} (hlo : lo ≤ 304) (hhi : 316 ≤ hi) (r1 : inR a1) (r2 : inR a2) (r3 : inR a3) (h : wp_X10_divides σ a1 a2 a3 Q) : Met l yX10_divides (Cond.code yX10_divides prog_12_method_20_code 10 none :: WS) rm_X10_divides (va_Pc [.ref (B + 304), .int (iI a1), .int (iI a2), .int (iI a3)] (WP D aC B lo hi σ)) (QV D aC B lo hi Q) 0 0 (AB B lo hi) := by
  refine met_of (by decide +kernel) (by decide +kernel : yX10_divides.cls = "SplitTowersModel") (Nat.le_of_ble_eq_true rfl) ?_
  intro p e s m args below meth c C
  unfold wp_X10_divides at h
  refine v_R (fun hR0 => ?_)
  show V p l e rm_X10_divides s m args below meth c D aC B lo hi 10 (MQ below (QV D aC B lo hi Q) args s 0 0 (AB B lo hi)) σ 0 [(0, .ref (B + 304)), (1, .int (iI a1)), (2, .int (iI a2)), (3, .int (iI a3))] []
  refine v_aload_n C 0 dX10_divides_0 rfl rfl ?_
  refine gf10_now C hlo hhi w877 dX10_divides_1 ?_
  refine v_iconst C dX10_divides_4 ?_
  refine v_iald (i := 305) (n := 87) C (Nat.le_trans hlo (by decide)) (Nat.lt_of_lt_of_le (by decide) hhi) rfl (by decide) ⟨by decide, by decide⟩ dX10_divides_5 ?_
  refine v_name (fun v1 ev1 => ?_)
  have h := h v1 ev1
  have rv1 : inR v1 := by rw [ev1]; exact (hR0 305 _)
  refine v_istore (lv' := [(4, .int (iI v1)), (0, .ref (B + 304)), (1, .int (iI a1)), (2, .int (iI a2)), (3, .int (iI a3))]) C dX10_divides_6 (by decide) rfl ?_
  refine v_aload_n C 1 dX10_divides_8 rfl rfl ?_
  refine v_iload_n C 3 dX10_divides_9 rfl rfl ?_
  refine v_calli (i := 304) (As := [.int (iI a2)]) (rest := []) C (s_X10_degree hlo hhi r2 h) w975 wy_X10_degree ⟨rfl, rfl⟩ hd_X10_degree ⟨Nat.le_of_ble_eq_true rfl, Nat.le_of_ble_eq_true rfl⟩ (Nat.le_trans hlo (by decide)) (Nat.lt_of_lt_of_le (by decide) hhi) rfl rfl rfl rfl (Nat.le_of_ble_eq_true rfl) dX10_divides_10 (fun z3 σ2 rz3 h => ?_)
  refine v_R (fun hRσ2 => ?_)
  refine v_istore (lv' := [(5, .int (iI z3)), (4, .int (iI v1)), (0, .ref (B + 304)), (1, .int (iI a1)), (2, .int (iI a2)), (3, .int (iI a3))]) C dX10_divides_13 (by decide) rfl ?_
  refine v_aload_n C 2 dX10_divides_15 rfl rfl ?_
  refine v_aload_n C 2 dX10_divides_16 rfl rfl ?_
  refine v_iload_n C 4 dX10_divides_17 rfl rfl ?_
  refine v_iload C 0 dX10_divides_18 rfl ?_
  refine v_calli (i := 304) (As := [.int (iI a2), .int (iI z3)]) (rest := [.ref (B + 304)]) C (s_X10_of hlo hhi r2 rz3 h) w963 wy_X10_of ⟨rfl, rfl⟩ hd_X10_of ⟨Nat.le_of_ble_eq_true rfl, Nat.le_of_ble_eq_true rfl⟩ (Nat.le_trans hlo (by decide)) (Nat.lt_of_lt_of_le (by decide) hhi) rfl rfl rfl rfl (Nat.le_of_ble_eq_true rfl) dX10_divides_20 (fun z5 σ4 rz5 h => ?_)
  refine v_R (fun hRσ4 => ?_)
  refine v_calli (i := 304) (As := [.int (iI z5)]) (rest := []) C (s_X10_inverse hlo hhi rz5 h) w983 wy_X10_inverse ⟨rfl, rfl⟩ hd_X10_inverse ⟨Nat.le_of_ble_eq_true rfl, Nat.le_of_ble_eq_true rfl⟩ (Nat.le_trans hlo (by decide)) (Nat.lt_of_lt_of_le (by decide) hhi) rfl rfl rfl rfl (Nat.le_of_ble_eq_true rfl) dX10_divides_23 (fun z7 σ6 rz7 h => ?_)
  refine v_R (fun hRσ6 => ?_)
  refine v_istore (lv' := [(6, .int (iI z7)), (5, .int (iI z3)), (4, .int (iI v1)), (0, .ref (B + 304)), (1, .int (iI a1)), (2, .int (iI a2)), (3, .int (iI a3))]) C dX10_divides_26 (by decide) rfl ?_
  refine v_iload_n C 6 dX10_divides_28 rfl rfl ?_
  obtain ⟨J9, hJ9, h⟩ := h
  have kJ9 : ∀  (σ8 : SG), J9 σ8 → V p l e rm_X10_divides s m args below meth c D aC B lo hi 10 (MQ below (QV D aC B lo hi Q) args s 0 0 (AB B lo hi)) σ8 37 [(6, .int (iI z7)), (5, .int (iI z3)), (4, .int (iI v1)), (0, .ref (B + 304)), (1, .int (iI a1)), (2, .int (iI a2)), (3, .int (iI a3))] [] := by
    intro σ8 hj 
    have h := hJ9 σ8 hj
    refine v_R (fun hRσ8 => ?_)
    refine v_aload_n C 3 dX10_divides_37 rfl rfl ?_
    refine v_iload_n C 4 dX10_divides_38 rfl rfl ?_
    refine v_calli (i := 304) (As := [.int (iI a1)]) (rest := []) C (s_X10_degree hlo hhi r1 h) w975 wy_X10_degree ⟨rfl, rfl⟩ hd_X10_degree ⟨Nat.le_of_ble_eq_true rfl, Nat.le_of_ble_eq_true rfl⟩ (Nat.le_trans hlo (by decide)) (Nat.lt_of_lt_of_le (by decide) hhi) rfl rfl rfl rfl (Nat.le_of_ble_eq_true rfl) dX10_divides_39 (fun z11 σ10 rz11 h => ?_)
    refine v_R (fun hRσ10 => ?_)
    refine v_istore (lv' := [(7, .int (iI z11)), (6, .int (iI z7)), (5, .int (iI z3)), (4, .int (iI v1)), (0, .ref (B + 304)), (1, .int (iI a1)), (2, .int (iI a2)), (3, .int (iI a3))]) C dX10_divides_42 (by decide) rfl ?_
    obtain ⟨I52, ⟨n53, hnn53⟩, hII52⟩ := h
    have key16 : ∀ (n : Nat) (x12 : Int) (σ13 : SG), I52 n x12 σ13 → inR x12 → V p l e rm_X10_divides s m args below meth c D aC B lo hi 10 (MQ below (QV D aC B lo hi Q) args s 0 0 (AB B lo hi)) σ13 44 [(7, .int (iI x12)), (6, .int (iI z7)), (5, .int (iI z3)), (4, .int (iI v1)), (0, .ref (B + 304)), (1, .int (iI a1)), (2, .int (iI a2)), (3, .int (iI a3))] [] := by
      intro n
      induction n using Nat.strongRecOn with
      | ind n ih15 =>
        intro x12 σ13 hn rx12
        have h := hII52 n x12 σ13 hn
        refine v_R (fun hRσ13 => ?_)
        refine v_iload C 0 dX10_divides_44 rfl ?_
        refine v_iload C 2 dX10_divides_46 rfl ?_
        refine v_icmp_lt C rx12 rz3 151 dX10_divides_48 (by decide) (fun c51 => ?_) (fun c51 => ?_)
        · have h := h.1 c51
          exact v_vret C h dX10_divides_151
        · have h := h.2 c51
          refine v_aload_n C 4 dX10_divides_51 rfl rfl ?_
          refine v_iload_n C 5 dX10_divides_52 rfl rfl ?_
          refine v_iload C 0 dX10_divides_53 rfl ?_
          refine v_calli (i := 304) (As := [.int (iI a1), .int (iI x12)]) (rest := []) C (s_X10_of hlo hhi r1 rx12 h) w963 wy_X10_of ⟨rfl, rfl⟩ hd_X10_of ⟨Nat.le_of_ble_eq_true rfl, Nat.le_of_ble_eq_true rfl⟩ (Nat.le_trans hlo (by decide)) (Nat.lt_of_lt_of_le (by decide) hhi) rfl rfl rfl rfl (Nat.le_of_ble_eq_true rfl) dX10_divides_55 (fun z18 σ17 rz18 h => ?_)
          refine v_R (fun hRσ17 => ?_)
          refine v_iload C 1 dX10_divides_58 rfl ?_
          have k19 := h.1
          have h := h.2
          refine v_imul C dX10_divides_60 ?_
          refine v_iload C 3 dX10_divides_61 rfl ?_
          have k20 := h.1
          have h := h.2
          refine v_irem C k19 rv1 k20 dX10_divides_63 ?_
          refine v_name (fun v21 ev21 => ?_)
          have h := h v21 ev21
          have rv21 : inR v21 := by rw [ev21]; exact (inR_tmod k19)
          refine v_istore (lv' := [(8, .int (iI v21)), (7, .int (iI x12)), (6, .int (iI z7)), (5, .int (iI z3)), (4, .int (iI v1)), (0, .ref (B + 304)), (1, .int (iI a1)), (2, .int (iI a2)), (3, .int (iI a3))]) C dX10_divides_64 (by decide) rfl ?_
          refine v_iconst C dX10_divides_66 ?_
          refine v_istore (lv' := [(9, .int (iI 0)), (8, .int (iI v21)), (7, .int (iI x12)), (6, .int (iI z7)), (5, .int (iI z3)), (4, .int (iI v1)), (0, .ref (B + 304)), (1, .int (iI a1)), (2, .int (iI a2)), (3, .int (iI a3))]) C dX10_divides_67 (by decide) rfl ?_
          obtain ⟨I49, ⟨n50, hnn50⟩, hII49⟩ := h
          have key26 : ∀ (n : Nat) (x22 : Int) (σ23 : SG), I49 n x22 σ23 → inR x22 → V p l e rm_X10_divides s m args below meth c D aC B lo hi 10 (MQ below (QV D aC B lo hi Q) args s 0 0 (AB B lo hi)) σ23 69 [(9, .int (iI x22)), (8, .int (iI v21)), (7, .int (iI x12)), (6, .int (iI z7)), (5, .int (iI z3)), (4, .int (iI v1)), (0, .ref (B + 304)), (1, .int (iI a1)), (2, .int (iI a2)), (3, .int (iI a3))] [] := by
            intro n
            induction n using Nat.strongRecOn with
            | ind n ih25 =>
              intro x22 σ23 hn rx22
              have h := hII49 n x22 σ23 hn
              refine v_R (fun hRσ23 => ?_)
              refine v_iload C 0 dX10_divides_69 rfl ?_
              refine v_iload C 4 dX10_divides_71 rfl ?_
              refine v_icmp_gt C rx22 rz3 125 dX10_divides_73 (by decide) (fun c48 => ?_) (fun c48 => ?_)
              · have h := h.1 c48
                refine v_iload_n C 9 dX10_divides_125 rfl rfl ?_
                obtain ⟨J28, hJ28, h⟩ := h
                have kJ28 : ∀  (σ27 : SG), J28 σ27 → V p l e rm_X10_divides s m args below meth c D aC B lo hi 10 (MQ below (QV D aC B lo hi Q) args s 0 0 (AB B lo hi)) σ27 141 [(6, .int (iI z7)), (5, .int (iI z3)), (4, .int (iI v1)), (0, .ref (B + 304)), (1, .int (iI a1)), (2, .int (iI a2)), (3, .int (iI a3))] [] := by
                  intro σ27 hj 
                  have h := hJ28 σ27 hj
                  refine v_R (fun hRσ27 => ?_)
                  refine v_aload_n C 3 dX10_divides_141 rfl rfl ?_
                  refine v_iload_n C 4 dX10_divides_142 rfl rfl ?_
                  refine v_calli (i := 304) (As := [.int (iI a1)]) (rest := []) C (s_X10_degree hlo hhi r1 h) w975 wy_X10_degree ⟨rfl, rfl⟩ hd_X10_degree ⟨Nat.le_of_ble_eq_true rfl, Nat.le_of_ble_eq_true rfl⟩ (Nat.le_trans hlo (by decide)) (Nat.lt_of_lt_of_le (by decide) hhi) rfl rfl rfl rfl (Nat.le_of_ble_eq_true rfl) dX10_divides_143 (fun z30 σ29 rz30 h => ?_)
                  refine v_R (fun hRσ29 => ?_)
                  refine v_istore (lv' := [(7, .int (iI z30)), (6, .int (iI z7)), (5, .int (iI z3)), (4, .int (iI v1)), (0, .ref (B + 304)), (1, .int (iI a1)), (2, .int (iI a2)), (3, .int (iI a3))]) C dX10_divides_146 (by decide) rfl ?_
                  refine v_goto C 44 dX10_divides_148 (by decide) ?_
                  obtain ⟨m9, hm9, h⟩ := h
                  exact ih15 m9 hm9 z30 σ29 h rz30
                refine v_if_lt C r3 141 dX10_divides_126 (by decide) (fun c33 => ?_) (fun c33 => ?_)
                · have h := h.1 c33
                  refine v_sub [3, 4, 5, 6, 7, 8, 9] rfl ?_
                  exact kJ28 σ23 h 
                · have h := h.2 c33
                  refine v_aload_n C 6 dX10_divides_129 rfl rfl ?_
                  refine v_iload_n C 9 dX10_divides_130 rfl rfl ?_
                  refine v_iload C 2 dX10_divides_131 rfl ?_
                  refine v_iload C 4 dX10_divides_133 rfl ?_
                  have k31 := h.1
                  have h := h.2
                  refine v_isub C dX10_divides_135 ?_
                  refine v_iload C 1 dX10_divides_136 rfl ?_
                  refine v_callv (i := 304) (As := [.int (iI a3), .int (iI (x12 - z3)), .int (iI v21)]) (rest := []) C (s_X10_puts hlo hhi r3 k31 rv21 h) w955 wy_X10_puts ⟨rfl, rfl⟩ hd_X10_puts ⟨Nat.le_of_ble_eq_true rfl, Nat.le_of_ble_eq_true rfl⟩ (Nat.le_trans hlo (by decide)) (Nat.lt_of_lt_of_le (by decide) hhi) rfl rfl rfl rfl (Nat.le_of_ble_eq_true rfl) dX10_divides_138 (fun σ32 h => ?_)
                  refine v_R (fun hRσ32 => ?_)
                  refine v_sub [3, 4, 5, 6, 7, 8, 9] rfl ?_
                  exact kJ28 σ32 h 
              · have h := h.2 c48
                refine v_aload_n C 6 dX10_divides_76 rfl rfl ?_
                refine v_iload_n C 7 dX10_divides_77 rfl rfl ?_
                refine v_iload C 2 dX10_divides_78 rfl ?_
                refine v_iload C 4 dX10_divides_80 rfl ?_
                have k34 := h.1
                have h := h.2
                refine v_isub C dX10_divides_82 ?_
                refine v_iload C 0 dX10_divides_83 rfl ?_
                have k35 := h.1
                have h := h.2
                refine v_iadd C dX10_divides_85 ?_
                refine v_aload_n C 6 dX10_divides_86 rfl rfl ?_
                refine v_iload_n C 7 dX10_divides_87 rfl rfl ?_
                refine v_iload C 2 dX10_divides_88 rfl ?_
                refine v_iload C 4 dX10_divides_90 rfl ?_
                have k36 := h.1
                have h := h.2
                refine v_isub C dX10_divides_92 ?_
                refine v_iload C 0 dX10_divides_93 rfl ?_
                have k37 := h.1
                have h := h.2
                refine v_iadd C dX10_divides_95 ?_
                refine v_calli (i := 304) (As := [.int (iI a1), .int (iI ((x12 - z3) + x22))]) (rest := [.int (iI ((x12 - z3) + x22)), .int (iI a1), .ref (B + 304)]) C (s_X10_of hlo hhi r1 k37 h) w963 wy_X10_of ⟨rfl, rfl⟩ hd_X10_of ⟨Nat.le_of_ble_eq_true rfl, Nat.le_of_ble_eq_true rfl⟩ (Nat.le_trans hlo (by decide)) (Nat.lt_of_lt_of_le (by decide) hhi) rfl rfl rfl rfl (Nat.le_of_ble_eq_true rfl) dX10_divides_96 (fun z39 σ38 rz39 h => ?_)
                refine v_R (fun hRσ38 => ?_)
                refine v_iload C 5 dX10_divides_99 rfl ?_
                refine v_iload C 1 dX10_divides_101 rfl ?_
                have k40 := h.1
                have h := h.2
                refine v_isub C dX10_divides_103 ?_
                refine v_aload_n C 6 dX10_divides_104 rfl rfl ?_
                refine v_iload_n C 8 dX10_divides_105 rfl rfl ?_
                refine v_iload C 0 dX10_divides_106 rfl ?_
                refine v_calli (i := 304) (As := [.int (iI a2), .int (iI x22)]) (rest := [.int (iI (v1 - v21)), .int (iI z39), .int (iI ((x12 - z3) + x22)), .int (iI a1), .ref (B + 304)]) C (s_X10_of hlo hhi r2 rx22 h) w963 wy_X10_of ⟨rfl, rfl⟩ hd_X10_of ⟨Nat.le_of_ble_eq_true rfl, Nat.le_of_ble_eq_true rfl⟩ (Nat.le_trans hlo (by decide)) (Nat.lt_of_lt_of_le (by decide) hhi) rfl rfl rfl rfl (Nat.le_of_ble_eq_true rfl) dX10_divides_108 (fun z42 σ41 rz42 h => ?_)
                refine v_R (fun hRσ41 => ?_)
                have k43 := h.1
                have h := h.2
                refine v_imul C dX10_divides_111 ?_
                have k44 := h.1
                have h := h.2
                refine v_iadd C dX10_divides_112 ?_
                refine v_iload C 5 dX10_divides_113 rfl ?_
                have k45 := h.1
                have h := h.2
                refine v_irem C k44 rv1 k45 dX10_divides_115 ?_
                refine v_callv (i := 304) (As := [.int (iI a1), .int (iI ((x12 - z3) + x22)), .int (iI (Int.tmod (z39 + ((v1 - v21) * z42)) v1))]) (rest := []) C (s_X10_puts hlo hhi r1 k35 (inR_tmod k44) h) w955 wy_X10_puts ⟨rfl, rfl⟩ hd_X10_puts ⟨Nat.le_of_ble_eq_true rfl, Nat.le_of_ble_eq_true rfl⟩ (Nat.le_trans hlo (by decide)) (Nat.lt_of_lt_of_le (by decide) hhi) rfl rfl rfl rfl (Nat.le_of_ble_eq_true rfl) dX10_divides_116 (fun σ46 h => ?_)
                refine v_R (fun hRσ46 => ?_)
                have k47 := h.1
                have h := h.2
                refine v_iinc (lv' := [(9, .int (iI (x22 + 1))), (8, .int (iI v21)), (7, .int (iI x12)), (6, .int (iI z7)), (5, .int (iI z3)), (4, .int (iI v1)), (0, .ref (B + 304)), (1, .int (iI a1)), (2, .int (iI a2)), (3, .int (iI a3))]) C 0 dX10_divides_119 rfl (by decide) rfl ?_
                refine v_goto C 69 dX10_divides_122 (by decide) ?_
                obtain ⟨m9, hm9, h⟩ := h
                exact ih25 m9 hm9 (x22 + 1) σ46 h k47
          exact key26 n50 0 σ17 hnn50 (by decide)
    exact key16 n53 z11 σ10 hnn53 rz11
  refine v_if_lt C r3 37 dX10_divides_29 (by decide) (fun c55 => ?_) (fun c55 => ?_)
  · have h := h.1 c55
    exact kJ9 σ6 h 
  · have h := h.2 c55
    refine v_aload_n C 3 dX10_divides_32 rfl rfl ?_
    refine v_iload_n C 6 dX10_divides_33 rfl rfl ?_
    refine v_callv (i := 304) (As := [.int (iI a3)]) (rest := []) C (s_X10_clears hlo hhi r3 h) w951 wy_X10_clears ⟨rfl, rfl⟩ hd_X10_clears ⟨Nat.le_of_ble_eq_true rfl, Nat.le_of_ble_eq_true rfl⟩ (Nat.le_trans hlo (by decide)) (Nat.lt_of_lt_of_le (by decide) hhi) rfl rfl rfl rfl (Nat.le_of_ble_eq_true rfl) dX10_divides_34 (fun σ54 h => ?_)
    refine v_R (fun hRσ54 => ?_)
    exact kJ9 σ54 h 
-- SplitTowersModel.constant(II)V
def wp_X10_constant (σ : SG) (a1 : Int) (a2 : Int) (Q : SG → Prop) : Prop :=
  wp_X10_clears σ a1 (fun (σ1 : SG) => ((σ1 305 0) ≠ 0 ∧ wp_X10_puts σ1 a1 0 (Int.tmod a2 (σ1 305 0)) (fun (σ3 : SG) => Q σ3)))
def rm_X10_constant : Room := { frames := 2, cells := 0, slots := 0, locals := 45 }
theorem wy_X10_constant : Cond.instanceMethod yX10_constant ∈ WS ∧ Cond.selects "SplitTowersModel" yX10_constant yX10_constant ∈ WS ∧ Cond.initialized "SplitTowersModel" ∈ WS ∧ Cond.code yX10_constant prog_12_method_12_code 3 none ∈ WS := ⟨w1052, w40, w79, w1053⟩
theorem hd_X10_constant : yX10_constant.cls = "SplitTowersModel" ∧ yX10_constant.cls ≠ "java/lang/invoke/MethodHandle" ∧ yX10_constant.cls ≠ "java/lang/invoke/VarHandle" ∧ (parseMethodDescriptor yX10_constant.desc).map (fun d => d.parameters.length) = some 2 := by decide +kernel
set_option maxHeartbeats 4000000 in
set_option maxRecDepth 100000 in
theorem s_X10_constant {l : Launch} {D : va_G} {aC : Nat → ClassId} {B lo hi : Nat} {σ : SG} {a1 : Int} {a2 : Int} {Q : SG → Prop} (hlo : lo ≤ 304) (hhi : 316 ≤ hi) (r1 : inR a1) (r2 : inR a2) (h : wp_X10_constant σ a1 a2 Q) : Met l yX10_constant (Cond.code yX10_constant prog_12_method_12_code 3 none :: WS) rm_X10_constant (va_Pc [.ref (B + 304), .int (iI a1), .int (iI a2)] (WP D aC B lo hi σ)) (QV D aC B lo hi Q) 0 0 (AB B lo hi) := by
  refine met_of (by decide +kernel) (by decide +kernel : yX10_constant.cls = "SplitTowersModel") (Nat.le_of_ble_eq_true rfl) ?_
  intro p e s m args below meth c C
  unfold wp_X10_constant at h
  refine v_R (fun hR0 => ?_)
  show V p l e rm_X10_constant s m args below meth c D aC B lo hi 3 (MQ below (QV D aC B lo hi Q) args s 0 0 (AB B lo hi)) σ 0 [(0, .ref (B + 304)), (1, .int (iI a1)), (2, .int (iI a2))] []
  refine v_aload_n C 0 dX10_constant_0 rfl rfl ?_
  refine v_iload_n C 1 dX10_constant_1 rfl rfl ?_
  refine v_callv (i := 304) (As := [.int (iI a1)]) (rest := []) C (s_X10_clears hlo hhi r1 h) w951 wy_X10_clears ⟨rfl, rfl⟩ hd_X10_clears ⟨Nat.le_of_ble_eq_true rfl, Nat.le_of_ble_eq_true rfl⟩ (Nat.le_trans hlo (by decide)) (Nat.lt_of_lt_of_le (by decide) hhi) rfl rfl rfl rfl (Nat.le_of_ble_eq_true rfl) dX10_constant_2 (fun σ1 h => ?_)
  refine v_R (fun hRσ1 => ?_)
  refine v_aload_n C 0 dX10_constant_5 rfl rfl ?_
  refine v_iload_n C 1 dX10_constant_6 rfl rfl ?_
  refine v_iconst C dX10_constant_7 ?_
  refine v_iload_n C 2 dX10_constant_8 rfl rfl ?_
  refine v_aload_n C 0 dX10_constant_9 rfl rfl ?_
  refine gf10_now C hlo hhi w877 dX10_constant_10 ?_
  refine v_iconst C dX10_constant_13 ?_
  refine v_iald (i := 305) (n := 87) C (Nat.le_trans hlo (by decide)) (Nat.lt_of_lt_of_le (by decide) hhi) rfl (by decide) ⟨by decide, by decide⟩ dX10_constant_14 ?_
  have k2 := h.1
  have h := h.2
  refine v_irem C r2 (hRσ1 305 _) k2 dX10_constant_15 ?_
  refine v_callv (i := 304) (As := [.int (iI a1), .int (iI 0), .int (iI (Int.tmod a2 (σ1 305 0)))]) (rest := []) C (s_X10_puts hlo hhi r1 (by decide) (inR_tmod r2) h) w955 wy_X10_puts ⟨rfl, rfl⟩ hd_X10_puts ⟨Nat.le_of_ble_eq_true rfl, Nat.le_of_ble_eq_true rfl⟩ (Nat.le_trans hlo (by decide)) (Nat.lt_of_lt_of_le (by decide) hhi) rfl rfl rfl rfl (Nat.le_of_ble_eq_true rfl) dX10_constant_16 (fun σ3 h => ?_)
  refine v_R (fun hRσ3 => ?_)
  exact v_vret C h dX10_constant_19
-- SplitTowersModel.multiplies(III)V
def wp_X10_multiplies (σ : SG) (a1 : Int) (a2 : Int) (a3 : Int) (Q : SG → Prop) : Prop :=
  (∀ v1 : Int, v1 = (σ 305 0) → wp_X10_degree σ a2 (fun (z3 : Int) (σ2 : SG) => Lp1 (fun (rec6 : Int → SG → Prop) (x4 : Int) (σ5 : SG) => ((14 ≤ x4 → wp_X10_degree σ5 a1 (fun (z10 : Int) (σ9 : SG) => Lp1 (fun (rec13 : Int → SG → Prop) (x11 : Int) (σ12 : SG) => ((x11 < 0 → Lp1 (fun (rec18 : Int → SG → Prop) (x16 : Int) (σ17 : SG) => ((14 ≤ x16 → Q σ17) ∧ (¬ 14 ≤ x16 → ((0 ≤ x16 ∧ x16 < 14) ∧ wp_X10_puts σ17 a3 x16 (σ17 309 x16.toNat) (fun (σ22 : SG) => (inR (x16 + 1) ∧ rec18 (x16 + 1) σ22)))))) 0 σ12) ∧ (¬ x11 < 0 → Lp1 (fun (rec29 : Int → SG → Prop) (x27 : Int) (σ28 : SG) => ((z3 < x27 → (inR (x11 + (-1)) ∧ rec13 (x11 + (-1)) σ28)) ∧ (¬ z3 < x27 → (inR (x11 + x27) ∧ (inR (x11 + x27) ∧ ((0 ≤ x11 + x27 ∧ x11 + x27 < 14) ∧ wp_X10_of σ28 a1 x11 (fun (z37 : Int) (σ36 : SG) => wp_X10_of σ36 a2 x27 (fun (z39 : Int) (σ38 : SG) => (inR (z37 * z39) ∧ (inR ((σ28 309 (x11 + x27).toNat) + (z37 * z39)) ∧ (v1 ≠ 0 ∧ ((0 ≤ x11 + x27 ∧ x11 + x27 < 14) ∧ (∀ σ44 : SG, σ44 = ug σ38 309 ((x11 + x27).toNat) (Int.tmod ((σ28 309 (x11 + x27).toNat) + (z37 * z39)) v1) → (inR (x27 + 1) ∧ rec29 (x27 + 1) σ44)))))))))))))) 0 σ12))) z10 σ9)) ∧ (¬ 14 ≤ x4 → ((0 ≤ x4 ∧ x4 < 14) ∧ (∀ σ53 : SG, σ53 = ug σ5 309 x4.toNat 0 → (inR (x4 + 1) ∧ rec6 (x4 + 1) σ53)))))) 0 σ2))
def rm_X10_multiplies : Room := { frames := 2, cells := 0, slots := 0, locals := 44 }
theorem wy_X10_multiplies : Cond.instanceMethod yX10_multiplies ∈ WS ∧ Cond.selects "SplitTowersModel" yX10_multiplies yX10_multiplies ∈ WS ∧ Cond.initialized "SplitTowersModel" ∈ WS ∧ Cond.code yX10_multiplies prog_12_method_19_code 8 none ∈ WS := ⟨w1056, w41, w79, w1057⟩
theorem hd_X10_multiplies : yX10_multiplies.cls = "SplitTowersModel" ∧ yX10_multiplies.cls ≠ "java/lang/invoke/MethodHandle" ∧ yX10_multiplies.cls ≠ "java/lang/invoke/VarHandle" ∧ (parseMethodDescriptor yX10_multiplies.desc).map (fun d => d.parameters.length) = some 3 := by decide +kernel
set_option maxHeartbeats 4000000 in
set_option maxRecDepth 100000 in
theorem s_X10_multiplies {l : Launch} {D : va_G} {aC : Nat → ClassId} {B lo hi : Nat} {σ : SG} {a1 : Int} {a2 : Int} {a3 : Int} {Q : SG → Prop} (hlo : lo ≤ 304) (hhi : 316 ≤ hi) (r1 : inR a1) (r2 : inR a2) (r3 : inR a3) (h : wp_X10_multiplies σ a1 a2 a3 Q) : Met l yX10_multiplies (Cond.code yX10_multiplies prog_12_method_19_code 8 none :: WS) rm_X10_multiplies (va_Pc [.ref (B + 304), .int (iI a1), .int (iI a2), .int (iI a3)] (WP D aC B lo hi σ)) (QV D aC B lo hi Q) 0 0 (AB B lo hi) := by
  refine met_of (by decide +kernel) (by decide +kernel : yX10_multiplies.cls = "SplitTowersModel") (Nat.le_of_ble_eq_true rfl) ?_
  intro p e s m args below meth c C
  unfold wp_X10_multiplies at h
  refine v_R (fun hR0 => ?_)
  show V p l e rm_X10_multiplies s m args below meth c D aC B lo hi 8 (MQ below (QV D aC B lo hi Q) args s 0 0 (AB B lo hi)) σ 0 [(0, .ref (B + 304)), (1, .int (iI a1)), (2, .int (iI a2)), (3, .int (iI a3))] []
  refine v_aload_n C 0 dX10_multiplies_0 rfl rfl ?_
  refine gf10_now C hlo hhi w877 dX10_multiplies_1 ?_
  refine v_iconst C dX10_multiplies_4 ?_
  refine v_iald (i := 305) (n := 87) C (Nat.le_trans hlo (by decide)) (Nat.lt_of_lt_of_le (by decide) hhi) rfl (by decide) ⟨by decide, by decide⟩ dX10_multiplies_5 ?_
  refine v_name (fun v1 ev1 => ?_)
  have h := h v1 ev1
  have rv1 : inR v1 := by rw [ev1]; exact (hR0 305 _)
  refine v_istore (lv' := [(4, .int (iI v1)), (0, .ref (B + 304)), (1, .int (iI a1)), (2, .int (iI a2)), (3, .int (iI a3))]) C dX10_multiplies_6 (by decide) rfl ?_
  refine v_aload_n C 1 dX10_multiplies_8 rfl rfl ?_
  refine v_iload_n C 3 dX10_multiplies_9 rfl rfl ?_
  refine v_calli (i := 304) (As := [.int (iI a2)]) (rest := []) C (s_X10_degree hlo hhi r2 h) w975 wy_X10_degree ⟨rfl, rfl⟩ hd_X10_degree ⟨Nat.le_of_ble_eq_true rfl, Nat.le_of_ble_eq_true rfl⟩ (Nat.le_trans hlo (by decide)) (Nat.lt_of_lt_of_le (by decide) hhi) rfl rfl rfl rfl (Nat.le_of_ble_eq_true rfl) dX10_multiplies_10 (fun z3 σ2 rz3 h => ?_)
  refine v_R (fun hRσ2 => ?_)
  refine v_istore (lv' := [(5, .int (iI z3)), (4, .int (iI v1)), (0, .ref (B + 304)), (1, .int (iI a1)), (2, .int (iI a2)), (3, .int (iI a3))]) C dX10_multiplies_13 (by decide) rfl ?_
  refine v_iconst C dX10_multiplies_15 ?_
  refine v_istore (lv' := [(6, .int (iI 0)), (5, .int (iI z3)), (4, .int (iI v1)), (0, .ref (B + 304)), (1, .int (iI a1)), (2, .int (iI a2)), (3, .int (iI a3))]) C dX10_multiplies_16 (by decide) rfl ?_
  obtain ⟨I56, ⟨n57, hnn57⟩, hII56⟩ := h
  have key8 : ∀ (n : Nat) (x4 : Int) (σ5 : SG), I56 n x4 σ5 → inR x4 → V p l e rm_X10_multiplies s m args below meth c D aC B lo hi 8 (MQ below (QV D aC B lo hi Q) args s 0 0 (AB B lo hi)) σ5 18 [(6, .int (iI x4)), (5, .int (iI z3)), (4, .int (iI v1)), (0, .ref (B + 304)), (1, .int (iI a1)), (2, .int (iI a2)), (3, .int (iI a3))] [] := by
    intro n
    induction n using Nat.strongRecOn with
    | ind n ih7 =>
      intro x4 σ5 hn rx4
      have h := hII56 n x4 σ5 hn
      refine v_R (fun hRσ5 => ?_)
      refine v_iload C 0 dX10_multiplies_18 rfl ?_
      refine v_bipush C dX10_multiplies_20 (by decide) ?_
      refine v_icmp_ge C rx4 (by decide) 39 dX10_multiplies_22 (by decide) (fun c55 => ?_) (fun c55 => ?_)
      · have h := h.1 c55
        refine v_aload_n C 3 dX10_multiplies_39 rfl rfl ?_
        refine v_iload_n C 4 dX10_multiplies_40 rfl rfl ?_
        refine v_calli (i := 304) (As := [.int (iI a1)]) (rest := []) C (s_X10_degree hlo hhi r1 h) w975 wy_X10_degree ⟨rfl, rfl⟩ hd_X10_degree ⟨Nat.le_of_ble_eq_true rfl, Nat.le_of_ble_eq_true rfl⟩ (Nat.le_trans hlo (by decide)) (Nat.lt_of_lt_of_le (by decide) hhi) rfl rfl rfl rfl (Nat.le_of_ble_eq_true rfl) dX10_multiplies_41 (fun z10 σ9 rz10 h => ?_)
        refine v_R (fun hRσ9 => ?_)
        refine v_istore (lv' := [(6, .int (iI z10)), (5, .int (iI z3)), (4, .int (iI v1)), (0, .ref (B + 304)), (1, .int (iI a1)), (2, .int (iI a2)), (3, .int (iI a3))]) C dX10_multiplies_44 (by decide) rfl ?_
        obtain ⟨I50, ⟨n51, hnn51⟩, hII50⟩ := h
        have key15 : ∀ (n : Nat) (x11 : Int) (σ12 : SG), I50 n x11 σ12 → inR x11 → V p l e rm_X10_multiplies s m args below meth c D aC B lo hi 8 (MQ below (QV D aC B lo hi Q) args s 0 0 (AB B lo hi)) σ12 46 [(6, .int (iI x11)), (5, .int (iI z3)), (4, .int (iI v1)), (0, .ref (B + 304)), (1, .int (iI a1)), (2, .int (iI a2)), (3, .int (iI a3))] [] := by
          intro n
          induction n using Nat.strongRecOn with
          | ind n ih14 =>
            intro x11 σ12 hn rx11
            have h := hII50 n x11 σ12 hn
            refine v_R (fun hRσ12 => ?_)
            refine v_iload C 0 dX10_multiplies_46 rfl ?_
            refine v_if_lt C rx11 112 dX10_multiplies_48 (by decide) (fun c49 => ?_) (fun c49 => ?_)
            · have h := h.1 c49
              refine v_iconst C dX10_multiplies_112 ?_
              refine v_istore (lv' := [(6, .int (iI 0)), (5, .int (iI z3)), (4, .int (iI v1)), (0, .ref (B + 304)), (1, .int (iI a1)), (2, .int (iI a2)), (3, .int (iI a3))]) C dX10_multiplies_113 (by decide) rfl ?_
              obtain ⟨I25, ⟨n26, hnn26⟩, hII25⟩ := h
              have key20 : ∀ (n : Nat) (x16 : Int) (σ17 : SG), I25 n x16 σ17 → inR x16 → V p l e rm_X10_multiplies s m args below meth c D aC B lo hi 8 (MQ below (QV D aC B lo hi Q) args s 0 0 (AB B lo hi)) σ17 115 [(6, .int (iI x16)), (0, .ref (B + 304)), (3, .int (iI a3))] [] := by
                intro n
                induction n using Nat.strongRecOn with
                | ind n ih19 =>
                  intro x16 σ17 hn rx16
                  have h := hII25 n x16 σ17 hn
                  refine v_R (fun hRσ17 => ?_)
                  refine v_iload C 0 dX10_multiplies_115 rfl ?_
                  refine v_bipush C dX10_multiplies_117 (by decide) ?_
                  refine v_icmp_ge C rx16 (by decide) 142 dX10_multiplies_119 (by decide) (fun c24 => ?_) (fun c24 => ?_)
                  · have h := h.1 c24
                    exact v_vret C h dX10_multiplies_142
                  · have h := h.2 c24
                    refine v_aload_n C 1 dX10_multiplies_122 rfl rfl ?_
                    refine v_iload_n C 2 dX10_multiplies_123 rfl rfl ?_
                    refine v_iload C 0 dX10_multiplies_124 rfl ?_
                    refine v_aload_n C 1 dX10_multiplies_126 rfl rfl ?_
                    refine gf10_made C hlo hhi w883 dX10_multiplies_127 ?_
                    refine v_iload C 0 dX10_multiplies_130 rfl ?_
                    have k21 := h.1
                    have h := h.2
                    refine v_iald (i := 309) (n := 14) C (Nat.le_trans hlo (by decide)) (Nat.lt_of_lt_of_le (by decide) hhi) rfl rx16 k21 dX10_multiplies_132 ?_
                    refine v_callv (i := 304) (As := [.int (iI a3), .int (iI x16), .int (iI (σ17 309 x16.toNat))]) (rest := []) C (s_X10_puts hlo hhi r3 rx16 (hRσ17 309 _) h) w955 wy_X10_puts ⟨rfl, rfl⟩ hd_X10_puts ⟨Nat.le_of_ble_eq_true rfl, Nat.le_of_ble_eq_true rfl⟩ (Nat.le_trans hlo (by decide)) (Nat.lt_of_lt_of_le (by decide) hhi) rfl rfl rfl rfl (Nat.le_of_ble_eq_true rfl) dX10_multiplies_133 (fun σ22 h => ?_)
                    refine v_R (fun hRσ22 => ?_)
                    have k23 := h.1
                    have h := h.2
                    refine v_iinc (lv' := [(6, .int (iI (x16 + 1))), (0, .ref (B + 304)), (3, .int (iI a3))]) C 0 dX10_multiplies_136 rfl (by decide) rfl ?_
                    refine v_goto C 115 dX10_multiplies_139 (by decide) ?_
                    obtain ⟨m9, hm9, h⟩ := h
                    exact ih19 m9 hm9 (x16 + 1) σ22 h k23
              refine v_sub [0, 3, 6] rfl ?_
              exact key20 n26 0 σ12 hnn26 (by decide)
            · have h := h.2 c49
              refine v_iconst C dX10_multiplies_51 ?_
              refine v_istore (lv' := [(7, .int (iI 0)), (6, .int (iI x11)), (5, .int (iI z3)), (4, .int (iI v1)), (0, .ref (B + 304)), (1, .int (iI a1)), (2, .int (iI a2)), (3, .int (iI a3))]) C dX10_multiplies_52 (by decide) rfl ?_
              obtain ⟨I47, ⟨n48, hnn48⟩, hII47⟩ := h
              have key31 : ∀ (n : Nat) (x27 : Int) (σ28 : SG), I47 n x27 σ28 → inR x27 → V p l e rm_X10_multiplies s m args below meth c D aC B lo hi 8 (MQ below (QV D aC B lo hi Q) args s 0 0 (AB B lo hi)) σ28 54 [(7, .int (iI x27)), (6, .int (iI x11)), (5, .int (iI z3)), (4, .int (iI v1)), (0, .ref (B + 304)), (1, .int (iI a1)), (2, .int (iI a2)), (3, .int (iI a3))] [] := by
                intro n
                induction n using Nat.strongRecOn with
                | ind n ih30 =>
                  intro x27 σ28 hn rx27
                  have h := hII47 n x27 σ28 hn
                  refine v_R (fun hRσ28 => ?_)
                  refine v_iload C 0 dX10_multiplies_54 rfl ?_
                  refine v_iload C 2 dX10_multiplies_56 rfl ?_
                  refine v_icmp_gt C rx27 rz3 106 dX10_multiplies_58 (by decide) (fun c46 => ?_) (fun c46 => ?_)
                  · have h := h.1 c46
                    have k32 := h.1
                    have h := h.2
                    refine v_iinc (lv' := [(6, .int (iI (x11 + (-1)))), (7, .int (iI x27)), (5, .int (iI z3)), (4, .int (iI v1)), (0, .ref (B + 304)), (1, .int (iI a1)), (2, .int (iI a2)), (3, .int (iI a3))]) C 1 dX10_multiplies_106 rfl (by decide) rfl ?_
                    refine v_goto C 46 dX10_multiplies_109 (by decide) ?_
                    obtain ⟨m9, hm9, h⟩ := h
                    refine v_sub [0, 2, 3, 4, 5, 6, 7] rfl ?_
                    exact ih14 m9 hm9 (x11 + (-1)) σ28 h k32
                  · have h := h.2 c46
                    refine v_aload_n C 4 dX10_multiplies_61 rfl rfl ?_
                    refine gf10_made C hlo hhi w883 dX10_multiplies_62 ?_
                    refine v_iload C 1 dX10_multiplies_65 rfl ?_
                    refine v_iload C 0 dX10_multiplies_67 rfl ?_
                    have k33 := h.1
                    have h := h.2
                    refine v_iadd C dX10_multiplies_69 ?_
                    refine v_aload_n C 4 dX10_multiplies_70 rfl rfl ?_
                    refine gf10_made C hlo hhi w883 dX10_multiplies_71 ?_
                    refine v_iload C 1 dX10_multiplies_74 rfl ?_
                    refine v_iload C 0 dX10_multiplies_76 rfl ?_
                    have k34 := h.1
                    have h := h.2
                    refine v_iadd C dX10_multiplies_78 ?_
                    have k35 := h.1
                    have h := h.2
                    refine v_iald (i := 309) (n := 14) C (Nat.le_trans hlo (by decide)) (Nat.lt_of_lt_of_le (by decide) hhi) rfl k34 k35 dX10_multiplies_79 ?_
                    refine v_aload_n C 4 dX10_multiplies_80 rfl rfl ?_
                    refine v_iload_n C 5 dX10_multiplies_81 rfl rfl ?_
                    refine v_iload C 1 dX10_multiplies_82 rfl ?_
                    refine v_calli (i := 304) (As := [.int (iI a1), .int (iI x11)]) (rest := [.int (iI (σ28 309 (x11 + x27).toNat)), .int (iI (x11 + x27)), .ref (B + 309)]) C (s_X10_of hlo hhi r1 rx11 h) w963 wy_X10_of ⟨rfl, rfl⟩ hd_X10_of ⟨Nat.le_of_ble_eq_true rfl, Nat.le_of_ble_eq_true rfl⟩ (Nat.le_trans hlo (by decide)) (Nat.lt_of_lt_of_le (by decide) hhi) rfl rfl rfl rfl (Nat.le_of_ble_eq_true rfl) dX10_multiplies_84 (fun z37 σ36 rz37 h => ?_)
                    refine v_R (fun hRσ36 => ?_)
                    refine v_aload_n C 4 dX10_multiplies_87 rfl rfl ?_
                    refine v_iload_n C 6 dX10_multiplies_88 rfl rfl ?_
                    refine v_iload C 0 dX10_multiplies_89 rfl ?_
                    refine v_calli (i := 304) (As := [.int (iI a2), .int (iI x27)]) (rest := [.int (iI z37), .int (iI (σ28 309 (x11 + x27).toNat)), .int (iI (x11 + x27)), .ref (B + 309)]) C (s_X10_of hlo hhi r2 rx27 h) w963 wy_X10_of ⟨rfl, rfl⟩ hd_X10_of ⟨Nat.le_of_ble_eq_true rfl, Nat.le_of_ble_eq_true rfl⟩ (Nat.le_trans hlo (by decide)) (Nat.lt_of_lt_of_le (by decide) hhi) rfl rfl rfl rfl (Nat.le_of_ble_eq_true rfl) dX10_multiplies_91 (fun z39 σ38 rz39 h => ?_)
                    refine v_R (fun hRσ38 => ?_)
                    have k40 := h.1
                    have h := h.2
                    refine v_imul C dX10_multiplies_94 ?_
                    have k41 := h.1
                    have h := h.2
                    refine v_iadd C dX10_multiplies_95 ?_
                    refine v_iload C 3 dX10_multiplies_96 rfl ?_
                    have k42 := h.1
                    have h := h.2
                    refine v_irem C k41 rv1 k42 dX10_multiplies_98 ?_
                    have k43 := h.1
                    have h := h.2
                    refine v_iast (i := 309) (n := 14) C (Nat.le_trans hlo (by decide)) (Nat.lt_of_lt_of_le (by decide) hhi) (fun _ => rfl) k33 k43 (inR_tmod k41) dX10_multiplies_99 ?_
                    refine v_nameS (fun σ44 eσ44 => ?_)
                    have h := h σ44 eσ44
                    refine v_R (fun hRσ44 => ?_)
                    have k45 := h.1
                    have h := h.2
                    refine v_iinc (lv' := [(7, .int (iI (x27 + 1))), (6, .int (iI x11)), (5, .int (iI z3)), (4, .int (iI v1)), (0, .ref (B + 304)), (1, .int (iI a1)), (2, .int (iI a2)), (3, .int (iI a3))]) C 0 dX10_multiplies_100 rfl (by decide) rfl ?_
                    refine v_goto C 54 dX10_multiplies_103 (by decide) ?_
                    obtain ⟨m9, hm9, h⟩ := h
                    exact ih30 m9 hm9 (x27 + 1) σ44 h k45
              exact key31 n48 0 σ12 hnn48 (by decide)
        exact key15 n51 z10 σ9 hnn51 rz10
      · have h := h.2 c55
        refine v_aload_n C 3 dX10_multiplies_25 rfl rfl ?_
        refine gf10_made C hlo hhi w883 dX10_multiplies_26 ?_
        refine v_iload C 0 dX10_multiplies_29 rfl ?_
        refine v_iconst C dX10_multiplies_31 ?_
        have k52 := h.1
        have h := h.2
        refine v_iast (i := 309) (n := 14) C (Nat.le_trans hlo (by decide)) (Nat.lt_of_lt_of_le (by decide) hhi) (fun _ => rfl) rx4 k52 (by decide) dX10_multiplies_32 ?_
        refine v_nameS (fun σ53 eσ53 => ?_)
        have h := h σ53 eσ53
        refine v_R (fun hRσ53 => ?_)
        have k54 := h.1
        have h := h.2
        refine v_iinc (lv' := [(6, .int (iI (x4 + 1))), (5, .int (iI z3)), (4, .int (iI v1)), (0, .ref (B + 304)), (1, .int (iI a1)), (2, .int (iI a2)), (3, .int (iI a3))]) C 0 dX10_multiplies_33 rfl (by decide) rfl ?_
        refine v_goto C 18 dX10_multiplies_36 (by decide) ?_
        obtain ⟨m9, hm9, h⟩ := h
        exact ih7 m9 hm9 (x4 + 1) σ53 h k54
  exact key8 n57 0 σ2 hnn57 (by decide)
-- SplitTowersModel.raises(IIII)V
def wp_X10_raises (σ : SG) (a1 : Int) (a2 : Int) (a3 : Int) (a4 : Int) (Q : SG → Prop) : Prop :=
  wp_X10_copies σ a1 14 (fun (σ1 : SG) => wp_X10_divides σ1 14 a3 (-1) (fun (σ2 : SG) => wp_X10_constant σ2 15 1 (fun (σ3 : SG) => wp_X10_divides σ3 15 a3 (-1) (fun (σ4 : SG) => Lp1 (fun (rec7 : Int → SG → Prop) (x5 : Int) (σ6 : SG) => ((x5 ≤ 0 → wp_X10_copies σ6 15 a4 (fun (σ10 : SG) => Q σ10)) ∧ (¬ x5 ≤ 0 → Jn0 (fun  (σ12 : SG) => wp_X10_multiplies σ12 14 14 14 (fun (σ14 : SG) => wp_X10_divides σ14 14 a3 (-1) (fun (σ15 : SG) => (∀ v17 : Int, v17 = (Int.tdiv x5 2) → rec7 v17 σ15)))) (fun J13 => ((¬ (Int.tmod x5 2) = 1 → J13 σ6) ∧ ((Int.tmod x5 2) = 1 → wp_X10_multiplies σ6 15 14 15 (fun (σ18 : SG) => wp_X10_divides σ18 15 a3 (-1) (fun (σ19 : SG) => J13 σ19)))))))) a2 σ4))))
def rm_X10_raises : Room := { frames := 3, cells := 0, slots := 0, locals := 74 }
theorem wy_X10_raises : Cond.instanceMethod yX10_raises ∈ WS ∧ Cond.selects "SplitTowersModel" yX10_raises yX10_raises ∈ WS ∧ Cond.initialized "SplitTowersModel" ∈ WS ∧ Cond.code yX10_raises prog_12_method_24_code 6 none ∈ WS := ⟨w1108, w52, w79, w1109⟩
theorem hd_X10_raises : yX10_raises.cls = "SplitTowersModel" ∧ yX10_raises.cls ≠ "java/lang/invoke/MethodHandle" ∧ yX10_raises.cls ≠ "java/lang/invoke/VarHandle" ∧ (parseMethodDescriptor yX10_raises.desc).map (fun d => d.parameters.length) = some 4 := by decide +kernel
set_option maxHeartbeats 4000000 in
set_option maxRecDepth 100000 in
theorem s_X10_raises {l : Launch} {D : va_G} {aC : Nat → ClassId} {B lo hi : Nat} {σ : SG} {a1 : Int} {a2 : Int} {a3 : Int} {a4 : Int} {Q : SG → Prop} (hlo : lo ≤ 304) (hhi : 316 ≤ hi) (r1 : inR a1) (r2 : inR a2) (r3 : inR a3) (r4 : inR a4) (h : wp_X10_raises σ a1 a2 a3 a4 Q) : Met l yX10_raises (Cond.code yX10_raises prog_12_method_24_code 6 none :: WS) rm_X10_raises (va_Pc [.ref (B + 304), .int (iI a1), .int (iI a2), .int (iI a3), .int (iI a4)] (WP D aC B lo hi σ)) (QV D aC B lo hi Q) 0 0 (AB B lo hi) := by
  refine met_of (by decide +kernel) (by decide +kernel : yX10_raises.cls = "SplitTowersModel") (Nat.le_of_ble_eq_true rfl) ?_
  intro p e s m args below meth c C
  unfold wp_X10_raises at h
  refine v_R (fun hR0 => ?_)
  show V p l e rm_X10_raises s m args below meth c D aC B lo hi 6 (MQ below (QV D aC B lo hi Q) args s 0 0 (AB B lo hi)) σ 0 [(0, .ref (B + 304)), (1, .int (iI a1)), (2, .int (iI a2)), (3, .int (iI a3)), (4, .int (iI a4))] []
  refine v_aload_n C 0 dX10_raises_0 rfl rfl ?_
  refine v_iload_n C 1 dX10_raises_1 rfl rfl ?_
  refine v_bipush C dX10_raises_2 (by decide) ?_
  refine v_callv (i := 304) (As := [.int (iI a1), .int (iI 14)]) (rest := []) C (s_X10_copies hlo hhi r1 (by decide) h) w971 wy_X10_copies ⟨rfl, rfl⟩ hd_X10_copies ⟨Nat.le_of_ble_eq_true rfl, Nat.le_of_ble_eq_true rfl⟩ (Nat.le_trans hlo (by decide)) (Nat.lt_of_lt_of_le (by decide) hhi) rfl rfl rfl rfl (Nat.le_of_ble_eq_true rfl) dX10_raises_4 (fun σ1 h => ?_)
  refine v_R (fun hRσ1 => ?_)
  refine v_aload_n C 0 dX10_raises_7 rfl rfl ?_
  refine v_bipush C dX10_raises_8 (by decide) ?_
  refine v_iload_n C 3 dX10_raises_10 rfl rfl ?_
  refine v_iconst C dX10_raises_11 ?_
  refine v_callv (i := 304) (As := [.int (iI 14), .int (iI a3), .int (iI (-1))]) (rest := []) C (s_X10_divides hlo hhi (by decide) r3 (by decide) h) w979 wy_X10_divides ⟨rfl, rfl⟩ hd_X10_divides ⟨Nat.le_of_ble_eq_true rfl, Nat.le_of_ble_eq_true rfl⟩ (Nat.le_trans hlo (by decide)) (Nat.lt_of_lt_of_le (by decide) hhi) rfl rfl rfl rfl (Nat.le_of_ble_eq_true rfl) dX10_raises_12 (fun σ2 h => ?_)
  refine v_R (fun hRσ2 => ?_)
  refine v_aload_n C 0 dX10_raises_15 rfl rfl ?_
  refine v_bipush C dX10_raises_16 (by decide) ?_
  refine v_iconst C dX10_raises_18 ?_
  refine v_callv (i := 304) (As := [.int (iI 15), .int (iI 1)]) (rest := []) C (s_X10_constant hlo hhi (by decide) (by decide) h) w1050 wy_X10_constant ⟨rfl, rfl⟩ hd_X10_constant ⟨Nat.le_of_ble_eq_true rfl, Nat.le_of_ble_eq_true rfl⟩ (Nat.le_trans hlo (by decide)) (Nat.lt_of_lt_of_le (by decide) hhi) rfl rfl rfl rfl (Nat.le_of_ble_eq_true rfl) dX10_raises_19 (fun σ3 h => ?_)
  refine v_R (fun hRσ3 => ?_)
  refine v_aload_n C 0 dX10_raises_22 rfl rfl ?_
  refine v_bipush C dX10_raises_23 (by decide) ?_
  refine v_iload_n C 3 dX10_raises_25 rfl rfl ?_
  refine v_iconst C dX10_raises_26 ?_
  refine v_callv (i := 304) (As := [.int (iI 15), .int (iI a3), .int (iI (-1))]) (rest := []) C (s_X10_divides hlo hhi (by decide) r3 (by decide) h) w979 wy_X10_divides ⟨rfl, rfl⟩ hd_X10_divides ⟨Nat.le_of_ble_eq_true rfl, Nat.le_of_ble_eq_true rfl⟩ (Nat.le_trans hlo (by decide)) (Nat.lt_of_lt_of_le (by decide) hhi) rfl rfl rfl rfl (Nat.le_of_ble_eq_true rfl) dX10_raises_27 (fun σ4 h => ?_)
  refine v_R (fun hRσ4 => ?_)
  refine v_iload_n C 2 dX10_raises_30 rfl rfl ?_
  refine v_istore (lv' := [(5, .int (iI a2)), (0, .ref (B + 304)), (1, .int (iI a1)), (2, .int (iI a2)), (3, .int (iI a3)), (4, .int (iI a4))]) C dX10_raises_31 (by decide) rfl ?_
  obtain ⟨I22, ⟨n23, hnn23⟩, hII22⟩ := h
  have key9 : ∀ (n : Nat) (x5 : Int) (σ6 : SG), I22 n x5 σ6 → inR x5 → V p l e rm_X10_raises s m args below meth c D aC B lo hi 6 (MQ below (QV D aC B lo hi Q) args s 0 0 (AB B lo hi)) σ6 33 [(5, .int (iI x5)), (0, .ref (B + 304)), (3, .int (iI a3)), (4, .int (iI a4))] [] := by
    intro n
    induction n using Nat.strongRecOn with
    | ind n ih8 =>
      intro x5 σ6 hn rx5
      have h := hII22 n x5 σ6 hn
      refine v_R (fun hRσ6 => ?_)
      refine v_iload C 0 dX10_raises_33 rfl ?_
      refine v_if_le C rx5 91 dX10_raises_35 (by decide) (fun c21 => ?_) (fun c21 => ?_)
      · have h := h.1 c21
        refine v_aload_n C 1 dX10_raises_91 rfl rfl ?_
        refine v_bipush C dX10_raises_92 (by decide) ?_
        refine v_iload C 3 dX10_raises_94 rfl ?_
        refine v_callv (i := 304) (As := [.int (iI 15), .int (iI a4)]) (rest := []) C (s_X10_copies hlo hhi (by decide) r4 h) w971 wy_X10_copies ⟨rfl, rfl⟩ hd_X10_copies ⟨Nat.le_of_ble_eq_true rfl, Nat.le_of_ble_eq_true rfl⟩ (Nat.le_trans hlo (by decide)) (Nat.lt_of_lt_of_le (by decide) hhi) rfl rfl rfl rfl (Nat.le_of_ble_eq_true rfl) dX10_raises_96 (fun σ10 h => ?_)
        refine v_R (fun hRσ10 => ?_)
        exact v_vret C h dX10_raises_99
      · have h := h.2 c21
        refine v_iload C 0 dX10_raises_38 rfl ?_
        refine v_iconst C dX10_raises_40 ?_
        refine v_irem C rx5 (by decide) (by decide) dX10_raises_41 ?_
        refine v_iconst C dX10_raises_42 ?_
        obtain ⟨J13, hJ13, h⟩ := h
        have kJ13 : ∀  (σ12 : SG), J13 σ12 → V p l e rm_X10_raises s m args below meth c D aC B lo hi 6 (MQ below (QV D aC B lo hi Q) args s 0 0 (AB B lo hi)) σ12 64 [(5, .int (iI x5)), (0, .ref (B + 304)), (3, .int (iI a3)), (4, .int (iI a4))] [] := by
          intro σ12 hj 
          have h := hJ13 σ12 hj
          refine v_R (fun hRσ12 => ?_)
          refine v_aload_n C 1 dX10_raises_64 rfl rfl ?_
          refine v_bipush C dX10_raises_65 (by decide) ?_
          refine v_bipush C dX10_raises_67 (by decide) ?_
          refine v_bipush C dX10_raises_69 (by decide) ?_
          refine v_callv (i := 304) (As := [.int (iI 14), .int (iI 14), .int (iI 14)]) (rest := []) C (s_X10_multiplies hlo hhi (by decide) (by decide) (by decide) h) w1054 wy_X10_multiplies ⟨rfl, rfl⟩ hd_X10_multiplies ⟨Nat.le_of_ble_eq_true rfl, Nat.le_of_ble_eq_true rfl⟩ (Nat.le_trans hlo (by decide)) (Nat.lt_of_lt_of_le (by decide) hhi) rfl rfl rfl rfl (Nat.le_of_ble_eq_true rfl) dX10_raises_71 (fun σ14 h => ?_)
          refine v_R (fun hRσ14 => ?_)
          refine v_aload_n C 1 dX10_raises_74 rfl rfl ?_
          refine v_bipush C dX10_raises_75 (by decide) ?_
          refine v_iload_n C 2 dX10_raises_77 rfl rfl ?_
          refine v_iconst C dX10_raises_78 ?_
          refine v_callv (i := 304) (As := [.int (iI 14), .int (iI a3), .int (iI (-1))]) (rest := []) C (s_X10_divides hlo hhi (by decide) r3 (by decide) h) w979 wy_X10_divides ⟨rfl, rfl⟩ hd_X10_divides ⟨Nat.le_of_ble_eq_true rfl, Nat.le_of_ble_eq_true rfl⟩ (Nat.le_trans hlo (by decide)) (Nat.lt_of_lt_of_le (by decide) hhi) rfl rfl rfl rfl (Nat.le_of_ble_eq_true rfl) dX10_raises_79 (fun σ15 h => ?_)
          refine v_R (fun hRσ15 => ?_)
          refine v_iload C 0 dX10_raises_82 rfl ?_
          refine v_iconst C dX10_raises_84 ?_
          refine v_idiv C rx5 (by decide) (by decide) dX10_raises_85 ?_
          refine v_name (fun v17 ev17 => ?_)
          have h := h v17 ev17
          have rv17 : inR v17 := by rw [ev17]; exact (inR_tdiv rx5 (by decide))
          refine v_istore (lv' := [(5, .int (iI v17)), (0, .ref (B + 304)), (3, .int (iI a3)), (4, .int (iI a4))]) C dX10_raises_86 (by decide) rfl ?_
          refine v_goto C 33 dX10_raises_88 (by decide) ?_
          obtain ⟨m9, hm9, h⟩ := h
          exact ih8 m9 hm9 v17 σ15 h rv17
        refine v_icmp_ne C (inR_tmod rx5) (by decide) 64 dX10_raises_43 (by decide) (fun c20 => ?_) (fun c20 => ?_)
        · have h := h.1 c20
          exact kJ13 σ6 h 
        · have h := h.2 c20
          refine v_aload_n C 1 dX10_raises_46 rfl rfl ?_
          refine v_bipush C dX10_raises_47 (by decide) ?_
          refine v_bipush C dX10_raises_49 (by decide) ?_
          refine v_bipush C dX10_raises_51 (by decide) ?_
          refine v_callv (i := 304) (As := [.int (iI 15), .int (iI 14), .int (iI 15)]) (rest := []) C (s_X10_multiplies hlo hhi (by decide) (by decide) (by decide) h) w1054 wy_X10_multiplies ⟨rfl, rfl⟩ hd_X10_multiplies ⟨Nat.le_of_ble_eq_true rfl, Nat.le_of_ble_eq_true rfl⟩ (Nat.le_trans hlo (by decide)) (Nat.lt_of_lt_of_le (by decide) hhi) rfl rfl rfl rfl (Nat.le_of_ble_eq_true rfl) dX10_raises_53 (fun σ18 h => ?_)
          refine v_R (fun hRσ18 => ?_)
          refine v_aload_n C 1 dX10_raises_56 rfl rfl ?_
          refine v_bipush C dX10_raises_57 (by decide) ?_
          refine v_iload_n C 2 dX10_raises_59 rfl rfl ?_
          refine v_iconst C dX10_raises_60 ?_
          refine v_callv (i := 304) (As := [.int (iI 15), .int (iI a3), .int (iI (-1))]) (rest := []) C (s_X10_divides hlo hhi (by decide) r3 (by decide) h) w979 wy_X10_divides ⟨rfl, rfl⟩ hd_X10_divides ⟨Nat.le_of_ble_eq_true rfl, Nat.le_of_ble_eq_true rfl⟩ (Nat.le_trans hlo (by decide)) (Nat.lt_of_lt_of_le (by decide) hhi) rfl rfl rfl rfl (Nat.le_of_ble_eq_true rfl) dX10_raises_61 (fun σ19 h => ?_)
          refine v_R (fun hRσ19 => ?_)
          exact kJ13 σ19 h 
  refine v_sub [0, 1, 4, 5] rfl ?_
  exact key9 n23 a2 σ4 hnn23 r2
-- SplitTowersModel.monic(I)V
def wp_X10_monic (σ : SG) (a1 : Int) (Q : SG → Prop) : Prop :=
  wp_X10_degree σ a1 (fun (z2 : Int) (σ1 : SG) => wp_X10_of σ1 a1 z2 (fun (z4 : Int) (σ3 : SG) => wp_X10_inverse σ3 z4 (fun (z6 : Int) (σ5 : SG) => Lp1 (fun (rec9 : Int → SG → Prop) (x7 : Int) (σ8 : SG) => ((14 ≤ x7 → Q σ8) ∧ (¬ 14 ≤ x7 → wp_X10_of σ8 a1 x7 (fun (z13 : Int) (σ12 : SG) => (inR (z13 * z6) ∧ ((σ12 305 0) ≠ 0 ∧ wp_X10_puts σ12 a1 x7 (Int.tmod (z13 * z6) (σ12 305 0)) (fun (σ16 : SG) => (inR (x7 + 1) ∧ rec9 (x7 + 1) σ16)))))))) 0 σ5)))
def rm_X10_monic : Room := { frames := 2, cells := 0, slots := 0, locals := 44 }
theorem wy_X10_monic : Cond.instanceMethod yX10_monic ∈ WS ∧ Cond.selects "SplitTowersModel" yX10_monic yX10_monic ∈ WS ∧ Cond.initialized "SplitTowersModel" ∈ WS ∧ Cond.code yX10_monic prog_12_method_21_code 4 none ∈ WS := ⟨w989, w27, w79, w990⟩
theorem hd_X10_monic : yX10_monic.cls = "SplitTowersModel" ∧ yX10_monic.cls ≠ "java/lang/invoke/MethodHandle" ∧ yX10_monic.cls ≠ "java/lang/invoke/VarHandle" ∧ (parseMethodDescriptor yX10_monic.desc).map (fun d => d.parameters.length) = some 1 := by decide +kernel
set_option maxHeartbeats 4000000 in
set_option maxRecDepth 100000 in
theorem s_X10_monic {l : Launch} {D : va_G} {aC : Nat → ClassId} {B lo hi : Nat} {σ : SG} {a1 : Int} {Q : SG → Prop} (hlo : lo ≤ 304) (hhi : 316 ≤ hi) (r1 : inR a1) (h : wp_X10_monic σ a1 Q) : Met l yX10_monic (Cond.code yX10_monic prog_12_method_21_code 4 none :: WS) rm_X10_monic (va_Pc [.ref (B + 304), .int (iI a1)] (WP D aC B lo hi σ)) (QV D aC B lo hi Q) 0 0 (AB B lo hi) := by
  refine met_of (by decide +kernel) (by decide +kernel : yX10_monic.cls = "SplitTowersModel") (Nat.le_of_ble_eq_true rfl) ?_
  intro p e s m args below meth c C
  unfold wp_X10_monic at h
  refine v_R (fun hR0 => ?_)
  show V p l e rm_X10_monic s m args below meth c D aC B lo hi 4 (MQ below (QV D aC B lo hi Q) args s 0 0 (AB B lo hi)) σ 0 [(0, .ref (B + 304)), (1, .int (iI a1))] []
  refine v_aload_n C 0 dX10_monic_0 rfl rfl ?_
  refine v_aload_n C 0 dX10_monic_1 rfl rfl ?_
  refine v_iload_n C 1 dX10_monic_2 rfl rfl ?_
  refine v_aload_n C 0 dX10_monic_3 rfl rfl ?_
  refine v_iload_n C 1 dX10_monic_4 rfl rfl ?_
  refine v_calli (i := 304) (As := [.int (iI a1)]) (rest := [.int (iI a1), .ref (B + 304), .ref (B + 304)]) C (s_X10_degree hlo hhi r1 h) w975 wy_X10_degree ⟨rfl, rfl⟩ hd_X10_degree ⟨Nat.le_of_ble_eq_true rfl, Nat.le_of_ble_eq_true rfl⟩ (Nat.le_trans hlo (by decide)) (Nat.lt_of_lt_of_le (by decide) hhi) rfl rfl rfl rfl (Nat.le_of_ble_eq_true rfl) dX10_monic_5 (fun z2 σ1 rz2 h => ?_)
  refine v_R (fun hRσ1 => ?_)
  refine v_calli (i := 304) (As := [.int (iI a1), .int (iI z2)]) (rest := [.ref (B + 304)]) C (s_X10_of hlo hhi r1 rz2 h) w963 wy_X10_of ⟨rfl, rfl⟩ hd_X10_of ⟨Nat.le_of_ble_eq_true rfl, Nat.le_of_ble_eq_true rfl⟩ (Nat.le_trans hlo (by decide)) (Nat.lt_of_lt_of_le (by decide) hhi) rfl rfl rfl rfl (Nat.le_of_ble_eq_true rfl) dX10_monic_8 (fun z4 σ3 rz4 h => ?_)
  refine v_R (fun hRσ3 => ?_)
  refine v_calli (i := 304) (As := [.int (iI z4)]) (rest := []) C (s_X10_inverse hlo hhi rz4 h) w983 wy_X10_inverse ⟨rfl, rfl⟩ hd_X10_inverse ⟨Nat.le_of_ble_eq_true rfl, Nat.le_of_ble_eq_true rfl⟩ (Nat.le_trans hlo (by decide)) (Nat.lt_of_lt_of_le (by decide) hhi) rfl rfl rfl rfl (Nat.le_of_ble_eq_true rfl) dX10_monic_11 (fun z6 σ5 rz6 h => ?_)
  refine v_R (fun hRσ5 => ?_)
  refine v_istore_n (lv' := [(2, .int (iI z6)), (0, .ref (B + 304)), (1, .int (iI a1))]) C dX10_monic_14 rfl (by decide) rfl ?_
  refine v_iconst C dX10_monic_15 ?_
  refine v_istore_n (lv' := [(3, .int (iI 0)), (2, .int (iI z6)), (0, .ref (B + 304)), (1, .int (iI a1))]) C dX10_monic_16 rfl (by decide) rfl ?_
  obtain ⟨I19, ⟨n20, hnn20⟩, hII19⟩ := h
  have key11 : ∀ (n : Nat) (x7 : Int) (σ8 : SG), I19 n x7 σ8 → inR x7 → V p l e rm_X10_monic s m args below meth c D aC B lo hi 4 (MQ below (QV D aC B lo hi Q) args s 0 0 (AB B lo hi)) σ8 17 [(3, .int (iI x7)), (2, .int (iI z6)), (0, .ref (B + 304)), (1, .int (iI a1))] [] := by
    intro n
    induction n using Nat.strongRecOn with
    | ind n ih10 =>
      intro x7 σ8 hn rx7
      have h := hII19 n x7 σ8 hn
      refine v_R (fun hRσ8 => ?_)
      refine v_iload_n C 0 dX10_monic_17 rfl rfl ?_
      refine v_bipush C dX10_monic_18 (by decide) ?_
      refine v_icmp_ge C rx7 (by decide) 50 dX10_monic_20 (by decide) (fun c18 => ?_) (fun c18 => ?_)
      · have h := h.1 c18
        exact v_vret C h dX10_monic_50
      · have h := h.2 c18
        refine v_aload_n C 2 dX10_monic_23 rfl rfl ?_
        refine v_iload_n C 3 dX10_monic_24 rfl rfl ?_
        refine v_iload_n C 0 dX10_monic_25 rfl rfl ?_
        refine v_aload_n C 2 dX10_monic_26 rfl rfl ?_
        refine v_iload_n C 3 dX10_monic_27 rfl rfl ?_
        refine v_iload_n C 0 dX10_monic_28 rfl rfl ?_
        refine v_calli (i := 304) (As := [.int (iI a1), .int (iI x7)]) (rest := [.int (iI x7), .int (iI a1), .ref (B + 304)]) C (s_X10_of hlo hhi r1 rx7 h) w963 wy_X10_of ⟨rfl, rfl⟩ hd_X10_of ⟨Nat.le_of_ble_eq_true rfl, Nat.le_of_ble_eq_true rfl⟩ (Nat.le_trans hlo (by decide)) (Nat.lt_of_lt_of_le (by decide) hhi) rfl rfl rfl rfl (Nat.le_of_ble_eq_true rfl) dX10_monic_29 (fun z13 σ12 rz13 h => ?_)
        refine v_R (fun hRσ12 => ?_)
        refine v_iload_n C 1 dX10_monic_32 rfl rfl ?_
        have k14 := h.1
        have h := h.2
        refine v_imul C dX10_monic_33 ?_
        refine v_aload_n C 2 dX10_monic_34 rfl rfl ?_
        refine gf10_now C hlo hhi w877 dX10_monic_35 ?_
        refine v_iconst C dX10_monic_38 ?_
        refine v_iald (i := 305) (n := 87) C (Nat.le_trans hlo (by decide)) (Nat.lt_of_lt_of_le (by decide) hhi) rfl (by decide) ⟨by decide, by decide⟩ dX10_monic_39 ?_
        have k15 := h.1
        have h := h.2
        refine v_irem C k14 (hRσ12 305 _) k15 dX10_monic_40 ?_
        refine v_callv (i := 304) (As := [.int (iI a1), .int (iI x7), .int (iI (Int.tmod (z13 * z6) (σ12 305 0)))]) (rest := []) C (s_X10_puts hlo hhi r1 rx7 (inR_tmod k14) h) w955 wy_X10_puts ⟨rfl, rfl⟩ hd_X10_puts ⟨Nat.le_of_ble_eq_true rfl, Nat.le_of_ble_eq_true rfl⟩ (Nat.le_trans hlo (by decide)) (Nat.lt_of_lt_of_le (by decide) hhi) rfl rfl rfl rfl (Nat.le_of_ble_eq_true rfl) dX10_monic_41 (fun σ16 h => ?_)
        refine v_R (fun hRσ16 => ?_)
        have k17 := h.1
        have h := h.2
        refine v_iinc (lv' := [(3, .int (iI (x7 + 1))), (2, .int (iI z6)), (0, .ref (B + 304)), (1, .int (iI a1))]) C 0 dX10_monic_44 rfl (by decide) rfl ?_
        refine v_goto C 17 dX10_monic_47 (by decide) ?_
        obtain ⟨m9, hm9, h⟩ := h
        exact ih10 m9 hm9 (x7 + 1) σ16 h k17
  exact key11 n20 0 σ5 hnn20 (by decide)
-- SplitTowersModel.common(III)V
def wp_X10_common (σ : SG) (a1 : Int) (a2 : Int) (a3 : Int) (Q : SG → Prop) : Prop :=
  wp_X10_copies σ a1 12 (fun (σ1 : SG) => wp_X10_copies σ1 a2 13 (fun (σ2 : SG) => Lp0 (fun (rec4 : SG → Prop)  (σ3 : SG) => wp_X10_degree σ3 13 (fun (z8 : Int) (σ7 : SG) => ((z8 < 0 → wp_X10_monic σ7 12 (fun (σ9 : SG) => wp_X10_copies σ9 12 a3 (fun (σ10 : SG) => Q σ10))) ∧ (¬ z8 < 0 → wp_X10_divides σ7 12 13 (-1) (fun (σ11 : SG) => wp_X10_copies σ11 12 11 (fun (σ12 : SG) => wp_X10_copies σ12 13 12 (fun (σ13 : SG) => wp_X10_copies σ13 11 13 (fun (σ14 : SG) => rec4 σ14)))))))) σ2))
def rm_X10_common : Room := { frames := 3, cells := 0, slots := 0, locals := 74 }
theorem wy_X10_common : Cond.instanceMethod yX10_common ∈ WS ∧ Cond.selects "SplitTowersModel" yX10_common yX10_common ∈ WS ∧ Cond.initialized "SplitTowersModel" ∈ WS ∧ Cond.code yX10_common prog_12_method_22_code 4 none ∈ WS := ⟨w969, w22, w79, w970⟩
theorem hd_X10_common : yX10_common.cls = "SplitTowersModel" ∧ yX10_common.cls ≠ "java/lang/invoke/MethodHandle" ∧ yX10_common.cls ≠ "java/lang/invoke/VarHandle" ∧ (parseMethodDescriptor yX10_common.desc).map (fun d => d.parameters.length) = some 3 := by decide +kernel
set_option maxHeartbeats 4000000 in
set_option maxRecDepth 100000 in
theorem s_X10_common {l : Launch} {D : va_G} {aC : Nat → ClassId} {B lo hi : Nat} {σ : SG} {a1 : Int} {a2 : Int} {a3 : Int} {Q : SG → Prop} (hlo : lo ≤ 304) (hhi : 316 ≤ hi) (r1 : inR a1) (r2 : inR a2) (r3 : inR a3) (h : wp_X10_common σ a1 a2 a3 Q) : Met l yX10_common (Cond.code yX10_common prog_12_method_22_code 4 none :: WS) rm_X10_common (va_Pc [.ref (B + 304), .int (iI a1), .int (iI a2), .int (iI a3)] (WP D aC B lo hi σ)) (QV D aC B lo hi Q) 0 0 (AB B lo hi) := by
  refine met_of (by decide +kernel) (by decide +kernel : yX10_common.cls = "SplitTowersModel") (Nat.le_of_ble_eq_true rfl) ?_
  intro p e s m args below meth c C
  unfold wp_X10_common at h
  refine v_R (fun hR0 => ?_)
  show V p l e rm_X10_common s m args below meth c D aC B lo hi 4 (MQ below (QV D aC B lo hi Q) args s 0 0 (AB B lo hi)) σ 0 [(0, .ref (B + 304)), (1, .int (iI a1)), (2, .int (iI a2)), (3, .int (iI a3))] []
  refine v_aload_n C 0 dX10_common_0 rfl rfl ?_
  refine v_iload_n C 1 dX10_common_1 rfl rfl ?_
  refine v_bipush C dX10_common_2 (by decide) ?_
  refine v_callv (i := 304) (As := [.int (iI a1), .int (iI 12)]) (rest := []) C (s_X10_copies hlo hhi r1 (by decide) h) w971 wy_X10_copies ⟨rfl, rfl⟩ hd_X10_copies ⟨Nat.le_of_ble_eq_true rfl, Nat.le_of_ble_eq_true rfl⟩ (Nat.le_trans hlo (by decide)) (Nat.lt_of_lt_of_le (by decide) hhi) rfl rfl rfl rfl (Nat.le_of_ble_eq_true rfl) dX10_common_4 (fun σ1 h => ?_)
  refine v_R (fun hRσ1 => ?_)
  refine v_aload_n C 0 dX10_common_7 rfl rfl ?_
  refine v_iload_n C 2 dX10_common_8 rfl rfl ?_
  refine v_bipush C dX10_common_9 (by decide) ?_
  refine v_callv (i := 304) (As := [.int (iI a2), .int (iI 13)]) (rest := []) C (s_X10_copies hlo hhi r2 (by decide) h) w971 wy_X10_copies ⟨rfl, rfl⟩ hd_X10_copies ⟨Nat.le_of_ble_eq_true rfl, Nat.le_of_ble_eq_true rfl⟩ (Nat.le_trans hlo (by decide)) (Nat.lt_of_lt_of_le (by decide) hhi) rfl rfl rfl rfl (Nat.le_of_ble_eq_true rfl) dX10_common_11 (fun σ2 h => ?_)
  refine v_R (fun hRσ2 => ?_)
  obtain ⟨I16, ⟨n17, hnn17⟩, hII16⟩ := h
  have key6 : ∀ (n : Nat)  (σ3 : SG), I16 n σ3 → V p l e rm_X10_common s m args below meth c D aC B lo hi 4 (MQ below (QV D aC B lo hi Q) args s 0 0 (AB B lo hi)) σ3 14 [(0, .ref (B + 304)), (3, .int (iI a3))] [] := by
    intro n
    induction n using Nat.strongRecOn with
    | ind n ih5 =>
      intro σ3 hn 
      have h := hII16 n σ3 hn
      refine v_R (fun hRσ3 => ?_)
      refine v_aload_n C 0 dX10_common_14 rfl rfl ?_
      refine v_bipush C dX10_common_15 (by decide) ?_
      refine v_calli (i := 304) (As := [.int (iI 13)]) (rest := []) C (s_X10_degree hlo hhi (by decide) h) w975 wy_X10_degree ⟨rfl, rfl⟩ hd_X10_degree ⟨Nat.le_of_ble_eq_true rfl, Nat.le_of_ble_eq_true rfl⟩ (Nat.le_trans hlo (by decide)) (Nat.lt_of_lt_of_le (by decide) hhi) rfl rfl rfl rfl (Nat.le_of_ble_eq_true rfl) dX10_common_17 (fun z8 σ7 rz8 h => ?_)
      refine v_R (fun hRσ7 => ?_)
      refine v_if_lt C rz8 59 dX10_common_20 (by decide) (fun c15 => ?_) (fun c15 => ?_)
      · have h := h.1 c15
        refine v_aload_n C 0 dX10_common_59 rfl rfl ?_
        refine v_bipush C dX10_common_60 (by decide) ?_
        refine v_callv (i := 304) (As := [.int (iI 12)]) (rest := []) C (s_X10_monic hlo hhi (by decide) h) w987 wy_X10_monic ⟨rfl, rfl⟩ hd_X10_monic ⟨Nat.le_of_ble_eq_true rfl, Nat.le_of_ble_eq_true rfl⟩ (Nat.le_trans hlo (by decide)) (Nat.lt_of_lt_of_le (by decide) hhi) rfl rfl rfl rfl (Nat.le_of_ble_eq_true rfl) dX10_common_62 (fun σ9 h => ?_)
        refine v_R (fun hRσ9 => ?_)
        refine v_aload_n C 0 dX10_common_65 rfl rfl ?_
        refine v_bipush C dX10_common_66 (by decide) ?_
        refine v_iload_n C 1 dX10_common_68 rfl rfl ?_
        refine v_callv (i := 304) (As := [.int (iI 12), .int (iI a3)]) (rest := []) C (s_X10_copies hlo hhi (by decide) r3 h) w971 wy_X10_copies ⟨rfl, rfl⟩ hd_X10_copies ⟨Nat.le_of_ble_eq_true rfl, Nat.le_of_ble_eq_true rfl⟩ (Nat.le_trans hlo (by decide)) (Nat.lt_of_lt_of_le (by decide) hhi) rfl rfl rfl rfl (Nat.le_of_ble_eq_true rfl) dX10_common_69 (fun σ10 h => ?_)
        refine v_R (fun hRσ10 => ?_)
        exact v_vret C h dX10_common_72
      · have h := h.2 c15
        refine v_aload_n C 0 dX10_common_23 rfl rfl ?_
        refine v_bipush C dX10_common_24 (by decide) ?_
        refine v_bipush C dX10_common_26 (by decide) ?_
        refine v_iconst C dX10_common_28 ?_
        refine v_callv (i := 304) (As := [.int (iI 12), .int (iI 13), .int (iI (-1))]) (rest := []) C (s_X10_divides hlo hhi (by decide) (by decide) (by decide) h) w979 wy_X10_divides ⟨rfl, rfl⟩ hd_X10_divides ⟨Nat.le_of_ble_eq_true rfl, Nat.le_of_ble_eq_true rfl⟩ (Nat.le_trans hlo (by decide)) (Nat.lt_of_lt_of_le (by decide) hhi) rfl rfl rfl rfl (Nat.le_of_ble_eq_true rfl) dX10_common_29 (fun σ11 h => ?_)
        refine v_R (fun hRσ11 => ?_)
        refine v_aload_n C 0 dX10_common_32 rfl rfl ?_
        refine v_bipush C dX10_common_33 (by decide) ?_
        refine v_bipush C dX10_common_35 (by decide) ?_
        refine v_callv (i := 304) (As := [.int (iI 12), .int (iI 11)]) (rest := []) C (s_X10_copies hlo hhi (by decide) (by decide) h) w971 wy_X10_copies ⟨rfl, rfl⟩ hd_X10_copies ⟨Nat.le_of_ble_eq_true rfl, Nat.le_of_ble_eq_true rfl⟩ (Nat.le_trans hlo (by decide)) (Nat.lt_of_lt_of_le (by decide) hhi) rfl rfl rfl rfl (Nat.le_of_ble_eq_true rfl) dX10_common_37 (fun σ12 h => ?_)
        refine v_R (fun hRσ12 => ?_)
        refine v_aload_n C 0 dX10_common_40 rfl rfl ?_
        refine v_bipush C dX10_common_41 (by decide) ?_
        refine v_bipush C dX10_common_43 (by decide) ?_
        refine v_callv (i := 304) (As := [.int (iI 13), .int (iI 12)]) (rest := []) C (s_X10_copies hlo hhi (by decide) (by decide) h) w971 wy_X10_copies ⟨rfl, rfl⟩ hd_X10_copies ⟨Nat.le_of_ble_eq_true rfl, Nat.le_of_ble_eq_true rfl⟩ (Nat.le_trans hlo (by decide)) (Nat.lt_of_lt_of_le (by decide) hhi) rfl rfl rfl rfl (Nat.le_of_ble_eq_true rfl) dX10_common_45 (fun σ13 h => ?_)
        refine v_R (fun hRσ13 => ?_)
        refine v_aload_n C 0 dX10_common_48 rfl rfl ?_
        refine v_bipush C dX10_common_49 (by decide) ?_
        refine v_bipush C dX10_common_51 (by decide) ?_
        refine v_callv (i := 304) (As := [.int (iI 11), .int (iI 13)]) (rest := []) C (s_X10_copies hlo hhi (by decide) (by decide) h) w971 wy_X10_copies ⟨rfl, rfl⟩ hd_X10_copies ⟨Nat.le_of_ble_eq_true rfl, Nat.le_of_ble_eq_true rfl⟩ (Nat.le_trans hlo (by decide)) (Nat.lt_of_lt_of_le (by decide) hhi) rfl rfl rfl rfl (Nat.le_of_ble_eq_true rfl) dX10_common_53 (fun σ14 h => ?_)
        refine v_R (fun hRσ14 => ?_)
        refine v_goto C 14 dX10_common_56 (by decide) ?_
        obtain ⟨m9, hm9, h⟩ := h
        exact ih5 m9 hm9 σ14 h 
  refine v_sub [0, 3] rfl ?_
  exact key6 n17 σ2 hnn17 
-- SplitTowersModel.takesDegree(II)V
def wp_X10_takesDegree (σ : SG) (a1 : Int) (a2 : Int) (Q : SG → Prop) : Prop :=
  wp_X10_clears σ 2 (fun (σ1 : SG) => wp_X10_puts σ1 2 1 1 (fun (σ2 : SG) => wp_X10_copies σ2 2 3 (fun (σ3 : SG) => Lp1 (fun (rec6 : Int → SG → Prop) (x4 : Int) (σ5 : SG) => ((a1 ≤ x4 → (inR ((σ5 305 0) - 1) ∧ wp_X10_adds σ5 2 3 ((σ5 305 0) - 1) (fun (σ10 : SG) => wp_X10_divides σ10 3 1 (-1) (fun (σ11 : SG) => wp_X10_common σ11 1 3 a2 (fun (σ12 : SG) => wp_X10_divides σ12 1 a2 5 (fun (σ13 : SG) => wp_X10_copies σ13 5 1 (fun (σ14 : SG) => Q σ14))))))) ∧ (¬ a1 ≤ x4 → wp_X10_raises σ5 3 (σ5 305 0) 1 3 (fun (σ15 : SG) => (inR (x4 + 1) ∧ rec6 (x4 + 1) σ15))))) 0 σ3)))
def rm_X10_takesDegree : Room := { frames := 4, cells := 0, slots := 0, locals := 99 }
theorem wy_X10_takesDegree : Cond.instanceMethod yX10_takesDegree ∈ WS ∧ Cond.selects "SplitTowersModel" yX10_takesDegree yX10_takesDegree ∈ WS ∧ Cond.initialized "SplitTowersModel" ∈ WS ∧ Cond.code yX10_takesDegree prog_12_method_47_code 4 none ∈ WS := ⟨w1104, w51, w79, w1105⟩
theorem hd_X10_takesDegree : yX10_takesDegree.cls = "SplitTowersModel" ∧ yX10_takesDegree.cls ≠ "java/lang/invoke/MethodHandle" ∧ yX10_takesDegree.cls ≠ "java/lang/invoke/VarHandle" ∧ (parseMethodDescriptor yX10_takesDegree.desc).map (fun d => d.parameters.length) = some 2 := by decide +kernel
set_option maxHeartbeats 4000000 in
set_option maxRecDepth 100000 in
theorem s_X10_takesDegree {l : Launch} {D : va_G} {aC : Nat → ClassId} {B lo hi : Nat} {σ : SG} {a1 : Int} {a2 : Int} {Q : SG → Prop} (hlo : lo ≤ 304) (hhi : 316 ≤ hi) (r1 : inR a1) (r2 : inR a2) (h : wp_X10_takesDegree σ a1 a2 Q) : Met l yX10_takesDegree (Cond.code yX10_takesDegree prog_12_method_47_code 4 none :: WS) rm_X10_takesDegree (va_Pc [.ref (B + 304), .int (iI a1), .int (iI a2)] (WP D aC B lo hi σ)) (QV D aC B lo hi Q) 0 0 (AB B lo hi) := by
  refine met_of (by decide +kernel) (by decide +kernel : yX10_takesDegree.cls = "SplitTowersModel") (Nat.le_of_ble_eq_true rfl) ?_
  intro p e s m args below meth c C
  unfold wp_X10_takesDegree at h
  refine v_R (fun hR0 => ?_)
  show V p l e rm_X10_takesDegree s m args below meth c D aC B lo hi 4 (MQ below (QV D aC B lo hi Q) args s 0 0 (AB B lo hi)) σ 0 [(0, .ref (B + 304)), (1, .int (iI a1)), (2, .int (iI a2))] []
  refine v_aload_n C 0 dX10_takesDegree_0 rfl rfl ?_
  refine v_iconst C dX10_takesDegree_1 ?_
  refine v_callv (i := 304) (As := [.int (iI 2)]) (rest := []) C (s_X10_clears hlo hhi (by decide) h) w951 wy_X10_clears ⟨rfl, rfl⟩ hd_X10_clears ⟨Nat.le_of_ble_eq_true rfl, Nat.le_of_ble_eq_true rfl⟩ (Nat.le_trans hlo (by decide)) (Nat.lt_of_lt_of_le (by decide) hhi) rfl rfl rfl rfl (Nat.le_of_ble_eq_true rfl) dX10_takesDegree_2 (fun σ1 h => ?_)
  refine v_R (fun hRσ1 => ?_)
  refine v_aload_n C 0 dX10_takesDegree_5 rfl rfl ?_
  refine v_iconst C dX10_takesDegree_6 ?_
  refine v_iconst C dX10_takesDegree_7 ?_
  refine v_iconst C dX10_takesDegree_8 ?_
  refine v_callv (i := 304) (As := [.int (iI 2), .int (iI 1), .int (iI 1)]) (rest := []) C (s_X10_puts hlo hhi (by decide) (by decide) (by decide) h) w955 wy_X10_puts ⟨rfl, rfl⟩ hd_X10_puts ⟨Nat.le_of_ble_eq_true rfl, Nat.le_of_ble_eq_true rfl⟩ (Nat.le_trans hlo (by decide)) (Nat.lt_of_lt_of_le (by decide) hhi) rfl rfl rfl rfl (Nat.le_of_ble_eq_true rfl) dX10_takesDegree_9 (fun σ2 h => ?_)
  refine v_R (fun hRσ2 => ?_)
  refine v_aload_n C 0 dX10_takesDegree_12 rfl rfl ?_
  refine v_iconst C dX10_takesDegree_13 ?_
  refine v_iconst C dX10_takesDegree_14 ?_
  refine v_callv (i := 304) (As := [.int (iI 2), .int (iI 3)]) (rest := []) C (s_X10_copies hlo hhi (by decide) (by decide) h) w971 wy_X10_copies ⟨rfl, rfl⟩ hd_X10_copies ⟨Nat.le_of_ble_eq_true rfl, Nat.le_of_ble_eq_true rfl⟩ (Nat.le_trans hlo (by decide)) (Nat.lt_of_lt_of_le (by decide) hhi) rfl rfl rfl rfl (Nat.le_of_ble_eq_true rfl) dX10_takesDegree_15 (fun σ3 h => ?_)
  refine v_R (fun hRσ3 => ?_)
  refine v_iconst C dX10_takesDegree_18 ?_
  refine v_istore_n (lv' := [(3, .int (iI 0)), (0, .ref (B + 304)), (1, .int (iI a1)), (2, .int (iI a2))]) C dX10_takesDegree_19 rfl (by decide) rfl ?_
  obtain ⟨I18, ⟨n19, hnn19⟩, hII18⟩ := h
  have key8 : ∀ (n : Nat) (x4 : Int) (σ5 : SG), I18 n x4 σ5 → inR x4 → V p l e rm_X10_takesDegree s m args below meth c D aC B lo hi 4 (MQ below (QV D aC B lo hi Q) args s 0 0 (AB B lo hi)) σ5 20 [(3, .int (iI x4)), (0, .ref (B + 304)), (1, .int (iI a1)), (2, .int (iI a2))] [] := by
    intro n
    induction n using Nat.strongRecOn with
    | ind n ih7 =>
      intro x4 σ5 hn rx4
      have h := hII18 n x4 σ5 hn
      refine v_R (fun hRσ5 => ?_)
      refine v_iload_n C 0 dX10_takesDegree_20 rfl rfl ?_
      refine v_iload_n C 2 dX10_takesDegree_21 rfl rfl ?_
      refine v_icmp_ge C rx4 r1 44 dX10_takesDegree_22 (by decide) (fun c17 => ?_) (fun c17 => ?_)
      · have h := h.1 c17
        refine v_aload_n C 1 dX10_takesDegree_44 rfl rfl ?_
        refine v_iconst C dX10_takesDegree_45 ?_
        refine v_iconst C dX10_takesDegree_46 ?_
        refine v_aload_n C 1 dX10_takesDegree_47 rfl rfl ?_
        refine gf10_now C hlo hhi w877 dX10_takesDegree_48 ?_
        refine v_iconst C dX10_takesDegree_51 ?_
        refine v_iald (i := 305) (n := 87) C (Nat.le_trans hlo (by decide)) (Nat.lt_of_lt_of_le (by decide) hhi) rfl (by decide) ⟨by decide, by decide⟩ dX10_takesDegree_52 ?_
        refine v_iconst C dX10_takesDegree_53 ?_
        have k9 := h.1
        have h := h.2
        refine v_isub C dX10_takesDegree_54 ?_
        refine v_callv (i := 304) (As := [.int (iI 2), .int (iI 3), .int (iI ((σ5 305 0) - 1))]) (rest := []) C (s_X10_adds hlo hhi (by decide) (by decide) k9 h) w1058 wy_X10_adds ⟨rfl, rfl⟩ hd_X10_adds ⟨Nat.le_of_ble_eq_true rfl, Nat.le_of_ble_eq_true rfl⟩ (Nat.le_trans hlo (by decide)) (Nat.lt_of_lt_of_le (by decide) hhi) rfl rfl rfl rfl (Nat.le_of_ble_eq_true rfl) dX10_takesDegree_55 (fun σ10 h => ?_)
        refine v_R (fun hRσ10 => ?_)
        refine v_aload_n C 1 dX10_takesDegree_58 rfl rfl ?_
        refine v_iconst C dX10_takesDegree_59 ?_
        refine v_iconst C dX10_takesDegree_60 ?_
        refine v_iconst C dX10_takesDegree_61 ?_
        refine v_callv (i := 304) (As := [.int (iI 3), .int (iI 1), .int (iI (-1))]) (rest := []) C (s_X10_divides hlo hhi (by decide) (by decide) (by decide) h) w979 wy_X10_divides ⟨rfl, rfl⟩ hd_X10_divides ⟨Nat.le_of_ble_eq_true rfl, Nat.le_of_ble_eq_true rfl⟩ (Nat.le_trans hlo (by decide)) (Nat.lt_of_lt_of_le (by decide) hhi) rfl rfl rfl rfl (Nat.le_of_ble_eq_true rfl) dX10_takesDegree_62 (fun σ11 h => ?_)
        refine v_R (fun hRσ11 => ?_)
        refine v_aload_n C 1 dX10_takesDegree_65 rfl rfl ?_
        refine v_iconst C dX10_takesDegree_66 ?_
        refine v_iconst C dX10_takesDegree_67 ?_
        refine v_iload_n C 3 dX10_takesDegree_68 rfl rfl ?_
        refine v_callv (i := 304) (As := [.int (iI 1), .int (iI 3), .int (iI a2)]) (rest := []) C (s_X10_common hlo hhi (by decide) (by decide) r2 h) w967 wy_X10_common ⟨rfl, rfl⟩ hd_X10_common ⟨Nat.le_of_ble_eq_true rfl, Nat.le_of_ble_eq_true rfl⟩ (Nat.le_trans hlo (by decide)) (Nat.lt_of_lt_of_le (by decide) hhi) rfl rfl rfl rfl (Nat.le_of_ble_eq_true rfl) dX10_takesDegree_69 (fun σ12 h => ?_)
        refine v_R (fun hRσ12 => ?_)
        refine v_aload_n C 1 dX10_takesDegree_72 rfl rfl ?_
        refine v_iconst C dX10_takesDegree_73 ?_
        refine v_iload_n C 3 dX10_takesDegree_74 rfl rfl ?_
        refine v_iconst C dX10_takesDegree_75 ?_
        refine v_callv (i := 304) (As := [.int (iI 1), .int (iI a2), .int (iI 5)]) (rest := []) C (s_X10_divides hlo hhi (by decide) r2 (by decide) h) w979 wy_X10_divides ⟨rfl, rfl⟩ hd_X10_divides ⟨Nat.le_of_ble_eq_true rfl, Nat.le_of_ble_eq_true rfl⟩ (Nat.le_trans hlo (by decide)) (Nat.lt_of_lt_of_le (by decide) hhi) rfl rfl rfl rfl (Nat.le_of_ble_eq_true rfl) dX10_takesDegree_76 (fun σ13 h => ?_)
        refine v_R (fun hRσ13 => ?_)
        refine v_aload_n C 1 dX10_takesDegree_79 rfl rfl ?_
        refine v_iconst C dX10_takesDegree_80 ?_
        refine v_iconst C dX10_takesDegree_81 ?_
        refine v_callv (i := 304) (As := [.int (iI 5), .int (iI 1)]) (rest := []) C (s_X10_copies hlo hhi (by decide) (by decide) h) w971 wy_X10_copies ⟨rfl, rfl⟩ hd_X10_copies ⟨Nat.le_of_ble_eq_true rfl, Nat.le_of_ble_eq_true rfl⟩ (Nat.le_trans hlo (by decide)) (Nat.lt_of_lt_of_le (by decide) hhi) rfl rfl rfl rfl (Nat.le_of_ble_eq_true rfl) dX10_takesDegree_82 (fun σ14 h => ?_)
        refine v_R (fun hRσ14 => ?_)
        exact v_vret C h dX10_takesDegree_85
      · have h := h.2 c17
        refine v_aload_n C 1 dX10_takesDegree_25 rfl rfl ?_
        refine v_iconst C dX10_takesDegree_26 ?_
        refine v_aload_n C 1 dX10_takesDegree_27 rfl rfl ?_
        refine gf10_now C hlo hhi w877 dX10_takesDegree_28 ?_
        refine v_iconst C dX10_takesDegree_31 ?_
        refine v_iald (i := 305) (n := 87) C (Nat.le_trans hlo (by decide)) (Nat.lt_of_lt_of_le (by decide) hhi) rfl (by decide) ⟨by decide, by decide⟩ dX10_takesDegree_32 ?_
        refine v_iconst C dX10_takesDegree_33 ?_
        refine v_iconst C dX10_takesDegree_34 ?_
        refine v_callv (i := 304) (As := [.int (iI 3), .int (iI (σ5 305 0)), .int (iI 1), .int (iI 3)]) (rest := []) C (s_X10_raises hlo hhi (by decide) (hRσ5 305 _) (by decide) (by decide) h) w1106 wy_X10_raises ⟨rfl, rfl⟩ hd_X10_raises ⟨Nat.le_of_ble_eq_true rfl, Nat.le_of_ble_eq_true rfl⟩ (Nat.le_trans hlo (by decide)) (Nat.lt_of_lt_of_le (by decide) hhi) rfl rfl rfl rfl (Nat.le_of_ble_eq_true rfl) dX10_takesDegree_35 (fun σ15 h => ?_)
        refine v_R (fun hRσ15 => ?_)
        have k16 := h.1
        have h := h.2
        refine v_iinc (lv' := [(3, .int (iI (x4 + 1))), (0, .ref (B + 304)), (1, .int (iI a1)), (2, .int (iI a2))]) C 0 dX10_takesDegree_38 rfl (by decide) rfl ?_
        refine v_goto C 20 dX10_takesDegree_41 (by decide) ?_
        obtain ⟨m9, hm9, h⟩ := h
        exact ih7 m9 hm9 (x4 + 1) σ15 h k16
  exact key8 n19 0 σ3 hnn19 (by decide)
-- SplitTowersModel.countsFactors()V
def wp_X10_countsFactors (σ : SG)  (Q : SG → Prop) : Prop :=
  wp_X10_loadsModulus σ (fun (σ1 : SG) => wp_X10_copies σ1 0 1 (fun (σ2 : SG) => Lp1 (fun (rec5 : Int → SG → Prop) (x3 : Int) (σ4 : SG) => ((6 < x3 → Q σ4) ∧ (¬ 6 < x3 → ((0 ≤ x3 ∧ x3 < 7) ∧ (∀ σ9 : SG, σ9 = ug σ4 315 x3.toNat 0 → wp_X10_degree σ9 1 (fun (z11 : Int) (σ10 : SG) => ((z11 ≤ 0 → (inR (x3 + 1) ∧ rec5 (x3 + 1) σ10)) ∧ (¬ z11 ≤ 0 → wp_X10_takesDegree σ10 x3 4 (fun (σ13 : SG) => wp_X10_degree σ13 4 (fun (z15 : Int) (σ14 : SG) => (x3 ≠ 0 ∧ inR (Int.tdiv z15 x3) ∧ ((0 ≤ x3 ∧ x3 < 7) ∧ (∀ σ19 : SG, σ19 = ug σ14 315 x3.toNat (Int.tdiv z15 x3) → (inR (x3 + 1) ∧ rec5 (x3 + 1) σ19)))))))))))))) 1 σ2))
def rm_X10_countsFactors : Room := { frames := 5, cells := 0, slots := 0, locals := 122 }
theorem wy_X10_countsFactors : Cond.instanceMethod yX10_countsFactors ∈ WS ∧ Cond.selects "SplitTowersModel" yX10_countsFactors yX10_countsFactors ∈ WS ∧ Cond.initialized "SplitTowersModel" ∈ WS ∧ Cond.code yX10_countsFactors prog_12_method_79_code 2 none ∈ WS := ⟨w1225, w63, w79, w1226⟩
theorem hd_X10_countsFactors : yX10_countsFactors.cls = "SplitTowersModel" ∧ yX10_countsFactors.cls ≠ "java/lang/invoke/MethodHandle" ∧ yX10_countsFactors.cls ≠ "java/lang/invoke/VarHandle" ∧ (parseMethodDescriptor yX10_countsFactors.desc).map (fun d => d.parameters.length) = some 0 := by decide +kernel
set_option maxHeartbeats 4000000 in
set_option maxRecDepth 100000 in
theorem s_X10_countsFactors {l : Launch} {D : va_G} {aC : Nat → ClassId} {B lo hi : Nat} {σ : SG}  {Q : SG → Prop} (hlo : lo ≤ 304) (hhi : 316 ≤ hi) (h : wp_X10_countsFactors σ  Q) : Met l yX10_countsFactors (Cond.code yX10_countsFactors prog_12_method_79_code 2 none :: WS) rm_X10_countsFactors (va_Pc [.ref (B + 304)] (WP D aC B lo hi σ)) (QV D aC B lo hi Q) 0 0 (AB B lo hi) := by
  refine met_of (by decide +kernel) (by decide +kernel : yX10_countsFactors.cls = "SplitTowersModel") (Nat.le_of_ble_eq_true rfl) ?_
  intro p e s m args below meth c C
  unfold wp_X10_countsFactors at h
  refine v_R (fun hR0 => ?_)
  show V p l e rm_X10_countsFactors s m args below meth c D aC B lo hi 2 (MQ below (QV D aC B lo hi Q) args s 0 0 (AB B lo hi)) σ 0 [(0, .ref (B + 304))] []
  refine v_aload_n C 0 dX10_countsFactors_0 rfl rfl ?_
  refine v_callv (i := 304) (As := []) (rest := []) C (s_X10_loadsModulus hlo hhi h) w1026 wy_X10_loadsModulus ⟨rfl, rfl⟩ hd_X10_loadsModulus ⟨Nat.le_of_ble_eq_true rfl, Nat.le_of_ble_eq_true rfl⟩ (Nat.le_trans hlo (by decide)) (Nat.lt_of_lt_of_le (by decide) hhi) rfl rfl rfl rfl (Nat.le_of_ble_eq_true rfl) dX10_countsFactors_1 (fun σ1 h => ?_)
  refine v_R (fun hRσ1 => ?_)
  refine v_aload_n C 0 dX10_countsFactors_4 rfl rfl ?_
  refine v_iconst C dX10_countsFactors_5 ?_
  refine v_iconst C dX10_countsFactors_6 ?_
  refine v_callv (i := 304) (As := [.int (iI 0), .int (iI 1)]) (rest := []) C (s_X10_copies hlo hhi (by decide) (by decide) h) w971 wy_X10_copies ⟨rfl, rfl⟩ hd_X10_copies ⟨Nat.le_of_ble_eq_true rfl, Nat.le_of_ble_eq_true rfl⟩ (Nat.le_trans hlo (by decide)) (Nat.lt_of_lt_of_le (by decide) hhi) rfl rfl rfl rfl (Nat.le_of_ble_eq_true rfl) dX10_countsFactors_7 (fun σ2 h => ?_)
  refine v_R (fun hRσ2 => ?_)
  refine v_iconst C dX10_countsFactors_10 ?_
  refine v_istore_n (lv' := [(1, .int (iI 1)), (0, .ref (B + 304))]) C dX10_countsFactors_11 rfl (by decide) rfl ?_
  obtain ⟨I23, ⟨n24, hnn24⟩, hII23⟩ := h
  have key7 : ∀ (n : Nat) (x3 : Int) (σ4 : SG), I23 n x3 σ4 → inR x3 → V p l e rm_X10_countsFactors s m args below meth c D aC B lo hi 2 (MQ below (QV D aC B lo hi Q) args s 0 0 (AB B lo hi)) σ4 12 [(1, .int (iI x3)), (0, .ref (B + 304))] [] := by
    intro n
    induction n using Nat.strongRecOn with
    | ind n ih6 =>
      intro x3 σ4 hn rx3
      have h := hII23 n x3 σ4 hn
      refine v_R (fun hRσ4 => ?_)
      refine v_iload_n C 0 dX10_countsFactors_12 rfl rfl ?_
      refine v_bipush C dX10_countsFactors_13 (by decide) ?_
      refine v_icmp_gt C rx3 (by decide) 58 dX10_countsFactors_15 (by decide) (fun c22 => ?_) (fun c22 => ?_)
      · have h := h.1 c22
        exact v_vret C h dX10_countsFactors_58
      · have h := h.2 c22
        refine v_aload_n C 1 dX10_countsFactors_18 rfl rfl ?_
        refine gf10_factors C hlo hhi w891 dX10_countsFactors_19 ?_
        refine v_iload_n C 0 dX10_countsFactors_22 rfl rfl ?_
        refine v_iconst C dX10_countsFactors_23 ?_
        have k8 := h.1
        have h := h.2
        refine v_iast (i := 315) (n := 7) C (Nat.le_trans hlo (by decide)) (Nat.lt_of_lt_of_le (by decide) hhi) (fun _ => rfl) rx3 k8 (by decide) dX10_countsFactors_24 ?_
        refine v_nameS (fun σ9 eσ9 => ?_)
        have h := h σ9 eσ9
        refine v_R (fun hRσ9 => ?_)
        refine v_aload_n C 1 dX10_countsFactors_25 rfl rfl ?_
        refine v_iconst C dX10_countsFactors_26 ?_
        refine v_calli (i := 304) (As := [.int (iI 1)]) (rest := []) C (s_X10_degree hlo hhi (by decide) h) w975 wy_X10_degree ⟨rfl, rfl⟩ hd_X10_degree ⟨Nat.le_of_ble_eq_true rfl, Nat.le_of_ble_eq_true rfl⟩ (Nat.le_trans hlo (by decide)) (Nat.lt_of_lt_of_le (by decide) hhi) rfl rfl rfl rfl (Nat.le_of_ble_eq_true rfl) dX10_countsFactors_27 (fun z11 σ10 rz11 h => ?_)
        refine v_R (fun hRσ10 => ?_)
        refine v_if_le C rz11 52 dX10_countsFactors_30 (by decide) (fun c21 => ?_) (fun c21 => ?_)
        · have h := h.1 c21
          have k12 := h.1
          have h := h.2
          refine v_iinc (lv' := [(1, .int (iI (x3 + 1))), (0, .ref (B + 304))]) C 0 dX10_countsFactors_52 rfl (by decide) rfl ?_
          refine v_goto C 12 dX10_countsFactors_55 (by decide) ?_
          obtain ⟨m9, hm9, h⟩ := h
          exact ih6 m9 hm9 (x3 + 1) σ10 h k12
        · have h := h.2 c21
          refine v_aload_n C 1 dX10_countsFactors_33 rfl rfl ?_
          refine v_iload_n C 0 dX10_countsFactors_34 rfl rfl ?_
          refine v_iconst C dX10_countsFactors_35 ?_
          refine v_callv (i := 304) (As := [.int (iI x3), .int (iI 4)]) (rest := []) C (s_X10_takesDegree hlo hhi rx3 (by decide) h) w1102 wy_X10_takesDegree ⟨rfl, rfl⟩ hd_X10_takesDegree ⟨Nat.le_of_ble_eq_true rfl, Nat.le_of_ble_eq_true rfl⟩ (Nat.le_trans hlo (by decide)) (Nat.lt_of_lt_of_le (by decide) hhi) rfl rfl rfl rfl (Nat.le_of_ble_eq_true rfl) dX10_countsFactors_36 (fun σ13 h => ?_)
          refine v_R (fun hRσ13 => ?_)
          refine v_aload_n C 1 dX10_countsFactors_39 rfl rfl ?_
          refine gf10_factors C hlo hhi w891 dX10_countsFactors_40 ?_
          refine v_iload_n C 0 dX10_countsFactors_43 rfl rfl ?_
          refine v_aload_n C 1 dX10_countsFactors_44 rfl rfl ?_
          refine v_iconst C dX10_countsFactors_45 ?_
          refine v_calli (i := 304) (As := [.int (iI 4)]) (rest := [.int (iI x3), .ref (B + 315)]) C (s_X10_degree hlo hhi (by decide) h) w975 wy_X10_degree ⟨rfl, rfl⟩ hd_X10_degree ⟨Nat.le_of_ble_eq_true rfl, Nat.le_of_ble_eq_true rfl⟩ (Nat.le_trans hlo (by decide)) (Nat.lt_of_lt_of_le (by decide) hhi) rfl rfl rfl rfl (Nat.le_of_ble_eq_true rfl) dX10_countsFactors_46 (fun z15 σ14 rz15 h => ?_)
          refine v_R (fun hRσ14 => ?_)
          refine v_iload_n C 0 dX10_countsFactors_49 rfl rfl ?_
          have k16 := h.1
          have h := h.2
          have k17 := h.1
          have h := h.2
          refine v_idiv C rz15 rx3 k16 dX10_countsFactors_50 ?_
          have k18 := h.1
          have h := h.2
          refine v_iast (i := 315) (n := 7) C (Nat.le_trans hlo (by decide)) (Nat.lt_of_lt_of_le (by decide) hhi) (fun _ => rfl) rx3 k18 k17 dX10_countsFactors_51 ?_
          refine v_nameS (fun σ19 eσ19 => ?_)
          have h := h σ19 eσ19
          refine v_R (fun hRσ19 => ?_)
          have k20 := h.1
          have h := h.2
          refine v_iinc (lv' := [(1, .int (iI (x3 + 1))), (0, .ref (B + 304))]) C 0 dX10_countsFactors_52 rfl (by decide) rfl ?_
          refine v_goto C 12 dX10_countsFactors_55 (by decide) ?_
          obtain ⟨m9, hm9, h⟩ := h
          exact ih6 m9 hm9 (x3 + 1) σ19 h k20
  exact key7 n24 1 σ2 hnn24 (by decide)
-- SplitTowersModel.allFactors()I
def wp_X10_allFactors (σ : SG)  (Q : Int → SG → Prop) : Prop :=
  wp_X10_countsFactors σ (fun (σ1 : SG) => (inR ((σ1 315 1) + (σ1 315 2)) ∧ (inR (((σ1 315 1) + (σ1 315 2)) + (σ1 315 3)) ∧ (inR ((((σ1 315 1) + (σ1 315 2)) + (σ1 315 3)) + (σ1 315 4)) ∧ (inR (((((σ1 315 1) + (σ1 315 2)) + (σ1 315 3)) + (σ1 315 4)) + (σ1 315 5)) ∧ (inR ((((((σ1 315 1) + (σ1 315 2)) + (σ1 315 3)) + (σ1 315 4)) + (σ1 315 5)) + (σ1 315 6)) ∧ Q ((((((σ1 315 1) + (σ1 315 2)) + (σ1 315 3)) + (σ1 315 4)) + (σ1 315 5)) + (σ1 315 6)) σ1))))))
def rm_X10_allFactors : Room := { frames := 6, cells := 0, slots := 0, locals := 143 }
theorem wy_X10_allFactors : Cond.instanceMethod yX10_allFactors ∈ WS ∧ Cond.selects "SplitTowersModel" yX10_allFactors yX10_allFactors ∈ WS ∧ Cond.initialized "SplitTowersModel" ∈ WS ∧ Cond.code yX10_allFactors prog_12_method_82_code 1 (some .int) ∈ WS := ⟨w1244, w65, w79, w1245⟩
theorem hd_X10_allFactors : yX10_allFactors.cls = "SplitTowersModel" ∧ yX10_allFactors.cls ≠ "java/lang/invoke/MethodHandle" ∧ yX10_allFactors.cls ≠ "java/lang/invoke/VarHandle" ∧ (parseMethodDescriptor yX10_allFactors.desc).map (fun d => d.parameters.length) = some 0 := by decide +kernel
set_option maxHeartbeats 4000000 in
set_option maxRecDepth 100000 in
theorem s_X10_allFactors {l : Launch} {D : va_G} {aC : Nat → ClassId} {B lo hi : Nat} {σ : SG}  {Q : Int → SG → Prop} (hlo : lo ≤ 304) (hhi : 316 ≤ hi) (h : wp_X10_allFactors σ  Q) : Met l yX10_allFactors (Cond.code yX10_allFactors prog_12_method_82_code 1 (some .int) :: WS) rm_X10_allFactors (va_Pc [.ref (B + 304)] (WP D aC B lo hi σ)) (QI D aC B lo hi Q) 0 0 (AB B lo hi) := by
  refine met_of (by decide +kernel) (by decide +kernel : yX10_allFactors.cls = "SplitTowersModel") (Nat.le_of_ble_eq_true rfl) ?_
  intro p e s m args below meth c C
  unfold wp_X10_allFactors at h
  refine v_R (fun hR0 => ?_)
  show V p l e rm_X10_allFactors s m args below meth c D aC B lo hi 1 (MQ below (QI D aC B lo hi Q) args s 0 0 (AB B lo hi)) σ 0 [(0, .ref (B + 304))] []
  refine v_aload_n C 0 dX10_allFactors_0 rfl rfl ?_
  refine v_callv (i := 304) (As := []) (rest := []) C (s_X10_countsFactors hlo hhi h) w1223 wy_X10_countsFactors ⟨rfl, rfl⟩ hd_X10_countsFactors ⟨Nat.le_of_ble_eq_true rfl, Nat.le_of_ble_eq_true rfl⟩ (Nat.le_trans hlo (by decide)) (Nat.lt_of_lt_of_le (by decide) hhi) rfl rfl rfl rfl (Nat.le_of_ble_eq_true rfl) dX10_allFactors_1 (fun σ1 h => ?_)
  refine v_R (fun hRσ1 => ?_)
  refine v_aload_n C 0 dX10_allFactors_4 rfl rfl ?_
  refine gf10_factors C hlo hhi w891 dX10_allFactors_5 ?_
  refine v_iconst C dX10_allFactors_8 ?_
  refine v_iald (i := 315) (n := 7) C (Nat.le_trans hlo (by decide)) (Nat.lt_of_lt_of_le (by decide) hhi) rfl (by decide) ⟨by decide, by decide⟩ dX10_allFactors_9 ?_
  refine v_aload_n C 0 dX10_allFactors_10 rfl rfl ?_
  refine gf10_factors C hlo hhi w891 dX10_allFactors_11 ?_
  refine v_iconst C dX10_allFactors_14 ?_
  refine v_iald (i := 315) (n := 7) C (Nat.le_trans hlo (by decide)) (Nat.lt_of_lt_of_le (by decide) hhi) rfl (by decide) ⟨by decide, by decide⟩ dX10_allFactors_15 ?_
  have k2 := h.1
  have h := h.2
  refine v_iadd C dX10_allFactors_16 ?_
  refine v_aload_n C 0 dX10_allFactors_17 rfl rfl ?_
  refine gf10_factors C hlo hhi w891 dX10_allFactors_18 ?_
  refine v_iconst C dX10_allFactors_21 ?_
  refine v_iald (i := 315) (n := 7) C (Nat.le_trans hlo (by decide)) (Nat.lt_of_lt_of_le (by decide) hhi) rfl (by decide) ⟨by decide, by decide⟩ dX10_allFactors_22 ?_
  have k3 := h.1
  have h := h.2
  refine v_iadd C dX10_allFactors_23 ?_
  refine v_aload_n C 0 dX10_allFactors_24 rfl rfl ?_
  refine gf10_factors C hlo hhi w891 dX10_allFactors_25 ?_
  refine v_iconst C dX10_allFactors_28 ?_
  refine v_iald (i := 315) (n := 7) C (Nat.le_trans hlo (by decide)) (Nat.lt_of_lt_of_le (by decide) hhi) rfl (by decide) ⟨by decide, by decide⟩ dX10_allFactors_29 ?_
  have k4 := h.1
  have h := h.2
  refine v_iadd C dX10_allFactors_30 ?_
  refine v_aload_n C 0 dX10_allFactors_31 rfl rfl ?_
  refine gf10_factors C hlo hhi w891 dX10_allFactors_32 ?_
  refine v_iconst C dX10_allFactors_35 ?_
  refine v_iald (i := 315) (n := 7) C (Nat.le_trans hlo (by decide)) (Nat.lt_of_lt_of_le (by decide) hhi) rfl (by decide) ⟨by decide, by decide⟩ dX10_allFactors_36 ?_
  have k5 := h.1
  have h := h.2
  refine v_iadd C dX10_allFactors_37 ?_
  refine v_aload_n C 0 dX10_allFactors_38 rfl rfl ?_
  refine gf10_factors C hlo hhi w891 dX10_allFactors_39 ?_
  refine v_bipush C dX10_allFactors_42 (by decide) ?_
  refine v_iald (i := 315) (n := 7) C (Nat.le_trans hlo (by decide)) (Nat.lt_of_lt_of_le (by decide) hhi) rfl (by decide) ⟨by decide, by decide⟩ dX10_allFactors_44 ?_
  have k6 := h.1
  have h := h.2
  refine v_iadd C dX10_allFactors_45 ?_
  exact v_iret C k6 h dX10_allFactors_46
-- SplitTowersModel.in(III)Z
def wp_X10_in (σ : SG) (a1 : Int) (a2 : Int) (a3 : Int) (Q : Int → SG → Prop) : Prop :=
  ((a1 < a2 → Q 0 σ) ∧ (¬ a1 < a2 → ((a3 < a1 → Q 0 σ) ∧ (¬ a3 < a1 → Q 1 σ))))
def rm_X10_in : Room := { frames := 0, cells := 0, slots := 0, locals := 0 }
theorem wy_X10_in : Cond.static yX10_in ∈ WS ∧ Cond.initialized "SplitTowersModel" ∈ WS ∧ Cond.code yX10_in prog_12_method_3_code 3 (some .boolean) ∈ WS := ⟨w945, w79, w946⟩
theorem hd_X10_in : yX10_in.cls ≠ "java/lang/invoke/MethodHandle" ∧ yX10_in.cls ≠ "java/lang/invoke/VarHandle" ∧ (parseMethodDescriptor yX10_in.desc).map (fun d => d.parameters.length) = some 3 := by decide +kernel
set_option maxHeartbeats 4000000 in
set_option maxRecDepth 100000 in
theorem s_X10_in {l : Launch} {D : va_G} {aC : Nat → ClassId} {B lo hi : Nat} {σ : SG} {a1 : Int} {a2 : Int} {a3 : Int} {Q : Int → SG → Prop} (hlo : lo ≤ 304) (hhi : 316 ≤ hi) (r1 : inR a1) (r2 : inR a2) (r3 : inR a3) (h : wp_X10_in σ a1 a2 a3 Q) : Met l yX10_in (Cond.code yX10_in prog_12_method_3_code 3 (some .boolean) :: WS) rm_X10_in (va_Pc [.int (iI a1), .int (iI a2), .int (iI a3)] (WP D aC B lo hi σ)) (QI D aC B lo hi Q) 0 0 (AB B lo hi) := by
  refine met_of (by decide +kernel) (by decide +kernel : yX10_in.cls = "SplitTowersModel") (Nat.le_of_ble_eq_true rfl) ?_
  intro p e s m args below meth c C
  unfold wp_X10_in at h
  refine v_R (fun hR0 => ?_)
  show V p l e rm_X10_in s m args below meth c D aC B lo hi 3 (MQ below (QI D aC B lo hi Q) args s 0 0 (AB B lo hi)) σ 0 [(0, .int (iI a1)), (1, .int (iI a2)), (2, .int (iI a3))] []
  refine v_iload_n C 0 dX10_in_0 rfl rfl ?_
  refine v_iload_n C 1 dX10_in_1 rfl rfl ?_
  refine v_icmp_lt C r1 r2 14 dX10_in_2 (by decide) (fun c2 => ?_) (fun c2 => ?_)
  · have h := h.1 c2
    refine v_iconst C dX10_in_14 ?_
    exact v_zret C (by decide) h dX10_in_15
  · have h := h.2 c2
    refine v_iload_n C 0 dX10_in_5 rfl rfl ?_
    refine v_iload_n C 2 dX10_in_6 rfl rfl ?_
    refine v_icmp_gt C r1 r3 14 dX10_in_7 (by decide) (fun c1 => ?_) (fun c1 => ?_)
    · have h := h.1 c1
      refine v_iconst C dX10_in_14 ?_
      exact v_zret C (by decide) h dX10_in_15
    · have h := h.2 c1
      refine v_iconst C dX10_in_10 ?_
      refine v_goto C 15 dX10_in_11 (by decide) ?_
      exact v_zret C (by decide) h dX10_in_15
-- SplitTowersModel.isBetween(II)Z
def wp_X10_isBetween (σ : SG) (a1 : Int) (a2 : Int) (Q : Int → SG → Prop) : Prop :=
  (((σ 304 8) ≤ (σ 304 10) → Q 0 σ) ∧ (¬ (σ 304 8) ≤ (σ 304 10) → ((0 ≤ (σ 304 10) ∧ (σ 304 10) < 60) ∧ wp_X10_in σ (σ 311 (σ 304 10).toNat) a1 a2 (fun (z3 : Int) (σ2 : SG) => ((z3 = 0 → Q 0 σ2) ∧ (¬ z3 = 0 → Q 1 σ2))))))
def rm_X10_isBetween : Room := { frames := 1, cells := 0, slots := 0, locals := 22 }
theorem wy_X10_isBetween : Cond.instanceMethod yX10_isBetween ∈ WS ∧ Cond.selects "SplitTowersModel" yX10_isBetween yX10_isBetween ∈ WS ∧ Cond.initialized "SplitTowersModel" ∈ WS ∧ Cond.code yX10_isBetween prog_12_method_54_code 3 (some .boolean) ∈ WS := ⟨w942, w16, w79, w943⟩
theorem hd_X10_isBetween : yX10_isBetween.cls = "SplitTowersModel" ∧ yX10_isBetween.cls ≠ "java/lang/invoke/MethodHandle" ∧ yX10_isBetween.cls ≠ "java/lang/invoke/VarHandle" ∧ (parseMethodDescriptor yX10_isBetween.desc).map (fun d => d.parameters.length) = some 2 := by decide +kernel
set_option maxHeartbeats 4000000 in
set_option maxRecDepth 100000 in
theorem s_X10_isBetween {l : Launch} {D : va_G} {aC : Nat → ClassId} {B lo hi : Nat} {σ : SG} {a1 : Int} {a2 : Int} {Q : Int → SG → Prop} (hlo : lo ≤ 304) (hhi : 316 ≤ hi) (r1 : inR a1) (r2 : inR a2) (h : wp_X10_isBetween σ a1 a2 Q) : Met l yX10_isBetween (Cond.code yX10_isBetween prog_12_method_54_code 3 (some .boolean) :: WS) rm_X10_isBetween (va_Pc [.ref (B + 304), .int (iI a1), .int (iI a2)] (WP D aC B lo hi σ)) (QI D aC B lo hi Q) 0 0 (AB B lo hi) := by
  refine met_of (by decide +kernel) (by decide +kernel : yX10_isBetween.cls = "SplitTowersModel") (Nat.le_of_ble_eq_true rfl) ?_
  intro p e s m args below meth c C
  unfold wp_X10_isBetween at h
  refine v_R (fun hR0 => ?_)
  show V p l e rm_X10_isBetween s m args below meth c D aC B lo hi 3 (MQ below (QI D aC B lo hi Q) args s 0 0 (AB B lo hi)) σ 0 [(0, .ref (B + 304)), (1, .int (iI a1)), (2, .int (iI a2))] []
  refine v_aload_n C 0 dX10_isBetween_0 rfl rfl ?_
  refine gf10_at C hlo hhi w887 dX10_isBetween_1 ?_
  refine v_aload_n C 0 dX10_isBetween_4 rfl rfl ?_
  refine gf10_typed C hlo hhi w885 dX10_isBetween_5 ?_
  refine v_icmp_ge C (hR0 304 10) (hR0 304 8) 32 dX10_isBetween_8 (by decide) (fun c5 => ?_) (fun c5 => ?_)
  · have h := h.1 c5
    refine v_iconst C dX10_isBetween_32 ?_
    exact v_zret C (by decide) h dX10_isBetween_33
  · have h := h.2 c5
    refine v_aload_n C 0 dX10_isBetween_11 rfl rfl ?_
    refine gf10_text C hlo hhi w886 dX10_isBetween_12 ?_
    refine v_aload_n C 0 dX10_isBetween_15 rfl rfl ?_
    refine gf10_at C hlo hhi w887 dX10_isBetween_16 ?_
    have k1 := h.1
    have h := h.2
    refine v_cald (i := 311) (n := 60) C (Nat.le_trans hlo (by decide)) (Nat.lt_of_lt_of_le (by decide) hhi) rfl (hR0 304 10) k1 dX10_isBetween_19 ?_
    refine v_iload_n C 1 dX10_isBetween_20 rfl rfl ?_
    refine v_iload_n C 2 dX10_isBetween_21 rfl rfl ?_
    refine v_callsi (As := [.int (iI (σ 311 (σ 304 10).toNat)), .int (iI a1), .int (iI a2)]) (rest := []) C (s_X10_in hlo hhi (hR0 311 _) r1 r2 h) w944 wy_X10_in ⟨rfl, rfl⟩ hd_X10_in ⟨Nat.le_of_ble_eq_true rfl, Nat.le_of_ble_eq_true rfl⟩ rfl rfl (Nat.le_of_ble_eq_true rfl) dX10_isBetween_22 (fun z3 σ2 rz3 h => ?_)
    refine v_R (fun hRσ2 => ?_)
    refine v_if_eq C rz3 32 dX10_isBetween_25 (by decide) (fun c4 => ?_) (fun c4 => ?_)
    · have h := h.1 c4
      refine v_iconst C dX10_isBetween_32 ?_
      exact v_zret C (by decide) h dX10_isBetween_33
    · have h := h.2 c4
      refine v_iconst C dX10_isBetween_28 ?_
      refine v_goto C 33 dX10_isBetween_29 (by decide) ?_
      exact v_zret C (by decide) h dX10_isBetween_33
-- SplitTowersModel.takes(I)Z
def wp_X10_takes (σ : SG) (a1 : Int) (Q : Int → SG → Prop) : Prop :=
  wp_X10_isBetween σ a1 a1 (fun (z2 : Int) (σ1 : SG) => ((z2 = 0 → (inR ((σ1 304 10) + 0) ∧ (∀ σ4 : SG, σ4 = ug σ1 304 10 ((σ1 304 10) + 0) → ((z2 = 0 ∨ z2 = 1) ∧ Q z2 σ4)))) ∧ (¬ z2 = 0 → (inR ((σ1 304 10) + 1) ∧ (∀ σ6 : SG, σ6 = ug σ1 304 10 ((σ1 304 10) + 1) → ((z2 = 0 ∨ z2 = 1) ∧ Q z2 σ6))))))
def rm_X10_takes : Room := { frames := 2, cells := 0, slots := 0, locals := 44 }
theorem wy_X10_takes : Cond.instanceMethod yX10_takes ∈ WS ∧ Cond.selects "SplitTowersModel" yX10_takes yX10_takes ∈ WS ∧ Cond.initialized "SplitTowersModel" ∈ WS ∧ Cond.code yX10_takes prog_12_method_55_code 3 (some .boolean) ∈ WS := ⟨w949, w17, w79, w950⟩
theorem hd_X10_takes : yX10_takes.cls = "SplitTowersModel" ∧ yX10_takes.cls ≠ "java/lang/invoke/MethodHandle" ∧ yX10_takes.cls ≠ "java/lang/invoke/VarHandle" ∧ (parseMethodDescriptor yX10_takes.desc).map (fun d => d.parameters.length) = some 1 := by decide +kernel
set_option maxHeartbeats 4000000 in
set_option maxRecDepth 100000 in
theorem s_X10_takes {l : Launch} {D : va_G} {aC : Nat → ClassId} {B lo hi : Nat} {σ : SG} {a1 : Int} {Q : Int → SG → Prop} (hlo : lo ≤ 304) (hhi : 316 ≤ hi) (r1 : inR a1) (h : wp_X10_takes σ a1 Q) : Met l yX10_takes (Cond.code yX10_takes prog_12_method_55_code 3 (some .boolean) :: WS) rm_X10_takes (va_Pc [.ref (B + 304), .int (iI a1)] (WP D aC B lo hi σ)) (QI D aC B lo hi Q) 0 0 (AB B lo hi) := by
  refine met_of (by decide +kernel) (by decide +kernel : yX10_takes.cls = "SplitTowersModel") (Nat.le_of_ble_eq_true rfl) ?_
  intro p e s m args below meth c C
  unfold wp_X10_takes at h
  refine v_R (fun hR0 => ?_)
  show V p l e rm_X10_takes s m args below meth c D aC B lo hi 3 (MQ below (QI D aC B lo hi Q) args s 0 0 (AB B lo hi)) σ 0 [(0, .ref (B + 304)), (1, .int (iI a1))] []
  refine v_aload_n C 0 dX10_takes_0 rfl rfl ?_
  refine v_iload_n C 1 dX10_takes_1 rfl rfl ?_
  refine v_iload_n C 1 dX10_takes_2 rfl rfl ?_
  refine v_calli (i := 304) (As := [.int (iI a1), .int (iI a1)]) (rest := []) C (s_X10_isBetween hlo hhi r1 r1 h) w940 wy_X10_isBetween ⟨rfl, rfl⟩ hd_X10_isBetween ⟨Nat.le_of_ble_eq_true rfl, Nat.le_of_ble_eq_true rfl⟩ (Nat.le_trans hlo (by decide)) (Nat.lt_of_lt_of_le (by decide) hhi) rfl rfl rfl rfl (Nat.le_of_ble_eq_true rfl) dX10_takes_3 (fun z2 σ1 rz2 h => ?_)
  refine v_R (fun hRσ1 => ?_)
  refine v_istore_n (lv' := [(2, .int (iI z2)), (0, .ref (B + 304)), (1, .int (iI a1))]) C dX10_takes_6 rfl (by decide) rfl ?_
  refine v_aload_n C 1 dX10_takes_7 rfl rfl ?_
  refine v_dup C rfl dX10_takes_8 ?_
  refine gf10_at C hlo hhi w887 dX10_takes_9 ?_
  refine v_iload_n C 0 dX10_takes_12 rfl rfl ?_
  refine v_if_eq C rz2 20 dX10_takes_13 (by decide) (fun c7 => ?_) (fun c7 => ?_)
  · have h := h.1 c7
    refine v_iconst C dX10_takes_20 ?_
    have k3 := h.1
    have h := h.2
    refine v_iadd C dX10_takes_21 ?_
    refine pf10_at C hlo hhi k3 w887 dX10_takes_22 ?_
    refine v_nameS (fun σ4 eσ4 => ?_)
    have h := h σ4 eσ4
    refine v_R (fun hRσ4 => ?_)
    refine v_iload_n C 0 dX10_takes_25 rfl rfl ?_
    exact v_zret C h.1 h.2 dX10_takes_26
  · have h := h.2 c7
    refine v_iconst C dX10_takes_16 ?_
    refine v_goto C 21 dX10_takes_17 (by decide) ?_
    have k5 := h.1
    have h := h.2
    refine v_iadd C dX10_takes_21 ?_
    refine pf10_at C hlo hhi k5 w887 dX10_takes_22 ?_
    refine v_nameS (fun σ6 eσ6 => ?_)
    have h := h σ6 eσ6
    refine v_R (fun hRσ6 => ?_)
    refine v_iload_n C 0 dX10_takes_25 rfl rfl ?_
    exact v_zret C h.1 h.2 dX10_takes_26
-- SplitTowersModel.loadsNumber(II)V
def wp_X10_loadsNumber (σ : SG) (a1 : Int) (a2 : Int) (Q : SG → Prop) : Prop :=
  (inR (6 * a1) ∧ (inR (8 + (6 * a1)) ∧ wp_X10_loads σ (8 + (6 * a1)) 6 a2 (fun (σ3 : SG) => Q σ3)))
def rm_X10_loadsNumber : Room := { frames := 3, cells := 0, slots := 0, locals := 69 }
theorem wy_X10_loadsNumber : Cond.instanceMethod yX10_loadsNumber ∈ WS ∧ Cond.selects "SplitTowersModel" yX10_loadsNumber yX10_loadsNumber ∈ WS ∧ Cond.initialized "SplitTowersModel" ∈ WS ∧ Cond.code yX10_loadsNumber prog_12_method_16_code 3 none ∈ WS := ⟨w993, w28, w79, w994⟩
theorem hd_X10_loadsNumber : yX10_loadsNumber.cls = "SplitTowersModel" ∧ yX10_loadsNumber.cls ≠ "java/lang/invoke/MethodHandle" ∧ yX10_loadsNumber.cls ≠ "java/lang/invoke/VarHandle" ∧ (parseMethodDescriptor yX10_loadsNumber.desc).map (fun d => d.parameters.length) = some 2 := by decide +kernel
set_option maxHeartbeats 4000000 in
set_option maxRecDepth 100000 in
theorem s_X10_loadsNumber {l : Launch} {D : va_G} {aC : Nat → ClassId} {B lo hi : Nat} {σ : SG} {a1 : Int} {a2 : Int} {Q : SG → Prop} (hlo : lo ≤ 304) (hhi : 316 ≤ hi) (r1 : inR a1) (r2 : inR a2) (h : wp_X10_loadsNumber σ a1 a2 Q) : Met l yX10_loadsNumber (Cond.code yX10_loadsNumber prog_12_method_16_code 3 none :: WS) rm_X10_loadsNumber (va_Pc [.ref (B + 304), .int (iI a1), .int (iI a2)] (WP D aC B lo hi σ)) (QV D aC B lo hi Q) 0 0 (AB B lo hi) := by
  refine met_of (by decide +kernel) (by decide +kernel : yX10_loadsNumber.cls = "SplitTowersModel") (Nat.le_of_ble_eq_true rfl) ?_
  intro p e s m args below meth c C
  unfold wp_X10_loadsNumber at h
  refine v_R (fun hR0 => ?_)
  show V p l e rm_X10_loadsNumber s m args below meth c D aC B lo hi 3 (MQ below (QV D aC B lo hi Q) args s 0 0 (AB B lo hi)) σ 0 [(0, .ref (B + 304)), (1, .int (iI a1)), (2, .int (iI a2))] []
  refine v_aload_n C 0 dX10_loadsNumber_0 rfl rfl ?_
  refine v_bipush C dX10_loadsNumber_1 (by decide) ?_
  refine v_bipush C dX10_loadsNumber_3 (by decide) ?_
  refine v_iload_n C 1 dX10_loadsNumber_5 rfl rfl ?_
  have k1 := h.1
  have h := h.2
  refine v_imul C dX10_loadsNumber_6 ?_
  have k2 := h.1
  have h := h.2
  refine v_iadd C dX10_loadsNumber_7 ?_
  refine v_bipush C dX10_loadsNumber_8 (by decide) ?_
  refine v_iload_n C 2 dX10_loadsNumber_10 rfl rfl ?_
  refine v_callv (i := 304) (As := [.int (iI (8 + (6 * a1))), .int (iI 6), .int (iI a2)]) (rest := []) C (s_X10_loads hlo hhi k2 (by decide) r2 h) w995 wy_X10_loads ⟨rfl, rfl⟩ hd_X10_loads ⟨Nat.le_of_ble_eq_true rfl, Nat.le_of_ble_eq_true rfl⟩ (Nat.le_trans hlo (by decide)) (Nat.lt_of_lt_of_le (by decide) hhi) rfl rfl rfl rfl (Nat.le_of_ble_eq_true rfl) dX10_loadsNumber_11 (fun σ3 h => ?_)
  refine v_R (fun hRσ3 => ?_)
  exact v_vret C h dX10_loadsNumber_14
-- SplitTowersModel.takesSimple(Z)Z
def wp_X10_takesSimple (σ : SG) (a1 : Int) (Q : Int → SG → Prop) : Prop :=
  wp_X10_isBetween σ 97 102 (fun (z2 : Int) (σ1 : SG) => ((z2 = 0 → wp_X10_isBetween σ1 120 120 (fun (z4 : Int) (σ3 : SG) => ((z4 = 0 → wp_X10_isBetween σ3 48 57 (fun (z6 : Int) (σ5 : SG) => ((z6 = 0 → Q 0 σ5) ∧ (¬ z6 = 0 → ((0 ≤ (σ5 304 10) ∧ (σ5 304 10) < 60) ∧ (inR ((σ5 311 (σ5 304 10).toNat) - 48) ∧ wp_X10_constant σ5 32 ((σ5 311 (σ5 304 10).toNat) - 48) (fun (σ9 : SG) => (inR ((σ9 304 10) + 1) ∧ (∀ σ11 : SG, σ11 = ug σ9 304 10 ((σ9 304 10) + 1) → ((a1 = 0 → Q 1 σ11) ∧ (¬ a1 = 0 → wp_X10_divides σ11 32 0 (-1) (fun (σ12 : SG) => Q 1 σ12)))))))))))) ∧ (¬ z4 = 0 → wp_X10_clears σ3 32 (fun (σ15 : SG) => wp_X10_puts σ15 32 1 1 (fun (σ16 : SG) => (inR ((σ16 304 10) + 1) ∧ (∀ σ18 : SG, σ18 = ug σ16 304 10 ((σ16 304 10) + 1) → ((a1 = 0 → Q 1 σ18) ∧ (¬ a1 = 0 → wp_X10_divides σ18 32 0 (-1) (fun (σ19 : SG) => Q 1 σ19))))))))))) ∧ (¬ z2 = 0 → ((0 ≤ (σ1 304 10) ∧ (σ1 304 10) < 60) ∧ (inR ((σ1 311 (σ1 304 10).toNat) - 97) ∧ wp_X10_loadsNumber σ1 ((σ1 311 (σ1 304 10).toNat) - 97) 32 (fun (σ24 : SG) => (inR ((σ24 304 10) + 1) ∧ (∀ σ26 : SG, σ26 = ug σ24 304 10 ((σ24 304 10) + 1) → ((a1 = 0 → Q 1 σ26) ∧ (¬ a1 = 0 → wp_X10_divides σ26 32 0 (-1) (fun (σ27 : SG) => Q 1 σ27)))))))))))
def rm_X10_takesSimple : Room := { frames := 4, cells := 0, slots := 0, locals := 91 }
theorem wy_X10_takesSimple : Cond.instanceMethod yX10_takesSimple ∈ WS ∧ Cond.selects "SplitTowersModel" yX10_takesSimple yX10_takesSimple ∈ WS ∧ Cond.initialized "SplitTowersModel" ∈ WS ∧ Cond.code yX10_takesSimple prog_12_method_59_code 2 (some .boolean) ∈ WS := ⟨w1144, w56, w79, w1145⟩
theorem hd_X10_takesSimple : yX10_takesSimple.cls = "SplitTowersModel" ∧ yX10_takesSimple.cls ≠ "java/lang/invoke/MethodHandle" ∧ yX10_takesSimple.cls ≠ "java/lang/invoke/VarHandle" ∧ (parseMethodDescriptor yX10_takesSimple.desc).map (fun d => d.parameters.length) = some 1 := by decide +kernel
set_option maxHeartbeats 4000000 in
set_option maxRecDepth 100000 in
theorem s_X10_takesSimple {l : Launch} {D : va_G} {aC : Nat → ClassId} {B lo hi : Nat} {σ : SG} {a1 : Int} {Q : Int → SG → Prop} (hlo : lo ≤ 304) (hhi : 316 ≤ hi) (r1 : inR a1) (h : wp_X10_takesSimple σ a1 Q) : Met l yX10_takesSimple (Cond.code yX10_takesSimple prog_12_method_59_code 2 (some .boolean) :: WS) rm_X10_takesSimple (va_Pc [.ref (B + 304), .int (iI a1)] (WP D aC B lo hi σ)) (QI D aC B lo hi Q) 0 0 (AB B lo hi) := by
  refine met_of (by decide +kernel) (by decide +kernel : yX10_takesSimple.cls = "SplitTowersModel") (Nat.le_of_ble_eq_true rfl) ?_
  intro p e s m args below meth c C
  unfold wp_X10_takesSimple at h
  refine v_R (fun hR0 => ?_)
  show V p l e rm_X10_takesSimple s m args below meth c D aC B lo hi 2 (MQ below (QI D aC B lo hi Q) args s 0 0 (AB B lo hi)) σ 0 [(0, .ref (B + 304)), (1, .int (iI a1))] []
  refine v_aload_n C 0 dX10_takesSimple_0 rfl rfl ?_
  refine v_bipush C dX10_takesSimple_1 (by decide) ?_
  refine v_bipush C dX10_takesSimple_3 (by decide) ?_
  refine v_calli (i := 304) (As := [.int (iI 97), .int (iI 102)]) (rest := []) C (s_X10_isBetween hlo hhi (by decide) (by decide) h) w940 wy_X10_isBetween ⟨rfl, rfl⟩ hd_X10_isBetween ⟨Nat.le_of_ble_eq_true rfl, Nat.le_of_ble_eq_true rfl⟩ (Nat.le_trans hlo (by decide)) (Nat.lt_of_lt_of_le (by decide) hhi) rfl rfl rfl rfl (Nat.le_of_ble_eq_true rfl) dX10_takesSimple_5 (fun z2 σ1 rz2 h => ?_)
  refine v_R (fun hRσ1 => ?_)
  refine v_if_eq C rz2 32 dX10_takesSimple_8 (by decide) (fun c29 => ?_) (fun c29 => ?_)
  · have h := h.1 c29
    refine v_aload_n C 0 dX10_takesSimple_32 rfl rfl ?_
    refine v_bipush C dX10_takesSimple_33 (by decide) ?_
    refine v_bipush C dX10_takesSimple_35 (by decide) ?_
    refine v_calli (i := 304) (As := [.int (iI 120), .int (iI 120)]) (rest := []) C (s_X10_isBetween hlo hhi (by decide) (by decide) h) w940 wy_X10_isBetween ⟨rfl, rfl⟩ hd_X10_isBetween ⟨Nat.le_of_ble_eq_true rfl, Nat.le_of_ble_eq_true rfl⟩ (Nat.le_trans hlo (by decide)) (Nat.lt_of_lt_of_le (by decide) hhi) rfl rfl rfl rfl (Nat.le_of_ble_eq_true rfl) dX10_takesSimple_37 (fun z4 σ3 rz4 h => ?_)
    refine v_R (fun hRσ3 => ?_)
    refine v_if_eq C rz4 60 dX10_takesSimple_40 (by decide) (fun c21 => ?_) (fun c21 => ?_)
    · have h := h.1 c21
      refine v_aload_n C 0 dX10_takesSimple_60 rfl rfl ?_
      refine v_bipush C dX10_takesSimple_61 (by decide) ?_
      refine v_bipush C dX10_takesSimple_63 (by decide) ?_
      refine v_calli (i := 304) (As := [.int (iI 48), .int (iI 57)]) (rest := []) C (s_X10_isBetween hlo hhi (by decide) (by decide) h) w940 wy_X10_isBetween ⟨rfl, rfl⟩ hd_X10_isBetween ⟨Nat.le_of_ble_eq_true rfl, Nat.le_of_ble_eq_true rfl⟩ (Nat.le_trans hlo (by decide)) (Nat.lt_of_lt_of_le (by decide) hhi) rfl rfl rfl rfl (Nat.le_of_ble_eq_true rfl) dX10_takesSimple_65 (fun z6 σ5 rz6 h => ?_)
      refine v_R (fun hRσ5 => ?_)
      refine v_if_eq C rz6 92 dX10_takesSimple_68 (by decide) (fun c14 => ?_) (fun c14 => ?_)
      · have h := h.1 c14
        refine v_iconst C dX10_takesSimple_92 ?_
        exact v_zret C (by decide) h dX10_takesSimple_93
      · have h := h.2 c14
        refine v_aload_n C 0 dX10_takesSimple_71 rfl rfl ?_
        refine v_bipush C dX10_takesSimple_72 (by decide) ?_
        refine v_aload_n C 0 dX10_takesSimple_74 rfl rfl ?_
        refine gf10_text C hlo hhi w886 dX10_takesSimple_75 ?_
        refine v_aload_n C 0 dX10_takesSimple_78 rfl rfl ?_
        refine gf10_at C hlo hhi w887 dX10_takesSimple_79 ?_
        have k7 := h.1
        have h := h.2
        refine v_cald (i := 311) (n := 60) C (Nat.le_trans hlo (by decide)) (Nat.lt_of_lt_of_le (by decide) hhi) rfl (hRσ5 304 10) k7 dX10_takesSimple_82 ?_
        refine v_bipush C dX10_takesSimple_83 (by decide) ?_
        have k8 := h.1
        have h := h.2
        refine v_isub C dX10_takesSimple_85 ?_
        refine v_callv (i := 304) (As := [.int (iI 32), .int (iI ((σ5 311 (σ5 304 10).toNat) - 48))]) (rest := []) C (s_X10_constant hlo hhi (by decide) k8 h) w1050 wy_X10_constant ⟨rfl, rfl⟩ hd_X10_constant ⟨Nat.le_of_ble_eq_true rfl, Nat.le_of_ble_eq_true rfl⟩ (Nat.le_trans hlo (by decide)) (Nat.lt_of_lt_of_le (by decide) hhi) rfl rfl rfl rfl (Nat.le_of_ble_eq_true rfl) dX10_takesSimple_86 (fun σ9 h => ?_)
        refine v_R (fun hRσ9 => ?_)
        refine v_goto C 94 dX10_takesSimple_89 (by decide) ?_
        refine v_aload_n C 0 dX10_takesSimple_94 rfl rfl ?_
        refine v_dup C rfl dX10_takesSimple_95 ?_
        refine gf10_at C hlo hhi w887 dX10_takesSimple_96 ?_
        refine v_iconst C dX10_takesSimple_99 ?_
        have k10 := h.1
        have h := h.2
        refine v_iadd C dX10_takesSimple_100 ?_
        refine pf10_at C hlo hhi k10 w887 dX10_takesSimple_101 ?_
        refine v_nameS (fun σ11 eσ11 => ?_)
        have h := h σ11 eσ11
        refine v_R (fun hRσ11 => ?_)
        refine v_iload_n C 1 dX10_takesSimple_104 rfl rfl ?_
        refine v_if_eq C r1 116 dX10_takesSimple_105 (by decide) (fun c13 => ?_) (fun c13 => ?_)
        · have h := h.1 c13
          refine v_iconst C dX10_takesSimple_116 ?_
          exact v_zret C (by decide) h dX10_takesSimple_117
        · have h := h.2 c13
          refine v_aload_n C 0 dX10_takesSimple_108 rfl rfl ?_
          refine v_bipush C dX10_takesSimple_109 (by decide) ?_
          refine v_iconst C dX10_takesSimple_111 ?_
          refine v_iconst C dX10_takesSimple_112 ?_
          refine v_callv (i := 304) (As := [.int (iI 32), .int (iI 0), .int (iI (-1))]) (rest := []) C (s_X10_divides hlo hhi (by decide) (by decide) (by decide) h) w979 wy_X10_divides ⟨rfl, rfl⟩ hd_X10_divides ⟨Nat.le_of_ble_eq_true rfl, Nat.le_of_ble_eq_true rfl⟩ (Nat.le_trans hlo (by decide)) (Nat.lt_of_lt_of_le (by decide) hhi) rfl rfl rfl rfl (Nat.le_of_ble_eq_true rfl) dX10_takesSimple_113 (fun σ12 h => ?_)
          refine v_R (fun hRσ12 => ?_)
          refine v_iconst C dX10_takesSimple_116 ?_
          exact v_zret C (by decide) h dX10_takesSimple_117
    · have h := h.2 c21
      refine v_aload_n C 0 dX10_takesSimple_43 rfl rfl ?_
      refine v_bipush C dX10_takesSimple_44 (by decide) ?_
      refine v_callv (i := 304) (As := [.int (iI 32)]) (rest := []) C (s_X10_clears hlo hhi (by decide) h) w951 wy_X10_clears ⟨rfl, rfl⟩ hd_X10_clears ⟨Nat.le_of_ble_eq_true rfl, Nat.le_of_ble_eq_true rfl⟩ (Nat.le_trans hlo (by decide)) (Nat.lt_of_lt_of_le (by decide) hhi) rfl rfl rfl rfl (Nat.le_of_ble_eq_true rfl) dX10_takesSimple_46 (fun σ15 h => ?_)
      refine v_R (fun hRσ15 => ?_)
      refine v_aload_n C 0 dX10_takesSimple_49 rfl rfl ?_
      refine v_bipush C dX10_takesSimple_50 (by decide) ?_
      refine v_iconst C dX10_takesSimple_52 ?_
      refine v_iconst C dX10_takesSimple_53 ?_
      refine v_callv (i := 304) (As := [.int (iI 32), .int (iI 1), .int (iI 1)]) (rest := []) C (s_X10_puts hlo hhi (by decide) (by decide) (by decide) h) w955 wy_X10_puts ⟨rfl, rfl⟩ hd_X10_puts ⟨Nat.le_of_ble_eq_true rfl, Nat.le_of_ble_eq_true rfl⟩ (Nat.le_trans hlo (by decide)) (Nat.lt_of_lt_of_le (by decide) hhi) rfl rfl rfl rfl (Nat.le_of_ble_eq_true rfl) dX10_takesSimple_54 (fun σ16 h => ?_)
      refine v_R (fun hRσ16 => ?_)
      refine v_goto C 94 dX10_takesSimple_57 (by decide) ?_
      refine v_aload_n C 0 dX10_takesSimple_94 rfl rfl ?_
      refine v_dup C rfl dX10_takesSimple_95 ?_
      refine gf10_at C hlo hhi w887 dX10_takesSimple_96 ?_
      refine v_iconst C dX10_takesSimple_99 ?_
      have k17 := h.1
      have h := h.2
      refine v_iadd C dX10_takesSimple_100 ?_
      refine pf10_at C hlo hhi k17 w887 dX10_takesSimple_101 ?_
      refine v_nameS (fun σ18 eσ18 => ?_)
      have h := h σ18 eσ18
      refine v_R (fun hRσ18 => ?_)
      refine v_iload_n C 1 dX10_takesSimple_104 rfl rfl ?_
      refine v_if_eq C r1 116 dX10_takesSimple_105 (by decide) (fun c20 => ?_) (fun c20 => ?_)
      · have h := h.1 c20
        refine v_iconst C dX10_takesSimple_116 ?_
        exact v_zret C (by decide) h dX10_takesSimple_117
      · have h := h.2 c20
        refine v_aload_n C 0 dX10_takesSimple_108 rfl rfl ?_
        refine v_bipush C dX10_takesSimple_109 (by decide) ?_
        refine v_iconst C dX10_takesSimple_111 ?_
        refine v_iconst C dX10_takesSimple_112 ?_
        refine v_callv (i := 304) (As := [.int (iI 32), .int (iI 0), .int (iI (-1))]) (rest := []) C (s_X10_divides hlo hhi (by decide) (by decide) (by decide) h) w979 wy_X10_divides ⟨rfl, rfl⟩ hd_X10_divides ⟨Nat.le_of_ble_eq_true rfl, Nat.le_of_ble_eq_true rfl⟩ (Nat.le_trans hlo (by decide)) (Nat.lt_of_lt_of_le (by decide) hhi) rfl rfl rfl rfl (Nat.le_of_ble_eq_true rfl) dX10_takesSimple_113 (fun σ19 h => ?_)
        refine v_R (fun hRσ19 => ?_)
        refine v_iconst C dX10_takesSimple_116 ?_
        exact v_zret C (by decide) h dX10_takesSimple_117
  · have h := h.2 c29
    refine v_aload_n C 0 dX10_takesSimple_11 rfl rfl ?_
    refine v_aload_n C 0 dX10_takesSimple_12 rfl rfl ?_
    refine gf10_text C hlo hhi w886 dX10_takesSimple_13 ?_
    refine v_aload_n C 0 dX10_takesSimple_16 rfl rfl ?_
    refine gf10_at C hlo hhi w887 dX10_takesSimple_17 ?_
    have k22 := h.1
    have h := h.2
    refine v_cald (i := 311) (n := 60) C (Nat.le_trans hlo (by decide)) (Nat.lt_of_lt_of_le (by decide) hhi) rfl (hRσ1 304 10) k22 dX10_takesSimple_20 ?_
    refine v_bipush C dX10_takesSimple_21 (by decide) ?_
    have k23 := h.1
    have h := h.2
    refine v_isub C dX10_takesSimple_23 ?_
    refine v_bipush C dX10_takesSimple_24 (by decide) ?_
    refine v_callv (i := 304) (As := [.int (iI ((σ1 311 (σ1 304 10).toNat) - 97)), .int (iI 32)]) (rest := []) C (s_X10_loadsNumber hlo hhi k23 (by decide) h) w991 wy_X10_loadsNumber ⟨rfl, rfl⟩ hd_X10_loadsNumber ⟨Nat.le_of_ble_eq_true rfl, Nat.le_of_ble_eq_true rfl⟩ (Nat.le_trans hlo (by decide)) (Nat.lt_of_lt_of_le (by decide) hhi) rfl rfl rfl rfl (Nat.le_of_ble_eq_true rfl) dX10_takesSimple_26 (fun σ24 h => ?_)
    refine v_R (fun hRσ24 => ?_)
    refine v_goto C 94 dX10_takesSimple_29 (by decide) ?_
    refine v_aload_n C 0 dX10_takesSimple_94 rfl rfl ?_
    refine v_dup C rfl dX10_takesSimple_95 ?_
    refine gf10_at C hlo hhi w887 dX10_takesSimple_96 ?_
    refine v_iconst C dX10_takesSimple_99 ?_
    have k25 := h.1
    have h := h.2
    refine v_iadd C dX10_takesSimple_100 ?_
    refine pf10_at C hlo hhi k25 w887 dX10_takesSimple_101 ?_
    refine v_nameS (fun σ26 eσ26 => ?_)
    have h := h σ26 eσ26
    refine v_R (fun hRσ26 => ?_)
    refine v_iload_n C 1 dX10_takesSimple_104 rfl rfl ?_
    refine v_if_eq C r1 116 dX10_takesSimple_105 (by decide) (fun c28 => ?_) (fun c28 => ?_)
    · have h := h.1 c28
      refine v_iconst C dX10_takesSimple_116 ?_
      exact v_zret C (by decide) h dX10_takesSimple_117
    · have h := h.2 c28
      refine v_aload_n C 0 dX10_takesSimple_108 rfl rfl ?_
      refine v_bipush C dX10_takesSimple_109 (by decide) ?_
      refine v_iconst C dX10_takesSimple_111 ?_
      refine v_iconst C dX10_takesSimple_112 ?_
      refine v_callv (i := 304) (As := [.int (iI 32), .int (iI 0), .int (iI (-1))]) (rest := []) C (s_X10_divides hlo hhi (by decide) (by decide) (by decide) h) w979 wy_X10_divides ⟨rfl, rfl⟩ hd_X10_divides ⟨Nat.le_of_ble_eq_true rfl, Nat.le_of_ble_eq_true rfl⟩ (Nat.le_trans hlo (by decide)) (Nat.lt_of_lt_of_le (by decide) hhi) rfl rfl rfl rfl (Nat.le_of_ble_eq_true rfl) dX10_takesSimple_113 (fun σ27 h => ?_)
      refine v_R (fun hRσ27 => ?_)
      refine v_iconst C dX10_takesSimple_116 ?_
      exact v_zret C (by decide) h dX10_takesSimple_117
-- SplitTowersModel.takesPower(Z)Z
def wp_X10_takesPower (σ : SG) (a1 : Int) (Q : Int → SG → Prop) : Prop :=
  wp_X10_takes σ 94 (fun (z2 : Int) (σ1 : SG) => ((¬ z2 = 0 → wp_X10_isBetween σ1 48 57 (fun (z4 : Int) (σ3 : SG) => ((¬ z4 = 0 → Jn0 (fun  (σ5 : SG) => (inR ((σ5 304 10) + 1) ∧ (∀ σ8 : SG, σ8 = ug σ5 304 10 ((σ5 304 10) + 1) → Q 1 σ8))) (fun J6 => ((a1 = 0 → J6 σ3) ∧ (¬ a1 = 0 → ((0 ≤ (σ3 304 10) ∧ (σ3 304 10) < 60) ∧ (inR ((σ3 311 (σ3 304 10).toNat) - 48) ∧ wp_X10_raises σ3 32 ((σ3 311 (σ3 304 10).toNat) - 48) 0 32 (fun (σ11 : SG) => J6 σ11))))))) ∧ (z4 = 0 → Q 0 σ3)))) ∧ (z2 = 0 → Q 1 σ1)))
def rm_X10_takesPower : Room := { frames := 4, cells := 0, slots := 0, locals := 99 }
theorem wy_X10_takesPower : Cond.instanceMethod yX10_takesPower ∈ WS ∧ Cond.selects "SplitTowersModel" yX10_takesPower yX10_takesPower ∈ WS ∧ Cond.initialized "SplitTowersModel" ∈ WS ∧ Cond.code yX10_takesPower prog_12_method_60_code 2 (some .boolean) ∈ WS := ⟨w1148, w57, w79, w1149⟩
theorem hd_X10_takesPower : yX10_takesPower.cls = "SplitTowersModel" ∧ yX10_takesPower.cls ≠ "java/lang/invoke/MethodHandle" ∧ yX10_takesPower.cls ≠ "java/lang/invoke/VarHandle" ∧ (parseMethodDescriptor yX10_takesPower.desc).map (fun d => d.parameters.length) = some 1 := by decide +kernel
set_option maxHeartbeats 4000000 in
set_option maxRecDepth 100000 in
theorem s_X10_takesPower {l : Launch} {D : va_G} {aC : Nat → ClassId} {B lo hi : Nat} {σ : SG} {a1 : Int} {Q : Int → SG → Prop} (hlo : lo ≤ 304) (hhi : 316 ≤ hi) (r1 : inR a1) (h : wp_X10_takesPower σ a1 Q) : Met l yX10_takesPower (Cond.code yX10_takesPower prog_12_method_60_code 2 (some .boolean) :: WS) rm_X10_takesPower (va_Pc [.ref (B + 304), .int (iI a1)] (WP D aC B lo hi σ)) (QI D aC B lo hi Q) 0 0 (AB B lo hi) := by
  refine met_of (by decide +kernel) (by decide +kernel : yX10_takesPower.cls = "SplitTowersModel") (Nat.le_of_ble_eq_true rfl) ?_
  intro p e s m args below meth c C
  unfold wp_X10_takesPower at h
  refine v_R (fun hR0 => ?_)
  show V p l e rm_X10_takesPower s m args below meth c D aC B lo hi 2 (MQ below (QI D aC B lo hi Q) args s 0 0 (AB B lo hi)) σ 0 [(0, .ref (B + 304)), (1, .int (iI a1))] []
  refine v_aload_n C 0 dX10_takesPower_0 rfl rfl ?_
  refine v_bipush C dX10_takesPower_1 (by decide) ?_
  refine v_calli (i := 304) (As := [.int (iI 94)]) (rest := []) C (s_X10_takes hlo hhi (by decide) h) w947 wy_X10_takes ⟨rfl, rfl⟩ hd_X10_takes ⟨Nat.le_of_ble_eq_true rfl, Nat.le_of_ble_eq_true rfl⟩ (Nat.le_trans hlo (by decide)) (Nat.lt_of_lt_of_le (by decide) hhi) rfl rfl rfl rfl (Nat.le_of_ble_eq_true rfl) dX10_takesPower_3 (fun z2 σ1 rz2 h => ?_)
  refine v_R (fun hRσ1 => ?_)
  refine v_if_ne C rz2 11 dX10_takesPower_6 (by decide) (fun c14 => ?_) (fun c14 => ?_)
  · have h := h.1 c14
    refine v_aload_n C 0 dX10_takesPower_11 rfl rfl ?_
    refine v_bipush C dX10_takesPower_12 (by decide) ?_
    refine v_bipush C dX10_takesPower_14 (by decide) ?_
    refine v_calli (i := 304) (As := [.int (iI 48), .int (iI 57)]) (rest := []) C (s_X10_isBetween hlo hhi (by decide) (by decide) h) w940 wy_X10_isBetween ⟨rfl, rfl⟩ hd_X10_isBetween ⟨Nat.le_of_ble_eq_true rfl, Nat.le_of_ble_eq_true rfl⟩ (Nat.le_trans hlo (by decide)) (Nat.lt_of_lt_of_le (by decide) hhi) rfl rfl rfl rfl (Nat.le_of_ble_eq_true rfl) dX10_takesPower_16 (fun z4 σ3 rz4 h => ?_)
    refine v_R (fun hRσ3 => ?_)
    refine v_if_ne C rz4 24 dX10_takesPower_19 (by decide) (fun c13 => ?_) (fun c13 => ?_)
    · have h := h.1 c13
      refine v_iload_n C 1 dX10_takesPower_24 rfl rfl ?_
      obtain ⟨J6, hJ6, h⟩ := h
      have kJ6 : ∀  (σ5 : SG), J6 σ5 → V p l e rm_X10_takesPower s m args below meth c D aC B lo hi 2 (MQ below (QI D aC B lo hi Q) args s 0 0 (AB B lo hi)) σ5 49 [(0, .ref (B + 304))] [] := by
        intro σ5 hj 
        have h := hJ6 σ5 hj
        refine v_R (fun hRσ5 => ?_)
        refine v_aload_n C 0 dX10_takesPower_49 rfl rfl ?_
        refine v_dup C rfl dX10_takesPower_50 ?_
        refine gf10_at C hlo hhi w887 dX10_takesPower_51 ?_
        refine v_iconst C dX10_takesPower_54 ?_
        have k7 := h.1
        have h := h.2
        refine v_iadd C dX10_takesPower_55 ?_
        refine pf10_at C hlo hhi k7 w887 dX10_takesPower_56 ?_
        refine v_nameS (fun σ8 eσ8 => ?_)
        have h := h σ8 eσ8
        refine v_R (fun hRσ8 => ?_)
        refine v_iconst C dX10_takesPower_59 ?_
        exact v_zret C (by decide) h dX10_takesPower_60
      refine v_if_eq C r1 49 dX10_takesPower_25 (by decide) (fun c12 => ?_) (fun c12 => ?_)
      · have h := h.1 c12
        refine v_sub [0] rfl ?_
        exact kJ6 σ3 h 
      · have h := h.2 c12
        refine v_aload_n C 0 dX10_takesPower_28 rfl rfl ?_
        refine v_bipush C dX10_takesPower_29 (by decide) ?_
        refine v_aload_n C 0 dX10_takesPower_31 rfl rfl ?_
        refine gf10_text C hlo hhi w886 dX10_takesPower_32 ?_
        refine v_aload_n C 0 dX10_takesPower_35 rfl rfl ?_
        refine gf10_at C hlo hhi w887 dX10_takesPower_36 ?_
        have k9 := h.1
        have h := h.2
        refine v_cald (i := 311) (n := 60) C (Nat.le_trans hlo (by decide)) (Nat.lt_of_lt_of_le (by decide) hhi) rfl (hRσ3 304 10) k9 dX10_takesPower_39 ?_
        refine v_bipush C dX10_takesPower_40 (by decide) ?_
        have k10 := h.1
        have h := h.2
        refine v_isub C dX10_takesPower_42 ?_
        refine v_iconst C dX10_takesPower_43 ?_
        refine v_bipush C dX10_takesPower_44 (by decide) ?_
        refine v_callv (i := 304) (As := [.int (iI 32), .int (iI ((σ3 311 (σ3 304 10).toNat) - 48)), .int (iI 0), .int (iI 32)]) (rest := []) C (s_X10_raises hlo hhi (by decide) k10 (by decide) (by decide) h) w1106 wy_X10_raises ⟨rfl, rfl⟩ hd_X10_raises ⟨Nat.le_of_ble_eq_true rfl, Nat.le_of_ble_eq_true rfl⟩ (Nat.le_trans hlo (by decide)) (Nat.lt_of_lt_of_le (by decide) hhi) rfl rfl rfl rfl (Nat.le_of_ble_eq_true rfl) dX10_takesPower_46 (fun σ11 h => ?_)
        refine v_R (fun hRσ11 => ?_)
        refine v_sub [0] rfl ?_
        exact kJ6 σ11 h 
    · have h := h.2 c13
      refine v_iconst C dX10_takesPower_22 ?_
      exact v_zret C (by decide) h dX10_takesPower_23
  · have h := h.2 c14
    refine v_iconst C dX10_takesPower_9 ?_
    exact v_zret C (by decide) h dX10_takesPower_10
-- SplitTowersModel.loadsBranch(II)V
def wp_X10_loadsBranch (σ : SG) (a1 : Int) (a2 : Int) (Q : SG → Prop) : Prop :=
  (inR (7 * a1) ∧ (inR (45 + (7 * a1)) ∧ wp_X10_loads σ (45 + (7 * a1)) 7 a2 (fun (σ3 : SG) => Q σ3)))
def rm_X10_loadsBranch : Room := { frames := 3, cells := 0, slots := 0, locals := 69 }
theorem wy_X10_loadsBranch : Cond.instanceMethod yX10_loadsBranch ∈ WS ∧ Cond.selects "SplitTowersModel" yX10_loadsBranch yX10_loadsBranch ∈ WS ∧ Cond.initialized "SplitTowersModel" ∈ WS ∧ Cond.code yX10_loadsBranch prog_12_method_15_code 3 none ∈ WS := ⟨w1040, w37, w79, w1041⟩
theorem hd_X10_loadsBranch : yX10_loadsBranch.cls = "SplitTowersModel" ∧ yX10_loadsBranch.cls ≠ "java/lang/invoke/MethodHandle" ∧ yX10_loadsBranch.cls ≠ "java/lang/invoke/VarHandle" ∧ (parseMethodDescriptor yX10_loadsBranch.desc).map (fun d => d.parameters.length) = some 2 := by decide +kernel
set_option maxHeartbeats 4000000 in
set_option maxRecDepth 100000 in
theorem s_X10_loadsBranch {l : Launch} {D : va_G} {aC : Nat → ClassId} {B lo hi : Nat} {σ : SG} {a1 : Int} {a2 : Int} {Q : SG → Prop} (hlo : lo ≤ 304) (hhi : 316 ≤ hi) (r1 : inR a1) (r2 : inR a2) (h : wp_X10_loadsBranch σ a1 a2 Q) : Met l yX10_loadsBranch (Cond.code yX10_loadsBranch prog_12_method_15_code 3 none :: WS) rm_X10_loadsBranch (va_Pc [.ref (B + 304), .int (iI a1), .int (iI a2)] (WP D aC B lo hi σ)) (QV D aC B lo hi Q) 0 0 (AB B lo hi) := by
  refine met_of (by decide +kernel) (by decide +kernel : yX10_loadsBranch.cls = "SplitTowersModel") (Nat.le_of_ble_eq_true rfl) ?_
  intro p e s m args below meth c C
  unfold wp_X10_loadsBranch at h
  refine v_R (fun hR0 => ?_)
  show V p l e rm_X10_loadsBranch s m args below meth c D aC B lo hi 3 (MQ below (QV D aC B lo hi Q) args s 0 0 (AB B lo hi)) σ 0 [(0, .ref (B + 304)), (1, .int (iI a1)), (2, .int (iI a2))] []
  refine v_aload_n C 0 dX10_loadsBranch_0 rfl rfl ?_
  refine v_bipush C dX10_loadsBranch_1 (by decide) ?_
  refine v_bipush C dX10_loadsBranch_3 (by decide) ?_
  refine v_iload_n C 1 dX10_loadsBranch_5 rfl rfl ?_
  have k1 := h.1
  have h := h.2
  refine v_imul C dX10_loadsBranch_6 ?_
  have k2 := h.1
  have h := h.2
  refine v_iadd C dX10_loadsBranch_7 ?_
  refine v_bipush C dX10_loadsBranch_8 (by decide) ?_
  refine v_iload_n C 2 dX10_loadsBranch_10 rfl rfl ?_
  refine v_callv (i := 304) (As := [.int (iI (45 + (7 * a1))), .int (iI 7), .int (iI a2)]) (rest := []) C (s_X10_loads hlo hhi k2 (by decide) r2 h) w995 wy_X10_loads ⟨rfl, rfl⟩ hd_X10_loads ⟨Nat.le_of_ble_eq_true rfl, Nat.le_of_ble_eq_true rfl⟩ (Nat.le_trans hlo (by decide)) (Nat.lt_of_lt_of_le (by decide) hhi) rfl rfl rfl rfl (Nat.le_of_ble_eq_true rfl) dX10_loadsBranch_11 (fun σ3 h => ?_)
  refine v_R (fun hRσ3 => ?_)
  exact v_vret C h dX10_loadsBranch_14
-- SplitTowersModel.lays(II)V
def wp_X10_lays (σ : SG) (a1 : Int) (a2 : Int) (Q : SG → Prop) : Prop :=
  Lp1 (fun (rec3 : Int → SG → Prop) (x1 : Int) (σ2 : SG) => ((7 ≤ x1 → Q σ2) ∧ (¬ 7 ≤ x1 → (inR (7 * a2) ∧ (inR (45 + (7 * a2)) ∧ (inR ((45 + (7 * a2)) + x1) ∧ wp_X10_of σ2 a1 x1 (fun (z10 : Int) (σ9 : SG) => ((0 ≤ (45 + (7 * a2)) + x1 ∧ (45 + (7 * a2)) + x1 < 87) ∧ (∀ σ12 : SG, σ12 = ug σ9 305 (((45 + (7 * a2)) + x1).toNat) z10 → (inR (x1 + 1) ∧ rec3 (x1 + 1) σ12)))))))))) 0 σ
def rm_X10_lays : Room := { frames := 1, cells := 0, slots := 0, locals := 22 }
theorem wy_X10_lays : Cond.instanceMethod yX10_lays ∈ WS ∧ Cond.selects "SplitTowersModel" yX10_lays yX10_lays ∈ WS ∧ Cond.initialized "SplitTowersModel" ∈ WS ∧ Cond.code yX10_lays prog_12_method_28_code 4 none ∈ WS := ⟨w1009, w32, w79, w1010⟩
theorem hd_X10_lays : yX10_lays.cls = "SplitTowersModel" ∧ yX10_lays.cls ≠ "java/lang/invoke/MethodHandle" ∧ yX10_lays.cls ≠ "java/lang/invoke/VarHandle" ∧ (parseMethodDescriptor yX10_lays.desc).map (fun d => d.parameters.length) = some 2 := by decide +kernel
set_option maxHeartbeats 4000000 in
set_option maxRecDepth 100000 in
theorem s_X10_lays {l : Launch} {D : va_G} {aC : Nat → ClassId} {B lo hi : Nat} {σ : SG} {a1 : Int} {a2 : Int} {Q : SG → Prop} (hlo : lo ≤ 304) (hhi : 316 ≤ hi) (r1 : inR a1) (r2 : inR a2) (h : wp_X10_lays σ a1 a2 Q) : Met l yX10_lays (Cond.code yX10_lays prog_12_method_28_code 4 none :: WS) rm_X10_lays (va_Pc [.ref (B + 304), .int (iI a1), .int (iI a2)] (WP D aC B lo hi σ)) (QV D aC B lo hi Q) 0 0 (AB B lo hi) := by
  refine met_of (by decide +kernel) (by decide +kernel : yX10_lays.cls = "SplitTowersModel") (Nat.le_of_ble_eq_true rfl) ?_
  intro p e s m args below meth c C
  unfold wp_X10_lays at h
  refine v_R (fun hR0 => ?_)
  show V p l e rm_X10_lays s m args below meth c D aC B lo hi 4 (MQ below (QV D aC B lo hi Q) args s 0 0 (AB B lo hi)) σ 0 [(0, .ref (B + 304)), (1, .int (iI a1)), (2, .int (iI a2))] []
  refine v_iconst C dX10_lays_0 ?_
  refine v_istore_n (lv' := [(3, .int (iI 0)), (0, .ref (B + 304)), (1, .int (iI a1)), (2, .int (iI a2))]) C dX10_lays_1 rfl (by decide) rfl ?_
  obtain ⟨I15, ⟨n16, hnn16⟩, hII15⟩ := h
  have key5 : ∀ (n : Nat) (x1 : Int) (σ2 : SG), I15 n x1 σ2 → inR x1 → V p l e rm_X10_lays s m args below meth c D aC B lo hi 4 (MQ below (QV D aC B lo hi Q) args s 0 0 (AB B lo hi)) σ2 2 [(3, .int (iI x1)), (0, .ref (B + 304)), (1, .int (iI a1)), (2, .int (iI a2))] [] := by
    intro n
    induction n using Nat.strongRecOn with
    | ind n ih4 =>
      intro x1 σ2 hn rx1
      have h := hII15 n x1 σ2 hn
      refine v_R (fun hRσ2 => ?_)
      refine v_iload_n C 0 dX10_lays_2 rfl rfl ?_
      refine v_bipush C dX10_lays_3 (by decide) ?_
      refine v_icmp_ge C rx1 (by decide) 34 dX10_lays_5 (by decide) (fun c14 => ?_) (fun c14 => ?_)
      · have h := h.1 c14
        exact v_vret C h dX10_lays_34
      · have h := h.2 c14
        refine v_aload_n C 1 dX10_lays_8 rfl rfl ?_
        refine gf10_now C hlo hhi w877 dX10_lays_9 ?_
        refine v_bipush C dX10_lays_12 (by decide) ?_
        refine v_bipush C dX10_lays_14 (by decide) ?_
        refine v_iload_n C 3 dX10_lays_16 rfl rfl ?_
        have k6 := h.1
        have h := h.2
        refine v_imul C dX10_lays_17 ?_
        have k7 := h.1
        have h := h.2
        refine v_iadd C dX10_lays_18 ?_
        refine v_iload_n C 0 dX10_lays_19 rfl rfl ?_
        have k8 := h.1
        have h := h.2
        refine v_iadd C dX10_lays_20 ?_
        refine v_aload_n C 1 dX10_lays_21 rfl rfl ?_
        refine v_iload_n C 2 dX10_lays_22 rfl rfl ?_
        refine v_iload_n C 0 dX10_lays_23 rfl rfl ?_
        refine v_calli (i := 304) (As := [.int (iI a1), .int (iI x1)]) (rest := [.int (iI ((45 + (7 * a2)) + x1)), .ref (B + 305)]) C (s_X10_of hlo hhi r1 rx1 h) w963 wy_X10_of ⟨rfl, rfl⟩ hd_X10_of ⟨Nat.le_of_ble_eq_true rfl, Nat.le_of_ble_eq_true rfl⟩ (Nat.le_trans hlo (by decide)) (Nat.lt_of_lt_of_le (by decide) hhi) rfl rfl rfl rfl (Nat.le_of_ble_eq_true rfl) dX10_lays_24 (fun z10 σ9 rz10 h => ?_)
        refine v_R (fun hRσ9 => ?_)
        have k11 := h.1
        have h := h.2
        refine v_iast (i := 305) (n := 87) C (Nat.le_trans hlo (by decide)) (Nat.lt_of_lt_of_le (by decide) hhi) (fun _ => rfl) k8 k11 rz10 dX10_lays_27 ?_
        refine v_nameS (fun σ12 eσ12 => ?_)
        have h := h σ12 eσ12
        refine v_R (fun hRσ12 => ?_)
        have k13 := h.1
        have h := h.2
        refine v_iinc (lv' := [(3, .int (iI (x1 + 1))), (0, .ref (B + 304)), (1, .int (iI a1)), (2, .int (iI a2))]) C 0 dX10_lays_28 rfl (by decide) rfl ?_
        refine v_goto C 2 dX10_lays_31 (by decide) ?_
        obtain ⟨m9, hm9, h⟩ := h
        exact ih4 m9 hm9 (x1 + 1) σ12 h k13
  exact key5 n16 0 σ hnn16 (by decide)
-- SplitTowersModel.comes(I)V
def wp_X10_comes (σ : SG) (a1 : Int) (Q : SG → Prop) : Prop :=
  wp_X10_lays σ a1 (σ 305 44) (fun (σ1 : SG) => (inR ((σ1 305 44) + 1) ∧ (∀ σ3 : SG, σ3 = ug σ1 305 44 ((σ1 305 44) + 1) → Q σ3)))
def rm_X10_comes : Room := { frames := 2, cells := 0, slots := 0, locals := 45 }
theorem wy_X10_comes : Cond.instanceMethod yX10_comes ∈ WS ∧ Cond.selects "SplitTowersModel" yX10_comes yX10_comes ∈ WS ∧ Cond.initialized "SplitTowersModel" ∈ WS ∧ Cond.code yX10_comes prog_12_method_29_code 2 none ∈ WS := ⟨w1005, w31, w79, w1006⟩
theorem hd_X10_comes : yX10_comes.cls = "SplitTowersModel" ∧ yX10_comes.cls ≠ "java/lang/invoke/MethodHandle" ∧ yX10_comes.cls ≠ "java/lang/invoke/VarHandle" ∧ (parseMethodDescriptor yX10_comes.desc).map (fun d => d.parameters.length) = some 1 := by decide +kernel
set_option maxHeartbeats 4000000 in
set_option maxRecDepth 100000 in
theorem s_X10_comes {l : Launch} {D : va_G} {aC : Nat → ClassId} {B lo hi : Nat} {σ : SG} {a1 : Int} {Q : SG → Prop} (hlo : lo ≤ 304) (hhi : 316 ≤ hi) (r1 : inR a1) (h : wp_X10_comes σ a1 Q) : Met l yX10_comes (Cond.code yX10_comes prog_12_method_29_code 2 none :: WS) rm_X10_comes (va_Pc [.ref (B + 304), .int (iI a1)] (WP D aC B lo hi σ)) (QV D aC B lo hi Q) 0 0 (AB B lo hi) := by
  refine met_of (by decide +kernel) (by decide +kernel : yX10_comes.cls = "SplitTowersModel") (Nat.le_of_ble_eq_true rfl) ?_
  intro p e s m args below meth c C
  unfold wp_X10_comes at h
  refine v_R (fun hR0 => ?_)
  show V p l e rm_X10_comes s m args below meth c D aC B lo hi 2 (MQ below (QV D aC B lo hi Q) args s 0 0 (AB B lo hi)) σ 0 [(0, .ref (B + 304)), (1, .int (iI a1))] []
  refine v_aload_n C 0 dX10_comes_0 rfl rfl ?_
  refine v_iload_n C 1 dX10_comes_1 rfl rfl ?_
  refine v_aload_n C 0 dX10_comes_2 rfl rfl ?_
  refine gf10_now C hlo hhi w877 dX10_comes_3 ?_
  refine v_bipush C dX10_comes_6 (by decide) ?_
  refine v_iald (i := 305) (n := 87) C (Nat.le_trans hlo (by decide)) (Nat.lt_of_lt_of_le (by decide) hhi) rfl (by decide) ⟨by decide, by decide⟩ dX10_comes_8 ?_
  refine v_callv (i := 304) (As := [.int (iI a1), .int (iI (σ 305 44))]) (rest := []) C (s_X10_lays hlo hhi r1 (hR0 305 _) h) w1007 wy_X10_lays ⟨rfl, rfl⟩ hd_X10_lays ⟨Nat.le_of_ble_eq_true rfl, Nat.le_of_ble_eq_true rfl⟩ (Nat.le_trans hlo (by decide)) (Nat.lt_of_lt_of_le (by decide) hhi) rfl rfl rfl rfl (Nat.le_of_ble_eq_true rfl) dX10_comes_9 (fun σ1 h => ?_)
  refine v_R (fun hRσ1 => ?_)
  refine v_aload_n C 0 dX10_comes_12 rfl rfl ?_
  refine gf10_now C hlo hhi w877 dX10_comes_13 ?_
  refine v_bipush C dX10_comes_16 (by decide) ?_
  refine v_dup2 C rfl rfl dX10_comes_18 ?_
  refine v_iald (i := 305) (n := 87) C (Nat.le_trans hlo (by decide)) (Nat.lt_of_lt_of_le (by decide) hhi) rfl (by decide) ⟨by decide, by decide⟩ dX10_comes_19 ?_
  refine v_iconst C dX10_comes_20 ?_
  have k2 := h.1
  have h := h.2
  refine v_iadd C dX10_comes_21 ?_
  refine v_iast (i := 305) (n := 87) C (Nat.le_trans hlo (by decide)) (Nat.lt_of_lt_of_le (by decide) hhi) (fun _ => rfl) (by decide) ⟨by decide, by decide⟩ k2 dX10_comes_22 ?_
  refine v_nameS (fun σ3 eσ3 => ?_)
  have h := h σ3 eσ3
  refine v_R (fun hRσ3 => ?_)
  exact v_vret C h dX10_comes_23
