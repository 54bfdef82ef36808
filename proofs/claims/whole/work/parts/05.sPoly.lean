-- SplitTowers$Poly.copy(LSplitTowers$Poly;)V
def wp_X4_copy (σ : SG) (t : Nat) (q1 : Nat) (Q : SG → Prop) : Prop :=
  Lp1 (fun (rec3 : Int → SG → Prop) (x1 : Int) (σ2 : SG) => ((13 ≤ x1 → (∀ σ6 : SG, σ6 = ug σ2 t 1 (σ2 q1 1) → Q σ6)) ∧ (¬ 13 ≤ x1 → ((0 ≤ x1 ∧ x1 < 13) ∧ ((0 ≤ x1 ∧ x1 < 13) ∧ (∀ σ9 : SG, σ9 = ug σ2 (t + 1) x1.toNat (σ2 (q1 + 1) x1.toNat) → (inR (x1 + 1) ∧ rec3 (x1 + 1) σ9))))))) 0 σ
def rm_X4_copy : Room := { frames := 0, cells := 0, slots := 0, locals := 0 }
theorem wy_X4_copy : Cond.instanceMethod yX4_copy ∈ WS ∧ Cond.selects "SplitTowers$Poly" yX4_copy yX4_copy ∈ WS ∧ Cond.initialized "SplitTowers$Poly" ∈ WS ∧ Cond.code yX4_copy prog_6_method_7_code 3 none ∈ WS := ⟨w148, w149, w70, w150⟩
theorem hd_X4_copy : yX4_copy.cls = "SplitTowers$Poly" ∧ yX4_copy.cls ≠ "java/lang/invoke/MethodHandle" ∧ yX4_copy.cls ≠ "java/lang/invoke/VarHandle" ∧ (parseMethodDescriptor yX4_copy.desc).map (fun d => d.parameters.length) = some 1 := by decide +kernel
set_option maxHeartbeats 4000000 in
set_option maxRecDepth 100000 in
theorem s_X4_copy {l : Launch} {D : va_G} {aC : Nat → ClassId} {B lo hi : Nat} {σ : SG} {t : Nat} {q1 : Nat} {Q : SG → Prop} (pt : PO lo hi t) (p1 : PO lo hi q1) (h : wp_X4_copy σ t q1 Q) : Met l yX4_copy (Cond.code yX4_copy prog_6_method_7_code 3 none :: WS) rm_X4_copy (va_Pc [.ref (B + t), .ref (B + q1)] (WP D aC B lo hi σ)) (QV D aC B lo hi Q) 0 0 (AB B lo hi) := by
  refine met_of (by decide +kernel) (by decide +kernel : yX4_copy.cls = "SplitTowers$Poly") (Nat.le_of_ble_eq_true rfl) ?_
  intro p e s m args below meth c C
  unfold wp_X4_copy at h
  refine v_R (fun hR0 => ?_)
  show V p l e rm_X4_copy s m args below meth c D aC B lo hi 3 (MQ below (QV D aC B lo hi Q) args s 0 0 (AB B lo hi)) σ 0 [(0, .ref (B + t)), (1, .ref (B + q1))] []
  refine v_iconst C dX4_copy_0 ?_
  refine v_istore_n (lv' := [(2, .int (iI 0)), (0, .ref (B + t)), (1, .ref (B + q1))]) C dX4_copy_1 rfl (by decide) rfl ?_
  obtain ⟨I12, ⟨n13, hnn13⟩, hII12⟩ := h
  have key5 : ∀ (n : Nat) (x1 : Int) (σ2 : SG), I12 n x1 σ2 → inR x1 → V p l e rm_X4_copy s m args below meth c D aC B lo hi 3 (MQ below (QV D aC B lo hi Q) args s 0 0 (AB B lo hi)) σ2 2 [(2, .int (iI x1)), (0, .ref (B + t)), (1, .ref (B + q1))] [] := by
    intro n
    induction n using Nat.strongRecOn with
    | ind n ih4 =>
      intro x1 σ2 hn rx1
      have h := hII12 n x1 σ2 hn
      refine v_R (fun hRσ2 => ?_)
      refine v_iload_n C 0 dX4_copy_2 rfl rfl ?_
      refine v_bipush C dX4_copy_3 (by decide) ?_
      refine v_icmp_ge C rx1 (by decide) 26 dX4_copy_5 (by decide) (fun c11 => ?_) (fun c11 => ?_)
      · have h := h.1 c11
        refine v_aload_n C 1 dX4_copy_26 rfl rfl ?_
        refine v_aload_n C 2 dX4_copy_27 rfl rfl ?_
        refine gf4_degree C p1 w101 dX4_copy_28 ?_
        refine pf4_degree C pt (hRσ2 q1 1) w101 dX4_copy_31 ?_
        refine v_nameS (fun σ6 eσ6 => ?_)
        have h := h σ6 eσ6
        refine v_R (fun hRσ6 => ?_)
        exact v_vret C h dX4_copy_34
      · have h := h.2 c11
        refine v_aload_n C 1 dX4_copy_8 rfl rfl ?_
        refine gf4_coefficients C pt w100 dX4_copy_9 ?_
        refine v_iload_n C 0 dX4_copy_12 rfl rfl ?_
        refine v_aload_n C 2 dX4_copy_13 rfl rfl ?_
        refine gf4_coefficients C p1 w100 dX4_copy_14 ?_
        refine v_iload_n C 0 dX4_copy_17 rfl rfl ?_
        have k7 := h.1
        have h := h.2
        refine v_iald (i := q1 + 1) (n := 13) C (PA_lo p1) (PA_hi p1) (celPA p1) rx1 k7 dX4_copy_18 ?_
        have k8 := h.1
        have h := h.2
        refine v_iast (i := t + 1) (n := 13) C (PA_lo pt) (PA_hi pt) (fun _ => celPA pt) rx1 k8 (hRσ2 (q1 + 1) _) dX4_copy_19 ?_
        refine v_nameS (fun σ9 eσ9 => ?_)
        have h := h σ9 eσ9
        refine v_R (fun hRσ9 => ?_)
        have k10 := h.1
        have h := h.2
        refine v_iinc (lv' := [(2, .int (iI (x1 + 1))), (0, .ref (B + t)), (1, .ref (B + q1))]) C 0 dX4_copy_20 rfl (by decide) rfl ?_
        refine v_goto C 2 dX4_copy_23 (by decide) ?_
        obtain ⟨m9, hm9, h⟩ := h
        exact ih4 m9 hm9 (x1 + 1) σ9 h k10
  exact key5 n13 0 σ hnn13 (by decide)
-- SplitTowers$Poly.lowerDegree()V
def wp_X4_lowerDegree (σ : SG) (t : Nat) (Q : SG → Prop) : Prop :=
  Lp0 (fun (rec2 : SG → Prop)  (σ1 : SG) => (((σ1 t 1) < 0 → Q σ1) ∧ (¬ (σ1 t 1) < 0 → ((0 ≤ (σ1 t 1) ∧ (σ1 t 1) < 13) ∧ ((¬ (σ1 (t + 1) (σ1 t 1).toNat) = 0 → Q σ1) ∧ ((σ1 (t + 1) (σ1 t 1).toNat) = 0 → (inR ((σ1 t 1) - 1) ∧ (∀ σ7 : SG, σ7 = ug σ1 t 1 ((σ1 t 1) - 1) → rec2 σ7)))))))) σ
def rm_X4_lowerDegree : Room := { frames := 0, cells := 0, slots := 0, locals := 0 }
theorem wy_X4_lowerDegree : Cond.instanceMethod yX4_lowerDegree ∈ WS ∧ Cond.selects "SplitTowers$Poly" yX4_lowerDegree yX4_lowerDegree ∈ WS ∧ Cond.initialized "SplitTowers$Poly" ∈ WS ∧ Cond.code yX4_lowerDegree prog_6_method_12_code 1 none ∈ WS := ⟨w136, w0, w70, w137⟩
theorem hd_X4_lowerDegree : yX4_lowerDegree.cls = "SplitTowers$Poly" ∧ yX4_lowerDegree.cls ≠ "java/lang/invoke/MethodHandle" ∧ yX4_lowerDegree.cls ≠ "java/lang/invoke/VarHandle" ∧ (parseMethodDescriptor yX4_lowerDegree.desc).map (fun d => d.parameters.length) = some 0 := by decide +kernel
set_option maxHeartbeats 4000000 in
set_option maxRecDepth 100000 in
theorem s_X4_lowerDegree {l : Launch} {D : va_G} {aC : Nat → ClassId} {B lo hi : Nat} {σ : SG} {t : Nat} {Q : SG → Prop} (pt : PO lo hi t) (h : wp_X4_lowerDegree σ t Q) : Met l yX4_lowerDegree (Cond.code yX4_lowerDegree prog_6_method_12_code 1 none :: WS) rm_X4_lowerDegree (va_Pc [.ref (B + t)] (WP D aC B lo hi σ)) (QV D aC B lo hi Q) 0 0 (AB B lo hi) := by
  refine met_of (by decide +kernel) (by decide +kernel : yX4_lowerDegree.cls = "SplitTowers$Poly") (Nat.le_of_ble_eq_true rfl) ?_
  intro p e s m args below meth c C
  unfold wp_X4_lowerDegree at h
  refine v_R (fun hR0 => ?_)
  show V p l e rm_X4_lowerDegree s m args below meth c D aC B lo hi 1 (MQ below (QV D aC B lo hi Q) args s 0 0 (AB B lo hi)) σ 0 [(0, .ref (B + t))] []
  obtain ⟨I10, ⟨n11, hnn11⟩, hII10⟩ := h
  have key4 : ∀ (n : Nat)  (σ1 : SG), I10 n σ1 → V p l e rm_X4_lowerDegree s m args below meth c D aC B lo hi 1 (MQ below (QV D aC B lo hi Q) args s 0 0 (AB B lo hi)) σ1 0 [(0, .ref (B + t))] [] := by
    intro n
    induction n using Nat.strongRecOn with
    | ind n ih3 =>
      intro σ1 hn 
      have h := hII10 n σ1 hn
      refine v_R (fun hRσ1 => ?_)
      refine v_aload_n C 0 dX4_lowerDegree_0 rfl rfl ?_
      refine gf4_degree C pt w101 dX4_lowerDegree_1 ?_
      refine v_if_lt C (hRσ1 t 1) 32 dX4_lowerDegree_4 (by decide) (fun c9 => ?_) (fun c9 => ?_)
      · have h := h.1 c9
        exact v_vret C h dX4_lowerDegree_32
      · have h := h.2 c9
        refine v_aload_n C 0 dX4_lowerDegree_7 rfl rfl ?_
        refine gf4_coefficients C pt w100 dX4_lowerDegree_8 ?_
        refine v_aload_n C 0 dX4_lowerDegree_11 rfl rfl ?_
        refine gf4_degree C pt w101 dX4_lowerDegree_12 ?_
        have k5 := h.1
        have h := h.2
        refine v_iald (i := t + 1) (n := 13) C (PA_lo pt) (PA_hi pt) (celPA pt) (hRσ1 t 1) k5 dX4_lowerDegree_15 ?_
        refine v_if_ne C (hRσ1 (t + 1) _) 32 dX4_lowerDegree_16 (by decide) (fun c8 => ?_) (fun c8 => ?_)
        · have h := h.1 c8
          exact v_vret C h dX4_lowerDegree_32
        · have h := h.2 c8
          refine v_aload_n C 0 dX4_lowerDegree_19 rfl rfl ?_
          refine v_dup C rfl dX4_lowerDegree_20 ?_
          refine gf4_degree C pt w101 dX4_lowerDegree_21 ?_
          refine v_iconst C dX4_lowerDegree_24 ?_
          have k6 := h.1
          have h := h.2
          refine v_isub C dX4_lowerDegree_25 ?_
          refine pf4_degree C pt k6 w101 dX4_lowerDegree_26 ?_
          refine v_nameS (fun σ7 eσ7 => ?_)
          have h := h σ7 eσ7
          refine v_R (fun hRσ7 => ?_)
          refine v_goto C 0 dX4_lowerDegree_29 (by decide) ?_
          obtain ⟨m9, hm9, h⟩ := h
          exact ih3 m9 hm9 σ7 h 
  exact key4 n11 σ hnn11 
-- SplitTowers$Poly.addMultiple(ILSplitTowers$Poly;II)V
def wp_X4_addMultiple (σ : SG) (t : Nat) (a1 : Int) (q2 : Nat) (a3 : Int) (a4 : Int) (Q : SG → Prop) : Prop :=
  (inR ((σ q2 1) + a3) ∧ (∀ v2 : Int, v2 = (σ q2 1) + a3 → ((a4 < 2 → Q σ) ∧ (¬ a4 < 2 → ((a3 < 0 → Q σ) ∧ (¬ a3 < 0 → ((v2 < 13 → Lp1 (fun (rec5 : Int → SG → Prop) (x3 : Int) (σ4 : SG) => (((σ4 q2 1) < x3 → (∀ σ8 : SG, σ8 = ug σ4 t 1 (imax (σ4 t 1) v2) → wp_X4_lowerDegree σ8 t (fun (σ9 : SG) => Q σ9))) ∧ (¬ (σ4 q2 1) < x3 → (inR (x3 + a3) ∧ ((0 ≤ x3 + a3 ∧ x3 + a3 < 13) ∧ ((0 ≤ x3 ∧ x3 < 13) ∧ (inR (a1 * (σ4 (q2 + 1) x3.toNat)) ∧ (inR ((σ4 (t + 1) (x3 + a3).toNat) + (a1 * (σ4 (q2 + 1) x3.toNat))) ∧ (a4 ≠ 0 ∧ (∀ v16 : Int, v16 = (Int.tmod ((σ4 (t + 1) (x3 + a3).toNat) + (a1 * (σ4 (q2 + 1) x3.toNat))) a4) → (inR (x3 + a3) ∧ ((0 ≤ v16 → ((0 ≤ x3 + a3 ∧ x3 + a3 < 13) ∧ (∀ σ19 : SG, σ19 = ug σ4 (t + 1) ((x3 + a3).toNat) v16 → (inR (x3 + 1) ∧ rec5 (x3 + 1) σ19)))) ∧ (¬ 0 ≤ v16 → (inR (v16 + a4) ∧ ((0 ≤ x3 + a3 ∧ x3 + a3 < 13) ∧ (∀ σ23 : SG, σ23 = ug σ4 (t + 1) ((x3 + a3).toNat) (v16 + a4) → (inR (x3 + 1) ∧ rec5 (x3 + 1) σ23))))))))))))))))) 0 σ) ∧ (¬ v2 < 13 → Q σ))))))))
def rm_X4_addMultiple : Room := { frames := 1, cells := 0, slots := 0, locals := 21 }
theorem wy_X4_addMultiple : Cond.instanceMethod yX4_addMultiple ∈ WS ∧ Cond.selects "SplitTowers$Poly" yX4_addMultiple yX4_addMultiple ∈ WS ∧ Cond.initialized "SplitTowers$Poly" ∈ WS ∧ Cond.code yX4_addMultiple prog_6_method_8_code 8 none ∈ WS := ⟨w512, w513, w70, w514⟩
theorem hd_X4_addMultiple : yX4_addMultiple.cls = "SplitTowers$Poly" ∧ yX4_addMultiple.cls ≠ "java/lang/invoke/MethodHandle" ∧ yX4_addMultiple.cls ≠ "java/lang/invoke/VarHandle" ∧ (parseMethodDescriptor yX4_addMultiple.desc).map (fun d => d.parameters.length) = some 4 := by decide +kernel
set_option maxHeartbeats 4000000 in
set_option maxRecDepth 100000 in
theorem s_X4_addMultiple {l : Launch} {D : va_G} {aC : Nat → ClassId} {B lo hi : Nat} {σ : SG} {t : Nat} {a1 : Int} {q2 : Nat} {a3 : Int} {a4 : Int} {Q : SG → Prop} (pt : PO lo hi t) (r1 : inR a1) (p2 : PO lo hi q2) (r3 : inR a3) (r4 : inR a4) (h : wp_X4_addMultiple σ t a1 q2 a3 a4 Q) : Met l yX4_addMultiple (Cond.code yX4_addMultiple prog_6_method_8_code 8 none :: WS) rm_X4_addMultiple (va_Pc [.ref (B + t), .int (iI a1), .ref (B + q2), .int (iI a3), .int (iI a4)] (WP D aC B lo hi σ)) (QV D aC B lo hi Q) 0 0 (AB B lo hi) := by
  refine met_of (by decide +kernel) (by decide +kernel : yX4_addMultiple.cls = "SplitTowers$Poly") (Nat.le_of_ble_eq_true rfl) ?_
  intro p e s m args below meth c C
  unfold wp_X4_addMultiple at h
  refine v_R (fun hR0 => ?_)
  show V p l e rm_X4_addMultiple s m args below meth c D aC B lo hi 8 (MQ below (QV D aC B lo hi Q) args s 0 0 (AB B lo hi)) σ 0 [(0, .ref (B + t)), (1, .int (iI a1)), (2, .ref (B + q2)), (3, .int (iI a3)), (4, .int (iI a4))] []
  refine v_aload_n C 2 dX4_addMultiple_0 rfl rfl ?_
  refine gf4_degree C p2 w101 dX4_addMultiple_1 ?_
  refine v_iload_n C 3 dX4_addMultiple_4 rfl rfl ?_
  have k1 := h.1
  have h := h.2
  refine v_iadd C dX4_addMultiple_5 ?_
  refine v_name (fun v2 ev2 => ?_)
  have h := h v2 ev2
  have rv2 : inR v2 := by rw [ev2]; exact k1
  refine v_istore (lv' := [(5, .int (iI v2)), (0, .ref (B + t)), (1, .int (iI a1)), (2, .ref (B + q2)), (3, .int (iI a3)), (4, .int (iI a4))]) C dX4_addMultiple_6 (by decide) rfl ?_
  refine v_iload C 5 dX4_addMultiple_8 rfl ?_
  refine v_iconst C dX4_addMultiple_10 ?_
  refine v_icmp_lt C r4 (by decide) 25 dX4_addMultiple_11 (by decide) (fun c31 => ?_) (fun c31 => ?_)
  · have h := h.1 c31
    exact v_vret C h dX4_addMultiple_25
  · have h := h.2 c31
    refine v_iload_n C 4 dX4_addMultiple_14 rfl rfl ?_
    refine v_if_lt C r3 25 dX4_addMultiple_15 (by decide) (fun c30 => ?_) (fun c30 => ?_)
    · have h := h.1 c30
      exact v_vret C h dX4_addMultiple_25
    · have h := h.2 c30
      refine v_iload C 0 dX4_addMultiple_18 rfl ?_
      refine v_bipush C dX4_addMultiple_20 (by decide) ?_
      refine v_icmp_lt C rv2 (by decide) 26 dX4_addMultiple_22 (by decide) (fun c29 => ?_) (fun c29 => ?_)
      · have h := h.1 c29
        refine v_iconst C dX4_addMultiple_26 ?_
        refine v_istore (lv' := [(6, .int (iI 0)), (5, .int (iI v2)), (0, .ref (B + t)), (1, .int (iI a1)), (2, .ref (B + q2)), (3, .int (iI a3)), (4, .int (iI a4))]) C dX4_addMultiple_27 (by decide) rfl ?_
        obtain ⟨I27, ⟨n28, hnn28⟩, hII27⟩ := h
        have key7 : ∀ (n : Nat) (x3 : Int) (σ4 : SG), I27 n x3 σ4 → inR x3 → V p l e rm_X4_addMultiple s m args below meth c D aC B lo hi 8 (MQ below (QV D aC B lo hi Q) args s 0 0 (AB B lo hi)) σ4 29 [(6, .int (iI x3)), (5, .int (iI v2)), (0, .ref (B + t)), (1, .int (iI a1)), (2, .ref (B + q2)), (3, .int (iI a3)), (4, .int (iI a4))] [] := by
          intro n
          induction n using Nat.strongRecOn with
          | ind n ih6 =>
            intro x3 σ4 hn rx3
            have h := hII27 n x3 σ4 hn
            refine v_R (fun hRσ4 => ?_)
            refine v_iload C 0 dX4_addMultiple_29 rfl ?_
            refine v_aload_n C 4 dX4_addMultiple_31 rfl rfl ?_
            refine gf4_degree C p2 w101 dX4_addMultiple_32 ?_
            refine v_icmp_gt C rx3 (hRσ4 q2 1) 92 dX4_addMultiple_35 (by decide) (fun c26 => ?_) (fun c26 => ?_)
            · have h := h.1 c26
              refine v_aload_n C 2 dX4_addMultiple_92 rfl rfl ?_
              refine v_aload_n C 2 dX4_addMultiple_93 rfl rfl ?_
              refine gf4_degree C pt w101 dX4_addMultiple_94 ?_
              refine v_iload C 1 dX4_addMultiple_97 rfl ?_
              refine v_max C (hRσ4 t 1) rv2 w131 wy_max (Nat.le_of_ble_eq_true rfl) (Nat.le_of_ble_eq_true rfl) dX4_addMultiple_99 ?_
              refine pf4_degree C pt (inR_imax (hRσ4 t 1) rv2) w101 dX4_addMultiple_102 ?_
              refine v_nameS (fun σ8 eσ8 => ?_)
              have h := h σ8 eσ8
              refine v_R (fun hRσ8 => ?_)
              refine v_aload_n C 2 dX4_addMultiple_105 rfl rfl ?_
              refine v_callv (i := t) (As := []) (rest := []) C (s_X4_lowerDegree pt h) w134 wy_X4_lowerDegree ⟨rfl, rfl⟩ hd_X4_lowerDegree ⟨Nat.le_of_ble_eq_true rfl, Nat.le_of_ble_eq_true rfl⟩ (PO.lo pt) (PO.hi pt) (cel_of (pt).1) rfl rfl rfl (Nat.le_of_ble_eq_true rfl) dX4_addMultiple_106 (fun σ9 h => ?_)
              refine v_R (fun hRσ9 => ?_)
              exact v_vret C h dX4_addMultiple_109
            · have h := h.2 c26
              refine v_aload_n C 2 dX4_addMultiple_38 rfl rfl ?_
              refine gf4_coefficients C pt w100 dX4_addMultiple_39 ?_
              refine v_iload C 0 dX4_addMultiple_42 rfl ?_
              refine v_iload_n C 5 dX4_addMultiple_44 rfl rfl ?_
              have k10 := h.1
              have h := h.2
              refine v_iadd C dX4_addMultiple_45 ?_
              have k11 := h.1
              have h := h.2
              refine v_iald (i := t + 1) (n := 13) C (PA_lo pt) (PA_hi pt) (celPA pt) k10 k11 dX4_addMultiple_46 ?_
              refine v_iload_n C 3 dX4_addMultiple_47 rfl rfl ?_
              refine v_aload_n C 4 dX4_addMultiple_48 rfl rfl ?_
              refine gf4_coefficients C p2 w100 dX4_addMultiple_49 ?_
              refine v_iload C 0 dX4_addMultiple_52 rfl ?_
              have k12 := h.1
              have h := h.2
              refine v_iald (i := q2 + 1) (n := 13) C (PA_lo p2) (PA_hi p2) (celPA p2) rx3 k12 dX4_addMultiple_54 ?_
              have k13 := h.1
              have h := h.2
              refine v_imul C dX4_addMultiple_55 ?_
              have k14 := h.1
              have h := h.2
              refine v_iadd C dX4_addMultiple_56 ?_
              refine v_iload C 6 dX4_addMultiple_57 rfl ?_
              have k15 := h.1
              have h := h.2
              refine v_irem C k14 r4 k15 dX4_addMultiple_59 ?_
              refine v_name (fun v16 ev16 => ?_)
              have h := h v16 ev16
              have rv16 : inR v16 := by rw [ev16]; exact (inR_tmod k14)
              refine v_istore (lv' := [(7, .int (iI v16)), (6, .int (iI x3)), (5, .int (iI v2)), (0, .ref (B + t)), (1, .int (iI a1)), (2, .ref (B + q2)), (3, .int (iI a3)), (4, .int (iI a4))]) C dX4_addMultiple_60 (by decide) rfl ?_
              refine v_aload_n C 3 dX4_addMultiple_62 rfl rfl ?_
              refine gf4_coefficients C pt w100 dX4_addMultiple_63 ?_
              refine v_iload C 1 dX4_addMultiple_66 rfl ?_
              refine v_iload_n C 6 dX4_addMultiple_68 rfl rfl ?_
              have k17 := h.1
              have h := h.2
              refine v_iadd C dX4_addMultiple_69 ?_
              refine v_iload C 0 dX4_addMultiple_70 rfl ?_
              refine v_if_ge C rv16 83 dX4_addMultiple_72 (by decide) (fun c25 => ?_) (fun c25 => ?_)
              · have h := h.1 c25
                refine v_iload C 0 dX4_addMultiple_83 rfl ?_
                have k18 := h.1
                have h := h.2
                refine v_iast (i := t + 1) (n := 13) C (PA_lo pt) (PA_hi pt) (fun _ => celPA pt) k17 k18 rv16 dX4_addMultiple_85 ?_
                refine v_nameS (fun σ19 eσ19 => ?_)
                have h := h σ19 eσ19
                refine v_R (fun hRσ19 => ?_)
                have k20 := h.1
                have h := h.2
                refine v_iinc (lv' := [(6, .int (iI (x3 + 1))), (7, .int (iI v16)), (5, .int (iI v2)), (0, .ref (B + t)), (1, .int (iI a1)), (2, .ref (B + q2)), (3, .int (iI a3)), (4, .int (iI a4))]) C 1 dX4_addMultiple_86 rfl (by decide) rfl ?_
                refine v_goto C 29 dX4_addMultiple_89 (by decide) ?_
                obtain ⟨m9, hm9, h⟩ := h
                refine v_sub [0, 2, 3, 4, 5, 6, 7] rfl ?_
                exact ih6 m9 hm9 (x3 + 1) σ19 h k20
              · have h := h.2 c25
                refine v_iload C 0 dX4_addMultiple_75 rfl ?_
                refine v_iload C 7 dX4_addMultiple_77 rfl ?_
                have k21 := h.1
                have h := h.2
                refine v_iadd C dX4_addMultiple_79 ?_
                refine v_goto C 85 dX4_addMultiple_80 (by decide) ?_
                have k22 := h.1
                have h := h.2
                refine v_iast (i := t + 1) (n := 13) C (PA_lo pt) (PA_hi pt) (fun _ => celPA pt) k17 k22 k21 dX4_addMultiple_85 ?_
                refine v_nameS (fun σ23 eσ23 => ?_)
                have h := h σ23 eσ23
                refine v_R (fun hRσ23 => ?_)
                have k24 := h.1
                have h := h.2
                refine v_iinc (lv' := [(6, .int (iI (x3 + 1))), (7, .int (iI v16)), (5, .int (iI v2)), (0, .ref (B + t)), (1, .int (iI a1)), (2, .ref (B + q2)), (3, .int (iI a3)), (4, .int (iI a4))]) C 1 dX4_addMultiple_86 rfl (by decide) rfl ?_
                refine v_goto C 29 dX4_addMultiple_89 (by decide) ?_
                obtain ⟨m9, hm9, h⟩ := h
                refine v_sub [0, 2, 3, 4, 5, 6, 7] rfl ?_
                exact ih6 m9 hm9 (x3 + 1) σ23 h k24
        exact key7 n28 0 σ hnn28 (by decide)
      · have h := h.2 c29
        exact v_vret C h dX4_addMultiple_25
-- SplitTowers$Poly.clear()V
def wp_X4_clear (σ : SG) (t : Nat) (Q : SG → Prop) : Prop :=
  Lp1 (fun (rec3 : Int → SG → Prop) (x1 : Int) (σ2 : SG) => ((13 ≤ x1 → (∀ σ6 : SG, σ6 = ug σ2 t 1 (-1) → Q σ6)) ∧ (¬ 13 ≤ x1 → ((0 ≤ x1 ∧ x1 < 13) ∧ (∀ σ8 : SG, σ8 = ug σ2 (t + 1) x1.toNat 0 → (inR (x1 + 1) ∧ rec3 (x1 + 1) σ8)))))) 0 σ
def rm_X4_clear : Room := { frames := 0, cells := 0, slots := 0, locals := 0 }
theorem wy_X4_clear : Cond.instanceMethod yX4_clear ∈ WS ∧ Cond.selects "SplitTowers$Poly" yX4_clear yX4_clear ∈ WS ∧ Cond.initialized "SplitTowers$Poly" ∈ WS ∧ Cond.code yX4_clear prog_6_method_4_code 2 none ∈ WS := ⟨w124, w125, w70, w126⟩
theorem hd_X4_clear : yX4_clear.cls = "SplitTowers$Poly" ∧ yX4_clear.cls ≠ "java/lang/invoke/MethodHandle" ∧ yX4_clear.cls ≠ "java/lang/invoke/VarHandle" ∧ (parseMethodDescriptor yX4_clear.desc).map (fun d => d.parameters.length) = some 0 := by decide +kernel
set_option maxHeartbeats 4000000 in
set_option maxRecDepth 100000 in
theorem s_X4_clear {l : Launch} {D : va_G} {aC : Nat → ClassId} {B lo hi : Nat} {σ : SG} {t : Nat} {Q : SG → Prop} (pt : PO lo hi t) (h : wp_X4_clear σ t Q) : Met l yX4_clear (Cond.code yX4_clear prog_6_method_4_code 2 none :: WS) rm_X4_clear (va_Pc [.ref (B + t)] (WP D aC B lo hi σ)) (QV D aC B lo hi Q) 0 0 (AB B lo hi) := by
  refine met_of (by decide +kernel) (by decide +kernel : yX4_clear.cls = "SplitTowers$Poly") (Nat.le_of_ble_eq_true rfl) ?_
  intro p e s m args below meth c C
  unfold wp_X4_clear at h
  refine v_R (fun hR0 => ?_)
  show V p l e rm_X4_clear s m args below meth c D aC B lo hi 2 (MQ below (QV D aC B lo hi Q) args s 0 0 (AB B lo hi)) σ 0 [(0, .ref (B + t))] []
  refine v_iconst C dX4_clear_0 ?_
  refine v_istore_n (lv' := [(1, .int (iI 0)), (0, .ref (B + t))]) C dX4_clear_1 rfl (by decide) rfl ?_
  obtain ⟨I11, ⟨n12, hnn12⟩, hII11⟩ := h
  have key5 : ∀ (n : Nat) (x1 : Int) (σ2 : SG), I11 n x1 σ2 → inR x1 → V p l e rm_X4_clear s m args below meth c D aC B lo hi 2 (MQ below (QV D aC B lo hi Q) args s 0 0 (AB B lo hi)) σ2 2 [(1, .int (iI x1)), (0, .ref (B + t))] [] := by
    intro n
    induction n using Nat.strongRecOn with
    | ind n ih4 =>
      intro x1 σ2 hn rx1
      have h := hII11 n x1 σ2 hn
      refine v_R (fun hRσ2 => ?_)
      refine v_iload_n C 0 dX4_clear_2 rfl rfl ?_
      refine v_bipush C dX4_clear_3 (by decide) ?_
      refine v_icmp_ge C rx1 (by decide) 21 dX4_clear_5 (by decide) (fun c10 => ?_) (fun c10 => ?_)
      · have h := h.1 c10
        refine v_aload_n C 1 dX4_clear_21 rfl rfl ?_
        refine v_iconst C dX4_clear_22 ?_
        refine pf4_degree C pt (by decide) w101 dX4_clear_23 ?_
        refine v_nameS (fun σ6 eσ6 => ?_)
        have h := h σ6 eσ6
        refine v_R (fun hRσ6 => ?_)
        exact v_vret C h dX4_clear_26
      · have h := h.2 c10
        refine v_aload_n C 1 dX4_clear_8 rfl rfl ?_
        refine gf4_coefficients C pt w100 dX4_clear_9 ?_
        refine v_iload_n C 0 dX4_clear_12 rfl rfl ?_
        refine v_iconst C dX4_clear_13 ?_
        have k7 := h.1
        have h := h.2
        refine v_iast (i := t + 1) (n := 13) C (PA_lo pt) (PA_hi pt) (fun _ => celPA pt) rx1 k7 (by decide) dX4_clear_14 ?_
        refine v_nameS (fun σ8 eσ8 => ?_)
        have h := h σ8 eσ8
        refine v_R (fun hRσ8 => ?_)
        have k9 := h.1
        have h := h.2
        refine v_iinc (lv' := [(1, .int (iI (x1 + 1))), (0, .ref (B + t))]) C 0 dX4_clear_15 rfl (by decide) rfl ?_
        refine v_goto C 2 dX4_clear_18 (by decide) ?_
        obtain ⟨m9, hm9, h⟩ := h
        exact ih4 m9 hm9 (x1 + 1) σ8 h k9
  exact key5 n12 0 σ hnn12 (by decide)
-- SplitTowers$Poly.at(I)I
def wp_X4_at (σ : SG) (t : Nat) (a1 : Int) (Q : Int → SG → Prop) : Prop :=
  ((a1 < 0 → Q 0 σ) ∧ (¬ a1 < 0 → ((13 ≤ a1 → Q 0 σ) ∧ (¬ 13 ≤ a1 → ((0 ≤ a1 ∧ a1 < 13) ∧ Q (σ (t + 1) a1.toNat) σ)))))
def rm_X4_at : Room := { frames := 0, cells := 0, slots := 0, locals := 0 }
theorem wy_X4_at : Cond.instanceMethod yX4_at ∈ WS ∧ Cond.selects "SplitTowers$Poly" yX4_at yX4_at ∈ WS ∧ Cond.initialized "SplitTowers$Poly" ∈ WS ∧ Cond.code yX4_at prog_6_method_2_code 2 (some .int) ∈ WS := ⟨w490, w491, w70, w492⟩
theorem hd_X4_at : yX4_at.cls = "SplitTowers$Poly" ∧ yX4_at.cls ≠ "java/lang/invoke/MethodHandle" ∧ yX4_at.cls ≠ "java/lang/invoke/VarHandle" ∧ (parseMethodDescriptor yX4_at.desc).map (fun d => d.parameters.length) = some 1 := by decide +kernel
set_option maxHeartbeats 4000000 in
set_option maxRecDepth 100000 in
theorem s_X4_at {l : Launch} {D : va_G} {aC : Nat → ClassId} {B lo hi : Nat} {σ : SG} {t : Nat} {a1 : Int} {Q : Int → SG → Prop} (pt : PO lo hi t) (r1 : inR a1) (h : wp_X4_at σ t a1 Q) : Met l yX4_at (Cond.code yX4_at prog_6_method_2_code 2 (some .int) :: WS) rm_X4_at (va_Pc [.ref (B + t), .int (iI a1)] (WP D aC B lo hi σ)) (QI D aC B lo hi Q) 0 0 (AB B lo hi) := by
  refine met_of (by decide +kernel) (by decide +kernel : yX4_at.cls = "SplitTowers$Poly") (Nat.le_of_ble_eq_true rfl) ?_
  intro p e s m args below meth c C
  unfold wp_X4_at at h
  refine v_R (fun hR0 => ?_)
  show V p l e rm_X4_at s m args below meth c D aC B lo hi 2 (MQ below (QI D aC B lo hi Q) args s 0 0 (AB B lo hi)) σ 0 [(0, .ref (B + t)), (1, .int (iI a1))] []
  refine v_iload_n C 1 dX4_at_0 rfl rfl ?_
  refine v_if_lt C r1 19 dX4_at_1 (by decide) (fun c3 => ?_) (fun c3 => ?_)
  · have h := h.1 c3
    refine v_iconst C dX4_at_19 ?_
    exact v_iret C (by decide) h dX4_at_20
  · have h := h.2 c3
    refine v_iload_n C 1 dX4_at_4 rfl rfl ?_
    refine v_bipush C dX4_at_5 (by decide) ?_
    refine v_icmp_ge C r1 (by decide) 19 dX4_at_7 (by decide) (fun c2 => ?_) (fun c2 => ?_)
    · have h := h.1 c2
      refine v_iconst C dX4_at_19 ?_
      exact v_iret C (by decide) h dX4_at_20
    · have h := h.2 c2
      refine v_aload_n C 0 dX4_at_10 rfl rfl ?_
      refine gf4_coefficients C pt w100 dX4_at_11 ?_
      refine v_iload_n C 1 dX4_at_14 rfl rfl ?_
      have k1 := h.1
      have h := h.2
      refine v_iald (i := t + 1) (n := 13) C (PA_lo pt) (PA_hi pt) (celPA pt) r1 k1 dX4_at_15 ?_
      refine v_goto C 20 dX4_at_16 (by decide) ?_
      exact v_iret C (hR0 (t + 1) _) h dX4_at_20
-- SplitTowers$Poly.set(II)V
def wp_X4_set (σ : SG) (t : Nat) (a1 : Int) (a2 : Int) (Q : SG → Prop) : Prop :=
  ((a1 < 0 → Q σ) ∧ (¬ a1 < 0 → ((a1 < 13 → ((0 ≤ a1 ∧ a1 < 13) ∧ (∀ σ2 : SG, σ2 = ug σ (t + 1) a1.toNat a2 → (∀ σ3 : SG, σ3 = ug σ2 t 1 (imax (σ2 t 1) a1) → wp_X4_lowerDegree σ3 t (fun (σ4 : SG) => Q σ4))))) ∧ (¬ a1 < 13 → Q σ))))
def rm_X4_set : Room := { frames := 1, cells := 0, slots := 0, locals := 21 }
theorem wy_X4_set : Cond.instanceMethod yX4_set ∈ WS ∧ Cond.selects "SplitTowers$Poly" yX4_set yX4_set ∈ WS ∧ Cond.initialized "SplitTowers$Poly" ∈ WS ∧ Cond.code yX4_set prog_6_method_3_code 3 none ∈ WS := ⟨w128, w129, w70, w130⟩
theorem hd_X4_set : yX4_set.cls = "SplitTowers$Poly" ∧ yX4_set.cls ≠ "java/lang/invoke/MethodHandle" ∧ yX4_set.cls ≠ "java/lang/invoke/VarHandle" ∧ (parseMethodDescriptor yX4_set.desc).map (fun d => d.parameters.length) = some 2 := by decide +kernel
set_option maxHeartbeats 4000000 in
set_option maxRecDepth 100000 in
theorem s_X4_set {l : Launch} {D : va_G} {aC : Nat → ClassId} {B lo hi : Nat} {σ : SG} {t : Nat} {a1 : Int} {a2 : Int} {Q : SG → Prop} (pt : PO lo hi t) (r1 : inR a1) (r2 : inR a2) (h : wp_X4_set σ t a1 a2 Q) : Met l yX4_set (Cond.code yX4_set prog_6_method_3_code 3 none :: WS) rm_X4_set (va_Pc [.ref (B + t), .int (iI a1), .int (iI a2)] (WP D aC B lo hi σ)) (QV D aC B lo hi Q) 0 0 (AB B lo hi) := by
  refine met_of (by decide +kernel) (by decide +kernel : yX4_set.cls = "SplitTowers$Poly") (Nat.le_of_ble_eq_true rfl) ?_
  intro p e s m args below meth c C
  unfold wp_X4_set at h
  refine v_R (fun hR0 => ?_)
  show V p l e rm_X4_set s m args below meth c D aC B lo hi 3 (MQ below (QV D aC B lo hi Q) args s 0 0 (AB B lo hi)) σ 0 [(0, .ref (B + t)), (1, .int (iI a1)), (2, .int (iI a2))] []
  refine v_iload_n C 1 dX4_set_0 rfl rfl ?_
  refine v_if_lt C r1 10 dX4_set_1 (by decide) (fun c6 => ?_) (fun c6 => ?_)
  · have h := h.1 c6
    exact v_vret C h dX4_set_10
  · have h := h.2 c6
    refine v_iload_n C 1 dX4_set_4 rfl rfl ?_
    refine v_bipush C dX4_set_5 (by decide) ?_
    refine v_icmp_lt C r1 (by decide) 11 dX4_set_7 (by decide) (fun c5 => ?_) (fun c5 => ?_)
    · have h := h.1 c5
      refine v_aload_n C 0 dX4_set_11 rfl rfl ?_
      refine gf4_coefficients C pt w100 dX4_set_12 ?_
      refine v_iload_n C 1 dX4_set_15 rfl rfl ?_
      refine v_iload_n C 2 dX4_set_16 rfl rfl ?_
      have k1 := h.1
      have h := h.2
      refine v_iast (i := t + 1) (n := 13) C (PA_lo pt) (PA_hi pt) (fun _ => celPA pt) r1 k1 r2 dX4_set_17 ?_
      refine v_nameS (fun σ2 eσ2 => ?_)
      have h := h σ2 eσ2
      refine v_R (fun hRσ2 => ?_)
      refine v_aload_n C 0 dX4_set_18 rfl rfl ?_
      refine v_aload_n C 0 dX4_set_19 rfl rfl ?_
      refine gf4_degree C pt w101 dX4_set_20 ?_
      refine v_iload_n C 1 dX4_set_23 rfl rfl ?_
      refine v_max C (hRσ2 t 1) r1 w131 wy_max (Nat.le_of_ble_eq_true rfl) (Nat.le_of_ble_eq_true rfl) dX4_set_24 ?_
      refine pf4_degree C pt (inR_imax (hRσ2 t 1) r1) w101 dX4_set_27 ?_
      refine v_nameS (fun σ3 eσ3 => ?_)
      have h := h σ3 eσ3
      refine v_R (fun hRσ3 => ?_)
      refine v_aload_n C 0 dX4_set_30 rfl rfl ?_
      refine v_callv (i := t) (As := []) (rest := []) C (s_X4_lowerDegree pt h) w134 wy_X4_lowerDegree ⟨rfl, rfl⟩ hd_X4_lowerDegree ⟨Nat.le_of_ble_eq_true rfl, Nat.le_of_ble_eq_true rfl⟩ (PO.lo pt) (PO.hi pt) (cel_of (pt).1) rfl rfl rfl (Nat.le_of_ble_eq_true rfl) dX4_set_31 (fun σ4 h => ?_)
      refine v_R (fun hRσ4 => ?_)
      exact v_vret C h dX4_set_34
    · have h := h.2 c5
      exact v_vret C h dX4_set_10
-- SplitTowers$Poly.sameAs(LSplitTowers$Poly;)Z
def wp_X4_sameAs (σ : SG) (t : Nat) (q1 : Nat) (Q : Int → SG → Prop) : Prop :=
  Lp1 (fun (rec3 : Int → SG → Prop) (x1 : Int) (σ2 : SG) => ((13 ≤ x1 → Q 1 σ2) ∧ (¬ 13 ≤ x1 → ((0 ≤ x1 ∧ x1 < 13) ∧ ((0 ≤ x1 ∧ x1 < 13) ∧ (((σ2 (t + 1) x1.toNat) = (σ2 (q1 + 1) x1.toNat) → (inR (x1 + 1) ∧ rec3 (x1 + 1) σ2)) ∧ (¬ (σ2 (t + 1) x1.toNat) = (σ2 (q1 + 1) x1.toNat) → Q 0 σ2))))))) 0 σ
def rm_X4_sameAs : Room := { frames := 0, cells := 0, slots := 0, locals := 0 }
theorem wy_X4_sameAs : Cond.instanceMethod yX4_sameAs ∈ WS ∧ Cond.selects "SplitTowers$Poly" yX4_sameAs yX4_sameAs ∈ WS ∧ Cond.initialized "SplitTowers$Poly" ∈ WS ∧ Cond.code yX4_sameAs prog_6_method_10_code 3 (some .boolean) ∈ WS := ⟨w520, w521, w70, w522⟩
theorem hd_X4_sameAs : yX4_sameAs.cls = "SplitTowers$Poly" ∧ yX4_sameAs.cls ≠ "java/lang/invoke/MethodHandle" ∧ yX4_sameAs.cls ≠ "java/lang/invoke/VarHandle" ∧ (parseMethodDescriptor yX4_sameAs.desc).map (fun d => d.parameters.length) = some 1 := by decide +kernel
set_option maxHeartbeats 4000000 in
set_option maxRecDepth 100000 in
theorem s_X4_sameAs {l : Launch} {D : va_G} {aC : Nat → ClassId} {B lo hi : Nat} {σ : SG} {t : Nat} {q1 : Nat} {Q : Int → SG → Prop} (pt : PO lo hi t) (p1 : PO lo hi q1) (h : wp_X4_sameAs σ t q1 Q) : Met l yX4_sameAs (Cond.code yX4_sameAs prog_6_method_10_code 3 (some .boolean) :: WS) rm_X4_sameAs (va_Pc [.ref (B + t), .ref (B + q1)] (WP D aC B lo hi σ)) (QI D aC B lo hi Q) 0 0 (AB B lo hi) := by
  refine met_of (by decide +kernel) (by decide +kernel : yX4_sameAs.cls = "SplitTowers$Poly") (Nat.le_of_ble_eq_true rfl) ?_
  intro p e s m args below meth c C
  unfold wp_X4_sameAs at h
  refine v_R (fun hR0 => ?_)
  show V p l e rm_X4_sameAs s m args below meth c D aC B lo hi 3 (MQ below (QI D aC B lo hi Q) args s 0 0 (AB B lo hi)) σ 0 [(0, .ref (B + t)), (1, .ref (B + q1))] []
  refine v_iconst C dX4_sameAs_0 ?_
  refine v_istore_n (lv' := [(2, .int (iI 0)), (0, .ref (B + t)), (1, .ref (B + q1))]) C dX4_sameAs_1 rfl (by decide) rfl ?_
  obtain ⟨I11, ⟨n12, hnn12⟩, hII11⟩ := h
  have key5 : ∀ (n : Nat) (x1 : Int) (σ2 : SG), I11 n x1 σ2 → inR x1 → V p l e rm_X4_sameAs s m args below meth c D aC B lo hi 3 (MQ below (QI D aC B lo hi Q) args s 0 0 (AB B lo hi)) σ2 2 [(2, .int (iI x1)), (0, .ref (B + t)), (1, .ref (B + q1))] [] := by
    intro n
    induction n using Nat.strongRecOn with
    | ind n ih4 =>
      intro x1 σ2 hn rx1
      have h := hII11 n x1 σ2 hn
      refine v_R (fun hRσ2 => ?_)
      refine v_iload_n C 0 dX4_sameAs_2 rfl rfl ?_
      refine v_bipush C dX4_sameAs_3 (by decide) ?_
      refine v_icmp_ge C rx1 (by decide) 31 dX4_sameAs_5 (by decide) (fun c10 => ?_) (fun c10 => ?_)
      · have h := h.1 c10
        refine v_iconst C dX4_sameAs_31 ?_
        exact v_zret C (by decide) h dX4_sameAs_32
      · have h := h.2 c10
        refine v_aload_n C 1 dX4_sameAs_8 rfl rfl ?_
        refine gf4_coefficients C pt w100 dX4_sameAs_9 ?_
        refine v_iload_n C 0 dX4_sameAs_12 rfl rfl ?_
        have k6 := h.1
        have h := h.2
        refine v_iald (i := t + 1) (n := 13) C (PA_lo pt) (PA_hi pt) (celPA pt) rx1 k6 dX4_sameAs_13 ?_
        refine v_aload_n C 2 dX4_sameAs_14 rfl rfl ?_
        refine gf4_coefficients C p1 w100 dX4_sameAs_15 ?_
        refine v_iload_n C 0 dX4_sameAs_18 rfl rfl ?_
        have k7 := h.1
        have h := h.2
        refine v_iald (i := q1 + 1) (n := 13) C (PA_lo p1) (PA_hi p1) (celPA p1) rx1 k7 dX4_sameAs_19 ?_
        refine v_icmp_eq C (hRσ2 (t + 1) _) (hRσ2 (q1 + 1) _) 25 dX4_sameAs_20 (by decide) (fun c9 => ?_) (fun c9 => ?_)
        · have h := h.1 c9
          have k8 := h.1
          have h := h.2
          refine v_iinc (lv' := [(2, .int (iI (x1 + 1))), (0, .ref (B + t)), (1, .ref (B + q1))]) C 0 dX4_sameAs_25 rfl (by decide) rfl ?_
          refine v_goto C 2 dX4_sameAs_28 (by decide) ?_
          obtain ⟨m9, hm9, h⟩ := h
          exact ih4 m9 hm9 (x1 + 1) σ2 h k8
        · have h := h.2 c9
          refine v_iconst C dX4_sameAs_23 ?_
          exact v_zret C (by decide) h dX4_sameAs_24
  exact key5 n12 0 σ hnn12 (by decide)
-- SplitTowers$Poly.becomeConstant(I)V
def wp_X4_becomeConstant (σ : SG) (t : Nat) (a1 : Int) (Q : SG → Prop) : Prop :=
  wp_X4_clear σ t (fun (σ1 : SG) => wp_X4_set σ1 t 0 a1 (fun (σ2 : SG) => Q σ2))
def rm_X4_becomeConstant : Room := { frames := 2, cells := 0, slots := 0, locals := 43 }
theorem wy_X4_becomeConstant : Cond.instanceMethod yX4_becomeConstant ∈ WS ∧ Cond.selects "SplitTowers$Poly" yX4_becomeConstant yX4_becomeConstant ∈ WS ∧ Cond.initialized "SplitTowers$Poly" ∈ WS ∧ Cond.code yX4_becomeConstant prog_6_method_5_code 2 none ∈ WS := ⟨w577, w578, w70, w579⟩
theorem hd_X4_becomeConstant : yX4_becomeConstant.cls = "SplitTowers$Poly" ∧ yX4_becomeConstant.cls ≠ "java/lang/invoke/MethodHandle" ∧ yX4_becomeConstant.cls ≠ "java/lang/invoke/VarHandle" ∧ (parseMethodDescriptor yX4_becomeConstant.desc).map (fun d => d.parameters.length) = some 1 := by decide +kernel
set_option maxHeartbeats 4000000 in
set_option maxRecDepth 100000 in
theorem s_X4_becomeConstant {l : Launch} {D : va_G} {aC : Nat → ClassId} {B lo hi : Nat} {σ : SG} {t : Nat} {a1 : Int} {Q : SG → Prop} (pt : PO lo hi t) (r1 : inR a1) (h : wp_X4_becomeConstant σ t a1 Q) : Met l yX4_becomeConstant (Cond.code yX4_becomeConstant prog_6_method_5_code 2 none :: WS) rm_X4_becomeConstant (va_Pc [.ref (B + t), .int (iI a1)] (WP D aC B lo hi σ)) (QV D aC B lo hi Q) 0 0 (AB B lo hi) := by
  refine met_of (by decide +kernel) (by decide +kernel : yX4_becomeConstant.cls = "SplitTowers$Poly") (Nat.le_of_ble_eq_true rfl) ?_
  intro p e s m args below meth c C
  unfold wp_X4_becomeConstant at h
  refine v_R (fun hR0 => ?_)
  show V p l e rm_X4_becomeConstant s m args below meth c D aC B lo hi 2 (MQ below (QV D aC B lo hi Q) args s 0 0 (AB B lo hi)) σ 0 [(0, .ref (B + t)), (1, .int (iI a1))] []
  refine v_aload_n C 0 dX4_becomeConstant_0 rfl rfl ?_
  refine v_callv (i := t) (As := []) (rest := []) C (s_X4_clear pt h) w123 wy_X4_clear ⟨rfl, rfl⟩ hd_X4_clear ⟨Nat.le_of_ble_eq_true rfl, Nat.le_of_ble_eq_true rfl⟩ (PO.lo pt) (PO.hi pt) (cel_of (pt).1) rfl rfl rfl (Nat.le_of_ble_eq_true rfl) dX4_becomeConstant_1 (fun σ1 h => ?_)
  refine v_R (fun hRσ1 => ?_)
  refine v_aload_n C 0 dX4_becomeConstant_4 rfl rfl ?_
  refine v_iconst C dX4_becomeConstant_5 ?_
  refine v_iload_n C 1 dX4_becomeConstant_6 rfl rfl ?_
  refine v_callv (i := t) (As := [.int (iI 0), .int (iI a1)]) (rest := []) C (s_X4_set pt (by decide) r1 h) w127 wy_X4_set ⟨rfl, rfl⟩ hd_X4_set ⟨Nat.le_of_ble_eq_true rfl, Nat.le_of_ble_eq_true rfl⟩ (PO.lo pt) (PO.hi pt) (cel_of (pt).1) rfl rfl rfl (Nat.le_of_ble_eq_true rfl) dX4_becomeConstant_7 (fun σ2 h => ?_)
  refine v_R (fun hRσ2 => ?_)
  exact v_vret C h dX4_becomeConstant_10
-- SplitTowers$Poly.comesBefore(LSplitTowers$Poly;)Z
def wp_X4_comesBefore (σ : SG) (t : Nat) (q1 : Nat) (Q : Int → SG → Prop) : Prop :=
  (((σ t 1) = (σ q1 1) → Lp1 (fun (rec3 : Int → SG → Prop) (x1 : Int) (σ2 : SG) => ((x1 < 0 → Q 0 σ2) ∧ (¬ x1 < 0 → ((0 ≤ x1 ∧ x1 < 13) ∧ ((0 ≤ x1 ∧ x1 < 13) ∧ (((σ2 (t + 1) x1.toNat) = (σ2 (q1 + 1) x1.toNat) → (inR (x1 + (-1)) ∧ rec3 (x1 + (-1)) σ2)) ∧ (¬ (σ2 (t + 1) x1.toNat) = (σ2 (q1 + 1) x1.toNat) → ((0 ≤ x1 ∧ x1 < 13) ∧ ((0 ≤ x1 ∧ x1 < 13) ∧ (((σ2 (q1 + 1) x1.toNat) ≤ (σ2 (t + 1) x1.toNat) → Q 0 σ2) ∧ (¬ (σ2 (q1 + 1) x1.toNat) ≤ (σ2 (t + 1) x1.toNat) → Q 1 σ2))))))))))) 12 σ) ∧ (¬ (σ t 1) = (σ q1 1) → (((σ q1 1) ≤ (σ t 1) → Q 0 σ) ∧ (¬ (σ q1 1) ≤ (σ t 1) → Q 1 σ))))
def rm_X4_comesBefore : Room := { frames := 0, cells := 0, slots := 0, locals := 0 }
theorem wy_X4_comesBefore : Cond.instanceMethod yX4_comesBefore ∈ WS ∧ Cond.selects "SplitTowers$Poly" yX4_comesBefore yX4_comesBefore ∈ WS ∧ Cond.initialized "SplitTowers$Poly" ∈ WS ∧ Cond.code yX4_comesBefore prog_6_method_11_code 3 (some .boolean) ∈ WS := ⟨w602, w603, w70, w604⟩
theorem hd_X4_comesBefore : yX4_comesBefore.cls = "SplitTowers$Poly" ∧ yX4_comesBefore.cls ≠ "java/lang/invoke/MethodHandle" ∧ yX4_comesBefore.cls ≠ "java/lang/invoke/VarHandle" ∧ (parseMethodDescriptor yX4_comesBefore.desc).map (fun d => d.parameters.length) = some 1 := by decide +kernel
set_option maxHeartbeats 4000000 in
set_option maxRecDepth 100000 in
theorem s_X4_comesBefore {l : Launch} {D : va_G} {aC : Nat → ClassId} {B lo hi : Nat} {σ : SG} {t : Nat} {q1 : Nat} {Q : Int → SG → Prop} (pt : PO lo hi t) (p1 : PO lo hi q1) (h : wp_X4_comesBefore σ t q1 Q) : Met l yX4_comesBefore (Cond.code yX4_comesBefore prog_6_method_11_code 3 (some .boolean) :: WS) rm_X4_comesBefore (va_Pc [.ref (B + t), .ref (B + q1)] (WP D aC B lo hi σ)) (QI D aC B lo hi Q) 0 0 (AB B lo hi) := by
  refine met_of (by decide +kernel) (by decide +kernel : yX4_comesBefore.cls = "SplitTowers$Poly") (Nat.le_of_ble_eq_true rfl) ?_
  intro p e s m args below meth c C
  unfold wp_X4_comesBefore at h
  refine v_R (fun hR0 => ?_)
  show V p l e rm_X4_comesBefore s m args below meth c D aC B lo hi 3 (MQ below (QI D aC B lo hi Q) args s 0 0 (AB B lo hi)) σ 0 [(0, .ref (B + t)), (1, .ref (B + q1))] []
  refine v_aload_n C 0 dX4_comesBefore_0 rfl rfl ?_
  refine gf4_degree C pt w101 dX4_comesBefore_1 ?_
  refine v_aload_n C 1 dX4_comesBefore_4 rfl rfl ?_
  refine gf4_degree C p1 w101 dX4_comesBefore_5 ?_
  refine v_icmp_eq C (hR0 t 1) (hR0 q1 1) 28 dX4_comesBefore_8 (by decide) (fun c17 => ?_) (fun c17 => ?_)
  · have h := h.1 c17
    refine v_bipush C dX4_comesBefore_28 (by decide) ?_
    refine v_istore_n (lv' := [(2, .int (iI 12)), (0, .ref (B + t)), (1, .ref (B + q1))]) C dX4_comesBefore_30 rfl (by decide) rfl ?_
    obtain ⟨I14, ⟨n15, hnn15⟩, hII14⟩ := h
    have key5 : ∀ (n : Nat) (x1 : Int) (σ2 : SG), I14 n x1 σ2 → inR x1 → V p l e rm_X4_comesBefore s m args below meth c D aC B lo hi 3 (MQ below (QI D aC B lo hi Q) args s 0 0 (AB B lo hi)) σ2 31 [(2, .int (iI x1)), (0, .ref (B + t)), (1, .ref (B + q1))] [] := by
      intro n
      induction n using Nat.strongRecOn with
      | ind n ih4 =>
        intro x1 σ2 hn rx1
        have h := hII14 n x1 σ2 hn
        refine v_R (fun hRσ2 => ?_)
        refine v_iload_n C 0 dX4_comesBefore_31 rfl rfl ?_
        refine v_if_lt C rx1 77 dX4_comesBefore_32 (by decide) (fun c13 => ?_) (fun c13 => ?_)
        · have h := h.1 c13
          refine v_iconst C dX4_comesBefore_77 ?_
          exact v_zret C (by decide) h dX4_comesBefore_78
        · have h := h.2 c13
          refine v_aload_n C 1 dX4_comesBefore_35 rfl rfl ?_
          refine gf4_coefficients C pt w100 dX4_comesBefore_36 ?_
          refine v_iload_n C 0 dX4_comesBefore_39 rfl rfl ?_
          have k6 := h.1
          have h := h.2
          refine v_iald (i := t + 1) (n := 13) C (PA_lo pt) (PA_hi pt) (celPA pt) rx1 k6 dX4_comesBefore_40 ?_
          refine v_aload_n C 2 dX4_comesBefore_41 rfl rfl ?_
          refine gf4_coefficients C p1 w100 dX4_comesBefore_42 ?_
          refine v_iload_n C 0 dX4_comesBefore_45 rfl rfl ?_
          have k7 := h.1
          have h := h.2
          refine v_iald (i := q1 + 1) (n := 13) C (PA_lo p1) (PA_hi p1) (celPA p1) rx1 k7 dX4_comesBefore_46 ?_
          refine v_icmp_eq C (hRσ2 (t + 1) _) (hRσ2 (q1 + 1) _) 71 dX4_comesBefore_47 (by decide) (fun c12 => ?_) (fun c12 => ?_)
          · have h := h.1 c12
            have k8 := h.1
            have h := h.2
            refine v_iinc (lv' := [(2, .int (iI (x1 + (-1)))), (0, .ref (B + t)), (1, .ref (B + q1))]) C 0 dX4_comesBefore_71 rfl (by decide) rfl ?_
            refine v_goto C 31 dX4_comesBefore_74 (by decide) ?_
            obtain ⟨m9, hm9, h⟩ := h
            exact ih4 m9 hm9 (x1 + (-1)) σ2 h k8
          · have h := h.2 c12
            refine v_aload_n C 1 dX4_comesBefore_50 rfl rfl ?_
            refine gf4_coefficients C pt w100 dX4_comesBefore_51 ?_
            refine v_iload_n C 0 dX4_comesBefore_54 rfl rfl ?_
            have k9 := h.1
            have h := h.2
            refine v_iald (i := t + 1) (n := 13) C (PA_lo pt) (PA_hi pt) (celPA pt) rx1 k9 dX4_comesBefore_55 ?_
            refine v_aload_n C 2 dX4_comesBefore_56 rfl rfl ?_
            refine gf4_coefficients C p1 w100 dX4_comesBefore_57 ?_
            refine v_iload_n C 0 dX4_comesBefore_60 rfl rfl ?_
            have k10 := h.1
            have h := h.2
            refine v_iald (i := q1 + 1) (n := 13) C (PA_lo p1) (PA_hi p1) (celPA p1) rx1 k10 dX4_comesBefore_61 ?_
            refine v_icmp_ge C (hRσ2 (t + 1) _) (hRσ2 (q1 + 1) _) 69 dX4_comesBefore_62 (by decide) (fun c11 => ?_) (fun c11 => ?_)
            · have h := h.1 c11
              refine v_iconst C dX4_comesBefore_69 ?_
              exact v_zret C (by decide) h dX4_comesBefore_70
            · have h := h.2 c11
              refine v_iconst C dX4_comesBefore_65 ?_
              refine v_goto C 70 dX4_comesBefore_66 (by decide) ?_
              exact v_zret C (by decide) h dX4_comesBefore_70
    exact key5 n15 12 σ hnn15 (by decide)
  · have h := h.2 c17
    refine v_aload_n C 0 dX4_comesBefore_11 rfl rfl ?_
    refine gf4_degree C pt w101 dX4_comesBefore_12 ?_
    refine v_aload_n C 1 dX4_comesBefore_15 rfl rfl ?_
    refine gf4_degree C p1 w101 dX4_comesBefore_16 ?_
    refine v_icmp_ge C (hR0 t 1) (hR0 q1 1) 26 dX4_comesBefore_19 (by decide) (fun c16 => ?_) (fun c16 => ?_)
    · have h := h.1 c16
      refine v_iconst C dX4_comesBefore_26 ?_
      exact v_zret C (by decide) h dX4_comesBefore_27
    · have h := h.2 c16
      refine v_iconst C dX4_comesBefore_22 ?_
      refine v_goto C 27 dX4_comesBefore_23 (by decide) ?_
      exact v_zret C (by decide) h dX4_comesBefore_27
-- SplitTowers$Poly.becomeVariable()V
def wp_X4_becomeVariable (σ : SG) (t : Nat) (Q : SG → Prop) : Prop :=
  wp_X4_clear σ t (fun (σ1 : SG) => wp_X4_set σ1 t 1 1 (fun (σ2 : SG) => Q σ2))
def rm_X4_becomeVariable : Room := { frames := 2, cells := 0, slots := 0, locals := 43 }
theorem wy_X4_becomeVariable : Cond.instanceMethod yX4_becomeVariable ∈ WS ∧ Cond.selects "SplitTowers$Poly" yX4_becomeVariable yX4_becomeVariable ∈ WS ∧ Cond.initialized "SplitTowers$Poly" ∈ WS ∧ Cond.code yX4_becomeVariable prog_6_method_6_code 1 none ∈ WS := ⟨w120, w121, w70, w122⟩
theorem hd_X4_becomeVariable : yX4_becomeVariable.cls = "SplitTowers$Poly" ∧ yX4_becomeVariable.cls ≠ "java/lang/invoke/MethodHandle" ∧ yX4_becomeVariable.cls ≠ "java/lang/invoke/VarHandle" ∧ (parseMethodDescriptor yX4_becomeVariable.desc).map (fun d => d.parameters.length) = some 0 := by decide +kernel
set_option maxHeartbeats 4000000 in
set_option maxRecDepth 100000 in
theorem s_X4_becomeVariable {l : Launch} {D : va_G} {aC : Nat → ClassId} {B lo hi : Nat} {σ : SG} {t : Nat} {Q : SG → Prop} (pt : PO lo hi t) (h : wp_X4_becomeVariable σ t Q) : Met l yX4_becomeVariable (Cond.code yX4_becomeVariable prog_6_method_6_code 1 none :: WS) rm_X4_becomeVariable (va_Pc [.ref (B + t)] (WP D aC B lo hi σ)) (QV D aC B lo hi Q) 0 0 (AB B lo hi) := by
  refine met_of (by decide +kernel) (by decide +kernel : yX4_becomeVariable.cls = "SplitTowers$Poly") (Nat.le_of_ble_eq_true rfl) ?_
  intro p e s m args below meth c C
  unfold wp_X4_becomeVariable at h
  refine v_R (fun hR0 => ?_)
  show V p l e rm_X4_becomeVariable s m args below meth c D aC B lo hi 1 (MQ below (QV D aC B lo hi Q) args s 0 0 (AB B lo hi)) σ 0 [(0, .ref (B + t))] []
  refine v_aload_n C 0 dX4_becomeVariable_0 rfl rfl ?_
  refine v_callv (i := t) (As := []) (rest := []) C (s_X4_clear pt h) w123 wy_X4_clear ⟨rfl, rfl⟩ hd_X4_clear ⟨Nat.le_of_ble_eq_true rfl, Nat.le_of_ble_eq_true rfl⟩ (PO.lo pt) (PO.hi pt) (cel_of (pt).1) rfl rfl rfl (Nat.le_of_ble_eq_true rfl) dX4_becomeVariable_1 (fun σ1 h => ?_)
  refine v_R (fun hRσ1 => ?_)
  refine v_aload_n C 0 dX4_becomeVariable_4 rfl rfl ?_
  refine v_iconst C dX4_becomeVariable_5 ?_
  refine v_iconst C dX4_becomeVariable_6 ?_
  refine v_callv (i := t) (As := [.int (iI 1), .int (iI 1)]) (rest := []) C (s_X4_set pt (by decide) (by decide) h) w127 wy_X4_set ⟨rfl, rfl⟩ hd_X4_set ⟨Nat.le_of_ble_eq_true rfl, Nat.le_of_ble_eq_true rfl⟩ (PO.lo pt) (PO.hi pt) (cel_of (pt).1) rfl rfl rfl (Nat.le_of_ble_eq_true rfl) dX4_becomeVariable_7 (fun σ2 h => ?_)
  refine v_R (fun hRσ2 => ?_)
  exact v_vret C h dX4_becomeVariable_10
-- SplitTowers$Poly.isOne()Z
def wp_X4_isOne (σ : SG) (t : Nat) (Q : Int → SG → Prop) : Prop :=
  ((¬ (σ t 1) = 0 → Q 0 σ) ∧ ((σ t 1) = 0 → ((¬ (σ (t + 1) 0) = 1 → Q 0 σ) ∧ ((σ (t + 1) 0) = 1 → Q 1 σ))))
def rm_X4_isOne : Room := { frames := 0, cells := 0, slots := 0, locals := 0 }
theorem wy_X4_isOne : Cond.instanceMethod yX4_isOne ∈ WS ∧ Cond.selects "SplitTowers$Poly" yX4_isOne yX4_isOne ∈ WS ∧ Cond.initialized "SplitTowers$Poly" ∈ WS ∧ Cond.code yX4_isOne prog_6_method_9_code 1 (some .boolean) ∈ WS := ⟨w842, w843, w70, w844⟩
theorem hd_X4_isOne : yX4_isOne.cls = "SplitTowers$Poly" ∧ yX4_isOne.cls ≠ "java/lang/invoke/MethodHandle" ∧ yX4_isOne.cls ≠ "java/lang/invoke/VarHandle" ∧ (parseMethodDescriptor yX4_isOne.desc).map (fun d => d.parameters.length) = some 0 := by decide +kernel
set_option maxHeartbeats 4000000 in
set_option maxRecDepth 100000 in
theorem s_X4_isOne {l : Launch} {D : va_G} {aC : Nat → ClassId} {B lo hi : Nat} {σ : SG} {t : Nat} {Q : Int → SG → Prop} (pt : PO lo hi t) (h : wp_X4_isOne σ t Q) : Met l yX4_isOne (Cond.code yX4_isOne prog_6_method_9_code 1 (some .boolean) :: WS) rm_X4_isOne (va_Pc [.ref (B + t)] (WP D aC B lo hi σ)) (QI D aC B lo hi Q) 0 0 (AB B lo hi) := by
  refine met_of (by decide +kernel) (by decide +kernel : yX4_isOne.cls = "SplitTowers$Poly") (Nat.le_of_ble_eq_true rfl) ?_
  intro p e s m args below meth c C
  unfold wp_X4_isOne at h
  refine v_R (fun hR0 => ?_)
  show V p l e rm_X4_isOne s m args below meth c D aC B lo hi 1 (MQ below (QI D aC B lo hi Q) args s 0 0 (AB B lo hi)) σ 0 [(0, .ref (B + t))] []
  refine v_aload_n C 0 dX4_isOne_0 rfl rfl ?_
  refine gf4_degree C pt w101 dX4_isOne_1 ?_
  refine v_if_ne C (hR0 t 1) 21 dX4_isOne_4 (by decide) (fun c2 => ?_) (fun c2 => ?_)
  · have h := h.1 c2
    refine v_iconst C dX4_isOne_21 ?_
    exact v_zret C (by decide) h dX4_isOne_22
  · have h := h.2 c2
    refine v_aload_n C 0 dX4_isOne_7 rfl rfl ?_
    refine gf4_coefficients C pt w100 dX4_isOne_8 ?_
    refine v_iconst C dX4_isOne_11 ?_
    refine v_iald (i := t + 1) (n := 13) C (PA_lo pt) (PA_hi pt) (celPA pt) (by decide) ⟨by decide, by decide⟩ dX4_isOne_12 ?_
    refine v_iconst C dX4_isOne_13 ?_
    refine v_icmp_ne C (hR0 (t + 1) _) (by decide) 21 dX4_isOne_14 (by decide) (fun c1 => ?_) (fun c1 => ?_)
    · have h := h.1 c1
      refine v_iconst C dX4_isOne_21 ?_
      exact v_zret C (by decide) h dX4_isOne_22
    · have h := h.2 c1
      refine v_iconst C dX4_isOne_17 ?_
      refine v_goto C 22 dX4_isOne_18 (by decide) ?_
      exact v_zret C (by decide) h dX4_isOne_22
