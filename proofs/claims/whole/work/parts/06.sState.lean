-- SplitTowers$State.reduced(I)I
def wp_X7_reduced (σ : SG) (o : Nat) (a1 : Int) (Q : Int → SG → Prop) : Prop :=
  ((2 ≤ (σ o 0) → ((σ o 0) ≠ 0 ∧ (∀ v2 : Int, v2 = (Int.tmod a1 (σ o 0)) → ((0 ≤ v2 → Q v2 σ) ∧ (¬ 0 ≤ v2 → (inR (v2 + (σ o 0)) ∧ Q (v2 + (σ o 0)) σ)))))) ∧ (¬ 2 ≤ (σ o 0) → Q 0 σ))
def rm_X7_reduced : Room := { frames := 0, cells := 0, slots := 0, locals := 0 }
theorem wy_X7_reduced : Cond.instanceMethod yX7_reduced ∈ WS ∧ Cond.selects "SplitTowers$State" yX7_reduced yX7_reduced ∈ WS ∧ Cond.initialized "SplitTowers$State" ∈ WS ∧ Cond.code yX7_reduced prog_9_method_5_code 3 (some .int) ∈ WS := ⟨w494, w495, w69, w496⟩
theorem hd_X7_reduced : yX7_reduced.cls = "SplitTowers$State" ∧ yX7_reduced.cls ≠ "java/lang/invoke/MethodHandle" ∧ yX7_reduced.cls ≠ "java/lang/invoke/VarHandle" ∧ (parseMethodDescriptor yX7_reduced.desc).map (fun d => d.parameters.length) = some 1 := by decide +kernel
set_option maxHeartbeats 4000000 in
set_option maxRecDepth 100000 in
theorem s_X7_reduced {l : Launch} {D : va_G} {aC : Nat → ClassId} {B lo hi : Nat} {σ : SG} {o : Nat} {a1 : Int} {Q : Int → SG → Prop} (po : SO lo hi o) (r1 : inR a1) (h : wp_X7_reduced σ o a1 Q) : Met l yX7_reduced (Cond.code yX7_reduced prog_9_method_5_code 3 (some .int) :: WS) rm_X7_reduced (va_Pc [.ref (B + o), .int (iI a1)] (WP D aC B lo hi σ)) (QI D aC B lo hi Q) 0 0 (AB B lo hi) := by
  refine met_of (by decide +kernel) (by decide +kernel : yX7_reduced.cls = "SplitTowers$State") (Nat.le_of_ble_eq_true rfl) ?_
  intro p e s m args below meth c C
  unfold wp_X7_reduced at h
  refine v_R (fun hR0 => ?_)
  show V p l e rm_X7_reduced s m args below meth c D aC B lo hi 3 (MQ below (QI D aC B lo hi Q) args s 0 0 (AB B lo hi)) σ 0 [(0, .ref (B + o)), (1, .int (iI a1))] []
  refine v_aload_n C 0 dX7_reduced_0 rfl rfl ?_
  refine gf7_prime C po w151 dX7_reduced_1 ?_
  refine v_iconst C dX7_reduced_4 ?_
  refine v_icmp_ge C (hR0 o 0) (by decide) 10 dX7_reduced_5 (by decide) (fun c5 => ?_) (fun c5 => ?_)
  · have h := h.1 c5
    refine v_iload_n C 1 dX7_reduced_10 rfl rfl ?_
    refine v_aload_n C 0 dX7_reduced_11 rfl rfl ?_
    refine gf7_prime C po w151 dX7_reduced_12 ?_
    have k1 := h.1
    have h := h.2
    refine v_irem C r1 (hR0 o 0) k1 dX7_reduced_15 ?_
    refine v_name (fun v2 ev2 => ?_)
    have h := h v2 ev2
    have rv2 : inR v2 := by rw [ev2]; exact (inR_tmod r1)
    refine v_istore_n (lv' := [(2, .int (iI v2)), (0, .ref (B + o)), (1, .int (iI a1))]) C dX7_reduced_16 rfl (by decide) rfl ?_
    refine v_iload_n C 0 dX7_reduced_17 rfl rfl ?_
    refine v_if_ge C rv2 30 dX7_reduced_18 (by decide) (fun c4 => ?_) (fun c4 => ?_)
    · have h := h.1 c4
      refine v_iload_n C 0 dX7_reduced_30 rfl rfl ?_
      exact v_iret C rv2 h dX7_reduced_31
    · have h := h.2 c4
      refine v_iload_n C 0 dX7_reduced_21 rfl rfl ?_
      refine v_aload_n C 1 dX7_reduced_22 rfl rfl ?_
      refine gf7_prime C po w151 dX7_reduced_23 ?_
      have k3 := h.1
      have h := h.2
      refine v_iadd C dX7_reduced_26 ?_
      refine v_goto C 31 dX7_reduced_27 (by decide) ?_
      exact v_iret C k3 h dX7_reduced_31
  · have h := h.2 c5
    refine v_iconst C dX7_reduced_8 ?_
    exact v_iret C (by decide) h dX7_reduced_9
-- SplitTowers$State.addBranch(LSplitTowers$Poly;)V
def wp_X7_addBranch (σ : SG) (o : Nat) (q1 : Nat) (Q : SG → Prop) : Prop :=
  ((6 ≤ (σ o 4) → Q σ) ∧ (¬ 6 ≤ (σ o 4) → ((0 ≤ (σ o 4) ∧ (σ o 4) < 6) ∧ BO o ((σ (o + 16) (σ o 4).toNat).toNat) ∧ wp_X4_copy σ ((σ (o + 16) (σ o 4).toNat).toNat) q1 (fun (σ3 : SG) => (inR ((σ3 o 4) + 1) ∧ (∀ σ5 : SG, σ5 = ug σ3 o 4 ((σ3 o 4) + 1) → Q σ5))))))
def rm_X7_addBranch : Room := { frames := 1, cells := 0, slots := 0, locals := 22 }
theorem wy_X7_addBranch : Cond.instanceMethod yX7_addBranch ∈ WS ∧ Cond.selects "SplitTowers$State" yX7_addBranch yX7_addBranch ∈ WS ∧ Cond.initialized "SplitTowers$State" ∈ WS ∧ Cond.code yX7_addBranch prog_9_method_6_code 2 none ∈ WS := ⟨w144, w145, w69, w146⟩
theorem hd_X7_addBranch : yX7_addBranch.cls = "SplitTowers$State" ∧ yX7_addBranch.cls ≠ "java/lang/invoke/MethodHandle" ∧ yX7_addBranch.cls ≠ "java/lang/invoke/VarHandle" ∧ (parseMethodDescriptor yX7_addBranch.desc).map (fun d => d.parameters.length) = some 1 := by decide +kernel
set_option maxHeartbeats 4000000 in
set_option maxRecDepth 100000 in
theorem s_X7_addBranch {l : Launch} {D : va_G} {aC : Nat → ClassId} {B lo hi : Nat} {σ : SG} {o : Nat} {q1 : Nat} {Q : SG → Prop} (po : SO lo hi o) (p1 : PO lo hi q1) (h : wp_X7_addBranch σ o q1 Q) : Met l yX7_addBranch (Cond.code yX7_addBranch prog_9_method_6_code 2 none :: WS) rm_X7_addBranch (va_Pc [.ref (B + o), .ref (B + q1)] (WP D aC B lo hi σ)) (QV D aC B lo hi Q) 0 0 (AB B lo hi) := by
  refine met_of (by decide +kernel) (by decide +kernel : yX7_addBranch.cls = "SplitTowers$State") (Nat.le_of_ble_eq_true rfl) ?_
  intro p e s m args below meth c C
  unfold wp_X7_addBranch at h
  refine v_R (fun hR0 => ?_)
  show V p l e rm_X7_addBranch s m args below meth c D aC B lo hi 2 (MQ below (QV D aC B lo hi Q) args s 0 0 (AB B lo hi)) σ 0 [(0, .ref (B + o)), (1, .ref (B + q1))] []
  refine v_aload_n C 0 dX7_addBranch_0 rfl rfl ?_
  refine gf7_branchCount C po w168 dX7_addBranch_1 ?_
  refine v_bipush C dX7_addBranch_4 (by decide) ?_
  refine v_icmp_ge C (hR0 o 4) (by decide) 32 dX7_addBranch_6 (by decide) (fun c6 => ?_) (fun c6 => ?_)
  · have h := h.1 c6
    exact v_vret C h dX7_addBranch_32
  · have h := h.2 c6
    refine v_aload_n C 0 dX7_addBranch_9 rfl rfl ?_
    refine gf7_branches C po w164 dX7_addBranch_10 ?_
    refine v_aload_n C 0 dX7_addBranch_13 rfl rfl ?_
    refine gf7_branchCount C po w168 dX7_addBranch_14 ?_
    have k1 := h.1
    have h := h.2
    have k2 := h.1
    have h := h.2
    refine v_aaldB C po (hR0 o 4) k1 dX7_addBranch_17 ?_
    refine v_aload_n C 1 dX7_addBranch_18 rfl rfl ?_
    refine v_callv (i := (σ (o + 16) (σ o 4).toNat).toNat) (As := [.ref (B + q1)]) (rest := []) C (s_X4_copy (PO_br po k2) p1 h) w147 wy_X4_copy ⟨rfl, rfl⟩ hd_X4_copy ⟨Nat.le_of_ble_eq_true rfl, Nat.le_of_ble_eq_true rfl⟩ (PO.lo (PO_br po k2)) (PO.hi (PO_br po k2)) (cel_of ((PO_br po k2)).1) rfl rfl rfl (Nat.le_of_ble_eq_true rfl) dX7_addBranch_19 (fun σ3 h => ?_)
    refine v_R (fun hRσ3 => ?_)
    refine v_aload_n C 0 dX7_addBranch_22 rfl rfl ?_
    refine v_dup C rfl dX7_addBranch_23 ?_
    refine gf7_branchCount C po w168 dX7_addBranch_24 ?_
    refine v_iconst C dX7_addBranch_27 ?_
    have k4 := h.1
    have h := h.2
    refine v_iadd C dX7_addBranch_28 ?_
    refine pf7_branchCount C po k4 w168 dX7_addBranch_29 ?_
    refine v_nameS (fun σ5 eσ5 => ?_)
    have h := h σ5 eσ5
    refine v_R (fun hRσ5 => ?_)
    exact v_vret C h dX7_addBranch_32
-- SplitTowers$State.sortBranches()V
def wp_X7_sortBranches (σ : SG) (o : Nat) (Q : SG → Prop) : Prop :=
  (inR ((σ o 4) - 1) ∧ (∀ v2 : Int, v2 = (σ o 4) - 1 → Lp1 (fun (rec5 : Int → SG → Prop) (x3 : Int) (σ4 : SG) => ((x3 ≤ 0 → Q σ4) ∧ (¬ x3 ≤ 0 → Lp1 (fun (rec10 : Int → SG → Prop) (x8 : Int) (σ9 : SG) => ((x3 ≤ x8 → (inR (x3 + (-1)) ∧ rec5 (x3 + (-1)) σ9)) ∧ (¬ x3 ≤ x8 → ((0 ≤ x8 ∧ x8 < 6) ∧ BO o ((σ9 (o + 16) x8.toNat).toNat) ∧ (inR (x8 + 1) ∧ ((0 ≤ x8 + 1 ∧ x8 + 1 < 6) ∧ BO o ((σ9 (o + 16) (x8 + 1).toNat).toNat) ∧ wp_X4_comesBefore σ9 ((σ9 (o + 16) (x8 + 1).toNat).toNat) ((σ9 (o + 16) x8.toNat).toNat) (fun (z20 : Int) (σ19 : SG) => ((z20 = 0 → (inR (x8 + 1) ∧ rec10 (x8 + 1) σ19)) ∧ (¬ z20 = 0 → ((0 ≤ x8 ∧ x8 < 6) ∧ (∀ σ23 : SG, σ23 = ug σ19 (o + 16) x8.toNat (((σ9 (o + 16) (x8 + 1).toNat).toNat : Nat) : Int) → (inR (x8 + 1) ∧ ((0 ≤ x8 + 1 ∧ x8 + 1 < 6) ∧ (∀ σ26 : SG, σ26 = ug σ23 (o + 16) ((x8 + 1).toNat) (((σ9 (o + 16) x8.toNat).toNat : Nat) : Int) → (inR (x8 + 1) ∧ rec10 (x8 + 1) σ26))))))))))))))) 0 σ4))) v2 σ))
def rm_X7_sortBranches : Room := { frames := 1, cells := 0, slots := 0, locals := 22 }
theorem wy_X7_sortBranches : Cond.instanceMethod yX7_sortBranches ∈ WS ∧ Cond.selects "SplitTowers$State" yX7_sortBranches yX7_sortBranches ∈ WS ∧ Cond.initialized "SplitTowers$State" ∈ WS ∧ Cond.code yX7_sortBranches prog_9_method_7_code 5 none ∈ WS := ⟨w598, w599, w69, w600⟩
theorem hd_X7_sortBranches : yX7_sortBranches.cls = "SplitTowers$State" ∧ yX7_sortBranches.cls ≠ "java/lang/invoke/MethodHandle" ∧ yX7_sortBranches.cls ≠ "java/lang/invoke/VarHandle" ∧ (parseMethodDescriptor yX7_sortBranches.desc).map (fun d => d.parameters.length) = some 0 := by decide +kernel
set_option maxHeartbeats 4000000 in
set_option maxRecDepth 100000 in
theorem s_X7_sortBranches {l : Launch} {D : va_G} {aC : Nat → ClassId} {B lo hi : Nat} {σ : SG} {o : Nat} {Q : SG → Prop} (po : SO lo hi o) (h : wp_X7_sortBranches σ o Q) : Met l yX7_sortBranches (Cond.code yX7_sortBranches prog_9_method_7_code 5 none :: WS) rm_X7_sortBranches (va_Pc [.ref (B + o)] (WP D aC B lo hi σ)) (QV D aC B lo hi Q) 0 0 (AB B lo hi) := by
  refine met_of (by decide +kernel) (by decide +kernel : yX7_sortBranches.cls = "SplitTowers$State") (Nat.le_of_ble_eq_true rfl) ?_
  intro p e s m args below meth c C
  unfold wp_X7_sortBranches at h
  refine v_R (fun hR0 => ?_)
  show V p l e rm_X7_sortBranches s m args below meth c D aC B lo hi 5 (MQ below (QV D aC B lo hi Q) args s 0 0 (AB B lo hi)) σ 0 [(0, .ref (B + o))] []
  refine v_aload_n C 0 dX7_sortBranches_0 rfl rfl ?_
  refine gf7_branchCount C po w168 dX7_sortBranches_1 ?_
  refine v_iconst C dX7_sortBranches_4 ?_
  have k1 := h.1
  have h := h.2
  refine v_isub C dX7_sortBranches_5 ?_
  refine v_name (fun v2 ev2 => ?_)
  have h := h v2 ev2
  have rv2 : inR v2 := by rw [ev2]; exact k1
  refine v_istore_n (lv' := [(1, .int (iI v2)), (0, .ref (B + o))]) C dX7_sortBranches_6 rfl (by decide) rfl ?_
  obtain ⟨I33, ⟨n34, hnn34⟩, hII33⟩ := h
  have key7 : ∀ (n : Nat) (x3 : Int) (σ4 : SG), I33 n x3 σ4 → inR x3 → V p l e rm_X7_sortBranches s m args below meth c D aC B lo hi 5 (MQ below (QV D aC B lo hi Q) args s 0 0 (AB B lo hi)) σ4 7 [(1, .int (iI x3)), (0, .ref (B + o))] [] := by
    intro n
    induction n using Nat.strongRecOn with
    | ind n ih6 =>
      intro x3 σ4 hn rx3
      have h := hII33 n x3 σ4 hn
      refine v_R (fun hRσ4 => ?_)
      refine v_iload_n C 0 dX7_sortBranches_7 rfl rfl ?_
      refine v_if_le C rx3 73 dX7_sortBranches_8 (by decide) (fun c32 => ?_) (fun c32 => ?_)
      · have h := h.1 c32
        exact v_vret C h dX7_sortBranches_73
      · have h := h.2 c32
        refine v_iconst C dX7_sortBranches_11 ?_
        refine v_istore_n (lv' := [(2, .int (iI 0)), (1, .int (iI x3)), (0, .ref (B + o))]) C dX7_sortBranches_12 rfl (by decide) rfl ?_
        obtain ⟨I30, ⟨n31, hnn31⟩, hII30⟩ := h
        have key12 : ∀ (n : Nat) (x8 : Int) (σ9 : SG), I30 n x8 σ9 → inR x8 → V p l e rm_X7_sortBranches s m args below meth c D aC B lo hi 5 (MQ below (QV D aC B lo hi Q) args s 0 0 (AB B lo hi)) σ9 13 [(2, .int (iI x8)), (1, .int (iI x3)), (0, .ref (B + o))] [] := by
          intro n
          induction n using Nat.strongRecOn with
          | ind n ih11 =>
            intro x8 σ9 hn rx8
            have h := hII30 n x8 σ9 hn
            refine v_R (fun hRσ9 => ?_)
            refine v_iload_n C 0 dX7_sortBranches_13 rfl rfl ?_
            refine v_iload_n C 1 dX7_sortBranches_14 rfl rfl ?_
            refine v_icmp_ge C rx8 rx3 67 dX7_sortBranches_15 (by decide) (fun c29 => ?_) (fun c29 => ?_)
            · have h := h.1 c29
              have k13 := h.1
              have h := h.2
              refine v_iinc (lv' := [(1, .int (iI (x3 + (-1)))), (2, .int (iI x8)), (0, .ref (B + o))]) C 1 dX7_sortBranches_67 rfl (by decide) rfl ?_
              refine v_goto C 7 dX7_sortBranches_70 (by decide) ?_
              obtain ⟨m9, hm9, h⟩ := h
              refine v_sub [0, 2] rfl ?_
              exact ih6 m9 hm9 (x3 + (-1)) σ9 h k13
            · have h := h.2 c29
              refine v_aload_n C 2 dX7_sortBranches_18 rfl rfl ?_
              refine gf7_branches C po w164 dX7_sortBranches_19 ?_
              refine v_iload_n C 0 dX7_sortBranches_22 rfl rfl ?_
              have k14 := h.1
              have h := h.2
              have k15 := h.1
              have h := h.2
              refine v_aaldB C po rx8 k14 dX7_sortBranches_23 ?_
              refine v_astore_n (lv' := [(3, .ref (B + ((σ9 (o + 16) x8.toNat).toNat))), (2, .int (iI x8)), (1, .int (iI x3)), (0, .ref (B + o))]) C dX7_sortBranches_24 rfl (by decide) rfl ?_
              refine v_aload_n C 3 dX7_sortBranches_25 rfl rfl ?_
              refine gf7_branches C po w164 dX7_sortBranches_26 ?_
              refine v_iload_n C 1 dX7_sortBranches_29 rfl rfl ?_
              refine v_iconst C dX7_sortBranches_30 ?_
              have k16 := h.1
              have h := h.2
              refine v_iadd C dX7_sortBranches_31 ?_
              have k17 := h.1
              have h := h.2
              have k18 := h.1
              have h := h.2
              refine v_aaldB C po k16 k17 dX7_sortBranches_32 ?_
              refine v_astore (lv' := [(4, .ref (B + ((σ9 (o + 16) (x8 + 1).toNat).toNat))), (3, .ref (B + ((σ9 (o + 16) x8.toNat).toNat))), (2, .int (iI x8)), (1, .int (iI x3)), (0, .ref (B + o))]) C dX7_sortBranches_33 (by decide) rfl ?_
              refine v_aload C 0 dX7_sortBranches_35 rfl ?_
              refine v_aload_n C 1 dX7_sortBranches_37 rfl rfl ?_
              refine v_calli (i := (σ9 (o + 16) (x8 + 1).toNat).toNat) (As := [.ref (B + ((σ9 (o + 16) x8.toNat).toNat))]) (rest := []) C (s_X4_comesBefore (PO_br po k18) (PO_br po k15) h) w601 wy_X4_comesBefore ⟨rfl, rfl⟩ hd_X4_comesBefore ⟨Nat.le_of_ble_eq_true rfl, Nat.le_of_ble_eq_true rfl⟩ (PO.lo (PO_br po k18)) (PO.hi (PO_br po k18)) (cel_of ((PO_br po k18)).1) rfl rfl rfl (Nat.le_of_ble_eq_true rfl) dX7_sortBranches_38 (fun z20 σ19 rz20 h => ?_)
              refine v_R (fun hRσ19 => ?_)
              refine v_if_eq C rz20 61 dX7_sortBranches_41 (by decide) (fun c28 => ?_) (fun c28 => ?_)
              · have h := h.1 c28
                have k21 := h.1
                have h := h.2
                refine v_iinc (lv' := [(2, .int (iI (x8 + 1))), (4, .ref (B + ((σ9 (o + 16) (x8 + 1).toNat).toNat))), (3, .ref (B + ((σ9 (o + 16) x8.toNat).toNat))), (1, .int (iI x3)), (0, .ref (B + o))]) C 2 dX7_sortBranches_61 rfl (by decide) rfl ?_
                refine v_goto C 13 dX7_sortBranches_64 (by decide) ?_
                obtain ⟨m9, hm9, h⟩ := h
                refine v_sub [0, 3, 4] rfl ?_
                exact ih11 m9 hm9 (x8 + 1) σ19 h k21
              · have h := h.2 c28
                refine v_aload_n C 4 dX7_sortBranches_44 rfl rfl ?_
                refine gf7_branches C po w164 dX7_sortBranches_45 ?_
                refine v_iload_n C 2 dX7_sortBranches_48 rfl rfl ?_
                refine v_aload C 0 dX7_sortBranches_49 rfl ?_
                have k22 := h.1
                have h := h.2
                refine v_aastB C po (PO_br po k18) rx8 k22 dX7_sortBranches_51 ?_
                refine v_nameS (fun σ23 eσ23 => ?_)
                have h := h σ23 eσ23
                refine v_R (fun hRσ23 => ?_)
                refine v_aload_n C 4 dX7_sortBranches_52 rfl rfl ?_
                refine gf7_branches C po w164 dX7_sortBranches_53 ?_
                refine v_iload_n C 2 dX7_sortBranches_56 rfl rfl ?_
                refine v_iconst C dX7_sortBranches_57 ?_
                have k24 := h.1
                have h := h.2
                refine v_iadd C dX7_sortBranches_58 ?_
                refine v_aload_n C 1 dX7_sortBranches_59 rfl rfl ?_
                have k25 := h.1
                have h := h.2
                refine v_aastB C po (PO_br po k15) k24 k25 dX7_sortBranches_60 ?_
                refine v_nameS (fun σ26 eσ26 => ?_)
                have h := h σ26 eσ26
                refine v_R (fun hRσ26 => ?_)
                have k27 := h.1
                have h := h.2
                refine v_iinc (lv' := [(2, .int (iI (x8 + 1))), (4, .ref (B + ((σ9 (o + 16) (x8 + 1).toNat).toNat))), (3, .ref (B + ((σ9 (o + 16) x8.toNat).toNat))), (1, .int (iI x3)), (0, .ref (B + o))]) C 2 dX7_sortBranches_61 rfl (by decide) rfl ?_
                refine v_goto C 13 dX7_sortBranches_64 (by decide) ?_
                obtain ⟨m9, hm9, h⟩ := h
                refine v_sub [0, 3, 4] rfl ?_
                exact ih11 m9 hm9 (x8 + 1) σ26 h k27
        exact key12 n31 0 σ4 hnn31 (by decide)
  exact key7 n34 v2 σ hnn34 rv2
-- SplitTowers$State.copy(LSplitTowers$State;)V
def wp_X7_copy (σ : SG) (o : Nat) (q1 : Nat) (Q : SG → Prop) : Prop :=
  (∀ σ1 : SG, σ1 = ug σ o 0 (σ q1 0) → wp_X4_copy σ1 (o + 1) (q1 + 1) (fun (σ2 : SG) => Lp1 (fun (rec5 : Int → SG → Prop) (x3 : Int) (σ4 : SG) => ((6 ≤ x3 → Lp1 (fun (rec10 : Int → SG → Prop) (x8 : Int) (σ9 : SG) => ((6 ≤ x8 → (∀ σ13 : SG, σ13 = ug σ9 o 4 (σ9 q1 4) → Q σ13)) ∧ (¬ 6 ≤ x8 → ((0 ≤ x8 ∧ x8 < 6) ∧ BO o ((σ9 (o + 16) x8.toNat).toNat) ∧ ((0 ≤ x8 ∧ x8 < 6) ∧ BO q1 ((σ9 (q1 + 16) x8.toNat).toNat) ∧ wp_X4_copy σ9 ((σ9 (o + 16) x8.toNat).toNat) ((σ9 (q1 + 16) x8.toNat).toNat) (fun (σ18 : SG) => (inR (x8 + 1) ∧ rec10 (x8 + 1) σ18))))))) 0 σ4) ∧ (¬ 6 ≤ x3 → ((0 ≤ x3 ∧ x3 < 6) ∧ ((0 ≤ x3 ∧ x3 < 6) ∧ wp_X4_copy σ4 (o + 3 + 1 + 2 * x3.toNat) (q1 + 3 + 1 + 2 * x3.toNat) (fun (σ25 : SG) => (inR (x3 + 1) ∧ rec5 (x3 + 1) σ25))))))) 0 σ2))
def rm_X7_copy : Room := { frames := 1, cells := 0, slots := 0, locals := 22 }
theorem wy_X7_copy : Cond.instanceMethod yX7_copy ∈ WS ∧ Cond.selects "SplitTowers$State" yX7_copy yX7_copy ∈ WS ∧ Cond.initialized "SplitTowers$State" ∈ WS ∧ Cond.code yX7_copy prog_9_method_4_code 3 none ∈ WS := ⟨w451, w452, w69, w453⟩
theorem hd_X7_copy : yX7_copy.cls = "SplitTowers$State" ∧ yX7_copy.cls ≠ "java/lang/invoke/MethodHandle" ∧ yX7_copy.cls ≠ "java/lang/invoke/VarHandle" ∧ (parseMethodDescriptor yX7_copy.desc).map (fun d => d.parameters.length) = some 1 := by decide +kernel
set_option maxHeartbeats 4000000 in
set_option maxRecDepth 100000 in
theorem s_X7_copy {l : Launch} {D : va_G} {aC : Nat → ClassId} {B lo hi : Nat} {σ : SG} {o : Nat} {q1 : Nat} {Q : SG → Prop} (po : SO lo hi o) (p1 : SO lo hi q1) (h : wp_X7_copy σ o q1 Q) : Met l yX7_copy (Cond.code yX7_copy prog_9_method_4_code 3 none :: WS) rm_X7_copy (va_Pc [.ref (B + o), .ref (B + q1)] (WP D aC B lo hi σ)) (QV D aC B lo hi Q) 0 0 (AB B lo hi) := by
  refine met_of (by decide +kernel) (by decide +kernel : yX7_copy.cls = "SplitTowers$State") (Nat.le_of_ble_eq_true rfl) ?_
  intro p e s m args below meth c C
  unfold wp_X7_copy at h
  refine v_R (fun hR0 => ?_)
  show V p l e rm_X7_copy s m args below meth c D aC B lo hi 3 (MQ below (QV D aC B lo hi Q) args s 0 0 (AB B lo hi)) σ 0 [(0, .ref (B + o)), (1, .ref (B + q1))] []
  refine v_aload_n C 0 dX7_copy_0 rfl rfl ?_
  refine v_aload_n C 1 dX7_copy_1 rfl rfl ?_
  refine gf7_prime C p1 w151 dX7_copy_2 ?_
  refine pf7_prime C po (hR0 q1 0) w151 dX7_copy_5 ?_
  refine v_nameS (fun σ1 eσ1 => ?_)
  have h := h σ1 eσ1
  refine v_R (fun hRσ1 => ?_)
  refine v_aload_n C 0 dX7_copy_8 rfl rfl ?_
  refine gf7_modulus C po w157 dX7_copy_9 ?_
  refine v_aload_n C 1 dX7_copy_12 rfl rfl ?_
  refine gf7_modulus C p1 w157 dX7_copy_13 ?_
  refine v_callv (i := o + 1) (As := [.ref (B + (q1 + 1))]) (rest := []) C (s_X4_copy (PO_mod po) (PO_mod p1) h) w147 wy_X4_copy ⟨rfl, rfl⟩ hd_X4_copy ⟨Nat.le_of_ble_eq_true rfl, Nat.le_of_ble_eq_true rfl⟩ (PO.lo (PO_mod po)) (PO.hi (PO_mod po)) (cel_of ((PO_mod po)).1) rfl rfl rfl (Nat.le_of_ble_eq_true rfl) dX7_copy_16 (fun σ2 h => ?_)
  refine v_R (fun hRσ2 => ?_)
  refine v_iconst C dX7_copy_19 ?_
  refine v_istore_n (lv' := [(2, .int (iI 0)), (0, .ref (B + o)), (1, .ref (B + q1))]) C dX7_copy_20 rfl (by decide) rfl ?_
  obtain ⟨I28, ⟨n29, hnn29⟩, hII28⟩ := h
  have key7 : ∀ (n : Nat) (x3 : Int) (σ4 : SG), I28 n x3 σ4 → inR x3 → V p l e rm_X7_copy s m args below meth c D aC B lo hi 3 (MQ below (QV D aC B lo hi Q) args s 0 0 (AB B lo hi)) σ4 21 [(2, .int (iI x3)), (0, .ref (B + o)), (1, .ref (B + q1))] [] := by
    intro n
    induction n using Nat.strongRecOn with
    | ind n ih6 =>
      intro x3 σ4 hn rx3
      have h := hII28 n x3 σ4 hn
      refine v_R (fun hRσ4 => ?_)
      refine v_iload_n C 0 dX7_copy_21 rfl rfl ?_
      refine v_bipush C dX7_copy_22 (by decide) ?_
      refine v_icmp_ge C rx3 (by decide) 48 dX7_copy_24 (by decide) (fun c27 => ?_) (fun c27 => ?_)
      · have h := h.1 c27
        refine v_iconst C dX7_copy_48 ?_
        refine v_istore_n (lv' := [(2, .int (iI 0)), (0, .ref (B + o)), (1, .ref (B + q1))]) C dX7_copy_49 rfl (by decide) rfl ?_
        obtain ⟨I21, ⟨n22, hnn22⟩, hII21⟩ := h
        have key12 : ∀ (n : Nat) (x8 : Int) (σ9 : SG), I21 n x8 σ9 → inR x8 → V p l e rm_X7_copy s m args below meth c D aC B lo hi 3 (MQ below (QV D aC B lo hi Q) args s 0 0 (AB B lo hi)) σ9 50 [(2, .int (iI x8)), (0, .ref (B + o)), (1, .ref (B + q1))] [] := by
          intro n
          induction n using Nat.strongRecOn with
          | ind n ih11 =>
            intro x8 σ9 hn rx8
            have h := hII21 n x8 σ9 hn
            refine v_R (fun hRσ9 => ?_)
            refine v_iload_n C 0 dX7_copy_50 rfl rfl ?_
            refine v_bipush C dX7_copy_51 (by decide) ?_
            refine v_icmp_ge C rx8 (by decide) 77 dX7_copy_53 (by decide) (fun c20 => ?_) (fun c20 => ?_)
            · have h := h.1 c20
              refine v_aload_n C 1 dX7_copy_77 rfl rfl ?_
              refine v_aload_n C 2 dX7_copy_78 rfl rfl ?_
              refine gf7_branchCount C p1 w168 dX7_copy_79 ?_
              refine pf7_branchCount C po (hRσ9 q1 4) w168 dX7_copy_82 ?_
              refine v_nameS (fun σ13 eσ13 => ?_)
              have h := h σ13 eσ13
              refine v_R (fun hRσ13 => ?_)
              exact v_vret C h dX7_copy_85
            · have h := h.2 c20
              refine v_aload_n C 1 dX7_copy_56 rfl rfl ?_
              refine gf7_branches C po w164 dX7_copy_57 ?_
              refine v_iload_n C 0 dX7_copy_60 rfl rfl ?_
              have k14 := h.1
              have h := h.2
              have k15 := h.1
              have h := h.2
              refine v_aaldB C po rx8 k14 dX7_copy_61 ?_
              refine v_aload_n C 2 dX7_copy_62 rfl rfl ?_
              refine gf7_branches C p1 w164 dX7_copy_63 ?_
              refine v_iload_n C 0 dX7_copy_66 rfl rfl ?_
              have k16 := h.1
              have h := h.2
              have k17 := h.1
              have h := h.2
              refine v_aaldB C p1 rx8 k16 dX7_copy_67 ?_
              refine v_callv (i := (σ9 (o + 16) x8.toNat).toNat) (As := [.ref (B + ((σ9 (q1 + 16) x8.toNat).toNat))]) (rest := []) C (s_X4_copy (PO_br po k15) (PO_br p1 k17) h) w147 wy_X4_copy ⟨rfl, rfl⟩ hd_X4_copy ⟨Nat.le_of_ble_eq_true rfl, Nat.le_of_ble_eq_true rfl⟩ (PO.lo (PO_br po k15)) (PO.hi (PO_br po k15)) (cel_of ((PO_br po k15)).1) rfl rfl rfl (Nat.le_of_ble_eq_true rfl) dX7_copy_68 (fun σ18 h => ?_)
              refine v_R (fun hRσ18 => ?_)
              have k19 := h.1
              have h := h.2
              refine v_iinc (lv' := [(2, .int (iI (x8 + 1))), (0, .ref (B + o)), (1, .ref (B + q1))]) C 0 dX7_copy_71 rfl (by decide) rfl ?_
              refine v_goto C 50 dX7_copy_74 (by decide) ?_
              obtain ⟨m9, hm9, h⟩ := h
              exact ih11 m9 hm9 (x8 + 1) σ18 h k19
        exact key12 n22 0 σ4 hnn22 (by decide)
      · have h := h.2 c27
        refine v_aload_n C 1 dX7_copy_27 rfl rfl ?_
        refine gf7_registers C po w161 dX7_copy_28 ?_
        refine v_iload_n C 0 dX7_copy_31 rfl rfl ?_
        have k23 := h.1
        have h := h.2
        refine v_aaldR C po rx3 k23 dX7_copy_32 ?_
        refine v_aload_n C 2 dX7_copy_33 rfl rfl ?_
        refine gf7_registers C p1 w161 dX7_copy_34 ?_
        refine v_iload_n C 0 dX7_copy_37 rfl rfl ?_
        have k24 := h.1
        have h := h.2
        refine v_aaldR C p1 rx3 k24 dX7_copy_38 ?_
        refine v_callv (i := o + 3 + 1 + 2 * x3.toNat) (As := [.ref (B + (q1 + 3 + 1 + 2 * x3.toNat))]) (rest := []) C (s_X4_copy (PO_reg po (k23).1 (k23).2) (PO_reg p1 (k24).1 (k24).2) h) w147 wy_X4_copy ⟨rfl, rfl⟩ hd_X4_copy ⟨Nat.le_of_ble_eq_true rfl, Nat.le_of_ble_eq_true rfl⟩ (PO.lo (PO_reg po (k23).1 (k23).2)) (PO.hi (PO_reg po (k23).1 (k23).2)) (cel_of ((PO_reg po (k23).1 (k23).2)).1) rfl rfl rfl (Nat.le_of_ble_eq_true rfl) dX7_copy_39 (fun σ25 h => ?_)
        refine v_R (fun hRσ25 => ?_)
        have k26 := h.1
        have h := h.2
        refine v_iinc (lv' := [(2, .int (iI (x3 + 1))), (0, .ref (B + o)), (1, .ref (B + q1))]) C 0 dX7_copy_42 rfl (by decide) rfl ?_
        refine v_goto C 21 dX7_copy_45 (by decide) ?_
        obtain ⟨m9, hm9, h⟩ := h
        exact ih6 m9 hm9 (x3 + 1) σ25 h k26
  exact key7 n29 0 σ2 hnn29 (by decide)
-- SplitTowers$State.becomeOneBranch()V
def wp_X7_becomeOneBranch (σ : SG) (o : Nat) (Q : SG → Prop) : Prop :=
  (∀ σ1 : SG, σ1 = ug σ o 4 0 → wp_X7_addBranch σ1 o (o + 1) (fun (σ2 : SG) => Q σ2))
def rm_X7_becomeOneBranch : Room := { frames := 2, cells := 0, slots := 0, locals := 43 }
theorem wy_X7_becomeOneBranch : Cond.instanceMethod yX7_becomeOneBranch ∈ WS ∧ Cond.selects "SplitTowers$State" yX7_becomeOneBranch yX7_becomeOneBranch ∈ WS ∧ Cond.initialized "SplitTowers$State" ∈ WS ∧ Cond.code yX7_becomeOneBranch prog_9_method_10_code 1 none ∈ WS := ⟨w141, w1, w69, w142⟩
theorem hd_X7_becomeOneBranch : yX7_becomeOneBranch.cls = "SplitTowers$State" ∧ yX7_becomeOneBranch.cls ≠ "java/lang/invoke/MethodHandle" ∧ yX7_becomeOneBranch.cls ≠ "java/lang/invoke/VarHandle" ∧ (parseMethodDescriptor yX7_becomeOneBranch.desc).map (fun d => d.parameters.length) = some 0 := by decide +kernel
set_option maxHeartbeats 4000000 in
set_option maxRecDepth 100000 in
theorem s_X7_becomeOneBranch {l : Launch} {D : va_G} {aC : Nat → ClassId} {B lo hi : Nat} {σ : SG} {o : Nat} {Q : SG → Prop} (po : SO lo hi o) (h : wp_X7_becomeOneBranch σ o Q) : Met l yX7_becomeOneBranch (Cond.code yX7_becomeOneBranch prog_9_method_10_code 1 none :: WS) rm_X7_becomeOneBranch (va_Pc [.ref (B + o)] (WP D aC B lo hi σ)) (QV D aC B lo hi Q) 0 0 (AB B lo hi) := by
  refine met_of (by decide +kernel) (by decide +kernel : yX7_becomeOneBranch.cls = "SplitTowers$State") (Nat.le_of_ble_eq_true rfl) ?_
  intro p e s m args below meth c C
  unfold wp_X7_becomeOneBranch at h
  refine v_R (fun hR0 => ?_)
  show V p l e rm_X7_becomeOneBranch s m args below meth c D aC B lo hi 1 (MQ below (QV D aC B lo hi Q) args s 0 0 (AB B lo hi)) σ 0 [(0, .ref (B + o))] []
  refine v_aload_n C 0 dX7_becomeOneBranch_0 rfl rfl ?_
  refine v_iconst C dX7_becomeOneBranch_1 ?_
  refine pf7_branchCount C po (by decide) w168 dX7_becomeOneBranch_2 ?_
  refine v_nameS (fun σ1 eσ1 => ?_)
  have h := h σ1 eσ1
  refine v_R (fun hRσ1 => ?_)
  refine v_aload_n C 0 dX7_becomeOneBranch_5 rfl rfl ?_
  refine v_aload_n C 0 dX7_becomeOneBranch_6 rfl rfl ?_
  refine gf7_modulus C po w157 dX7_becomeOneBranch_7 ?_
  refine v_callv (i := o) (As := [.ref (B + (o + 1))]) (rest := []) C (s_X7_addBranch po (PO_mod po) h) w143 wy_X7_addBranch ⟨rfl, rfl⟩ hd_X7_addBranch ⟨Nat.le_of_ble_eq_true rfl, Nat.le_of_ble_eq_true rfl⟩ (SO.lo po) (SO.hi po) (cel_of (po).1) rfl rfl rfl (Nat.le_of_ble_eq_true rfl) dX7_becomeOneBranch_10 (fun σ2 h => ?_)
  refine v_R (fun hRσ2 => ?_)
  exact v_vret C h dX7_becomeOneBranch_13
-- SplitTowers$State.emptyRegisters()I
def wp_X7_emptyRegisters (σ : SG) (o : Nat) (Q : Int → SG → Prop) : Prop :=
  Lp2 (fun (rec4 : Int → Int → SG → Prop) (x1 : Int) (x2 : Int) (σ3 : SG) => ((6 ≤ x1 → Q x2 σ3) ∧ (¬ 6 ≤ x1 → ((0 ≤ x1 ∧ x1 < 6) ∧ ((0 ≤ (σ3 (o + 3 + 1 + 2 * x1.toNat) 1) → (inR (x1 + 1) ∧ rec4 (x1 + 1) x2 σ3)) ∧ (¬ 0 ≤ (σ3 (o + 3 + 1 + 2 * x1.toNat) 1) → (inR (x2 + 1) ∧ (inR (x1 + 1) ∧ rec4 (x1 + 1) (x2 + 1) σ3)))))))) 0 0 σ
def rm_X7_emptyRegisters : Room := { frames := 0, cells := 0, slots := 0, locals := 0 }
theorem wy_X7_emptyRegisters : Cond.instanceMethod yX7_emptyRegisters ∈ WS ∧ Cond.selects "SplitTowers$State" yX7_emptyRegisters yX7_emptyRegisters ∈ WS ∧ Cond.initialized "SplitTowers$State" ∈ WS ∧ Cond.code yX7_emptyRegisters prog_9_method_9_code 3 (some .int) ∈ WS := ⟨w864, w865, w69, w866⟩
theorem hd_X7_emptyRegisters : yX7_emptyRegisters.cls = "SplitTowers$State" ∧ yX7_emptyRegisters.cls ≠ "java/lang/invoke/MethodHandle" ∧ yX7_emptyRegisters.cls ≠ "java/lang/invoke/VarHandle" ∧ (parseMethodDescriptor yX7_emptyRegisters.desc).map (fun d => d.parameters.length) = some 0 := by decide +kernel
set_option maxHeartbeats 4000000 in
set_option maxRecDepth 100000 in
theorem s_X7_emptyRegisters {l : Launch} {D : va_G} {aC : Nat → ClassId} {B lo hi : Nat} {σ : SG} {o : Nat} {Q : Int → SG → Prop} (po : SO lo hi o) (h : wp_X7_emptyRegisters σ o Q) : Met l yX7_emptyRegisters (Cond.code yX7_emptyRegisters prog_9_method_9_code 3 (some .int) :: WS) rm_X7_emptyRegisters (va_Pc [.ref (B + o)] (WP D aC B lo hi σ)) (QI D aC B lo hi Q) 0 0 (AB B lo hi) := by
  refine met_of (by decide +kernel) (by decide +kernel : yX7_emptyRegisters.cls = "SplitTowers$State") (Nat.le_of_ble_eq_true rfl) ?_
  intro p e s m args below meth c C
  unfold wp_X7_emptyRegisters at h
  refine v_R (fun hR0 => ?_)
  show V p l e rm_X7_emptyRegisters s m args below meth c D aC B lo hi 3 (MQ below (QI D aC B lo hi Q) args s 0 0 (AB B lo hi)) σ 0 [(0, .ref (B + o))] []
  refine v_iconst C dX7_emptyRegisters_0 ?_
  refine v_istore_n (lv' := [(1, .int (iI 0)), (0, .ref (B + o))]) C dX7_emptyRegisters_1 rfl (by decide) rfl ?_
  refine v_iconst C dX7_emptyRegisters_2 ?_
  refine v_istore_n (lv' := [(2, .int (iI 0)), (1, .int (iI 0)), (0, .ref (B + o))]) C dX7_emptyRegisters_3 rfl (by decide) rfl ?_
  obtain ⟨I13, ⟨n14, hnn14⟩, hII13⟩ := h
  have key6 : ∀ (n : Nat) (x1 : Int) (x2 : Int) (σ3 : SG), I13 n x1 x2 σ3 → inR x1 → inR x2 → V p l e rm_X7_emptyRegisters s m args below meth c D aC B lo hi 3 (MQ below (QI D aC B lo hi Q) args s 0 0 (AB B lo hi)) σ3 4 [(2, .int (iI x1)), (1, .int (iI x2)), (0, .ref (B + o))] [] := by
    intro n
    induction n using Nat.strongRecOn with
    | ind n ih5 =>
      intro x1 x2 σ3 hn rx1 rx2
      have h := hII13 n x1 x2 σ3 hn
      refine v_R (fun hRσ3 => ?_)
      refine v_iload_n C 0 dX7_emptyRegisters_4 rfl rfl ?_
      refine v_bipush C dX7_emptyRegisters_5 (by decide) ?_
      refine v_icmp_ge C rx1 (by decide) 31 dX7_emptyRegisters_7 (by decide) (fun c12 => ?_) (fun c12 => ?_)
      · have h := h.1 c12
        refine v_iload_n C 1 dX7_emptyRegisters_31 rfl rfl ?_
        exact v_iret C rx2 h dX7_emptyRegisters_32
      · have h := h.2 c12
        refine v_aload_n C 2 dX7_emptyRegisters_10 rfl rfl ?_
        refine gf7_registers C po w161 dX7_emptyRegisters_11 ?_
        refine v_iload_n C 0 dX7_emptyRegisters_14 rfl rfl ?_
        have k7 := h.1
        have h := h.2
        refine v_aaldR C po rx1 k7 dX7_emptyRegisters_15 ?_
        refine gf4_degree C (PO_reg po (k7).1 (k7).2) w106 dX7_emptyRegisters_16 ?_
        refine v_if_ge C (hRσ3 (o + 3 + 1 + 2 * x1.toNat) 1) 25 dX7_emptyRegisters_19 (by decide) (fun c11 => ?_) (fun c11 => ?_)
        · have h := h.1 c11
          have k8 := h.1
          have h := h.2
          refine v_iinc (lv' := [(2, .int (iI (x1 + 1))), (1, .int (iI x2)), (0, .ref (B + o))]) C 0 dX7_emptyRegisters_25 rfl (by decide) rfl ?_
          refine v_goto C 4 dX7_emptyRegisters_28 (by decide) ?_
          obtain ⟨m9, hm9, h⟩ := h
          exact ih5 m9 hm9 (x1 + 1) x2 σ3 h k8 rx2
        · have h := h.2 c11
          have k9 := h.1
          have h := h.2
          refine v_iinc (lv' := [(1, .int (iI (x2 + 1))), (2, .int (iI x1)), (0, .ref (B + o))]) C 1 dX7_emptyRegisters_22 rfl (by decide) rfl ?_
          have k10 := h.1
          have h := h.2
          refine v_iinc (lv' := [(2, .int (iI (x1 + 1))), (1, .int (iI (x2 + 1))), (0, .ref (B + o))]) C 1 dX7_emptyRegisters_25 rfl (by decide) rfl ?_
          refine v_goto C 4 dX7_emptyRegisters_28 (by decide) ?_
          obtain ⟨m9, hm9, h⟩ := h
          exact ih5 m9 hm9 (x1 + 1) (x2 + 1) σ3 h k10 k9
  exact key6 n14 0 0 σ hnn14 (by decide) (by decide)
-- SplitTowers$State.greatestBranchDegree()I
def wp_X7_greatestBranchDegree (σ : SG) (o : Nat) (Q : Int → SG → Prop) : Prop :=
  Lp2 (fun (rec4 : Int → Int → SG → Prop) (x1 : Int) (x2 : Int) (σ3 : SG) => (((σ3 o 4) ≤ x1 → Q x2 σ3) ∧ (¬ (σ3 o 4) ≤ x1 → ((0 ≤ x1 ∧ x1 < 6) ∧ BO o ((σ3 (o + 16) x1.toNat).toNat) ∧ (∀ v9 : Int, v9 = (imax x2 (σ3 ((σ3 (o + 16) x1.toNat).toNat) 1)) → (inR (x1 + 1) ∧ rec4 (x1 + 1) v9 σ3)))))) 0 0 σ
def rm_X7_greatestBranchDegree : Room := { frames := 1, cells := 0, slots := 0, locals := 21 }
theorem wy_X7_greatestBranchDegree : Cond.instanceMethod yX7_greatestBranchDegree ∈ WS ∧ Cond.selects "SplitTowers$State" yX7_greatestBranchDegree yX7_greatestBranchDegree ∈ WS ∧ Cond.initialized "SplitTowers$State" ∈ WS ∧ Cond.code yX7_greatestBranchDegree prog_9_method_8_code 3 (some .int) ∈ WS := ⟨w859, w860, w69, w861⟩
theorem hd_X7_greatestBranchDegree : yX7_greatestBranchDegree.cls = "SplitTowers$State" ∧ yX7_greatestBranchDegree.cls ≠ "java/lang/invoke/MethodHandle" ∧ yX7_greatestBranchDegree.cls ≠ "java/lang/invoke/VarHandle" ∧ (parseMethodDescriptor yX7_greatestBranchDegree.desc).map (fun d => d.parameters.length) = some 0 := by decide +kernel
set_option maxHeartbeats 4000000 in
set_option maxRecDepth 100000 in
theorem s_X7_greatestBranchDegree {l : Launch} {D : va_G} {aC : Nat → ClassId} {B lo hi : Nat} {σ : SG} {o : Nat} {Q : Int → SG → Prop} (po : SO lo hi o) (h : wp_X7_greatestBranchDegree σ o Q) : Met l yX7_greatestBranchDegree (Cond.code yX7_greatestBranchDegree prog_9_method_8_code 3 (some .int) :: WS) rm_X7_greatestBranchDegree (va_Pc [.ref (B + o)] (WP D aC B lo hi σ)) (QI D aC B lo hi Q) 0 0 (AB B lo hi) := by
  refine met_of (by decide +kernel) (by decide +kernel : yX7_greatestBranchDegree.cls = "SplitTowers$State") (Nat.le_of_ble_eq_true rfl) ?_
  intro p e s m args below meth c C
  unfold wp_X7_greatestBranchDegree at h
  refine v_R (fun hR0 => ?_)
  show V p l e rm_X7_greatestBranchDegree s m args below meth c D aC B lo hi 3 (MQ below (QI D aC B lo hi Q) args s 0 0 (AB B lo hi)) σ 0 [(0, .ref (B + o))] []
  refine v_iconst C dX7_greatestBranchDegree_0 ?_
  refine v_istore_n (lv' := [(1, .int (iI 0)), (0, .ref (B + o))]) C dX7_greatestBranchDegree_1 rfl (by decide) rfl ?_
  refine v_iconst C dX7_greatestBranchDegree_2 ?_
  refine v_istore_n (lv' := [(2, .int (iI 0)), (1, .int (iI 0)), (0, .ref (B + o))]) C dX7_greatestBranchDegree_3 rfl (by decide) rfl ?_
  obtain ⟨I12, ⟨n13, hnn13⟩, hII12⟩ := h
  have key6 : ∀ (n : Nat) (x1 : Int) (x2 : Int) (σ3 : SG), I12 n x1 x2 σ3 → inR x1 → inR x2 → V p l e rm_X7_greatestBranchDegree s m args below meth c D aC B lo hi 3 (MQ below (QI D aC B lo hi Q) args s 0 0 (AB B lo hi)) σ3 4 [(2, .int (iI x1)), (1, .int (iI x2)), (0, .ref (B + o))] [] := by
    intro n
    induction n using Nat.strongRecOn with
    | ind n ih5 =>
      intro x1 x2 σ3 hn rx1 rx2
      have h := hII12 n x1 x2 σ3 hn
      refine v_R (fun hRσ3 => ?_)
      refine v_iload_n C 0 dX7_greatestBranchDegree_4 rfl rfl ?_
      refine v_aload_n C 2 dX7_greatestBranchDegree_5 rfl rfl ?_
      refine gf7_branchCount C po w168 dX7_greatestBranchDegree_6 ?_
      refine v_icmp_ge C rx1 (hRσ3 o 4) 32 dX7_greatestBranchDegree_9 (by decide) (fun c11 => ?_) (fun c11 => ?_)
      · have h := h.1 c11
        refine v_iload_n C 1 dX7_greatestBranchDegree_32 rfl rfl ?_
        exact v_iret C rx2 h dX7_greatestBranchDegree_33
      · have h := h.2 c11
        refine v_iload_n C 1 dX7_greatestBranchDegree_12 rfl rfl ?_
        refine v_aload_n C 2 dX7_greatestBranchDegree_13 rfl rfl ?_
        refine gf7_branches C po w164 dX7_greatestBranchDegree_14 ?_
        refine v_iload_n C 0 dX7_greatestBranchDegree_17 rfl rfl ?_
        have k7 := h.1
        have h := h.2
        have k8 := h.1
        have h := h.2
        refine v_aaldB C po rx1 k7 dX7_greatestBranchDegree_18 ?_
        refine gf4_degree C (PO_br po k8) w106 dX7_greatestBranchDegree_19 ?_
        refine v_max C rx2 (hRσ3 ((σ3 (o + 16) x1.toNat).toNat) 1) w862 wy_max (Nat.le_of_ble_eq_true rfl) (Nat.le_of_ble_eq_true rfl) dX7_greatestBranchDegree_22 ?_
        refine v_name (fun v9 ev9 => ?_)
        have h := h v9 ev9
        have rv9 : inR v9 := by rw [ev9]; exact (inR_imax rx2 (hRσ3 ((σ3 (o + 16) x1.toNat).toNat) 1))
        refine v_istore_n (lv' := [(1, .int (iI v9)), (2, .int (iI x1)), (0, .ref (B + o))]) C dX7_greatestBranchDegree_25 rfl (by decide) rfl ?_
        have k10 := h.1
        have h := h.2
        refine v_iinc (lv' := [(2, .int (iI (x1 + 1))), (1, .int (iI v9)), (0, .ref (B + o))]) C 1 dX7_greatestBranchDegree_26 rfl (by decide) rfl ?_
        refine v_goto C 4 dX7_greatestBranchDegree_29 (by decide) ?_
        obtain ⟨m9, hm9, h⟩ := h
        exact ih5 m9 hm9 (x1 + 1) v9 σ3 h k10 rv9
  exact key6 n13 0 0 σ hnn13 (by decide) (by decide)
-- SplitTowers$State.start(I)V
def wp_X7_start (σ : SG) (o : Nat) (a1 : Int) (Q : SG → Prop) : Prop :=
  (∀ σ1 : SG, σ1 = ug σ o 0 a1 → wp_X4_becomeVariable σ1 (o + 1) (fun (σ2 : SG) => Lp1 (fun (rec5 : Int → SG → Prop) (x3 : Int) (σ4 : SG) => ((6 ≤ x3 → wp_X7_becomeOneBranch σ4 o (fun (σ8 : SG) => Q σ8)) ∧ (¬ 6 ≤ x3 → ((0 ≤ x3 ∧ x3 < 6) ∧ wp_X4_clear σ4 (o + 3 + 1 + 2 * x3.toNat) (fun (σ10 : SG) => (inR (x3 + 1) ∧ rec5 (x3 + 1) σ10)))))) 0 σ2))
def rm_X7_start : Room := { frames := 3, cells := 0, slots := 0, locals := 63 }
theorem wy_X7_start : Cond.instanceMethod yX7_start ∈ WS ∧ Cond.selects "SplitTowers$State" yX7_start yX7_start ∈ WS ∧ Cond.initialized "SplitTowers$State" ∈ WS ∧ Cond.code yX7_start prog_9_method_2_code 3 none ∈ WS := ⟨w116, w117, w69, w118⟩
theorem hd_X7_start : yX7_start.cls = "SplitTowers$State" ∧ yX7_start.cls ≠ "java/lang/invoke/MethodHandle" ∧ yX7_start.cls ≠ "java/lang/invoke/VarHandle" ∧ (parseMethodDescriptor yX7_start.desc).map (fun d => d.parameters.length) = some 1 := by decide +kernel
set_option maxHeartbeats 4000000 in
set_option maxRecDepth 100000 in
theorem s_X7_start {l : Launch} {D : va_G} {aC : Nat → ClassId} {B lo hi : Nat} {σ : SG} {o : Nat} {a1 : Int} {Q : SG → Prop} (po : SO lo hi o) (r1 : inR a1) (h : wp_X7_start σ o a1 Q) : Met l yX7_start (Cond.code yX7_start prog_9_method_2_code 3 none :: WS) rm_X7_start (va_Pc [.ref (B + o), .int (iI a1)] (WP D aC B lo hi σ)) (QV D aC B lo hi Q) 0 0 (AB B lo hi) := by
  refine met_of (by decide +kernel) (by decide +kernel : yX7_start.cls = "SplitTowers$State") (Nat.le_of_ble_eq_true rfl) ?_
  intro p e s m args below meth c C
  unfold wp_X7_start at h
  refine v_R (fun hR0 => ?_)
  show V p l e rm_X7_start s m args below meth c D aC B lo hi 3 (MQ below (QV D aC B lo hi Q) args s 0 0 (AB B lo hi)) σ 0 [(0, .ref (B + o)), (1, .int (iI a1))] []
  refine v_aload_n C 0 dX7_start_0 rfl rfl ?_
  refine v_iload_n C 1 dX7_start_1 rfl rfl ?_
  refine pf7_prime C po r1 w151 dX7_start_2 ?_
  refine v_nameS (fun σ1 eσ1 => ?_)
  have h := h σ1 eσ1
  refine v_R (fun hRσ1 => ?_)
  refine v_aload_n C 0 dX7_start_5 rfl rfl ?_
  refine gf7_modulus C po w157 dX7_start_6 ?_
  refine v_callv (i := o + 1) (As := []) (rest := []) C (s_X4_becomeVariable (PO_mod po) h) w119 wy_X4_becomeVariable ⟨rfl, rfl⟩ hd_X4_becomeVariable ⟨Nat.le_of_ble_eq_true rfl, Nat.le_of_ble_eq_true rfl⟩ (PO.lo (PO_mod po)) (PO.hi (PO_mod po)) (cel_of ((PO_mod po)).1) rfl rfl rfl (Nat.le_of_ble_eq_true rfl) dX7_start_9 (fun σ2 h => ?_)
  refine v_R (fun hRσ2 => ?_)
  refine v_iconst C dX7_start_12 ?_
  refine v_istore_n (lv' := [(2, .int (iI 0)), (0, .ref (B + o)), (1, .int (iI a1))]) C dX7_start_13 rfl (by decide) rfl ?_
  obtain ⟨I13, ⟨n14, hnn14⟩, hII13⟩ := h
  have key7 : ∀ (n : Nat) (x3 : Int) (σ4 : SG), I13 n x3 σ4 → inR x3 → V p l e rm_X7_start s m args below meth c D aC B lo hi 3 (MQ below (QV D aC B lo hi Q) args s 0 0 (AB B lo hi)) σ4 14 [(2, .int (iI x3)), (0, .ref (B + o))] [] := by
    intro n
    induction n using Nat.strongRecOn with
    | ind n ih6 =>
      intro x3 σ4 hn rx3
      have h := hII13 n x3 σ4 hn
      refine v_R (fun hRσ4 => ?_)
      refine v_iload_n C 0 dX7_start_14 rfl rfl ?_
      refine v_bipush C dX7_start_15 (by decide) ?_
      refine v_icmp_ge C rx3 (by decide) 35 dX7_start_17 (by decide) (fun c12 => ?_) (fun c12 => ?_)
      · have h := h.1 c12
        refine v_aload_n C 1 dX7_start_35 rfl rfl ?_
        refine v_callv (i := o) (As := []) (rest := []) C (s_X7_becomeOneBranch po h) w139 wy_X7_becomeOneBranch ⟨rfl, rfl⟩ hd_X7_becomeOneBranch ⟨Nat.le_of_ble_eq_true rfl, Nat.le_of_ble_eq_true rfl⟩ (SO.lo po) (SO.hi po) (cel_of (po).1) rfl rfl rfl (Nat.le_of_ble_eq_true rfl) dX7_start_36 (fun σ8 h => ?_)
        refine v_R (fun hRσ8 => ?_)
        exact v_vret C h dX7_start_39
      · have h := h.2 c12
        refine v_aload_n C 1 dX7_start_20 rfl rfl ?_
        refine gf7_registers C po w161 dX7_start_21 ?_
        refine v_iload_n C 0 dX7_start_24 rfl rfl ?_
        have k9 := h.1
        have h := h.2
        refine v_aaldR C po rx3 k9 dX7_start_25 ?_
        refine v_callv (i := o + 3 + 1 + 2 * x3.toNat) (As := []) (rest := []) C (s_X4_clear (PO_reg po (k9).1 (k9).2) h) w138 wy_X4_clear ⟨rfl, rfl⟩ hd_X4_clear ⟨Nat.le_of_ble_eq_true rfl, Nat.le_of_ble_eq_true rfl⟩ (PO.lo (PO_reg po (k9).1 (k9).2)) (PO.hi (PO_reg po (k9).1 (k9).2)) (cel_of ((PO_reg po (k9).1 (k9).2)).1) rfl rfl rfl (Nat.le_of_ble_eq_true rfl) dX7_start_26 (fun σ10 h => ?_)
        refine v_R (fun hRσ10 => ?_)
        have k11 := h.1
        have h := h.2
        refine v_iinc (lv' := [(2, .int (iI (x3 + 1))), (0, .ref (B + o))]) C 0 dX7_start_29 rfl (by decide) rfl ?_
        refine v_goto C 14 dX7_start_32 (by decide) ?_
        obtain ⟨m9, hm9, h⟩ := h
        exact ih6 m9 hm9 (x3 + 1) σ10 h k11
  refine v_sub [0, 1] rfl ?_
  exact key7 n14 0 σ2 hnn14 (by decide)
-- SplitTowers$State.takeModulus(LSplitTowers$Poly;)V
def wp_X7_takeModulus (σ : SG) (o : Nat) (q1 : Nat) (Q : SG → Prop) : Prop :=
  wp_X4_copy σ (o + 1) q1 (fun (σ1 : SG) => wp_X7_becomeOneBranch σ1 o (fun (σ2 : SG) => Q σ2))
def rm_X7_takeModulus : Room := { frames := 3, cells := 0, slots := 0, locals := 63 }
theorem wy_X7_takeModulus : Cond.instanceMethod yX7_takeModulus ∈ WS ∧ Cond.selects "SplitTowers$State" yX7_takeModulus yX7_takeModulus ∈ WS ∧ Cond.initialized "SplitTowers$State" ∈ WS ∧ Cond.code yX7_takeModulus prog_9_method_3_code 2 none ∈ WS := ⟨w524, w525, w69, w526⟩
theorem hd_X7_takeModulus : yX7_takeModulus.cls = "SplitTowers$State" ∧ yX7_takeModulus.cls ≠ "java/lang/invoke/MethodHandle" ∧ yX7_takeModulus.cls ≠ "java/lang/invoke/VarHandle" ∧ (parseMethodDescriptor yX7_takeModulus.desc).map (fun d => d.parameters.length) = some 1 := by decide +kernel
set_option maxHeartbeats 4000000 in
set_option maxRecDepth 100000 in
theorem s_X7_takeModulus {l : Launch} {D : va_G} {aC : Nat → ClassId} {B lo hi : Nat} {σ : SG} {o : Nat} {q1 : Nat} {Q : SG → Prop} (po : SO lo hi o) (p1 : PO lo hi q1) (h : wp_X7_takeModulus σ o q1 Q) : Met l yX7_takeModulus (Cond.code yX7_takeModulus prog_9_method_3_code 2 none :: WS) rm_X7_takeModulus (va_Pc [.ref (B + o), .ref (B + q1)] (WP D aC B lo hi σ)) (QV D aC B lo hi Q) 0 0 (AB B lo hi) := by
  refine met_of (by decide +kernel) (by decide +kernel : yX7_takeModulus.cls = "SplitTowers$State") (Nat.le_of_ble_eq_true rfl) ?_
  intro p e s m args below meth c C
  unfold wp_X7_takeModulus at h
  refine v_R (fun hR0 => ?_)
  show V p l e rm_X7_takeModulus s m args below meth c D aC B lo hi 2 (MQ below (QV D aC B lo hi Q) args s 0 0 (AB B lo hi)) σ 0 [(0, .ref (B + o)), (1, .ref (B + q1))] []
  refine v_aload_n C 0 dX7_takeModulus_0 rfl rfl ?_
  refine gf7_modulus C po w157 dX7_takeModulus_1 ?_
  refine v_aload_n C 1 dX7_takeModulus_4 rfl rfl ?_
  refine v_callv (i := o + 1) (As := [.ref (B + q1)]) (rest := []) C (s_X4_copy (PO_mod po) p1 h) w147 wy_X4_copy ⟨rfl, rfl⟩ hd_X4_copy ⟨Nat.le_of_ble_eq_true rfl, Nat.le_of_ble_eq_true rfl⟩ (PO.lo (PO_mod po)) (PO.hi (PO_mod po)) (cel_of ((PO_mod po)).1) rfl rfl rfl (Nat.le_of_ble_eq_true rfl) dX7_takeModulus_5 (fun σ1 h => ?_)
  refine v_R (fun hRσ1 => ?_)
  refine v_aload_n C 0 dX7_takeModulus_8 rfl rfl ?_
  refine v_callv (i := o) (As := []) (rest := []) C (s_X7_becomeOneBranch po h) w139 wy_X7_becomeOneBranch ⟨rfl, rfl⟩ hd_X7_becomeOneBranch ⟨Nat.le_of_ble_eq_true rfl, Nat.le_of_ble_eq_true rfl⟩ (SO.lo po) (SO.hi po) (cel_of (po).1) rfl rfl rfl (Nat.le_of_ble_eq_true rfl) dX7_takeModulus_9 (fun σ2 h => ?_)
  refine v_R (fun hRσ2 => ?_)
  exact v_vret C h dX7_takeModulus_12
