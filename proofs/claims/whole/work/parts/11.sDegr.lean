-- SplitTowers$Degrees.factorsOf(I)I
def wp_X1_factorsOf (σ : SG) (a1 : Int) (Q : Int → SG → Prop) : Prop :=
  ((a1 < 1 → Q 0 σ) ∧ (¬ a1 < 1 → ((a1 ≤ 6 → ((0 ≤ a1 ∧ a1 < 7) ∧ (a1 ≠ 0 ∧ inR (Int.tdiv (σ (101 + 1 + 2 * a1.toNat) 1) a1) ∧ Q (Int.tdiv (σ (101 + 1 + 2 * a1.toNat) 1) a1) σ))) ∧ (¬ a1 ≤ 6 → Q 0 σ))))
def rm_X1_factorsOf : Room := { frames := 0, cells := 0, slots := 0, locals := 0 }
theorem wy_X1_factorsOf : Cond.instanceMethod yX1_factorsOf ∈ WS ∧ Cond.selects "SplitTowers$Degrees" yX1_factorsOf yX1_factorsOf ∈ WS ∧ Cond.initialized "SplitTowers$Degrees" ∈ WS ∧ Cond.code yX1_factorsOf prog_3_method_3_code 2 (some .int) ∈ WS := ⟨w830, w831, w76, w832⟩
theorem hd_X1_factorsOf : yX1_factorsOf.cls = "SplitTowers$Degrees" ∧ yX1_factorsOf.cls ≠ "java/lang/invoke/MethodHandle" ∧ yX1_factorsOf.cls ≠ "java/lang/invoke/VarHandle" ∧ (parseMethodDescriptor yX1_factorsOf.desc).map (fun d => d.parameters.length) = some 1 := by decide +kernel
set_option maxHeartbeats 4000000 in
set_option maxRecDepth 100000 in
theorem s_X1_factorsOf {l : Launch} {D : va_G} {aC : Nat → ClassId} {B lo hi : Nat} {σ : SG} {a1 : Int} {Q : Int → SG → Prop} (hlo : lo ≤ 0) (hhi : 304 ≤ hi) (r1 : inR a1) (h : wp_X1_factorsOf σ a1 Q) : Met l yX1_factorsOf (Cond.code yX1_factorsOf prog_3_method_3_code 2 (some .int) :: WS) rm_X1_factorsOf (va_Pc [.ref (B + 100), .int (iI a1)] (WP D aC B lo hi σ)) (QI D aC B lo hi Q) 0 0 (AB B lo hi) := by
  refine met_of (by decide +kernel) (by decide +kernel : yX1_factorsOf.cls = "SplitTowers$Degrees") (Nat.le_of_ble_eq_true rfl) ?_
  intro p e s m args below meth c C
  unfold wp_X1_factorsOf at h
  refine v_R (fun hR0 => ?_)
  show V p l e rm_X1_factorsOf s m args below meth c D aC B lo hi 2 (MQ below (QI D aC B lo hi Q) args s 0 0 (AB B lo hi)) σ 0 [(0, .ref (B + 100)), (1, .int (iI a1))] []
  refine v_iload_n C 1 dX1_factorsOf_0 rfl rfl ?_
  refine v_iconst C dX1_factorsOf_1 ?_
  refine v_icmp_lt C r1 (by decide) 11 dX1_factorsOf_2 (by decide) (fun c5 => ?_) (fun c5 => ?_)
  · have h := h.1 c5
    refine v_iconst C dX1_factorsOf_11 ?_
    refine v_goto C 26 dX1_factorsOf_12 (by decide) ?_
    exact v_iret C (by decide) h dX1_factorsOf_26
  · have h := h.2 c5
    refine v_iload_n C 1 dX1_factorsOf_5 rfl rfl ?_
    refine v_bipush C dX1_factorsOf_6 (by decide) ?_
    refine v_icmp_le C r1 (by decide) 15 dX1_factorsOf_8 (by decide) (fun c4 => ?_) (fun c4 => ?_)
    · have h := h.1 c4
      refine v_aload_n C 0 dX1_factorsOf_15 rfl rfl ?_
      refine gf1_products C hlo hhi w320 dX1_factorsOf_16 ?_
      refine v_iload_n C 1 dX1_factorsOf_19 rfl rfl ?_
      have k1 := h.1
      have h := h.2
      refine v_aald (i := 101) (n := 7) (g := fun j => 101 + 1 + 2 * j) C 3 rfl (Nat.le_trans hlo (Nat.zero_le _)) (Nat.lt_of_lt_of_le (by decide) hhi) rfl r1 k1 dX1_factorsOf_20 ?_
      refine gf4_degree C (PO_full hlo hhi (pa101 _ (toNat_lt k1))) w103 dX1_factorsOf_21 ?_
      refine v_iload_n C 1 dX1_factorsOf_24 rfl rfl ?_
      have k2 := h.1
      have h := h.2
      have k3 := h.1
      have h := h.2
      refine v_idiv C (hR0 (101 + 1 + 2 * a1.toNat) 1) r1 k2 dX1_factorsOf_25 ?_
      exact v_iret C k3 h dX1_factorsOf_26
    · have h := h.2 c4
      refine v_iconst C dX1_factorsOf_11 ?_
      refine v_goto C 26 dX1_factorsOf_12 (by decide) ?_
      exact v_iret C (by decide) h dX1_factorsOf_26
-- SplitTowers$Degrees.allFactors()I
def wp_X1_allFactors (σ : SG)  (Q : Int → SG → Prop) : Prop :=
  Lp2 (fun (rec4 : Int → Int → SG → Prop) (x1 : Int) (x2 : Int) (σ3 : SG) => ((6 < x1 → Q x2 σ3) ∧ (¬ 6 < x1 → wp_X1_factorsOf σ3 x1 (fun (z8 : Int) (σ7 : SG) => (inR (x2 + z8) ∧ (∀ v10 : Int, v10 = x2 + z8 → (inR (x1 + 1) ∧ rec4 (x1 + 1) v10 σ7))))))) 1 0 σ
def rm_X1_allFactors : Room := { frames := 1, cells := 0, slots := 0, locals := 21 }
theorem wy_X1_allFactors : Cond.instanceMethod yX1_allFactors ∈ WS ∧ Cond.selects "SplitTowers$Degrees" yX1_allFactors yX1_allFactors ∈ WS ∧ Cond.initialized "SplitTowers$Degrees" ∈ WS ∧ Cond.code yX1_allFactors prog_3_method_4_code 3 (some .int) ∈ WS := ⟨w855, w856, w76, w857⟩
theorem hd_X1_allFactors : yX1_allFactors.cls = "SplitTowers$Degrees" ∧ yX1_allFactors.cls ≠ "java/lang/invoke/MethodHandle" ∧ yX1_allFactors.cls ≠ "java/lang/invoke/VarHandle" ∧ (parseMethodDescriptor yX1_allFactors.desc).map (fun d => d.parameters.length) = some 0 := by decide +kernel
set_option maxHeartbeats 4000000 in
set_option maxRecDepth 100000 in
theorem s_X1_allFactors {l : Launch} {D : va_G} {aC : Nat → ClassId} {B lo hi : Nat} {σ : SG}  {Q : Int → SG → Prop} (hlo : lo ≤ 0) (hhi : 304 ≤ hi) (h : wp_X1_allFactors σ  Q) : Met l yX1_allFactors (Cond.code yX1_allFactors prog_3_method_4_code 3 (some .int) :: WS) rm_X1_allFactors (va_Pc [.ref (B + 100)] (WP D aC B lo hi σ)) (QI D aC B lo hi Q) 0 0 (AB B lo hi) := by
  refine met_of (by decide +kernel) (by decide +kernel : yX1_allFactors.cls = "SplitTowers$Degrees") (Nat.le_of_ble_eq_true rfl) ?_
  intro p e s m args below meth c C
  unfold wp_X1_allFactors at h
  refine v_R (fun hR0 => ?_)
  show V p l e rm_X1_allFactors s m args below meth c D aC B lo hi 3 (MQ below (QI D aC B lo hi Q) args s 0 0 (AB B lo hi)) σ 0 [(0, .ref (B + 100))] []
  refine v_iconst C dX1_allFactors_0 ?_
  refine v_istore_n (lv' := [(1, .int (iI 0)), (0, .ref (B + 100))]) C dX1_allFactors_1 rfl (by decide) rfl ?_
  refine v_iconst C dX1_allFactors_2 ?_
  refine v_istore_n (lv' := [(2, .int (iI 1)), (1, .int (iI 0)), (0, .ref (B + 100))]) C dX1_allFactors_3 rfl (by decide) rfl ?_
  obtain ⟨I13, ⟨n14, hnn14⟩, hII13⟩ := h
  have key6 : ∀ (n : Nat) (x1 : Int) (x2 : Int) (σ3 : SG), I13 n x1 x2 σ3 → inR x1 → inR x2 → V p l e rm_X1_allFactors s m args below meth c D aC B lo hi 3 (MQ below (QI D aC B lo hi Q) args s 0 0 (AB B lo hi)) σ3 4 [(2, .int (iI x1)), (1, .int (iI x2)), (0, .ref (B + 100))] [] := by
    intro n
    induction n using Nat.strongRecOn with
    | ind n ih5 =>
      intro x1 x2 σ3 hn rx1 rx2
      have h := hII13 n x1 x2 σ3 hn
      refine v_R (fun hRσ3 => ?_)
      refine v_iload_n C 0 dX1_allFactors_4 rfl rfl ?_
      refine v_bipush C dX1_allFactors_5 (by decide) ?_
      refine v_icmp_gt C rx1 (by decide) 24 dX1_allFactors_7 (by decide) (fun c12 => ?_) (fun c12 => ?_)
      · have h := h.1 c12
        refine v_iload_n C 1 dX1_allFactors_24 rfl rfl ?_
        exact v_iret C rx2 h dX1_allFactors_25
      · have h := h.2 c12
        refine v_iload_n C 1 dX1_allFactors_10 rfl rfl ?_
        refine v_aload_n C 2 dX1_allFactors_11 rfl rfl ?_
        refine v_iload_n C 0 dX1_allFactors_12 rfl rfl ?_
        refine v_calli (i := 100) (As := [.int (iI x1)]) (rest := [.int (iI x2)]) C (s_X1_factorsOf hlo hhi rx1 h) w829 wy_X1_factorsOf ⟨rfl, rfl⟩ hd_X1_factorsOf ⟨Nat.le_of_ble_eq_true rfl, Nat.le_of_ble_eq_true rfl⟩ (Nat.le_trans hlo (Nat.zero_le _)) (Nat.lt_of_lt_of_le (by decide) hhi) rfl rfl rfl rfl (Nat.le_of_ble_eq_true rfl) dX1_allFactors_13 (fun z8 σ7 rz8 h => ?_)
        refine v_R (fun hRσ7 => ?_)
        have k9 := h.1
        have h := h.2
        refine v_iadd C dX1_allFactors_16 ?_
        refine v_name (fun v10 ev10 => ?_)
        have h := h v10 ev10
        have rv10 : inR v10 := by rw [ev10]; exact k9
        refine v_istore_n (lv' := [(1, .int (iI v10)), (2, .int (iI x1)), (0, .ref (B + 100))]) C dX1_allFactors_17 rfl (by decide) rfl ?_
        have k11 := h.1
        have h := h.2
        refine v_iinc (lv' := [(2, .int (iI (x1 + 1))), (1, .int (iI v10)), (0, .ref (B + 100))]) C 1 dX1_allFactors_18 rfl (by decide) rfl ?_
        refine v_goto C 4 dX1_allFactors_21 (by decide) ?_
        obtain ⟨m9, hm9, h⟩ := h
        exact ih5 m9 hm9 (x1 + 1) v10 σ7 h k11 rv10
  exact key6 n14 1 0 σ hnn14 (by decide) (by decide)
-- SplitTowers$Degrees.leastMultiple(II)I
def wp_X1_leastMultiple (σ : SG) (a1 : Int) (a2 : Int) (Q : Int → SG → Prop) : Prop :=
  Jn1 (fun (x1 : Int) (σ2 : SG) => ((x1 ≤ 0 → Q a1 σ2) ∧ (¬ x1 ≤ 0 → (x1 ≠ 0 ∧ inR (Int.tdiv a1 x1) ∧ (inR ((Int.tdiv a1 x1) * a2) ∧ Q ((Int.tdiv a1 x1) * a2) σ2))))) (fun J3 => Lp3 (fun (rec12 : Int → Int → Int → SG → Prop) (x8 : Int) (x9 : Int) (x10 : Int) (σ11 : SG) => ((64 ≤ x8 → J3 x10 σ11) ∧ (¬ 64 ≤ x8 → ((x9 ≤ 0 → J3 x10 σ11) ∧ (¬ x9 ≤ 0 → (x9 ≠ 0 ∧ (∀ v16 : Int, v16 = (Int.tmod x10 x9) → (inR (x8 + 1) ∧ rec12 (x8 + 1) v16 x9 σ11)))))))) 0 a2 a1 σ)
def rm_X1_leastMultiple : Room := { frames := 0, cells := 0, slots := 0, locals := 0 }
theorem wy_X1_leastMultiple : Cond.static yX1_leastMultiple ∈ WS ∧ Cond.initialized "SplitTowers$Degrees" ∈ WS ∧ Cond.code yX1_leastMultiple prog_3_method_6_code 6 (some .int) ∈ WS := ⟨w834, w76, w835⟩
theorem hd_X1_leastMultiple : yX1_leastMultiple.cls ≠ "java/lang/invoke/MethodHandle" ∧ yX1_leastMultiple.cls ≠ "java/lang/invoke/VarHandle" ∧ (parseMethodDescriptor yX1_leastMultiple.desc).map (fun d => d.parameters.length) = some 2 := by decide +kernel
set_option maxHeartbeats 4000000 in
set_option maxRecDepth 100000 in
theorem s_X1_leastMultiple {l : Launch} {D : va_G} {aC : Nat → ClassId} {B lo hi : Nat} {σ : SG} {a1 : Int} {a2 : Int} {Q : Int → SG → Prop} (hlo : lo ≤ 0) (hhi : 304 ≤ hi) (r1 : inR a1) (r2 : inR a2) (h : wp_X1_leastMultiple σ a1 a2 Q) : Met l yX1_leastMultiple (Cond.code yX1_leastMultiple prog_3_method_6_code 6 (some .int) :: WS) rm_X1_leastMultiple (va_Pc [.int (iI a1), .int (iI a2)] (WP D aC B lo hi σ)) (QI D aC B lo hi Q) 0 0 (AB B lo hi) := by
  refine met_of (by decide +kernel) (by decide +kernel : yX1_leastMultiple.cls = "SplitTowers$Degrees") (Nat.le_of_ble_eq_true rfl) ?_
  intro p e s m args below meth c C
  unfold wp_X1_leastMultiple at h
  refine v_R (fun hR0 => ?_)
  show V p l e rm_X1_leastMultiple s m args below meth c D aC B lo hi 6 (MQ below (QI D aC B lo hi Q) args s 0 0 (AB B lo hi)) σ 0 [(0, .int (iI a1)), (1, .int (iI a2))] []
  refine v_iload_n C 0 dX1_leastMultiple_0 rfl rfl ?_
  refine v_istore_n (lv' := [(2, .int (iI a1)), (0, .int (iI a1)), (1, .int (iI a2))]) C dX1_leastMultiple_1 rfl (by decide) rfl ?_
  refine v_iload_n C 2 dX1_leastMultiple_2 rfl rfl ?_
  refine v_istore_n (lv' := [(3, .int (iI a2)), (2, .int (iI a1)), (0, .int (iI a1)), (1, .int (iI a2))]) C dX1_leastMultiple_3 rfl (by decide) rfl ?_
  refine v_iconst C dX1_leastMultiple_4 ?_
  refine v_istore (lv' := [(4, .int (iI 0)), (3, .int (iI a2)), (2, .int (iI a1)), (0, .int (iI a1)), (1, .int (iI a2))]) C dX1_leastMultiple_5 (by decide) rfl ?_
  obtain ⟨J3, hJ3, h⟩ := h
  have kJ3 : ∀ (x1 : Int) (σ2 : SG), J3 x1 σ2 → inR x1 → V p l e rm_X1_leastMultiple s m args below meth c D aC B lo hi 6 (MQ below (QI D aC B lo hi Q) args s 0 0 (AB B lo hi)) σ2 34 [(2, .int (iI x1)), (0, .int (iI a1)), (1, .int (iI a2))] [] := by
    intro x1 σ2 hj rx1
    have h := hJ3 x1 σ2 hj
    refine v_R (fun hRσ2 => ?_)
    refine v_iload_n C 0 dX1_leastMultiple_34 rfl rfl ?_
    refine v_if_le C rx1 46 dX1_leastMultiple_35 (by decide) (fun c7 => ?_) (fun c7 => ?_)
    · have h := h.1 c7
      refine v_iload_n C 1 dX1_leastMultiple_46 rfl rfl ?_
      exact v_iret C r1 h dX1_leastMultiple_47
    · have h := h.2 c7
      refine v_iload_n C 1 dX1_leastMultiple_38 rfl rfl ?_
      refine v_iload_n C 0 dX1_leastMultiple_39 rfl rfl ?_
      have k4 := h.1
      have h := h.2
      have k5 := h.1
      have h := h.2
      refine v_idiv C r1 rx1 k4 dX1_leastMultiple_40 ?_
      refine v_iload_n C 2 dX1_leastMultiple_41 rfl rfl ?_
      have k6 := h.1
      have h := h.2
      refine v_imul C dX1_leastMultiple_42 ?_
      refine v_goto C 47 dX1_leastMultiple_43 (by decide) ?_
      exact v_iret C k6 h dX1_leastMultiple_47
  obtain ⟨I20, ⟨n21, hnn21⟩, hII20⟩ := h
  have key14 : ∀ (n : Nat) (x8 : Int) (x9 : Int) (x10 : Int) (σ11 : SG), I20 n x8 x9 x10 σ11 → inR x8 → inR x9 → inR x10 → V p l e rm_X1_leastMultiple s m args below meth c D aC B lo hi 6 (MQ below (QI D aC B lo hi Q) args s 0 0 (AB B lo hi)) σ11 7 [(4, .int (iI x8)), (3, .int (iI x9)), (2, .int (iI x10)), (0, .int (iI a1)), (1, .int (iI a2))] [] := by
    intro n
    induction n using Nat.strongRecOn with
    | ind n ih13 =>
      intro x8 x9 x10 σ11 hn rx8 rx9 rx10
      have h := hII20 n x8 x9 x10 σ11 hn
      refine v_R (fun hRσ11 => ?_)
      refine v_iload C 0 dX1_leastMultiple_7 rfl ?_
      refine v_bipush C dX1_leastMultiple_9 (by decide) ?_
      refine v_icmp_ge C rx8 (by decide) 34 dX1_leastMultiple_11 (by decide) (fun c19 => ?_) (fun c19 => ?_)
      · have h := h.1 c19
        refine v_sub [2, 3, 4] rfl ?_
        exact kJ3 x10 σ11 h rx10
      · have h := h.2 c19
        refine v_iload_n C 1 dX1_leastMultiple_14 rfl rfl ?_
        refine v_if_le C rx9 34 dX1_leastMultiple_15 (by decide) (fun c18 => ?_) (fun c18 => ?_)
        · have h := h.1 c18
          refine v_sub [2, 3, 4] rfl ?_
          exact kJ3 x10 σ11 h rx10
        · have h := h.2 c18
          refine v_iload_n C 2 dX1_leastMultiple_18 rfl rfl ?_
          refine v_iload_n C 1 dX1_leastMultiple_19 rfl rfl ?_
          have k15 := h.1
          have h := h.2
          refine v_irem C rx10 rx9 k15 dX1_leastMultiple_20 ?_
          refine v_name (fun v16 ev16 => ?_)
          have h := h v16 ev16
          have rv16 : inR v16 := by rw [ev16]; exact (inR_tmod rx10)
          refine v_istore (lv' := [(5, .int (iI v16)), (4, .int (iI x8)), (3, .int (iI x9)), (2, .int (iI x10)), (0, .int (iI a1)), (1, .int (iI a2))]) C dX1_leastMultiple_21 (by decide) rfl ?_
          refine v_iload_n C 2 dX1_leastMultiple_23 rfl rfl ?_
          refine v_istore_n (lv' := [(2, .int (iI x9)), (5, .int (iI v16)), (4, .int (iI x8)), (3, .int (iI x9)), (0, .int (iI a1)), (1, .int (iI a2))]) C dX1_leastMultiple_24 rfl (by decide) rfl ?_
          refine v_iload C 1 dX1_leastMultiple_25 rfl ?_
          refine v_istore_n (lv' := [(3, .int (iI v16)), (2, .int (iI x9)), (5, .int (iI v16)), (4, .int (iI x8)), (0, .int (iI a1)), (1, .int (iI a2))]) C dX1_leastMultiple_27 rfl (by decide) rfl ?_
          have k17 := h.1
          have h := h.2
          refine v_iinc (lv' := [(4, .int (iI (x8 + 1))), (3, .int (iI v16)), (2, .int (iI x9)), (5, .int (iI v16)), (0, .int (iI a1)), (1, .int (iI a2))]) C 3 dX1_leastMultiple_28 rfl (by decide) rfl ?_
          refine v_goto C 7 dX1_leastMultiple_31 (by decide) ?_
          obtain ⟨m9, hm9, h⟩ := h
          refine v_sub [0, 1, 2, 4, 5] rfl ?_
          exact ih13 m9 hm9 (x8 + 1) v16 x9 σ11 h k17 rv16 rx9
  exact key14 n21 0 a2 a1 σ hnn21 (by decide) r2 r1
-- SplitTowers$Degrees.commonExponent()I
def wp_X1_commonExponent (σ : SG)  (Q : Int → SG → Prop) : Prop :=
  Lp3 (fun (rec5 : Int → Int → Int → SG → Prop) (x1 : Int) (x2 : Int) (x3 : Int) (σ4 : SG) => ((6 < x1 → Q x3 σ4) ∧ (¬ 6 < x1 → (inR (x2 * (σ4 1 0)) ∧ (∀ v9 : Int, v9 = x2 * (σ4 1 0) → wp_X1_factorsOf σ4 x1 (fun (z11 : Int) (σ10 : SG) => ((z11 ≤ 0 → (inR (x1 + 1) ∧ rec5 (x1 + 1) v9 x3 σ10)) ∧ (¬ z11 ≤ 0 → (inR (v9 - 1) ∧ wp_X1_leastMultiple σ10 x3 (v9 - 1) (fun (z15 : Int) (σ14 : SG) => (inR (x1 + 1) ∧ rec5 (x1 + 1) v9 z15 σ14))))))))))) 1 1 1 σ
def rm_X1_commonExponent : Room := { frames := 1, cells := 0, slots := 0, locals := 25 }
theorem wy_X1_commonExponent : Cond.instanceMethod yX1_commonExponent ∈ WS ∧ Cond.selects "SplitTowers$Degrees" yX1_commonExponent yX1_commonExponent ∈ WS ∧ Cond.initialized "SplitTowers$Degrees" ∈ WS ∧ Cond.code yX1_commonExponent prog_3_method_5_code 4 (some .int) ∈ WS := ⟨w826, w827, w76, w828⟩
theorem hd_X1_commonExponent : yX1_commonExponent.cls = "SplitTowers$Degrees" ∧ yX1_commonExponent.cls ≠ "java/lang/invoke/MethodHandle" ∧ yX1_commonExponent.cls ≠ "java/lang/invoke/VarHandle" ∧ (parseMethodDescriptor yX1_commonExponent.desc).map (fun d => d.parameters.length) = some 0 := by decide +kernel
set_option maxHeartbeats 4000000 in
set_option maxRecDepth 100000 in
theorem s_X1_commonExponent {l : Launch} {D : va_G} {aC : Nat → ClassId} {B lo hi : Nat} {σ : SG}  {Q : Int → SG → Prop} (hlo : lo ≤ 0) (hhi : 304 ≤ hi) (h : wp_X1_commonExponent σ  Q) : Met l yX1_commonExponent (Cond.code yX1_commonExponent prog_3_method_5_code 4 (some .int) :: WS) rm_X1_commonExponent (va_Pc [.ref (B + 100)] (WP D aC B lo hi σ)) (QI D aC B lo hi Q) 0 0 (AB B lo hi) := by
  refine met_of (by decide +kernel) (by decide +kernel : yX1_commonExponent.cls = "SplitTowers$Degrees") (Nat.le_of_ble_eq_true rfl) ?_
  intro p e s m args below meth c C
  unfold wp_X1_commonExponent at h
  refine v_R (fun hR0 => ?_)
  show V p l e rm_X1_commonExponent s m args below meth c D aC B lo hi 4 (MQ below (QI D aC B lo hi Q) args s 0 0 (AB B lo hi)) σ 0 [(0, .ref (B + 100))] []
  refine v_iconst C dX1_commonExponent_0 ?_
  refine v_istore_n (lv' := [(1, .int (iI 1)), (0, .ref (B + 100))]) C dX1_commonExponent_1 rfl (by decide) rfl ?_
  refine v_iconst C dX1_commonExponent_2 ?_
  refine v_istore_n (lv' := [(2, .int (iI 1)), (1, .int (iI 1)), (0, .ref (B + 100))]) C dX1_commonExponent_3 rfl (by decide) rfl ?_
  refine v_iconst C dX1_commonExponent_4 ?_
  refine v_istore_n (lv' := [(3, .int (iI 1)), (2, .int (iI 1)), (1, .int (iI 1)), (0, .ref (B + 100))]) C dX1_commonExponent_5 rfl (by decide) rfl ?_
  obtain ⟨I19, ⟨n20, hnn20⟩, hII19⟩ := h
  have key7 : ∀ (n : Nat) (x1 : Int) (x2 : Int) (x3 : Int) (σ4 : SG), I19 n x1 x2 x3 σ4 → inR x1 → inR x2 → inR x3 → V p l e rm_X1_commonExponent s m args below meth c D aC B lo hi 4 (MQ below (QI D aC B lo hi Q) args s 0 0 (AB B lo hi)) σ4 6 [(3, .int (iI x1)), (2, .int (iI x2)), (1, .int (iI x3)), (0, .ref (B + 100))] [] := by
    intro n
    induction n using Nat.strongRecOn with
    | ind n ih6 =>
      intro x1 x2 x3 σ4 hn rx1 rx2 rx3
      have h := hII19 n x1 x2 x3 σ4 hn
      refine v_R (fun hRσ4 => ?_)
      refine v_iload_n C 0 dX1_commonExponent_6 rfl rfl ?_
      refine v_bipush C dX1_commonExponent_7 (by decide) ?_
      refine v_icmp_gt C rx1 (by decide) 44 dX1_commonExponent_9 (by decide) (fun c18 => ?_) (fun c18 => ?_)
      · have h := h.1 c18
        refine v_iload_n C 2 dX1_commonExponent_44 rfl rfl ?_
        exact v_iret C rx3 h dX1_commonExponent_45
      · have h := h.2 c18
        refine v_iload_n C 1 dX1_commonExponent_12 rfl rfl ?_
        refine v_aload_n C 3 dX1_commonExponent_13 rfl rfl ?_
        refine gf1_state C hlo hhi w317 dX1_commonExponent_14 ?_
        refine gf7_prime C (SO_full hlo hhi kt1) w154 dX1_commonExponent_17 ?_
        have k8 := h.1
        have h := h.2
        refine v_imul C dX1_commonExponent_20 ?_
        refine v_name (fun v9 ev9 => ?_)
        have h := h v9 ev9
        have rv9 : inR v9 := by rw [ev9]; exact k8
        refine v_istore_n (lv' := [(2, .int (iI v9)), (3, .int (iI x1)), (1, .int (iI x3)), (0, .ref (B + 100))]) C dX1_commonExponent_21 rfl (by decide) rfl ?_
        refine v_aload_n C 3 dX1_commonExponent_22 rfl rfl ?_
        refine v_iload_n C 1 dX1_commonExponent_23 rfl rfl ?_
        refine v_calli (i := 100) (As := [.int (iI x1)]) (rest := []) C (s_X1_factorsOf hlo hhi rx1 h) w829 wy_X1_factorsOf ⟨rfl, rfl⟩ hd_X1_factorsOf ⟨Nat.le_of_ble_eq_true rfl, Nat.le_of_ble_eq_true rfl⟩ (Nat.le_trans hlo (Nat.zero_le _)) (Nat.lt_of_lt_of_le (by decide) hhi) rfl rfl rfl rfl (Nat.le_of_ble_eq_true rfl) dX1_commonExponent_24 (fun z11 σ10 rz11 h => ?_)
        refine v_R (fun hRσ10 => ?_)
        refine v_if_le C rz11 38 dX1_commonExponent_27 (by decide) (fun c17 => ?_) (fun c17 => ?_)
        · have h := h.1 c17
          have k12 := h.1
          have h := h.2
          refine v_iinc (lv' := [(3, .int (iI (x1 + 1))), (2, .int (iI v9)), (1, .int (iI x3)), (0, .ref (B + 100))]) C 1 dX1_commonExponent_38 rfl (by decide) rfl ?_
          refine v_goto C 6 dX1_commonExponent_41 (by decide) ?_
          obtain ⟨m9, hm9, h⟩ := h
          exact ih6 m9 hm9 (x1 + 1) v9 x3 σ10 h k12 rv9 rx3
        · have h := h.2 c17
          refine v_iload_n C 2 dX1_commonExponent_30 rfl rfl ?_
          refine v_iload_n C 0 dX1_commonExponent_31 rfl rfl ?_
          refine v_iconst C dX1_commonExponent_32 ?_
          have k13 := h.1
          have h := h.2
          refine v_isub C dX1_commonExponent_33 ?_
          refine v_callsi (As := [.int (iI x3), .int (iI (v9 - 1))]) (rest := []) C (s_X1_leastMultiple hlo hhi rx3 k13 h) w833 wy_X1_leastMultiple ⟨rfl, rfl⟩ hd_X1_leastMultiple ⟨Nat.le_of_ble_eq_true rfl, Nat.le_of_ble_eq_true rfl⟩ rfl rfl (Nat.le_of_ble_eq_true rfl) dX1_commonExponent_34 (fun z15 σ14 rz15 h => ?_)
          refine v_R (fun hRσ14 => ?_)
          refine v_istore_n (lv' := [(1, .int (iI z15)), (2, .int (iI v9)), (3, .int (iI x1)), (0, .ref (B + 100))]) C dX1_commonExponent_37 rfl (by decide) rfl ?_
          have k16 := h.1
          have h := h.2
          refine v_iinc (lv' := [(3, .int (iI (x1 + 1))), (1, .int (iI z15)), (2, .int (iI v9)), (0, .ref (B + 100))]) C 2 dX1_commonExponent_38 rfl (by decide) rfl ?_
          refine v_goto C 6 dX1_commonExponent_41 (by decide) ?_
          obtain ⟨m9, hm9, h⟩ := h
          refine v_sub [0, 2, 1, 3] rfl ?_
          exact ih6 m9 hm9 (x1 + 1) v9 z15 σ14 h k16 rv9 rz15
  exact key7 n20 1 1 1 σ hnn20 (by decide) (by decide) (by decide)
-- SplitTowers$Degrees.find()V
def wp_X1_find (σ : SG)  (Q : SG → Prop) : Prop :=
  wp_X4_copy σ 116 2 (fun (σ1 : SG) => wp_X4_becomeVariable σ1 122 (fun (σ2 : SG) => wp_X6_becomeVariable σ2 118 (fun (σ3 : SG) => Lp1 (fun (rec6 : Int → SG → Prop) (x4 : Int) (σ5 : SG) => ((6 < x4 → Q σ5) ∧ (¬ 6 < x4 → wp_X6_raise σ5 118 118 (σ5 1 0) (fun (σ9 : SG) => wp_X4_copy σ9 120 118 (fun (σ10 : SG) => wp_X6_add σ10 120 122 1 (fun (σ11 : SG) => ((0 ≤ x4 ∧ x4 < 7) ∧ wp_X2_commonFactor σ11 (101 + 1 + 2 * x4.toNat) 116 120 (fun (σ13 : SG) => ((0 ≤ x4 ∧ x4 < 7) ∧ wp_X2_divideWhole σ13 116 116 (101 + 1 + 2 * x4.toNat) (fun (σ15 : SG) => (inR (x4 + 1) ∧ rec6 (x4 + 1) σ15))))))))))) 1 σ3)))
def rm_X1_find : Room := { frames := 5, cells := 0, slots := 0, locals := 121 }
theorem wy_X1_find : Cond.instanceMethod yX1_find ∈ WS ∧ Cond.selects "SplitTowers$Degrees" yX1_find yX1_find ∈ WS ∧ Cond.initialized "SplitTowers$Degrees" ∈ WS ∧ Cond.code yX1_find prog_3_method_2_code 2 none ∈ WS := ⟨w699, w700, w76, w701⟩
theorem hd_X1_find : yX1_find.cls = "SplitTowers$Degrees" ∧ yX1_find.cls ≠ "java/lang/invoke/MethodHandle" ∧ yX1_find.cls ≠ "java/lang/invoke/VarHandle" ∧ (parseMethodDescriptor yX1_find.desc).map (fun d => d.parameters.length) = some 0 := by decide +kernel
set_option maxHeartbeats 4000000 in
set_option maxRecDepth 100000 in
theorem s_X1_find {l : Launch} {D : va_G} {aC : Nat → ClassId} {B lo hi : Nat} {σ : SG}  {Q : SG → Prop} (hlo : lo ≤ 0) (hhi : 304 ≤ hi) (h : wp_X1_find σ  Q) : Met l yX1_find (Cond.code yX1_find prog_3_method_2_code 2 none :: WS) rm_X1_find (va_Pc [.ref (B + 100)] (WP D aC B lo hi σ)) (QV D aC B lo hi Q) 0 0 (AB B lo hi) := by
  refine met_of (by decide +kernel) (by decide +kernel : yX1_find.cls = "SplitTowers$Degrees") (Nat.le_of_ble_eq_true rfl) ?_
  intro p e s m args below meth c C
  unfold wp_X1_find at h
  refine v_R (fun hR0 => ?_)
  show V p l e rm_X1_find s m args below meth c D aC B lo hi 2 (MQ below (QV D aC B lo hi Q) args s 0 0 (AB B lo hi)) σ 0 [(0, .ref (B + 100))] []
  refine v_aload_n C 0 dX1_find_0 rfl rfl ?_
  refine gf1_rest C hlo hhi w322 dX1_find_1 ?_
  refine v_aload_n C 0 dX1_find_4 rfl rfl ?_
  refine gf1_state C hlo hhi w317 dX1_find_5 ?_
  refine gf7_modulus C (SO_full hlo hhi kt1) w158 dX1_find_8 ?_
  refine v_callv (i := 116) (As := [.ref (B + 2)]) (rest := []) C (s_X4_copy (PO_full hlo hhi kt116) (PO_mod (SO_full hlo hhi kt1)) h) w702 wy_X4_copy ⟨rfl, rfl⟩ hd_X4_copy ⟨Nat.le_of_ble_eq_true rfl, Nat.le_of_ble_eq_true rfl⟩ (PO.lo (PO_full hlo hhi kt116)) (PO.hi (PO_full hlo hhi kt116)) (cel_of ((PO_full hlo hhi kt116)).1) rfl rfl rfl (Nat.le_of_ble_eq_true rfl) dX1_find_11 (fun σ1 h => ?_)
  refine v_R (fun hRσ1 => ?_)
  refine v_aload_n C 0 dX1_find_14 rfl rfl ?_
  refine gf1_variable C hlo hhi w325 dX1_find_15 ?_
  refine v_callv (i := 122) (As := []) (rest := []) C (s_X4_becomeVariable (PO_full hlo hhi kt122) h) w703 wy_X4_becomeVariable ⟨rfl, rfl⟩ hd_X4_becomeVariable ⟨Nat.le_of_ble_eq_true rfl, Nat.le_of_ble_eq_true rfl⟩ (PO.lo (PO_full hlo hhi kt122)) (PO.hi (PO_full hlo hhi kt122)) (cel_of ((PO_full hlo hhi kt122)).1) rfl rfl rfl (Nat.le_of_ble_eq_true rfl) dX1_find_18 (fun σ2 h => ?_)
  refine v_R (fun hRσ2 => ?_)
  refine v_aload_n C 0 dX1_find_21 rfl rfl ?_
  refine gf1_ring C hlo hhi w319 dX1_find_22 ?_
  refine v_aload_n C 0 dX1_find_25 rfl rfl ?_
  refine gf1_raised C hlo hhi w323 dX1_find_26 ?_
  refine v_callv (i := 48) (As := [.ref (B + 118)]) (rest := []) C (s_X6_becomeVariable hlo hhi (PO_full hlo hhi kt118) h) w704 wy_X6_becomeVariable ⟨rfl, rfl⟩ hd_X6_becomeVariable ⟨Nat.le_of_ble_eq_true rfl, Nat.le_of_ble_eq_true rfl⟩ (Nat.le_trans hlo (Nat.zero_le _)) (Nat.lt_of_lt_of_le (by decide) hhi) rfl rfl rfl rfl (Nat.le_of_ble_eq_true rfl) dX1_find_29 (fun σ3 h => ?_)
  refine v_R (fun hRσ3 => ?_)
  refine v_iconst C dX1_find_32 ?_
  refine v_istore_n (lv' := [(1, .int (iI 1)), (0, .ref (B + 100))]) C dX1_find_33 rfl (by decide) rfl ?_
  obtain ⟨I18, ⟨n19, hnn19⟩, hII18⟩ := h
  have key8 : ∀ (n : Nat) (x4 : Int) (σ5 : SG), I18 n x4 σ5 → inR x4 → V p l e rm_X1_find s m args below meth c D aC B lo hi 2 (MQ below (QV D aC B lo hi Q) args s 0 0 (AB B lo hi)) σ5 34 [(1, .int (iI x4)), (0, .ref (B + 100))] [] := by
    intro n
    induction n using Nat.strongRecOn with
    | ind n ih7 =>
      intro x4 σ5 hn rx4
      have h := hII18 n x4 σ5 hn
      refine v_R (fun hRσ5 => ?_)
      refine v_iload_n C 0 dX1_find_34 rfl rfl ?_
      refine v_bipush C dX1_find_35 (by decide) ?_
      refine v_icmp_gt C rx4 (by decide) 137 dX1_find_37 (by decide) (fun c17 => ?_) (fun c17 => ?_)
      · have h := h.1 c17
        exact v_vret C h dX1_find_137
      · have h := h.2 c17
        refine v_aload_n C 1 dX1_find_40 rfl rfl ?_
        refine gf1_ring C hlo hhi w319 dX1_find_41 ?_
        refine v_aload_n C 1 dX1_find_44 rfl rfl ?_
        refine gf1_raised C hlo hhi w323 dX1_find_45 ?_
        refine v_aload_n C 1 dX1_find_48 rfl rfl ?_
        refine gf1_raised C hlo hhi w323 dX1_find_49 ?_
        refine v_aload_n C 1 dX1_find_52 rfl rfl ?_
        refine gf1_state C hlo hhi w317 dX1_find_53 ?_
        refine gf7_prime C (SO_full hlo hhi kt1) w154 dX1_find_56 ?_
        refine v_callv (i := 48) (As := [.ref (B + 118), .ref (B + 118), .int (iI (σ5 1 0))]) (rest := []) C (s_X6_raise hlo hhi (PO_full hlo hhi kt118) (PO_full hlo hhi kt118) (hRσ5 1 0) h) w705 wy_X6_raise ⟨rfl, rfl⟩ hd_X6_raise ⟨Nat.le_of_ble_eq_true rfl, Nat.le_of_ble_eq_true rfl⟩ (Nat.le_trans hlo (Nat.zero_le _)) (Nat.lt_of_lt_of_le (by decide) hhi) rfl rfl rfl rfl (Nat.le_of_ble_eq_true rfl) dX1_find_59 (fun σ9 h => ?_)
        refine v_R (fun hRσ9 => ?_)
        refine v_aload_n C 1 dX1_find_62 rfl rfl ?_
        refine gf1_difference C hlo hhi w324 dX1_find_63 ?_
        refine v_aload_n C 1 dX1_find_66 rfl rfl ?_
        refine gf1_raised C hlo hhi w323 dX1_find_67 ?_
        refine v_callv (i := 120) (As := [.ref (B + 118)]) (rest := []) C (s_X4_copy (PO_full hlo hhi kt120) (PO_full hlo hhi kt118) h) w702 wy_X4_copy ⟨rfl, rfl⟩ hd_X4_copy ⟨Nat.le_of_ble_eq_true rfl, Nat.le_of_ble_eq_true rfl⟩ (PO.lo (PO_full hlo hhi kt120)) (PO.hi (PO_full hlo hhi kt120)) (cel_of ((PO_full hlo hhi kt120)).1) rfl rfl rfl (Nat.le_of_ble_eq_true rfl) dX1_find_70 (fun σ10 h => ?_)
        refine v_R (fun hRσ10 => ?_)
        refine v_aload_n C 1 dX1_find_73 rfl rfl ?_
        refine gf1_ring C hlo hhi w319 dX1_find_74 ?_
        refine v_aload_n C 1 dX1_find_77 rfl rfl ?_
        refine gf1_difference C hlo hhi w324 dX1_find_78 ?_
        refine v_aload_n C 1 dX1_find_81 rfl rfl ?_
        refine gf1_variable C hlo hhi w325 dX1_find_82 ?_
        refine v_iconst C dX1_find_85 ?_
        refine v_callv (i := 48) (As := [.ref (B + 120), .ref (B + 122), .int (iI 1)]) (rest := []) C (s_X6_add hlo hhi (PO_full hlo hhi kt120) (PO_full hlo hhi kt122) (by decide) h) w706 wy_X6_add ⟨rfl, rfl⟩ hd_X6_add ⟨Nat.le_of_ble_eq_true rfl, Nat.le_of_ble_eq_true rfl⟩ (Nat.le_trans hlo (Nat.zero_le _)) (Nat.lt_of_lt_of_le (by decide) hhi) rfl rfl rfl rfl (Nat.le_of_ble_eq_true rfl) dX1_find_86 (fun σ11 h => ?_)
        refine v_R (fun hRσ11 => ?_)
        refine v_aload_n C 1 dX1_find_89 rfl rfl ?_
        refine gf1_field C hlo hhi w318 dX1_find_90 ?_
        refine v_aload_n C 1 dX1_find_93 rfl rfl ?_
        refine gf1_products C hlo hhi w320 dX1_find_94 ?_
        refine v_iload_n C 0 dX1_find_97 rfl rfl ?_
        have k12 := h.1
        have h := h.2
        refine v_aald (i := 101) (n := 7) (g := fun j => 101 + 1 + 2 * j) C 3 rfl (Nat.le_trans hlo (Nat.zero_le _)) (Nat.lt_of_lt_of_le (by decide) hhi) rfl rx4 k12 dX1_find_98 ?_
        refine v_aload_n C 1 dX1_find_99 rfl rfl ?_
        refine gf1_rest C hlo hhi w322 dX1_find_100 ?_
        refine v_aload_n C 1 dX1_find_103 rfl rfl ?_
        refine gf1_difference C hlo hhi w324 dX1_find_104 ?_
        refine v_callv (i := 33) (As := [.ref (B + (101 + 1 + 2 * x4.toNat)), .ref (B + 116), .ref (B + 120)]) (rest := []) C (s_X2_commonFactor hlo hhi (PO_full hlo hhi (pa101 _ (toNat_lt k12))) (PO_full hlo hhi kt116) (PO_full hlo hhi kt120) h) w707 wy_X2_commonFactor ⟨rfl, rfl⟩ hd_X2_commonFactor ⟨Nat.le_of_ble_eq_true rfl, Nat.le_of_ble_eq_true rfl⟩ (Nat.le_trans hlo (Nat.zero_le _)) (Nat.lt_of_lt_of_le (by decide) hhi) rfl rfl rfl rfl (Nat.le_of_ble_eq_true rfl) dX1_find_107 (fun σ13 h => ?_)
        refine v_R (fun hRσ13 => ?_)
        refine v_aload_n C 1 dX1_find_110 rfl rfl ?_
        refine gf1_field C hlo hhi w318 dX1_find_111 ?_
        refine v_aload_n C 1 dX1_find_114 rfl rfl ?_
        refine gf1_rest C hlo hhi w322 dX1_find_115 ?_
        refine v_aload_n C 1 dX1_find_118 rfl rfl ?_
        refine gf1_rest C hlo hhi w322 dX1_find_119 ?_
        refine v_aload_n C 1 dX1_find_122 rfl rfl ?_
        refine gf1_products C hlo hhi w320 dX1_find_123 ?_
        refine v_iload_n C 0 dX1_find_126 rfl rfl ?_
        have k14 := h.1
        have h := h.2
        refine v_aald (i := 101) (n := 7) (g := fun j => 101 + 1 + 2 * j) C 3 rfl (Nat.le_trans hlo (Nat.zero_le _)) (Nat.lt_of_lt_of_le (by decide) hhi) rfl rx4 k14 dX1_find_127 ?_
        refine v_callv (i := 33) (As := [.ref (B + 116), .ref (B + 116), .ref (B + (101 + 1 + 2 * x4.toNat))]) (rest := []) C (s_X2_divideWhole hlo hhi (PO_full hlo hhi kt116) (PO_full hlo hhi kt116) (PO_full hlo hhi (pa101 _ (toNat_lt k14))) h) w708 wy_X2_divideWhole ⟨rfl, rfl⟩ hd_X2_divideWhole ⟨Nat.le_of_ble_eq_true rfl, Nat.le_of_ble_eq_true rfl⟩ (Nat.le_trans hlo (Nat.zero_le _)) (Nat.lt_of_lt_of_le (by decide) hhi) rfl rfl rfl rfl (Nat.le_of_ble_eq_true rfl) dX1_find_128 (fun σ15 h => ?_)
        refine v_R (fun hRσ15 => ?_)
        have k16 := h.1
        have h := h.2
        refine v_iinc (lv' := [(1, .int (iI (x4 + 1))), (0, .ref (B + 100))]) C 0 dX1_find_131 rfl (by decide) rfl ?_
        refine v_goto C 34 dX1_find_134 (by decide) ?_
        obtain ⟨m9, hm9, h⟩ := h
        exact ih7 m9 hm9 (x4 + 1) σ15 h k16
  exact key8 n19 1 σ3 hnn19 (by decide)
