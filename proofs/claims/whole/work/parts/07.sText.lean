-- SplitTowers$Text.at(I)I
def wp_X8_at (σ : SG) (a1 : Int) (Q : Int → SG → Prop) : Prop :=
  ((a1 < 0 → Q 0 σ) ∧ (¬ a1 < 0 → (((σ 30 1) ≤ a1 → Q 0 σ) ∧ (¬ (σ 30 1) ≤ a1 → ((0 ≤ a1 ∧ a1 < 60) ∧ Q (σ 31 a1.toNat) σ)))))
def rm_X8_at : Room := { frames := 0, cells := 0, slots := 0, locals := 0 }
theorem wy_X8_at : Cond.instanceMethod yX8_at ∈ WS ∧ Cond.selects "SplitTowers$Text" yX8_at yX8_at ∈ WS ∧ Cond.initialized "SplitTowers$Text" ∈ WS ∧ Cond.code yX8_at prog_10_method_3_code 2 (some .int) ∈ WS := ⟨w553, w554, w72, w555⟩
theorem hd_X8_at : yX8_at.cls = "SplitTowers$Text" ∧ yX8_at.cls ≠ "java/lang/invoke/MethodHandle" ∧ yX8_at.cls ≠ "java/lang/invoke/VarHandle" ∧ (parseMethodDescriptor yX8_at.desc).map (fun d => d.parameters.length) = some 1 := by decide +kernel
set_option maxHeartbeats 4000000 in
set_option maxRecDepth 100000 in
theorem s_X8_at {l : Launch} {D : va_G} {aC : Nat → ClassId} {B lo hi : Nat} {σ : SG} {a1 : Int} {Q : Int → SG → Prop} (hlo : lo ≤ 0) (hhi : 304 ≤ hi) (r1 : inR a1) (h : wp_X8_at σ a1 Q) : Met l yX8_at (Cond.code yX8_at prog_10_method_3_code 2 (some .int) :: WS) rm_X8_at (va_Pc [.ref (B + 30), .int (iI a1)] (WP D aC B lo hi σ)) (QI D aC B lo hi Q) 0 0 (AB B lo hi) := by
  refine met_of (by decide +kernel) (by decide +kernel : yX8_at.cls = "SplitTowers$Text") (Nat.le_of_ble_eq_true rfl) ?_
  intro p e s m args below meth c C
  unfold wp_X8_at at h
  refine v_R (fun hR0 => ?_)
  show V p l e rm_X8_at s m args below meth c D aC B lo hi 2 (MQ below (QI D aC B lo hi Q) args s 0 0 (AB B lo hi)) σ 0 [(0, .ref (B + 30)), (1, .int (iI a1))] []
  refine v_iload_n C 1 dX8_at_0 rfl rfl ?_
  refine v_if_lt C r1 21 dX8_at_1 (by decide) (fun c3 => ?_) (fun c3 => ?_)
  · have h := h.1 c3
    refine v_iconst C dX8_at_21 ?_
    exact v_iret C (by decide) h dX8_at_22
  · have h := h.2 c3
    refine v_iload_n C 1 dX8_at_4 rfl rfl ?_
    refine v_aload_n C 0 dX8_at_5 rfl rfl ?_
    refine gf8_length C hlo hhi w188 dX8_at_6 ?_
    refine v_icmp_ge C r1 (hR0 30 1) 21 dX8_at_9 (by decide) (fun c2 => ?_) (fun c2 => ?_)
    · have h := h.1 c2
      refine v_iconst C dX8_at_21 ?_
      exact v_iret C (by decide) h dX8_at_22
    · have h := h.2 c2
      refine v_aload_n C 0 dX8_at_12 rfl rfl ?_
      refine gf8_characters C hlo hhi w187 dX8_at_13 ?_
      refine v_iload_n C 1 dX8_at_16 rfl rfl ?_
      have k1 := h.1
      have h := h.2
      refine v_iald (i := 31) (n := 60) C (Nat.le_trans hlo (Nat.zero_le _)) (Nat.lt_of_lt_of_le (by decide) hhi) rfl r1 k1 dX8_at_17 ?_
      refine v_goto C 22 dX8_at_18 (by decide) ?_
      exact v_iret C (hR0 31 _) h dX8_at_22
-- SplitTowers$Text.isRegisterLetter(I)Z
def wp_X8_isRegisterLetter (σ : SG) (a1 : Int) (Q : Int → SG → Prop) : Prop :=
  ((a1 < 97 → Q 0 σ) ∧ (¬ a1 < 97 → ((102 < a1 → Q 0 σ) ∧ (¬ 102 < a1 → Q 1 σ))))
def rm_X8_isRegisterLetter : Room := { frames := 0, cells := 0, slots := 0, locals := 0 }
theorem wy_X8_isRegisterLetter : Cond.static yX8_isRegisterLetter ∈ WS ∧ Cond.initialized "SplitTowers$Text" ∈ WS ∧ Cond.code yX8_isRegisterLetter prog_10_method_5_code 1 (some .boolean) ∈ WS := ⟨w557, w72, w558⟩
theorem hd_X8_isRegisterLetter : yX8_isRegisterLetter.cls ≠ "java/lang/invoke/MethodHandle" ∧ yX8_isRegisterLetter.cls ≠ "java/lang/invoke/VarHandle" ∧ (parseMethodDescriptor yX8_isRegisterLetter.desc).map (fun d => d.parameters.length) = some 1 := by decide +kernel
set_option maxHeartbeats 4000000 in
set_option maxRecDepth 100000 in
theorem s_X8_isRegisterLetter {l : Launch} {D : va_G} {aC : Nat → ClassId} {B lo hi : Nat} {σ : SG} {a1 : Int} {Q : Int → SG → Prop} (hlo : lo ≤ 0) (hhi : 304 ≤ hi) (r1 : inR a1) (h : wp_X8_isRegisterLetter σ a1 Q) : Met l yX8_isRegisterLetter (Cond.code yX8_isRegisterLetter prog_10_method_5_code 1 (some .boolean) :: WS) rm_X8_isRegisterLetter (va_Pc [.int (iI a1)] (WP D aC B lo hi σ)) (QI D aC B lo hi Q) 0 0 (AB B lo hi) := by
  refine met_of (by decide +kernel) (by decide +kernel : yX8_isRegisterLetter.cls = "SplitTowers$Text") (Nat.le_of_ble_eq_true rfl) ?_
  intro p e s m args below meth c C
  unfold wp_X8_isRegisterLetter at h
  refine v_R (fun hR0 => ?_)
  show V p l e rm_X8_isRegisterLetter s m args below meth c D aC B lo hi 1 (MQ below (QI D aC B lo hi Q) args s 0 0 (AB B lo hi)) σ 0 [(0, .int (iI a1))] []
  refine v_iload_n C 0 dX8_isRegisterLetter_0 rfl rfl ?_
  refine v_bipush C dX8_isRegisterLetter_1 (by decide) ?_
  refine v_icmp_lt C r1 (by decide) 16 dX8_isRegisterLetter_3 (by decide) (fun c2 => ?_) (fun c2 => ?_)
  · have h := h.1 c2
    refine v_iconst C dX8_isRegisterLetter_16 ?_
    exact v_zret C (by decide) h dX8_isRegisterLetter_17
  · have h := h.2 c2
    refine v_iload_n C 0 dX8_isRegisterLetter_6 rfl rfl ?_
    refine v_bipush C dX8_isRegisterLetter_7 (by decide) ?_
    refine v_icmp_gt C r1 (by decide) 16 dX8_isRegisterLetter_9 (by decide) (fun c1 => ?_) (fun c1 => ?_)
    · have h := h.1 c1
      refine v_iconst C dX8_isRegisterLetter_16 ?_
      exact v_zret C (by decide) h dX8_isRegisterLetter_17
    · have h := h.2 c1
      refine v_iconst C dX8_isRegisterLetter_12 ?_
      refine v_goto C 17 dX8_isRegisterLetter_13 (by decide) ?_
      exact v_zret C (by decide) h dX8_isRegisterLetter_17
-- SplitTowers$Text.add(C)Z
def wp_X8_add (σ : SG) (a1 : Int) (Q : Int → SG → Prop) : Prop :=
  (((σ 30 1) < 60 → ((0 ≤ (σ 30 1) ∧ (σ 30 1) < 60) ∧ (∀ σ2 : SG, σ2 = ug σ 31 ((σ 30 1).toNat) a1 → (inR ((σ2 30 1) + 1) ∧ (∀ σ4 : SG, σ4 = ug σ2 30 1 ((σ2 30 1) + 1) → Q 1 σ4))))) ∧ (¬ (σ 30 1) < 60 → Q 0 σ))
def rm_X8_add : Room := { frames := 0, cells := 0, slots := 0, locals := 0 }
theorem wy_X8_add : Cond.instanceMethod yX8_add ∈ WS ∧ Cond.selects "SplitTowers$Text" yX8_add yX8_add ∈ WS ∧ Cond.initialized "SplitTowers$Text" ∈ WS ∧ Cond.code yX8_add prog_10_method_2_code 2 (some .boolean) ∈ WS := ⟨w737, w738, w72, w739⟩
theorem hd_X8_add : yX8_add.cls = "SplitTowers$Text" ∧ yX8_add.cls ≠ "java/lang/invoke/MethodHandle" ∧ yX8_add.cls ≠ "java/lang/invoke/VarHandle" ∧ (parseMethodDescriptor yX8_add.desc).map (fun d => d.parameters.length) = some 1 := by decide +kernel
set_option maxHeartbeats 4000000 in
set_option maxRecDepth 100000 in
theorem s_X8_add {l : Launch} {D : va_G} {aC : Nat → ClassId} {B lo hi : Nat} {σ : SG} {a1 : Int} {Q : Int → SG → Prop} (hlo : lo ≤ 0) (hhi : 304 ≤ hi) (r1 : inR a1) (h : wp_X8_add σ a1 Q) : Met l yX8_add (Cond.code yX8_add prog_10_method_2_code 2 (some .boolean) :: WS) rm_X8_add (va_Pc [.ref (B + 30), .int (iI a1)] (WP D aC B lo hi σ)) (QI D aC B lo hi Q) 0 0 (AB B lo hi) := by
  refine met_of (by decide +kernel) (by decide +kernel : yX8_add.cls = "SplitTowers$Text") (Nat.le_of_ble_eq_true rfl) ?_
  intro p e s m args below meth c C
  unfold wp_X8_add at h
  refine v_R (fun hR0 => ?_)
  show V p l e rm_X8_add s m args below meth c D aC B lo hi 2 (MQ below (QI D aC B lo hi Q) args s 0 0 (AB B lo hi)) σ 0 [(0, .ref (B + 30)), (1, .int (iI a1))] []
  refine v_aload_n C 0 dX8_add_0 rfl rfl ?_
  refine gf8_length C hlo hhi w188 dX8_add_1 ?_
  refine v_bipush C dX8_add_4 (by decide) ?_
  refine v_icmp_lt C (hR0 30 1) (by decide) 11 dX8_add_6 (by decide) (fun c5 => ?_) (fun c5 => ?_)
  · have h := h.1 c5
    refine v_aload_n C 0 dX8_add_11 rfl rfl ?_
    refine gf8_characters C hlo hhi w187 dX8_add_12 ?_
    refine v_aload_n C 0 dX8_add_15 rfl rfl ?_
    refine gf8_length C hlo hhi w188 dX8_add_16 ?_
    refine v_iload_n C 1 dX8_add_19 rfl rfl ?_
    have k1 := h.1
    have h := h.2
    refine v_iast (i := 31) (n := 60) C (Nat.le_trans hlo (Nat.zero_le _)) (Nat.lt_of_lt_of_le (by decide) hhi) (fun _ => rfl) (hR0 30 1) k1 r1 dX8_add_20 ?_
    refine v_nameS (fun σ2 eσ2 => ?_)
    have h := h σ2 eσ2
    refine v_R (fun hRσ2 => ?_)
    refine v_aload_n C 0 dX8_add_21 rfl rfl ?_
    refine v_dup C rfl dX8_add_22 ?_
    refine gf8_length C hlo hhi w188 dX8_add_23 ?_
    refine v_iconst C dX8_add_26 ?_
    have k3 := h.1
    have h := h.2
    refine v_iadd C dX8_add_27 ?_
    refine pf8_length C hlo hhi k3 w188 dX8_add_28 ?_
    refine v_nameS (fun σ4 eσ4 => ?_)
    have h := h σ4 eσ4
    refine v_R (fun hRσ4 => ?_)
    refine v_iconst C dX8_add_31 ?_
    exact v_zret C (by decide) h dX8_add_32
  · have h := h.2 c5
    refine v_iconst C dX8_add_9 ?_
    exact v_zret C (by decide) h dX8_add_10
-- SplitTowers$Text.isDigit(I)Z
def wp_X8_isDigit (σ : SG) (a1 : Int) (Q : Int → SG → Prop) : Prop :=
  ((a1 < 48 → Q 0 σ) ∧ (¬ a1 < 48 → ((57 < a1 → Q 0 σ) ∧ (¬ 57 < a1 → Q 1 σ))))
def rm_X8_isDigit : Room := { frames := 0, cells := 0, slots := 0, locals := 0 }
theorem wy_X8_isDigit : Cond.static yX8_isDigit ∈ WS ∧ Cond.initialized "SplitTowers$Text" ∈ WS ∧ Cond.code yX8_isDigit prog_10_method_4_code 1 (some .boolean) ∈ WS := ⟨w467, w72, w468⟩
theorem hd_X8_isDigit : yX8_isDigit.cls ≠ "java/lang/invoke/MethodHandle" ∧ yX8_isDigit.cls ≠ "java/lang/invoke/VarHandle" ∧ (parseMethodDescriptor yX8_isDigit.desc).map (fun d => d.parameters.length) = some 1 := by decide +kernel
set_option maxHeartbeats 4000000 in
set_option maxRecDepth 100000 in
theorem s_X8_isDigit {l : Launch} {D : va_G} {aC : Nat → ClassId} {B lo hi : Nat} {σ : SG} {a1 : Int} {Q : Int → SG → Prop} (hlo : lo ≤ 0) (hhi : 304 ≤ hi) (r1 : inR a1) (h : wp_X8_isDigit σ a1 Q) : Met l yX8_isDigit (Cond.code yX8_isDigit prog_10_method_4_code 1 (some .boolean) :: WS) rm_X8_isDigit (va_Pc [.int (iI a1)] (WP D aC B lo hi σ)) (QI D aC B lo hi Q) 0 0 (AB B lo hi) := by
  refine met_of (by decide +kernel) (by decide +kernel : yX8_isDigit.cls = "SplitTowers$Text") (Nat.le_of_ble_eq_true rfl) ?_
  intro p e s m args below meth c C
  unfold wp_X8_isDigit at h
  refine v_R (fun hR0 => ?_)
  show V p l e rm_X8_isDigit s m args below meth c D aC B lo hi 1 (MQ below (QI D aC B lo hi Q) args s 0 0 (AB B lo hi)) σ 0 [(0, .int (iI a1))] []
  refine v_iload_n C 0 dX8_isDigit_0 rfl rfl ?_
  refine v_bipush C dX8_isDigit_1 (by decide) ?_
  refine v_icmp_lt C r1 (by decide) 16 dX8_isDigit_3 (by decide) (fun c2 => ?_) (fun c2 => ?_)
  · have h := h.1 c2
    refine v_iconst C dX8_isDigit_16 ?_
    exact v_zret C (by decide) h dX8_isDigit_17
  · have h := h.2 c2
    refine v_iload_n C 0 dX8_isDigit_6 rfl rfl ?_
    refine v_bipush C dX8_isDigit_7 (by decide) ?_
    refine v_icmp_gt C r1 (by decide) 16 dX8_isDigit_9 (by decide) (fun c1 => ?_) (fun c1 => ?_)
    · have h := h.1 c1
      refine v_iconst C dX8_isDigit_16 ?_
      exact v_zret C (by decide) h dX8_isDigit_17
    · have h := h.2 c1
      refine v_iconst C dX8_isDigit_12 ?_
      refine v_goto C 17 dX8_isDigit_13 (by decide) ?_
      exact v_zret C (by decide) h dX8_isDigit_17
-- SplitTowers$Text.expectedBehind(II)I
def wp_X8_expectedBehind (σ : SG) (a1 : Int) (a2 : Int) (Q : Int → SG → Prop) : Prop :=
  ((¬ a2 = 0 → ((¬ a2 = 2 → ((a1 = 41 → Q 1 σ) ∧ (a1 = 42 ∨ a1 = 43 ∨ a1 = 45 ∨ a1 = 47 → Q 0 σ) ∧ (a1 = 94 → ((¬ a2 = 1 → Q (-1) σ) ∧ (a2 = 1 → Q 2 σ))) ∧ (¬ a1 = 41 ∧ ¬ a1 = 42 ∧ ¬ a1 = 43 ∧ ¬ a1 = 45 ∧ ¬ a1 = 47 ∧ ¬ a1 = 94 → Q (-1) σ))) ∧ (a2 = 2 → wp_X8_isDigit σ a1 (fun (z6 : Int) (σ5 : SG) => ((z6 = 0 → Q (-1) σ5) ∧ (¬ z6 = 0 → Q 3 σ5)))))) ∧ (a2 = 0 → wp_X8_isRegisterLetter σ a1 (fun (z10 : Int) (σ9 : SG) => Jn1 (fun (x11 : Int) (σ12 : SG) => ((x11 = 0 → ((¬ a1 = 40 → Q (-1) σ12) ∧ (a1 = 40 → Q 0 σ12))) ∧ (¬ x11 = 0 → Q 1 σ12))) (fun J13 => ((¬ z10 = 0 → J13 1 σ9) ∧ (z10 = 0 → wp_X8_isDigit σ9 a1 (fun (z17 : Int) (σ16 : SG) => ((¬ z17 = 0 → J13 1 σ16) ∧ (z17 = 0 → ((¬ a1 = 120 → J13 0 σ16) ∧ (a1 = 120 → J13 1 σ16)))))))))))
def rm_X8_expectedBehind : Room := { frames := 1, cells := 0, slots := 0, locals := 20 }
theorem wy_X8_expectedBehind : Cond.static yX8_expectedBehind ∈ WS ∧ Cond.initialized "SplitTowers$Text" ∈ WS ∧ Cond.code yX8_expectedBehind prog_10_method_9_code 3 (some .int) ∈ WS := ⟨w560, w72, w561⟩
theorem hd_X8_expectedBehind : yX8_expectedBehind.cls ≠ "java/lang/invoke/MethodHandle" ∧ yX8_expectedBehind.cls ≠ "java/lang/invoke/VarHandle" ∧ (parseMethodDescriptor yX8_expectedBehind.desc).map (fun d => d.parameters.length) = some 2 := by decide +kernel
set_option maxHeartbeats 4000000 in
set_option maxRecDepth 100000 in
theorem s_X8_expectedBehind {l : Launch} {D : va_G} {aC : Nat → ClassId} {B lo hi : Nat} {σ : SG} {a1 : Int} {a2 : Int} {Q : Int → SG → Prop} (hlo : lo ≤ 0) (hhi : 304 ≤ hi) (r1 : inR a1) (r2 : inR a2) (h : wp_X8_expectedBehind σ a1 a2 Q) : Met l yX8_expectedBehind (Cond.code yX8_expectedBehind prog_10_method_9_code 3 (some .int) :: WS) rm_X8_expectedBehind (va_Pc [.int (iI a1), .int (iI a2)] (WP D aC B lo hi σ)) (QI D aC B lo hi Q) 0 0 (AB B lo hi) := by
  refine met_of (by decide +kernel) (by decide +kernel : yX8_expectedBehind.cls = "SplitTowers$Text") (Nat.le_of_ble_eq_true rfl) ?_
  intro p e s m args below meth c C
  unfold wp_X8_expectedBehind at h
  refine v_R (fun hR0 => ?_)
  show V p l e rm_X8_expectedBehind s m args below meth c D aC B lo hi 3 (MQ below (QI D aC B lo hi Q) args s 0 0 (AB B lo hi)) σ 0 [(0, .int (iI a1)), (1, .int (iI a2))] []
  refine v_iload_n C 1 dX8_expectedBehind_0 rfl rfl ?_
  refine v_if_ne C r2 50 dX8_expectedBehind_1 (by decide) (fun c21 => ?_) (fun c21 => ?_)
  · have h := h.1 c21
    refine v_iload_n C 1 dX8_expectedBehind_50 rfl rfl ?_
    refine v_iconst C dX8_expectedBehind_51 ?_
    refine v_icmp_ne C r2 (by decide) 68 dX8_expectedBehind_52 (by decide) (fun c8 => ?_) (fun c8 => ?_)
    · have h := h.1 c8
      refine v_iload_n C 0 dX8_expectedBehind_68 rfl rfl ?_
      rcases Decidable.em (a1 = 41) with c1 | c1
      · have h := h.1 c1
        refine v_look (off := 61) C r1 130 dX8_expectedBehind_69 rfl (by rw [c1]; rfl) (by decide) ?_
        refine v_iconst C dX8_expectedBehind_130 ?_
        exact v_iret C (by decide) h dX8_expectedBehind_131
      rcases Decidable.em (a1 = 42 ∨ a1 = 43 ∨ a1 = 45 ∨ a1 = 47) with c2 | c2
      · have h := h.2.1 c2
        refine v_look (off := 59) C r1 128 dX8_expectedBehind_69 rfl (by rcases c2 with c2 | c2 | c2 | c2 <;> rw [c2] <;> rfl) (by decide) ?_
        refine v_iconst C dX8_expectedBehind_128 ?_
        exact v_iret C (by decide) h dX8_expectedBehind_129
      rcases Decidable.em (a1 = 94) with c4 | c4
      · have h := h.2.2.1 c4
        refine v_look (off := 63) C r1 132 dX8_expectedBehind_69 rfl (by rw [c4]; rfl) (by decide) ?_
        refine v_iload_n C 1 dX8_expectedBehind_132 rfl rfl ?_
        refine v_iconst C dX8_expectedBehind_133 ?_
        refine v_icmp_ne C r2 (by decide) 141 dX8_expectedBehind_134 (by decide) (fun c3 => ?_) (fun c3 => ?_)
        · have h := h.1 c3
          refine v_iconst C dX8_expectedBehind_141 ?_
          exact v_iret C (by decide) h dX8_expectedBehind_142
        · have h := h.2 c3
          refine v_iconst C dX8_expectedBehind_137 ?_
          refine v_goto C 142 dX8_expectedBehind_138 (by decide) ?_
          exact v_iret C (by decide) h dX8_expectedBehind_142
      have hout : ¬ a1 = 41 ∧ ¬ a1 = 42 ∧ ¬ a1 = 43 ∧ ¬ a1 = 45 ∧ ¬ a1 = 47 ∧ ¬ a1 = 94 := by omega
      have h := h.2.2.2 hout
      refine v_look (off := 74) C r1 143 dX8_expectedBehind_69 rfl (look_out (by simp only [List.mem_cons, List.not_mem_nil, or_false, forall_eq_or_imp, forall_eq]; exact hout)) (by decide) ?_
      refine v_iconst C dX8_expectedBehind_143 ?_
      exact v_iret C (by decide) h dX8_expectedBehind_144
    · have h := h.2 c8
      refine v_iload_n C 0 dX8_expectedBehind_55 rfl rfl ?_
      refine v_callsi (As := [.int (iI a1)]) (rest := []) C (s_X8_isDigit hlo hhi r1 h) w466 wy_X8_isDigit ⟨rfl, rfl⟩ hd_X8_isDigit ⟨Nat.le_of_ble_eq_true rfl, Nat.le_of_ble_eq_true rfl⟩ rfl rfl (Nat.le_of_ble_eq_true rfl) dX8_expectedBehind_56 (fun z6 σ5 rz6 h => ?_)
      refine v_R (fun hRσ5 => ?_)
      refine v_if_eq C rz6 66 dX8_expectedBehind_59 (by decide) (fun c7 => ?_) (fun c7 => ?_)
      · have h := h.1 c7
        refine v_iconst C dX8_expectedBehind_66 ?_
        exact v_iret C (by decide) h dX8_expectedBehind_67
      · have h := h.2 c7
        refine v_iconst C dX8_expectedBehind_62 ?_
        refine v_goto C 67 dX8_expectedBehind_63 (by decide) ?_
        exact v_iret C (by decide) h dX8_expectedBehind_67
  · have h := h.2 c21
    refine v_iload_n C 0 dX8_expectedBehind_4 rfl rfl ?_
    refine v_callsi (As := [.int (iI a1)]) (rest := []) C (s_X8_isRegisterLetter hlo hhi r1 h) w556 wy_X8_isRegisterLetter ⟨rfl, rfl⟩ hd_X8_isRegisterLetter ⟨Nat.le_of_ble_eq_true rfl, Nat.le_of_ble_eq_true rfl⟩ rfl rfl (Nat.le_of_ble_eq_true rfl) dX8_expectedBehind_5 (fun z10 σ9 rz10 h => ?_)
    refine v_R (fun hRσ9 => ?_)
    obtain ⟨J13, hJ13, h⟩ := h
    have kJ13 : ∀ (x11 : Int) (σ12 : SG), J13 x11 σ12 → inR x11 → V p l e rm_X8_expectedBehind s m args below meth c D aC B lo hi 3 (MQ below (QI D aC B lo hi Q) args s 0 0 (AB B lo hi)) σ12 29 [(0, .int (iI a1))] [.int (iI x11)] := by
      intro x11 σ12 hj rx11
      have h := hJ13 x11 σ12 hj
      refine v_R (fun hRσ12 => ?_)
      refine v_istore_n (lv' := [(2, .int (iI x11)), (0, .int (iI a1))]) C dX8_expectedBehind_29 rfl (by decide) rfl ?_
      refine v_iload_n C 0 dX8_expectedBehind_30 rfl rfl ?_
      refine v_if_eq C rx11 38 dX8_expectedBehind_31 (by decide) (fun c15 => ?_) (fun c15 => ?_)
      · have h := h.1 c15
        refine v_iload_n C 1 dX8_expectedBehind_38 rfl rfl ?_
        refine v_bipush C dX8_expectedBehind_39 (by decide) ?_
        refine v_icmp_ne C r1 (by decide) 48 dX8_expectedBehind_41 (by decide) (fun c14 => ?_) (fun c14 => ?_)
        · have h := h.1 c14
          refine v_iconst C dX8_expectedBehind_48 ?_
          exact v_iret C (by decide) h dX8_expectedBehind_49
        · have h := h.2 c14
          refine v_iconst C dX8_expectedBehind_44 ?_
          refine v_goto C 49 dX8_expectedBehind_45 (by decide) ?_
          exact v_iret C (by decide) h dX8_expectedBehind_49
      · have h := h.2 c15
        refine v_iconst C dX8_expectedBehind_34 ?_
        refine v_goto C 49 dX8_expectedBehind_35 (by decide) ?_
        exact v_iret C (by decide) h dX8_expectedBehind_49
    refine v_if_ne C rz10 24 dX8_expectedBehind_8 (by decide) (fun c20 => ?_) (fun c20 => ?_)
    · have h := h.1 c20
      refine v_iconst C dX8_expectedBehind_24 ?_
      refine v_goto C 29 dX8_expectedBehind_25 (by decide) ?_
      refine v_sub [0] rfl ?_
      exact kJ13 1 σ9 h (by decide)
    · have h := h.2 c20
      refine v_iload_n C 0 dX8_expectedBehind_11 rfl rfl ?_
      refine v_callsi (As := [.int (iI a1)]) (rest := []) C (s_X8_isDigit hlo hhi r1 h) w466 wy_X8_isDigit ⟨rfl, rfl⟩ hd_X8_isDigit ⟨Nat.le_of_ble_eq_true rfl, Nat.le_of_ble_eq_true rfl⟩ rfl rfl (Nat.le_of_ble_eq_true rfl) dX8_expectedBehind_12 (fun z17 σ16 rz17 h => ?_)
      refine v_R (fun hRσ16 => ?_)
      refine v_if_ne C rz17 24 dX8_expectedBehind_15 (by decide) (fun c19 => ?_) (fun c19 => ?_)
      · have h := h.1 c19
        refine v_iconst C dX8_expectedBehind_24 ?_
        refine v_goto C 29 dX8_expectedBehind_25 (by decide) ?_
        refine v_sub [0] rfl ?_
        exact kJ13 1 σ16 h (by decide)
      · have h := h.2 c19
        refine v_iload_n C 0 dX8_expectedBehind_18 rfl rfl ?_
        refine v_bipush C dX8_expectedBehind_19 (by decide) ?_
        refine v_icmp_ne C r1 (by decide) 28 dX8_expectedBehind_21 (by decide) (fun c18 => ?_) (fun c18 => ?_)
        · have h := h.1 c18
          refine v_iconst C dX8_expectedBehind_28 ?_
          refine v_sub [0] rfl ?_
          exact kJ13 0 σ16 h (by decide)
        · have h := h.2 c18
          refine v_iconst C dX8_expectedBehind_24 ?_
          refine v_goto C 29 dX8_expectedBehind_25 (by decide) ?_
          refine v_sub [0] rfl ?_
          exact kJ13 1 σ16 h (by decide)
-- SplitTowers$Text.assignmentFault()I
def wp_X8_assignmentFault (σ : SG)  (Q : Int → SG → Prop) : Prop :=
  wp_X8_at σ 0 (fun (z2 : Int) (σ1 : SG) => wp_X8_isRegisterLetter σ1 z2 (fun (z4 : Int) (σ3 : SG) => ((¬ z4 = 0 → wp_X8_at σ3 1 (fun (z6 : Int) (σ5 : SG) => ((z6 = 61 → Lp3 (fun (rec11 : Int → Int → Int → SG → Prop) (x7 : Int) (x8 : Int) (x9 : Int) (σ10 : SG) => (((σ10 30 1) ≤ x7 → Jn1 (fun (x14 : Int) (σ15 : SG) => ((x14 = 0 → Q (σ15 30 1) σ15) ∧ (¬ x14 = 0 → Q (-1) σ15))) (fun J16 => ((¬ x9 = 0 → J16 0 σ10) ∧ (x9 = 0 → ((x8 = 1 → J16 1 σ10) ∧ (¬ x8 = 1 → ((¬ x8 = 3 → J16 0 σ10) ∧ (x8 = 3 → J16 1 σ10)))))))) ∧ (¬ (σ10 30 1) ≤ x7 → ((0 ≤ x7 ∧ x7 < 60) ∧ (∀ v22 : Int, v22 = (σ10 31 x7.toNat) → wp_X8_expectedBehind σ10 v22 x8 (fun (z24 : Int) (σ23 : SG) => Jn1 (fun (x25 : Int) (σ26 : SG) => (inR (x9 + x25) ∧ (∀ v29 : Int, v29 = x9 + x25 → ((z24 < 0 → Q x7 σ26) ∧ (¬ z24 < 0 → ((v29 < 0 → Q x7 σ26) ∧ (¬ v29 < 0 → ((v29 ≤ 5 → (inR (x7 + 1) ∧ rec11 (x7 + 1) z24 v29 σ26)) ∧ (¬ v29 ≤ 5 → Q x7 σ26))))))))) (fun J27 => ((¬ v22 = 40 → ((¬ v22 = 41 → J27 0 σ23) ∧ (v22 = 41 → J27 (-1) σ23))) ∧ (v22 = 40 → J27 1 σ23))))))))) 2 0 0 σ5) ∧ (¬ z6 = 61 → Q 1 σ5)))) ∧ (z4 = 0 → Q 0 σ3))))
def rm_X8_assignmentFault : Room := { frames := 2, cells := 0, slots := 0, locals := 42 }
theorem wy_X8_assignmentFault : Cond.instanceMethod yX8_assignmentFault ∈ WS ∧ Cond.selects "SplitTowers$Text" yX8_assignmentFault yX8_assignmentFault ∈ WS ∧ Cond.initialized "SplitTowers$Text" ∈ WS ∧ Cond.code yX8_assignmentFault prog_10_method_8_code 5 (some .int) ∈ WS := ⟨w549, w550, w72, w551⟩
theorem hd_X8_assignmentFault : yX8_assignmentFault.cls = "SplitTowers$Text" ∧ yX8_assignmentFault.cls ≠ "java/lang/invoke/MethodHandle" ∧ yX8_assignmentFault.cls ≠ "java/lang/invoke/VarHandle" ∧ (parseMethodDescriptor yX8_assignmentFault.desc).map (fun d => d.parameters.length) = some 0 := by decide +kernel
set_option maxHeartbeats 4000000 in
set_option maxRecDepth 100000 in
theorem s_X8_assignmentFault {l : Launch} {D : va_G} {aC : Nat → ClassId} {B lo hi : Nat} {σ : SG}  {Q : Int → SG → Prop} (hlo : lo ≤ 0) (hhi : 304 ≤ hi) (h : wp_X8_assignmentFault σ  Q) : Met l yX8_assignmentFault (Cond.code yX8_assignmentFault prog_10_method_8_code 5 (some .int) :: WS) rm_X8_assignmentFault (va_Pc [.ref (B + 30)] (WP D aC B lo hi σ)) (QI D aC B lo hi Q) 0 0 (AB B lo hi) := by
  refine met_of (by decide +kernel) (by decide +kernel : yX8_assignmentFault.cls = "SplitTowers$Text") (Nat.le_of_ble_eq_true rfl) ?_
  intro p e s m args below meth c C
  unfold wp_X8_assignmentFault at h
  refine v_R (fun hR0 => ?_)
  show V p l e rm_X8_assignmentFault s m args below meth c D aC B lo hi 5 (MQ below (QI D aC B lo hi Q) args s 0 0 (AB B lo hi)) σ 0 [(0, .ref (B + 30))] []
  refine v_aload_n C 0 dX8_assignmentFault_0 rfl rfl ?_
  refine v_iconst C dX8_assignmentFault_1 ?_
  refine v_calli (i := 30) (As := [.int (iI 0)]) (rest := []) C (s_X8_at hlo hhi (by decide) h) w552 wy_X8_at ⟨rfl, rfl⟩ hd_X8_at ⟨Nat.le_of_ble_eq_true rfl, Nat.le_of_ble_eq_true rfl⟩ (Nat.le_trans hlo (Nat.zero_le _)) (Nat.lt_of_lt_of_le (by decide) hhi) rfl rfl rfl rfl (Nat.le_of_ble_eq_true rfl) dX8_assignmentFault_2 (fun z2 σ1 rz2 h => ?_)
  refine v_R (fun hRσ1 => ?_)
  refine v_callsi (As := [.int (iI z2)]) (rest := []) C (s_X8_isRegisterLetter hlo hhi rz2 h) w556 wy_X8_isRegisterLetter ⟨rfl, rfl⟩ hd_X8_isRegisterLetter ⟨Nat.le_of_ble_eq_true rfl, Nat.le_of_ble_eq_true rfl⟩ rfl rfl (Nat.le_of_ble_eq_true rfl) dX8_assignmentFault_5 (fun z4 σ3 rz4 h => ?_)
  refine v_R (fun hRσ3 => ?_)
  refine v_if_ne C rz4 13 dX8_assignmentFault_8 (by decide) (fun c40 => ?_) (fun c40 => ?_)
  · have h := h.1 c40
    refine v_aload_n C 0 dX8_assignmentFault_13 rfl rfl ?_
    refine v_iconst C dX8_assignmentFault_14 ?_
    refine v_calli (i := 30) (As := [.int (iI 1)]) (rest := []) C (s_X8_at hlo hhi (by decide) h) w552 wy_X8_at ⟨rfl, rfl⟩ hd_X8_at ⟨Nat.le_of_ble_eq_true rfl, Nat.le_of_ble_eq_true rfl⟩ (Nat.le_trans hlo (Nat.zero_le _)) (Nat.lt_of_lt_of_le (by decide) hhi) rfl rfl rfl rfl (Nat.le_of_ble_eq_true rfl) dX8_assignmentFault_15 (fun z6 σ5 rz6 h => ?_)
    refine v_R (fun hRσ5 => ?_)
    refine v_bipush C dX8_assignmentFault_18 (by decide) ?_
    refine v_icmp_eq C rz6 (by decide) 25 dX8_assignmentFault_20 (by decide) (fun c39 => ?_) (fun c39 => ?_)
    · have h := h.1 c39
      refine v_iconst C dX8_assignmentFault_25 ?_
      refine v_istore_n (lv' := [(1, .int (iI 0)), (0, .ref (B + 30))]) C dX8_assignmentFault_26 rfl (by decide) rfl ?_
      refine v_iconst C dX8_assignmentFault_27 ?_
      refine v_istore_n (lv' := [(2, .int (iI 0)), (1, .int (iI 0)), (0, .ref (B + 30))]) C dX8_assignmentFault_28 rfl (by decide) rfl ?_
      refine v_iconst C dX8_assignmentFault_29 ?_
      refine v_istore_n (lv' := [(3, .int (iI 2)), (2, .int (iI 0)), (1, .int (iI 0)), (0, .ref (B + 30))]) C dX8_assignmentFault_30 rfl (by decide) rfl ?_
      obtain ⟨I37, ⟨n38, hnn38⟩, hII37⟩ := h
      have key13 : ∀ (n : Nat) (x7 : Int) (x8 : Int) (x9 : Int) (σ10 : SG), I37 n x7 x8 x9 σ10 → inR x7 → inR x8 → inR x9 → V p l e rm_X8_assignmentFault s m args below meth c D aC B lo hi 5 (MQ below (QI D aC B lo hi Q) args s 0 0 (AB B lo hi)) σ10 31 [(3, .int (iI x7)), (2, .int (iI x8)), (1, .int (iI x9)), (0, .ref (B + 30))] [] := by
        intro n
        induction n using Nat.strongRecOn with
        | ind n ih12 =>
          intro x7 x8 x9 σ10 hn rx7 rx8 rx9
          have h := hII37 n x7 x8 x9 σ10 hn
          refine v_R (fun hRσ10 => ?_)
          refine v_iload_n C 0 dX8_assignmentFault_31 rfl rfl ?_
          refine v_aload_n C 3 dX8_assignmentFault_32 rfl rfl ?_
          refine gf8_length C hlo hhi w188 dX8_assignmentFault_33 ?_
          refine v_icmp_ge C rx7 (hRσ10 30 1) 101 dX8_assignmentFault_36 (by decide) (fun c36 => ?_) (fun c36 => ?_)
          · have h := h.1 c36
            refine v_iload_n C 2 dX8_assignmentFault_101 rfl rfl ?_
            obtain ⟨J16, hJ16, h⟩ := h
            have kJ16 : ∀ (x14 : Int) (σ15 : SG), J16 x14 σ15 → inR x14 → V p l e rm_X8_assignmentFault s m args below meth c D aC B lo hi 5 (MQ below (QI D aC B lo hi Q) args s 0 0 (AB B lo hi)) σ15 120 [(0, .ref (B + 30))] [.int (iI x14)] := by
              intro x14 σ15 hj rx14
              have h := hJ16 x14 σ15 hj
              refine v_R (fun hRσ15 => ?_)
              refine v_istore_n (lv' := [(3, .int (iI x14)), (0, .ref (B + 30))]) C dX8_assignmentFault_120 rfl (by decide) rfl ?_
              refine v_iload_n C 0 dX8_assignmentFault_121 rfl rfl ?_
              refine v_if_eq C rx14 129 dX8_assignmentFault_122 (by decide) (fun c17 => ?_) (fun c17 => ?_)
              · have h := h.1 c17
                refine v_aload_n C 1 dX8_assignmentFault_129 rfl rfl ?_
                refine gf8_length C hlo hhi w188 dX8_assignmentFault_130 ?_
                exact v_iret C (hRσ15 30 1) h dX8_assignmentFault_133
              · have h := h.2 c17
                refine v_iconst C dX8_assignmentFault_125 ?_
                refine v_goto C 133 dX8_assignmentFault_126 (by decide) ?_
                exact v_iret C (by decide) h dX8_assignmentFault_133
            refine v_if_ne C rx9 119 dX8_assignmentFault_102 (by decide) (fun c20 => ?_) (fun c20 => ?_)
            · have h := h.1 c20
              refine v_iconst C dX8_assignmentFault_119 ?_
              refine v_sub [3] rfl ?_
              exact kJ16 0 σ10 h (by decide)
            · have h := h.2 c20
              refine v_iload_n C 1 dX8_assignmentFault_105 rfl rfl ?_
              refine v_iconst C dX8_assignmentFault_106 ?_
              refine v_icmp_eq C rx8 (by decide) 115 dX8_assignmentFault_107 (by decide) (fun c19 => ?_) (fun c19 => ?_)
              · have h := h.1 c19
                refine v_iconst C dX8_assignmentFault_115 ?_
                refine v_goto C 120 dX8_assignmentFault_116 (by decide) ?_
                refine v_sub [3] rfl ?_
                exact kJ16 1 σ10 h (by decide)
              · have h := h.2 c19
                refine v_iload_n C 1 dX8_assignmentFault_110 rfl rfl ?_
                refine v_iconst C dX8_assignmentFault_111 ?_
                refine v_icmp_ne C rx8 (by decide) 119 dX8_assignmentFault_112 (by decide) (fun c18 => ?_) (fun c18 => ?_)
                · have h := h.1 c18
                  refine v_iconst C dX8_assignmentFault_119 ?_
                  refine v_sub [3] rfl ?_
                  exact kJ16 0 σ10 h (by decide)
                · have h := h.2 c18
                  refine v_iconst C dX8_assignmentFault_115 ?_
                  refine v_goto C 120 dX8_assignmentFault_116 (by decide) ?_
                  refine v_sub [3] rfl ?_
                  exact kJ16 1 σ10 h (by decide)
          · have h := h.2 c36
            refine v_aload_n C 3 dX8_assignmentFault_39 rfl rfl ?_
            refine gf8_characters C hlo hhi w187 dX8_assignmentFault_40 ?_
            refine v_iload_n C 0 dX8_assignmentFault_43 rfl rfl ?_
            have k21 := h.1
            have h := h.2
            refine v_iald (i := 31) (n := 60) C (Nat.le_trans hlo (Nat.zero_le _)) (Nat.lt_of_lt_of_le (by decide) hhi) rfl rx7 k21 dX8_assignmentFault_44 ?_
            refine v_name (fun v22 ev22 => ?_)
            have h := h v22 ev22
            have rv22 : inR v22 := by rw [ev22]; exact (hRσ10 31 _)
            refine v_istore (lv' := [(4, .int (iI v22)), (3, .int (iI x7)), (2, .int (iI x8)), (1, .int (iI x9)), (0, .ref (B + 30))]) C dX8_assignmentFault_45 (by decide) rfl ?_
            refine v_iload C 0 dX8_assignmentFault_47 rfl ?_
            refine v_iload_n C 2 dX8_assignmentFault_49 rfl rfl ?_
            refine v_callsi (As := [.int (iI v22), .int (iI x8)]) (rest := []) C (s_X8_expectedBehind hlo hhi rv22 rx8 h) w559 wy_X8_expectedBehind ⟨rfl, rfl⟩ hd_X8_expectedBehind ⟨Nat.le_of_ble_eq_true rfl, Nat.le_of_ble_eq_true rfl⟩ rfl rfl (Nat.le_of_ble_eq_true rfl) dX8_assignmentFault_50 (fun z24 σ23 rz24 h => ?_)
            refine v_R (fun hRσ23 => ?_)
            refine v_istore_n (lv' := [(2, .int (iI z24)), (4, .int (iI v22)), (3, .int (iI x7)), (1, .int (iI x9)), (0, .ref (B + 30))]) C dX8_assignmentFault_53 rfl (by decide) rfl ?_
            refine v_iload_n C 3 dX8_assignmentFault_54 rfl rfl ?_
            refine v_iload C 1 dX8_assignmentFault_55 rfl ?_
            refine v_bipush C dX8_assignmentFault_57 (by decide) ?_
            obtain ⟨J27, hJ27, h⟩ := h
            have kJ27 : ∀ (x25 : Int) (σ26 : SG), J27 x25 σ26 → inR x25 → V p l e rm_X8_assignmentFault s m args below meth c D aC B lo hi 5 (MQ below (QI D aC B lo hi Q) args s 0 0 (AB B lo hi)) σ26 78 [(2, .int (iI z24)), (3, .int (iI x7)), (0, .ref (B + 30))] [.int (iI x25), .int (iI x9)] := by
              intro x25 σ26 hj rx25
              have h := hJ27 x25 σ26 hj
              refine v_R (fun hRσ26 => ?_)
              have k28 := h.1
              have h := h.2
              refine v_iadd C dX8_assignmentFault_78 ?_
              refine v_name (fun v29 ev29 => ?_)
              have h := h v29 ev29
              have rv29 : inR v29 := by rw [ev29]; exact k28
              refine v_istore_n (lv' := [(1, .int (iI v29)), (2, .int (iI z24)), (3, .int (iI x7)), (0, .ref (B + 30))]) C dX8_assignmentFault_79 rfl (by decide) rfl ?_
              refine v_iload_n C 1 dX8_assignmentFault_80 rfl rfl ?_
              refine v_if_lt C rz24 93 dX8_assignmentFault_81 (by decide) (fun c33 => ?_) (fun c33 => ?_)
              · have h := h.1 c33
                refine v_iload_n C 2 dX8_assignmentFault_93 rfl rfl ?_
                exact v_iret C rx7 h dX8_assignmentFault_94
              · have h := h.2 c33
                refine v_iload_n C 0 dX8_assignmentFault_84 rfl rfl ?_
                refine v_if_lt C rv29 93 dX8_assignmentFault_85 (by decide) (fun c32 => ?_) (fun c32 => ?_)
                · have h := h.1 c32
                  refine v_iload_n C 2 dX8_assignmentFault_93 rfl rfl ?_
                  exact v_iret C rx7 h dX8_assignmentFault_94
                · have h := h.2 c32
                  refine v_iload_n C 0 dX8_assignmentFault_88 rfl rfl ?_
                  refine v_iconst C dX8_assignmentFault_89 ?_
                  refine v_icmp_le C rv29 (by decide) 95 dX8_assignmentFault_90 (by decide) (fun c31 => ?_) (fun c31 => ?_)
                  · have h := h.1 c31
                    have k30 := h.1
                    have h := h.2
                    refine v_iinc (lv' := [(3, .int (iI (x7 + 1))), (1, .int (iI v29)), (2, .int (iI z24)), (0, .ref (B + 30))]) C 2 dX8_assignmentFault_95 rfl (by decide) rfl ?_
                    refine v_goto C 31 dX8_assignmentFault_98 (by decide) ?_
                    obtain ⟨m9, hm9, h⟩ := h
                    refine v_sub [0, 2, 1, 3] rfl ?_
                    exact ih12 m9 hm9 (x7 + 1) z24 v29 σ26 h k30 rz24 rv29
                  · have h := h.2 c31
                    refine v_iload_n C 2 dX8_assignmentFault_93 rfl rfl ?_
                    exact v_iret C rx7 h dX8_assignmentFault_94
            refine v_icmp_ne C rv22 (by decide) 66 dX8_assignmentFault_59 (by decide) (fun c35 => ?_) (fun c35 => ?_)
            · have h := h.1 c35
              refine v_iload C 1 dX8_assignmentFault_66 rfl ?_
              refine v_bipush C dX8_assignmentFault_68 (by decide) ?_
              refine v_icmp_ne C rv22 (by decide) 77 dX8_assignmentFault_70 (by decide) (fun c34 => ?_) (fun c34 => ?_)
              · have h := h.1 c34
                refine v_iconst C dX8_assignmentFault_77 ?_
                refine v_sub [0, 2, 4] rfl ?_
                exact kJ27 0 σ23 h (by decide)
              · have h := h.2 c34
                refine v_iconst C dX8_assignmentFault_73 ?_
                refine v_goto C 78 dX8_assignmentFault_74 (by decide) ?_
                refine v_sub [0, 2, 4] rfl ?_
                exact kJ27 (-1) σ23 h (by decide)
            · have h := h.2 c35
              refine v_iconst C dX8_assignmentFault_62 ?_
              refine v_goto C 78 dX8_assignmentFault_63 (by decide) ?_
              refine v_sub [0, 2, 4] rfl ?_
              exact kJ27 1 σ23 h (by decide)
      exact key13 n38 2 0 0 σ5 hnn38 (by decide) (by decide) (by decide)
    · have h := h.2 c39
      refine v_iconst C dX8_assignmentFault_23 ?_
      exact v_iret C (by decide) h dX8_assignmentFault_24
  · have h := h.2 c40
    refine v_iconst C dX8_assignmentFault_11 ?_
    exact v_iret C (by decide) h dX8_assignmentFault_12
-- SplitTowers$Text.copyPolynomial(LSplitTowers$Poly;)V
def wp_X8_copyPolynomial (σ : SG) (q1 : Nat) (Q : SG → Prop) : Prop :=
  wp_X4_clear σ q1 (fun (σ1 : SG) => Lp1 (fun (rec4 : Int → SG → Prop) (x2 : Int) (σ3 : SG) => (((σ3 30 3) ≤ x2 → Q σ3) ∧ (¬ (σ3 30 3) ≤ x2 → ((0 ≤ x2 ∧ x2 < 7) ∧ wp_X4_set σ3 q1 x2 (σ3 32 x2.toNat) (fun (σ8 : SG) => (inR (x2 + 1) ∧ rec4 (x2 + 1) σ8)))))) 0 σ1)
def rm_X8_copyPolynomial : Room := { frames := 2, cells := 0, slots := 0, locals := 43 }
theorem wy_X8_copyPolynomial : Cond.instanceMethod yX8_copyPolynomial ∈ WS ∧ Cond.selects "SplitTowers$Text" yX8_copyPolynomial yX8_copyPolynomial ∈ WS ∧ Cond.initialized "SplitTowers$Text" ∈ WS ∧ Cond.code yX8_copyPolynomial prog_10_method_7_code 3 none ∈ WS := ⟨w479, w480, w72, w481⟩
theorem hd_X8_copyPolynomial : yX8_copyPolynomial.cls = "SplitTowers$Text" ∧ yX8_copyPolynomial.cls ≠ "java/lang/invoke/MethodHandle" ∧ yX8_copyPolynomial.cls ≠ "java/lang/invoke/VarHandle" ∧ (parseMethodDescriptor yX8_copyPolynomial.desc).map (fun d => d.parameters.length) = some 1 := by decide +kernel
set_option maxHeartbeats 4000000 in
set_option maxRecDepth 100000 in
theorem s_X8_copyPolynomial {l : Launch} {D : va_G} {aC : Nat → ClassId} {B lo hi : Nat} {σ : SG} {q1 : Nat} {Q : SG → Prop} (hlo : lo ≤ 0) (hhi : 304 ≤ hi) (p1 : PO lo hi q1) (h : wp_X8_copyPolynomial σ q1 Q) : Met l yX8_copyPolynomial (Cond.code yX8_copyPolynomial prog_10_method_7_code 3 none :: WS) rm_X8_copyPolynomial (va_Pc [.ref (B + 30), .ref (B + q1)] (WP D aC B lo hi σ)) (QV D aC B lo hi Q) 0 0 (AB B lo hi) := by
  refine met_of (by decide +kernel) (by decide +kernel : yX8_copyPolynomial.cls = "SplitTowers$Text") (Nat.le_of_ble_eq_true rfl) ?_
  intro p e s m args below meth c C
  unfold wp_X8_copyPolynomial at h
  refine v_R (fun hR0 => ?_)
  show V p l e rm_X8_copyPolynomial s m args below meth c D aC B lo hi 3 (MQ below (QV D aC B lo hi Q) args s 0 0 (AB B lo hi)) σ 0 [(0, .ref (B + 30)), (1, .ref (B + q1))] []
  refine v_aload_n C 1 dX8_copyPolynomial_0 rfl rfl ?_
  refine v_callv (i := q1) (As := []) (rest := []) C (s_X4_clear p1 h) w482 wy_X4_clear ⟨rfl, rfl⟩ hd_X4_clear ⟨Nat.le_of_ble_eq_true rfl, Nat.le_of_ble_eq_true rfl⟩ (PO.lo p1) (PO.hi p1) (cel_of (p1).1) rfl rfl rfl (Nat.le_of_ble_eq_true rfl) dX8_copyPolynomial_1 (fun σ1 h => ?_)
  refine v_R (fun hRσ1 => ?_)
  refine v_iconst C dX8_copyPolynomial_4 ?_
  refine v_istore_n (lv' := [(2, .int (iI 0)), (0, .ref (B + 30)), (1, .ref (B + q1))]) C dX8_copyPolynomial_5 rfl (by decide) rfl ?_
  obtain ⟨I11, ⟨n12, hnn12⟩, hII11⟩ := h
  have key6 : ∀ (n : Nat) (x2 : Int) (σ3 : SG), I11 n x2 σ3 → inR x2 → V p l e rm_X8_copyPolynomial s m args below meth c D aC B lo hi 3 (MQ below (QV D aC B lo hi Q) args s 0 0 (AB B lo hi)) σ3 6 [(2, .int (iI x2)), (0, .ref (B + 30)), (1, .ref (B + q1))] [] := by
    intro n
    induction n using Nat.strongRecOn with
    | ind n ih5 =>
      intro x2 σ3 hn rx2
      have h := hII11 n x2 σ3 hn
      refine v_R (fun hRσ3 => ?_)
      refine v_iload_n C 0 dX8_copyPolynomial_6 rfl rfl ?_
      refine v_aload_n C 1 dX8_copyPolynomial_7 rfl rfl ?_
      refine gf8_toldCount C hlo hhi w193 dX8_copyPolynomial_8 ?_
      refine v_icmp_ge C rx2 (hRσ3 30 3) 31 dX8_copyPolynomial_11 (by decide) (fun c10 => ?_) (fun c10 => ?_)
      · have h := h.1 c10
        exact v_vret C h dX8_copyPolynomial_31
      · have h := h.2 c10
        refine v_aload_n C 2 dX8_copyPolynomial_14 rfl rfl ?_
        refine v_iload_n C 0 dX8_copyPolynomial_15 rfl rfl ?_
        refine v_aload_n C 1 dX8_copyPolynomial_16 rfl rfl ?_
        refine gf8_told C hlo hhi w191 dX8_copyPolynomial_17 ?_
        refine v_iload_n C 0 dX8_copyPolynomial_20 rfl rfl ?_
        have k7 := h.1
        have h := h.2
        refine v_iald (i := 32) (n := 7) C (Nat.le_trans hlo (Nat.zero_le _)) (Nat.lt_of_lt_of_le (by decide) hhi) rfl rx2 k7 dX8_copyPolynomial_21 ?_
        refine v_callv (i := q1) (As := [.int (iI x2), .int (iI (σ3 32 x2.toNat))]) (rest := []) C (s_X4_set p1 rx2 (hRσ3 32 _) h) w483 wy_X4_set ⟨rfl, rfl⟩ hd_X4_set ⟨Nat.le_of_ble_eq_true rfl, Nat.le_of_ble_eq_true rfl⟩ (PO.lo p1) (PO.hi p1) (cel_of (p1).1) rfl rfl rfl (Nat.le_of_ble_eq_true rfl) dX8_copyPolynomial_22 (fun σ8 h => ?_)
        refine v_R (fun hRσ8 => ?_)
        have k9 := h.1
        have h := h.2
        refine v_iinc (lv' := [(2, .int (iI (x2 + 1))), (0, .ref (B + 30)), (1, .ref (B + q1))]) C 0 dX8_copyPolynomial_25 rfl (by decide) rfl ?_
        refine v_goto C 6 dX8_copyPolynomial_28 (by decide) ?_
        obtain ⟨m9, hm9, h⟩ := h
        exact ih5 m9 hm9 (x2 + 1) σ8 h k9
  exact key6 n12 0 σ1 hnn12 (by decide)
-- SplitTowers$Text.tell(I)V
def wp_X8_tell (σ : SG) (a1 : Int) (Q : SG → Prop) : Prop :=
  ((7 ≤ (σ 30 3) → Q σ) ∧ (¬ 7 ≤ (σ 30 3) → ((0 ≤ (σ 30 3) ∧ (σ 30 3) < 7) ∧ (∀ σ2 : SG, σ2 = ug σ 32 ((σ 30 3).toNat) a1 → (inR ((σ2 30 3) + 1) ∧ (∀ σ4 : SG, σ4 = ug σ2 30 3 ((σ2 30 3) + 1) → Q σ4))))))
def rm_X8_tell : Room := { frames := 0, cells := 0, slots := 0, locals := 0 }
theorem wy_X8_tell : Cond.instanceMethod yX8_tell ∈ WS ∧ Cond.selects "SplitTowers$Text" yX8_tell yX8_tell ∈ WS ∧ Cond.initialized "SplitTowers$Text" ∈ WS ∧ Cond.code yX8_tell prog_10_method_10_code 2 none ∈ WS := ⟨w472, w2, w72, w473⟩
theorem hd_X8_tell : yX8_tell.cls = "SplitTowers$Text" ∧ yX8_tell.cls ≠ "java/lang/invoke/MethodHandle" ∧ yX8_tell.cls ≠ "java/lang/invoke/VarHandle" ∧ (parseMethodDescriptor yX8_tell.desc).map (fun d => d.parameters.length) = some 1 := by decide +kernel
set_option maxHeartbeats 4000000 in
set_option maxRecDepth 100000 in
theorem s_X8_tell {l : Launch} {D : va_G} {aC : Nat → ClassId} {B lo hi : Nat} {σ : SG} {a1 : Int} {Q : SG → Prop} (hlo : lo ≤ 0) (hhi : 304 ≤ hi) (r1 : inR a1) (h : wp_X8_tell σ a1 Q) : Met l yX8_tell (Cond.code yX8_tell prog_10_method_10_code 2 none :: WS) rm_X8_tell (va_Pc [.ref (B + 30), .int (iI a1)] (WP D aC B lo hi σ)) (QV D aC B lo hi Q) 0 0 (AB B lo hi) := by
  refine met_of (by decide +kernel) (by decide +kernel : yX8_tell.cls = "SplitTowers$Text") (Nat.le_of_ble_eq_true rfl) ?_
  intro p e s m args below meth c C
  unfold wp_X8_tell at h
  refine v_R (fun hR0 => ?_)
  show V p l e rm_X8_tell s m args below meth c D aC B lo hi 2 (MQ below (QV D aC B lo hi Q) args s 0 0 (AB B lo hi)) σ 0 [(0, .ref (B + 30)), (1, .int (iI a1))] []
  refine v_aload_n C 0 dX8_tell_0 rfl rfl ?_
  refine gf8_toldCount C hlo hhi w193 dX8_tell_1 ?_
  refine v_bipush C dX8_tell_4 (by decide) ?_
  refine v_icmp_ge C (hR0 30 3) (by decide) 29 dX8_tell_6 (by decide) (fun c5 => ?_) (fun c5 => ?_)
  · have h := h.1 c5
    exact v_vret C h dX8_tell_29
  · have h := h.2 c5
    refine v_aload_n C 0 dX8_tell_9 rfl rfl ?_
    refine gf8_told C hlo hhi w191 dX8_tell_10 ?_
    refine v_aload_n C 0 dX8_tell_13 rfl rfl ?_
    refine gf8_toldCount C hlo hhi w193 dX8_tell_14 ?_
    refine v_iload_n C 1 dX8_tell_17 rfl rfl ?_
    have k1 := h.1
    have h := h.2
    refine v_iast (i := 32) (n := 7) C (Nat.le_trans hlo (Nat.zero_le _)) (Nat.lt_of_lt_of_le (by decide) hhi) (fun _ => rfl) (hR0 30 3) k1 r1 dX8_tell_18 ?_
    refine v_nameS (fun σ2 eσ2 => ?_)
    have h := h σ2 eσ2
    refine v_R (fun hRσ2 => ?_)
    refine v_aload_n C 0 dX8_tell_19 rfl rfl ?_
    refine v_dup C rfl dX8_tell_20 ?_
    refine gf8_toldCount C hlo hhi w193 dX8_tell_21 ?_
    refine v_iconst C dX8_tell_24 ?_
    have k3 := h.1
    have h := h.2
    refine v_iadd C dX8_tell_25 ?_
    refine pf8_toldCount C hlo hhi k3 w193 dX8_tell_26 ?_
    refine v_nameS (fun σ4 eσ4 => ?_)
    have h := h σ4 eσ4
    refine v_R (fun hRσ4 => ?_)
    exact v_vret C h dX8_tell_29
-- SplitTowers$Text.polynomialFault()I
def wp_X8_polynomialFault (σ : SG)  (Q : Int → SG → Prop) : Prop :=
  (∀ σ1 : SG, σ1 = ug σ 30 3 0 → Lp2 (fun (rec5 : Int → Int → SG → Prop) (x2 : Int) (x3 : Int) (σ4 : SG) => (((σ4 30 1) ≤ x2 → ((0 ≤ x3 → wp_X8_tell σ4 x3 (fun (σ8 : SG) => Q (-1) σ8)) ∧ (¬ 0 ≤ x3 → Q (σ4 30 1) σ4))) ∧ (¬ (σ4 30 1) ≤ x2 → ((0 ≤ x2 ∧ x2 < 60) ∧ (∀ v11 : Int, v11 = (σ4 31 x2.toNat) → wp_X8_isDigit σ4 v11 (fun (z13 : Int) (σ12 : SG) => ((z13 = 0 → ((¬ v11 = 44 → Q x2 σ12) ∧ (v11 = 44 → ((x3 < 0 → Q x2 σ12) ∧ (¬ x3 < 0 → ((6 ≤ (σ12 30 3) → Q x2 σ12) ∧ (¬ 6 ≤ (σ12 30 3) → wp_X8_tell σ12 x3 (fun (σ14 : SG) => (inR (x2 + 1) ∧ rec5 (x2 + 1) (-1) σ14))))))))) ∧ (¬ z13 = 0 → (inR ((imax x3 0) * 10) ∧ (inR (((imax x3 0) * 10) + v11) ∧ (inR ((((imax x3 0) * 10) + v11) - 48) ∧ (∀ v22 : Int, v22 = (((imax x3 0) * 10) + v11) - 48 → ((x3 = 0 → Q x2 σ12) ∧ (¬ x3 = 0 → ((v22 ≤ 12 → (inR (x2 + 1) ∧ rec5 (x2 + 1) v22 σ12)) ∧ (¬ v22 ≤ 12 → Q x2 σ12)))))))))))))))) 0 (-1) σ1)
def rm_X8_polynomialFault : Room := { frames := 1, cells := 0, slots := 0, locals := 21 }
theorem wy_X8_polynomialFault : Cond.instanceMethod yX8_polynomialFault ∈ WS ∧ Cond.selects "SplitTowers$Text" yX8_polynomialFault yX8_polynomialFault ∈ WS ∧ Cond.initialized "SplitTowers$Text" ∈ WS ∧ Cond.code yX8_polynomialFault prog_10_method_6_code 5 (some .int) ∈ WS := ⟨w463, w464, w72, w465⟩
theorem hd_X8_polynomialFault : yX8_polynomialFault.cls = "SplitTowers$Text" ∧ yX8_polynomialFault.cls ≠ "java/lang/invoke/MethodHandle" ∧ yX8_polynomialFault.cls ≠ "java/lang/invoke/VarHandle" ∧ (parseMethodDescriptor yX8_polynomialFault.desc).map (fun d => d.parameters.length) = some 0 := by decide +kernel
set_option maxHeartbeats 4000000 in
set_option maxRecDepth 100000 in
theorem s_X8_polynomialFault {l : Launch} {D : va_G} {aC : Nat → ClassId} {B lo hi : Nat} {σ : SG}  {Q : Int → SG → Prop} (hlo : lo ≤ 0) (hhi : 304 ≤ hi) (h : wp_X8_polynomialFault σ  Q) : Met l yX8_polynomialFault (Cond.code yX8_polynomialFault prog_10_method_6_code 5 (some .int) :: WS) rm_X8_polynomialFault (va_Pc [.ref (B + 30)] (WP D aC B lo hi σ)) (QI D aC B lo hi Q) 0 0 (AB B lo hi) := by
  refine met_of (by decide +kernel) (by decide +kernel : yX8_polynomialFault.cls = "SplitTowers$Text") (Nat.le_of_ble_eq_true rfl) ?_
  intro p e s m args below meth c C
  unfold wp_X8_polynomialFault at h
  refine v_R (fun hR0 => ?_)
  show V p l e rm_X8_polynomialFault s m args below meth c D aC B lo hi 5 (MQ below (QI D aC B lo hi Q) args s 0 0 (AB B lo hi)) σ 0 [(0, .ref (B + 30))] []
  refine v_aload_n C 0 dX8_polynomialFault_0 rfl rfl ?_
  refine v_iconst C dX8_polynomialFault_1 ?_
  refine pf8_toldCount C hlo hhi (by decide) w193 dX8_polynomialFault_2 ?_
  refine v_nameS (fun σ1 eσ1 => ?_)
  have h := h σ1 eσ1
  refine v_R (fun hRσ1 => ?_)
  refine v_iconst C dX8_polynomialFault_5 ?_
  refine v_istore_n (lv' := [(1, .int (iI (-1))), (0, .ref (B + 30))]) C dX8_polynomialFault_6 rfl (by decide) rfl ?_
  refine v_iconst C dX8_polynomialFault_7 ?_
  refine v_istore_n (lv' := [(2, .int (iI 0)), (1, .int (iI (-1))), (0, .ref (B + 30))]) C dX8_polynomialFault_8 rfl (by decide) rfl ?_
  obtain ⟨I28, ⟨n29, hnn29⟩, hII28⟩ := h
  have key7 : ∀ (n : Nat) (x2 : Int) (x3 : Int) (σ4 : SG), I28 n x2 x3 σ4 → inR x2 → inR x3 → V p l e rm_X8_polynomialFault s m args below meth c D aC B lo hi 5 (MQ below (QI D aC B lo hi Q) args s 0 0 (AB B lo hi)) σ4 9 [(2, .int (iI x2)), (1, .int (iI x3)), (0, .ref (B + 30))] [] := by
    intro n
    induction n using Nat.strongRecOn with
    | ind n ih6 =>
      intro x2 x3 σ4 hn rx2 rx3
      have h := hII28 n x2 x3 σ4 hn
      refine v_R (fun hRσ4 => ?_)
      refine v_iload_n C 0 dX8_polynomialFault_9 rfl rfl ?_
      refine v_aload_n C 2 dX8_polynomialFault_10 rfl rfl ?_
      refine gf8_length C hlo hhi w188 dX8_polynomialFault_11 ?_
      refine v_icmp_ge C rx2 (hRσ4 30 1) 102 dX8_polynomialFault_14 (by decide) (fun c27 => ?_) (fun c27 => ?_)
      · have h := h.1 c27
        refine v_iload_n C 1 dX8_polynomialFault_102 rfl rfl ?_
        refine v_if_ge C rx3 111 dX8_polynomialFault_103 (by decide) (fun c9 => ?_) (fun c9 => ?_)
        · have h := h.1 c9
          refine v_aload_n C 2 dX8_polynomialFault_111 rfl rfl ?_
          refine v_iload_n C 1 dX8_polynomialFault_112 rfl rfl ?_
          refine v_callv (i := 30) (As := [.int (iI x3)]) (rest := []) C (s_X8_tell hlo hhi rx3 h) w470 wy_X8_tell ⟨rfl, rfl⟩ hd_X8_tell ⟨Nat.le_of_ble_eq_true rfl, Nat.le_of_ble_eq_true rfl⟩ (Nat.le_trans hlo (Nat.zero_le _)) (Nat.lt_of_lt_of_le (by decide) hhi) rfl rfl rfl rfl (Nat.le_of_ble_eq_true rfl) dX8_polynomialFault_113 (fun σ8 h => ?_)
          refine v_R (fun hRσ8 => ?_)
          refine v_iconst C dX8_polynomialFault_116 ?_
          exact v_iret C (by decide) h dX8_polynomialFault_117
        · have h := h.2 c9
          refine v_aload_n C 2 dX8_polynomialFault_106 rfl rfl ?_
          refine gf8_length C hlo hhi w188 dX8_polynomialFault_107 ?_
          exact v_iret C (hRσ4 30 1) h dX8_polynomialFault_110
      · have h := h.2 c27
        refine v_aload_n C 2 dX8_polynomialFault_17 rfl rfl ?_
        refine gf8_characters C hlo hhi w187 dX8_polynomialFault_18 ?_
        refine v_iload_n C 0 dX8_polynomialFault_21 rfl rfl ?_
        have k10 := h.1
        have h := h.2
        refine v_iald (i := 31) (n := 60) C (Nat.le_trans hlo (Nat.zero_le _)) (Nat.lt_of_lt_of_le (by decide) hhi) rfl rx2 k10 dX8_polynomialFault_22 ?_
        refine v_name (fun v11 ev11 => ?_)
        have h := h v11 ev11
        have rv11 : inR v11 := by rw [ev11]; exact (hRσ4 31 _)
        refine v_istore_n (lv' := [(3, .int (iI v11)), (2, .int (iI x2)), (1, .int (iI x3)), (0, .ref (B + 30))]) C dX8_polynomialFault_23 rfl (by decide) rfl ?_
        refine v_iload_n C 0 dX8_polynomialFault_24 rfl rfl ?_
        refine v_callsi (As := [.int (iI v11)]) (rest := []) C (s_X8_isDigit hlo hhi rv11 h) w466 wy_X8_isDigit ⟨rfl, rfl⟩ hd_X8_isDigit ⟨Nat.le_of_ble_eq_true rfl, Nat.le_of_ble_eq_true rfl⟩ rfl rfl (Nat.le_of_ble_eq_true rfl) dX8_polynomialFault_25 (fun z13 σ12 rz13 h => ?_)
        refine v_R (fun hRσ12 => ?_)
        refine v_if_eq C rz13 65 dX8_polynomialFault_28 (by decide) (fun c26 => ?_) (fun c26 => ?_)
        · have h := h.1 c26
          refine v_iload_n C 0 dX8_polynomialFault_65 rfl rfl ?_
          refine v_bipush C dX8_polynomialFault_66 (by decide) ?_
          refine v_icmp_ne C rv11 (by decide) 94 dX8_polynomialFault_68 (by decide) (fun c18 => ?_) (fun c18 => ?_)
          · have h := h.1 c18
            refine v_iload_n C 1 dX8_polynomialFault_94 rfl rfl ?_
            exact v_iret C rx2 h dX8_polynomialFault_95
          · have h := h.2 c18
            refine v_iload_n C 2 dX8_polynomialFault_71 rfl rfl ?_
            refine v_if_lt C rx3 94 dX8_polynomialFault_72 (by decide) (fun c17 => ?_) (fun c17 => ?_)
            · have h := h.1 c17
              refine v_iload_n C 1 dX8_polynomialFault_94 rfl rfl ?_
              exact v_iret C rx2 h dX8_polynomialFault_95
            · have h := h.2 c17
              refine v_aload_n C 3 dX8_polynomialFault_75 rfl rfl ?_
              refine gf8_toldCount C hlo hhi w193 dX8_polynomialFault_76 ?_
              refine v_bipush C dX8_polynomialFault_79 (by decide) ?_
              refine v_icmp_ge C (hRσ12 30 3) (by decide) 94 dX8_polynomialFault_81 (by decide) (fun c16 => ?_) (fun c16 => ?_)
              · have h := h.1 c16
                refine v_iload_n C 1 dX8_polynomialFault_94 rfl rfl ?_
                exact v_iret C rx2 h dX8_polynomialFault_95
              · have h := h.2 c16
                refine v_aload_n C 3 dX8_polynomialFault_84 rfl rfl ?_
                refine v_iload_n C 2 dX8_polynomialFault_85 rfl rfl ?_
                refine v_callv (i := 30) (As := [.int (iI x3)]) (rest := []) C (s_X8_tell hlo hhi rx3 h) w470 wy_X8_tell ⟨rfl, rfl⟩ hd_X8_tell ⟨Nat.le_of_ble_eq_true rfl, Nat.le_of_ble_eq_true rfl⟩ (Nat.le_trans hlo (Nat.zero_le _)) (Nat.lt_of_lt_of_le (by decide) hhi) rfl rfl rfl rfl (Nat.le_of_ble_eq_true rfl) dX8_polynomialFault_86 (fun σ14 h => ?_)
                refine v_R (fun hRσ14 => ?_)
                refine v_iconst C dX8_polynomialFault_89 ?_
                refine v_istore_n (lv' := [(1, .int (iI (-1))), (3, .int (iI v11)), (2, .int (iI x2)), (0, .ref (B + 30))]) C dX8_polynomialFault_90 rfl (by decide) rfl ?_
                refine v_goto C 96 dX8_polynomialFault_91 (by decide) ?_
                have k15 := h.1
                have h := h.2
                refine v_iinc (lv' := [(2, .int (iI (x2 + 1))), (1, .int (iI (-1))), (3, .int (iI v11)), (0, .ref (B + 30))]) C 2 dX8_polynomialFault_96 rfl (by decide) rfl ?_
                refine v_goto C 9 dX8_polynomialFault_99 (by decide) ?_
                obtain ⟨m9, hm9, h⟩ := h
                refine v_sub [0, 1, 3] rfl ?_
                exact ih6 m9 hm9 (x2 + 1) (-1) σ14 h k15 (by decide)
        · have h := h.2 c26
          refine v_iload_n C 2 dX8_polynomialFault_31 rfl rfl ?_
          refine v_iconst C dX8_polynomialFault_32 ?_
          refine v_max C rx3 (by decide) w469 wy_max (Nat.le_of_ble_eq_true rfl) (Nat.le_of_ble_eq_true rfl) dX8_polynomialFault_33 ?_
          refine v_bipush C dX8_polynomialFault_36 (by decide) ?_
          have k19 := h.1
          have h := h.2
          refine v_imul C dX8_polynomialFault_38 ?_
          refine v_iload_n C 0 dX8_polynomialFault_39 rfl rfl ?_
          have k20 := h.1
          have h := h.2
          refine v_iadd C dX8_polynomialFault_40 ?_
          refine v_bipush C dX8_polynomialFault_41 (by decide) ?_
          have k21 := h.1
          have h := h.2
          refine v_isub C dX8_polynomialFault_43 ?_
          refine v_name (fun v22 ev22 => ?_)
          have h := h v22 ev22
          have rv22 : inR v22 := by rw [ev22]; exact k21
          refine v_istore (lv' := [(4, .int (iI v22)), (3, .int (iI v11)), (2, .int (iI x2)), (1, .int (iI x3)), (0, .ref (B + 30))]) C dX8_polynomialFault_44 (by decide) rfl ?_
          refine v_iload_n C 3 dX8_polynomialFault_46 rfl rfl ?_
          refine v_if_eq C rx3 57 dX8_polynomialFault_47 (by decide) (fun c25 => ?_) (fun c25 => ?_)
          · have h := h.1 c25
            refine v_iload_n C 2 dX8_polynomialFault_57 rfl rfl ?_
            exact v_iret C rx2 h dX8_polynomialFault_58
          · have h := h.2 c25
            refine v_iload C 0 dX8_polynomialFault_50 rfl ?_
            refine v_bipush C dX8_polynomialFault_52 (by decide) ?_
            refine v_icmp_le C rv22 (by decide) 59 dX8_polynomialFault_54 (by decide) (fun c24 => ?_) (fun c24 => ?_)
            · have h := h.1 c24
              refine v_iload C 0 dX8_polynomialFault_59 rfl ?_
              refine v_istore_n (lv' := [(1, .int (iI v22)), (4, .int (iI v22)), (3, .int (iI v11)), (2, .int (iI x2)), (0, .ref (B + 30))]) C dX8_polynomialFault_61 rfl (by decide) rfl ?_
              refine v_goto C 96 dX8_polynomialFault_62 (by decide) ?_
              have k23 := h.1
              have h := h.2
              refine v_iinc (lv' := [(2, .int (iI (x2 + 1))), (1, .int (iI v22)), (4, .int (iI v22)), (3, .int (iI v11)), (0, .ref (B + 30))]) C 3 dX8_polynomialFault_96 rfl (by decide) rfl ?_
              refine v_goto C 9 dX8_polynomialFault_99 (by decide) ?_
              obtain ⟨m9, hm9, h⟩ := h
              refine v_sub [0, 1, 4] rfl ?_
              exact ih6 m9 hm9 (x2 + 1) v22 σ12 h k23 rv22
            · have h := h.2 c24
              refine v_iload_n C 2 dX8_polynomialFault_57 rfl rfl ?_
              exact v_iret C rx2 h dX8_polynomialFault_58
  exact key7 n29 0 (-1) σ1 hnn29 (by decide) (by decide)
