/-! the law's body: rows -/
def CL (p : Program) (s : State) (m : MethodId) (meth : Method) (c : Code) (b L : Nat) (xs : Nat → Int32) (D : va_G) (aC : Nat → ClassId) : Prop := lw_At p s m meth c b L xs ∧ va_K D vwCl (tysA aC) s ∧ L ≤ 2048
def VLw (p : Program) (l : Launch) (e : Env) (s : State) (m : MethodId) (below : List Frame) (meth : Method) (c : Code) (b : Nat) (D : va_G) (aC : Nat → ClassId) (σ : SG) (pc : Nat) (lv : List (Nat × Value)) (st : List Value) : Prop :=
  ∀ (H : Heap) (locs : List Loc) (ls : Array Slot), Wd D aC s.heap.size 0 316 σ H → va_S (fun q => s.heap.size ≤ q) s.heap H locs → lv_has ls 4 lv → W p l e room_1 s m #[Value.ref b] below meth c H locs 316 3852 (lw_Z below #[Value.ref b] s) (F0 m pc ls st)
theorem i2c_iI (x : Int32) : ∃ a : Int, (0 ≤ a ∧ a < 65536) ∧ (x.toUInt32 % 65536).toInt32 = iI a := by
  refine ⟨((x.toBitVec.toNat % 65536 : Nat) : Int), by omega, ?_⟩
  rw [pk_char]
  exact Int32.ofInt_eq_ofNat.symm
section LROWS
variable {p : Program} {l : Launch} {e : Env} {s : State} {m : MethodId} {below : List Frame} {meth : Method} {c : Code} {b L : Nat} {xs : Nat → Int32} {D : va_G} {aC : Nat → ClassId}
variable {σ : SG} {pc : Nat} {lv lv' : List (Nat × Value)} {st : List Value}
theorem CL.hx (C : CL p s m meth c b L xs D aC) : p.tables.exec = Jvm.exec := C.1.1
theorem CL.hb (C : CL p s m meth c b L xs D aC) : c.code = cL_law := C.1.2.1
theorem CL.hml (C : CL p s m meth c b L xs D aC) : c.maxLocals = 4 := C.1.2.2.2.1
theorem CL.hown (C : CL p s m meth c b L xs D aC) : s.vm.findClass "SplitTowersLaw" = some m.cls := C.1.2.2.2.2.1
theorem CL.hts (C : CL p s m meth c b L xs D aC) : ∀ w ∈ WS, w.before #[Value.ref b] s = true := fun w h => C.1.2.2.2.2.2.1 w (WS_tbl w h)
theorem CL.hX (C : CL p s m meth c b L xs D aC) : va_X b L xs s s.heap := C.1.2.2.2.2.2.2.1
theorem CL.hbl (C : CL p s m meth c b L xs D aC) : b < s.heap.size := C.1.2.2.2.2.2.2.2.1
theorem CL.hlk (C : CL p s m meth c b L xs D aC) : meth.locks = false := C.1.2.2.2.2.2.2.2.2.1
theorem l_aload_n (C : CL p s m meth c b L xs D aC) {k : Fin 4} {i x : Nat} (j : Nat) (hdg : decode cL_law pc = .ok (.aload_n k, 1)) (hi1 : (k : Nat) = i) (hj : lv[j]? = some (i, .ref x)) (kk : VLw p l e s m below meth c b D aC σ (pc + 1) lv (.ref x :: st)) : VLw p l e s m below meth c b D aC σ pc lv st :=
  fun H locs ls hW hS hl => lv_aload_n C.hx C.hb hdg hi1 (lv_at hl j hj) (kk H locs ls hW hS hl)
theorem l_iload_n (C : CL p s m meth c b L xs D aC) {k : Fin 4} {i : Nat} {x : Int32} (j : Nat) (hdg : decode cL_law pc = .ok (.iload_n k, 1)) (hi1 : (k : Nat) = i) (hj : lv[j]? = some (i, .int x)) (kk : VLw p l e s m below meth c b D aC σ (pc + 1) lv (.int x :: st)) : VLw p l e s m below meth c b D aC σ pc lv st :=
  fun H locs ls hW hS hl => lv_iload_n C.hx C.hb hdg hi1 (lv_at hl j hj) (kk H locs ls hW hS hl)
theorem l_iconst (C : CL p s m meth c b L xs D aC) {n : Int} (hdg : decode cL_law pc = .ok (.iconst n, 1)) (kk : VLw p l e s m below meth c b D aC σ (pc + 1) lv (.int (iI n) :: st)) : VLw p l e s m below meth c b D aC σ pc lv st :=
  fun H locs ls hW hS hl => lv_iconst C.hx C.hb hdg rfl (kk H locs ls hW hS hl)
theorem l_bipush (C : CL p s m meth c b L xs D aC) {n : Int} (hdg : decode cL_law pc = .ok (.bipush n, 2)) (hn : (Int8.ofInt n).toInt32 = iI n) (kk : VLw p l e s m below meth c b D aC σ (pc + 2) lv (.int (iI n) :: st)) : VLw p l e s m below meth c b D aC σ pc lv st :=
  fun H locs ls hW hS hl => lv_bipush C.hx C.hb hdg hn (kk H locs ls hW hS hl)
theorem l_iadd (C : CL p s m meth c b L xs D aC) {x y : Int} (hdg : decode cL_law pc = .ok (.iadd, 1)) (kk : VLw p l e s m below meth c b D aC σ (pc + 1) lv (.int (iI (x + y)) :: st)) : VLw p l e s m below meth c b D aC σ pc lv (.int (iI y) :: .int (iI x) :: st) :=
  fun H locs ls hW hS hl => lv_iadd C.hx C.hb hdg (by rw [iI_add]; exact kk H locs ls hW hS hl)
theorem l_isub (C : CL p s m meth c b L xs D aC) {x y : Int} (hdg : decode cL_law pc = .ok (.isub, 1)) (kk : VLw p l e s m below meth c b D aC σ (pc + 1) lv (.int (iI (x - y)) :: st)) : VLw p l e s m below meth c b D aC σ pc lv (.int (iI y) :: .int (iI x) :: st) :=
  fun H locs ls hW hS hl => lv_isub C.hx C.hb hdg (by rw [iI_sub]; exact kk H locs ls hW hS hl)
theorem l_iand (C : CL p s m meth c b L xs D aC) {x y : Int} (hdg : decode cL_law pc = .ok (.iand, 1)) (kk : VLw p l e s m below meth c b D aC σ (pc + 1) lv (.int (iI (iand x y)) :: st)) : VLw p l e s m below meth c b D aC σ pc lv (.int (iI y) :: .int (iI x) :: st) :=
  fun H locs ls hW hS hl => lv_iand C.hx C.hb hdg (by have h := kk H locs ls hW hS hl; unfold iand at h; rw [iI_of] at h; exact h)
theorem l_i2c (C : CL p s m meth c b L xs D aC) {x : Int} {a : Int} (ha : ((iI x).toUInt32 % 65536).toInt32 = iI a) (hdg : decode cL_law pc = .ok (.i2c, 1)) (kk : VLw p l e s m below meth c b D aC σ (pc + 1) lv (.int (iI a) :: st)) : VLw p l e s m below meth c b D aC σ pc lv (.int (iI x) :: st) :=
  fun H locs ls hW hS hl => lv_i2c C.hx C.hb hdg ha (kk H locs ls hW hS hl)
theorem l_slen (C : CL p s m meth c b L xs D aC) (hdg : decode cL_law pc = .ok (.arraylength, 1)) (kk : VLw p l e s m below meth c b D aC σ (pc + 1) lv (.int (iI L) :: st)) : VLw p l e s m below meth c b D aC σ pc lv (.ref b :: st) :=
  fun H locs ls hW hS hl => va_slen C.hx C.hb C.hX C.hbl (Nat.not_le.mpr C.hbl) hS hdg (by
    have h := kk H locs ls hW hS hl
    rw [show iI (L : Int) = Int32.ofNat L from Int32.ofInt_eq_ofNat] at h
    exact h)
theorem l_sld (C : CL p s m meth c b L xs D aC) {z : Int} {j : Nat} (hj : j < L) (hz : z = (j : Int)) (hdg : decode cL_law pc = .ok (.iaload, 1)) (kk : VLw p l e s m below meth c b D aC σ (pc + 1) lv (.int (iI (xs j).toInt) :: st)) : VLw p l e s m below meth c b D aC σ pc lv (.int (iI z) :: .ref b :: st) := by
  subst hz
  intro H locs ls hW hS hl
  have hL := C.2.2
  have hR : inR (j : Int) := by omega
  refine va_sld C.hx C.hb C.hX C.hbl (Nat.not_le.mpr C.hbl) hS (in_iI hR (by omega) (by omega)) hdg ?_
  have h := kk H locs ls hW hS hl
  rw [clamp_iI hR (by omega), Int.toNat_natCast]
  rw [iI_of] at h
  exact h
theorem l_goto (C : CL p s m meth c b L xs D aC) {off : Int} (tgt : Nat) (hdg : decode cL_law pc = .ok (.goto off, 3)) (ht : (pc : Int) + off = (tgt : Int)) (kk : VLw p l e s m below meth c b D aC σ tgt lv st) : VLw p l e s m below meth c b D aC σ pc lv st :=
  fun H locs ls hW hS hl => lv_goto C.hx C.hb hdg ht (kk H locs ls hW hS hl)
theorem l_iinc (C : CL p s m meth c b L xs D aC) {i : Nat} {n x : Int} (j : Nat) (hdg : decode cL_law pc = .ok (.iinc i n, 3)) (hj : lv[j]? = some (i, .int (iI x))) (hn : i < 4) (hl' : (i, Value.int (iI (x + n))) :: lv.filter (fun q => !(q.1 == i) && !(q.1 + 1 == i && q.2.category == 2)) = lv') (kk : VLw p l e s m below meth c b D aC σ (pc + 3) lv' st) : VLw p l e s m below meth c b D aC σ pc lv st :=
  fun H locs ls hW hS hl => lv_iinc C.hx C.hb hdg hl hj (iI_add x n) hn hl' (fun ls hl => kk H locs ls hW hS hl)
theorem l_eq (C : CL p s m meth c b L xs D aC) {x y : Int} (hxy : x = y) {off : Int} (tgt : Nat) (hdg : decode cL_law pc = .ok (.if_icmp .eq off, 3)) (ht : (pc : Int) + off = (tgt : Int)) (kk : VLw p l e s m below meth c b D aC σ tgt lv st) : VLw p l e s m below meth c b D aC σ pc lv (.int (iI y) :: .int (iI x) :: st) :=
  fun H locs ls hW hS hl => lv_icmp_eq C.hx C.hb hdg ht (fun _ => kk H locs ls hW hS hl) (fun h => absurd (by rw [hxy]) h)
theorem l_gt (C : CL p s m meth c b L xs D aC) {x y : Int} (hx : inR x) (hy : inR y) {off : Int} (tgt : Nat) (hdg : decode cL_law pc = .ok (.if_icmp .gt off, 3)) (ht : (pc : Int) + off = (tgt : Int)) (kt : y < x → VLw p l e s m below meth c b D aC σ tgt lv st) (kf : ¬ y < x → VLw p l e s m below meth c b D aC σ (pc + 3) lv st) : VLw p l e s m below meth c b D aC σ pc lv (.int (iI y) :: .int (iI x) :: st) :=
  fun H locs ls hW hS hl => lv_icmp_gt C.hx C.hb hdg ht (fun h => kt ((iI_lt hy hx).mp h) H locs ls hW hS hl) (fun h => kf (fun q => h ((iI_lt hy hx).mpr q)) H locs ls hW hS hl)
theorem l_tabIn (C : CL p s m meth c b L xs D aC) {a : Int} (ha : inR a) (k : Int) (hk : a = k) {dflt lo' hi' : Int} {offs : Array Int} {len : Nat} {off : Int} (tgt : Nat) (hdg : decode cL_law pc = .ok (.tableswitch dflt lo' hi' offs, len)) (h1 : ¬ k < lo') (h2 : ¬ hi' < k) (ho : offs[(k - lo').toNat]? = some off) (ht : (pc : Int) + off = (tgt : Int)) (kk : VLw p l e s m below meth c b D aC σ tgt lv st) : VLw p l e s m below meth c b D aC σ pc lv (.int (iI a) :: st) := by
  subst hk
  exact fun H locs ls hW hS hl => lv_tableIn C.hx C.hb hdg (by rw [iI_toInt ha]; exact h1) (by rw [iI_toInt ha]; exact h2) (by rw [iI_toInt ha]; exact ho) ht (kk H locs ls hW hS hl)
theorem l_tabOut (C : CL p s m meth c b L xs D aC) {a : Int} (ha : inR a) {dflt lo' hi' : Int} {offs : Array Int} {len : Nat} (tgt : Nat) (hdg : decode cL_law pc = .ok (.tableswitch dflt lo' hi' offs, len)) (h : a < lo' ∨ hi' < a) (ht : (pc : Int) + dflt = (tgt : Int)) (kk : VLw p l e s m below meth c b D aC σ tgt lv st) : VLw p l e s m below meth c b D aC σ pc lv (.int (iI a) :: st) :=
  fun H locs ls hW hS hl => lv_tableOut C.hx C.hb hdg (by rw [iI_toInt ha]; exact h) ht (kk H locs ls hW hS hl)
theorem l_calli {y : MethodName} {bytes : ByteArray} {maxL idx n i ci : Nat} {C' : String} {T : u_T} {N : Nat} {fs : List Value} {ret' : Option FieldType} {rm : Room} {As rest : List Value} {Qc : Int → SG → Prop} (C : CL p s m meth c b L xs D aC)
    (hM : Met l y (Cond.code y bytes maxL ret' :: WS) rm (va_Pc (.ref (s.heap.size + i) :: As) (WP D aC s.heap.size 0 316 σ)) (QI D aC s.heap.size 0 316 Qc) 0 0 (AB s.heap.size 0 316))
    (hl1 : Cond.methodLink "SplitTowersLaw" idx y ∈ WS) (hl2 : Cond.instanceMethod y ∈ WS ∧ Cond.selects C' y y ∈ WS ∧ Cond.initialized C' ∈ WS ∧ Cond.code y bytes maxL ret' ∈ WS) (hrm : rm.cells = 0 ∧ rm.slots = 0)
    (hd : y.cls = C' ∧ y.cls ≠ "java/lang/invoke/MethodHandle" ∧ y.cls ≠ "java/lang/invoke/VarHandle" ∧ (parseMethodDescriptor y.desc).map (fun d => d.parameters.length) = some n) (hR : rm.frames + 1 ≤ room_1.frames ∧ 8 + (maxL + 11) + rm.locals ≤ room_1.locals)
    (h2 : i < 316) (hκ : cel aC s.heap.size (σ i) i = .inr (ci, fs)) (hc : vwCl[ci]? = some (C', T, N)) (hn : As.length = n) (hst : st = As.reverse ++ .ref (s.heap.size + i) :: rest) (hW8 : (rest.map fun v => v.category).sum ≤ 8) (hdg : decode cL_law pc = .ok (.invokevirtual idx, 3))
    (kk : ∀ z σ', inR z → Qc z σ' → VLw p l e s m below meth c b D aC σ' (pc + 3) lv (.int (iI z) :: rest)) : VLw p l e s m below meth c b D aC σ pc lv st := by
  intro H locs ls hW hS hl
  have hK := C.2.1
  refine va_calli (va_runV (As := As) (rest := rest) ⟨C.hx, C.hb, C.hml, C.hown, C.hts⟩ hM (cwV n C.hts (gw_V hl1 hl2) rfl hrm.1 hrm.2 hd hR) ⟨WP_blind, hW.recv hK (Nat.zero_le _) h2 hκ hc, fun U hU hWm => ⟨rfl, by rw [hU]; exact hW, va_K.moved hWm.alike hK⟩⟩ rfl hn hl.1 hst (lv_room hW8) hdg ⟨Nat.le_of_ble_eq_true rfl, Nat.le_of_ble_eq_true rfl⟩) hS (fun q _ h => Nat.le_trans (Nat.le_add_right _ _) h.1) (fun q h => Nat.le_trans (Nat.le_add_right _ _) h.1) (fun r u t H1 locs1 ht hvm hw hB hz1 hk1 hS1 => ?_)
  obtain ⟨z, rfl, hzr, hq⟩ := hw
  have hB1 := hB.1
  rw [ht] at hB1
  exact kk z u hzr hq H1 locs1 ls hB1 hS1 hl
theorem l_end (C : CL p s m meth c b L xs D aC) (hdg : decode cL_law pc = .ok (.ireturn, 1)) : VLw p l e s m below meth c b D aC σ pc lv [.int (iI 1)] := by
  intro H locs ls hW hS hl
  refine va_forget hS.2.2 ?_
  refine W.widen (k := 600000) (n := 7302250) (Nat.le_of_ble_eq_true rfl) (Nat.le_of_ble_eq_true rfl) ?_
  exact lw_ret C.hx C.hb C.1.2.2.1 C.hlk hdg
end LROWS

theorem law_k0 {p : Program} {l : Launch} {e : Env} {s : State} {m : MethodId} {below : List Frame} {meth : Method} {c : Code} {b L : Nat} {xs : Nat → Int32} {D : va_G} {aC : Nat → ClassId} {σ : SG} {i : Nat} (C : CL p s m meth c b L xs D aC) (hI : Inv σ) (hi : i + 3 < L) (kk : ∀ σ2, Inv σ2 → VLw p l e s m below meth c b D aC σ2 822 [(3, .int (iI (i : Int))), (2, .ref (s.heap.size + 304)), (1, .ref (s.heap.size + 0)), (0, .ref b)] []) : VLw p l e s m below meth c b D aC σ 152 [(3, .int (iI (i : Int))), (2, .ref (s.heap.size + 304)), (1, .ref (s.heap.size + 0)), (0, .ref b)] [] := by
  refine l_aload_n C 2 dL_law_152 rfl rfl ?_
  refine l_aload_n C 3 dL_law_153 rfl rfl ?_
  refine l_iload_n C 0 dL_law_154 rfl rfl ?_
  refine l_iconst C dL_law_155 ?_
  refine l_iadd C dL_law_156 ?_
  refine l_sld C (j := i + 1) (by omega) (by omega) dL_law_157 ?_
  refine l_calli (As := [.int (iI (xs (i + 1)).toInt)]) (rest := []) C (s_X9_setPrime (lo := 0) (hi := 316) (Nat.le_refl _) (Nat.le_of_ble_eq_true rfl) (inR_of _) (op_setPrime hI (Q := fun r r2 σ2 => r = r2 ∧ Inv σ2) (fun r σ2 h => ⟨rfl, h⟩))) w439 wy_X9_setPrime ⟨rfl, rfl⟩ hd_X9_setPrime ⟨Nat.le_of_ble_eq_true rfl, Nat.le_of_ble_eq_true rfl⟩ (by omega) rfl rfl rfl rfl (Nat.le_of_ble_eq_true rfl) dL_law_158 (fun z1 σ1 _ h1 => ?_)
  refine l_aload_n C 1 dL_law_161 rfl rfl ?_
  refine l_aload_n C 3 dL_law_162 rfl rfl ?_
  refine l_iload_n C 0 dL_law_163 rfl rfl ?_
  refine l_iconst C dL_law_164 ?_
  refine l_iadd C dL_law_165 ?_
  refine l_sld C (j := i + 1) (by omega) (by omega) dL_law_166 ?_
  refine l_calli (As := [.int (iI (xs (i + 1)).toInt)]) (rest := [.int (iI z1)]) C (s_X10_setPrime (lo := 0) (hi := 316) (Nat.zero_le _) (Nat.le_refl _) (inR_of _) h1) w924 wy_X10_setPrime ⟨rfl, rfl⟩ hd_X10_setPrime ⟨Nat.le_of_ble_eq_true rfl, Nat.le_of_ble_eq_true rfl⟩ (by omega) rfl rfl rfl rfl (Nat.le_of_ble_eq_true rfl) dL_law_167 (fun z2 σ2 _ h2 => ?_)
  exact l_eq C h2.1 822 dL_law_170 (by decide) (kk σ2 h2.2)
theorem law_k1 {p : Program} {l : Launch} {e : Env} {s : State} {m : MethodId} {below : List Frame} {meth : Method} {c : Code} {b L : Nat} {xs : Nat → Int32} {D : va_G} {aC : Nat → ClassId} {σ : SG} {i : Nat} (C : CL p s m meth c b L xs D aC) (hI : Inv σ) (hi : i + 3 < L) (kk : ∀ σ2, Inv σ2 → VLw p l e s m below meth c b D aC σ2 822 [(3, .int (iI (i : Int))), (2, .ref (s.heap.size + 304)), (1, .ref (s.heap.size + 0)), (0, .ref b)] []) : VLw p l e s m below meth c b D aC σ 175 [(3, .int (iI (i : Int))), (2, .ref (s.heap.size + 304)), (1, .ref (s.heap.size + 0)), (0, .ref b)] [] := by
  refine l_aload_n C 2 dL_law_175 rfl rfl ?_
  refine l_calli (As := []) (rest := []) C (s_X9_readModulus (lo := 0) (hi := 316) (Nat.le_refl _) (Nat.le_of_ble_eq_true rfl)  (op_readModulus hI (Q := fun r r2 σ2 => r = r2 ∧ Inv σ2) (fun r σ2 h => ⟨rfl, h⟩))) w458 wy_X9_readModulus ⟨rfl, rfl⟩ hd_X9_readModulus ⟨Nat.le_of_ble_eq_true rfl, Nat.le_of_ble_eq_true rfl⟩ (by omega) rfl rfl rfl rfl (Nat.le_of_ble_eq_true rfl) dL_law_176 (fun z1 σ1 _ h1 => ?_)
  refine l_aload_n C 1 dL_law_179 rfl rfl ?_
  refine l_calli (As := []) (rest := [.int (iI z1)]) C (s_X10_readModulus (lo := 0) (hi := 316) (Nat.zero_le _) (Nat.le_refl _)  h1) w932 wy_X10_readModulus ⟨rfl, rfl⟩ hd_X10_readModulus ⟨Nat.le_of_ble_eq_true rfl, Nat.le_of_ble_eq_true rfl⟩ (by omega) rfl rfl rfl rfl (Nat.le_of_ble_eq_true rfl) dL_law_180 (fun z2 σ2 _ h2 => ?_)
  exact l_eq C h2.1 822 dL_law_183 (by decide) (kk σ2 h2.2)
theorem law_k2 {p : Program} {l : Launch} {e : Env} {s : State} {m : MethodId} {below : List Frame} {meth : Method} {c : Code} {b L : Nat} {xs : Nat → Int32} {D : va_G} {aC : Nat → ClassId} {σ : SG} {i : Nat} (C : CL p s m meth c b L xs D aC) (hI : Inv σ) (hi : i + 3 < L) (kk : ∀ σ2, Inv σ2 → VLw p l e s m below meth c b D aC σ2 822 [(3, .int (iI (i : Int))), (2, .ref (s.heap.size + 304)), (1, .ref (s.heap.size + 0)), (0, .ref b)] []) : VLw p l e s m below meth c b D aC σ 188 [(3, .int (iI (i : Int))), (2, .ref (s.heap.size + 304)), (1, .ref (s.heap.size + 0)), (0, .ref b)] [] := by
  refine l_aload_n C 2 dL_law_188 rfl rfl ?_
  refine l_aload_n C 3 dL_law_189 rfl rfl ?_
  refine l_iload_n C 0 dL_law_190 rfl rfl ?_
  refine l_iconst C dL_law_191 ?_
  refine l_iadd C dL_law_192 ?_
  refine l_sld C (j := i + 1) (by omega) (by omega) dL_law_193 ?_
  refine l_aload_n C 3 dL_law_194 rfl rfl ?_
  refine l_iload_n C 0 dL_law_195 rfl rfl ?_
  refine l_iconst C dL_law_196 ?_
  refine l_iadd C dL_law_197 ?_
  refine l_sld C (j := i + 2) (by omega) (by omega) dL_law_198 ?_
  refine l_aload_n C 3 dL_law_199 rfl rfl ?_
  refine l_iload_n C 0 dL_law_200 rfl rfl ?_
  refine l_iconst C dL_law_201 ?_
  refine l_iadd C dL_law_202 ?_
  refine l_sld C (j := i + 3) (by omega) (by omega) dL_law_203 ?_
  refine l_calli (As := [.int (iI (xs (i + 1)).toInt), .int (iI (xs (i + 2)).toInt), .int (iI (xs (i + 3)).toInt)]) (rest := []) C (s_X9_setNumber (lo := 0) (hi := 316) (Nat.le_refl _) (Nat.le_of_ble_eq_true rfl) (inR_of _) (inR_of _) (inR_of _) (op_setNumber hI (Q := fun r r2 σ2 => r = r2 ∧ Inv σ2) (fun r σ2 h => ⟨rfl, h⟩))) w531 wy_X9_setNumber ⟨rfl, rfl⟩ hd_X9_setNumber ⟨Nat.le_of_ble_eq_true rfl, Nat.le_of_ble_eq_true rfl⟩ (by omega) rfl rfl rfl rfl (Nat.le_of_ble_eq_true rfl) dL_law_204 (fun z1 σ1 _ h1 => ?_)
  refine l_aload_n C 1 dL_law_207 rfl rfl ?_
  refine l_aload_n C 3 dL_law_208 rfl rfl ?_
  refine l_iload_n C 0 dL_law_209 rfl rfl ?_
  refine l_iconst C dL_law_210 ?_
  refine l_iadd C dL_law_211 ?_
  refine l_sld C (j := i + 1) (by omega) (by omega) dL_law_212 ?_
  refine l_aload_n C 3 dL_law_213 rfl rfl ?_
  refine l_iload_n C 0 dL_law_214 rfl rfl ?_
  refine l_iconst C dL_law_215 ?_
  refine l_iadd C dL_law_216 ?_
  refine l_sld C (j := i + 2) (by omega) (by omega) dL_law_217 ?_
  refine l_aload_n C 3 dL_law_218 rfl rfl ?_
  refine l_iload_n C 0 dL_law_219 rfl rfl ?_
  refine l_iconst C dL_law_220 ?_
  refine l_iadd C dL_law_221 ?_
  refine l_sld C (j := i + 3) (by omega) (by omega) dL_law_222 ?_
  refine l_calli (As := [.int (iI (xs (i + 1)).toInt), .int (iI (xs (i + 2)).toInt), .int (iI (xs (i + 3)).toInt)]) (rest := [.int (iI z1)]) C (s_X10_setNumber (lo := 0) (hi := 316) (Nat.zero_le _) (Nat.le_refl _) (inR_of _) (inR_of _) (inR_of _) h1) w1011 wy_X10_setNumber ⟨rfl, rfl⟩ hd_X10_setNumber ⟨Nat.le_of_ble_eq_true rfl, Nat.le_of_ble_eq_true rfl⟩ (by omega) rfl rfl rfl rfl (Nat.le_of_ble_eq_true rfl) dL_law_223 (fun z2 σ2 _ h2 => ?_)
  exact l_eq C h2.1 822 dL_law_226 (by decide) (kk σ2 h2.2)
theorem law_k3 {p : Program} {l : Launch} {e : Env} {s : State} {m : MethodId} {below : List Frame} {meth : Method} {c : Code} {b L : Nat} {xs : Nat → Int32} {D : va_G} {aC : Nat → ClassId} {σ : SG} {i : Nat} (C : CL p s m meth c b L xs D aC) (hI : Inv σ) (hi : i + 3 < L) (kk : ∀ σ2, Inv σ2 → VLw p l e s m below meth c b D aC σ2 822 [(3, .int (iI (i : Int))), (2, .ref (s.heap.size + 304)), (1, .ref (s.heap.size + 0)), (0, .ref b)] []) : VLw p l e s m below meth c b D aC σ 231 [(3, .int (iI (i : Int))), (2, .ref (s.heap.size + 304)), (1, .ref (s.heap.size + 0)), (0, .ref b)] [] := by
  refine l_aload_n C 2 dL_law_231 rfl rfl ?_
  refine l_calli (As := []) (rest := []) C (s_X9_assign (lo := 0) (hi := 316) (Nat.le_refl _) (Nat.le_of_ble_eq_true rfl)  (op_assign hI (Q := fun r r2 σ2 => r = r2 ∧ Inv σ2) (fun r σ2 h => ⟨rfl, h⟩))) w544 wy_X9_assign ⟨rfl, rfl⟩ hd_X9_assign ⟨Nat.le_of_ble_eq_true rfl, Nat.le_of_ble_eq_true rfl⟩ (by omega) rfl rfl rfl rfl (Nat.le_of_ble_eq_true rfl) dL_law_232 (fun z1 σ1 _ h1 => ?_)
  refine l_aload_n C 1 dL_law_235 rfl rfl ?_
  refine l_calli (As := []) (rest := [.int (iI z1)]) C (s_X10_assign (lo := 0) (hi := 316) (Nat.zero_le _) (Nat.le_refl _)  h1) w1134 wy_X10_assign ⟨rfl, rfl⟩ hd_X10_assign ⟨Nat.le_of_ble_eq_true rfl, Nat.le_of_ble_eq_true rfl⟩ (by omega) rfl rfl rfl rfl (Nat.le_of_ble_eq_true rfl) dL_law_236 (fun z2 σ2 _ h2 => ?_)
  exact l_eq C h2.1 822 dL_law_239 (by decide) (kk σ2 h2.2)
theorem law_k4 {p : Program} {l : Launch} {e : Env} {s : State} {m : MethodId} {below : List Frame} {meth : Method} {c : Code} {b L : Nat} {xs : Nat → Int32} {D : va_G} {aC : Nat → ClassId} {σ : SG} {i : Nat} (C : CL p s m meth c b L xs D aC) (hI : Inv σ) (hi : i + 3 < L) (kk : ∀ σ2, Inv σ2 → VLw p l e s m below meth c b D aC σ2 822 [(3, .int (iI (i : Int))), (2, .ref (s.heap.size + 304)), (1, .ref (s.heap.size + 0)), (0, .ref b)] []) : VLw p l e s m below meth c b D aC σ 244 [(3, .int (iI (i : Int))), (2, .ref (s.heap.size + 304)), (1, .ref (s.heap.size + 0)), (0, .ref b)] [] := by
  refine l_aload_n C 2 dL_law_244 rfl rfl ?_
  refine l_aload_n C 3 dL_law_245 rfl rfl ?_
  refine l_iload_n C 0 dL_law_246 rfl rfl ?_
  refine l_iconst C dL_law_247 ?_
  refine l_iadd C dL_law_248 ?_
  refine l_sld C (j := i + 1) (by omega) (by omega) dL_law_249 ?_
  refine l_aload_n C 3 dL_law_250 rfl rfl ?_
  refine l_iload_n C 0 dL_law_251 rfl rfl ?_
  refine l_iconst C dL_law_252 ?_
  refine l_iadd C dL_law_253 ?_
  refine l_sld C (j := i + 2) (by omega) (by omega) dL_law_254 ?_
  refine l_aload_n C 3 dL_law_255 rfl rfl ?_
  refine l_iload_n C 0 dL_law_256 rfl rfl ?_
  refine l_iconst C dL_law_257 ?_
  refine l_iadd C dL_law_258 ?_
  refine l_sld C (j := i + 3) (by omega) (by omega) dL_law_259 ?_
  refine l_calli (As := [.int (iI (xs (i + 1)).toInt), .int (iI (xs (i + 2)).toInt), .int (iI (xs (i + 3)).toInt)]) (rest := []) C (s_X9_put (lo := 0) (hi := 316) (Nat.le_refl _) (Nat.le_of_ble_eq_true rfl) (inR_of _) (inR_of _) (inR_of _) (op_put hI (Q := fun r r2 σ2 => r = r2 ∧ Inv σ2) (fun r σ2 h => ⟨rfl, h⟩))) w656 wy_X9_put ⟨rfl, rfl⟩ hd_X9_put ⟨Nat.le_of_ble_eq_true rfl, Nat.le_of_ble_eq_true rfl⟩ (by omega) rfl rfl rfl rfl (Nat.le_of_ble_eq_true rfl) dL_law_260 (fun z1 σ1 _ h1 => ?_)
  refine l_aload_n C 1 dL_law_263 rfl rfl ?_
  refine l_aload_n C 3 dL_law_264 rfl rfl ?_
  refine l_iload_n C 0 dL_law_265 rfl rfl ?_
  refine l_iconst C dL_law_266 ?_
  refine l_iadd C dL_law_267 ?_
  refine l_sld C (j := i + 1) (by omega) (by omega) dL_law_268 ?_
  refine l_aload_n C 3 dL_law_269 rfl rfl ?_
  refine l_iload_n C 0 dL_law_270 rfl rfl ?_
  refine l_iconst C dL_law_271 ?_
  refine l_iadd C dL_law_272 ?_
  refine l_sld C (j := i + 2) (by omega) (by omega) dL_law_273 ?_
  refine l_aload_n C 3 dL_law_274 rfl rfl ?_
  refine l_iload_n C 0 dL_law_275 rfl rfl ?_
  refine l_iconst C dL_law_276 ?_
  refine l_iadd C dL_law_277 ?_
  refine l_sld C (j := i + 3) (by omega) (by omega) dL_law_278 ?_
  refine l_calli (As := [.int (iI (xs (i + 1)).toInt), .int (iI (xs (i + 2)).toInt), .int (iI (xs (i + 3)).toInt)]) (rest := [.int (iI z1)]) C (s_X10_put (lo := 0) (hi := 316) (Nat.zero_le _) (Nat.le_refl _) (inR_of _) (inR_of _) (inR_of _) h1) w1030 wy_X10_put ⟨rfl, rfl⟩ hd_X10_put ⟨Nat.le_of_ble_eq_true rfl, Nat.le_of_ble_eq_true rfl⟩ (by omega) rfl rfl rfl rfl (Nat.le_of_ble_eq_true rfl) dL_law_279 (fun z2 σ2 _ h2 => ?_)
  exact l_eq C h2.1 822 dL_law_282 (by decide) (kk σ2 h2.2)
theorem law_k5 {p : Program} {l : Launch} {e : Env} {s : State} {m : MethodId} {below : List Frame} {meth : Method} {c : Code} {b L : Nat} {xs : Nat → Int32} {D : va_G} {aC : Nat → ClassId} {σ : SG} {i : Nat} (C : CL p s m meth c b L xs D aC) (hI : Inv σ) (hi : i + 3 < L) (kk : ∀ σ2, Inv σ2 → VLw p l e s m below meth c b D aC σ2 822 [(3, .int (iI (i : Int))), (2, .ref (s.heap.size + 304)), (1, .ref (s.heap.size + 0)), (0, .ref b)] []) : VLw p l e s m below meth c b D aC σ 287 [(3, .int (iI (i : Int))), (2, .ref (s.heap.size + 304)), (1, .ref (s.heap.size + 0)), (0, .ref b)] [] := by
  refine l_aload_n C 2 dL_law_287 rfl rfl ?_
  refine l_aload_n C 3 dL_law_288 rfl rfl ?_
  refine l_iload_n C 0 dL_law_289 rfl rfl ?_
  refine l_iconst C dL_law_290 ?_
  refine l_iadd C dL_law_291 ?_
  refine l_sld C (j := i + 1) (by omega) (by omega) dL_law_292 ?_
  refine l_calli (As := [.int (iI (xs (i + 1)).toInt)]) (rest := []) C (s_X9_part (lo := 0) (hi := 316) (Nat.le_refl _) (Nat.le_of_ble_eq_true rfl) (inR_of _) (op_part hI (Q := fun r r2 σ2 => r = r2 ∧ Inv σ2) (fun r σ2 h => ⟨rfl, h⟩))) w688 wy_X9_part ⟨rfl, rfl⟩ hd_X9_part ⟨Nat.le_of_ble_eq_true rfl, Nat.le_of_ble_eq_true rfl⟩ (by omega) rfl rfl rfl rfl (Nat.le_of_ble_eq_true rfl) dL_law_293 (fun z1 σ1 _ h1 => ?_)
  refine l_aload_n C 1 dL_law_296 rfl rfl ?_
  refine l_aload_n C 3 dL_law_297 rfl rfl ?_
  refine l_iload_n C 0 dL_law_298 rfl rfl ?_
  refine l_iconst C dL_law_299 ?_
  refine l_iadd C dL_law_300 ?_
  refine l_sld C (j := i + 1) (by omega) (by omega) dL_law_301 ?_
  refine l_calli (As := [.int (iI (xs (i + 1)).toInt)]) (rest := [.int (iI z1)]) C (s_X10_part (lo := 0) (hi := 316) (Nat.zero_le _) (Nat.le_refl _) (inR_of _) h1) w1066 wy_X10_part ⟨rfl, rfl⟩ hd_X10_part ⟨Nat.le_of_ble_eq_true rfl, Nat.le_of_ble_eq_true rfl⟩ (by omega) rfl rfl rfl rfl (Nat.le_of_ble_eq_true rfl) dL_law_302 (fun z2 σ2 _ h2 => ?_)
  exact l_eq C h2.1 822 dL_law_305 (by decide) (kk σ2 h2.2)
theorem law_k6 {p : Program} {l : Launch} {e : Env} {s : State} {m : MethodId} {below : List Frame} {meth : Method} {c : Code} {b L : Nat} {xs : Nat → Int32} {D : va_G} {aC : Nat → ClassId} {σ : SG} {i : Nat} (C : CL p s m meth c b L xs D aC) (hI : Inv σ) (hi : i + 3 < L) (kk : ∀ σ2, Inv σ2 → VLw p l e s m below meth c b D aC σ2 822 [(3, .int (iI (i : Int))), (2, .ref (s.heap.size + 304)), (1, .ref (s.heap.size + 0)), (0, .ref b)] []) : VLw p l e s m below meth c b D aC σ 310 [(3, .int (iI (i : Int))), (2, .ref (s.heap.size + 304)), (1, .ref (s.heap.size + 0)), (0, .ref b)] [] := by
  refine l_aload_n C 2 dL_law_310 rfl rfl ?_
  refine l_calli (As := []) (rest := []) C (s_X9_partByDegrees (lo := 0) (hi := 316) (Nat.le_refl _) (Nat.le_of_ble_eq_true rfl)  (op_partByDegrees hI (Q := fun r r2 σ2 => r = r2 ∧ Inv σ2) (fun r σ2 h => ⟨rfl, h⟩))) w694 wy_X9_partByDegrees ⟨rfl, rfl⟩ hd_X9_partByDegrees ⟨Nat.le_of_ble_eq_true rfl, Nat.le_of_ble_eq_true rfl⟩ (by omega) rfl rfl rfl rfl (Nat.le_of_ble_eq_true rfl) dL_law_311 (fun z1 σ1 _ h1 => ?_)
  refine l_aload_n C 1 dL_law_314 rfl rfl ?_
  refine l_calli (As := []) (rest := [.int (iI z1)]) C (s_X10_partByDegrees (lo := 0) (hi := 316) (Nat.zero_le _) (Nat.le_refl _)  h1) w1098 wy_X10_partByDegrees ⟨rfl, rfl⟩ hd_X10_partByDegrees ⟨Nat.le_of_ble_eq_true rfl, Nat.le_of_ble_eq_true rfl⟩ (by omega) rfl rfl rfl rfl (Nat.le_of_ble_eq_true rfl) dL_law_315 (fun z2 σ2 _ h2 => ?_)
  exact l_eq C h2.1 822 dL_law_318 (by decide) (kk σ2 h2.2)
theorem law_k7 {p : Program} {l : Launch} {e : Env} {s : State} {m : MethodId} {below : List Frame} {meth : Method} {c : Code} {b L : Nat} {xs : Nat → Int32} {D : va_G} {aC : Nat → ClassId} {σ : SG} {i : Nat} (C : CL p s m meth c b L xs D aC) (hI : Inv σ) (hi : i + 3 < L) (kk : ∀ σ2, Inv σ2 → VLw p l e s m below meth c b D aC σ2 822 [(3, .int (iI (i : Int))), (2, .ref (s.heap.size + 304)), (1, .ref (s.heap.size + 0)), (0, .ref b)] []) : VLw p l e s m below meth c b D aC σ 323 [(3, .int (iI (i : Int))), (2, .ref (s.heap.size + 304)), (1, .ref (s.heap.size + 0)), (0, .ref b)] [] := by
  refine l_aload_n C 2 dL_law_323 rfl rfl ?_
  refine l_aload_n C 3 dL_law_324 rfl rfl ?_
  refine l_iload_n C 0 dL_law_325 rfl rfl ?_
  refine l_iconst C dL_law_326 ?_
  refine l_iadd C dL_law_327 ?_
  refine l_sld C (j := i + 1) (by omega) (by omega) dL_law_328 ?_
  refine l_aload_n C 3 dL_law_329 rfl rfl ?_
  refine l_iload_n C 0 dL_law_330 rfl rfl ?_
  refine l_iconst C dL_law_331 ?_
  refine l_iadd C dL_law_332 ?_
  refine l_sld C (j := i + 2) (by omega) (by omega) dL_law_333 ?_
  refine l_calli (As := [.int (iI (xs (i + 1)).toInt), .int (iI (xs (i + 2)).toInt)]) (rest := []) C (s_X9_join (lo := 0) (hi := 316) (Nat.le_refl _) (Nat.le_of_ble_eq_true rfl) (inR_of _) (inR_of _) (op_join hI (Q := fun r r2 σ2 => r = r2 ∧ Inv σ2) (fun r σ2 h => ⟨rfl, h⟩))) w709 wy_X9_join ⟨rfl, rfl⟩ hd_X9_join ⟨Nat.le_of_ble_eq_true rfl, Nat.le_of_ble_eq_true rfl⟩ (by omega) rfl rfl rfl rfl (Nat.le_of_ble_eq_true rfl) dL_law_334 (fun z1 σ1 _ h1 => ?_)
  refine l_aload_n C 1 dL_law_337 rfl rfl ?_
  refine l_aload_n C 3 dL_law_338 rfl rfl ?_
  refine l_iload_n C 0 dL_law_339 rfl rfl ?_
  refine l_iconst C dL_law_340 ?_
  refine l_iadd C dL_law_341 ?_
  refine l_sld C (j := i + 1) (by omega) (by omega) dL_law_342 ?_
  refine l_aload_n C 3 dL_law_343 rfl rfl ?_
  refine l_iload_n C 0 dL_law_344 rfl rfl ?_
  refine l_iconst C dL_law_345 ?_
  refine l_iadd C dL_law_346 ?_
  refine l_sld C (j := i + 2) (by omega) (by omega) dL_law_347 ?_
  refine l_calli (As := [.int (iI (xs (i + 1)).toInt), .int (iI (xs (i + 2)).toInt)]) (rest := [.int (iI z1)]) C (s_X10_join (lo := 0) (hi := 316) (Nat.zero_le _) (Nat.le_refl _) (inR_of _) (inR_of _) h1) w1110 wy_X10_join ⟨rfl, rfl⟩ hd_X10_join ⟨Nat.le_of_ble_eq_true rfl, Nat.le_of_ble_eq_true rfl⟩ (by omega) rfl rfl rfl rfl (Nat.le_of_ble_eq_true rfl) dL_law_348 (fun z2 σ2 _ h2 => ?_)
  exact l_eq C h2.1 822 dL_law_351 (by decide) (kk σ2 h2.2)
theorem law_k8 {p : Program} {l : Launch} {e : Env} {s : State} {m : MethodId} {below : List Frame} {meth : Method} {c : Code} {b L : Nat} {xs : Nat → Int32} {D : va_G} {aC : Nat → ClassId} {σ : SG} {i : Nat} (C : CL p s m meth c b L xs D aC) (hI : Inv σ) (hi : i + 3 < L) (kk : ∀ σ2, Inv σ2 → VLw p l e s m below meth c b D aC σ2 822 [(3, .int (iI (i : Int))), (2, .ref (s.heap.size + 304)), (1, .ref (s.heap.size + 0)), (0, .ref b)] []) : VLw p l e s m below meth c b D aC σ 356 [(3, .int (iI (i : Int))), (2, .ref (s.heap.size + 304)), (1, .ref (s.heap.size + 0)), (0, .ref b)] [] := by
  refine l_aload_n C 2 dL_law_356 rfl rfl ?_
  refine l_aload_n C 3 dL_law_357 rfl rfl ?_
  refine l_iload_n C 0 dL_law_358 rfl rfl ?_
  refine l_iconst C dL_law_359 ?_
  refine l_iadd C dL_law_360 ?_
  refine l_sld C (j := i + 1) (by omega) (by omega) dL_law_361 ?_
  refine l_calli (As := [.int (iI (xs (i + 1)).toInt)]) (rest := []) C (s_X9_joinAlike (lo := 0) (hi := 316) (Nat.le_refl _) (Nat.le_of_ble_eq_true rfl) (inR_of _) (op_joinAlike hI (Q := fun r r2 σ2 => r = r2 ∧ Inv σ2) (fun r σ2 h => ⟨rfl, h⟩))) w723 wy_X9_joinAlike ⟨rfl, rfl⟩ hd_X9_joinAlike ⟨Nat.le_of_ble_eq_true rfl, Nat.le_of_ble_eq_true rfl⟩ (by omega) rfl rfl rfl rfl (Nat.le_of_ble_eq_true rfl) dL_law_362 (fun z1 σ1 _ h1 => ?_)
  refine l_aload_n C 1 dL_law_365 rfl rfl ?_
  refine l_aload_n C 3 dL_law_366 rfl rfl ?_
  refine l_iload_n C 0 dL_law_367 rfl rfl ?_
  refine l_iconst C dL_law_368 ?_
  refine l_iadd C dL_law_369 ?_
  refine l_sld C (j := i + 1) (by omega) (by omega) dL_law_370 ?_
  refine l_calli (As := [.int (iI (xs (i + 1)).toInt)]) (rest := [.int (iI z1)]) C (s_X10_joinAlike (lo := 0) (hi := 316) (Nat.zero_le _) (Nat.le_refl _) (inR_of _) h1) w1122 wy_X10_joinAlike ⟨rfl, rfl⟩ hd_X10_joinAlike ⟨Nat.le_of_ble_eq_true rfl, Nat.le_of_ble_eq_true rfl⟩ (by omega) rfl rfl rfl rfl (Nat.le_of_ble_eq_true rfl) dL_law_371 (fun z2 σ2 _ h2 => ?_)
  exact l_eq C h2.1 822 dL_law_374 (by decide) (kk σ2 h2.2)
theorem law_k9 {p : Program} {l : Launch} {e : Env} {s : State} {m : MethodId} {below : List Frame} {meth : Method} {c : Code} {b L : Nat} {xs : Nat → Int32} {D : va_G} {aC : Nat → ClassId} {σ : SG} {i : Nat} (C : CL p s m meth c b L xs D aC) (hI : Inv σ) (hi : i + 3 < L) (kk : ∀ σ2, Inv σ2 → VLw p l e s m below meth c b D aC σ2 822 [(3, .int (iI (i : Int))), (2, .ref (s.heap.size + 304)), (1, .ref (s.heap.size + 0)), (0, .ref b)] []) : VLw p l e s m below meth c b D aC σ 379 [(3, .int (iI (i : Int))), (2, .ref (s.heap.size + 304)), (1, .ref (s.heap.size + 0)), (0, .ref b)] [] := by
  obtain ⟨ch, hch, ech⟩ := i2c_iI (iI (xs (i + 1)).toInt)
  refine l_aload_n C 2 dL_law_379 rfl rfl ?_
  refine l_aload_n C 3 dL_law_380 rfl rfl ?_
  refine l_iload_n C 0 dL_law_381 rfl rfl ?_
  refine l_iconst C dL_law_382 ?_
  refine l_iadd C dL_law_383 ?_
  refine l_sld C (j := i + 1) (by omega) (by omega) dL_law_384 ?_
  refine l_i2c C ech dL_law_385 ?_
  refine l_calli (As := [.int (iI ch)]) (rest := []) C (s_X9_type (lo := 0) (hi := 316) (Nat.le_refl _) (Nat.le_of_ble_eq_true rfl) (by omega) (op_type hch hI (Q := fun r r2 σ2 => r = r2 ∧ Inv σ2) (fun r σ2 h => ⟨rfl, h⟩))) w732 wy_X9_type ⟨rfl, rfl⟩ hd_X9_type ⟨Nat.le_of_ble_eq_true rfl, Nat.le_of_ble_eq_true rfl⟩ (by omega) rfl rfl rfl rfl (Nat.le_of_ble_eq_true rfl) dL_law_386 (fun z1 σ1 _ h1 => ?_)
  refine l_aload_n C 1 dL_law_389 rfl rfl ?_
  refine l_aload_n C 3 dL_law_390 rfl rfl ?_
  refine l_iload_n C 0 dL_law_391 rfl rfl ?_
  refine l_iconst C dL_law_392 ?_
  refine l_iadd C dL_law_393 ?_
  refine l_sld C (j := i + 1) (by omega) (by omega) dL_law_394 ?_
  refine l_i2c C ech dL_law_395 ?_
  refine l_calli (As := [.int (iI ch)]) (rest := [.int (iI z1)]) C (s_X10_type (lo := 0) (hi := 316) (Nat.zero_le _) (Nat.le_refl _) (by omega) h1) w1126 wy_X10_type ⟨rfl, rfl⟩ hd_X10_type ⟨Nat.le_of_ble_eq_true rfl, Nat.le_of_ble_eq_true rfl⟩ (by omega) rfl rfl rfl rfl (Nat.le_of_ble_eq_true rfl) dL_law_396 (fun z2 σ2 _ h2 => ?_)
  exact l_eq C h2.1 822 dL_law_399 (by decide) (kk σ2 h2.2)
theorem law_k10 {p : Program} {l : Launch} {e : Env} {s : State} {m : MethodId} {below : List Frame} {meth : Method} {c : Code} {b L : Nat} {xs : Nat → Int32} {D : va_G} {aC : Nat → ClassId} {σ : SG} {i : Nat} (C : CL p s m meth c b L xs D aC) (hI : Inv σ) (hi : i + 3 < L) (kk : ∀ σ2, Inv σ2 → VLw p l e s m below meth c b D aC σ2 822 [(3, .int (iI (i : Int))), (2, .ref (s.heap.size + 304)), (1, .ref (s.heap.size + 0)), (0, .ref b)] []) : VLw p l e s m below meth c b D aC σ 404 [(3, .int (iI (i : Int))), (2, .ref (s.heap.size + 304)), (1, .ref (s.heap.size + 0)), (0, .ref b)] [] := by
  refine l_aload_n C 2 dL_law_404 rfl rfl ?_
  refine l_calli (As := []) (rest := []) C (s_X9_clearText (lo := 0) (hi := 316) (Nat.le_refl _) (Nat.le_of_ble_eq_true rfl)  (op_clearText hI (Q := fun r r2 σ2 => r = r2 ∧ Inv σ2) (fun r σ2 h => ⟨rfl, h⟩))) w740 wy_X9_clearText ⟨rfl, rfl⟩ hd_X9_clearText ⟨Nat.le_of_ble_eq_true rfl, Nat.le_of_ble_eq_true rfl⟩ (by omega) rfl rfl rfl rfl (Nat.le_of_ble_eq_true rfl) dL_law_405 (fun z1 σ1 _ h1 => ?_)
  refine l_aload_n C 1 dL_law_408 rfl rfl ?_
  refine l_calli (As := []) (rest := [.int (iI z1)]) C (s_X10_clearText (lo := 0) (hi := 316) (Nat.zero_le _) (Nat.le_refl _)  h1) w1130 wy_X10_clearText ⟨rfl, rfl⟩ hd_X10_clearText ⟨Nat.le_of_ble_eq_true rfl, Nat.le_of_ble_eq_true rfl⟩ (by omega) rfl rfl rfl rfl (Nat.le_of_ble_eq_true rfl) dL_law_409 (fun z2 σ2 _ h2 => ?_)
  exact l_eq C h2.1 822 dL_law_412 (by decide) (kk σ2 h2.2)
theorem law_k11 {p : Program} {l : Launch} {e : Env} {s : State} {m : MethodId} {below : List Frame} {meth : Method} {c : Code} {b L : Nat} {xs : Nat → Int32} {D : va_G} {aC : Nat → ClassId} {σ : SG} {i : Nat} (C : CL p s m meth c b L xs D aC) (hI : Inv σ) (hi : i + 3 < L) (kk : ∀ σ2, Inv σ2 → VLw p l e s m below meth c b D aC σ2 822 [(3, .int (iI (i : Int))), (2, .ref (s.heap.size + 304)), (1, .ref (s.heap.size + 0)), (0, .ref b)] []) : VLw p l e s m below meth c b D aC σ 417 [(3, .int (iI (i : Int))), (2, .ref (s.heap.size + 304)), (1, .ref (s.heap.size + 0)), (0, .ref b)] [] := by
  refine l_aload_n C 2 dL_law_417 rfl rfl ?_
  refine l_calli (As := []) (rest := []) C (s_X9_undo (lo := 0) (hi := 316) (Nat.le_refl _) (Nat.le_of_ble_eq_true rfl)  (op_undo hI (Q := fun r r2 σ2 => r = r2 ∧ Inv σ2) (fun r σ2 h => ⟨rfl, h⟩))) w744 wy_X9_undo ⟨rfl, rfl⟩ hd_X9_undo ⟨Nat.le_of_ble_eq_true rfl, Nat.le_of_ble_eq_true rfl⟩ (by omega) rfl rfl rfl rfl (Nat.le_of_ble_eq_true rfl) dL_law_418 (fun z1 σ1 _ h1 => ?_)
  refine l_aload_n C 1 dL_law_421 rfl rfl ?_
  refine l_calli (As := []) (rest := [.int (iI z1)]) C (s_X10_undo (lo := 0) (hi := 316) (Nat.zero_le _) (Nat.le_refl _)  h1) w1162 wy_X10_undo ⟨rfl, rfl⟩ hd_X10_undo ⟨Nat.le_of_ble_eq_true rfl, Nat.le_of_ble_eq_true rfl⟩ (by omega) rfl rfl rfl rfl (Nat.le_of_ble_eq_true rfl) dL_law_422 (fun z2 σ2 _ h2 => ?_)
  exact l_eq C h2.1 822 dL_law_425 (by decide) (kk σ2 h2.2)
theorem law_k12 {p : Program} {l : Launch} {e : Env} {s : State} {m : MethodId} {below : List Frame} {meth : Method} {c : Code} {b L : Nat} {xs : Nat → Int32} {D : va_G} {aC : Nat → ClassId} {σ : SG} {i : Nat} (C : CL p s m meth c b L xs D aC) (hI : Inv σ) (hi : i + 3 < L) (kk : ∀ σ2, Inv σ2 → VLw p l e s m below meth c b D aC σ2 822 [(3, .int (iI (i : Int))), (2, .ref (s.heap.size + 304)), (1, .ref (s.heap.size + 0)), (0, .ref b)] []) : VLw p l e s m below meth c b D aC σ 430 [(3, .int (iI (i : Int))), (2, .ref (s.heap.size + 304)), (1, .ref (s.heap.size + 0)), (0, .ref b)] [] := by
  refine l_aload_n C 2 dL_law_430 rfl rfl ?_
  refine l_calli (As := []) (rest := []) C (s_X9_keep (lo := 0) (hi := 316) (Nat.le_refl _) (Nat.le_of_ble_eq_true rfl)  (op_keep hI (Q := fun r r2 σ2 => r = r2 ∧ Inv σ2) (fun r σ2 h => ⟨rfl, h⟩))) w752 wy_X9_keep ⟨rfl, rfl⟩ hd_X9_keep ⟨Nat.le_of_ble_eq_true rfl, Nat.le_of_ble_eq_true rfl⟩ (by omega) rfl rfl rfl rfl (Nat.le_of_ble_eq_true rfl) dL_law_431 (fun z1 σ1 _ h1 => ?_)
  refine l_aload_n C 1 dL_law_434 rfl rfl ?_
  refine l_calli (As := []) (rest := [.int (iI z1)]) C (s_X10_keep (lo := 0) (hi := 316) (Nat.zero_le _) (Nat.le_refl _)  h1) w1166 wy_X10_keep ⟨rfl, rfl⟩ hd_X10_keep ⟨Nat.le_of_ble_eq_true rfl, Nat.le_of_ble_eq_true rfl⟩ (by omega) rfl rfl rfl rfl (Nat.le_of_ble_eq_true rfl) dL_law_435 (fun z2 σ2 _ h2 => ?_)
  exact l_eq C h2.1 822 dL_law_438 (by decide) (kk σ2 h2.2)
theorem law_k13 {p : Program} {l : Launch} {e : Env} {s : State} {m : MethodId} {below : List Frame} {meth : Method} {c : Code} {b L : Nat} {xs : Nat → Int32} {D : va_G} {aC : Nat → ClassId} {σ : SG} {i : Nat} (C : CL p s m meth c b L xs D aC) (hI : Inv σ) (hi : i + 3 < L) (kk : ∀ σ2, Inv σ2 → VLw p l e s m below meth c b D aC σ2 822 [(3, .int (iI (i : Int))), (2, .ref (s.heap.size + 304)), (1, .ref (s.heap.size + 0)), (0, .ref b)] []) : VLw p l e s m below meth c b D aC σ 443 [(3, .int (iI (i : Int))), (2, .ref (s.heap.size + 304)), (1, .ref (s.heap.size + 0)), (0, .ref b)] [] := by
  refine l_aload_n C 2 dL_law_443 rfl rfl ?_
  refine l_calli (As := []) (rest := []) C (s_X9_restore (lo := 0) (hi := 316) (Nat.le_refl _) (Nat.le_of_ble_eq_true rfl)  (op_restore hI (Q := fun r r2 σ2 => r = r2 ∧ Inv σ2) (fun r σ2 h => ⟨rfl, h⟩))) w757 wy_X9_restore ⟨rfl, rfl⟩ hd_X9_restore ⟨Nat.le_of_ble_eq_true rfl, Nat.le_of_ble_eq_true rfl⟩ (by omega) rfl rfl rfl rfl (Nat.le_of_ble_eq_true rfl) dL_law_444 (fun z1 σ1 _ h1 => ?_)
  refine l_aload_n C 1 dL_law_447 rfl rfl ?_
  refine l_calli (As := []) (rest := [.int (iI z1)]) C (s_X10_restore (lo := 0) (hi := 316) (Nat.zero_le _) (Nat.le_refl _)  h1) w1170 wy_X10_restore ⟨rfl, rfl⟩ hd_X10_restore ⟨Nat.le_of_ble_eq_true rfl, Nat.le_of_ble_eq_true rfl⟩ (by omega) rfl rfl rfl rfl (Nat.le_of_ble_eq_true rfl) dL_law_448 (fun z2 σ2 _ h2 => ?_)
  exact l_eq C h2.1 822 dL_law_451 (by decide) (kk σ2 h2.2)
theorem law_k14 {p : Program} {l : Launch} {e : Env} {s : State} {m : MethodId} {below : List Frame} {meth : Method} {c : Code} {b L : Nat} {xs : Nat → Int32} {D : va_G} {aC : Nat → ClassId} {σ : SG} {i : Nat} (C : CL p s m meth c b L xs D aC) (hI : Inv σ) (hi : i + 3 < L) (kk : ∀ σ2, Inv σ2 → VLw p l e s m below meth c b D aC σ2 822 [(3, .int (iI (i : Int))), (2, .ref (s.heap.size + 304)), (1, .ref (s.heap.size + 0)), (0, .ref b)] []) : VLw p l e s m below meth c b D aC σ 456 [(3, .int (iI (i : Int))), (2, .ref (s.heap.size + 304)), (1, .ref (s.heap.size + 0)), (0, .ref b)] [] := by
  refine l_aload_n C 2 dL_law_456 rfl rfl ?_
  refine l_aload_n C 3 dL_law_457 rfl rfl ?_
  refine l_iload_n C 0 dL_law_458 rfl rfl ?_
  refine l_iconst C dL_law_459 ?_
  refine l_iadd C dL_law_460 ?_
  refine l_sld C (j := i + 1) (by omega) (by omega) dL_law_461 ?_
  refine l_calli (As := [.int (iI (xs (i + 1)).toInt)]) (rest := []) C (s_X9_modulus (lo := 0) (hi := 316) (Nat.le_refl _) (Nat.le_of_ble_eq_true rfl) (inR_of _) (op_modulus hI (Q := fun r r2 σ2 => r = r2 ∧ Inv σ2) (fun r σ2 h => ⟨rfl, h⟩))) w761 wy_X9_modulus ⟨rfl, rfl⟩ hd_X9_modulus ⟨Nat.le_of_ble_eq_true rfl, Nat.le_of_ble_eq_true rfl⟩ (by omega) rfl rfl rfl rfl (Nat.le_of_ble_eq_true rfl) dL_law_462 (fun z1 σ1 _ h1 => ?_)
  refine l_aload_n C 1 dL_law_465 rfl rfl ?_
  refine l_aload_n C 3 dL_law_466 rfl rfl ?_
  refine l_iload_n C 0 dL_law_467 rfl rfl ?_
  refine l_iconst C dL_law_468 ?_
  refine l_iadd C dL_law_469 ?_
  refine l_sld C (j := i + 1) (by omega) (by omega) dL_law_470 ?_
  refine l_calli (As := [.int (iI (xs (i + 1)).toInt)]) (rest := [.int (iI z1)]) C (s_X10_modulus (lo := 0) (hi := 316) (Nat.zero_le _) (Nat.le_refl _) (inR_of _) h1) w1174 wy_X10_modulus ⟨rfl, rfl⟩ hd_X10_modulus ⟨Nat.le_of_ble_eq_true rfl, Nat.le_of_ble_eq_true rfl⟩ (by omega) rfl rfl rfl rfl (Nat.le_of_ble_eq_true rfl) dL_law_471 (fun z2 σ2 _ h2 => ?_)
  exact l_eq C h2.1 822 dL_law_474 (by decide) (kk σ2 h2.2)
theorem law_k15 {p : Program} {l : Launch} {e : Env} {s : State} {m : MethodId} {below : List Frame} {meth : Method} {c : Code} {b L : Nat} {xs : Nat → Int32} {D : va_G} {aC : Nat → ClassId} {σ : SG} {i : Nat} (C : CL p s m meth c b L xs D aC) (hI : Inv σ) (hi : i + 3 < L) (kk : ∀ σ2, Inv σ2 → VLw p l e s m below meth c b D aC σ2 822 [(3, .int (iI (i : Int))), (2, .ref (s.heap.size + 304)), (1, .ref (s.heap.size + 0)), (0, .ref b)] []) : VLw p l e s m below meth c b D aC σ 479 [(3, .int (iI (i : Int))), (2, .ref (s.heap.size + 304)), (1, .ref (s.heap.size + 0)), (0, .ref b)] [] := by
  refine l_aload_n C 2 dL_law_479 rfl rfl ?_
  refine l_aload_n C 3 dL_law_480 rfl rfl ?_
  refine l_iload_n C 0 dL_law_481 rfl rfl ?_
  refine l_iconst C dL_law_482 ?_
  refine l_iadd C dL_law_483 ?_
  refine l_sld C (j := i + 1) (by omega) (by omega) dL_law_484 ?_
  refine l_aload_n C 3 dL_law_485 rfl rfl ?_
  refine l_iload_n C 0 dL_law_486 rfl rfl ?_
  refine l_iconst C dL_law_487 ?_
  refine l_iadd C dL_law_488 ?_
  refine l_sld C (j := i + 2) (by omega) (by omega) dL_law_489 ?_
  refine l_calli (As := [.int (iI (xs (i + 1)).toInt), .int (iI (xs (i + 2)).toInt)]) (rest := []) C (s_X9_number (lo := 0) (hi := 316) (Nat.le_refl _) (Nat.le_of_ble_eq_true rfl) (inR_of _) (inR_of _) (op_number hI (Q := fun r r2 σ2 => r = r2 ∧ Inv σ2) (fun r σ2 h => ⟨rfl, h⟩))) w768 wy_X9_number ⟨rfl, rfl⟩ hd_X9_number ⟨Nat.le_of_ble_eq_true rfl, Nat.le_of_ble_eq_true rfl⟩ (by omega) rfl rfl rfl rfl (Nat.le_of_ble_eq_true rfl) dL_law_490 (fun z1 σ1 _ h1 => ?_)
  refine l_aload_n C 1 dL_law_493 rfl rfl ?_
  refine l_aload_n C 3 dL_law_494 rfl rfl ?_
  refine l_iload_n C 0 dL_law_495 rfl rfl ?_
  refine l_iconst C dL_law_496 ?_
  refine l_iadd C dL_law_497 ?_
  refine l_sld C (j := i + 1) (by omega) (by omega) dL_law_498 ?_
  refine l_aload_n C 3 dL_law_499 rfl rfl ?_
  refine l_iload_n C 0 dL_law_500 rfl rfl ?_
  refine l_iconst C dL_law_501 ?_
  refine l_iadd C dL_law_502 ?_
  refine l_sld C (j := i + 2) (by omega) (by omega) dL_law_503 ?_
  refine l_calli (As := [.int (iI (xs (i + 1)).toInt), .int (iI (xs (i + 2)).toInt)]) (rest := [.int (iI z1)]) C (s_X10_number (lo := 0) (hi := 316) (Nat.zero_le _) (Nat.le_refl _) (inR_of _) (inR_of _) h1) w1178 wy_X10_number ⟨rfl, rfl⟩ hd_X10_number ⟨Nat.le_of_ble_eq_true rfl, Nat.le_of_ble_eq_true rfl⟩ (by omega) rfl rfl rfl rfl (Nat.le_of_ble_eq_true rfl) dL_law_504 (fun z2 σ2 _ h2 => ?_)
  exact l_eq C h2.1 822 dL_law_507 (by decide) (kk σ2 h2.2)
theorem law_k16 {p : Program} {l : Launch} {e : Env} {s : State} {m : MethodId} {below : List Frame} {meth : Method} {c : Code} {b L : Nat} {xs : Nat → Int32} {D : va_G} {aC : Nat → ClassId} {σ : SG} {i : Nat} (C : CL p s m meth c b L xs D aC) (hI : Inv σ) (hi : i + 3 < L) (kk : ∀ σ2, Inv σ2 → VLw p l e s m below meth c b D aC σ2 822 [(3, .int (iI (i : Int))), (2, .ref (s.heap.size + 304)), (1, .ref (s.heap.size + 0)), (0, .ref b)] []) : VLw p l e s m below meth c b D aC σ 512 [(3, .int (iI (i : Int))), (2, .ref (s.heap.size + 304)), (1, .ref (s.heap.size + 0)), (0, .ref b)] [] := by
  refine l_aload_n C 2 dL_law_512 rfl rfl ?_
  refine l_aload_n C 3 dL_law_513 rfl rfl ?_
  refine l_iload_n C 0 dL_law_514 rfl rfl ?_
  refine l_iconst C dL_law_515 ?_
  refine l_iadd C dL_law_516 ?_
  refine l_sld C (j := i + 1) (by omega) (by omega) dL_law_517 ?_
  refine l_aload_n C 3 dL_law_518 rfl rfl ?_
  refine l_iload_n C 0 dL_law_519 rfl rfl ?_
  refine l_iconst C dL_law_520 ?_
  refine l_iadd C dL_law_521 ?_
  refine l_sld C (j := i + 2) (by omega) (by omega) dL_law_522 ?_
  refine l_calli (As := [.int (iI (xs (i + 1)).toInt), .int (iI (xs (i + 2)).toInt)]) (rest := []) C (s_X9_branch (lo := 0) (hi := 316) (Nat.le_refl _) (Nat.le_of_ble_eq_true rfl) (inR_of _) (inR_of _) (op_branch hI (Q := fun r r2 σ2 => r = r2 ∧ Inv σ2) (fun r σ2 h => ⟨rfl, h⟩))) w772 wy_X9_branch ⟨rfl, rfl⟩ hd_X9_branch ⟨Nat.le_of_ble_eq_true rfl, Nat.le_of_ble_eq_true rfl⟩ (by omega) rfl rfl rfl rfl (Nat.le_of_ble_eq_true rfl) dL_law_523 (fun z1 σ1 _ h1 => ?_)
  refine l_aload_n C 1 dL_law_526 rfl rfl ?_
  refine l_aload_n C 3 dL_law_527 rfl rfl ?_
  refine l_iload_n C 0 dL_law_528 rfl rfl ?_
  refine l_iconst C dL_law_529 ?_
  refine l_iadd C dL_law_530 ?_
  refine l_sld C (j := i + 1) (by omega) (by omega) dL_law_531 ?_
  refine l_aload_n C 3 dL_law_532 rfl rfl ?_
  refine l_iload_n C 0 dL_law_533 rfl rfl ?_
  refine l_iconst C dL_law_534 ?_
  refine l_iadd C dL_law_535 ?_
  refine l_sld C (j := i + 2) (by omega) (by omega) dL_law_536 ?_
  refine l_calli (As := [.int (iI (xs (i + 1)).toInt), .int (iI (xs (i + 2)).toInt)]) (rest := [.int (iI z1)]) C (s_X10_branch (lo := 0) (hi := 316) (Nat.zero_le _) (Nat.le_refl _) (inR_of _) (inR_of _) h1) w1182 wy_X10_branch ⟨rfl, rfl⟩ hd_X10_branch ⟨Nat.le_of_ble_eq_true rfl, Nat.le_of_ble_eq_true rfl⟩ (by omega) rfl rfl rfl rfl (Nat.le_of_ble_eq_true rfl) dL_law_537 (fun z2 σ2 _ h2 => ?_)
  exact l_eq C h2.1 822 dL_law_540 (by decide) (kk σ2 h2.2)
theorem law_k17 {p : Program} {l : Launch} {e : Env} {s : State} {m : MethodId} {below : List Frame} {meth : Method} {c : Code} {b L : Nat} {xs : Nat → Int32} {D : va_G} {aC : Nat → ClassId} {σ : SG} {i : Nat} (C : CL p s m meth c b L xs D aC) (hI : Inv σ) (hi : i + 3 < L) (kk : ∀ σ2, Inv σ2 → VLw p l e s m below meth c b D aC σ2 822 [(3, .int (iI (i : Int))), (2, .ref (s.heap.size + 304)), (1, .ref (s.heap.size + 0)), (0, .ref b)] []) : VLw p l e s m below meth c b D aC σ 545 [(3, .int (iI (i : Int))), (2, .ref (s.heap.size + 304)), (1, .ref (s.heap.size + 0)), (0, .ref b)] [] := by
  refine l_aload_n C 2 dL_law_545 rfl rfl ?_
  refine l_aload_n C 3 dL_law_546 rfl rfl ?_
  refine l_iload_n C 0 dL_law_547 rfl rfl ?_
  refine l_iconst C dL_law_548 ?_
  refine l_iadd C dL_law_549 ?_
  refine l_sld C (j := i + 1) (by omega) (by omega) dL_law_550 ?_
  refine l_aload_n C 3 dL_law_551 rfl rfl ?_
  refine l_iload_n C 0 dL_law_552 rfl rfl ?_
  refine l_iconst C dL_law_553 ?_
  refine l_iadd C dL_law_554 ?_
  refine l_sld C (j := i + 2) (by omega) (by omega) dL_law_555 ?_
  refine l_aload_n C 3 dL_law_556 rfl rfl ?_
  refine l_iload_n C 0 dL_law_557 rfl rfl ?_
  refine l_iconst C dL_law_558 ?_
  refine l_iadd C dL_law_559 ?_
  refine l_sld C (j := i + 3) (by omega) (by omega) dL_law_560 ?_
  refine l_calli (As := [.int (iI (xs (i + 1)).toInt), .int (iI (xs (i + 2)).toInt), .int (iI (xs (i + 3)).toInt)]) (rest := []) C (s_X9_seen (lo := 0) (hi := 316) (Nat.le_refl _) (Nat.le_of_ble_eq_true rfl) (inR_of _) (inR_of _) (inR_of _) (op_seen hI (Q := fun r r2 σ2 => r = r2 ∧ Inv σ2) (fun r σ2 h => ⟨rfl, h⟩))) w776 wy_X9_seen ⟨rfl, rfl⟩ hd_X9_seen ⟨Nat.le_of_ble_eq_true rfl, Nat.le_of_ble_eq_true rfl⟩ (by omega) rfl rfl rfl rfl (Nat.le_of_ble_eq_true rfl) dL_law_561 (fun z1 σ1 _ h1 => ?_)
  refine l_aload_n C 1 dL_law_564 rfl rfl ?_
  refine l_aload_n C 3 dL_law_565 rfl rfl ?_
  refine l_iload_n C 0 dL_law_566 rfl rfl ?_
  refine l_iconst C dL_law_567 ?_
  refine l_iadd C dL_law_568 ?_
  refine l_sld C (j := i + 1) (by omega) (by omega) dL_law_569 ?_
  refine l_aload_n C 3 dL_law_570 rfl rfl ?_
  refine l_iload_n C 0 dL_law_571 rfl rfl ?_
  refine l_iconst C dL_law_572 ?_
  refine l_iadd C dL_law_573 ?_
  refine l_sld C (j := i + 2) (by omega) (by omega) dL_law_574 ?_
  refine l_aload_n C 3 dL_law_575 rfl rfl ?_
  refine l_iload_n C 0 dL_law_576 rfl rfl ?_
  refine l_iconst C dL_law_577 ?_
  refine l_iadd C dL_law_578 ?_
  refine l_sld C (j := i + 3) (by omega) (by omega) dL_law_579 ?_
  refine l_calli (As := [.int (iI (xs (i + 1)).toInt), .int (iI (xs (i + 2)).toInt), .int (iI (xs (i + 3)).toInt)]) (rest := [.int (iI z1)]) C (s_X10_seen (lo := 0) (hi := 316) (Nat.zero_le _) (Nat.le_refl _) (inR_of _) (inR_of _) (inR_of _) h1) w1190 wy_X10_seen ⟨rfl, rfl⟩ hd_X10_seen ⟨Nat.le_of_ble_eq_true rfl, Nat.le_of_ble_eq_true rfl⟩ (by omega) rfl rfl rfl rfl (Nat.le_of_ble_eq_true rfl) dL_law_580 (fun z2 σ2 _ h2 => ?_)
  exact l_eq C h2.1 822 dL_law_583 (by decide) (kk σ2 h2.2)
theorem law_k18 {p : Program} {l : Launch} {e : Env} {s : State} {m : MethodId} {below : List Frame} {meth : Method} {c : Code} {b L : Nat} {xs : Nat → Int32} {D : va_G} {aC : Nat → ClassId} {σ : SG} {i : Nat} (C : CL p s m meth c b L xs D aC) (hI : Inv σ) (hi : i + 3 < L) (kk : ∀ σ2, Inv σ2 → VLw p l e s m below meth c b D aC σ2 822 [(3, .int (iI (i : Int))), (2, .ref (s.heap.size + 304)), (1, .ref (s.heap.size + 0)), (0, .ref b)] []) : VLw p l e s m below meth c b D aC σ 588 [(3, .int (iI (i : Int))), (2, .ref (s.heap.size + 304)), (1, .ref (s.heap.size + 0)), (0, .ref b)] [] := by
  refine l_aload_n C 2 dL_law_588 rfl rfl ?_
  refine l_aload_n C 3 dL_law_589 rfl rfl ?_
  refine l_iload_n C 0 dL_law_590 rfl rfl ?_
  refine l_iconst C dL_law_591 ?_
  refine l_iadd C dL_law_592 ?_
  refine l_sld C (j := i + 1) (by omega) (by omega) dL_law_593 ?_
  refine l_aload_n C 3 dL_law_594 rfl rfl ?_
  refine l_iload_n C 0 dL_law_595 rfl rfl ?_
  refine l_iconst C dL_law_596 ?_
  refine l_iadd C dL_law_597 ?_
  refine l_sld C (j := i + 2) (by omega) (by omega) dL_law_598 ?_
  refine l_calli (As := [.int (iI (xs (i + 1)).toInt), .int (iI (xs (i + 2)).toInt)]) (rest := []) C (s_X9_kind (lo := 0) (hi := 316) (Nat.le_refl _) (Nat.le_of_ble_eq_true rfl) (inR_of _) (inR_of _) (op_kind hI (Q := fun r r2 σ2 => r = r2 ∧ Inv σ2) (fun r σ2 h => ⟨rfl, h⟩))) w780 wy_X9_kind ⟨rfl, rfl⟩ hd_X9_kind ⟨Nat.le_of_ble_eq_true rfl, Nat.le_of_ble_eq_true rfl⟩ (by omega) rfl rfl rfl rfl (Nat.le_of_ble_eq_true rfl) dL_law_599 (fun z1 σ1 _ h1 => ?_)
  refine l_aload_n C 1 dL_law_602 rfl rfl ?_
  refine l_aload_n C 3 dL_law_603 rfl rfl ?_
  refine l_iload_n C 0 dL_law_604 rfl rfl ?_
  refine l_iconst C dL_law_605 ?_
  refine l_iadd C dL_law_606 ?_
  refine l_sld C (j := i + 1) (by omega) (by omega) dL_law_607 ?_
  refine l_aload_n C 3 dL_law_608 rfl rfl ?_
  refine l_iload_n C 0 dL_law_609 rfl rfl ?_
  refine l_iconst C dL_law_610 ?_
  refine l_iadd C dL_law_611 ?_
  refine l_sld C (j := i + 2) (by omega) (by omega) dL_law_612 ?_
  refine l_calli (As := [.int (iI (xs (i + 1)).toInt), .int (iI (xs (i + 2)).toInt)]) (rest := [.int (iI z1)]) C (s_X10_kind (lo := 0) (hi := 316) (Nat.zero_le _) (Nat.le_refl _) (inR_of _) (inR_of _) h1) w1194 wy_X10_kind ⟨rfl, rfl⟩ hd_X10_kind ⟨Nat.le_of_ble_eq_true rfl, Nat.le_of_ble_eq_true rfl⟩ (by omega) rfl rfl rfl rfl (Nat.le_of_ble_eq_true rfl) dL_law_613 (fun z2 σ2 _ h2 => ?_)
  exact l_eq C h2.1 822 dL_law_616 (by decide) (kk σ2 h2.2)
theorem law_k19 {p : Program} {l : Launch} {e : Env} {s : State} {m : MethodId} {below : List Frame} {meth : Method} {c : Code} {b L : Nat} {xs : Nat → Int32} {D : va_G} {aC : Nat → ClassId} {σ : SG} {i : Nat} (C : CL p s m meth c b L xs D aC) (hI : Inv σ) (hi : i + 3 < L) (kk : ∀ σ2, Inv σ2 → VLw p l e s m below meth c b D aC σ2 822 [(3, .int (iI (i : Int))), (2, .ref (s.heap.size + 304)), (1, .ref (s.heap.size + 0)), (0, .ref b)] []) : VLw p l e s m below meth c b D aC σ 621 [(3, .int (iI (i : Int))), (2, .ref (s.heap.size + 304)), (1, .ref (s.heap.size + 0)), (0, .ref b)] [] := by
  refine l_aload_n C 2 dL_law_621 rfl rfl ?_
  refine l_aload_n C 3 dL_law_622 rfl rfl ?_
  refine l_iload_n C 0 dL_law_623 rfl rfl ?_
  refine l_iconst C dL_law_624 ?_
  refine l_iadd C dL_law_625 ?_
  refine l_sld C (j := i + 1) (by omega) (by omega) dL_law_626 ?_
  refine l_aload_n C 3 dL_law_627 rfl rfl ?_
  refine l_iload_n C 0 dL_law_628 rfl rfl ?_
  refine l_iconst C dL_law_629 ?_
  refine l_iadd C dL_law_630 ?_
  refine l_sld C (j := i + 2) (by omega) (by omega) dL_law_631 ?_
  refine l_calli (As := [.int (iI (xs (i + 1)).toInt), .int (iI (xs (i + 2)).toInt)]) (rest := []) C (s_X9_unit (lo := 0) (hi := 316) (Nat.le_refl _) (Nat.le_of_ble_eq_true rfl) (inR_of _) (inR_of _) (op_unit hI (Q := fun r r2 σ2 => r = r2 ∧ Inv σ2) (fun r σ2 h => ⟨rfl, h⟩))) w785 wy_X9_unit ⟨rfl, rfl⟩ hd_X9_unit ⟨Nat.le_of_ble_eq_true rfl, Nat.le_of_ble_eq_true rfl⟩ (by omega) rfl rfl rfl rfl (Nat.le_of_ble_eq_true rfl) dL_law_632 (fun z1 σ1 _ h1 => ?_)
  refine l_aload_n C 1 dL_law_635 rfl rfl ?_
  refine l_aload_n C 3 dL_law_636 rfl rfl ?_
  refine l_iload_n C 0 dL_law_637 rfl rfl ?_
  refine l_iconst C dL_law_638 ?_
  refine l_iadd C dL_law_639 ?_
  refine l_sld C (j := i + 1) (by omega) (by omega) dL_law_640 ?_
  refine l_aload_n C 3 dL_law_641 rfl rfl ?_
  refine l_iload_n C 0 dL_law_642 rfl rfl ?_
  refine l_iconst C dL_law_643 ?_
  refine l_iadd C dL_law_644 ?_
  refine l_sld C (j := i + 2) (by omega) (by omega) dL_law_645 ?_
  refine l_calli (As := [.int (iI (xs (i + 1)).toInt), .int (iI (xs (i + 2)).toInt)]) (rest := [.int (iI z1)]) C (s_X10_unit (lo := 0) (hi := 316) (Nat.zero_le _) (Nat.le_refl _) (inR_of _) (inR_of _) h1) w1198 wy_X10_unit ⟨rfl, rfl⟩ hd_X10_unit ⟨Nat.le_of_ble_eq_true rfl, Nat.le_of_ble_eq_true rfl⟩ (by omega) rfl rfl rfl rfl (Nat.le_of_ble_eq_true rfl) dL_law_646 (fun z2 σ2 _ h2 => ?_)
  exact l_eq C h2.1 822 dL_law_649 (by decide) (kk σ2 h2.2)
theorem law_k20 {p : Program} {l : Launch} {e : Env} {s : State} {m : MethodId} {below : List Frame} {meth : Method} {c : Code} {b L : Nat} {xs : Nat → Int32} {D : va_G} {aC : Nat → ClassId} {σ : SG} {i : Nat} (C : CL p s m meth c b L xs D aC) (hI : Inv σ) (hi : i + 3 < L) (kk : ∀ σ2, Inv σ2 → VLw p l e s m below meth c b D aC σ2 822 [(3, .int (iI (i : Int))), (2, .ref (s.heap.size + 304)), (1, .ref (s.heap.size + 0)), (0, .ref b)] []) : VLw p l e s m below meth c b D aC σ 654 [(3, .int (iI (i : Int))), (2, .ref (s.heap.size + 304)), (1, .ref (s.heap.size + 0)), (0, .ref b)] [] := by
  refine l_aload_n C 2 dL_law_654 rfl rfl ?_
  refine l_aload_n C 3 dL_law_655 rfl rfl ?_
  refine l_iload_n C 0 dL_law_656 rfl rfl ?_
  refine l_iconst C dL_law_657 ?_
  refine l_iadd C dL_law_658 ?_
  refine l_sld C (j := i + 1) (by omega) (by omega) dL_law_659 ?_
  refine l_aload_n C 3 dL_law_660 rfl rfl ?_
  refine l_iload_n C 0 dL_law_661 rfl rfl ?_
  refine l_iconst C dL_law_662 ?_
  refine l_iadd C dL_law_663 ?_
  refine l_sld C (j := i + 2) (by omega) (by omega) dL_law_664 ?_
  refine l_aload_n C 3 dL_law_665 rfl rfl ?_
  refine l_iload_n C 0 dL_law_666 rfl rfl ?_
  refine l_iconst C dL_law_667 ?_
  refine l_iadd C dL_law_668 ?_
  refine l_sld C (j := i + 3) (by omega) (by omega) dL_law_669 ?_
  refine l_calli (As := [.int (iI (xs (i + 1)).toInt), .int (iI (xs (i + 2)).toInt), .int (iI (xs (i + 3)).toInt)]) (rest := []) C (s_X9_power (lo := 0) (hi := 316) (Nat.le_refl _) (Nat.le_of_ble_eq_true rfl) (inR_of _) (inR_of _) (inR_of _) (op_power hI (Q := fun r r2 σ2 => r = r2 ∧ Inv σ2) (fun r σ2 h => ⟨rfl, h⟩))) w790 wy_X9_power ⟨rfl, rfl⟩ hd_X9_power ⟨Nat.le_of_ble_eq_true rfl, Nat.le_of_ble_eq_true rfl⟩ (by omega) rfl rfl rfl rfl (Nat.le_of_ble_eq_true rfl) dL_law_670 (fun z1 σ1 _ h1 => ?_)
  refine l_aload_n C 1 dL_law_673 rfl rfl ?_
  refine l_aload_n C 3 dL_law_674 rfl rfl ?_
  refine l_iload_n C 0 dL_law_675 rfl rfl ?_
  refine l_iconst C dL_law_676 ?_
  refine l_iadd C dL_law_677 ?_
  refine l_sld C (j := i + 1) (by omega) (by omega) dL_law_678 ?_
  refine l_aload_n C 3 dL_law_679 rfl rfl ?_
  refine l_iload_n C 0 dL_law_680 rfl rfl ?_
  refine l_iconst C dL_law_681 ?_
  refine l_iadd C dL_law_682 ?_
  refine l_sld C (j := i + 2) (by omega) (by omega) dL_law_683 ?_
  refine l_aload_n C 3 dL_law_684 rfl rfl ?_
  refine l_iload_n C 0 dL_law_685 rfl rfl ?_
  refine l_iconst C dL_law_686 ?_
  refine l_iadd C dL_law_687 ?_
  refine l_sld C (j := i + 3) (by omega) (by omega) dL_law_688 ?_
  refine l_calli (As := [.int (iI (xs (i + 1)).toInt), .int (iI (xs (i + 2)).toInt), .int (iI (xs (i + 3)).toInt)]) (rest := [.int (iI z1)]) C (s_X10_power (lo := 0) (hi := 316) (Nat.zero_le _) (Nat.le_refl _) (inR_of _) (inR_of _) (inR_of _) h1) w1202 wy_X10_power ⟨rfl, rfl⟩ hd_X10_power ⟨Nat.le_of_ble_eq_true rfl, Nat.le_of_ble_eq_true rfl⟩ (by omega) rfl rfl rfl rfl (Nat.le_of_ble_eq_true rfl) dL_law_689 (fun z2 σ2 _ h2 => ?_)
  exact l_eq C h2.1 822 dL_law_692 (by decide) (kk σ2 h2.2)
theorem law_k21 {p : Program} {l : Launch} {e : Env} {s : State} {m : MethodId} {below : List Frame} {meth : Method} {c : Code} {b L : Nat} {xs : Nat → Int32} {D : va_G} {aC : Nat → ClassId} {σ : SG} {i : Nat} (C : CL p s m meth c b L xs D aC) (hI : Inv σ) (hi : i + 3 < L) (kk : ∀ σ2, Inv σ2 → VLw p l e s m below meth c b D aC σ2 822 [(3, .int (iI (i : Int))), (2, .ref (s.heap.size + 304)), (1, .ref (s.heap.size + 0)), (0, .ref b)] []) : VLw p l e s m below meth c b D aC σ 697 [(3, .int (iI (i : Int))), (2, .ref (s.heap.size + 304)), (1, .ref (s.heap.size + 0)), (0, .ref b)] [] := by
  refine l_aload_n C 2 dL_law_697 rfl rfl ?_
  refine l_aload_n C 3 dL_law_698 rfl rfl ?_
  refine l_iload_n C 0 dL_law_699 rfl rfl ?_
  refine l_iconst C dL_law_700 ?_
  refine l_iadd C dL_law_701 ?_
  refine l_sld C (j := i + 1) (by omega) (by omega) dL_law_702 ?_
  refine l_aload_n C 3 dL_law_703 rfl rfl ?_
  refine l_iload_n C 0 dL_law_704 rfl rfl ?_
  refine l_iconst C dL_law_705 ?_
  refine l_iadd C dL_law_706 ?_
  refine l_sld C (j := i + 2) (by omega) (by omega) dL_law_707 ?_
  refine l_calli (As := [.int (iI (xs (i + 1)).toInt), .int (iI (xs (i + 2)).toInt)]) (rest := []) C (s_X9_leastPolynomial (lo := 0) (hi := 316) (Nat.le_refl _) (Nat.le_of_ble_eq_true rfl) (inR_of _) (inR_of _) (op_leastPolynomial hI (Q := fun r r2 σ2 => r = r2 ∧ Inv σ2) (fun r σ2 h => ⟨rfl, h⟩))) w796 wy_X9_leastPolynomial ⟨rfl, rfl⟩ hd_X9_leastPolynomial ⟨Nat.le_of_ble_eq_true rfl, Nat.le_of_ble_eq_true rfl⟩ (by omega) rfl rfl rfl rfl (Nat.le_of_ble_eq_true rfl) dL_law_708 (fun z1 σ1 _ h1 => ?_)
  refine l_aload_n C 1 dL_law_711 rfl rfl ?_
  refine l_aload_n C 3 dL_law_712 rfl rfl ?_
  refine l_iload_n C 0 dL_law_713 rfl rfl ?_
  refine l_iconst C dL_law_714 ?_
  refine l_iadd C dL_law_715 ?_
  refine l_sld C (j := i + 1) (by omega) (by omega) dL_law_716 ?_
  refine l_aload_n C 3 dL_law_717 rfl rfl ?_
  refine l_iload_n C 0 dL_law_718 rfl rfl ?_
  refine l_iconst C dL_law_719 ?_
  refine l_iadd C dL_law_720 ?_
  refine l_sld C (j := i + 2) (by omega) (by omega) dL_law_721 ?_
  refine l_calli (As := [.int (iI (xs (i + 1)).toInt), .int (iI (xs (i + 2)).toInt)]) (rest := [.int (iI z1)]) C (s_X10_leastPolynomial (lo := 0) (hi := 316) (Nat.zero_le _) (Nat.le_refl _) (inR_of _) (inR_of _) h1) w1207 wy_X10_leastPolynomial ⟨rfl, rfl⟩ hd_X10_leastPolynomial ⟨Nat.le_of_ble_eq_true rfl, Nat.le_of_ble_eq_true rfl⟩ (by omega) rfl rfl rfl rfl (Nat.le_of_ble_eq_true rfl) dL_law_722 (fun z2 σ2 _ h2 => ?_)
  exact l_eq C h2.1 822 dL_law_725 (by decide) (kk σ2 h2.2)
theorem law_k22 {p : Program} {l : Launch} {e : Env} {s : State} {m : MethodId} {below : List Frame} {meth : Method} {c : Code} {b L : Nat} {xs : Nat → Int32} {D : va_G} {aC : Nat → ClassId} {σ : SG} {i : Nat} (C : CL p s m meth c b L xs D aC) (hI : Inv σ) (hi : i + 3 < L) (kk : ∀ σ2, Inv σ2 → VLw p l e s m below meth c b D aC σ2 822 [(3, .int (iI (i : Int))), (2, .ref (s.heap.size + 304)), (1, .ref (s.heap.size + 0)), (0, .ref b)] []) : VLw p l e s m below meth c b D aC σ 730 [(3, .int (iI (i : Int))), (2, .ref (s.heap.size + 304)), (1, .ref (s.heap.size + 0)), (0, .ref b)] [] := by
  refine l_aload_n C 2 dL_law_730 rfl rfl ?_
  refine l_aload_n C 3 dL_law_731 rfl rfl ?_
  refine l_iload_n C 0 dL_law_732 rfl rfl ?_
  refine l_iconst C dL_law_733 ?_
  refine l_iadd C dL_law_734 ?_
  refine l_sld C (j := i + 1) (by omega) (by omega) dL_law_735 ?_
  refine l_calli (As := [.int (iI (xs (i + 1)).toInt)]) (rest := []) C (s_X9_trace (lo := 0) (hi := 316) (Nat.le_refl _) (Nat.le_of_ble_eq_true rfl) (inR_of _) (op_trace hI (Q := fun r r2 σ2 => r = r2 ∧ Inv σ2) (fun r σ2 h => ⟨rfl, h⟩))) w812 wy_X9_trace ⟨rfl, rfl⟩ hd_X9_trace ⟨Nat.le_of_ble_eq_true rfl, Nat.le_of_ble_eq_true rfl⟩ (by omega) rfl rfl rfl rfl (Nat.le_of_ble_eq_true rfl) dL_law_736 (fun z1 σ1 _ h1 => ?_)
  refine l_aload_n C 1 dL_law_739 rfl rfl ?_
  refine l_aload_n C 3 dL_law_740 rfl rfl ?_
  refine l_iload_n C 0 dL_law_741 rfl rfl ?_
  refine l_iconst C dL_law_742 ?_
  refine l_iadd C dL_law_743 ?_
  refine l_sld C (j := i + 1) (by omega) (by omega) dL_law_744 ?_
  refine l_calli (As := [.int (iI (xs (i + 1)).toInt)]) (rest := [.int (iI z1)]) C (s_X10_trace (lo := 0) (hi := 316) (Nat.zero_le _) (Nat.le_refl _) (inR_of _) h1) w1215 wy_X10_trace ⟨rfl, rfl⟩ hd_X10_trace ⟨Nat.le_of_ble_eq_true rfl, Nat.le_of_ble_eq_true rfl⟩ (by omega) rfl rfl rfl rfl (Nat.le_of_ble_eq_true rfl) dL_law_745 (fun z2 σ2 _ h2 => ?_)
  exact l_eq C h2.1 822 dL_law_748 (by decide) (kk σ2 h2.2)
theorem law_k23 {p : Program} {l : Launch} {e : Env} {s : State} {m : MethodId} {below : List Frame} {meth : Method} {c : Code} {b L : Nat} {xs : Nat → Int32} {D : va_G} {aC : Nat → ClassId} {σ : SG} {i : Nat} (C : CL p s m meth c b L xs D aC) (hI : Inv σ) (hi : i + 3 < L) (kk : ∀ σ2, Inv σ2 → VLw p l e s m below meth c b D aC σ2 822 [(3, .int (iI (i : Int))), (2, .ref (s.heap.size + 304)), (1, .ref (s.heap.size + 0)), (0, .ref b)] []) : VLw p l e s m below meth c b D aC σ 753 [(3, .int (iI (i : Int))), (2, .ref (s.heap.size + 304)), (1, .ref (s.heap.size + 0)), (0, .ref b)] [] := by
  refine l_aload_n C 2 dL_law_753 rfl rfl ?_
  refine l_aload_n C 3 dL_law_754 rfl rfl ?_
  refine l_iload_n C 0 dL_law_755 rfl rfl ?_
  refine l_iconst C dL_law_756 ?_
  refine l_iadd C dL_law_757 ?_
  refine l_sld C (j := i + 1) (by omega) (by omega) dL_law_758 ?_
  refine l_calli (As := [.int (iI (xs (i + 1)).toInt)]) (rest := []) C (s_X9_order (lo := 0) (hi := 316) (Nat.le_refl _) (Nat.le_of_ble_eq_true rfl) (inR_of _) (op_order hI (Q := fun r r2 σ2 => r = r2 ∧ Inv σ2) (fun r σ2 h => ⟨rfl, h⟩))) w821 wy_X9_order ⟨rfl, rfl⟩ hd_X9_order ⟨Nat.le_of_ble_eq_true rfl, Nat.le_of_ble_eq_true rfl⟩ (by omega) rfl rfl rfl rfl (Nat.le_of_ble_eq_true rfl) dL_law_759 (fun z1 σ1 _ h1 => ?_)
  refine l_aload_n C 1 dL_law_762 rfl rfl ?_
  refine l_aload_n C 3 dL_law_763 rfl rfl ?_
  refine l_iload_n C 0 dL_law_764 rfl rfl ?_
  refine l_iconst C dL_law_765 ?_
  refine l_iadd C dL_law_766 ?_
  refine l_sld C (j := i + 1) (by omega) (by omega) dL_law_767 ?_
  refine l_calli (As := [.int (iI (xs (i + 1)).toInt)]) (rest := [.int (iI z1)]) C (s_X10_order (lo := 0) (hi := 316) (Nat.zero_le _) (Nat.le_refl _) (inR_of _) h1) w1219 wy_X10_order ⟨rfl, rfl⟩ hd_X10_order ⟨Nat.le_of_ble_eq_true rfl, Nat.le_of_ble_eq_true rfl⟩ (by omega) rfl rfl rfl rfl (Nat.le_of_ble_eq_true rfl) dL_law_768 (fun z2 σ2 _ h2 => ?_)
  exact l_eq C h2.1 822 dL_law_771 (by decide) (kk σ2 h2.2)
theorem law_k24 {p : Program} {l : Launch} {e : Env} {s : State} {m : MethodId} {below : List Frame} {meth : Method} {c : Code} {b L : Nat} {xs : Nat → Int32} {D : va_G} {aC : Nat → ClassId} {σ : SG} {i : Nat} (C : CL p s m meth c b L xs D aC) (hI : Inv σ) (hi : i + 3 < L) (kk : ∀ σ2, Inv σ2 → VLw p l e s m below meth c b D aC σ2 822 [(3, .int (iI (i : Int))), (2, .ref (s.heap.size + 304)), (1, .ref (s.heap.size + 0)), (0, .ref b)] []) : VLw p l e s m below meth c b D aC σ 776 [(3, .int (iI (i : Int))), (2, .ref (s.heap.size + 304)), (1, .ref (s.heap.size + 0)), (0, .ref b)] [] := by
  refine l_aload_n C 2 dL_law_776 rfl rfl ?_
  refine l_aload_n C 3 dL_law_777 rfl rfl ?_
  refine l_iload_n C 0 dL_law_778 rfl rfl ?_
  refine l_iconst C dL_law_779 ?_
  refine l_iadd C dL_law_780 ?_
  refine l_sld C (j := i + 1) (by omega) (by omega) dL_law_781 ?_
  refine l_calli (As := [.int (iI (xs (i + 1)).toInt)]) (rest := []) C (s_X9_factors (lo := 0) (hi := 316) (Nat.le_refl _) (Nat.le_of_ble_eq_true rfl) (inR_of _) (op_factors hI (Q := fun r r2 σ2 => r = r2 ∧ Inv σ2) (fun r σ2 h => ⟨rfl, h⟩))) w845 wy_X9_factors ⟨rfl, rfl⟩ hd_X9_factors ⟨Nat.le_of_ble_eq_true rfl, Nat.le_of_ble_eq_true rfl⟩ (by omega) rfl rfl rfl rfl (Nat.le_of_ble_eq_true rfl) dL_law_782 (fun z1 σ1 _ h1 => ?_)
  refine l_aload_n C 1 dL_law_785 rfl rfl ?_
  refine l_aload_n C 3 dL_law_786 rfl rfl ?_
  refine l_iload_n C 0 dL_law_787 rfl rfl ?_
  refine l_iconst C dL_law_788 ?_
  refine l_iadd C dL_law_789 ?_
  refine l_sld C (j := i + 1) (by omega) (by omega) dL_law_790 ?_
  refine l_calli (As := [.int (iI (xs (i + 1)).toInt)]) (rest := [.int (iI z1)]) C (s_X10_factors (lo := 0) (hi := 316) (Nat.zero_le _) (Nat.le_refl _) (inR_of _) h1) w1234 wy_X10_factors ⟨rfl, rfl⟩ hd_X10_factors ⟨Nat.le_of_ble_eq_true rfl, Nat.le_of_ble_eq_true rfl⟩ (by omega) rfl rfl rfl rfl (Nat.le_of_ble_eq_true rfl) dL_law_791 (fun z2 σ2 _ h2 => ?_)
  exact l_eq C h2.1 822 dL_law_794 (by decide) (kk σ2 h2.2)
theorem law_k25 {p : Program} {l : Launch} {e : Env} {s : State} {m : MethodId} {below : List Frame} {meth : Method} {c : Code} {b L : Nat} {xs : Nat → Int32} {D : va_G} {aC : Nat → ClassId} {σ : SG} {i : Nat} (C : CL p s m meth c b L xs D aC) (hI : Inv σ) (hi : i + 3 < L) (kk : ∀ σ2, Inv σ2 → VLw p l e s m below meth c b D aC σ2 822 [(3, .int (iI (i : Int))), (2, .ref (s.heap.size + 304)), (1, .ref (s.heap.size + 0)), (0, .ref b)] []) : VLw p l e s m below meth c b D aC σ 799 [(3, .int (iI (i : Int))), (2, .ref (s.heap.size + 304)), (1, .ref (s.heap.size + 0)), (0, .ref b)] [] := by
  refine l_aload_n C 2 dL_law_799 rfl rfl ?_
  refine l_aload_n C 3 dL_law_800 rfl rfl ?_
  refine l_iload_n C 0 dL_law_801 rfl rfl ?_
  refine l_iconst C dL_law_802 ?_
  refine l_iadd C dL_law_803 ?_
  refine l_sld C (j := i + 1) (by omega) (by omega) dL_law_804 ?_
  refine l_calli (As := [.int (iI (xs (i + 1)).toInt)]) (rest := []) C (s_X9_count (lo := 0) (hi := 316) (Nat.le_refl _) (Nat.le_of_ble_eq_true rfl) (inR_of _) (op_count hI (Q := fun r r2 σ2 => r = r2 ∧ Inv σ2) (fun r σ2 h => ⟨rfl, h⟩))) w850 wy_X9_count ⟨rfl, rfl⟩ hd_X9_count ⟨Nat.le_of_ble_eq_true rfl, Nat.le_of_ble_eq_true rfl⟩ (by omega) rfl rfl rfl rfl (Nat.le_of_ble_eq_true rfl) dL_law_805 (fun z1 σ1 _ h1 => ?_)
  refine l_aload_n C 1 dL_law_808 rfl rfl ?_
  refine l_aload_n C 3 dL_law_809 rfl rfl ?_
  refine l_iload_n C 0 dL_law_810 rfl rfl ?_
  refine l_iconst C dL_law_811 ?_
  refine l_iadd C dL_law_812 ?_
  refine l_sld C (j := i + 1) (by omega) (by omega) dL_law_813 ?_
  refine l_calli (As := [.int (iI (xs (i + 1)).toInt)]) (rest := [.int (iI z1)]) C (s_X10_count (lo := 0) (hi := 316) (Nat.zero_le _) (Nat.le_refl _) (inR_of _) h1) w1238 wy_X10_count ⟨rfl, rfl⟩ hd_X10_count ⟨Nat.le_of_ble_eq_true rfl, Nat.le_of_ble_eq_true rfl⟩ (by omega) rfl rfl rfl rfl (Nat.le_of_ble_eq_true rfl) dL_law_814 (fun z2 σ2 _ h2 => ?_)
  exact l_eq C h2.1 822 dL_law_817 (by decide) (kk σ2 h2.2)
theorem law_loop {p : Program} {l : Launch} {e : Env} {s : State} {m : MethodId} {below : List Frame} {meth : Method} {c : Code} {b L : Nat} {xs : Nat → Int32} {D : va_G} {aC : Nat → ClassId} (C : CL p s m meth c b L xs D aC) : ∀ (n i : Nat) (σ : SG), L - i < n → i ≤ L + 3 → Inv σ → VLw p l e s m below meth c b D aC σ 18 [(3, .int (iI (i : Int))), (2, .ref (s.heap.size + 304)), (1, .ref (s.heap.size + 0)), (0, .ref b)] [] := by
  intro n
  induction n with
  | zero => intro i σ h; omega
  | succ n ih =>
    intro i σ hn hiL hI
    have hL := C.2.2
    have next : i + 3 < L → ∀ σ2, Inv σ2 → VLw p l e s m below meth c b D aC σ2 822 [(3, .int (iI (i : Int))), (2, .ref (s.heap.size + 304)), (1, .ref (s.heap.size + 0)), (0, .ref b)] [] := by
      intro hi σ2 hI2
      refine l_iinc (lv' := [(3, .int (iI ((i : Int) + 4))), (2, .ref (s.heap.size + 304)), (1, .ref (s.heap.size + 0)), (0, .ref b)]) C 0 dL_law_822 rfl (by decide) rfl ?_
      refine l_goto C 18 dL_law_825 (by decide) ?_
      have h := ih (i + 4) σ2 (by omega) (by omega) hI2
      rw [show ((i + 4 : Nat) : Int) = (i : Int) + 4 by omega] at h
      exact h
    refine l_iload_n C 0 dL_law_18 rfl rfl ?_
    refine l_aload_n C 3 dL_law_19 rfl rfl ?_
    refine l_slen C dL_law_20 ?_
    refine l_iconst C dL_law_21 ?_
    refine l_isub C dL_law_22 ?_
    refine l_gt C (by omega) (by omega) 828 dL_law_23 (by decide) (fun hend => ?_) (fun hgo => ?_)
    · refine l_iconst C dL_law_828 ?_
      exact l_end C dL_law_829
    · have hi : i + 3 < L := by omega
      have kk := next hi
      refine l_aload_n C 3 dL_law_26 rfl rfl ?_
      refine l_iload_n C 0 dL_law_27 rfl rfl ?_
      refine l_sld C (j := i) (by omega) rfl dL_law_28 ?_
      refine l_bipush C dL_law_29 rfl ?_
      refine l_iand C dL_law_31 ?_
      have hR := inR_iand (xs i).toInt 31
      generalize iand (xs i).toInt 31 = a at hR ⊢
      by_cases ho : a < 0 ∨ 25 < a
      · exact l_tabOut C hR 822 dL_law_32 ho (by decide) (kk σ hI)
      · rcases (show a = 0 ∨ a = 1 ∨ a = 2 ∨ a = 3 ∨ a = 4 ∨ a = 5 ∨ a = 6 ∨ a = 7 ∨ a = 8 ∨ a = 9 ∨ a = 10 ∨ a = 11 ∨ a = 12 ∨ a = 13 ∨ a = 14 ∨ a = 15 ∨ a = 16 ∨ a = 17 ∨ a = 18 ∨ a = 19 ∨ a = 20 ∨ a = 21 ∨ a = 22 ∨ a = 23 ∨ a = 24 ∨ a = 25 by omega) with h | h | h | h | h | h | h | h | h | h | h | h | h | h | h | h | h | h | h | h | h | h | h | h | h | h
        · exact l_tabIn C hR 0 h 152 dL_law_32 (by decide) (by decide) rfl (by decide) (law_k0 C hI hi kk)
        · exact l_tabIn C hR 1 h 175 dL_law_32 (by decide) (by decide) rfl (by decide) (law_k1 C hI hi kk)
        · exact l_tabIn C hR 2 h 188 dL_law_32 (by decide) (by decide) rfl (by decide) (law_k2 C hI hi kk)
        · exact l_tabIn C hR 3 h 231 dL_law_32 (by decide) (by decide) rfl (by decide) (law_k3 C hI hi kk)
        · exact l_tabIn C hR 4 h 244 dL_law_32 (by decide) (by decide) rfl (by decide) (law_k4 C hI hi kk)
        · exact l_tabIn C hR 5 h 287 dL_law_32 (by decide) (by decide) rfl (by decide) (law_k5 C hI hi kk)
        · exact l_tabIn C hR 6 h 310 dL_law_32 (by decide) (by decide) rfl (by decide) (law_k6 C hI hi kk)
        · exact l_tabIn C hR 7 h 323 dL_law_32 (by decide) (by decide) rfl (by decide) (law_k7 C hI hi kk)
        · exact l_tabIn C hR 8 h 356 dL_law_32 (by decide) (by decide) rfl (by decide) (law_k8 C hI hi kk)
        · exact l_tabIn C hR 9 h 379 dL_law_32 (by decide) (by decide) rfl (by decide) (law_k9 C hI hi kk)
        · exact l_tabIn C hR 10 h 404 dL_law_32 (by decide) (by decide) rfl (by decide) (law_k10 C hI hi kk)
        · exact l_tabIn C hR 11 h 417 dL_law_32 (by decide) (by decide) rfl (by decide) (law_k11 C hI hi kk)
        · exact l_tabIn C hR 12 h 430 dL_law_32 (by decide) (by decide) rfl (by decide) (law_k12 C hI hi kk)
        · exact l_tabIn C hR 13 h 443 dL_law_32 (by decide) (by decide) rfl (by decide) (law_k13 C hI hi kk)
        · exact l_tabIn C hR 14 h 456 dL_law_32 (by decide) (by decide) rfl (by decide) (law_k14 C hI hi kk)
        · exact l_tabIn C hR 15 h 479 dL_law_32 (by decide) (by decide) rfl (by decide) (law_k15 C hI hi kk)
        · exact l_tabIn C hR 16 h 512 dL_law_32 (by decide) (by decide) rfl (by decide) (law_k16 C hI hi kk)
        · exact l_tabIn C hR 17 h 545 dL_law_32 (by decide) (by decide) rfl (by decide) (law_k17 C hI hi kk)
        · exact l_tabIn C hR 18 h 588 dL_law_32 (by decide) (by decide) rfl (by decide) (law_k18 C hI hi kk)
        · exact l_tabIn C hR 19 h 621 dL_law_32 (by decide) (by decide) rfl (by decide) (law_k19 C hI hi kk)
        · exact l_tabIn C hR 20 h 654 dL_law_32 (by decide) (by decide) rfl (by decide) (law_k20 C hI hi kk)
        · exact l_tabIn C hR 21 h 697 dL_law_32 (by decide) (by decide) rfl (by decide) (law_k21 C hI hi kk)
        · exact l_tabIn C hR 22 h 730 dL_law_32 (by decide) (by decide) rfl (by decide) (law_k22 C hI hi kk)
        · exact l_tabIn C hR 23 h 753 dL_law_32 (by decide) (by decide) rfl (by decide) (law_k23 C hI hi kk)
        · exact l_tabIn C hR 24 h 776 dL_law_32 (by decide) (by decide) rfl (by decide) (law_k24 C hI hi kk)
        · exact l_tabIn C hR 25 h 799 dL_law_32 (by decide) (by decide) rfl (by decide) (law_k25 C hI hi kk)
