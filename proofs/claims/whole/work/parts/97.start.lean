/-! from the law's entry to its loop -/
theorem Inv_new {σ τ1 τ2 : SG} (h1 : PTop τ1) (h2 : PMod τ2) (e1 : ∀ a, a < 304 → σ a = τ1 a) (e2 : ∀ a, 304 ≤ a → σ a = τ2 a) : Inv σ := by
  obtain ⟨t1, t2, ⟨t3, t4, t5⟩, t6, t7⟩ := h1
  obtain ⟨m1, m2, m3, m4⟩ := h2
  have sc : ∀ o, o + 29 ≤ 304 → SC τ1 o s5 → SC σ o s5 := fun o ho h => SC_cg h (fun i a b => e1 i (by omega))
  have hV : VSt s5 := ⟨pr5, @Val_start (POL 3) (polR 3) (3 + 2) (coP 3) (polMk 3) (PD_pol pr5)⟩
  refine ⟨s5, [], none, [], ⟨fun o ho => ?_, sc 1 (by omega) t1, by rw [e2 305 (by omega)]; exact m1, hV⟩, ⟨fun t ht => by simp at ht, fun t ht => by simp at ht⟩, ⟨⟨by rw [e1 184 (by omega), t3]; omega, ⟨by rw [e1 184 (by omega), t4]; rfl, by simp⟩, fun j s h => by simp at h⟩, ⟨by rw [e2 304 (by omega), m2]; rfl, by simp⟩, fun j s h => by simp at h⟩, ⟨⟨by rw [e1 0 (by omega), e2 304 (by omega), t7, m3], by rw [e1 0 (by omega), t7]; simp⟩, fun s h => by simp at h⟩, ⟨by rw [e1 30 (by omega), t6]; rfl, by rw [e2 304 (by omega), m4]; rfl, by simp⟩, fun i c h => by simp at h⟩
  rcases isSt_in ho with q | q | q | q | q | q
  · rw [q]; exact (sc 1 (by omega) t1).2.2.2.2.1
  · rw [q]; exact (sc 155 (by omega) t2).2.2.2.2.1
  · rw [q]; exact (sc 186 (by omega) (t5 0 (by omega))).2.2.2.2.1
  · rw [q]; exact (sc 215 (by omega) (t5 1 (by omega))).2.2.2.2.1
  · rw [q]; exact (sc 244 (by omega) (t5 2 (by omega))).2.2.2.2.1
  · rw [q]; exact (sc 273 (by omega) (t5 3 (by omega))).2.2.2.2.1
theorem K_new {s : State} {A : Array Value} (hts : ∀ w ∈ WS, w.before A s = true) (hp : va_AO "SplitTowers$Poly" s) (hq : va_AO "SplitTowers$State" s) : ∃ (D : va_G) (aC : Nat → ClassId), va_K D vwCl (tysA aC) s := by
  have hc : ∀ k : Nat, ∃ (cC : ClassId) (iS : Nat → Nat), ∀ q : vw_C, vwCl[k]? = some q → u_Kn s q.1 q.2.1 q.2.2 cC iS := by
    have g : ∀ {k : Nat} {C : String} {T : u_T} {N n : Nat}, vwCl[k]? = some (C, T, N) → (∀ w ∈ u_ws C T N, w ∈ WS) → Cond.instantiable C n ∈ WS → ∃ (cC : ClassId) (iS : Nat → Nat), ∀ q : vw_C, vwCl[k]? = some q → u_Kn s q.1 q.2.1 q.2.2 cC iS := by
      intro k C T N n h1 h2 h3
      obtain ⟨cC, iS, h⟩ := u_known hts h2 (hts _ h3)
      exact ⟨cC, iS, fun q hq => by rw [h1] at hq; cases hq; exact h⟩
    intro k
    match k with
    | 0 => exact g rfl inX0 w283
    | 1 => exact g rfl inX1 w310
    | 2 => exact g rfl inX2 w205
    | 3 => exact g rfl inX3 w384
    | 4 => exact g rfl inX4 w95
    | 5 => exact g rfl inX5 w344
    | 6 => exact g rfl inX6 w238
    | 7 => exact g rfl inX7 w89
    | 8 => exact g rfl inX8 w182
    | 9 => exact g rfl inX9 w81
    | 10 => exact g rfl inX10 w868
    | k + 11 =>
      obtain ⟨cC, iS, -⟩ := g (k := 0) rfl inX0 w283
      exact ⟨cC, iS, fun q hq => by simp at hq⟩
  have prim : ∀ {ty : FieldType}, (∀ C, ty ≠ .object C) → Cond.arrayClass ty ∈ WS → ∃ a : ClassId, ArrOfT s a ty ∧ s.vm.findClass ("[" ++ ty.toString) = some a := by
    intro ty hty h
    obtain ⟨cA, kA, comp, h1, h2, h3⟩ := Cond.arrayClass_spec (hts _ h)
    exact ⟨cA, fun n z => ⟨fun k h => (by cases h), kA, h2, comp, h3⟩, h1⟩
  have refs : ∀ {C : String}, va_AO C s → ∃ a : ClassId, ArrOfT s a (.object C) ∧ va_RA s a (.object C) := by
    intro C h
    obtain ⟨comp, cA, kA, h1, h2, h3, h4, h5⟩ := Cond.arrayOver_spec h
    exact ⟨cA, fun n z => ⟨fun k h => (by cases h), kA, h3, comp, h4⟩, kA, comp, h3, h4, h1, h5⟩
  obtain ⟨a0, x0, y0⟩ := prim (ty := .int) (fun C h => by cases h) w113
  obtain ⟨a1, x1, y1⟩ := prim (ty := .boolean) (fun C h => by cases h) w382
  obtain ⟨a2, x2, y2⟩ := prim (ty := .char) (fun C h => by cases h) w923
  obtain ⟨a3, x3, y3⟩ := refs hp
  obtain ⟨a4, x4, y4⟩ := refs hq
  refine ⟨(fun k => Classical.choose (hc k), fun k => Classical.choose (Classical.choose_spec (hc k))), fun k => if k = 0 then a0 else if k = 1 then a1 else if k = 2 then a2 else if k = 3 then a3 else a4, fun k q hq => Classical.choose_spec (Classical.choose_spec (hc k)) q hq, fun k q hq => ?_⟩
  match k, hq with
  | 0, hq => cases hq; exact ⟨x0, y0⟩
  | 1, hq => cases hq; exact ⟨x1, y1⟩
  | 2, hq => cases hq; exact ⟨x2, y2⟩
  | 3, hq => cases hq; exact ⟨x3, y3⟩
  | 4, hq => cases hq; exact ⟨x4, y4⟩
  | k + 5, hq => simp [tysA] at hq
theorem goodCode {y : MethodName} {bytes : ByteArray} {maxL : Nat} {r : Option FieldType} (h : Cond.code y bytes maxL r ∈ WS) : GoodIn WS (Cond.code y bytes maxL r :: WS) := fun w hw => by
  have g : w ∈ WS := by
    rcases List.mem_cons.mp hw with rfl | h2
    · exact h
    · exact h2
  exact ⟨g, good_of_word (WS_good w g)⟩
set_option maxHeartbeats 4000000 in
set_option maxRecDepth 100000 in
/-- YOUR PART: from the entry, for every script of at most 2048 ints, the law comes to its end with true -/
theorem whole_start {p : Program} {e : Env} {s : State} {m : MethodId} {below : List Frame} {meth : Method} {c : Code} (l : Launch) (hflags : l.flags = flags0) {b L : Nat} {xs : Nat → Int32} (hL : L ≤ 2048) (C0 : lw_At p s m meth c b L xs) : W p l e room_1 s m #[Value.ref b] below meth c s.heap [] 0 0 (lw_Z below #[Value.ref b] s) (entryFrame m ([Value.ref b] : List Value).toArray 4) := by
  obtain ⟨hx, hb, hr, hml, hown, hts0, hX, hbl, hlocks, hgv⟩ := id C0
  have hts : ∀ w ∈ WS, w.before #[Value.ref b] s = true := fun w h => hts0 w (WS_tbl w h)
  have hown : s.vm.findClass "SplitTowersLaw" = some m.cls := hown
  have hb : c.code = cL_law := hb
  have hp : va_AO "SplitTowers$Poly" s := va_AO.of (hts0 (.arrayOver (.object "SplitTowers$Poly")) (List.mem_of_getElem? (i := 114) (by decide +kernel)))
  have hq : va_AO "SplitTowers$State" s := va_AO.of (hts0 (.arrayOver (.object "SplitTowers$State")) (List.mem_of_getElem? (i := 390) (by decide +kernel)))
  obtain ⟨D, aC, hK⟩ := K_new hts hp hq
  have C : CL p s m meth c b L xs D aC := ⟨C0, hK, hL⟩
  have hK9 := hK.1 9 _ rfl
  have hK10 := hK.1 10 _ rfl
  have hl := lv_entry ([.ref b]) (n := 4) (Nat.le_of_ble_eq_true rfl)
  rw [lg_entry_eq]
  generalize (lg_sl ([.ref b]) ++ List.replicate (4 - (lg_sl ([.ref b])).length) Slot.unset).toArray = ls at hl ⊢
  have hl : lv_has ls 4 [(0, .ref b)] := hl
  have hS0 : va_S (fun q => s.heap.size ≤ q) s.heap s.heap [] := va_S.rf
  -- the class's object
  refine W.newcK hx hb hown (hts _ w80) (hts _ w81) (hts _ w68) (g := F0 m 0 ls []) rfl dL_law_0 (Nat.le_of_ble_eq_true rfl) (Nat.le_of_ble_eq_true rfl) hK9.2.1 rfl fun H1 kC hkC e1 z1 o1 => ?_
  have hS1 := hS0.born z1 o1
  have hx1 : va_at D vwCl (s.heap.size + 0, .inr (9, [.null, .null, .int 0, .null, .null, .null, .null, .null, .null, .null, .null])) H1 := ⟨_, rfl, (u_born tyX9 hts inX9 hK9 hkC e1 tyX9_ok).to df9⟩
  refine lv_dup hx hb dL_law_3 rfl ?_
  refine va_callv (va_runI (As := []) (rest := [.ref (s.heap.size + 0)]) ⟨hx, hb, hml, hown, hts⟩ (c_X9 (l := l) (D := D) (aC := aC) (B := s.heap.size)) (cwI 0 hts (goodCode iw9.2.2) rfl rfl rfl (hts _ iw9.2.1) (hts _ w82) (hts _ iw9.1) rfl hi9 ⟨Nat.le_of_ble_eq_true rfl, Nat.le_of_ble_eq_true rfl⟩) ⟨PC_blind, fun U hU hWm => ⟨rfl, by rw [hU]; exact z1, by rw [hU]; exact hx1, va_K.moved hWm.alike hK, va_AO.moved hWm.alike hp, va_AO.moved hWm.alike hq⟩⟩ rfl rfl hl.1 rfl (lv_room (Nat.le_of_ble_eq_true rfl)) dL_law_4 ⟨Nat.le_of_ble_eq_true rfl, Nat.le_of_ble_eq_true rfl⟩) hS1 (fun q _ h => h) (fun q h => h) (fun τ1 t H2 locs ht hvm hw1 hB hz1 hk1 hS2 => ?_)
  obtain ⟨z2, hW1⟩ := hB
  rw [ht] at z2 hW1
  refine lv_astore_n (lv' := [(1, .ref (s.heap.size + 0)), (0, .ref b)]) hx hb dL_law_7 rfl hl (by decide) rfl (fun ls hl => ?_)
  -- the reference's object
  refine W.newcK hx hb hown (hts _ w867) (hts _ w868) (hts _ w79) rfl dL_law_8 (Nat.le_of_ble_eq_true rfl) (Nat.le_of_ble_eq_true rfl) hK10.2.1 z2 fun H3 kC2 hkC2 e3 z3 o3 => ?_
  have hS3 := hS2.born (by rw [z3, z2]) (fun q hq => o3 q (by rw [← z2]; exact hq))
  have hx3 : va_at D vwCl (s.heap.size + 304, .inr (10, [.null, .null, .int 0, .null, .int 0, .null, .null, .null, .int 0, .null, .int 0, .null, .null, .null, .null])) H3 := ⟨_, rfl, (u_born tyX10 hts inX10 hK10 hkC2 e3 tyX10_ok).to df10⟩
  refine lv_dup hx hb dL_law_11 rfl ?_
  refine va_callv (va_runI (As := []) (rest := [.ref (s.heap.size + 304)]) ⟨hx, hb, hml, hown, hts⟩ (c_X10 (l := l) (D := D) (aC := aC) (B := s.heap.size)) (cwI 0 hts (goodCode iw10.2.2) rfl rfl rfl (hts _ iw10.2.1) (hts _ w869) (hts _ iw10.1) rfl hi10 ⟨Nat.le_of_ble_eq_true rfl, Nat.le_of_ble_eq_true rfl⟩) ⟨PC_blind, fun U hU hWm => ⟨rfl, by rw [hU]; exact z3, by rw [hU]; exact hx3, va_K.moved hWm.alike hK, va_AO.moved hWm.alike hp, va_AO.moved hWm.alike hq⟩⟩ rfl rfl hl.1 rfl (lv_room (Nat.le_of_ble_eq_true rfl)) dL_law_12 ⟨Nat.le_of_ble_eq_true rfl, Nat.le_of_ble_eq_true rfl⟩) hS3 (fun q _ h => Nat.le_trans (Nat.le_add_right _ _) h) (fun q h => Nat.le_trans (Nat.le_add_right _ _) h) (fun τ2 t2 H4 locs2 ht2 hvm2 hw2 hB2 hz2 hk2 hS4 => ?_)
  obtain ⟨z4, hW2⟩ := hB2
  rw [ht2] at z4 hW2
  refine lv_astore_n (lv' := [(2, .ref (s.heap.size + 304)), (1, .ref (s.heap.size + 0)), (0, .ref b)]) hx hb dL_law_15 rfl hl (by decide) rfl (fun ls hl => ?_)
  refine lv_iconst (v := iI 0) hx hb dL_law_16 rfl ?_
  refine lv_istore_n (lv' := [(3, .int (iI 0)), (2, .ref (s.heap.size + 304)), (1, .ref (s.heap.size + 0)), (0, .ref b)]) hx hb dL_law_17 rfl hl (by decide) rfl (fun ls hl => ?_)
  have hI : Inv (mx τ1 τ2 304) := Inv_new hw1 hw2 (fun a ha => mx_lt τ1 τ2 ha) (fun a ha => mx_ge τ1 τ2 ha)
  have hWd : Wd D aC s.heap.size 0 316 (mx τ1 τ2 304) H4 := by
    refine ⟨fun i j => ?_, fun i _ hi => ?_⟩
    · unfold mx
      split
      · exact hW1.1 i j
      · exact hW2.1 i j
    · by_cases q : i < 304
      · rw [mx_lt τ1 τ2 q]
        have hat := hW1.2 i (by omega) (by omega)
        have hlt := hat.lt
        refine (hat.kept (o3 _ (by show s.heap.size + i < s.heap.size + (0 + 304); omega))).kept (hk2 _ (by show s.heap.size + i < H3.size; rw [z3]; omega) (by show ¬ s.heap.size + 304 ≤ s.heap.size + i; omega))
      · rw [mx_ge τ1 τ2 (by omega)]
        exact hW2.2 i (by omega) (by omega)
  exact law_loop C (L + 1) 0 (mx τ1 τ2 304) (by omega) (by omega) hI H4 locs2 ls hWd hS4 hl
