/-! constructors: open cells stand in a list, sealed ones in the picture -/
def zr (σ : SG) (i : Nat) (f : Nat → Int) : SG := fun a => if a = i then f else σ a
def mx (σ τ : SG) (j : Nat) : SG := fun a => if a < j then σ a else τ a
theorem zr_eq (σ : SG) (i : Nat) (f : Nat → Int) : zr σ i f i = f := if_pos rfl
theorem zr_ne (σ : SG) {a i : Nat} (h : a ≠ i) (f : Nat → Int) : zr σ i f a = σ a := if_neg h
theorem mx_lt (σ τ : SG) {a j : Nat} (h : a < j) : mx σ τ j a = σ a := if_pos h
theorem mx_ge (σ τ : SG) {a j : Nat} (h : j ≤ a) : mx σ τ j a = τ a := if_neg (by omega)
def CH (D : va_G) (aC : Nat → ClassId) (B i0 hi : Nat) (E : List (Nat × va_E)) (σ : SG) (H : Heap) : Prop :=
  (H.size = B + hi ∧ ∀ i j, inR (σ i j)) ∧ (∀ i, i0 ≤ i → i < hi → (∀ (k : Nat) (y : Nat × va_E), E[k]? = some y → y.1 ≠ i) → va_at D vwCl (B + i, cel aC B (σ i) i) H) ∧ (∀ (k : Nat) (y : Nat × va_E), E[k]? = some y → (i0 ≤ y.1 ∧ y.1 < hi) ∧ va_at D vwCl (B + y.1, y.2) H) ∧ ∀ (k k' : Nat) (y y' : Nat × va_E), E[k]? = some y → E[k']? = some y' → y.1 = y'.1 → k = k'
theorem CH.put {D : va_G} {aC : Nat → ClassId} {B i0 hi : Nat} {E : List (Nat × va_E)} {σ : SG} {H H' : Heap} {q0 i : Nat} {x x' : va_E} (h : CH D aC B i0 hi E σ H) (he : E[q0]? = some (i, x)) (hx : va_at D vwCl (B + i, x') H') (z : H'.size = H.size) (oq : ∀ q, q ≠ B + i → H'[q]? = H[q]?) : CH D aC B i0 hi (E.set q0 (i, x')) σ H' := by
  obtain ⟨⟨h1, h2⟩, h3, h4, h5⟩ := h
  have hlen := (List.getElem?_eq_some_iff.mp he).1
  have hset : ∀ k y, (E.set q0 (i, x'))[k]? = some y → (k = q0 ∧ y = (i, x')) ∨ (k ≠ q0 ∧ E[k]? = some y) := by
    intro k y hy
    rw [List.getElem?_set] at hy
    by_cases q : q0 = k
    · rw [if_pos q, if_pos hlen] at hy
      exact Or.inl ⟨q.symm, (Option.some.inj hy).symm⟩
    · rw [if_neg q] at hy
      exact Or.inr ⟨fun e => q e.symm, hy⟩
  refine ⟨⟨z.trans h1, h2⟩, fun j a b hj => ?_, fun k y hy => ?_, fun k k' y y' hy hy' e => ?_⟩
  · have hji : i ≠ j := hj q0 (i, x') (by rw [List.getElem?_set, if_pos rfl, if_pos hlen])
    refine (h3 j a b (fun k y hy => ?_)).kept (oq _ (by show B + j ≠ B + i; omega))
    by_cases q : k = q0
    · rw [q, he] at hy
      rw [← Option.some.inj hy]
      exact hji
    · exact hj k y (by rw [List.getElem?_set, if_neg (fun e => q e.symm)]; exact hy)
  · rcases hset k y hy with ⟨_, rfl⟩ | ⟨q, hy⟩
    · exact ⟨(h4 q0 _ he).1, hx⟩
    · refine ⟨(h4 k y hy).1, (h4 k y hy).2.kept (oq _ (fun e => q (h5 k q0 _ _ hy he (by show y.1 = i; have : B + y.1 = B + i := e; omega))))⟩
  · rcases hset k y hy with ⟨q, rfl⟩ | ⟨q, hy⟩
    · rcases hset k' y' hy' with ⟨q', rfl⟩ | ⟨q', hy'⟩
      · rw [q, q']
      · exact (q' (h5 k' q0 _ _ hy' he e.symm)).elim
    · rcases hset k' y' hy' with ⟨q', rfl⟩ | ⟨q', hy'⟩
      · exact (q (h5 k q0 _ _ hy he e)).elim
      · exact h5 k k' y y' hy hy' e
theorem snoc_get {α : Type} {E : List α} {a y : α} {k : Nat} (h : (E ++ [a])[k]? = some y) : E[k]? = some y ∨ (k = E.length ∧ y = a) := by
  by_cases q : k < E.length
  · rw [List.getElem?_append_left q] at h; exact Or.inl h
  · rw [List.getElem?_append_right (by omega)] at h
    have hz := (List.getElem?_eq_some_iff.mp h).1
    have hz2 : k - E.length < 1 := hz
    rw [show k - E.length = 0 by omega] at h
    exact Or.inr ⟨by omega, (Option.some.inj h).symm⟩
theorem snoc_l {α : Type} {E : List α} {a y : α} {k : Nat} (h : E[k]? = some y) : (E ++ [a])[k]? = some y := by
  rw [List.getElem?_append_left (List.getElem?_eq_some_iff.mp h).1]; exact h
theorem snoc_r {α : Type} (E : List α) (a : α) : (E ++ [a])[E.length]? = some a := by
  rw [List.getElem?_append_right (Nat.le_refl _), Nat.sub_self]; rfl
theorem CH.new {D : va_G} {aC : Nat → ClassId} {B i0 hi : Nat} {E : List (Nat × va_E)} {σ : SG} {H H' : Heap} {x : va_E} (h : CH D aC B i0 hi E σ H) (hi0 : i0 ≤ hi) (hx : va_at D vwCl (B + hi, x) H') (z : H'.size = B + hi + 1) (oq : ∀ q, q < B + hi → H'[q]? = H[q]?) : CH D aC B i0 (hi + 1) (E ++ [(hi, x)]) σ H' := by
  obtain ⟨⟨h1, h2⟩, h3, h4, h5⟩ := h
  refine ⟨⟨z, h2⟩, fun j a b hj => ?_, fun k y hy => ?_, fun k k' y y' hy hy' e => ?_⟩
  · have hjh : hi ≠ j := hj E.length (hi, x) (snoc_r E _)
    exact (h3 j a (by omega) (fun k y hy => hj k y (snoc_l hy))).kept (oq _ (by show B + j < B + hi; omega))
  · rcases snoc_get hy with hy | ⟨_, rfl⟩
    · have := h4 k y hy
      exact ⟨⟨this.1.1, by omega⟩, this.2.kept (oq _ (by show B + y.1 < B + hi; omega))⟩
    · exact ⟨⟨hi0, by show hi < hi + 1; omega⟩, hx⟩
  · rcases snoc_get hy with hy | ⟨q, rfl⟩
    · rcases snoc_get hy' with hy' | ⟨q', rfl⟩
      · exact h5 k k' y y' hy hy' e
      · have h6 := (h4 k y hy).1.2
        have e2 : y.1 = hi := e
        omega
    · rcases snoc_get hy' with hy' | ⟨q', rfl⟩
      · have h6 := (h4 k' y' hy').1.2
        have e2 : hi = y'.1 := e
        omega
      · rw [q, q']
theorem CH.seal {D : va_G} {aC : Nat → ClassId} {B i0 hi i : Nat} {E : List (Nat × va_E)} {σ : SG} {H : Heap} {x : va_E} {f : Nat → Int} (h : CH D aC B i0 hi (E ++ [(i, x)]) σ H) (hf : ∀ j, inR (f j)) (hx : va_at D vwCl (B + i, x) H → va_at D vwCl (B + i, cel aC B f i) H) : CH D aC B i0 hi E (zr σ i f) H := by
  obtain ⟨⟨h1, h2⟩, h3, h4, h5⟩ := h
  refine ⟨⟨h1, fun a j => ?_⟩, fun j a b hj => ?_, fun k y hy => h4 k y (snoc_l hy), fun k k' y y' hy hy' e => h5 k k' y y' (snoc_l hy) (snoc_l hy') e⟩
  · unfold zr
    split
    · exact hf j
    · exact h2 a j
  · by_cases q : j = i
    · rw [q, zr_eq]
      exact hx (h4 _ _ (snoc_r E (i, x))).2
    · rw [zr_ne _ q]
      refine h3 j a b (fun k y hy => ?_)
      rcases snoc_get hy with hy | ⟨_, rfl⟩
      · exact hj k y hy
      · exact fun e => q e.symm
theorem CH.call {D : va_G} {aC : Nat → ClassId} {B i0 j n : Nat} {E : List (Nat × va_E)} {σ τ : SG} {H H1 : Heap} {x : va_E} (h : CH D aC B i0 (j + 1) (E ++ [(j, x)]) σ H) (z : H1.size = B + (j + n)) (hW : Wd D aC B j (j + n) τ H1) (oq : ∀ q, q < B + j → H1[q]? = H[q]?) : CH D aC B i0 (j + n) E (mx σ τ j) H1 := by
  obtain ⟨⟨h1, h2⟩, h3, h4, h5⟩ := h
  have hlt : ∀ (k : Nat) (y : Nat × va_E), E[k]? = some y → y.1 < j := fun k y hy => by
    have a := (h4 k y (snoc_l hy)).1.2
    have b : y.1 ≠ j := fun e => by
      have := h5 k E.length y (j, x) (snoc_l hy) (snoc_r E _) e
      have := (List.getElem?_eq_some_iff.mp hy).1
      omega
    omega
  refine ⟨⟨z, fun a k => ?_⟩, fun i a b hi' => ?_, fun k y hy => ?_, fun k k' y y' hy hy' e => h5 k k' y y' (snoc_l hy) (snoc_l hy') e⟩
  · unfold mx
    split
    · exact h2 a k
    · exact hW.1 a k
  · by_cases q : i < j
    · rw [mx_lt _ _ q]
      refine (h3 i a (by omega) (fun k y hy => ?_)).kept (oq _ (by show B + i < B + j; omega))
      rcases snoc_get hy with hy | ⟨_, rfl⟩
      · exact hi' k y hy
      · show j ≠ i
        omega
    · rw [mx_ge _ _ (by omega)]
      exact hW.2 i (by omega) b
  · have g := h4 k y (snoc_l hy)
    have := hlt k y hy
    exact ⟨⟨g.1.1, by omega⟩, g.2.kept (oq _ (by show B + y.1 < B + j; omega))⟩
theorem CH.W {D : va_G} {aC : Nat → ClassId} {B i0 hi : Nat} {σ : SG} {H : Heap} (h : CH D aC B i0 hi [] σ H) : Wd D aC B i0 hi σ H := ⟨h.1.2, fun i a b => h.2.1 i a b (fun k y hy => by simp at hy)⟩
theorem CH.ofW {D : va_G} {aC : Nat → ClassId} {B i0 hi : Nat} {σ : SG} {H : Heap} (h : Wd D aC B i0 hi σ H) (z : H.size = B + hi) : CH D aC B i0 hi [] σ H := ⟨⟨z, h.1⟩, fun i a b _ => h.2 i a b, fun k y hy => by simp at hy, fun k k' y y' hy => by simp at hy⟩
/-- what a constructor stands on -/
def Cc (p : Program) (s : State) (m : MethodId) (args : Array Value) (meth : Method) (c : Code) (cc : ByteArray) (nL : Nat) (own : String) (D : va_G) (aC : Nat → ClassId) (B i0 : Nat) : Prop :=
  Cx p s m args meth c cc nL own none D aC ∧ meth.name = "<init>" ∧ (va_AO "SplitTowers$Poly" s ∧ va_AO "SplitTowers$State" s) ∧ s.heap.size = B + (i0 + 1)
def VC (p : Program) (l : Launch) (e : Env) (R : Room) (s : State) (m : MethodId) (args : Array Value) (below : List Frame) (meth : Method) (c : Code) (D : va_G) (aC : Nat → ClassId) (B i0 nL : Nat) (Q : State → Prop) (hi : Nat) (E : List (Nat × va_E)) (σ : SG) (cells slots : Nat) (pc : Nat) (lv : List (Nat × Value)) (st : List Value) : Prop :=
  ∀ (H : Heap) (locs : List Loc) (ls : Array Slot), CH D aC B i0 hi E σ H → va_S (fun q => B + i0 ≤ q) s.heap H locs → lv_has ls nL lv → W p l e R s m args below meth c H locs cells slots Q (F0 m pc ls st)
def PC (D : va_G) (aC : Nat → ClassId) (B j : Nat) (x : va_E) (U : State) : Prop := U.heap.size = B + (j + 1) ∧ va_at D vwCl (B + j, x) U.heap ∧ va_K D vwCl (tysA aC) U ∧ va_AO "SplitTowers$Poly" U ∧ va_AO "SplitTowers$State" U
def QC (D : va_G) (aC : Nat → ClassId) (B j n : Nat) (P : SG → Prop) : Array Value → State → Outcome → State → Prop := va_Qv P (fun τ t => t.heap.size = B + (j + n) ∧ Wd D aC B j (j + n) τ t.heap) (fun q => B + j ≤ q)
theorem nE_nil {v : Nat} : ∀ (k : Nat) (y : Nat × va_E), ([] : List (Nat × va_E))[k]? = some y → y.1 ≠ v := fun k y hy => by simp at hy
theorem nE_cons {v : Nat} {x : Nat × va_E} {E : List (Nat × va_E)} (h : x.1 ≠ v) (hE : ∀ (k : Nat) (y : Nat × va_E), E[k]? = some y → y.1 ≠ v) : ∀ (k : Nat) (y : Nat × va_E), (x :: E)[k]? = some y → y.1 ≠ v := fun k y hy => by
  match k, hy with
  | 0, hy => cases hy; exact h
  | k + 1, hy => exact hE k y hy
theorem arrq_cg {cA : ClassId} {n : Nat} {f f' : Nat → Option Nat} (h : ∀ j, j < n → f j = f' j) : vp_cell cA (n, .inr (.inr (.inr (.inr f)))) = vp_cell cA (n, .inr (.inr (.inr (.inr f')))) := by
  rw [vp_cell_q, vp_cell_q]
  unfold arrV
  congr 1
  apply Array.ext
  · simp
  · intro j h1 h2
    simp only [Array.getElem_ofFn]
    rw [h j (by simpa using h1)]
section CROWS
variable {p : Program} {l : Launch} {e : Env} {R : Room} {s : State} {m : MethodId} {args : Array Value} {below : List Frame} {meth : Method} {c : Code} {Q : State → Prop}
variable {D : va_G} {aC : Nat → ClassId} {B i0 nL hi hi' cells cells' slots slots' : Nat} {cc : ByteArray} {own : String}
variable {σ : SG} {E E' : List (Nat × va_E)} {pc : Nat} {lv lv' : List (Nat × Value)} {st : List Value}
theorem ctr_aload_n (C : Cc p s m args meth c cc nL own D aC B i0) {k : Fin 4} {i x : Nat} (j : Nat) (hdg : decode cc pc = .ok (.aload_n k, 1)) (hi1 : (k : Nat) = i) (hj : lv[j]? = some (i, .ref x)) (kk : VC p l e R s m args below meth c D aC B i0 nL Q hi E σ cells slots (pc + 1) lv (.ref x :: st)) : VC p l e R s m args below meth c D aC B i0 nL Q hi E σ cells slots pc lv st :=
  fun H locs ls hH hS hl => lv_aload_n C.1.1 C.1.2.1 hdg hi1 (lv_at hl j hj) (kk H locs ls hH hS hl)
theorem ctr_aload (C : Cc p s m args meth c cc nL own D aC B i0) {i x : Nat} (j : Nat) (hdg : decode cc pc = .ok (.aload i, 2)) (hj : lv[j]? = some (i, .ref x)) (kk : VC p l e R s m args below meth c D aC B i0 nL Q hi E σ cells slots (pc + 2) lv (.ref x :: st)) : VC p l e R s m args below meth c D aC B i0 nL Q hi E σ cells slots pc lv st :=
  fun H locs ls hH hS hl => lv_aload C.1.1 C.1.2.1 hdg (lv_at hl j hj) (kk H locs ls hH hS hl)
theorem ctr_iload_n (C : Cc p s m args meth c cc nL own D aC B i0) {k : Fin 4} {i : Nat} {x : Int32} (j : Nat) (hdg : decode cc pc = .ok (.iload_n k, 1)) (hi1 : (k : Nat) = i) (hj : lv[j]? = some (i, .int x)) (kk : VC p l e R s m args below meth c D aC B i0 nL Q hi E σ cells slots (pc + 1) lv (.int x :: st)) : VC p l e R s m args below meth c D aC B i0 nL Q hi E σ cells slots pc lv st :=
  fun H locs ls hH hS hl => lv_iload_n C.1.1 C.1.2.1 hdg hi1 (lv_at hl j hj) (kk H locs ls hH hS hl)
theorem ctr_iload (C : Cc p s m args meth c cc nL own D aC B i0) {i : Nat} {x : Int32} (j : Nat) (hdg : decode cc pc = .ok (.iload i, 2)) (hj : lv[j]? = some (i, .int x)) (kk : VC p l e R s m args below meth c D aC B i0 nL Q hi E σ cells slots (pc + 2) lv (.int x :: st)) : VC p l e R s m args below meth c D aC B i0 nL Q hi E σ cells slots pc lv st :=
  fun H locs ls hH hS hl => lv_iload C.1.1 C.1.2.1 hdg (lv_at hl j hj) (kk H locs ls hH hS hl)
theorem ctr_iconst (C : Cc p s m args meth c cc nL own D aC B i0) {n : Int} (hdg : decode cc pc = .ok (.iconst n, 1)) (kk : VC p l e R s m args below meth c D aC B i0 nL Q hi E σ cells slots (pc + 1) lv (.int (iI n) :: st)) : VC p l e R s m args below meth c D aC B i0 nL Q hi E σ cells slots pc lv st :=
  fun H locs ls hH hS hl => lv_iconst C.1.1 C.1.2.1 hdg rfl (kk H locs ls hH hS hl)
theorem ctr_bipush (C : Cc p s m args meth c cc nL own D aC B i0) {n : Int} (hdg : decode cc pc = .ok (.bipush n, 2)) (hn : (Int8.ofInt n).toInt32 = iI n) (kk : VC p l e R s m args below meth c D aC B i0 nL Q hi E σ cells slots (pc + 2) lv (.int (iI n) :: st)) : VC p l e R s m args below meth c D aC B i0 nL Q hi E σ cells slots pc lv st :=
  fun H locs ls hH hS hl => lv_bipush C.1.1 C.1.2.1 hdg hn (kk H locs ls hH hS hl)
theorem ctr_sipush (C : Cc p s m args meth c cc nL own D aC B i0) {n : Int} (hdg : decode cc pc = .ok (.sipush n, 3)) (hn : (Int16.ofInt n).toInt32 = iI n) (kk : VC p l e R s m args below meth c D aC B i0 nL Q hi E σ cells slots (pc + 3) lv (.int (iI n) :: st)) : VC p l e R s m args below meth c D aC B i0 nL Q hi E σ cells slots pc lv st :=
  fun H locs ls hH hS hl => lv_sipush C.1.1 C.1.2.1 hdg hn (kk H locs ls hH hS hl)
theorem ctr_dup (C : Cc p s m args meth c cc nL own D aC B i0) {v : Value} (hv : v.category = 1) (hdg : decode cc pc = .ok (.dup, 1)) (kk : VC p l e R s m args below meth c D aC B i0 nL Q hi E σ cells slots (pc + 1) lv (v :: v :: st)) : VC p l e R s m args below meth c D aC B i0 nL Q hi E σ cells slots pc lv (v :: st) :=
  fun H locs ls hH hS hl => lv_dup C.1.1 C.1.2.1 hdg hv (kk H locs ls hH hS hl)
theorem ctr_istore_n (C : Cc p s m args meth c cc nL own D aC B i0) {k : Fin 4} {i : Nat} {x : Int32} (hdg : decode cc pc = .ok (.istore_n k, 1)) (hi1 : (k : Nat) = i) (hn : i < nL) (hl' : (i, Value.int x) :: lv.filter (fun q => !(q.1 == i) && !(q.1 + 1 == i && q.2.category == 2)) = lv') (kk : VC p l e R s m args below meth c D aC B i0 nL Q hi E σ cells slots (pc + 1) lv' st) : VC p l e R s m args below meth c D aC B i0 nL Q hi E σ cells slots pc lv (.int x :: st) :=
  fun H locs ls hH hS hl => lv_istore_n C.1.1 C.1.2.1 hdg hi1 hl hn hl' (fun ls hl => kk H locs ls hH hS hl)
theorem ctr_istore (C : Cc p s m args meth c cc nL own D aC B i0) {i : Nat} {x : Int32} (hdg : decode cc pc = .ok (.istore i, 2)) (hn : i < nL) (hl' : (i, Value.int x) :: lv.filter (fun q => !(q.1 == i) && !(q.1 + 1 == i && q.2.category == 2)) = lv') (kk : VC p l e R s m args below meth c D aC B i0 nL Q hi E σ cells slots (pc + 2) lv' st) : VC p l e R s m args below meth c D aC B i0 nL Q hi E σ cells slots pc lv (.int x :: st) :=
  fun H locs ls hH hS hl => lv_istore C.1.1 C.1.2.1 hdg hl hn hl' (fun ls hl => kk H locs ls hH hS hl)
theorem ctr_astore_n (C : Cc p s m args meth c cc nL own D aC B i0) {k : Fin 4} {i x : Nat} (hdg : decode cc pc = .ok (.astore_n k, 1)) (hi1 : (k : Nat) = i) (hn : i < nL) (hl' : (i, Value.ref x) :: lv.filter (fun q => !(q.1 == i) && !(q.1 + 1 == i && q.2.category == 2)) = lv') (kk : VC p l e R s m args below meth c D aC B i0 nL Q hi E σ cells slots (pc + 1) lv' st) : VC p l e R s m args below meth c D aC B i0 nL Q hi E σ cells slots pc lv (.ref x :: st) :=
  fun H locs ls hH hS hl => lv_astore_n C.1.1 C.1.2.1 hdg hi1 hl hn hl' (fun ls hl => kk H locs ls hH hS hl)
theorem ctr_astore (C : Cc p s m args meth c cc nL own D aC B i0) {i x : Nat} (hdg : decode cc pc = .ok (.astore i, 2)) (hn : i < nL) (hl' : (i, Value.ref x) :: lv.filter (fun q => !(q.1 == i) && !(q.1 + 1 == i && q.2.category == 2)) = lv') (kk : VC p l e R s m args below meth c D aC B i0 nL Q hi E σ cells slots (pc + 2) lv' st) : VC p l e R s m args below meth c D aC B i0 nL Q hi E σ cells slots pc lv (.ref x :: st) :=
  fun H locs ls hH hS hl => lv_astore C.1.1 C.1.2.1 hdg hl hn hl' (fun ls hl => kk H locs ls hH hS hl)
theorem ctr_iinc (C : Cc p s m args meth c cc nL own D aC B i0) {i : Nat} {n x : Int} (x' : Int) (j : Nat) (hx : x' = x + n) (hdg : decode cc pc = .ok (.iinc i n, 3)) (hj : lv[j]? = some (i, .int (iI x))) (hn : i < nL) (hl' : (i, Value.int (iI x')) :: lv.filter (fun q => !(q.1 == i) && !(q.1 + 1 == i && q.2.category == 2)) = lv') (kk : VC p l e R s m args below meth c D aC B i0 nL Q hi E σ cells slots (pc + 3) lv' st) : VC p l e R s m args below meth c D aC B i0 nL Q hi E σ cells slots pc lv st := by
  subst hx
  exact fun H locs ls hH hS hl => lv_iinc C.1.1 C.1.2.1 hdg hl hj (iI_add x n) hn hl' (fun ls hl => kk H locs ls hH hS hl)
theorem ctr_goto (C : Cc p s m args meth c cc nL own D aC B i0) {off : Int} (tgt : Nat) (hdg : decode cc pc = .ok (.goto off, 3)) (ht : (pc : Int) + off = (tgt : Int)) (kk : VC p l e R s m args below meth c D aC B i0 nL Q hi E σ cells slots tgt lv st) : VC p l e R s m args below meth c D aC B i0 nL Q hi E σ cells slots pc lv st :=
  fun H locs ls hH hS hl => lv_goto C.1.1 C.1.2.1 hdg ht (kk H locs ls hH hS hl)
theorem ctr_ge_y (C : Cc p s m args meth c cc nL own D aC B i0) {a b : Int} (ha : inR a) (hb : inR b) (hab : b ≤ a) {off : Int} (tgt : Nat) (hdg : decode cc pc = .ok (.if_icmp .ge off, 3)) (ht : (pc : Int) + off = (tgt : Int)) (kk : VC p l e R s m args below meth c D aC B i0 nL Q hi E σ cells slots tgt lv st) : VC p l e R s m args below meth c D aC B i0 nL Q hi E σ cells slots pc lv (.int (iI b) :: .int (iI a) :: st) :=
  fun H locs ls hH hS hl => lv_icmp_ge C.1.1 C.1.2.1 hdg ht (fun _ => kk H locs ls hH hS hl) (fun h => absurd ((iI_le hb ha).mpr hab) h)
theorem ctr_ge_n (C : Cc p s m args meth c cc nL own D aC B i0) {a b : Int} (ha : inR a) (hb : inR b) (hab : ¬ b ≤ a) {off : Int} (tgt : Nat) (hdg : decode cc pc = .ok (.if_icmp .ge off, 3)) (ht : (pc : Int) + off = (tgt : Int)) (kk : VC p l e R s m args below meth c D aC B i0 nL Q hi E σ cells slots (pc + 3) lv st) : VC p l e R s m args below meth c D aC B i0 nL Q hi E σ cells slots pc lv (.int (iI b) :: .int (iI a) :: st) :=
  fun H locs ls hH hS hl => lv_icmp_ge C.1.1 C.1.2.1 hdg ht (fun h => absurd ((iI_le hb ha).mp h) hab) (fun _ => kk H locs ls hH hS hl)
theorem ctr_gt_y (C : Cc p s m args meth c cc nL own D aC B i0) {a b : Int} (ha : inR a) (hb : inR b) (hab : b < a) {off : Int} (tgt : Nat) (hdg : decode cc pc = .ok (.if_icmp .gt off, 3)) (ht : (pc : Int) + off = (tgt : Int)) (kk : VC p l e R s m args below meth c D aC B i0 nL Q hi E σ cells slots tgt lv st) : VC p l e R s m args below meth c D aC B i0 nL Q hi E σ cells slots pc lv (.int (iI b) :: .int (iI a) :: st) :=
  fun H locs ls hH hS hl => lv_icmp_gt C.1.1 C.1.2.1 hdg ht (fun _ => kk H locs ls hH hS hl) (fun h => absurd ((iI_lt hb ha).mpr hab) h)
theorem ctr_gt_n (C : Cc p s m args meth c cc nL own D aC B i0) {a b : Int} (ha : inR a) (hb : inR b) (hab : ¬ b < a) {off : Int} (tgt : Nat) (hdg : decode cc pc = .ok (.if_icmp .gt off, 3)) (ht : (pc : Int) + off = (tgt : Int)) (kk : VC p l e R s m args below meth c D aC B i0 nL Q hi E σ cells slots (pc + 3) lv st) : VC p l e R s m args below meth c D aC B i0 nL Q hi E σ cells slots pc lv (.int (iI b) :: .int (iI a) :: st) :=
  fun H locs ls hH hS hl => lv_icmp_gt C.1.1 C.1.2.1 hdg ht (fun h => absurd ((iI_lt hb ha).mp h) hab) (fun _ => kk H locs ls hH hS hl)
theorem va_S.born {A : Nat → Prop} {H0 H H1 : Heap} {locs : List Loc} (h : va_S A H0 H locs) (z : H1.size = H.size + 1) (oq : ∀ q : Nat, q < H.size → H1[q]? = H[q]?) : va_S A H0 H1 locs :=
  ⟨Nat.le_trans h.1 (by omega), fun x h1 h2 => (oq x (Nat.lt_of_lt_of_le h1 h.1)).trans (h.2.1 x h1 h2), h.2.2⟩
theorem ctr_new (C : Cc p s m args meth c cc nL own D aC B i0) {C' : String} {T : u_T} {N ci idx : Nat} (hin : ∀ w ∈ u_ws C' T N, w ∈ WS) (ty : Nat → FieldType) (hty : ∀ k, k < N → parseFieldDescriptor (T k).2.2.1 = some (ty k)) (hcl : Cond.classLink own idx C' ∈ WS) (hinst : Cond.instantiable C' N ∈ WS) (hini : Cond.initialized C' ∈ WS) (hc : vwCl[ci]? = some (C', T, N)) {fs : List Value} (hfs : ∀ j, j < N → defaultValue (ty j) = vp_V fs j) (hcells : cells + 1 ≤ R.cells) (hslots : slots + N ≤ R.slots) (hi0 : i0 ≤ hi) (hdg : decode cc pc = .ok (.new idx, 3)) (hhi : hi' = hi + 1) (hE : E' = E ++ [(hi, .inr (ci, fs))]) (hce : cells' = cells + 1) (hsl : slots' = slots + N) (kk : VC p l e R s m args below meth c D aC B i0 nL Q hi' E' σ cells' slots' (pc + 3) lv (.ref (B + hi) :: st)) : VC p l e R s m args below meth c D aC B i0 nL Q hi E σ cells slots pc lv st := by
  subst hhi hE hce hsl
  intro H locs ls hH hS hl
  obtain ⟨⟨hexec, hb, hml, hown, hts, hK, hlk, hrt⟩, hnm, hao, hsz⟩ := C
  have hKn := hK.1 ci _ hc
  refine W.newcK hexec hb hown (hts _ hcl) (hts _ hinst) (hts _ hini) rfl hdg hcells hslots hKn.2.1 hH.1.1 fun H1 kC hkC e1 z1 o1 => ?_
  exact kk H1 locs ls (hH.new hi0 ⟨_, hc, (u_born ty hts hin hKn hkC e1 hty).to hfs⟩ z1 o1) (hS.born (by rw [z1, hH.1.1]) (fun q hq => o1 q (by rw [← hH.1.1]; exact hq))) hl
theorem ctr_newI (C : Cc p s m args meth c cc nL own D aC B i0) (harr : Cond.arrayClass .int ∈ WS) {n : Int} {N : Nat} (hn : n = N) (hN : N ≤ 1000) (hk : KT.getD hi 99 = 20) (hL : LT.getD hi 0 = N) (hcells : cells + 1 ≤ R.cells) (hslots : slots + N ≤ R.slots) (hi0 : i0 ≤ hi) (hdg : decode cc pc = .ok (.newarray .int, 2)) (hhi : hi' = hi + 1) (hce : cells' = cells + 1) (hsl : slots' = slots + N) (kk : ∀ σ' : SG, σ' hi = (fun _ => 0) → (∀ a, a ≠ hi → σ' a = σ a) → VC p l e R s m args below meth c D aC B i0 nL Q hi' E σ' cells' slots' (pc + 2) lv (.ref (B + hi) :: st)) : VC p l e R s m args below meth c D aC B i0 nL Q hi E σ cells slots pc lv (.int (iI n) :: st) := by
  subst hhi hce hsl hn
  intro H locs ls hH hS hl
  obtain ⟨⟨hexec, hb, hml, hown, hts, hK, hlk, hrt⟩, hnm, hao, hsz⟩ := C
  have hR : inR (N : Int) := by omega
  refine va_newaK (atype := .int) hexec hb (hts _ harr) rfl hdg rfl (fun q => absurd ((iI_lt hR inR0).mp q) (by omega)) (N := N) (by rw [clamp_iI hR (by omega)]; omega) (by show N * 4 ≤ 536870912; omega) hcells hslots hH.1.1 fun H1 cA e1 z1 o1 hAr hNm => ?_
  have hcA : aC 0 = cA := Option.some.inj ((hK.2 0 _ rfl).2.symm.trans hNm)
  subst hcA
  refine kk _ (zr_eq σ hi _) (fun a ha => zr_ne σ ha _) H1 locs ls (CH.seal (x := .inl (aC 0, (N, .inl (fun _ => 0)))) (hH.new hi0 (by show H1[B + hi]? = some (vp_cell _ _); rw [vp_cell_i]; exact e1) z1 o1) (fun _ => inR0) (fun h => by rw [cel_of hk]; show H1[B + hi]? = some (vp_cell (aC 0) (LT.getD hi 0, _)); rw [hL]; exact h)) (hS.born (by rw [z1, hH.1.1]) (fun q hq => o1 q (by rw [← hH.1.1]; exact hq))) hl
theorem ctr_newZ (C : Cc p s m args meth c cc nL own D aC B i0) (harr : Cond.arrayClass .boolean ∈ WS) {n : Int} {N : Nat} (hn : n = N) (hN : N ≤ 1000) (hk : KT.getD hi 99 = 21) (hL : LT.getD hi 0 = N) (hcells : cells + 1 ≤ R.cells) (hslots : slots + N ≤ R.slots) (hi0 : i0 ≤ hi) (hdg : decode cc pc = .ok (.newarray .boolean, 2)) (hhi : hi' = hi + 1) (hce : cells' = cells + 1) (hsl : slots' = slots + N) (kk : ∀ σ' : SG, σ' hi = (fun _ => 0) → (∀ a, a ≠ hi → σ' a = σ a) → VC p l e R s m args below meth c D aC B i0 nL Q hi' E σ' cells' slots' (pc + 2) lv (.ref (B + hi) :: st)) : VC p l e R s m args below meth c D aC B i0 nL Q hi E σ cells slots pc lv (.int (iI n) :: st) := by
  subst hhi hce hsl hn
  intro H locs ls hH hS hl
  obtain ⟨⟨hexec, hb, hml, hown, hts, hK, hlk, hrt⟩, hnm, hao, hsz⟩ := C
  have hR : inR (N : Int) := by omega
  refine va_newaK (atype := .boolean) hexec hb (hts _ harr) rfl hdg rfl (fun q => absurd ((iI_lt hR inR0).mp q) (by omega)) (N := N) (by rw [clamp_iI hR (by omega)]; omega) (by show N * 1 ≤ 536870912; omega) hcells hslots hH.1.1 fun H1 cA e1 z1 o1 hAr hNm => ?_
  have hcA : aC 1 = cA := Option.some.inj ((hK.2 1 _ rfl).2.symm.trans hNm)
  subst hcA
  refine kk _ (zr_eq σ hi _) (fun a ha => zr_ne σ ha _) H1 locs ls (CH.seal (x := .inl (aC 1, (N, .inl (fun _ => 0)))) (hH.new hi0 (by show H1[B + hi]? = some (vp_cell _ _); rw [vp_cell_i]; exact e1) z1 o1) (fun _ => inR0) (fun h => by rw [cel_of hk]; show H1[B + hi]? = some (vp_cell (aC 1) (LT.getD hi 0, _)); rw [hL]; exact h)) (hS.born (by rw [z1, hH.1.1]) (fun q hq => o1 q (by rw [← hH.1.1]; exact hq))) hl
theorem ctr_newC (C : Cc p s m args meth c cc nL own D aC B i0) (harr : Cond.arrayClass .char ∈ WS) {n : Int} {N : Nat} (hn : n = N) (hN : N ≤ 1000) (hk : KT.getD hi 99 = 22) (hL : LT.getD hi 0 = N) (hcells : cells + 1 ≤ R.cells) (hslots : slots + N ≤ R.slots) (hi0 : i0 ≤ hi) (hdg : decode cc pc = .ok (.newarray .char, 2)) (hhi : hi' = hi + 1) (hce : cells' = cells + 1) (hsl : slots' = slots + N) (kk : ∀ σ' : SG, σ' hi = (fun _ => 0) → (∀ a, a ≠ hi → σ' a = σ a) → VC p l e R s m args below meth c D aC B i0 nL Q hi' E σ' cells' slots' (pc + 2) lv (.ref (B + hi) :: st)) : VC p l e R s m args below meth c D aC B i0 nL Q hi E σ cells slots pc lv (.int (iI n) :: st) := by
  subst hhi hce hsl hn
  intro H locs ls hH hS hl
  obtain ⟨⟨hexec, hb, hml, hown, hts, hK, hlk, hrt⟩, hnm, hao, hsz⟩ := C
  have hR : inR (N : Int) := by omega
  refine va_newaK (atype := .char) hexec hb (hts _ harr) rfl hdg rfl (fun q => absurd ((iI_lt hR inR0).mp q) (by omega)) (N := N) (by rw [clamp_iI hR (by omega)]; omega) (by show N * 2 ≤ 536870912; omega) hcells hslots hH.1.1 fun H1 cA e1 z1 o1 hAr hNm => ?_
  have hcA : aC 2 = cA := Option.some.inj ((hK.2 2 _ rfl).2.symm.trans hNm)
  subst hcA
  refine kk _ (zr_eq σ hi _) (fun a ha => zr_ne σ ha _) H1 locs ls (CH.seal (x := .inl (aC 2, (N, .inl (fun _ => 0)))) (hH.new hi0 (by show H1[B + hi]? = some (vp_cell _ _); rw [vp_cell_i]; exact e1) z1 o1) (fun _ => inR0) (fun h => by rw [cel_of hk]; show H1[B + hi]? = some (vp_cell (aC 2) (LT.getD hi 0, _)); rw [hL]; exact h)) (hS.born (by rw [z1, hH.1.1]) (fun q hq => o1 q (by rw [← hH.1.1]; exact hq))) hl
theorem ctr_newq (C : Cc p s m args meth c cc nL own D aC B i0) {idx t0 : Nat} {C' : String} (ht : (tysA aC)[t0]? = some (aC t0, .object C')) (hao : va_AO C' s) (hcl : Cond.classLink own idx C' ∈ WS) {n : Int} {N : Nat} (hn : n = N) (hN : N ≤ 1000) (hcells : cells + 1 ≤ R.cells) (hslots : slots + N ≤ R.slots) (hi0 : i0 ≤ hi) (hdg : decode cc pc = .ok (.anewarray idx, 3)) (hhi : hi' = hi + 1) (hE : E' = E ++ [(hi, .inl (aC t0, (N, .inr (.inr (.inr (.inr (fun _ => none)))))))]) (hce : cells' = cells + 1) (hsl : slots' = slots + N) (kk : VC p l e R s m args below meth c D aC B i0 nL Q hi' E' σ cells' slots' (pc + 3) lv (.ref (B + hi) :: st)) : VC p l e R s m args below meth c D aC B i0 nL Q hi E σ cells slots pc lv (.int (iI n) :: st) := by
  subst hhi hE hce hsl hn
  intro H locs ls hH hS hl
  obtain ⟨⟨hexec, hb, hml, hown, hts, hK, hlk, hrt⟩, hnm, -, hsz⟩ := C
  have hR : inR (N : Int) := by omega
  have hcl2 : (iI (N : Int)).toNatClampNeg = N := by rw [clamp_iI hR (by omega)]; omega
  refine W.anew hexec hb hown (hts _ hcl) (va_AO.use hao) rfl hdg rfl (fun q => absurd ((iI_lt hR inR0).mp q) (by omega)) (by rw [hcl2]; omega) hcells (by rw [hcl2]; exact hslots) fun cA kA comp f1 f2 f3 f4 => ?_
  rw [hcl2]
  have hcA : aC t0 = cA := by
    obtain ⟨kA', comp', g1, g2, g3, g4⟩ := (hK.2 t0 _ ht).2
    exact Option.some.inj (g4.symm.trans f1)
  subst hcA
  generalize hH1 : H.push ({ cls := aC t0, slots := Array.replicate N .null, vm := .none } : Cell) = H1
  have z1 : H1.size = H.size + 1 := by rw [← hH1, Array.size_push]
  have e1 : H1[H.size]? = some (arrV (aC t0) N (fun _ => .null)) := by rw [← hH1, Array.getElem?_push_size, ← arrV_new]
  have o1 : ∀ q : Nat, q < H.size → H1[q]? = H[q]? := fun q hq => by rw [← hH1, Array.getElem?_push, if_neg (Nat.ne_of_lt hq)]
  have hs1 := hH.1.1
  rw [hs1] at e1 z1 o1 ⊢
  exact kk H1 locs ls (hH.new hi0 (by show H1[B + hi]? = some (vp_cell _ _); rw [vp_cell_q]; exact e1) z1 o1) (hS.born (by rw [z1, hs1]) (fun q hq => o1 q (by rw [← hs1]; exact hq))) hl
theorem ctr_put (C : Cc p s m args meth c cc nL own D aC B i0) {ref C' : String} {T : u_T} {N ci idx i : Nat} (hin : ∀ w ∈ u_ws C' T N, w ∈ WS) (ty0 : Nat → FieldType) (hty : ∀ k, k < N → parseFieldDescriptor (T k).2.2.1 = some (ty0 k)) (hnm : ∀ a, a < N → ∀ b, b < N → a ≠ b → (T a).2.1 ≠ (T b).2.1) (hc : vwCl[ci]? = some (C', T, N)) (q0 : Nat) {fs : List Value} (he : E[q0]? = some (i, .inr (ci, fs))) (k : Nat) (hk : k < N) (hlink : Cond.fieldLink own idx ref (T k).2.1 (T k).2.2.1 ∈ WS) (hsame : ∀ x, s.fieldFound? (T k).1 (T k).2.1 (T k).2.2.1 = some x → s.fieldFound? ref (T k).2.1 (T k).2.2.1 = some x) (hfin : (T k).2.2.2 = false) {ty : FieldType} {v : Value} (hd : parseFieldDescriptor (T k).2.2.1 = some ty) (hn : narrow ty v = v) (hfit : fits ty v = true) (hlen : k < fs.length) (hdg : decode cc pc = .ok (.putfield idx, 3)) (hE : E' = E.set q0 (i, .inr (ci, fs.set k v))) (kk : VC p l e R s m args below meth c D aC B i0 nL Q hi E' σ cells slots (pc + 3) lv st) : VC p l e R s m args below meth c D aC B i0 nL Q hi E σ cells slots pc lv (v :: .ref (B + i) :: st) := by
  subst hE
  intro H locs ls hH hS0 hl
  obtain ⟨⟨hexec, hb, hml, hown, hts, hK, hlk, hrt⟩, hnm2, -, hsz⟩ := C
  have hap := va_apart (own := own) hts hin ty0 hty hnm hK hc
  obtain ⟨g0, hat⟩ := hH.2.2.1 q0 _ he
  obtain ⟨r, g1, cell, q1, q2, q3, q4⟩ := hat
  have hr : r = (C', T, N) := Option.some.inj (g1.symm.trans hc)
  subst hr
  obtain ⟨hS, hfc, kC, hkC, hkind⟩ := hK.1 ci _ hc
  obtain ⟨cf, kf, fi, f, hif, hsl⟩ := hS k hk
  have hlay := hts _ (hin _ (u_in_lay hk))
  unfold u_lay at hlay
  rw [if_neg (by rw [hfin]; decide)] at hlay
  have hst := (u_facts hfc hkC (u_lays hts hin hk) hif).1
  have h6 := u_store hfc hkC hkind hlay hif hd hn hfit
  refine W.putK hexec hb (f := f) ⟨hown, hts _ hlink, ⟨_, _, _, hsame _ hif⟩, hst⟩ (by rw [q2]; exact h6) q1 q3 (by rw [hsl]; exact k2_hasslot (q4 k hk)) rfl rfl hdg fun H' e1 e2 e3 => ?_
  rw [hsl] at e1 ⊢
  exact kk H' _ ls (hH.put he ⟨_, hc, t_OB.to (V := updV (vp_V fs) k v) ⟨_, e1, q2, q3, t_set q4 hap hk _⟩ (fun j _ => vp_updV_set hlen _ j)⟩ e2 e3) (hS0.put e2 e3 (by show B + i0 ≤ B + i; have := g0.1; have h9 : i0 ≤ i := this; omega)) hl
theorem ctr_putF (C : Cc p s m args meth c cc nL own D aC B i0) {ref C' : String} {T : u_T} {N ci idx i : Nat} (hin : ∀ w ∈ u_ws C' T N, w ∈ WS) (ty0 : Nat → FieldType) (hty : ∀ k, k < N → parseFieldDescriptor (T k).2.2.1 = some (ty0 k)) (hnm : ∀ a, a < N → ∀ b, b < N → a ≠ b → (T a).2.1 ≠ (T b).2.1) (hc : vwCl[ci]? = some (C', T, N)) (q0 : Nat) {fs : List Value} (he : E[q0]? = some (i, .inr (ci, fs))) (k : Nat) (hk : k < N) (hlink : Cond.fieldLink own idx ref (T k).2.1 (T k).2.2.1 ∈ WS) (hsame : ∀ x, s.fieldFound? (T k).1 (T k).2.1 (T k).2.2.1 = some x → s.fieldFound? ref (T k).2.1 (T k).2.2.1 = some x) (hfin : (T k).2.2.2 = true) (hdecl : (T k).1 = own) {ty : FieldType} {v : Value} (hd : parseFieldDescriptor (T k).2.2.1 = some ty) (hn : narrow ty v = v) (hfit : fits ty v = true) (hlen : k < fs.length) (hdg : decode cc pc = .ok (.putfield idx, 3)) (hE : E' = E.set q0 (i, .inr (ci, fs.set k v))) (kk : VC p l e R s m args below meth c D aC B i0 nL Q hi E' σ cells slots (pc + 3) lv st) : VC p l e R s m args below meth c D aC B i0 nL Q hi E σ cells slots pc lv (v :: .ref (B + i) :: st) := by
  subst hE
  intro H locs ls hH hS0 hl
  obtain ⟨⟨hexec, hb, hml, hown, hts, hK, hlk, hrt⟩, hnm2, -, hsz⟩ := C
  have hap := va_apart (own := own) hts hin ty0 hty hnm hK hc
  obtain ⟨g0, hat⟩ := hH.2.2.1 q0 _ he
  obtain ⟨r, g1, cell, q1, q2, q3, q4⟩ := hat
  have hr : r = (C', T, N) := Option.some.inj (g1.symm.trans hc)
  subst hr
  obtain ⟨hS, hfc, kC, hkC, hkind⟩ := hK.1 ci _ hc
  obtain ⟨cf, kf, fi, f, hif, hsl⟩ := hS k hk
  have hlay := hts _ (hin _ (u_in_lay hk))
  unfold u_lay at hlay
  rw [if_pos hfin] at hlay
  have hst := (u_facts hfc hkC (u_lays hts hin hk) hif).1
  have hcf : m.cls = cf := by
    obtain ⟨_, _, c', _, _, _, -, -, hf', -, -, -, hown2, -⟩ := Cond.laysFinal_spec hlay
    have e1 : c' = cf := by have := hif.symm.trans hf'; simp at this; exact this.1.symm
    rw [hdecl] at hown2
    rw [← e1]; exact Option.some.inj (hown.symm.trans hown2)
  have h6 := u_fits hfc hkC hkind (Or.inr hlay) hif hd hn hfit
  refine W.putFinK hexec hb hown (hts _ hlink) (hsame _ hif) hst hcf hnm2 (by rw [q2]; exact h6) q1 q3 (by rw [hsl]; exact k2_hasslot (q4 k hk)) rfl rfl hdg fun H' e1 e2 e3 => ?_
  rw [hsl] at e1 ⊢
  exact kk H' _ ls (hH.put he ⟨_, hc, t_OB.to (V := updV (vp_V fs) k v) ⟨_, e1, q2, q3, t_set q4 hap hk _⟩ (fun j _ => vp_updV_set hlen _ j)⟩ e2 e3) (hS0.put e2 e3 (by show B + i0 ≤ B + i; have := g0.1; have h9 : i0 ≤ i := this; omega)) hl
theorem ctr_get (C : Cc p s m args meth c cc nL own D aC B i0) {ref C' : String} {T : u_T} {N ci idx i : Nat} (hin : ∀ w ∈ u_ws C' T N, w ∈ WS) (hc : vwCl[ci]? = some (C', T, N)) (q0 : Nat) {fs : List Value} (he : E[q0]? = some (i, .inr (ci, fs))) (k : Nat) (hk : k < N) (hlink : Cond.fieldLink own idx ref (T k).2.1 (T k).2.2.1 ∈ WS) (hsame : ∀ x, s.fieldFound? (T k).1 (T k).2.1 (T k).2.2.1 = some x → s.fieldFound? ref (T k).2.1 (T k).2.2.1 = some x) {v : Value} (hv : fs[k]? = some v) (hdg : decode cc pc = .ok (.getfield idx, 3)) (kk : VC p l e R s m args below meth c D aC B i0 nL Q hi E σ cells slots (pc + 3) lv (v :: st)) : VC p l e R s m args below meth c D aC B i0 nL Q hi E σ cells slots pc lv (.ref (B + i) :: st) := by
  intro H locs ls hH hS hl
  obtain ⟨⟨hexec, hb, hml, hown, hts, hK, hlk, hrt⟩, hnm2, -, hsz⟩ := C
  exact va_get (D := D) (cl := vwCl) (tys := tysA aC) (ci := ci) (C := C') (T := T) (N := N) hexec hb hts hin hown hK (va_P1 (hH.2.2.1 q0 _ he).2) 0 rfl hc k hk (hts _ hlink) hsame hv hdg (kk H locs ls hH hS hl)
theorem ctr_aast (C : Cc p s m args meth c cc nL own D aC B i0) {t0 ci : Nat} {C' : String} {T : u_T} {N : Nat} (ht : (tysA aC)[t0]? = some (aC t0, .object C')) (hc : vwCl[ci]? = some (C', T, N)) (q0 : Nat) {a n v : Nat} {f : Nat → Option Nat} (he : E[q0]? = some (a, .inl (aC t0, (n, .inr (.inr (.inr (.inr f))))))) (hv0 : i0 ≤ v ∧ v < hi) (hvE : ∀ (k : Nat) (y : Nat × va_E), E[k]? = some y → y.1 ≠ v) (hκ : ∀ f, ∃ fs, cel aC B f v = .inr (ci, fs)) {k : Int} (hk : inR k) (hk0 : 0 ≤ k ∧ k < n) (hdg : decode cc pc = .ok (.aastore, 1)) (hE : E' = E.set q0 (a, .inl (aC t0, (n, .inr (.inr (.inr (.inr (fun j => if j = k.toNat then some (B + v) else f j)))))))) (kk : VC p l e R s m args below meth c D aC B i0 nL Q hi E' σ cells slots (pc + 1) lv st) : VC p l e R s m args below meth c D aC B i0 nL Q hi E σ cells slots pc lv (.ref (B + v) :: .int (iI k) :: .ref (B + a) :: st) := by
  subst hE
  intro H locs ls hH hS hl
  obtain ⟨⟨hexec, hb, hml, hown, hts, hK, hlk, hrt⟩, hnm2, -, hsz⟩ := C
  obtain ⟨g0, hat⟩ := hH.2.2.1 q0 _ he
  have hav := hH.2.1 v hv0.1 hv0.2 hvE
  obtain ⟨fs, hfs⟩ := hκ (σ v)
  rw [hfs] at hav
  obtain ⟨r', hr', cellV, g1, g2, g3, -⟩ := hav
  have hcls := (hK.1 ci _ hc).2
  obtain ⟨kA, comp, k1, k2, k3, -⟩ := (hK.2 t0 _ ht).2
  have hcomp : comp = D.1 ci := Option.some.inj (k3.symm.trans hcls.1)
  subst hcomp
  obtain ⟨kC, hkC, -⟩ := hcls.2
  have hb2 : vp_in (iI k) n := in_iI hk hk0.1 hk0.2
  refine W.aast hexec hb hat (fun q h => by cases h) (fun h => by cases h) k1 k2 rfl hkC ⟨fun q => hb2 (Or.inl q), by show _ < (arrV _ _ _).slots.size; rw [arrV_size]; exact Nat.not_le.mp fun q => hb2 (Or.inr q)⟩ g1 (fun q h => by rw [g3] at h; cases h) (by rw [g2]; exact hkC) (by rw [g2]; exact va_assign hcls) rfl rfl hdg fun H1 e z oq => ?_
  rw [clamp_iI hk hk0.1] at e ⊢
  refine kk H1 _ ls (hH.put he ?_ z oq) (hS.put z oq (by show B + i0 ≤ B + a; have h9 : i0 ≤ a := g0.1; omega)) hl
  show H1[B + a]? = some (vp_cell _ _)
  rw [e]
  dsimp only
  rw [vp_cell_q, vp_cell_q, arrV_store]
  congr 2
  funext j
  unfold updV
  split
  · rfl
  · rfl
theorem ctr_iast (C : Cc p s m args meth c cc nL own D aC B i0) {a n : Nat} (ha0 : i0 ≤ a ∧ a < hi) (haE : ∀ (k : Nat) (y : Nat × va_E), E[k]? = some y → y.1 ≠ a) (hκ : ∀ f : Nat → Int, cel aC B f a = .inl (aC 0, (n, .inl (fun j => iI (f j))))) {k x : Int} (hk : inR k) (hk0 : 0 ≤ k ∧ k < n) (hx : inR x) (hdg : decode cc pc = .ok (.iastore, 1)) (kk : ∀ σ' : SG, σ' = ug σ a k.toNat x → VC p l e R s m args below meth c D aC B i0 nL Q hi E σ' cells slots (pc + 1) lv st) : VC p l e R s m args below meth c D aC B i0 nL Q hi E σ cells slots pc lv (.int (iI x) :: .int (iI k) :: .ref (B + a) :: st) := by
  intro H locs ls hH hS hl
  obtain ⟨⟨hexec, hb, hml, hown, hts, hK, hlk, hrt⟩, hnm2, -, hsz⟩ := C
  obtain ⟨⟨h1, h2⟩, h3, h4, h5⟩ := id hH
  have hat := h3 a ha0.1 ha0.2 haE
  rw [hκ] at hat
  refine W.iast hexec hb hat ((hK.2 0 _ rfl).1 n (fun j => .int (iI (σ a j)))) (fun q => by cases q) (by show ¬ (_ ∨ (arrV _ _ _).slots.size ≤ _); rw [arrV_size]; exact in_iI hk hk0.1 hk0.2) rfl rfl hdg fun H1 e z oq => ?_
  rw [clamp_iI hk hk0.1] at e ⊢
  refine kk _ rfl H1 _ ls ⟨⟨z.trans h1, ug_R h2 hx a _⟩, fun i a1 b1 hi1 => ?_, fun j y hy => ⟨(h4 j y hy).1, (h4 j y hy).2.kept (oq _ (by show B + y.1 ≠ B + a; have := haE j y hy; omega))⟩, h5⟩ (hS.put z oq (by show B + i0 ≤ B + a; omega)) hl
  by_cases q : i = a
  · subst q
    rw [hκ, ug_self]
    show H1[B + i]? = some (vp_cell _ _)
    rw [e]
    dsimp only
    rw [vp_cell_i, vp_cell_i, arrV_store, upd_up]
  · rw [ug_ne σ q]
    exact (h3 i a1 b1 hi1).kept (oq _ (by show B + i ≠ B + a; omega))
theorem ctr_obj (C : Cc p s m args meth c cc nL own D aC B i0) {idx : Nat} (hlink : Cond.methodLink own idx objectInit ∈ WS) {a : Nat} (hframes : 1 ≤ R.frames) (hlocals : (st.map fun v => v.category).sum + 12 ≤ R.locals) (hdg : decode cc pc = .ok (.invokespecial idx, 3)) (kk : VC p l e R s m args below meth c D aC B i0 nL Q hi E σ cells slots (pc + 3) lv st) : VC p l e R s m args below meth c D aC B i0 nL Q hi E σ cells slots pc lv (.ref a :: st) := by
  intro H locs ls hH hS hl
  obtain ⟨⟨hexec, hb, hml, hown, hts, hK, hlk, hrt⟩, hnm2, -, hsz⟩ := C
  refine W.objInit hexec hb hown (hts _ hlink) (hts _ w86) (hts _ w87) rfl (hl.1.trans hml.symm) rfl hdg hframes (by show 2 * 0 + _ + 12 ≤ _; omega) ?_
  exact kk H locs ls hH hS hl
theorem PC_blind {j : Nat} {x : va_E} {As : List Value} : FrameBlind (va_Pc As (PC D aC B j x)) := fun a U g mk q => ⟨q.1, q.2.1, q.2.2.1, va_K.moved (u := U) (U := U.calling g mk a) (Vm.Alike.refl U.vm) q.2.2.2.1, va_AO.moved (u := U) (U := U.calling g mk a) (Vm.Alike.refl U.vm) q.2.2.2.2.1, va_AO.moved (u := U) (U := U.calling g mk a) (Vm.Alike.refl U.vm) q.2.2.2.2.2⟩
/-- a constructor's call -/
theorem ctr_init {y : MethodName} {bytes : ByteArray} {maxL idx na j n mc ms : Nat} {x : va_E} {rm : Room} {As rest : List Value} {P : SG → Prop} (C : Cc p s m args meth c cc nL own D aC B i0)
    (hM : Met l y (Cond.code y bytes maxL none :: WS) rm (va_Pc (.ref (B + j) :: As) (PC D aC B j x)) (QC D aC B j n P) mc ms (fun q => B + j ≤ q)) (hj : i0 ≤ j)
    (hl1 : Cond.methodLink own idx y ∈ WS) (hl2 : Cond.instanceMethod y ∈ WS ∧ Cond.initialized y.cls ∈ WS ∧ Cond.code y bytes maxL none ∈ WS) (hrm : rm.cells = mc ∧ rm.slots = ms) (hy1 : y.name = "<init>")
    (hd : y.cls ≠ "java/lang/invoke/MethodHandle" ∧ y.cls ≠ "java/lang/invoke/VarHandle" ∧ (parseMethodDescriptor y.desc).map (fun d => d.parameters.length) = some na) (hR : rm.frames + 1 ≤ R.frames ∧ 8 + (maxL + 11) + rm.locals ≤ R.locals)
    (hn : As.length = na) (hst : st = As.reverse ++ .ref (B + j) :: rest) (hW8 : (rest.map fun v => v.category).sum ≤ 8) (hdg : decode cc pc = .ok (.invokespecial idx, 3)) (hf : cells' ≤ R.cells ∧ slots' ≤ R.slots) (hhi : hi = j + 1) (hhi' : hi' = j + n) (hE : E = E' ++ [(j, x)]) (hce : cells' = cells + mc) (hsl : slots' = slots + ms)
    (kk : ∀ (τ σ' : SG), P τ → (∀ a, a < j → σ' a = σ a) → (∀ a, j ≤ a → σ' a = τ a) → VC p l e R s m args below meth c D aC B i0 nL Q hi' E' σ' cells' slots' (pc + 3) lv rest) : VC p l e R s m args below meth c D aC B i0 nL Q hi E σ cells slots pc lv st := by
  subst hhi hhi' hE hce hsl
  intro H locs ls hH hS hl
  obtain ⟨⟨hexec, hb, hml, hown, hts, hK, hlk, hrt⟩, hnm2, ⟨ho1, ho2⟩, hsz⟩ := C
  have hG : GoodIn WS (Cond.code y bytes maxL none :: WS) := fun w hw => by
    have g : w ∈ WS := by
      rcases List.mem_cons.mp hw with rfl | h
      · exact hl2.2.2
      · exact h
    exact ⟨g, good_of_word (WS_good w g)⟩
  have hx := (hH.2.2.1 _ _ (snoc_r E' (j, x))).2
  refine va_callv (va_runI (As := As) (rest := rest) ⟨hexec, hb, hml, hown, hts⟩ hM (cwI na hts hG rfl hrm.1 hrm.2 (hts _ hl2.2.1) (hts _ hl1) (hts _ hl2.1) hy1 hd hR) ⟨PC_blind, fun U hU hWm => ⟨rfl, by rw [hU]; exact hH.1.1, by rw [hU]; exact hx, va_K.moved hWm.alike hK, va_AO.moved hWm.alike ho1, va_AO.moved hWm.alike ho2⟩⟩ rfl hn hl.1 hst (lv_room hW8) hdg hf) hS (fun q _ h => Nat.le_trans (by omega) h) (fun q h => Nat.le_trans (by omega) h) (fun τ t H1 locs1 ht hvm hw hB hz1 hk1 hS1 => ?_)
  obtain ⟨z1, hW1⟩ := hB
  rw [ht] at z1 hW1
  exact kk τ _ hw (fun a ha => mx_lt σ τ ha) (fun a ha => mx_ge σ τ ha) H1 locs1 ls (hH.call z1 hW1 (fun q hq => hk1 q (by rw [hH.1.1]; omega) (by omega))) hS1 hl
theorem W_size {H : Heap} {locs : List Loc} {g : JFrame} (kk : H.size ≤ s.heap.size + cells → W p l e R s m args below meth c H locs cells slots Q g) : W p l e R s m args below meth c H locs cells slots Q g := fun T hT X => kk (by rw [← hT]; exact X.heapSize) T hT X
/-- a call of a method, behind all making -/
theorem ctr_callv {y : MethodName} {bytes : ByteArray} {maxL idx n i ci : Nat} {C' : String} {T : u_T} {N : Nat} {fs : List Value} {ret' : Option FieldType} {rm : Room} {As rest : List Value} {Qc : SG → Prop} (C : Cc p s m args meth c cc nL own D aC B i0)
    (hM : Met l y (Cond.code y bytes maxL ret' :: WS) rm (va_Pc (.ref (B + i) :: As) (WP D aC B i0 hi σ)) (QV D aC B i0 hi Qc) 0 0 (AB B i0 hi))
    (hl1 : Cond.methodLink own idx y ∈ WS) (hl2 : Cond.instanceMethod y ∈ WS ∧ Cond.selects C' y y ∈ WS ∧ Cond.initialized C' ∈ WS ∧ Cond.code y bytes maxL ret' ∈ WS) (hrm : rm.cells = 0 ∧ rm.slots = 0)
    (hd : y.cls = C' ∧ y.cls ≠ "java/lang/invoke/MethodHandle" ∧ y.cls ≠ "java/lang/invoke/VarHandle" ∧ (parseMethodDescriptor y.desc).map (fun d => d.parameters.length) = some n) (hR : rm.frames + 1 ≤ R.frames ∧ 8 + (maxL + 11) + rm.locals ≤ R.locals)
    (h1 : i0 ≤ i) (h2 : i < hi) (hκ : cel aC B (σ i) i = .inr (ci, fs)) (hc : vwCl[ci]? = some (C', T, N)) (hn : As.length = n) (hst : st = As.reverse ++ .ref (B + i) :: rest) (hW8 : (rest.map fun v => v.category).sum ≤ 8) (hdg : decode cc pc = .ok (.invokevirtual idx, 3)) (hf : cells ≤ R.cells ∧ slots ≤ R.slots) (hcs : i0 + 1 + cells = hi)
    (kk : ∀ σ', Qc σ' → VC p l e R s m args below meth c D aC B i0 nL Q hi [] σ' cells slots (pc + 3) lv rest) : VC p l e R s m args below meth c D aC B i0 nL Q hi [] σ cells slots pc lv st := by
  intro H locs ls hH hS hl
  obtain ⟨⟨hexec, hb, hml, hown, hts, hK, hlk, hrt⟩, hnm2, -, hsz⟩ := C
  have hW := hH.W
  refine va_callv (va_runV (As := As) (rest := rest) ⟨hexec, hb, hml, hown, hts⟩ hM (cwV n hts (gw_V hl1 hl2) rfl hrm.1 hrm.2 hd hR) ⟨WP_blind, hW.recv hK h1 h2 hκ hc, fun U hU hWm => ⟨rfl, by rw [hU]; exact hW, va_K.moved hWm.alike hK⟩⟩ rfl hn hl.1 hst (lv_room hW8) hdg hf) hS (fun q _ h => h.1) (fun q h => h.1) (fun u t H1 locs1 ht hvm hw hB hz1 hk1 hS1 => W_size (fun hz2 => ?_))
  have hB1 := hB.1
  rw [ht] at hB1
  have h9 := hH.1.1
  exact kk u hw H1 locs1 ls (CH.ofW hB1 (by omega)) hS1 hl
theorem ctr_seal {i : Nat} {x : va_E} (f : Nat → Int) (hf : ∀ j, inR (f j)) (hx : ∀ H, va_at D vwCl (B + i, x) H → va_at D vwCl (B + i, cel aC B f i) H) (hE : E = E' ++ [(i, x)]) (kk : ∀ σ' : SG, σ' i = f → (∀ a, a ≠ i → σ' a = σ a) → VC p l e R s m args below meth c D aC B i0 nL Q hi E' σ' cells slots pc lv st) : VC p l e R s m args below meth c D aC B i0 nL Q hi E σ cells slots pc lv st := by
  subst hE
  exact fun H locs ls hH hS hl => kk _ (zr_eq σ i f) (fun a ha => zr_ne σ ha f) H locs ls (hH.seal hf (hx H)) hS hl
theorem ctr_ret {n : Nat} {P : SG → Prop} (C : Cc p s m args meth c cc nL own D aC B i0) (hq : P σ) (hdg : decode cc pc = .ok (.return_, 1)) (hhi : hi = i0 + n) : VC p l e R s m args below meth c D aC B i0 nL (MQ below (QC D aC B i0 n P) args s cells slots (fun q => B + i0 ≤ q)) hi [] σ cells slots pc lv [] := by
  subst hhi
  intro H locs ls hH hS hl
  obtain ⟨⟨hexec, hb, hml, hown, hts, hK, hlk, hrt⟩, hnm2, -, hsz⟩ := C
  exact W.vret hexec hb hrt (fun t ht hWm => ⟨⟨σ, rfl, hq, by rw [ht]; exact hH.1.1, by rw [ht]; exact hH.W⟩, hS.F ht⟩) hS.2.2 hdg
theorem ctr_sub (ks : List Nat) (h : lv_pick lv ks = lv') (kk : VC p l e R s m args below meth c D aC B i0 nL Q hi E σ cells slots pc lv' st) : VC p l e R s m args below meth c D aC B i0 nL Q hi E σ cells slots pc lv st :=
  fun H locs ls hH hS hl => kk H locs ls hH hS (lv_sub hl ks h)
/-- a constructor's contract, from its first instruction -/
theorem met_ctor {y : MethodName} {bytes : ByteArray} {maxL j n mc ms : Nat} {rm : Room} {As : List Value} {P : SG → Prop} {x : va_E} {C' : String} (hy : plainName y.cls = true) (hC : y.cls = C') (hyn : y.name = "<init>") (hAs : (lg_sl (.ref (B + j) :: As)).length ≤ maxL)
    (body : ∀ p e s m args below meth c, Cc p s m args meth c bytes maxL C' D aC B j → VC p l e rm s m args below meth c D aC B j maxL (MQ below (QC D aC B j n P) args s mc ms (fun q => B + j ≤ q)) (j + 1) [(j, x)] (fun _ _ => 0) 0 0 0 (lv_args 0 (.ref (B + j) :: As)) []) : Met l y (Cond.code y bytes maxL none :: WS) rm (va_Pc (.ref (B + j) :: As) (PC D aC B j x)) (QC D aC B j n P) mc ms (fun q => B + j ≤ q) := by
  refine Met.ofW (cc := bytes) (maxL := maxL) (ret := none) hy rfl ?_
  intro p e s m args below meth c s₁ Bd hml hv
  obtain ⟨rfl, hz, hx, hK, ho1, ho2⟩ := hv
  have hts := atoms_spec (ws := Cond.code y bytes maxL none :: WS) Bd.pre
  have hown : s.vm.findClass C' = some m.cls := by rw [← hC]; exact findClass_of_methodNamed Bd.named
  have hin : meth.name = "<init>" := (name_of_methodNamed Bd.named Bd.method).1.trans hyn
  have hl := lv_entry (.ref (B + j) :: As) (n := maxL) hAs
  rw [lg_entry_eq]
  refine body p e s m (Value.ref (B + j) :: As).toArray below meth c ⟨⟨Bd.exec, Bd.bytes, hml, hown, fun w h => hts w (List.mem_cons_of_mem _ h), hK, Bd.notSynchronized, Bd.returns⟩, hin, ⟨ho1, ho2⟩, hz⟩ s.heap [] _ ⟨⟨hz, fun _ _ => inR0⟩, fun i a b hi1 => ?_, fun k z hy => ?_, fun k k' z z' hy hy' e => ?_⟩ va_S.rf hl
  · exact absurd (by omega : j = i) (hi1 0 (j, x) rfl)
  · match k, hy with
    | 0, hy => cases hy; exact ⟨⟨Nat.le_refl _, Nat.lt_succ_self _⟩, hx⟩
    | k + 1, hy => simp at hy
  · match k, k', hy, hy' with
    | 0, 0, _, _ => rfl
    | k + 1, _, hy, _ => simp at hy
    | 0, k' + 1, _, hy' => simp at hy'
end CROWS
