/-! ints as whole numbers -/
abbrev inR (z : Int) : Prop := -2147483648 ≤ z ∧ z < 2147483648
def iI (z : Int) : Int32 := Int32.ofInt z
theorem iI_toInt {z : Int} (h : inR z) : (iI z).toInt = z := Int32.toInt_ofInt_of_le (by omega) (by omega)
theorem iI_of (x : Int32) : iI x.toInt = x := Int32.ofInt_toInt x
theorem inR_of (x : Int32) : inR x.toInt := ⟨by have := Int32.le_toInt x; omega, by have := Int32.toInt_lt x; omega⟩
theorem iI_add (a b : Int) : iI a + iI b = iI (a + b) := (Int32.ofInt_add a b).symm
theorem iI_sub (a b : Int) : iI a - iI b = iI (a - b) := (Int32.ofInt_sub a b).symm
theorem iI_mul (a b : Int) : iI a * iI b = iI (a * b) := (Int32.ofInt_mul a b).symm
theorem iI_neg (a : Int) : -iI a = iI (-a) := (Int32.ofInt_neg a).symm
theorem iI_lt {a b : Int} (ha : inR a) (hb : inR b) : iI a < iI b ↔ a < b := by
  rw [Int32.lt_iff_toInt_lt, iI_toInt ha, iI_toInt hb]
theorem iI_le {a b : Int} (ha : inR a) (hb : inR b) : iI a ≤ iI b ↔ a ≤ b := by
  rw [Int32.le_iff_toInt_le, iI_toInt ha, iI_toInt hb]
theorem iI_eq {a b : Int} (ha : inR a) (hb : inR b) : iI a = iI b ↔ a = b :=
  ⟨fun h => by rw [← iI_toInt ha, ← iI_toInt hb, h], fun h => by rw [h]⟩
theorem iI_0 : iI 0 = 0 := rfl
theorem inR0 : inR 0 := by decide
theorem iI_div {a b : Int} (ha : inR a) (hb : inR b) : iI a / iI b = iI (a.tdiv b) :=
  (Int32.ofInt_tdiv (by rw [Int32.toInt_minValue]; omega) (by rw [show Int32.maxValue.toInt = 2147483647 from rfl]; omega) (by rw [Int32.toInt_minValue]; omega) (by rw [show Int32.maxValue.toInt = 2147483647 from rfl]; omega)).symm
theorem iI_rem {a b : Int} (ha : inR a) (hb : inR b) : iI a - iI a / iI b * iI b = iI (a.tmod b) := by
  rw [iI_div ha hb, iI_mul, iI_sub]
  congr 1
  rw [Int.tmod_def, Int.mul_comm]
theorem inR_tmod {a b : Int} (ha : inR a) : inR (a.tmod b) := by
  have h1 : (a.tmod b).natAbs ≤ a.natAbs := by
    rw [Int.natAbs_tmod]
    exact Nat.mod_le _ _
  have h2 : 0 ≤ a → 0 ≤ a.tmod b := fun h => Int.tmod_nonneg b h
  have h3 : a < 0 → a.tmod b ≤ 0 := fun h => by
    have h4 := Int.tmod_nonneg (a := -a) b (by omega)
    rw [Int.neg_tmod] at h4
    omega
  constructor <;> omega
theorem inR_tdiv {a b : Int} (ha : inR a) (h : 1 < b) : inR (a.tdiv b) := by
  have h1 : (a.tdiv b).natAbs ≤ a.natAbs := by
    rw [Int.natAbs_tdiv]
    exact Nat.div_le_self _ _
  have h2 : a = -2147483648 → a.tdiv b ≠ 2147483648 := by
    intro h3 h4
    have h5 : a.tdiv b ≤ 0 := by
      rw [h3, show (-2147483648 : Int) = -(2147483648) from rfl, Int.neg_tdiv]
      have := Int.tdiv_nonneg (a := 2147483648) (b := b) (by decide) (by omega)
      omega
    omega
  constructor <;> omega
def iand (a b : Int) : Int := (iI a &&& iI b).toInt
def ior (a b : Int) : Int := (iI a ||| iI b).toInt
def ishr (a b : Int) : Int := (iI a >>> (iI b &&& 31)).toInt
theorem inR_iand (a b : Int) : inR (iand a b) := inR_of _
theorem inR_ior (a b : Int) : inR (ior a b) := inR_of _
theorem inR_ishr (a b : Int) : inR (ishr a b) := inR_of _
theorem clamp_iI {k : Int} (h : inR k) (h0 : 0 ≤ k) : (iI k).toNatClampNeg = k.toNat := by
  have h1 := Int32.toInt_eq_toNatClampNeg (a := iI k) (by rw [← iI_0]; exact (iI_le inR0 h).mpr h0)
  rw [iI_toInt h] at h1
  omega
theorem in_iI {k : Int} {n : Nat} (h : inR k) (h0 : 0 ≤ k) (h1 : k < n) : vp_in (iI k) n := by
  rw [vp_in_iff, iI_toInt h]
  exact ⟨h0, h1⟩
theorem narrow_i (x : Int) : narrow .int (.int (iI x)) = .int (iI x) := rfl
theorem fits_i (x : Int) : fits .int (.int (iI x)) = true := rfl
theorem narrow_z {x : Int} (h : x = 0 ∨ x = 1) : narrow .boolean (.int (iI x)) = .int (iI x) := by
  rcases h with rfl | rfl <;> rfl
theorem fits_z {x : Int} (h : x = 0 ∨ x = 1) : fits .boolean (.int (iI x)) = true := by
  rcases h with rfl | rfl <;> rfl
/-! the heap's picture: a place of whole numbers for each object (by its number in the order of making) -/
abbrev SG : Type := Nat → Nat → Int
def up (f : Nat → Int) (k : Nat) (x : Int) : Nat → Int := fun b => if b = k then x else f b
def ug (σ : SG) (i k : Nat) (x : Int) : SG := fun a b => if a = i then (if b = k then x else σ a b) else σ a b
theorem ug_self (σ : SG) (i k : Nat) (x : Int) : ug σ i k x i = up (σ i) k x := by
  funext b
  simp [ug, up]
theorem ug_ne (σ : SG) {i j : Nat} (h : j ≠ i) (k : Nat) (x : Int) : ug σ i k x j = σ j := by
  funext b
  simp [ug, h]
theorem ug_R {σ : SG} (h : ∀ i j, inR (σ i j)) {x : Int} (hx : inR x) (i k : Nat) : ∀ a b, inR (ug σ i k x a b) := by
  intro a b
  unfold ug
  split
  · split
    · exact hx
    · exact h a b
  · exact h a b

def KT : List Nat := [9, 7, 4, 20, 23, 4, 20, 4, 20, 4, 20, 4, 20, 4, 20, 4, 20, 24, 4, 20, 4, 20, 4, 20, 4, 20, 4, 20, 4, 20, 8, 20, 20, 2, 4, 20, 4, 20, 4, 20, 4, 20, 4, 20, 4, 20, 4, 20, 6, 4, 20, 4, 20, 4, 20, 4, 20, 4, 20, 4, 20, 4, 20, 4, 20, 26, 27, 4, 20, 4, 20, 4, 20, 4, 20, 4, 20, 4, 20, 4, 20, 4, 20, 4, 20, 4, 20, 4, 20, 4, 20, 0, 4, 20, 4, 20, 4, 20, 4, 20, 1, 23, 4, 20, 4, 20, 4, 20, 4, 20, 4, 20, 4, 20, 4, 20, 4, 20, 4, 20, 4, 20, 4, 20, 5, 26, 27, 4, 20, 4, 20, 4, 20, 4, 20, 4, 20, 4, 20, 4, 20, 4, 20, 4, 20, 4, 20, 4, 20, 4, 20, 21, 21, 4, 20, 7, 4, 20, 23, 4, 20, 4, 20, 4, 20, 4, 20, 4, 20, 4, 20, 24, 4, 20, 4, 20, 4, 20, 4, 20, 4, 20, 4, 20, 3, 25, 7, 4, 20, 23, 4, 20, 4, 20, 4, 20, 4, 20, 4, 20, 4, 20, 24, 4, 20, 4, 20, 4, 20, 4, 20, 4, 20, 4, 20, 7, 4, 20, 23, 4, 20, 4, 20, 4, 20, 4, 20, 4, 20, 4, 20, 24, 4, 20, 4, 20, 4, 20, 4, 20, 4, 20, 4, 20, 7, 4, 20, 23, 4, 20, 4, 20, 4, 20, 4, 20, 4, 20, 4, 20, 24, 4, 20, 4, 20, 4, 20, 4, 20, 4, 20, 4, 20, 7, 4, 20, 23, 4, 20, 4, 20, 4, 20, 4, 20, 4, 20, 4, 20, 24, 4, 20, 4, 20, 4, 20, 4, 20, 4, 20, 4, 20, 4, 20, 10, 20, 20, 20, 20, 20, 20, 22, 20, 20, 20, 20]
def LT : List Nat := [0, 0, 0, 13, 6, 0, 13, 0, 13, 0, 13, 0, 13, 0, 13, 0, 13, 6, 0, 13, 0, 13, 0, 13, 0, 13, 0, 13, 0, 13, 0, 60, 7, 0, 0, 13, 0, 13, 0, 13, 0, 13, 0, 13, 0, 13, 0, 13, 0, 0, 13, 0, 13, 0, 13, 0, 13, 0, 13, 0, 13, 0, 13, 0, 13, 6, 6, 0, 13, 0, 13, 0, 13, 0, 13, 0, 13, 0, 13, 0, 13, 0, 13, 0, 13, 0, 13, 0, 13, 0, 13, 0, 0, 13, 0, 13, 0, 13, 0, 13, 0, 7, 0, 13, 0, 13, 0, 13, 0, 13, 0, 13, 0, 13, 0, 13, 0, 13, 0, 13, 0, 13, 0, 13, 0, 6, 6, 0, 13, 0, 13, 0, 13, 0, 13, 0, 13, 0, 13, 0, 13, 0, 13, 0, 13, 0, 13, 0, 13, 0, 13, 6, 6, 0, 13, 0, 0, 13, 6, 0, 13, 0, 13, 0, 13, 0, 13, 0, 13, 0, 13, 6, 0, 13, 0, 13, 0, 13, 0, 13, 0, 13, 0, 13, 0, 4, 0, 0, 13, 6, 0, 13, 0, 13, 0, 13, 0, 13, 0, 13, 0, 13, 6, 0, 13, 0, 13, 0, 13, 0, 13, 0, 13, 0, 13, 0, 0, 13, 6, 0, 13, 0, 13, 0, 13, 0, 13, 0, 13, 0, 13, 6, 0, 13, 0, 13, 0, 13, 0, 13, 0, 13, 0, 13, 0, 0, 13, 6, 0, 13, 0, 13, 0, 13, 0, 13, 0, 13, 0, 13, 6, 0, 13, 0, 13, 0, 13, 0, 13, 0, 13, 0, 13, 0, 0, 13, 6, 0, 13, 0, 13, 0, 13, 0, 13, 0, 13, 0, 13, 6, 0, 13, 0, 13, 0, 13, 0, 13, 0, 13, 0, 13, 0, 13, 0, 87, 348, 87, 840, 14, 87, 60, 7, 6, 6, 7]
def flds (B : Nat) (f : Nat → Int) (i : Nat) : Nat → List Value
  | 0 => [.ref (B + 1), .ref (B + 33), .ref (B + 92), .ref (B + 94), .ref (B + 96), .ref (B + 98)]
  | 1 => [.ref (B + 1), .ref (B + 33), .ref (B + 48), .ref (B + 101), .ref (B + 116), .ref (B + 118), .ref (B + 120), .ref (B + 122)]
  | 2 => [.ref (B + 1), .ref (B + 34), .ref (B + 36), .ref (B + 38), .ref (B + 40), .ref (B + 42), .ref (B + 44), .ref (B + 46)]
  | 3 => [.ref (B + 185), .int (iI (f 1)), .int (iI (f 2))]
  | 4 => [.ref (B + (i + 1)), .int (iI (f 1))]
  | 5 => [.ref (B + 1), .ref (B + 30), .ref (B + 48), .ref (B + 91), .ref (B + 125), .ref (B + 126), .ref (B + 151), .ref (B + 152), .ref (B + 153), .int (iI (f 9))]
  | 6 => [.ref (B + 1), .ref (B + 33), .ref (B + 49), .ref (B + 51), .ref (B + 53), .ref (B + 55), .ref (B + 57), .ref (B + 59), .ref (B + 61), .ref (B + 63), .ref (B + 65), .ref (B + 66)]
  | 7 => [.int (iI (f 0)), .ref (B + (i + 1)), .ref (B + (i + 3)), .ref (B + (i + 16)), .int (iI (f 4))]
  | 8 => [.ref (B + 31), .int (iI (f 1)), .ref (B + 32), .int (iI (f 3))]
  | 9 => [.ref (B + 1), .ref (B + 155), .int (iI (f 2)), .ref (B + 184), .ref (B + 30), .ref (B + 33), .ref (B + 48), .ref (B + 100), .ref (B + 91), .ref (B + 124), .ref (B + 302)]
  | 10 => [.ref (B + 305), .ref (B + 306), .int (iI (f 2)), .ref (B + 307), .int (iI (f 4)), .ref (B + 308), .ref (B + 309), .ref (B + 310), .int (iI (f 8)), .ref (B + 311), .int (iI (f 10)), .ref (B + 312), .ref (B + 313), .ref (B + 314), .ref (B + 315)]
  | _ => []

def celK (aC : Nat → ClassId) (B : Nat) (f : Nat → Int) (i : Nat) : Nat → va_E
  | 20 => .inl (aC 0, (LT.getD i 0, .inl (fun j => iI (f j))))
  | 21 => .inl (aC 1, (LT.getD i 0, .inl (fun j => iI (f j))))
  | 22 => .inl (aC 2, (LT.getD i 0, .inl (fun j => iI (f j))))
  | 23 => .inl (aC 3, (LT.getD i 0, .inr (.inr (.inr (.inr (fun j => some (B + (i + 1 + 2 * j))))))))
  | 24 => .inl (aC 3, (LT.getD i 0, .inr (.inr (.inr (.inr (fun j => some (B + (f j).toNat)))))))
  | 25 => .inl (aC 4, (LT.getD i 0, .inr (.inr (.inr (.inr (fun j => some (B + (i + 1 + 29 * j))))))))
  | 26 => .inl (aC 3, (LT.getD i 0, .inr (.inr (.inr (.inr (fun j => some (B + (i + 2 + 4 * j))))))))
  | 27 => .inl (aC 3, (LT.getD i 0, .inr (.inr (.inr (.inr (fun j => some (B + (i + 3 + 4 * j))))))))
  | k => .inr (k, flds B f i k)
def cel (aC : Nat → ClassId) (B : Nat) (f : Nat → Int) (i : Nat) : va_E := celK aC B f i (KT.getD i 99)
theorem cel_of {aC : Nat → ClassId} {B : Nat} {f : Nat → Int} {i k : Nat} (h : KT.getD i 99 = k) : cel aC B f i = celK aC B f i k := by
  unfold cel
  rw [h]
def isP (t : Nat) : Prop := KT.getD t 99 = 4
def PO (lo hi t : Nat) : Prop := KT.getD t 99 = 4 ∧ lo ≤ t ∧ t + 1 < hi
def SO (lo hi t : Nat) : Prop := KT.getD t 99 = 7 ∧ lo ≤ t ∧ t + 28 < hi
theorem PO.lo {lo hi t : Nat} (h : PO lo hi t) : lo ≤ t := h.2.1
theorem PO.hi {lo hi t : Nat} (h : PO lo hi t) : t < hi := by have := h.2.2; omega
theorem SO.lo {lo hi t : Nat} (h : SO lo hi t) : lo ≤ t := h.2.1
theorem SO.hi {lo hi t : Nat} (h : SO lo hi t) : t < hi := by have := h.2.2; omega
theorem KT_len : KT.length = 316 := by decide +kernel
theorem KT_lt {t k : Nat} (h : KT.getD t 99 = k) (hk : k ≠ 99) : t < 316 := by
  rcases Nat.lt_or_ge t 316 with q | q
  · exact q
  · rw [List.getD, List.getElem?_eq_none (by rw [KT_len]; exact q)] at h
    exact absurd h.symm hk
theorem KT_all {P : Nat → Prop} [DecidablePred P] (h : (List.range 316).all (fun i => decide (P i)) = true) {t : Nat} (ht : t < 316) : P t :=
  of_decide_eq_true (List.all_eq_true.mp h t (List.mem_range.mpr ht))
theorem isP_arr {t : Nat} (h : KT.getD t 99 = 4) : KT.getD (t + 1) 99 = 20 ∧ LT.getD (t + 1) 0 = 13 :=
  KT_all (P := fun t => KT.getD t 99 = 4 → KT.getD (t + 1) 99 = 20 ∧ LT.getD (t + 1) 0 = 13) (by decide +kernel) (KT_lt h (by decide)) h
theorem isS_all {t : Nat} (h : KT.getD t 99 = 7) : (KT.getD (t + 1) 99 = 4 ∧ KT.getD (t + 3) 99 = 23 ∧ LT.getD (t + 3) 0 = 6 ∧ KT.getD (t + 16) 99 = 24 ∧ LT.getD (t + 16) 0 = 6) ∧ t + 28 < 316 ∧ (∀ k, k < 6 → KT.getD (t + 3 + 1 + 2 * k) 99 = 4) ∧ (∀ k, k < 6 → KT.getD (t + 17 + 2 * k) 99 = 4) :=
  KT_all (P := fun t => KT.getD t 99 = 7 → (KT.getD (t + 1) 99 = 4 ∧ KT.getD (t + 3) 99 = 23 ∧ LT.getD (t + 3) 0 = 6 ∧ KT.getD (t + 16) 99 = 24 ∧ LT.getD (t + 16) 0 = 6) ∧ t + 28 < 316 ∧ (∀ k, k < 6 → KT.getD (t + 3 + 1 + 2 * k) 99 = 4) ∧ (∀ k, k < 6 → KT.getD (t + 17 + 2 * k) 99 = 4)) (by decide +kernel) (KT_lt h (by decide)) h
/-- a branch's polynomial is one of its state's own six -/
def BO (s t : Nat) : Prop := ∃ k, k < 6 ∧ t = s + 17 + 2 * k
theorem PO_mod {lo hi s : Nat} (h : SO lo hi s) : PO lo hi (s + 1) := ⟨(isS_all h.1).1.1, by have := h.2.1; omega, by have := h.2.2; omega⟩
theorem PO_reg {lo hi s : Nat} (h : SO lo hi s) {k : Int} (h0 : 0 ≤ k) (h1 : k < 6) : PO lo hi (s + 3 + 1 + 2 * k.toNat) := ⟨(isS_all h.1).2.2.1 _ (by omega), by have := h.2.1; omega, by have := h.2.2; omega⟩
theorem PO_br {lo hi s t : Nat} (h : SO lo hi s) (hb : BO s t) : PO lo hi t := by
  obtain ⟨k, hk, rfl⟩ := hb
  exact ⟨(isS_all h.1).2.2.2 _ hk, by have := h.2.1; omega, by have := h.2.2; omega⟩
theorem PO_full {lo hi t : Nat} (hlo : lo ≤ 0) (hhi : 304 ≤ hi) (h : KT.getD t 99 = 4) : PO lo hi t := by
  refine ⟨h, by omega, ?_⟩
  have h1 : t + 1 < 304 := KT_all (P := fun t => KT.getD t 99 = 4 → t + 1 < 304) (by decide +kernel) (KT_lt h (by decide)) h
  omega
theorem SO_full {lo hi t : Nat} (hlo : lo ≤ 0) (hhi : 304 ≤ hi) (h : KT.getD t 99 = 7) : SO lo hi t := by
  refine ⟨h, by omega, ?_⟩
  have h1 : t + 28 < 304 := KT_all (P := fun t => KT.getD t 99 = 7 → t + 28 < 304) (by decide +kernel) (KT_lt h (by decide)) h
  omega
def Wd (D : va_G) (aC : Nat → ClassId) (B lo hi : Nat) (σ : SG) (H : Heap) : Prop := (∀ i j, inR (σ i j)) ∧ ∀ i, lo ≤ i → i < hi → va_at D vwCl (B + i, cel aC B (σ i) i) H
def tysA (aC : Nat → ClassId) : List (ClassId × FieldType) := [(aC 0, .int), (aC 1, .boolean), (aC 2, .char), (aC 3, .object "SplitTowers$Poly"), (aC 4, .object "SplitTowers$State")]
def AB (B lo hi : Nat) : Nat → Prop := fun q => B + lo ≤ q ∧ q < B + hi
def Cx (p : Program) (s : State) (m : MethodId) (args : Array Value) (meth : Method) (c : Code) (cc : ByteArray) (nL : Nat) (own : String) (ret : Option FieldType) (D : va_G) (aC : Nat → ClassId) : Prop :=
  p.tables.exec = Jvm.exec ∧ c.code = cc ∧ c.maxLocals = nL ∧ s.vm.findClass own = some m.cls ∧ (∀ w ∈ WS, w.before args s = true) ∧ va_K D vwCl (tysA aC) s ∧ meth.locks = false ∧ meth.sig.returnType = ret
/-- from every heap that the picture tells, at this place, the end comes -/
def V (p : Program) (l : Launch) (e : Env) (R : Room) (s : State) (m : MethodId) (args : Array Value) (below : List Frame) (meth : Method) (c : Code) (D : va_G) (aC : Nat → ClassId) (B lo hi nL : Nat) (Q : State → Prop) (σ : SG) (pc : Nat) (lv : List (Nat × Value)) (st : List Value) : Prop :=
  ∀ (H : Heap) (locs : List Loc) (ls : Array Slot), Wd D aC B lo hi σ H → va_S (AB B lo hi) s.heap H locs → lv_has ls nL lv → W p l e R s m args below meth c H locs 0 0 Q (F0 m pc ls st)
def WP (D : va_G) (aC : Nat → ClassId) (B lo hi : Nat) (σ : SG) (U : State) : Prop := Wd D aC B lo hi σ U.heap ∧ va_K D vwCl (tysA aC) U
def QI (D : va_G) (aC : Nat → ClassId) (B lo hi : Nat) (Qc : Int → SG → Prop) : Array Value → State → Outcome → State → Prop := va_Qi (fun r σ => ∃ z, r = iI z ∧ inR z ∧ Qc z σ) (fun σ t => WP D aC B lo hi σ t) (AB B lo hi)
def QV (D : va_G) (aC : Nat → ClassId) (B lo hi : Nat) (Qc : SG → Prop) : Array Value → State → Outcome → State → Prop := va_Qv Qc (fun σ t => WP D aC B lo hi σ t) (AB B lo hi)
/-! loops and joins of the printed conditions -/
def Lp0 (K : ((SG → Prop)) → SG → Prop) (σ : SG) : Prop := ∃ I : Nat → SG → Prop, (∃ n, I n σ) ∧ ∀ n σ, I n σ → K (fun σ => ∃ m, m < n ∧ I m σ) σ
def Lp1 {A : Type} (K : ((A → SG → Prop)) → A → SG → Prop) (a : A) (σ : SG) : Prop := ∃ I : Nat → A → SG → Prop, (∃ n, I n a σ) ∧ ∀ n a σ, I n a σ → K (fun a σ => ∃ m, m < n ∧ I m a σ) a σ
def Lp2 {A A2 : Type} (K : ((A → A2 → SG → Prop)) → A → A2 → SG → Prop) (a : A) (a2 : A2) (σ : SG) : Prop := ∃ I : Nat → A → A2 → SG → Prop, (∃ n, I n a a2 σ) ∧ ∀ n a a2 σ, I n a a2 σ → K (fun a a2 σ => ∃ m, m < n ∧ I m a a2 σ) a a2 σ
def Lp3 {A A2 A3 : Type} (K : ((A → A2 → A3 → SG → Prop)) → A → A2 → A3 → SG → Prop) (a : A) (a2 : A2) (a3 : A3) (σ : SG) : Prop := ∃ I : Nat → A → A2 → A3 → SG → Prop, (∃ n, I n a a2 a3 σ) ∧ ∀ n a a2 a3 σ, I n a a2 a3 σ → K (fun a a2 a3 σ => ∃ m, m < n ∧ I m a a2 a3 σ) a a2 a3 σ
def Lp4 {A A2 A3 A4 : Type} (K : ((A → A2 → A3 → A4 → SG → Prop)) → A → A2 → A3 → A4 → SG → Prop) (a : A) (a2 : A2) (a3 : A3) (a4 : A4) (σ : SG) : Prop := ∃ I : Nat → A → A2 → A3 → A4 → SG → Prop, (∃ n, I n a a2 a3 a4 σ) ∧ ∀ n a a2 a3 a4 σ, I n a a2 a3 a4 σ → K (fun a a2 a3 a4 σ => ∃ m, m < n ∧ I m a a2 a3 a4 σ) a a2 a3 a4 σ
def Lp5 {A A2 A3 A4 A5 : Type} (K : ((A → A2 → A3 → A4 → A5 → SG → Prop)) → A → A2 → A3 → A4 → A5 → SG → Prop) (a : A) (a2 : A2) (a3 : A3) (a4 : A4) (a5 : A5) (σ : SG) : Prop := ∃ I : Nat → A → A2 → A3 → A4 → A5 → SG → Prop, (∃ n, I n a a2 a3 a4 a5 σ) ∧ ∀ n a a2 a3 a4 a5 σ, I n a a2 a3 a4 a5 σ → K (fun a a2 a3 a4 a5 σ => ∃ m, m < n ∧ I m a a2 a3 a4 a5 σ) a a2 a3 a4 a5 σ
def Jn0 (K : SG → Prop) (F : (SG → Prop) → Prop) : Prop := ∃ J : SG → Prop, (∀ σ, J σ → K σ) ∧ F J
def Jn1 {A : Type} (K : A → SG → Prop) (F : (A → SG → Prop) → Prop) : Prop := ∃ J : A → SG → Prop, (∀ a σ, J a σ → K a σ) ∧ F J
def Jn2 {A A2 : Type} (K : A → A2 → SG → Prop) (F : (A → A2 → SG → Prop) → Prop) : Prop := ∃ J : A → A2 → SG → Prop, (∀ a a2 σ, J a a2 σ → K a a2 σ) ∧ F J
def Jn3 {A A2 A3 : Type} (K : A → A2 → A3 → SG → Prop) (F : (A → A2 → A3 → SG → Prop) → Prop) : Prop := ∃ J : A → A2 → A3 → SG → Prop, (∀ a a2 a3 σ, J a a2 a3 σ → K a a2 a3 σ) ∧ F J
section VROWS
variable {p : Program} {l : Launch} {e : Env} {R : Room} {s : State} {m : MethodId} {args : Array Value} {below : List Frame} {meth : Method} {c : Code} {Q : State → Prop}
variable {D : va_G} {aC : Nat → ClassId} {B lo hi nL : Nat} {cc : ByteArray} {own : String} {ret : Option FieldType}
variable {σ : SG} {pc : Nat} {lv lv' : List (Nat × Value)} {st : List Value}
theorem v_iconst (C : Cx p s m args meth c cc nL own ret D aC) {n : Int} (hdg : decode cc pc = .ok (.iconst n, 1)) (kk : V p l e R s m args below meth c D aC B lo hi nL Q σ (pc + 1) lv (.int (iI n) :: st)) : V p l e R s m args below meth c D aC B lo hi nL Q σ pc lv st :=
  fun H locs ls hW hS hl => lv_iconst C.1 C.2.1 hdg rfl (kk H locs ls hW hS hl)
theorem v_bipush (C : Cx p s m args meth c cc nL own ret D aC) {n : Int} (hdg : decode cc pc = .ok (.bipush n, 2)) (hn : (Int8.ofInt n).toInt32 = iI n) (kk : V p l e R s m args below meth c D aC B lo hi nL Q σ (pc + 2) lv (.int (iI n) :: st)) : V p l e R s m args below meth c D aC B lo hi nL Q σ pc lv st :=
  fun H locs ls hW hS hl => lv_bipush C.1 C.2.1 hdg hn (kk H locs ls hW hS hl)
theorem v_sipush (C : Cx p s m args meth c cc nL own ret D aC) {n : Int} (hdg : decode cc pc = .ok (.sipush n, 3)) (hn : (Int16.ofInt n).toInt32 = iI n) (kk : V p l e R s m args below meth c D aC B lo hi nL Q σ (pc + 3) lv (.int (iI n) :: st)) : V p l e R s m args below meth c D aC B lo hi nL Q σ pc lv st :=
  fun H locs ls hW hS hl => lv_sipush C.1 C.2.1 hdg hn (kk H locs ls hW hS hl)
theorem v_ldc (C : Cx p s m args meth c cc nL own ret D aC) {idx : Nat} {v : Int32} (n : Int) (hn : v = iI n) (hc : Cond.constant own idx v ∈ WS) (hdg : decode cc pc = .ok (.ldc idx, 2)) (kk : V p l e R s m args below meth c D aC B lo hi nL Q σ (pc + 2) lv (.int (iI n) :: st)) : V p l e R s m args below meth c D aC B lo hi nL Q σ pc lv st := by
  subst hn
  exact fun H locs ls hW hS hl => lv_ldc C.1 C.2.1 C.2.2.2.1 (C.2.2.2.2.1 _ hc) hdg (kk H locs ls hW hS hl)
theorem v_iload_n (C : Cx p s m args meth c cc nL own ret D aC) {k : Fin 4} {i : Nat} {x : Int32} (j : Nat) (hdg : decode cc pc = .ok (.iload_n k, 1)) (hi' : (k : Nat) = i) (hj : lv[j]? = some (i, .int x)) (kk : V p l e R s m args below meth c D aC B lo hi nL Q σ (pc + 1) lv (.int x :: st)) : V p l e R s m args below meth c D aC B lo hi nL Q σ pc lv st :=
  fun H locs ls hW hS hl => lv_iload_n C.1 C.2.1 hdg hi' (lv_at hl j hj) (kk H locs ls hW hS hl)
theorem v_iload (C : Cx p s m args meth c cc nL own ret D aC) {i : Nat} {x : Int32} (j : Nat) (hdg : decode cc pc = .ok (.iload i, 2)) (hj : lv[j]? = some (i, .int x)) (kk : V p l e R s m args below meth c D aC B lo hi nL Q σ (pc + 2) lv (.int x :: st)) : V p l e R s m args below meth c D aC B lo hi nL Q σ pc lv st :=
  fun H locs ls hW hS hl => lv_iload C.1 C.2.1 hdg (lv_at hl j hj) (kk H locs ls hW hS hl)
theorem v_aload_n (C : Cx p s m args meth c cc nL own ret D aC) {k : Fin 4} {i x : Nat} (j : Nat) (hdg : decode cc pc = .ok (.aload_n k, 1)) (hi' : (k : Nat) = i) (hj : lv[j]? = some (i, .ref x)) (kk : V p l e R s m args below meth c D aC B lo hi nL Q σ (pc + 1) lv (.ref x :: st)) : V p l e R s m args below meth c D aC B lo hi nL Q σ pc lv st :=
  fun H locs ls hW hS hl => lv_aload_n C.1 C.2.1 hdg hi' (lv_at hl j hj) (kk H locs ls hW hS hl)
theorem v_aload (C : Cx p s m args meth c cc nL own ret D aC) {i x : Nat} (j : Nat) (hdg : decode cc pc = .ok (.aload i, 2)) (hj : lv[j]? = some (i, .ref x)) (kk : V p l e R s m args below meth c D aC B lo hi nL Q σ (pc + 2) lv (.ref x :: st)) : V p l e R s m args below meth c D aC B lo hi nL Q σ pc lv st :=
  fun H locs ls hW hS hl => lv_aload C.1 C.2.1 hdg (lv_at hl j hj) (kk H locs ls hW hS hl)
theorem v_istore_n (C : Cx p s m args meth c cc nL own ret D aC) {k : Fin 4} {i : Nat} {x : Int32} (hdg : decode cc pc = .ok (.istore_n k, 1)) (hi' : (k : Nat) = i) (hn : i < nL) (hl' : (i, Value.int x) :: lv.filter (fun q => !(q.1 == i) && !(q.1 + 1 == i && q.2.category == 2)) = lv') (kk : V p l e R s m args below meth c D aC B lo hi nL Q σ (pc + 1) lv' st) : V p l e R s m args below meth c D aC B lo hi nL Q σ pc lv (.int x :: st) :=
  fun H locs ls hW hS hl => lv_istore_n C.1 C.2.1 hdg hi' hl hn hl' (fun ls hl => kk H locs ls hW hS hl)
theorem v_istore (C : Cx p s m args meth c cc nL own ret D aC) {i : Nat} {x : Int32} (hdg : decode cc pc = .ok (.istore i, 2)) (hn : i < nL) (hl' : (i, Value.int x) :: lv.filter (fun q => !(q.1 == i) && !(q.1 + 1 == i && q.2.category == 2)) = lv') (kk : V p l e R s m args below meth c D aC B lo hi nL Q σ (pc + 2) lv' st) : V p l e R s m args below meth c D aC B lo hi nL Q σ pc lv (.int x :: st) :=
  fun H locs ls hW hS hl => lv_istore C.1 C.2.1 hdg hl hn hl' (fun ls hl => kk H locs ls hW hS hl)
theorem v_astore_n (C : Cx p s m args meth c cc nL own ret D aC) {k : Fin 4} {i x : Nat} (hdg : decode cc pc = .ok (.astore_n k, 1)) (hi' : (k : Nat) = i) (hn : i < nL) (hl' : (i, Value.ref x) :: lv.filter (fun q => !(q.1 == i) && !(q.1 + 1 == i && q.2.category == 2)) = lv') (kk : V p l e R s m args below meth c D aC B lo hi nL Q σ (pc + 1) lv' st) : V p l e R s m args below meth c D aC B lo hi nL Q σ pc lv (.ref x :: st) :=
  fun H locs ls hW hS hl => lv_astore_n C.1 C.2.1 hdg hi' hl hn hl' (fun ls hl => kk H locs ls hW hS hl)
theorem v_astore (C : Cx p s m args meth c cc nL own ret D aC) {i x : Nat} (hdg : decode cc pc = .ok (.astore i, 2)) (hn : i < nL) (hl' : (i, Value.ref x) :: lv.filter (fun q => !(q.1 == i) && !(q.1 + 1 == i && q.2.category == 2)) = lv') (kk : V p l e R s m args below meth c D aC B lo hi nL Q σ (pc + 2) lv' st) : V p l e R s m args below meth c D aC B lo hi nL Q σ pc lv (.ref x :: st) :=
  fun H locs ls hW hS hl => lv_astore C.1 C.2.1 hdg hl hn hl' (fun ls hl => kk H locs ls hW hS hl)
theorem v_iinc (C : Cx p s m args meth c cc nL own ret D aC) {i : Nat} {n x : Int} (j : Nat) (hdg : decode cc pc = .ok (.iinc i n, 3)) (hj : lv[j]? = some (i, .int (iI x))) (hn : i < nL) (hl' : (i, Value.int (iI (x + n))) :: lv.filter (fun q => !(q.1 == i) && !(q.1 + 1 == i && q.2.category == 2)) = lv') (kk : V p l e R s m args below meth c D aC B lo hi nL Q σ (pc + 3) lv' st) : V p l e R s m args below meth c D aC B lo hi nL Q σ pc lv st :=
  fun H locs ls hW hS hl => lv_iinc C.1 C.2.1 hdg hl hj (iI_add x n) hn hl' (fun ls hl => kk H locs ls hW hS hl)
theorem v_sub (ks : List Nat) (h : lv_pick lv ks = lv') (kk : V p l e R s m args below meth c D aC B lo hi nL Q σ pc lv' st) : V p l e R s m args below meth c D aC B lo hi nL Q σ pc lv st :=
  fun H locs ls hW hS hl => kk H locs ls hW hS (lv_sub hl ks h)
theorem v_iadd (C : Cx p s m args meth c cc nL own ret D aC) {a b : Int} (hdg : decode cc pc = .ok (.iadd, 1)) (kk : V p l e R s m args below meth c D aC B lo hi nL Q σ (pc + 1) lv (.int (iI (a + b)) :: st)) : V p l e R s m args below meth c D aC B lo hi nL Q σ pc lv (.int (iI b) :: .int (iI a) :: st) :=
  fun H locs ls hW hS hl => lv_iadd C.1 C.2.1 hdg (by rw [iI_add]; exact kk H locs ls hW hS hl)
theorem v_isub (C : Cx p s m args meth c cc nL own ret D aC) {a b : Int} (hdg : decode cc pc = .ok (.isub, 1)) (kk : V p l e R s m args below meth c D aC B lo hi nL Q σ (pc + 1) lv (.int (iI (a - b)) :: st)) : V p l e R s m args below meth c D aC B lo hi nL Q σ pc lv (.int (iI b) :: .int (iI a) :: st) :=
  fun H locs ls hW hS hl => lv_isub C.1 C.2.1 hdg (by rw [iI_sub]; exact kk H locs ls hW hS hl)
theorem v_imul (C : Cx p s m args meth c cc nL own ret D aC) {a b : Int} (hdg : decode cc pc = .ok (.imul, 1)) (kk : V p l e R s m args below meth c D aC B lo hi nL Q σ (pc + 1) lv (.int (iI (a * b)) :: st)) : V p l e R s m args below meth c D aC B lo hi nL Q σ pc lv (.int (iI b) :: .int (iI a) :: st) :=
  fun H locs ls hW hS hl => lv_imul C.1 C.2.1 hdg (by rw [iI_mul]; exact kk H locs ls hW hS hl)
theorem v_ineg (C : Cx p s m args meth c cc nL own ret D aC) {a : Int} (hdg : decode cc pc = .ok (.ineg, 1)) (kk : V p l e R s m args below meth c D aC B lo hi nL Q σ (pc + 1) lv (.int (iI (-a)) :: st)) : V p l e R s m args below meth c D aC B lo hi nL Q σ pc lv (.int (iI a) :: st) :=
  fun H locs ls hW hS hl => lv_ineg C.1 C.2.1 hdg (by rw [iI_neg]; exact kk H locs ls hW hS hl)
theorem ne0_iI {b : Int} (hb : inR b) (h : b ≠ 0) : ¬ iI b = 0 := fun q => h ((iI_eq hb inR0).mp q)
theorem v_irem (C : Cx p s m args meth c cc nL own ret D aC) {a b : Int} (ha : inR a) (hb : inR b) (h0 : b ≠ 0) (hdg : decode cc pc = .ok (.irem, 1)) (kk : V p l e R s m args below meth c D aC B lo hi nL Q σ (pc + 1) lv (.int (iI (a.tmod b)) :: st)) : V p l e R s m args below meth c D aC B lo hi nL Q σ pc lv (.int (iI b) :: .int (iI a) :: st) :=
  fun H locs ls hW hS hl => lv_irem C.1 C.2.1 hdg (ne0_iI hb h0) (by rw [iI_rem ha hb]; exact kk H locs ls hW hS hl)
theorem v_idiv (C : Cx p s m args meth c cc nL own ret D aC) {a b : Int} (ha : inR a) (hb : inR b) (h0 : b ≠ 0) (hdg : decode cc pc = .ok (.idiv, 1)) (kk : V p l e R s m args below meth c D aC B lo hi nL Q σ (pc + 1) lv (.int (iI (a.tdiv b)) :: st)) : V p l e R s m args below meth c D aC B lo hi nL Q σ pc lv (.int (iI b) :: .int (iI a) :: st) :=
  fun H locs ls hW hS hl => lv_idiv C.1 C.2.1 hdg (ne0_iI hb h0) (by rw [iI_div ha hb]; exact kk H locs ls hW hS hl)
theorem v_iand (C : Cx p s m args meth c cc nL own ret D aC) {a b : Int} (hdg : decode cc pc = .ok (.iand, 1)) (kk : V p l e R s m args below meth c D aC B lo hi nL Q σ (pc + 1) lv (.int (iI (iand a b)) :: st)) : V p l e R s m args below meth c D aC B lo hi nL Q σ pc lv (.int (iI b) :: .int (iI a) :: st) :=
  fun H locs ls hW hS hl => lv_iand C.1 C.2.1 hdg (by have h := kk H locs ls hW hS hl; unfold iand at h; rw [iI_of] at h; exact h)
theorem v_ior (C : Cx p s m args meth c cc nL own ret D aC) {a b : Int} (hdg : decode cc pc = .ok (.ior, 1)) (kk : V p l e R s m args below meth c D aC B lo hi nL Q σ (pc + 1) lv (.int (iI (ior a b)) :: st)) : V p l e R s m args below meth c D aC B lo hi nL Q σ pc lv (.int (iI b) :: .int (iI a) :: st) :=
  fun H locs ls hW hS hl => lv_ior C.1 C.2.1 hdg (by have h := kk H locs ls hW hS hl; unfold ior at h; rw [iI_of] at h; exact h)
theorem v_ishr (C : Cx p s m args meth c cc nL own ret D aC) {a b : Int} (hdg : decode cc pc = .ok (.ishr, 1)) (kk : V p l e R s m args below meth c D aC B lo hi nL Q σ (pc + 1) lv (.int (iI (ishr a b)) :: st)) : V p l e R s m args below meth c D aC B lo hi nL Q σ pc lv (.int (iI b) :: .int (iI a) :: st) :=
  fun H locs ls hW hS hl => lv_ishr C.1 C.2.1 hdg (by have h := kk H locs ls hW hS hl; unfold ishr at h; rw [iI_of] at h; exact h)
theorem v_dup (C : Cx p s m args meth c cc nL own ret D aC) {v : Value} (hv : v.category = 1) (hdg : decode cc pc = .ok (.dup, 1)) (kk : V p l e R s m args below meth c D aC B lo hi nL Q σ (pc + 1) lv (v :: v :: st)) : V p l e R s m args below meth c D aC B lo hi nL Q σ pc lv (v :: st) :=
  fun H locs ls hW hS hl => lv_dup C.1 C.2.1 hdg hv (kk H locs ls hW hS hl)
theorem v_dup2 (C : Cx p s m args meth c cc nL own ret D aC) {v w : Value} (hv : v.category = 1) (hw : w.category = 1) (hdg : decode cc pc = .ok (.dup2, 1)) (kk : V p l e R s m args below meth c D aC B lo hi nL Q σ (pc + 1) lv (v :: w :: v :: w :: st)) : V p l e R s m args below meth c D aC B lo hi nL Q σ pc lv (v :: w :: st) :=
  fun H locs ls hW hS hl => lv_dup2_11 C.1 C.2.1 hdg hv hw (kk H locs ls hW hS hl)
theorem v_pop (C : Cx p s m args meth c cc nL own ret D aC) {v : Value} (hv : v.category = 1) (hdg : decode cc pc = .ok (.pop, 1)) (kk : V p l e R s m args below meth c D aC B lo hi nL Q σ (pc + 1) lv st) : V p l e R s m args below meth c D aC B lo hi nL Q σ pc lv (v :: st) :=
  fun H locs ls hW hS hl => lv_pop C.1 C.2.1 hdg hv (kk H locs ls hW hS hl)
theorem v_goto (C : Cx p s m args meth c cc nL own ret D aC) {off : Int} (tgt : Nat) (hdg : decode cc pc = .ok (.goto off, 3)) (ht : (pc : Int) + off = (tgt : Int)) (kk : V p l e R s m args below meth c D aC B lo hi nL Q σ tgt lv st) : V p l e R s m args below meth c D aC B lo hi nL Q σ pc lv st :=
  fun H locs ls hW hS hl => lv_goto C.1 C.2.1 hdg ht (kk H locs ls hW hS hl)
theorem v_icmp_eq (C : Cx p s m args meth c cc nL own ret D aC) {a b : Int} (ha : inR a) (hb : inR b) {off : Int} (tgt : Nat) (hdg : decode cc pc = .ok (.if_icmp .eq off, 3)) (ht : (pc : Int) + off = (tgt : Int)) (kt : a = b → V p l e R s m args below meth c D aC B lo hi nL Q σ tgt lv st) (kf : ¬ a = b → V p l e R s m args below meth c D aC B lo hi nL Q σ (pc + 3) lv st) : V p l e R s m args below meth c D aC B lo hi nL Q σ pc lv (.int (iI b) :: .int (iI a) :: st) :=
  fun H locs ls hW hS hl => lv_icmp_eq C.1 C.2.1 hdg ht (fun h => kt ((iI_eq ha hb).mp h) H locs ls hW hS hl) (fun h => kf (fun q => h ((iI_eq ha hb).mpr q)) H locs ls hW hS hl)
theorem v_icmp_ne (C : Cx p s m args meth c cc nL own ret D aC) {a b : Int} (ha : inR a) (hb : inR b) {off : Int} (tgt : Nat) (hdg : decode cc pc = .ok (.if_icmp .ne off, 3)) (ht : (pc : Int) + off = (tgt : Int)) (kt : ¬ a = b → V p l e R s m args below meth c D aC B lo hi nL Q σ tgt lv st) (kf : a = b → V p l e R s m args below meth c D aC B lo hi nL Q σ (pc + 3) lv st) : V p l e R s m args below meth c D aC B lo hi nL Q σ pc lv (.int (iI b) :: .int (iI a) :: st) :=
  fun H locs ls hW hS hl => lv_icmp_ne C.1 C.2.1 hdg ht (fun h => kt (fun q => h ((iI_eq ha hb).mpr q)) H locs ls hW hS hl) (fun h => kf ((iI_eq ha hb).mp h) H locs ls hW hS hl)
theorem v_icmp_lt (C : Cx p s m args meth c cc nL own ret D aC) {a b : Int} (ha : inR a) (hb : inR b) {off : Int} (tgt : Nat) (hdg : decode cc pc = .ok (.if_icmp .lt off, 3)) (ht : (pc : Int) + off = (tgt : Int)) (kt : a < b → V p l e R s m args below meth c D aC B lo hi nL Q σ tgt lv st) (kf : ¬ a < b → V p l e R s m args below meth c D aC B lo hi nL Q σ (pc + 3) lv st) : V p l e R s m args below meth c D aC B lo hi nL Q σ pc lv (.int (iI b) :: .int (iI a) :: st) :=
  fun H locs ls hW hS hl => lv_icmp_lt C.1 C.2.1 hdg ht (fun h => kt ((iI_lt ha hb).mp h) H locs ls hW hS hl) (fun h => kf (fun q => h ((iI_lt ha hb).mpr q)) H locs ls hW hS hl)
theorem v_icmp_ge (C : Cx p s m args meth c cc nL own ret D aC) {a b : Int} (ha : inR a) (hb : inR b) {off : Int} (tgt : Nat) (hdg : decode cc pc = .ok (.if_icmp .ge off, 3)) (ht : (pc : Int) + off = (tgt : Int)) (kt : b ≤ a → V p l e R s m args below meth c D aC B lo hi nL Q σ tgt lv st) (kf : ¬ b ≤ a → V p l e R s m args below meth c D aC B lo hi nL Q σ (pc + 3) lv st) : V p l e R s m args below meth c D aC B lo hi nL Q σ pc lv (.int (iI b) :: .int (iI a) :: st) :=
  fun H locs ls hW hS hl => lv_icmp_ge C.1 C.2.1 hdg ht (fun h => kt ((iI_le hb ha).mp h) H locs ls hW hS hl) (fun h => kf (fun q => h ((iI_le hb ha).mpr q)) H locs ls hW hS hl)
theorem v_icmp_gt (C : Cx p s m args meth c cc nL own ret D aC) {a b : Int} (ha : inR a) (hb : inR b) {off : Int} (tgt : Nat) (hdg : decode cc pc = .ok (.if_icmp .gt off, 3)) (ht : (pc : Int) + off = (tgt : Int)) (kt : b < a → V p l e R s m args below meth c D aC B lo hi nL Q σ tgt lv st) (kf : ¬ b < a → V p l e R s m args below meth c D aC B lo hi nL Q σ (pc + 3) lv st) : V p l e R s m args below meth c D aC B lo hi nL Q σ pc lv (.int (iI b) :: .int (iI a) :: st) :=
  fun H locs ls hW hS hl => lv_icmp_gt C.1 C.2.1 hdg ht (fun h => kt ((iI_lt hb ha).mp h) H locs ls hW hS hl) (fun h => kf (fun q => h ((iI_lt hb ha).mpr q)) H locs ls hW hS hl)
theorem v_icmp_le (C : Cx p s m args meth c cc nL own ret D aC) {a b : Int} (ha : inR a) (hb : inR b) {off : Int} (tgt : Nat) (hdg : decode cc pc = .ok (.if_icmp .le off, 3)) (ht : (pc : Int) + off = (tgt : Int)) (kt : a ≤ b → V p l e R s m args below meth c D aC B lo hi nL Q σ tgt lv st) (kf : ¬ a ≤ b → V p l e R s m args below meth c D aC B lo hi nL Q σ (pc + 3) lv st) : V p l e R s m args below meth c D aC B lo hi nL Q σ pc lv (.int (iI b) :: .int (iI a) :: st) :=
  fun H locs ls hW hS hl => lv_icmp_le C.1 C.2.1 hdg ht (fun h => kt ((iI_le ha hb).mp h) H locs ls hW hS hl) (fun h => kf (fun q => h ((iI_le ha hb).mpr q)) H locs ls hW hS hl)
theorem v_if_eq (C : Cx p s m args meth c cc nL own ret D aC) {a : Int} (ha : inR a) {off : Int} (tgt : Nat) (hdg : decode cc pc = .ok (.ifCond .eq off, 3)) (ht : (pc : Int) + off = (tgt : Int)) (kt : a = 0 → V p l e R s m args below meth c D aC B lo hi nL Q σ tgt lv st) (kf : ¬ a = 0 → V p l e R s m args below meth c D aC B lo hi nL Q σ (pc + 3) lv st) : V p l e R s m args below meth c D aC B lo hi nL Q σ pc lv (.int (iI a) :: st) :=
  fun H locs ls hW hS hl => lv_if_eq C.1 C.2.1 hdg ht (fun h => kt ((iI_eq ha inR0).mp h) H locs ls hW hS hl) (fun h => kf (fun q => h ((iI_eq ha inR0).mpr q)) H locs ls hW hS hl)
theorem v_if_ne (C : Cx p s m args meth c cc nL own ret D aC) {a : Int} (ha : inR a) {off : Int} (tgt : Nat) (hdg : decode cc pc = .ok (.ifCond .ne off, 3)) (ht : (pc : Int) + off = (tgt : Int)) (kt : ¬ a = 0 → V p l e R s m args below meth c D aC B lo hi nL Q σ tgt lv st) (kf : a = 0 → V p l e R s m args below meth c D aC B lo hi nL Q σ (pc + 3) lv st) : V p l e R s m args below meth c D aC B lo hi nL Q σ pc lv (.int (iI a) :: st) :=
  fun H locs ls hW hS hl => lv_if_ne C.1 C.2.1 hdg ht (fun h => kt (fun q => h ((iI_eq ha inR0).mpr q)) H locs ls hW hS hl) (fun h => kf ((iI_eq ha inR0).mp h) H locs ls hW hS hl)
theorem v_if_lt (C : Cx p s m args meth c cc nL own ret D aC) {a : Int} (ha : inR a) {off : Int} (tgt : Nat) (hdg : decode cc pc = .ok (.ifCond .lt off, 3)) (ht : (pc : Int) + off = (tgt : Int)) (kt : a < 0 → V p l e R s m args below meth c D aC B lo hi nL Q σ tgt lv st) (kf : ¬ a < 0 → V p l e R s m args below meth c D aC B lo hi nL Q σ (pc + 3) lv st) : V p l e R s m args below meth c D aC B lo hi nL Q σ pc lv (.int (iI a) :: st) :=
  fun H locs ls hW hS hl => lv_if_lt C.1 C.2.1 hdg ht (fun h => kt ((iI_lt ha inR0).mp h) H locs ls hW hS hl) (fun h => kf (fun q => h ((iI_lt ha inR0).mpr q)) H locs ls hW hS hl)
theorem v_if_ge (C : Cx p s m args meth c cc nL own ret D aC) {a : Int} (ha : inR a) {off : Int} (tgt : Nat) (hdg : decode cc pc = .ok (.ifCond .ge off, 3)) (ht : (pc : Int) + off = (tgt : Int)) (kt : 0 ≤ a → V p l e R s m args below meth c D aC B lo hi nL Q σ tgt lv st) (kf : ¬ 0 ≤ a → V p l e R s m args below meth c D aC B lo hi nL Q σ (pc + 3) lv st) : V p l e R s m args below meth c D aC B lo hi nL Q σ pc lv (.int (iI a) :: st) :=
  fun H locs ls hW hS hl => lv_if_ge C.1 C.2.1 hdg ht (fun h => kt ((iI_le inR0 ha).mp h) H locs ls hW hS hl) (fun h => kf (fun q => h ((iI_le inR0 ha).mpr q)) H locs ls hW hS hl)
theorem v_if_gt (C : Cx p s m args meth c cc nL own ret D aC) {a : Int} (ha : inR a) {off : Int} (tgt : Nat) (hdg : decode cc pc = .ok (.ifCond .gt off, 3)) (ht : (pc : Int) + off = (tgt : Int)) (kt : 0 < a → V p l e R s m args below meth c D aC B lo hi nL Q σ tgt lv st) (kf : ¬ 0 < a → V p l e R s m args below meth c D aC B lo hi nL Q σ (pc + 3) lv st) : V p l e R s m args below meth c D aC B lo hi nL Q σ pc lv (.int (iI a) :: st) :=
  fun H locs ls hW hS hl => lv_if_gt C.1 C.2.1 hdg ht (fun h => kt ((iI_lt inR0 ha).mp h) H locs ls hW hS hl) (fun h => kf (fun q => h ((iI_lt inR0 ha).mpr q)) H locs ls hW hS hl)
theorem v_if_le (C : Cx p s m args meth c cc nL own ret D aC) {a : Int} (ha : inR a) {off : Int} (tgt : Nat) (hdg : decode cc pc = .ok (.ifCond .le off, 3)) (ht : (pc : Int) + off = (tgt : Int)) (kt : a ≤ 0 → V p l e R s m args below meth c D aC B lo hi nL Q σ tgt lv st) (kf : ¬ a ≤ 0 → V p l e R s m args below meth c D aC B lo hi nL Q σ (pc + 3) lv st) : V p l e R s m args below meth c D aC B lo hi nL Q σ pc lv (.int (iI a) :: st) :=
  fun H locs ls hW hS hl => lv_if_le C.1 C.2.1 hdg ht (fun h => kt ((iI_le ha inR0).mp h) H locs ls hW hS hl) (fun h => kf (fun q => h ((iI_le ha inR0).mpr q)) H locs ls hW hS hl)
theorem v_tabIn (C : Cx p s m args meth c cc nL own ret D aC) {a : Int} (ha : inR a) (k : Int) (hk : a = k) {dflt lo' hi' : Int} {offs : Array Int} {len : Nat} {off : Int} (tgt : Nat) (hdg : decode cc pc = .ok (.tableswitch dflt lo' hi' offs, len)) (h1 : ¬ k < lo') (h2 : ¬ hi' < k) (ho : offs[(k - lo').toNat]? = some off) (ht : (pc : Int) + off = (tgt : Int)) (kk : V p l e R s m args below meth c D aC B lo hi nL Q σ tgt lv st) : V p l e R s m args below meth c D aC B lo hi nL Q σ pc lv (.int (iI a) :: st) := by
  subst hk
  exact fun H locs ls hW hS hl => lv_tableIn C.1 C.2.1 hdg (by rw [iI_toInt ha]; exact h1) (by rw [iI_toInt ha]; exact h2) (by rw [iI_toInt ha]; exact ho) ht (kk H locs ls hW hS hl)
theorem v_tabOut (C : Cx p s m args meth c cc nL own ret D aC) {a : Int} (ha : inR a) {dflt lo' hi' : Int} {offs : Array Int} {len : Nat} (tgt : Nat) (hdg : decode cc pc = .ok (.tableswitch dflt lo' hi' offs, len)) (h : a < lo' ∨ hi' < a) (ht : (pc : Int) + dflt = (tgt : Int)) (kk : V p l e R s m args below meth c D aC B lo hi nL Q σ tgt lv st) : V p l e R s m args below meth c D aC B lo hi nL Q σ pc lv (.int (iI a) :: st) :=
  fun H locs ls hW hS hl => lv_tableOut C.1 C.2.1 hdg (by rw [iI_toInt ha]; exact h) ht (kk H locs ls hW hS hl)
theorem v_look (C : Cx p s m args meth c cc nL own ret D aC) {a : Int} (ha : inR a) {dflt : Int} {ps : Array (Int × Int)} {len : Nat} {off : Int} (tgt : Nat) (hdg : decode cc pc = .ok (.lookupswitch dflt ps, len)) (hp : (ps.toList.zip (ps.toList.drop 1)).all (fun (a, next) => a.1 < next.1) = true) (ho : Op.lookupswitch.offset ps.toList dflt a = off) (ht : (pc : Int) + off = (tgt : Int)) (kk : V p l e R s m args below meth c D aC B lo hi nL Q σ tgt lv st) : V p l e R s m args below meth c D aC B lo hi nL Q σ pc lv (.int (iI a) :: st) :=
  fun H locs ls hW hS hl => lv_lookup C.1 C.2.1 hdg hp (by rw [iI_toInt ha]; exact ho) ht (kk H locs ls hW hS hl)
/-- the picture says what range its numbers have -/
theorem v_R (kk : (∀ i j, inR (σ i j)) → V p l e R s m args below meth c D aC B lo hi nL Q σ pc lv st) : V p l e R s m args below meth c D aC B lo hi nL Q σ pc lv st :=
  fun H locs ls hW hS hl => kk hW.1 H locs ls hW hS hl
/-! cells -/
theorem va_P1 {D : va_G} {cl : List vw_C} {q : Nat × va_E} {H : Heap} (h : va_at D cl q H) : va_P D cl [q] H := by
  intro k q' hk
  match k, hk with
  | 0, hk => cases hk; exact h
  | k + 1, hk => simp at hk
theorem Wd.set {σ' : SG} {H H' : Heap} {i : Nat} (hW : Wd D aC B lo hi σ H) (hR : ∀ a b, inR (σ' a b)) (hne : ∀ j, j ≠ i → σ' j = σ j) (hi' : va_at D vwCl (B + i, cel aC B (σ' i) i) H') (oq : ∀ q, q ≠ B + i → H'[q]? = H[q]?) : Wd D aC B lo hi σ' H' := by
  refine ⟨hR, fun j h1 h2 => ?_⟩
  by_cases hj : j = i
  · subst hj; exact hi'
  · rw [hne j hj]
    exact (hW.2 j h1 h2).kept (oq _ (by show B + j ≠ B + i; omega))
theorem v_get (C : Cx p s m args meth c cc nL own ret D aC) {ref C' : String} {T : u_T} {N ci idx i : Nat} (hin : ∀ w ∈ u_ws C' T N, w ∈ WS) (hc : vwCl[ci]? = some (C', T, N)) (h1 : lo ≤ i) (h2 : i < hi) {fs : List Value} (hκ : cel aC B (σ i) i = .inr (ci, fs)) (k : Nat) (hk : k < N) (hlink : Cond.fieldLink own idx ref (T k).2.1 (T k).2.2.1 ∈ WS) (hsame : ∀ x, s.fieldFound? (T k).1 (T k).2.1 (T k).2.2.1 = some x → s.fieldFound? ref (T k).2.1 (T k).2.2.1 = some x) {v : Value} (hv : fs[k]? = some v) (hdg : decode cc pc = .ok (.getfield idx, 3)) (kk : V p l e R s m args below meth c D aC B lo hi nL Q σ (pc + 3) lv (v :: st)) : V p l e R s m args below meth c D aC B lo hi nL Q σ pc lv (.ref (B + i) :: st) := by
  intro H locs ls hW hS hl
  have hat := hW.2 i h1 h2
  rw [hκ] at hat
  exact va_get (D := D) (cl := vwCl) (tys := tysA aC) (ci := ci) (C := C') (T := T) (N := N) C.1 C.2.1 C.2.2.2.2.1 hin C.2.2.2.1 C.2.2.2.2.2.1 (va_P1 hat) 0 rfl hc k hk (C.2.2.2.2.1 _ hlink) hsame hv hdg (kk H locs ls hW hS hl)
theorem v_put (C : Cx p s m args meth c cc nL own ret D aC) {ref C' : String} {T : u_T} {N ci idx i : Nat} (hin : ∀ w ∈ u_ws C' T N, w ∈ WS) (ty0 : Nat → FieldType) (hty : ∀ k, k < N → parseFieldDescriptor (T k).2.2.1 = some (ty0 k)) (hnm : ∀ a, a < N → ∀ b, b < N → a ≠ b → (T a).2.1 ≠ (T b).2.1) (hc : vwCl[ci]? = some (C', T, N)) (h1 : lo ≤ i) (h2 : i < hi) {fs : List Value} (hκ : cel aC B (σ i) i = .inr (ci, fs)) (k : Nat) (hk : k < N) (hlink : Cond.fieldLink own idx ref (T k).2.1 (T k).2.2.1 ∈ WS) (hsame : ∀ x, s.fieldFound? (T k).1 (T k).2.1 (T k).2.2.1 = some x → s.fieldFound? ref (T k).2.1 (T k).2.2.1 = some x) (hfin : (T k).2.2.2 = false) {ty : FieldType} {x : Int} (hd : parseFieldDescriptor (T k).2.2.1 = some ty) (hn : narrow ty (.int (iI x)) = .int (iI x)) (hfit : fits ty (.int (iI x)) = true) (hlen : k < fs.length) (hxr : inR x) (hset : cel aC B (up (σ i) k x) i = .inr (ci, fs.set k (.int (iI x)))) (hdg : decode cc pc = .ok (.putfield idx, 3)) (kk : V p l e R s m args below meth c D aC B lo hi nL Q (ug σ i k x) (pc + 3) lv st) : V p l e R s m args below meth c D aC B lo hi nL Q σ pc lv (.int (iI x) :: .ref (B + i) :: st) := by
  intro H locs ls hW hS0 hl
  obtain ⟨hexec, hb, -, hown, hts, hK, -, -⟩ := C
  have hap := va_apart (own := own) hts hin ty0 hty hnm hK hc
  have hat := hW.2 i h1 h2
  rw [hκ] at hat
  obtain ⟨r, g1, cell, q1, q2, q3, q4⟩ := hat
  have hr : r = (C', T, N) := Option.some.inj (g1.symm.trans hc)
  subst hr
  obtain ⟨hS, hfc, kC, hkC, hkind⟩ := hK.1 ci _ hc
  obtain ⟨cf, kf, fi, f, hif, hsl⟩ := hS k hk
  have hlay := hts _ (hin _ (u_in_lay hk))
  unfold u_lay at hlay
  rw [if_neg (by rw [hfin]; decide)] at hlay
  have hst := (u_facts hfc hkC (u_lays hts hin hk) hif).1
  have h6 := u_store hfc hkC hkind hlay hif hd hn hfit
  refine W.putK hexec hb (f := f) ⟨hown, hts _ hlink, ⟨_, _, _, hsame _ hif⟩, hst⟩ (by rw [q2]; exact h6) q1 q3 (by rw [hsl]; exact k2_hasslot (q4 k hk)) rfl rfl hdg fun H' e1 e2 e3 => ?_
  rw [hsl] at e1 ⊢
  refine kk H' _ ls (hW.set (ug_R hW.1 hxr i k) (fun j hj => ug_ne σ hj k x) ?_ e3) (hS0.put e2 e3 ⟨by omega, by omega⟩) hl
  rw [ug_self, hset]
  exact ⟨_, hc, t_OB.to (V := updV (vp_V fs) k (.int (iI x))) ⟨_, e1, q2, q3, t_set q4 hap hk _⟩ (fun j _ => vp_updV_set hlen _ j)⟩
theorem v_iald (C : Cx p s m args meth c cc nL own ret D aC) {i n : Nat} (h1 : lo ≤ i) (h2 : i < hi) (hκ : cel aC B (σ i) i = .inl (aC 0, (n, .inl (fun j => iI (σ i j))))) {k : Int} (hk : inR k) (hk0 : 0 ≤ k ∧ k < n) (hdg : decode cc pc = .ok (.iaload, 1)) (kk : V p l e R s m args below meth c D aC B lo hi nL Q σ (pc + 1) lv (.int (iI (σ i k.toNat)) :: st)) : V p l e R s m args below meth c D aC B lo hi nL Q σ pc lv (.int (iI k) :: .ref (B + i) :: st) := by
  intro H locs ls hW hS hl
  have hat := hW.2 i h1 h2
  rw [hκ] at hat
  refine va_iald (D := D) (cl := vwCl) (tys := tysA aC) C.1 C.2.1 C.2.2.2.2.2.1 (va_P1 hat) 0 0 rfl rfl (in_iI hk hk0.1 hk0.2) hdg ?_
  rw [clamp_iI hk hk0.1]
  exact kk H locs ls hW hS hl
theorem v_zald (C : Cx p s m args meth c cc nL own ret D aC) {i n : Nat} (h1 : lo ≤ i) (h2 : i < hi) (hκ : cel aC B (σ i) i = .inl (aC 1, (n, .inl (fun j => iI (σ i j))))) {k : Int} (hk : inR k) (hk0 : 0 ≤ k ∧ k < n) (hdg : decode cc pc = .ok (.baload, 1)) (kk : V p l e R s m args below meth c D aC B lo hi nL Q σ (pc + 1) lv (.int (iI (σ i k.toNat)) :: st)) : V p l e R s m args below meth c D aC B lo hi nL Q σ pc lv (.int (iI k) :: .ref (B + i) :: st) := by
  intro H locs ls hW hS hl
  have hat := hW.2 i h1 h2
  rw [hκ] at hat
  refine va_zald (D := D) (cl := vwCl) (tys := tysA aC) C.1 C.2.1 C.2.2.2.2.2.1 (va_P1 hat) 0 1 rfl rfl (in_iI hk hk0.1 hk0.2) hdg ?_
  rw [clamp_iI hk hk0.1]
  exact kk H locs ls hW hS hl
theorem v_cald (C : Cx p s m args meth c cc nL own ret D aC) {i n : Nat} (h1 : lo ≤ i) (h2 : i < hi) (hκ : cel aC B (σ i) i = .inl (aC 2, (n, .inl (fun j => iI (σ i j))))) {k : Int} (hk : inR k) (hk0 : 0 ≤ k ∧ k < n) (hdg : decode cc pc = .ok (.caload, 1)) (kk : V p l e R s m args below meth c D aC B lo hi nL Q σ (pc + 1) lv (.int (iI (σ i k.toNat)) :: st)) : V p l e R s m args below meth c D aC B lo hi nL Q σ pc lv (.int (iI k) :: .ref (B + i) :: st) := by
  intro H locs ls hW hS hl
  have hat := hW.2 i h1 h2
  rw [hκ] at hat
  refine va_cald (D := D) (cl := vwCl) (tys := tysA aC) C.1 C.2.1 C.2.2.2.2.2.1 (va_P1 hat) 0 2 rfl rfl (in_iI hk hk0.1 hk0.2) hdg ?_
  rw [clamp_iI hk hk0.1]
  exact kk H locs ls hW hS hl
theorem v_aald (C : Cx p s m args meth c cc nL own ret D aC) {i n : Nat} {g : Nat → Nat} (t0 : Nat) {cn : String} (ht : (tysA aC)[t0]? = some (aC t0, .object cn)) (h1 : lo ≤ i) (h2 : i < hi) (hκ : cel aC B (σ i) i = .inl (aC t0, (n, .inr (.inr (.inr (.inr (fun j => some (B + g j)))))))) {k : Int} (hk : inR k) (hk0 : 0 ≤ k ∧ k < n) (hdg : decode cc pc = .ok (.aaload, 1)) (kk : V p l e R s m args below meth c D aC B lo hi nL Q σ (pc + 1) lv (.ref (B + g k.toNat) :: st)) : V p l e R s m args below meth c D aC B lo hi nL Q σ pc lv (.int (iI k) :: .ref (B + i) :: st) := by
  intro H locs ls hW hS hl
  have hat := hW.2 i h1 h2
  rw [hκ] at hat
  refine va_aldq (D := D) (cl := vwCl) (tys := tysA aC) C.1 C.2.1 C.2.2.2.2.2.1 (va_P1 hat) 0 t0 rfl ht (in_iI hk hk0.1 hk0.2) hdg ?_
  rw [clamp_iI hk hk0.1]
  exact kk H locs ls hW hS hl
theorem upd_up (f : Nat → Int) (k : Nat) (x : Int) : (fun j => Value.int (iI (up f k x j))) = updV (fun j => .int (iI (f j))) k (.int (iI x)) := by
  funext j
  unfold up updV
  split <;> rfl
theorem v_iast (C : Cx p s m args meth c cc nL own ret D aC) {i n : Nat} (h1 : lo ≤ i) (h2 : i < hi) (hκ : ∀ f : Nat → Int, cel aC B f i = .inl (aC 0, (n, .inl (fun j => iI (f j))))) {k x : Int} (hk : inR k) (hk0 : 0 ≤ k ∧ k < n) (hx : inR x) (hdg : decode cc pc = .ok (.iastore, 1)) (kk : V p l e R s m args below meth c D aC B lo hi nL Q (ug σ i k.toNat x) (pc + 1) lv st) : V p l e R s m args below meth c D aC B lo hi nL Q σ pc lv (.int (iI x) :: .int (iI k) :: .ref (B + i) :: st) := by
  intro H locs ls hW hS hl
  have hat := hW.2 i h1 h2
  rw [hκ] at hat
  refine W.iast C.1 C.2.1 hat ((C.2.2.2.2.2.1.2 0 _ rfl).1 n (fun j => .int (iI (σ i j)))) (fun q => by cases q) (by show ¬ (_ ∨ (arrV _ _ _).slots.size ≤ _); rw [arrV_size]; exact in_iI hk hk0.1 hk0.2) rfl rfl hdg fun H1 e z oq => ?_
  rw [clamp_iI hk hk0.1] at e ⊢
  refine kk H1 _ ls (hW.set (ug_R hW.1 hx i _) (fun j hj => ug_ne σ hj _ x) ?_ oq) (hS.put z oq ⟨by omega, by omega⟩) hl
  rw [hκ, ug_self]
  show H1[B + i]? = some (vp_cell _ _)
  rw [e]
  dsimp only
  rw [vp_cell_i, vp_cell_i, arrV_store, upd_up]
theorem v_zast (C : Cx p s m args meth c cc nL own ret D aC) {i n : Nat} (h1 : lo ≤ i) (h2 : i < hi) (hκ : ∀ f : Nat → Int, cel aC B f i = .inl (aC 1, (n, .inl (fun j => iI (f j))))) {k x : Int} (hk : inR k) (hk0 : 0 ≤ k ∧ k < n) (hx : x = 0 ∨ x = 1) (hdg : decode cc pc = .ok (.bastore, 1)) (kk : V p l e R s m args below meth c D aC B lo hi nL Q (ug σ i k.toNat x) (pc + 1) lv st) : V p l e R s m args below meth c D aC B lo hi nL Q σ pc lv (.int (iI x) :: .int (iI k) :: .ref (B + i) :: st) := by
  intro H locs ls hW hS hl
  have hat := hW.2 i h1 h2
  rw [hκ] at hat
  refine W.zast C.1 C.2.1 hat ((C.2.2.2.2.2.1.2 1 _ rfl).1 n (fun j => .int (iI (σ i j)))) (fun q => by cases q) (by show ¬ (_ ∨ (arrV _ _ _).slots.size ≤ _); rw [arrV_size]; exact in_iI hk hk0.1 hk0.2) rfl rfl hdg fun H1 e z oq => ?_
  rw [clamp_iI hk hk0.1] at e ⊢
  refine kk H1 _ ls (hW.set (ug_R hW.1 (by omega) i _) (fun j hj => ug_ne σ hj _ x) ?_ oq) (hS.put z oq ⟨by omega, by omega⟩) hl
  rw [hκ, ug_self]
  show H1[B + i]? = some (vp_cell _ _)
  rw [e, narrow_z hx]
  dsimp only
  rw [vp_cell_i, vp_cell_i, arrV_store, upd_up]
theorem narrow_c {x : Int} (h : 0 ≤ x ∧ x < 65536) : narrow .char (.int (iI x)) = .int (iI x) := by
  obtain ⟨n, rfl⟩ := Int.eq_ofNat_of_zero_le h.1
  have h1 : iI (n : Int) = nI n := Int32.ofInt_eq_ofNat
  rw [h1]
  exact (pk_charN (by omega)).1
theorem v_cast (C : Cx p s m args meth c cc nL own ret D aC) {i n : Nat} (h1 : lo ≤ i) (h2 : i < hi) (hκ : ∀ f : Nat → Int, cel aC B f i = .inl (aC 2, (n, .inl (fun j => iI (f j))))) {k x : Int} (hk : inR k) (hk0 : 0 ≤ k ∧ k < n) (hx : 0 ≤ x ∧ x < 65536) (hdg : decode cc pc = .ok (.castore, 1)) (kk : V p l e R s m args below meth c D aC B lo hi nL Q (ug σ i k.toNat x) (pc + 1) lv st) : V p l e R s m args below meth c D aC B lo hi nL Q σ pc lv (.int (iI x) :: .int (iI k) :: .ref (B + i) :: st) := by
  intro H locs ls hW hS hl
  have hat := hW.2 i h1 h2
  rw [hκ] at hat
  refine W.cast C.1 C.2.1 hat ((C.2.2.2.2.2.1.2 2 _ rfl).1 n (fun j => .int (iI (σ i j)))) (fun q => by cases q) (by show ¬ (_ ∨ (arrV _ _ _).slots.size ≤ _); rw [arrV_size]; exact in_iI hk hk0.1 hk0.2) rfl rfl hdg fun H1 e z oq => ?_
  rw [clamp_iI hk hk0.1] at e ⊢
  refine kk H1 _ ls (hW.set (ug_R hW.1 (by omega) i _) (fun j hj => ug_ne σ hj _ x) ?_ oq) (hS.put z oq ⟨by omega, by omega⟩) hl
  rw [hκ, ug_self]
  show H1[B + i]? = some (vp_cell _ _)
  rw [e, narrow_c hx]
  dsimp only
  rw [vp_cell_i, vp_cell_i, arrV_store, upd_up]
/-- a polynomial is put into a row of branches -/
theorem v_aast (C : Cx p s m args meth c cc nL own ret D aC) {i t : Nat} (h1 : lo ≤ i) (h2 : i < hi) (hi24 : KT.getD i 99 = 24) (hn : LT.getD i 0 = 6) (pt : PO lo hi t) {k : Int} (hk : inR k) (hk0 : 0 ≤ k ∧ k < 6) (hdg : decode cc pc = .ok (.aastore, 1)) (kk : V p l e R s m args below meth c D aC B lo hi nL Q (ug σ i k.toNat (t : Int)) (pc + 1) lv st) : V p l e R s m args below meth c D aC B lo hi nL Q σ pc lv (.ref (B + t) :: .int (iI k) :: .ref (B + i) :: st) := by
  intro H locs ls hW hS hl
  have ht : t < 316 := KT_lt pt.1 (by decide)
  have hat := hW.2 i h1 h2
  have hav := hW.2 t pt.2.1 (PO.hi pt)
  have hκ : ∀ f : Nat → Int, cel aC B f i = .inl (aC 3, (6, .inr (.inr (.inr (.inr (fun j => some (B + (f j).toNat))))))) := fun f => by rw [cel_of hi24]; show Sum.inl (aC 3, (LT.getD i 0, _)) = _; rw [hn]
  rw [hκ] at hat
  rw [cel_of pt.1] at hav
  obtain ⟨r', hr', cellV, g1, g2, g3, -⟩ := hav
  have hK := C.2.2.2.2.2.1
  have hc : vwCl[4]? = some (RX4, TX4, 2) := rfl
  have hcls := (hK.1 4 _ hc).2
  obtain ⟨kA, comp, k1, k2, k3, -⟩ := (hK.2 3 _ rfl).2
  have hcomp : comp = D.1 4 := Option.some.inj (k3.symm.trans hcls.1)
  subst hcomp
  obtain ⟨kC, hkC, -⟩ := hcls.2
  have hb : vp_in (iI k) 6 := in_iI hk hk0.1 hk0.2
  refine W.aast C.1 C.2.1 hat (fun q h => by cases h) (fun h => by cases h) k1 k2 rfl hkC ⟨fun q => hb (Or.inl q), by show _ < (arrV _ _ _).slots.size; rw [arrV_size]; exact Nat.not_le.mp fun q => hb (Or.inr q)⟩ g1 (fun q h => by rw [g3] at h; cases h) (by rw [g2]; exact hkC) (by rw [g2]; exact va_assign hcls) rfl rfl hdg fun H1 e z oq => ?_
  rw [clamp_iI hk hk0.1] at e ⊢
  refine kk H1 _ ls (hW.set (ug_R hW.1 (by omega) i _) (fun j hj => ug_ne σ hj _ _) ?_ oq) (hS.put z oq ⟨by omega, by omega⟩) hl
  rw [hκ, ug_self]
  show H1[B + i]? = some (vp_cell _ _)
  rw [e]
  dsimp only
  rw [vp_cell_q, vp_cell_q, arrV_store]
  congr 2
  funext j
  unfold up updV
  split
  · show Value.ref (B + t) = va_rf (some (B + (t : Int).toNat))
    rw [Int.toNat_natCast]
    rfl
  · rfl
/-! ends -/
theorem v_iret {Qc : Int → SG → Prop} (C : Cx p s m args meth c cc nL own (some .int) D aC) {z : Int} (hz : inR z) (hq : Qc z σ) (hdg : decode cc pc = .ok (.ireturn, 1)) : V p l e R s m args below meth c D aC B lo hi nL (MQ below (QI D aC B lo hi Qc) args s 0 0 (AB B lo hi)) σ pc lv [.int (iI z)] := by
  intro H locs ls hW hS hl
  have hlocks : meth.locks = false := C.2.2.2.2.2.2.1
  exact W.iret C.1 C.2.1 C.2.2.2.2.2.2.2 (fun t ht hWm => ⟨⟨iI z, σ, rfl, ⟨z, rfl, hz, hq⟩, by rw [ht]; exact hW, va_K.moved hWm.alike C.2.2.2.2.2.1⟩, hS.F ht⟩) hS.2.2 hdg
theorem v_zret {Qc : Int → SG → Prop} (C : Cx p s m args meth c cc nL own (some .boolean) D aC) {z : Int} (hz : z = 0 ∨ z = 1) (hq : Qc z σ) (hdg : decode cc pc = .ok (.ireturn, 1)) : V p l e R s m args below meth c D aC B lo hi nL (MQ below (QI D aC B lo hi Qc) args s 0 0 (AB B lo hi)) σ pc lv [.int (iI z)] := by
  intro H locs ls hW hS hl
  have hlocks : meth.locks = false := C.2.2.2.2.2.2.1
  exact W.zret C.1 C.2.1 C.2.2.2.2.2.2.2 (narrow_z hz) (fun t ht hWm => ⟨⟨iI z, σ, rfl, ⟨z, rfl, by omega, hq⟩, by rw [ht]; exact hW, va_K.moved hWm.alike C.2.2.2.2.2.1⟩, hS.F ht⟩) hS.2.2 hdg
theorem v_vret {Qc : SG → Prop} (C : Cx p s m args meth c cc nL own none D aC) (hq : Qc σ) (hdg : decode cc pc = .ok (.return_, 1)) : V p l e R s m args below meth c D aC B lo hi nL (MQ below (QV D aC B lo hi Qc) args s 0 0 (AB B lo hi)) σ pc lv [] := by
  intro H locs ls hW hS hl
  have hlocks : meth.locks = false := C.2.2.2.2.2.2.1
  exact W.vret C.1 C.2.1 C.2.2.2.2.2.2.2 (fun t ht hWm => ⟨⟨σ, rfl, hq, by rw [ht]; exact hW, va_K.moved hWm.alike C.2.2.2.2.2.1⟩, hS.F ht⟩) hS.2.2 hdg
/-! calls -/
theorem gw_V {own' C' : String} {idx maxL : Nat} {y : MethodName} {bytes : ByteArray} {ret' : Option FieldType} (h1 : Cond.methodLink own' idx y ∈ WS) (h2 : Cond.instanceMethod y ∈ WS ∧ Cond.selects C' y y ∈ WS ∧ Cond.initialized C' ∈ WS ∧ Cond.code y bytes maxL ret' ∈ WS) : GoodIn WS (wsV own' idx C' y (Cond.code y bytes maxL ret' :: WS)) := by
  have g : ∀ w ∈ wsV own' idx C' y (Cond.code y bytes maxL ret' :: WS), w ∈ WS := by
    intro w hw
    unfold wsV at hw
    simp only [List.cons_append, List.nil_append, List.mem_cons] at hw
    rcases hw with rfl | rfl | rfl | rfl | rfl | hw
    · exact h1
    · exact h2.1
    · exact h2.2.1
    · exact h2.2.2.1
    · exact h2.2.2.2
    · exact hw
  exact fun w hw => ⟨g w hw, good_of_word (WS_good w (g w hw))⟩
theorem gw_S {own' : String} {idx maxL : Nat} {y : MethodName} {bytes : ByteArray} {ret' : Option FieldType} (h1 : Cond.methodLink own' idx y ∈ WS) (h2 : Cond.static y ∈ WS ∧ Cond.initialized own' ∈ WS ∧ Cond.code y bytes maxL ret' ∈ WS) : GoodIn WS (wsS own' idx y (Cond.code y bytes maxL ret' :: WS)) := by
  have g : ∀ w ∈ wsS own' idx y (Cond.code y bytes maxL ret' :: WS), w ∈ WS := by
    intro w hw
    unfold wsS at hw
    simp only [List.cons_append, List.nil_append, List.mem_cons] at hw
    rcases hw with rfl | rfl | rfl | rfl | hw
    · exact h1
    · exact h2.1
    · exact h2.2.1
    · exact h2.2.2
    · exact hw
  exact fun w hw => ⟨g w hw, good_of_word (WS_good w (g w hw))⟩
theorem WP_blind {lo2 hi2 : Nat} {σ2 : SG} {As : List Value} : FrameBlind (va_Pc As (WP D aC B lo2 hi2 σ2)) := fun a U g mk q => ⟨q.1, q.2.1, va_K.moved (u := U) (U := U.calling g mk a) (Vm.Alike.refl U.vm) q.2.2⟩
theorem Wd.recv {i ci : Nat} {r : vw_C} {fs : List Value} {H : Heap} (hK : va_K D vwCl (tysA aC) s) (hW : Wd D aC B lo hi σ H) (h1 : lo ≤ i) (h2 : i < hi) (hκ : cel aC B (σ i) i = .inr (ci, fs)) (hc : vwCl[ci]? = some r) : ∃ cell : Cell, H[B + i]? = some cell ∧ cell.vm.isStatics = false ∧ s.vm.findClass r.1 = some cell.cls := by
  have hat := hW.2 i h1 h2
  rw [hκ] at hat
  exact va_recv (D := D) (cl := vwCl) (q0 := 0) hK (va_P1 hat) hc rfl
theorem v_calli {y : MethodName} {bytes : ByteArray} {maxL idx n i ci : Nat} {C' : String} {T : u_T} {N : Nat} {fs : List Value} {ret' : Option FieldType} {rm : Room} {As rest : List Value} {Qc : Int → SG → Prop} (C : Cx p s m args meth c cc nL own ret D aC)
    (hM : Met l y (Cond.code y bytes maxL ret' :: WS) rm (va_Pc (.ref (B + i) :: As) (WP D aC B lo hi σ)) (QI D aC B lo hi Qc) 0 0 (AB B lo hi))
    (hl1 : Cond.methodLink own idx y ∈ WS) (hl2 : Cond.instanceMethod y ∈ WS ∧ Cond.selects C' y y ∈ WS ∧ Cond.initialized C' ∈ WS ∧ Cond.code y bytes maxL ret' ∈ WS) (hrm : rm.cells = 0 ∧ rm.slots = 0)
    (hd : y.cls = C' ∧ y.cls ≠ "java/lang/invoke/MethodHandle" ∧ y.cls ≠ "java/lang/invoke/VarHandle" ∧ (parseMethodDescriptor y.desc).map (fun d => d.parameters.length) = some n) (hR : rm.frames + 1 ≤ R.frames ∧ 8 + (maxL + 11) + rm.locals ≤ R.locals)
    (h1 : lo ≤ i) (h2 : i < hi) (hκ : cel aC B (σ i) i = .inr (ci, fs)) (hc : vwCl[ci]? = some (C', T, N)) (hn : As.length = n) (hst : st = As.reverse ++ .ref (B + i) :: rest) (hW8 : (rest.map fun v => v.category).sum ≤ 8) (hdg : decode cc pc = .ok (.invokevirtual idx, 3))
    (kk : ∀ z σ', inR z → Qc z σ' → V p l e R s m args below meth c D aC B lo hi nL Q σ' (pc + 3) lv (.int (iI z) :: rest)) : V p l e R s m args below meth c D aC B lo hi nL Q σ pc lv st := by
  intro H locs ls hW hS hl
  have hK := C.2.2.2.2.2.1
  refine va_calli (va_runV (As := As) (rest := rest) ⟨C.1, C.2.1, C.2.2.1, C.2.2.2.1, C.2.2.2.2.1⟩ hM (cwV n C.2.2.2.2.1 (gw_V hl1 hl2) rfl hrm.1 hrm.2 hd hR) ⟨WP_blind, hW.recv hK h1 h2 hκ hc, fun U hU hWm => ⟨rfl, by rw [hU]; exact hW, va_K.moved hWm.alike hK⟩⟩ rfl hn hl.1 hst (lv_room hW8) hdg ⟨Nat.zero_le _, Nat.zero_le _⟩) hS (fun q _ h => h) (fun q h => h) (fun r u t H1 locs1 ht hvm hw hB hz1 hk1 hS1 => ?_)
  obtain ⟨z, rfl, hzr, hq⟩ := hw
  have hB1 := hB.1
  rw [ht] at hB1
  exact kk z u hzr hq H1 locs1 ls hB1 hS1 hl
theorem v_callv {y : MethodName} {bytes : ByteArray} {maxL idx n i ci : Nat} {C' : String} {T : u_T} {N : Nat} {fs : List Value} {ret' : Option FieldType} {rm : Room} {As rest : List Value} {Qc : SG → Prop} (C : Cx p s m args meth c cc nL own ret D aC)
    (hM : Met l y (Cond.code y bytes maxL ret' :: WS) rm (va_Pc (.ref (B + i) :: As) (WP D aC B lo hi σ)) (QV D aC B lo hi Qc) 0 0 (AB B lo hi))
    (hl1 : Cond.methodLink own idx y ∈ WS) (hl2 : Cond.instanceMethod y ∈ WS ∧ Cond.selects C' y y ∈ WS ∧ Cond.initialized C' ∈ WS ∧ Cond.code y bytes maxL ret' ∈ WS) (hrm : rm.cells = 0 ∧ rm.slots = 0)
    (hd : y.cls = C' ∧ y.cls ≠ "java/lang/invoke/MethodHandle" ∧ y.cls ≠ "java/lang/invoke/VarHandle" ∧ (parseMethodDescriptor y.desc).map (fun d => d.parameters.length) = some n) (hR : rm.frames + 1 ≤ R.frames ∧ 8 + (maxL + 11) + rm.locals ≤ R.locals)
    (h1 : lo ≤ i) (h2 : i < hi) (hκ : cel aC B (σ i) i = .inr (ci, fs)) (hc : vwCl[ci]? = some (C', T, N)) (hn : As.length = n) (hst : st = As.reverse ++ .ref (B + i) :: rest) (hW8 : (rest.map fun v => v.category).sum ≤ 8) (hdg : decode cc pc = .ok (.invokevirtual idx, 3))
    (kk : ∀ σ', Qc σ' → V p l e R s m args below meth c D aC B lo hi nL Q σ' (pc + 3) lv rest) : V p l e R s m args below meth c D aC B lo hi nL Q σ pc lv st := by
  intro H locs ls hW hS hl
  have hK := C.2.2.2.2.2.1
  refine va_callv (va_runV (As := As) (rest := rest) ⟨C.1, C.2.1, C.2.2.1, C.2.2.2.1, C.2.2.2.2.1⟩ hM (cwV n C.2.2.2.2.1 (gw_V hl1 hl2) rfl hrm.1 hrm.2 hd hR) ⟨WP_blind, hW.recv hK h1 h2 hκ hc, fun U hU hWm => ⟨rfl, by rw [hU]; exact hW, va_K.moved hWm.alike hK⟩⟩ rfl hn hl.1 hst (lv_room hW8) hdg ⟨Nat.zero_le _, Nat.zero_le _⟩) hS (fun q _ h => h) (fun q h => h) (fun u t H1 locs1 ht hvm hw hB hz1 hk1 hS1 => ?_)
  have hB1 := hB.1
  rw [ht] at hB1
  exact kk u hw H1 locs1 ls hB1 hS1 hl
theorem v_callsi {y : MethodName} {bytes : ByteArray} {maxL idx n : Nat} {ret' : Option FieldType} {rm : Room} {As rest : List Value} {Qc : Int → SG → Prop} (C : Cx p s m args meth c cc nL own ret D aC)
    (hM : Met l y (Cond.code y bytes maxL ret' :: WS) rm (va_Pc As (WP D aC B lo hi σ)) (QI D aC B lo hi Qc) 0 0 (AB B lo hi))
    (hl1 : Cond.methodLink own idx y ∈ WS) (hl2 : Cond.static y ∈ WS ∧ Cond.initialized y.cls ∈ WS ∧ Cond.code y bytes maxL ret' ∈ WS) (hrm : rm.cells = 0 ∧ rm.slots = 0)
    (hd : y.cls ≠ "java/lang/invoke/MethodHandle" ∧ y.cls ≠ "java/lang/invoke/VarHandle" ∧ (parseMethodDescriptor y.desc).map (fun d => d.parameters.length) = some n) (hR : rm.frames + 1 ≤ R.frames ∧ 8 + (maxL + 11) + rm.locals ≤ R.locals)
    (hn : As.length = n) (hst : st = As.reverse ++ rest) (hW8 : (rest.map fun v => v.category).sum ≤ 8) (hdg : decode cc pc = .ok (.invokestatic idx, 3))
    (kk : ∀ z σ', inR z → Qc z σ' → V p l e R s m args below meth c D aC B lo hi nL Q σ' (pc + 3) lv (.int (iI z) :: rest)) : V p l e R s m args below meth c D aC B lo hi nL Q σ pc lv st := by
  intro H locs ls hW hS hl
  have hK := C.2.2.2.2.2.1
  have hG : GoodIn WS (Cond.code y bytes maxL ret' :: WS) := fun w hw => by
    have g : w ∈ WS := by
      rcases List.mem_cons.mp hw with rfl | h
      · exact hl2.2.2
      · exact h
    exact ⟨g, good_of_word (WS_good w g)⟩
  refine va_calli (va_runS (As := As) (rest := rest) ⟨C.1, C.2.1, C.2.2.1, C.2.2.2.1, C.2.2.2.2.1⟩ hM ⟨callB_of n C.2.2.2.2.1 hG rfl hrm.1 hrm.2 (C.2.2.2.2.1 _ hl2.2.1) (C.2.2.2.2.1 _ hl1) hd hR, C.2.2.2.2.1 _ hl2.1⟩ ⟨WP_blind, fun U hU hWm => ⟨rfl, by rw [hU]; exact hW, va_K.moved hWm.alike hK⟩⟩ rfl hn hl.1 hst (lv_room hW8) hdg ⟨Nat.zero_le _, Nat.zero_le _⟩) hS (fun q _ h => h) (fun q h => h) (fun r u t H1 locs1 ht hvm hw hB hz1 hk1 hS1 => ?_)
  obtain ⟨z, rfl, hzr, hq⟩ := hw
  have hB1 := hB.1
  rw [ht] at hB1
  exact kk z u hzr hq H1 locs1 ls hB1 hS1 hl
def imax (a b : Int) : Int := if a < b then b else a
def imin (a b : Int) : Int := if b < a then b else a
theorem inR_imax {a b : Int} (ha : inR a) (hb : inR b) : inR (imax a b) := by unfold imax; split <;> assumption
theorem inR_imin {a b : Int} (ha : inR a) (hb : inR b) : inR (imin a b) := by unfold imin; split <;> assumption
theorem v_max (C : Cx p s m args meth c cc nL own ret D aC) {idx : Nat} {a b : Int} (ha : inR a) (hb : inR b) (hl1 : Cond.methodLink own idx Lib.Math.max.name ∈ WS) (hl2 : Cond.static Lib.Math.max.name ∈ WS ∧ Cond.initialized "java/lang/Math" ∈ WS ∧ Cond.code Lib.Math.max.name Lib.Math.max.code 2 (some .int) ∈ WS) (hR : 1 ≤ R.frames) (hR2 : (st.map fun v => v.category).sum + 13 ≤ R.locals) (hdg : decode cc pc = .ok (.invokestatic idx, 3)) (kk : V p l e R s m args below meth c D aC B lo hi nL Q σ (pc + 3) lv (.int (iI (imax a b)) :: st)) : V p l e R s m args below meth c D aC B lo hi nL Q σ pc lv (.int (iI b) :: .int (iI a) :: st) := by
  intro H locs ls hW hS hl
  refine va_mmax C.1 C.2.1 (by rw [C.2.2.1]; exact hl.1.symm) C.2.2.2.1 (C.2.2.2.2.1 _ hl1) (C.2.2.2.2.1 _ hl2.1) (C.2.2.2.2.1 _ hl2.2.1) (C.2.2.2.2.1 _ hl2.2.2) hR hR2 (Nat.zero_le _) (Nat.zero_le _) hdg ?_
  have h := kk H locs ls hW hS hl
  rw [show (if iI a < iI b then iI b else iI a) = iI (imax a b) by unfold imax; by_cases q : a < b; (rw [if_pos q, if_pos ((iI_lt ha hb).mpr q)]); (rw [if_neg q, if_neg (fun z => q ((iI_lt ha hb).mp z))])]
  exact h
theorem v_min (C : Cx p s m args meth c cc nL own ret D aC) {idx : Nat} {a b : Int} (ha : inR a) (hb : inR b) (hl1 : Cond.methodLink own idx Lib.Math.min.name ∈ WS) (hl2 : Cond.static Lib.Math.min.name ∈ WS ∧ Cond.initialized "java/lang/Math" ∈ WS ∧ Cond.code Lib.Math.min.name Lib.Math.min.code 2 (some .int) ∈ WS) (hR : 1 ≤ R.frames) (hR2 : (st.map fun v => v.category).sum + 13 ≤ R.locals) (hdg : decode cc pc = .ok (.invokestatic idx, 3)) (kk : V p l e R s m args below meth c D aC B lo hi nL Q σ (pc + 3) lv (.int (iI (imin a b)) :: st)) : V p l e R s m args below meth c D aC B lo hi nL Q σ pc lv (.int (iI b) :: .int (iI a) :: st) := by
  intro H locs ls hW hS hl
  refine va_mmin C.1 C.2.1 (by rw [C.2.2.1]; exact hl.1.symm) C.2.2.2.1 (C.2.2.2.2.1 _ hl1) (C.2.2.2.2.1 _ hl2.1) (C.2.2.2.2.1 _ hl2.2.1) (C.2.2.2.2.1 _ hl2.2.2) hR hR2 (Nat.zero_le _) (Nat.zero_le _) hdg ?_
  have h := kk H locs ls hW hS hl
  rw [show (if iI b < iI a then iI b else iI a) = iI (imin a b) by unfold imin; by_cases q : b < a; (rw [if_pos q, if_pos ((iI_lt hb ha).mpr q)]); (rw [if_neg q, if_neg (fun z => q ((iI_lt hb ha).mp z))])]
  exact h
theorem good_cons {x : Cond} : True := trivial
/-- a method's contract, from its first instruction -/
theorem met_of {y : MethodName} {bytes : ByteArray} {maxL : Nat} {ret' : Option FieldType} {rm : Room} {As : List Value} {Qc : Array Value → State → Outcome → State → Prop} {C' : String} (hy : plainName y.cls = true) (hC : y.cls = C') (hAs : (lg_sl As).length ≤ maxL)
    (body : ∀ p e s m args below meth c, Cx p s m args meth c bytes maxL C' ret' D aC → V p l e rm s m args below meth c D aC B lo hi maxL (MQ below Qc args s 0 0 (AB B lo hi)) σ 0 (lv_args 0 As) []) : Met l y (Cond.code y bytes maxL ret' :: WS) rm (va_Pc As (WP D aC B lo hi σ)) Qc 0 0 (AB B lo hi) := by
  refine Met.ofW (cc := bytes) (maxL := maxL) (ret := ret') hy rfl ?_
  intro p e s m args below meth c s₁ Bd hml hv
  obtain ⟨rfl, hW, hK⟩ := hv
  have hts := atoms_spec (ws := Cond.code y bytes maxL ret' :: WS) Bd.pre
  have hown : s.vm.findClass C' = some m.cls := by rw [← hC]; exact findClass_of_methodNamed Bd.named
  have hl := lv_entry As (n := maxL) hAs
  rw [lg_entry_eq]
  exact body p e s m As.toArray below meth c ⟨Bd.exec, Bd.bytes, hml, hown, fun w h => hts w (List.mem_cons_of_mem _ h), hK, Bd.notSynchronized, Bd.returns⟩ s.heap [] _ hW va_S.rf hl

theorem gf0_state (C : Cx p s m args meth c cc nL own ret D aC) (hlo : lo ≤ 0) (hhi : 304 ≤ hi) {idx : Nat} (hlink : Cond.fieldLink own idx "SplitTowers$Branching" "state" "LSplitTowers$State;" ∈ WS) (hdg : decode cc pc = .ok (.getfield idx, 3)) (kk : V p l e R s m args below meth c D aC B lo hi nL Q σ (pc + 3) lv (.ref (B + 1) :: st)) : V p l e R s m args below meth c D aC B lo hi nL Q σ pc lv (.ref (B + 91) :: st) :=
  v_get C (ci := 0) inX0 rfl (Nat.le_trans hlo (Nat.zero_le _)) (Nat.lt_of_lt_of_le (by decide) hhi) (rfl) 0 (by decide) hlink (fun _ h => h) rfl hdg kk
theorem gf0_field (C : Cx p s m args meth c cc nL own ret D aC) (hlo : lo ≤ 0) (hhi : 304 ≤ hi) {idx : Nat} (hlink : Cond.fieldLink own idx "SplitTowers$Branching" "field" "LSplitTowers$Field;" ∈ WS) (hdg : decode cc pc = .ok (.getfield idx, 3)) (kk : V p l e R s m args below meth c D aC B lo hi nL Q σ (pc + 3) lv (.ref (B + 33) :: st)) : V p l e R s m args below meth c D aC B lo hi nL Q σ pc lv (.ref (B + 91) :: st) :=
  v_get C (ci := 0) inX0 rfl (Nat.le_trans hlo (Nat.zero_le _)) (Nat.lt_of_lt_of_le (by decide) hhi) (rfl) 1 (by decide) hlink (fun _ h => h) rfl hdg kk
theorem gf0_common (C : Cx p s m args meth c cc nL own ret D aC) (hlo : lo ≤ 0) (hhi : 304 ≤ hi) {idx : Nat} (hlink : Cond.fieldLink own idx "SplitTowers$Branching" "common" "LSplitTowers$Poly;" ∈ WS) (hdg : decode cc pc = .ok (.getfield idx, 3)) (kk : V p l e R s m args below meth c D aC B lo hi nL Q σ (pc + 3) lv (.ref (B + 92) :: st)) : V p l e R s m args below meth c D aC B lo hi nL Q σ pc lv (.ref (B + 91) :: st) :=
  v_get C (ci := 0) inX0 rfl (Nat.le_trans hlo (Nat.zero_le _)) (Nat.lt_of_lt_of_le (by decide) hhi) (rfl) 2 (by decide) hlink (fun _ h => h) rfl hdg kk
theorem gf0_rest (C : Cx p s m args meth c cc nL own ret D aC) (hlo : lo ≤ 0) (hhi : 304 ≤ hi) {idx : Nat} (hlink : Cond.fieldLink own idx "SplitTowers$Branching" "rest" "LSplitTowers$Poly;" ∈ WS) (hdg : decode cc pc = .ok (.getfield idx, 3)) (kk : V p l e R s m args below meth c D aC B lo hi nL Q σ (pc + 3) lv (.ref (B + 94) :: st)) : V p l e R s m args below meth c D aC B lo hi nL Q σ pc lv (.ref (B + 91) :: st) :=
  v_get C (ci := 0) inX0 rfl (Nat.le_trans hlo (Nat.zero_le _)) (Nat.lt_of_lt_of_le (by decide) hhi) (rfl) 3 (by decide) hlink (fun _ h => h) rfl hdg kk
theorem gf0_nothings (C : Cx p s m args meth c cc nL own ret D aC) (hlo : lo ≤ 0) (hhi : 304 ≤ hi) {idx : Nat} (hlink : Cond.fieldLink own idx "SplitTowers$Branching" "nothings" "LSplitTowers$Poly;" ∈ WS) (hdg : decode cc pc = .ok (.getfield idx, 3)) (kk : V p l e R s m args below meth c D aC B lo hi nL Q σ (pc + 3) lv (.ref (B + 96) :: st)) : V p l e R s m args below meth c D aC B lo hi nL Q σ pc lv (.ref (B + 91) :: st) :=
  v_get C (ci := 0) inX0 rfl (Nat.le_trans hlo (Nat.zero_le _)) (Nat.lt_of_lt_of_le (by decide) hhi) (rfl) 4 (by decide) hlink (fun _ h => h) rfl hdg kk
theorem gf0_others (C : Cx p s m args meth c cc nL own ret D aC) (hlo : lo ≤ 0) (hhi : 304 ≤ hi) {idx : Nat} (hlink : Cond.fieldLink own idx "SplitTowers$Branching" "others" "LSplitTowers$Poly;" ∈ WS) (hdg : decode cc pc = .ok (.getfield idx, 3)) (kk : V p l e R s m args below meth c D aC B lo hi nL Q σ (pc + 3) lv (.ref (B + 98) :: st)) : V p l e R s m args below meth c D aC B lo hi nL Q σ pc lv (.ref (B + 91) :: st) :=
  v_get C (ci := 0) inX0 rfl (Nat.le_trans hlo (Nat.zero_le _)) (Nat.lt_of_lt_of_le (by decide) hhi) (rfl) 5 (by decide) hlink (fun _ h => h) rfl hdg kk
theorem gf1_state (C : Cx p s m args meth c cc nL own ret D aC) (hlo : lo ≤ 0) (hhi : 304 ≤ hi) {idx : Nat} (hlink : Cond.fieldLink own idx "SplitTowers$Degrees" "state" "LSplitTowers$State;" ∈ WS) (hdg : decode cc pc = .ok (.getfield idx, 3)) (kk : V p l e R s m args below meth c D aC B lo hi nL Q σ (pc + 3) lv (.ref (B + 1) :: st)) : V p l e R s m args below meth c D aC B lo hi nL Q σ pc lv (.ref (B + 100) :: st) :=
  v_get C (ci := 1) inX1 rfl (Nat.le_trans hlo (Nat.zero_le _)) (Nat.lt_of_lt_of_le (by decide) hhi) (rfl) 0 (by decide) hlink (fun _ h => h) rfl hdg kk
theorem gf1_field (C : Cx p s m args meth c cc nL own ret D aC) (hlo : lo ≤ 0) (hhi : 304 ≤ hi) {idx : Nat} (hlink : Cond.fieldLink own idx "SplitTowers$Degrees" "field" "LSplitTowers$Field;" ∈ WS) (hdg : decode cc pc = .ok (.getfield idx, 3)) (kk : V p l e R s m args below meth c D aC B lo hi nL Q σ (pc + 3) lv (.ref (B + 33) :: st)) : V p l e R s m args below meth c D aC B lo hi nL Q σ pc lv (.ref (B + 100) :: st) :=
  v_get C (ci := 1) inX1 rfl (Nat.le_trans hlo (Nat.zero_le _)) (Nat.lt_of_lt_of_le (by decide) hhi) (rfl) 1 (by decide) hlink (fun _ h => h) rfl hdg kk
theorem gf1_ring (C : Cx p s m args meth c cc nL own ret D aC) (hlo : lo ≤ 0) (hhi : 304 ≤ hi) {idx : Nat} (hlink : Cond.fieldLink own idx "SplitTowers$Degrees" "ring" "LSplitTowers$Ring;" ∈ WS) (hdg : decode cc pc = .ok (.getfield idx, 3)) (kk : V p l e R s m args below meth c D aC B lo hi nL Q σ (pc + 3) lv (.ref (B + 48) :: st)) : V p l e R s m args below meth c D aC B lo hi nL Q σ pc lv (.ref (B + 100) :: st) :=
  v_get C (ci := 1) inX1 rfl (Nat.le_trans hlo (Nat.zero_le _)) (Nat.lt_of_lt_of_le (by decide) hhi) (rfl) 2 (by decide) hlink (fun _ h => h) rfl hdg kk
theorem gf1_products (C : Cx p s m args meth c cc nL own ret D aC) (hlo : lo ≤ 0) (hhi : 304 ≤ hi) {idx : Nat} (hlink : Cond.fieldLink own idx "SplitTowers$Degrees" "products" "[LSplitTowers$Poly;" ∈ WS) (hdg : decode cc pc = .ok (.getfield idx, 3)) (kk : V p l e R s m args below meth c D aC B lo hi nL Q σ (pc + 3) lv (.ref (B + 101) :: st)) : V p l e R s m args below meth c D aC B lo hi nL Q σ pc lv (.ref (B + 100) :: st) :=
  v_get C (ci := 1) inX1 rfl (Nat.le_trans hlo (Nat.zero_le _)) (Nat.lt_of_lt_of_le (by decide) hhi) (rfl) 3 (by decide) hlink (fun _ h => h) rfl hdg kk
theorem gf1_rest (C : Cx p s m args meth c cc nL own ret D aC) (hlo : lo ≤ 0) (hhi : 304 ≤ hi) {idx : Nat} (hlink : Cond.fieldLink own idx "SplitTowers$Degrees" "rest" "LSplitTowers$Poly;" ∈ WS) (hdg : decode cc pc = .ok (.getfield idx, 3)) (kk : V p l e R s m args below meth c D aC B lo hi nL Q σ (pc + 3) lv (.ref (B + 116) :: st)) : V p l e R s m args below meth c D aC B lo hi nL Q σ pc lv (.ref (B + 100) :: st) :=
  v_get C (ci := 1) inX1 rfl (Nat.le_trans hlo (Nat.zero_le _)) (Nat.lt_of_lt_of_le (by decide) hhi) (rfl) 4 (by decide) hlink (fun _ h => h) rfl hdg kk
theorem gf1_raised (C : Cx p s m args meth c cc nL own ret D aC) (hlo : lo ≤ 0) (hhi : 304 ≤ hi) {idx : Nat} (hlink : Cond.fieldLink own idx "SplitTowers$Degrees" "raised" "LSplitTowers$Poly;" ∈ WS) (hdg : decode cc pc = .ok (.getfield idx, 3)) (kk : V p l e R s m args below meth c D aC B lo hi nL Q σ (pc + 3) lv (.ref (B + 118) :: st)) : V p l e R s m args below meth c D aC B lo hi nL Q σ pc lv (.ref (B + 100) :: st) :=
  v_get C (ci := 1) inX1 rfl (Nat.le_trans hlo (Nat.zero_le _)) (Nat.lt_of_lt_of_le (by decide) hhi) (rfl) 5 (by decide) hlink (fun _ h => h) rfl hdg kk
theorem gf1_difference (C : Cx p s m args meth c cc nL own ret D aC) (hlo : lo ≤ 0) (hhi : 304 ≤ hi) {idx : Nat} (hlink : Cond.fieldLink own idx "SplitTowers$Degrees" "difference" "LSplitTowers$Poly;" ∈ WS) (hdg : decode cc pc = .ok (.getfield idx, 3)) (kk : V p l e R s m args below meth c D aC B lo hi nL Q σ (pc + 3) lv (.ref (B + 120) :: st)) : V p l e R s m args below meth c D aC B lo hi nL Q σ pc lv (.ref (B + 100) :: st) :=
  v_get C (ci := 1) inX1 rfl (Nat.le_trans hlo (Nat.zero_le _)) (Nat.lt_of_lt_of_le (by decide) hhi) (rfl) 6 (by decide) hlink (fun _ h => h) rfl hdg kk
theorem gf1_variable (C : Cx p s m args meth c cc nL own ret D aC) (hlo : lo ≤ 0) (hhi : 304 ≤ hi) {idx : Nat} (hlink : Cond.fieldLink own idx "SplitTowers$Degrees" "variable" "LSplitTowers$Poly;" ∈ WS) (hdg : decode cc pc = .ok (.getfield idx, 3)) (kk : V p l e R s m args below meth c D aC B lo hi nL Q σ (pc + 3) lv (.ref (B + 122) :: st)) : V p l e R s m args below meth c D aC B lo hi nL Q σ pc lv (.ref (B + 100) :: st) :=
  v_get C (ci := 1) inX1 rfl (Nat.le_trans hlo (Nat.zero_le _)) (Nat.lt_of_lt_of_le (by decide) hhi) (rfl) 7 (by decide) hlink (fun _ h => h) rfl hdg kk
theorem gf2_state (C : Cx p s m args meth c cc nL own ret D aC) (hlo : lo ≤ 0) (hhi : 304 ≤ hi) {idx : Nat} (hlink : Cond.fieldLink own idx "SplitTowers$Field" "state" "LSplitTowers$State;" ∈ WS) (hdg : decode cc pc = .ok (.getfield idx, 3)) (kk : V p l e R s m args below meth c D aC B lo hi nL Q σ (pc + 3) lv (.ref (B + 1) :: st)) : V p l e R s m args below meth c D aC B lo hi nL Q σ pc lv (.ref (B + 33) :: st) :=
  v_get C (ci := 2) inX2 rfl (Nat.le_trans hlo (Nat.zero_le _)) (Nat.lt_of_lt_of_le (by decide) hhi) (rfl) 0 (by decide) hlink (fun _ h => h) rfl hdg kk
theorem gf2_product (C : Cx p s m args meth c cc nL own ret D aC) (hlo : lo ≤ 0) (hhi : 304 ≤ hi) {idx : Nat} (hlink : Cond.fieldLink own idx "SplitTowers$Field" "product" "LSplitTowers$Poly;" ∈ WS) (hdg : decode cc pc = .ok (.getfield idx, 3)) (kk : V p l e R s m args below meth c D aC B lo hi nL Q σ (pc + 3) lv (.ref (B + 34) :: st)) : V p l e R s m args below meth c D aC B lo hi nL Q σ pc lv (.ref (B + 33) :: st) :=
  v_get C (ci := 2) inX2 rfl (Nat.le_trans hlo (Nat.zero_le _)) (Nat.lt_of_lt_of_le (by decide) hhi) (rfl) 1 (by decide) hlink (fun _ h => h) rfl hdg kk
theorem gf2_quotient (C : Cx p s m args meth c cc nL own ret D aC) (hlo : lo ≤ 0) (hhi : 304 ≤ hi) {idx : Nat} (hlink : Cond.fieldLink own idx "SplitTowers$Field" "quotient" "LSplitTowers$Poly;" ∈ WS) (hdg : decode cc pc = .ok (.getfield idx, 3)) (kk : V p l e R s m args below meth c D aC B lo hi nL Q σ (pc + 3) lv (.ref (B + 36) :: st)) : V p l e R s m args below meth c D aC B lo hi nL Q σ pc lv (.ref (B + 33) :: st) :=
  v_get C (ci := 2) inX2 rfl (Nat.le_trans hlo (Nat.zero_le _)) (Nat.lt_of_lt_of_le (by decide) hhi) (rfl) 2 (by decide) hlink (fun _ h => h) rfl hdg kk
theorem gf2_dividend (C : Cx p s m args meth c cc nL own ret D aC) (hlo : lo ≤ 0) (hhi : 304 ≤ hi) {idx : Nat} (hlink : Cond.fieldLink own idx "SplitTowers$Field" "dividend" "LSplitTowers$Poly;" ∈ WS) (hdg : decode cc pc = .ok (.getfield idx, 3)) (kk : V p l e R s m args below meth c D aC B lo hi nL Q σ (pc + 3) lv (.ref (B + 38) :: st)) : V p l e R s m args below meth c D aC B lo hi nL Q σ pc lv (.ref (B + 33) :: st) :=
  v_get C (ci := 2) inX2 rfl (Nat.le_trans hlo (Nat.zero_le _)) (Nat.lt_of_lt_of_le (by decide) hhi) (rfl) 3 (by decide) hlink (fun _ h => h) rfl hdg kk
theorem gf2_left (C : Cx p s m args meth c cc nL own ret D aC) (hlo : lo ≤ 0) (hhi : 304 ≤ hi) {idx : Nat} (hlink : Cond.fieldLink own idx "SplitTowers$Field" "left" "LSplitTowers$Poly;" ∈ WS) (hdg : decode cc pc = .ok (.getfield idx, 3)) (kk : V p l e R s m args below meth c D aC B lo hi nL Q σ (pc + 3) lv (.ref (B + 40) :: st)) : V p l e R s m args below meth c D aC B lo hi nL Q σ pc lv (.ref (B + 33) :: st) :=
  v_get C (ci := 2) inX2 rfl (Nat.le_trans hlo (Nat.zero_le _)) (Nat.lt_of_lt_of_le (by decide) hhi) (rfl) 4 (by decide) hlink (fun _ h => h) rfl hdg kk
theorem gf2_right (C : Cx p s m args meth c cc nL own ret D aC) (hlo : lo ≤ 0) (hhi : 304 ≤ hi) {idx : Nat} (hlink : Cond.fieldLink own idx "SplitTowers$Field" "right" "LSplitTowers$Poly;" ∈ WS) (hdg : decode cc pc = .ok (.getfield idx, 3)) (kk : V p l e R s m args below meth c D aC B lo hi nL Q σ (pc + 3) lv (.ref (B + 42) :: st)) : V p l e R s m args below meth c D aC B lo hi nL Q σ pc lv (.ref (B + 33) :: st) :=
  v_get C (ci := 2) inX2 rfl (Nat.le_trans hlo (Nat.zero_le _)) (Nat.lt_of_lt_of_le (by decide) hhi) (rfl) 5 (by decide) hlink (fun _ h => h) rfl hdg kk
theorem gf2_leftFactor (C : Cx p s m args meth c cc nL own ret D aC) (hlo : lo ≤ 0) (hhi : 304 ≤ hi) {idx : Nat} (hlink : Cond.fieldLink own idx "SplitTowers$Field" "leftFactor" "LSplitTowers$Poly;" ∈ WS) (hdg : decode cc pc = .ok (.getfield idx, 3)) (kk : V p l e R s m args below meth c D aC B lo hi nL Q σ (pc + 3) lv (.ref (B + 44) :: st)) : V p l e R s m args below meth c D aC B lo hi nL Q σ pc lv (.ref (B + 33) :: st) :=
  v_get C (ci := 2) inX2 rfl (Nat.le_trans hlo (Nat.zero_le _)) (Nat.lt_of_lt_of_le (by decide) hhi) (rfl) 6 (by decide) hlink (fun _ h => h) rfl hdg kk
theorem gf2_rightFactor (C : Cx p s m args meth c cc nL own ret D aC) (hlo : lo ≤ 0) (hhi : 304 ≤ hi) {idx : Nat} (hlink : Cond.fieldLink own idx "SplitTowers$Field" "rightFactor" "LSplitTowers$Poly;" ∈ WS) (hdg : decode cc pc = .ok (.getfield idx, 3)) (kk : V p l e R s m args below meth c D aC B lo hi nL Q σ (pc + 3) lv (.ref (B + 46) :: st)) : V p l e R s m args below meth c D aC B lo hi nL Q σ pc lv (.ref (B + 33) :: st) :=
  v_get C (ci := 2) inX2 rfl (Nat.le_trans hlo (Nat.zero_le _)) (Nat.lt_of_lt_of_le (by decide) hhi) (rfl) 7 (by decide) hlink (fun _ h => h) rfl hdg kk
theorem gf3_states (C : Cx p s m args meth c cc nL own ret D aC) (hlo : lo ≤ 0) (hhi : 304 ≤ hi) {idx : Nat} (hlink : Cond.fieldLink own idx "SplitTowers$History" "states" "[LSplitTowers$State;" ∈ WS) (hdg : decode cc pc = .ok (.getfield idx, 3)) (kk : V p l e R s m args below meth c D aC B lo hi nL Q σ (pc + 3) lv (.ref (B + 185) :: st)) : V p l e R s m args below meth c D aC B lo hi nL Q σ pc lv (.ref (B + 184) :: st) :=
  v_get C (ci := 3) inX3 rfl (Nat.le_trans hlo (Nat.zero_le _)) (Nat.lt_of_lt_of_le (by decide) hhi) (rfl) 0 (by decide) hlink (fun _ h => h) rfl hdg kk
theorem gf3_next (C : Cx p s m args meth c cc nL own ret D aC) (hlo : lo ≤ 0) (hhi : 304 ≤ hi) {idx : Nat} (hlink : Cond.fieldLink own idx "SplitTowers$History" "next" "I" ∈ WS) (hdg : decode cc pc = .ok (.getfield idx, 3)) (kk : V p l e R s m args below meth c D aC B lo hi nL Q σ (pc + 3) lv (.int (iI (σ 184 1)) :: st)) : V p l e R s m args below meth c D aC B lo hi nL Q σ pc lv (.ref (B + 184) :: st) :=
  v_get C (ci := 3) inX3 rfl (Nat.le_trans hlo (Nat.zero_le _)) (Nat.lt_of_lt_of_le (by decide) hhi) (rfl) 1 (by decide) hlink (fun _ h => h) rfl hdg kk
theorem pf3_next (C : Cx p s m args meth c cc nL own ret D aC) (hlo : lo ≤ 0) (hhi : 304 ≤ hi) {x : Int} (hx : inR x) {idx : Nat} (hlink : Cond.fieldLink own idx "SplitTowers$History" "next" "I" ∈ WS) (hdg : decode cc pc = .ok (.putfield idx, 3)) (kk : V p l e R s m args below meth c D aC B lo hi nL Q (ug σ 184 1 x) (pc + 3) lv st) : V p l e R s m args below meth c D aC B lo hi nL Q σ pc lv (.int (iI x) :: .ref (B + 184) :: st) :=
  v_put C (ci := 3) inX3 tyX3 tyX3_ok nmX3 rfl (Nat.le_trans hlo (Nat.zero_le _)) (Nat.lt_of_lt_of_le (by decide) hhi) (rfl) 1 (by decide) hlink (fun _ h => h) rfl (by decide +kernel) (narrow_i _) (fits_i _) (Nat.le_of_ble_eq_true rfl) hx (rfl) hdg kk
theorem gf3_length (C : Cx p s m args meth c cc nL own ret D aC) (hlo : lo ≤ 0) (hhi : 304 ≤ hi) {idx : Nat} (hlink : Cond.fieldLink own idx "SplitTowers$History" "length" "I" ∈ WS) (hdg : decode cc pc = .ok (.getfield idx, 3)) (kk : V p l e R s m args below meth c D aC B lo hi nL Q σ (pc + 3) lv (.int (iI (σ 184 2)) :: st)) : V p l e R s m args below meth c D aC B lo hi nL Q σ pc lv (.ref (B + 184) :: st) :=
  v_get C (ci := 3) inX3 rfl (Nat.le_trans hlo (Nat.zero_le _)) (Nat.lt_of_lt_of_le (by decide) hhi) (rfl) 2 (by decide) hlink (fun _ h => h) rfl hdg kk
theorem pf3_length (C : Cx p s m args meth c cc nL own ret D aC) (hlo : lo ≤ 0) (hhi : 304 ≤ hi) {x : Int} (hx : inR x) {idx : Nat} (hlink : Cond.fieldLink own idx "SplitTowers$History" "length" "I" ∈ WS) (hdg : decode cc pc = .ok (.putfield idx, 3)) (kk : V p l e R s m args below meth c D aC B lo hi nL Q (ug σ 184 2 x) (pc + 3) lv st) : V p l e R s m args below meth c D aC B lo hi nL Q σ pc lv (.int (iI x) :: .ref (B + 184) :: st) :=
  v_put C (ci := 3) inX3 tyX3 tyX3_ok nmX3 rfl (Nat.le_trans hlo (Nat.zero_le _)) (Nat.lt_of_lt_of_le (by decide) hhi) (rfl) 2 (by decide) hlink (fun _ h => h) rfl (by decide +kernel) (narrow_i _) (fits_i _) (Nat.le_of_ble_eq_true rfl) hx (rfl) hdg kk
theorem gf4_coefficients (C : Cx p s m args meth c cc nL own ret D aC) {i : Nat} (pi : PO lo hi i) {idx : Nat} (hlink : Cond.fieldLink own idx "SplitTowers$Poly" "coefficients" "[I" ∈ WS) (hdg : decode cc pc = .ok (.getfield idx, 3)) (kk : V p l e R s m args below meth c D aC B lo hi nL Q σ (pc + 3) lv (.ref (B + (i + 1)) :: st)) : V p l e R s m args below meth c D aC B lo hi nL Q σ pc lv (.ref (B + i) :: st) :=
  v_get C (ci := 4) inX4 rfl (PO.lo pi) (PO.hi pi) (cel_of pi.1) 0 (by decide) hlink (fun _ h => h) rfl hdg kk
theorem gf4_degree (C : Cx p s m args meth c cc nL own ret D aC) {i : Nat} (pi : PO lo hi i) {idx : Nat} (hlink : Cond.fieldLink own idx "SplitTowers$Poly" "degree" "I" ∈ WS) (hdg : decode cc pc = .ok (.getfield idx, 3)) (kk : V p l e R s m args below meth c D aC B lo hi nL Q σ (pc + 3) lv (.int (iI (σ i 1)) :: st)) : V p l e R s m args below meth c D aC B lo hi nL Q σ pc lv (.ref (B + i) :: st) :=
  v_get C (ci := 4) inX4 rfl (PO.lo pi) (PO.hi pi) (cel_of pi.1) 1 (by decide) hlink (fun _ h => h) rfl hdg kk
theorem pf4_degree (C : Cx p s m args meth c cc nL own ret D aC) {i : Nat} (pi : PO lo hi i) {x : Int} (hx : inR x) {idx : Nat} (hlink : Cond.fieldLink own idx "SplitTowers$Poly" "degree" "I" ∈ WS) (hdg : decode cc pc = .ok (.putfield idx, 3)) (kk : V p l e R s m args below meth c D aC B lo hi nL Q (ug σ i 1 x) (pc + 3) lv st) : V p l e R s m args below meth c D aC B lo hi nL Q σ pc lv (.int (iI x) :: .ref (B + i) :: st) :=
  v_put C (ci := 4) inX4 tyX4 tyX4_ok nmX4 rfl (PO.lo pi) (PO.hi pi) (cel_of pi.1) 1 (by decide) hlink (fun _ h => h) rfl (by decide +kernel) (narrow_i _) (fits_i _) (Nat.le_of_ble_eq_true rfl) hx (cel_of pi.1) hdg kk
theorem gf5_state (C : Cx p s m args meth c cc nL own ret D aC) (hlo : lo ≤ 0) (hhi : 304 ≤ hi) {idx : Nat} (hlink : Cond.fieldLink own idx "SplitTowers$Reckoner" "state" "LSplitTowers$State;" ∈ WS) (hdg : decode cc pc = .ok (.getfield idx, 3)) (kk : V p l e R s m args below meth c D aC B lo hi nL Q σ (pc + 3) lv (.ref (B + 1) :: st)) : V p l e R s m args below meth c D aC B lo hi nL Q σ pc lv (.ref (B + 124) :: st) :=
  v_get C (ci := 5) inX5 rfl (Nat.le_trans hlo (Nat.zero_le _)) (Nat.lt_of_lt_of_le (by decide) hhi) (rfl) 0 (by decide) hlink (fun _ h => h) rfl hdg kk
theorem gf5_text (C : Cx p s m args meth c cc nL own ret D aC) (hlo : lo ≤ 0) (hhi : 304 ≤ hi) {idx : Nat} (hlink : Cond.fieldLink own idx "SplitTowers$Reckoner" "text" "LSplitTowers$Text;" ∈ WS) (hdg : decode cc pc = .ok (.getfield idx, 3)) (kk : V p l e R s m args below meth c D aC B lo hi nL Q σ (pc + 3) lv (.ref (B + 30) :: st)) : V p l e R s m args below meth c D aC B lo hi nL Q σ pc lv (.ref (B + 124) :: st) :=
  v_get C (ci := 5) inX5 rfl (Nat.le_trans hlo (Nat.zero_le _)) (Nat.lt_of_lt_of_le (by decide) hhi) (rfl) 1 (by decide) hlink (fun _ h => h) rfl hdg kk
theorem gf5_ring (C : Cx p s m args meth c cc nL own ret D aC) (hlo : lo ≤ 0) (hhi : 304 ≤ hi) {idx : Nat} (hlink : Cond.fieldLink own idx "SplitTowers$Reckoner" "ring" "LSplitTowers$Ring;" ∈ WS) (hdg : decode cc pc = .ok (.getfield idx, 3)) (kk : V p l e R s m args below meth c D aC B lo hi nL Q σ (pc + 3) lv (.ref (B + 48) :: st)) : V p l e R s m args below meth c D aC B lo hi nL Q σ pc lv (.ref (B + 124) :: st) :=
  v_get C (ci := 5) inX5 rfl (Nat.le_trans hlo (Nat.zero_le _)) (Nat.lt_of_lt_of_le (by decide) hhi) (rfl) 2 (by decide) hlink (fun _ h => h) rfl hdg kk
theorem gf5_branching (C : Cx p s m args meth c cc nL own ret D aC) (hlo : lo ≤ 0) (hhi : 304 ≤ hi) {idx : Nat} (hlink : Cond.fieldLink own idx "SplitTowers$Reckoner" "branching" "LSplitTowers$Branching;" ∈ WS) (hdg : decode cc pc = .ok (.getfield idx, 3)) (kk : V p l e R s m args below meth c D aC B lo hi nL Q σ (pc + 3) lv (.ref (B + 91) :: st)) : V p l e R s m args below meth c D aC B lo hi nL Q σ pc lv (.ref (B + 124) :: st) :=
  v_get C (ci := 5) inX5 rfl (Nat.le_trans hlo (Nat.zero_le _)) (Nat.lt_of_lt_of_le (by decide) hhi) (rfl) 3 (by decide) hlink (fun _ h => h) rfl hdg kk
theorem gf5_sums (C : Cx p s m args meth c cc nL own ret D aC) (hlo : lo ≤ 0) (hhi : 304 ≤ hi) {idx : Nat} (hlink : Cond.fieldLink own idx "SplitTowers$Reckoner" "sums" "[LSplitTowers$Poly;" ∈ WS) (hdg : decode cc pc = .ok (.getfield idx, 3)) (kk : V p l e R s m args below meth c D aC B lo hi nL Q σ (pc + 3) lv (.ref (B + 125) :: st)) : V p l e R s m args below meth c D aC B lo hi nL Q σ pc lv (.ref (B + 124) :: st) :=
  v_get C (ci := 5) inX5 rfl (Nat.le_trans hlo (Nat.zero_le _)) (Nat.lt_of_lt_of_le (by decide) hhi) (rfl) 4 (by decide) hlink (fun _ h => h) rfl hdg kk
theorem gf5_products (C : Cx p s m args meth c cc nL own ret D aC) (hlo : lo ≤ 0) (hhi : 304 ≤ hi) {idx : Nat} (hlink : Cond.fieldLink own idx "SplitTowers$Reckoner" "products" "[LSplitTowers$Poly;" ∈ WS) (hdg : decode cc pc = .ok (.getfield idx, 3)) (kk : V p l e R s m args below meth c D aC B lo hi nL Q σ (pc + 3) lv (.ref (B + 126) :: st)) : V p l e R s m args below meth c D aC B lo hi nL Q σ pc lv (.ref (B + 124) :: st) :=
  v_get C (ci := 5) inX5 rfl (Nat.le_trans hlo (Nat.zero_le _)) (Nat.lt_of_lt_of_le (by decide) hhi) (rfl) 5 (by decide) hlink (fun _ h => h) rfl hdg kk
theorem gf5_minus (C : Cx p s m args meth c cc nL own ret D aC) (hlo : lo ≤ 0) (hhi : 304 ≤ hi) {idx : Nat} (hlink : Cond.fieldLink own idx "SplitTowers$Reckoner" "minus" "[Z" ∈ WS) (hdg : decode cc pc = .ok (.getfield idx, 3)) (kk : V p l e R s m args below meth c D aC B lo hi nL Q σ (pc + 3) lv (.ref (B + 151) :: st)) : V p l e R s m args below meth c D aC B lo hi nL Q σ pc lv (.ref (B + 124) :: st) :=
  v_get C (ci := 5) inX5 rfl (Nat.le_trans hlo (Nat.zero_le _)) (Nat.lt_of_lt_of_le (by decide) hhi) (rfl) 6 (by decide) hlink (fun _ h => h) rfl hdg kk
theorem gf5_over (C : Cx p s m args meth c cc nL own ret D aC) (hlo : lo ≤ 0) (hhi : 304 ≤ hi) {idx : Nat} (hlink : Cond.fieldLink own idx "SplitTowers$Reckoner" "over" "[Z" ∈ WS) (hdg : decode cc pc = .ok (.getfield idx, 3)) (kk : V p l e R s m args below meth c D aC B lo hi nL Q σ (pc + 3) lv (.ref (B + 152) :: st)) : V p l e R s m args below meth c D aC B lo hi nL Q σ pc lv (.ref (B + 124) :: st) :=
  v_get C (ci := 5) inX5 rfl (Nat.le_trans hlo (Nat.zero_le _)) (Nat.lt_of_lt_of_le (by decide) hhi) (rfl) 7 (by decide) hlink (fun _ h => h) rfl hdg kk
theorem gf5_factor (C : Cx p s m args meth c cc nL own ret D aC) (hlo : lo ≤ 0) (hhi : 304 ≤ hi) {idx : Nat} (hlink : Cond.fieldLink own idx "SplitTowers$Reckoner" "factor" "LSplitTowers$Poly;" ∈ WS) (hdg : decode cc pc = .ok (.getfield idx, 3)) (kk : V p l e R s m args below meth c D aC B lo hi nL Q σ (pc + 3) lv (.ref (B + 153) :: st)) : V p l e R s m args below meth c D aC B lo hi nL Q σ pc lv (.ref (B + 124) :: st) :=
  v_get C (ci := 5) inX5 rfl (Nat.le_trans hlo (Nat.zero_le _)) (Nat.lt_of_lt_of_le (by decide) hhi) (rfl) 8 (by decide) hlink (fun _ h => h) rfl hdg kk
theorem gf5_level (C : Cx p s m args meth c cc nL own ret D aC) (hlo : lo ≤ 0) (hhi : 304 ≤ hi) {idx : Nat} (hlink : Cond.fieldLink own idx "SplitTowers$Reckoner" "level" "I" ∈ WS) (hdg : decode cc pc = .ok (.getfield idx, 3)) (kk : V p l e R s m args below meth c D aC B lo hi nL Q σ (pc + 3) lv (.int (iI (σ 124 9)) :: st)) : V p l e R s m args below meth c D aC B lo hi nL Q σ pc lv (.ref (B + 124) :: st) :=
  v_get C (ci := 5) inX5 rfl (Nat.le_trans hlo (Nat.zero_le _)) (Nat.lt_of_lt_of_le (by decide) hhi) (rfl) 9 (by decide) hlink (fun _ h => h) rfl hdg kk
theorem pf5_level (C : Cx p s m args meth c cc nL own ret D aC) (hlo : lo ≤ 0) (hhi : 304 ≤ hi) {x : Int} (hx : inR x) {idx : Nat} (hlink : Cond.fieldLink own idx "SplitTowers$Reckoner" "level" "I" ∈ WS) (hdg : decode cc pc = .ok (.putfield idx, 3)) (kk : V p l e R s m args below meth c D aC B lo hi nL Q (ug σ 124 9 x) (pc + 3) lv st) : V p l e R s m args below meth c D aC B lo hi nL Q σ pc lv (.int (iI x) :: .ref (B + 124) :: st) :=
  v_put C (ci := 5) inX5 tyX5 tyX5_ok nmX5 rfl (Nat.le_trans hlo (Nat.zero_le _)) (Nat.lt_of_lt_of_le (by decide) hhi) (rfl) 9 (by decide) hlink (fun _ h => h) rfl (by decide +kernel) (narrow_i _) (fits_i _) (Nat.le_of_ble_eq_true rfl) hx (rfl) hdg kk
theorem gf6_state (C : Cx p s m args meth c cc nL own ret D aC) (hlo : lo ≤ 0) (hhi : 304 ≤ hi) {idx : Nat} (hlink : Cond.fieldLink own idx "SplitTowers$Ring" "state" "LSplitTowers$State;" ∈ WS) (hdg : decode cc pc = .ok (.getfield idx, 3)) (kk : V p l e R s m args below meth c D aC B lo hi nL Q σ (pc + 3) lv (.ref (B + 1) :: st)) : V p l e R s m args below meth c D aC B lo hi nL Q σ pc lv (.ref (B + 48) :: st) :=
  v_get C (ci := 6) inX6 rfl (Nat.le_trans hlo (Nat.zero_le _)) (Nat.lt_of_lt_of_le (by decide) hhi) (rfl) 0 (by decide) hlink (fun _ h => h) rfl hdg kk
theorem gf6_field (C : Cx p s m args meth c cc nL own ret D aC) (hlo : lo ≤ 0) (hhi : 304 ≤ hi) {idx : Nat} (hlink : Cond.fieldLink own idx "SplitTowers$Ring" "field" "LSplitTowers$Field;" ∈ WS) (hdg : decode cc pc = .ok (.getfield idx, 3)) (kk : V p l e R s m args below meth c D aC B lo hi nL Q σ (pc + 3) lv (.ref (B + 33) :: st)) : V p l e R s m args below meth c D aC B lo hi nL Q σ pc lv (.ref (B + 48) :: st) :=
  v_get C (ci := 6) inX6 rfl (Nat.le_trans hlo (Nat.zero_le _)) (Nat.lt_of_lt_of_le (by decide) hhi) (rfl) 1 (by decide) hlink (fun _ h => h) rfl hdg kk
theorem gf6_quotient (C : Cx p s m args meth c cc nL own ret D aC) (hlo : lo ≤ 0) (hhi : 304 ≤ hi) {idx : Nat} (hlink : Cond.fieldLink own idx "SplitTowers$Ring" "quotient" "LSplitTowers$Poly;" ∈ WS) (hdg : decode cc pc = .ok (.getfield idx, 3)) (kk : V p l e R s m args below meth c D aC B lo hi nL Q σ (pc + 3) lv (.ref (B + 49) :: st)) : V p l e R s m args below meth c D aC B lo hi nL Q σ pc lv (.ref (B + 48) :: st) :=
  v_get C (ci := 6) inX6 rfl (Nat.le_trans hlo (Nat.zero_le _)) (Nat.lt_of_lt_of_le (by decide) hhi) (rfl) 2 (by decide) hlink (fun _ h => h) rfl hdg kk
theorem gf6_square (C : Cx p s m args meth c cc nL own ret D aC) (hlo : lo ≤ 0) (hhi : 304 ≤ hi) {idx : Nat} (hlink : Cond.fieldLink own idx "SplitTowers$Ring" "square" "LSplitTowers$Poly;" ∈ WS) (hdg : decode cc pc = .ok (.getfield idx, 3)) (kk : V p l e R s m args below meth c D aC B lo hi nL Q σ (pc + 3) lv (.ref (B + 51) :: st)) : V p l e R s m args below meth c D aC B lo hi nL Q σ pc lv (.ref (B + 48) :: st) :=
  v_get C (ci := 6) inX6 rfl (Nat.le_trans hlo (Nat.zero_le _)) (Nat.lt_of_lt_of_le (by decide) hhi) (rfl) 3 (by decide) hlink (fun _ h => h) rfl hdg kk
theorem gf6_common (C : Cx p s m args meth c cc nL own ret D aC) (hlo : lo ≤ 0) (hhi : 304 ≤ hi) {idx : Nat} (hlink : Cond.fieldLink own idx "SplitTowers$Ring" "common" "LSplitTowers$Poly;" ∈ WS) (hdg : decode cc pc = .ok (.getfield idx, 3)) (kk : V p l e R s m args below meth c D aC B lo hi nL Q σ (pc + 3) lv (.ref (B + 53) :: st)) : V p l e R s m args below meth c D aC B lo hi nL Q σ pc lv (.ref (B + 48) :: st) :=
  v_get C (ci := 6) inX6 rfl (Nat.le_trans hlo (Nat.zero_le _)) (Nat.lt_of_lt_of_le (by decide) hhi) (rfl) 4 (by decide) hlink (fun _ h => h) rfl hdg kk
theorem gf6_cofactor (C : Cx p s m args meth c cc nL own ret D aC) (hlo : lo ≤ 0) (hhi : 304 ≤ hi) {idx : Nat} (hlink : Cond.fieldLink own idx "SplitTowers$Ring" "cofactor" "LSplitTowers$Poly;" ∈ WS) (hdg : decode cc pc = .ok (.getfield idx, 3)) (kk : V p l e R s m args below meth c D aC B lo hi nL Q σ (pc + 3) lv (.ref (B + 55) :: st)) : V p l e R s m args below meth c D aC B lo hi nL Q σ pc lv (.ref (B + 48) :: st) :=
  v_get C (ci := 6) inX6 rfl (Nat.le_trans hlo (Nat.zero_le _)) (Nat.lt_of_lt_of_le (by decide) hhi) (rfl) 5 (by decide) hlink (fun _ h => h) rfl hdg kk
theorem gf6_inverse (C : Cx p s m args meth c cc nL own ret D aC) (hlo : lo ≤ 0) (hhi : 304 ≤ hi) {idx : Nat} (hlink : Cond.fieldLink own idx "SplitTowers$Ring" "inverse" "LSplitTowers$Poly;" ∈ WS) (hdg : decode cc pc = .ok (.getfield idx, 3)) (kk : V p l e R s m args below meth c D aC B lo hi nL Q σ (pc + 3) lv (.ref (B + 57) :: st)) : V p l e R s m args below meth c D aC B lo hi nL Q σ pc lv (.ref (B + 48) :: st) :=
  v_get C (ci := 6) inX6 rfl (Nat.le_trans hlo (Nat.zero_le _)) (Nat.lt_of_lt_of_le (by decide) hhi) (rfl) 6 (by decide) hlink (fun _ h => h) rfl hdg kk
theorem gf6_work (C : Cx p s m args meth c cc nL own ret D aC) (hlo : lo ≤ 0) (hhi : 304 ≤ hi) {idx : Nat} (hlink : Cond.fieldLink own idx "SplitTowers$Ring" "work" "LSplitTowers$Poly;" ∈ WS) (hdg : decode cc pc = .ok (.getfield idx, 3)) (kk : V p l e R s m args below meth c D aC B lo hi nL Q σ (pc + 3) lv (.ref (B + 59) :: st)) : V p l e R s m args below meth c D aC B lo hi nL Q σ pc lv (.ref (B + 48) :: st) :=
  v_get C (ci := 6) inX6 rfl (Nat.le_trans hlo (Nat.zero_le _)) (Nat.lt_of_lt_of_le (by decide) hhi) (rfl) 7 (by decide) hlink (fun _ h => h) rfl hdg kk
theorem gf6_vector (C : Cx p s m args meth c cc nL own ret D aC) (hlo : lo ≤ 0) (hhi : 304 ≤ hi) {idx : Nat} (hlink : Cond.fieldLink own idx "SplitTowers$Ring" "vector" "LSplitTowers$Poly;" ∈ WS) (hdg : decode cc pc = .ok (.getfield idx, 3)) (kk : V p l e R s m args below meth c D aC B lo hi nL Q σ (pc + 3) lv (.ref (B + 61) :: st)) : V p l e R s m args below meth c D aC B lo hi nL Q σ pc lv (.ref (B + 48) :: st) :=
  v_get C (ci := 6) inX6 rfl (Nat.le_trans hlo (Nat.zero_le _)) (Nat.lt_of_lt_of_le (by decide) hhi) (rfl) 8 (by decide) hlink (fun _ h => h) rfl hdg kk
theorem gf6_relation (C : Cx p s m args meth c cc nL own ret D aC) (hlo : lo ≤ 0) (hhi : 304 ≤ hi) {idx : Nat} (hlink : Cond.fieldLink own idx "SplitTowers$Ring" "relation" "LSplitTowers$Poly;" ∈ WS) (hdg : decode cc pc = .ok (.getfield idx, 3)) (kk : V p l e R s m args below meth c D aC B lo hi nL Q σ (pc + 3) lv (.ref (B + 63) :: st)) : V p l e R s m args below meth c D aC B lo hi nL Q σ pc lv (.ref (B + 48) :: st) :=
  v_get C (ci := 6) inX6 rfl (Nat.le_trans hlo (Nat.zero_le _)) (Nat.lt_of_lt_of_le (by decide) hhi) (rfl) 9 (by decide) hlink (fun _ h => h) rfl hdg kk
theorem gf6_rows (C : Cx p s m args meth c cc nL own ret D aC) (hlo : lo ≤ 0) (hhi : 304 ≤ hi) {idx : Nat} (hlink : Cond.fieldLink own idx "SplitTowers$Ring" "rows" "[LSplitTowers$Poly;" ∈ WS) (hdg : decode cc pc = .ok (.getfield idx, 3)) (kk : V p l e R s m args below meth c D aC B lo hi nL Q σ (pc + 3) lv (.ref (B + 65) :: st)) : V p l e R s m args below meth c D aC B lo hi nL Q σ pc lv (.ref (B + 48) :: st) :=
  v_get C (ci := 6) inX6 rfl (Nat.le_trans hlo (Nat.zero_le _)) (Nat.lt_of_lt_of_le (by decide) hhi) (rfl) 10 (by decide) hlink (fun _ h => h) rfl hdg kk
theorem gf6_relations (C : Cx p s m args meth c cc nL own ret D aC) (hlo : lo ≤ 0) (hhi : 304 ≤ hi) {idx : Nat} (hlink : Cond.fieldLink own idx "SplitTowers$Ring" "relations" "[LSplitTowers$Poly;" ∈ WS) (hdg : decode cc pc = .ok (.getfield idx, 3)) (kk : V p l e R s m args below meth c D aC B lo hi nL Q σ (pc + 3) lv (.ref (B + 66) :: st)) : V p l e R s m args below meth c D aC B lo hi nL Q σ pc lv (.ref (B + 48) :: st) :=
  v_get C (ci := 6) inX6 rfl (Nat.le_trans hlo (Nat.zero_le _)) (Nat.lt_of_lt_of_le (by decide) hhi) (rfl) 11 (by decide) hlink (fun _ h => h) rfl hdg kk
theorem gf7_prime (C : Cx p s m args meth c cc nL own ret D aC) {i : Nat} (pi : SO lo hi i) {idx : Nat} (hlink : Cond.fieldLink own idx "SplitTowers$State" "prime" "I" ∈ WS) (hdg : decode cc pc = .ok (.getfield idx, 3)) (kk : V p l e R s m args below meth c D aC B lo hi nL Q σ (pc + 3) lv (.int (iI (σ i 0)) :: st)) : V p l e R s m args below meth c D aC B lo hi nL Q σ pc lv (.ref (B + i) :: st) :=
  v_get C (ci := 7) inX7 rfl (SO.lo pi) (SO.hi pi) (cel_of pi.1) 0 (by decide) hlink (fun _ h => h) rfl hdg kk
theorem pf7_prime (C : Cx p s m args meth c cc nL own ret D aC) {i : Nat} (pi : SO lo hi i) {x : Int} (hx : inR x) {idx : Nat} (hlink : Cond.fieldLink own idx "SplitTowers$State" "prime" "I" ∈ WS) (hdg : decode cc pc = .ok (.putfield idx, 3)) (kk : V p l e R s m args below meth c D aC B lo hi nL Q (ug σ i 0 x) (pc + 3) lv st) : V p l e R s m args below meth c D aC B lo hi nL Q σ pc lv (.int (iI x) :: .ref (B + i) :: st) :=
  v_put C (ci := 7) inX7 tyX7 tyX7_ok nmX7 rfl (SO.lo pi) (SO.hi pi) (cel_of pi.1) 0 (by decide) hlink (fun _ h => h) rfl (by decide +kernel) (narrow_i _) (fits_i _) (Nat.le_of_ble_eq_true rfl) hx (cel_of pi.1) hdg kk
theorem gf7_modulus (C : Cx p s m args meth c cc nL own ret D aC) {i : Nat} (pi : SO lo hi i) {idx : Nat} (hlink : Cond.fieldLink own idx "SplitTowers$State" "modulus" "LSplitTowers$Poly;" ∈ WS) (hdg : decode cc pc = .ok (.getfield idx, 3)) (kk : V p l e R s m args below meth c D aC B lo hi nL Q σ (pc + 3) lv (.ref (B + (i + 1)) :: st)) : V p l e R s m args below meth c D aC B lo hi nL Q σ pc lv (.ref (B + i) :: st) :=
  v_get C (ci := 7) inX7 rfl (SO.lo pi) (SO.hi pi) (cel_of pi.1) 1 (by decide) hlink (fun _ h => h) rfl hdg kk
theorem gf7_registers (C : Cx p s m args meth c cc nL own ret D aC) {i : Nat} (pi : SO lo hi i) {idx : Nat} (hlink : Cond.fieldLink own idx "SplitTowers$State" "registers" "[LSplitTowers$Poly;" ∈ WS) (hdg : decode cc pc = .ok (.getfield idx, 3)) (kk : V p l e R s m args below meth c D aC B lo hi nL Q σ (pc + 3) lv (.ref (B + (i + 3)) :: st)) : V p l e R s m args below meth c D aC B lo hi nL Q σ pc lv (.ref (B + i) :: st) :=
  v_get C (ci := 7) inX7 rfl (SO.lo pi) (SO.hi pi) (cel_of pi.1) 2 (by decide) hlink (fun _ h => h) rfl hdg kk
theorem gf7_branches (C : Cx p s m args meth c cc nL own ret D aC) {i : Nat} (pi : SO lo hi i) {idx : Nat} (hlink : Cond.fieldLink own idx "SplitTowers$State" "branches" "[LSplitTowers$Poly;" ∈ WS) (hdg : decode cc pc = .ok (.getfield idx, 3)) (kk : V p l e R s m args below meth c D aC B lo hi nL Q σ (pc + 3) lv (.ref (B + (i + 16)) :: st)) : V p l e R s m args below meth c D aC B lo hi nL Q σ pc lv (.ref (B + i) :: st) :=
  v_get C (ci := 7) inX7 rfl (SO.lo pi) (SO.hi pi) (cel_of pi.1) 3 (by decide) hlink (fun _ h => h) rfl hdg kk
theorem gf7_branchCount (C : Cx p s m args meth c cc nL own ret D aC) {i : Nat} (pi : SO lo hi i) {idx : Nat} (hlink : Cond.fieldLink own idx "SplitTowers$State" "branchCount" "I" ∈ WS) (hdg : decode cc pc = .ok (.getfield idx, 3)) (kk : V p l e R s m args below meth c D aC B lo hi nL Q σ (pc + 3) lv (.int (iI (σ i 4)) :: st)) : V p l e R s m args below meth c D aC B lo hi nL Q σ pc lv (.ref (B + i) :: st) :=
  v_get C (ci := 7) inX7 rfl (SO.lo pi) (SO.hi pi) (cel_of pi.1) 4 (by decide) hlink (fun _ h => h) rfl hdg kk
theorem pf7_branchCount (C : Cx p s m args meth c cc nL own ret D aC) {i : Nat} (pi : SO lo hi i) {x : Int} (hx : inR x) {idx : Nat} (hlink : Cond.fieldLink own idx "SplitTowers$State" "branchCount" "I" ∈ WS) (hdg : decode cc pc = .ok (.putfield idx, 3)) (kk : V p l e R s m args below meth c D aC B lo hi nL Q (ug σ i 4 x) (pc + 3) lv st) : V p l e R s m args below meth c D aC B lo hi nL Q σ pc lv (.int (iI x) :: .ref (B + i) :: st) :=
  v_put C (ci := 7) inX7 tyX7 tyX7_ok nmX7 rfl (SO.lo pi) (SO.hi pi) (cel_of pi.1) 4 (by decide) hlink (fun _ h => h) rfl (by decide +kernel) (narrow_i _) (fits_i _) (Nat.le_of_ble_eq_true rfl) hx (cel_of pi.1) hdg kk
theorem gf8_characters (C : Cx p s m args meth c cc nL own ret D aC) (hlo : lo ≤ 0) (hhi : 304 ≤ hi) {idx : Nat} (hlink : Cond.fieldLink own idx "SplitTowers$Text" "characters" "[I" ∈ WS) (hdg : decode cc pc = .ok (.getfield idx, 3)) (kk : V p l e R s m args below meth c D aC B lo hi nL Q σ (pc + 3) lv (.ref (B + 31) :: st)) : V p l e R s m args below meth c D aC B lo hi nL Q σ pc lv (.ref (B + 30) :: st) :=
  v_get C (ci := 8) inX8 rfl (Nat.le_trans hlo (Nat.zero_le _)) (Nat.lt_of_lt_of_le (by decide) hhi) (rfl) 0 (by decide) hlink (fun _ h => h) rfl hdg kk
theorem gf8_length (C : Cx p s m args meth c cc nL own ret D aC) (hlo : lo ≤ 0) (hhi : 304 ≤ hi) {idx : Nat} (hlink : Cond.fieldLink own idx "SplitTowers$Text" "length" "I" ∈ WS) (hdg : decode cc pc = .ok (.getfield idx, 3)) (kk : V p l e R s m args below meth c D aC B lo hi nL Q σ (pc + 3) lv (.int (iI (σ 30 1)) :: st)) : V p l e R s m args below meth c D aC B lo hi nL Q σ pc lv (.ref (B + 30) :: st) :=
  v_get C (ci := 8) inX8 rfl (Nat.le_trans hlo (Nat.zero_le _)) (Nat.lt_of_lt_of_le (by decide) hhi) (rfl) 1 (by decide) hlink (fun _ h => h) rfl hdg kk
theorem pf8_length (C : Cx p s m args meth c cc nL own ret D aC) (hlo : lo ≤ 0) (hhi : 304 ≤ hi) {x : Int} (hx : inR x) {idx : Nat} (hlink : Cond.fieldLink own idx "SplitTowers$Text" "length" "I" ∈ WS) (hdg : decode cc pc = .ok (.putfield idx, 3)) (kk : V p l e R s m args below meth c D aC B lo hi nL Q (ug σ 30 1 x) (pc + 3) lv st) : V p l e R s m args below meth c D aC B lo hi nL Q σ pc lv (.int (iI x) :: .ref (B + 30) :: st) :=
  v_put C (ci := 8) inX8 tyX8 tyX8_ok nmX8 rfl (Nat.le_trans hlo (Nat.zero_le _)) (Nat.lt_of_lt_of_le (by decide) hhi) (rfl) 1 (by decide) hlink (fun _ h => h) rfl (by decide +kernel) (narrow_i _) (fits_i _) (Nat.le_of_ble_eq_true rfl) hx (rfl) hdg kk
theorem gf8_told (C : Cx p s m args meth c cc nL own ret D aC) (hlo : lo ≤ 0) (hhi : 304 ≤ hi) {idx : Nat} (hlink : Cond.fieldLink own idx "SplitTowers$Text" "told" "[I" ∈ WS) (hdg : decode cc pc = .ok (.getfield idx, 3)) (kk : V p l e R s m args below meth c D aC B lo hi nL Q σ (pc + 3) lv (.ref (B + 32) :: st)) : V p l e R s m args below meth c D aC B lo hi nL Q σ pc lv (.ref (B + 30) :: st) :=
  v_get C (ci := 8) inX8 rfl (Nat.le_trans hlo (Nat.zero_le _)) (Nat.lt_of_lt_of_le (by decide) hhi) (rfl) 2 (by decide) hlink (fun _ h => h) rfl hdg kk
theorem gf8_toldCount (C : Cx p s m args meth c cc nL own ret D aC) (hlo : lo ≤ 0) (hhi : 304 ≤ hi) {idx : Nat} (hlink : Cond.fieldLink own idx "SplitTowers$Text" "toldCount" "I" ∈ WS) (hdg : decode cc pc = .ok (.getfield idx, 3)) (kk : V p l e R s m args below meth c D aC B lo hi nL Q σ (pc + 3) lv (.int (iI (σ 30 3)) :: st)) : V p l e R s m args below meth c D aC B lo hi nL Q σ pc lv (.ref (B + 30) :: st) :=
  v_get C (ci := 8) inX8 rfl (Nat.le_trans hlo (Nat.zero_le _)) (Nat.lt_of_lt_of_le (by decide) hhi) (rfl) 3 (by decide) hlink (fun _ h => h) rfl hdg kk
theorem pf8_toldCount (C : Cx p s m args meth c cc nL own ret D aC) (hlo : lo ≤ 0) (hhi : 304 ≤ hi) {x : Int} (hx : inR x) {idx : Nat} (hlink : Cond.fieldLink own idx "SplitTowers$Text" "toldCount" "I" ∈ WS) (hdg : decode cc pc = .ok (.putfield idx, 3)) (kk : V p l e R s m args below meth c D aC B lo hi nL Q (ug σ 30 3 x) (pc + 3) lv st) : V p l e R s m args below meth c D aC B lo hi nL Q σ pc lv (.int (iI x) :: .ref (B + 30) :: st) :=
  v_put C (ci := 8) inX8 tyX8 tyX8_ok nmX8 rfl (Nat.le_trans hlo (Nat.zero_le _)) (Nat.lt_of_lt_of_le (by decide) hhi) (rfl) 3 (by decide) hlink (fun _ h => h) rfl (by decide +kernel) (narrow_i _) (fits_i _) (Nat.le_of_ble_eq_true rfl) hx (rfl) hdg kk
theorem gf9_now (C : Cx p s m args meth c cc nL own ret D aC) (hlo : lo ≤ 0) (hhi : 304 ≤ hi) {idx : Nat} (hlink : Cond.fieldLink own idx "SplitTowers" "now" "LSplitTowers$State;" ∈ WS) (hdg : decode cc pc = .ok (.getfield idx, 3)) (kk : V p l e R s m args below meth c D aC B lo hi nL Q σ (pc + 3) lv (.ref (B + 1) :: st)) : V p l e R s m args below meth c D aC B lo hi nL Q σ pc lv (.ref (B + 0) :: st) :=
  v_get C (ci := 9) inX9 rfl (Nat.le_trans hlo (Nat.zero_le _)) (Nat.lt_of_lt_of_le (by decide) hhi) (rfl) 0 (by decide) hlink (fun _ h => h) rfl hdg kk
theorem gf9_snapshot (C : Cx p s m args meth c cc nL own ret D aC) (hlo : lo ≤ 0) (hhi : 304 ≤ hi) {idx : Nat} (hlink : Cond.fieldLink own idx "SplitTowers" "snapshot" "LSplitTowers$State;" ∈ WS) (hdg : decode cc pc = .ok (.getfield idx, 3)) (kk : V p l e R s m args below meth c D aC B lo hi nL Q σ (pc + 3) lv (.ref (B + 155) :: st)) : V p l e R s m args below meth c D aC B lo hi nL Q σ pc lv (.ref (B + 0) :: st) :=
  v_get C (ci := 9) inX9 rfl (Nat.le_trans hlo (Nat.zero_le _)) (Nat.lt_of_lt_of_le (by decide) hhi) (rfl) 1 (by decide) hlink (fun _ h => h) rfl hdg kk
theorem gf9_kept (C : Cx p s m args meth c cc nL own ret D aC) (hlo : lo ≤ 0) (hhi : 304 ≤ hi) {idx : Nat} (hlink : Cond.fieldLink own idx "SplitTowers" "kept" "Z" ∈ WS) (hdg : decode cc pc = .ok (.getfield idx, 3)) (kk : V p l e R s m args below meth c D aC B lo hi nL Q σ (pc + 3) lv (.int (iI (σ 0 2)) :: st)) : V p l e R s m args below meth c D aC B lo hi nL Q σ pc lv (.ref (B + 0) :: st) :=
  v_get C (ci := 9) inX9 rfl (Nat.le_trans hlo (Nat.zero_le _)) (Nat.lt_of_lt_of_le (by decide) hhi) (rfl) 2 (by decide) hlink (fun _ h => h) rfl hdg kk
theorem pf9_kept (C : Cx p s m args meth c cc nL own ret D aC) (hlo : lo ≤ 0) (hhi : 304 ≤ hi) {x : Int} (hx : inR x) (hz : x = 0 ∨ x = 1) {idx : Nat} (hlink : Cond.fieldLink own idx "SplitTowers" "kept" "Z" ∈ WS) (hdg : decode cc pc = .ok (.putfield idx, 3)) (kk : V p l e R s m args below meth c D aC B lo hi nL Q (ug σ 0 2 x) (pc + 3) lv st) : V p l e R s m args below meth c D aC B lo hi nL Q σ pc lv (.int (iI x) :: .ref (B + 0) :: st) :=
  v_put C (ci := 9) inX9 tyX9 tyX9_ok nmX9 rfl (Nat.le_trans hlo (Nat.zero_le _)) (Nat.lt_of_lt_of_le (by decide) hhi) (rfl) 2 (by decide) hlink (fun _ h => h) rfl (by decide +kernel) (narrow_z hz) (fits_z hz) (Nat.le_of_ble_eq_true rfl) hx (rfl) hdg kk
theorem gf9_history (C : Cx p s m args meth c cc nL own ret D aC) (hlo : lo ≤ 0) (hhi : 304 ≤ hi) {idx : Nat} (hlink : Cond.fieldLink own idx "SplitTowers" "history" "LSplitTowers$History;" ∈ WS) (hdg : decode cc pc = .ok (.getfield idx, 3)) (kk : V p l e R s m args below meth c D aC B lo hi nL Q σ (pc + 3) lv (.ref (B + 184) :: st)) : V p l e R s m args below meth c D aC B lo hi nL Q σ pc lv (.ref (B + 0) :: st) :=
  v_get C (ci := 9) inX9 rfl (Nat.le_trans hlo (Nat.zero_le _)) (Nat.lt_of_lt_of_le (by decide) hhi) (rfl) 3 (by decide) hlink (fun _ h => h) rfl hdg kk
theorem gf9_text (C : Cx p s m args meth c cc nL own ret D aC) (hlo : lo ≤ 0) (hhi : 304 ≤ hi) {idx : Nat} (hlink : Cond.fieldLink own idx "SplitTowers" "text" "LSplitTowers$Text;" ∈ WS) (hdg : decode cc pc = .ok (.getfield idx, 3)) (kk : V p l e R s m args below meth c D aC B lo hi nL Q σ (pc + 3) lv (.ref (B + 30) :: st)) : V p l e R s m args below meth c D aC B lo hi nL Q σ pc lv (.ref (B + 0) :: st) :=
  v_get C (ci := 9) inX9 rfl (Nat.le_trans hlo (Nat.zero_le _)) (Nat.lt_of_lt_of_le (by decide) hhi) (rfl) 4 (by decide) hlink (fun _ h => h) rfl hdg kk
theorem gf9_field (C : Cx p s m args meth c cc nL own ret D aC) (hlo : lo ≤ 0) (hhi : 304 ≤ hi) {idx : Nat} (hlink : Cond.fieldLink own idx "SplitTowers" "field" "LSplitTowers$Field;" ∈ WS) (hdg : decode cc pc = .ok (.getfield idx, 3)) (kk : V p l e R s m args below meth c D aC B lo hi nL Q σ (pc + 3) lv (.ref (B + 33) :: st)) : V p l e R s m args below meth c D aC B lo hi nL Q σ pc lv (.ref (B + 0) :: st) :=
  v_get C (ci := 9) inX9 rfl (Nat.le_trans hlo (Nat.zero_le _)) (Nat.lt_of_lt_of_le (by decide) hhi) (rfl) 5 (by decide) hlink (fun _ h => h) rfl hdg kk
theorem gf9_ring (C : Cx p s m args meth c cc nL own ret D aC) (hlo : lo ≤ 0) (hhi : 304 ≤ hi) {idx : Nat} (hlink : Cond.fieldLink own idx "SplitTowers" "ring" "LSplitTowers$Ring;" ∈ WS) (hdg : decode cc pc = .ok (.getfield idx, 3)) (kk : V p l e R s m args below meth c D aC B lo hi nL Q σ (pc + 3) lv (.ref (B + 48) :: st)) : V p l e R s m args below meth c D aC B lo hi nL Q σ pc lv (.ref (B + 0) :: st) :=
  v_get C (ci := 9) inX9 rfl (Nat.le_trans hlo (Nat.zero_le _)) (Nat.lt_of_lt_of_le (by decide) hhi) (rfl) 6 (by decide) hlink (fun _ h => h) rfl hdg kk
theorem gf9_degrees (C : Cx p s m args meth c cc nL own ret D aC) (hlo : lo ≤ 0) (hhi : 304 ≤ hi) {idx : Nat} (hlink : Cond.fieldLink own idx "SplitTowers" "degrees" "LSplitTowers$Degrees;" ∈ WS) (hdg : decode cc pc = .ok (.getfield idx, 3)) (kk : V p l e R s m args below meth c D aC B lo hi nL Q σ (pc + 3) lv (.ref (B + 100) :: st)) : V p l e R s m args below meth c D aC B lo hi nL Q σ pc lv (.ref (B + 0) :: st) :=
  v_get C (ci := 9) inX9 rfl (Nat.le_trans hlo (Nat.zero_le _)) (Nat.lt_of_lt_of_le (by decide) hhi) (rfl) 7 (by decide) hlink (fun _ h => h) rfl hdg kk
theorem gf9_branching (C : Cx p s m args meth c cc nL own ret D aC) (hlo : lo ≤ 0) (hhi : 304 ≤ hi) {idx : Nat} (hlink : Cond.fieldLink own idx "SplitTowers" "branching" "LSplitTowers$Branching;" ∈ WS) (hdg : decode cc pc = .ok (.getfield idx, 3)) (kk : V p l e R s m args below meth c D aC B lo hi nL Q σ (pc + 3) lv (.ref (B + 91) :: st)) : V p l e R s m args below meth c D aC B lo hi nL Q σ pc lv (.ref (B + 0) :: st) :=
  v_get C (ci := 9) inX9 rfl (Nat.le_trans hlo (Nat.zero_le _)) (Nat.lt_of_lt_of_le (by decide) hhi) (rfl) 8 (by decide) hlink (fun _ h => h) rfl hdg kk
theorem gf9_reckoner (C : Cx p s m args meth c cc nL own ret D aC) (hlo : lo ≤ 0) (hhi : 304 ≤ hi) {idx : Nat} (hlink : Cond.fieldLink own idx "SplitTowers" "reckoner" "LSplitTowers$Reckoner;" ∈ WS) (hdg : decode cc pc = .ok (.getfield idx, 3)) (kk : V p l e R s m args below meth c D aC B lo hi nL Q σ (pc + 3) lv (.ref (B + 124) :: st)) : V p l e R s m args below meth c D aC B lo hi nL Q σ pc lv (.ref (B + 0) :: st) :=
  v_get C (ci := 9) inX9 rfl (Nat.le_trans hlo (Nat.zero_le _)) (Nat.lt_of_lt_of_le (by decide) hhi) (rfl) 9 (by decide) hlink (fun _ h => h) rfl hdg kk
theorem gf9_answer (C : Cx p s m args meth c cc nL own ret D aC) (hlo : lo ≤ 0) (hhi : 304 ≤ hi) {idx : Nat} (hlink : Cond.fieldLink own idx "SplitTowers" "answer" "LSplitTowers$Poly;" ∈ WS) (hdg : decode cc pc = .ok (.getfield idx, 3)) (kk : V p l e R s m args below meth c D aC B lo hi nL Q σ (pc + 3) lv (.ref (B + 302) :: st)) : V p l e R s m args below meth c D aC B lo hi nL Q σ pc lv (.ref (B + 0) :: st) :=
  v_get C (ci := 9) inX9 rfl (Nat.le_trans hlo (Nat.zero_le _)) (Nat.lt_of_lt_of_le (by decide) hhi) (rfl) 10 (by decide) hlink (fun _ h => h) rfl hdg kk
theorem gf10_now (C : Cx p s m args meth c cc nL own ret D aC) (hlo : lo ≤ 304) (hhi : 316 ≤ hi) {idx : Nat} (hlink : Cond.fieldLink own idx "SplitTowersModel" "now" "[I" ∈ WS) (hdg : decode cc pc = .ok (.getfield idx, 3)) (kk : V p l e R s m args below meth c D aC B lo hi nL Q σ (pc + 3) lv (.ref (B + 305) :: st)) : V p l e R s m args below meth c D aC B lo hi nL Q σ pc lv (.ref (B + 304) :: st) :=
  v_get C (ci := 10) inX10 rfl hlo (Nat.lt_of_lt_of_le (by decide) hhi) (rfl) 0 (by decide) hlink (fun _ h => h) rfl hdg kk
theorem gf10_history (C : Cx p s m args meth c cc nL own ret D aC) (hlo : lo ≤ 304) (hhi : 316 ≤ hi) {idx : Nat} (hlink : Cond.fieldLink own idx "SplitTowersModel" "history" "[I" ∈ WS) (hdg : decode cc pc = .ok (.getfield idx, 3)) (kk : V p l e R s m args below meth c D aC B lo hi nL Q σ (pc + 3) lv (.ref (B + 306) :: st)) : V p l e R s m args below meth c D aC B lo hi nL Q σ pc lv (.ref (B + 304) :: st) :=
  v_get C (ci := 10) inX10 rfl hlo (Nat.lt_of_lt_of_le (by decide) hhi) (rfl) 1 (by decide) hlink (fun _ h => h) rfl hdg kk
theorem gf10_kept (C : Cx p s m args meth c cc nL own ret D aC) (hlo : lo ≤ 304) (hhi : 316 ≤ hi) {idx : Nat} (hlink : Cond.fieldLink own idx "SplitTowersModel" "kept" "I" ∈ WS) (hdg : decode cc pc = .ok (.getfield idx, 3)) (kk : V p l e R s m args below meth c D aC B lo hi nL Q σ (pc + 3) lv (.int (iI (σ 304 2)) :: st)) : V p l e R s m args below meth c D aC B lo hi nL Q σ pc lv (.ref (B + 304) :: st) :=
  v_get C (ci := 10) inX10 rfl hlo (Nat.lt_of_lt_of_le (by decide) hhi) (rfl) 2 (by decide) hlink (fun _ h => h) rfl hdg kk
theorem pf10_kept (C : Cx p s m args meth c cc nL own ret D aC) (hlo : lo ≤ 304) (hhi : 316 ≤ hi) {x : Int} (hx : inR x) {idx : Nat} (hlink : Cond.fieldLink own idx "SplitTowersModel" "kept" "I" ∈ WS) (hdg : decode cc pc = .ok (.putfield idx, 3)) (kk : V p l e R s m args below meth c D aC B lo hi nL Q (ug σ 304 2 x) (pc + 3) lv st) : V p l e R s m args below meth c D aC B lo hi nL Q σ pc lv (.int (iI x) :: .ref (B + 304) :: st) :=
  v_put C (ci := 10) inX10 tyX10 tyX10_ok nmX10 rfl hlo (Nat.lt_of_lt_of_le (by decide) hhi) (rfl) 2 (by decide) hlink (fun _ h => h) rfl (by decide +kernel) (narrow_i _) (fits_i _) (Nat.le_of_ble_eq_true rfl) hx (rfl) hdg kk
theorem gf10_slot (C : Cx p s m args meth c cc nL own ret D aC) (hlo : lo ≤ 304) (hhi : 316 ≤ hi) {idx : Nat} (hlink : Cond.fieldLink own idx "SplitTowersModel" "slot" "[I" ∈ WS) (hdg : decode cc pc = .ok (.getfield idx, 3)) (kk : V p l e R s m args below meth c D aC B lo hi nL Q σ (pc + 3) lv (.ref (B + 307) :: st)) : V p l e R s m args below meth c D aC B lo hi nL Q σ pc lv (.ref (B + 304) :: st) :=
  v_get C (ci := 10) inX10 rfl hlo (Nat.lt_of_lt_of_le (by decide) hhi) (rfl) 3 (by decide) hlink (fun _ h => h) rfl hdg kk
theorem gf10_isFilled (C : Cx p s m args meth c cc nL own ret D aC) (hlo : lo ≤ 304) (hhi : 316 ≤ hi) {idx : Nat} (hlink : Cond.fieldLink own idx "SplitTowersModel" "isFilled" "Z" ∈ WS) (hdg : decode cc pc = .ok (.getfield idx, 3)) (kk : V p l e R s m args below meth c D aC B lo hi nL Q σ (pc + 3) lv (.int (iI (σ 304 4)) :: st)) : V p l e R s m args below meth c D aC B lo hi nL Q σ pc lv (.ref (B + 304) :: st) :=
  v_get C (ci := 10) inX10 rfl hlo (Nat.lt_of_lt_of_le (by decide) hhi) (rfl) 4 (by decide) hlink (fun _ h => h) rfl hdg kk
theorem pf10_isFilled (C : Cx p s m args meth c cc nL own ret D aC) (hlo : lo ≤ 304) (hhi : 316 ≤ hi) {x : Int} (hx : inR x) (hz : x = 0 ∨ x = 1) {idx : Nat} (hlink : Cond.fieldLink own idx "SplitTowersModel" "isFilled" "Z" ∈ WS) (hdg : decode cc pc = .ok (.putfield idx, 3)) (kk : V p l e R s m args below meth c D aC B lo hi nL Q (ug σ 304 4 x) (pc + 3) lv st) : V p l e R s m args below meth c D aC B lo hi nL Q σ pc lv (.int (iI x) :: .ref (B + 304) :: st) :=
  v_put C (ci := 10) inX10 tyX10 tyX10_ok nmX10 rfl hlo (Nat.lt_of_lt_of_le (by decide) hhi) (rfl) 4 (by decide) hlink (fun _ h => h) rfl (by decide +kernel) (narrow_z hz) (fits_z hz) (Nat.le_of_ble_eq_true rfl) hx (rfl) hdg kk
theorem gf10_table (C : Cx p s m args meth c cc nL own ret D aC) (hlo : lo ≤ 304) (hhi : 316 ≤ hi) {idx : Nat} (hlink : Cond.fieldLink own idx "SplitTowersModel" "table" "[I" ∈ WS) (hdg : decode cc pc = .ok (.getfield idx, 3)) (kk : V p l e R s m args below meth c D aC B lo hi nL Q σ (pc + 3) lv (.ref (B + 308) :: st)) : V p l e R s m args below meth c D aC B lo hi nL Q σ pc lv (.ref (B + 304) :: st) :=
  v_get C (ci := 10) inX10 rfl hlo (Nat.lt_of_lt_of_le (by decide) hhi) (rfl) 5 (by decide) hlink (fun _ h => h) rfl hdg kk
theorem gf10_made (C : Cx p s m args meth c cc nL own ret D aC) (hlo : lo ≤ 304) (hhi : 316 ≤ hi) {idx : Nat} (hlink : Cond.fieldLink own idx "SplitTowersModel" "made" "[I" ∈ WS) (hdg : decode cc pc = .ok (.getfield idx, 3)) (kk : V p l e R s m args below meth c D aC B lo hi nL Q σ (pc + 3) lv (.ref (B + 309) :: st)) : V p l e R s m args below meth c D aC B lo hi nL Q σ pc lv (.ref (B + 304) :: st) :=
  v_get C (ci := 10) inX10 rfl hlo (Nat.lt_of_lt_of_le (by decide) hhi) (rfl) 6 (by decide) hlink (fun _ h => h) rfl hdg kk
theorem gf10_before (C : Cx p s m args meth c cc nL own ret D aC) (hlo : lo ≤ 304) (hhi : 316 ≤ hi) {idx : Nat} (hlink : Cond.fieldLink own idx "SplitTowersModel" "before" "[I" ∈ WS) (hdg : decode cc pc = .ok (.getfield idx, 3)) (kk : V p l e R s m args below meth c D aC B lo hi nL Q σ (pc + 3) lv (.ref (B + 310) :: st)) : V p l e R s m args below meth c D aC B lo hi nL Q σ pc lv (.ref (B + 304) :: st) :=
  v_get C (ci := 10) inX10 rfl hlo (Nat.lt_of_lt_of_le (by decide) hhi) (rfl) 7 (by decide) hlink (fun _ h => h) rfl hdg kk
theorem gf10_typed (C : Cx p s m args meth c cc nL own ret D aC) (hlo : lo ≤ 304) (hhi : 316 ≤ hi) {idx : Nat} (hlink : Cond.fieldLink own idx "SplitTowersModel" "typed" "I" ∈ WS) (hdg : decode cc pc = .ok (.getfield idx, 3)) (kk : V p l e R s m args below meth c D aC B lo hi nL Q σ (pc + 3) lv (.int (iI (σ 304 8)) :: st)) : V p l e R s m args below meth c D aC B lo hi nL Q σ pc lv (.ref (B + 304) :: st) :=
  v_get C (ci := 10) inX10 rfl hlo (Nat.lt_of_lt_of_le (by decide) hhi) (rfl) 8 (by decide) hlink (fun _ h => h) rfl hdg kk
theorem pf10_typed (C : Cx p s m args meth c cc nL own ret D aC) (hlo : lo ≤ 304) (hhi : 316 ≤ hi) {x : Int} (hx : inR x) {idx : Nat} (hlink : Cond.fieldLink own idx "SplitTowersModel" "typed" "I" ∈ WS) (hdg : decode cc pc = .ok (.putfield idx, 3)) (kk : V p l e R s m args below meth c D aC B lo hi nL Q (ug σ 304 8 x) (pc + 3) lv st) : V p l e R s m args below meth c D aC B lo hi nL Q σ pc lv (.int (iI x) :: .ref (B + 304) :: st) :=
  v_put C (ci := 10) inX10 tyX10 tyX10_ok nmX10 rfl hlo (Nat.lt_of_lt_of_le (by decide) hhi) (rfl) 8 (by decide) hlink (fun _ h => h) rfl (by decide +kernel) (narrow_i _) (fits_i _) (Nat.le_of_ble_eq_true rfl) hx (rfl) hdg kk
theorem gf10_text (C : Cx p s m args meth c cc nL own ret D aC) (hlo : lo ≤ 304) (hhi : 316 ≤ hi) {idx : Nat} (hlink : Cond.fieldLink own idx "SplitTowersModel" "text" "[C" ∈ WS) (hdg : decode cc pc = .ok (.getfield idx, 3)) (kk : V p l e R s m args below meth c D aC B lo hi nL Q σ (pc + 3) lv (.ref (B + 311) :: st)) : V p l e R s m args below meth c D aC B lo hi nL Q σ pc lv (.ref (B + 304) :: st) :=
  v_get C (ci := 10) inX10 rfl hlo (Nat.lt_of_lt_of_le (by decide) hhi) (rfl) 9 (by decide) hlink (fun _ h => h) rfl hdg kk
theorem gf10_at (C : Cx p s m args meth c cc nL own ret D aC) (hlo : lo ≤ 304) (hhi : 316 ≤ hi) {idx : Nat} (hlink : Cond.fieldLink own idx "SplitTowersModel" "at" "I" ∈ WS) (hdg : decode cc pc = .ok (.getfield idx, 3)) (kk : V p l e R s m args below meth c D aC B lo hi nL Q σ (pc + 3) lv (.int (iI (σ 304 10)) :: st)) : V p l e R s m args below meth c D aC B lo hi nL Q σ pc lv (.ref (B + 304) :: st) :=
  v_get C (ci := 10) inX10 rfl hlo (Nat.lt_of_lt_of_le (by decide) hhi) (rfl) 10 (by decide) hlink (fun _ h => h) rfl hdg kk
theorem pf10_at (C : Cx p s m args meth c cc nL own ret D aC) (hlo : lo ≤ 304) (hhi : 316 ≤ hi) {x : Int} (hx : inR x) {idx : Nat} (hlink : Cond.fieldLink own idx "SplitTowersModel" "at" "I" ∈ WS) (hdg : decode cc pc = .ok (.putfield idx, 3)) (kk : V p l e R s m args below meth c D aC B lo hi nL Q (ug σ 304 10 x) (pc + 3) lv st) : V p l e R s m args below meth c D aC B lo hi nL Q σ pc lv (.int (iI x) :: .ref (B + 304) :: st) :=
  v_put C (ci := 10) inX10 tyX10 tyX10_ok nmX10 rfl hlo (Nat.lt_of_lt_of_le (by decide) hhi) (rfl) 10 (by decide) hlink (fun _ h => h) rfl (by decide +kernel) (narrow_i _) (fits_i _) (Nat.le_of_ble_eq_true rfl) hx (rfl) hdg kk
theorem gf10_read (C : Cx p s m args meth c cc nL own ret D aC) (hlo : lo ≤ 304) (hhi : 316 ≤ hi) {idx : Nat} (hlink : Cond.fieldLink own idx "SplitTowersModel" "read" "[I" ∈ WS) (hdg : decode cc pc = .ok (.getfield idx, 3)) (kk : V p l e R s m args below meth c D aC B lo hi nL Q σ (pc + 3) lv (.ref (B + 312) :: st)) : V p l e R s m args below meth c D aC B lo hi nL Q σ pc lv (.ref (B + 304) :: st) :=
  v_get C (ci := 10) inX10 rfl hlo (Nat.lt_of_lt_of_le (by decide) hhi) (rfl) 11 (by decide) hlink (fun _ h => h) rfl hdg kk
theorem gf10_toSum (C : Cx p s m args meth c cc nL own ret D aC) (hlo : lo ≤ 304) (hhi : 316 ≤ hi) {idx : Nat} (hlink : Cond.fieldLink own idx "SplitTowersModel" "toSum" "[I" ∈ WS) (hdg : decode cc pc = .ok (.getfield idx, 3)) (kk : V p l e R s m args below meth c D aC B lo hi nL Q σ (pc + 3) lv (.ref (B + 313) :: st)) : V p l e R s m args below meth c D aC B lo hi nL Q σ pc lv (.ref (B + 304) :: st) :=
  v_get C (ci := 10) inX10 rfl hlo (Nat.lt_of_lt_of_le (by decide) hhi) (rfl) 12 (by decide) hlink (fun _ h => h) rfl hdg kk
theorem gf10_toProduct (C : Cx p s m args meth c cc nL own ret D aC) (hlo : lo ≤ 304) (hhi : 316 ≤ hi) {idx : Nat} (hlink : Cond.fieldLink own idx "SplitTowersModel" "toProduct" "[I" ∈ WS) (hdg : decode cc pc = .ok (.getfield idx, 3)) (kk : V p l e R s m args below meth c D aC B lo hi nL Q σ (pc + 3) lv (.ref (B + 314) :: st)) : V p l e R s m args below meth c D aC B lo hi nL Q σ pc lv (.ref (B + 304) :: st) :=
  v_get C (ci := 10) inX10 rfl hlo (Nat.lt_of_lt_of_le (by decide) hhi) (rfl) 13 (by decide) hlink (fun _ h => h) rfl hdg kk
theorem gf10_factors (C : Cx p s m args meth c cc nL own ret D aC) (hlo : lo ≤ 304) (hhi : 316 ≤ hi) {idx : Nat} (hlink : Cond.fieldLink own idx "SplitTowersModel" "factors" "[I" ∈ WS) (hdg : decode cc pc = .ok (.getfield idx, 3)) (kk : V p l e R s m args below meth c D aC B lo hi nL Q σ (pc + 3) lv (.ref (B + 315) :: st)) : V p l e R s m args below meth c D aC B lo hi nL Q σ pc lv (.ref (B + 304) :: st) :=
  v_get C (ci := 10) inX10 rfl hlo (Nat.lt_of_lt_of_le (by decide) hhi) (rfl) 14 (by decide) hlink (fun _ h => h) rfl hdg kk

end VROWS

