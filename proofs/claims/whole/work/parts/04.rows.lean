section VROWS2
variable {p : Program} {l : Launch} {e : Env} {R : Room} {s : State} {m : MethodId} {args : Array Value} {below : List Frame} {meth : Method} {c : Code} {Q : State → Prop}
variable {D : va_G} {aC : Nat → ClassId} {B lo hi nL : Nat} {cc : ByteArray} {own : String} {ret : Option FieldType}
variable {σ : SG} {pc : Nat} {lv lv' : List (Nat × Value)} {st : List Value}
theorem v_name {a : Int} (kk : ∀ v : Int, v = a → V p l e R s m args below meth c D aC B lo hi nL Q σ pc lv (.int (iI v) :: st)) : V p l e R s m args below meth c D aC B lo hi nL Q σ pc lv (.int (iI a) :: st) := kk a rfl
theorem v_nameS (kk : ∀ σ' : SG, σ' = σ → V p l e R s m args below meth c D aC B lo hi nL Q σ' pc lv st) : V p l e R s m args below meth c D aC B lo hi nL Q σ pc lv st := kk σ rfl
theorem PA_lo {t : Nat} (h : PO lo hi t) : lo ≤ t + 1 := by have := h.2.1; omega
theorem PA_hi {t : Nat} (h : PO lo hi t) : t + 1 < hi := h.2.2
theorem celPA {t : Nat} (h : PO lo hi t) {f : Nat → Int} : cel aC B f (t + 1) = .inl (aC 0, (13, .inl (fun j => iI (f j)))) := by
  rw [cel_of (isP_arr h.1).1]
  show Sum.inl (aC 0, (LT.getD (t + 1) 0, _)) = _
  rw [(isP_arr h.1).2]
theorem v_aaldR (C : Cx p s m args meth c cc nL own ret D aC) {o : Nat} (po : SO lo hi o) {k : Int} (hk : inR k) (hk0 : 0 ≤ k ∧ k < 6) (hdg : decode cc pc = .ok (.aaload, 1)) (kk : V p l e R s m args below meth c D aC B lo hi nL Q σ (pc + 1) lv (.ref (B + (o + 3 + 1 + 2 * k.toNat)) :: st)) : V p l e R s m args below meth c D aC B lo hi nL Q σ pc lv (.int (iI k) :: .ref (B + (o + 3)) :: st) :=
  v_aald (n := 6) (g := fun j => o + 3 + 1 + 2 * j) C 3 rfl (by have := po.2.1; omega) (by have := po.2.2; omega) (by rw [cel_of (isS_all po.1).1.2.1]; show Sum.inl (aC 3, (LT.getD (o + 3) 0, _)) = _; rw [(isS_all po.1).1.2.2.1]) hk hk0 hdg kk
theorem v_aaldB (C : Cx p s m args meth c cc nL own ret D aC) {o : Nat} (po : SO lo hi o) {k : Int} (hk : inR k) (hk0 : 0 ≤ k ∧ k < 6) (hdg : decode cc pc = .ok (.aaload, 1)) (kk : V p l e R s m args below meth c D aC B lo hi nL Q σ (pc + 1) lv (.ref (B + (σ (o + 16) k.toNat).toNat) :: st)) : V p l e R s m args below meth c D aC B lo hi nL Q σ pc lv (.int (iI k) :: .ref (B + (o + 16)) :: st) :=
  v_aald (n := 6) (g := fun j => (σ (o + 16) j).toNat) C 3 rfl (by have := po.2.1; omega) (by have := po.2.2; omega) (by rw [cel_of (isS_all po.1).1.2.2.2.1]; show Sum.inl (aC 3, (LT.getD (o + 16) 0, _)) = _; rw [(isS_all po.1).1.2.2.2.2]) hk hk0 hdg kk
theorem v_aastB (C : Cx p s m args meth c cc nL own ret D aC) {o t : Nat} (po : SO lo hi o) (pt : PO lo hi t) {k : Int} (hk : inR k) (hk0 : 0 ≤ k ∧ k < 6) (hdg : decode cc pc = .ok (.aastore, 1)) (kk : V p l e R s m args below meth c D aC B lo hi nL Q (ug σ (o + 16) k.toNat (t : Int)) (pc + 1) lv st) : V p l e R s m args below meth c D aC B lo hi nL Q σ pc lv (.ref (B + t) :: .int (iI k) :: .ref (B + (o + 16)) :: st) :=
  v_aast C (by have := po.2.1; omega) (by have := po.2.2; omega) (isS_all po.1).1.2.2.2.1 (isS_all po.1).1.2.2.2.2 pt hk hk0 hdg kk
end VROWS2
theorem look_out {l : List (Int × Int)} {d a : Int} (h : ∀ q ∈ l, ¬ a = q.1) : Op.lookupswitch.offset l d a = d := by
  induction l with
  | nil => rfl
  | cons q l ih =>
    obtain ⟨k, o⟩ := q
    rw [Op.lookupswitch.offset_cons, if_neg (fun e => h (k, o) List.mem_cons_self (by first | exact e | exact e.symm))]
    exact ih (fun q hq => h q (List.mem_cons_of_mem _ hq))
theorem toNat_lt {k : Int} {n : Nat} (h : 0 ≤ k ∧ k < (n : Int)) : k.toNat < n := by omega
theorem wy_max : Cond.static Lib.Math.max.name ∈ WS ∧ Cond.initialized "java/lang/Math" ∈ WS ∧ Cond.code Lib.Math.max.name Lib.Math.max.code 2 (some .int) ∈ WS := ⟨w132, w71, in_WS 133 (by decide +kernel) (by decide +kernel)⟩
theorem wy_min : Cond.static Lib.Math.min.name ∈ WS ∧ Cond.initialized "java/lang/Math" ∈ WS ∧ Cond.code Lib.Math.min.name Lib.Math.min.code 2 (some .int) ∈ WS := ⟨w455, w71, in_WS 456 (by decide +kernel) (by decide +kernel)⟩
theorem kt1 : KT.getD 1 99 = 7 := by decide +kernel
theorem kt34 : KT.getD 34 99 = 4 := by decide +kernel
theorem kt36 : KT.getD 36 99 = 4 := by decide +kernel
theorem kt38 : KT.getD 38 99 = 4 := by decide +kernel
theorem kt40 : KT.getD 40 99 = 4 := by decide +kernel
theorem kt42 : KT.getD 42 99 = 4 := by decide +kernel
theorem kt44 : KT.getD 44 99 = 4 := by decide +kernel
theorem kt46 : KT.getD 46 99 = 4 := by decide +kernel
theorem kt49 : KT.getD 49 99 = 4 := by decide +kernel
theorem kt51 : KT.getD 51 99 = 4 := by decide +kernel
theorem kt53 : KT.getD 53 99 = 4 := by decide +kernel
theorem kt55 : KT.getD 55 99 = 4 := by decide +kernel
theorem kt57 : KT.getD 57 99 = 4 := by decide +kernel
theorem kt59 : KT.getD 59 99 = 4 := by decide +kernel
theorem kt61 : KT.getD 61 99 = 4 := by decide +kernel
theorem kt63 : KT.getD 63 99 = 4 := by decide +kernel
theorem kt92 : KT.getD 92 99 = 4 := by decide +kernel
theorem kt94 : KT.getD 94 99 = 4 := by decide +kernel
theorem kt96 : KT.getD 96 99 = 4 := by decide +kernel
theorem kt98 : KT.getD 98 99 = 4 := by decide +kernel
theorem kt116 : KT.getD 116 99 = 4 := by decide +kernel
theorem kt118 : KT.getD 118 99 = 4 := by decide +kernel
theorem kt120 : KT.getD 120 99 = 4 := by decide +kernel
theorem kt122 : KT.getD 122 99 = 4 := by decide +kernel
theorem kt153 : KT.getD 153 99 = 4 := by decide +kernel
theorem kt155 : KT.getD 155 99 = 7 := by decide +kernel
theorem kt302 : KT.getD 302 99 = 4 := by decide +kernel
theorem pa65 : ∀ k, k < 6 → KT.getD (65 + 2 + 4 * k) 99 = 4 := by decide +kernel
theorem pa66 : ∀ k, k < 6 → KT.getD (66 + 3 + 4 * k) 99 = 4 := by decide +kernel
theorem pa101 : ∀ k, k < 7 → KT.getD (101 + 1 + 2 * k) 99 = 4 := by decide +kernel
theorem pa125 : ∀ k, k < 6 → KT.getD (125 + 2 + 4 * k) 99 = 4 := by decide +kernel
theorem pa126 : ∀ k, k < 6 → KT.getD (126 + 3 + 4 * k) 99 = 4 := by decide +kernel
theorem pa185 : ∀ k, k < 4 → KT.getD (185 + 1 + 29 * k) 99 = 7 := by decide +kernel
