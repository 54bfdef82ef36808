/-! sums of whole numbers, and the product of two rows of coefficients -/
def sm (f : Nat → Int) : Nat → Int
  | 0 => 0
  | n + 1 => sm f n + f n
theorem sm_congr {f g : Nat → Int} {n : Nat} (h : ∀ i, i < n → f i = g i) : sm f n = sm g n := by
  induction n with
  | zero => rfl
  | succ n ih => rw [sm, sm, ih (fun i hi => h i (by omega)), h n (by omega)]
theorem sm_zero {f : Nat → Int} {n : Nat} (h : ∀ i, i < n → f i = 0) : sm f n = 0 := by
  induction n with
  | zero => rfl
  | succ n ih => rw [sm, ih (fun i hi => h i (by omega)), h n (by omega)]; rfl
theorem sm_add (f g : Nat → Int) (n : Nat) : sm (fun i => f i + g i) n = sm f n + sm g n := by
  induction n with
  | zero => rfl
  | succ n ih => rw [sm, sm, sm, ih]; omega
theorem sm_mul (c : Int) (f : Nat → Int) (n : Nat) : sm (fun i => c * f i) n = c * sm f n := by
  induction n with
  | zero => rw [sm, sm, Int.mul_zero]
  | succ n ih => rw [sm, sm, ih, Int.mul_add]
theorem sm_head (f : Nat → Int) (n : Nat) : sm f (n + 1) = f 0 + sm (fun i => f (i + 1)) n := by
  induction n with
  | zero => simp [sm]
  | succ n ih => rw [sm, ih, sm]; omega
theorem sm_rev (f : Nat → Int) (n : Nat) : sm (fun i => f (n - i)) (n + 1) = sm f (n + 1) := by
  induction n generalizing f with
  | zero => rfl
  | succ n ih =>
    rw [sm_head]
    have h : sm (fun i => f (n + 1 - (i + 1))) (n + 1) = sm f (n + 1) := by
      rw [← ih f]
      exact sm_congr (fun i hi => by congr 1; omega)
    rw [h]
    show f (n + 1 - 0) + sm f (n + 1) = sm f (n + 1) + f (n + 1)
    rw [Nat.sub_zero]
    omega
theorem sm_tri (f : Nat → Nat → Int) (n : Nat) : sm (fun i => sm (fun j => f i j) (i + 1)) n = sm (fun j => sm (fun i => f (i + j) j) (n - j)) n := by
  induction n with
  | zero => rfl
  | succ n ih =>
    have h : sm (fun j => sm (fun i => f (i + j) j) (n + 1 - j)) (n + 1) = sm (fun j => sm (fun i => f (i + j) j) (n - j) + f n j) (n + 1) := by
      refine sm_congr (fun j hj => ?_)
      rw [show n + 1 - j = (n - j) + 1 by omega, sm, show n - j + j = n by omega]
    rw [h, sm_add, sm, ih]
    congr 1
    rw [sm]
    simp [sm]
theorem sm_emod (f : Nat → Int) (p : Int) (n : Nat) : sm f n % p = sm (fun i => f i % p) n % p := by
  induction n with
  | zero => rfl
  | succ n ih => rw [sm, sm, Int.add_emod, ih, ← Int.add_emod, Int.add_emod, Int.add_emod (sm (fun i => f i % p) n), Int.emod_emod]
theorem sm_one {f : Nat → Int} {n k : Nat} (hk : k < n) (h : ∀ i, i < n → i ≠ k → f i = 0) : sm f n = f k := by
  induction n with
  | zero => omega
  | succ n ih =>
    rw [sm]
    by_cases q : k = n
    · subst q
      rw [sm_zero (fun i hi => h i (by omega) (by omega))]
      omega
    · rw [ih (by omega) (fun i hi => h i (by omega)), h n (by omega) (by omega)]
      omega
def cv (f g : Nat → Int) (k : Nat) : Int := sm (fun i => f i * g (k - i)) (k + 1)
theorem cv_comm (f g : Nat → Int) (k : Nat) : cv f g k = cv g f k := by
  unfold cv
  rw [← sm_rev]
  refine sm_congr (fun i hi => ?_)
  rw [show k - (k - i) = i by omega, Int.mul_comm]
theorem cv_add (f g h : Nat → Int) (k : Nat) : cv f (fun i => g i + h i) k = cv f g k + cv f h k := by
  unfold cv
  rw [← sm_add]
  exact sm_congr (fun i _ => Int.mul_add _ _ _)
theorem cv_assoc (f g h : Nat → Int) (k : Nat) : cv (cv f g) h k = cv f (cv g h) k := by
  unfold cv
  have e1 : sm (fun i => sm (fun j => f j * g (i - j)) (i + 1) * h (k - i)) (k + 1) = sm (fun i => sm (fun j => f j * g (i - j) * h (k - i)) (i + 1)) (k + 1) := by
    refine sm_congr (fun i _ => ?_)
    rw [Int.mul_comm, ← sm_mul]
    exact sm_congr (fun j _ => Int.mul_comm _ _)
  rw [e1, sm_tri (fun i j => f j * g (i - j) * h (k - i))]
  refine sm_congr (fun j hj => ?_)
  rw [← sm_mul]
  rw [show k + 1 - j = k - j + 1 by omega]
  refine sm_congr (fun i hi => ?_)
  rw [show i + j - j = i by omega, show k - (i + j) = k - j - i by omega, Int.mul_assoc]
theorem cv_emod (f g : Nat → Int) (p : Int) (k : Nat) : cv f (fun i => g i % p) k % p = cv f g k % p := by
  unfold cv
  rw [sm_emod, sm_emod (fun i => f i * g (k - i))]
  congr 1
  exact sm_congr (fun i _ => by rw [Int.mul_emod, Int.emod_emod, ← Int.mul_emod])
theorem cv_emod' (f g : Nat → Int) (p : Int) (k : Nat) : cv (fun i => f i % p) g k % p = cv f g k % p := by
  rw [cv_comm, cv_emod, cv_comm]
theorem cv_fin {f g : Nat → Int} {m n : Nat} (hf : ∀ k, m ≤ k → f k = 0) (hg : ∀ k, n ≤ k → g k = 0) {k : Nat} (hk : m + n ≤ k) : cv f g k = 0 := by
  refine sm_zero (fun i hi => ?_)
  by_cases q : m ≤ i
  · rw [hf i q, Int.zero_mul]
  · rw [hg (k - i) (by omega), Int.mul_zero]
/-! the polynomials over a prime, each a row of coefficients from 0 to the prime less 1 -/
abbrev POL (p : Nat) : Type := { f : Nat → Int // (∀ k, 0 ≤ f k ∧ f k < (p + 2 : Nat)) ∧ ∃ n, ∀ k, n ≤ k → f k = 0 }
theorem pol_rng (p : Nat) (z : Int) : 0 ≤ z % ((p + 2 : Nat) : Int) ∧ z % ((p + 2 : Nat) : Int) < (p + 2 : Nat) := ⟨Int.emod_nonneg _ (by omega), Int.emod_lt_of_pos _ (by omega)⟩
theorem pol_self {p : Nat} (a : POL p) (k : Nat) : a.1 k % ((p + 2 : Nat) : Int) = a.1 k := Int.emod_eq_of_lt (a.2.1 k).1 (a.2.1 k).2
theorem pol_ext {p : Nat} {a b : POL p} (h : ∀ k, a.1 k = b.1 k) : a = b := Subtype.ext (funext h)
def polC (p : Nat) (z : Int) : POL p := ⟨fun k => if k = 0 then z % ((p + 2 : Nat) : Int) else 0, fun k => by
  dsimp only
  split
  · exact pol_rng p z
  · omega, 1, fun k hk => if_neg (by omega)⟩
def polAdd {p : Nat} (a b : POL p) : POL p := ⟨fun k => (a.1 k + b.1 k) % ((p + 2 : Nat) : Int), fun k => pol_rng p _, by
  obtain ⟨m, hm⟩ := a.2.2
  obtain ⟨n, hn⟩ := b.2.2
  exact ⟨m + n, fun k hk => by dsimp only; rw [hm k (by omega), hn k (by omega)]; rfl⟩⟩
def polNeg {p : Nat} (a : POL p) : POL p := ⟨fun k => (-a.1 k) % ((p + 2 : Nat) : Int), fun k => pol_rng p _, by
  obtain ⟨m, hm⟩ := a.2.2
  exact ⟨m, fun k hk => by dsimp only; rw [hm k hk]; rfl⟩⟩
def polMul {p : Nat} (a b : POL p) : POL p := ⟨fun k => cv a.1 b.1 k % ((p + 2 : Nat) : Int), fun k => pol_rng p _, by
  obtain ⟨m, hm⟩ := a.2.2
  obtain ⟨n, hn⟩ := b.2.2
  exact ⟨m + n, fun k hk => by dsimp only; rw [cv_fin hm hn hk]; rfl⟩⟩
def polPow {p : Nat} (a : POL p) : Nat → POL p
  | 0 => polC p 1
  | n + 1 => polMul (polPow a n) a
theorem pol_add_comm {p : Nat} (a b : POL p) : polAdd a b = polAdd b a := pol_ext fun k => by
  show (a.1 k + b.1 k) % _ = (b.1 k + a.1 k) % _
  rw [Int.add_comm]
theorem pol_add_assoc {p : Nat} (a b c : POL p) : polAdd (polAdd a b) c = polAdd a (polAdd b c) := pol_ext fun k => by
  show ((a.1 k + b.1 k) % _ + c.1 k) % _ = (a.1 k + (b.1 k + c.1 k) % _) % _
  rw [Int.emod_add_emod, Int.add_emod_emod, Int.add_assoc]
theorem pol_mul_comm {p : Nat} (a b : POL p) : polMul a b = polMul b a := pol_ext fun k => by
  show cv a.1 b.1 k % _ = cv b.1 a.1 k % _
  rw [cv_comm]
theorem pol_mul_assoc {p : Nat} (a b c : POL p) : polMul (polMul a b) c = polMul a (polMul b c) := pol_ext fun k => by
  show cv (fun i => cv a.1 b.1 i % _) c.1 k % _ = cv a.1 (fun i => cv b.1 c.1 i % _) k % _
  rw [cv_emod, cv_emod', ← cv_assoc]
theorem pol_one_mul {p : Nat} (a : POL p) : polMul (polC p 1) a = a := pol_ext fun k => by
  show cv (fun k => if k = 0 then 1 % _ else 0) a.1 k % _ = a.1 k
  have h : cv (fun k => if k = 0 then (1 : Int) % ((p + 2 : Nat) : Int) else 0) a.1 k = a.1 k := by
    unfold cv
    rw [sm_one (k := 0) (by omega) (fun i _ hi => by simp [hi])]
    dsimp only
    rw [if_pos rfl, Int.emod_eq_of_lt (by omega) (by omega), Int.one_mul]
    rfl
  rw [h]
  exact pol_self a k
theorem pol_distrib {p : Nat} (a b c : POL p) : polMul a (polAdd b c) = polAdd (polMul a b) (polMul a c) := pol_ext fun k => by
  show cv a.1 (fun i => (b.1 i + c.1 i) % _) k % _ = (cv a.1 b.1 k % _ + cv a.1 c.1 k % _) % _
  rw [cv_emod, cv_add, ← Int.add_emod]
theorem pol_add_zero {p : Nat} (a : POL p) : polAdd a (polC p 0) = a := pol_ext fun k => by
  show (a.1 k + (if k = 0 then 0 % _ else 0)) % _ = a.1 k
  rw [show (if k = 0 then (0 : Int) % ((p + 2 : Nat) : Int) else 0) = 0 by split <;> simp, Int.add_zero]
  exact pol_self a k
theorem pol_neg_add {p : Nat} (a : POL p) : polAdd (polNeg a) a = polC p 0 := pol_ext fun k => by
  show ((-a.1 k) % _ + a.1 k) % _ = if k = 0 then 0 % _ else 0
  rw [Int.emod_add_emod, Int.add_left_neg]
  split <;> simp
theorem pol_zero_mul {p : Nat} (a : POL p) : polMul (polC p 0) a = polC p 0 := pol_ext fun k => by
  show cv (fun k => if k = 0 then 0 % _ else 0) a.1 k % _ = if k = 0 then 0 % _ else 0
  rw [show cv (fun k => if k = 0 then (0 : Int) % ((p + 2 : Nat) : Int) else 0) a.1 k = 0 from sm_zero (fun i _ => by dsimp only; split <;> simp)]
  split <;> simp
theorem polC_add (p : Nat) (y z : Int) : polC p (y + z) = polAdd (polC p y) (polC p z) := pol_ext fun k => by
  show (if k = 0 then (y + z) % _ else 0) = ((if k = 0 then y % _ else 0) + (if k = 0 then z % _ else 0)) % _
  by_cases q : k = 0
  · rw [if_pos q, if_pos q, if_pos q, ← Int.add_emod]
  · rw [if_neg q, if_neg q, if_neg q]; simp
theorem neg_emod2 (x m : Int) : (-(x % m)) % m = (-x) % m := by
  have h : -x = -(x % m) + m * (-(x / m)) := by
    have := Int.emod_add_mul_ediv x m
    rw [Int.mul_neg]
    omega
  rw [h, Int.add_mul_emod_self_left]
theorem polC_neg (p : Nat) (y : Int) : polC p (-y) = polNeg (polC p y) := pol_ext fun k => by
  show (if k = 0 then (-y) % _ else 0) = (-(if k = 0 then y % _ else 0)) % _
  by_cases q : k = 0
  · rw [if_pos q, if_pos q]
    exact (neg_emod2 _ _).symm
  · rw [if_neg q, if_neg q]; simp
def polR (p : Nat) : Lean.Grind.CommRing (POL p) where
  add := polAdd
  mul := polMul
  neg := polNeg
  sub := fun a b => polAdd a (polNeg b)
  natCast := ⟨fun n => polC p n⟩
  ofNat := fun n => ⟨polC p n⟩
  intCast := ⟨fun z => polC p z⟩
  nsmul := ⟨fun n a => polMul (polC p n) a⟩
  zsmul := ⟨fun z a => polMul (polC p z) a⟩
  npow := ⟨fun a n => polPow a n⟩
  add_zero := pol_add_zero
  add_comm := pol_add_comm
  add_assoc := pol_add_assoc
  mul_assoc := pol_mul_assoc
  mul_comm := pol_mul_comm
  mul_one := fun a => (pol_mul_comm _ _).trans (pol_one_mul a)
  one_mul := pol_one_mul
  left_distrib := pol_distrib
  right_distrib := fun a b c => by
    show polMul (polAdd a b) c = polAdd (polMul a c) (polMul b c)
    rw [pol_mul_comm, pol_distrib, pol_mul_comm c a, pol_mul_comm c b]
  zero_mul := pol_zero_mul
  mul_zero := fun a => (pol_mul_comm _ _).trans (pol_zero_mul a)
  pow_zero := fun _ => rfl
  pow_succ := fun _ _ => rfl
  ofNat_succ := fun n => by
    show polC p ((n + 1 : Nat) : Int) = polAdd (polC p n) (polC p 1)
    rw [← polC_add]
    rfl
  ofNat_eq_natCast := fun _ => rfl
  nsmul_eq_natCast_mul := fun _ _ => rfl
  neg_add_cancel := pol_neg_add
  sub_eq_add_neg := fun _ _ => rfl
  neg_zsmul := fun z a => by
    show polMul (polC p (-z)) a = polNeg (polMul (polC p z) a)
    rw [polC_neg]
    refine pol_ext fun k => ?_
    show cv (fun i => (-(polC p z).1 i) % _) a.1 k % _ = (-(cv (polC p z).1 a.1 k % _)) % _
    rw [cv_emod', neg_emod2]
    congr 1
    unfold cv
    rw [← Int.neg_one_mul, ← sm_mul]
    exact sm_congr (fun i _ => by rw [Int.neg_mul, Int.neg_one_mul])
  zsmul_natCast_eq_nsmul := fun _ _ => rfl
  intCast_ofNat := fun _ => rfl
  intCast_neg := polC_neg p
