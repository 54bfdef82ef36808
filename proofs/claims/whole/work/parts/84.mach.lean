/-! the pure machine of an expression: a level is (sum, product, minus, over) -/
noncomputable def pl {R : Type} [Lean.Grind.CommRing R] (co : R → Nat → Int) (w : R) (L : List R) : List R := @Classical.epsilon (List R) ⟨[]⟩ (fun L' => L'.Perm (ptl co w L) ∧ Srt co L')
theorem pl_eq {R : Type} [Lean.Grind.CommRing R] {p : Nat} {co : R → Nat → Int} {mk : (Nat → Int) → R} (H : PD p co mk) {w : R} {L L' : List R} (h1 : L'.Perm (ptl co w L)) (h2 : Srt co L') : L' = pl co w L := by
  have h := @Classical.epsilon_spec (List R) (fun L' => L'.Perm (ptl co w L) ∧ Srt co L') ⟨L', h1, h2⟩
  exact Srt_uniq H (h1.trans h.1.symm) h2 h.2
def us {A : Type} (g : Nat → A) (d : Nat) (x : A) : Nat → A := fun i => if i = d then x else g i
theorem us_eq {A : Type} (g : Nat → A) (d : Nat) (x : A) : us g d x d = x := if_pos rfl
theorem us_ne {A : Type} (g : Nat → A) {d i : Nat} (h : i ≠ d) (x : A) : us g d x i = g i := if_neg h
/-- the product behind a factor, the branches behind it, the sum behind a product -/
noncomputable def jq {R : Type} [Lean.Grind.CommRing R] (co : R → Nat → Int) (f : R) (x : R × R × Int × Int) (w : R) : R := if x.2.2.2 = 0 then rm co (x.2.1 * w) f else rm co (x.2.1 * qe co f w) f
noncomputable def jl {R : Type} [Lean.Grind.CommRing R] (co : R → Nat → Int) (x : R × R × Int × Int) (w : R) (L : List R) : List R := if x.2.2.2 = 0 then L else pl co w L
def js {R : Type} [Lean.Grind.CommRing R] (x : R × R × Int × Int) (q : R) : R := if x.2.2.1 = 0 then x.1 + q else x.1 - q
noncomputable def rk {R : Type} [Lean.Grind.CommRing R] (p : Nat) (co : R → Nat → Int) (mk : (Nat → Int) → R) (f : R) (g : Nat → R) : List Int → Int → Nat → (Nat → R × R × Int × Int) → R → List R → R × List R
  | [], _, d, lev, w, L => (js (lev d) (jq co f (lev d) w), jl co (lev d) w L)
  | c :: r, e, d, lev, w, L =>
    if c = 40 then rk p co mk f g r 0 (d + 1) (us lev (d + 1) (0, 1, 0, 0)) w L
    else if c = 41 then rk p co mk f g r 1 (d - 1) lev (js (lev d) (jq co f (lev d) w)) (jl co (lev d) w L)
    else if c = 43 ∨ c = 45 then rk p co mk f g r 0 d (us lev d (js (lev d) (jq co f (lev d) w), 1, if c = 45 then 1 else 0, 0)) w (jl co (lev d) w L)
    else if c = 42 ∨ c = 47 then rk p co mk f g r 0 d (us lev d ((lev d).1, jq co f (lev d) w, (lev d).2.2.1, if c = 47 then 1 else 0)) w (jl co (lev d) w L)
    else if c = 94 then rk p co mk f g r 2 d lev w L
    else if e = 2 then rk p co mk f g r 3 d lev (rm co (w ^ (c - 48).toNat) f) L
    else rk p co mk f g r 1 d lev (rm co (smp p mk g c) f) L
/-- degrees of a level -/
def Dl {R : Type} (co : R → Nat → Int) (n : Nat) (x : R × R × Int × Int) : Prop := dd co x.1 < n ∧ dd co x.2.1 < n
theorem jq_dd {R : Type} [Lean.Grind.CommRing R] {p : Nat} {co : R → Nat → Int} {mk : (Nat → Int) → R} (H : PD p co mk) {f : R} (hf : f ≠ 0) (x : R × R × Int × Int) (w : R) : dd co (jq co f x w) < dd co f := by
  unfold jq
  split
  · exact (rm_spec H _ hf).2
  · exact (rm_spec H _ hf).2
theorem js_dd {R : Type} [Lean.Grind.CommRing R] {p : Nat} {co : R → Nat → Int} {mk : (Nat → Int) → R} (H : PD p co mk) {n : Nat} {x : R × R × Int × Int} {q : R} (hx : Dl co n x) (hq : dd co q < n) : dd co (js x q) < n := by
  unfold js
  have h1 := hx.1
  split
  · have := dd_add_le H (a := x.1) (b := q) (n := n - 1) (by omega) (by omega)
    omega
  · have := dd_sub_le H (a := x.1) (b := q) (n := n - 1) (by omega) (by omega)
    omega
theorem Dl_0 {R : Type} [Lean.Grind.CommRing R] {p : Nat} {co : R → Nat → Int} {mk : (Nat → Int) → R} (H : PD p co mk) {n : Nat} (hn : 2 ≤ n) : Dl co n ((0 : R), (1 : R), 0, 0) := ⟨by show dd co (0 : R) < n; rw [dd_zero H]; omega, by show dd co (1 : R) < n; rw [dd_one H]; omega⟩
