/-! readModulus -/
noncomputable def vp {R : Type} (mk : (Nat → Int) → R) (vs : List Int) (n : Nat) : R := mk (fun k => if k < n then vs.getD k 0 else 0)
theorem Vs_get {w : Nat → Int} {vs : List Int} (h : Vs w vs) {k : Nat} (hk : k < vs.length) : vs.getD k 0 = w k ∧ 0 ≤ w k ∧ w k ≤ 12 := by
  have h1 : vs[k]? = some vs[k] := List.getElem?_eq_getElem hk
  have h2 := h k _ h1
  have e : vs.getD k 0 = vs[k] := by rw [List.getD_eq_getElem?_getD, h1]; rfl
  rw [e, ← h2.1] at *
  exact ⟨h2.1.symm ▸ rfl, by omega, by omega⟩
def vok (p : Nat) (vs : List Int) : Prop := ∀ k, k < vs.length → 0 ≤ vs.getD k 0 ∧ vs.getD k 0 < p
theorem co_vp {R : Type} [Lean.Grind.CommRing R] {p : Nat} {co : R → Nat → Int} {mk : (Nat → Int) → R} (H : PD p co mk) {vs : List Int} (hv : vok p vs) {n : Nat} (hn : n ≤ vs.length) (k : Nat) : co (vp mk vs n) k = if k < n then vs.getD k 0 else 0 := by
  have hp := pd_p H
  refine pd_mk H (fun k => ?_) ⟨n, fun k hk => if_neg (by omega)⟩ k
  split
  · exact hv k (by omega)
  · omega
theorem vp_0 {R : Type} [Lean.Grind.CommRing R] {p : Nat} {co : R → Nat → Int} {mk : (Nat → Int) → R} (H : PD p co mk) {vs : List Int} (hv : vok p vs) : vp mk vs 0 = (0 : R) := pd_ext H (fun k => by rw [co_vp H hv (by omega), if_neg (by omega), co_zero H])
theorem vp_s {R : Type} [Lean.Grind.CommRing R] {p : Nat} {co : R → Nat → Int} {mk : (Nat → Int) → R} (H : PD p co mk) {vs : List Int} (hv : vok p vs) {n : Nat} (hn : n < vs.length) : vp mk vs n + mo p mk (vs.getD n 0 - co (vp mk vs n) n) n = (vp mk vs (n + 1) : R) := pd_ext H (fun k => by
  rw [co_add H, co_mo H, co_vp H hv (by omega), co_vp H hv (by omega), co_vp H hv (by omega), if_neg (Nat.lt_irrefl n), Int.sub_zero]
  have hb := hv n hn
  by_cases q : k = n
  · subst q
    rw [if_neg (by omega), if_pos rfl, if_pos (by omega), Int.zero_add, Int.emod_emod, Int.emod_eq_of_lt hb.1 hb.2]
  · rw [if_neg q, Int.add_zero]
    by_cases q2 : k < n
    · rw [if_pos q2, if_pos (by omega)]
      have := hv k (by omega)
      exact Int.emod_eq_of_lt this.1 this.2
    · rw [if_neg q2, if_neg (by omega)]; simp)
theorem vp_mon {R : Type} [Lean.Grind.CommRing R] {p : Nat} {co : R → Nat → Int} {mk : (Nat → Int) → R} (H : PD p co mk) {vs : List Int} (hv : vok p vs) {n : Nat} (hl : vs.length = n + 1) (h1 : vs.getD n 0 = 1) : dd co (vp mk vs vs.length) = n + 1 ∧ mon co (vp mk vs vs.length) := by
  have hd : dd co (vp mk vs vs.length) = n + 1 := dd_of H (fun k hk => by rw [co_vp H hv (Nat.le_refl _), if_neg (by omega)]) (Or.inr (by rw [Nat.add_sub_cancel, co_vp H hv (Nat.le_refl _), if_pos (by omega), h1]; decide))
  exact ⟨hd, by omega, by rw [hd, Nat.add_sub_cancel, co_vp H hv (Nat.le_refl _), if_pos (by omega), h1]⟩
/-- the text tells a modulus -/
def mok (p : Nat) (vs : List Int) : Prop := vok p vs ∧ 2 ≤ vs.length ∧ vs.getD (vs.length - 1) 0 = 1
theorem spec_X9_isModulusTold {σ : SG} {p : Nat} {vs : List Int} {Q : Int → SG → Prop} (hσ : σ 1 0 = p) (h3 : σ 30 3 = vs.length) (hl : vs.length ≤ 7) (hV : Vs (σ 32) vs) (h1 : mok p vs → Q 1 σ) (h0 : ¬ mok p vs → Q 0 σ) : wp_X9_isModulusTold σ Q := by
  unfold wp_X9_isModulusTold
  refine Lp1_m (fun x σ' => ∃ k : Nat, x = k ∧ k ≤ vs.length ∧ σ' = σ ∧ ∀ j, j < k → vs.getD j 0 < p) (fun x _ => (8 - x).toNat) ⟨0, rfl, by omega, rfl, fun j hj => by omega⟩ ?_
  rintro x σ1 r ⟨k, rfl, hk, rfl, hj⟩ hr
  rw [h3]
  refine ⟨fun hend => ⟨fun hle => h0 (fun hm => by have := hm.2.1; omega), fun hgt => ?_⟩, fun hlt => ?_⟩
  · obtain ⟨n, hn⟩ : ∃ n, vs.length = n + 1 := ⟨vs.length - 1, by omega⟩
    have hg := Vs_get hV (k := n) (by omega)
    rw [hn, show (((n + 1 : Nat) : Int) - 1).toNat = n by omega, ← hg.1]
    refine ⟨by omega, by omega, fun hne => h0 (fun hm => hne (by have := hm.2.2; rw [hn] at this; exact this)), fun he => h1 ⟨fun j hj2 => ?_, by omega, by rw [hn]; exact he⟩⟩
    have := Vs_get hV hj2
    exact ⟨by omega, hj j (by omega)⟩
  · have hg := Vs_get hV (k := k) (by omega)
    rw [Int.toNat_natCast, hσ, ← hg.1]
    refine ⟨by omega, fun h => ⟨by omega, hr _ _ ⟨k + 1, by omega, by omega, rfl, fun j hj2 => ?_⟩ (by omega)⟩, fun h => h0 (fun hm => h (hm.1 k (by omega)).2)⟩
    by_cases q : j = k
    · rw [q]; exact h
    · exact hj j (by omega)
theorem spec_X8_copyPolynomial {R : Type} [Lean.Grind.CommRing R] {p : Nat} {co : R → Nat → Int} {mk : (Nat → Int) → R} (H : PD p co mk) {σ : SG} {t : Nat} {vs : List Int} {Q : SG → Prop} (h3 : σ 30 3 = vs.length) (hl : vs.length ≤ 7) (hV : Vs (σ 32) vs) (hv : vok p vs) (ht : KT.getD t 99 = 4) (htn : t ≠ 30 ∧ t ≠ 32 ∧ t + 1 ≠ 30 ∧ t + 1 ≠ 32) (hQ : ∀ σ', Fr1 σ σ' t → Rp co σ' t (vp mk vs vs.length : R) → Q σ') : wp_X8_copyPolynomial σ t Q := by
  unfold wp_X8_copyPolynomial
  refine spec_X4_clear H ht (fun σ1 k1 m1 => ?_)
  refine Lp1_m (fun x σ' => ∃ k : Nat, x = k ∧ k ≤ vs.length ∧ Fr1 σ σ' t ∧ Rp co σ' t (vp mk vs k : R)) (fun x _ => (8 - x).toNat) ⟨0, rfl, by omega, k1, by rw [vp_0 H hv]; exact m1⟩ ?_
  rintro x σ2 r ⟨k, rfl, hk, f2, m2⟩ hr
  rw [f2 30 (by omega) (by omega), h3]
  refine ⟨fun h => ?_, fun h => ⟨by omega, ?_⟩⟩
  · have e : k = vs.length := by omega
    rw [e] at m2
    exact hQ σ2 f2 m2
  · have hg := Vs_get hV (k := k) (by omega)
    have hb := hv k (by omega)
    rw [Int.toNat_natCast, f2 32 (by omega) (by omega), ← hg.1]
    refine spec_X4_set H m2 (by omega) hb (fun σ3 k3 m3 => ⟨by omega, hr _ _ ⟨k + 1, by omega, by omega, f2.tr k3, ?_⟩ (by omega)⟩)
    rw [Int.toNat_natCast, vp_s H hv (by omega)] at m3
    exact m3
