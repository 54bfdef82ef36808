theorem dp_deg {R : Type} [Lean.Grind.CommRing R] {p : Nat} {co : R → Nat → Int} {mk : (Nat → Int) → R} (H : PD p co mk) {f : R} (hf : mon co f) (hs : SF p co mk f) {d : Nat} (h : dd co (dp p co mk f (d + 1)) ≠ 1) : d + 2 ≤ dd co (dp p co mk f (d + 1)) := by
  have hm := (rs_spec H hf d).2.1
  obtain ⟨q, hq, hqd⟩ := Ir_ex H _ _ hm (by have := hm.1; omega) (Nat.le_refl _)
  have h1 := Dv_dd H (mon_ne H hm) hqd
  rcases Nat.lt_or_ge (dd co q) (d + 2) with k | k
  · exfalso
    have h2 := hq.2.1
    obtain ⟨e, he⟩ : ∃ e, dd co q - 1 = e + 1 := ⟨dd co q - 2, by omega⟩
    have hq2 : Dv q (rs p co mk f d) := Dv_tr hqd (by rw [(rs_spec H hf d).2.2]; exact Dv_r _ _)
    have hq3 : Dv q (rs p co mk f (e + 1)) := by
      have h4 := rs_mono H hf (e + 1) (d - (e + 1))
      rw [show e + 1 + (d - (e + 1)) = d by omega] at h4
      exact Dv_tr hq2 h4
    have hq4 : Dv q (rs p co mk f e) := Dv_tr hq3 (by rw [(rs_spec H hf e).2.2]; exact Dv_l _ _)
    have h6 := Ir_frob H hq
    rw [he] at h6
    have h7 : Dv q (dp p co mk f (e + 1)) := gc_dv H hq4 h6
    obtain ⟨u, v, h8⟩ := rs_dp_cp H hf hs e
    have h9 : Dv q 1 := by rw [← h8]; exact Dv_add (Dv_mull _ hq3) (Dv_mull _ h7)
    have h10 := Dv_dd H (one_ne H) h9
    rw [dd_one H] at h10
    omega
  · omega
theorem dv_all {R : Type} [Lean.Grind.CommRing R] {p : Nat} {co : R → Nat → Int} {mk : (Nat → Int) → R} (H : PD p co mk) {f z : R} (hf : mon co f) (hs : SF p co mk f) : ∀ k, (∀ d, 1 ≤ d → d ≤ k → Dv (dp p co mk f d) z) → Dv (rs p co mk f k) z → Dv f z := by
  intro k
  induction k with
  | zero => intro _ h; exact h
  | succ k ih =>
    intro h1 h2
    refine ih (fun d a b => h1 d a (by omega)) ?_
    rw [(rs_spec H hf k).2.2]
    exact Cp_mul_dv (rs_dp_cp H hf hs k) h2 (h1 (k + 1) (by omega) (Nat.le_refl _))
def lm (a b : Nat) : Nat := a / Nat.gcd a b * b
theorem lm_dvd (a b : Nat) : a ∣ lm a b ∧ b ∣ lm a b := by
  unfold lm
  refine ⟨?_, ⟨a / Nat.gcd a b, Nat.mul_comm _ _⟩⟩
  obtain ⟨c, hc⟩ := Nat.gcd_dvd_right a b
  have h2 := Nat.div_mul_cancel (Nat.gcd_dvd_left a b)
  refine ⟨c, ?_⟩
  calc a / Nat.gcd a b * b = a / Nat.gcd a b * (Nat.gcd a b * c) := by rw [← hc]
    _ = a / Nat.gcd a b * Nat.gcd a b * c := by rw [Nat.mul_assoc]
    _ = a * c := by rw [h2]
theorem lm_le (a b : Nat) : lm a b ≤ a * b := Nat.mul_le_mul_right b (Nat.div_le_self _ _)
theorem lm_pos {a b : Nat} (ha : 1 ≤ a) (hb : 1 ≤ b) : 1 ≤ lm a b := by
  unfold lm
  have h1 : 0 < a / Nat.gcd a b := Nat.div_pos (Nat.le_of_dvd (by omega) (Nat.gcd_dvd_left a b)) (Nat.gcd_pos_of_pos_left b (by omega))
  exact Nat.mul_pos h1 (by omega)
noncomputable def exN {R : Type} [Lean.Grind.CommRing R] (p : Nat) (co : R → Nat → Int) (mk : (Nat → Int) → R) (f : R) : Nat → Nat
  | 0 => 1
  | k + 1 => if fcn p co mk f (k + 1) ≤ 0 then exN p co mk f k else lm (exN p co mk f k) (p ^ (k + 1) - 1)
theorem pw_pos {p : Nat} (hp : 2 ≤ p) (k : Nat) : 1 ≤ p ^ (k + 1) - 1 := by
  have h : p ^ 1 ≤ p ^ (k + 1) := Nat.pow_le_pow_right (by omega) (by omega)
  rw [Nat.pow_one] at h
  omega
theorem exN_pos {R : Type} [Lean.Grind.CommRing R] {p : Nat} {co : R → Nat → Int} {mk : (Nat → Int) → R} (H : PD p co mk) {f : R} (k : Nat) : 1 ≤ exN p co mk f k := by
  have hp := pd_p H
  induction k with
  | zero => exact Nat.le_refl 1
  | succ k ih =>
    rw [exN]
    split
    · exact ih
    · exact lm_pos ih (pw_pos hp.1 k)
theorem fcn_pos {R : Type} [Lean.Grind.CommRing R] {p : Nat} {co : R → Nat → Int} {mk : (Nat → Int) → R} (H : PD p co mk) {f : R} (hf : mon co f) {k : Nat} (h : ¬ fcn p co mk f (k + 1) ≤ 0) : k + 2 ≤ dd co (dp p co mk f (k + 1)) := by
  have h1 := (rs_spec H hf k).2.1.1
  unfold fcn at h
  obtain ⟨n, hn⟩ : ∃ n, dd co (dp p co mk f (k + 1)) = n + 1 := ⟨dd co (dp p co mk f (k + 1)) - 1, by omega⟩
  rw [hn, show ((n + 1 : Nat) : Int) - 1 = (n : Int) by omega, tdivN] at h
  rcases Nat.lt_or_ge n (k + 1) with q | q
  · rw [Nat.div_eq_of_lt q] at h
    exact absurd (Int.le_refl 0) h
  · omega
theorem exN_le {R : Type} [Lean.Grind.CommRing R] {p : Nat} {co : R → Nat → Int} {mk : (Nat → Int) → R} (H : PD p co mk) {f : R} (hf : mon co f) (k : Nat) : exN p co mk f k ≤ p ^ (dd co f - dd co (rs p co mk f k)) := by
  have hp := pd_p H
  induction k with
  | zero => exact Nat.pow_pos (by omega)
  | succ k ih =>
    have h1 := (rs_spec H hf k)
    have h2 := (rs_spec H hf (k + 1)).1
    have h3 := dd_mul H (mon_ne H h2) (mon_ne H h1.2.1)
    rw [← h1.2.2] at h3
    have h4 := Dv_dd H (mon_ne H hf) (rs_dv H hf k)
    have h5 := h1.2.1.1
    have h6 := h2.1
    rw [exN]
    split
    · exact Nat.le_trans ih (Nat.pow_le_pow_right (by omega) (by omega))
    · next hc =>
      have h7 := fcn_pos H hf hc
      refine Nat.le_trans (lm_le _ _) ?_
      have h8 : exN p co mk f k * (p ^ (k + 1) - 1) ≤ p ^ (dd co f - dd co (rs p co mk f k)) * p ^ (k + 1) := Nat.mul_le_mul ih (Nat.sub_le _ _)
      rw [← Nat.pow_add] at h8
      exact Nat.le_trans h8 (Nat.pow_le_pow_right (by omega) (by omega))
theorem exN_bd {R : Type} [Lean.Grind.CommRing R] {p : Nat} {co : R → Nat → Int} {mk : (Nat → Int) → R} (H : PD p co mk) {f : R} (hf : mon co f) (hd : dd co f ≤ 7) (k : Nat) : exN p co mk f k ≤ 4826809 := by
  have hp := pd_p H
  have h1 := exN_le H hf k
  have h2 := (rs_spec H hf k).1.1
  have h3 : p ^ (dd co f - dd co (rs p co mk f k)) ≤ 13 ^ 6 := Nat.le_trans (Nat.pow_le_pow_left hp.2 _) (Nat.pow_le_pow_right (by decide) (by omega))
  have h4 : (13 : Nat) ^ 6 = 4826809 := by decide
  omega
theorem lm_bd {R : Type} [Lean.Grind.CommRing R] {p : Nat} {co : R → Nat → Int} {mk : (Nat → Int) → R} (H : PD p co mk) {f : R} (hf : mon co f) (hd : dd co f ≤ 7) {k : Nat} (h : ¬ fcn p co mk f (k + 1) ≤ 0) : lm (exN p co mk f k) (p ^ (k + 1) - 1) ≤ 4826809 := by
  have := exN_bd H hf hd (k + 1)
  rw [exN, if_neg h] at this
  exact this
theorem exN_dvd {R : Type} [Lean.Grind.CommRing R] {p : Nat} {co : R → Nat → Int} {mk : (Nat → Int) → R} (H : PD p co mk) {f : R} (k e : Nat) : exN p co mk f k ∣ exN p co mk f (k + e) := by
  induction e with
  | zero => exact Nat.dvd_refl _
  | succ e ih =>
    refine Nat.dvd_trans ih ?_
    show _ ∣ exN p co mk f (k + e + 1)
    rw [exN]
    split
    · exact Nat.dvd_refl _
    · exact (lm_dvd _ _).1
/-- what can be inverted has the power 1 -/
theorem exN_one {R : Type} [Lean.Grind.CommRing R] {p : Nat} {co : R → Nat → Int} {mk : (Nat → Int) → R} (H : PD p co mk) {f a : R} (hf : mon co f) (hd : dd co f ≤ 7) (hs : SF p co mk f) : Dv f (a ^ (exN p co mk f 6) - 1) ↔ Cp f a := by
  have hp := pd_p H
  constructor
  · intro h
    obtain ⟨n, hn⟩ : ∃ n, exN p co mk f 6 = n + 1 := ⟨exN p co mk f 6 - 1, by have := exN_pos H (f := f) 6; omega⟩
    rw [hn, pw_s] at h
    obtain ⟨c, hc⟩ := h
    exact ⟨-c, a ^ n, by grind⟩
  · intro h
    have h6 : rs p co mk f 6 = 1 := rs_6 H hf hs 6 hd
    refine dv_all H hf hs 6 (fun d d1 d6 => ?_) (by rw [h6]; exact Dv_one _)
    obtain ⟨k, rfl⟩ : ∃ k, d = k + 1 := ⟨d - 1, by omega⟩
    have hm := (rs_spec H hf k).2.1
    by_cases q : dd co (dp p co mk f (k + 1)) = 1
    · rw [mon1 H hm q]; exact Dv_one _
    · have hdeg := dp_deg H hf hs q
      have hc : ¬ fcn p co mk f (k + 1) ≤ 0 := by
        unfold fcn
        obtain ⟨n, hn⟩ : ∃ n, dd co (dp p co mk f (k + 1)) = n + 1 := ⟨dd co (dp p co mk f (k + 1)) - 1, by omega⟩
        rw [hn, show ((n + 1 : Nat) : Int) - 1 = (n : Int) by omega, tdivN]
        have : 0 < n / (k + 1) := Nat.div_pos (by omega) (by omega)
        omega
      have hdv : p ^ (k + 1) - 1 ∣ exN p co mk f 6 := by
        have h1 := exN_dvd H (f := f) (k + 1) (6 - (k + 1))
        rw [show k + 1 + (6 - (k + 1)) = 6 by omega] at h1
        refine Nat.dvd_trans ?_ h1
        rw [exN, if_neg hc]
        exact (lm_dvd _ _).2
      have hcp : Cp (dp p co mk f (k + 1)) a := Cp_sub h (dp_dv H hf k)
      have hfr := frob_all H (gc_r H (rs p co mk f k) (xx p mk ^ (p ^ (k + 1)) - xx p mk)) (dd co a) a (Nat.le_refl _)
      have hfr2 : Dv (dp p co mk f (k + 1)) (a * (a ^ (p ^ (k + 1) - 1) - 1)) := by
        have e : a * (a ^ (p ^ (k + 1) - 1) - 1) = a ^ (p ^ (k + 1)) - a := by
          have h1 := pw_pos hp.1 k
          obtain ⟨n, hn⟩ : ∃ n, p ^ (k + 1) = n + 1 := ⟨p ^ (k + 1) - 1, by omega⟩
          rw [hn, Nat.add_sub_cancel, pw_s]
          grind
        rw [e]
        exact hfr
      obtain ⟨q, hq⟩ := hdv
      rw [hq]
      exact pw_one_mul (Cp_dv hcp hfr2) q
theorem gcd_step {x y : Nat} (hy : 1 ≤ y) : Nat.gcd y (x % y) = Nat.gcd x y := by
  rw [Nat.gcd_comm x y, Nat.gcd_rec y x, Nat.gcd_comm]
theorem spec_X1_leastMultiple {σ : SG} {a b : Nat} {Q : Int → SG → Prop} (ha : 1 ≤ a) (hb : 1 ≤ b) (ha2 : a ≤ 10000000) (hb2 : b ≤ 10000000) (hl : lm a b < 2147483648) (hQ : Q (lm a b) σ) : wp_X1_leastMultiple σ a b Q := by
  unfold wp_X1_leastMultiple
  refine ⟨fun x s => s = σ ∧ x = ((Nat.gcd a b : Nat) : Int), ?_, ?_⟩
  · rintro x s ⟨rfl, rfl⟩
    have hg : 0 < Nat.gcd a b := Nat.gcd_pos_of_pos_left b (by omega)
    refine ⟨fun h => by omega, fun _ => ?_⟩
    rw [tdivN]
    have h1 : a / Nat.gcd a b ≤ a := Nat.div_le_self _ _
    have e : (((a / Nat.gcd a b : Nat) : Int) * (b : Int)) = ((lm a b : Nat) : Int) := by unfold lm; rw [Int.natCast_mul]
    rw [e]
    exact ⟨by omega, inRN (by omega), inRN hl, hQ⟩
  · refine Lp3_m (fun i y x σ' => ∃ j u v : Nat, i = j ∧ y = v ∧ x = u ∧ σ' = σ ∧ j ≤ 64 ∧ Nat.gcd u v = Nat.gcd a b ∧ 1 ≤ u ∧ (j = 0 ∧ u = a ∧ v = b ∨ v < u ∧ u * v * 2 ^ j ≤ 2 * (a * b))) (fun i _ _ _ => (64 - i).toNat) ⟨0, a, b, rfl, rfl, rfl, rfl, by omega, rfl, ha, Or.inl ⟨rfl, rfl, rfl⟩⟩ ?_
    rintro i y x σ1 r ⟨j, u, v, rfl, rfl, rfl, rfl, j64, hg, hu, hi⟩ hr
    have hab : a * b ≤ 10000000 * 10000000 := Nat.mul_le_mul ha2 hb2
    refine ⟨fun h => ⟨rfl, ?_⟩, fun h => ⟨fun h0 => ⟨rfl, ?_⟩, fun h0 => ⟨by omega, ?_⟩⟩⟩
    · have hj : j = 64 := by omega
      rcases hi with hi | ⟨h1, h2⟩
      · omega
      · have hv : v = 0 := by
          rcases Nat.eq_zero_or_pos v with z | z
          · exact z
          · exfalso
            have h3 : 1 ≤ u * v := Nat.mul_pos hu z
            have h4 : 1 * 2 ^ 64 ≤ u * v * 2 ^ j := by rw [hj]; exact Nat.mul_le_mul_right _ h3
            have h5 : (1 : Nat) * 2 ^ 64 = 18446744073709551616 := by decide
            omega
        rw [hv, Nat.gcd_zero_right] at hg
        rw [hg]
    · have hv : v = 0 := by omega
      rw [hv, Nat.gcd_zero_right] at hg
      rw [hg]
    · rintro w hw
      rw [tmodN] at hw
      have hmod := Nat.mod_lt u (show v > 0 by omega)
      refine ⟨by omega, hr _ _ _ _ ⟨j + 1, v, u % v, by omega, hw, rfl, rfl, by omega, by rw [gcd_step (by omega)]; exact hg, by omega, Or.inr ⟨hmod, ?_⟩⟩ (by omega)⟩
      rcases hi with ⟨rfl, rfl, rfl⟩ | ⟨h1, h2⟩
      · have h3 : v * (u % v) ≤ v * u := Nat.mul_le_mul_left _ (Nat.mod_le _ _)
        rw [Nat.mul_comm v u] at h3
        show v * (u % v) * 2 ≤ 2 * (u * v)
        omega
      · have h3 : 2 * (u % v) ≤ u := by
          have h4 := Nat.div_add_mod u v
          have h5 : 1 ≤ u / v := Nat.div_pos (by omega) (by omega)
          have h6 : v * 1 ≤ v * (u / v) := Nat.mul_le_mul_left _ h5
          omega
        have h4 : v * (u % v) * 2 ^ (j + 1) = v * (2 * (u % v)) * 2 ^ j := by
          rw [Nat.pow_succ, Nat.mul_comm (2 ^ j) 2, ← Nat.mul_assoc, Nat.mul_assoc v, Nat.mul_comm (u % v) 2]
        have h5 : v * (2 * (u % v)) * 2 ^ j ≤ v * u * 2 ^ j := Nat.mul_le_mul_right _ (Nat.mul_le_mul_left _ h3)
        rw [Nat.mul_comm v u] at h5
        omega
theorem spec_X10_divisor {σ : SG} {a b : Nat} {Q : Int → SG → Prop} (ha : 1 ≤ a) (hQ : Q (Nat.gcd a b) σ) : wp_X10_divisor σ a b Q := by
  unfold wp_X10_divisor
  refine Lp2_m (fun y x σ' => ∃ u v : Nat, y = v ∧ x = u ∧ σ' = σ ∧ Nat.gcd u v = Nat.gcd a b) (fun y _ _ => y.toNat) ⟨a, b, rfl, rfl, rfl, rfl⟩ ?_
  rintro y x σ1 r ⟨u, v, rfl, rfl, rfl, hg⟩ hr
  refine ⟨fun h => ?_, fun h => ⟨by omega, ?_⟩⟩
  · have hv : v = 0 := by omega
    rw [hv, Nat.gcd_zero_right] at hg
    rw [hg]
    exact hQ
  · rintro w hw
    rw [tmodN] at hw
    have hmod := Nat.mod_lt u (show v > 0 by omega)
    exact hr _ _ _ ⟨v, u % v, hw, rfl, rfl, by rw [gcd_step (by omega)]; exact hg⟩ (by omega)
theorem pw_bd {p : Nat} (hp : p ≤ 13) {k : Nat} (hk : k ≤ 7) : p ^ k ≤ 62748517 := by
  have h1 : p ^ k ≤ 13 ^ 7 := Nat.le_trans (Nat.pow_le_pow_left hp _) (Nat.pow_le_pow_right (by decide) hk)
  have h2 : (13 : Nat) ^ 7 = 62748517 := by decide
  omega
theorem pw_bd6 {p : Nat} (hp : p ≤ 13) {k : Nat} (hk : k ≤ 6) : p ^ k ≤ 4826809 := by
  have h1 : p ^ k ≤ 13 ^ 6 := Nat.le_trans (Nat.pow_le_pow_left hp _) (Nat.pow_le_pow_right (by decide) hk)
  have h2 : (13 : Nat) ^ 6 = 4826809 := by decide
  omega
theorem spec_X1_commonExponent {R : Type} [Lean.Grind.CommRing R] {p : Nat} {co : R → Nat → Int} {mk : (Nat → Int) → R} (H : PD p co mk) {σ : SG} {f : R} {Q : Int → SG → Prop} (hσ : σ 1 0 = p) (hf : mon co f) (hd : dd co f ≤ 7) (hD : ∀ d, 1 ≤ d → d ≤ 6 → Rp co σ (101 + 1 + 2 * d) (dp p co mk f d)) (hQ : Q (exN p co mk f 6) σ) : wp_X1_commonExponent σ Q := by
  unfold wp_X1_commonExponent
  have hp := pd_p H
  refine Lp3_m (fun x y z σ' => ∃ k : Nat, x = (k : Int) + 1 ∧ k ≤ 6 ∧ σ' = σ ∧ y = ((p ^ k : Nat) : Int) ∧ z = ((exN p co mk f k : Nat) : Int)) (fun x _ _ _ => (8 - x).toNat) ⟨0, rfl, by omega, rfl, rfl, rfl⟩ ?_
  rintro x y z σ1 r ⟨k, rfl, k6, rfl, rfl, rfl⟩ hr
  refine ⟨fun h => by rw [show k = 6 by omega]; exact hQ, fun h => ?_⟩
  have hk5 : k < 6 := by omega
  have e1 : ((p ^ k : Nat) : Int) * (p : Int) = ((p ^ (k + 1) : Nat) : Int) := by rw [Nat.pow_succ, Int.natCast_mul]
  have hb1 := pw_bd6 hp.2 (show k + 1 ≤ 6 by omega)
  have hb2 := exN_bd H hf hd k
  have hb3 := exN_pos H (f := f) k
  have hb4 := pw_pos hp.1 k
  rw [hσ, e1]
  refine ⟨inRN (by omega), ?_⟩
  rintro v rfl
  refine spec_X1_factorsOf H hf hd hD (fun d e d1 d6 => ?_) (fun h => by omega)
  have hde : d = k + 1 := by omega
  subst hde
  refine ⟨fun hc => ⟨by omega, hr _ _ _ _ ⟨k + 1, by omega, by omega, rfl, rfl, by rw [exN, if_pos hc]⟩ (by omega)⟩, fun hc => ?_⟩
  have e2 : ((p ^ (k + 1) : Nat) : Int) - 1 = ((p ^ (k + 1) - 1 : Nat) : Int) := by omega
  rw [e2]
  refine ⟨inRN (by omega), spec_X1_leastMultiple hb3 hb4 (by omega) (by omega) (by have := lm_bd H hf hd hc; omega) ⟨by omega, hr _ _ _ _ ⟨k + 1, by omega, by omega, rfl, rfl, by rw [exN, if_neg hc]⟩ (by omega)⟩⟩
