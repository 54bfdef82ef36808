/-! orders -/
/-- the order of a modulo f -/
def isOrd {R : Type} [Lean.Grind.CommRing R] (f a : R) (o : Nat) : Prop := 1 ≤ o ∧ ∀ k, Dv f (a ^ k - 1) ↔ o ∣ k
theorem inRN {n : Nat} (h : n < 2147483648) : inR (n : Int) := ⟨by omega, by omega⟩
theorem pw_one_mul {R : Type} [Lean.Grind.CommRing R] {f a : R} {m : Nat} (h : Dv f (a ^ m - 1)) (q : Nat) : Dv f (a ^ (m * q) - 1) := by
  rw [← pw_pw]
  have h1 := cg_pw h q
  have e : (1 : R) ^ q = 1 := by
    clear h1 h
    induction q with
    | zero => exact pw_0 _
    | succ q ih => rw [pw_s, ih]; grind
  rw [e] at h1
  exact h1
theorem ord_least {R : Type} [Lean.Grind.CommRing R] {f a : R} : ∀ (n N : Nat), N ≤ n → 1 ≤ N → Dv f (a ^ N - 1) → ∃ o, 1 ≤ o ∧ Dv f (a ^ o - 1) ∧ ∀ k, 1 ≤ k → Dv f (a ^ k - 1) → o ≤ k := by
  intro n
  induction n with
  | zero => intro N h1 h2; omega
  | succ n ih =>
    intro N h1 h2 h3
    by_cases h : ∃ k, 1 ≤ k ∧ k < N ∧ Dv f (a ^ k - 1)
    · obtain ⟨k, k1, k2, k3⟩ := h
      exact ih k (by omega) k1 k3
    · refine ⟨N, h2, h3, fun k k1 k3 => ?_⟩
      rcases Nat.lt_or_ge k N with q | q
      · exact absurd ⟨k, k1, q, k3⟩ h
      · exact q
theorem ord_ex {R : Type} [Lean.Grind.CommRing R] {f a : R} {N : Nat} (h1 : 1 ≤ N) (h : Dv f (a ^ N - 1)) : ∃ o, isOrd f a o := by
  obtain ⟨o, o1, o2, o3⟩ := ord_least N N (Nat.le_refl _) h1 h
  refine ⟨o, o1, fun k => ⟨fun hk => ?_, fun hk => ?_⟩⟩
  · have h5 : Dv f (a ^ (k % o) - 1) := by
      have h6 : a ^ k = a ^ (o * (k / o)) * a ^ (k % o) := by rw [← pw_add, Nat.div_add_mod]
      have h7 := pw_one_mul o2 (k / o)
      rw [h6] at hk
      obtain ⟨x, hx⟩ := hk
      obtain ⟨y, hy⟩ := h7
      exact ⟨x - y * a ^ (k % o), by grind⟩
    have hlt := Nat.mod_lt k (show o > 0 by omega)
    apply Nat.dvd_of_mod_eq_zero
    apply Decidable.byContradiction
    intro h0
    have := o3 (k % o) (by omega) h5
    omega
  · obtain ⟨q, rfl⟩ := hk
    exact pw_one_mul o2 q
/-- no number from 2 below c divides n -/
def nodv (c n : Nat) : Prop := ∀ d, 2 ≤ d → d < c → ¬ d ∣ n
theorem nodv_dvd {c n m : Nat} (h : nodv c n) (k : m ∣ n) : nodv c m := fun d d1 d2 d3 => h d d1 d2 (Nat.dvd_trans d3 k)
/-- q has no divisors but 1 and itself -/
def prm (q : Nat) : Prop := 2 ≤ q ∧ ∀ d, d ∣ q → d = 1 ∨ d = q
theorem prm_of {c n : Nat} (h : nodv c n) (hc : 2 ≤ c) (k : c ∣ n) : prm c := by
  refine ⟨hc, fun d hd => ?_⟩
  have hle := Nat.le_of_dvd (by omega) hd
  rcases Nat.lt_or_ge d 2 with q | q
  · rcases Nat.eq_zero_or_pos d with e | e
    · subst e
      have := Nat.eq_zero_of_zero_dvd hd
      omega
    · omega
  · rcases Nat.lt_or_ge d c with q2 | q2
    · exact absurd (Nat.dvd_trans hd k) (h d q q2)
    · omega
theorem prm_rest {c n : Nat} (h : nodv c n) (hc : 2 ≤ c) (hn : 2 ≤ n) (hs : n / c < c) : prm n := by
  refine ⟨hn, fun d hd => ?_⟩
  obtain ⟨e, he⟩ := hd
  rcases Nat.lt_or_ge d 2 with q | q
  · rcases Nat.eq_zero_or_pos d with q2 | q2
    · subst q2; omega
    · omega
  · rcases Nat.lt_or_ge e 2 with q2 | q2
    · have : e = 1 := by
        rcases Nat.eq_zero_or_pos e with q3 | q3
        · subst q3; omega
        · omega
      subst this
      omega
    · have h1 : c ≤ d := by
        rcases Nat.lt_or_ge d c with q3 | q3
        · exact absurd ⟨e, he⟩ (h d q q3)
        · exact q3
      have h2 : c ≤ e := by
        rcases Nat.lt_or_ge e c with q3 | q3
        · exact absurd ⟨d, by rw [he, Nat.mul_comm]⟩ (h e q2 q3)
        · exact q3
      have h3 : c * c ≤ n := by rw [he]; exact Nat.mul_le_mul h1 h2
      have h4 : c ≤ n / c := by
        rw [Nat.le_div_iff_mul_le (by omega)]
        exact h3
      omega
theorem prm_cop {q m : Nat} (hq : prm q) (h : ¬ q ∣ m) : Nat.Coprime q m := by
  rcases hq.2 _ (Nat.gcd_dvd_left q m) with e | e
  · exact e
  · exact absurd (by rw [← e]; exact Nat.gcd_dvd_right q m) h
/-- the way: e is a multiple of the order, what is too much in it divides the rest, and the rest divides e -/
def Oway (o e r : Nat) : Prop := (∃ t, e = o * t ∧ t ∣ r) ∧ r ∣ e ∧ 1 ≤ e
theorem Oway_0 {o N : Nat} (h : o ∣ N) (hN : 1 ≤ N) : Oway o N N := by
  obtain ⟨t, ht⟩ := h
  exact ⟨⟨t, ht, ⟨o, by rw [ht, Nat.mul_comm]⟩⟩, Nat.dvd_refl _, hN⟩
theorem Oway_pos {o e r : Nat} (h : Oway o e r) : 1 ≤ r ∧ 1 ≤ o := by
  obtain ⟨⟨t, h1, h2⟩, h3, h4⟩ := h
  refine ⟨?_, ?_⟩
  · rcases Nat.eq_zero_or_pos r with q | q
    · subst q
      have := Nat.eq_zero_of_zero_dvd h3
      omega
    · exact q
  · rcases Nat.eq_zero_or_pos o with q | q
    · subst q; omega
    · exact q
theorem Oway_y {o e q s : Nat} (h : Oway o e (q * s)) (hq : 1 ≤ q) (hk : o ∣ e / q) : Oway o (e / q) s := by
  obtain ⟨⟨t, h1, h2⟩, ⟨u, h3⟩, h4⟩ := h
  obtain ⟨v, hv⟩ := hk
  have hu : e / q = s * u := by rw [h3, Nat.mul_assoc, Nat.mul_div_cancel_left _ (by omega)]
  have ho : 1 ≤ o := by
    rcases Nat.eq_zero_or_pos o with z | z
    · subst z; omega
    · exact z
  refine ⟨⟨v, hv, ?_⟩, ⟨u, hu⟩, ?_⟩
  · obtain ⟨w, hw⟩ := h2
    have e1 : e = q * (o * v) := by rw [← hv, hu, h3, Nat.mul_assoc]
    have e2 : o * t = o * (q * v) := by rw [← h1, e1]; rw [Nat.mul_left_comm]
    have e3 : t = q * v := Nat.eq_of_mul_eq_mul_left ho e2
    rw [e3, Nat.mul_assoc] at hw
    exact ⟨w, Nat.eq_of_mul_eq_mul_left hq hw⟩
  · rcases Nat.eq_zero_or_pos (e / q) with z | z
    · rw [hu] at z
      rw [h3, Nat.mul_assoc, z] at h4
      omega
    · exact z
theorem Oway_n {o e q s : Nat} (h : Oway o e (q * s)) (hq : prm q) (hk : ¬ o ∣ e / q) : Oway o e s := by
  obtain ⟨⟨t, h1, h2⟩, ⟨u, h3⟩, h4⟩ := h
  refine ⟨⟨t, h1, ?_⟩, ⟨q * u, by rw [h3]; rw [Nat.mul_comm q s, Nat.mul_assoc]⟩, h4⟩
  have hnt : ¬ q ∣ t := fun ⟨w, hw⟩ => hk ⟨w, by rw [h1, hw, Nat.mul_left_comm, Nat.mul_div_cancel_left _ (by have := hq.1; omega)]⟩
  exact (Nat.Coprime.dvd_of_dvd_mul_left (prm_cop hq hnt).symm h2)
theorem Oway_end {o e : Nat} (h : Oway o e 1) : e = o := by
  obtain ⟨⟨t, h1, h2⟩, -, -⟩ := h
  have := Nat.dvd_one.mp h2
  rw [this, Nat.mul_one] at h1
  exact h1
theorem Oway_le {o e r : Nat} (h : Oway o e r) : r ≤ e := Nat.le_of_dvd h.2.2 h.2.1
theorem tdivN (a b : Nat) : Int.tdiv (a : Int) (b : Int) = ((a / b : Nat) : Int) := (Int.ofNat_tdiv a b).symm
theorem tmodN (a b : Nat) : Int.tmod (a : Int) (b : Int) = ((a % b : Nat) : Int) := (Int.ofNat_tmod a b).symm
theorem restis1 {c r : Nat} (h : nodv c r) (h1 : 1 ≤ r) (h2 : r < c) : r = 1 := by
  rcases Nat.lt_or_ge r 2 with q | q
  · omega
  · exact absurd (Nat.dvd_refl r) (h r q h2)
theorem nodv_s {c r : Nat} (h : nodv c r) (k : ¬ c ∣ r) : nodv (c + 1) r := fun d d1 d2 d3 => by
  by_cases e : d = c
  · rw [e] at d3; exact k d3
  · exact h d d1 (by omega) d3
theorem isOne_iff {R : Type} [Lean.Grind.CommRing R] {p : Nat} {co : R → Nat → Int} {mk : (Nat → Int) → R} (H : PD p co mk) {f a : R} {k : Nat} (hf : 2 ≤ dd co f) : rm co (a ^ k) f = 1 ↔ Dv f (a ^ k - 1) := by
  have hf0 := dd_ne0 H (a := f) (by omega)
  constructor
  · intro h
    have := rm_dv H (a ^ k) hf0
    rw [h] at this
    exact this
  · intro h
    exact rm_cg H (by rw [dd_one H]; omega) h
theorem spec_X6_leastExponent {R : Type} [Lean.Grind.CommRing R] {p : Nat} {co : R → Nat → Int} {mk : (Nat → Int) → R} (H : PD p co mk) {σ : SG} {t : Nat} {a f : R} {N o : Nat} {Q : Int → SG → Prop} (hM : Md p co σ f) (ha : Rp co σ t a) (hda : dd co a < dd co f) (ht : t ∉ [59, 34, 49, 51]) (hN1 : 1 ≤ N) (hN : N < 1073741824) (ho : isOrd f a o) (hoN : o ∣ N) (hQ : ∀ σ', FrL σ σ' [59, 34, 49, 51] → Q o σ') : wp_X6_leastExponent σ t N Q := by
  unfold wp_X6_leastExponent
  have hf2 := hM.2.2.2.1
  have PT : ∀ t ∈ [59, 34, 49, 51], KT.getD t 99 = 4 := by decide +kernel
  refine Lp3_m (fun x y z σ' => FrL σ σ' [59, 34, 49, 51] ∧ ∃ c r e : Nat, x = c ∧ y = r ∧ z = e ∧ 2 ≤ c ∧ c ≤ N + 2 ∧ nodv c r ∧ Oway o e r ∧ e ≤ N) (fun x _ _ _ => (N + 3 - x).toNat) ⟨FrL.rf _ _, 2, N, N, rfl, rfl, rfl, by omega, by omega, fun d d1 d2 => by omega, Oway_0 hoN hN1, Nat.le_refl _⟩ ?_
  rintro x y z σ1 rr ⟨f1, c, r, e, rfl, rfl, rfl, c2, cN, hnd, hw, heN⟩ hr
  have hrp := (Oway_pos hw).1
  have hre := Oway_le hw
  refine ⟨fun h => ?_, fun h => ⟨fun h1 => ?_, fun h1 => ?_⟩⟩
  · have h1 := restis1 hnd hrp (by omega)
    subst h1
    rw [Oway_end hw]
    exact hQ σ1 f1
  · have h1 : r = 1 := by omega
    subst h1
    rw [Oway_end hw]
    exact hQ σ1 f1
  · rw [tdivN]
    have hdl : r / c ≤ r := Nat.div_le_self _ _
    refine ⟨by omega, inRN (by omega), ?_⟩
    -- the factor to try
    refine ⟨fun x s => s = σ1 ∧ ∃ q : Nat, x = q ∧ 2 ≤ q ∧ (q ∣ r → prm q) ∧ (∀ r', r' ∣ r → ¬ q ∣ r' → nodv (c + 1) r'), ?_, fun h2 => ⟨rfl, c, rfl, c2, fun k => prm_of hnd c2 k, fun r' k1 k2 => nodv_s (nodv_dvd hnd k1) k2⟩, fun h2 => ⟨rfl, r, rfl, by omega, fun _ => prm_rest hnd c2 (by omega) (by omega), fun r' k1 k2 => ?_⟩⟩
    · rintro x σs ⟨rfl, q, rfl, q2, hq, hend⟩
      refine Lp3_m (fun x y z σ' => FrL σ σ' [59, 34, 49, 51] ∧ ∃ i r' e' : Nat, x = i ∧ y = r' ∧ z = e' ∧ i ≤ 31 ∧ r' * 2 ^ i ≤ N ∧ r' ∣ r ∧ Oway o e' r' ∧ e' ≤ N) (fun x _ _ _ => (31 - x).toNat) ⟨f1, 0, r, e, rfl, rfl, rfl, by omega, by omega, Nat.dvd_refl _, hw, heN⟩ ?_
      rintro x y z σ2 rr2 ⟨f2, i, r', e', rfl, rfl, rfl, i31, hpow, hrr, hw2, he2⟩ hr2
      have hrp2 := (Oway_pos hw2).1
      refine ⟨fun h3 => ?_, fun h3 => ?_⟩
      · exfalso
        have h31 : i = 31 := by omega
        subst h31
        have : 2 ^ 31 ≤ r' * 2 ^ 31 := Nat.le_mul_of_pos_left _ hrp2
        omega
      · rw [tmodN]
        refine ⟨by omega, fun h4 => ?_, fun h4 => ?_⟩
        · refine ⟨by omega, hr _ _ _ _ ⟨f2, c + 1, r', e', by omega, rfl, rfl, by omega, by omega, hend r' hrr (fun hd => h4 (by rw [Nat.mod_eq_zero_of_dvd hd]; rfl)), hw2, he2⟩ (by omega)⟩
        · have hd : q ∣ r' := Nat.dvd_of_mod_eq_zero (by omega)
          have hqp := hq (Nat.dvd_trans hd hrr)
          obtain ⟨s, rfl⟩ := hd
          rw [tdivN, Nat.mul_div_cancel_left _ (show 0 < q by omega)]
          have hsle : s ≤ q * s := Nat.le_mul_of_pos_left _ (by omega)
          have hle2 := Oway_le hw2
          refine ⟨by omega, by omega, ?_⟩
          rintro v rfl
          rw [tdivN]
          have hde : e' / q ≤ e' := Nat.div_le_self _ _
          refine ⟨by omega, inRN (by omega), ?_⟩
          have M2 := Md_frL H hM PT (by decide) f2
          have a2 := Rp_frL ha PT ht f2
          have hpow2 : s * 2 ^ (i + 1) ≤ N := by
            rw [Nat.pow_succ]
            have h6 : s * 2 ≤ q * s := by rw [Nat.mul_comm q s]; exact Nat.mul_le_mul_left s q2
            have h7 : s * 2 * 2 ^ i ≤ q * s * 2 ^ i := Nat.mul_le_mul_right _ h6
            rw [show s * (2 ^ i * 2) = s * 2 * 2 ^ i by rw [Nat.mul_comm (2 ^ i) 2, Nat.mul_assoc]]
            omega
          have hsr : s ∣ r := Nat.dvd_trans ⟨q, Nat.mul_comm q s⟩ hrr
          refine spec_X6_raise H M2 (by decide +kernel) a2 hda (by omega) (by decide) (by decide) (by decide) (by decide) (fun σ3 k3 m3 => spec_X4_isOne H m3 (fun w hw3 => ?_))
          have f3 := f2.tr k3
          rcases hw3 with ⟨rfl, hw3⟩ | ⟨rfl, hw3⟩
          · rw [Ne, isOne_iff H hf2, ho.2] at hw3
            exact ⟨fun _ => ⟨by omega, hr2 _ _ _ _ ⟨f3, i + 1, s, e', by omega, rfl, rfl, by omega, hpow2, hsr, Oway_n hw2 hqp hw3, he2⟩ (by omega)⟩, fun h => absurd rfl h⟩
          · rw [isOne_iff H hf2, ho.2] at hw3
            refine ⟨fun h => absurd h (by decide), fun _ => ⟨by omega, inRN (by omega), ?_⟩⟩
            rintro v rfl
            exact ⟨by omega, hr2 _ _ _ _ ⟨f3, i + 1, s, e' / q, by omega, rfl, rfl, by omega, hpow2, hsr, Oway_y hw2 (by omega) hw3, by omega⟩ (by omega)⟩
    · have hpr := prm_rest hnd c2 (by omega) (by omega)
      have hr1 : r' = 1 := by
        rcases hpr.2 r' k1 with e1 | e1
        · exact e1
        · exact absurd (by rw [e1]; exact Nat.dvd_refl _) k2
      subst hr1
      intro d d1 d2 d3
      have := Nat.dvd_one.mp d3
      omega
