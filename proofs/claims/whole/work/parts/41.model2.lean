theorem spec_X10_divides {R : Type} [Lean.Grind.CommRing R] {p : Nat} {co : R → Nat → Int} {mk : (Nat → Int) → R} (H : PD p co mk) {σ : SG} {u v w : Int} {a b : R} {Q : SG → Prop} (hσ : σ 305 0 = p) (ha : Rr co σ u a) (hb : Rr co σ v b) (huv : u ≠ v) (huw : u ≠ w) (hvw : v ≠ w) (hw : w < 60) (hb0 : b ≠ 0) (hQ : ∀ σ', FT σ σ' [u, w] → Rr co σ' u (rm co a b) → (0 ≤ w → Rr co σ' w (qu co a b)) → Q σ') : wp_X10_divides σ u v w Q := by
  unfold wp_X10_divides
  have hp := pd_p H
  have hu := ha.1
  have hv := hb.1
  have hbd := dd_pos H hb0
  have ha14 := ha.2.2
  have hb14 := hb.2.2
  have hvn : v ∉ [u, w] := by simp; omega
  have hun : u ∉ [w] := by simp; omega
  rintro x rfl
  rw [hσ]
  refine spec_X10_degree H hb (spec_X10_of H hb (by omega) ?_)
  have hz0 : co b ((dd co b : Int) - 1).toNat ≠ 0 := by
    rw [show ((dd co b : Int) - 1).toNat = dd co b - 1 by omega]
    exact dd_top H hbd
  have hzr := pd_rng H b ((dd co b : Int) - 1).toNat
  refine spec_X10_inverse H.1 hσ (by omega) (fun e e1 e2 e3 => ?_)
  refine ⟨fun σ' => FT σ σ' [u, w] ∧ Rr co σ' u a ∧ (0 ≤ w → Rr co σ' w (0 : R)), ?_, ?_⟩
  · rintro σ1 ⟨h1, h2, h3⟩
    refine spec_X10_degree H h2 ?_
    refine Lp1_m (fun x σ' => FT σ σ' [u, w] ∧ ∃ r q : R, Rr co σ' u r ∧ (0 ≤ w → Rr co σ' w q) ∧ a = q * b + r ∧ x = (dd co r : Int) - 1 ∧ ∀ j, j + dd co b ≤ dd co r → co q j = 0) (fun x _ => (x + 1).toNat) ⟨h1, a, 0, h2, h3, by grind, rfl, fun j _ => co_zero H j⟩ ?_
    rintro x σ2 rc ⟨g1, r, q, g2, g3, g4, rfl, g5⟩ hr
    have hb2 := Rr_ft hb g1 hvn
    have hr14 := g2.2.2
    refine ⟨fun h => ?_, fun h => spec_X10_of H g2 (by omega) ?_⟩
    · obtain ⟨q1, q2⟩ := rm_of H g4 (by omega)
      exact hQ _ g1 (by rw [q1]; exact g2) (by rw [q2]; exact g3)
    · have rr := pd_rng H r ((dd co r : Int) - 1).toNat
      have bd := mul_bd (f := co r ((dd co r : Int) - 1).toNat) (c := e) (F := 13) (by omega) (by omega) (by omega) (by omega)
      have nn : 0 ≤ co r ((dd co r : Int) - 1).toNat * e := Int.mul_nonneg rr.1 (by omega)
      refine ⟨by omega, by omega, ?_⟩
      rw [tmod_nn nn]
      have c1 := Int.emod_nonneg (co r ((dd co r : Int) - 1).toNat * e) (show (p : Int) ≠ 0 by omega)
      have c2 := Int.emod_lt_of_pos (co r ((dd co r : Int) - 1).toNat * e) (show (0 : Int) < p by omega)
      rintro c hc
      rw [← hc] at c1 c2
      obtain ⟨s, hs⟩ : ∃ s, s = dd co r - dd co b := ⟨_, rfl⟩
      have hst : (dd co r : Int) - 1 - ((dd co b : Int) - 1) = (s : Int) := by omega
      rw [hst]
      have hrc : ∀ j, co (r + mo p mk (p - c) s * b) j = if j < s then co r j else (co r j + (p - c) * co b (j - s)) % p := by
        intro j
        rw [co_add H, co_mo_mul H]
        split
        · rw [Int.add_zero, co_self H]
        · rw [Int.add_emod_emod]
      have hmo : r + mo p mk (p - c) s * b = r - mo p mk c s * b := by
        have e1 : (mo p mk (p - c) s : R) = -mo p mk c s := by
          rw [← mo_neg H]
          exact mo_mod H s (by rw [show (p : Int) - c = -c + p by omega]; exact Int.add_emod_right _ _)
        rw [e1]; grind
      have hdd : dd co (r + mo p mk (p - c) s * b) < dd co r := by
        refine Nat.lt_of_le_of_lt (dd_le H (n := dd co r - 1) (fun j hj => ?_)) (by omega)
        rw [hmo, co_sub H, co_mo_mul H, if_neg (by omega)]
        by_cases z : j = dd co r - 1
        · have e4 : ((dd co r : Int) - 1).toNat = dd co r - 1 := by omega
          have e5 : ((dd co b : Int) - 1).toNat = dd co b - 1 := by omega
          rw [e4] at hc
          rw [e5] at e3
          rw [z, show dd co r - 1 - s = dd co b - 1 by omega, hc, emm, Int.mul_assoc, Int.mul_comm e, ← mem_ (co r (dd co r - 1)), e3, Int.mul_one, Int.sub_emod, Int.emod_emod, Int.sub_self]
          rfl
        · rw [dd_out H r (by omega), dd_out H b (by omega), Int.mul_zero]
          rfl
      refine Lp1_up (dd co b) (fun k σ' => FT σ σ' [u, w] ∧ (0 ≤ w → Rr co σ' w q) ∧ ∀ j : Nat, j < 14 → σ' 308 (14 * u + j).toNat = if s ≤ j ∧ j < s + k then co (r + mo p mk (p - c) s * b) j else co r j) ⟨g1, g3, fun j hj => by rw [if_neg (by omega)]; exact g2.2.1 j hj⟩ ?_ ?_
      · rintro k σ3 rc2 hk ⟨k1, k2, k3⟩ hrc2
        have hb3 := Rr_ft hb k1 hvn
        have k4 := k3 (s + k) (by omega)
        rw [if_neg (by omega)] at k4
        have r1 := pd_rng H r (s + k)
        have r2 := pd_rng H b k
        have bd2 := mul_bd (f := (p : Int) - c) (c := co b k) (F := 13) (by omega) (by omega) r2.1 (by omega)
        have nn2 : 0 ≤ ((p : Int) - c) * co b k := Int.mul_nonneg (by omega) r2.1
        refine ⟨fun h => by omega, fun _ => ⟨by omega, by omega, by omega, by omega, spec_X10_of0 (v := co r (s + k)) hu (by omega) (by rw [show 14 * u + ((s : Int) + (k : Int)) = 14 * u + ((s + k : Nat) : Int) by omega]; exact k4) ⟨by omega, spec_X10_of H hb3 (by omega) ?_⟩⟩⟩
        rw [Int.toNat_natCast]
        refine ⟨by omega, by omega, by omega, spec_X10_puts hu (by omega) ⟨by omega, hrc2 _ ⟨k1.tr (FT.put _ hu.1 (by omega) _ (by simp)), fun hw0 => Rr_ft (k2 hw0) (FT.put (L := [u]) _ hu.1 (by omega) _ (by simp)) (by simp; omega), fun j hj => ?_⟩⟩⟩
        by_cases z : j = s + k
        · rw [z, show 14 * u + ((s : Int) + (k : Int)) = 14 * u + ((s + k : Nat) : Int) by omega, ug_eq, if_pos (by omega), hrc, if_neg (by omega), tmod_nn (by omega), Nat.add_sub_cancel_left]
        · rw [ug_k _ _ (by omega), k3 j hj]
          by_cases z2 : s ≤ j ∧ j < s + k
          · rw [if_pos z2, if_pos (by omega)]
          · rw [if_neg z2, if_neg (by omega)]
      · rintro σ3 rc2 ⟨k1, k2, k3⟩
        have k4 : Rr co σ3 u (r - mo p mk c s * b) := by
          rw [← hmo]
          refine ⟨hu, fun j hj => ?_, by omega⟩
          rw [k3 j hj]
          split
          · rfl
          · rename_i z
            rw [hrc]
            split
            · rfl
            · rw [dd_out H b (by omega), Int.mul_zero, Int.add_zero, co_self H]
        refine ⟨fun _ => ?_, fun h => by omega⟩
        refine ⟨fun σ' => FT σ σ' [u, w] ∧ Rr co σ' u (r - mo p mk c s * b) ∧ (0 ≤ w → Rr co σ' w (q + mo p mk c s)), ?_, ?_⟩
        · rintro σ4 ⟨l1, l2, l3⟩
          refine spec_X10_degree H l2 (hr _ _ ⟨l1, _, _, l2, l3, ?_, rfl, fun j hj => ?_⟩ ?_)
          · rw [g4]; clear hr hrc hmo hdd k4 k3; grind
          · rw [← hmo] at hj
            rw [co_add H, co_mo H, if_neg (by omega), g5 j (by omega)]
            rfl
          · rw [← hmo]
            omega
        · refine ⟨fun h => ⟨k1, k4, fun h2 => by omega⟩, fun h => ⟨by omega, spec_X10_puts (by omega) (by omega) ⟨k1.tr (FT.put _ (by omega) (by omega) _ (by simp)), Rr_ft k4 (FT.put (L := [w]) _ (by omega) (by omega) _ (by simp)) hun, fun _ => ?_⟩⟩⟩
          have k5 := k2 (by omega)
          refine ⟨k5.1, fun j hj => ?_, ?_⟩
          · rw [co_add H, co_mo H]
            by_cases z : j = s
            · rw [z, ug_eq, if_pos rfl, g5 s (by omega), Int.zero_add, Int.emod_emod]
              exact (Int.emod_eq_of_lt c1 c2).symm
            · rw [ug_k _ _ (by omega), if_neg z, Int.add_zero, co_self H]
              exact k5.2.1 j hj
          · exact dd_add_le H k5.2.2 (by have := dd_mo_le H c s; omega)
  · refine ⟨fun h => ⟨FT.rf _ _, ha, fun h2 => by omega⟩, fun h => spec_X10_clears H (by omega) (fun σ1 h1 h2 => ⟨h1.mono (by simp), Rr_ft ha h1 hun, fun _ => h2⟩)⟩
theorem spec_X10_monic {R : Type} [Lean.Grind.CommRing R] {p : Nat} {co : R → Nat → Int} {mk : (Nat → Int) → R} (H : PD p co mk) {σ : SG} {r : Int} {a : R} {Q : SG → Prop} (hσ : σ 305 0 = p) (ha : Rr co σ r a) (ha0 : a ≠ 0) (hQ : ∀ σ', FT σ σ' [r] → Rr co σ' r (gc co a 0) → Q σ') : wp_X10_monic σ r Q := by
  unfold wp_X10_monic
  have hp := pd_p H
  have hd := dd_pos H ha0
  have hr := ha.1
  have ha14 := ha.2.2
  refine spec_X10_degree H ha (spec_X10_of H ha (by omega) ?_)
  rw [show ((dd co a : Int) - 1).toNat = dd co a - 1 by omega]
  have hz0 := dd_top H hd
  have hzr := pd_rng H a (dd co a - 1)
  refine spec_X10_inverse H.1 hσ (by omega) (fun e e1 e2 e3 => ?_)
  have hc : ∀ j, co (mo p mk e 0 * a) j = co a j * e % p := fun j => by rw [co_mo_mul H, if_neg (by omega), Nat.sub_zero, Int.mul_comm]
  have hm : mon co (mo p mk e 0 * a) := by
    have h3 : dd co (mo p mk e 0 * a) = dd co a := by
      refine dd_of H (fun k hk => ?_) (Or.inr ?_)
      · rw [hc, dd_out H a (by omega), Int.zero_mul]; rfl
      · rw [hc, e3]; decide
    refine ⟨by omega, ?_⟩
    rw [h3, hc, e3]
  rw [(gc_zero H).1 ha0 e hm e3] at hQ
  refine Lp1_up 14 (fun k σ' => FT σ σ' [r] ∧ ∀ j : Nat, j < 14 → σ' 308 (14 * r + j).toNat = if j < k then co (mo p mk e 0 * a) j else co a j) ⟨FT.rf _ _, fun j hj => by rw [if_neg (by omega)]; exact ha.2.1 j hj⟩ ?_ ?_
  · rintro k σ1 rc hk ⟨h1, h2⟩ hrc
    have h3 := h2 k hk
    rw [if_neg (by omega)] at h3
    have r1 := pd_rng H a k
    have bd := mul_bd (f := e) (c := co a k) (F := 13) (by omega) (by omega) r1.1 (by omega)
    have bc : co a k * e = e * co a k := Int.mul_comm _ _
    have nn : 0 ≤ co a k * e := Int.mul_nonneg r1.1 (by omega)
    refine ⟨fun h => by omega, fun _ => spec_X10_of0 hr (by omega) h3 ?_⟩
    rw [h1.p, hσ]
    refine ⟨by omega, by omega, spec_X10_puts hr (by omega) ⟨by omega, hrc _ ⟨h1.tr (FT.put _ hr.1 (by omega) _ (by simp)), fun j hj => ?_⟩⟩⟩
    by_cases z : j = k
    · rw [z, ug_eq, if_pos (by omega), hc, tmod_nn nn]
    · rw [ug_k _ _ (by omega), h2 j hj]
      by_cases z2 : j < k
      · rw [if_pos z2, if_pos (by omega)]
      · rw [if_neg z2, if_neg (by omega)]
  · rintro σ1 rc ⟨h1, h2⟩
    exact ⟨fun _ => hQ _ h1 ⟨hr, fun k hk => by rw [h2 k hk, if_pos hk], Nat.le_trans (dd_smul_le H e a) ha14⟩, fun h => by omega⟩
theorem spec_X10_common {R : Type} [Lean.Grind.CommRing R] {p : Nat} {co : R → Nat → Int} {mk : (Nat → Int) → R} (H : PD p co mk) {σ : SG} {u v t : Int} {a b : R} {Q : SG → Prop} (hσ : σ 305 0 = p) (ha : Rr co σ u a) (hb : Rr co σ v b) (ht : 0 ≤ t ∧ t < 60) (hv : v ≠ 12) (hne : a ≠ 0 ∨ b ≠ 0) (hQ : ∀ σ', FT σ σ' [t, 11, 12, 13] → Rr co σ' t (gc co a b) → Q σ') : wp_X10_common σ u v t Q := by
  unfold wp_X10_common
  refine spec_X10_copies H ha (by omega) (fun σ1 h1 h2 => spec_X10_copies H (Rr_ft hb h1 (by simp [hv])) (by omega) (fun σ2 h3 h4 => ?_))
  have h5 := Rr_ft h2 h3 (by decide)
  obtain ⟨n, hn⟩ : ∃ n, n = dd co b + 1 := ⟨_, rfl⟩
  refine ⟨fun n σ' => FT σ σ' [t, 11, 12, 13] ∧ ∃ A B : R, Rr co σ' 12 A ∧ Rr co σ' 13 B ∧ gc co a b = gc co A B ∧ (A ≠ 0 ∨ B ≠ 0) ∧ n = dd co B, ⟨dd co b, (h1.mono (by simp)).tr (h3.mono (by simp)), a, b, h5, h4, rfl, hne, rfl⟩, ?_⟩
  rintro n σ3 ⟨g1, A, B, g2, g3, g4, g5, rfl⟩
  have hp3 : σ3 305 0 = p := by rw [g1.p]; exact hσ
  refine spec_X10_degree H g3 ⟨fun h => ?_, fun h => ?_⟩
  · have hB := dd_eq0 H (a := B) (by omega)
    have hA : A ≠ 0 := by rcases g5 with g5 | g5; exact g5; exact absurd hB g5
    rw [hB] at g4
    refine spec_X10_monic H hp3 g2 hA (fun σ4 k1 k2 => spec_X10_copies H k2 ht (fun σ5 l1 l2 => hQ σ5 ((g1.tr (k1.mono (by simp))).tr (l1.mono (by simp))) ?_))
    rw [g4]
    exact l2
  · have hB : B ≠ 0 := dd_ne0 H (by omega)
    refine spec_X10_divides H hp3 g2 g3 (by decide) (by decide) (by decide) (by decide) hB (fun σ4 k1 k2 _ => ?_)
    have k3 := Rr_ft g3 k1 (by decide)
    refine spec_X10_copies H k2 (by omega) (fun σ5 l1 l2 => spec_X10_copies H (Rr_ft k3 l1 (by decide)) (by omega) (fun σ6 m1 m2 => spec_X10_copies H (Rr_ft l2 m1 (by decide)) (by omega) (fun σ7 n1 n2 => ?_)))
    refine ⟨dd co (rm co A B), (rm_spec H A hB).2, ?_, B, rm co A B, Rr_ft m2 n1 (by decide), n2, ?_, Or.inl hB, rfl⟩
    · refine (((g1.tr (?_ : FT σ3 σ4 _)).tr (l1.mono (by simp))).tr (m1.mono (by simp))).tr (n1.mono (by simp))
      refine ⟨k1.1, fun j hj => k1.2 j (fun r hr => ?_)⟩
      rcases List.mem_cons.mp hr with rfl | hr
      · exact hj 12 (by simp)
      · rcases List.mem_cons.mp hr with rfl | hr
        · omega
        · cases hr
    · rw [g4]
      exact gc_step H (rm_spec H A hB).1
