/-! the reference: parting, kinds, places -/
def PN : List Int := [1, 4, 5, 11, 12, 13]
theorem spec_X10_kindIn {R : Type} [Lean.Grind.CommRing R] {p : Nat} {co : R → Nat → Int} {mk : (Nat → Int) → R} (H : PD p co mk) {σ : SG} {u : Int} {a g : R} {Q : Int → SG → Prop} (hσ : σ 305 0 = p) (hg : Rr co σ 1 g) (ha : Rr co σ u a) (hu : u ≠ 12) (hg0 : g ≠ 0) (hQ : ∀ σ', FT σ σ' [4, 11, 12, 13] → Q (kd co a g) σ') : wp_X10_kindIn σ u Q := by
  unfold wp_X10_kindIn
  refine spec_X10_common H hσ hg ha (by omega) hu (Or.inl hg0) (fun σ1 h1 h2 => ?_)
  have hg1 := Rr_ft hg h1 (by decide)
  have h3 := dd_pos H (mon_ne H (gc_mon H (a := g) (b := a) (Or.inl hg0)))
  have hq := hQ σ1 h1
  unfold kd at hq
  refine spec_X10_degree H h2 (spec_X10_degree H hg1 ⟨fun h4 => spec_X10_degree H h2 ⟨fun h5 => ?_, fun h5 => ?_⟩, fun h4 => ?_⟩)
  · rw [if_neg (by omega), if_neg (by omega)] at hq; exact hq
  · rw [if_neg (by omega), if_pos (by omega)] at hq; exact hq
  · rw [if_pos (by omega)] at hq; exact hq
theorem spec_X10_parts {R : Type} [Lean.Grind.CommRing R] {p : Nat} {co : R → Nat → Int} {mk : (Nat → Int) → R} (H : PD p co mk) {σ : SG} {u : Int} {a f : R} {L : List R} {Q : Int → SG → Prop} (hσ : σ 305 0 = p) (hS : Bl co σ L) (hL : GL co f L) (hf : dd co f ≤ 7) (ha : Rr co σ u a) (hu : u ∉ PN) (hQ : ∀ σ' L', FN σ σ' PN → Bl co σ' L' → L'.Perm (ptl co a L) → Srt co L' → GL co f L' → Q (if L'.length ≤ L.length then 0 else 1) σ') : wp_X10_parts σ u Q := by
  unfold wp_X10_parts
  have b2 := hS.2.1
  rintro v rfl
  rw [hS.1]
  refine Lp1_up L.length (fun k σ' => ∃ M, Pway co f a L k M ∧ FN σ σ' PN ∧ Bl co σ' M) ⟨L, Pway_0 hL, FN.rf _ _, hS⟩ ?_ ?_
  · rintro k σ1 r hk ⟨M, h1, h2, h3⟩ hr
    have hg : L[k]? = some L[k] := List.getElem?_eq_getElem hk
    have hM := Pway_at h1 hg
    have hGL : GL co f M := by obtain ⟨A, B, -, -, -, h⟩ := h1; exact h
    have hgm := hGL.1 _ (List.mem_of_getElem? hM)
    have hkM := (List.getElem?_eq_some_iff.mp hM).1
    have hp1 : σ1 305 0 = p := by rw [h2.2.1 0 (by decide)]; exact hσ
    have ha1 := Rr_fn ha h2 hu
    generalize L[k] = g at hg hM hgm
    refine ⟨fun h => by omega, fun _ => spec_X10_loadsBranch H h3 hM (by omega) (fun σ2 k1 k2 => ?_)⟩
    have ha2 := Rr_ft ha1 k1 (fun e => hu (by rw [List.mem_singleton.mp e]; decide))
    refine spec_X10_common H (by rw [k1.p]; exact hp1) k2 ha2 (by omega) (fun e => hu (by rw [e]; decide)) (Or.inl (mon_ne H hgm.1)) (fun σ3 m1 m2 => ?_)
    have k3 := Rr_ft k2 m1 (by decide)
    have f3 : FN σ σ3 PN := h2.tr ((FN.of (k1.mono (by decide))).tr (FN.of (m1.mono (by decide))))
    have S3 : Bl co σ3 M := Bl_eq h3 (by rw [m1.p, k1.p])
    have p3 : σ3 305 0 = p := by rw [f3.2.1 0 (by decide)]; exact hσ
    have hno : ∀ (hm : ¬ mixed co a g), inR ((k : Int) + 1) ∧ r (k + 1) σ3 := fun hm => ⟨by omega, hr _ ⟨M, Pway_n h1 hg hm, f3, S3⟩⟩
    refine spec_X10_degree H m2 ⟨fun h4 => hno (fun e => by have := e.1; omega), fun h4 => spec_X10_degree H k3 ⟨fun h5 => hno (fun e => by have := e.2; omega), fun h5 => ?_⟩⟩
    have hm : mixed co a g := ⟨by omega, by omega⟩
    have hy := Pway_y H h1 hg hm
    have hGy : GL co f (M.set k (gc co g a) ++ [qu co g (gc co g a)]) := by obtain ⟨A, B, -, -, -, h⟩ := hy; exact h
    have hgd := GL_mem H hGL (List.mem_of_getElem? hM)
    refine spec_X10_laysIn H S3 m2 (by omega) hkM (fun σ4 n1 n2 => ?_)
    have k4 := Rr_fn k3 n1 (by decide)
    have m4 := Rr_fn m2 n1 (by decide)
    have f4 : FN σ σ4 PN := f3.tr (n1.mono (by simp))
    have p4 : σ4 305 0 = p := by rw [f4.2.1 0 (by decide)]; exact hσ
    refine spec_X10_divides H p4 k4 m4 (by decide) (by decide) (by decide) (by decide) (mon_ne H (gc_mon H (Or.inl (mon_ne H hgm.1)))) (fun σ5 q1 _ q3 => ?_)
    have S5 : Bl co σ5 (M.set k (gc co g a)) := Bl_eq n2 (by rw [q1.p])
    have f5 : FN σ σ5 PN := f4.tr (FN.of (q1.mono (by decide)))
    have hl : M.length < 6 := by
      have := GL_len H hGy
      simp at this
      omega
    have hdq := GL_mem H hGy (x := qu co g (gc co g a)) (by simp)
    refine spec_X10_comes H S5 (q3 (by decide)) (by omega) (by rw [List.length_set]; exact hl) (fun σ6 r1 r2 => ⟨by omega, hr _ ⟨_, hy, f5.tr (r1.mono (by simp)), r2⟩⟩)
  · rintro σ1 r ⟨M, h1, h2, h3⟩
    obtain ⟨h4, h5⟩ := Pway_end h1
    refine ⟨fun _ => spec_X10_sorts H h3 (fun σ2 L' k1 k2 k3 k4 => ?_), fun h => absurd (Int.le_refl _) h⟩
    have hq := hQ σ2 L' (h2.tr (k1.mono (by simp))) k2 (k3.trans h4) k4 (GL_perm h5 k3)
    rw [k2.1]
    refine ⟨fun h => ?_, fun h => ?_⟩
    · rw [if_pos (by omega)] at hq; exact hq
    · rw [if_neg (by omega)] at hq; exact hq
theorem spec_X10_placeOf {R : Type} [Lean.Grind.CommRing R] {p : Nat} {co : R → Nat → Int} {mk : (Nat → Int) → R} (H : PD p co mk) {σ : SG} {u : Int} {x : R} {L : List R} {Q : Int → SG → Prop} (hL : Bl co σ L) (hx : Rr co σ u x) (dx : dd co x ≤ 7) (hQ : ∀ z : Int, (z = -5 ∧ x ∉ L) ∨ (∃ k : Nat, z = k ∧ L[k]? = some x ∧ ∀ j, j < k → L[j]? ≠ some x) → Q z σ) : wp_X10_placeOf σ u Q := by
  unfold wp_X10_placeOf
  have b2 := hL.2.1
  refine Lp1_m (fun y σ' => ∃ k : Nat, y = k ∧ k ≤ L.length ∧ σ' = σ ∧ ∀ j, j < k → L[j]? ≠ some x) (fun y _ => (6 - y).toNat) ⟨0, rfl, by omega, rfl, fun j hj => by omega⟩ ?_
  rintro y σ1 r ⟨k, rfl, hk, rfl, h1⟩ hr
  rw [hL.1]
  refine ⟨fun h => hQ _ (Or.inl ⟨rfl, fun hm => ?_⟩), fun h => ?_⟩
  · obtain ⟨j, hj⟩ := List.getElem?_of_mem hm
    have := (List.getElem?_eq_some_iff.mp hj).1
    exact h1 j (by omega) hj
  · have hlt : k < L.length := by omega
    have hg : L[k]? = some L[k] := List.getElem?_eq_getElem hlt
    generalize L[k] = g at hg
    obtain ⟨q1, q2⟩ := hL.2.2 k g hg
    refine Lp2_m (fun c z σ' => ∃ n : Nat, c = n ∧ n ≤ 7 ∧ σ' = σ1 ∧ (z = 0 ∧ g ≠ x ∨ z = 1 ∧ ∀ m, m < n → co g m = co x m)) (fun c _ _ => (7 - c).toNat) ⟨0, rfl, by omega, rfl, Or.inr ⟨rfl, fun m hm => by omega⟩⟩ ?_
    rintro c z σ2 rc ⟨n, rfl, hn, rfl, hz⟩ hrc
    refine ⟨fun h7 => ?_, fun h7 => ?_⟩
    · rcases hz with ⟨rfl, hz⟩ | ⟨rfl, hz⟩
      · refine ⟨fun _ => ⟨by omega, hr _ _ ⟨k + 1, by omega, by omega, rfl, fun j hj => ?_⟩ (by omega)⟩, fun h => absurd rfl h⟩
        by_cases e : j = k
        · rw [e, hg]; intro e2; exact hz (Option.some.inj e2)
        · exact h1 j (by omega)
      · refine ⟨fun h => absurd h (by decide), fun _ => hQ _ (Or.inr ⟨k, rfl, ?_, h1⟩)⟩
        rw [hg]
        refine congrArg some (pd_ext H (fun m => ?_))
        rcases Nat.lt_or_ge m 7 with e | e
        · exact hz m (by omega)
        · rw [dd_out H g (by omega), dd_out H x (by omega)]
    · have hv : σ2 305 (45 + 7 * (k : Int) + n).toNat = co g n := by
        rw [show (45 + 7 * (k : Int) + n).toNat = 45 + 7 * k + n by omega]
        exact q1 n (by omega)
      refine ⟨by omega, by omega, by omega, by omega, spec_X10_of H hx (by omega) ?_⟩
      rw [hv, Int.toNat_natCast]
      refine ⟨fun h => ?_, fun h => ?_⟩
      · rintro w hw
        have hw0 : w = 0 := by
          rcases hz with ⟨rfl, -⟩ | ⟨rfl, -⟩ <;> (rw [hw]; decide)
        refine ⟨by omega, hrc _ _ _ ⟨n + 1, by omega, by omega, rfl, Or.inl ⟨hw0, fun e => h (by rw [e])⟩⟩ (by omega)⟩
      · rintro w hw
        refine ⟨by omega, hrc _ _ _ ⟨n + 1, by omega, by omega, rfl, ?_⟩ (by omega)⟩
        rcases hz with ⟨rfl, hz⟩ | ⟨rfl, hz⟩
        · exact Or.inl ⟨by rw [hw]; decide, hz⟩
        · refine Or.inr ⟨by rw [hw]; decide, fun m hm => ?_⟩
          by_cases e : m = n
          · rw [e]; exact h
          · exact hz m (by omega)
