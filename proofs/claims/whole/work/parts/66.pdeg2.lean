theorem spec_pdegC {R : Type} [Lean.Grind.CommRing R] {p : Nat} {co : R → Nat → Int} {mk : (Nat → Int) → R} (H : PD p co mk) {σ : SG} {f : R} {g : Nat → R} {L : List R} {Q : SG → Prop} (hS : Scn co σ 1 p f g L) (hV : Val p co mk f g L) (hD : ∀ d, 1 ≤ d → d ≤ 6 → Rp co σ (101 + 1 + 2 * d) (dp p co mk f d)) (hQ : ∀ σ' L', FrB σ σ' 1 VS → Scn co σ' 1 p f g L' → L'.Perm (L.flatMap (fun g => dpl p co mk g 6)) → Srt co L' → GL co f L' → Q σ') : Lp1 (fun (rec11 : Int → SG → Prop) (x9 : Int) (σ10 : SG) => ((6 < x9 → Q σ10) ∧ (¬ 6 < x9 → ((0 ≤ x9 ∧ x9 < 7) ∧ wp_X0_partBy σ10 (101 + 1 + 2 * x9.toNat) (fun (σ15 : SG) => (inR (x9 + 1) ∧ rec11 (x9 + 1) σ15)))))) 1 σ := by
  have hd := hV.2.1
  have hGL := hV.2.2.2.2.1
  have hmem : ∀ x ∈ L, mon co x ∧ Dv x f := fun x hx => ⟨(GL_mem H hGL hx).1, (GL_mem H hGL hx).2.2.1⟩
  refine Lp1_up_from 1 7 (by omega) (fun n σ' => ∃ L', FrB σ σ' 1 VS ∧ Scn co σ' 1 p f g L' ∧ L'.Perm (L.flatMap (tl p co mk (n - 1))) ∧ Srt co L' ∧ GL co f L') ⟨L, FrB.rf _ _ _, hS, by rw [Nat.sub_self, tl0 H hGL], hV.2.2.2.2.2, hGL⟩ ?_ ?_
  · rintro n σ1 r hn1 hn ⟨L1, f1, S1, p1, s1, G1⟩ hr
    obtain ⟨k, rfl⟩ : ∃ k, n = k + 1 := ⟨n - 1, by omega⟩
    rw [Nat.add_sub_cancel] at p1
    have hnin := dp_nin (d := k + 1) (by omega) (by omega)
    refine ⟨fun h => by omega, fun _ => ⟨by omega, ?_⟩⟩
    rw [Int.toNat_natCast]
    refine spec_X0_partBy H S1.1 S1.2.2.2 G1 hd.2 (Rp_frB S1.2.2.2.1 (hD (k + 1) (by omega) (by omega)) VS_P hnin.1 f1) hnin.1 (fun σ2 L2 f2 S2 p2 s2 G2 => ⟨by omega, hr _ ⟨L2, f1.tr f2, Scn_B H S1 VS_P (by decide) f2 S2, ?_, s2, G2⟩⟩)
    rw [Nat.add_sub_cancel, ← tl_all H hV.1 hV.2.2.1 hmem k]
    exact p2.trans (List.Perm.flatMap_right _ p1)
  · rintro σ1 r ⟨L1, f1, S1, p1, s1, G1⟩
    refine ⟨fun _ => hQ σ1 L1 f1 S1 ?_ s1 G1, fun h => absurd (by decide) h⟩
    rw [← tl6 H hV.2.2.1 hd.2 hGL]
    exact p1
theorem GL_repl {R : Type} [Lean.Grind.CommRing R] {p : Nat} {co : R → Nat → Int} {mk : (Nat → Int) → R} (H : PD p co mk) {f g : R} {A C l : List R} (h : GL co f (A ++ g :: C)) (h1 : pr l = g) (h2 : ∀ x ∈ l, mon co x ∧ 2 ≤ dd co x) : GL co f (A ++ (l ++ C)) := by
  refine ⟨fun x hx => ?_, ?_⟩
  · rcases List.mem_append.mp hx with e | e
    · exact h.1 x (by simp [e])
    · rcases List.mem_append.mp e with e | e
      · exact h2 x e
      · exact h.1 x (by simp [e])
  · rw [← h.2, pr_app, pr_app, pr_app, h1]
    rfl
theorem tl_ok {R : Type} [Lean.Grind.CommRing R] {p : Nat} {co : R → Nat → Int} {mk : (Nat → Int) → R} (H : PD p co mk) {g : R} (hg : mon co g) (k : Nat) : pr (tl p co mk k g) = g ∧ ∀ x ∈ tl p co mk k g, mon co x ∧ 2 ≤ dd co x := by
  refine ⟨dpl_pr H hg k, fun x hx => ?_⟩
  rcases List.mem_append.mp hx with e | e
  · obtain ⟨d, d1, d2, d3⟩ := dpl_mem H hg k e
    exact d3
  · unfold bit1 at e
    split at e
    · cases e
    · rw [List.mem_singleton.mp e]
      exact ⟨(rs_spec H hg k).1, by omega⟩
theorem dpl_stop {R : Type} [Lean.Grind.CommRing R] {p : Nat} {co : R → Nat → Int} {mk : (Nat → Int) → R} (H : PD p co mk) {g : R} (hg : mon co g) {k : Nat} (h : dd co (rs p co mk g k) ≤ 1) (e : Nat) : dpl p co mk g (k + e) = dpl p co mk g k := by
  induction e with
  | zero => rfl
  | succ e ih =>
    show dpl p co mk g (k + e + 1) = _
    rw [dpl, ih, bit1_n (by rw [(rs_one H hg h e).2]; omega), List.append_nil]
/-- the reference's list on its way through the branches -/
def Dway {R : Type} [Lean.Grind.CommRing R] (p : Nat) (co : R → Nat → Int) (mk : (Nat → Int) → R) (f : R) (L : List R) (k : Nat) (A B : List R) : Prop := A.length = k ∧ (A ++ B).Perm ((L.take k).flatMap (fun g => dpl p co mk g 6)) ∧ GL co f (A ++ (L.drop k ++ B)) ∧ (B = [] → A = L.take k)
theorem Dway_step {R : Type} [Lean.Grind.CommRing R] {p : Nat} {co : R → Nat → Int} {mk : (Nat → Int) → R} (H : PD p co mk) {f g : R} {L A B xs : List R} {k : Nat} {x : R} (h : Dway p co mk f L k A B) (hs : SF p co mk f) (hd : dd co f ≤ 7) (hL : GL co f L) (hg : L[k]? = some g) (hx : dpl p co mk g 6 = x :: xs) : Dway p co mk f L (k + 1) (A ++ [x]) (B ++ xs) := by
  obtain ⟨h1, h2, h3, h4⟩ := h
  have hk : k < L.length := (List.getElem?_eq_some_iff.mp hg).1
  have e : L[k] = g := (List.getElem?_eq_some_iff.mp hg).2
  have hm := GL_mem H hL (List.mem_of_getElem? hg)
  obtain ⟨d1, d2, d3⟩ := dpl6 H hm.1 (SF_dv H hs hm.2.2.1) ⟨hm.2.1, by omega⟩
  have ht : L.take (k + 1) = L.take k ++ [g] := by rw [List.take_succ_eq_append_getElem hk, e]
  have hdr : L.drop k = g :: L.drop (k + 1) := by rw [List.drop_eq_getElem_cons hk, e]
  have hperm1 : (A ++ [x] ++ (B ++ xs)).Perm (A ++ B ++ (x :: xs)) := by
    rw [List.append_assoc, List.append_assoc]
    refine List.Perm.append_left A ?_
    rw [← List.append_assoc]
    have h6 : ([x] ++ B).Perm (B ++ [x]) := List.perm_append_comm
    have h7 := h6.append_right xs
    simpa using h7
  refine ⟨by simp [h1], ?_, ?_, fun hb => ?_⟩
  · rw [ht, List.flatMap_append, List.flatMap_cons, List.flatMap_nil, List.append_nil, hx]
    exact hperm1.trans (h2.append_right _)
  · rw [hdr] at h3
    have h5 : GL co f (A ++ (x :: xs ++ (L.drop (k + 1) ++ B))) := GL_repl H (by simpa using h3) (by rw [← hx]; exact d1) (fun y hy => by
      rw [← hx] at hy
      obtain ⟨d, _, _, d5⟩ := dpl_mem H hm.1 6 hy
      exact d5)
    refine GL_perm h5 ?_
    have e1 : A ++ [x] ++ (L.drop (k + 1) ++ (B ++ xs)) = A ++ (x :: ((L.drop (k + 1) ++ B) ++ xs)) := by simp
    have e2 : A ++ (x :: xs ++ (L.drop (k + 1) ++ B)) = A ++ (x :: (xs ++ (L.drop (k + 1) ++ B))) := by simp
    rw [e1, e2]
    exact List.Perm.append_left A (List.Perm.cons x List.perm_append_comm)
  · have hb1 : B = [] := List.append_eq_nil_iff.mp hb |>.1
    have hb2 : xs = [] := List.append_eq_nil_iff.mp hb |>.2
    have h6 := d3 (by rw [hx, hb2]; rfl)
    rw [hx] at h6
    have h7 : x = g := by injection h6
    rw [ht, h4 hb1, h7]
theorem spec_pdegM {R : Type} [Lean.Grind.CommRing R] {p : Nat} {co : R → Nat → Int} {mk : (Nat → Int) → R} (H : PD p co mk) {σ : SG} {f : R} {g : Nat → R} {L : List R} {Q : Bool → SG → Prop} (hA : Awn co (σ 305) p f g L) (hV : Val p co mk f g L) (hQ : ∀ σ' A B, FN σ σ' [1, 2, 3, 4, 5, 11, 12, 13, 14, 15] → Bl co σ' (A ++ B) → Dway p co mk f L L.length A B → Q true σ') : Lp1 (fun (rec5 : Int → SG → Prop) (x3 : Int) (σ4 : SG) => (((L.length : Int) ≤ x3 → Q true σ4) ∧ (¬ (L.length : Int) ≤ x3 → wp_X10_loadsBranch σ4 x3 1 (fun (σ11 : SG) => Lp2 (fun (rec15 : Int → Int → SG → Prop) (x12 : Int) (x13 : Int) (σ14 : SG) => ((6 < x12 → (inR (x3 + 1) ∧ rec5 (x3 + 1) σ14)) ∧ (¬ 6 < x12 → wp_X10_degree σ14 1 (fun (z20 : Int) (σ19 : SG) => ((z20 ≤ 0 → (inR (x3 + 1) ∧ rec5 (x3 + 1) σ19)) ∧ (¬ z20 ≤ 0 → wp_X10_takesDegree σ19 x12 4 (fun (σ22 : SG) => wp_X10_degree σ22 4 (fun (z24 : Int) (σ23 : SG) => ((z24 ≤ 0 → wp_X10_degree σ23 4 (fun (z26 : Int) (σ25 : SG) => ((z26 ≤ 0 → (inR (x12 + 1) ∧ rec15 (x12 + 1) x13 σ25)) ∧ (¬ z26 ≤ 0 → wp_X10_comes σ25 4 (fun (σ28 : SG) => (inR (x12 + 1) ∧ rec15 (x12 + 1) x13 σ28)))))) ∧ (¬ z24 ≤ 0 → ((x13 = 0 → wp_X10_degree σ23 4 (fun (z32 : Int) (σ31 : SG) => ((z32 ≤ 0 → (inR (x12 + 1) ∧ rec15 (x12 + 1) x13 σ31)) ∧ (¬ z32 ≤ 0 → wp_X10_comes σ31 4 (fun (σ34 : SG) => (inR (x12 + 1) ∧ rec15 (x12 + 1) x13 σ34)))))) ∧ (¬ x13 = 0 → wp_X10_lays σ23 4 x3 (fun (σ37 : SG) => (inR (x12 + 1) ∧ rec15 (x12 + 1) 0 σ37)))))))))))))) 1 1 σ11)))) 0 σ := by
  have hd := hV.2.1
  have hs := hV.2.2.1
  have hGL := hV.2.2.2.2.1
  have hB := Bl_of H hA hV
  have b2 := hB.2.1
  refine Lp1_up L.length (fun k σ' => ∃ A B, FN σ σ' [1, 2, 3, 4, 5, 11, 12, 13, 14, 15] ∧ Bl co σ' (A ++ (L.drop k ++ B)) ∧ Dway p co mk f L k A B) ⟨[], [], FN.rf _ _, by simpa using hB, by simp [Dway], ?_⟩ ?_ ?_
  · refine ⟨by simp, ?_, by simp⟩
    simpa using hGL
  · rintro k σ1 r hk ⟨A, B, f1, B1, W1⟩ hr
    have hg : L[k]? = some L[k] := List.getElem?_eq_getElem hk
    generalize L[k] = x at hg
    have hdr : L.drop k = x :: L.drop (k + 1) := by rw [List.drop_eq_getElem_cons hk, (List.getElem?_eq_some_iff.mp hg).2]
    have hA1 := W1.1
    have hm := GL_mem H hGL (List.mem_of_getElem? hg)
    obtain ⟨d1, d2, d3⟩ := dpl6 H hm.1 (SF_dv H hs hm.2.2.1) ⟨hm.2.1, by omega⟩
    have hG3 := W1.2.2.1
    rw [hdr] at hG3 B1
    refine ⟨fun h => by omega, fun _ => ?_⟩
    have hgk : (A ++ (x :: L.drop (k + 1) ++ B))[k]? = some x := by rw [← hA1]; simp
    refine spec_X10_loadsBranch H B1 hgk (by omega) (fun σ2 k2 m2 => ?_)
    have hfin : ∀ σ', FN σ σ' [1, 2, 3, 4, 5, 11, 12, 13, 14, 15] → (∀ y ys, dpl p co mk x 6 = y :: ys → Bl co σ' (A ++ y :: (L.drop (k + 1) ++ (B ++ ys)))) → inR ((k : Int) + 1) ∧ r ((k : Int) + 1) σ' := by
      intro σ' f' hb
      obtain ⟨y, ys, hy⟩ : ∃ y ys, dpl p co mk x 6 = y :: ys := by
        cases hq : dpl p co mk x 6 with
        | nil => rw [hq] at d2; simp at d2
        | cons y ys => exact ⟨y, ys, rfl⟩
      refine ⟨by omega, hr _ ⟨A ++ [y], B ++ ys, f', ?_, Dway_step H W1 hs hd.2 hGL hg hy⟩⟩
      have := hb y ys hy
      simpa using this
    refine Lp2_m (fun d z σ' => ∃ c : Nat, d = (c : Int) + 1 ∧ c ≤ 6 ∧ FN σ σ' [1, 2, 3, 4, 5, 11, 12, 13, 14, 15] ∧ Rr co σ' 1 (rs p co mk x c) ∧ ((z = 1 ∧ dpl p co mk x c = [] ∧ Bl co σ' (A ++ x :: (L.drop (k + 1) ++ B))) ∨ (z = 0 ∧ ∃ y ys, dpl p co mk x c = y :: ys ∧ Bl co σ' (A ++ y :: (L.drop (k + 1) ++ (B ++ ys)))))) (fun d _ _ => (8 - d).toNat) ⟨0, rfl, by omega, f1.tr (FN.of (k2.mono (by simp))), m2, Or.inl ⟨rfl, rfl, by simpa using Bl_eq B1 k2.p⟩⟩ ?_
    rintro d z σ3 r2 ⟨c, rfl, c6, f3, m3, hz⟩ hr2
    have hrs := rs_spec H hm.1 c
    have hdrs := Dv_dd H (mon_ne H hm.1) (rs_dv H hm.1 c)
    have p3 : σ3 305 0 = p := by rw [f3.2.1 0 (by decide)]; exact hA.1
    have hclose : dd co (rs p co mk x c) ≤ 1 ∨ c = 6 → inR ((k : Int) + 1) ∧ r ((k : Int) + 1) σ3 := by
      intro hc
      have e6 : dpl p co mk x 6 = dpl p co mk x c := by
        rcases hc with hc | hc
        · have := dpl_stop H hm.1 hc (6 - c)
          rw [show c + (6 - c) = 6 by omega] at this
          exact this
        · rw [hc]
      refine hfin σ3 f3 (fun y ys hy => ?_)
      rcases hz with ⟨-, hz, -⟩ | ⟨-, y', ys', hz, hb⟩
      · rw [e6, hz] at hy; cases hy
      · rw [e6, hz] at hy
        injection hy with e1 e2
        rw [← e1, ← e2]
        exact hb
    refine ⟨fun h => hclose (Or.inr (by omega)), fun h => spec_X10_degree H m3 ⟨fun h1 => hclose (Or.inl (by omega)), fun h1 => ?_⟩⟩
    rw [show (c : Int) + 1 = ((c + 1 : Nat) : Int) by omega]
    refine spec_X10_takesDegree H p3 m3 hrs.1 (by omega) (by omega) (fun σ4 k4 m4 n4 => ?_)
    have hdp : gc co (rs p co mk x c) (xx p mk ^ (p ^ (c + 1)) - xx p mk) = dp p co mk x (c + 1) := rfl
    have hqu : qu co (rs p co mk x c) (dp p co mk x (c + 1)) = rs p co mk x (c + 1) := rfl
    rw [hdp] at m4 n4
    rw [hqu] at n4
    have f4 := f3.tr (FN.of k4)
    have hdpd := Dv_dd H (mon_ne H hm.1) (dp_dv H hm.1 c)
    refine spec_X10_degree H m4 ⟨fun h2 => spec_X10_degree H m4 ⟨fun _ => ⟨by omega, ?_⟩, fun h => absurd h2 h⟩, fun h2 => ⟨fun hz0 => spec_X10_degree H m4 ⟨fun h => absurd h h2, fun _ => ?_⟩, fun hz1 => ?_⟩⟩
    · have e1 : dpl p co mk x (c + 1) = dpl p co mk x c := by rw [dpl, bit1_n (by omega), List.append_nil]
      refine hr2 _ _ _ ⟨c + 1, rfl, by omega, f4, n4, ?_⟩ (by omega)
      rw [e1]
      rcases hz with ⟨z1, z2, z3⟩ | ⟨z1, y, ys, z2, z3⟩
      · exact Or.inl ⟨z1, z2, Bl_eq z3 k4.p⟩
      · exact Or.inr ⟨z1, y, ys, z2, Bl_eq z3 k4.p⟩
    · rcases hz with ⟨z1, -, -⟩ | ⟨-, y, ys, z2, z3⟩
      · omega
      · have e1 : dpl p co mk x (c + 1) = y :: (ys ++ [dp p co mk x (c + 1)]) := by rw [dpl, z2, bit1_y (by omega)]; rfl
        have hGt : GL co f (A ++ (tl p co mk (c + 1) x ++ (L.drop (k + 1) ++ B))) := GL_repl H (by simpa using hG3) (tl_ok H hm.1 (c + 1)).1 (tl_ok H hm.1 (c + 1)).2
        have hlen := GL_len H hGt
        unfold tl at hlen
        rw [e1] at hlen
        simp only [List.length_append, List.length_cons, List.length_nil] at hlen
        refine spec_X10_comes H (Bl_eq z3 k4.p) m4 (by omega) (by simp only [List.length_append, List.length_cons]; omega) (fun σ5 f5 B5 => ⟨by omega, hr2 _ _ _ ⟨c + 1, rfl, by omega, f4.tr (f5.mono (by simp)), Rr_fn n4 f5 (by simp), Or.inr ⟨hz0, y, ys ++ [dp p co mk x (c + 1)], e1, ?_⟩⟩ (by omega)⟩)
        simpa using B5
    · rcases hz with ⟨-, z2, z3⟩ | ⟨z1, -⟩
      · have e1 : dpl p co mk x (c + 1) = [dp p co mk x (c + 1)] := by rw [dpl, z2, bit1_y (by omega)]; rfl
        refine spec_X10_laysIn H (Bl_eq z3 k4.p) m4 (by omega) (by simp; omega) (fun σ5 f5 B5 => ⟨by omega, hr2 _ _ _ ⟨c + 1, rfl, by omega, f4.tr (f5.mono (by simp)), Rr_fn n4 f5 (by simp), Or.inr ⟨rfl, _, [], e1, ?_⟩⟩ (by omega)⟩)
        rw [List.set_append_right _ _ (by omega), show k - A.length = 0 by omega, List.set_cons_zero] at B5
        simpa using B5
      · exact absurd z1 hz1
  · rintro σ1 r ⟨A, B, f1, B1, W1⟩
    rw [List.drop_length, List.nil_append] at B1
    exact ⟨fun _ => hQ σ1 A B f1 B1 W1, fun h => absurd (Int.le_refl _) h⟩
