/-! every method, with the invariant -/
theorem op_number {σ : SG} {a b : Int} {Q : Int → Int → SG → Prop} (hI : Inv σ) (hQ : ∀ r σ2, Inv σ2 → Q r r σ2) : wp_X9_number σ a b (fun r σ1 => wp_X10_number σ1 a b (fun r2 σ2 => Q r r2 σ2)) := by
  obtain ⟨⟨n, f, g, L⟩, h, m, T, hI⟩ := hI
  obtain ⟨i1, i2, i3, hR⟩ := Iv_Rst.mp hI
  exact @gop_number (POL n) (polR n) (n + 2) (coP n) (polMk n) (PD_pol i3.1) σ f g L a b Q i1 i2 i3.2 (fun r σ2 fr => hQ _ _ ⟨_, h, m, T, Iv_R hI fr⟩)
theorem op_modulus {σ : SG} {a : Int} {Q : Int → Int → SG → Prop} (hI : Inv σ) (hQ : ∀ r σ2, Inv σ2 → Q r r σ2) : wp_X9_modulus σ a (fun r σ1 => wp_X10_modulus σ1 a (fun r2 σ2 => Q r r2 σ2)) := by
  obtain ⟨⟨n, f, g, L⟩, h, m, T, hI⟩ := hI
  obtain ⟨i1, i2, i3, hR⟩ := Iv_Rst.mp hI
  exact @gop_modulus (POL n) (polR n) (n + 2) (coP n) (polMk n) (PD_pol i3.1) σ f g L a Q i1 i2 i3.2 (fun r σ2 fr => hQ _ _ ⟨_, h, m, T, Iv_R hI fr⟩)
theorem op_branch {σ : SG} {a b : Int} {Q : Int → Int → SG → Prop} (hI : Inv σ) (hQ : ∀ r σ2, Inv σ2 → Q r r σ2) : wp_X9_branch σ a b (fun r σ1 => wp_X10_branch σ1 a b (fun r2 σ2 => Q r r2 σ2)) := by
  obtain ⟨⟨n, f, g, L⟩, h, m, T, hI⟩ := hI
  obtain ⟨i1, i2, i3, hR⟩ := Iv_Rst.mp hI
  exact @gop_branch (POL n) (polR n) (n + 2) (coP n) (polMk n) (PD_pol i3.1) σ f g L a b Q i1 i2 i3.2 (fun r σ2 fr => hQ _ _ ⟨_, h, m, T, Iv_R hI fr⟩)
theorem op_kind {σ : SG} {a b : Int} {Q : Int → Int → SG → Prop} (hI : Inv σ) (hQ : ∀ r σ2, Inv σ2 → Q r r σ2) : wp_X9_kind σ a b (fun r σ1 => wp_X10_kind σ1 a b (fun r2 σ2 => Q r r2 σ2)) := by
  obtain ⟨⟨n, f, g, L⟩, h, m, T, hI⟩ := hI
  obtain ⟨i1, i2, i3, hR⟩ := Iv_Rst.mp hI
  exact @gop_kind (POL n) (polR n) (n + 2) (coP n) (polMk n) (PD_pol i3.1) σ f g L a b Q i1 i2 i3.2 (fun r σ2 fr => hQ _ _ ⟨_, h, m, T, Iv_R hI fr⟩)
theorem op_power {σ : SG} {a b c : Int} {Q : Int → Int → SG → Prop} (hI : Inv σ) (hQ : ∀ r σ2, Inv σ2 → Q r r σ2) : wp_X9_power σ a b c (fun r σ1 => wp_X10_power σ1 a b c (fun r2 σ2 => Q r r2 σ2)) := by
  obtain ⟨⟨n, f, g, L⟩, h, m, T, hI⟩ := hI
  obtain ⟨i1, i2, i3, hR⟩ := Iv_Rst.mp hI
  exact @gop_power (POL n) (polR n) (n + 2) (coP n) (polMk n) (PD_pol i3.1) σ f g L a b c Q i1 i2 i3.2 (fun r σ2 fr => hQ _ _ ⟨_, h, m, T, Iv_R hI fr⟩)
theorem op_seen {σ : SG} {a b c : Int} {Q : Int → Int → SG → Prop} (hI : Inv σ) (hQ : ∀ r σ2, Inv σ2 → Q r r σ2) : wp_X9_seen σ a b c (fun r σ1 => wp_X10_seen σ1 a b c (fun r2 σ2 => Q r r2 σ2)) := by
  obtain ⟨⟨n, f, g, L⟩, h, m, T, hI⟩ := hI
  obtain ⟨i1, i2, i3, hR⟩ := Iv_Rst.mp hI
  exact @gop_seen (POL n) (polR n) (n + 2) (coP n) (polMk n) (PD_pol i3.1) σ f g L a b c Q i1 i2 i3.2 (fun r σ2 fr => hQ _ _ ⟨_, h, m, T, Iv_R hI fr⟩)
theorem op_unit {σ : SG} {a b : Int} {Q : Int → Int → SG → Prop} (hI : Inv σ) (hQ : ∀ r σ2, Inv σ2 → Q r r σ2) : wp_X9_unit σ a b (fun r σ1 => wp_X10_unit σ1 a b (fun r2 σ2 => Q r r2 σ2)) := by
  obtain ⟨⟨n, f, g, L⟩, h, m, T, hI⟩ := hI
  obtain ⟨i1, i2, i3, hR⟩ := Iv_Rst.mp hI
  exact @gop_unit (POL n) (polR n) (n + 2) (coP n) (polMk n) (PD_pol i3.1) σ f g L a b Q i1 i2 i3.2 (fun r σ2 fr => hQ _ _ ⟨_, h, m, T, Iv_R hI fr⟩)
theorem op_trace {σ : SG} {a : Int} {Q : Int → Int → SG → Prop} (hI : Inv σ) (hQ : ∀ r σ2, Inv σ2 → Q r r σ2) : wp_X9_trace σ a (fun r σ1 => wp_X10_trace σ1 a (fun r2 σ2 => Q r r2 σ2)) := by
  obtain ⟨⟨n, f, g, L⟩, h, m, T, hI⟩ := hI
  obtain ⟨i1, i2, i3, hR⟩ := Iv_Rst.mp hI
  exact @gop_trace (POL n) (polR n) (n + 2) (coP n) (polMk n) (PD_pol i3.1) σ f g L a Q i1 i2 i3.2 (fun r σ2 fr => hQ _ _ ⟨_, h, m, T, Iv_R hI fr⟩)
theorem op_factors {σ : SG} {a : Int} {Q : Int → Int → SG → Prop} (hI : Inv σ) (hQ : ∀ r σ2, Inv σ2 → Q r r σ2) : wp_X9_factors σ a (fun r σ1 => wp_X10_factors σ1 a (fun r2 σ2 => Q r r2 σ2)) := by
  obtain ⟨⟨n, f, g, L⟩, h, m, T, hI⟩ := hI
  obtain ⟨i1, i2, i3, hR⟩ := Iv_Rst.mp hI
  exact @gop_factors (POL n) (polR n) (n + 2) (coP n) (polMk n) (PD_pol i3.1) σ f g L a Q i1 i2 i3.2 (fun r σ2 fr => hQ _ _ ⟨_, h, m, T, Iv_R hI fr⟩)
theorem op_order {σ : SG} {a : Int} {Q : Int → Int → SG → Prop} (hI : Inv σ) (hQ : ∀ r σ2, Inv σ2 → Q r r σ2) : wp_X9_order σ a (fun r σ1 => wp_X10_order σ1 a (fun r2 σ2 => Q r r2 σ2)) := by
  obtain ⟨⟨n, f, g, L⟩, h, m, T, hI⟩ := hI
  obtain ⟨i1, i2, i3, hR⟩ := Iv_Rst.mp hI
  exact @gop_order (POL n) (polR n) (n + 2) (coP n) (polMk n) (PD_pol i3.1) σ f g L a Q i1 i2 i3.2 (fun r σ2 fr => hQ _ _ ⟨_, h, m, T, Iv_R hI fr⟩)
theorem op_leastPolynomial {σ : SG} {a b : Int} {Q : Int → Int → SG → Prop} (hI : Inv σ) (hQ : ∀ r σ2, Inv σ2 → Q r r σ2) : wp_X9_leastPolynomial σ a b (fun r σ1 => wp_X10_leastPolynomial σ1 a b (fun r2 σ2 => Q r r2 σ2)) := by
  obtain ⟨⟨n, f, g, L⟩, h, m, T, hI⟩ := hI
  obtain ⟨i1, i2, i3, hR⟩ := Iv_Rst.mp hI
  exact @gop_least (POL n) (polR n) (n + 2) (coP n) (polMk n) (PD_pol i3.1) σ f g L a b Q i1 i2 i3.2 (fun r σ2 fr => hQ _ _ ⟨_, h, m, T, Iv_R hI fr⟩)
theorem op_count {σ : SG} {a : Int} {Q : Int → Int → SG → Prop} (hI : Inv σ) (hQ : ∀ r σ2, Inv σ2 → Q r r σ2) : wp_X9_count σ a (fun r σ1 => wp_X10_count σ1 a (fun r2 σ2 => Q r r2 σ2)) := by
  obtain ⟨⟨n, f, g, L⟩, h, m, T, hI⟩ := hI
  obtain ⟨i1, i2, i3, hR⟩ := Iv_Rst.mp hI
  exact @gop_count (POL n) (polR n) (n + 2) (coP n) (polMk n) (PD_pol i3.1) σ f g L a h m T Q i1 i2 i3.2 hR (fun r σ2 fr => hQ _ _ ⟨_, h, m, T, Iv_R hI fr⟩)
theorem op_setNumber {σ : SG} {a b c : Int} {Q : Int → Int → SG → Prop} (hI : Inv σ) (hQ : ∀ r σ2, Inv σ2 → Q r r σ2) : wp_X9_setNumber σ a b c (fun r σ1 => wp_X10_setNumber σ1 a b c (fun r2 σ2 => Q r r2 σ2)) := by
  obtain ⟨⟨n, f, g, L⟩, h, m, T, hI⟩ := hI
  obtain ⟨i1, i2, i3, hR⟩ := Iv_Rst.mp hI
  exact @gop_setNumber (POL n) (polR n) (n + 2) (coP n) (polMk n) (PD_pol i3.1) _ (EN_pol i3.1) σ f g L a b c h m T Q i1 i2 i3.2 hR (fun r σ2 f g L h s1 s2 s3 s4 => hQ _ _ ⟨⟨n, f, g, L⟩, h, m, T, Iv_Rst.mpr ⟨s1, s2, ⟨i3.1, s3⟩, s4⟩⟩)
theorem op_part {σ : SG} {a : Int} {Q : Int → Int → SG → Prop} (hI : Inv σ) (hQ : ∀ r σ2, Inv σ2 → Q r r σ2) : wp_X9_part σ a (fun r σ1 => wp_X10_part σ1 a (fun r2 σ2 => Q r r2 σ2)) := by
  obtain ⟨⟨n, f, g, L⟩, h, m, T, hI⟩ := hI
  obtain ⟨i1, i2, i3, hR⟩ := Iv_Rst.mp hI
  exact @gop_part (POL n) (polR n) (n + 2) (coP n) (polMk n) (PD_pol i3.1) _ (EN_pol i3.1) σ f g L a h m T Q i1 i2 i3.2 hR (fun r σ2 f g L h s1 s2 s3 s4 => hQ _ _ ⟨⟨n, f, g, L⟩, h, m, T, Iv_Rst.mpr ⟨s1, s2, ⟨i3.1, s3⟩, s4⟩⟩)
theorem op_join {σ : SG} {a b : Int} {Q : Int → Int → SG → Prop} (hI : Inv σ) (hQ : ∀ r σ2, Inv σ2 → Q r r σ2) : wp_X9_join σ a b (fun r σ1 => wp_X10_join σ1 a b (fun r2 σ2 => Q r r2 σ2)) := by
  obtain ⟨⟨n, f, g, L⟩, h, m, T, hI⟩ := hI
  obtain ⟨i1, i2, i3, hR⟩ := Iv_Rst.mp hI
  exact @gop_join (POL n) (polR n) (n + 2) (coP n) (polMk n) (PD_pol i3.1) _ (EN_pol i3.1) σ f g L a b h m T Q i1 i2 i3.2 hR (fun r σ2 f g L h s1 s2 s3 s4 => hQ _ _ ⟨⟨n, f, g, L⟩, h, m, T, Iv_Rst.mpr ⟨s1, s2, ⟨i3.1, s3⟩, s4⟩⟩)
theorem op_joinAlike {σ : SG} {a : Int} {Q : Int → Int → SG → Prop} (hI : Inv σ) (hQ : ∀ r σ2, Inv σ2 → Q r r σ2) : wp_X9_joinAlike σ a (fun r σ1 => wp_X10_joinAlike σ1 a (fun r2 σ2 => Q r r2 σ2)) := by
  obtain ⟨⟨n, f, g, L⟩, h, m, T, hI⟩ := hI
  obtain ⟨i1, i2, i3, hR⟩ := Iv_Rst.mp hI
  exact @gop_joinAlike (POL n) (polR n) (n + 2) (coP n) (polMk n) (PD_pol i3.1) _ (EN_pol i3.1) σ f g L a h m T Q i1 i2 i3.2 hR (fun r σ2 f g L h s1 s2 s3 s4 => hQ _ _ ⟨⟨n, f, g, L⟩, h, m, T, Iv_Rst.mpr ⟨s1, s2, ⟨i3.1, s3⟩, s4⟩⟩)
theorem op_put {σ : SG} {a b c : Int} {Q : Int → Int → SG → Prop} (hI : Inv σ) (hQ : ∀ r σ2, Inv σ2 → Q r r σ2) : wp_X9_put σ a b c (fun r σ1 => wp_X10_put σ1 a b c (fun r2 σ2 => Q r r2 σ2)) := by
  obtain ⟨⟨n, f, g, L⟩, h, m, T, hI⟩ := hI
  obtain ⟨i1, i2, i3, hR⟩ := Iv_Rst.mp hI
  exact @gop_put (POL n) (polR n) (n + 2) (coP n) (polMk n) (PD_pol i3.1) _ (EN_pol i3.1) σ f g L a b c h m T Q i1 i2 i3.2 hR (fun r σ2 f g L h s1 s2 s3 s4 => hQ _ _ ⟨⟨n, f, g, L⟩, h, m, T, Iv_Rst.mpr ⟨s1, s2, ⟨i3.1, s3⟩, s4⟩⟩)
theorem op_partByDegrees {σ : SG} {Q : Int → Int → SG → Prop} (hI : Inv σ) (hQ : ∀ r σ2, Inv σ2 → Q r r σ2) : wp_X9_partByDegrees σ  (fun r σ1 => wp_X10_partByDegrees σ1  (fun r2 σ2 => Q r r2 σ2)) := by
  obtain ⟨⟨n, f, g, L⟩, h, m, T, hI⟩ := hI
  obtain ⟨i1, i2, i3, hR⟩ := Iv_Rst.mp hI
  exact @gop_partByDegrees (POL n) (polR n) (n + 2) (coP n) (polMk n) (PD_pol i3.1) _ (EN_pol i3.1) σ f g L  h m T Q i1 i2 i3.2 hR (fun r σ2 f g L h s1 s2 s3 s4 => hQ _ _ ⟨⟨n, f, g, L⟩, h, m, T, Iv_Rst.mpr ⟨s1, s2, ⟨i3.1, s3⟩, s4⟩⟩)
theorem op_readModulus {σ : SG} {Q : Int → Int → SG → Prop} (hI : Inv σ) (hQ : ∀ r σ2, Inv σ2 → Q r r σ2) : wp_X9_readModulus σ  (fun r σ1 => wp_X10_readModulus σ1  (fun r2 σ2 => Q r r2 σ2)) := by
  obtain ⟨⟨n, f, g, L⟩, h, m, T, hI⟩ := hI
  obtain ⟨i1, i2, i3, hR⟩ := Iv_Rst.mp hI
  exact @gop_readModulus (POL n) (polR n) (n + 2) (coP n) (polMk n) (PD_pol i3.1) _ (EN_pol i3.1) σ f g L  h m T Q i1 i2 i3.2 hR (fun r σ2 f g L h s1 s2 s3 s4 => hQ _ _ ⟨⟨n, f, g, L⟩, h, m, T, Iv_Rst.mpr ⟨s1, s2, ⟨i3.1, s3⟩, s4⟩⟩)
