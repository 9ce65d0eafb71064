/-! shade on the reference's side -/
def cI (cₓ : Nat) : Int32 := if cₓ < 25 then nI cₓ else -1
theorem cI_lt {cₓ : Nat} (hₓ : cₓ < 25) : cI cₓ = nI cₓ := if_pos hₓ
def sxI (wₓ : Int32) : Int32 := if wₓ = 0 then 0 else if wₓ = 4 then 0 else if 4 ≤ wₓ then -1 else 1
def syI (wₓ : Int32) : Int32 := if wₓ = 2 then 0 else if wₓ = 6 then 0 else if wₓ = 7 then -1 else if 2 ≤ wₓ then 1 else -1
theorem nxX_e (T : Mem) (wₓ : Int32) : fX8_nextX T wₓ = some (sxI wₓ, T) := by
  unfold fX8_nextX fX8_nextX_9 sxI
  by_cases h1 : wₓ = 0
  · rw [if_pos h1, if_pos h1]
  · rw [if_neg h1, if_neg h1]
    by_cases h2 : wₓ = 4
    · rw [if_pos h2, if_pos h2]
    · rw [if_neg h2, if_neg h2]
      by_cases h3 : (4 : Int32) ≤ wₓ
      · rw [if_pos h3, if_pos h3]
      · rw [if_neg h3, if_neg h3]
theorem nxY_e (T : Mem) (wₓ : Int32) : fX8_nextY T wₓ = some (syI wₓ, T) := by
  unfold fX8_nextY fX8_nextY_11 fX8_nextY_26 syI
  by_cases h1 : wₓ = 2
  · rw [if_pos h1, if_pos h1]
  · rw [if_neg h1, if_neg h1]
    by_cases h2 : wₓ = 6
    · rw [if_pos h2, if_pos h2]
    · rw [if_neg h2, if_neg h2]
      by_cases h3 : wₓ = 7
      · rw [if_pos h3, if_pos h3]
      · rw [if_neg h3, if_neg h3]
        by_cases h4 : (2 : Int32) ≤ wₓ
        · rw [if_pos h4, if_pos h4]
        · rw [if_neg h4, if_neg h4]
def nxI (xₓ wₓ : Int32) : Int32 := if xₓ = -1 then -1 else if 0 ≤ irem xₓ 5 + sxI wₓ ∧ irem xₓ 5 + sxI wₓ ≤ 4 then (if 0 ≤ xₓ / 5 + syI wₓ ∧ xₓ / 5 + syI wₓ ≤ 4 then 5 * (xₓ / 5 + syI wₓ) + (irem xₓ 5 + sxI wₓ) else -1) else -1
theorem nx_e (T : Mem) (xₓ wₓ : Int32) : fX8_nextTo T xₓ wₓ = some (nxI xₓ wₓ, T) := by
  unfold fX8_nextTo nxI
  by_cases h0 : xₓ = -1
  · rw [if_pos h0, if_pos h0]
  · rw [if_neg h0, if_neg h0]
    simp only [nxX_e, nxY_e, bnd_e, lti_e, isIn_eq]
    by_cases h1 : 0 ≤ irem xₓ 5 + sxI wₓ ∧ irem xₓ 5 + sxI wₓ ≤ 4
    · rw [if_pos h1, if_pos h1, if_neg (show ¬ (1 : Int32) = 0 by decide)]
      by_cases h2 : 0 ≤ xₓ / 5 + syI wₓ ∧ xₓ / 5 + syI wₓ ≤ 4
      · rw [if_pos h2, if_pos h2, if_neg (show ¬ (1 : Int32) = 0 by decide)]
      · rw [if_neg h2, if_neg h2, if_pos rfl]
    · rw [if_neg h1, if_neg h1, if_pos rfl]
theorem nxI_nx : ∀ cₓ, cₓ < 26 → ∀ wₓ, wₓ < 8 → nxI (cI cₓ) (nI wₓ) = cI (nx cₓ wₓ) := by decide +kernel
theorem next_M (T : Mem) {cₓ wₓ : Nat} (hcₓ : cₓ ≤ 25) (hw : wₓ < 8) : fX8_nextTo T (cI cₓ) (nI wₓ) = some (cI (nx cₓ wₓ), T) := by
  rw [nx_e, nxI_nx cₓ (by omega) wₓ hw]
/-- p marks the places of a mask -/
def mkₓ (fₓ : Nat → Int32) (pₓ mₓ : Nat) : Nat → Int32 := fun cₓ => if mₓ.testBit cₓ = true then fₓ cₓ ||| one pₓ else fₓ cₓ
theorem mk_0 (fₓ : Nat → Int32) (pₓ : Nat) : mkₓ fₓ pₓ 0 = fₓ := by
  funext cₓ
  unfold mkₓ
  rw [if_neg (by simp)]
theorem mk_mk (fₓ : Nat → Int32) (pₓ aₓ bₓ : Nat) : mkₓ (mkₓ fₓ pₓ aₓ) pₓ bₓ = mkₓ fₓ pₓ (aₓ ||| bₓ) := by
  funext cₓ
  unfold mkₓ
  rw [Nat.testBit_or]
  cases aₓ.testBit cₓ <;> cases bₓ.testBit cₓ <;> simp [Int32.or_assoc]
theorem mk_bit (fₓ : Nat → Int32) {pₓ : Nat} (hp : pₓ < 32) (mₓ cₓ jₓ : Nat) : bt (mkₓ fₓ pₓ mₓ cₓ) jₓ = (bt (fₓ cₓ) jₓ || (decide (jₓ = pₓ) && mₓ.testBit cₓ)) := by
  unfold mkₓ
  cases hₓ : mₓ.testBit cₓ
  · simp
  · rw [if_pos rfl, bt_set _ hp, Bool.and_true]
theorem mk_cb (fₓ : Nat → Int32) (pₓ : Nat) {cₓ : Nat} (hcₓ : cₓ < 25) : mkₓ fₓ pₓ (cb cₓ) = upd fₓ cₓ (fₓ cₓ ||| one pₓ) := by
  funext jₓ
  unfold mkₓ cb
  rw [if_pos hcₓ, Nat.testBit_two_pow]
  by_cases hₓ : cₓ = jₓ
  · subst hₓ; rw [upd_same]; simp
  · rw [upd_ne _ _ (Ne.symm hₓ)]; simp [hₓ]
theorem shades_M (T : Mem) {cₓ pₓ : Nat} (hcₓ : cₓ ≤ 25) : fX8_shades T (cI cₓ) (nI pₓ) = some (nI 0, mput T 21 (mkₓ (T 21) pₓ (cb cₓ))) := by
  unfold fX8_shades
  by_cases hₓ : cₓ < 25
  · rw [cI_lt hₓ, if_neg (m1_ne (by omega)), gd_in _ hₓ (by omega), gd_in _ hₓ (by omega), nI_clamp (by omega), ltm_e, mk_cb _ _ hₓ]
    rfl
  · rw [show cₓ = 25 by omega, show cI 25 = -1 from rfl, if_pos rfl, show cb 25 = 0 from rfl, mk_0, mput_id]
    rfl
theorem parM_loop (T0ₓ : Mem) {pₓ wₓ alₓ : Nat} (hw : wₓ < 8) (haₓ : alₓ ≤ 4) : ∀ (kₓ iₓ fₓ cₓ : Nat) (T : Mem), iₓ + kₓ = 5 - alₓ → kₓ < fₓ → cₓ ≤ 25 → fX8_shadesByParasol_13 fₓ T (nI pₓ) (nI wₓ) (nI alₓ) (cI cₓ) (nI iₓ) = some (nI 0, mput T 21 (mkₓ (T 21) pₓ (parA kₓ wₓ cₓ))) := by
  intro kₓ
  induction kₓ with
  | zero =>
    intro iₓ fₓ cₓ T hiₓ hf hcₓ
    obtain ⟨fₓ, rfl⟩ : ∃ gₓ, fₓ = gₓ + 1 := ⟨fₓ - 1, by omega⟩
    show fX8_shadesByParasol_13_b (fX8_shadesByParasol_13 fₓ) T (nI pₓ) (nI wₓ) (nI alₓ) (cI cₓ) (nI iₓ) = _
    simp (disch := first | omega | assumption) only [fX8_shadesByParasol_13_b, pk_sub, parA, mk_0, mput_id, mset_ne, mset_same, upd_same, upd_ne, ltm_e, lti_e, bnd_e, fa_lit, nI_add, pk_mul, nI_clamp, gd_in, nlt0, nI_ltI, nI_leI, nI_eq, if_true, if_false, if_pos, if_neg]
  | succ kₓ ihₓ =>
    intro iₓ fₓ cₓ T hiₓ hf hcₓ
    obtain ⟨fₓ, rfl⟩ : ∃ gₓ, fₓ = gₓ + 1 := ⟨fₓ - 1, by omega⟩
    show fX8_shadesByParasol_13_b (fX8_shadesByParasol_13 fₓ) T (nI pₓ) (nI wₓ) (nI alₓ) (cI cₓ) (nI iₓ) = _
    simp (disch := first | omega | assumption) only [fX8_shadesByParasol_13_b, pk_sub, shades_M, next_M, ihₓ (iₓ + 1) fₓ (nx cₓ wₓ) _ (by omega) (by omega) (nx_le cₓ wₓ), mput_same, mk_mk, mput_mput, parA, mset_ne, mset_same, upd_same, upd_ne, ltm_e, lti_e, bnd_e, fa_lit, nI_add, pk_mul, nI_clamp, gd_in, nlt0, nI_ltI, nI_leI, nI_eq, if_true, if_false, if_pos, if_neg]
theorem par_M {T : Mem} {V : Vw} (hBₓ : VB V) (hₓ : MVw T V) {pₓ wₓ alₓ : Nat} (hp : pₓ < V.1) (hw : wₓ < 8) (haₓ : alₓ ≤ 4) : fX8_shadesByParasol T (nI pₓ) (nI wₓ) (nI alₓ) = some (nI 0, mput T 21 (mkₓ (T 21) pₓ (parA (5 - alₓ) wₓ (V.2.2 pₓ 0)))) := by
  have hn := hBₓ.1
  have e0ₓ := (hₓ.2.2 pₓ (by omega)).1
  have b0 := (hBₓ.2.2.1 pₓ (by omega)).1
  rw [← cI_lt (show V.2.2 pₓ 0 < 25 by omega)] at e0ₓ
  have hl := parM_loop T (pₓ := pₓ) hw haₓ (5 - alₓ) 0 FU (V.2.2 pₓ 0) T (by omega) (by unfold FU; omega) (by omega)
  simp (disch := first | omega | assumption) only [fX8_shadesByParasol, e0ₓ, hl, mset_ne, mset_same, upd_same, upd_ne, ltm_e, lti_e, bnd_e, fa_lit, nI_add, pk_mul, nI_clamp, gd_in, nlt0, nI_ltI, nI_leI, nI_eq, if_true, if_false, if_pos, if_neg]
theorem mod8 : ∀ wₓ, wₓ < 16 → irem (nI wₓ) (nI 8) = nI (wₓ % 8) := by decide +kernel
theorem body_M {T : Mem} {V : Vw} (hBₓ : VB V) (hₓ : MVw T V) {pₓ wₓ alₓ : Nat} (hp : pₓ < V.1) (hw : wₓ < 8) (haₓ : alₓ ≤ 4) : fX8_shadesByHimself T (nI pₓ) (nI wₓ) (nI alₓ) = some (nI 0, mput T 21 (mkₓ (T 21) pₓ (bodyₓ (V.2.2 pₓ 1) (V.2.2 pₓ 2) alₓ wₓ (V.2.2 pₓ 0)))) := by
  have hn := hBₓ.1
  obtain ⟨e0ₓ, e1ₓ, e2ₓ, e3ₓ, e5ₓ, e6ₓ⟩ := hₓ.2.2 pₓ (by omega)
  obtain ⟨b0, b1, b2, b3, b5, b6⟩ := hBₓ.2.2.1 pₓ (by omega)
  have bg := hBₓ.2.2.2 pₓ hp
  rw [← cI_lt (show V.2.2 pₓ 0 < 25 by omega)] at e0ₓ
  generalize V.2.2 pₓ 0 = pl at *
  generalize V.2.2 pₓ 1 = ta at *
  generalize V.2.2 pₓ 2 = gi at *
  have m2ₓ := mod8 (wₓ + 2) (by omega)
  have m6ₓ := mod8 (wₓ + 6) (by omega)
  have n0ₓ := next_M T (cₓ := pl) (wₓ := wₓ) (by omega) hw
  have keyₓ : ∀ sₓ : Nat, sₓ < 4 → ta ≥ 5 → fX8_shadesByHimself_26 T (nI pₓ) (nI wₓ) (nI alₓ) (nI sₓ) = some (nI 0, mput T 21 (mkₓ (T 21) pₓ (if 5 ≤ ta ∧ alₓ ≤ sₓ then bdy wₓ pl gi else 0))) := by
    intro sₓ hs ht
    by_cases c2ₓ : alₓ ≤ sₓ
    · rw [if_pos (show 5 ≤ ta ∧ alₓ ≤ sₓ by omega)]
      by_cases c5ₓ : gi = 1
      · subst c5ₓ
        simp (disch := first | omega | assumption) only [fX8_shadesByHimself_26, e0ₓ, n0ₓ, shades_M T (nx_le pl wₓ), mput_ne, e2ₓ, bdy, Nat.or_zero, mset_ne, mset_same, upd_same, upd_ne, ltm_e, lti_e, bnd_e, fa_lit, nI_add, pk_mul, nI_clamp, gd_in, nlt0, nI_ltI, nI_leI, nI_eq, if_true, if_false, if_pos, if_neg]
      · simp (disch := first | omega | assumption) only [fX8_shadesByHimself_26, e0ₓ, n0ₓ, shades_M _ (nx_le pl wₓ), mput_ne, e2ₓ, m2ₓ, m6ₓ, next_M _ (nx_le pl wₓ) (show (wₓ + 2) % 8 < 8 by omega), next_M _ (nx_le pl wₓ) (show (wₓ + 6) % 8 < 8 by omega), shades_M _ (nx_le (nx pl wₓ) ((wₓ + 2) % 8)), shades_M _ (nx_le (nx pl wₓ) ((wₓ + 6) % 8)), mput_same, mk_mk, mput_mput, bdy, Nat.or_assoc, mset_ne, mset_same, upd_same, upd_ne, ltm_e, lti_e, bnd_e, fa_lit, nI_add, pk_mul, nI_clamp, gd_in, nlt0, nI_ltI, nI_leI, nI_eq, if_true, if_false, if_pos, if_neg]
    · rw [if_neg (show ¬ (5 ≤ ta ∧ alₓ ≤ sₓ) by omega)]
      simp (disch := first | omega | assumption) only [fX8_shadesByHimself_26, mk_0, mput_id, mset_ne, mset_same, upd_same, upd_ne, ltm_e, lti_e, bnd_e, fa_lit, nI_add, pk_mul, nI_clamp, gd_in, nlt0, nI_ltI, nI_leI, nI_eq, if_true, if_false, if_pos, if_neg]
  by_cases c1ₓ : ta < 5
  · rw [bodyₓ, if_neg (by omega), mk_0, mput_id]
    simp (disch := first | omega | assumption) only [fX8_shadesByHimself, e1ₓ, mset_ne, mset_same, upd_same, upd_ne, ltm_e, lti_e, bnd_e, fa_lit, nI_add, pk_mul, nI_clamp, gd_in, nlt0, nI_ltI, nI_leI, nI_eq, if_true, if_false, if_pos, if_neg]
  · by_cases c0ₓ : gi = 3
    · have := keyₓ 3 (by omega) (by omega)
      subst c0ₓ
      simp (disch := first | omega | assumption) only [fX8_shadesByHimself, e1ₓ, e2ₓ, this, bodyₓ, mset_ne, mset_same, upd_same, upd_ne, ltm_e, lti_e, bnd_e, fa_lit, nI_add, pk_mul, nI_clamp, gd_in, nlt0, nI_ltI, nI_leI, nI_eq, if_true, if_false, if_pos, if_neg]
    · have := keyₓ 2 (by omega) (by omega)
      simp (disch := first | omega | assumption) only [fX8_shadesByHimself, e1ₓ, e2ₓ, this, bodyₓ, mset_ne, mset_same, upd_same, upd_ne, ltm_e, lti_e, bnd_e, fa_lit, nI_add, pk_mul, nI_clamp, gd_in, nlt0, nI_ltI, nI_leI, nI_eq, if_true, if_false, if_pos, if_neg]
def mks (gₓ : Nat → Nat) : Nat → Nat → (Nat → Int32) → (Nat → Int32)
  | 0, _, Fₓ => Fₓ
  | kₓ + 1, iₓ, Fₓ => mks gₓ kₓ (iₓ + 1) (mkₓ Fₓ iₓ (gₓ iₓ))
theorem mks_bit (gₓ : Nat → Nat) (cₓ jₓ : Nat) : ∀ kₓ iₓ Fₓ, iₓ + kₓ ≤ 32 → bt (mks gₓ kₓ iₓ Fₓ cₓ) jₓ = (bt (Fₓ cₓ) jₓ || (decide (iₓ ≤ jₓ ∧ jₓ < iₓ + kₓ) && (gₓ jₓ).testBit cₓ)) := by
  intro kₓ
  induction kₓ with
  | zero =>
    intro iₓ Fₓ _
    rw [mks, decide_eq_false (by omega), Bool.false_and, Bool.or_false]
  | succ kₓ ihₓ =>
    intro iₓ Fₓ hiₓ
    rw [mks, ihₓ _ _ (by omega), mk_bit _ (by omega)]
    by_cases eₓ : jₓ = iₓ
    · subst eₓ
      rw [decide_eq_true rfl, decide_eq_false (show ¬ (jₓ + 1 ≤ jₓ ∧ jₓ < jₓ + 1 + kₓ) by omega), decide_eq_true (show jₓ ≤ jₓ ∧ jₓ < jₓ + (kₓ + 1) by omega)]
      simp
    · rw [decide_eq_false eₓ, Bool.false_and, Bool.or_false]
      by_cases qₓ : iₓ + 1 ≤ jₓ ∧ jₓ < iₓ + 1 + kₓ
      · rw [decide_eq_true qₓ, decide_eq_true (show iₓ ≤ jₓ ∧ jₓ < iₓ + (kₓ + 1) by omega)]
      · rw [decide_eq_false qₓ, decide_eq_false (show ¬ (iₓ ≤ jₓ ∧ jₓ < iₓ + (kₓ + 1)) by omega)]
theorem finds_loop {V : Vw} (hBₓ : VB V) {hₓ rₓ bₓ : Nat} (hh : hₓ < 12) (hbₓ : bₓ < 2) (set : Int32) : ∀ (kₓ iₓ fₓ : Nat) (T : Mem), iₓ + kₓ = V.1 → kₓ < fₓ → MVw T V → fX8_findsShade_59 fₓ T set (nI bₓ) (nI (wy (V.2.1 hₓ 0) rₓ)) (nI (V.2.1 hₓ 1)) (nI iₓ) = some (nI 0, mput T 21 (mks (gs V hₓ rₓ (bt set) (decide (bₓ = 1))) kₓ iₓ (T 21))) := by
  have hw := wy_lt (V.2.1 hₓ 0) rₓ
  have haₓ := (hBₓ.2.1 hₓ hh).2.1
  have hn := hBₓ.1
  intro kₓ
  induction kₓ with
  | zero =>
    intro iₓ fₓ T hiₓ hf hV
    obtain ⟨fₓ, rfl⟩ : ∃ gₓ, fₓ = gₓ + 1 := ⟨fₓ - 1, by omega⟩
    show fX8_findsShade_59_b (fX8_findsShade_59 fₓ) T set (nI bₓ) (nI (wy (V.2.1 hₓ 0) rₓ)) (nI (V.2.1 hₓ 1)) (nI iₓ) = _
    have e1ₓ := hV.1
    simp (disch := first | omega | assumption) only [fX8_findsShade_59_b, e1ₓ, mks, mput_id, mset_ne, mset_same, upd_same, upd_ne, ltm_e, lti_e, bnd_e, fa_lit, nI_add, pk_mul, nI_clamp, gd_in, nlt0, nI_ltI, nI_leI, nI_eq, if_true, if_false, if_pos, if_neg]
  | succ kₓ ihₓ =>
    intro iₓ fₓ T hiₓ hf hV
    obtain ⟨fₓ, rfl⟩ : ∃ gₓ, fₓ = gₓ + 1 := ⟨fₓ - 1, by omega⟩
    show fX8_findsShade_59_b (fX8_findsShade_59 fₓ) T set (nI bₓ) (nI (wy (V.2.1 hₓ 0) rₓ)) (nI (V.2.1 hₓ 1)) (nI iₓ) = _
    have e1ₓ := hV.1
    have hp : iₓ < V.1 := by omega
    have hi32ₓ : iₓ < 32 := by omega
    have a88 : ∀ (T1 : Mem) (mₓ : Nat), MVw T1 V → T1 = mput T 21 (mkₓ (T 21) iₓ mₓ) → mₓ = (if bt set iₓ = true then parA (5 - V.2.1 hₓ 1) (wy (V.2.1 hₓ 0) rₓ) (V.2.2 iₓ 0) else 0) → fX8_findsShade_88 (fX8_findsShade_59 fₓ) T1 set (nI bₓ) (nI (wy (V.2.1 hₓ 0) rₓ)) (nI (V.2.1 hₓ 1)) (nI iₓ) = some (nI 0, mput T 21 (mks (gs V hₓ rₓ (bt set) (decide (bₓ = 1))) (kₓ + 1) iₓ (T 21))) := by
      intro T1 mₓ h1 eT em
      by_cases cₓ : bₓ = 1
      · subst cₓ
        have eb := body_M hBₓ h1 hp hw haₓ
        have zₓ := ihₓ (iₓ + 1) fₓ _ (by omega) (by omega) (h1.m 21 (by omega) (mkₓ (T1 21) iₓ (bodyₓ (V.2.2 iₓ 1) (V.2.2 iₓ 2) (V.2.1 hₓ 1) (wy (V.2.1 hₓ 0) rₓ) (V.2.2 iₓ 0))))
        unfold fX8_findsShade_88 fX8_findsShade_103
        rw [if_neg (show ¬ nI 1 = 0 by decide), eb, bnd_e, show nI iₓ + 1 = nI (iₓ + 1) from nI_add iₓ 1, zₓ, mput_same, mput_mput, eT, mput_mput, mput_same, mk_mk, em, mks]
        unfold gs
        rw [if_pos (show decide (1 = 1) = true from rfl)]
      · have c0ₓ : bₓ = 0 := by omega
        subst c0ₓ
        have zₓ := ihₓ (iₓ + 1) fₓ _ (by omega) (by omega) h1
        unfold fX8_findsShade_88 fX8_findsShade_103
        rw [if_pos (show nI 0 = 0 from rfl), show nI iₓ + 1 = nI (iₓ + 1) from nI_add iₓ 1, zₓ, eT, mput_mput, mput_same, em, mks]
        unfold gs
        rw [if_neg (show ¬ decide (0 = 1) = true by decide), Nat.or_zero]
    unfold fX8_findsShade_59_b
    rw [e1ₓ, if_neg (by rw [nI_leI (by omega) (by omega)]; omega)]
    by_cases cₓ : bt set iₓ = true
    · have c' : ((set >>> (nI iₓ &&& 31)) &&& (1 : Int32)) = 1 := (bitI_iff set hi32ₓ).2 cₓ
      rw [if_pos c', par_M hBₓ hV hp hw haₓ, bnd_e]
      exact a88 _ _ (hV.m 21 (by omega) _) rfl (by rw [if_pos cₓ])
    · have c' : ¬ ((set >>> (nI iₓ &&& 31)) &&& (1 : Int32)) = 1 := fun qₓ => cₓ ((bitI_iff set hi32ₓ).1 qₓ)
      rw [if_neg c']
      exact a88 T 0 hV (by rw [mk_0, mput_id]) (by rw [if_neg cₓ])
theorem zero_loop {V : Vw} (hBₓ : VB V) {hₓ rₓ bₓ : Nat} (hh : hₓ < 12) (hr : rₓ < 8) (hbₓ : bₓ < 2) (set : Int32) : ∀ (kₓ iₓ fₓ : Nat) (T : Mem), iₓ + kₓ = 25 → kₓ < fₓ → MVw T V → (∀ cₓ, cₓ < iₓ → T 21 cₓ = 0) → ∃ Fₓ, (∀ cₓ, cₓ < 25 → Fₓ cₓ = 0) ∧ fX8_findsShade_3 fₓ T (nI hₓ) (nI rₓ) set (nI bₓ) (nI iₓ) = some (nI 0, mput T 21 (mks (gs V hₓ rₓ (bt set) (decide (bₓ = 1))) V.1 0 Fₓ)) := by
  have hs := (hBₓ.2.1 hₓ hh).1
  have haₓ := (hBₓ.2.1 hₓ hh).2.1
  have hn := hBₓ.1
  have wm := wy_M (V.2.1 hₓ 0) (by omega) rₓ hr
  intro kₓ
  induction kₓ with
  | zero =>
    intro iₓ fₓ T hiₓ hf hV hz
    obtain ⟨fₓ, rfl⟩ : ∃ gₓ, fₓ = gₓ + 1 := ⟨fₓ - 1, by omega⟩
    have hiₓ : iₓ = 25 := by omega
    subst hiₓ
    refine ⟨T 21, hz, ?_⟩
    show fX8_findsShade_3_b (fX8_findsShade_3 fₓ) T (nI hₓ) (nI rₓ) set (nI bₓ) (nI 25) = _
    have e0ₓ := hV.2.1 hₓ 0 hh (by omega)
    have e1ₓ := hV.2.1 hₓ 1 hh (by omega)
    have zₓ := finds_loop hBₓ (rₓ := rₓ) hh hbₓ set V.1 0 FU T (by omega) (by unfold FU; omega) hV
    simp (disch := first | omega | assumption) only [fX8_findsShade_3_b, e0ₓ, e1ₓ, wm, zₓ, mset_ne, mset_same, upd_same, upd_ne, ltm_e, lti_e, bnd_e, fa_lit, nI_add, pk_mul, nI_clamp, gd_in, nlt0, nI_ltI, nI_leI, nI_eq, if_true, if_false, if_pos, if_neg]
  | succ kₓ ihₓ =>
    intro iₓ fₓ T hiₓ hf hV hz
    obtain ⟨fₓ, rfl⟩ : ∃ gₓ, fₓ = gₓ + 1 := ⟨fₓ - 1, by omega⟩
    obtain ⟨Fₓ, z1, z2⟩ := ihₓ (iₓ + 1) fₓ (mset T 21 iₓ (nI 0)) (by omega) (by omega) (hV.m 21 (by omega) _) (fun cₓ hcₓ => by
      rw [mset_same]
      by_cases eₓ : cₓ = iₓ
      · rw [eₓ, upd_same]; rfl
      · rw [upd_ne _ _ eₓ]; exact hz cₓ (by omega))
    refine ⟨Fₓ, z1, ?_⟩
    show fX8_findsShade_3_b (fX8_findsShade_3 fₓ) T (nI hₓ) (nI rₓ) set (nI bₓ) (nI iₓ) = _
    have eₓ : mput (mset T 21 iₓ (nI 0)) 21 (mks (gs V hₓ rₓ (bt set) (decide (bₓ = 1))) V.1 0 Fₓ) = mput T 21 (mks (gs V hₓ rₓ (bt set) (decide (bₓ = 1))) V.1 0 Fₓ) := mput_mput _ _ _ _
    rw [eₓ] at z2
    rw [← z2]
    simp (disch := first | omega | assumption) only [fX8_findsShade_3_b, mset_ne, mset_same, upd_same, upd_ne, ltm_e, lti_e, bnd_e, fa_lit, nI_add, pk_mul, nI_clamp, gd_in, nlt0, nI_ltI, nI_leI, nI_eq, if_true, if_false, if_pos, if_neg]
theorem finds_M {T : Mem} {V : Vw} (hBₓ : VB V) (hV : MVw T V) {hₓ rₓ bₓ : Nat} (hh : hₓ < 12) (hr : rₓ < 8) (hbₓ : bₓ < 2) (set : Int32) : ∃ Gₓ : Nat → Int32, fX8_findsShade T (nI hₓ) (nI rₓ) set (nI bₓ) = some (nI 0, mput T 21 Gₓ) ∧ ∀ cₓ jₓ, cₓ < 25 → bt (Gₓ cₓ) jₓ = (decide (jₓ < V.1) && (gs V hₓ rₓ (bt set) (decide (bₓ = 1)) jₓ).testBit cₓ) := by
  obtain ⟨Fₓ, z1, z2⟩ := zero_loop hBₓ hh hr hbₓ set 25 0 FU T (by omega) (by unfold FU; omega) hV (fun cₓ hcₓ => absurd hcₓ (by omega))
  refine ⟨_, z2, fun cₓ jₓ hcₓ => ?_⟩
  have hn := hBₓ.1
  rw [mks_bit _ _ _ _ _ _ (by omega), z1 cₓ hcₓ, b_0, Bool.false_or]
  congr 1
  exact decide_eq_decide.mpr (by omega)
/-! who is shaded -/
theorem body_own : ∀ wₓ, wₓ < 8 → ∀ pl, pl < 25 → ∀ gi, gi < 4 → (bdy wₓ pl gi).testBit pl = false := by decide +kernel
theorem par_own {kₓ wₓ pl : Nat} (hₓ : pl < 25) : (parA (kₓ + 1) wₓ pl).testBit pl = true := by
  rw [parA, Nat.testBit_or, cb, if_pos hₓ, Nat.testBit_two_pow_self, Bool.true_or]
/-- p is shaded in hour h on road r -/
def isSh (V : Vw) (hₓ rₓ pₓ : Nat) : Bool := decide (V.2.2 pₓ 6 = 1) || (shLₓ (gs V hₓ rₓ (pb V) true) 99 V.1 0 0).testBit (V.2.2 pₓ 0)
theorem bs_pb {T : Mem} {V : Vw} (hBₓ : VB V) (hV : MVw T V) {pₓ : Nat} (hp : pₓ < 10) : bt (T 0 10) pₓ = pb V pₓ := by
  have e5ₓ := (hV.2.2 pₓ hp).2.2.2.2.1
  have b5 := (hBₓ.2.2.1 pₓ hp).2.2.2.2.1
  rw [bitI_eq _ (by omega)] at e5ₓ
  unfold pb
  by_cases hₓ : bt (T 0 10) pₓ = true
  · rw [if_pos hₓ, show (1 : Int32) = nI 1 from rfl, nI_eq (by omega) (by omega)] at e5ₓ
    rw [hₓ, ← e5ₓ]; rfl
  · rw [if_neg hₓ, show (0 : Int32) = nI 0 from rfl, nI_eq (by omega) (by omega)] at e5ₓ
    rw [← e5ₓ]
    simpa using hₓ
theorem hat_b {T : Mem} {V : Vw} (hBₓ : VB V) (hV : MVw T V) {pₓ : Nat} (hp : pₓ < 10) : bt (T 0 11) pₓ = decide (V.2.2 pₓ 6 = 1) := by
  have e5ₓ := (hV.2.2 pₓ hp).2.2.2.2.2
  have b5 := (hBₓ.2.2.1 pₓ hp).2.2.2.2.2
  rw [bitI_eq _ (by omega)] at e5ₓ
  by_cases hₓ : bt (T 0 11) pₓ = true
  · rw [if_pos hₓ, show (1 : Int32) = nI 1 from rfl, nI_eq (by omega) (by omega)] at e5ₓ
    rw [hₓ, ← e5ₓ]; rfl
  · rw [if_neg hₓ, show (0 : Int32) = nI 0 from rfl, nI_eq (by omega) (by omega)] at e5ₓ
    rw [← e5ₓ]
    simpa using hₓ
theorem gs_cg (V : Vw) (hₓ rₓ : Nat) {sbₓ sb' : Nat → Bool} (all : Bool) {pₓ : Nat} (eₓ : sbₓ pₓ = sb' pₓ) : gs V hₓ rₓ sbₓ all pₓ = gs V hₓ rₓ sb' all pₓ := by unfold gs; rw [eₓ]
/-- own shade on the own place: by the parasol alone -/
theorem gs_own {V : Vw} (hBₓ : VB V) {hₓ rₓ : Nat} (hh : hₓ < 12) (sbₓ : Nat → Bool) (all : Bool) {pₓ : Nat} (hp : pₓ < 10) : (gs V hₓ rₓ sbₓ all pₓ).testBit (V.2.2 pₓ 0) = sbₓ pₓ := by
  have b0 := hBₓ.2.2.1 pₓ hp
  have baₓ := (hBₓ.2.1 hₓ hh).2.1
  unfold gs
  have e1ₓ : (if all = true then bodyₓ (V.2.2 pₓ 1) (V.2.2 pₓ 2) (V.2.1 hₓ 1) (wy (V.2.1 hₓ 0) rₓ) (V.2.2 pₓ 0) else 0).testBit (V.2.2 pₓ 0) = false := by
    by_cases cₓ : all = true
    · rw [if_pos cₓ]
      unfold bodyₓ
      generalize hx : (if V.2.2 pₓ 2 = 3 then 3 else 2) = xₓ
      by_cases c2ₓ : 5 ≤ V.2.2 pₓ 1 ∧ V.2.1 hₓ 1 ≤ xₓ
      · rw [if_pos c2ₓ]; exact body_own _ (wy_lt _ _) _ (by omega) _ (by omega)
      · rw [if_neg c2ₓ]; exact Nat.zero_testBit _
    · rw [if_neg cₓ]; exact Nat.zero_testBit _
  rw [Nat.testBit_or, e1ₓ, Bool.or_false]
  by_cases cₓ : sbₓ pₓ = true
  · rw [if_pos cₓ, cₓ]
    obtain ⟨kₓ, hk⟩ : ∃ kₓ, 5 - V.2.1 hₓ 1 = kₓ + 1 := ⟨4 - V.2.1 hₓ 1, by omega⟩
    rw [hk]
    exact par_own (by omega)
  · rw [if_neg cₓ, Nat.zero_testBit]
    simpa using cₓ
theorem shd_X {Sₓ : Mem} {V : Vw} (hBₓ : VB V) (hₓ : XVw Sₓ V) {pₓ mₓ : Nat} (hp : pₓ < V.1) : fX6_isShaded Sₓ (nI pₓ) (nI mₓ) = some (if (decide (V.2.2 pₓ 6 = 1) || mₓ.testBit (V.2.2 pₓ 0)) = true then nI 1 else nI 0, Sₓ) := by
  obtain ⟨e0ₓ, e1ₓ, e2ₓ, e3ₓ, e5ₓ, e6ₓ⟩ := has_V hBₓ hₓ hp
  have hn := hBₓ.1
  obtain ⟨b0, b1, b2, b3, b5, b6⟩ := hBₓ.2.2.1 pₓ (by omega)
  have en := hₓ.1
  by_cases cₓ : V.2.2 pₓ 6 = 1
  · rw [cₓ] at e6ₓ
    rw [if_pos (by simp [cₓ])]
    simp (disch := first | omega | assumption) only [fX6_isShaded, fX6_isShaded_35, fX6_isPilgrim, en, e6ₓ, mset_ne, mset_same, upd_same, upd_ne, ltm_e, lti_e, bnd_e, fa_lit, nI_add, pk_mul, nI_clamp, gd_in, nlt0, nI_ltI, nI_leI, nI_eq, if_true, if_false, if_pos, if_neg]
  · have kₓ : ((nI mₓ >>> (nI (V.2.2 pₓ 0) &&& 31)) &&& (1 : Int32)) = if mₓ.testBit (V.2.2 pₓ 0) = true then 1 else 0 := bitI_nI mₓ (by omega)
    have k' : ((nI mₓ >>> (nI (V.2.2 pₓ 0) &&& nI 31)) &&& nI 1) = if mₓ.testBit (V.2.2 pₓ 0) = true then nI 1 else nI 0 := kₓ
    have c6ₓ : V.2.2 pₓ 6 = 0 := by omega
    rw [decide_eq_false cₓ, Bool.false_or]
    by_cases qₓ : mₓ.testBit (V.2.2 pₓ 0) = true
    · rw [if_pos qₓ] at k' ⊢
      simp (disch := first | omega | assumption) only [fX6_isShaded, fX6_isShaded_35, fX6_isPilgrim, en, e6ₓ, e0ₓ, k', mset_ne, mset_same, upd_same, upd_ne, ltm_e, lti_e, bnd_e, fa_lit, nI_add, pk_mul, nI_clamp, gd_in, nlt0, nI_ltI, nI_leI, nI_eq, if_true, if_false, if_pos, if_neg]
    · rw [if_neg qₓ] at k' ⊢
      simp (disch := first | omega | assumption) only [fX6_isShaded, fX6_isShaded_35, fX6_isPilgrim, en, e6ₓ, e0ₓ, k', mset_ne, mset_same, upd_same, upd_ne, ltm_e, lti_e, bnd_e, fa_lit, nI_add, pk_mul, nI_clamp, gd_in, nlt0, nI_ltI, nI_leI, nI_eq, if_true, if_false, if_pos, if_neg]
theorem clr_iff {xₓ : Int32} {pₓ : Nat} (hp : pₓ < 32) : (xₓ &&& (one pₓ ^^^ -1)) = 0 ↔ ∀ jₓ, jₓ < 32 → jₓ ≠ pₓ → bt xₓ jₓ = false := by
  rw [eq0_iff]
  constructor
  · intro hₓ jₓ hj hne
    have := hₓ jₓ hj
    rw [bt_clr _ hp hj, decide_eq_false hne] at this
    simpa using this
  · intro hₓ jₓ hj
    rw [bt_clr _ hp hj]
    by_cases eₓ : jₓ = pₓ
    · rw [decide_eq_true eₓ]; simp
    · rw [hₓ jₓ hj eₓ, Bool.false_and]
/-- the reference's answer at a place: somebody else shades it, or a parasol of the set, or a hat -/
def shAt (V : Vw) (hₓ rₓ : Nat) (sbₓ : Nat → Bool) (all : Bool) (pₓ cₓ : Nat) : Prop := (∃ jₓ, jₓ < V.1 ∧ jₓ ≠ pₓ ∧ (gs V hₓ rₓ sbₓ all jₓ).testBit cₓ = true) ∨ sbₓ pₓ = true ∨ V.2.2 pₓ 6 = 1
theorem shd_M {T : Mem} {V : Vw} (hBₓ : VB V) (hV : MVw T V) {hₓ rₓ pₓ cₓ : Nat} {all : Bool} {set : Int32} {Gₓ : Nat → Int32} (hG : ∀ cₓ jₓ, cₓ < 25 → bt (Gₓ cₓ) jₓ = (decide (jₓ < V.1) && (gs V hₓ rₓ (bt set) all jₓ).testBit cₓ)) (hTₓ : T 21 = Gₓ) (hp : pₓ < V.1) (hcₓ : cₓ < 25) : ∃ vₓ, fX8_isShadedAt T (nI pₓ) (nI cₓ) set = some (vₓ, T) ∧ ((shAt V hₓ rₓ (bt set) all pₓ cₓ ∧ vₓ = nI 1) ∨ (¬ shAt V hₓ rₓ (bt set) all pₓ cₓ ∧ vₓ = nI 0)) := by
  have hn := hBₓ.1
  have hp32 : pₓ < 32 := by omega
  have k1ₓ : ((Gₓ cₓ &&& (one pₓ ^^^ -1)) = 0) ↔ ¬ ∃ jₓ, jₓ < V.1 ∧ jₓ ≠ pₓ ∧ (gs V hₓ rₓ (bt set) all jₓ).testBit cₓ = true := by
    rw [clr_iff hp32]
    constructor
    · rintro qₓ ⟨jₓ, h1, h2, h3⟩
      have := qₓ jₓ (by omega) h2
      rw [hG cₓ jₓ hcₓ, decide_eq_true h1, h3] at this
      cases this
    · intro qₓ jₓ hj hne
      rw [hG cₓ jₓ hcₓ]
      by_cases h1 : jₓ < V.1
      · rw [decide_eq_true h1, Bool.true_and]
        cases h3 : (gs V hₓ rₓ (bt set) all jₓ).testBit cₓ
        · rfl
        · exact absurd ⟨jₓ, h1, hne, h3⟩ qₓ
      · rw [decide_eq_false h1, Bool.false_and]
  have k2ₓ : ((((set ||| T 0 11) >>> (nI pₓ &&& 31)) &&& (1 : Int32)) = 1) ↔ (bt set pₓ = true ∨ V.2.2 pₓ 6 = 1) := by
    have : ((((set ||| T 0 11) >>> (nI pₓ &&& 31)) &&& (1 : Int32)) = 1) ↔ bt (set ||| T 0 11) pₓ = true := bitI_iff _ hp32
    rw [this, b_or, hat_b hBₓ hV (by omega), Bool.or_eq_true, decide_eq_true_eq]
  have k1' : ((Gₓ cₓ &&& (((1 : Int32) <<< (nI pₓ &&& 31)) ^^^ (-1 : Int32))) = 0) ↔ ¬ ∃ jₓ, jₓ < V.1 ∧ jₓ ≠ pₓ ∧ (gs V hₓ rₓ (bt set) all jₓ).testBit cₓ = true := k1ₓ
  unfold fX8_isShadedAt fX8_isShadedAt_29
  rw [gd_in _ hcₓ (by omega), nI_clamp (by omega), hTₓ]
  by_cases aₓ : ∃ jₓ, jₓ < V.1 ∧ jₓ ≠ pₓ ∧ (gs V hₓ rₓ (bt set) all jₓ).testBit cₓ = true
  · rw [if_neg (fun qₓ => (k1'.1 qₓ) aₓ)]
    exact ⟨1, rfl, Or.inl ⟨Or.inl aₓ, rfl⟩⟩
  · rw [if_pos (k1'.2 aₓ)]
    by_cases bₓ : bt set pₓ = true ∨ V.2.2 pₓ 6 = 1
    · rw [if_pos (k2ₓ.2 bₓ)]
      exact ⟨1, rfl, Or.inl ⟨Or.inr bₓ, rfl⟩⟩
    · rw [if_neg (fun qₓ => bₓ (k2ₓ.1 qₓ))]
      exact ⟨0, rfl, Or.inr ⟨fun qₓ => qₓ.elim aₓ bₓ, rfl⟩⟩
/-- the two ways of saying that p is shaded -/
theorem sh_eq {V : Vw} (hBₓ : VB V) {hₓ rₓ pₓ : Nat} {sbₓ : Nat → Bool} (hh : hₓ < 12) (hp : pₓ < V.1) (hs : ∀ jₓ, jₓ < 10 → sbₓ jₓ = pb V jₓ) : shAt V hₓ rₓ sbₓ true pₓ (V.2.2 pₓ 0) ↔ isSh V hₓ rₓ pₓ = true := by
  have hn := hBₓ.1
  unfold isSh
  rw [Bool.or_eq_true, decide_eq_true_eq, shL_bit]
  constructor
  · rintro (⟨jₓ, h1, h2, h3⟩ | h1 | h1)
    · rw [gs_cg V hₓ rₓ true (hs jₓ (by omega))] at h3
      exact Or.inr (Or.inr ⟨jₓ, by omega, by omega, by omega, h3⟩)
    · rw [hs pₓ (by omega)] at h1
      exact Or.inr (Or.inr ⟨pₓ, by omega, by omega, by omega, by rw [gs_own hBₓ hh _ _ (by omega)]; exact h1⟩)
    · exact Or.inl h1
  · rintro (h1 | h1 | ⟨jₓ, h1, h2, h3, h4⟩)
    · exact Or.inr (Or.inr h1)
    · rw [Nat.zero_testBit] at h1; cases h1
    · by_cases eₓ : jₓ = pₓ
      · subst eₓ
        rw [gs_own hBₓ hh _ _ (by omega)] at h4
        exact Or.inr (Or.inl (by rw [hs jₓ (by omega)]; exact h4))
      · rw [← gs_cg V hₓ rₓ true (hs jₓ (by omega))] at h4
        exact Or.inl ⟨jₓ, by omega, eₓ, h4⟩
/-- the shade of hour h on road r stands in the reference's row -/
def Shd (T : Mem) (V : Vw) (hₓ rₓ : Nat) : Prop := MVw T V ∧ ∀ cₓ jₓ, cₓ < 25 → bt (T 21 cₓ) jₓ = (decide (jₓ < V.1) && (gs V hₓ rₓ (bt (T 0 10)) true jₓ).testBit cₓ)
theorem finds_all {T : Mem} {V : Vw} (hBₓ : VB V) (hV : MVw T V) {hₓ rₓ : Nat} (hh : hₓ < 12) (hr : rₓ < 8) : ∃ Gₓ : Nat → Int32, fX8_findsShade T (nI hₓ) (nI rₓ) (T 0 10) (nI 1) = some (nI 0, mput T 21 Gₓ) ∧ Shd (mput T 21 Gₓ) V hₓ rₓ := by
  obtain ⟨Gₓ, g1, g2⟩ := finds_M hBₓ hV hh hr (show 1 < 2 by omega) (T 0 10)
  refine ⟨Gₓ, g1, hV.m 21 (by omega) Gₓ, fun cₓ jₓ hcₓ => ?_⟩
  rw [mput_same, mput_ne _ _ (show 0 ≠ 21 by omega)]
  exact g2 cₓ jₓ hcₓ
theorem findsNow_M {T : Mem} {V : Vw} (hBₓ : VB V) (hV : MVw T V) {hₓ : Nat} (hh : hₓ < 12) : ∃ Gₓ : Nat → Int32, fX8_findsShadeNow T (nI hₓ) = some (nI 0, mput T 21 Gₓ) ∧ Shd (mput T 21 Gₓ) V hₓ (V.2.1 hₓ 3) := by
  obtain ⟨Gₓ, g1, g2⟩ := finds_all hBₓ hV hh (show V.2.1 hₓ 3 < 8 by have := hBₓ.2.1 hₓ hh; omega)
  refine ⟨Gₓ, ?_, g2⟩
  have eₓ := hV.2.1 hₓ 3 hh (by omega)
  simp (disch := first | omega | assumption) only [fX8_findsShadeNow, eₓ, g1, mset_ne, mset_same, upd_same, upd_ne, ltm_e, lti_e, bnd_e, fa_lit, nI_add, pk_mul, nI_clamp, gd_in, nlt0, nI_ltI, nI_leI, nI_eq, if_true, if_false, if_pos, if_neg]
theorem isB_ite (cₓ : Prop) [Decidable cₓ] : isB (if cₓ then nI 1 else nI 0) = true := by
  by_cases hₓ : cₓ
  · rw [if_pos hₓ]; rfl
  · rw [if_neg hₓ]; rfl
theorem isShd_M {T : Mem} {V : Vw} (hBₓ : VB V) {hₓ rₓ pₓ : Nat} (hSₓ : Shd T V hₓ rₓ) (hh : hₓ < 12) (hp : pₓ < V.1) : fX8_isShaded T (nI pₓ) = some (if isSh V hₓ rₓ pₓ = true then nI 1 else nI 0, T) := by
  have hn := hBₓ.1
  obtain ⟨hV, hG⟩ := hSₓ
  have e0ₓ := (hV.2.2 pₓ (by omega)).1
  have b0 := (hBₓ.2.2.1 pₓ (by omega)).1
  obtain ⟨vₓ, v1ₓ, v2⟩ := shd_M hBₓ hV (Gₓ := T 21) hG rfl hp (show V.2.2 pₓ 0 < 25 by omega)
  rw [sh_eq hBₓ hh hp (fun jₓ hj => bs_pb hBₓ hV hj)] at v2
  have evₓ : vₓ = if isSh V hₓ rₓ pₓ = true then nI 1 else nI 0 := by
    rcases v2 with ⟨aₓ, bₓ⟩ | ⟨aₓ, bₓ⟩
    · rw [if_pos aₓ]; exact bₓ
    · rw [if_neg aₓ]; exact bₓ
  have hbₓ := isB_ite (isSh V hₓ rₓ pₓ = true)
  rw [evₓ] at v1ₓ
  simp (disch := first | omega | assumption) only [fX8_isShaded, e0ₓ, v1ₓ, gd_of _ hbₓ, mset_ne, mset_same, upd_same, upd_ne, ltm_e, lti_e, bnd_e, fa_lit, nI_add, pk_mul, nI_clamp, gd_in, nlt0, nI_ltI, nI_leI, nI_eq, if_true, if_false, if_pos, if_neg]
/-- the sun that p would take in hour h on road r -/
def bu (V : Vw) (hₓ rₓ pₓ : Nat) : Nat := if isSh V hₓ rₓ pₓ = true then 0 else V.2.1 hₓ 2 * V.2.2 pₓ 3
theorem bu_lt {V : Vw} (hBₓ : VB V) {hₓ rₓ pₓ : Nat} (hh : hₓ < 12) (hp : pₓ < 10) : bu V hₓ rₓ pₓ ≤ 81 := by
  have h1 := (hBₓ.2.1 hₓ hh).2.2.1
  have h2 := (hBₓ.2.2.1 pₓ hp).2.2.2.1
  unfold bu
  split
  · omega
  · exact Nat.mul_le_mul h1 h2
theorem burn_M {T : Mem} {V : Vw} (hBₓ : VB V) {hₓ rₓ pₓ : Nat} (hSₓ : Shd T V hₓ rₓ) (hh : hₓ < 12) (hp : pₓ < V.1) : fX8_burnIn T (nI pₓ) (nI hₓ) = some (nI (bu V hₓ rₓ pₓ), T) := by
  have hn := hBₓ.1
  have eₓ := isShd_M hBₓ hSₓ hh hp
  have e2ₓ := hSₓ.1.2.1 hₓ 2 hh (by omega)
  have e3ₓ := (hSₓ.1.2.2 pₓ (by omega)).2.2.2.1
  unfold bu
  by_cases cₓ : isSh V hₓ rₓ pₓ = true
  · rw [if_pos cₓ] at eₓ ⊢
    simp (disch := first | omega | assumption) only [fX8_burnIn, eₓ, mset_ne, mset_same, upd_same, upd_ne, ltm_e, lti_e, bnd_e, fa_lit, nI_add, pk_mul, nI_clamp, gd_in, nlt0, nI_ltI, nI_leI, nI_eq, if_true, if_false, if_pos, if_neg]
  · rw [if_neg cₓ] at eₓ ⊢
    simp (disch := first | omega | assumption) only [fX8_burnIn, eₓ, e2ₓ, e3ₓ, mset_ne, mset_same, upd_same, upd_ne, ltm_e, lti_e, bnd_e, fa_lit, nI_add, pk_mul, nI_clamp, gd_in, nlt0, nI_ltI, nI_leI, nI_eq, if_true, if_false, if_pos, if_neg]
theorem m1_x : ∀ iₓ, iₓ < 10 → (nI iₓ = -nI 1 ↔ iₓ = 99) := fun iₓ hiₓ => ⟨fun qₓ => absurd qₓ (m1_ne (by omega)), fun qₓ => absurd qₓ (by omega)⟩
/-- the mask of all shade -/
def shM (V : Vw) (hₓ rₓ : Nat) : Nat := shLₓ (gs V hₓ rₓ (pb V) true) 99 V.1 0 0
theorem shadeA_X {Sₓ : Mem} {V : Vw} (hBₓ : VB V) (hₓ : XVw Sₓ V) {gₓ rₓ : Nat} (hg : gₓ < 12) (hr : rₓ < 8) : fX6_shadeIn Sₓ (nI gₓ) (nI rₓ) (-nI 1) = some (nI (shM V gₓ rₓ), Sₓ) := shade_X hBₓ hₓ hg hr m1_x
theorem isShd_X {Sₓ : Mem} {V : Vw} (hBₓ : VB V) (hₓ : XVw Sₓ V) {gₓ rₓ pₓ : Nat} (hp : pₓ < V.1) : fX6_isShaded Sₓ (nI pₓ) (nI (shM V gₓ rₓ)) = some (if isSh V gₓ rₓ pₓ = true then nI 1 else nI 0, Sₓ) := shd_X hBₓ hₓ hp
theorem burn_X {Sₓ : Mem} {V : Vw} (hBₓ : VB V) (hₓ : XVw Sₓ V) {gₓ rₓ pₓ : Nat} (hg : gₓ < 12) (hp : pₓ < V.1) : fX5_burnOf Sₓ (nI pₓ) (nI gₓ) (nI (shM V gₓ rₓ)) = some (nI (bu V gₓ rₓ pₓ), Sₓ) := by
  have eₓ := isShd_X hBₓ hₓ (gₓ := gₓ) (rₓ := rₓ) hp
  have e2ₓ := inH_V hₓ hg (show 2 < 5 by omega)
  obtain ⟨-, -, -, e3ₓ, -, -⟩ := has_V hBₓ hₓ hp
  unfold bu
  by_cases cₓ : isSh V gₓ rₓ pₓ = true
  · rw [if_pos cₓ] at eₓ ⊢
    simp (disch := first | omega | assumption) only [fX5_burnOf, eₓ, mset_ne, mset_same, upd_same, upd_ne, ltm_e, lti_e, bnd_e, fa_lit, nI_add, pk_mul, nI_clamp, gd_in, nlt0, nI_ltI, nI_leI, nI_eq, if_true, if_false, if_pos, if_neg]
  · rw [if_neg cₓ] at eₓ ⊢
    simp (disch := first | omega | assumption) only [fX5_burnOf, eₓ, e2ₓ, e3ₓ, mset_ne, mset_same, upd_same, upd_ne, ltm_e, lti_e, bnd_e, fa_lit, nI_add, pk_mul, nI_clamp, gd_in, nlt0, nI_ltI, nI_leI, nI_eq, if_true, if_false, if_pos, if_neg]
