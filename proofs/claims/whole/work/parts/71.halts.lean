/-! halts: the best of all sets, found one by one or by hours from behind -/
abbrev Hp : Type := Option (Nat × Nat)
/-- the first of the least: what comes first wins where both are alike -/
def cmb (aₓ bₓ : Hp) : Hp := match aₓ, bₓ with
  | none, bₓ => bₓ
  | some xₓ, none => some xₓ
  | some xₓ, some yₓ => if yₓ.1 < xₓ.1 then some yₓ else some xₓ
theorem cmb_n (aₓ : Hp) : cmb aₓ none = aₓ := by cases aₓ <;> rfl
theorem cmb_as (aₓ bₓ cₓ : Hp) : cmb (cmb aₓ bₓ) cₓ = cmb aₓ (cmb bₓ cₓ) := by
  cases aₓ with
  | none => rfl
  | some xₓ =>
    cases bₓ with
    | none => rfl
    | some yₓ =>
      cases cₓ with
      | none => simp only [cmb_n]
      | some zₓ =>
        simp only [cmb]
        by_cases h1 : yₓ.1 < xₓ.1
        · rw [if_pos h1]
          by_cases h2 : zₓ.1 < yₓ.1
          · simp only [if_pos h2, if_pos (show zₓ.1 < xₓ.1 by omega)]
          · simp only [if_neg h2, if_pos h1]
        · rw [if_neg h1]
          by_cases h2 : zₓ.1 < yₓ.1
          · by_cases h3 : zₓ.1 < xₓ.1
            · simp only [if_pos h2, if_pos h3]
            · simp only [if_pos h2, if_neg h3]
          · by_cases h3 : zₓ.1 < xₓ.1
            · omega
            · simp only [if_neg h2, if_neg h1, if_neg h3]
def fldₓ (Gₓ : Nat → Hp) : Nat → Hp → Hp
  | 0, aₓ => aₓ
  | kₓ + 1, aₓ => fldₓ Gₓ kₓ (cmb aₓ (Gₓ kₓ))
theorem fld_a (Gₓ : Nat → Hp) : ∀ kₓ aₓ, fldₓ Gₓ kₓ aₓ = cmb aₓ (fldₓ Gₓ kₓ none) := by
  intro kₓ
  induction kₓ with
  | zero => intro aₓ; exact (cmb_n aₓ).symm
  | succ kₓ ihₓ =>
    intro aₓ
    rw [fldₓ, fldₓ, ihₓ, ihₓ (cmb none (Gₓ kₓ)), cmb_as]
    rfl
theorem fld_cg {Gₓ G' : Nat → Hp} : ∀ kₓ aₓ, (∀ sₓ, sₓ < kₓ → Gₓ sₓ = G' sₓ) → fldₓ Gₓ kₓ aₓ = fldₓ G' kₓ aₓ := by
  intro kₓ
  induction kₓ with
  | zero => intro aₓ _; rfl
  | succ kₓ ihₓ => intro aₓ hₓ; rw [fldₓ, fldₓ, hₓ kₓ (by omega), ihₓ _ (fun sₓ hs => hₓ sₓ (by omega))]
theorem fld_add (Gₓ : Nat → Hp) (mₓ : Nat) : ∀ kₓ aₓ, fldₓ Gₓ (mₓ + kₓ) aₓ = fldₓ Gₓ mₓ (fldₓ (fun sₓ => Gₓ (mₓ + sₓ)) kₓ aₓ) := by
  intro kₓ
  induction kₓ with
  | zero => intro aₓ; rfl
  | succ kₓ ihₓ => intro aₓ; rw [show mₓ + (kₓ + 1) = (mₓ + kₓ) + 1 by omega, fldₓ, ihₓ, fldₓ]
def upₓ (vₓ sₓ : Nat) (xₓ : Hp) : Hp := xₓ.map (fun qₓ => (vₓ + qₓ.1, sₓ + qₓ.2))
theorem up_cmb (vₓ sₓ : Nat) (aₓ bₓ : Hp) : upₓ vₓ sₓ (cmb aₓ bₓ) = cmb (upₓ vₓ sₓ aₓ) (upₓ vₓ sₓ bₓ) := by
  cases aₓ with
  | none => rfl
  | some xₓ =>
    cases bₓ with
    | none => rfl
    | some yₓ =>
      simp only [cmb, upₓ, Option.map_some]
      by_cases hₓ : yₓ.1 < xₓ.1
      · rw [if_pos hₓ, if_pos (show vₓ + yₓ.1 < vₓ + xₓ.1 by omega)]; rfl
      · rw [if_neg hₓ, if_neg (show ¬ vₓ + yₓ.1 < vₓ + xₓ.1 by omega)]; rfl
theorem fld_up (vₓ sₓ : Nat) (Gₓ : Nat → Hp) : ∀ kₓ aₓ, fldₓ (fun jₓ => upₓ vₓ sₓ (Gₓ jₓ)) kₓ (upₓ vₓ sₓ aₓ) = upₓ vₓ sₓ (fldₓ Gₓ kₓ aₓ) := by
  intro kₓ
  induction kₓ with
  | zero => intro aₓ; rfl
  | succ kₓ ihₓ => intro aₓ; rw [fldₓ, fldₓ, ← up_cmb, ihₓ]
theorem fld_none : ∀ kₓ, fldₓ (fun _ => none) kₓ none = none := by
  intro kₓ
  induction kₓ with
  | zero => rfl
  | succ kₓ ihₓ => rw [fldₓ]; exact ihₓ
/-- how many of the last L hours are walked, their heat, whether no row is longer than m -/
def hpop : Nat → Nat → Nat
  | 0, _ => 0
  | Lₓ + 1, sₓ => (if sₓ.testBit Lₓ = true then 1 else 0) + hpop Lₓ sₓ
def hht (hs : Nat → Nat) : Nat → Nat → Nat
  | 0, _ => 0
  | Lₓ + 1, sₓ => (if sₓ.testBit Lₓ = true then hs (11 - Lₓ) else 0) + hht hs Lₓ sₓ
def hrun (mₓ : Nat) : Nat → Nat → Nat → Bool
  | 0, _, _ => true
  | Lₓ + 1, sₓ, rₓ => if sₓ.testBit Lₓ = true then decide (rₓ < mₓ) && hrun mₓ Lₓ sₓ (rₓ + 1) else hrun mₓ Lₓ sₓ 0
def hev (hs : Nat → Nat) (mₓ Lₓ left rₓ sₓ : Nat) : Hp := if hrun mₓ Lₓ sₓ rₓ = true ∧ hpop Lₓ sₓ = left then some (hht hs Lₓ sₓ, sₓ) else none
/-- the best of the last L hours -/
def hbest (hs : Nat → Nat) (mₓ Lₓ left rₓ : Nat) : Hp := fldₓ (hev hs mₓ Lₓ left rₓ) (2 ^ Lₓ) none
theorem tb_lo {Lₓ sₓ jₓ : Nat} (hₓ : jₓ < Lₓ) : (2 ^ Lₓ + sₓ).testBit jₓ = sₓ.testBit jₓ := by
  exact Nat.testBit_two_pow_add_gt hₓ sₓ
theorem low_cg (hs : Nat → Nat) (mₓ : Nat) {sₓ s' : Nat} : ∀ Lₓ, (∀ jₓ, jₓ < Lₓ → sₓ.testBit jₓ = s'.testBit jₓ) → hpop Lₓ sₓ = hpop Lₓ s' ∧ hht hs Lₓ sₓ = hht hs Lₓ s' ∧ ∀ rₓ, hrun mₓ Lₓ sₓ rₓ = hrun mₓ Lₓ s' rₓ := by
  intro Lₓ
  induction Lₓ with
  | zero => intro _; exact ⟨rfl, rfl, fun _ => rfl⟩
  | succ Lₓ ihₓ =>
    intro hₓ
    obtain ⟨i1ₓ, i2ₓ, i3ₓ⟩ := ihₓ (fun jₓ hj => hₓ jₓ (by omega))
    refine ⟨?_, ?_, fun rₓ => ?_⟩
    · rw [hpop, hpop, i1ₓ, hₓ Lₓ (by omega)]
    · rw [hht, hht, i2ₓ, hₓ Lₓ (by omega)]
    · rw [hrun, hrun, i3ₓ, i3ₓ, hₓ Lₓ (by omega)]
theorem tb_L {Lₓ sₓ : Nat} (hₓ : sₓ < 2 ^ Lₓ) : (2 ^ Lₓ + sₓ).testBit Lₓ = true := by
  rw [Nat.testBit_two_pow_add_eq, Nat.testBit_lt_two_pow hₓ]; rfl
theorem hbest_s (hs : Nat → Nat) (mₓ Lₓ left rₓ : Nat) : hbest hs mₓ (Lₓ + 1) left rₓ = cmb (if 0 < left ∧ rₓ < mₓ then upₓ (hs (11 - Lₓ)) (2 ^ Lₓ) (hbest hs mₓ Lₓ (left - 1) (rₓ + 1)) else none) (hbest hs mₓ Lₓ left 0) := by
  unfold hbest
  rw [show 2 ^ (Lₓ + 1) = 2 ^ Lₓ + 2 ^ Lₓ by rw [Nat.pow_succ]; omega, fld_add, fld_a]
  congr 1
  · by_cases cₓ : 0 < left ∧ rₓ < mₓ
    · rw [if_pos cₓ, ← fld_up]
      refine fld_cg _ _ (fun sₓ hsL => ?_)
      obtain ⟨i1ₓ, i2ₓ, i3ₓ⟩ := low_cg hs mₓ (sₓ := 2 ^ Lₓ + sₓ) (s' := sₓ) Lₓ (fun jₓ hj => tb_lo hj)
      show hev hs mₓ (Lₓ + 1) left rₓ (2 ^ Lₓ + sₓ) = upₓ (hs (11 - Lₓ)) (2 ^ Lₓ) (hev hs mₓ Lₓ (left - 1) (rₓ + 1) sₓ)
      unfold hev
      rw [hrun, hpop, hht, tb_L hsL, if_pos rfl, if_pos rfl, if_pos rfl, i1ₓ, i2ₓ, i3ₓ, decide_eq_true cₓ.2, Bool.true_and]
      by_cases qₓ : hrun mₓ Lₓ sₓ (rₓ + 1) = true ∧ hpop Lₓ sₓ = left - 1
      · rw [if_pos qₓ, if_pos ⟨qₓ.1, by omega⟩]; rfl
      · rw [if_neg qₓ, if_neg (fun zₓ => qₓ ⟨zₓ.1, by omega⟩)]; rfl
    · rw [if_neg cₓ]
      refine (fld_cg _ _ (fun sₓ hsL => ?_)).trans (fld_none (2 ^ Lₓ))
      show hev hs mₓ (Lₓ + 1) left rₓ (2 ^ Lₓ + sₓ) = none
      unfold hev
      rw [hrun, hpop, tb_L hsL, if_pos rfl, if_pos rfl, if_neg]
      rintro ⟨z1, z2⟩
      rw [Bool.and_eq_true, decide_eq_true_eq] at z1
      exact cₓ ⟨by omega, z1.1⟩
  · refine fld_cg _ _ (fun sₓ hsL => ?_)
    unfold hev
    simp only [hrun, hpop, hht, Nat.testBit_lt_two_pow hsL, Bool.false_eq_true, if_false, Nat.zero_add]
theorem hbest_0 (hs : Nat → Nat) (mₓ left rₓ : Nat) : hbest hs mₓ 0 left rₓ = if left = 0 then some (0, 0) else none := by
  unfold hbest
  show cmb none (hev hs mₓ 0 left rₓ 0) = _
  show hev hs mₓ 0 left rₓ 0 = _
  unfold hev hrun hpop hht
  by_cases cₓ : left = 0
  · rw [if_pos cₓ, if_pos ⟨rfl, cₓ.symm⟩]
  · rw [if_neg cₓ, if_neg (fun zₓ => cₓ zₓ.2.symm)]
theorem hbest_le {hs : Nat → Nat} (h9 : ∀ hₓ, hₓ < 12 → hs hₓ ≤ 9) (mₓ : Nat) : ∀ Lₓ left rₓ vₓ sₓ, Lₓ ≤ 12 → hbest hs mₓ Lₓ left rₓ = some (vₓ, sₓ) → vₓ ≤ 9 * Lₓ ∧ sₓ < 2 ^ Lₓ := by
  intro Lₓ
  induction Lₓ with
  | zero =>
    intro left rₓ vₓ sₓ _ hₓ
    rw [hbest_0] at hₓ
    by_cases cₓ : left = 0
    · rw [if_pos cₓ] at hₓ; cases hₓ; exact ⟨Nat.le_refl 0, by decide⟩
    · rw [if_neg cₓ] at hₓ; cases hₓ
  | succ Lₓ ihₓ =>
    intro left rₓ vₓ sₓ hL hₓ
    have e2ₓ : 2 ^ (Lₓ + 1) = 2 ^ Lₓ + 2 ^ Lₓ := by rw [Nat.pow_succ]; omega
    have hh := h9 (11 - Lₓ) (by omega)
    have Aₓ : ∀ v' s', (if 0 < left ∧ rₓ < mₓ then upₓ (hs (11 - Lₓ)) (2 ^ Lₓ) (hbest hs mₓ Lₓ (left - 1) (rₓ + 1)) else none) = some (v', s') → v' ≤ 9 * (Lₓ + 1) ∧ s' < 2 ^ (Lₓ + 1) := by
      intro v' s' qₓ
      by_cases cₓ : 0 < left ∧ rₓ < mₓ
      · rw [if_pos cₓ] at qₓ
        unfold upₓ at qₓ
        cases zₓ : hbest hs mₓ Lₓ (left - 1) (rₓ + 1) with
        | none => rw [zₓ] at qₓ; cases qₓ
        | some wₓ =>
          rw [zₓ] at qₓ
          obtain ⟨h1, h2⟩ := ihₓ _ _ wₓ.1 wₓ.2 (by omega) zₓ
          cases qₓ
          constructor <;> omega
      · rw [if_neg cₓ] at qₓ; cases qₓ
    have Bₓ : ∀ v' s', hbest hs mₓ Lₓ left 0 = some (v', s') → v' ≤ 9 * (Lₓ + 1) ∧ s' < 2 ^ (Lₓ + 1) := by
      intro v' s' qₓ
      obtain ⟨h1, h2⟩ := ihₓ _ _ _ _ (by omega) qₓ
      constructor <;> omega
    rw [hbest_s] at hₓ
    generalize (if 0 < left ∧ rₓ < mₓ then upₓ (hs (11 - Lₓ)) (2 ^ Lₓ) (hbest hs mₓ Lₓ (left - 1) (rₓ + 1)) else none) = aₓ at hₓ Aₓ
    generalize hbest hs mₓ Lₓ left 0 = bₓ at hₓ Bₓ
    cases aₓ with
    | none => exact Bₓ _ _ hₓ
    | some xₓ =>
      cases bₓ with
      | none => exact Aₓ _ _ hₓ
      | some yₓ =>
        simp only [cmb] at hₓ
        by_cases cₓ : yₓ.1 < xₓ.1
        · rw [if_pos cₓ] at hₓ; exact Bₓ _ _ hₓ
        · rw [if_neg cₓ] at hₓ; exact Aₓ _ _ hₓ
/-! the class: one by one -/
def itrₓ : Nat → Nat → Nat
  | 0, aₓ => aₓ
  | kₓ + 1, aₓ => itrₓ kₓ (aₓ &&& (aₓ >>> 1))
theorem nI_and (aₓ bₓ : Nat) : nI aₓ &&& nI bₓ = nI (aₓ &&& bₓ) := by
  refine b_ext (fun iₓ hiₓ => ?_)
  rw [b_and, bt_nI _ hiₓ, bt_nI _ hiₓ, bt_nI _ hiₓ, Nat.testBit_and]
theorem nI_shr1 {aₓ : Nat} (haₓ : aₓ < 2 ^ 31) : nI aₓ >>> ((1 : Int32) &&& 31) = nI (aₓ >>> 1) := by
  refine b_ext (fun iₓ hiₓ => ?_)
  have := b_sshr 1 (by omega) (nI aₓ) hiₓ
  rw [show ((1 : Int32) &&& 31) = (nI 1 &&& 31) from rfl, this, bt_nI _ hiₓ, Nat.testBit_shiftRight]
  by_cases cₓ : 1 + iₓ < 32
  · rw [if_pos cₓ, bt_nI _ cₓ]
  · rw [if_neg cₓ, bt_nI _ (by omega), Nat.testBit_lt_two_pow haₓ, Nat.testBit_lt_two_pow (Nat.lt_of_lt_of_le haₓ (Nat.pow_le_pow_right (by omega) (by omega)))]
theorem row_X (Sₓ : Mem) {mₓ : Nat} (hmₓ : mₓ < 2 ^ 31) : ∀ (kₓ iₓ fₓ aₓ : Nat), iₓ + kₓ = mₓ → kₓ < fₓ → aₓ < 2 ^ 31 → fX5_hasRowAbove_4 fₓ Sₓ (nI mₓ) (nI aₓ) (nI iₓ) = some (if itrₓ kₓ aₓ = 0 then nI 0 else nI 1, Sₓ) := by
  intro kₓ
  induction kₓ with
  | zero =>
    intro iₓ fₓ aₓ hiₓ hf haₓ
    obtain ⟨fₓ, rfl⟩ : ∃ gₓ, fₓ = gₓ + 1 := ⟨fₓ - 1, by omega⟩
    show fX5_hasRowAbove_4_b (fX5_hasRowAbove_4 fₓ) Sₓ (nI mₓ) (nI aₓ) (nI iₓ) = _
    unfold fX5_hasRowAbove_4_b
    rw [if_pos (nI_le (by omega) (by omega)), itrₓ]
    by_cases cₓ : aₓ = 0
    · rw [if_pos cₓ, if_pos (show nI aₓ = 0 by rw [cₓ]; rfl)]; rfl
    · rw [if_neg cₓ, if_neg (show ¬ nI aₓ = 0 by rw [show (0 : Int32) = nI 0 from rfl, nI_eq haₓ (by omega)]; exact cₓ)]; rfl
  | succ kₓ ihₓ =>
    intro iₓ fₓ aₓ hiₓ hf haₓ
    obtain ⟨fₓ, rfl⟩ : ∃ gₓ, fₓ = gₓ + 1 := ⟨fₓ - 1, by omega⟩
    have la : aₓ &&& (aₓ >>> 1) < 2 ^ 31 := Nat.lt_of_le_of_lt Nat.and_le_left haₓ
    show fX5_hasRowAbove_4_b (fX5_hasRowAbove_4 fₓ) Sₓ (nI mₓ) (nI aₓ) (nI iₓ) = _
    unfold fX5_hasRowAbove_4_b
    rw [if_neg (by rw [nI_leI (by omega) (by omega)]; omega), lti_e, nI_shr1 haₓ, nI_and, show nI iₓ + 1 = nI (iₓ + 1) from nI_add iₓ 1, itrₓ]
    exact ihₓ (iₓ + 1) fₓ _ (by omega) (by omega) la
theorem itr_run0 : ∀ mₓ, mₓ < 13 → 1 ≤ mₓ → ∀ aₓ, aₓ < 64 → ∀ bₓ, bₓ < 64 → (decide (itrₓ mₓ (64 * aₓ + bₓ) = 0)) = hrun mₓ 12 (64 * aₓ + bₓ) 0 := by decide +kernel
theorem bc_pop0 : ∀ aₓ, aₓ < 64 → ∀ bₓ, bₓ < 64 → bcI (nI (64 * aₓ + bₓ)) = nI (hpop 12 (64 * aₓ + bₓ)) := by decide +kernel
theorem itr_run (mₓ : Nat) (hmₓ : mₓ < 13) (h1 : 1 ≤ mₓ) (sₓ : Nat) (hs : sₓ < 4096) : (decide (itrₓ mₓ sₓ = 0)) = hrun mₓ 12 sₓ 0 := by
  have := itr_run0 mₓ hmₓ h1 (sₓ / 64) (by omega) (sₓ % 64) (by omega)
  rw [show 64 * (sₓ / 64) + sₓ % 64 = sₓ by omega] at this
  exact this
theorem bc_pop (sₓ : Nat) (hs : sₓ < 4096) : bcI (nI sₓ) = nI (hpop 12 sₓ) := by
  have := bc_pop0 (sₓ / 64) (by omega) (sₓ % 64) (by omega)
  rw [show 64 * (sₓ / 64) + sₓ % 64 = sₓ by omega] at this
  exact this
def hset (sₓ : Nat) : Int32 := orb (fun hₓ => sₓ.testBit (11 - hₓ)) 12 0 (nI 0)
theorem hours_X (Sₓ : Mem) {sₓ : Nat} : ∀ (kₓ iₓ fₓ : Nat) (aₓ : Int32), iₓ + kₓ = 12 → kₓ < fₓ → fX5_hoursOf_4 fₓ Sₓ (nI sₓ) aₓ (nI iₓ) = some (orb (fun hₓ => sₓ.testBit (11 - hₓ)) kₓ iₓ aₓ, Sₓ) := by
  intro kₓ
  induction kₓ with
  | zero =>
    intro iₓ fₓ aₓ hiₓ hf
    obtain ⟨fₓ, rfl⟩ : ∃ gₓ, fₓ = gₓ + 1 := ⟨fₓ - 1, by omega⟩
    show fX5_hoursOf_4_b (fX5_hoursOf_4 fₓ) Sₓ (nI sₓ) aₓ (nI iₓ) = _
    unfold fX5_hoursOf_4_b
    rw [show (12 : Int32) = nI 12 from rfl, if_pos (nI_le (by omega) (by omega)), orb]
  | succ kₓ ihₓ =>
    intro iₓ fₓ aₓ hiₓ hf
    obtain ⟨fₓ, rfl⟩ : ∃ gₓ, fₓ = gₓ + 1 := ⟨fₓ - 1, by omega⟩
    have kb : ((nI sₓ >>> (nI (11 - iₓ) &&& 31)) &&& (1 : Int32)) = if sₓ.testBit (11 - iₓ) = true then 1 else 0 := bitI_nI _ (by omega)
    show fX5_hoursOf_4_b (fX5_hoursOf_4 fₓ) Sₓ (nI sₓ) aₓ (nI iₓ) = _
    unfold fX5_hoursOf_4_b fX5_hoursOf_28
    rw [show (12 : Int32) = nI 12 from rfl, if_neg (by rw [nI_leI (by omega) (by omega)]; omega), show (11 : Int32) = nI 11 from rfl, pk_sub (show iₓ ≤ 11 by omega), kb, orb, show nI iₓ + 1 = nI (iₓ + 1) from nI_add iₓ 1]
    by_cases cₓ : sₓ.testBit (11 - iₓ) = true
    · rw [if_pos cₓ, if_pos rfl, if_pos cₓ, lti_e]
      exact ihₓ (iₓ + 1) fₓ _ (by omega) (by omega)
    · rw [if_neg cₓ, if_neg (show ¬ (0 : Int32) = 1 by decide), if_neg cₓ]
      exact ihₓ (iₓ + 1) fₓ _ (by omega) (by omega)
theorem hset_bit (sₓ : Nat) {iₓ : Nat} (hiₓ : iₓ < 12) : bt (hset sₓ) iₓ = sₓ.testBit (11 - iₓ) := by
  unfold hset
  rw [orb_bit _ _ _ _ _ (by omega), show bt (nI 0) iₓ = false from b_0 iₓ, Bool.false_or, decide_eq_true (by omega), Bool.true_and]
theorem hset_pos (sₓ : Nat) : ¬ hset sₓ = -1 := by
  intro hₓ
  have : bt (hset sₓ) 20 = true := by rw [hₓ]; exact b_m1 20 (by omega)
  unfold hset at this
  rw [orb_bit _ _ _ _ _ (by omega), show bt (nI 0) 20 = false from b_0 20, Bool.false_or, decide_eq_false (by omega), Bool.false_and] at this
  cases this
theorem heat_X {Sₓ : Mem} {V : Vw} (hX : XVw Sₓ V) {sₓ : Nat} : ∀ (kₓ iₓ fₓ aₓ : Nat), iₓ + kₓ = 12 → kₓ < fₓ → fX5_heatOf_4 fₓ Sₓ (hset sₓ) (nI aₓ) (nI iₓ) = some (nI (aₓ + hht (fun hₓ => V.2.1 hₓ 2) kₓ sₓ), Sₓ) := by
  intro kₓ
  induction kₓ with
  | zero =>
    intro iₓ fₓ aₓ hiₓ hf
    obtain ⟨fₓ, rfl⟩ : ∃ gₓ, fₓ = gₓ + 1 := ⟨fₓ - 1, by omega⟩
    show fX5_heatOf_4_b (fX5_heatOf_4 fₓ) Sₓ (hset sₓ) (nI aₓ) (nI iₓ) = _
    unfold fX5_heatOf_4_b
    rw [show (12 : Int32) = nI 12 from rfl, if_pos (nI_le (by omega) (by omega)), hht, Nat.add_zero]
  | succ kₓ ihₓ =>
    intro iₓ fₓ aₓ hiₓ hf
    obtain ⟨fₓ, rfl⟩ : ∃ gₓ, fₓ = gₓ + 1 := ⟨fₓ - 1, by omega⟩
    have e2ₓ := inH_V hX (show iₓ < 12 by omega) (show 2 < 5 by omega)
    have kb := bitI_iff (hset sₓ) (show iₓ < 32 by omega)
    rw [hset_bit sₓ (by omega)] at kb
    have ek : 11 - iₓ = kₓ := by omega
    rw [ek] at kb
    show fX5_heatOf_4_b (fX5_heatOf_4 fₓ) Sₓ (hset sₓ) (nI aₓ) (nI iₓ) = _
    unfold fX5_heatOf_4_b fX5_heatOf_31
    rw [show (12 : Int32) = nI 12 from rfl, if_neg (by rw [nI_leI (by omega) (by omega)]; omega), hht, show 11 - kₓ = iₓ by omega, show nI iₓ + 1 = nI (iₓ + 1) from nI_add iₓ 1]
    by_cases cₓ : sₓ.testBit kₓ = true
    · rw [if_pos (show ((hset sₓ >>> (nI iₓ &&& 31)) &&& (1 : Int32)) = 1 from kb.2 cₓ), show (2 : Int32) = nI 2 from rfl, e2ₓ, bnd_e, lti_e, nI_add, if_pos cₓ, ihₓ (iₓ + 1) fₓ _ (by omega) (by omega), Nat.add_assoc]
    · rw [if_neg (show ¬ ((hset sₓ >>> (nI iₓ &&& 31)) &&& (1 : Int32)) = 1 from fun qₓ => cₓ (kb.1 qₓ)), if_neg cₓ, Nat.zero_add]
      exact ihₓ (iₓ + 1) fₓ _ (by omega) (by omega)
def hpI (aₓ : Hp) (wₓ hₓ : Int32) : Prop := (aₓ = none → wₓ = -1) ∧ ∀ qₓ, aₓ = some qₓ → wₓ = hset qₓ.2 ∧ hₓ = nI qₓ.1
theorem hpI_s (vₓ sₓ : Nat) : hpI (some (vₓ, sₓ)) (hset sₓ) (nI vₓ) := ⟨fun zₓ => (by cases zₓ), fun qₓ hq => (by cases hq; exact ⟨rfl, rfl⟩)⟩
theorem hht_le {hs : Nat → Nat} (h9 : ∀ hₓ, hₓ < 12 → hs hₓ ≤ 9) : ∀ Lₓ sₓ, Lₓ ≤ 12 → hht hs Lₓ sₓ ≤ 9 * Lₓ := by
  intro Lₓ
  induction Lₓ with
  | zero => intro sₓ _; exact Nat.le_refl 0
  | succ Lₓ ihₓ =>
    intro sₓ hL
    have h1 := ihₓ sₓ (by omega)
    have h2 := h9 (11 - Lₓ) (by omega)
    rw [hht]
    split <;> omega
theorem cool_loop {Sₓ : Mem} {V : Vw} (hBₓ : VB V) (hX : XVw Sₓ V) {nₓ mₓ : Nat} (hn : nₓ ≤ 12) (hmₓ : 1 ≤ mₓ ∧ mₓ ≤ 12) : ∀ (kₓ fₓ : Nat) (aₓ : Hp) (wₓ hₓ : Int32), kₓ ≤ 4096 → kₓ < fₓ → hpI aₓ wₓ hₓ → (∀ qₓ, aₓ = some qₓ → qₓ.1 ≤ 108) → ∃ rₓ, fX5_coolestHours_10 fₓ Sₓ (nI nₓ) (nI mₓ) wₓ hₓ (nI kₓ - nI 1) = some (rₓ, Sₓ) ∧ ∃ h', hpI (fldₓ (hev (fun hₓ => V.2.1 hₓ 2) mₓ 12 nₓ 0) kₓ aₓ) rₓ h' := by
  have h9 : ∀ hₓ, hₓ < 12 → (fun hₓ => V.2.1 hₓ 2) hₓ ≤ 9 := fun hₓ hh => (hBₓ.2.1 hₓ hh).2.2.1
  intro kₓ
  induction kₓ with
  | zero =>
    intro fₓ aₓ wₓ hₓ hk hf haₓ hl
    obtain ⟨fₓ, rfl⟩ : ∃ gₓ, fₓ = gₓ + 1 := ⟨fₓ - 1, by omega⟩
    refine ⟨wₓ, ?_, hₓ, haₓ⟩
    show fX5_coolestHours_10_b (fX5_coolestHours_10 fₓ) Sₓ (nI nₓ) (nI mₓ) wₓ hₓ (nI 0 - nI 1) = _
    unfold fX5_coolestHours_10_b
    rw [if_pos (show nI 0 - nI 1 < 0 by decide)]
  | succ kₓ ihₓ =>
    intro fₓ aₓ wₓ hₓ hk hf haₓ hl
    obtain ⟨fₓ, rfl⟩ : ∃ gₓ, fₓ = gₓ + 1 := ⟨fₓ - 1, by omega⟩
    have ek : nI (kₓ + 1) - nI 1 = nI kₓ := by rw [pk_sub (by omega)]; rfl
    have em : nI kₓ + (-1 : Int32) = nI kₓ - nI 1 := by
      have : (-1 : Int32) = -nI 1 := rfl
      rw [this]; exact (Int32.sub_eq_add_neg _ _).symm
    have hk4 : kₓ < 4096 := by omega
    have e1ₓ := bc_pop kₓ hk4
    have pl12 : hpop 12 kₓ ≤ 12 := by
      have : ∀ Lₓ, hpop Lₓ kₓ ≤ Lₓ := by
        intro Lₓ
        induction Lₓ with
        | zero => exact Nat.le_refl 0
        | succ Lₓ ihₓ => rw [hpop]; split <;> omega
      exact this 12
    have hr := row_X Sₓ (show mₓ < 2 ^ 31 by omega) mₓ 0 FU kₓ (by omega) (by unfold FU; omega) (by omega)
    have hr' : fX5_hasRowAbove Sₓ (nI kₓ) (nI mₓ) = some (if itrₓ mₓ kₓ = 0 then nI 0 else nI 1, Sₓ) := hr
    have hh := hours_X Sₓ (sₓ := kₓ) 12 0 FU (nI 0) (by omega) (by unfold FU; omega)
    have hh' : fX5_hoursOf Sₓ (nI kₓ) = some (hset kₓ, Sₓ) := hh
    have ht := heat_X hX (sₓ := kₓ) 12 0 FU 0 (by omega) (by unfold FU; omega)
    rw [Nat.zero_add] at ht
    have ht' : fX5_heatOf Sₓ (hset kₓ) = some (nI (hht (fun hₓ => V.2.1 hₓ 2) 12 kₓ), Sₓ) := ht
    have hle := hht_le h9 12 kₓ (by omega)
    have hiₓ := itr_run mₓ (by omega) hmₓ.1 kₓ hk4
    rw [ek, fldₓ]
    show ∃ rₓ, fX5_coolestHours_10_b (fX5_coolestHours_10 fₓ) Sₓ (nI nₓ) (nI mₓ) wₓ hₓ (nI kₓ) = some (rₓ, Sₓ) ∧ _
    unfold fX5_coolestHours_10_b fX5_coolestHours_63 fX5_coolestHours_70
    rw [if_neg (nlt0 (by omega)), bc_e, bnd_e, e1ₓ, em]
    by_cases c1ₓ : hpop 12 kₓ = nₓ
    · rw [if_pos (show nI (hpop 12 kₓ) = nI nₓ by rw [c1ₓ]), hr', bnd_e]
      by_cases c2ₓ : itrₓ mₓ kₓ = 0
      · have hev1 : hev (fun hₓ => V.2.1 hₓ 2) mₓ 12 nₓ 0 kₓ = some (hht (fun hₓ => V.2.1 hₓ 2) 12 kₓ, kₓ) := by
          unfold hev
          rw [if_pos ⟨by rw [← hiₓ]; exact decide_eq_true c2ₓ, c1ₓ⟩]
        rw [if_pos c2ₓ, if_pos (show nI 0 = 0 from rfl), hh', bnd_e, ht', bnd_e, hev1]
        cases aₓ with
        | none =>
          have hw : wₓ = -1 := haₓ.1 rfl
          rw [if_pos hw]
          exact ihₓ fₓ (some (hht (fun hₓ => V.2.1 hₓ 2) 12 kₓ, kₓ)) _ _ (by omega) (by omega) (hpI_s _ _) (fun qₓ hq => by cases hq; omega)
        | some xₓ =>
          obtain ⟨hw, hx⟩ : wₓ = hset xₓ.2 ∧ hₓ = nI xₓ.1 := haₓ.2 xₓ rfl
          have hl2 := hl xₓ rfl
          rw [if_neg (show ¬ wₓ = -1 by rw [hw]; exact hset_pos _)]
          show ∃ rₓ, _ ∧ ∃ h', hpI (fldₓ _ kₓ (if hht (fun hₓ => V.2.1 hₓ 2) 12 kₓ < xₓ.1 then some (hht (fun hₓ => V.2.1 hₓ 2) 12 kₓ, kₓ) else some xₓ)) rₓ h'
          by_cases c3ₓ : hht (fun hₓ => V.2.1 hₓ 2) 12 kₓ < xₓ.1
          · rw [if_neg (show ¬ hₓ ≤ nI (hht (fun hₓ => V.2.1 hₓ 2) 12 kₓ) by rw [hx, nI_leI (by omega) (by omega)]; omega), if_pos c3ₓ]
            exact ihₓ fₓ (some (hht (fun hₓ => V.2.1 hₓ 2) 12 kₓ, kₓ)) _ _ (by omega) (by omega) (hpI_s _ _) (fun qₓ hq => by cases hq; omega)
          · rw [if_pos (show hₓ ≤ nI (hht (fun hₓ => V.2.1 hₓ 2) 12 kₓ) by rw [hx, nI_leI (by omega) (by omega)]; omega), if_neg c3ₓ]
            exact ihₓ fₓ (some xₓ) _ _ (by omega) (by omega) haₓ hl
      · have hev1 : hev (fun hₓ => V.2.1 hₓ 2) mₓ 12 nₓ 0 kₓ = none := by
          unfold hev
          rw [if_neg (fun zₓ => by have := zₓ.1; rw [← hiₓ, decide_eq_true_eq] at this; exact c2ₓ this)]
        rw [if_neg c2ₓ, if_neg (show ¬ nI 1 = 0 by decide), hev1, cmb_n]
        exact ihₓ fₓ aₓ _ _ (by omega) (by omega) haₓ hl
    · have hev1 : hev (fun hₓ => V.2.1 hₓ 2) mₓ 12 nₓ 0 kₓ = none := by
        unfold hev
        rw [if_neg (fun zₓ => c1ₓ zₓ.2)]
      rw [if_neg (show ¬ nI (hpop 12 kₓ) = nI nₓ by rw [nI_eq (by omega) (by omega)]; exact c1ₓ), hev1, cmb_n]
      exact ihₓ fₓ aₓ _ _ (by omega) (by omega) haₓ hl
