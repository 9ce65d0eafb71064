/-! two new objects are related -/
def sx0 : Mem := match fX7_init_0 S01 with
  | some q => q.2
  | none => S01
def sm0 : Mem := match fX8_init_0 S01 with
  | some q => q.2
  | none => S01
theorem some_of {x : O} (h : x.isSome = true) : ∃ r, x = some (r, match x with | some q => q.2 | none => S01) := by
  cases x with
  | none => cases h
  | some q => exact ⟨q.1, rfl⟩
theorem sx0_ok : ∃ r, fX7_init_0 S01 = some (r, sx0) := some_of (by decide +kernel)
theorem sm0_ok : ∃ r, fX8_init_0 S01 = some (r, sm0) := some_of (by decide +kernel)
def le32b (v : Int32) (b : Nat) : Bool := decide (v.toNatClampNeg ≤ b) && decide (v = nI v.toNatClampNeg)
theorem le32_of {v : Int32} {b : Nat} (h : le32b v b = true) : le32 v b := by
  simp only [le32b, Bool.and_eq_true, decide_eq_true_eq] at h
  exact ⟨_, h.1, h.2⟩
theorem i_hou1 : ∀ j, j < 60 → sx0 2 j = sm0 3 j := by decide +kernel
theorem i_hou2 : ∀ h, h < 12 → le32b (sm0 3 (5 * h)) 7 = true ∧ le32b (sm0 3 (5 * h + 1)) 4 = true ∧ le32b (sm0 3 (5 * h + 2)) 9 = true ∧ le32b (sm0 3 (5 * h + 3)) 7 = true ∧ le32b (sm0 3 (5 * h + 4)) 10 = true := by decide +kernel
theorem i_fix : ∀ p, p < 10 → sx0 3 (10 * p + 1) = sm0 5 p ∧ sx0 3 (10 * p + 2) = sm0 6 p ∧ sx0 3 (10 * p + 3) = sm0 7 p ∧ sx0 3 (10 * p + 5) = bitI (sm0 0 10) p ∧ sx0 3 (10 * p + 6) = bitI (sm0 0 11) p ∧ le32b (sm0 5 p) 9 = true ∧ le32b (sm0 6 p) 3 = true ∧ le32b (sm0 7 p) 9 = true := by decide +kernel
theorem i_mov : ∀ p, p < 10 → sx0 3 (10 * p) = sm0 1 (5 + p) ∧ sx0 3 (10 * p + 4) = sm0 1 (15 + p) ∧ sx0 3 (10 * p + 7) = sm0 1 (25 + p) ∧ sx0 3 (10 * p + 8) = sm0 1 (35 + p) ∧ sx0 3 (10 * p + 9) = sm0 1 (45 + p) ∧ le32b (sm0 1 (5 + p)) 24 = true ∧ le32b (sm0 1 (25 + p)) 0 = true := by decide +kernel
theorem i_foe : (∀ a, a < 10 → sx0 4 a = sm0 8 a) ∧ (∀ a, a < 10 → sm0 8 a = 0) := by decide +kernel
theorem i_tol : ∀ p, p < 10 → sm0 10 p = nI 0 ∧ sx0 5 p = nI 0 - 1 := by decide +kernel
theorem i_bok : ∀ j, j < 800 → sx0 7 j = sm0 9 j := by decide +kernel
theorem i_sca : sx0 1 9 = nI 0 ∧ sm0 0 6 = nI 0 ∧ sx0 1 7 = nI 0 ∧ sm0 1 0 = nI 0 ∧ sx0 1 8 = nI 0 ∧ sm0 1 1 = nI 0 ∧ sx0 1 11 = nI 5 ∧ sm0 4 0 = nI 5 ∧ sx0 1 12 = nI 0 ∧ sm0 4 1 = nI 0 ∧ sx0 6 1 = nI 0 ∧ sm0 1 4 = nI 0 ∧ sx0 1 6 = sm0 1 2 ∧ sx0 1 10 = sm0 1 3 ∧ sx0 8 4 = nI 0 ∧ sm0 0 22 = nI 0 ∧ sx0 25 4 = nI 0 ∧ sm0 0 3 = nI 0 ∧ sx0 38 1 = nI 0 ∧ sm0 0 16 = nI 0 ∧ sx0 38 2 = sm0 0 34 ∧ sx0 38 3 = sm0 0 35 ∧ sx0 0 2 = 0 ∧ sm0 0 46 = 0 := by decide +kernel
theorem i_wor : ∀ j, j < 94 → sm0 12 j = wordsC.getD j 0 := by decide +kernel
theorem init_RR : RR sx0 sm0 := by
  obtain ⟨s1, s2, s3, s4, s5, s6, s7, s8, s9, s10, s11, s12, s13, s14, s15, s16, s17, s18, s19, s20, s21, s22, s23, s24⟩ := i_sca
  refine ⟨⟨0, 0, 0, 5, 0, 0, 0, ⟨by decide, ⟨s1, s2⟩, ⟨s3, s4⟩, ⟨s5, s6⟩, ⟨s7, s8⟩, ⟨s9, s10⟩, ⟨s11, s12⟩, s13, s14, ⟨i_hou1, fun h hh => ?_⟩, fun p hp => ?_, fun p hp => ?_, fun p hp => absurd hp (Nat.not_lt_zero p), ⟨i_foe.1, fun a b ha hb => ?_⟩, fun p hp => ⟨0, by decide, (i_tol p hp).1, (i_tol p hp).2⟩, i_bok, ⟨[], by decide, by decide, fun q h => absurd h List.not_mem_nil, ⟨s15, fun i h => absurd h (Nat.not_lt_zero i), fun j h => absurd h (Nat.not_lt_zero j)⟩, ⟨s16, fun i h => absurd h (Nat.not_lt_zero i), fun j h => absurd h (Nat.not_lt_zero j)⟩⟩⟩, ⟨by decide, s17, s18, fun k h => absurd h (Nat.not_lt_zero k)⟩⟩, ⟨0, by decide, s19, s20, fun j h => absurd h (Nat.not_lt_zero j)⟩, ⟨s21, s22⟩, Or.inl ⟨s23, s24⟩, i_wor⟩
  · obtain ⟨a, b, c, d, e⟩ := i_hou2 h hh
    exact ⟨le32_of a, le32_of b, le32_of c, le32_of d, le32_of e⟩
  · obtain ⟨a, b, c, d, e, f, g, h⟩ := i_fix p hp
    exact ⟨a, b, c, d, e, le32_of f, le32_of g, le32_of h⟩
  · obtain ⟨a, b, c, d, e, f, g⟩ := i_mov p hp
    exact ⟨a, b, c, d, e, le32_of f, le32_of g⟩
  · rw [i_foe.2 a ha, i_foe.2 b hb]
    rw [show bitI 0 b = 0 by simp [bitI], show bitI 0 a = 0 by simp [bitI]]
