/-! rules: both sides reckon the same -/
theorem flt_c (qₓ : Nat × List (Nat × Nat)) (gₓ : Prg) : flt (qₓ :: gₓ) = qₓ.2 ++ flt gₓ := rfl
theorem off_c (qₓ : Nat × List (Nat × Nat)) (gₓ : Prg) (iₓ : Nat) : off (qₓ :: gₓ) (iₓ + 1) = qₓ.2.length + off gₓ iₓ := by
  unfold off
  rw [List.take_succ_cons, List.map_cons, List.sum_cons]
theorem off_0 (gₓ : Prg) : off gₓ 0 = 0 := rfl
theorem off_s : ∀ (gₓ : Prg) (iₓ : Nat), iₓ < gₓ.length → off gₓ (iₓ + 1) = off gₓ iₓ + (gₓ.getD iₓ (0, [])).2.length := by
  intro gₓ
  induction gₓ with
  | nil => intro iₓ hₓ; exact absurd hₓ (by simp)
  | cons qₓ gₓ ihₓ =>
    intro iₓ hₓ
    cases iₓ with
    | zero => rw [off_c, off_0, off_0, List.getD_cons_zero]; omega
    | succ iₓ =>
      rw [off_c, off_c, ihₓ iₓ (by simpa using hₓ), List.getD_cons_succ]
      omega
theorem off_leₓ : ∀ (gₓ : Prg) (iₓ : Nat), off gₓ iₓ ≤ (flt gₓ).length := by
  intro gₓ
  induction gₓ with
  | nil => intro iₓ; unfold off; simp
  | cons qₓ gₓ ihₓ =>
    intro iₓ
    cases iₓ with
    | zero => rw [off_0]; exact Nat.zero_le _
    | succ iₓ =>
      rw [off_c, flt_c, List.length_append]
      have := ihₓ iₓ
      omega
theorem flt_get : ∀ (gₓ : Prg) (iₓ jₓ : Nat), iₓ < gₓ.length → jₓ < (gₓ.getD iₓ (0, [])).2.length → (flt gₓ).getD (off gₓ iₓ + jₓ) (0, 0) = (gₓ.getD iₓ (0, [])).2.getD jₓ (0, 0) := by
  intro gₓ
  induction gₓ with
  | nil => intro iₓ jₓ hₓ; exact absurd hₓ (by simp)
  | cons qₓ gₓ ihₓ =>
    intro iₓ jₓ hₓ hj
    cases iₓ with
    | zero =>
      rw [List.getD_cons_zero] at hj ⊢
      rw [off_0, Nat.zero_add, flt_c, List.getD_eq_getElem?_getD, List.getD_eq_getElem?_getD, List.getElem?_append_left hj]
    | succ iₓ =>
      rw [List.getD_cons_succ] at hj ⊢
      rw [off_c, flt_c, ← ihₓ iₓ jₓ (by simpa using hₓ) hj, List.getD_eq_getElem?_getD, List.getD_eq_getElem?_getD, List.getElem?_append_right (by omega), show qₓ.2.length + off gₓ iₓ + jₓ - qₓ.2.length = off gₓ iₓ + jₓ by omega]
/-- the two stacks alike, with the kinds of what lies on them -/
def StR (Sₓ T : Mem) : List Nat → Prop
  | [] => True
  | tₓ :: rₓ => Sₓ 12 rₓ.length = T 20 rₓ.length ∧ (tₓ = 1 → Sₓ 12 rₓ.length = 0 ∨ Sₓ 12 rₓ.length = 1) ∧ (tₓ = 2 → ¬ Sₓ 12 rₓ.length = 0) ∧ StR Sₓ T rₓ
theorem StR.set {Sₓ T : Mem} {jₓ : Nat} {vₓ wₓ : Int32} : ∀ {tl : List Nat}, StR Sₓ T tl → tl.length ≤ jₓ → StR (mset Sₓ 12 jₓ vₓ) (mset T 20 jₓ wₓ) tl := by
  intro tl
  induction tl with
  | nil => intro _ _; trivial
  | cons tₓ rₓ ihₓ =>
    intro hₓ hj
    rw [List.length_cons] at hj
    obtain ⟨h1, h2, h3, h4⟩ := hₓ
    refine ⟨?_, ?_, ?_, ihₓ h4 (by omega)⟩
    · rw [mset_same, mset_same, upd_ne _ _ (by omega), upd_ne _ _ (by omega)]; exact h1
    · rw [mset_same, upd_ne _ _ (by omega)]; exact h2
    · rw [mset_same, upd_ne _ _ (by omega)]; exact h3
theorem StR.push {Sₓ T : Mem} {vₓ : Int32} {tₓ : Nat} {tl : List Nat} (hₓ : StR Sₓ T tl) (h1 : tₓ = 1 → vₓ = 0 ∨ vₓ = 1) (h2 : tₓ = 2 → ¬ vₓ = 0) : StR (mset Sₓ 12 tl.length vₓ) (mset T 20 tl.length vₓ) (tₓ :: tl) := by
  refine ⟨?_, ?_, ?_, hₓ.set (Nat.le_refl _)⟩
  · rw [mset_same, mset_same, upd_same, upd_same]
  · rw [mset_same, upd_same]; exact h1
  · rw [mset_same, upd_same]; exact h2
theorem gd_nz {yₓ : Int32} (xₓ : O) (hₓ : ¬ yₓ = 0) : gd (nz yₓ) xₓ = xₓ := gd_of xₓ (decide_eq_true hₓ)
/-- two numbers, one sign -/
theorem two_eq {wₓ : Nat} {xₓ yₓ : Int32} (hw : wₓ < 12 ∧ 2 ≤ wₓ ∧ wₓ ≠ 9) (h5 : wₓ = 5 → ¬ yₓ = 0) (h10 : wₓ = 10 ∨ wₓ = 11 → (xₓ = 0 ∨ xₓ = 1) ∧ (yₓ = 0 ∨ yₓ = 1)) : ∃ vₓ, (∀ Sₓ, fX4_reckon Sₓ (nI (xcode (wₓ, 0))) xₓ yₓ = some (vₓ, Sₓ)) ∧ (∀ T, fX8_twoOf T (nI wₓ) xₓ yₓ = some (vₓ, T)) ∧ (6 ≤ wₓ → vₓ = 0 ∨ vₓ = 1) := by
  have k01 : ∀ (cₓ : Prop) [Decidable cₓ] (Sₓ : Mem), (if cₓ then some ((0 : Int32), Sₓ) else some ((1 : Int32), Sₓ)) = some (if cₓ then (0 : Int32) else 1, Sₓ) := fun cₓ _ Sₓ => by split <;> rfl
  have k10 : ∀ (cₓ : Prop) [Decidable cₓ] (Sₓ : Mem), (if cₓ then some ((1 : Int32), Sₓ) else some ((0 : Int32), Sₓ)) = some (if cₓ then (1 : Int32) else 0, Sₓ) := fun cₓ _ Sₓ => by split <;> rfl
  obtain rfl | rfl | rfl | rfl | rfl | rfl | rfl | rfl | rfl : wₓ = 2 ∨ wₓ = 3 ∨ wₓ = 4 ∨ wₓ = 5 ∨ wₓ = 6 ∨ wₓ = 7 ∨ wₓ = 8 ∨ wₓ = 10 ∨ wₓ = 11 := by omega
  · exact ⟨xₓ + yₓ, fun Sₓ => rfl, fun T => rfl, fun hₓ => absurd hₓ (by omega)⟩
  · exact ⟨xₓ - yₓ, fun Sₓ => rfl, fun T => rfl, fun hₓ => absurd hₓ (by omega)⟩
  · exact ⟨xₓ * yₓ, fun Sₓ => rfl, fun T => rfl, fun hₓ => absurd hₓ (by omega)⟩
  · have hy := h5 rfl
    refine ⟨xₓ / yₓ, fun Sₓ => ?_, fun T => ?_, fun hₓ => absurd hₓ (by omega)⟩
    · show (if yₓ = 0 then some ((0 : Int32), Sₓ) else gd (nz yₓ) (some (xₓ / yₓ, Sₓ))) = _
      rw [if_neg hy, gd_nz _ hy]
    · show gd (nz yₓ) (some (xₓ / yₓ, T)) = _
      rw [gd_nz _ hy]
  · refine ⟨if yₓ ≤ xₓ then 0 else 1, fun Sₓ => k01 _ Sₓ, fun T => k01 _ T, fun _ => ?_⟩
    split
    · exact Or.inl rfl
    · exact Or.inr rfl
  · refine ⟨if xₓ = yₓ then 1 else 0, fun Sₓ => k10 _ Sₓ, fun T => k10 _ T, fun _ => ?_⟩
    split
    · exact Or.inr rfl
    · exact Or.inl rfl
  · refine ⟨if xₓ ≤ yₓ then 0 else 1, fun Sₓ => k01 _ Sₓ, fun T => k01 _ T, fun _ => ?_⟩
    split
    · exact Or.inl rfl
    · exact Or.inr rfl
  · obtain ⟨hx, hy⟩ := h10 (Or.inl rfl)
    refine ⟨xₓ * yₓ, fun Sₓ => ?_, fun T => rfl, fun _ => ?_⟩
    · show some (xₓ &&& yₓ, Sₓ) = _
      have : xₓ &&& yₓ = xₓ * yₓ := by rcases hx with rfl | rfl <;> rcases hy with rfl | rfl <;> decide
      rw [this]
    · rcases hx with rfl | rfl <;> rcases hy with rfl | rfl <;> decide
  · obtain ⟨hx, hy⟩ := h10 (Or.inr rfl)
    refine ⟨xₓ ||| yₓ, fun Sₓ => rfl, fun T => ?_, fun _ => ?_⟩
    · show (if xₓ + yₓ ≤ 0 then some ((0 : Int32), T) else some ((1 : Int32), T)) = _
      rw [k01]
      have : (if xₓ + yₓ ≤ 0 then (0 : Int32) else 1) = xₓ ||| yₓ := by rcases hx with rfl | rfl <;> rcases hy with rfl | rfl <;> decide
      rw [this]
    · rcases hx with rfl | rfl <;> rcases hy with rfl | rfl <;> decide
theorem xc_b {wₓ : Nat} (aₓ : Nat) (hw : wₓ < 12 ∧ 2 ≤ wₓ) : xcode (wₓ, aₓ) = xcode (wₓ, 0) ∧ (wₓ ≠ 9 → xcode (wₓ, 0) < 100 ∧ xcode (wₓ, 0) ≠ 7 ∧ (xcode (wₓ, 0) < 8 ∨ 17 < xcode (wₓ, 0))) := by
  obtain rfl | rfl | rfl | rfl | rfl | rfl | rfl | rfl | rfl | rfl : wₓ = 2 ∨ wₓ = 3 ∨ wₓ = 4 ∨ wₓ = 5 ∨ wₓ = 6 ∨ wₓ = 7 ∨ wₓ = 8 ∨ wₓ = 9 ∨ wₓ = 10 ∨ wₓ = 11 := by omega
  all_goals first | exact ⟨rfl, fun _ => by decide⟩ | exact ⟨rfl, fun hₓ => absurd rfl hₓ⟩
/-- one piece of code -/
theorem code_1 {Sₓ T : Mem} {cₓ : Nat × Nat} {tl tl' : List Nat} (hv : ∀ jₓ, jₓ < 10 → Sₓ 31 jₓ = T 19 jₓ) (hₓ : StR Sₓ T tl) (ht : tyS tl cₓ = some tl') {iₓ l : Nat} (hiₓ : iₓ < 400) (hl : l < 16) (o16 : T 16 iₓ = nI cₓ.1) (o17 : T 17 iₓ = nI cₓ.2) (hn : tl.length ≤ 30) (k0ₓ : Mem → Int32 → Int32 → Int32 → Int32 → O) {eₓ : Nat} (h15 : T 15 l = nI eₓ) (hie : iₓ < eₓ) (he : eₓ ≤ 400) : ∃ S' T', fX4_takeCode_8_31 Sₓ (nI (xcode cₓ)) (nI tl.length) = some (nI tl'.length, S') ∧ fX8_isSo_33_b k0ₓ T (nI 0) (nI l) (nI tl.length) (nI iₓ) = k0ₓ T' (nI 0) (nI l) (nI tl'.length) (nI (iₓ + 1)) ∧ StR S' T' tl' ∧ frm [12] Sₓ S' ∧ frm [20] T T' ∧ tl'.length ≤ 30 := by
  obtain ⟨wₓ, aₓ⟩ := cₓ
  simp only at o16 o17
  have nleₓ : ¬ (nI 400 * nI 0 + nI eₓ) ≤ nI iₓ := by rw [pk_mul, nI_add, nI_leI (by omega) (by omega)]; omega
  have nle' : ¬ (nI 400 * nI 0 + T 15 l) ≤ nI iₓ := by rw [h15]; exact nleₓ
  by_cases w0ₓ : wₓ = 0
  · subst w0ₓ
    simp only [tyS, if_true] at ht
    by_cases qₓ : aₓ < 10000 ∧ tl.length < 30
    · rw [if_pos qₓ] at ht
      have ht2 := Option.some.inj ht
      refine ⟨mset Sₓ 12 tl.length (nI aₓ), mset T 20 tl.length (nI aₓ), ?_, ?_, ?_, frm.put _ _ (by decide), frm.put _ _ (by decide), ?_⟩
      · rw [← ht2, List.length_cons]
        have e1ₓ : xcode (0, aₓ) = 100 + aₓ := rfl
        rw [e1ₓ]
        simp (disch := first | omega | assumption) only [fX4_takeCode_8_31, fX4_push_8, pk_sub, Nat.add_sub_cancel_left, mset_ne, mset_same, upd_same, upd_ne, ltm_e, lti_e, bnd_e, fa_lit, nI_add, pk_mul, nI_clamp, gd_in, nlt0, nI_ltI, nI_leI, nI_eq, if_true, if_false, if_pos, if_neg]
      · rw [← ht2, List.length_cons]
        simp (disch := first | omega | assumption) only [fX8_isSo_33_b, fX8_isSo_71, fX8_isSo_108, fX8_isSo_186, h15, nleₓ, o16, o17, mset_ne, mset_same, upd_same, upd_ne, ltm_e, lti_e, bnd_e, fa_lit, nI_add, pk_mul, nI_clamp, gd_in, nlt0, nI_ltI, nI_leI, nI_eq, if_true, if_false, if_pos, if_neg]
      · rw [← ht2]
        refine hₓ.push (fun zₓ => ?_) (fun zₓ => ?_)
        · exfalso; revert zₓ; split <;> omega
        · revert zₓ
          split
          · omega
          · intro _; rw [show (0 : Int32) = nI 0 from rfl, nI_eq (by omega) (by omega)]; assumption
      · rw [← ht2, List.length_cons]; omega
    · rw [if_neg qₓ] at ht; cases ht
  · by_cases w1ₓ : wₓ = 1
    · subst w1ₓ
      simp only [tyS, if_true, if_neg (show ¬ 1 = 0 by omega)] at ht
      by_cases qₓ : aₓ < 10 ∧ tl.length < 30
      · rw [if_pos qₓ] at ht
        have ht2 := Option.some.inj ht
        have hva := hv aₓ qₓ.1
        refine ⟨mset Sₓ 12 tl.length (Sₓ 31 aₓ), mset T 20 tl.length (Sₓ 31 aₓ), ?_, ?_, ?_, frm.put _ _ (by decide), frm.put _ _ (by decide), ?_⟩
        · rw [← ht2, List.length_cons]
          have e1ₓ : xcode (1, aₓ) = 8 + aₓ := rfl
          rw [e1ₓ]
          simp (disch := first | omega | assumption) only [fX4_takeCode_8_31, fX4_push_8, pk_sub, Nat.add_sub_cancel_left, mset_ne, mset_same, upd_same, upd_ne, ltm_e, lti_e, bnd_e, fa_lit, nI_add, pk_mul, nI_clamp, gd_in, nlt0, nI_ltI, nI_leI, nI_eq, if_true, if_false, if_pos, if_neg]
        · rw [← ht2, List.length_cons]
          simp (disch := first | omega | assumption) only [fX8_isSo_33_b, fX8_isSo_71, fX8_isSo_108, fX8_isSo_186, h15, nleₓ, o16, o17, hva, mset_ne, mset_same, upd_same, upd_ne, ltm_e, lti_e, bnd_e, fa_lit, nI_add, pk_mul, nI_clamp, gd_in, nlt0, nI_ltI, nI_leI, nI_eq, if_true, if_false, if_pos, if_neg]
        · rw [← ht2]
          exact hₓ.push (fun zₓ => absurd zₓ (by omega)) (fun zₓ => absurd zₓ (by omega))
        · rw [← ht2, List.length_cons]; omega
      · rw [if_neg qₓ] at ht; cases ht
    · by_cases w9 : wₓ = 9
      · subst w9
        simp only [tyS, if_true, if_neg (show ¬ 9 = 0 by omega), if_neg (show ¬ 9 = 1 by omega)] at ht
        cases tl with
        | nil => cases ht
        | cons bₓ rₓ =>
          simp only at ht
          by_cases qₓ : bₓ = 1
          · rw [if_pos qₓ] at ht
            have ht2 := Option.some.inj ht
            obtain ⟨h1, h2, h3, h4⟩ := hₓ
            have hx := h2 qₓ
            refine ⟨mset Sₓ 12 rₓ.length (nI 1 - Sₓ 12 rₓ.length), mset T 20 rₓ.length (nI 1 - Sₓ 12 rₓ.length), ?_, ?_, ?_, frm.put _ _ (by decide), frm.put _ _ (by decide), ?_⟩
            · rw [← ht2, List.length_cons, List.length_cons]
              rw [List.length_cons] at hn
              have e1ₓ : xcode (9, aₓ) = 7 := rfl
              rw [e1ₓ]
              simp (disch := first | omega | assumption) only [fX4_takeCode_8_31, fX4_takeCode_8_31_49, pk_sub, Nat.add_sub_cancel, mset_ne, mset_same, upd_same, upd_ne, ltm_e, lti_e, bnd_e, fa_lit, nI_add, pk_mul, nI_clamp, gd_in, nlt0, nI_ltI, nI_leI, nI_eq, if_true, if_false, if_pos, if_neg]
            · rw [← ht2, List.length_cons, List.length_cons]
              rw [List.length_cons] at hn
              have h1' := h1.symm
              simp (disch := first | omega | assumption) only [fX8_isSo_33_b, fX8_isSo_186, h15, nleₓ, o16, pk_sub, Nat.add_sub_cancel, h1', mset_ne, mset_same, upd_same, upd_ne, ltm_e, lti_e, bnd_e, fa_lit, nI_add, pk_mul, nI_clamp, gd_in, nlt0, nI_ltI, nI_leI, nI_eq, if_true, if_false, if_pos, if_neg]
            · rw [← ht2]
              refine h4.push (fun _ => ?_) (fun zₓ => absurd zₓ (by omega))
              rcases hx with eₓ | eₓ
              · rw [eₓ]; exact Or.inr (by decide)
              · rw [eₓ]; exact Or.inl (by decide)
            · rw [← ht2]; exact hn
          · rw [if_neg qₓ] at ht; cases ht
      · simp only [tyS, if_neg w0ₓ, if_neg w1ₓ, if_neg w9] at ht
        cases tl with
        | nil => cases ht
        | cons bₓ r0 =>
          cases r0 with
          | nil => cases ht
          | cons a2 rₓ =>
            simp only at ht
            obtain ⟨h1, h2, h3, h4, h5, h6, h7⟩ := hₓ
            rw [List.length_cons] at h1 h2 h3
            have keyₓ : ∃ tₓ, tl' = tₓ :: rₓ ∧ wₓ < 12 ∧ 2 ≤ wₓ ∧ (wₓ = 5 → bₓ = 2) ∧ (wₓ = 10 ∨ wₓ = 11 → a2 = 1 ∧ bₓ = 1) ∧ (tₓ = 1 → 6 ≤ wₓ) ∧ tₓ ≠ 2 := by
              by_cases z1 : wₓ = 2 ∨ wₓ = 3 ∨ wₓ = 4
              · rw [if_pos z1] at ht
                by_cases qₓ : a2 ≠ 1 ∧ bₓ ≠ 1
                · rw [if_pos qₓ] at ht
                  exact ⟨0, (Option.some.inj ht).symm, by omega, by omega, fun zₓ => by omega, fun zₓ => by omega, fun zₓ => by omega, by omega⟩
                · rw [if_neg qₓ] at ht; cases ht
              · rw [if_neg z1] at ht
                by_cases z2 : wₓ = 5
                · rw [if_pos z2] at ht
                  by_cases qₓ : a2 ≠ 1 ∧ bₓ = 2
                  · rw [if_pos qₓ] at ht
                    exact ⟨0, (Option.some.inj ht).symm, by omega, by omega, fun _ => qₓ.2, fun zₓ => by omega, fun zₓ => by omega, by omega⟩
                  · rw [if_neg qₓ] at ht; cases ht
                · rw [if_neg z2] at ht
                  by_cases z3 : wₓ = 6 ∨ wₓ = 7 ∨ wₓ = 8
                  · rw [if_pos z3] at ht
                    by_cases qₓ : a2 ≠ 1 ∧ bₓ ≠ 1
                    · rw [if_pos qₓ] at ht
                      exact ⟨1, (Option.some.inj ht).symm, by omega, by omega, fun zₓ => by omega, fun zₓ => by omega, fun _ => by omega, by omega⟩
                    · rw [if_neg qₓ] at ht; cases ht
                  · rw [if_neg z3] at ht
                    by_cases z4 : wₓ = 10 ∨ wₓ = 11
                    · rw [if_pos z4] at ht
                      by_cases qₓ : a2 = 1 ∧ bₓ = 1
                      · rw [if_pos qₓ] at ht
                        exact ⟨1, (Option.some.inj ht).symm, by omega, by omega, fun zₓ => by omega, fun _ => qₓ, fun _ => by omega, by omega⟩
                      · rw [if_neg qₓ] at ht; cases ht
                    · rw [if_neg z4] at ht; cases ht
            obtain ⟨tₓ, e1ₓ, e2ₓ, e3ₓ, e4ₓ, e5ₓ, e6ₓ, e7ₓ⟩ := keyₓ
            subst e1ₓ
            obtain ⟨vₓ, v1ₓ, v2, v3⟩ := two_eq (wₓ := wₓ) (xₓ := Sₓ 12 rₓ.length) (yₓ := Sₓ 12 (rₓ.length + 1)) ⟨e2ₓ, e3ₓ, w9⟩ (fun zₓ => h3 (e4ₓ zₓ)) (fun zₓ => ⟨h5 (e5ₓ zₓ).1, h2 (e5ₓ zₓ).2⟩)
            obtain ⟨x1ₓ, x2ₓ⟩ := xc_b (wₓ := wₓ) aₓ ⟨e2ₓ, e3ₓ⟩
            obtain ⟨x3, x4ₓ, x5ₓ⟩ := x2ₓ w9
            have v1' := v1ₓ Sₓ
            have v2' := v2 T
            rw [h1, h4] at v2'
            rw [List.length_cons, List.length_cons] at hn
            refine ⟨mset Sₓ 12 rₓ.length vₓ, mset T 20 rₓ.length vₓ, ?_, ?_, h7.push (fun zₓ => v3 (e6ₓ zₓ)) (fun zₓ => absurd zₓ e7ₓ), frm.put _ _ (by decide), frm.put _ _ (by decide), ?_⟩
            · rw [List.length_cons, List.length_cons, List.length_cons, x1ₓ]
              generalize xcode (wₓ, 0) = xc at *
              have s1ₓ : rₓ.length + 1 + 1 - 2 = rₓ.length := by omega
              have s2ₓ : rₓ.length + 1 + 1 - 1 = rₓ.length + 1 := by omega
              rcases x5ₓ with x5ₓ | x5ₓ
              · simp (disch := first | omega | assumption) only [fX4_takeCode_8_31, fX4_takeCode_8_31_49, fX4_takeCode_8_31_80, pk_sub, s1ₓ, s2ₓ, v1', mset_ne, mset_same, upd_same, upd_ne, ltm_e, lti_e, bnd_e, fa_lit, nI_add, pk_mul, nI_clamp, gd_in, nlt0, nI_ltI, nI_leI, nI_eq, if_true, if_false, if_pos, if_neg]
              · simp (disch := first | omega | assumption) only [fX4_takeCode_8_31, fX4_takeCode_8_31_49, fX4_takeCode_8_31_80, pk_sub, s1ₓ, s2ₓ, v1', mset_ne, mset_same, upd_same, upd_ne, ltm_e, lti_e, bnd_e, fa_lit, nI_add, pk_mul, nI_clamp, gd_in, nlt0, nI_ltI, nI_leI, nI_eq, if_true, if_false, if_pos, if_neg]
            · rw [List.length_cons, List.length_cons, List.length_cons]
              have s1ₓ : rₓ.length + 1 - 1 = rₓ.length := by omega
              have s2ₓ : rₓ.length + 1 + 1 - 1 = rₓ.length + 1 := by omega
              simp (disch := first | omega | assumption) only [fX8_isSo_33_b, fX8_isSo_186, h15, nleₓ, o16, pk_sub, s1ₓ, s2ₓ, v2', mset_ne, mset_same, upd_same, upd_ne, ltm_e, lti_e, bnd_e, fa_lit, nI_add, pk_mul, nI_clamp, gd_in, nlt0, nI_ltI, nI_leI, nI_eq, if_true, if_false, if_pos, if_neg]
            · rw [List.length_cons]; omega
theorem frm.on {Lₓ : List Nat} {Sₓ S' : Mem} (hₓ : frm Lₓ Sₓ S') {cₓ : Nat} (hcₓ : cₓ ∉ Lₓ) : S' cₓ = Sₓ cₓ := hₓ cₓ hcₓ
theorem code_all {gₓ : Prg} {l eₓ : Nat} (hl : l < 16) (he : eₓ ≤ 400) : ∀ (cs : List (Nat × Nat)) (jₓ fₓ : Nat) (Sₓ T : Mem) (tl tl' : List Nat), jₓ + cs.length = eₓ → cs.length < fₓ → (∀ iₓ, iₓ < cs.length → Sₓ 11 (jₓ + iₓ) = nI (xcode (cs.getD iₓ (0, 0))) ∧ T 16 (jₓ + iₓ) = nI (cs.getD iₓ (0, 0)).1 ∧ T 17 (jₓ + iₓ) = nI (cs.getD iₓ (0, 0)).2) → (∀ jₓ, jₓ < 10 → Sₓ 31 jₓ = T 19 jₓ) → T 15 l = nI eₓ → StR Sₓ T tl → tl.length ≤ 30 → tyR tl cs = some tl' → ∃ S' T', fX4_holds_8_31_10 fₓ Sₓ (nI eₓ) (nI tl.length) (nI jₓ) = fX4_holds_8_31_48 S' (nI tl'.length) ∧ fX8_isSo_33 fₓ T (nI 0) (nI l) (nI tl.length) (nI jₓ) = (if T' 20 0 = 0 then some (nI 0, T') else some (nI 1, T')) ∧ StR S' T' tl' ∧ frm [12] Sₓ S' ∧ frm [20] T T' ∧ tl'.length ≤ 30 := by
  intro cs
  induction cs with
  | nil =>
    intro jₓ fₓ Sₓ T tl tl' hj hf hcₓ hv h15 hSₓ hn ht
    obtain ⟨fₓ, rfl⟩ : ∃ gₓ, fₓ = gₓ + 1 := ⟨fₓ - 1, by omega⟩
    have e1ₓ : tl = tl' := Option.some.inj ht
    subst e1ₓ
    have e2ₓ : jₓ = eₓ := hj
    subst e2ₓ
    refine ⟨Sₓ, T, ?_, ?_, hSₓ, frm.rf _ _, frm.rf _ _, hn⟩
    · show fX4_holds_8_31_10_b (fX4_holds_8_31_10 fₓ) Sₓ (nI jₓ) (nI tl.length) (nI jₓ) = _
      unfold fX4_holds_8_31_10_b
      rw [if_pos (nI_le (Nat.le_refl _) (by omega))]
    · show fX8_isSo_33_b (fX8_isSo_33 fₓ) T (nI 0) (nI l) (nI tl.length) (nI jₓ) = _
      unfold fX8_isSo_33_b
      rw [gd_in _ (show l < 32 by omega) (by omega), nI_clamp (show l < 2 ^ 31 by omega), h15, show (400 : Int32) = nI 400 from rfl, pk_mul, nI_add, if_pos (nI_le (by omega) (by omega))]
      rfl
  | cons cₓ cs ihₓ =>
    intro jₓ fₓ Sₓ T tl tl' hj hf hcₓ hv h15 hSₓ hn ht
    obtain ⟨fₓ, rfl⟩ : ∃ gₓ, fₓ = gₓ + 1 := ⟨fₓ - 1, by omega⟩
    rw [List.length_cons] at hj hf
    obtain ⟨c1ₓ, c2ₓ, c3ₓ⟩ := hcₓ 0 (by simp)
    rw [Nat.add_zero, List.getD_cons_zero] at c1ₓ c2ₓ c3ₓ
    rw [tyR] at ht
    cases hty : tyS tl cₓ with
    | none => rw [hty] at ht; cases ht
    | some t1ₓ =>
      rw [hty] at ht
      have ht2 : tyR t1ₓ cs = some tl' := ht
      obtain ⟨S1, T1, s1ₓ, s2ₓ, s3ₓ, s4ₓ, s5, s6ₓ⟩ := code_1 hv hSₓ hty (iₓ := jₓ) (l := l) (by omega) hl c2ₓ c3ₓ hn (fX8_isSo_33 fₓ) h15 (by omega) he
      obtain ⟨S', T', z1, z2, z3, z4, z5, z6⟩ := ihₓ (jₓ + 1) fₓ S1 T1 t1ₓ tl' (by omega) (by omega) (fun iₓ hiₓ => by
        obtain ⟨y1, y2, y3⟩ := hcₓ (iₓ + 1) (by rw [List.length_cons]; omega)
        rw [List.getD_cons_succ] at y1 y2 y3
        rw [s4ₓ 11 (by decide), s5 16 (by decide), s5 17 (by decide), show jₓ + 1 + iₓ = jₓ + (iₓ + 1) by omega]
        exact ⟨y1, y2, y3⟩) (fun jₓ hj => by rw [s4ₓ 31 (by decide), s5 19 (by decide)]; exact hv jₓ hj) (by rw [s5 15 (by decide)]; exact h15) s3ₓ s6ₓ ht2
      refine ⟨S', T', ?_, ?_, z3, s4ₓ.tr z4, s5.tr z5, z6⟩
      · rw [← z1]
        show fX4_holds_8_31_10_b (fX4_holds_8_31_10 fₓ) Sₓ (nI eₓ) (nI tl.length) (nI jₓ) = _
        unfold fX4_holds_8_31_10_b
        rw [if_neg (show ¬ nI eₓ ≤ nI jₓ by rw [nI_leI (by omega) (by omega)]; omega), if_neg (show ¬ (400 : Int32) ≤ nI jₓ by rw [show (400 : Int32) = nI 400 from rfl, nI_leI (by omega) (by omega)]; omega), gd_in _ (show jₓ < 400 by omega) (by omega), nI_clamp (show jₓ < 2 ^ 31 by omega), c1ₓ, s1ₓ, bnd_e, show nI jₓ + 1 = nI (jₓ + 1) from nI_add jₓ 1]
      · rw [← z2, ← s2ₓ]
        rfl
/-- what RULES say, one line after the other -/
theorem line_both {gₓ : Prg} (h16ₓ : gₓ.length ≤ 16) (h400 : (flt gₓ).length ≤ 400) (hw : ∀ qₓ ∈ gₓ, wfL qₓ) : ∀ (kₓ iₓ fₓ : Nat) (Sₓ T : Mem), iₓ + kₓ = gₓ.length → kₓ < fₓ → encX gₓ (Sₓ 8 4) (Sₓ 9) (Sₓ 10) (Sₓ 11) → encM gₓ (T 0 22) (T 13) (T 14) (T 15) (T 16) (T 17) → (∀ jₓ, jₓ < 10 → Sₓ 31 jₓ = T 19 jₓ) → ∃ aₓ S' T', aₓ ≤ 3 ∧ fX4_choose_8_31_4 fₓ Sₓ (nI (off gₓ iₓ)) (nI iₓ) = some (nI aₓ, S') ∧ fX8_ruleFor_129 fₓ T (nI iₓ) = some (nI aₓ, T') ∧ frm [12] Sₓ S' ∧ frm [20] T T' := by
  intro kₓ
  induction kₓ with
  | zero =>
    intro iₓ fₓ Sₓ T hiₓ hf hX hMₓ hv
    obtain ⟨fₓ, rfl⟩ : ∃ gₓ, fₓ = gₓ + 1 := ⟨fₓ - 1, by omega⟩
    refine ⟨0, Sₓ, T, by omega, ?_, ?_, frm.rf _ _, frm.rf _ _⟩
    · show fX4_choose_8_31_4_b (fX4_choose_8_31_4 fₓ) Sₓ (nI (off gₓ iₓ)) (nI iₓ) = _
      unfold fX4_choose_8_31_4_b
      rw [hX.1, if_pos (nI_le (by omega) (by omega))]
      rfl
    · show fX8_ruleFor_129_b (fX8_ruleFor_129 fₓ) T (nI iₓ) = _
      unfold fX8_ruleFor_129_b
      rw [hMₓ.1, if_pos (nI_le (by omega) (by omega))]
      rfl
  | succ kₓ ihₓ =>
    intro iₓ fₓ Sₓ T hiₓ hf hX hMₓ hv
    obtain ⟨fₓ, rfl⟩ : ∃ gₓ, fₓ = gₓ + 1 := ⟨fₓ - 1, by omega⟩
    have hig : iₓ < gₓ.length := by omega
    obtain ⟨x1ₓ, x2ₓ, x3⟩ := id hX
    obtain ⟨m1ₓ, m2ₓ, m3ₓ⟩ := id hMₓ
    obtain ⟨x4ₓ, x5ₓ⟩ := x2ₓ iₓ hig
    obtain ⟨m4ₓ, m5ₓ, m6ₓ⟩ := m2ₓ iₓ hig
    have os := off_s gₓ iₓ hig
    have ol := off_leₓ gₓ (iₓ + 1)
    have hmem : gₓ.getD iₓ (0, []) ∈ gₓ := by
      rw [List.getD_eq_getElem?_getD, List.getElem?_eq_getElem hig, Option.getD_some]
      exact List.getElem_mem hig
    obtain ⟨q1ₓ, q2ₓ⟩ := hw _ hmem
    have fg := fun jₓ => flt_get gₓ iₓ jₓ hig
    generalize hq : gₓ.getD iₓ (0, []) = qₓ at *
    have im : ∀ xₓ : Nat, xₓ < 2 ^ 31 → imax (0 : Int32) (nI xₓ) = nI xₓ := fun xₓ hx => by
      unfold imax
      by_cases zₓ : (0 : Int32) < nI xₓ
      · rw [if_pos zₓ]
      · rw [if_neg zₓ]
        rw [show (0 : Int32) = nI 0 from rfl, nI_ltI (by omega) hx] at zₓ
        rw [show xₓ = 0 by omega]; rfl
    have hh : ∃ bₓ S1 T1, bₓ < 2 ∧ fX4_holds_8_31 Sₓ (nI (off gₓ iₓ)) (nI (off gₓ (iₓ + 1))) = some (nI bₓ, S1) ∧ fX8_isSo T (nI 0) (nI iₓ) = some (nI bₓ, T1) ∧ frm [12] Sₓ S1 ∧ frm [20] T T1 := by
      unfold fX4_holds_8_31 fX8_isSo
      rw [lti_e, im _ (by omega), gd_in _ (show iₓ < 32 by omega) (by omega), gd_in _ (show iₓ < 32 by omega) (by omega), gd_in _ (show iₓ < 32 by omega) (by omega), nI_clamp (show iₓ < 2 ^ 31 by omega), m5ₓ, m6ₓ, lti_e, show (400 : Int32) = nI 400 from rfl, pk_mul, nI_add, show 400 * 0 + off gₓ iₓ = off gₓ iₓ by omega]
      rcases q2ₓ with q2ₓ | q2ₓ
      · have e0ₓ : off gₓ (iₓ + 1) = off gₓ iₓ := by rw [os, q2ₓ]; rfl
        rw [e0ₓ, if_pos rfl]
        refine ⟨1, Sₓ, T, by omega, ?_, rfl, frm.rf _ _, frm.rf _ _⟩
        show fX4_holds_8_31_10_b (fX4_holds_8_31_10 99999) Sₓ (nI (off gₓ iₓ)) (0 : Int32) (nI (off gₓ iₓ)) = _
        unfold fX4_holds_8_31_10_b fX4_holds_8_31_48 fX4_holds_8_31_62
        rw [if_pos (nI_le (Nat.le_refl _) (by omega)), if_pos rfl]
        rfl
      · have hne : ¬ off gₓ iₓ = off gₓ (iₓ + 1) := fun zₓ => by
          have : qₓ.2.length = 0 := by omega
          have : qₓ.2 = [] := List.eq_nil_of_length_eq_zero this
          rw [this] at q2ₓ
          cases q2ₓ
        obtain ⟨S', T', z1, z2, z3, z4, z5, z6⟩ := code_all (gₓ := gₓ) (l := iₓ) (eₓ := off gₓ (iₓ + 1)) (by omega) (by omega) qₓ.2 (off gₓ iₓ) FU Sₓ T [] [1] (by omega) (by unfold FU; omega) (fun jₓ hj => by
          rw [x3 _ (by omega), (m3ₓ _ (by omega)).1, (m3ₓ _ (by omega)).2, fg jₓ hj]
          exact ⟨rfl, rfl, rfl⟩) hv m6ₓ trivial (by simp) q2ₓ
        rw [if_neg (show ¬ nI (off gₓ iₓ) = nI (off gₓ (iₓ + 1)) by rw [nI_eq (by omega) (by omega)]; exact hne)]
        obtain ⟨w1ₓ, w2ₓ, -, -⟩ := z3
        have w1' : S' 12 0 = T' 20 0 := w1ₓ
        have w2' : S' 12 0 = 0 ∨ S' 12 0 = 1 := w2ₓ rfl
        have z1' : fX4_holds_8_31_10 FU Sₓ (nI (off gₓ (iₓ + 1))) 0 (nI (off gₓ iₓ)) = fX4_holds_8_31_48 S' (nI 1) := z1
        have z2' : fX8_isSo_33 FU T (nI 0) (nI iₓ) 0 (nI (off gₓ iₓ)) = (if T' 20 0 = 0 then some (nI 0, T') else some (nI 1, T')) := z2
        rw [z1', z2']
        unfold fX4_holds_8_31_48 fX4_holds_8_31_62
        rw [if_neg (show ¬ nI 1 = 0 by decide)]
        rcases w2' with wₓ | wₓ
        · refine ⟨0, S', T', by omega, ?_, ?_, z4, z5⟩
          · rw [if_pos (show S' 12 ((0 : Int32)).toNatClampNeg = 0 from wₓ)]; rfl
          · rw [if_pos (w1' ▸ wₓ)]
        · refine ⟨1, S', T', by omega, ?_, ?_, z4, z5⟩
          · rw [if_neg (show ¬ S' 12 ((0 : Int32)).toNatClampNeg = 0 by rw [show S' 12 ((0 : Int32)).toNatClampNeg = S' 12 0 from rfl, wₓ]; decide)]; rfl
          · rw [if_neg (by rw [← w1', wₓ]; decide)]
    obtain ⟨bₓ, S1, T1, b1, b2, b3, b4, b5⟩ := hh
    have stepX : fX4_choose_8_31_4 (fₓ + 1) Sₓ (nI (off gₓ iₓ)) (nI iₓ) = if nI bₓ = 0 then fX4_choose_8_31_4 fₓ S1 (nI (off gₓ (iₓ + 1))) (nI (iₓ + 1)) else some (nI qₓ.1, S1) := by
      show fX4_choose_8_31_4_b (fX4_choose_8_31_4 fₓ) Sₓ (nI (off gₓ iₓ)) (nI iₓ) = _
      unfold fX4_choose_8_31_4_b
      rw [x1ₓ, if_neg (show ¬ nI gₓ.length ≤ nI iₓ by rw [nI_leI (by omega) (by omega)]; omega), if_neg (show ¬ (16 : Int32) ≤ nI iₓ by rw [show (16 : Int32) = nI 16 from rfl, nI_leI (by omega) (by omega)]; omega), gd_in _ (show iₓ < 16 by omega) (by omega), nI_clamp (show iₓ < 2 ^ 31 by omega), x5ₓ, b2, bnd_e, gd_in _ (show iₓ < 16 by omega) (by omega), gd_in _ (show iₓ < 16 by omega) (by omega), lti_e, b4 10 (by decide), b4 9 (by decide), x5ₓ, x4ₓ, show nI iₓ + 1 = nI (iₓ + 1) from nI_add iₓ 1]
    have stepM : fX8_ruleFor_129 (fₓ + 1) T (nI iₓ) = if nI bₓ = 0 then fX8_ruleFor_129 fₓ T1 (nI (iₓ + 1)) else some (nI qₓ.1, T1) := by
      show fX8_ruleFor_129_b (fX8_ruleFor_129 fₓ) T (nI iₓ) = _
      unfold fX8_ruleFor_129_b
      rw [m1ₓ, if_neg (show ¬ nI gₓ.length ≤ nI iₓ by rw [nI_leI (by omega) (by omega)]; omega), show (0 : Int32) = nI 0 from rfl, b3, bnd_e, gd_in _ (show iₓ < 32 by omega) (by omega), nI_clamp (show iₓ < 2 ^ 31 by omega), b5 13 (by decide), m4ₓ, show nI iₓ + 1 = nI (iₓ + 1) from nI_add iₓ 1]
    rw [stepX, stepM]
    rcases (show bₓ = 0 ∨ bₓ = 1 by omega) with rfl | rfl
    · rw [if_pos (show nI 0 = 0 from rfl), if_pos (show nI 0 = 0 from rfl)]
      obtain ⟨aₓ, S', T', y1, y2, y3, y4, y5⟩ := ihₓ (iₓ + 1) fₓ S1 T1 (by omega) (by omega) (by rw [b4 8 (by decide), b4 9 (by decide), b4 10 (by decide), b4 11 (by decide)]; exact hX) (by rw [b5 0 (by decide), b5 13 (by decide), b5 14 (by decide), b5 15 (by decide), b5 16 (by decide), b5 17 (by decide)]; exact hMₓ) (fun jₓ hj => by rw [b4 31 (by decide), b5 19 (by decide)]; exact hv jₓ hj)
      exact ⟨aₓ, S', T', y1, y2, y3, b4.tr y4, b5.tr y5⟩
    · rw [if_neg (show ¬ nI 1 = 0 by decide), if_neg (show ¬ nI 1 = 0 by decide)]
      exact ⟨qₓ.1, S1, T1, q1ₓ, rfl, rfl, b4, b5⟩
theorem rule_both {Sₓ T : Mem} (hR : RRul (sl Sₓ 1) T) (hv : ∀ jₓ, jₓ < 10 → Sₓ 31 jₓ = T 19 jₓ) : ∃ aₓ S' T', aₓ ≤ 3 ∧ fX4_choose_8_31 Sₓ = some (nI aₓ, S') ∧ fX8_ruleFor_129 FU T (nI 0) = some (nI aₓ, T') ∧ frm [12] Sₓ S' ∧ frm [20] T T' := by
  obtain ⟨gₓ, g1, g2, g3ₓ, g4, g5ₓ⟩ := hR
  exact line_both g1 g2 g3ₓ gₓ.length 0 FU Sₓ T (by omega) (by unfold FU; omega) g4 g5ₓ hv
