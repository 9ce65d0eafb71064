/-! halts: from behind, as the reference does -/
def dpv (hs : Nat → Nat) (mₓ : Nat) : Nat → Nat → Nat → Nat
  | 0, left, _ => if left = 0 then 0 else 100000
  | Lₓ + 1, left, rₓ => if dpv hs mₓ Lₓ left 0 ≤ (if left = 0 ∨ rₓ = mₓ then 100000 else hs (11 - Lₓ) + dpv hs mₓ Lₓ (left - 1) (rₓ + 1)) then dpv hs mₓ Lₓ left 0 else (if left = 0 ∨ rₓ = mₓ then 100000 else hs (11 - Lₓ) + dpv hs mₓ Lₓ (left - 1) (rₓ + 1))
theorem dpv_le (hs : Nat → Nat) (mₓ : Nat) : ∀ Lₓ left rₓ, dpv hs mₓ Lₓ left rₓ ≤ 100000 := by
  intro Lₓ
  induction Lₓ with
  | zero => intro left rₓ; rw [dpv]; split <;> omega
  | succ Lₓ ihₓ =>
    intro left rₓ
    have := ihₓ left 0
    rw [dpv]
    generalize (if left = 0 ∨ rₓ = mₓ then 100000 else hs (11 - Lₓ) + dpv hs mₓ Lₓ (left - 1) (rₓ + 1)) = aₓ
    split <;> omega
def dpO (hs : Nat → Nat) (mₓ Lₓ left rₓ : Nat) : Prop := match hbest hs mₓ Lₓ left rₓ with
  | none => dpv hs mₓ Lₓ left rₓ = 100000
  | some qₓ => dpv hs mₓ Lₓ left rₓ = qₓ.1
theorem dpO_all {hs : Nat → Nat} (h9 : ∀ hₓ, hₓ < 12 → hs hₓ ≤ 9) {mₓ : Nat} : ∀ Lₓ left rₓ, Lₓ ≤ 12 → rₓ ≤ mₓ → dpO hs mₓ Lₓ left rₓ := by
  intro Lₓ
  induction Lₓ with
  | zero =>
    intro left rₓ _ _
    unfold dpO
    rw [hbest_0]
    by_cases cₓ : left = 0
    · rw [if_pos cₓ]; show dpv hs mₓ 0 left rₓ = 0; rw [dpv, if_pos cₓ]
    · rw [if_neg cₓ]; show dpv hs mₓ 0 left rₓ = 100000; rw [dpv, if_neg cₓ]
  | succ Lₓ ihₓ =>
    intro left rₓ hL hr
    have h2 := h9 (11 - Lₓ) (by omega)
    have hbB := hbest_le h9 mₓ Lₓ left 0
    have hbₓ := ihₓ left 0 (by omega) (by omega)
    unfold dpO at hbₓ ⊢
    rw [hbest_s, dpv]
    by_cases cₓ : left = 0 ∨ rₓ = mₓ
    · rw [if_pos cₓ, if_neg (show ¬ (0 < left ∧ rₓ < mₓ) by omega)]
      show match hbest hs mₓ Lₓ left 0 with | none => _ | some qₓ => _
      cases zₓ : hbest hs mₓ Lₓ left 0 with
      | none => rw [zₓ] at hbₓ; simp only at hbₓ ⊢; rw [hbₓ, if_pos (Nat.le_refl _)]
      | some qₓ =>
        rw [zₓ] at hbₓ; simp only at hbₓ ⊢
        obtain ⟨l1, -⟩ := hbB qₓ.1 qₓ.2 (by omega) zₓ
        rw [hbₓ, if_pos (by omega)]
    · rw [if_neg cₓ, if_pos (show 0 < left ∧ rₓ < mₓ by omega)]
      have haₓ := ihₓ (left - 1) (rₓ + 1) (by omega) (by omega)
      have hbA := hbest_le h9 mₓ Lₓ (left - 1) (rₓ + 1)
      unfold dpO at haₓ
      cases yₓ : hbest hs mₓ Lₓ (left - 1) (rₓ + 1) with
      | none =>
        rw [yₓ] at haₓ; simp only at haₓ
        show match hbest hs mₓ Lₓ left 0 with | none => _ | some qₓ => _
        cases zₓ : hbest hs mₓ Lₓ left 0 with
        | none =>
          rw [zₓ] at hbₓ; simp only at hbₓ ⊢
          rw [haₓ, hbₓ, if_pos (by omega)]
        | some qₓ =>
          rw [zₓ] at hbₓ; simp only at hbₓ ⊢
          obtain ⟨l1, -⟩ := hbB qₓ.1 qₓ.2 (by omega) zₓ
          rw [haₓ, hbₓ, if_pos (by omega)]
      | some wₓ =>
        rw [yₓ] at haₓ; simp only at haₓ
        obtain ⟨l2, -⟩ := hbA wₓ.1 wₓ.2 (by omega) yₓ
        show match cmb (some (hs (11 - Lₓ) + wₓ.1, 2 ^ Lₓ + wₓ.2)) (hbest hs mₓ Lₓ left 0) with | none => _ | some qₓ => _
        cases zₓ : hbest hs mₓ Lₓ left 0 with
        | none =>
          rw [zₓ] at hbₓ; simp only at hbₓ
          show _ = hs (11 - Lₓ) + wₓ.1
          rw [haₓ, hbₓ, if_neg (by omega)]
        | some qₓ =>
          rw [zₓ] at hbₓ; simp only at hbₓ
          obtain ⟨l1, -⟩ := hbB qₓ.1 qₓ.2 (by omega) zₓ
          show match (if qₓ.1 < hs (11 - Lₓ) + wₓ.1 then some qₓ else some (hs (11 - Lₓ) + wₓ.1, 2 ^ Lₓ + wₓ.2)) with | none => _ | some qₓ => _
          rw [haₓ, hbₓ]
          by_cases dₓ : qₓ.1 < hs (11 - Lₓ) + wₓ.1
          · rw [if_pos dₓ]; show _ = qₓ.1; rw [if_pos (by omega)]
          · rw [if_neg dₓ]; show _ = hs (11 - Lₓ) + wₓ.1
            by_cases eₓ : qₓ.1 ≤ hs (11 - Lₓ) + wₓ.1
            · rw [if_pos eₓ]; omega
            · rw [if_neg eₓ]
theorem dpO_n {hs : Nat → Nat} (h9 : ∀ hₓ, hₓ < 12 → hs hₓ ≤ 9) {mₓ Lₓ left rₓ : Nat} (hL : Lₓ ≤ 12) (hr : rₓ ≤ mₓ) (hₓ : hbest hs mₓ Lₓ left rₓ = none) : dpv hs mₓ Lₓ left rₓ = 100000 := by
  have zₓ := dpO_all h9 Lₓ left rₓ hL hr
  unfold dpO at zₓ
  rw [hₓ] at zₓ
  exact zₓ
theorem dpO_sm {hs : Nat → Nat} (h9 : ∀ hₓ, hₓ < 12 → hs hₓ ≤ 9) {mₓ Lₓ left rₓ : Nat} {qₓ : Nat × Nat} (hL : Lₓ ≤ 12) (hr : rₓ ≤ mₓ) (hₓ : hbest hs mₓ Lₓ left rₓ = some qₓ) : dpv hs mₓ Lₓ left rₓ = qₓ.1 := by
  have zₓ := dpO_all h9 Lₓ left rₓ hL hr
  unfold dpO at zₓ
  rw [hₓ] at zₓ
  exact zₓ
theorem hAt (T : Mem) {hₓ l kₓ : Nat} (hh : hₓ ≤ 12) (hl : l ≤ 12) (hk : kₓ ≤ 12) : fX8_heatAt T (nI hₓ) (nI l) (nI kₓ) = some (T 24 (169 * hₓ + 13 * l + kₓ), T) := by
  simp (disch := first | omega | assumption) only [fX8_heatAt, mset_ne, mset_same, upd_same, upd_ne, ltm_e, lti_e, bnd_e, fa_lit, nI_add, pk_mul, nI_clamp, gd_in, nlt0, nI_ltI, nI_leI, nI_eq, if_true, if_false, if_pos, if_neg]
/-- the table is right behind (h, left, k) -/
def TD (hs : Nat → Nat) (mₓ : Nat) (T : Mem) (hₓ left kₓ : Nat) : Prop := ∀ h' l' k', h' ≤ 12 → l' ≤ 12 → k' ≤ mₓ → (hₓ < h' ∨ (h' = hₓ ∧ (l' < left ∨ (l' = left ∧ k' < kₓ)))) → T 24 (169 * h' + 13 * l' + k') = nI (dpv hs mₓ (12 - h') l' k')
theorem TD.set {hs : Nat → Nat} {mₓ : Nat} {T : Mem} {hₓ left kₓ : Nat} (hTₓ : TD hs mₓ T hₓ left kₓ) (hh : hₓ ≤ 12) (hl : left ≤ 12) (hk : kₓ ≤ mₓ) (hmₓ : mₓ ≤ 12) : TD hs mₓ (mset T 24 (169 * hₓ + 13 * left + kₓ) (nI (dpv hs mₓ (12 - hₓ) left kₓ))) hₓ left (kₓ + 1) := by
  intro h' l' k' a1ₓ a2 a3 a4
  rw [mset_same]
  by_cases eₓ : h' = hₓ ∧ l' = left ∧ k' = kₓ
  · obtain ⟨rfl, rfl, rfl⟩ := eₓ
    rw [upd_same]
  · rw [upd_ne _ _ (by omega)]
    exact hTₓ h' l' k' a1ₓ a2 a3 (by omega)
theorem walked_M {T : Mem} {V : Vw} (hMₓ : MVw T V) {mₓ hₓ left rₓ : Nat} (hh : hₓ < 12) (hl : left ≤ 12) (hr : rₓ ≤ mₓ) (hmₓ : mₓ ≤ 12) (hTₓ : TD (fun hₓ => V.2.1 hₓ 2) mₓ T hₓ 0 0) : fX8_walked T (nI hₓ) (nI left) (nI rₓ) (nI mₓ) = some (nI (if left = 0 ∨ rₓ = mₓ then 100000 else V.2.1 hₓ 2 + dpv (fun hₓ => V.2.1 hₓ 2) mₓ (12 - (hₓ + 1)) (left - 1) (rₓ + 1)), T) := by
  by_cases c1ₓ : left = 0
  · subst c1ₓ
    rw [if_pos (Or.inl rfl)]
    simp (disch := first | omega | assumption) only [fX8_walked, fX8_walked_10, mset_ne, mset_same, upd_same, upd_ne, ltm_e, lti_e, bnd_e, fa_lit, nI_add, pk_mul, nI_clamp, gd_in, nlt0, nI_ltI, nI_leI, nI_eq, if_true, if_false, if_pos, if_neg]
  · by_cases c2ₓ : rₓ = mₓ
    · subst c2ₓ
      rw [if_pos (Or.inr rfl)]
      simp (disch := first | omega | assumption) only [fX8_walked, fX8_walked_10, mset_ne, mset_same, upd_same, upd_ne, ltm_e, lti_e, bnd_e, fa_lit, nI_add, pk_mul, nI_clamp, gd_in, nlt0, nI_ltI, nI_leI, nI_eq, if_true, if_false, if_pos, if_neg]
    · rw [if_neg (show ¬ (left = 0 ∨ rₓ = mₓ) by omega)]
      have e2ₓ := hMₓ.2.1 hₓ 2 hh (by omega)
      have e24ₓ := hTₓ (hₓ + 1) (left - 1) (rₓ + 1) (by omega) (by omega) (by omega) (Or.inl (by omega))
      have haₓ := hAt T (hₓ := hₓ + 1) (l := left - 1) (kₓ := rₓ + 1) (by omega) (by omega) (by omega)
      rw [e24ₓ] at haₓ
      simp (disch := first | omega | assumption) only [fX8_walked, pk_sub, haₓ, e2ₓ, mset_ne, mset_same, upd_same, upd_ne, ltm_e, lti_e, bnd_e, fa_lit, nI_add, pk_mul, nI_clamp, gd_in, nlt0, nI_ltI, nI_leI, nI_eq, if_true, if_false, if_pos, if_neg]
theorem dp72 {V : Vw} (hBₓ : VB V) {mₓ hₓ left : Nat} (hh : hₓ < 12) (hl : left ≤ 12) (hmₓ : mₓ ≤ 12) (k0ₓ : Mem → Int32 → Int32 → O) (k1ₓ : Mem → Int32 → Int32 → Int32 → O) : ∀ (kₓ iₓ fₓ : Nat) (T : Mem), iₓ + kₓ = mₓ + 1 → kₓ < fₓ → MVw T V → TD (fun hₓ => V.2.1 hₓ 2) mₓ T hₓ left iₓ → ∃ T', frm [24] T T' ∧ TD (fun hₓ => V.2.1 hₓ 2) mₓ T' hₓ (left + 1) 0 ∧ fX8_findsHalts_72 k0ₓ k1ₓ fₓ T (nI mₓ) (nI hₓ) (nI left) (nI iₓ) = k1ₓ T' (nI mₓ) (nI hₓ) (nI (left + 1)) := by
  intro kₓ
  induction kₓ with
  | zero =>
    intro iₓ fₓ T hiₓ hf hMₓ hTₓ
    obtain ⟨fₓ, rfl⟩ : ∃ gₓ, fₓ = gₓ + 1 := ⟨fₓ - 1, by omega⟩
    refine ⟨T, frm.rf _ _, fun h' l' k' a1ₓ a2 a3 a4 => hTₓ h' l' k' a1ₓ a2 a3 (by omega), ?_⟩
    show fX8_findsHalts_72_b k0ₓ k1ₓ (fX8_findsHalts_72 k0ₓ k1ₓ fₓ) T (nI mₓ) (nI hₓ) (nI left) (nI iₓ) = _
    unfold fX8_findsHalts_72_b
    rw [if_pos (nI_lt (by omega) (by omega)), show nI left + 1 = nI (left + 1) from nI_add left 1]
  | succ kₓ ihₓ =>
    intro iₓ fₓ T hiₓ hf hMₓ hTₓ
    obtain ⟨fₓ, rfl⟩ : ∃ gₓ, fₓ = gₓ + 1 := ⟨fₓ - 1, by omega⟩
    have wₓ := walked_M hMₓ (rₓ := iₓ) hh hl (by omega) hmₓ (fun h' l' k' a1ₓ a2 a3 a4 => hTₓ h' l' k' a1ₓ a2 a3 (by omega))
    have bₓ := hAt T (hₓ := hₓ + 1) (l := left) (kₓ := 0) (by omega) hl (by omega)
    rw [hTₓ (hₓ + 1) left 0 (by omega) hl (by omega) (Or.inl (by omega))] at bₓ
    have d1ₓ := dpv_le (fun hₓ => V.2.1 hₓ 2) mₓ (12 - (hₓ + 1)) left 0
    have hdₓ : dpv (fun hₓ => V.2.1 hₓ 2) mₓ (12 - hₓ) left iₓ = if dpv (fun hₓ => V.2.1 hₓ 2) mₓ (12 - (hₓ + 1)) left 0 ≤ (if left = 0 ∨ iₓ = mₓ then 100000 else V.2.1 hₓ 2 + dpv (fun hₓ => V.2.1 hₓ 2) mₓ (12 - (hₓ + 1)) (left - 1) (iₓ + 1)) then dpv (fun hₓ => V.2.1 hₓ 2) mₓ (12 - (hₓ + 1)) left 0 else (if left = 0 ∨ iₓ = mₓ then 100000 else V.2.1 hₓ 2 + dpv (fun hₓ => V.2.1 hₓ 2) mₓ (12 - (hₓ + 1)) (left - 1) (iₓ + 1)) := by
      rw [show 12 - hₓ = (12 - (hₓ + 1)) + 1 by omega, dpv, show 11 - (12 - (hₓ + 1)) = hₓ by omega]
    have h9 := (hBₓ.2.1 hₓ hh).2.2.1
    have d2ₓ := dpv_le (fun hₓ => V.2.1 hₓ 2) mₓ (12 - (hₓ + 1)) (left - 1) (iₓ + 1)
    have d3ₓ : (if left = 0 ∨ iₓ = mₓ then 100000 else V.2.1 hₓ 2 + dpv (fun hₓ => V.2.1 hₓ 2) mₓ (12 - (hₓ + 1)) (left - 1) (iₓ + 1)) ≤ 100009 := by
      split <;> omega
    have hT2 := hTₓ.set (by omega) hl (show iₓ ≤ mₓ by omega) hmₓ
    obtain ⟨T', t1ₓ, t2ₓ, t3ₓ⟩ := ihₓ (iₓ + 1) fₓ _ (by omega) (by omega) (hMₓ.m 24 (by omega) _) hT2
    refine ⟨T', (frm.put _ _ (by decide)).tr t1ₓ, t2ₓ, ?_⟩
    rw [← t3ₓ, hdₓ]
    show fX8_findsHalts_72_b k0ₓ k1ₓ (fX8_findsHalts_72 k0ₓ k1ₓ fₓ) T (nI mₓ) (nI hₓ) (nI left) (nI iₓ) = _
    unfold fX8_findsHalts_72_b fX8_findsHalts_131
    rw [if_neg (show ¬ nI mₓ < nI iₓ by rw [nI_ltI (by omega) (by omega)]; omega), wₓ, bnd_e, show nI hₓ + 1 = nI (hₓ + 1) from nI_add hₓ 1, show (0 : Int32) = nI 0 from rfl, bₓ, bnd_e, show (169 : Int32) = nI 169 from rfl, show (13 : Int32) = nI 13 from rfl, pk_mul, pk_mul, nI_add, nI_add, gd_in _ (show 169 * hₓ + 13 * left + iₓ < 2197 by omega) (by omega), gd_in _ (show 169 * hₓ + 13 * left + iₓ < 2197 by omega) (by omega), ltm_e, ltm_e, nI_clamp (show 169 * hₓ + 13 * left + iₓ < 2 ^ 31 by omega), show nI iₓ + 1 = nI (iₓ + 1) from nI_add iₓ 1]
    generalize (if left = 0 ∨ iₓ = mₓ then 100000 else V.2.1 hₓ 2 + dpv (fun hₓ => V.2.1 hₓ 2) mₓ (12 - (hₓ + 1)) (left - 1) (iₓ + 1)) = qₓ at d3ₓ
    generalize dpv (fun hₓ => V.2.1 hₓ 2) mₓ (12 - (hₓ + 1)) left 0 = dₓ at d1ₓ
    by_cases cₓ : dₓ ≤ qₓ
    · rw [if_pos (nI_le cₓ (by omega)), if_pos cₓ]
      rfl
    · rw [if_neg (show ¬ nI dₓ ≤ nI qₓ by rw [nI_leI (by omega) (by omega)]; exact cₓ), if_neg cₓ]
      rfl
theorem dp63 {V : Vw} (hBₓ : VB V) {mₓ hₓ : Nat} (hh : hₓ < 12) (hmₓ : mₓ ≤ 12) (k0ₓ : Mem → Int32 → Int32 → O) : ∀ (kₓ iₓ fₓ : Nat) (T : Mem), iₓ + kₓ = 13 → kₓ < fₓ → MVw T V → TD (fun hₓ => V.2.1 hₓ 2) mₓ T hₓ iₓ 0 → ∃ T', frm [24] T T' ∧ TD (fun hₓ => V.2.1 hₓ 2) mₓ T' hₓ 13 0 ∧ fX8_findsHalts_63 k0ₓ fₓ T (nI mₓ) (nI hₓ) (nI iₓ) = k0ₓ T' (nI mₓ) (nI hₓ - nI 1) := by
  intro kₓ
  induction kₓ with
  | zero =>
    intro iₓ fₓ T hiₓ hf hMₓ hTₓ
    obtain ⟨fₓ, rfl⟩ : ∃ gₓ, fₓ = gₓ + 1 := ⟨fₓ - 1, by omega⟩
    have hiₓ : iₓ = 13 := by omega
    subst hiₓ
    refine ⟨T, frm.rf _ _, hTₓ, ?_⟩
    have em : nI hₓ + (-1 : Int32) = nI hₓ - nI 1 := by
      have : (-1 : Int32) = -nI 1 := rfl
      rw [this]; exact (Int32.sub_eq_add_neg _ _).symm
    show fX8_findsHalts_63_b k0ₓ (fX8_findsHalts_63 k0ₓ fₓ) T (nI mₓ) (nI hₓ) (nI 13) = _
    unfold fX8_findsHalts_63_b
    rw [if_pos (show (12 : Int32) < nI 13 by decide), em]
  | succ kₓ ihₓ =>
    intro iₓ fₓ T hiₓ hf hMₓ hTₓ
    obtain ⟨fₓ, rfl⟩ : ∃ gₓ, fₓ = gₓ + 1 := ⟨fₓ - 1, by omega⟩
    obtain ⟨T1, s1ₓ, s2ₓ, s3ₓ⟩ := dp72 hBₓ hh (show iₓ ≤ 12 by omega) hmₓ k0ₓ (fX8_findsHalts_63 k0ₓ fₓ) (mₓ + 1) 0 FU T (by omega) (by unfold FU; omega) hMₓ hTₓ
    have hM1 : MVw T1 V := hMₓ.fr (fun cₓ hcₓ => s1ₓ cₓ (fun qₓ => hcₓ (by rw [List.mem_singleton] at qₓ; subst qₓ; decide)))
    obtain ⟨T', t1ₓ, t2ₓ, t3ₓ⟩ := ihₓ (iₓ + 1) fₓ T1 (by omega) (by omega) hM1 s2ₓ
    refine ⟨T', s1ₓ.tr t1ₓ, t2ₓ, ?_⟩
    rw [← t3ₓ, ← s3ₓ]
    show fX8_findsHalts_63_b k0ₓ (fX8_findsHalts_63 k0ₓ fₓ) T (nI mₓ) (nI hₓ) (nI iₓ) = _
    unfold fX8_findsHalts_63_b
    rw [if_neg (show ¬ (12 : Int32) < nI iₓ by rw [show (12 : Int32) = nI 12 from rfl, nI_ltI (by omega) (by omega)]; omega), show (0 : Int32) = nI 0 from rfl]
theorem dp57 {V : Vw} (hBₓ : VB V) {mₓ : Nat} (hmₓ : mₓ ≤ 12) : ∀ (jₓ fₓ : Nat) (T : Mem), jₓ ≤ 12 → jₓ < fₓ → MVw T V → (∀ h' l' k', h' ≤ 12 → l' ≤ 12 → k' ≤ mₓ → jₓ ≤ h' → T 24 (169 * h' + 13 * l' + k') = nI (dpv (fun hₓ => V.2.1 hₓ 2) mₓ (12 - h') l' k')) → ∃ T', frm [24] T T' ∧ (∀ h' l' k', h' ≤ 12 → l' ≤ 12 → k' ≤ mₓ → T' 24 (169 * h' + 13 * l' + k') = nI (dpv (fun hₓ => V.2.1 hₓ 2) mₓ (12 - h') l' k')) ∧ fX8_findsHalts_57 fₓ T (nI mₓ) (nI jₓ - nI 1) = some (nI 0, T') := by
  intro jₓ
  induction jₓ with
  | zero =>
    intro fₓ T hj hf hMₓ hTₓ
    obtain ⟨fₓ, rfl⟩ : ∃ gₓ, fₓ = gₓ + 1 := ⟨fₓ - 1, by omega⟩
    refine ⟨T, frm.rf _ _, fun h' l' k' a1ₓ a2 a3 => hTₓ h' l' k' a1ₓ a2 a3 (Nat.zero_le _), ?_⟩
    show fX8_findsHalts_57_b (fX8_findsHalts_57 fₓ) T (nI mₓ) (nI 0 - nI 1) = _
    unfold fX8_findsHalts_57_b
    rw [if_pos (show nI 0 - nI 1 < 0 by decide)]
    rfl
  | succ jₓ ihₓ =>
    intro fₓ T hj hf hMₓ hTₓ
    obtain ⟨fₓ, rfl⟩ : ∃ gₓ, fₓ = gₓ + 1 := ⟨fₓ - 1, by omega⟩
    have ek : nI (jₓ + 1) - nI 1 = nI jₓ := by rw [pk_sub (by omega)]; rfl
    obtain ⟨T1, s1ₓ, s2ₓ, s3ₓ⟩ := dp63 hBₓ (show jₓ < 12 by omega) hmₓ (fX8_findsHalts_57 fₓ) 13 0 FU T (by omega) (by unfold FU; omega) hMₓ (fun h' l' k' a1ₓ a2 a3 a4 => hTₓ h' l' k' a1ₓ a2 a3 (by omega))
    have hM1 : MVw T1 V := hMₓ.fr (fun cₓ hcₓ => s1ₓ cₓ (fun qₓ => hcₓ (by rw [List.mem_singleton] at qₓ; subst qₓ; decide)))
    obtain ⟨T', t1ₓ, t2ₓ, t3ₓ⟩ := ihₓ fₓ T1 (by omega) (by omega) hM1 (fun h' l' k' a1ₓ a2 a3 a4 => s2ₓ h' l' k' a1ₓ a2 a3 (by omega))
    refine ⟨T', s1ₓ.tr t1ₓ, t2ₓ, ?_⟩
    rw [← t3ₓ, ek, ← s3ₓ]
    show fX8_findsHalts_57_b (fX8_findsHalts_57 fₓ) T (nI mₓ) (nI jₓ) = _
    unfold fX8_findsHalts_57_b
    rw [if_neg (nlt0 (by omega)), show (0 : Int32) = nI 0 from rfl]
theorem dp10 {V : Vw} {mₓ left : Nat} (hl : left ≤ 12) (k0ₓ : Mem → Int32 → Int32 → O) : ∀ (kₓ iₓ fₓ : Nat) (T : Mem), iₓ + kₓ = 13 → kₓ < fₓ → (∀ l' k', l' ≤ 12 → k' ≤ 12 → (l' < left ∨ (l' = left ∧ k' < iₓ)) → T 24 (2028 + 13 * l' + k') = nI (if l' = 0 then 0 else 100000)) → ∃ T', frm [24] T T' ∧ (∀ l' k', l' ≤ 12 → k' ≤ 12 → l' < left + 1 → T' 24 (2028 + 13 * l' + k') = nI (if l' = 0 then 0 else 100000)) ∧ fX8_findsHalts_10 k0ₓ fₓ T (nI mₓ) (nI left) (nI iₓ) = k0ₓ T' (nI mₓ) (nI (left + 1)) := by
  intro kₓ
  induction kₓ with
  | zero =>
    intro iₓ fₓ T hiₓ hf hTₓ
    obtain ⟨fₓ, rfl⟩ : ∃ gₓ, fₓ = gₓ + 1 := ⟨fₓ - 1, by omega⟩
    have hiₓ : iₓ = 13 := by omega
    subst hiₓ
    refine ⟨T, frm.rf _ _, fun l' k' a1ₓ a2 a3 => hTₓ l' k' a1ₓ a2 (by omega), ?_⟩
    show fX8_findsHalts_10_b k0ₓ (fX8_findsHalts_10 k0ₓ fₓ) T (nI mₓ) (nI left) (nI 13) = _
    unfold fX8_findsHalts_10_b
    rw [if_pos (show (12 : Int32) < nI 13 by decide), show nI left + 1 = nI (left + 1) from nI_add left 1]
  | succ kₓ ihₓ =>
    intro iₓ fₓ T hiₓ hf hTₓ
    obtain ⟨fₓ, rfl⟩ : ∃ gₓ, fₓ = gₓ + 1 := ⟨fₓ - 1, by omega⟩
    obtain ⟨T', t1ₓ, t2ₓ, t3ₓ⟩ := ihₓ (iₓ + 1) fₓ (mset T 24 (2028 + 13 * left + iₓ) (nI (if left = 0 then 0 else 100000))) (by omega) (by omega) (fun l' k' a1ₓ a2 a3 => by
      rw [mset_same]
      by_cases eₓ : l' = left ∧ k' = iₓ
      · obtain ⟨rfl, rfl⟩ := eₓ
        rw [upd_same]
      · rw [upd_ne _ _ (by omega)]
        exact hTₓ l' k' a1ₓ a2 (by omega))
    refine ⟨T', (frm.put _ _ (by decide)).tr t1ₓ, t2ₓ, ?_⟩
    rw [← t3ₓ]
    show fX8_findsHalts_10_b k0ₓ (fX8_findsHalts_10 k0ₓ fₓ) T (nI mₓ) (nI left) (nI iₓ) = _
    unfold fX8_findsHalts_10_b fX8_findsHalts_41
    rw [if_neg (show ¬ (12 : Int32) < nI iₓ by rw [show (12 : Int32) = nI 12 from rfl, nI_ltI (by omega) (by omega)]; omega), show (2028 : Int32) = nI 2028 from rfl, show (13 : Int32) = nI 13 from rfl, pk_mul, nI_add, nI_add, gd_in _ (show 2028 + 13 * left + iₓ < 2197 by omega) (by omega), gd_in _ (show 2028 + 13 * left + iₓ < 2197 by omega) (by omega), ltm_e, ltm_e, nI_clamp (show 2028 + 13 * left + iₓ < 2 ^ 31 by omega), show nI iₓ + 1 = nI (iₓ + 1) from nI_add iₓ 1]
    by_cases cₓ : left = 0
    · rw [if_pos (show nI left = 0 by rw [cₓ]; rfl), if_pos cₓ]
      rfl
    · rw [if_neg (show ¬ nI left = 0 by rw [show (0 : Int32) = nI 0 from rfl, nI_eq (by omega) (by omega)]; exact cₓ), if_neg cₓ]
      rfl
theorem dp2 {V : Vw} (hBₓ : VB V) {mₓ : Nat} (hmₓ : mₓ ≤ 12) : ∀ (kₓ iₓ fₓ : Nat) (T : Mem), iₓ + kₓ = 13 → kₓ < fₓ → MVw T V → (∀ l' k', l' ≤ 12 → k' ≤ 12 → l' < iₓ → T 24 (2028 + 13 * l' + k') = nI (if l' = 0 then 0 else 100000)) → ∃ T', frm [24] T T' ∧ (∀ h' l' k', h' ≤ 12 → l' ≤ 12 → k' ≤ mₓ → T' 24 (169 * h' + 13 * l' + k') = nI (dpv (fun hₓ => V.2.1 hₓ 2) mₓ (12 - h') l' k')) ∧ fX8_findsHalts_2 fₓ T (nI mₓ) (nI iₓ) = some (nI 0, T') := by
  intro kₓ
  induction kₓ with
  | zero =>
    intro iₓ fₓ T hiₓ hf hMₓ hTₓ
    obtain ⟨fₓ, rfl⟩ : ∃ gₓ, fₓ = gₓ + 1 := ⟨fₓ - 1, by omega⟩
    have hiₓ : iₓ = 13 := by omega
    subst hiₓ
    obtain ⟨T', t1ₓ, t2ₓ, t3ₓ⟩ := dp57 hBₓ hmₓ 12 FU T (by omega) (by unfold FU; omega) hMₓ (fun h' l' k' a1ₓ a2 a3 a4 => by
      have eₓ : h' = 12 := by omega
      subst eₓ
      rw [show 169 * 12 + 13 * l' + k' = 2028 + 13 * l' + k' by omega, hTₓ l' k' a2 (by omega) (by omega)]
      rfl)
    refine ⟨T', t1ₓ, t2ₓ, ?_⟩
    rw [← t3ₓ]
    show fX8_findsHalts_2_b (fX8_findsHalts_2 fₓ) T (nI mₓ) (nI 13) = _
    unfold fX8_findsHalts_2_b
    rw [if_pos (show (12 : Int32) < nI 13 by decide), show nI 12 - nI 1 = (11 : Int32) by decide]
  | succ kₓ ihₓ =>
    intro iₓ fₓ T hiₓ hf hMₓ hTₓ
    obtain ⟨fₓ, rfl⟩ : ∃ gₓ, fₓ = gₓ + 1 := ⟨fₓ - 1, by omega⟩
    obtain ⟨T1, s1ₓ, s2ₓ, s3ₓ⟩ := dp10 (V := V) (mₓ := mₓ) (show iₓ ≤ 12 by omega) (fX8_findsHalts_2 fₓ) 13 0 FU T (by omega) (by unfold FU; omega) (fun l' k' a1ₓ a2 a3 => hTₓ l' k' a1ₓ a2 (by omega))
    have hM1 : MVw T1 V := hMₓ.fr (fun cₓ hcₓ => s1ₓ cₓ (fun qₓ => hcₓ (by rw [List.mem_singleton] at qₓ; subst qₓ; decide)))
    obtain ⟨T', t1ₓ, t2ₓ, t3ₓ⟩ := ihₓ (iₓ + 1) fₓ T1 (by omega) (by omega) hM1 s2ₓ
    refine ⟨T', s1ₓ.tr t1ₓ, t2ₓ, ?_⟩
    rw [← t3ₓ, ← s3ₓ]
    show fX8_findsHalts_2_b (fX8_findsHalts_2 fₓ) T (nI mₓ) (nI iₓ) = _
    unfold fX8_findsHalts_2_b
    rw [if_neg (show ¬ (12 : Int32) < nI iₓ by rw [show (12 : Int32) = nI 12 from rfl, nI_ltI (by omega) (by omega)]; omega), show (0 : Int32) = nI 0 from rfl]
theorem greedy {T : Mem} {V : Vw} (hBₓ : VB V) (hMₓ : MVw T V) {mₓ : Nat} (hmₓ : mₓ ≤ 12) (hTₓ : ∀ h' l' k', h' ≤ 12 → l' ≤ 12 → k' ≤ mₓ → T 24 (169 * h' + 13 * l' + k') = nI (dpv (fun hₓ => V.2.1 hₓ 2) mₓ (12 - h') l' k')) : ∀ (Lₓ fₓ left rₓ vₓ sₓ : Nat) (aₓ : Int32), Lₓ ≤ 12 → Lₓ < fₓ → left ≤ 12 → rₓ ≤ mₓ → hbest (fun hₓ => V.2.1 hₓ 2) mₓ Lₓ left rₓ = some (vₓ, sₓ) → fX8_halts_83 fₓ T (nI mₓ) aₓ (nI left) (nI rₓ) (nI (12 - Lₓ)) = some (orb (fun hₓ => sₓ.testBit (11 - hₓ)) Lₓ (12 - Lₓ) aₓ, T) := by
  have h9 : ∀ hₓ, hₓ < 12 → (fun hₓ => V.2.1 hₓ 2) hₓ ≤ 9 := fun hₓ hh => (hBₓ.2.1 hₓ hh).2.2.1
  intro Lₓ
  induction Lₓ with
  | zero =>
    intro fₓ left rₓ vₓ sₓ aₓ hL hf hl hr hbₓ
    obtain ⟨fₓ, rfl⟩ : ∃ gₓ, fₓ = gₓ + 1 := ⟨fₓ - 1, by omega⟩
    show fX8_halts_83_b (fX8_halts_83 fₓ) T (nI mₓ) aₓ (nI left) (nI rₓ) (nI (12 - 0)) = _
    unfold fX8_halts_83_b
    rw [if_pos (show (12 : Int32) ≤ nI (12 - 0) by decide), orb]
  | succ Lₓ ihₓ =>
    intro fₓ left rₓ vₓ sₓ aₓ hL hf hl hr hbₓ
    obtain ⟨fₓ, rfl⟩ : ∃ gₓ, fₓ = gₓ + 1 := ⟨fₓ - 1, by omega⟩
    obtain ⟨hh, ehh⟩ : ∃ hₓ, hₓ = 12 - (Lₓ + 1) := ⟨_, rfl⟩
    have eL : 12 - Lₓ = hh + 1 := by omega
    have e11ₓ : 11 - Lₓ = hh := by omega
    have e12ₓ : 11 - hh = Lₓ := by omega
    rw [← ehh]
    have hdₓ := dpO_all h9 (Lₓ + 1) left rₓ hL hr
    unfold dpO at hdₓ
    rw [hbₓ] at hdₓ
    simp only at hdₓ
    have hv := (hbest_le h9 mₓ (Lₓ + 1) left rₓ vₓ sₓ hL hbₓ).1
    -- noₓ walkₓ in this hour
    have noₓ : ∀ s', s' = sₓ → sₓ < 2 ^ Lₓ → hbest (fun hₓ => V.2.1 hₓ 2) mₓ Lₓ left 0 = some (vₓ, sₓ) → fX8_halts_123 (fX8_halts_83 fₓ) T (nI mₓ) aₓ (nI left) (nI rₓ) (nI hh) = some (orb (fun hₓ => sₓ.testBit (11 - hₓ)) (Lₓ + 1) hh aₓ, T) := by
      intro s' _ hs2 hb2
      have zₓ := ihₓ fₓ left 0 vₓ sₓ aₓ (by omega) (by omega) hl (by omega) hb2
      rw [eL] at zₓ
      unfold fX8_halts_123 fX8_halts_124 fX8_halts_139 fX8_halts_155 fX8_halts_174
      rw [if_pos rfl, if_pos rfl, if_pos rfl, show nI hh + 1 = nI (hh + 1) from nI_add hh 1, orb, e12ₓ, Nat.testBit_lt_two_pow hs2, if_neg (by simp)]
      exact zₓ
    show fX8_halts_83_b (fX8_halts_83 fₓ) T (nI mₓ) aₓ (nI left) (nI rₓ) (nI hh) = _
    unfold fX8_halts_83_b
    rw [if_neg (show ¬ (12 : Int32) ≤ nI hh by rw [show (12 : Int32) = nI 12 from rfl, nI_leI (by omega) (by omega)]; omega)]
    rw [hbest_s, e11ₓ] at hbₓ
    by_cases c1ₓ : left = 0
    · rw [if_pos (show nI left ≤ 0 by rw [le0_iff (by omega)]; exact c1ₓ)]
      rw [if_neg (show ¬ (0 < left ∧ rₓ < mₓ) by omega)] at hbₓ
      have hb2 : hbest (fun hₓ => V.2.1 hₓ 2) mₓ Lₓ left 0 = some (vₓ, sₓ) := hbₓ
      exact noₓ sₓ rfl (hbest_le h9 mₓ Lₓ left 0 vₓ sₓ (by omega) hb2).2 hb2
    · rw [if_neg (show ¬ nI left ≤ 0 by rw [le0_iff (by omega)]; exact c1ₓ)]
      have wₓ := walked_M hMₓ (hₓ := hh) (rₓ := rₓ) (by omega) hl hr hmₓ (fun h' l' k' a1ₓ a2 a3 a4 => hTₓ h' l' k' a1ₓ a2 a3)
      have dₓ := hAt T (hₓ := hh) (l := left) (kₓ := rₓ) (by omega) hl (by omega)
      rw [hTₓ hh left rₓ (by omega) hl hr, show 12 - hh = Lₓ + 1 by omega, hdₓ] at dₓ
      rw [show 12 - (hh + 1) = Lₓ by omega] at wₓ
      rw [wₓ, bnd_e, dₓ, bnd_e]
      by_cases c2ₓ : rₓ = mₓ
      · rw [if_pos (Or.inr c2ₓ), if_neg (show ¬ nI 100000 = nI vₓ by rw [nI_eq (by omega) (by omega)]; omega)]
        rw [if_neg (show ¬ (0 < left ∧ rₓ < mₓ) by omega)] at hbₓ
        have hb2 : hbest (fun hₓ => V.2.1 hₓ 2) mₓ Lₓ left 0 = some (vₓ, sₓ) := hbₓ
        exact noₓ sₓ rfl (hbest_le h9 mₓ Lₓ left 0 vₓ sₓ (by omega) hb2).2 hb2
      · rw [if_neg (show ¬ (left = 0 ∨ rₓ = mₓ) by omega)]
        rw [if_pos (show 0 < left ∧ rₓ < mₓ by omega)] at hbₓ
        have h2 : V.2.1 hh 2 ≤ 9 := h9 hh (by omega)
        have haₓ := dpO_all h9 Lₓ (left - 1) (rₓ + 1) (by omega) (show rₓ + 1 ≤ mₓ by omega)
        unfold dpO at haₓ
        cases yₓ : hbest (fun hₓ => V.2.1 hₓ 2) mₓ Lₓ (left - 1) (rₓ + 1) with
        | none =>
          rw [yₓ] at haₓ hbₓ
          simp only at haₓ
          have hb2 : hbest (fun hₓ => V.2.1 hₓ 2) mₓ Lₓ left 0 = some (vₓ, sₓ) := hbₓ
          rw [haₓ, if_neg (show ¬ nI (V.2.1 hh 2 + 100000) = nI vₓ by rw [nI_eq (by omega) (by omega)]; omega)]
          exact noₓ sₓ rfl (hbest_le h9 mₓ Lₓ left 0 vₓ sₓ (by omega) hb2).2 hb2
        | some qₓ =>
          rw [yₓ] at haₓ hbₓ
          simp only at haₓ
          have hq := hbest_le h9 mₓ Lₓ (left - 1) (rₓ + 1) qₓ.1 qₓ.2 (by omega) yₓ
          have yesₓ : vₓ = V.2.1 hh 2 + qₓ.1 → sₓ = 2 ^ Lₓ + qₓ.2 → (if nI (V.2.1 hh 2 + dpv (fun hₓ => V.2.1 hₓ 2) mₓ Lₓ (left - 1) (rₓ + 1)) = nI vₓ then fX8_halts_124 (fX8_halts_83 fₓ) T (nI mₓ) aₓ (nI left) (nI rₓ) (nI hh) (1 : Int32) else fX8_halts_123 (fX8_halts_83 fₓ) T (nI mₓ) aₓ (nI left) (nI rₓ) (nI hh)) = some (orb (fun hₓ => sₓ.testBit (11 - hₓ)) (Lₓ + 1) hh aₓ, T) := by
            intro evₓ es
            rw [haₓ, if_pos (show nI (V.2.1 hh 2 + qₓ.1) = nI vₓ by rw [evₓ])]
            have zₓ := ihₓ fₓ (left - 1) (rₓ + 1) qₓ.1 qₓ.2 (aₓ ||| one hh) (by omega) (by omega) (by omega) (by omega) yₓ
            rw [eL] at zₓ
            unfold fX8_halts_124 fX8_halts_139 fX8_halts_155 fX8_halts_174
            rw [if_neg (show ¬ (1 : Int32) = 0 by decide), if_neg (show ¬ (1 : Int32) = 0 by decide), if_neg (show ¬ (1 : Int32) = 0 by decide), show nI hh + 1 = nI (hh + 1) from nI_add hh 1, show nI rₓ + 1 = nI (rₓ + 1) from nI_add rₓ 1, show (1 : Int32) = nI 1 from rfl, pk_sub (show 1 ≤ left by omega), orb, e12ₓ, es, tb_L hq.2, if_pos rfl, orb_cg (gₓ := fun hₓ => qₓ.2.testBit (11 - hₓ)) Lₓ (hh + 1) _ (fun jₓ j1 j2ₓ => tb_lo (by omega))]
            exact zₓ
          cases zₓ : hbest (fun hₓ => V.2.1 hₓ 2) mₓ Lₓ left 0 with
          | none =>
            rw [zₓ] at hbₓ
            cases hbₓ
            exact yesₓ rfl rfl
          | some xₓ =>
            rw [zₓ] at hbₓ
            have hb3 : (if xₓ.1 < V.2.1 hh 2 + qₓ.1 then some xₓ else some (V.2.1 hh 2 + qₓ.1, 2 ^ Lₓ + qₓ.2)) = some (vₓ, sₓ) := hbₓ
            by_cases c3ₓ : xₓ.1 < V.2.1 hh 2 + qₓ.1
            · rw [if_pos c3ₓ] at hb3
              cases hb3
              rw [haₓ, if_neg (show ¬ nI (V.2.1 hh 2 + qₓ.1) = nI vₓ by
                have c4ₓ : vₓ < V.2.1 hh 2 + qₓ.1 := c3ₓ
                rw [nI_eq (by omega) (by omega)]; omega)]
              exact noₓ sₓ rfl (hbest_le h9 mₓ Lₓ left 0 vₓ sₓ (by omega) zₓ).2 zₓ
            · rw [if_neg c3ₓ] at hb3
              cases hb3
              exact yesₓ rfl rfl
theorem fld_P {Gₓ : Nat → Hp} {Qₓ : Nat × Nat → Prop} : ∀ kₓ aₓ, (∀ qₓ, aₓ = some qₓ → Qₓ qₓ) → (∀ sₓ qₓ, sₓ < kₓ → Gₓ sₓ = some qₓ → Qₓ qₓ) → ∀ qₓ, fldₓ Gₓ kₓ aₓ = some qₓ → Qₓ qₓ := by
  intro kₓ
  induction kₓ with
  | zero => intro aₓ hₓ _; exact hₓ
  | succ kₓ ihₓ =>
    intro aₓ hₓ gₓ
    refine ihₓ _ (fun qₓ hq => ?_) (fun sₓ qₓ hs => gₓ sₓ qₓ (by omega))
    cases aₓ with
    | none => exact gₓ kₓ qₓ (by omega) hq
    | some xₓ =>
      cases yₓ : Gₓ kₓ with
      | none => rw [yₓ] at hq; exact hₓ qₓ hq
      | some zₓ =>
        rw [yₓ] at hq
        have hq2 : (if zₓ.1 < xₓ.1 then some zₓ else some xₓ) = some qₓ := hq
        by_cases cₓ : zₓ.1 < xₓ.1
        · rw [if_pos cₓ] at hq2; exact gₓ kₓ qₓ (by omega) (yₓ.trans hq2)
        · rw [if_neg cₓ] at hq2; exact hₓ qₓ hq2
theorem sim_halts (xₓ yₓ wₓ : Int32) : Sim RR (fun Sₓ => fX7_halts Sₓ xₓ yₓ wₓ) (fun T => fX8_halts T xₓ yₓ wₓ) := by
  intro Sₓ T hR
  rcases ixC xₓ (show 13 < 2 ^ 31 by omega) with ⟨nₓ, hn, rfl⟩ | gₓ | gₓ
  · rcases ixC yₓ (show 13 < 2 ^ 31 by omega) with ⟨mₓ, hmₓ, rfl⟩ | gₓ | gₓ
    · by_cases m0ₓ : mₓ = 0
      · subst m0ₓ
        exact ⟨-nI 1, Sₓ, mset T 0 0 (nI 0), by simp (disch := first | omega | assumption) only [fX7_halts, mset_ne, mset_same, upd_same, upd_ne, ltm_e, lti_e, bnd_e, fa_lit, nI_add, pk_mul, nI_clamp, gd_in, nlt0, nI_ltI, nI_leI, nI_eq, if_true, if_false, if_pos, if_neg], by simp (disch := first | omega | assumption) only [fX8_halts, fX8_isIn, mset_ne, mset_same, upd_same, upd_ne, ltm_e, lti_e, bnd_e, fa_lit, nI_add, pk_mul, nI_clamp, gd_in, nlt0, nI_ltI, nI_leI, nI_eq, if_true, if_false, if_pos, if_neg], hR.told 0⟩
      · rcases ixC wₓ (show 2 < 2 ^ 31 by omega) with ⟨wh, hwh, rfl⟩ | gₓ | gₓ
        · obtain ⟨V, tₓ, hBₓ, hX, hMₓ, -⟩ := hR.vw
          have h9 : ∀ hₓ, hₓ < 12 → (fun hₓ => V.2.1 hₓ 2) hₓ ≤ 9 := fun hₓ hh => (hBₓ.2.1 hₓ hh).2.2.1
          obtain ⟨rₓ, r1ₓ, h', r2⟩ := cool_loop hBₓ hX (show nₓ ≤ 12 by omega) (show 1 ≤ mₓ ∧ mₓ ≤ 12 by omega) 4096 FU none (-nI 1) (nI 0) (by omega) (by unfold FU; omega) ⟨fun _ => rfl, fun qₓ hq => by cases hq⟩ (fun qₓ hq => by cases hq)
          have r1' : fX5_coolestHours Sₓ (nI nₓ) (nI mₓ) = some (rₓ, Sₓ) := r1ₓ
          obtain ⟨T', t1ₓ, t2ₓ, t3ₓ⟩ := dp2 hBₓ (show mₓ ≤ 12 by omega) 13 0 FU (mset T 0 0 (nI 0)) (by omega) (by unfold FU; omega) hMₓ (fun l' k' a1ₓ a2 a3 => absurd a3 (by omega))
          have t3' : fX8_findsHalts (mset T 0 0 (nI 0)) (nI mₓ) = some (nI 0, T') := t3ₓ
          have tf : frm scM (mset T 0 0 (nI 0)) T' := fun cₓ hcₓ => t1ₓ cₓ (fun qₓ => hcₓ (by rw [List.mem_singleton] at qₓ; subst qₓ; decide))
          have hM' := hMₓ.fr tf
          have hR' : RR Sₓ T' := hR.fr (frm.rf _ _) tf
          have haₓ := hAt T' (hₓ := 0) (l := nₓ) (kₓ := 0) (by omega) (by omega) (by omega)
          rw [t2ₓ 0 nₓ 0 (by omega) (by omega) (by omega)] at haₓ
          have hbe : fldₓ (hev (fun hₓ => V.2.1 hₓ 2) mₓ 12 nₓ 0) 4096 none = hbest (fun hₓ => V.2.1 hₓ 2) mₓ 12 nₓ 0 := by
            unfold hbest
            rw [show (2 ^ 12 : Nat) = 4096 from rfl]
          rw [hbe] at r2
          have hP := fld_P (Gₓ := hev (fun hₓ => V.2.1 hₓ 2) mₓ 12 nₓ 0) (Qₓ := fun qₓ => qₓ.1 = hht (fun hₓ => V.2.1 hₓ 2) 12 qₓ.2) 4096 none (fun qₓ hq => by cases hq) (fun sₓ qₓ hs hq => by
            unfold hev at hq
            by_cases cₓ : hrun mₓ 12 sₓ 0 = true ∧ hpop 12 sₓ = nₓ
            · rw [if_pos cₓ] at hq; cases hq; rfl
            · rw [if_neg cₓ] at hq; cases hq)
          rw [hbe] at hP
          have e120ₓ : (12 - 0) = 12 := rfl
          rw [e120ₓ] at haₓ
          cases zₓ : hbest (fun hₓ => V.2.1 hₓ 2) mₓ 12 nₓ 0 with
          | none =>
            have hdₓ := dpO_n h9 (show 12 ≤ 12 by omega) (show 0 ≤ mₓ by omega) zₓ
            have r3 : rₓ = -nI 1 := r2.1 zₓ
            rw [hdₓ] at haₓ
            refine ⟨-nI 1, Sₓ, T', ?_, ?_, hR'⟩
            · subst r3
              clear r1ₓ hP hbe t3ₓ t2ₓ haₓ hdₓ zₓ hM' hX
              rcases (show wh = 0 ∨ wh = 1 by omega) with rfl | rfl
              · simp (disch := first | omega | assumption) only [fX7_halts, fX7_halts_54, r1', mset_ne, mset_same, upd_same, upd_ne, ltm_e, lti_e, bnd_e, fa_lit, nI_add, pk_mul, nI_clamp, gd_in, nlt0, nI_ltI, nI_leI, nI_eq, if_true, if_false, if_pos, if_neg]
              · simp (disch := first | omega | assumption) only [fX7_halts, fX7_halts_54, r1', mset_ne, mset_same, upd_same, upd_ne, ltm_e, lti_e, bnd_e, fa_lit, nI_add, pk_mul, nI_clamp, gd_in, nlt0, nI_ltI, nI_leI, nI_eq, if_true, if_false, if_pos, if_neg]
            · clear r1ₓ hP hbe t3ₓ t2ₓ hdₓ zₓ hM' hX r1'
              rcases (show wh = 0 ∨ wh = 1 by omega) with rfl | rfl
              · simp (disch := first | omega | assumption) only [fX8_halts, fX8_isIn, t3', haₓ, mset_ne, mset_same, upd_same, upd_ne, ltm_e, lti_e, bnd_e, fa_lit, nI_add, pk_mul, nI_clamp, gd_in, nlt0, nI_ltI, nI_leI, nI_eq, if_true, if_false, if_pos, if_neg]
              · simp (disch := first | omega | assumption) only [fX8_halts, fX8_isIn, t3', haₓ, mset_ne, mset_same, upd_same, upd_ne, ltm_e, lti_e, bnd_e, fa_lit, nI_add, pk_mul, nI_clamp, gd_in, nlt0, nI_ltI, nI_leI, nI_eq, if_true, if_false, if_pos, if_neg]
          | some qₓ =>
            have hdₓ := dpO_sm h9 (show 12 ≤ 12 by omega) (show 0 ≤ mₓ by omega) zₓ
            obtain ⟨r3, r4⟩ : rₓ = hset qₓ.2 ∧ h' = nI qₓ.1 := r2.2 qₓ zₓ
            have hq := hbest_le h9 mₓ 12 nₓ 0 qₓ.1 qₓ.2 (by omega) zₓ
            have hq2 : qₓ.1 = hht (fun hₓ => V.2.1 hₓ 2) 12 qₓ.2 := hP qₓ zₓ
            have hg := greedy hBₓ hM' (show mₓ ≤ 12 by omega) t2ₓ 12 FU nₓ 0 qₓ.1 qₓ.2 (nI 0) (by omega) (by unfold FU; omega) (by omega) (by omega) zₓ
            have hg' : fX8_halts_83 FU T' (nI mₓ) (nI 0) (nI nₓ) (nI 0) (nI 0) = some (hset qₓ.2, T') := hg
            have ht := heat_X hX (sₓ := qₓ.2) 12 0 FU 0 (by omega) (by unfold FU; omega)
            rw [Nat.zero_add, ← hq2] at ht
            have ht' : fX5_heatOf Sₓ (hset qₓ.2) = some (nI qₓ.1, Sₓ) := ht
            have np : ¬ hset qₓ.2 = -nI 1 := hset_pos qₓ.2
            rw [hdₓ] at haₓ
            subst r3
            rcases (show wh = 0 ∨ wh = 1 by omega) with rfl | rfl
            · refine ⟨nI qₓ.1, Sₓ, T', ?_, ?_, hR'⟩
              · clear r1ₓ hP hbe t3ₓ t2ₓ haₓ hdₓ zₓ hM' hX hg hg' ht hq2 r4
                simp (disch := first | omega | assumption) only [fX7_halts, fX7_halts_54, r1', np, ht', mset_ne, mset_same, upd_same, upd_ne, ltm_e, lti_e, bnd_e, fa_lit, nI_add, pk_mul, nI_clamp, gd_in, nlt0, nI_ltI, nI_leI, nI_eq, if_true, if_false, if_pos, if_neg]
              · clear r1ₓ hP hbe t3ₓ t2ₓ hdₓ zₓ hM' hX r1' hg hg' ht ht' hq2 r4
                simp (disch := first | omega | assumption) only [fX8_halts, fX8_isIn, t3', haₓ, mset_ne, mset_same, upd_same, upd_ne, ltm_e, lti_e, bnd_e, fa_lit, nI_add, pk_mul, nI_clamp, gd_in, nlt0, nI_ltI, nI_leI, nI_eq, if_true, if_false, if_pos, if_neg]
            · refine ⟨hset qₓ.2, Sₓ, T', ?_, ?_, hR'⟩
              · clear r1ₓ hP hbe t3ₓ t2ₓ haₓ hdₓ zₓ hM' hX hg hg' ht hq2 r4
                simp (disch := first | omega | assumption) only [fX7_halts, fX7_halts_54, r1', mset_ne, mset_same, upd_same, upd_ne, ltm_e, lti_e, bnd_e, fa_lit, nI_add, pk_mul, nI_clamp, gd_in, nlt0, nI_ltI, nI_leI, nI_eq, if_true, if_false, if_pos, if_neg]
              · clear r1ₓ hP hbe t3ₓ t2ₓ hdₓ zₓ hM' hX r1' hg ht ht' hq2 r4
                simp (disch := first | omega | assumption) only [fX8_halts, fX8_isIn, t3', haₓ, hg', mset_ne, mset_same, upd_same, upd_ne, ltm_e, lti_e, bnd_e, fa_lit, nI_add, pk_mul, nI_clamp, gd_in, nlt0, nI_ltI, nI_leI, nI_eq, if_true, if_false, if_pos, if_neg]
        · exact ⟨-nI 1, Sₓ, mset T 0 0 (nI 0), by simp (disch := first | omega | assumption) only [fX7_halts, lo1 gₓ, lo2 gₓ, lo3 gₓ, lo4 gₓ, lo5 gₓ, mset_ne, mset_same, upd_same, upd_ne, ltm_e, lti_e, bnd_e, fa_lit, nI_add, pk_mul, nI_clamp, gd_in, nlt0, nI_ltI, nI_leI, nI_eq, if_true, if_false, if_pos, if_neg], by simp (disch := first | omega | assumption) only [fX8_halts, fX8_isIn, lo1 gₓ, lo2 gₓ, lo3 gₓ, lo4 gₓ, lo5 gₓ, mset_ne, mset_same, upd_same, upd_ne, ltm_e, lti_e, bnd_e, fa_lit, nI_add, pk_mul, nI_clamp, gd_in, nlt0, nI_ltI, nI_leI, nI_eq, if_true, if_false, if_pos, if_neg], hR.told 0⟩
        · exact ⟨-nI 1, Sₓ, mset T 0 0 (nI 0), by simp (disch := first | omega | assumption) only [fX7_halts, hi1 gₓ, hi2 gₓ, hi3 gₓ, hi4 gₓ, hi5 gₓ, mset_ne, mset_same, upd_same, upd_ne, ltm_e, lti_e, bnd_e, fa_lit, nI_add, pk_mul, nI_clamp, gd_in, nlt0, nI_ltI, nI_leI, nI_eq, if_true, if_false, if_pos, if_neg], by simp (disch := first | omega | assumption) only [fX8_halts, fX8_isIn, hi1 gₓ, hi2 gₓ, hi3 gₓ, hi4 gₓ, hi5 gₓ, mset_ne, mset_same, upd_same, upd_ne, ltm_e, lti_e, bnd_e, fa_lit, nI_add, pk_mul, nI_clamp, gd_in, nlt0, nI_ltI, nI_leI, nI_eq, if_true, if_false, if_pos, if_neg], hR.told 0⟩
    · exact ⟨-nI 1, Sₓ, mset T 0 0 (nI 0), by simp (disch := first | omega | assumption) only [fX7_halts, lo1 gₓ, lo2 gₓ, lo3 gₓ, lo4 gₓ, lo5 gₓ, mset_ne, mset_same, upd_same, upd_ne, ltm_e, lti_e, bnd_e, fa_lit, nI_add, pk_mul, nI_clamp, gd_in, nlt0, nI_ltI, nI_leI, nI_eq, if_true, if_false, if_pos, if_neg], by simp (disch := first | omega | assumption) only [fX8_halts, fX8_isIn, lo1 gₓ, lo2 gₓ, lo3 gₓ, lo4 gₓ, lo5 gₓ, mset_ne, mset_same, upd_same, upd_ne, ltm_e, lti_e, bnd_e, fa_lit, nI_add, pk_mul, nI_clamp, gd_in, nlt0, nI_ltI, nI_leI, nI_eq, if_true, if_false, if_pos, if_neg], hR.told 0⟩
    · exact ⟨-nI 1, Sₓ, mset T 0 0 (nI 0), by simp (disch := first | omega | assumption) only [fX7_halts, hi1 gₓ, hi2 gₓ, hi3 gₓ, hi4 gₓ, hi5 gₓ, mset_ne, mset_same, upd_same, upd_ne, ltm_e, lti_e, bnd_e, fa_lit, nI_add, pk_mul, nI_clamp, gd_in, nlt0, nI_ltI, nI_leI, nI_eq, if_true, if_false, if_pos, if_neg], by simp (disch := first | omega | assumption) only [fX8_halts, fX8_isIn, hi1 gₓ, hi2 gₓ, hi3 gₓ, hi4 gₓ, hi5 gₓ, mset_ne, mset_same, upd_same, upd_ne, ltm_e, lti_e, bnd_e, fa_lit, nI_add, pk_mul, nI_clamp, gd_in, nlt0, nI_ltI, nI_leI, nI_eq, if_true, if_false, if_pos, if_neg], hR.told 0⟩
  · exact ⟨-nI 1, Sₓ, mset T 0 0 (nI 0), by simp (disch := first | omega | assumption) only [fX7_halts, lo1 gₓ, lo2 gₓ, lo3 gₓ, lo4 gₓ, lo5 gₓ, mset_ne, mset_same, upd_same, upd_ne, ltm_e, lti_e, bnd_e, fa_lit, nI_add, pk_mul, nI_clamp, gd_in, nlt0, nI_ltI, nI_leI, nI_eq, if_true, if_false, if_pos, if_neg], by simp (disch := first | omega | assumption) only [fX8_halts, fX8_isIn, lo1 gₓ, lo2 gₓ, lo3 gₓ, lo4 gₓ, lo5 gₓ, mset_ne, mset_same, upd_same, upd_ne, ltm_e, lti_e, bnd_e, fa_lit, nI_add, pk_mul, nI_clamp, gd_in, nlt0, nI_ltI, nI_leI, nI_eq, if_true, if_false, if_pos, if_neg], hR.told 0⟩
  · exact ⟨-nI 1, Sₓ, mset T 0 0 (nI 0), by simp (disch := first | omega | assumption) only [fX7_halts, hi1 gₓ, hi2 gₓ, hi3 gₓ, hi4 gₓ, hi5 gₓ, mset_ne, mset_same, upd_same, upd_ne, ltm_e, lti_e, bnd_e, fa_lit, nI_add, pk_mul, nI_clamp, gd_in, nlt0, nI_ltI, nI_leI, nI_eq, if_true, if_false, if_pos, if_neg], by simp (disch := first | omega | assumption) only [fX8_halts, fX8_isIn, hi1 gₓ, hi2 gₓ, hi3 gₓ, hi4 gₓ, hi5 gₓ, mset_ne, mset_same, upd_same, upd_ne, ltm_e, lti_e, bnd_e, fa_lit, nI_add, pk_mul, nI_clamp, gd_in, nlt0, nI_ltI, nI_leI, nI_eq, if_true, if_false, if_pos, if_neg], hR.told 0⟩
