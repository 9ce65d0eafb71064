/-! text: the reference's words; numbers; signs -/
theorem m1p (xₓ : Int32) : xₓ - nI 1 + 1 = xₓ := by
  have : (1 : Int32) = nI 1 := rfl
  rw [this]; grind
theorem word_M1 {nₓ : Nat} {bₓ : Nat → Nat} {Sₓ T : Mem} (hₓ : Tp nₓ bₓ Sₓ T) {pₓ eₓ sₓ tₓ numₓ : Nat} (hpe : pₓ < eₓ) (hen : eₓ ≤ nₓ) (hl : ∀ jₓ, pₓ ≤ jₓ → jₓ < eₓ → isLt (bₓ jₓ) = true) (o2 : sₓ < tₓ) (o3ₓ : tₓ < 93) (o4ₓ : wch tₓ = 32) (o5ₓ : ∀ jₓ, sₓ ≤ jₓ → jₓ < tₓ → wch jₓ ≠ 32) (k0ₓ : Mem → Int32 → Int32 → Int32 → Int32 → O) : ∀ (kₓ iₓ fₓ : Nat), iₓ + kₓ = eₓ - pₓ → kₓ < fₓ → (∀ jₓ, jₓ < iₓ → wch (sₓ + jₓ) = bₓ (pₓ + jₓ)) → fX8_wordAt_19 k0ₓ fₓ T (nI pₓ) (nI eₓ) (nI numₓ) (nI sₓ) (nI iₓ) = if mtₓ bₓ pₓ eₓ sₓ tₓ = true then some (nI numₓ, T) else fX8_wordAt_87 k0ₓ T (nI pₓ) (nI eₓ) (nI numₓ) (nI sₓ) := by
  have hn := hₓ.1
  have nb : ∀ jₓ, pₓ ≤ jₓ → jₓ < eₓ → bₓ jₓ ≠ 32 := fun jₓ h1 h2 qₓ => by
    have := hl jₓ h1 h2
    rw [qₓ] at this
    exact absurd this (by decide)
  have le : ∀ iₓ, iₓ ≤ eₓ - pₓ → (∀ jₓ, jₓ < iₓ → wch (sₓ + jₓ) = bₓ (pₓ + jₓ)) → sₓ + iₓ ≤ tₓ := fun iₓ hiₓ hj => by
    rcases Nat.lt_or_ge tₓ (sₓ + iₓ) with qₓ | qₓ
    · have := hj (tₓ - sₓ) (by omega)
      rw [show sₓ + (tₓ - sₓ) = tₓ by omega, o4ₓ] at this
      exact absurd this.symm (nb (pₓ + (tₓ - sₓ)) (by omega) (by omega))
    · exact qₓ
  have t12 : ∀ jₓ, jₓ < 93 → T 12 (jₓ + 1) = nI (wch jₓ) := fun jₓ hj => (hₓ.2.2.2.2 (jₓ + 1) (by omega)).trans (wch_M jₓ hj)
  intro kₓ
  induction kₓ with
  | zero =>
    intro iₓ fₓ hiₓ hf hj
    obtain ⟨fₓ, rfl⟩ : ∃ gₓ, fₓ = gₓ + 1 := ⟨fₓ - 1, by omega⟩
    have hle := le iₓ (by omega) hj
    have hw := (wch_X (sₓ + iₓ) (by omega)).2.2
    show fX8_wordAt_19_b k0ₓ (fX8_wordAt_19 k0ₓ fₓ) T (nI pₓ) (nI eₓ) (nI numₓ) (nI sₓ) (nI iₓ) = _
    unfold fX8_wordAt_19_b fX8_wordAt_60
    rw [nI_add, if_pos (show nI eₓ ≤ nI (pₓ + iₓ) from nI_le (by omega) (by omega)), if_pos (show nI (pₓ + iₓ) = nI eₓ by congr 1; omega), show nI sₓ + 1 = nI (sₓ + 1) from nI_add sₓ 1, nI_add, gd_in _ (show sₓ + 1 + iₓ < 94 by omega) (by omega), nI_clamp (show sₓ + 1 + iₓ < 2 ^ 31 by omega), show sₓ + 1 + iₓ = (sₓ + iₓ) + 1 by omega, t12 (sₓ + iₓ) (by omega)]
    by_cases cₓ : sₓ + iₓ = tₓ
    · rw [if_pos (show nI (wch (sₓ + iₓ)) = 32 by rw [cₓ, o4ₓ]; rfl), if_pos ((mt_iff bₓ pₓ eₓ sₓ tₓ).2 ⟨by omega, fun jₓ hj2 => hj jₓ (by omega)⟩)]
    · rw [if_neg (show ¬ nI (wch (sₓ + iₓ)) = 32 by rw [show (32 : Int32) = nI 32 from rfl, nI_eq (by omega) (by omega)]; exact o5ₓ (sₓ + iₓ) (by omega) (by omega)), if_neg (fun qₓ => by have := ((mt_iff bₓ pₓ eₓ sₓ tₓ).1 qₓ).1; omega)]
  | succ kₓ ihₓ =>
    intro iₓ fₓ hiₓ hf hj
    obtain ⟨fₓ, rfl⟩ : ∃ gₓ, fₓ = gₓ + 1 := ⟨fₓ - 1, by omega⟩
    have hle := le iₓ (by omega) hj
    have hw := (wch_X (sₓ + iₓ) (by omega)).2.2
    obtain ⟨-, tbₓ, h256⟩ := hₓ.2.2.2.1 (pₓ + iₓ) (by omega)
    show fX8_wordAt_19_b k0ₓ (fX8_wordAt_19 k0ₓ fₓ) T (nI pₓ) (nI eₓ) (nI numₓ) (nI sₓ) (nI iₓ) = _
    unfold fX8_wordAt_19_b fX8_wordAt_60
    rw [nI_add, if_neg (show ¬ nI eₓ ≤ nI (pₓ + iₓ) by rw [nI_leI (by omega) (by omega)]; omega), show nI sₓ + 1 = nI (sₓ + 1) from nI_add sₓ 1, nI_add, gd_in _ (show sₓ + 1 + iₓ < 94 by omega) (by omega), gd_in _ (show pₓ + iₓ < 400 by omega) (by omega), nI_clamp (show sₓ + 1 + iₓ < 2 ^ 31 by omega), nI_clamp (show pₓ + iₓ < 2 ^ 31 by omega), show sₓ + 1 + iₓ = (sₓ + iₓ) + 1 by omega, t12 (sₓ + iₓ) (by omega), tbₓ, lti_e, show nI iₓ + 1 = nI (iₓ + 1) from nI_add iₓ 1]
    by_cases cₓ : wch (sₓ + iₓ) = bₓ (pₓ + iₓ)
    · rw [if_pos (show nI (wch (sₓ + iₓ)) = nI (bₓ (pₓ + iₓ)) by rw [cₓ])]
      refine ihₓ (iₓ + 1) fₓ (by omega) (by omega) (fun jₓ hj2 => ?_)
      by_cases zₓ : jₓ = iₓ
      · rw [zₓ]; exact cₓ
      · exact hj jₓ (by omega)
    · rw [if_neg (show ¬ nI (wch (sₓ + iₓ)) = nI (bₓ (pₓ + iₓ)) by rw [nI_eq (by omega) (by omega)]; exact cₓ), if_neg (show ¬ nI (pₓ + iₓ) = nI eₓ by rw [nI_eq (by omega) (by omega)]; omega), if_neg (fun qₓ => cₓ (((mt_iff bₓ pₓ eₓ sₓ tₓ).1 qₓ).2 iₓ (by omega)))]
theorem word_M2 {nₓ : Nat} {bₓ : Nat → Nat} {Sₓ T : Mem} (hₓ : Tp nₓ bₓ Sₓ T) {sₓ tₓ : Nat} (x1ₓ x2ₓ x3 : Int32) (o2 : sₓ < tₓ) (o3ₓ : tₓ < 93) (o4ₓ : wch tₓ = 32) (o5ₓ : ∀ jₓ, sₓ ≤ jₓ → jₓ < tₓ → wch jₓ ≠ 32) (k0ₓ : Mem → Int32 → Int32 → Int32 → Int32 → O) : fX8_wordAt_87 k0ₓ T x1ₓ x2ₓ x3 (nI sₓ) = k0ₓ T x1ₓ x2ₓ x3 (nI (tₓ + 1)) := by
  have t12 : ∀ jₓ, jₓ < 93 → T 12 (jₓ + 1) = nI (wch jₓ) := fun jₓ hj => (hₓ.2.2.2.2 (jₓ + 1) (by omega)).trans (wch_M jₓ hj)
  have keyₓ : ∀ (kₓ iₓ fₓ : Nat), iₓ + kₓ = tₓ → sₓ ≤ iₓ → kₓ < fₓ → fX8_wordAt_93 k0ₓ fₓ T x1ₓ x2ₓ x3 (nI (iₓ + 1)) = k0ₓ T x1ₓ x2ₓ x3 (nI (tₓ + 1)) := by
    intro kₓ
    induction kₓ with
    | zero =>
      intro iₓ fₓ hiₓ hs hf
      obtain ⟨fₓ, rfl⟩ : ∃ gₓ, fₓ = gₓ + 1 := ⟨fₓ - 1, by omega⟩
      have hiₓ : iₓ = tₓ := by omega
      subst hiₓ
      show fX8_wordAt_93_b k0ₓ (fX8_wordAt_93 k0ₓ fₓ) T x1ₓ x2ₓ x3 (nI (iₓ + 1)) = _
      unfold fX8_wordAt_93_b
      rw [gd_in _ (show iₓ + 1 < 94 by omega) (by omega), nI_clamp (show iₓ + 1 < 2 ^ 31 by omega), t12 iₓ (by omega), if_pos (show nI (wch iₓ) = 32 by rw [o4ₓ]; rfl)]
    | succ kₓ ihₓ =>
      intro iₓ fₓ hiₓ hs hf
      obtain ⟨fₓ, rfl⟩ : ∃ gₓ, fₓ = gₓ + 1 := ⟨fₓ - 1, by omega⟩
      have hw := (wch_X iₓ (by omega)).2.2
      show fX8_wordAt_93_b k0ₓ (fX8_wordAt_93 k0ₓ fₓ) T x1ₓ x2ₓ x3 (nI (iₓ + 1)) = _
      unfold fX8_wordAt_93_b
      rw [gd_in _ (show iₓ + 1 < 94 by omega) (by omega), nI_clamp (show iₓ + 1 < 2 ^ 31 by omega), t12 iₓ (by omega), if_neg (show ¬ nI (wch iₓ) = 32 by rw [show (32 : Int32) = nI 32 from rfl, nI_eq (by omega) (by omega)]; exact o5ₓ iₓ hs (by omega)), lti_e, show nI (iₓ + 1) + 1 = nI (iₓ + 1 + 1) from nI_add (iₓ + 1) 1]
      exact ihₓ (iₓ + 1) fₓ (by omega) (by omega) (by omega)
  unfold fX8_wordAt_87
  rw [lti_e, show nI sₓ + 1 = nI (sₓ + 1) from nI_add sₓ 1]
  exact keyₓ (tₓ - sₓ) sₓ FU (by omega) (Nat.le_refl sₓ) (by unfold FU; omega)
def oI (xₓ : Option Nat) : Int32 := match xₓ with
  | none => -nI 1
  | some wₓ => nI wₓ
theorem words_M {nₓ : Nat} {bₓ : Nat → Nat} {Sₓ T : Mem} (hₓ : Tp nₓ bₓ Sₓ T) {pₓ eₓ : Nat} (hpe : pₓ < eₓ) (hen : eₓ ≤ nₓ) (hl : ∀ jₓ, pₓ ≤ jₓ → jₓ < eₓ → isLt (bₓ jₓ) = true) : ∀ (l : List (Nat × Nat)) (sₓ numₓ fₓ : Nat), wOk l sₓ = true → l.length < fₓ → fX8_wordAt_5 fₓ T (nI pₓ) (nI eₓ) (nI numₓ - nI 1) (nI sₓ) = some (oI (mR bₓ pₓ eₓ l numₓ), T) := by
  have hn := hₓ.1
  intro l
  induction l with
  | nil =>
    intro sₓ numₓ fₓ ho hf
    obtain ⟨fₓ, rfl⟩ : ∃ gₓ, fₓ = gₓ + 1 := ⟨fₓ - 1, by omega⟩
    have hs : sₓ = 93 := of_decide_eq_true ho
    subst hs
    show fX8_wordAt_5_b (fX8_wordAt_5 fₓ) T (nI pₓ) (nI eₓ) (nI numₓ - nI 1) (nI 93) = _
    unfold fX8_wordAt_5_b
    rw [if_pos (show (93 : Int32) ≤ nI 93 by decide), mR]
    rfl
  | cons qₓ l ihₓ =>
    intro sₓ numₓ fₓ ho hf
    obtain ⟨fₓ, rfl⟩ : ∃ gₓ, fₓ = gₓ + 1 := ⟨fₓ - 1, by omega⟩
    rw [List.length_cons] at hf
    rw [wOk, Bool.and_eq_true, Bool.and_eq_true, decide_eq_true_eq, List.all_eq_true] at ho
    obtain ⟨⟨⟨o1, o2, o3ₓ, o4ₓ⟩, o5ₓ⟩, o6⟩ := ho
    have o5' : ∀ jₓ, qₓ.1 ≤ jₓ → jₓ < qₓ.2 → wch jₓ ≠ 32 := fun jₓ h1 h2 => by
      have := of_decide_eq_true (o5ₓ (jₓ - qₓ.1) (List.mem_range.mpr (by omega)))
      rw [show qₓ.1 + (jₓ - qₓ.1) = jₓ by omega] at this
      exact this
    subst o1
    have z1 := word_M1 hₓ (numₓ := numₓ) hpe hen hl o2 o3ₓ o4ₓ o5' (fX8_wordAt_5 fₓ) (eₓ - pₓ) 0 FU (by omega) (by unfold FU; omega) (fun jₓ hj => absurd hj (by omega))
    have z2 := word_M2 hₓ (nI pₓ) (nI eₓ) (nI numₓ) o2 o3ₓ o4ₓ o5' (fX8_wordAt_5 fₓ)
    have z3 := ihₓ (qₓ.2 + 1) (numₓ + 1) fₓ o6 (by omega)
    rw [show nI (numₓ + 1) - nI 1 = nI numₓ by rw [pk_sub (by omega)]; rfl] at z3
    show fX8_wordAt_5_b (fX8_wordAt_5 fₓ) T (nI pₓ) (nI eₓ) (nI numₓ - nI 1) (nI qₓ.1) = _
    unfold fX8_wordAt_5_b
    rw [if_neg (show ¬ (93 : Int32) ≤ nI qₓ.1 by rw [show (93 : Int32) = nI 93 from rfl, nI_leI (by omega) (by omega)]; omega), lti_e, m1p, show (0 : Int32) = nI 0 from rfl, z1, z2, z3, mR]
    by_cases cₓ : mtₓ bₓ pₓ eₓ qₓ.1 qₓ.2 = true
    · rw [if_pos cₓ, if_pos cₓ]; rfl
    · rw [if_neg cₓ, if_neg cₓ]
/-! the runs of letters and digits -/
theorem lets_X {nₓ : Nat} {bₓ : Nat → Nat} {T : Mem} : ∀ (kₓ iₓ fₓ : Nat) (Sₓ : Mem), Tp nₓ bₓ Sₓ T → iₓ + kₓ = nₓ → kₓ < fₓ → fX3_scanWord_0 fₓ (atXₓ Sₓ iₓ) = fX3_scanWord_38 (atXₓ Sₓ (rn isLt bₓ kₓ iₓ)) := by
  intro kₓ
  induction kₓ with
  | zero =>
    intro iₓ fₓ Sₓ hₓ hiₓ hf
    obtain ⟨fₓ, rfl⟩ : ∃ gₓ, fₓ = gₓ + 1 := ⟨fₓ - 1, by omega⟩
    have e1ₓ := (hₓ.aX iₓ).2.1
    have hn := hₓ.1
    show fX3_scanWord_0_b (fX3_scanWord_0 fₓ) (atXₓ Sₓ iₓ) = _
    unfold fX3_scanWord_0_b
    rw [e1ₓ, atX_5, if_pos (nI_le (by omega) (by omega)), rn]
  | succ kₓ ihₓ =>
    intro iₓ fₓ Sₓ hₓ hiₓ hf
    obtain ⟨fₓ, rfl⟩ : ∃ gₓ, fₓ = gₓ + 1 := ⟨fₓ - 1, by omega⟩
    have e1ₓ := (hₓ.aX iₓ).2.1
    have hn := hₓ.1
    have hbₓ := byte_X (hₓ.aX iₓ) (show iₓ < nₓ by omega)
    have h256 := (hₓ.2.2.2.1 iₓ (by omega)).2.2
    have stepₓ : mset (atXₓ Sₓ iₓ) 38 5 (atXₓ Sₓ iₓ 38 5 + 1) = atXₓ Sₓ (iₓ + 1) := by
      rw [atX_5, show nI iₓ + 1 = nI (iₓ + 1) from nI_add iₓ 1]; exact atX_at Sₓ iₓ (iₓ + 1)
    show fX3_scanWord_0_b (fX3_scanWord_0 fₓ) (atXₓ Sₓ iₓ) = _
    unfold fX3_scanWord_0_b
    rw [e1ₓ, atX_5, if_neg (show ¬ nI nₓ ≤ nI iₓ by rw [nI_leI (by omega) (by omega)]; omega), hbₓ, bnd_e, let_X _ h256, bnd_e, ltm_e, stepₓ, rn]
    by_cases cₓ : isLt (bₓ iₓ) = true
    · rw [if_pos cₓ, if_pos cₓ, if_neg (show ¬ nI 1 = 0 by decide)]
      exact ihₓ (iₓ + 1) fₓ Sₓ hₓ (by omega) (by omega)
    · rw [if_neg cₓ, if_neg cₓ, if_pos (show nI 0 = 0 from rfl)]
def wdT (Sₓ : Mem) : O := bnd (fX8_wordAt Sₓ (Sₓ 0 18) (Sₓ 0 17)) fun r_6 S_7 => ltm (mset S_7 0 20 r_6) fun S_8 => (if (S_8 0 20) = (-1 : Int32) then some ((0 : Int32), S_8) else ltm (mset S_8 0 19 (2 : Int32)) fun S_10 => some ((0 : Int32), S_10))
theorem lets_M {nₓ : Nat} {bₓ : Nat → Nat} {Sₓ : Mem} : ∀ (kₓ iₓ fₓ : Nat) (T : Mem), Tp nₓ bₓ Sₓ T → iₓ + kₓ = nₓ → kₓ < fₓ → fX8_reads_95 fₓ (atM T iₓ) = wdT (atM T (rn isLt bₓ kₓ iₓ)) := by
  intro kₓ
  induction kₓ with
  | zero =>
    intro iₓ fₓ T hₓ hiₓ hf
    obtain ⟨fₓ, rfl⟩ : ∃ gₓ, fₓ = gₓ + 1 := ⟨fₓ - 1, by omega⟩
    have hn := hₓ.1
    have hbₓ := raw_no (hₓ.aM iₓ) (show nₓ ≤ iₓ by omega) (by omega)
    show fX8_reads_95_b (fX8_reads_95 fₓ) (atM T iₓ) = _
    unfold fX8_reads_95_b
    rw [atM_17, hbₓ, bnd_e, let_no, bnd_e, if_pos (show nI 0 = 0 from rfl), rn]
    rfl
  | succ kₓ ihₓ =>
    intro iₓ fₓ T hₓ hiₓ hf
    obtain ⟨fₓ, rfl⟩ : ∃ gₓ, fₓ = gₓ + 1 := ⟨fₓ - 1, by omega⟩
    have hn := hₓ.1
    have hbₓ := raw_M (hₓ.aM iₓ) (show iₓ < nₓ by omega)
    have h256 := (hₓ.2.2.2.1 iₓ (by omega)).2.2
    have stepₓ : mset (atM T iₓ) 0 17 (atM T iₓ 0 17 + 1) = atM T (iₓ + 1) := by
      rw [atM_17, show nI iₓ + 1 = nI (iₓ + 1) from nI_add iₓ 1]; exact atM_at T iₓ (iₓ + 1)
    show fX8_reads_95_b (fX8_reads_95 fₓ) (atM T iₓ) = _
    unfold fX8_reads_95_b
    rw [atM_17, hbₓ, bnd_e, let_M _ h256, bnd_e, ltm_e, stepₓ]
    by_cases cₓ : isLt (bₓ iₓ) = true
    · rw [if_pos cₓ, if_neg (show ¬ nI 1 = 0 by decide), rn, if_pos cₓ]
      exact ihₓ (iₓ + 1) fₓ T hₓ (by omega) (by omega)
    · rw [if_neg cₓ, if_pos (show nI 0 = 0 from rfl), rn, if_neg cₓ]
      rfl
/-- a number so far -/
def nuX (Sₓ : Mem) (iₓ : Nat) (vₓ : Int32) : Mem := mset (mset Sₓ 38 8 vₓ) 38 5 (nI iₓ)
def nuM (T : Mem) (iₓ : Nat) (vₓ : Int32) : Mem := mset (mset T 0 20 vₓ) 0 17 (nI iₓ)
theorem nuX_n (Sₓ : Mem) (iₓ jₓ : Nat) (vₓ wₓ : Int32) : mset (mset (nuX Sₓ iₓ vₓ) 38 8 wₓ) 38 5 (nI jₓ) = nuX Sₓ jₓ wₓ := by
  unfold nuX
  funext cₓ kₓ
  rw [ms_at, ms_at, ms_at, ms_at, ms_at, ms_at]
  by_cases zₓ : cₓ = 38 ∧ kₓ = 5
  · rw [if_pos zₓ, if_pos zₓ]
  · rw [if_neg zₓ, if_neg zₓ, if_neg zₓ]
    by_cases z2 : cₓ = 38 ∧ kₓ = 8
    · rw [if_pos z2, if_pos z2]
    · rw [if_neg z2, if_neg z2, if_neg z2]
theorem nuM_n (T : Mem) (iₓ jₓ : Nat) (vₓ wₓ : Int32) : mset (mset (nuM T iₓ vₓ) 0 20 wₓ) 0 17 (nI jₓ) = nuM T jₓ wₓ := by
  unfold nuM
  funext cₓ kₓ
  rw [ms_at, ms_at, ms_at, ms_at, ms_at, ms_at]
  by_cases zₓ : cₓ = 0 ∧ kₓ = 17
  · rw [if_pos zₓ, if_pos zₓ]
  · rw [if_neg zₓ, if_neg zₓ, if_neg zₓ]
    by_cases z2 : cₓ = 0 ∧ kₓ = 20
    · rw [if_pos z2, if_pos z2]
    · rw [if_neg z2, if_neg z2, if_neg z2]
theorem nuX_5 (Sₓ : Mem) (iₓ : Nat) (vₓ : Int32) : nuX Sₓ iₓ vₓ 38 5 = nI iₓ := by unfold nuX; rw [ms_at, if_pos ⟨rfl, rfl⟩]
theorem nuX_8 (Sₓ : Mem) (iₓ : Nat) (vₓ : Int32) : nuX Sₓ iₓ vₓ 38 8 = vₓ := by unfold nuX; rw [ms_at, if_neg (by omega), ms_at, if_pos ⟨rfl, rfl⟩]
theorem nuX_o (Sₓ : Mem) (iₓ : Nat) (vₓ : Int32) {jₓ : Nat} (h5 : jₓ ≠ 5) (h8 : jₓ ≠ 8) : nuX Sₓ iₓ vₓ 38 jₓ = Sₓ 38 jₓ := by unfold nuX; rw [ms_at, if_neg (by omega), ms_at, if_neg (by omega)]
theorem nuX_c (Sₓ : Mem) (iₓ : Nat) (vₓ : Int32) {cₓ : Nat} (hₓ : cₓ ≠ 38) : nuX Sₓ iₓ vₓ cₓ = Sₓ cₓ := by unfold nuX; rw [mset_ne _ _ _ hₓ, mset_ne _ _ _ hₓ]
theorem nuM_17 (T : Mem) (iₓ : Nat) (vₓ : Int32) : nuM T iₓ vₓ 0 17 = nI iₓ := by unfold nuM; rw [ms_at, if_pos ⟨rfl, rfl⟩]
theorem nuM_20 (T : Mem) (iₓ : Nat) (vₓ : Int32) : nuM T iₓ vₓ 0 20 = vₓ := by unfold nuM; rw [ms_at, if_neg (by omega), ms_at, if_pos ⟨rfl, rfl⟩]
theorem nuM_o (T : Mem) (iₓ : Nat) (vₓ : Int32) {jₓ : Nat} (h5 : jₓ ≠ 17) (h8 : jₓ ≠ 20) : nuM T iₓ vₓ 0 jₓ = T 0 jₓ := by unfold nuM; rw [ms_at, if_neg (by omega), ms_at, if_neg (by omega)]
theorem nuM_c (T : Mem) (iₓ : Nat) (vₓ : Int32) {cₓ : Nat} (hₓ : cₓ ≠ 0) : nuM T iₓ vₓ cₓ = T cₓ := by unfold nuM; rw [mset_ne _ _ _ hₓ, mset_ne _ _ _ hₓ]
theorem Tp.nX {nₓ : Nat} {bₓ : Nat → Nat} {Sₓ T : Mem} (hₓ : Tp nₓ bₓ Sₓ T) (iₓ : Nat) (vₓ : Int32) : Tp nₓ bₓ (nuX Sₓ iₓ vₓ) T := hₓ.x (nuX_o Sₓ iₓ vₓ (by omega) (by omega)) (nuX_c Sₓ iₓ vₓ (by omega))
theorem Tp.nM {nₓ : Nat} {bₓ : Nat → Nat} {Sₓ T : Mem} (hₓ : Tp nₓ bₓ Sₓ T) (iₓ : Nat) (vₓ : Int32) : Tp nₓ bₓ Sₓ (nuM T iₓ vₓ) := hₓ.m (nuM_o T iₓ vₓ (by omega) (by omega)) (nuM_c T iₓ vₓ (by omega)) (nuM_c T iₓ vₓ (by omega))
def nvX (bₓ : Nat → Nat) : Nat → Nat → Int32 → Int32
  | 0, _, vₓ => vₓ
  | kₓ + 1, iₓ, vₓ => if isDg (bₓ iₓ) = true then nvX bₓ kₓ (iₓ + 1) (vₓ * nI 10 + nI (bₓ iₓ) - nI 48) else vₓ
def nvM (bₓ : Nat → Nat) : Nat → Nat → Int32 → Int32
  | 0, _, vₓ => vₓ
  | kₓ + 1, iₓ, vₓ => if isDg (bₓ iₓ) = true then nvM bₓ kₓ (iₓ + 1) (if nI 10000 ≤ vₓ then vₓ else nI 10 * vₓ + nI (bₓ iₓ) - nI 48) else vₓ
def dv (bₓ : Nat → Nat) : Nat → Nat → Nat → Nat
  | 0, _, vₓ => vₓ
  | kₓ + 1, iₓ, vₓ => if isDg (bₓ iₓ) = true then dv bₓ kₓ (iₓ + 1) (10 * vₓ + (bₓ iₓ - 48)) else vₓ
theorem digs_X {nₓ : Nat} {bₓ : Nat → Nat} {T : Mem} : ∀ (kₓ iₓ fₓ : Nat) (Sₓ : Mem) (vₓ : Int32), Tp nₓ bₓ Sₓ T → iₓ + kₓ = nₓ → kₓ < fₓ → fX3_scanNumber_5 fₓ (nuX Sₓ iₓ vₓ) = fX3_scanNumber_66 (nuX Sₓ (rn isDg bₓ kₓ iₓ) (nvX bₓ kₓ iₓ vₓ)) := by
  intro kₓ
  induction kₓ with
  | zero =>
    intro iₓ fₓ Sₓ vₓ hₓ hiₓ hf
    obtain ⟨fₓ, rfl⟩ : ∃ gₓ, fₓ = gₓ + 1 := ⟨fₓ - 1, by omega⟩
    have e1ₓ := (hₓ.nX iₓ vₓ).2.1
    have hn := hₓ.1
    show fX3_scanNumber_5_b (fX3_scanNumber_5 fₓ) (nuX Sₓ iₓ vₓ) = _
    unfold fX3_scanNumber_5_b
    rw [e1ₓ, nuX_5, if_pos (nI_le (by omega) (by omega)), rn, nvX]
  | succ kₓ ihₓ =>
    intro iₓ fₓ Sₓ vₓ hₓ hiₓ hf
    obtain ⟨fₓ, rfl⟩ : ∃ gₓ, fₓ = gₓ + 1 := ⟨fₓ - 1, by omega⟩
    have e1ₓ := (hₓ.nX iₓ vₓ).2.1
    have hn := hₓ.1
    have hbₓ := byte_X (hₓ.nX iₓ vₓ) (show iₓ < nₓ by omega)
    have h256 := (hₓ.2.2.2.1 iₓ (by omega)).2.2
    show fX3_scanNumber_5_b (fX3_scanNumber_5 fₓ) (nuX Sₓ iₓ vₓ) = _
    unfold fX3_scanNumber_5_b
    rw [e1ₓ, nuX_5, if_neg (show ¬ nI nₓ ≤ nI iₓ by rw [nI_leI (by omega) (by omega)]; omega), hbₓ, bnd_e, dig_X _ h256, bnd_e]
    by_cases cₓ : isDg (bₓ iₓ) = true
    · have stepₓ : mset (mset (nuX Sₓ iₓ vₓ) 38 8 (vₓ * 10 + nI (bₓ iₓ) - 48)) 38 5 ((mset (nuX Sₓ iₓ vₓ) 38 8 (vₓ * 10 + nI (bₓ iₓ) - 48)) 38 5 + 1) = nuX Sₓ (iₓ + 1) (vₓ * nI 10 + nI (bₓ iₓ) - nI 48) := by
        rw [ms_at, if_neg (by omega), nuX_5, show nI iₓ + 1 = nI (iₓ + 1) from nI_add iₓ 1]
        exact nuX_n Sₓ iₓ (iₓ + 1) vₓ _
      rw [if_pos cₓ, if_neg (show ¬ nI 1 = 0 by decide), nuX_5, hbₓ, bnd_e, nuX_8, ltm_e, ltm_e, stepₓ, rn, if_pos cₓ, nvX, if_pos cₓ]
      exact ihₓ (iₓ + 1) fₓ Sₓ _ hₓ (by omega) (by omega)
    · rw [if_neg cₓ, if_pos (show nI 0 = 0 from rfl), rn, if_neg cₓ, nvX, if_neg cₓ]
theorem digs_M {nₓ : Nat} {bₓ : Nat → Nat} {Sₓ : Mem} : ∀ (kₓ iₓ fₓ : Nat) (T : Mem) (vₓ : Int32), Tp nₓ bₓ Sₓ T → iₓ + kₓ = nₓ → kₓ < fₓ → fX8_reads_171 fₓ (nuM T iₓ vₓ) = (if (5 : Int32) ≤ nI (rn isDg bₓ kₓ iₓ) - T 0 18 then some ((0 : Int32), nuM T (rn isDg bₓ kₓ iₓ) (nvM bₓ kₓ iₓ vₓ)) else some ((0 : Int32), mset (nuM T (rn isDg bₓ kₓ iₓ) (nvM bₓ kₓ iₓ vₓ)) 0 19 (3 : Int32))) := by
  intro kₓ
  induction kₓ with
  | zero =>
    intro iₓ fₓ T vₓ hₓ hiₓ hf
    obtain ⟨fₓ, rfl⟩ : ∃ gₓ, fₓ = gₓ + 1 := ⟨fₓ - 1, by omega⟩
    have hn := hₓ.1
    have hbₓ := raw_no (hₓ.nM iₓ vₓ) (show nₓ ≤ iₓ by omega) (by omega)
    show fX8_reads_171_b (fX8_reads_171 fₓ) (nuM T iₓ vₓ) = _
    unfold fX8_reads_171_b
    rw [nuM_17, hbₓ, bnd_e, dig_no, bnd_e, if_pos (show nI 0 = 0 from rfl), nuM_17, nuM_o _ _ _ (by omega) (by omega), ltm_e, rn, nvM]
  | succ kₓ ihₓ =>
    intro iₓ fₓ T vₓ hₓ hiₓ hf
    obtain ⟨fₓ, rfl⟩ : ∃ gₓ, fₓ = gₓ + 1 := ⟨fₓ - 1, by omega⟩
    have hn := hₓ.1
    have hbₓ := raw_M (hₓ.nM iₓ vₓ) (show iₓ < nₓ by omega)
    have h256 := (hₓ.2.2.2.1 iₓ (by omega)).2.2
    have stepₓ : ∀ wₓ : Int32, fX8_reads_223 (fX8_reads_171 fₓ) (nuM T iₓ vₓ) wₓ = fX8_reads_171 fₓ (nuM T (iₓ + 1) wₓ) := fun wₓ => by
      unfold fX8_reads_223
      rw [ltm_e, ltm_e, ms_at, if_neg (by omega), nuM_17, show nI iₓ + 1 = nI (iₓ + 1) from nI_add iₓ 1, nuM_n]
    show fX8_reads_171_b (fX8_reads_171 fₓ) (nuM T iₓ vₓ) = _
    unfold fX8_reads_171_b
    rw [nuM_17, hbₓ, bnd_e, dig_M _ h256, bnd_e]
    by_cases cₓ : isDg (bₓ iₓ) = true
    · rw [if_pos cₓ, if_neg (show ¬ nI 1 = 0 by decide), nuM_20, nuM_17, hbₓ, bnd_e, stepₓ, stepₓ, rn, if_pos cₓ, nvM, if_pos cₓ]
      by_cases c2ₓ : nI 10000 ≤ vₓ
      · rw [if_pos (show (10000 : Int32) ≤ vₓ from c2ₓ), if_pos c2ₓ]
        exact ihₓ (iₓ + 1) fₓ T _ hₓ (by omega) (by omega)
      · rw [if_neg (show ¬ (10000 : Int32) ≤ vₓ from c2ₓ), if_neg c2ₓ]
        exact ihₓ (iₓ + 1) fₓ T _ hₓ (by omega) (by omega)
    · rw [if_neg cₓ, if_pos (show nI 0 = 0 from rfl), nuM_17, nuM_o _ _ _ (by omega) (by omega), ltm_e, rn, if_neg cₓ, nvM, if_neg cₓ]
theorem dv_eq (bₓ : Nat → Nat) : ∀ (kₓ iₓ vₓ jₓ : Nat), vₓ < 10 ^ jₓ → jₓ + (rn isDg bₓ kₓ iₓ - iₓ) ≤ 4 → nvX bₓ kₓ iₓ (nI vₓ) = nI (dv bₓ kₓ iₓ vₓ) ∧ nvM bₓ kₓ iₓ (nI vₓ) = nI (dv bₓ kₓ iₓ vₓ) ∧ dv bₓ kₓ iₓ vₓ < 10000 := by
  intro kₓ
  induction kₓ with
  | zero =>
    intro iₓ vₓ jₓ hv hj
    have : 10 ^ jₓ ≤ 10 ^ 4 := Nat.pow_le_pow_right (by omega) (by omega)
    exact ⟨rfl, rfl, by rw [dv]; omega⟩
  | succ kₓ ihₓ =>
    intro iₓ vₓ jₓ hv hj
    have hj4 : jₓ ≤ 4 := by omega
    have hp4 : 10 ^ jₓ ≤ 10 ^ 4 := Nat.pow_le_pow_right (by omega) hj4
    rw [rn] at hj
    rw [nvX, nvM, dv]
    by_cases cₓ : isDg (bₓ iₓ) = true
    · have hdₓ : 48 ≤ bₓ iₓ ∧ bₓ iₓ ≤ 57 := of_decide_eq_true cₓ
      rw [if_pos cₓ] at hj ⊢
      have hr := (rn_le isDg bₓ kₓ (iₓ + 1)).1
      have e1ₓ : nI vₓ * nI 10 + nI (bₓ iₓ) - nI 48 = nI (10 * vₓ + (bₓ iₓ - 48)) := by
        rw [pk_mul, nI_add, pk_sub (by omega)]; congr 1; omega
      have e2ₓ : nI 10 * nI vₓ + nI (bₓ iₓ) - nI 48 = nI (10 * vₓ + (bₓ iₓ - 48)) := by
        rw [pk_mul, nI_add, pk_sub (by omega)]; congr 1; omega
      rw [if_pos cₓ, if_pos cₓ, if_neg (show ¬ nI 10000 ≤ nI vₓ by rw [nI_leI (by omega) (by omega)]; omega), e1ₓ, e2ₓ]
      exact ihₓ (iₓ + 1) (10 * vₓ + (bₓ iₓ - 48)) (jₓ + 1) (by rw [Nat.pow_succ]; omega) (by omega)
    · rw [if_neg cₓ, if_neg cₓ, if_neg cₓ]
      exact ⟨rfl, rfl, by omega⟩
/-! signs -/
def sgl : List Nat := [59, 43, 45, 42, 47, 40, 41, 60, 61, 62]
def sgx (cₓ : Nat) : Nat := if cₓ = 59 then 0 else if cₓ = 43 then 1 else if cₓ = 45 then 2 else if cₓ = 42 then 3 else if cₓ = 47 then 4 else if cₓ = 40 then 5 else if cₓ = 41 then 6 else if cₓ = 60 then 7 else if cₓ = 61 then 8 else if cₓ = 62 then 9 else 99
theorem sg_get : ∀ cₓ, cₓ < 256 → sgx cₓ ≠ 99 → sgx cₓ < 10 ∧ sgl.getD (sgx cₓ) 0 = cₓ := by decide +kernel
def ixL (x4ₓ : Int32) : Nat → Nat → Int32
  | 0, _ => -1
  | kₓ + 1, iₓ => if (byS 1).getD iₓ 0 = x4ₓ then nI iₓ else ixL x4ₓ kₓ (iₓ + 1)
theorem ix_X (Sₓ : Mem) (x4ₓ : Int32) : ∀ (kₓ iₓ fₓ : Nat), iₓ + kₓ = 10 → kₓ < fₓ → fJ1_indexOfChar_v1_7 fₓ Sₓ (nI 10) x4ₓ (nI iₓ) = some (ixL x4ₓ kₓ iₓ, Sₓ) := by
  intro kₓ
  induction kₓ with
  | zero =>
    intro iₓ fₓ hiₓ hf
    obtain ⟨fₓ, rfl⟩ : ∃ gₓ, fₓ = gₓ + 1 := ⟨fₓ - 1, by omega⟩
    show fJ1_indexOfChar_v1_7_b (fJ1_indexOfChar_v1_7 fₓ) Sₓ (nI 10) x4ₓ (nI iₓ) = _
    unfold fJ1_indexOfChar_v1_7_b
    rw [if_pos (nI_le (by omega) (by omega)), ixL]
  | succ kₓ ihₓ =>
    intro iₓ fₓ hiₓ hf
    obtain ⟨fₓ, rfl⟩ : ∃ gₓ, fₓ = gₓ + 1 := ⟨fₓ - 1, by omega⟩
    show fJ1_indexOfChar_v1_7_b (fJ1_indexOfChar_v1_7 fₓ) Sₓ (nI 10) x4ₓ (nI iₓ) = _
    unfold fJ1_indexOfChar_v1_7_b
    rw [if_neg (show ¬ nI 10 ≤ nI iₓ by rw [nI_leI (by omega) (by omega)]; omega), gd_in _ (show iₓ < 10 by omega) (by omega), nI_clamp (show iₓ < 2 ^ 31 by omega), ixL, show nI iₓ + 1 = nI (iₓ + 1) from nI_add iₓ 1]
    by_cases cₓ : (byS 1).getD iₓ 0 = x4ₓ
    · rw [if_pos cₓ, if_pos cₓ]
    · rw [if_neg cₓ, if_neg cₓ]
      exact ihₓ (iₓ + 1) fₓ (by omega) (by omega)
theorem ixL_e : ∀ cₓ, cₓ < 256 → i2c (nI cₓ) = nI cₓ ∧ ixL ((nI cₓ).toInt8.toInt32) 10 0 = if sgx cₓ = 99 then -1 else nI (sgx cₓ) := by decide +kernel
theorem sign_X (Sₓ : Mem) {cₓ : Nat} (hcₓ : cₓ < 256) : fJ0_indexOf1_s1 Sₓ (i2c (nI cₓ)) = some (if sgx cₓ = 99 then -1 else nI (sgx cₓ), Sₓ) := by
  obtain ⟨h1, h2⟩ := ixL_e cₓ hcₓ
  have hx := ix_X Sₓ ((nI cₓ).toInt8.toInt32) 10 0 FU (by omega) (by unfold FU; omega)
  have i0ₓ : imax (nI 0) (nI 0) = nI 0 := by decide
  have i1ₓ : imin (nI 10) (nI 10) = nI 10 := by decide
  rw [h2] at hx
  rw [h1]
  simp (disch := first | omega | assumption) only [fJ0_indexOf1_s1, fJ0_indexOf2_s1, fJ1_indexOf_v1, fJ1_canEncode, fJ1_indexOfChar_v1, i0ₓ, i1ₓ, hx, mset_ne, mset_same, upd_same, upd_ne, ltm_e, lti_e, bnd_e, fa_lit, nI_add, pk_mul, nI_clamp, gd_in, nlt0, nI_ltI, nI_leI, nI_eq, if_true, if_false, if_pos, if_neg]
theorem sign_M (Sₓ : Mem) {cₓ : Nat} (hcₓ : cₓ < 256) : fX8_isMarkSign Sₓ (nI cₓ) = some (if sgx cₓ = 99 then nI 0 else nI 1, Sₓ) := by
  unfold fX8_isMarkSign fX8_isMarkSign_60 sgx
  have kₓ : ∀ mₓ : Nat, mₓ < 256 → ((nI cₓ = nI mₓ) ↔ cₓ = mₓ) := fun mₓ hmₓ => nI_eq (by omega) (by omega)
  rw [show (59 : Int32) = nI 59 from rfl, show (43 : Int32) = nI 43 from rfl, show (45 : Int32) = nI 45 from rfl, show (42 : Int32) = nI 42 from rfl, show (47 : Int32) = nI 47 from rfl, show (40 : Int32) = nI 40 from rfl, show (41 : Int32) = nI 41 from rfl, show (60 : Int32) = nI 60 from rfl, show (61 : Int32) = nI 61 from rfl, show (62 : Int32) = nI 62 from rfl]
  simp only [kₓ 59 (by omega), kₓ 43 (by omega), kₓ 45 (by omega), kₓ 42 (by omega), kₓ 47 (by omega), kₓ 40 (by omega), kₓ 41 (by omega), kₓ 60 (by omega), kₓ 61 (by omega), kₓ 62 (by omega)]
  by_cases h0 : cₓ = 59
  · simp only [if_pos h0]; rfl
  · by_cases h1 : cₓ = 43
    · simp only [if_neg h0, if_pos h1]; rfl
    · by_cases h2 : cₓ = 45
      · simp only [if_neg h0, if_neg h1, if_pos h2]; rfl
      · by_cases h3 : cₓ = 42
        · simp only [if_neg h0, if_neg h1, if_neg h2, if_pos h3]; rfl
        · by_cases h4 : cₓ = 47
          · simp only [if_neg h0, if_neg h1, if_neg h2, if_neg h3, if_pos h4]; rfl
          · by_cases h5 : cₓ = 40
            · simp only [if_neg h0, if_neg h1, if_neg h2, if_neg h3, if_neg h4, if_pos h5]; rfl
            · by_cases h6 : cₓ = 41
              · simp only [if_neg h0, if_neg h1, if_neg h2, if_neg h3, if_neg h4, if_neg h5, if_pos h6]; rfl
              · by_cases h7 : cₓ = 60
                · simp only [if_neg h0, if_neg h1, if_neg h2, if_neg h3, if_neg h4, if_neg h5, if_neg h6, if_pos h7]; rfl
                · by_cases h8 : cₓ = 61
                  · simp only [if_neg h0, if_neg h1, if_neg h2, if_neg h3, if_neg h4, if_neg h5, if_neg h6, if_neg h7, if_pos h8]; rfl
                  · by_cases h9 : cₓ = 62
                    · simp only [if_neg h0, if_neg h1, if_neg h2, if_neg h3, if_neg h4, if_neg h5, if_neg h6, if_neg h7, if_neg h8, if_pos h9]; rfl
                    · simp only [if_neg h0, if_neg h1, if_neg h2, if_neg h3, if_neg h4, if_neg h5, if_neg h6, if_neg h7, if_neg h8, if_neg h9]; rfl
