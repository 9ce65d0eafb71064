/-! walk: counts, the first best, sums -/
def cntₓ (fₓ : Nat → Bool) : Nat → Nat
  | 0 => 0
  | kₓ + 1 => cntₓ fₓ kₓ + (if fₓ kₓ = true then 1 else 0)
theorem cnt_cg {fₓ gₓ : Nat → Bool} : ∀ kₓ, (∀ jₓ, jₓ < kₓ → fₓ jₓ = gₓ jₓ) → cntₓ fₓ kₓ = cntₓ gₓ kₓ := by
  intro kₓ
  induction kₓ with
  | zero => intro _; rfl
  | succ kₓ ihₓ => intro hₓ; rw [cntₓ, cntₓ, ihₓ (fun jₓ hj => hₓ jₓ (by omega)), hₓ kₓ (by omega)]
theorem cnt_leₓ (fₓ : Nat → Bool) : ∀ kₓ, cntₓ fₓ kₓ ≤ kₓ := by
  intro kₓ
  induction kₓ with
  | zero => exact Nat.le_refl 0
  | succ kₓ ihₓ => rw [cntₓ]; split <;> omega
theorem cnt_not (fₓ : Nat → Bool) : ∀ kₓ, cntₓ fₓ kₓ + cntₓ (fun jₓ => !fₓ jₓ) kₓ = kₓ := by
  intro kₓ
  induction kₓ with
  | zero => rfl
  | succ kₓ ihₓ =>
    rw [cntₓ, cntₓ]
    cases hₓ : fₓ kₓ
    · simp [hₓ]; omega
    · simp [hₓ]; omega
theorem cnt_0 {fₓ : Nat → Bool} : ∀ kₓ, cntₓ fₓ kₓ = 0 → ∀ jₓ, jₓ < kₓ → fₓ jₓ = false := by
  intro kₓ
  induction kₓ with
  | zero => intro _ jₓ hj; omega
  | succ kₓ ihₓ =>
    intro hₓ jₓ hj
    rw [cntₓ] at hₓ
    by_cases eₓ : jₓ = kₓ
    · subst eₓ
      cases qₓ : fₓ jₓ
      · rfl
      · rw [qₓ] at hₓ; simp at hₓ
    · exact ihₓ (by omega) jₓ (by omega)
theorem cnt_allₓ {fₓ : Nat → Bool} : ∀ kₓ, (∀ jₓ, jₓ < kₓ → fₓ jₓ = false) → cntₓ fₓ kₓ = 0 := by
  intro kₓ
  induction kₓ with
  | zero => intro _; rfl
  | succ kₓ ihₓ => intro hₓ; rw [cntₓ, ihₓ (fun jₓ hj => hₓ jₓ (by omega)), hₓ kₓ (by omega)]; rfl
/-- one that held no longer holds -/
theorem cnt_drop {fₓ gₓ : Nat → Bool} {pₓ : Nat} (hₓ : ∀ jₓ, jₓ ≠ pₓ → gₓ jₓ = fₓ jₓ) (hg : gₓ pₓ = false) (hf : fₓ pₓ = true) : ∀ kₓ, pₓ < kₓ → cntₓ gₓ kₓ + 1 = cntₓ fₓ kₓ := by
  intro kₓ
  induction kₓ with
  | zero => intro hₓ; omega
  | succ kₓ ihₓ =>
    intro hk
    rw [cntₓ, cntₓ]
    by_cases eₓ : pₓ = kₓ
    · subst eₓ
      rw [hg, hf, cnt_cg pₓ (fun jₓ hj => hₓ jₓ (by omega))]
      simp
    · rw [hₓ kₓ (Ne.symm eₓ)]
      have := ihₓ (by omega)
      omega
theorem cnt_drop' {fₓ gₓ : Nat → Bool} {pₓ : Nat} (hₓ : ∀ jₓ, jₓ ≠ pₓ → gₓ jₓ = fₓ jₓ) : ∀ kₓ, cntₓ fₓ kₓ ≤ cntₓ gₓ kₓ + 1 := by
  intro kₓ
  induction kₓ with
  | zero => exact Nat.zero_le _
  | succ kₓ ihₓ =>
    rw [cntₓ, cntₓ]
    by_cases eₓ : pₓ = kₓ
    · subst eₓ
      rw [cnt_cg (fₓ := gₓ) (gₓ := fₓ) pₓ (fun jₓ hj => hₓ jₓ (by omega))]
      split <;> omega
    · rw [hₓ kₓ (Ne.symm eₓ)]
      omega
def bstₓ (okₓ : Nat → Bool) (lt : Nat → Nat → Bool) : Nat → Nat → Nat → Nat
  | 0, _, aₓ => aₓ
  | kₓ + 1, iₓ, aₓ => bstₓ okₓ lt kₓ (iₓ + 1) (if okₓ iₓ = true ∧ (aₓ = 99 ∨ lt iₓ aₓ = true) then iₓ else aₓ)
def eI (aₓ : Nat) : Int32 := if aₓ = 99 then -nI 1 else nI aₓ
theorem eI_99 : eI 99 = -nI 1 := rfl
theorem eI_ne {aₓ : Nat} (hₓ : aₓ ≠ 99) : eI aₓ = nI aₓ := if_neg hₓ
theorem bst_in (okₓ : Nat → Bool) (lt : Nat → Nat → Bool) : ∀ kₓ iₓ aₓ, bstₓ okₓ lt kₓ iₓ aₓ = aₓ ∨ (iₓ ≤ bstₓ okₓ lt kₓ iₓ aₓ ∧ bstₓ okₓ lt kₓ iₓ aₓ < iₓ + kₓ ∧ okₓ (bstₓ okₓ lt kₓ iₓ aₓ) = true) := by
  intro kₓ
  induction kₓ with
  | zero => intro iₓ aₓ; exact Or.inl rfl
  | succ kₓ ihₓ =>
    intro iₓ aₓ
    rw [bstₓ]
    by_cases cₓ : okₓ iₓ = true ∧ (aₓ = 99 ∨ lt iₓ aₓ = true)
    · rw [if_pos cₓ]
      rcases ihₓ (iₓ + 1) iₓ with hₓ | ⟨h1, h2, h3⟩
      · rw [hₓ]; exact Or.inr ⟨Nat.le_refl iₓ, by omega, cₓ.1⟩
      · exact Or.inr ⟨by omega, by omega, h3⟩
    · rw [if_neg cₓ]
      rcases ihₓ (iₓ + 1) aₓ with hₓ | ⟨h1, h2, h3⟩
      · exact Or.inl hₓ
      · exact Or.inr ⟨by omega, by omega, h3⟩
theorem bst_no (okₓ : Nat → Bool) (lt : Nat → Nat → Bool) : ∀ kₓ iₓ aₓ, iₓ + kₓ ≤ 99 → bstₓ okₓ lt kₓ iₓ aₓ = 99 → aₓ = 99 ∧ ∀ jₓ, iₓ ≤ jₓ → jₓ < iₓ + kₓ → okₓ jₓ = false := by
  intro kₓ
  induction kₓ with
  | zero => intro iₓ aₓ _ hₓ; exact ⟨hₓ, fun jₓ h1 h2 => absurd h2 (by omega)⟩
  | succ kₓ ihₓ =>
    intro iₓ aₓ hiₓ hₓ
    rw [bstₓ] at hₓ
    obtain ⟨h1, h2⟩ := ihₓ (iₓ + 1) _ (by omega) hₓ
    by_cases cₓ : okₓ iₓ = true ∧ (aₓ = 99 ∨ lt iₓ aₓ = true)
    · rw [if_pos cₓ] at h1; omega
    · rw [if_neg cₓ] at h1
      refine ⟨h1, fun jₓ g1 g2 => ?_⟩
      by_cases eₓ : jₓ = iₓ
      · subst eₓ
        cases qₓ : okₓ jₓ
        · rfl
        · exact absurd ⟨qₓ, Or.inl h1⟩ cₓ
      · exact h2 jₓ (by omega) (by omega)
theorem bst_cg {okₓ ok' : Nat → Bool} (lt : Nat → Nat → Bool) : ∀ kₓ iₓ aₓ, (∀ jₓ, iₓ ≤ jₓ → jₓ < iₓ + kₓ → okₓ jₓ = ok' jₓ) → bstₓ okₓ lt kₓ iₓ aₓ = bstₓ ok' lt kₓ iₓ aₓ := by
  intro kₓ
  induction kₓ with
  | zero => intro iₓ aₓ _; rfl
  | succ kₓ ihₓ => intro iₓ aₓ hₓ; rw [bstₓ, bstₓ, hₓ iₓ (Nat.le_refl iₓ) (by omega), ihₓ _ _ (fun jₓ h1 h2 => hₓ jₓ (by omega) (by omega))]
def maxL (bₓ : Nat → Nat) : Nat → Nat → Nat → Nat
  | 0, _, aₓ => aₓ
  | kₓ + 1, iₓ, aₓ => maxL bₓ kₓ (iₓ + 1) (max aₓ (bₓ iₓ))
def sumLₓ (bₓ : Nat → Nat) : Nat → Nat → Nat → Nat
  | 0, _, aₓ => aₓ
  | kₓ + 1, iₓ, aₓ => sumLₓ bₓ kₓ (iₓ + 1) (aₓ + bₓ iₓ)
def updN (bₓ : Nat → Nat) (pₓ vₓ : Nat) : Nat → Nat := fun jₓ => if jₓ = pₓ then vₓ else bₓ jₓ
theorem maxL_cg {bₓ b' : Nat → Nat} : ∀ kₓ iₓ aₓ, (∀ jₓ, iₓ ≤ jₓ → jₓ < iₓ + kₓ → bₓ jₓ = b' jₓ) → maxL bₓ kₓ iₓ aₓ = maxL b' kₓ iₓ aₓ := by
  intro kₓ
  induction kₓ with
  | zero => intro iₓ aₓ _; rfl
  | succ kₓ ihₓ => intro iₓ aₓ hₓ; rw [maxL, maxL, hₓ iₓ (Nat.le_refl iₓ) (by omega), ihₓ _ _ (fun jₓ h1 h2 => hₓ jₓ (by omega) (by omega))]
theorem sumL_cg {bₓ b' : Nat → Nat} : ∀ kₓ iₓ aₓ, (∀ jₓ, iₓ ≤ jₓ → jₓ < iₓ + kₓ → bₓ jₓ = b' jₓ) → sumLₓ bₓ kₓ iₓ aₓ = sumLₓ b' kₓ iₓ aₓ := by
  intro kₓ
  induction kₓ with
  | zero => intro iₓ aₓ _; rfl
  | succ kₓ ihₓ => intro iₓ aₓ hₓ; rw [sumLₓ, sumLₓ, hₓ iₓ (Nat.le_refl iₓ) (by omega), ihₓ _ _ (fun jₓ h1 h2 => hₓ jₓ (by omega) (by omega))]
theorem maxL_a (bₓ : Nat → Nat) (vₓ : Nat) : ∀ kₓ iₓ aₓ, maxL bₓ kₓ iₓ (max aₓ vₓ) = max (maxL bₓ kₓ iₓ aₓ) vₓ := by
  intro kₓ
  induction kₓ with
  | zero => intro iₓ aₓ; rfl
  | succ kₓ ihₓ => intro iₓ aₓ; rw [maxL, maxL, ← ihₓ]; congr 1; omega
theorem sumL_a (bₓ : Nat → Nat) (vₓ : Nat) : ∀ kₓ iₓ aₓ, sumLₓ bₓ kₓ iₓ (aₓ + vₓ) = sumLₓ bₓ kₓ iₓ aₓ + vₓ := by
  intro kₓ
  induction kₓ with
  | zero => intro iₓ aₓ; rfl
  | succ kₓ ihₓ => intro iₓ aₓ; rw [sumLₓ, sumLₓ, ← ihₓ]; congr 1; omega
theorem maxL_u (bₓ : Nat → Nat) {pₓ : Nat} (vₓ : Nat) (h0 : bₓ pₓ = 0) : ∀ kₓ iₓ aₓ, iₓ ≤ pₓ → pₓ < iₓ + kₓ → maxL (updN bₓ pₓ vₓ) kₓ iₓ aₓ = max (maxL bₓ kₓ iₓ aₓ) vₓ := by
  intro kₓ
  induction kₓ with
  | zero => intro iₓ aₓ h1 h2; omega
  | succ kₓ ihₓ =>
    intro iₓ aₓ h1 h2
    rw [maxL, maxL]
    by_cases eₓ : iₓ = pₓ
    · subst eₓ
      have e1ₓ : updN bₓ iₓ vₓ iₓ = vₓ := if_pos rfl
      rw [e1ₓ, h0, maxL_cg (bₓ := updN bₓ iₓ vₓ) (b' := bₓ) kₓ (iₓ + 1) _ (fun jₓ g1 g2 => if_neg (by omega)), show max aₓ 0 = aₓ by omega, maxL_a]
    · have e1ₓ : updN bₓ pₓ vₓ iₓ = bₓ iₓ := if_neg eₓ
      rw [e1ₓ, ihₓ _ _ (by omega) (by omega)]
theorem sumL_u (bₓ : Nat → Nat) {pₓ : Nat} (vₓ : Nat) (h0 : bₓ pₓ = 0) : ∀ kₓ iₓ aₓ, iₓ ≤ pₓ → pₓ < iₓ + kₓ → sumLₓ (updN bₓ pₓ vₓ) kₓ iₓ aₓ = sumLₓ bₓ kₓ iₓ aₓ + vₓ := by
  intro kₓ
  induction kₓ with
  | zero => intro iₓ aₓ h1 h2; omega
  | succ kₓ ihₓ =>
    intro iₓ aₓ h1 h2
    rw [sumLₓ, sumLₓ]
    by_cases eₓ : iₓ = pₓ
    · subst eₓ
      have e1ₓ : updN bₓ iₓ vₓ iₓ = vₓ := if_pos rfl
      rw [e1ₓ, h0, sumL_cg (bₓ := updN bₓ iₓ vₓ) (b' := bₓ) kₓ (iₓ + 1) _ (fun jₓ g1 g2 => if_neg (by omega)), show aₓ + 0 = aₓ from rfl, sumL_a]
    · have e1ₓ : updN bₓ pₓ vₓ iₓ = bₓ iₓ := if_neg eₓ
      rw [e1ₓ, ihₓ _ _ (by omega) (by omega)]
theorem maxL_le (bₓ : Nat → Nat) {mₓ : Nat} (hₓ : ∀ jₓ, bₓ jₓ ≤ mₓ) : ∀ kₓ iₓ aₓ, aₓ ≤ mₓ → maxL bₓ kₓ iₓ aₓ ≤ mₓ := by
  intro kₓ
  induction kₓ with
  | zero => intro iₓ aₓ haₓ; exact haₓ
  | succ kₓ ihₓ => intro iₓ aₓ haₓ; rw [maxL]; exact ihₓ _ _ (by have := hₓ iₓ; omega)
theorem maxL_0 : ∀ kₓ iₓ, maxL (fun _ => 0) kₓ iₓ 0 = 0 := by
  intro kₓ
  induction kₓ with
  | zero => intro iₓ; rfl
  | succ kₓ ihₓ => intro iₓ; rw [maxL]; exact ihₓ _
theorem sumL_0 : ∀ kₓ iₓ, sumLₓ (fun _ => 0) kₓ iₓ 0 = 0 := by
  intro kₓ
  induction kₓ with
  | zero => intro iₓ; rfl
  | succ kₓ ihₓ => intro iₓ; rw [sumLₓ]; exact ihₓ _
/-! the sun of the places through the hours -/
/-- the shade of the parasols -/
def psM (V : Vw) (hₓ rₓ : Nat) : Nat := shLₓ (gs V hₓ rₓ (pb V) false) 99 V.1 0 0
theorem lit_G {T : Mem} {V : Vw} (hBₓ : VB V) (hV : MVw T V) {hₓ rₓ cₓ : Nat} {all : Bool} {Gₓ : Nat → Int32} (hG : ∀ cₓ jₓ, cₓ < 25 → bt (Gₓ cₓ) jₓ = (decide (jₓ < V.1) && (gs V hₓ rₓ (bt (T 0 10)) all jₓ).testBit cₓ)) (hcₓ : cₓ < 25) : Gₓ cₓ = 0 ↔ (shLₓ (gs V hₓ rₓ (pb V) all) 99 V.1 0 0).testBit cₓ = false := by
  have hn := hBₓ.1
  rw [eq0_iff]
  constructor
  · intro qₓ
    cases zₓ : (shLₓ (gs V hₓ rₓ (pb V) all) 99 V.1 0 0).testBit cₓ
    · rfl
    · rw [shL_bit] at zₓ
      rcases zₓ with zₓ | ⟨jₓ, h1, h2, h3, h4⟩
      · rw [Nat.zero_testBit] at zₓ; cases zₓ
      · have eₓ := qₓ jₓ (by omega)
        rw [hG cₓ jₓ hcₓ, decide_eq_true (by omega), gs_cg V hₓ rₓ all (bs_pb hBₓ hV (show jₓ < 10 by omega)), h4] at eₓ
        cases eₓ
  · intro qₓ jₓ hj
    rw [hG cₓ jₓ hcₓ]
    by_cases h1 : jₓ < V.1
    · rw [decide_eq_true h1, Bool.true_and, gs_cg V hₓ rₓ all (bs_pb hBₓ hV (show jₓ < 10 by omega))]
      cases zₓ : (gs V hₓ rₓ (pb V) all jₓ).testBit cₓ
      · rfl
      · have : (shLₓ (gs V hₓ rₓ (pb V) all) 99 V.1 0 0).testBit cₓ = true := by
          rw [shL_bit]
          exact Or.inr ⟨jₓ, by omega, by omega, by omega, zₓ⟩
        rw [this] at qₓ; cases qₓ
    · rw [decide_eq_false h1, Bool.false_and]
def SV (Sₓ T : Mem) (sv : Nat → Nat) : Prop := ∀ cₓ, cₓ < 25 → Sₓ 33 cₓ = nI (sv cₓ) ∧ T 22 cₓ = nI (sv cₓ)
def svU (V : Vw) (hₓ : Nat) (sv : Nat → Nat) (iₓ : Nat) : Nat → Nat := fun cₓ => if iₓ ≤ cₓ ∧ cₓ < 25 ∧ (psM V hₓ (V.2.1 hₓ 3)).testBit cₓ = false then sv cₓ + V.2.1 hₓ 2 else sv cₓ
theorem cell_X {V : Vw} {hₓ toₓ : Nat} (hBₓ : VB V) (hh : hₓ < 12) (k0ₓ : Mem → Int32 → Int32 → O) : ∀ (kₓ iₓ fₓ : Nat) (Sₓ : Mem) (sv : Nat → Nat), iₓ + kₓ = 25 → kₓ < fₓ → XVw Sₓ V → (∀ cₓ, cₓ < 25 → Sₓ 33 cₓ = nI (sv cₓ)) → ∃ Fₓ : Nat → Int32, (∀ cₓ, cₓ < 25 → Fₓ cₓ = nI (svU V hₓ sv iₓ cₓ)) ∧ fX5_addSuns_92 k0ₓ fₓ Sₓ (nI toₓ) (nI hₓ) (nI (psM V hₓ (V.2.1 hₓ 3))) (nI iₓ) = k0ₓ (mput Sₓ 33 Fₓ) (nI toₓ) (nI (hₓ + 1)) := by
  intro kₓ
  induction kₓ with
  | zero =>
    intro iₓ fₓ Sₓ sv hiₓ hf hX hs
    obtain ⟨fₓ, rfl⟩ : ∃ gₓ, fₓ = gₓ + 1 := ⟨fₓ - 1, by omega⟩
    have hiₓ : iₓ = 25 := by omega
    subst hiₓ
    refine ⟨Sₓ 33, fun cₓ hcₓ => by rw [hs cₓ hcₓ, svU, if_neg (by omega)], ?_⟩
    show fX5_addSuns_92_b k0ₓ (fX5_addSuns_92 k0ₓ fₓ) Sₓ (nI toₓ) (nI hₓ) (nI (psM V hₓ (V.2.1 hₓ 3))) (nI 25) = _
    unfold fX5_addSuns_92_b
    rw [if_pos (show (25 : Int32) ≤ nI 25 by decide), mput_id, show nI hₓ + 1 = nI (hₓ + 1) from nI_add hₓ 1]
  | succ kₓ ihₓ =>
    intro iₓ fₓ Sₓ sv hiₓ hf hX hs
    obtain ⟨fₓ, rfl⟩ : ∃ gₓ, fₓ = gₓ + 1 := ⟨fₓ - 1, by omega⟩
    have e2ₓ := inH_V hX hh (show 2 < 5 by omega)
    have kb : ((nI (psM V hₓ (V.2.1 hₓ 3)) >>> (nI iₓ &&& 31)) &&& (1 : Int32)) = if (psM V hₓ (V.2.1 hₓ 3)).testBit iₓ = true then 1 else 0 := bitI_nI _ (by omega)
    have i25 : ¬ (25 : Int32) ≤ nI iₓ := by rw [show (25 : Int32) = nI 25 from rfl, nI_leI (by omega) (by omega)]; omega
    by_cases cₓ : (psM V hₓ (V.2.1 hₓ 3)).testBit iₓ = true
    · obtain ⟨Fₓ, f1ₓ, f2ₓ⟩ := ihₓ (iₓ + 1) fₓ Sₓ sv (by omega) (by omega) hX hs
      refine ⟨Fₓ, fun c' hcₓ => ?_, ?_⟩
      · rw [f1ₓ c' hcₓ, svU, svU]
        by_cases eₓ : c' = iₓ
        · subst eₓ
          rw [if_neg (by omega), if_neg (by rw [cₓ]; simp)]
        · by_cases qₓ : iₓ ≤ c'
          · congr 1
            by_cases zₓ : (psM V hₓ (V.2.1 hₓ 3)).testBit c' = false
            · rw [if_pos ⟨by omega, hcₓ, zₓ⟩, if_pos ⟨qₓ, hcₓ, zₓ⟩]
            · rw [if_neg (fun wₓ => zₓ wₓ.2.2), if_neg (fun wₓ => zₓ wₓ.2.2)]
          · rw [if_neg (by omega), if_neg (by omega)]
      · show fX5_addSuns_92_b k0ₓ (fX5_addSuns_92 k0ₓ fₓ) Sₓ (nI toₓ) (nI hₓ) (nI (psM V hₓ (V.2.1 hₓ 3))) (nI iₓ) = _
        unfold fX5_addSuns_92_b fX5_addSuns_128
        rw [if_neg i25, kb, if_pos cₓ, if_neg (show ¬ (1 : Int32) = 0 by decide), show nI iₓ + 1 = nI (iₓ + 1) from nI_add iₓ 1]
        exact f2ₓ
    · have c' : (psM V hₓ (V.2.1 hₓ 3)).testBit iₓ = false := by simpa using cₓ
      obtain ⟨Fₓ, f1ₓ, f2ₓ⟩ := ihₓ (iₓ + 1) fₓ (mset Sₓ 33 iₓ (nI (sv iₓ + V.2.1 hₓ 2))) (updN sv iₓ (sv iₓ + V.2.1 hₓ 2)) (by omega) (by omega) (hX.m 33 (by omega) _) (fun c2ₓ hc2 => by
        rw [mset_same]
        by_cases eₓ : c2ₓ = iₓ
        · subst eₓ; rw [upd_same, updN, if_pos rfl]
        · rw [upd_ne _ _ eₓ, updN, if_neg eₓ, hs c2ₓ hc2])
      refine ⟨Fₓ, fun c2ₓ hcₓ => ?_, ?_⟩
      · rw [f1ₓ c2ₓ hcₓ, svU, svU, updN]
        by_cases eₓ : c2ₓ = iₓ
        · subst eₓ
          rw [if_neg (by omega), if_pos rfl, if_pos ⟨Nat.le_refl _, hcₓ, c'⟩]
        · rw [if_neg eₓ]
          by_cases qₓ : iₓ ≤ c2ₓ
          · congr 1
            by_cases zₓ : (psM V hₓ (V.2.1 hₓ 3)).testBit c2ₓ = false
            · rw [if_pos ⟨by omega, hcₓ, zₓ⟩, if_pos ⟨qₓ, hcₓ, zₓ⟩]
            · rw [if_neg (fun wₓ => zₓ wₓ.2.2), if_neg (fun wₓ => zₓ wₓ.2.2)]
          · rw [if_neg (by omega), if_neg (by omega)]
      · rw [show mput (mset Sₓ 33 iₓ (nI (sv iₓ + V.2.1 hₓ 2))) 33 Fₓ = mput Sₓ 33 Fₓ from mput_mput _ _ _ _] at f2ₓ
        show fX5_addSuns_92_b k0ₓ (fX5_addSuns_92 k0ₓ fₓ) Sₓ (nI toₓ) (nI hₓ) (nI (psM V hₓ (V.2.1 hₓ 3))) (nI iₓ) = _
        unfold fX5_addSuns_92_b fX5_addSuns_128
        rw [if_neg i25, kb, if_neg cₓ, if_pos rfl, gd_in _ (show iₓ < 25 by omega) (by omega), show (2 : Int32) = nI 2 from rfl, e2ₓ, bnd_e, gd_in _ (show iₓ < 25 by omega) (by omega), ltm_e, nI_clamp (by omega), hs iₓ (by omega), nI_add, show nI iₓ + 1 = nI (iₓ + 1) from nI_add iₓ 1]
        exact f2ₓ
theorem cell_M {V : Vw} {hₓ toₓ : Nat} (hBₓ : VB V) (hh : hₓ < 12) (k0ₓ : Mem → Int32 → Int32 → O) : ∀ (kₓ iₓ fₓ : Nat) (T : Mem) (sv : Nat → Nat), iₓ + kₓ = 25 → kₓ < fₓ → MVw T V → (∀ cₓ, cₓ < 25 → (T 21 cₓ = 0 ↔ (psM V hₓ (V.2.1 hₓ 3)).testBit cₓ = false)) → (∀ cₓ, cₓ < 25 → T 22 cₓ = nI (sv cₓ)) → ∃ Fₓ : Nat → Int32, (∀ cₓ, cₓ < 25 → Fₓ cₓ = nI (svU V hₓ sv iₓ cₓ)) ∧ fX8_findsSuns_51 k0ₓ fₓ T (nI toₓ) (nI hₓ) (nI iₓ) = k0ₓ (mput T 22 Fₓ) (nI toₓ) (nI (hₓ + 1)) := by
  intro kₓ
  induction kₓ with
  | zero =>
    intro iₓ fₓ T sv hiₓ hf hMₓ hl hs
    obtain ⟨fₓ, rfl⟩ : ∃ gₓ, fₓ = gₓ + 1 := ⟨fₓ - 1, by omega⟩
    have hiₓ : iₓ = 25 := by omega
    subst hiₓ
    refine ⟨T 22, fun cₓ hcₓ => by rw [hs cₓ hcₓ, svU, if_neg (by omega)], ?_⟩
    show fX8_findsSuns_51_b k0ₓ (fX8_findsSuns_51 k0ₓ fₓ) T (nI toₓ) (nI hₓ) (nI 25) = _
    unfold fX8_findsSuns_51_b
    rw [if_pos (show (25 : Int32) ≤ nI 25 by decide), mput_id, show nI hₓ + 1 = nI (hₓ + 1) from nI_add hₓ 1]
  | succ kₓ ihₓ =>
    intro iₓ fₓ T sv hiₓ hf hMₓ hl hs
    obtain ⟨fₓ, rfl⟩ : ∃ gₓ, fₓ = gₓ + 1 := ⟨fₓ - 1, by omega⟩
    have e2ₓ := hMₓ.2.1 hₓ 2 hh (by omega)
    have i25 : ¬ (25 : Int32) ≤ nI iₓ := by rw [show (25 : Int32) = nI 25 from rfl, nI_leI (by omega) (by omega)]; omega
    by_cases cₓ : (psM V hₓ (V.2.1 hₓ 3)).testBit iₓ = true
    · obtain ⟨Fₓ, f1ₓ, f2ₓ⟩ := ihₓ (iₓ + 1) fₓ T sv (by omega) (by omega) hMₓ hl hs
      refine ⟨Fₓ, fun c' hcₓ => ?_, ?_⟩
      · rw [f1ₓ c' hcₓ, svU, svU]
        by_cases eₓ : c' = iₓ
        · subst eₓ
          rw [if_neg (by omega), if_neg (by rw [cₓ]; simp)]
        · by_cases qₓ : iₓ ≤ c'
          · congr 1
            by_cases zₓ : (psM V hₓ (V.2.1 hₓ 3)).testBit c' = false
            · rw [if_pos ⟨by omega, hcₓ, zₓ⟩, if_pos ⟨qₓ, hcₓ, zₓ⟩]
            · rw [if_neg (fun wₓ => zₓ wₓ.2.2), if_neg (fun wₓ => zₓ wₓ.2.2)]
          · rw [if_neg (by omega), if_neg (by omega)]
      · show fX8_findsSuns_51_b k0ₓ (fX8_findsSuns_51 k0ₓ fₓ) T (nI toₓ) (nI hₓ) (nI iₓ) = _
        unfold fX8_findsSuns_51_b fX8_findsSuns_93
        rw [if_neg i25, gd_in _ (show iₓ < 25 by omega) (by omega), nI_clamp (by omega), if_neg (fun qₓ => by rw [(hl iₓ (by omega)).1 qₓ] at cₓ; cases cₓ), show nI iₓ + 1 = nI (iₓ + 1) from nI_add iₓ 1]
        exact f2ₓ
    · have c' : (psM V hₓ (V.2.1 hₓ 3)).testBit iₓ = false := by simpa using cₓ
      obtain ⟨Fₓ, f1ₓ, f2ₓ⟩ := ihₓ (iₓ + 1) fₓ (mset T 22 iₓ (nI (sv iₓ + V.2.1 hₓ 2))) (updN sv iₓ (sv iₓ + V.2.1 hₓ 2)) (by omega) (by omega) (hMₓ.m 22 (by omega) _) (fun cₓ hcₓ => by rw [mset_ne _ _ _ (show 21 ≠ 22 by omega)]; exact hl cₓ hcₓ) (fun c2ₓ hc2 => by
        rw [mset_same]
        by_cases eₓ : c2ₓ = iₓ
        · subst eₓ; rw [upd_same, updN, if_pos rfl]
        · rw [upd_ne _ _ eₓ, updN, if_neg eₓ, hs c2ₓ hc2])
      refine ⟨Fₓ, fun c2ₓ hcₓ => ?_, ?_⟩
      · rw [f1ₓ c2ₓ hcₓ, svU, svU, updN]
        by_cases eₓ : c2ₓ = iₓ
        · subst eₓ
          rw [if_neg (by omega), if_pos rfl, if_pos ⟨Nat.le_refl _, hcₓ, c'⟩]
        · rw [if_neg eₓ]
          by_cases qₓ : iₓ ≤ c2ₓ
          · congr 1
            by_cases zₓ : (psM V hₓ (V.2.1 hₓ 3)).testBit c2ₓ = false
            · rw [if_pos ⟨by omega, hcₓ, zₓ⟩, if_pos ⟨qₓ, hcₓ, zₓ⟩]
            · rw [if_neg (fun wₓ => zₓ wₓ.2.2), if_neg (fun wₓ => zₓ wₓ.2.2)]
          · rw [if_neg (by omega), if_neg (by omega)]
      · rw [show mput (mset T 22 iₓ (nI (sv iₓ + V.2.1 hₓ 2))) 22 Fₓ = mput T 22 Fₓ from mput_mput _ _ _ _] at f2ₓ
        show fX8_findsSuns_51_b k0ₓ (fX8_findsSuns_51 k0ₓ fₓ) T (nI toₓ) (nI hₓ) (nI iₓ) = _
        unfold fX8_findsSuns_51_b fX8_findsSuns_93
        rw [if_neg i25, gd_in _ (show iₓ < 25 by omega) (by omega), nI_clamp (show iₓ < 2 ^ 31 by omega), if_pos ((hl iₓ (by omega)).2 c'), gd_in _ (show iₓ < 25 by omega) (by omega), show (2 : Int32) = nI 2 from rfl, show (5 : Int32) = nI 5 from rfl, pk_mul, nI_add, gd_in _ (show 5 * hₓ + 2 < 60 by omega) (by omega), gd_in _ (show iₓ < 25 by omega) (by omega), nI_clamp (show 5 * hₓ + 2 < 2 ^ 31 by omega), e2ₓ, ltm_e, hs iₓ (by omega), nI_add, show nI iₓ + 1 = nI (iₓ + 1) from nI_add iₓ 1]
        exact f2ₓ
theorem ps_X {V : Vw} {hₓ toₓ : Nat} (hBₓ : VB V) (hh : hₓ < 12) (k0ₓ : Mem → Int32 → Int32 → O) {Sₓ : Mem} (hX : XVw Sₓ V) : ∀ (kₓ iₓ fₓ aₓ : Nat), iₓ + kₓ = V.1 → kₓ < fₓ → fX5_addSuns_40 k0ₓ fₓ Sₓ (nI toₓ) (nI hₓ) (nI (wy (V.2.1 hₓ 0) (V.2.1 hₓ 3))) (nI aₓ) (nI iₓ) = fX5_addSuns_92 k0ₓ FU Sₓ (nI toₓ) (nI hₓ) (nI (shLₓ (gs V hₓ (V.2.1 hₓ 3) (pb V) false) 99 kₓ iₓ aₓ)) (nI 0) := by
  have hn := hBₓ.1
  have e1ₓ := hX.1
  have hw := wy_lt (V.2.1 hₓ 0) (V.2.1 hₓ 3)
  intro kₓ
  induction kₓ with
  | zero =>
    intro iₓ fₓ aₓ hiₓ hf
    obtain ⟨fₓ, rfl⟩ : ∃ gₓ, fₓ = gₓ + 1 := ⟨fₓ - 1, by omega⟩
    show fX5_addSuns_40_b k0ₓ (fX5_addSuns_40 k0ₓ fₓ) Sₓ (nI toₓ) (nI hₓ) (nI (wy (V.2.1 hₓ 0) (V.2.1 hₓ 3))) (nI aₓ) (nI iₓ) = _
    unfold fX5_addSuns_40_b
    rw [e1ₓ, if_pos (nI_le (by omega) (by omega)), shLₓ, show (0 : Int32) = nI 0 from rfl]
  | succ kₓ ihₓ =>
    intro iₓ fₓ aₓ hiₓ hf
    obtain ⟨fₓ, rfl⟩ : ∃ gₓ, fₓ = gₓ + 1 := ⟨fₓ - 1, by omega⟩
    have hp : iₓ < V.1 := by omega
    obtain ⟨-, -, -, -, e5ₓ, -⟩ := has_V hBₓ hX hp
    have ep := par_X hBₓ hX hp hh hw
    show fX5_addSuns_40_b k0ₓ (fX5_addSuns_40 k0ₓ fₓ) Sₓ (nI toₓ) (nI hₓ) (nI (wy (V.2.1 hₓ 0) (V.2.1 hₓ 3))) (nI aₓ) (nI iₓ) = _
    unfold fX5_addSuns_40_b fX5_addSuns_83
    rw [e1ₓ, if_neg (by rw [nI_leI (by omega) (by omega)]; omega), show (5 : Int32) = nI 5 from rfl, e5ₓ, bnd_e, shLₓ, if_neg (show ¬ iₓ = 99 by omega), show (1 : Int32) = nI 1 from rfl]
    by_cases cₓ : V.2.2 iₓ 5 = 1
    · rw [if_pos (show nI (V.2.2 iₓ 5) = nI 1 by rw [cₓ]), ep, bnd_e, lti_e, nI_or, nI_add, ihₓ (iₓ + 1) fₓ _ (by omega) (by omega)]
      have : gs V hₓ (V.2.1 hₓ 3) (pb V) false iₓ = parA (5 - V.2.1 hₓ 1) (wy (V.2.1 hₓ 0) (V.2.1 hₓ 3)) (V.2.2 iₓ 0) := by
        unfold gs pb; rw [if_pos (by simp [cₓ]), if_neg (by simp), Nat.or_zero]
      rw [this]
    · have b5 := (hBₓ.2.2.1 iₓ (by omega)).2.2.2.2.1
      rw [if_neg (show ¬ nI (V.2.2 iₓ 5) = nI 1 by rw [nI_eq (by omega) (by omega)]; exact cₓ), nI_add, ihₓ (iₓ + 1) fₓ _ (by omega) (by omega)]
      have : gs V hₓ (V.2.1 hₓ 3) (pb V) false iₓ = 0 := by
        unfold gs pb; rw [if_neg (by simp [cₓ]), if_neg (by simp), Nat.or_zero]
      rw [this, Nat.or_zero]
/-- who bears a parasol has no sun on his own place -/
def noSun (V : Vw) (sv : Nat → Nat) : Prop := ∀ pₓ, pₓ < V.1 → pb V pₓ = true → sv (V.2.2 pₓ 0) = 0
theorem svU_no {V : Vw} {hₓ : Nat} {sv : Nat → Nat} (hBₓ : VB V) (hh : hₓ < 12) (hs : noSun V sv) : noSun V (svU V hₓ sv 0) := by
  intro pₓ hp hbₓ
  have hn := hBₓ.1
  rw [svU, if_neg, hs pₓ hp hbₓ]
  rintro ⟨-, -, h3⟩
  have : (psM V hₓ (V.2.1 hₓ 3)).testBit (V.2.2 pₓ 0) = true := by
    unfold psM
    rw [shL_bit]
    exact Or.inr ⟨pₓ, by omega, by omega, by omega, by rw [gs_own hBₓ hh _ _ (by omega)]; exact hbₓ⟩
  rw [this] at h3
  cases h3
theorem svU_le {V : Vw} {hₓ mₓ : Nat} {sv : Nat → Nat} (hBₓ : VB V) (hh : hₓ < 12) (hs : ∀ cₓ, sv cₓ ≤ mₓ) : ∀ cₓ, svU V hₓ sv 0 cₓ ≤ mₓ + 9 := by
  intro cₓ
  have h1 := (hBₓ.2.1 hₓ hh).2.2.1
  have h2 := hs cₓ
  rw [svU]
  split <;> omega
theorem suns_loop {V : Vw} (hBₓ : VB V) {toₓ : Nat} (ht : toₓ < 12) : ∀ (kₓ iₓ fₓ : Nat) (Sₓ T : Mem) (sv : Nat → Nat), iₓ + kₓ = toₓ + 1 → kₓ < fₓ → XVw Sₓ V → MVw T V → SV Sₓ T sv → (∀ cₓ, sv cₓ ≤ 9 * iₓ) → noSun V sv → ∃ S' T' sv', fX5_addSuns_10 fₓ Sₓ (nI toₓ) (nI iₓ) = some (nI 0, S') ∧ fX8_findsSuns_23 fₓ T (nI toₓ) (nI iₓ) = some (nI 0, T') ∧ frm scX Sₓ S' ∧ frm scM T T' ∧ SV S' T' sv' ∧ (∀ cₓ, sv' cₓ ≤ 108) ∧ noSun V sv' := by
  intro kₓ
  induction kₓ with
  | zero =>
    intro iₓ fₓ Sₓ T sv hiₓ hf hX hMₓ hs hl hno
    obtain ⟨fₓ, rfl⟩ : ∃ gₓ, fₓ = gₓ + 1 := ⟨fₓ - 1, by omega⟩
    refine ⟨Sₓ, T, sv, ?_, ?_, frm.rf _ _, frm.rf _ _, hs, fun cₓ => by have := hl cₓ; omega, hno⟩
    · show fX5_addSuns_10_b (fX5_addSuns_10 fₓ) Sₓ (nI toₓ) (nI iₓ) = _
      unfold fX5_addSuns_10_b
      rw [if_pos (nI_lt (by omega) (by omega))]
      rfl
    · show fX8_findsSuns_23_b (fX8_findsSuns_23 fₓ) T (nI toₓ) (nI iₓ) = _
      unfold fX8_findsSuns_23_b
      rw [if_pos (nI_lt (by omega) (by omega))]
      rfl
  | succ kₓ ihₓ =>
    intro iₓ fₓ Sₓ T sv hiₓ hf hX hMₓ hs hl hno
    obtain ⟨fₓ, rfl⟩ : ∃ gₓ, fₓ = gₓ + 1 := ⟨fₓ - 1, by omega⟩
    have hh : iₓ < 12 := by omega
    have hn := hBₓ.1
    have r8 : V.2.1 iₓ 3 < 8 := by have := hBₓ.2.1 iₓ hh; omega
    have e3ₓ := inH_V hX hh (show 3 < 5 by omega)
    have m3ₓ := hMₓ.2.1 iₓ 3 hh (by omega)
    have ew := way_X hBₓ hX hh r8
    obtain ⟨Gₓ, g1, g2⟩ := finds_M hBₓ hMₓ hh r8 (show 0 < 2 by omega) (T 0 10)
    have hlit : ∀ cₓ, cₓ < 25 → ((mput T 21 Gₓ) 21 cₓ = 0 ↔ (psM V iₓ (V.2.1 iₓ 3)).testBit cₓ = false) := fun cₓ hcₓ => by
      rw [mput_same]; exact lit_G hBₓ hMₓ g2 hcₓ
    obtain ⟨Fₓ, f1ₓ, f2ₓ⟩ := cell_X (toₓ := toₓ) hBₓ hh (fX5_addSuns_10 fₓ) 25 0 FU Sₓ sv (by omega) (by unfold FU; omega) hX (fun cₓ hcₓ => (hs cₓ hcₓ).1)
    obtain ⟨F', f1', f2'⟩ := cell_M (toₓ := toₓ) hBₓ hh (fX8_findsSuns_23 fₓ) 25 0 FU (mput T 21 Gₓ) sv (by omega) (by unfold FU; omega) (hMₓ.m 21 (by omega) Gₓ) hlit (fun cₓ hcₓ => by rw [mput_ne _ _ (show 22 ≠ 21 by omega)]; exact (hs cₓ hcₓ).2)
    obtain ⟨S', T', sv', z1, z2, z3, z4, z5⟩ := ihₓ (iₓ + 1) fₓ (mput Sₓ 33 Fₓ) (mput (mput T 21 Gₓ) 22 F') (svU V iₓ sv 0) (by omega) (by omega) (hX.m 33 (by omega) _) ((hMₓ.m 21 (by omega) Gₓ).m 22 (by omega) _) (fun cₓ hcₓ => by rw [mput_same, mput_same]; exact ⟨f1ₓ cₓ hcₓ, f1' cₓ hcₓ⟩) (fun cₓ => by have := svU_le hBₓ hh hl cₓ; omega) (svU_no hBₓ hh hno)
    refine ⟨S', T', sv', ?_, ?_, (frm.put _ _ (by decide)).tr z3, ((frm.put T Gₓ (by decide)).mput F' (by decide)).tr z4, z5⟩
    · rw [← z1, ← f2ₓ]
      show fX5_addSuns_10_b (fX5_addSuns_10 fₓ) Sₓ (nI toₓ) (nI iₓ) = _
      unfold fX5_addSuns_10_b
      rw [if_neg (by rw [nI_ltI (by omega) (by omega)]; omega), show (3 : Int32) = nI 3 from rfl, e3ₓ, bnd_e, ew, bnd_e, show (0 : Int32) = nI 0 from rfl, ps_X hBₓ hh _ hX V.1 0 FU 0 (by omega) (by unfold FU; omega)]
      rfl
    · rw [← z2, ← f2']
      show fX8_findsSuns_23_b (fX8_findsSuns_23 fₓ) T (nI toₓ) (nI iₓ) = _
      unfold fX8_findsSuns_23_b
      rw [if_neg (by rw [nI_ltI (by omega) (by omega)]; omega), show (3 : Int32) = nI 3 from rfl, show (5 : Int32) = nI 5 from rfl, pk_mul, nI_add, gd_in _ (show 5 * iₓ + 3 < 60 by omega) (by omega), nI_clamp (show 5 * iₓ + 3 < 2 ^ 31 by omega), m3ₓ, show (0 : Int32) = nI 0 from rfl, g1, bnd_e]
theorem fill33 : ∀ (kₓ iₓ fₓ : Nat) (Sₓ : Mem), iₓ + kₓ = 25 → kₓ < fₓ → (∀ pₓ, pₓ < iₓ → Sₓ 33 pₓ = nI 0) → ∃ Fₓ, (∀ pₓ, pₓ < 25 → Fₓ pₓ = nI 0) ∧ fJ7_fill_33_5 fₓ Sₓ (nI 0) (nI iₓ) (nI 25) = some (nI 0, mput Sₓ 33 Fₓ) := by
  intro kₓ
  induction kₓ with
  | zero =>
    intro iₓ fₓ Sₓ hiₓ hf hz
    obtain ⟨fₓ, rfl⟩ : ∃ gₓ, fₓ = gₓ + 1 := ⟨fₓ - 1, by omega⟩
    have hiₓ : iₓ = 25 := by omega
    subst hiₓ
    refine ⟨Sₓ 33, hz, ?_⟩
    show fJ7_fill_33_5_b (fJ7_fill_33_5 fₓ) Sₓ (nI 0) (nI 25) (nI 25) = _
    simp (disch := first | omega | assumption) only [fJ7_fill_33_5_b, mput_id, mset_ne, mset_same, upd_same, upd_ne, ltm_e, lti_e, bnd_e, fa_lit, nI_add, pk_mul, nI_clamp, gd_in, nlt0, nI_ltI, nI_leI, nI_eq, if_true, if_false, if_pos, if_neg]
  | succ kₓ ihₓ =>
    intro iₓ fₓ Sₓ hiₓ hf hz
    obtain ⟨fₓ, rfl⟩ : ∃ gₓ, fₓ = gₓ + 1 := ⟨fₓ - 1, by omega⟩
    obtain ⟨Fₓ, z1, z2⟩ := ihₓ (iₓ + 1) fₓ (mset Sₓ 33 iₓ (nI 0)) (by omega) (by omega) (fun pₓ hp => by
      rw [mset_same]
      by_cases eₓ : pₓ = iₓ
      · rw [eₓ, upd_same]
      · rw [upd_ne _ _ eₓ]; exact hz pₓ (by omega))
    refine ⟨Fₓ, z1, ?_⟩
    show fJ7_fill_33_5_b (fJ7_fill_33_5 fₓ) Sₓ (nI 0) (nI iₓ) (nI 25) = _
    rw [show mput (mset Sₓ 33 iₓ (nI 0)) 33 Fₓ = mput Sₓ 33 Fₓ from mput_mput _ _ _ _] at z2
    rw [← z2]
    simp (disch := first | omega | assumption) only [fJ7_fill_33_5_b, mset_ne, mset_same, upd_same, upd_ne, ltm_e, lti_e, bnd_e, fa_lit, nI_add, pk_mul, nI_clamp, gd_in, nlt0, nI_ltI, nI_leI, nI_eq, if_true, if_false, if_pos, if_neg]
theorem zero22 (x1ₓ x2ₓ : Int32) : ∀ (kₓ iₓ fₓ : Nat) (T : Mem), iₓ + kₓ = 25 → kₓ < fₓ → (∀ pₓ, pₓ < iₓ → T 22 pₓ = nI 0) → ∃ Fₓ, (∀ pₓ, pₓ < 25 → Fₓ pₓ = nI 0) ∧ fX8_findsSuns_2 fₓ T x1ₓ x2ₓ (nI iₓ) = fX8_findsSuns_23 FU (mput T 22 Fₓ) x2ₓ x1ₓ := by
  intro kₓ
  induction kₓ with
  | zero =>
    intro iₓ fₓ T hiₓ hf hz
    obtain ⟨fₓ, rfl⟩ : ∃ gₓ, fₓ = gₓ + 1 := ⟨fₓ - 1, by omega⟩
    have hiₓ : iₓ = 25 := by omega
    subst hiₓ
    refine ⟨T 22, hz, ?_⟩
    rw [mput_id]
    show fX8_findsSuns_2_b (fX8_findsSuns_2 fₓ) T x1ₓ x2ₓ (nI 25) = _
    unfold fX8_findsSuns_2_b
    rw [if_pos (show (25 : Int32) ≤ nI 25 by decide)]
  | succ kₓ ihₓ =>
    intro iₓ fₓ T hiₓ hf hz
    obtain ⟨fₓ, rfl⟩ : ∃ gₓ, fₓ = gₓ + 1 := ⟨fₓ - 1, by omega⟩
    obtain ⟨Fₓ, z1, z2⟩ := ihₓ (iₓ + 1) fₓ (mset T 22 iₓ (nI 0)) (by omega) (by omega) (fun pₓ hp => by
      rw [mset_same]
      by_cases eₓ : pₓ = iₓ
      · rw [eₓ, upd_same]
      · rw [upd_ne _ _ eₓ]; exact hz pₓ (by omega))
    refine ⟨Fₓ, z1, ?_⟩
    rw [show mput (mset T 22 iₓ (nI 0)) 22 Fₓ = mput T 22 Fₓ from mput_mput _ _ _ _] at z2
    rw [← z2]
    show fX8_findsSuns_2_b (fX8_findsSuns_2 fₓ) T x1ₓ x2ₓ (nI iₓ) = _
    unfold fX8_findsSuns_2_b
    rw [if_neg (show ¬ (25 : Int32) ≤ nI iₓ by rw [show (25 : Int32) = nI 25 from rfl, nI_leI (by omega) (by omega)]; omega), gd_in _ (show iₓ < 25 by omega) (by omega), ltm_e, nI_clamp (by omega), show nI iₓ + 1 = nI (iₓ + 1) from nI_add iₓ 1, show (0 : Int32) = nI 0 from rfl]
theorem suns_both {V : Vw} (hBₓ : VB V) {aₓ toₓ : Nat} (haₓ : aₓ ≤ toₓ) (ht : toₓ < 12) {Sₓ T : Mem} (hX : XVw Sₓ V) (hMₓ : MVw T V) : ∃ S' T' sv', fX5_addSuns Sₓ (nI aₓ) (nI toₓ) = some (nI 0, S') ∧ fX8_findsSuns T (nI aₓ) (nI toₓ) = some (nI 0, T') ∧ frm scX Sₓ S' ∧ frm scM T T' ∧ SV S' T' sv' ∧ (∀ cₓ, sv' cₓ ≤ 108) ∧ noSun V sv' := by
  obtain ⟨Fₓ, f1ₓ, f2ₓ⟩ := fill33 25 0 FU Sₓ (by omega) (by unfold FU; omega) (fun pₓ hp => absurd hp (by omega))
  obtain ⟨Gₓ, g1, g2⟩ := zero22 (nI aₓ) (nI toₓ) 25 0 FU T (by omega) (by unfold FU; omega) (fun pₓ hp => absurd hp (by omega))
  obtain ⟨S', T', sv', z1, z2, z3, z4, z5⟩ := suns_loop hBₓ ht (toₓ + 1 - aₓ) aₓ FU (mput Sₓ 33 Fₓ) (mput T 22 Gₓ) (fun _ => 0) (by omega) (by unfold FU; omega) (hX.m 33 (by omega) _) (hMₓ.m 22 (by omega) _) (fun cₓ hcₓ => by rw [mput_same, mput_same]; exact ⟨f1ₓ cₓ hcₓ, g1 cₓ hcₓ⟩) (fun cₓ => Nat.zero_le _) (fun pₓ _ _ => rfl)
  refine ⟨S', T', sv', ?_, ?_, (frm.put _ _ (by decide)).tr z3, (frm.put _ _ (by decide)).tr z4, z5⟩
  · rw [← z1]
    unfold fX5_addSuns fJ7_fill_33
    rw [show (0 : Int32) = nI 0 from rfl, show (25 : Int32) = nI 25 from rfl, f2ₓ, bnd_e]
  · rw [← z2, ← g2]
    unfold fX8_findsSuns
    rfl
