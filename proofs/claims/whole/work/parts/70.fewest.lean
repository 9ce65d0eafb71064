/-! fewest -/
def rdₓ (V : Vw) (hₓ : Nat) : Nat := V.2.1 hₓ 3
def bdM (V : Vw) (hₓ : Nat) : Nat := shLₓ (gs V hₓ (V.2.1 hₓ 3) (fun _ => false) true) 99 V.1 0 0
def prM (V : Vw) (hₓ qₓ : Nat) : Nat := parA (5 - V.2.1 hₓ 1) (wy (V.2.1 hₓ 0) (V.2.1 hₓ 3)) (V.2.2 qₓ 0)
def ndₓ (V : Vw) (hₓ pₓ : Nat) : Bool := !(decide (V.2.2 pₓ 6 = 1) || (bdM V hₓ).testBit (V.2.2 pₓ 0))
def cov (V : Vw) (hₓ qₓ : Nat) : Int32 := orb (fun pₓ => (prM V hₓ qₓ).testBit (V.2.2 pₓ 0)) V.1 0 (nI 0)
theorem stand_X {Sₓ : Mem} {V : Vw} (hBₓ : VB V) (hX : XVw Sₓ V) (mₓ : Nat) : ∀ (kₓ iₓ fₓ : Nat) (aₓ : Int32), iₓ + kₓ = V.1 → kₓ < fₓ → fX5_standingIn_4 fₓ Sₓ (nI mₓ) aₓ (nI iₓ) = some (orb (fun pₓ => mₓ.testBit (V.2.2 pₓ 0)) kₓ iₓ aₓ, Sₓ) := by
  have hn := hBₓ.1
  have e1ₓ := hX.1
  intro kₓ
  induction kₓ with
  | zero =>
    intro iₓ fₓ aₓ hiₓ hf
    obtain ⟨fₓ, rfl⟩ : ∃ gₓ, fₓ = gₓ + 1 := ⟨fₓ - 1, by omega⟩
    show fX5_standingIn_4_b (fX5_standingIn_4 fₓ) Sₓ (nI mₓ) aₓ (nI iₓ) = _
    unfold fX5_standingIn_4_b
    rw [e1ₓ, if_pos (nI_le (by omega) (by omega)), orb]
  | succ kₓ ihₓ =>
    intro iₓ fₓ aₓ hiₓ hf
    obtain ⟨fₓ, rfl⟩ : ∃ gₓ, fₓ = gₓ + 1 := ⟨fₓ - 1, by omega⟩
    have hp : iₓ < V.1 := by omega
    obtain ⟨e0ₓ, -⟩ := has_V hBₓ hX hp
    have b0 := (hBₓ.2.2.1 iₓ (by omega)).1
    have kb : ((nI mₓ >>> (nI (V.2.2 iₓ 0) &&& 31)) &&& (1 : Int32)) = if mₓ.testBit (V.2.2 iₓ 0) = true then 1 else 0 := bitI_nI _ (by omega)
    show fX5_standingIn_4_b (fX5_standingIn_4 fₓ) Sₓ (nI mₓ) aₓ (nI iₓ) = _
    unfold fX5_standingIn_4_b fX5_standingIn_38
    rw [e1ₓ, if_neg (show ¬ nI V.1 ≤ nI iₓ by rw [nI_leI (by omega) (by omega)]; omega), show (0 : Int32) = nI 0 from rfl, e0ₓ, bnd_e, kb, orb, show nI iₓ + 1 = nI (iₓ + 1) from nI_add iₓ 1]
    by_cases cₓ : mₓ.testBit (V.2.2 iₓ 0) = true
    · rw [if_pos cₓ, if_pos rfl, if_pos cₓ, lti_e]
      exact ihₓ (iₓ + 1) fₓ _ (by omega) (by omega)
    · rw [if_neg cₓ, if_neg (show ¬ (0 : Int32) = 1 by decide), if_neg cₓ]
      exact ihₓ (iₓ + 1) fₓ _ (by omega) (by omega)
theorem nd31 {V : Vw} (hBₓ : VB V) {hₓ : Nat} (hh : hₓ < 12) : ∀ (kₓ iₓ fₓ aₓ : Nat) (Sₓ : Mem), iₓ + kₓ = V.1 → kₓ < fₓ → XVw Sₓ V → ∃ Fₓ : Nat → Int32, fX5_findNeeds_31 fₓ Sₓ (nI hₓ) (nI (wy (V.2.1 hₓ 0) (V.2.1 hₓ 3))) (nI aₓ) (nI iₓ) = fX5_findNeeds_100 FU (mset (mput Sₓ 36 Fₓ) 35 hₓ (nI 0)) (nI hₓ) (nI (shLₓ (gs V hₓ (V.2.1 hₓ 3) (fun _ => false) true) 99 kₓ iₓ aₓ)) (nI 0) ∧ (∀ qₓ, iₓ ≤ qₓ → qₓ < V.1 → Fₓ (10 * hₓ + qₓ) = cov V hₓ qₓ) ∧ ∀ jₓ, (jₓ < 10 * hₓ + iₓ ∨ 10 * hₓ + 10 ≤ jₓ) → Fₓ jₓ = Sₓ 36 jₓ := by
  have hn := hBₓ.1
  have hw := wy_lt (V.2.1 hₓ 0) (V.2.1 hₓ 3)
  intro kₓ
  induction kₓ with
  | zero =>
    intro iₓ fₓ aₓ Sₓ hiₓ hf hX
    obtain ⟨fₓ, rfl⟩ : ∃ gₓ, fₓ = gₓ + 1 := ⟨fₓ - 1, by omega⟩
    have e1ₓ := hX.1
    refine ⟨Sₓ 36, ?_, fun qₓ h1 h2 => absurd h2 (by omega), fun _ _ => rfl⟩
    rw [mput_id]
    show fX5_findNeeds_31_b (fX5_findNeeds_31 fₓ) Sₓ (nI hₓ) (nI (wy (V.2.1 hₓ 0) (V.2.1 hₓ 3))) (nI aₓ) (nI iₓ) = _
    unfold fX5_findNeeds_31_b
    rw [e1ₓ, if_pos (nI_le (by omega) (by omega)), gd_in _ hh (by omega), ltm_e, nI_clamp (by omega), shLₓ, show (0 : Int32) = nI 0 from rfl]
  | succ kₓ ihₓ =>
    intro iₓ fₓ aₓ Sₓ hiₓ hf hX
    obtain ⟨fₓ, rfl⟩ : ∃ gₓ, fₓ = gₓ + 1 := ⟨fₓ - 1, by omega⟩
    have e1ₓ := hX.1
    have hp : iₓ < V.1 := by omega
    have eb := body_X hBₓ hX hp hh hw
    have ep := par_X hBₓ hX hp hh hw
    have es := stand_X hBₓ hX (prM V hₓ iₓ) V.1 0 FU (nI 0) (by omega) (by unfold FU; omega)
    have es' : fX5_standingIn Sₓ (nI (parA (5 - V.2.1 hₓ 1) (wy (V.2.1 hₓ 0) (V.2.1 hₓ 3)) (V.2.2 iₓ 0))) = some (cov V hₓ iₓ, Sₓ) := es
    obtain ⟨Fₓ, f1ₓ, f2ₓ, f3ₓ⟩ := ihₓ (iₓ + 1) fₓ (aₓ ||| bodyₓ (V.2.2 iₓ 1) (V.2.2 iₓ 2) (V.2.1 hₓ 1) (wy (V.2.1 hₓ 0) (V.2.1 hₓ 3)) (V.2.2 iₓ 0)) (mset Sₓ 36 (10 * hₓ + iₓ) (cov V hₓ iₓ)) (by omega) (by omega) (hX.m 36 (by omega) _)
    refine ⟨Fₓ, ?_, fun qₓ h1 h2 => ?_, fun jₓ hj => ?_⟩
    · rw [show mput (mset Sₓ 36 (10 * hₓ + iₓ) (cov V hₓ iₓ)) 36 Fₓ = mput Sₓ 36 Fₓ from mput_mput _ _ _ _] at f1ₓ
      have hg : gs V hₓ (V.2.1 hₓ 3) (fun _ => false) true iₓ = bodyₓ (V.2.2 iₓ 1) (V.2.2 iₓ 2) (V.2.1 hₓ 1) (wy (V.2.1 hₓ 0) (V.2.1 hₓ 3)) (V.2.2 iₓ 0) := by
        unfold gs; rw [if_neg (by simp), if_pos rfl, Nat.zero_or]
      rw [shLₓ, if_neg (show ¬ iₓ = 99 by omega), hg, ← f1ₓ]
      show fX5_findNeeds_31_b (fX5_findNeeds_31 fₓ) Sₓ (nI hₓ) (nI (wy (V.2.1 hₓ 0) (V.2.1 hₓ 3))) (nI aₓ) (nI iₓ) = _
      unfold fX5_findNeeds_31_b
      rw [e1ₓ, if_neg (show ¬ nI V.1 ≤ nI iₓ by rw [nI_leI (by omega) (by omega)]; omega), eb, bnd_e, lti_e, nI_or, ep, bnd_e, es', bnd_e, show (10 : Int32) = nI 10 from rfl, pk_mul, nI_add, gd_in _ (show hₓ * 10 + iₓ < 120 by omega) (by omega), ltm_e, nI_clamp (show hₓ * 10 + iₓ < 2 ^ 31 by omega), Nat.mul_comm hₓ 10, show nI iₓ + 1 = nI (iₓ + 1) from nI_add iₓ 1]
    · by_cases eₓ : qₓ = iₓ
      · subst eₓ
        rw [f3ₓ (10 * hₓ + qₓ) (Or.inl (by omega)), mset_same, upd_same]
      · exact f2ₓ qₓ (by omega) h2
    · rw [f3ₓ jₓ (by omega), mset_same, upd_ne _ _ (by omega)]
theorem nd100 {V : Vw} (hBₓ : VB V) {hₓ : Nat} (hh : hₓ < 12) : ∀ (kₓ iₓ fₓ : Nat) (Sₓ : Mem), iₓ + kₓ = V.1 → kₓ < fₓ → XVw Sₓ V → fX5_findNeeds_100 fₓ Sₓ (nI hₓ) (nI (bdM V hₓ)) (nI iₓ) = some (nI 0, mput Sₓ 35 (upd (Sₓ 35) hₓ (orb (ndₓ V hₓ) kₓ iₓ (Sₓ 35 hₓ)))) := by
  have hn := hBₓ.1
  intro kₓ
  induction kₓ with
  | zero =>
    intro iₓ fₓ Sₓ hiₓ hf hX
    obtain ⟨fₓ, rfl⟩ : ∃ gₓ, fₓ = gₓ + 1 := ⟨fₓ - 1, by omega⟩
    have e1ₓ := hX.1
    have eu : upd (Sₓ 35) hₓ (Sₓ 35 hₓ) = Sₓ 35 := by
      funext jₓ
      by_cases eₓ : jₓ = hₓ
      · rw [eₓ, upd_same]
      · rw [upd_ne _ _ eₓ]
    show fX5_findNeeds_100_b (fX5_findNeeds_100 fₓ) Sₓ (nI hₓ) (nI (bdM V hₓ)) (nI iₓ) = _
    unfold fX5_findNeeds_100_b
    rw [e1ₓ, if_pos (nI_le (by omega) (by omega)), orb, eu, mput_id]
    rfl
  | succ kₓ ihₓ =>
    intro iₓ fₓ Sₓ hiₓ hf hX
    obtain ⟨fₓ, rfl⟩ : ∃ gₓ, fₓ = gₓ + 1 := ⟨fₓ - 1, by omega⟩
    have e1ₓ := hX.1
    have hp : iₓ < V.1 := by omega
    have es := shd_X hBₓ hX (mₓ := bdM V hₓ) hp
    show fX5_findNeeds_100_b (fX5_findNeeds_100 fₓ) Sₓ (nI hₓ) (nI (bdM V hₓ)) (nI iₓ) = _
    unfold fX5_findNeeds_100_b fX5_findNeeds_138
    rw [e1ₓ, if_neg (show ¬ nI V.1 ≤ nI iₓ by rw [nI_leI (by omega) (by omega)]; omega), es, bnd_e, orb, show nI iₓ + 1 = nI (iₓ + 1) from nI_add iₓ 1]
    by_cases cₓ : (decide (V.2.2 iₓ 6 = 1) || (bdM V hₓ).testBit (V.2.2 iₓ 0)) = true
    · rw [if_pos cₓ, if_neg (show ¬ nI 1 = 0 by decide), if_neg (show ¬ ndₓ V hₓ iₓ = true by unfold ndₓ; rw [cₓ]; simp)]
      exact ihₓ (iₓ + 1) fₓ Sₓ (by omega) (by omega) hX
    · rw [if_neg cₓ, if_pos (show nI 0 = 0 from rfl), if_pos (show ndₓ V hₓ iₓ = true by unfold ndₓ; simpa using cₓ), gd_in _ hh (by omega), gd_in _ hh (by omega), ltm_e, nI_clamp (by omega)]
      have zₓ := ihₓ (iₓ + 1) fₓ (mset Sₓ 35 hₓ (Sₓ 35 hₓ ||| one iₓ)) (by omega) (by omega) (hX.m 35 (by omega) _)
      rw [mset_same, upd_same] at zₓ
      have e2ₓ : mput (mset Sₓ 35 hₓ (Sₓ 35 hₓ ||| one iₓ)) 35 (upd (upd (Sₓ 35) hₓ (Sₓ 35 hₓ ||| one iₓ)) hₓ (orb (ndₓ V hₓ) kₓ (iₓ + 1) (Sₓ 35 hₓ ||| one iₓ))) = mput Sₓ 35 (upd (Sₓ 35) hₓ (orb (ndₓ V hₓ) kₓ (iₓ + 1) (Sₓ 35 hₓ ||| one iₓ))) := by
        rw [show mset Sₓ 35 hₓ (Sₓ 35 hₓ ||| one iₓ) = mput Sₓ 35 (upd (Sₓ 35) hₓ (Sₓ 35 hₓ ||| one iₓ)) from rfl, mput_mput]
        congr 1
        funext jₓ
        by_cases eₓ : jₓ = hₓ
        · rw [eₓ, upd_same, upd_same]
        · rw [upd_ne _ _ eₓ, upd_ne _ _ eₓ, upd_ne _ _ eₓ]
      rw [e2ₓ] at zₓ
      exact zₓ
/-- what is needed and what each parasol would cover, for the hours lo .. hi - 1 -/
def NdI (V : Vw) (Sₓ : Mem) (loₓ hiₓ : Nat) : Prop := ∀ hₓ, loₓ ≤ hₓ → hₓ < hiₓ → Sₓ 35 hₓ = orb (ndₓ V hₓ) V.1 0 (nI 0) ∧ ∀ qₓ, qₓ < V.1 → Sₓ 36 (10 * hₓ + qₓ) = cov V hₓ qₓ
theorem need_X {V : Vw} (hBₓ : VB V) {hₓ loₓ : Nat} (hh : hₓ < 12) {Sₓ : Mem} (hX : XVw Sₓ V) (hNₓ : NdI V Sₓ loₓ hₓ) : ∃ S', fX5_findNeeds Sₓ (nI hₓ) = some (nI 0, S') ∧ frm scX Sₓ S' ∧ NdI V S' loₓ (hₓ + 1) := by
  have hn := hBₓ.1
  have r8 : V.2.1 hₓ 3 < 8 := by have := hBₓ.2.1 hₓ hh; omega
  have e3ₓ := inH_V hX hh (show 3 < 5 by omega)
  have ew := way_X hBₓ hX hh r8
  obtain ⟨Fₓ, f1ₓ, f2ₓ, f3ₓ⟩ := nd31 hBₓ hh V.1 0 FU 0 Sₓ (by omega) (by unfold FU; omega) hX
  have hX2 : XVw (mset (mput Sₓ 36 Fₓ) 35 hₓ (nI 0)) V := (hX.m 36 (by omega) Fₓ).m 35 (by omega) _
  have zₓ := nd100 hBₓ hh V.1 0 FU _ (by omega) (by unfold FU; omega) hX2
  rw [show (mset (mput Sₓ 36 Fₓ) 35 hₓ (nI 0)) 35 = upd (Sₓ 35) hₓ (nI 0) by rw [mset_same, mput_ne _ _ (show 35 ≠ 36 by omega)], upd_same] at zₓ
  refine ⟨mput (mset (mput Sₓ 36 Fₓ) 35 hₓ (nI 0)) 35 (upd (upd (Sₓ 35) hₓ (nI 0)) hₓ (orb (ndₓ V hₓ) V.1 0 (nI 0))), ?_, ?_, ?_⟩
  · unfold fX5_findNeeds
    have hx : fX7_isHour Sₓ (nI hₓ) = some (nI 1, Sₓ) := by simp (disch := first | omega | assumption) only [fX7_isHour, mset_ne, mset_same, upd_same, upd_ne, ltm_e, lti_e, bnd_e, fa_lit, nI_add, pk_mul, nI_clamp, gd_in, nlt0, nI_ltI, nI_leI, nI_eq, if_true, if_false, if_pos, if_neg]
    rw [hx, bnd_e, if_neg (show ¬ nI 1 = 0 by decide), show (3 : Int32) = nI 3 from rfl, e3ₓ, bnd_e, ew, bnd_e, show (0 : Int32) = nI 0 from rfl, f1ₓ]
    exact zₓ
  · exact ((frm.put Sₓ Fₓ (by decide)).mput _ (by decide)).mput _ (by decide)
  · intro h' h1 h2
    rw [mput_same, mput_ne _ _ (show 36 ≠ 35 by omega), mset_ne _ _ _ (show 36 ≠ 35 by omega), mput_same]
    by_cases eₓ : h' = hₓ
    · subst eₓ
      exact ⟨upd_same _ _ _, fun qₓ hq => f2ₓ qₓ (by omega) hq⟩
    · rw [upd_ne _ _ eₓ, upd_ne _ _ eₓ]
      obtain ⟨q1ₓ, q2ₓ⟩ := hNₓ h' h1 (by omega)
      exact ⟨q1ₓ, fun qₓ hq => by rw [f3ₓ _ (Or.inl (by omega))]; exact q2ₓ qₓ hq⟩
/-! enough -/
def missₓ (V : Vw) (hₓ mₓ : Nat) : Nat → Nat → Int32 → Int32
  | 0, _, xₓ => xₓ
  | kₓ + 1, iₓ, xₓ => missₓ V hₓ mₓ kₓ (iₓ + 1) (if mₓ.testBit iₓ = true then xₓ &&& (cov V hₓ iₓ ^^^ -1) else xₓ)
theorem miss_0 (V : Vw) (hₓ mₓ : Nat) : ∀ kₓ iₓ, missₓ V hₓ mₓ kₓ iₓ 0 = 0 := by
  intro kₓ
  induction kₓ with
  | zero => intro iₓ; rfl
  | succ kₓ ihₓ =>
    intro iₓ
    rw [missₓ]
    have : (if mₓ.testBit iₓ = true then (0 : Int32) &&& (cov V hₓ iₓ ^^^ -1) else 0) = 0 := by
      split
      · exact b_ext (fun jₓ _ => by rw [b_and, b_0, Bool.false_and])
      · rfl
    rw [this]; exact ihₓ _
theorem miss_bit (V : Vw) (hₓ mₓ : Nat) {jₓ : Nat} (hj : jₓ < 32) : ∀ kₓ iₓ xₓ, bt (missₓ V hₓ mₓ kₓ iₓ xₓ) jₓ = true ↔ bt xₓ jₓ = true ∧ ∀ qₓ, iₓ ≤ qₓ → qₓ < iₓ + kₓ → mₓ.testBit qₓ = true → bt (cov V hₓ qₓ) jₓ = false := by
  intro kₓ
  induction kₓ with
  | zero => intro iₓ xₓ; exact ⟨fun qₓ => ⟨qₓ, fun qₓ h1 h2 => absurd h2 (by omega)⟩, fun qₓ => qₓ.1⟩
  | succ kₓ ihₓ =>
    intro iₓ xₓ
    rw [missₓ, ihₓ]
    by_cases cₓ : mₓ.testBit iₓ = true
    · rw [if_pos cₓ, b_and, b_xor, b_m1 jₓ hj, Bool.and_eq_true]
      constructor
      · rintro ⟨⟨h1, h2⟩, h3⟩
        refine ⟨h1, fun qₓ g1 g2 g3ₓ => ?_⟩
        by_cases eₓ : qₓ = iₓ
        · subst eₓ; simpa using h2
        · exact h3 qₓ (by omega) (by omega) g3ₓ
      · rintro ⟨h1, h2⟩
        refine ⟨⟨h1, ?_⟩, fun qₓ g1 g2 g3ₓ => h2 qₓ (by omega) (by omega) g3ₓ⟩
        rw [h2 iₓ (by omega) (by omega) cₓ]; rfl
    · rw [if_neg cₓ]
      constructor
      · rintro ⟨h1, h3⟩
        refine ⟨h1, fun qₓ g1 g2 g3ₓ => ?_⟩
        by_cases eₓ : qₓ = iₓ
        · subst eₓ; exact absurd g3ₓ cₓ
        · exact h3 qₓ (by omega) (by omega) g3ₓ
      · rintro ⟨h1, h2⟩
        exact ⟨h1, fun qₓ g1 g2 g3ₓ => h2 qₓ (by omega) (by omega) g3ₓ⟩
def enH (V : Vw) (hₓ mₓ : Nat) : Prop := ∀ pₓ, pₓ < V.1 → shAt V hₓ (V.2.1 hₓ 3) (fun jₓ => mₓ.testBit jₓ) true pₓ (V.2.2 pₓ 0)
theorem miss_en {V : Vw} (hBₓ : VB V) {hₓ : Nat} (hh : hₓ < 12) (mₓ : Nat) : missₓ V hₓ mₓ V.1 0 (orb (ndₓ V hₓ) V.1 0 (nI 0)) = 0 ↔ enH V hₓ mₓ := by
  have hn := hBₓ.1
  have e0ₓ : ∀ jₓ, bt (nI 0) jₓ = false := fun jₓ => b_0 jₓ
  have hnd : ∀ jₓ, jₓ < 32 → bt (orb (ndₓ V hₓ) V.1 0 (nI 0)) jₓ = (decide (jₓ < V.1) && ndₓ V hₓ jₓ) := fun jₓ hj => by
    rw [orb_bit _ _ _ _ _ (by omega), e0ₓ, Bool.false_or]; congr 1; exact decide_eq_decide.mpr (by omega)
  have hcv : ∀ qₓ jₓ, jₓ < 32 → bt (cov V hₓ qₓ) jₓ = (decide (jₓ < V.1) && (prM V hₓ qₓ).testBit (V.2.2 jₓ 0)) := fun qₓ jₓ hj => by
    unfold cov; rw [orb_bit _ _ _ _ _ (by omega), e0ₓ, Bool.false_or]; congr 1; exact decide_eq_decide.mpr (by omega)
  have gb : ∀ (sbₓ : Nat → Bool) jₓ cₓ, (gs V hₓ (V.2.1 hₓ 3) sbₓ true jₓ).testBit cₓ = true ↔ (sbₓ jₓ = true ∧ (prM V hₓ jₓ).testBit cₓ = true) ∨ (gs V hₓ (V.2.1 hₓ 3) (fun _ => false) true jₓ).testBit cₓ = true := by
    intro sbₓ jₓ cₓ
    unfold gs prM
    rw [Nat.testBit_or, Bool.or_eq_true, if_neg (show ¬ false = true by decide), Nat.zero_or]
    by_cases qₓ : sbₓ jₓ = true
    · rw [if_pos qₓ]; simp [qₓ]
    · rw [if_neg qₓ, Nat.zero_testBit]; simp [qₓ]
  rw [eq0_iff]
  constructor
  · intro zₓ pₓ hp
    have hz := zₓ pₓ (by omega)
    have : ¬ (bt (orb (ndₓ V hₓ) V.1 0 (nI 0)) pₓ = true ∧ ∀ qₓ, 0 ≤ qₓ → qₓ < 0 + V.1 → mₓ.testBit qₓ = true → bt (cov V hₓ qₓ) pₓ = false) := fun qₓ => by
      rw [← miss_bit V hₓ mₓ (show pₓ < 32 by omega)] at qₓ; rw [hz] at qₓ; cases qₓ
    rw [hnd pₓ (by omega), decide_eq_true hp, Bool.true_and] at this
    by_cases cₓ : ndₓ V hₓ pₓ = true
    · have : ∃ qₓ, qₓ < V.1 ∧ mₓ.testBit qₓ = true ∧ (prM V hₓ qₓ).testBit (V.2.2 pₓ 0) = true := by
        refine Classical.byContradiction (fun wₓ => this ⟨cₓ, fun qₓ _ g2 g3ₓ => ?_⟩)
        rw [hcv qₓ pₓ (by omega), decide_eq_true hp, Bool.true_and]
        cases yₓ : (prM V hₓ qₓ).testBit (V.2.2 pₓ 0)
        · rfl
        · exact absurd ⟨qₓ, by omega, g3ₓ, yₓ⟩ wₓ
      obtain ⟨qₓ, q1ₓ, q2ₓ, q3ₓ⟩ := this
      by_cases eₓ : qₓ = pₓ
      · subst eₓ; exact Or.inr (Or.inl q2ₓ)
      · exact Or.inl ⟨qₓ, q1ₓ, eₓ, (gb _ qₓ _).2 (Or.inl ⟨q2ₓ, q3ₓ⟩)⟩
    · unfold ndₓ at cₓ
      have c' : (decide (V.2.2 pₓ 6 = 1) || (bdM V hₓ).testBit (V.2.2 pₓ 0)) = true := by
        cases hz : (decide (V.2.2 pₓ 6 = 1) || (bdM V hₓ).testBit (V.2.2 pₓ 0)) with
        | true => rfl
        | false => exact absurd (by rw [hz]; rfl) cₓ
      rw [Bool.or_eq_true, decide_eq_true_eq] at c'
      rcases c' with c' | c'
      · exact Or.inr (Or.inr c')
      · unfold bdM at c'
        rw [shL_bit] at c'
        rcases c' with c' | ⟨jₓ, h1, h2, h3, h4⟩
        · rw [Nat.zero_testBit] at c'; cases c'
        · have eₓ : jₓ ≠ pₓ := fun eₓ => by
            subst eₓ
            rw [gs_own hBₓ hh _ _ (by omega)] at h4; cases h4
          exact Or.inl ⟨jₓ, by omega, eₓ, (gb _ jₓ _).2 (Or.inr h4)⟩
  · intro zₓ jₓ hj
    cases yₓ : bt (missₓ V hₓ mₓ V.1 0 (orb (ndₓ V hₓ) V.1 0 (nI 0))) jₓ
    · rfl
    · rw [miss_bit V hₓ mₓ hj, hnd jₓ hj, Bool.and_eq_true, decide_eq_true_eq] at yₓ
      obtain ⟨⟨y1, y2⟩, y3⟩ := yₓ
      unfold ndₓ at y2
      have y2' : (decide (V.2.2 jₓ 6 = 1) || (bdM V hₓ).testBit (V.2.2 jₓ 0)) = false := by simpa using y2
      rw [Bool.or_eq_false_iff, decide_eq_false_iff_not] at y2'
      have nb : ∀ qₓ, qₓ < V.1 → mₓ.testBit qₓ = true → (prM V hₓ qₓ).testBit (V.2.2 jₓ 0) = false := fun qₓ hq hmₓ => by
        have := y3 qₓ (by omega) (by omega) hmₓ
        rw [hcv qₓ jₓ hj, decide_eq_true y1, Bool.true_and] at this
        exact this
      have nbd : ∀ qₓ, qₓ < V.1 → ¬ (gs V hₓ (V.2.1 hₓ 3) (fun _ => false) true qₓ).testBit (V.2.2 jₓ 0) = true := fun qₓ hq wₓ => by
        have : (bdM V hₓ).testBit (V.2.2 jₓ 0) = true := by
          unfold bdM; rw [shL_bit]; exact Or.inr ⟨qₓ, by omega, by omega, by omega, wₓ⟩
        rw [this] at y2'; cases y2'.2
      rcases zₓ jₓ y1 with ⟨qₓ, q1ₓ, q2ₓ, q3ₓ⟩ | qₓ | qₓ
      · rcases (gb _ qₓ _).1 q3ₓ with ⟨w1ₓ, w2ₓ⟩ | wₓ
        · rw [nb qₓ q1ₓ w1ₓ] at w2ₓ; cases w2ₓ
        · exact absurd wₓ (nbd qₓ q1ₓ)
      · have := nb jₓ y1 qₓ
        have b0 := (hBₓ.2.2.1 jₓ (by omega)).1
        have baₓ := (hBₓ.2.1 hₓ hh).2.1
        unfold prM at this
        rw [show 5 - V.2.1 hₓ 1 = (4 - V.2.1 hₓ 1) + 1 by omega, par_own (by omega)] at this
        cases this
      · exact absurd qₓ y2'.1
theorem en_Xin {V : Vw} (hBₓ : VB V) {Sₓ : Mem} (hX : XVw Sₓ V) {hₓ toₓ mₓ : Nat} (hh : hₓ < 12) (hmₓ : mₓ < 1024) (hNₓ : ∀ qₓ, qₓ < V.1 → Sₓ 36 (10 * hₓ + qₓ) = cov V hₓ qₓ) (k0ₓ : Mem → Int32 → Int32 → Int32 → O) : ∀ (kₓ iₓ fₓ : Nat) (xₓ : Int32), iₓ + kₓ = V.1 → kₓ < fₓ → fX5_isEnough_32 k0ₓ fₓ Sₓ (nI mₓ) (nI toₓ) (nI hₓ) xₓ (nI iₓ) = fX5_isEnough_85 k0ₓ Sₓ (nI mₓ) (nI toₓ) (nI hₓ) (missₓ V hₓ mₓ kₓ iₓ xₓ) := by
  have hn := hBₓ.1
  have e1ₓ := hX.1
  intro kₓ
  induction kₓ with
  | zero =>
    intro iₓ fₓ xₓ hiₓ hf
    obtain ⟨fₓ, rfl⟩ : ∃ gₓ, fₓ = gₓ + 1 := ⟨fₓ - 1, by omega⟩
    show fX5_isEnough_32_b k0ₓ (fX5_isEnough_32 k0ₓ fₓ) Sₓ (nI mₓ) (nI toₓ) (nI hₓ) xₓ (nI iₓ) = _
    unfold fX5_isEnough_32_b
    rw [e1ₓ, if_pos (nI_le (by omega) (by omega)), missₓ]
  | succ kₓ ihₓ =>
    intro iₓ fₓ xₓ hiₓ hf
    obtain ⟨fₓ, rfl⟩ : ∃ gₓ, fₓ = gₓ + 1 := ⟨fₓ - 1, by omega⟩
    have kb : ((nI mₓ >>> (nI iₓ &&& 31)) &&& (1 : Int32)) = if mₓ.testBit iₓ = true then 1 else 0 := bitI_nI _ (by omega)
    show fX5_isEnough_32_b k0ₓ (fX5_isEnough_32 k0ₓ fₓ) Sₓ (nI mₓ) (nI toₓ) (nI hₓ) xₓ (nI iₓ) = _
    unfold fX5_isEnough_32_b fX5_isEnough_79
    rw [e1ₓ, if_neg (show ¬ nI V.1 ≤ nI iₓ by rw [nI_leI (by omega) (by omega)]; omega)]
    by_cases x0ₓ : xₓ = 0
    · rw [if_pos x0ₓ, x0ₓ, miss_0]
    · rw [if_neg x0ₓ, kb, missₓ, show nI iₓ + 1 = nI (iₓ + 1) from nI_add iₓ 1]
      by_cases cₓ : mₓ.testBit iₓ = true
      · rw [if_pos cₓ, if_pos rfl, if_pos cₓ, show (10 : Int32) = nI 10 from rfl, pk_mul, nI_add, gd_in _ (show hₓ * 10 + iₓ < 120 by omega) (by omega), lti_e, nI_clamp (show hₓ * 10 + iₓ < 2 ^ 31 by omega), Nat.mul_comm hₓ 10, hNₓ iₓ (by omega)]
        exact ihₓ (iₓ + 1) fₓ _ (by omega) (by omega)
      · rw [if_neg cₓ, if_neg (show ¬ (0 : Int32) = 1 by decide), if_neg cₓ]
        exact ihₓ (iₓ + 1) fₓ _ (by omega) (by omega)
theorem en_Min {V : Vw} (hBₓ : VB V) {T : Mem} (hMₓ : MVw T V) {hₓ toₓ mₓ : Nat} (hh : hₓ < 12) (hmₓ : mₓ < 1024) (hG : ∀ cₓ jₓ, cₓ < 25 → bt (T 21 cₓ) jₓ = (decide (jₓ < V.1) && (gs V hₓ (V.2.1 hₓ 3) (bt (nI mₓ)) true jₓ).testBit cₓ)) (k0ₓ : Mem → Int32 → Int32 → Int32 → O) : ∀ (kₓ iₓ fₓ : Nat), iₓ + kₓ = V.1 → kₓ < fₓ → ((∀ pₓ, iₓ ≤ pₓ → pₓ < V.1 → shAt V hₓ (V.2.1 hₓ 3) (bt (nI mₓ)) true pₓ (V.2.2 pₓ 0)) ∧ fX8_areEnough_31 k0ₓ fₓ T (nI mₓ) (nI toₓ) (nI hₓ) (nI iₓ) = k0ₓ T (nI mₓ) (nI toₓ) (nI (hₓ + 1))) ∨ (¬ (∀ pₓ, iₓ ≤ pₓ → pₓ < V.1 → shAt V hₓ (V.2.1 hₓ 3) (bt (nI mₓ)) true pₓ (V.2.2 pₓ 0)) ∧ fX8_areEnough_31 k0ₓ fₓ T (nI mₓ) (nI toₓ) (nI hₓ) (nI iₓ) = some (nI 0, T)) := by
  have hn := hBₓ.1
  have e1ₓ := hMₓ.1
  intro kₓ
  induction kₓ with
  | zero =>
    intro iₓ fₓ hiₓ hf
    obtain ⟨fₓ, rfl⟩ : ∃ gₓ, fₓ = gₓ + 1 := ⟨fₓ - 1, by omega⟩
    refine Or.inl ⟨fun pₓ h1 h2 => absurd h2 (by omega), ?_⟩
    show fX8_areEnough_31_b k0ₓ (fX8_areEnough_31 k0ₓ fₓ) T (nI mₓ) (nI toₓ) (nI hₓ) (nI iₓ) = _
    unfold fX8_areEnough_31_b
    rw [e1ₓ, if_pos (nI_le (by omega) (by omega)), show nI hₓ + 1 = nI (hₓ + 1) from nI_add hₓ 1]
  | succ kₓ ihₓ =>
    intro iₓ fₓ hiₓ hf
    obtain ⟨fₓ, rfl⟩ : ∃ gₓ, fₓ = gₓ + 1 := ⟨fₓ - 1, by omega⟩
    have hp : iₓ < V.1 := by omega
    have e0ₓ := (hMₓ.2.2 iₓ (by omega)).1
    have b0 := (hBₓ.2.2.1 iₓ (by omega)).1
    obtain ⟨vₓ, v1ₓ, v2⟩ := shd_M hBₓ hMₓ (Gₓ := T 21) hG rfl hp (show V.2.2 iₓ 0 < 25 by omega)
    have stepₓ : fX8_areEnough_31 k0ₓ (fₓ + 1) T (nI mₓ) (nI toₓ) (nI hₓ) (nI iₓ) = if vₓ = 0 then some (nI 0, T) else fX8_areEnough_31 k0ₓ fₓ T (nI mₓ) (nI toₓ) (nI hₓ) (nI (iₓ + 1)) := by
      show fX8_areEnough_31_b k0ₓ (fX8_areEnough_31 k0ₓ fₓ) T (nI mₓ) (nI toₓ) (nI hₓ) (nI iₓ) = _
      unfold fX8_areEnough_31_b
      rw [e1ₓ, if_neg (show ¬ nI V.1 ≤ nI iₓ by rw [nI_leI (by omega) (by omega)]; omega), show (5 : Int32) = nI 5 from rfl, nI_add, gd_in _ (show 5 + iₓ < 55 by omega) (by omega), nI_clamp (show 5 + iₓ < 2 ^ 31 by omega), e0ₓ, v1ₓ, bnd_e, show nI iₓ + 1 = nI (iₓ + 1) from nI_add iₓ 1]
      rfl
    rw [stepₓ]
    rcases v2 with ⟨aₓ, bₓ⟩ | ⟨aₓ, bₓ⟩
    · rw [bₓ, if_neg (show ¬ nI 1 = 0 by decide)]
      rcases ihₓ (iₓ + 1) fₓ (by omega) (by omega) with ⟨z1, z2⟩ | ⟨z1, z2⟩
      · refine Or.inl ⟨fun pₓ h1 h2 => ?_, z2⟩
        by_cases eₓ : pₓ = iₓ
        · subst eₓ; exact aₓ
        · exact z1 pₓ (by omega) h2
      · exact Or.inr ⟨fun qₓ => z1 (fun pₓ h1 h2 => qₓ pₓ (by omega) h2), z2⟩
    · rw [bₓ, if_pos (show nI 0 = 0 from rfl)]
      exact Or.inr ⟨fun qₓ => aₓ (qₓ iₓ (by omega) hp), rfl⟩
theorem en_both {V : Vw} (hBₓ : VB V) {toₓ mₓ : Nat} (ht : toₓ < 12) (hmₓ : mₓ < 1024) {Sₓ : Mem} (hX : XVw Sₓ V) : ∀ (kₓ iₓ fₓ : Nat) (T : Mem), iₓ + kₓ = toₓ + 1 → kₓ < fₓ → MVw T V → NdI V Sₓ iₓ (toₓ + 1) → ∃ bₓ T', bₓ < 2 ∧ fX5_isEnough_7 fₓ Sₓ (nI mₓ) (nI toₓ) (nI iₓ) = some (nI bₓ, Sₓ) ∧ fX8_areEnough_3 fₓ T (nI mₓ) (nI toₓ) (nI iₓ) = some (nI bₓ, T') ∧ frm scM T T' := by
  intro kₓ
  induction kₓ with
  | zero =>
    intro iₓ fₓ T hiₓ hf hMₓ hNₓ
    obtain ⟨fₓ, rfl⟩ : ∃ gₓ, fₓ = gₓ + 1 := ⟨fₓ - 1, by omega⟩
    refine ⟨1, T, by omega, ?_, ?_, frm.rf _ _⟩
    · show fX5_isEnough_7_b (fX5_isEnough_7 fₓ) Sₓ (nI mₓ) (nI toₓ) (nI iₓ) = _
      unfold fX5_isEnough_7_b
      rw [if_pos (nI_lt (by omega) (by omega))]
      rfl
    · show fX8_areEnough_3_b (fX8_areEnough_3 fₓ) T (nI mₓ) (nI toₓ) (nI iₓ) = _
      unfold fX8_areEnough_3_b
      rw [if_pos (nI_lt (by omega) (by omega))]
      rfl
  | succ kₓ ihₓ =>
    intro iₓ fₓ T hiₓ hf hMₓ hNₓ
    obtain ⟨fₓ, rfl⟩ : ∃ gₓ, fₓ = gₓ + 1 := ⟨fₓ - 1, by omega⟩
    have hn := hBₓ.1
    have hh : iₓ < 12 := by omega
    have r8 : V.2.1 iₓ 3 < 8 := by have := hBₓ.2.1 iₓ hh; omega
    have m3ₓ := hMₓ.2.1 iₓ 3 hh (by omega)
    obtain ⟨Gₓ, g1, g2⟩ := finds_M hBₓ hMₓ hh r8 (show 1 < 2 by omega) (nI mₓ)
    obtain ⟨n1ₓ, n2ₓ⟩ := hNₓ iₓ (by omega) (by omega)
    have hM2 := hMₓ.m 21 (by omega) Gₓ
    have zM := en_Min hBₓ hM2 (toₓ := toₓ) hh hmₓ (fun cₓ jₓ hcₓ => by rw [mput_same]; exact g2 cₓ jₓ hcₓ) (fX8_areEnough_3 fₓ) V.1 0 FU (by omega) (by unfold FU; omega)
    have zX := en_Xin hBₓ hX (toₓ := toₓ) hh hmₓ n2ₓ (fX5_isEnough_7 fₓ) V.1 0 FU (Sₓ 35 iₓ) (by omega) (by unfold FU; omega)
    have hen := miss_en hBₓ hh mₓ
    rw [← n1ₓ] at hen
    have hsame : enH V iₓ mₓ ↔ ∀ pₓ, 0 ≤ pₓ → pₓ < V.1 → shAt V iₓ (V.2.1 iₓ 3) (bt (nI mₓ)) true pₓ (V.2.2 pₓ 0) := by
      have hbₓ : ∀ jₓ, jₓ < 32 → bt (nI mₓ) jₓ = mₓ.testBit jₓ := fun jₓ hj => bt_nI mₓ hj
      have hs : ∀ pₓ, pₓ < V.1 → (shAt V iₓ (V.2.1 iₓ 3) (bt (nI mₓ)) true pₓ (V.2.2 pₓ 0) ↔ shAt V iₓ (V.2.1 iₓ 3) (fun jₓ => mₓ.testBit jₓ) true pₓ (V.2.2 pₓ 0)) := by
        intro pₓ hp
        unfold shAt
        rw [hbₓ pₓ (by omega)]
        constructor
        · rintro (⟨jₓ, h1, h2, h3⟩ | qₓ)
          · exact Or.inl ⟨jₓ, h1, h2, by rw [← gs_cg V iₓ (V.2.1 iₓ 3) true (sbₓ := bt (nI mₓ)) (sb' := fun jₓ => mₓ.testBit jₓ) (hbₓ jₓ (by omega))]; exact h3⟩
          · exact Or.inr qₓ
        · rintro (⟨jₓ, h1, h2, h3⟩ | qₓ)
          · exact Or.inl ⟨jₓ, h1, h2, by rw [gs_cg V iₓ (V.2.1 iₓ 3) true (sbₓ := bt (nI mₓ)) (sb' := fun jₓ => mₓ.testBit jₓ) (hbₓ jₓ (by omega))]; exact h3⟩
          · exact Or.inr qₓ
      exact ⟨fun qₓ pₓ _ hp => (hs pₓ hp).2 (qₓ pₓ hp), fun qₓ pₓ hp => (hs pₓ hp).1 (qₓ pₓ (by omega) hp)⟩
    have eX : fX5_isEnough_7 (fₓ + 1) Sₓ (nI mₓ) (nI toₓ) (nI iₓ) = fX5_isEnough_85 (fX5_isEnough_7 fₓ) Sₓ (nI mₓ) (nI toₓ) (nI iₓ) (missₓ V iₓ mₓ V.1 0 (Sₓ 35 iₓ)) := by
      rw [← zX]
      show fX5_isEnough_7_b (fX5_isEnough_7 fₓ) Sₓ (nI mₓ) (nI toₓ) (nI iₓ) = _
      unfold fX5_isEnough_7_b
      rw [if_neg (show ¬ nI toₓ < nI iₓ by rw [nI_ltI (by omega) (by omega)]; omega), if_neg (show ¬ (12 : Int32) ≤ nI iₓ by rw [show (12 : Int32) = nI 12 from rfl, nI_leI (by omega) (by omega)]; omega), gd_in _ hh (by omega), lti_e, nI_clamp (by omega), show (0 : Int32) = nI 0 from rfl]
    have eMₓ : fX8_areEnough_3 (fₓ + 1) T (nI mₓ) (nI toₓ) (nI iₓ) = fX8_areEnough_31 (fX8_areEnough_3 fₓ) FU (mput T 21 Gₓ) (nI mₓ) (nI toₓ) (nI iₓ) (nI 0) := by
      show fX8_areEnough_3_b (fX8_areEnough_3 fₓ) T (nI mₓ) (nI toₓ) (nI iₓ) = _
      unfold fX8_areEnough_3_b
      rw [if_neg (show ¬ nI toₓ < nI iₓ by rw [nI_ltI (by omega) (by omega)]; omega), show (3 : Int32) = nI 3 from rfl, show (5 : Int32) = nI 5 from rfl, pk_mul, nI_add, gd_in _ (show 5 * iₓ + 3 < 60 by omega) (by omega), nI_clamp (show 5 * iₓ + 3 < 2 ^ 31 by omega), m3ₓ, show (1 : Int32) = nI 1 from rfl, g1, bnd_e, show (0 : Int32) = nI 0 from rfl]
    rw [eX, eMₓ]
    rcases zM with ⟨z1, z2⟩ | ⟨z1, z2⟩
    · have : missₓ V iₓ mₓ V.1 0 (Sₓ 35 iₓ) = 0 := hen.2 (hsame.2 z1)
      obtain ⟨bₓ, T', b1, b2, b3, b4⟩ := ihₓ (iₓ + 1) fₓ (mput T 21 Gₓ) (by omega) (by omega) hM2 (fun hₓ h1 h2 => hNₓ hₓ (by omega) h2)
      refine ⟨bₓ, T', b1, ?_, ?_, (frm.put _ _ (by decide)).tr b4⟩
      · unfold fX5_isEnough_85
        rw [if_pos this, show nI iₓ + 1 = nI (iₓ + 1) from nI_add iₓ 1]
        exact b2
      · rw [z2]; exact b3
    · have : ¬ missₓ V iₓ mₓ V.1 0 (Sₓ 35 iₓ) = 0 := fun qₓ => z1 (hsame.1 (hen.1 qₓ))
      refine ⟨0, mput T 21 Gₓ, by omega, ?_, z2, frm.put _ _ (by decide)⟩
      unfold fX5_isEnough_85
      rw [if_neg this]
      rfl
/-! how many -/
def bcI (x0ₓ : Int32) : Int32 :=
  let x1ₓ := x0ₓ - ((ushr x0ₓ (1 : Int32)) &&& (1431655765 : Int32))
  let x2ₓ := (x1ₓ &&& (858993459 : Int32)) + ((ushr x1ₓ (2 : Int32)) &&& (858993459 : Int32))
  let x3 := (x2ₓ + (ushr x2ₓ (4 : Int32))) &&& (252645135 : Int32)
  let x4ₓ := x3 + (ushr x3 (8 : Int32))
  let x5ₓ := x4ₓ + (ushr x4ₓ (16 : Int32))
  x5ₓ &&& (63 : Int32)
theorem bc_e (Sₓ : Mem) (xₓ : Int32) : fJ6_bitCount Sₓ xₓ = some (bcI xₓ, Sₓ) := by
  unfold fJ6_bitCount bcI
  simp only [lti_e]
def onP : Nat → Int32 → Int32 → Option Int32
  | 0, _, _ => none
  | fₓ + 1, aₓ, xₓ => if xₓ = 0 then some aₓ else onP fₓ (aₓ + 1) (xₓ &&& (xₓ - 1))
theorem onP_e (T : Mem) : ∀ (fₓ gₓ : Nat) (aₓ xₓ vₓ : Int32), fₓ ≤ gₓ → onP fₓ aₓ xₓ = some vₓ → fX8_ones_4 gₓ T aₓ xₓ = some (vₓ, T) := by
  intro fₓ
  induction fₓ with
  | zero => intro gₓ aₓ xₓ vₓ _ hₓ; cases hₓ
  | succ fₓ ihₓ =>
    intro gₓ aₓ xₓ vₓ hg hₓ
    obtain ⟨gₓ, rfl⟩ : ∃ kₓ, gₓ = kₓ + 1 := ⟨gₓ - 1, by omega⟩
    show fX8_ones_4_b (fX8_ones_4 gₓ) T aₓ xₓ = _
    unfold fX8_ones_4_b
    rw [onP] at hₓ
    by_cases cₓ : xₓ = 0
    · rw [if_pos cₓ] at hₓ ⊢
      cases hₓ; rfl
    · rw [if_neg cₓ] at hₓ ⊢
      rw [lti_e, lti_e]
      exact ihₓ gₓ _ _ _ (by omega) hₓ
theorem on_bc : ∀ mₓ, mₓ < 1024 → onP 12 0 (nI mₓ) = some (bcI (nI mₓ)) := by decide +kernel
theorem ones_M (T : Mem) {mₓ : Nat} (hmₓ : mₓ < 1024) : fX8_ones T (nI mₓ) = some (bcI (nI mₓ), T) := onP_e T 12 FU 0 (nI mₓ) _ (by unfold FU; omega) (on_bc mₓ hmₓ)
theorem one_n : ∀ nₓ, nₓ ≤ 10 → one nₓ = nI (2 ^ nₓ) := by
  intro nₓ hn
  exact (by decide +kernel : ∀ nₓ, nₓ < 11 → one nₓ = nI (2 ^ nₓ)) nₓ (by omega)
theorem few_loop {V : Vw} (hBₓ : VB V) {aₓ toₓ : Nat} (haₓ : aₓ ≤ toₓ) (ht : toₓ < 12) {Sₓ : Mem} (hX : XVw Sₓ V) (hNₓ : NdI V Sₓ aₓ (toₓ + 1)) : ∀ (kₓ iₓ fₓ : Nat) (T : Mem) (bₓ : Nat), iₓ + kₓ = 2 ^ V.1 → kₓ < fₓ → MVw T V → bₓ < 1024 → ∃ rₓ T', fX5_fewestBearers_33 fₓ Sₓ (nI aₓ) (nI toₓ) (nI bₓ) (nI iₓ) = some (rₓ, Sₓ) ∧ fX8_fewest_28 fₓ T (nI aₓ) (nI toₓ) (nI bₓ) (nI iₓ) = some (rₓ, T') ∧ frm scM T T' := by
  have hn := hBₓ.1
  have h2n : 2 ^ V.1 ≤ 1024 := by
    have := Nat.pow_le_pow_right (show 0 < 2 by omega) hn
    omega
  have e1ₓ := hX.1
  have o := one_n V.1 hn
  have o' : (1 : Int32) <<< (nI V.1 &&& 31) = nI (2 ^ V.1) := o
  intro kₓ
  induction kₓ with
  | zero =>
    intro iₓ fₓ T bₓ hiₓ hf hMₓ hbₓ
    obtain ⟨fₓ, rfl⟩ : ∃ gₓ, fₓ = gₓ + 1 := ⟨fₓ - 1, by omega⟩
    have e2ₓ := hMₓ.1
    refine ⟨nI bₓ, T, ?_, ?_, frm.rf _ _⟩
    · show fX5_fewestBearers_33_b (fX5_fewestBearers_33 fₓ) Sₓ (nI aₓ) (nI toₓ) (nI bₓ) (nI iₓ) = _
      unfold fX5_fewestBearers_33_b
      rw [e1ₓ, o', if_pos (nI_le (by omega) (by omega))]
    · show fX8_fewest_28_b (fX8_fewest_28 fₓ) T (nI aₓ) (nI toₓ) (nI bₓ) (nI iₓ) = _
      unfold fX8_fewest_28_b
      rw [e2ₓ, o', if_pos (nI_le (by omega) (by omega))]
  | succ kₓ ihₓ =>
    intro iₓ fₓ T bₓ hiₓ hf hMₓ hbₓ
    obtain ⟨fₓ, rfl⟩ : ∃ gₓ, fₓ = gₓ + 1 := ⟨fₓ - 1, by omega⟩
    have e2ₓ := hMₓ.1
    have hi2 : iₓ < 1024 := by omega
    have nleₓ : ¬ nI (2 ^ V.1) ≤ nI iₓ := by rw [nI_leI (by omega) (by omega)]; omega
    show ∃ rₓ T', fX5_fewestBearers_33_b (fX5_fewestBearers_33 fₓ) Sₓ (nI aₓ) (nI toₓ) (nI bₓ) (nI iₓ) = some (rₓ, Sₓ) ∧ fX8_fewest_28_b (fX8_fewest_28 fₓ) T (nI aₓ) (nI toₓ) (nI bₓ) (nI iₓ) = some (rₓ, T') ∧ frm scM T T'
    unfold fX5_fewestBearers_33_b fX8_fewest_28_b fX5_fewestBearers_73 fX8_fewest_67
    rw [e1ₓ, e2ₓ, o', if_neg nleₓ, if_neg nleₓ, bc_e, bnd_e, bc_e, bnd_e, ones_M T hi2, bnd_e, ones_M T hbₓ, bnd_e, show nI iₓ + 1 = nI (iₓ + 1) from nI_add iₓ 1]
    by_cases cₓ : bcI (nI bₓ) ≤ bcI (nI iₓ)
    · rw [if_pos cₓ, if_pos cₓ]
      exact ihₓ (iₓ + 1) fₓ T bₓ (by omega) (by omega) hMₓ hbₓ
    · rw [if_neg cₓ, if_neg cₓ]
      obtain ⟨eₓ, T1, t1ₓ, t2ₓ, t3ₓ, t4ₓ⟩ := en_both hBₓ ht hi2 hX (toₓ + 1 - aₓ) aₓ FU T (by omega) (by unfold FU; omega) hMₓ hNₓ
      have t2' : fX5_isEnough Sₓ (nI iₓ) (nI aₓ) (nI toₓ) = some (nI eₓ, Sₓ) := by
        unfold fX5_isEnough
        have im : imax (0 : Int32) (nI aₓ) = nI aₓ := by
          unfold imax
          by_cases qₓ : (0 : Int32) < nI aₓ
          · rw [if_pos qₓ]
          · rw [if_neg qₓ]
            rw [show (0 : Int32) = nI 0 from rfl, nI_ltI (by omega) (by omega)] at qₓ
            rw [show aₓ = 0 by omega]; rfl
        rw [lti_e, im]; exact t2ₓ
      have t3' : fX8_areEnough T (nI iₓ) (nI aₓ) (nI toₓ) = some (nI eₓ, T1) := t3ₓ
      rw [t2', t3', bnd_e, bnd_e]
      by_cases e0ₓ : eₓ = 0
      · subst e0ₓ
        rw [if_pos (show nI 0 = 0 from rfl), if_pos (show nI 0 = 0 from rfl)]
        obtain ⟨rₓ, T', z1, z2, z3⟩ := ihₓ (iₓ + 1) fₓ T1 bₓ (by omega) (by omega) (hMₓ.fr t4ₓ) hbₓ
        exact ⟨rₓ, T', z1, z2, t4ₓ.tr z3⟩
      · have e1' : ¬ nI eₓ = 0 := by rw [show (0 : Int32) = nI 0 from rfl, nI_eq (by omega) (by omega)]; exact e0ₓ
        rw [if_neg e1', if_neg e1']
        obtain ⟨rₓ, T', z1, z2, z3⟩ := ihₓ (iₓ + 1) fₓ T1 iₓ (by omega) (by omega) (hMₓ.fr t4ₓ) hi2
        exact ⟨rₓ, T', z1, z2, t4ₓ.tr z3⟩
theorem needs_loop {V : Vw} (hBₓ : VB V) {aₓ toₓ : Nat} (haₓ : aₓ ≤ toₓ) (ht : toₓ < 12) : ∀ (kₓ iₓ fₓ : Nat) (Sₓ : Mem), iₓ + kₓ = toₓ + 1 → kₓ < fₓ → aₓ ≤ iₓ → XVw Sₓ V → NdI V Sₓ aₓ iₓ → ∃ S', fX5_fewestBearers_2 fₓ Sₓ (nI aₓ) (nI toₓ) (nI iₓ) = fX5_fewestBearers_33 FU S' (nI aₓ) (nI toₓ) (nI (2 ^ V.1 - 1)) (nI 0) ∧ frm scX Sₓ S' ∧ NdI V S' aₓ (toₓ + 1) := by
  have hn := hBₓ.1
  have o' : (1 : Int32) <<< (nI V.1 &&& 31) = nI (2 ^ V.1) := one_n V.1 hn
  have hpos : 1 ≤ 2 ^ V.1 := Nat.one_le_two_pow
  intro kₓ
  induction kₓ with
  | zero =>
    intro iₓ fₓ Sₓ hiₓ hf hai hX hNₓ
    obtain ⟨fₓ, rfl⟩ : ∃ gₓ, fₓ = gₓ + 1 := ⟨fₓ - 1, by omega⟩
    have hiₓ : iₓ = toₓ + 1 := by omega
    subst hiₓ
    have e1ₓ := hX.1
    refine ⟨Sₓ, ?_, frm.rf _ _, hNₓ⟩
    show fX5_fewestBearers_2_b (fX5_fewestBearers_2 fₓ) Sₓ (nI aₓ) (nI toₓ) (nI (toₓ + 1)) = _
    unfold fX5_fewestBearers_2_b
    rw [if_pos (nI_lt (by omega) (by omega)), lti_e, e1ₓ, o', show (1 : Int32) = nI 1 from rfl, pk_sub hpos, show (0 : Int32) = nI 0 from rfl]
  | succ kₓ ihₓ =>
    intro iₓ fₓ Sₓ hiₓ hf hai hX hNₓ
    obtain ⟨fₓ, rfl⟩ : ∃ gₓ, fₓ = gₓ + 1 := ⟨fₓ - 1, by omega⟩
    obtain ⟨S1, s1ₓ, s2ₓ, s3ₓ⟩ := need_X hBₓ (show iₓ < 12 by omega) hX hNₓ
    obtain ⟨S2, z1, z2, z3⟩ := ihₓ (iₓ + 1) fₓ S1 (by omega) (by omega) (by omega) (hX.fr s2ₓ) s3ₓ
    refine ⟨S2, ?_, s2ₓ.tr z2, z3⟩
    rw [← z1]
    show fX5_fewestBearers_2_b (fX5_fewestBearers_2 fₓ) Sₓ (nI aₓ) (nI toₓ) (nI iₓ) = _
    unfold fX5_fewestBearers_2_b
    rw [if_neg (show ¬ nI toₓ < nI iₓ by rw [nI_ltI (by omega) (by omega)]; omega), s1ₓ, bnd_e, show nI iₓ + 1 = nI (iₓ + 1) from nI_add iₓ 1]
theorem sim_fewest (xₓ yₓ : Int32) : Sim RR (fun Sₓ => fX7_fewest Sₓ xₓ yₓ) (fun T => fX8_fewest T xₓ yₓ) := by
  intro Sₓ T hR
  obtain ⟨V, tₓ, hBₓ, hX, hMₓ, -⟩ := hR.vw
  have hn := hBₓ.1
  rcases hrs_X Sₓ xₓ yₓ with ⟨aₓ, bₓ, hab, hbₓ, rfl, rfl, h1, h2⟩ | ⟨h1, h2⟩
  · obtain ⟨S1, s1ₓ, s2ₓ, s3ₓ⟩ := needs_loop hBₓ hab hbₓ (bₓ + 1 - aₓ) aₓ FU Sₓ (by omega) (by unfold FU; omega) (Nat.le_refl aₓ) hX (fun hₓ q1ₓ q2ₓ => absurd q2ₓ (by omega))
    have h2n : 2 ^ V.1 ≤ 1024 := by
      have := Nat.pow_le_pow_right (show 0 < 2 by omega) hn
      omega
    have hpos : 1 ≤ 2 ^ V.1 := Nat.one_le_two_pow
    obtain ⟨rₓ, T', z1, z2, z3⟩ := few_loop hBₓ hab hbₓ (hX.fr s2ₓ) s3ₓ (2 ^ V.1) 0 FU (mset T 0 0 (nI 0)) (2 ^ V.1 - 1) (by omega) (by unfold FU; omega) hMₓ (by omega)
    refine ⟨rₓ, S1, T', ?_, ?_, hR.fr s2ₓ z3⟩
    · show fX7_fewest Sₓ (nI aₓ) (nI bₓ) = _
      unfold fX7_fewest fX5_fewestBearers
      rw [h1, bnd_e, if_neg (show ¬ nI 1 = 0 by decide), s1ₓ, z1, bnd_e]
    · show fX8_fewest T (nI aₓ) (nI bₓ) = _
      have o' : (1 : Int32) <<< (nI V.1 &&& 31) = nI (2 ^ V.1) := one_n V.1 hn
      have e6ₓ : (mset T 0 0 (nI 0)) 0 6 = nI V.1 := hMₓ.1
      unfold fX8_fewest
      rw [ltm_e, h2, bnd_e, if_neg (show ¬ nI 1 = 0 by decide), lti_e, show (0 : Int32) = nI 0 from rfl, e6ₓ, o', show (1 : Int32) = nI 1 from rfl, pk_sub hpos]
      exact z2
  · refine ⟨-nI 1, Sₓ, mset T 0 0 (nI 0), ?_, ?_, hR.told 0⟩
    · simp (disch := first | omega | assumption) only [fX7_fewest, h1, mset_ne, mset_same, upd_same, upd_ne, ltm_e, lti_e, bnd_e, fa_lit, nI_add, pk_mul, nI_clamp, gd_in, nlt0, nI_ltI, nI_leI, nI_eq, if_true, if_false, if_pos, if_neg]
    · simp (disch := first | omega | assumption) only [fX8_fewest, h2, mset_ne, mset_same, upd_same, upd_ne, ltm_e, lti_e, bnd_e, fa_lit, nI_add, pk_mul, nI_clamp, gd_in, nlt0, nI_ltI, nI_leI, nI_eq, if_true, if_false, if_pos, if_neg]
