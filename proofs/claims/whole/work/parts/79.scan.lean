/-! text: the TOKENS; both sides read the same ones -/
def Tp (nₓ : Nat) (bₓ : Nat → Nat) (Sₓ T : Mem) : Prop := nₓ ≤ 400 ∧ Sₓ 38 1 = nI nₓ ∧ T 0 16 = nI nₓ ∧ (∀ jₓ, jₓ < nₓ → Sₓ 39 jₓ &&& (255 : Int32) = nI (bₓ jₓ) ∧ T 11 jₓ = nI (bₓ jₓ) ∧ bₓ jₓ < 256) ∧ ∀ jₓ, jₓ < 94 → T 12 jₓ = wordsC.getD jₓ 0
def rn (qₓ : Nat → Bool) (bₓ : Nat → Nat) : Nat → Nat → Nat
  | 0, iₓ => iₓ
  | kₓ + 1, iₓ => if qₓ (bₓ iₓ) = true then rn qₓ bₓ kₓ (iₓ + 1) else iₓ
theorem rn_le (qₓ : Nat → Bool) (bₓ : Nat → Nat) : ∀ kₓ iₓ, iₓ ≤ rn qₓ bₓ kₓ iₓ ∧ rn qₓ bₓ kₓ iₓ ≤ iₓ + kₓ := by
  intro kₓ
  induction kₓ with
  | zero => intro iₓ; exact ⟨Nat.le_refl iₓ, Nat.le_refl _⟩
  | succ kₓ ihₓ =>
    intro iₓ
    rw [rn]
    by_cases hₓ : qₓ (bₓ iₓ) = true
    · rw [if_pos hₓ]
      obtain ⟨h1, h2⟩ := ihₓ (iₓ + 1)
      omega
    · rw [if_neg hₓ]; omega
theorem rn_in (qₓ : Nat → Bool) (bₓ : Nat → Nat) : ∀ kₓ iₓ jₓ, iₓ ≤ jₓ → jₓ < rn qₓ bₓ kₓ iₓ → qₓ (bₓ jₓ) = true := by
  intro kₓ
  induction kₓ with
  | zero => intro iₓ jₓ h1 h2; exact absurd h2 (by rw [rn]; omega)
  | succ kₓ ihₓ =>
    intro iₓ jₓ h1 h2
    rw [rn] at h2
    by_cases hₓ : qₓ (bₓ iₓ) = true
    · rw [if_pos hₓ] at h2
      by_cases eₓ : jₓ = iₓ
      · rw [eₓ]; exact hₓ
      · exact ihₓ (iₓ + 1) jₓ (by omega) h2
    · rw [if_neg hₓ] at h2; omega
theorem rn_out (qₓ : Nat → Bool) (bₓ : Nat → Nat) : ∀ kₓ iₓ, rn qₓ bₓ kₓ iₓ < iₓ + kₓ → qₓ (bₓ (rn qₓ bₓ kₓ iₓ)) = false := by
  intro kₓ
  induction kₓ with
  | zero => intro iₓ hₓ; exact absurd hₓ (by rw [rn]; omega)
  | succ kₓ ihₓ =>
    intro iₓ hₓ
    rw [rn] at hₓ ⊢
    by_cases cₓ : qₓ (bₓ iₓ) = true
    · rw [if_pos cₓ] at hₓ ⊢
      exact ihₓ (iₓ + 1) (by omega)
    · rw [if_neg cₓ]; simpa using cₓ
def isBl (cₓ : Nat) : Bool := decide (cₓ = 32 ∨ cₓ = 10)
def isLt (cₓ : Nat) : Bool := decide ((97 ≤ cₓ ∧ cₓ ≤ 122) ∨ (65 ≤ cₓ ∧ cₓ ≤ 90))
def isDg (cₓ : Nat) : Bool := decide (48 ≤ cₓ ∧ cₓ ≤ 57)
theorem byte_X {nₓ : Nat} {bₓ : Nat → Nat} {Sₓ T : Mem} (hₓ : Tp nₓ bₓ Sₓ T) {jₓ : Nat} (hj : jₓ < nₓ) : fX3_byteAt Sₓ (nI jₓ) = some (nI (bₓ jₓ), Sₓ) := by
  obtain ⟨h1, h2, h3, h4, h5⟩ := hₓ
  have eₓ := (h4 jₓ hj).1
  have e' : Sₓ 39 jₓ &&& nI 255 = nI (bₓ jₓ) := eₓ
  simp (disch := first | omega | assumption) only [fX3_byteAt, h2, e', mset_ne, mset_same, upd_same, upd_ne, ltm_e, lti_e, bnd_e, fa_lit, nI_add, pk_mul, nI_clamp, gd_in, nlt0, nI_ltI, nI_leI, nI_eq, if_true, if_false, if_pos, if_neg]
theorem raw_M {nₓ : Nat} {bₓ : Nat → Nat} {Sₓ T : Mem} (hₓ : Tp nₓ bₓ Sₓ T) {jₓ : Nat} (hj : jₓ < nₓ) : fX8_raw T (nI jₓ) = some (nI (bₓ jₓ), T) := by
  obtain ⟨h1, h2, h3, h4, h5⟩ := hₓ
  have eₓ := (h4 jₓ hj).2.1
  simp (disch := first | omega | assumption) only [fX8_raw, h3, eₓ, mset_ne, mset_same, upd_same, upd_ne, ltm_e, lti_e, bnd_e, fa_lit, nI_add, pk_mul, nI_clamp, gd_in, nlt0, nI_ltI, nI_leI, nI_eq, if_true, if_false, if_pos, if_neg]
theorem raw_no {nₓ : Nat} {bₓ : Nat → Nat} {Sₓ T : Mem} (hₓ : Tp nₓ bₓ Sₓ T) {jₓ : Nat} (hj : nₓ ≤ jₓ) (hj2 : jₓ < 2 ^ 31) : fX8_raw T (nI jₓ) = some (-nI 1, T) := by
  obtain ⟨h1, h2, h3, h4, h5⟩ := hₓ
  simp (disch := first | omega | assumption) only [fX8_raw, h3, mset_ne, mset_same, upd_same, upd_ne, ltm_e, lti_e, bnd_e, fa_lit, nI_add, pk_mul, nI_clamp, gd_in, nlt0, nI_ltI, nI_leI, nI_eq, if_true, if_false, if_pos, if_neg]
theorem let_X (Sₓ : Mem) {cₓ : Nat} (hcₓ : cₓ < 256) : fX3_isLetter Sₓ (nI cₓ) = some (if isLt cₓ = true then nI 1 else nI 0, Sₓ) := by
  unfold isLt
  by_cases hₓ : (97 ≤ cₓ ∧ cₓ ≤ 122) ∨ (65 ≤ cₓ ∧ cₓ ≤ 90)
  · rw [if_pos (decide_eq_true hₓ)]
    rcases hₓ with hₓ | hₓ
    · simp (disch := first | omega | assumption) only [fX3_isLetter, fX3_isLetter_24, mset_ne, mset_same, upd_same, upd_ne, ltm_e, lti_e, bnd_e, fa_lit, nI_add, pk_mul, nI_clamp, gd_in, nlt0, nI_ltI, nI_leI, nI_eq, if_true, if_false, if_pos, if_neg]
    · simp (disch := first | omega | assumption) only [fX3_isLetter, fX3_isLetter_12, fX3_isLetter_24, mset_ne, mset_same, upd_same, upd_ne, ltm_e, lti_e, bnd_e, fa_lit, nI_add, pk_mul, nI_clamp, gd_in, nlt0, nI_ltI, nI_leI, nI_eq, if_true, if_false, if_pos, if_neg]
  · rw [if_neg (by rw [decide_eq_true_eq]; exact hₓ)]
    by_cases h1 : cₓ < 65
    · simp (disch := first | omega | assumption) only [fX3_isLetter, fX3_isLetter_12, fX3_isLetter_24, mset_ne, mset_same, upd_same, upd_ne, ltm_e, lti_e, bnd_e, fa_lit, nI_add, pk_mul, nI_clamp, gd_in, nlt0, nI_ltI, nI_leI, nI_eq, if_true, if_false, if_pos, if_neg]
    · by_cases h2 : cₓ < 97
      · simp (disch := first | omega | assumption) only [fX3_isLetter, fX3_isLetter_12, fX3_isLetter_24, mset_ne, mset_same, upd_same, upd_ne, ltm_e, lti_e, bnd_e, fa_lit, nI_add, pk_mul, nI_clamp, gd_in, nlt0, nI_ltI, nI_leI, nI_eq, if_true, if_false, if_pos, if_neg]
      · simp (disch := first | omega | assumption) only [fX3_isLetter, fX3_isLetter_12, fX3_isLetter_24, mset_ne, mset_same, upd_same, upd_ne, ltm_e, lti_e, bnd_e, fa_lit, nI_add, pk_mul, nI_clamp, gd_in, nlt0, nI_ltI, nI_leI, nI_eq, if_true, if_false, if_pos, if_neg]
theorem let_M (Sₓ : Mem) {cₓ : Nat} (hcₓ : cₓ < 256) : fX8_isLetter Sₓ (nI cₓ) = some (if isLt cₓ = true then nI 1 else nI 0, Sₓ) := by
  unfold isLt
  by_cases hₓ : (97 ≤ cₓ ∧ cₓ ≤ 122) ∨ (65 ≤ cₓ ∧ cₓ ≤ 90)
  · rw [if_pos (decide_eq_true hₓ)]
    rcases hₓ with hₓ | hₓ
    · simp (disch := first | omega | assumption) only [fX8_isLetter, fX8_isIn, fX8_isLetter_24, mset_ne, mset_same, upd_same, upd_ne, ltm_e, lti_e, bnd_e, fa_lit, nI_add, pk_mul, nI_clamp, gd_in, nlt0, nI_ltI, nI_leI, nI_eq, if_true, if_false, if_pos, if_neg]
    · simp (disch := first | omega | assumption) only [fX8_isLetter, fX8_isIn, fX8_isLetter_24, mset_ne, mset_same, upd_same, upd_ne, ltm_e, lti_e, bnd_e, fa_lit, nI_add, pk_mul, nI_clamp, gd_in, nlt0, nI_ltI, nI_leI, nI_eq, if_true, if_false, if_pos, if_neg]
  · rw [if_neg (by rw [decide_eq_true_eq]; exact hₓ)]
    by_cases h1 : cₓ < 65
    · simp (disch := first | omega | assumption) only [fX8_isLetter, fX8_isIn, fX8_isLetter_24, mset_ne, mset_same, upd_same, upd_ne, ltm_e, lti_e, bnd_e, fa_lit, nI_add, pk_mul, nI_clamp, gd_in, nlt0, nI_ltI, nI_leI, nI_eq, if_true, if_false, if_pos, if_neg]
    · by_cases h2 : cₓ < 97
      · simp (disch := first | omega | assumption) only [fX8_isLetter, fX8_isIn, fX8_isLetter_24, mset_ne, mset_same, upd_same, upd_ne, ltm_e, lti_e, bnd_e, fa_lit, nI_add, pk_mul, nI_clamp, gd_in, nlt0, nI_ltI, nI_leI, nI_eq, if_true, if_false, if_pos, if_neg]
      · simp (disch := first | omega | assumption) only [fX8_isLetter, fX8_isIn, fX8_isLetter_24, mset_ne, mset_same, upd_same, upd_ne, ltm_e, lti_e, bnd_e, fa_lit, nI_add, pk_mul, nI_clamp, gd_in, nlt0, nI_ltI, nI_leI, nI_eq, if_true, if_false, if_pos, if_neg]
theorem let_no (Sₓ : Mem) : fX8_isLetter Sₓ (-nI 1) = some (nI 0, Sₓ) := by
  unfold fX8_isLetter
  rw [isIn_eq, if_neg (by decide), bnd_e, if_pos rfl, isIn_eq, if_neg (by decide), bnd_e, if_pos rfl]
  rfl
theorem dig_X (Sₓ : Mem) {cₓ : Nat} (hcₓ : cₓ < 256) : fX3_isDigit Sₓ (nI cₓ) = some (if isDg cₓ = true then nI 1 else nI 0, Sₓ) := by
  unfold isDg
  by_cases hₓ : 48 ≤ cₓ ∧ cₓ ≤ 57
  · rw [if_pos (decide_eq_true hₓ)]
    simp (disch := first | omega | assumption) only [fX3_isDigit, mset_ne, mset_same, upd_same, upd_ne, ltm_e, lti_e, bnd_e, fa_lit, nI_add, pk_mul, nI_clamp, gd_in, nlt0, nI_ltI, nI_leI, nI_eq, if_true, if_false, if_pos, if_neg]
  · rw [if_neg (by rw [decide_eq_true_eq]; exact hₓ)]
    by_cases h1 : cₓ < 48
    · simp (disch := first | omega | assumption) only [fX3_isDigit, mset_ne, mset_same, upd_same, upd_ne, ltm_e, lti_e, bnd_e, fa_lit, nI_add, pk_mul, nI_clamp, gd_in, nlt0, nI_ltI, nI_leI, nI_eq, if_true, if_false, if_pos, if_neg]
    · simp (disch := first | omega | assumption) only [fX3_isDigit, mset_ne, mset_same, upd_same, upd_ne, ltm_e, lti_e, bnd_e, fa_lit, nI_add, pk_mul, nI_clamp, gd_in, nlt0, nI_ltI, nI_leI, nI_eq, if_true, if_false, if_pos, if_neg]
theorem dig_M (Sₓ : Mem) {cₓ : Nat} (hcₓ : cₓ < 256) : fX8_isDigit Sₓ (nI cₓ) = some (if isDg cₓ = true then nI 1 else nI 0, Sₓ) := by
  unfold isDg fX8_isDigit
  rw [isIn_eq, bnd_e]
  by_cases hₓ : 48 ≤ cₓ ∧ cₓ ≤ 57
  · rw [if_pos (decide_eq_true hₓ), if_pos (show (48 : Int32) ≤ nI cₓ ∧ nI cₓ ≤ 57 by rw [show (48 : Int32) = nI 48 from rfl, show (57 : Int32) = nI 57 from rfl, nI_leI (by omega) (by omega), nI_leI (by omega) (by omega)]; exact hₓ)]
    rfl
  · rw [if_neg (show ¬ ((48 : Int32) ≤ nI cₓ ∧ nI cₓ ≤ 57) by rw [show (48 : Int32) = nI 48 from rfl, show (57 : Int32) = nI 57 from rfl, nI_leI (by omega) (by omega), nI_leI (by omega) (by omega)]; exact hₓ), if_neg (show ¬ decide (48 ≤ cₓ ∧ cₓ ≤ 57) = true by rw [decide_eq_true_eq]; exact hₓ)]
    rfl
theorem dig_no (Sₓ : Mem) : fX8_isDigit Sₓ (-nI 1) = some (nI 0, Sₓ) := by
  unfold fX8_isDigit
  rw [isIn_eq, if_neg (by decide), bnd_e]
  rfl
/-- where the readers stand -/
def atXₓ (Sₓ : Mem) (iₓ : Nat) : Mem := mset Sₓ 38 5 (nI iₓ)
def atM (T : Mem) (iₓ : Nat) : Mem := mset T 0 17 (nI iₓ)
theorem atX_at (Sₓ : Mem) (iₓ jₓ : Nat) : atXₓ (atXₓ Sₓ iₓ) jₓ = atXₓ Sₓ jₓ := by
  unfold atXₓ
  funext cₓ kₓ
  rw [ms_at, ms_at, ms_at]
  by_cases zₓ : cₓ = 38 ∧ kₓ = 5
  · rw [if_pos zₓ, if_pos zₓ]
  · rw [if_neg zₓ, if_neg zₓ, if_neg zₓ]
theorem atM_at (T : Mem) (iₓ jₓ : Nat) : atM (atM T iₓ) jₓ = atM T jₓ := by
  unfold atM
  funext cₓ kₓ
  rw [ms_at, ms_at, ms_at]
  by_cases zₓ : cₓ = 0 ∧ kₓ = 17
  · rw [if_pos zₓ, if_pos zₓ]
  · rw [if_neg zₓ, if_neg zₓ, if_neg zₓ]
theorem atX_5 (Sₓ : Mem) (iₓ : Nat) : atXₓ Sₓ iₓ 38 5 = nI iₓ := by unfold atXₓ; rw [ms_at, if_pos ⟨rfl, rfl⟩]
theorem atM_17 (T : Mem) (iₓ : Nat) : atM T iₓ 0 17 = nI iₓ := by unfold atM; rw [ms_at, if_pos ⟨rfl, rfl⟩]
theorem atX_id {Sₓ : Mem} {iₓ : Nat} (hₓ : Sₓ 38 5 = nI iₓ) : atXₓ Sₓ iₓ = Sₓ := by
  unfold atXₓ
  funext cₓ kₓ
  rw [ms_at]
  by_cases zₓ : cₓ = 38 ∧ kₓ = 5
  · rw [if_pos zₓ, zₓ.1, zₓ.2, hₓ]
  · rw [if_neg zₓ]
theorem atM_id {T : Mem} {iₓ : Nat} (hₓ : T 0 17 = nI iₓ) : atM T iₓ = T := by
  unfold atM
  funext cₓ kₓ
  rw [ms_at]
  by_cases zₓ : cₓ = 0 ∧ kₓ = 17
  · rw [if_pos zₓ, zₓ.1, zₓ.2, hₓ]
  · rw [if_neg zₓ]
theorem Tp.x {nₓ : Nat} {bₓ : Nat → Nat} {Sₓ T : Mem} (hₓ : Tp nₓ bₓ Sₓ T) {S' : Mem} (h1 : S' 38 1 = Sₓ 38 1) (h2 : S' 39 = Sₓ 39) : Tp nₓ bₓ S' T := by
  obtain ⟨a1ₓ, a2, a3, a4, a5⟩ := hₓ
  exact ⟨a1ₓ, h1.trans a2, a3, fun jₓ hj => by rw [h2]; exact a4 jₓ hj, a5⟩
theorem Tp.m {nₓ : Nat} {bₓ : Nat → Nat} {Sₓ T : Mem} (hₓ : Tp nₓ bₓ Sₓ T) {T' : Mem} (h1 : T' 0 16 = T 0 16) (h2 : T' 11 = T 11) (h3 : T' 12 = T 12) : Tp nₓ bₓ Sₓ T' := by
  obtain ⟨a1ₓ, a2, a3, a4, a5⟩ := hₓ
  exact ⟨a1ₓ, a2, h1.trans a3, fun jₓ hj => by rw [h2]; exact a4 jₓ hj, fun jₓ hj => by rw [h3]; exact a5 jₓ hj⟩
theorem Tp.aX {nₓ : Nat} {bₓ : Nat → Nat} {Sₓ T : Mem} (hₓ : Tp nₓ bₓ Sₓ T) (iₓ : Nat) : Tp nₓ bₓ (atXₓ Sₓ iₓ) T := hₓ.x (by unfold atXₓ; rw [ms_at, if_neg (by omega)]) (by unfold atXₓ; rw [mset_ne _ _ _ (by omega)])
theorem Tp.aM {nₓ : Nat} {bₓ : Nat → Nat} {Sₓ T : Mem} (hₓ : Tp nₓ bₓ Sₓ T) (iₓ : Nat) : Tp nₓ bₓ Sₓ (atM T iₓ) := hₓ.m (by unfold atM; rw [ms_at, if_neg (by omega)]) (by unfold atM; rw [mset_ne _ _ _ (by omega)]) (by unfold atM; rw [mset_ne _ _ _ (by omega)])
/-- blanks -/
theorem skip_X {nₓ : Nat} {bₓ : Nat → Nat} {T : Mem} : ∀ (kₓ iₓ fₓ : Nat) (Sₓ : Mem), Tp nₓ bₓ Sₓ T → iₓ + kₓ = nₓ → kₓ < fₓ → fX3_scan_0 fₓ (atXₓ Sₓ iₓ) = fX3_scan_50 (atXₓ Sₓ (rn isBl bₓ kₓ iₓ)) := by
  intro kₓ
  induction kₓ with
  | zero =>
    intro iₓ fₓ Sₓ hₓ hiₓ hf
    obtain ⟨fₓ, rfl⟩ : ∃ gₓ, fₓ = gₓ + 1 := ⟨fₓ - 1, by omega⟩
    have e1ₓ := (hₓ.aX iₓ).2.1
    have hn := hₓ.1
    show fX3_scan_0_b (fX3_scan_0 fₓ) (atXₓ Sₓ iₓ) = _
    unfold fX3_scan_0_b
    rw [e1ₓ, atX_5, if_pos (nI_le (by omega) (by omega)), rn]
  | succ kₓ ihₓ =>
    intro iₓ fₓ Sₓ hₓ hiₓ hf
    obtain ⟨fₓ, rfl⟩ : ∃ gₓ, fₓ = gₓ + 1 := ⟨fₓ - 1, by omega⟩
    have e1ₓ := (hₓ.aX iₓ).2.1
    have hn := hₓ.1
    have hbₓ := byte_X (hₓ.aX iₓ) (show iₓ < nₓ by omega)
    have h256 := (hₓ.2.2.2.1 iₓ (by omega)).2.2
    have stepₓ : mset (atXₓ Sₓ iₓ) 38 5 (atXₓ Sₓ iₓ 38 5 + 1) = atXₓ Sₓ (iₓ + 1) := by
      rw [atX_5, show nI iₓ + 1 = nI (iₓ + 1) from nI_add iₓ 1]; exact atX_at Sₓ iₓ (iₓ + 1)
    show fX3_scan_0_b (fX3_scan_0 fₓ) (atXₓ Sₓ iₓ) = _
    unfold fX3_scan_0_b fX3_scan_37
    rw [e1ₓ, atX_5, if_neg (show ¬ nI nₓ ≤ nI iₓ by rw [nI_leI (by omega) (by omega)]; omega), hbₓ, bnd_e, ltm_e, stepₓ, atX_5, hbₓ, bnd_e, ltm_e, stepₓ, rn]
    by_cases c1ₓ : bₓ iₓ = 32
    · rw [if_pos (show nI (bₓ iₓ) = 32 by rw [c1ₓ]; rfl), if_pos (show isBl (bₓ iₓ) = true from decide_eq_true (Or.inl c1ₓ))]
      exact ihₓ (iₓ + 1) fₓ Sₓ hₓ (by omega) (by omega)
    · rw [if_neg (show ¬ nI (bₓ iₓ) = 32 by rw [show (32 : Int32) = nI 32 from rfl, nI_eq (by omega) (by omega)]; exact c1ₓ)]
      by_cases c2ₓ : bₓ iₓ = 10
      · rw [if_pos (show nI (bₓ iₓ) = 10 by rw [c2ₓ]; rfl), if_pos (show isBl (bₓ iₓ) = true from decide_eq_true (Or.inr c2ₓ))]
        exact ihₓ (iₓ + 1) fₓ Sₓ hₓ (by omega) (by omega)
      · rw [if_neg (show ¬ nI (bₓ iₓ) = 10 by rw [show (10 : Int32) = nI 10 from rfl, nI_eq (by omega) (by omega)]; exact c2ₓ), if_neg (show ¬ isBl (bₓ iₓ) = true by unfold isBl; rw [decide_eq_true_eq]; omega)]
def rdT (Sₓ : Mem) : O := ltm (mset Sₓ 0 18 (Sₓ 0 17)) fun S_7 => ltm (mset S_7 0 19 (1 : Int32)) fun S_8 => bnd (fX8_raw S_8 (S_8 0 17)) fun r_9 S_10 => (if r_9 = (-1 : Int32) then ltm (mset S_10 0 19 (0 : Int32)) fun S_25 => some ((0 : Int32), S_25) else ltm (mset S_10 0 17 ((S_10 0 17) + (1 : Int32))) fun S_12 => ltm (mset S_12 0 20 r_9) fun S_13 => bnd (fX8_isLetter S_13 r_9) fun r_14 S_15 => (if r_14 = 0 then bnd (fX8_isDigit S_15 r_9) fun r_17 S_18 => (if r_17 = 0 then bnd (fX8_isMarkSign S_18 r_9) fun r_20 S_21 => (if r_20 = 0 then some ((0 : Int32), S_21) else ltm (mset S_21 0 19 (4 : Int32)) fun S_23 => some ((0 : Int32), S_23)) else ltm (mset S_18 0 20 (r_9 - (48 : Int32))) fun S_24 => fX8_reads_171  FU S_24 ) else fX8_reads_95  FU S_15 ))
theorem skip_M {nₓ : Nat} {bₓ : Nat → Nat} {Sₓ : Mem} : ∀ (kₓ iₓ fₓ : Nat) (T : Mem), Tp nₓ bₓ Sₓ T → iₓ + kₓ = nₓ → kₓ < fₓ → fX8_reads_0 fₓ (atM T iₓ) = rdT (atM T (rn isBl bₓ kₓ iₓ)) := by
  intro kₓ
  induction kₓ with
  | zero =>
    intro iₓ fₓ T hₓ hiₓ hf
    obtain ⟨fₓ, rfl⟩ : ∃ gₓ, fₓ = gₓ + 1 := ⟨fₓ - 1, by omega⟩
    have hn := hₓ.1
    have hbₓ := raw_no (hₓ.aM iₓ) (show nₓ ≤ iₓ by omega) (by omega)
    show fX8_reads_0_b (fX8_reads_0 fₓ) (atM T iₓ) = _
    unfold fX8_reads_0_b
    rw [atM_17, hbₓ, bnd_e, if_neg (show ¬ (-nI 1) = 32 by decide), atM_17, hbₓ, bnd_e, if_neg (show ¬ (-nI 1) = 10 by decide), rn]
    rfl
  | succ kₓ ihₓ =>
    intro iₓ fₓ T hₓ hiₓ hf
    obtain ⟨fₓ, rfl⟩ : ∃ gₓ, fₓ = gₓ + 1 := ⟨fₓ - 1, by omega⟩
    have hn := hₓ.1
    have hbₓ := raw_M (hₓ.aM iₓ) (show iₓ < nₓ by omega)
    have h256 := (hₓ.2.2.2.1 iₓ (by omega)).2.2
    have stepₓ : mset (atM T iₓ) 0 17 (atM T iₓ 0 17 + 1) = atM T (iₓ + 1) := by
      rw [atM_17, show nI iₓ + 1 = nI (iₓ + 1) from nI_add iₓ 1]; exact atM_at T iₓ (iₓ + 1)
    show fX8_reads_0_b (fX8_reads_0 fₓ) (atM T iₓ) = _
    unfold fX8_reads_0_b fX8_reads_26
    rw [atM_17, hbₓ, bnd_e, ltm_e, stepₓ]
    by_cases c1ₓ : bₓ iₓ = 32
    · rw [if_pos (show nI (bₓ iₓ) = 32 by rw [c1ₓ]; rfl), rn, if_pos (show isBl (bₓ iₓ) = true from decide_eq_true (Or.inl c1ₓ))]
      exact ihₓ (iₓ + 1) fₓ T hₓ (by omega) (by omega)
    · rw [if_neg (show ¬ nI (bₓ iₓ) = 32 by rw [show (32 : Int32) = nI 32 from rfl, nI_eq (by omega) (by omega)]; exact c1ₓ), atM_17, hbₓ, bnd_e, ltm_e, stepₓ]
      by_cases c2ₓ : bₓ iₓ = 10
      · rw [if_pos (show nI (bₓ iₓ) = 10 by rw [c2ₓ]; rfl), rn, if_pos (show isBl (bₓ iₓ) = true from decide_eq_true (Or.inr c2ₓ))]
        exact ihₓ (iₓ + 1) fₓ T hₓ (by omega) (by omega)
      · rw [if_neg (show ¬ nI (bₓ iₓ) = 10 by rw [show (10 : Int32) = nI 10 from rfl, nI_eq (by omega) (by omega)]; exact c2ₓ), rn, if_neg (show ¬ isBl (bₓ iₓ) = true by unfold isBl; rw [decide_eq_true_eq]; omega)]
        rfl
/-! words -/
def wch (jₓ : Nat) : Nat := [115, 116, 97, 121, 32, 115, 101, 101, 107, 32, 98, 117, 121, 32, 102, 108, 101, 101, 32, 119, 104, 101, 110, 32, 111, 114, 32, 97, 110, 100, 32, 110, 111, 116, 32, 98, 117, 114, 110, 32, 104, 101, 97, 116, 32, 115, 104, 97, 100, 101, 100, 32, 119, 97, 116, 101, 114, 32, 116, 97, 108, 108, 32, 115, 107, 105, 110, 32, 104, 111, 117, 114, 32, 112, 108, 97, 99, 101, 32, 98, 101, 97, 114, 115, 32, 112, 105, 108, 103, 114, 105, 109, 32].getD jₓ 0
theorem wch_X : ∀ jₓ, jₓ < 93 → i2c (((byS 0).getD jₓ (nI 0)) &&& nI 255) = nI (wch jₓ) ∧ isC (nI (wch jₓ)) = true ∧ wch jₓ < 128 := by decide +kernel
theorem wch_M : ∀ jₓ, jₓ < 93 → wordsC.getD (jₓ + 1) 0 = nI (wch jₓ) := by decide +kernel
theorem char_X (Sₓ : Mem) {jₓ : Nat} (hj : jₓ < 93) : fJ0_charAt_s0 Sₓ (nI jₓ) = some (nI (wch jₓ), Sₓ) := by
  obtain ⟨h1, h2, h3⟩ := wch_X jₓ hj
  simp (disch := first | omega | assumption) only [fJ0_charAt_s0, fJ1_charAt_v0, fJ0_checkIndex, fJ3_checkIndex_f, h1, gd_of _ h2, mset_ne, mset_same, upd_same, upd_ne, ltm_e, lti_e, bnd_e, fa_lit, nI_add, pk_mul, nI_clamp, gd_in, nlt0, nI_ltI, nI_leI, nI_eq, if_true, if_false, if_pos, if_neg]
/-- the token's letters p .. e - 1 are those of the word s .. t - 1 -/
def mtₓ (bₓ : Nat → Nat) (pₓ eₓ sₓ tₓ : Nat) : Bool := decide (tₓ - sₓ = eₓ - pₓ) && (List.range (eₓ - pₓ)).all (fun jₓ => decide (wch (sₓ + jₓ) = bₓ (pₓ + jₓ)))
theorem mt_iff (bₓ : Nat → Nat) (pₓ eₓ sₓ tₓ : Nat) : mtₓ bₓ pₓ eₓ sₓ tₓ = true ↔ tₓ - sₓ = eₓ - pₓ ∧ ∀ jₓ, jₓ < eₓ - pₓ → wch (sₓ + jₓ) = bₓ (pₓ + jₓ) := by
  unfold mtₓ
  rw [Bool.and_eq_true, decide_eq_true_eq, List.all_eq_true]
  constructor
  · rintro ⟨h1, h2⟩
    exact ⟨h1, fun jₓ hj => of_decide_eq_true (h2 jₓ (List.mem_range.mpr hj))⟩
  · rintro ⟨h1, h2⟩
    exact ⟨h1, fun jₓ hj => decide_eq_true (h2 jₓ (List.mem_range.mp hj))⟩
theorem isWord_X {nₓ : Nat} {bₓ : Nat → Nat} {Sₓ T : Mem} (hₓ : Tp nₓ bₓ Sₓ T) {pₓ eₓ sₓ tₓ : Nat} (hp : Sₓ 38 7 = nI pₓ) (he : Sₓ 38 5 = nI eₓ) (hpe : pₓ ≤ eₓ) (hen : eₓ ≤ nₓ) (hst : sₓ ≤ tₓ) (ht : tₓ < 93) : fX3_isWord Sₓ (nI sₓ) (nI tₓ) = some (if mtₓ bₓ pₓ eₓ sₓ tₓ = true then nI 1 else nI 0, Sₓ) := by
  have hn := hₓ.1
  have keyₓ : ∀ (kₓ iₓ fₓ : Nat), iₓ + kₓ = tₓ → sₓ ≤ iₓ → tₓ - sₓ = eₓ - pₓ → kₓ < fₓ → (∀ jₓ, sₓ + jₓ < iₓ → wch (sₓ + jₓ) = bₓ (pₓ + jₓ)) → fX3_isWord_19 fₓ Sₓ (nI sₓ) (nI tₓ) (nI iₓ) = some (if mtₓ bₓ pₓ eₓ sₓ tₓ = true then nI 1 else nI 0, Sₓ) := by
    intro kₓ
    induction kₓ with
    | zero =>
      intro iₓ fₓ hiₓ hsi hl hf hj
      obtain ⟨fₓ, rfl⟩ : ∃ gₓ, fₓ = gₓ + 1 := ⟨fₓ - 1, by omega⟩
      show fX3_isWord_19_b (fX3_isWord_19 fₓ) Sₓ (nI sₓ) (nI tₓ) (nI iₓ) = _
      unfold fX3_isWord_19_b
      rw [if_pos (nI_le (by omega) (by omega)), if_pos ((mt_iff bₓ pₓ eₓ sₓ tₓ).2 ⟨hl, fun jₓ hj2 => hj jₓ (by omega)⟩)]
      rfl
    | succ kₓ ihₓ =>
      intro iₓ fₓ hiₓ hsi hl hf hj
      obtain ⟨fₓ, rfl⟩ : ∃ gₓ, fₓ = gₓ + 1 := ⟨fₓ - 1, by omega⟩
      have e1ₓ : nI pₓ + nI iₓ - nI sₓ = nI (pₓ + (iₓ - sₓ)) := by rw [nI_add, pk_sub (by omega)]; congr 1; omega
      have hbₓ := byte_X hₓ (show pₓ + (iₓ - sₓ) < nₓ by omega)
      have hw := (wch_X iₓ (by omega)).2.2
      have h256 := (hₓ.2.2.2.1 (pₓ + (iₓ - sₓ)) (by omega)).2.2
      show fX3_isWord_19_b (fX3_isWord_19 fₓ) Sₓ (nI sₓ) (nI tₓ) (nI iₓ) = _
      unfold fX3_isWord_19_b
      rw [if_neg (show ¬ nI tₓ ≤ nI iₓ by rw [nI_leI (by omega) (by omega)]; omega), if_neg (show ¬ (93 : Int32) ≤ nI iₓ by rw [show (93 : Int32) = nI 93 from rfl, nI_leI (by omega) (by omega)]; omega), char_X Sₓ (by omega), bnd_e, hp, e1ₓ, hbₓ, bnd_e, show nI iₓ + 1 = nI (iₓ + 1) from nI_add iₓ 1]
      by_cases cₓ : wch iₓ = bₓ (pₓ + (iₓ - sₓ))
      · rw [if_pos (show nI (wch iₓ) = nI (bₓ (pₓ + (iₓ - sₓ))) by rw [cₓ])]
        refine ihₓ (iₓ + 1) fₓ (by omega) (by omega) hl (by omega) (fun jₓ hj2 => ?_)
        by_cases zₓ : sₓ + jₓ = iₓ
        · rw [show sₓ + jₓ = iₓ from zₓ, show pₓ + jₓ = pₓ + (iₓ - sₓ) by omega]; exact cₓ
        · exact hj jₓ (by omega)
      · rw [if_neg (show ¬ nI (wch iₓ) = nI (bₓ (pₓ + (iₓ - sₓ))) by rw [nI_eq (by omega) (by omega)]; exact cₓ), if_neg]
        · rfl
        · intro qₓ
          have := ((mt_iff bₓ pₓ eₓ sₓ tₓ).1 qₓ).2 (iₓ - sₓ) (by omega)
          rw [show sₓ + (iₓ - sₓ) = iₓ by omega] at this
          exact cₓ this
  unfold fX3_isWord
  rw [he, hp, pk_sub hst, pk_sub hpe]
  by_cases cₓ : tₓ - sₓ = eₓ - pₓ
  · rw [if_pos (show nI (tₓ - sₓ) = nI (eₓ - pₓ) by rw [cₓ])]
    exact keyₓ (tₓ - sₓ) sₓ FU (by omega) (Nat.le_refl sₓ) cₓ (by unfold FU; omega) (fun jₓ hj => absurd hj (by omega))
  · rw [if_neg (show ¬ nI (tₓ - sₓ) = nI (eₓ - pₓ) by rw [nI_eq (by omega) (by omega)]; exact cₓ), if_neg (fun qₓ => cₓ ((mt_iff bₓ pₓ eₓ sₓ tₓ).1 qₓ).1)]
    rfl
def wsₓ : List (Nat × Nat) := [(0, 4), (5, 9), (10, 13), (14, 18), (19, 23), (24, 26), (27, 30), (31, 34), (35, 39), (40, 44), (45, 51), (52, 57), (58, 62), (63, 67), (68, 72), (73, 78), (79, 84), (85, 92)]
/-- the words one behind the other, from position s -/
def wOk : List (Nat × Nat) → Nat → Bool
  | [], sₓ => decide (sₓ = 93)
  | qₓ :: l, sₓ => decide (qₓ.1 = sₓ ∧ qₓ.1 < qₓ.2 ∧ qₓ.2 < 93 ∧ wch qₓ.2 = 32) && (List.range (qₓ.2 - qₓ.1)).all (fun jₓ => decide (wch (qₓ.1 + jₓ) ≠ 32)) && wOk l (qₓ.2 + 1)
theorem wOk_ws : wOk wsₓ 0 = true := by decide +kernel
def xR (bₓ : Nat → Nat) (pₓ eₓ : Nat) : List (Nat × Nat) → Nat → Nat → Nat
  | [], _, tk => tk
  | qₓ :: l, numₓ, tk => xR bₓ pₓ eₓ l (numₓ + 1) (if mtₓ bₓ pₓ eₓ qₓ.1 qₓ.2 = true then numₓ else tk)
def mR (bₓ : Nat → Nat) (pₓ eₓ : Nat) : List (Nat × Nat) → Nat → Option Nat
  | [], _ => none
  | qₓ :: l, numₓ => if mtₓ bₓ pₓ eₓ qₓ.1 qₓ.2 = true then some numₓ else mR bₓ pₓ eₓ l (numₓ + 1)
theorem xm_no (bₓ : Nat → Nat) (pₓ eₓ : Nat) : ∀ (l : List (Nat × Nat)) numₓ tk, (∀ qₓ ∈ l, mtₓ bₓ pₓ eₓ qₓ.1 qₓ.2 = false) → xR bₓ pₓ eₓ l numₓ tk = tk ∧ mR bₓ pₓ eₓ l numₓ = none := by
  intro l
  induction l with
  | nil => intro numₓ tk _; exact ⟨rfl, rfl⟩
  | cons qₓ l ihₓ =>
    intro numₓ tk hₓ
    have h1 := hₓ qₓ List.mem_cons_self
    rw [xR, mR, h1, if_neg (by simp), if_neg (by simp)]
    exact ihₓ _ _ (fun qₓ hq => hₓ qₓ (List.mem_cons_of_mem _ hq))
theorem xm_eq (bₓ : Nat → Nat) (pₓ eₓ : Nat) : ∀ (l : List (Nat × Nat)) numₓ tk, l.Pairwise (fun qₓ rₓ => ¬ (mtₓ bₓ pₓ eₓ qₓ.1 qₓ.2 = true ∧ mtₓ bₓ pₓ eₓ rₓ.1 rₓ.2 = true)) → xR bₓ pₓ eₓ l numₓ tk = (mR bₓ pₓ eₓ l numₓ).getD tk ∧ ∀ wₓ, mR bₓ pₓ eₓ l numₓ = some wₓ → numₓ ≤ wₓ ∧ wₓ < numₓ + l.length := by
  intro l
  induction l with
  | nil => intro numₓ tk _; exact ⟨rfl, fun wₓ hw => by cases hw⟩
  | cons qₓ l ihₓ =>
    intro numₓ tk hₓ
    obtain ⟨h1, h2⟩ := List.pairwise_cons.mp hₓ
    rw [xR, mR, List.length_cons]
    by_cases cₓ : mtₓ bₓ pₓ eₓ qₓ.1 qₓ.2 = true
    · rw [if_pos cₓ, if_pos cₓ]
      refine ⟨(xm_no bₓ pₓ eₓ l _ _ (fun rₓ hr => ?_)).1, fun wₓ hw => by cases hw; omega⟩
      cases zₓ : mtₓ bₓ pₓ eₓ rₓ.1 rₓ.2
      · rfl
      · exact absurd ⟨cₓ, zₓ⟩ (h1 rₓ hr)
    · rw [if_neg cₓ, if_neg cₓ]
      obtain ⟨i1ₓ, i2ₓ⟩ := ihₓ (numₓ + 1) tk h2
      exact ⟨i1ₓ, fun wₓ hw => by have := i2ₓ wₓ hw; omega⟩
def difW (qₓ rₓ : Nat × Nat) : Bool := decide (qₓ.2 - qₓ.1 ≠ rₓ.2 - rₓ.1) || (List.range (qₓ.2 - qₓ.1)).any (fun jₓ => decide (wch (qₓ.1 + jₓ) ≠ wch (rₓ.1 + jₓ)))
theorem ws_dif : wsₓ.Pairwise (fun qₓ rₓ => difW qₓ rₓ = true) := by decide +kernel
theorem ws_pw (bₓ : Nat → Nat) (pₓ eₓ : Nat) : wsₓ.Pairwise (fun qₓ rₓ => ¬ (mtₓ bₓ pₓ eₓ qₓ.1 qₓ.2 = true ∧ mtₓ bₓ pₓ eₓ rₓ.1 rₓ.2 = true)) := by
  refine ws_dif.imp (fun {qₓ rₓ} hₓ => ?_)
  rintro ⟨h1, h2⟩
  rw [mt_iff] at h1 h2
  unfold difW at hₓ
  rw [Bool.or_eq_true, decide_eq_true_eq, List.any_eq_true] at hₓ
  rcases hₓ with hₓ | ⟨jₓ, hj, hₓ⟩
  · exact hₓ (h1.1.trans h2.1.symm)
  · have hj2 := List.mem_range.mp hj
    exact (of_decide_eq_true hₓ) ((h1.2 jₓ (by omega)).trans (h2.2 jₓ (by omega)).symm)
theorem words_X {nₓ : Nat} {bₓ : Nat → Nat} {T : Mem} {pₓ eₓ : Nat} (hpe : pₓ ≤ eₓ) (hen : eₓ ≤ nₓ) : ∀ (l : List (Nat × Nat)) (sₓ numₓ fₓ : Nat) (Sₓ : Mem) (tk : Nat), wOk l sₓ = true → 93 - sₓ < fₓ → Tp nₓ bₓ Sₓ T → Sₓ 38 7 = nI pₓ → Sₓ 38 5 = nI eₓ → Sₓ 38 6 = nI tk → fX3_scanWord_50 fₓ Sₓ (nI numₓ) (nI sₓ) (nI sₓ) = some (nI 0, mset Sₓ 38 6 (nI (xR bₓ pₓ eₓ l numₓ tk))) := by
  intro l
  induction l with
  | nil =>
    intro sₓ numₓ fₓ Sₓ tk ho hf hₓ h7 h5 h6
    obtain ⟨fₓ, rfl⟩ : ∃ gₓ, fₓ = gₓ + 1 := ⟨fₓ - 1, by omega⟩
    have hs : sₓ = 93 := of_decide_eq_true ho
    subst hs
    have eS : mset Sₓ 38 6 (nI (xR bₓ pₓ eₓ [] numₓ tk)) = Sₓ := by
      funext cₓ kₓ
      rw [ms_at, xR]
      by_cases zₓ : cₓ = 38 ∧ kₓ = 6
      · rw [if_pos zₓ, zₓ.1, zₓ.2, h6]
      · rw [if_neg zₓ]
    rw [eS]
    show fX3_scanWord_50_b (fX3_scanWord_50 fₓ) Sₓ (nI numₓ) (nI 93) (nI 93) = _
    unfold fX3_scanWord_50_b
    rw [if_pos (show (93 : Int32) ≤ nI 93 by decide)]
    rfl
  | cons qₓ l ihₓ =>
    intro sₓ numₓ fₓ Sₓ tk ho hf hₓ h7 h5 h6
    rw [wOk, Bool.and_eq_true, Bool.and_eq_true, decide_eq_true_eq, List.all_eq_true] at ho
    obtain ⟨⟨⟨o1, o2, o3ₓ, o4ₓ⟩, o5ₓ⟩, o6⟩ := ho
    have o5' : ∀ jₓ, sₓ ≤ jₓ → jₓ < qₓ.2 → wch jₓ ≠ 32 := fun jₓ h1 h2 => by
      have := of_decide_eq_true (o5ₓ (jₓ - sₓ) (List.mem_range.mpr (by omega)))
      rw [show qₓ.1 + (jₓ - sₓ) = jₓ by omega] at this
      exact this
    have keyₓ : ∀ (kₓ iₓ fₓ : Nat), iₓ + kₓ = qₓ.2 → sₓ ≤ iₓ → 93 - iₓ < fₓ → ∃ f', 93 - (qₓ.2 + 1) < f' ∧ fX3_scanWord_50 fₓ Sₓ (nI numₓ) (nI sₓ) (nI iₓ) = fX3_scanWord_50 f' (mset Sₓ 38 6 (nI (if mtₓ bₓ pₓ eₓ qₓ.1 qₓ.2 = true then numₓ else tk))) (nI (numₓ + 1)) (nI (qₓ.2 + 1)) (nI (qₓ.2 + 1)) := by
      intro kₓ
      induction kₓ with
      | zero =>
        intro iₓ fₓ hiₓ hsi hf
        obtain ⟨fₓ, rfl⟩ : ∃ gₓ, fₓ = gₓ + 1 := ⟨fₓ - 1, by omega⟩
        have hiₓ : iₓ = qₓ.2 := by omega
        subst hiₓ
        refine ⟨fₓ, by omega, ?_⟩
        have hw := isWord_X hₓ h7 h5 hpe hen (show sₓ ≤ qₓ.2 by omega) (show qₓ.2 < 93 by omega)
        rw [← o1] at hw ⊢
        show fX3_scanWord_50_b (fX3_scanWord_50 fₓ) Sₓ (nI numₓ) (nI qₓ.1) (nI qₓ.2) = _
        unfold fX3_scanWord_50_b fX3_scanWord_87 fX3_scanWord_94
        rw [if_neg (show ¬ (93 : Int32) ≤ nI qₓ.2 by rw [show (93 : Int32) = nI 93 from rfl, nI_leI (by omega) (by omega)]; omega), char_X Sₓ (by omega), bnd_e, if_pos (show nI (wch qₓ.2) = 32 by rw [o4ₓ]; rfl), hw, bnd_e, lti_e, ltm_e, lti_e, show nI qₓ.2 + 1 = nI (qₓ.2 + 1) from nI_add qₓ.2 1, show nI numₓ + 1 = nI (numₓ + 1) from nI_add numₓ 1]
        by_cases cₓ : mtₓ bₓ pₓ eₓ qₓ.1 qₓ.2 = true
        · rw [if_pos cₓ, if_pos cₓ, if_neg (show ¬ nI 1 = 0 by decide)]
        · have eS : mset Sₓ 38 6 (nI tk) = Sₓ := by
            funext cₓ kₓ
            rw [ms_at]
            by_cases zₓ : cₓ = 38 ∧ kₓ = 6
            · rw [if_pos zₓ, zₓ.1, zₓ.2, h6]
            · rw [if_neg zₓ]
          rw [if_neg cₓ, if_neg cₓ, if_pos (show nI 0 = 0 from rfl), eS]
      | succ kₓ ihk =>
        intro iₓ fₓ hiₓ hsi hf
        obtain ⟨fₓ, rfl⟩ : ∃ gₓ, fₓ = gₓ + 1 := ⟨fₓ - 1, by omega⟩
        obtain ⟨f', z1, z2⟩ := ihk (iₓ + 1) fₓ (by omega) (by omega) (by omega)
        refine ⟨f', z1, ?_⟩
        rw [← z2]
        have hw := (wch_X iₓ (by omega)).2.2
        show fX3_scanWord_50_b (fX3_scanWord_50 fₓ) Sₓ (nI numₓ) (nI sₓ) (nI iₓ) = _
        unfold fX3_scanWord_50_b fX3_scanWord_94
        rw [if_neg (show ¬ (93 : Int32) ≤ nI iₓ by rw [show (93 : Int32) = nI 93 from rfl, nI_leI (by omega) (by omega)]; omega), char_X Sₓ (by omega), bnd_e, if_neg (show ¬ nI (wch iₓ) = 32 by rw [show (32 : Int32) = nI 32 from rfl, nI_eq (by omega) (by omega)]; exact o5' iₓ hsi (by omega)), show nI iₓ + 1 = nI (iₓ + 1) from nI_add iₓ 1]
    obtain ⟨f', z1, z2⟩ := keyₓ (qₓ.2 - sₓ) sₓ fₓ (by omega) (Nat.le_refl sₓ) hf
    rw [z2, xR]
    have zₓ := ihₓ (qₓ.2 + 1) (numₓ + 1) f' (mset Sₓ 38 6 (nI (if mtₓ bₓ pₓ eₓ qₓ.1 qₓ.2 = true then numₓ else tk))) (if mtₓ bₓ pₓ eₓ qₓ.1 qₓ.2 = true then numₓ else tk) o6 z1 (hₓ.x (by rw [ms_at, if_neg (by omega)]) (by rw [mset_ne _ _ _ (by omega)])) (by rw [ms_at, if_neg (by omega)]; exact h7) (by rw [ms_at, if_neg (by omega)]; exact h5) (by rw [ms_at, if_pos ⟨rfl, rfl⟩])
    rw [zₓ]
    congr 2
    funext cₓ kₓ
    rw [ms_at, ms_at, ms_at]
    by_cases zₓ : cₓ = 38 ∧ kₓ = 6
    · rw [if_pos zₓ, if_pos zₓ]
    · rw [if_neg zₓ, if_neg zₓ, if_neg zₓ]
