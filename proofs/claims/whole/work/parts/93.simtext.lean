/-! text: the whole call -/
theorem and255ₓ (xₓ : Int32) : ∃ mₓ : Nat, mₓ < 256 ∧ xₓ &&& 255 = nI mₓ := by
  refine ⟨(xₓ &&& 255).toBitVec.toNat, ?_, ?_⟩
  · rw [Int32.toBitVec_and, BitVec.toNat_and]
    exact Nat.lt_of_le_of_lt Nat.and_le_right (by decide)
  · apply Int32.toBitVec_inj.mp
    show (xₓ &&& 255).toBitVec = BitVec.ofNat 32 (xₓ &&& 255).toBitVec.toNat
    rw [BitVec.ofNat_toNat, BitVec.setWidth_eq]
/-! what the relation keeps -/
theorem RWn.cells {nₓ dₓ tₓ pr re bl : Nat} {Xₓ X' Mₓ : Mem} (hₓ : RWn nₓ dₓ tₓ pr re bl Xₓ Mₓ) (hx : ∀ kₓ, kₓ ≤ 10 → X' kₓ = Xₓ kₓ) : RWn nₓ dₓ tₓ pr re bl X' Mₓ := by
  unfold RWn RHou RFix RMov RFoe RTol RBok RRul encX at hₓ ⊢
  rw [hx 0 (by omega), hx 1 (by omega), hx 2 (by omega), hx 3 (by omega), hx 4 (by omega), hx 5 (by omega), hx 6 (by omega), hx 7 (by omega), hx 8 (by omega), hx 9 (by omega), hx 10 (by omega)]
  exact hₓ
theorem RR.txt {Sₓ T S' T' : Mem} (hₓ : RR Sₓ T) (hX : ∀ cₓ, 1 ≤ cₓ → cₓ ≤ 29 → ¬ (8 ≤ cₓ ∧ cₓ ≤ 12) → S' cₓ = Sₓ cₓ) (h02 : S' 0 2 = Sₓ 0 2) (hMₓ : ∀ cₓ, cₓ ∈ [1, 2, 3, 4, 5, 6, 7, 8, 9, 10, 12, 26] → T' cₓ = T cₓ) (h0 : ∀ jₓ, jₓ ∈ [3, 6, 10, 11, 46] → T' 0 jₓ = T 0 jₓ) (hx1 : S' 38 1 = nI 0) (hm1 : T' 0 16 = nI 0) (hf : RFau S' T') (hr : RRul (sl S' 1) T') : RR S' T' := by
  obtain ⟨⟨nₓ, dₓ, tₓ, pr, re, bl, cₓ, hW, hP⟩, -, -, hI, hWo⟩ := hₓ
  have s0ₓ : sl S' 1 0 = sl Sₓ 1 0 := hX 1 (by omega) (by omega) (by omega)
  have s1ₓ : sl S' 1 1 = sl Sₓ 1 1 := hX 2 (by omega) (by omega) (by omega)
  have s2ₓ : sl S' 1 2 = sl Sₓ 1 2 := hX 3 (by omega) (by omega) (by omega)
  have s3ₓ : sl S' 1 3 = sl Sₓ 1 3 := hX 4 (by omega) (by omega) (by omega)
  have s4ₓ : sl S' 1 4 = sl Sₓ 1 4 := hX 5 (by omega) (by omega) (by omega)
  have s5 : sl S' 1 5 = sl Sₓ 1 5 := hX 6 (by omega) (by omega) (by omega)
  have s6ₓ : sl S' 1 6 = sl Sₓ 1 6 := hX 7 (by omega) (by omega) (by omega)
  have x3 := hX 3 (by omega) (by omega) (by omega)
  have x25 := hX 25 (by omega) (by omega) (by omega)
  have x26 := hX 26 (by omega) (by omega) (by omega)
  have x27 := hX 27 (by omega) (by omega) (by omega)
  have x28 := hX 28 (by omega) (by omega) (by omega)
  have x29 := hX 29 (by omega) (by omega) (by omega)
  have y1 := hMₓ 1 (by decide)
  have y2 := hMₓ 2 (by decide)
  have y3 := hMₓ 3 (by decide)
  have y4 := hMₓ 4 (by decide)
  have y5 := hMₓ 5 (by decide)
  have y6 := hMₓ 6 (by decide)
  have y7 := hMₓ 7 (by decide)
  have y8 := hMₓ 8 (by decide)
  have y9 := hMₓ 9 (by decide)
  have y10 := hMₓ 10 (by decide)
  have y12 := hMₓ 12 (by decide)
  have y26ₓ := hMₓ 26 (by decide)
  have z3 := h0 3 (by decide)
  have z6 := h0 6 (by decide)
  have z10 := h0 10 (by decide)
  have z11 := h0 11 (by decide)
  have z46ₓ := h0 46 (by decide)
  obtain ⟨a1ₓ, a2, a3, a4, a5, a6, a7, a8, a9, a10, a11, a12, a13, a14, a15, a16, -⟩ := hW
  refine ⟨⟨nₓ, dₓ, tₓ, pr, re, bl, cₓ, ⟨a1ₓ, ?_, ?_, ?_, ?_, ?_, ?_, ?_, ?_, ?_, ?_, ?_, ?_, ?_, ?_, ?_, hr⟩, ?_⟩, ⟨0, by omega, hx1, hm1, fun jₓ hj => by omega⟩, hf, ?_, ?_⟩
  · rw [s0ₓ, z6]; exact a2
  · rw [s0ₓ, y1]; exact a3
  · rw [s0ₓ, y1]; exact a4
  · rw [s0ₓ, y4]; exact a5
  · rw [s0ₓ, y4]; exact a6
  · rw [s5, y1]; exact a7
  · rw [s0ₓ, y1]; exact a8
  · rw [s0ₓ, y1]; exact a9
  · unfold RHou; rw [s1ₓ, y3]; exact a10
  · unfold RFix; rw [s2ₓ, y5, y6, y7, z10, z11]; exact a11
  · rw [s2ₓ, y1]; exact a12
  · rw [y6]; exact a13
  · unfold RFoe; rw [s3ₓ, y8]; exact a14
  · unfold RTol; rw [s4ₓ, y10]; exact a15
  · unfold RBok; rw [s6ₓ, y9]; exact a16
  · unfold RPas at hP ⊢; rw [x25, x26, x27, x28, x29, x3, z3, y2]; exact hP
  · unfold RImg at hI ⊢
    rw [h02, z46ₓ, y26ₓ]
    rcases hI with aₓ | ⟨aₓ, bₓ, n', d', t', pr', re', bl', wₓ⟩
    · exact Or.inl aₓ
    · exact Or.inr ⟨aₓ, bₓ, n', d', t', pr', re', bl', wₓ.cells (fun kₓ hk => hX (13 + kₓ) (by omega) (by omega) (by omega))⟩
  · unfold RWor; rw [y12]; exact hWo
theorem RRul.stay {Sₓ S' T T' : Mem} (hₓ : RRul (sl Sₓ 1) T) (hX : ∀ cₓ, 8 ≤ cₓ → cₓ ≤ 11 → S' cₓ = Sₓ cₓ) (h22 : T' 0 22 = T 0 22) (hl : ∀ jₓ, jₓ < 16 → T' 13 jₓ = T 13 jₓ ∧ T' 14 jₓ = T 14 jₓ ∧ T' 15 jₓ = T 15 jₓ) (hcₓ : ∀ jₓ, jₓ < 400 → T' 16 jₓ = T 16 jₓ ∧ T' 17 jₓ = T 17 jₓ) : RRul (sl S' 1) T' := by
  obtain ⟨gₓ, g1, g2, g3ₓ, ⟨x1ₓ, x2ₓ, x3⟩, m1ₓ, m2ₓ, m3ₓ⟩ := hₓ
  refine ⟨gₓ, g1, g2, g3ₓ, ⟨?_, fun iₓ hiₓ => ?_, fun jₓ hj => ?_⟩, ?_, fun iₓ hiₓ => ?_, fun jₓ hj => ?_⟩
  · show S' 8 4 = nI gₓ.length
    rw [hX 8 (by omega) (by omega)]; exact x1ₓ
  · show S' 9 iₓ = _ ∧ S' 10 iₓ = _
    rw [hX 9 (by omega) (by omega), hX 10 (by omega) (by omega)]; exact x2ₓ iₓ hiₓ
  · show S' 11 jₓ = _
    rw [hX 11 (by omega) (by omega)]; exact x3 jₓ hj
  · rw [h22]; exact m1ₓ
  · rw [(hl iₓ (by omega)).1, (hl iₓ (by omega)).2.1, (hl iₓ (by omega)).2.2]; exact m2ₓ iₓ hiₓ
  · rw [(hcₓ jₓ (by omega)).1, (hcₓ jₓ (by omega)).2]; exact m3ₓ jₓ hj
/-! the reference's copying -/
theorem cp_lines {gl : Nat} (hg : gl ≤ 16) : ∀ (mₓ xₓ fₓ : Nat) (T : Mem), xₓ + mₓ = gl → mₓ < fₓ → ∃ T', fX8_text_69 fₓ T (nI gl) (nI xₓ) = fX8_text_127 FU T' (nI gl) (nI 0) ∧ (∀ cₓ, cₓ ≠ 13 → cₓ ≠ 14 → cₓ ≠ 15 → T' cₓ = T cₓ) ∧ ∀ cₓ, cₓ = 13 ∨ cₓ = 14 ∨ cₓ = 15 → ∀ jₓ, T' cₓ jₓ = if xₓ ≤ jₓ ∧ jₓ < gl then T cₓ (16 + jₓ) else T cₓ jₓ := by
  intro mₓ
  induction mₓ with
  | zero =>
    intro xₓ fₓ T hx hf
    obtain ⟨fₓ, rfl⟩ : ∃ hₓ, fₓ = hₓ + 1 := ⟨fₓ - 1, by omega⟩
    refine ⟨T, ?_, fun cₓ _ _ _ => rfl, fun cₓ _ jₓ => (if_neg (by omega)).symm⟩
    show fX8_text_69_b (fX8_text_69 fₓ) T (nI gl) (nI xₓ) = _
    unfold fX8_text_69_b
    rw [if_pos (show nI gl ≤ nI xₓ by rw [nI_leI (by omega) (by omega)]; omega), show (0 : Int32) = nI 0 from rfl]
  | succ mₓ ihₓ =>
    intro xₓ fₓ T hx hf
    obtain ⟨fₓ, rfl⟩ : ∃ hₓ, fₓ = hₓ + 1 := ⟨fₓ - 1, by omega⟩
    obtain ⟨T1, e1ₓ⟩ : ∃ T1, T1 = mset (mset (mset T 13 xₓ (T 13 (16 + xₓ))) 14 xₓ (T 14 (16 + xₓ))) 15 xₓ (T 15 (16 + xₓ)) := ⟨_, rfl⟩
    have eqₓ : fX8_text_69_b (fX8_text_69 fₓ) T (nI gl) (nI xₓ) = fX8_text_69 fₓ T1 (nI gl) (nI (xₓ + 1)) := by
      rw [e1ₓ]
      simp (disch := first | omega | assumption) only [fX8_text_69_b, mset_ne, mset_same, upd_same, upd_ne, ltm_e, lti_e, bnd_e, fa_lit, nI_add, pk_mul, nI_clamp, gd_in, nlt0, nI_ltI, nI_leI, nI_eq, if_true, if_false, if_pos, if_neg]
    obtain ⟨T', eₓ, o, rₓ⟩ := ihₓ (xₓ + 1) fₓ T1 (by omega) (by omega)
    have t1ₓ : ∀ cₓ, cₓ = 13 ∨ cₓ = 14 ∨ cₓ = 15 → ∀ jₓ, T1 cₓ jₓ = if jₓ = xₓ then T cₓ (16 + xₓ) else T cₓ jₓ := by
      rintro cₓ (rfl | rfl | rfl) jₓ
      all_goals
        rw [e1ₓ]
        simp only [ms_at]
        by_cases qₓ : jₓ = xₓ <;> simp [qₓ]
    refine ⟨T', ?_, fun cₓ h1 h2 h3 => ?_, fun cₓ hcₓ jₓ => ?_⟩
    · exact eqₓ.trans eₓ
    · rw [o cₓ h1 h2 h3, e1ₓ, mset_ne _ _ _ h3, mset_ne _ _ _ h2, mset_ne _ _ _ h1]
    · rw [rₓ cₓ hcₓ jₓ, t1ₓ cₓ hcₓ (16 + jₓ), t1ₓ cₓ hcₓ jₓ, if_neg (show ¬ 16 + jₓ = xₓ by omega)]
      by_cases qₓ : jₓ = xₓ
      · rw [if_neg (show ¬ (xₓ + 1 ≤ jₓ ∧ jₓ < gl) by omega), if_pos qₓ, if_pos (show xₓ ≤ jₓ ∧ jₓ < gl by omega), qₓ]
      · rw [if_neg qₓ]
        by_cases wₓ : xₓ + 1 ≤ jₓ ∧ jₓ < gl
        · rw [if_pos wₓ, if_pos (show xₓ ≤ jₓ ∧ jₓ < gl by omega)]
        · rw [if_neg wₓ, if_neg (show ¬ (xₓ ≤ jₓ ∧ jₓ < gl) by omega)]
theorem cp_code {gl clₓ : Nat} (hc4 : clₓ ≤ 400) : ∀ (mₓ xₓ fₓ : Nat) (T : Mem), xₓ + mₓ = clₓ → mₓ < fₓ → T 0 28 = nI clₓ → ∃ T', fX8_text_127 fₓ T (nI gl) (nI xₓ) = some (nI gl, T') ∧ (∀ cₓ, cₓ ≠ 0 → cₓ ≠ 16 → cₓ ≠ 17 → T' cₓ = T cₓ) ∧ (∀ jₓ, T' 0 jₓ = if jₓ = 22 then nI gl else T 0 jₓ) ∧ ∀ cₓ, cₓ = 16 ∨ cₓ = 17 → ∀ jₓ, T' cₓ jₓ = if xₓ ≤ jₓ ∧ jₓ < clₓ then T cₓ (400 + jₓ) else T cₓ jₓ := by
  intro mₓ
  induction mₓ with
  | zero =>
    intro xₓ fₓ T hx hf h28
    obtain ⟨fₓ, rfl⟩ : ∃ hₓ, fₓ = hₓ + 1 := ⟨fₓ - 1, by omega⟩
    refine ⟨mset T 0 22 (nI gl), ?_, fun cₓ hₓ _ _ => mset_ne _ _ _ hₓ, fun jₓ => ?_, fun cₓ hcₓ jₓ => ?_⟩
    · show fX8_text_127_b (fX8_text_127 fₓ) T (nI gl) (nI xₓ) = _
      unfold fX8_text_127_b
      rw [h28, if_pos (show nI clₓ ≤ nI xₓ by rw [nI_leI (by omega) (by omega)]; omega), ltm_e]
    · rw [ms_at]
      by_cases qₓ : jₓ = 22
      · rw [if_pos ⟨rfl, qₓ⟩, if_pos qₓ]
      · rw [if_neg (by omega), if_neg qₓ]
    · rw [mset_ne _ _ _ (by omega), if_neg (by omega)]
  | succ mₓ ihₓ =>
    intro xₓ fₓ T hx hf h28
    obtain ⟨fₓ, rfl⟩ : ∃ hₓ, fₓ = hₓ + 1 := ⟨fₓ - 1, by omega⟩
    obtain ⟨T1, e1ₓ⟩ : ∃ T1, T1 = mset (mset T 16 xₓ (T 16 (400 + xₓ))) 17 xₓ (T 17 (400 + xₓ)) := ⟨_, rfl⟩
    have eqₓ : fX8_text_127_b (fX8_text_127 fₓ) T (nI gl) (nI xₓ) = fX8_text_127 fₓ T1 (nI gl) (nI (xₓ + 1)) := by
      rw [e1ₓ]
      simp (disch := first | omega | assumption) only [fX8_text_127_b, h28, mset_ne, mset_same, upd_same, upd_ne, ltm_e, lti_e, bnd_e, fa_lit, nI_add, pk_mul, nI_clamp, gd_in, nlt0, nI_ltI, nI_leI, nI_eq, if_true, if_false, if_pos, if_neg]
    have o1 : ∀ cₓ, cₓ ≠ 16 → cₓ ≠ 17 → T1 cₓ = T cₓ := fun cₓ h1 h2 => by rw [e1ₓ, mset_ne _ _ _ h2, mset_ne _ _ _ h1]
    obtain ⟨T', eₓ, o, zₓ, rₓ⟩ := ihₓ (xₓ + 1) fₓ T1 (by omega) (by omega) (by rw [o1 0 (by omega) (by omega)]; exact h28)
    have t1ₓ : ∀ cₓ, cₓ = 16 ∨ cₓ = 17 → ∀ jₓ, T1 cₓ jₓ = if jₓ = xₓ then T cₓ (400 + xₓ) else T cₓ jₓ := by
      rintro cₓ (rfl | rfl) jₓ
      all_goals
        rw [e1ₓ]
        simp only [ms_at]
        by_cases qₓ : jₓ = xₓ <;> simp [qₓ]
    refine ⟨T', ?_, fun cₓ h1 h2 h3 => ?_, fun jₓ => ?_, fun cₓ hcₓ jₓ => ?_⟩
    · exact eqₓ.trans eₓ
    · rw [o cₓ h1 h2 h3, o1 cₓ h2 h3]
    · rw [zₓ jₓ, o1 0 (by omega) (by omega)]
    · rw [rₓ cₓ hcₓ jₓ, t1ₓ cₓ hcₓ (400 + jₓ), t1ₓ cₓ hcₓ jₓ, if_neg (show ¬ 400 + jₓ = xₓ by omega)]
      by_cases qₓ : jₓ = xₓ
      · rw [if_neg (show ¬ (xₓ + 1 ≤ jₓ ∧ jₓ < clₓ) by omega), if_pos qₓ, if_pos (show xₓ ≤ jₓ ∧ jₓ < clₓ by omega), qₓ]
      · rw [if_neg qₓ]
        by_cases wₓ : xₓ + 1 ≤ jₓ ∧ jₓ < clₓ
        · rw [if_pos wₓ, if_pos (show xₓ ≤ jₓ ∧ jₓ < clₓ by omega)]
        · rw [if_neg wₓ, if_neg (show ¬ (xₓ ≤ jₓ ∧ jₓ < clₓ) by omega)]
/-! the start -/
def tx0 (Sₓ : Mem) : Mem := mset (mset (mset (mset (mset (mset (mset (mset (mset Sₓ 40 4 (nI 0)) 40 5 (nI 0)) 38 2 (nI 0)) 38 3 (-nI 1)) 38 5 (nI 0)) 38 9 (nI 0)) 38 13 (nI 0)) 38 14 (nI 0)) 38 15 (nI 0)
def tm0 (T : Mem) : Mem := mset (mset (mset (mset (mset (mset T 0 0 (nI 0)) 0 34 (nI 0)) 0 35 (-nI 1)) 0 17 (nI 0)) 0 28 (nI 0)) 0 29 (nI 0)
theorem tx0_c (Sₓ : Mem) {cₓ : Nat} (hₓ : cₓ ≠ 38) (h2 : cₓ ≠ 40) : tx0 Sₓ cₓ = Sₓ cₓ := by
  unfold tx0
  rw [mset_ne _ _ _ hₓ, mset_ne _ _ _ hₓ, mset_ne _ _ _ hₓ, mset_ne _ _ _ hₓ, mset_ne _ _ _ hₓ, mset_ne _ _ _ hₓ, mset_ne _ _ _ hₓ, mset_ne _ _ _ h2, mset_ne _ _ _ h2]
theorem tx0_40 (Sₓ : Mem) : tx0 Sₓ 40 4 = nI 0 ∧ tx0 Sₓ 40 5 = nI 0 := by
  unfold tx0
  constructor <;> simp [ms_at]
theorem tx0_38 (Sₓ : Mem) : tx0 Sₓ 38 1 = Sₓ 38 1 ∧ tx0 Sₓ 38 3 = -nI 1 ∧ tx0 Sₓ 38 5 = nI 0 ∧ tx0 Sₓ 38 9 = nI 0 ∧ tx0 Sₓ 38 13 = nI 0 ∧ tx0 Sₓ 38 14 = nI 0 ∧ tx0 Sₓ 38 15 = nI 0 := by
  unfold tx0
  refine ⟨?_, ?_, ?_, ?_, ?_, ?_, ?_⟩ <;> simp [ms_at]
theorem tm0_c (T : Mem) {cₓ : Nat} (hₓ : cₓ ≠ 0) : tm0 T cₓ = T cₓ := by
  unfold tm0
  rw [mset_ne _ _ _ hₓ, mset_ne _ _ _ hₓ, mset_ne _ _ _ hₓ, mset_ne _ _ _ hₓ, mset_ne _ _ _ hₓ, mset_ne _ _ _ hₓ]
theorem tm0_0 (T : Mem) {jₓ : Nat} (hₓ : jₓ ∈ [3, 6, 10, 11, 16, 22, 46]) : tm0 T 0 jₓ = T 0 jₓ := by
  simp only [List.mem_cons, List.not_mem_nil, or_false] at hₓ
  unfold tm0
  rw [ms_at, if_neg (by omega), ms_at, if_neg (by omega), ms_at, if_neg (by omega), ms_at, if_neg (by omega), ms_at, if_neg (by omega), ms_at, if_neg (by omega)]
theorem tm0_v (T : Mem) : tm0 T 0 34 = nI 0 ∧ tm0 T 0 35 = -nI 1 ∧ tm0 T 0 17 = nI 0 ∧ tm0 T 0 28 = nI 0 ∧ tm0 T 0 29 = nI 0 := by
  unfold tm0
  refine ⟨?_, ?_, ?_, ?_, ?_⟩ <;> simp [ms_at]
theorem read_tx0 (Sₓ : Mem) : fX3_read Sₓ = fX3_read_44 FU (tx0 Sₓ) (nI 0) := by
  unfold fX3_read fX4_clear_40 tx0
  rw [ltm_e, ltm_e, bnd_e, ltm_e, ltm_e, ltm_e, ltm_e, ltm_e, ltm_e, ltm_e, show (-1 : Int32) = -nI 1 from rfl, show (0 : Int32) = nI 0 from rfl]
theorem text_tm0 (T : Mem) : fX8_text T = bnd (fX8_reads (tm0 T)) fun _ S_8 => bnd (fX8_readText S_8) fun r_9 S_10 => ltm (mset S_10 0 16 (0 : Int32)) fun S_11 => (if r_9 = (-1 : Int32) then ltm (mset S_11 0 34 (S_11 0 32)) fun S_13 => ltm (mset S_13 0 35 (S_13 0 33)) fun S_14 => some ((-1 : Int32), S_14) else fX8_text_69 FU S_11 r_9 (0 : Int32)) := by
  unfold fX8_text tm0
  rw [ltm_e, ltm_e, ltm_e, ltm_e, ltm_e, ltm_e, show (-1 : Int32) = -nI 1 from rfl, show (0 : Int32) = nI 0 from rfl]
theorem sim_text : Sim RR (fun Sₓ => fX7_text Sₓ) (fun T => fX8_text T) := by
  intro Sₓ T hR
  obtain ⟨⟨n', d', t', pr, re, bl, c', hW, hP⟩, ⟨nₓ, hn, s1ₓ, t1ₓ, ht⟩, -, hI, hWo⟩ := id hR
  have hru : RRul (sl Sₓ 1) T := hW.2.2.2.2.2.2.2.2.2.2.2.2.2.2.2.2
  obtain ⟨x1ₓ, x3, x5ₓ, x9, x13, x14, x15⟩ := tx0_38 Sₓ
  obtain ⟨x404, x405⟩ := tx0_40 Sₓ
  obtain ⟨v34, v35, v17, v28, v29⟩ := tm0_v T
  obtain ⟨bₓ, hbₓ⟩ : ∃ bₓ : Nat → Nat, ∀ jₓ, bₓ jₓ < 256 ∧ Sₓ 39 jₓ &&& 255 = nI (bₓ jₓ) := ⟨fun jₓ => Classical.choose (and255ₓ (Sₓ 39 jₓ)), fun jₓ => Classical.choose_spec (and255ₓ (Sₓ 39 jₓ))⟩
  have hT0 : Tp nₓ bₓ (tx0 Sₓ) (tm0 T) := by
    refine ⟨hn, by rw [x1ₓ]; exact s1ₓ, by rw [tm0_0 T (by decide)]; exact t1ₓ, fun jₓ hj => ?_, fun jₓ hj => ?_⟩
    · rw [tx0_c Sₓ (by omega) (by omega), tm0_c T (by omega), ht jₓ hj]
      exact ⟨(hbₓ jₓ).2, (hbₓ jₓ).2, (hbₓ jₓ).1⟩
    · rw [tm0_c T (by omega)]; exact hWo jₓ hj
  obtain ⟨S1, T1, kₓ, pₓ, eₓ, numₓ, a1ₓ, a2, a3, a4, a5⟩ := scan_both hT0 x5ₓ v17 (Nat.zero_le nₓ)
  obtain ⟨fₓ, hf⟩ : ∃ fₓ, FU = fₓ + 1 := ⟨99999, rfl⟩
  have hf9 : 900 ≤ fₓ := by unfold FU at hf; omega
  have eX : fX3_read Sₓ = XT fₓ S1 0 := by
    rw [read_tx0, hf, rd44 hn (x1ₓ.trans s1ₓ) (Nat.zero_le nₓ), a1ₓ, bnd_e]
  have c40ₓ : S1 40 = tx0 Sₓ 40 := a3.1 40 (by omega)
  have r38 : ∀ jₓ, jₓ = 3 ∨ 9 ≤ jₓ → S1 38 jₓ = tx0 Sₓ 38 jₓ := fun jₓ hj => a3.2 jₓ (by omega) (by omega) (by omega) (by omega)
  have r0 : ∀ jₓ, jₓ ∈ [3, 6, 10, 11, 16, 22, 46, 34, 35, 28, 29] → T1 0 jₓ = tm0 T 0 jₓ := fun jₓ hj => by
    simp only [List.mem_cons, List.not_mem_nil, or_false] at hj
    exact a4.2 jₓ (by omega) (by omega) (by omega) (by omega)
  have hX1 : XSt S1 [] [] 0 0 [] := ⟨⟨by rw [c40ₓ]; exact x405, fun jₓ hj => absurd hj (Nat.not_lt_zero jₓ)⟩, by rw [r38 13 (by omega)]; exact x13, trivial, by rw [r38 14 (by omega)]; exact x14, by rw [r38 15 (by omega)]; exact x15, by rw [c40ₓ]; exact x404, fun jₓ hj => absurd hj (Nat.not_lt_zero jₓ)⟩
  have hM1 : MS0 T1 [] [] := ⟨⟨by rw [r0 28 (by decide)]; exact v28, fun jₓ hj => absurd hj (Nat.not_lt_zero jₓ)⟩, by rw [r0 29 (by decide)]; exact v29, fun jₓ hj => absurd hj (Nat.not_lt_zero jₓ)⟩
  have hH : HT nₓ bₓ [] S1 T1 fₓ 0 kₓ pₓ eₓ numₓ := ⟨⟨a4.tp (a3.tp hT0), a5, Nat.zero_le pₓ, by omega, hX1, hM1, Nat.zero_le pₓ⟩, by rw [r38 9 (by omega)]; exact x9, Nat.zero_le 16, fun qₓ hq => by cases hq⟩
  have hL := text_loop (nₓ := nₓ) (bₓ := bₓ) FU S1 T1 fₓ 0 kₓ pₓ eₓ numₓ [] (by unfold FU; show 16 - 0 < 100000; omega) hH
  have eT : fX8_readText T1 = fX8_readText_2 FU T1 (nI ([] : Prg).length) := by
    unfold fX8_readText
    rw [show (0 : Int32) = nI ([] : Prg).length from rfl]
  have eMₓ : fX8_text T = bnd (fX8_readText_2 FU T1 (nI ([] : Prg).length)) fun r_9 S_10 => ltm (mset S_10 0 16 (0 : Int32)) fun S_11 => (if r_9 = (-1 : Int32) then ltm (mset S_11 0 34 (S_11 0 32)) fun S_13 => ltm (mset S_13 0 35 (S_13 0 33)) fun S_14 => some ((-1 : Int32), S_14) else fX8_text_69 FU S_11 r_9 (0 : Int32)) := by
    rw [text_tm0, a2, bnd_e, eT]
  have c1ₓ : ∀ cₓ, cₓ ≤ 29 → S1 cₓ = Sₓ cₓ := fun cₓ hcₓ => by rw [a3.1 cₓ (by omega), tx0_c Sₓ (by omega) (by omega)]
  have d1ₓ : ∀ cₓ, cₓ ≠ 0 → T1 cₓ = T cₓ := fun cₓ hcₓ => by rw [a4.1 cₓ hcₓ, tm0_c T hcₓ]
  show ∃ rₓ S' T', fX7_text Sₓ = some (rₓ, S') ∧ fX8_text T = some (rₓ, T') ∧ RR S' T'
  unfold fX7_text
  rw [eX, eMₓ]
  generalize fX8_readText_2 FU T1 (nI ([] : Prg).length) = oM at hL ⊢
  generalize XT fₓ S1 0 = oX at hL ⊢
  rcases hL with ⟨rₓ, pe, T2, r1ₓ, r2, m1ₓ, m2ₓ, m3ₓ, m4ₓ, S2, n1ₓ, n2ₓ, n3ₓ, n4ₓ, n5ₓ⟩ | ⟨S2, T2, gₓ, m1ₓ, m2ₓ, n1ₓ, n2ₓ, n3ₓ, n4ₓ, n5ₓ, n6ₓ, n7, m3ₓ, m4ₓ, g1, g2, g3ₓ⟩
  · -- aₓ fault
    refine ⟨-nI 1, S2, mset (mset (mset T2 0 16 (nI 0)) 0 34 (nI rₓ)) 0 35 (nI pe), ?_, ?_, ?_⟩
    · rw [n1ₓ, bnd_e, n4ₓ, if_neg (show ¬ nI rₓ = 0 by rw [show (0 : Int32) = nI 0 from rfl, nI_eq (by omega) (by omega)]; omega)]
      rfl
    · have e32 : (mset T2 0 16 (nI 0)) 0 32 = nI rₓ := by rw [ms_at, if_neg (by omega)]; exact m3ₓ
      have e33ₓ : (mset (mset T2 0 16 (nI 0)) 0 34 (nI rₓ)) 0 33 = nI pe := by rw [ms_at, if_neg (by omega), ms_at, if_neg (by omega)]; exact m4ₓ
      rw [m1ₓ, bnd_e, ltm_e, if_pos (show -nI 1 = -1 from rfl), show (0 : Int32) = nI 0 from rfl, e32, ltm_e, e33ₓ, ltm_e]
      rfl
    · have o0ₓ : ∀ jₓ, jₓ ∈ [3, 6, 10, 11, 22, 46] → (mset (mset (mset T2 0 16 (nI 0)) 0 34 (nI rₓ)) 0 35 (nI pe)) 0 jₓ = T 0 jₓ := fun jₓ hj => by
        simp only [List.mem_cons, List.not_mem_nil, or_false] at hj
        rw [ms_at, if_neg (by omega), ms_at, if_neg (by omega), ms_at, if_neg (by omega), m2ₓ.2.1 jₓ (by simp only [List.mem_cons, List.not_mem_nil, or_false]; omega), r0 jₓ (by simp only [List.mem_cons, List.not_mem_nil, or_false]; omega), tm0_0 T (by simp only [List.mem_cons, List.not_mem_nil, or_false]; omega)]
      have oc : ∀ cₓ, cₓ ≠ 0 → (mset (mset (mset T2 0 16 (nI 0)) 0 34 (nI rₓ)) 0 35 (nI pe)) cₓ = T2 cₓ := fun cₓ hcₓ => by rw [mset_ne _ _ _ hcₓ, mset_ne _ _ _ hcₓ, mset_ne _ _ _ hcₓ]
      have sx : ∀ cₓ, cₓ ≤ 29 → S2 cₓ = Sₓ cₓ := fun cₓ hcₓ => by rw [n2ₓ cₓ (by simp only [List.mem_cons, List.not_mem_nil, or_false]; omega), c1ₓ cₓ hcₓ]
      refine hR.txt (fun cₓ h1 h2 _ => sx cₓ h2) (by rw [sx 0 (by omega)]) (fun cₓ hcₓ => ?_) (fun jₓ hj => ?_) n3ₓ ?_ ⟨?_, ?_⟩ (hru.stay (fun cₓ h1 h2 => sx cₓ (by omega)) (o0ₓ 22 (by decide)) (fun jₓ hj => ?_) (fun jₓ hj => ?_))
      · simp only [List.mem_cons, List.not_mem_nil, or_false] at hcₓ
        rw [oc cₓ (by omega), m2ₓ.1 cₓ (by simp only [List.mem_cons, List.not_mem_nil, or_false]; omega), d1ₓ cₓ (by omega)]
      · simp only [List.mem_cons, List.not_mem_nil, or_false] at hj
        exact o0ₓ jₓ (by simp only [List.mem_cons, List.not_mem_nil, or_false]; omega)
      · rw [ms_at, if_neg (by omega), ms_at, if_neg (by omega), ms_at, if_pos ⟨rfl, rfl⟩]
      · rw [n4ₓ, ms_at, if_neg (by omega), ms_at, if_pos ⟨rfl, rfl⟩]
      · rw [n5ₓ, ms_at, if_pos ⟨rfl, rfl⟩]
      · rw [oc 13 (by omega), oc 14 (by omega), oc 15 (by omega), ← d1ₓ 13 (by omega), ← d1ₓ 14 (by omega), ← d1ₓ 15 (by omega)]
        exact m2ₓ.2.2.1 jₓ hj
      · rw [oc 16 (by omega), oc 17 (by omega), ← d1ₓ 16 (by omega), ← d1ₓ 17 (by omega)]
        exact m2ₓ.2.2.2 jₓ hj
  · -- aₓ newₓ textₓ
    have h40 : S2 40 4 = nI gₓ.length := n7.1
    obtain ⟨T3, e3ₓ⟩ : ∃ T3, T3 = mset T2 0 16 (nI 0) := ⟨_, rfl⟩
    have q3ₓ : ∀ cₓ, cₓ ≠ 0 → T3 cₓ = T2 cₓ := fun cₓ hcₓ => by rw [e3ₓ, mset_ne _ _ _ hcₓ]
    obtain ⟨T4, f4ₓ, o4ₓ, w4ₓ⟩ := cp_lines (gl := gₓ.length) g1 gₓ.length 0 FU T3 (Nat.zero_add _) (by unfold FU; omega)
    have h28 : T4 0 28 = nI (flt gₓ).length := by
      rw [o4ₓ 0 (by omega) (by omega) (by omega), e3ₓ, ms_at, if_neg (by omega)]
      exact m3ₓ.1
    obtain ⟨T5, f5ₓ, o5ₓ, z5, w5⟩ := cp_code (gl := gₓ.length) (clₓ := (flt gₓ).length) g2 (flt gₓ).length 0 FU T4 (Nat.zero_add _) (by unfold FU; omega) h28
    have sx : ∀ cₓ, cₓ ≤ 29 → S2 cₓ = Sₓ cₓ := fun cₓ hcₓ => by rw [n2ₓ cₓ (by simp only [List.mem_cons, List.not_mem_nil, or_false]; omega), c1ₓ cₓ hcₓ]
    have z0 : ∀ jₓ, jₓ ∈ [3, 6, 10, 11, 46, 34, 35] → T5 0 jₓ = tm0 T 0 jₓ := fun jₓ hj => by
      simp only [List.mem_cons, List.not_mem_nil, or_false] at hj
      rw [z5 jₓ, if_neg (by omega), o4ₓ 0 (by omega) (by omega) (by omega), e3ₓ, ms_at, if_neg (by omega), m2ₓ.2.1 jₓ (by simp only [List.mem_cons, List.not_mem_nil, or_false]; omega), r0 jₓ (by simp only [List.mem_cons, List.not_mem_nil, or_false]; omega)]
    refine ⟨nI gₓ.length, swM S2, T5, ?_, ?_, ?_⟩
    · rw [n1ₓ, bnd_e, n4ₓ, if_pos (show nI 0 = 0 from rfl), h40]
    · rw [m1ₓ, bnd_e, ltm_e, if_neg (show ¬ nI gₓ.length = -1 from m1_ne (by omega)), show (0 : Int32) = nI 0 from rfl, ← e3ₓ, f4ₓ, f5ₓ]
    · have sw1 : ∀ cₓ, cₓ ≤ 39 → ¬ (8 ≤ cₓ ∧ cₓ ≤ 12) → swM S2 cₓ = S2 cₓ := fun cₓ h1 h2 => by
        unfold swM sw
        rw [if_neg h2, if_neg (by omega)]
      refine hR.txt (fun cₓ h1 h2 h3 => by rw [sw1 cₓ (by omega) h3, sx cₓ h2]) (by rw [sw1 0 (by omega) (by omega), sx 0 (by omega)]) (fun cₓ hcₓ => ?_) (fun jₓ hj => ?_) (by rw [sw1 38 (by omega) (by omega)]; exact n3ₓ) ?_ ⟨?_, ?_⟩ ⟨gₓ, g1, g2, g3ₓ, ⟨?_, fun iₓ hiₓ => ?_, fun jₓ hj => ?_⟩, ?_, fun iₓ hiₓ => ?_, fun jₓ hj => ?_⟩
      · simp only [List.mem_cons, List.not_mem_nil, or_false] at hcₓ
        rw [o5ₓ cₓ (by omega) (by omega) (by omega), o4ₓ cₓ (by omega) (by omega) (by omega), q3ₓ cₓ (by omega), m2ₓ.1 cₓ (by simp only [List.mem_cons, List.not_mem_nil, or_false]; omega), d1ₓ cₓ (by omega)]
      · simp only [List.mem_cons, List.not_mem_nil, or_false] at hj
        rw [z0 jₓ (by simp only [List.mem_cons, List.not_mem_nil, or_false]; omega), tm0_0 T (by simp only [List.mem_cons, List.not_mem_nil, or_false]; omega)]
      · rw [z5 16, if_neg (by omega), o4ₓ 0 (by omega) (by omega) (by omega), e3ₓ, ms_at, if_pos ⟨rfl, rfl⟩]
      · rw [sw1 38 (by omega) (by omega), n4ₓ, z0 34 (by decide)]; exact v34.symm
      · rw [sw1 38 (by omega) (by omega), n5ₓ, r38 3 (by omega), z0 35 (by decide), v35]; exact x3
      · exact h40
      · exact n7.2 iₓ hiₓ
      · exact n6ₓ.2 jₓ hj
      · rw [z5 22, if_pos rfl]
      · rw [o5ₓ 13 (by omega) (by omega) (by omega), o5ₓ 14 (by omega) (by omega) (by omega), o5ₓ 15 (by omega) (by omega) (by omega), w4ₓ 13 (by omega) iₓ, w4ₓ 14 (by omega) iₓ, w4ₓ 15 (by omega) iₓ, if_pos (show 0 ≤ iₓ ∧ iₓ < gₓ.length by omega), if_pos (show 0 ≤ iₓ ∧ iₓ < gₓ.length by omega), if_pos (show 0 ≤ iₓ ∧ iₓ < gₓ.length by omega), q3ₓ 13 (by omega), q3ₓ 14 (by omega), q3ₓ 15 (by omega)]
        exact m4ₓ iₓ hiₓ
      · rw [w5 16 (by omega) jₓ, w5 17 (by omega) jₓ, if_pos (show 0 ≤ jₓ ∧ jₓ < (flt gₓ).length by omega), if_pos (show 0 ≤ jₓ ∧ jₓ < (flt gₓ).length by omega), o4ₓ 16 (by omega) (by omega) (by omega), o4ₓ 17 (by omega) (by omega) (by omega), q3ₓ 16 (by omega), q3ₓ 17 (by omega)]
        exact m3ₓ.2 jₓ hj
