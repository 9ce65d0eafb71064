/-! walk: the call -/
theorem pil10 (Sₓ : Mem) {nₓ : Nat} (hn : nₓ ≤ 10) (hcₓ : Sₓ 1 9 = nI nₓ) (xₓ : Int32) (hₓ : ¬ ∃ pₓ, pₓ < nₓ ∧ xₓ = nI (10 + pₓ)) : fX6_isPilgrim Sₓ (xₓ - nI 10) = some (nI 0, Sₓ) := by
  rw [pilX Sₓ _ hn hcₓ, if_neg]
  · rfl
  · rintro ⟨jₓ, hj, eₓ⟩
    refine hₓ ⟨jₓ, hj, ?_⟩
    have : xₓ = xₓ - nI 10 + nI 10 := by grind
    rw [this, eₓ, nI_add, Nat.add_comm]
theorem in10 {nₓ : Nat} (hn : nₓ ≤ 10) (xₓ : Int32) (hₓ : ¬ ∃ pₓ, pₓ < nₓ ∧ xₓ = nI (10 + pₓ)) : ¬ (nI 10 ≤ xₓ ∧ xₓ ≤ nI (9 + nₓ)) := by
  rintro ⟨h1, h2⟩
  rcases ixC xₓ (show 10 + nₓ < 2 ^ 31 by omega) with ⟨jₓ, hj, rfl⟩ | gₓ | gₓ
  · rw [nI_leI (by omega) (by omega)] at h1
    exact hₓ ⟨jₓ - 10, by omega, by congr 1; omega⟩
  · exact of_eq_false (lo2 (k := 10) gₓ (by omega)) h1
  · exact of_eq_false (hi4 (k := 9 + nₓ) gₓ (by omega) (by omega)) h2
theorem wk_M {T T' : Mem} {V : Vw} (hBₓ : VB V) (hMₓ : MVw (mset T 0 0 (nI 0)) V) {aₓ bₓ : Nat} (hh : ∀ T, fX8_areHours T (nI aₓ) (nI bₓ) = some (nI 1, T)) (hw : fX8_findsWalk (mset T 0 0 (nI 0)) (nI aₓ) (nI bₓ) = some (nI 0, T')) : fX8_walk T (nI aₓ) (nI bₓ) (nI 0) = some (T' 0 41, T') ∧ fX8_walk T (nI aₓ) (nI bₓ) (nI 1) = some (T' 0 42, T') ∧ ∀ pₓ, pₓ < V.1 → fX8_walk T (nI aₓ) (nI bₓ) (nI (10 + pₓ)) = some (T' 23 pₓ, T') := by
  have hn := hBₓ.1
  have e6ₓ : T 0 6 = nI V.1 := hMₓ.1
  refine ⟨?_, ?_, fun pₓ hp => ?_⟩
  · simp (disch := first | omega | assumption) only [fX8_walk, fX8_walk_43, hh, fX8_isIn, hw, mset_ne, mset_same, upd_same, upd_ne, ltm_e, lti_e, bnd_e, fa_lit, nI_add, pk_mul, nI_clamp, gd_in, nlt0, nI_ltI, nI_leI, nI_eq, if_true, if_false, if_pos, if_neg]
  · simp (disch := first | omega | assumption) only [fX8_walk, fX8_walk_43, hh, fX8_isIn, hw, mset_ne, mset_same, upd_same, upd_ne, ltm_e, lti_e, bnd_e, fa_lit, nI_add, pk_mul, nI_clamp, gd_in, nlt0, nI_ltI, nI_leI, nI_eq, if_true, if_false, if_pos, if_neg]
  · simp (disch := first | omega | assumption) only [fX8_walk, fX8_walk_43, hh, fX8_isIn, e6ₓ, hw, pk_sub, Nat.add_sub_cancel_left, mset_ne, mset_same, upd_same, upd_ne, ltm_e, lti_e, bnd_e, fa_lit, nI_add, pk_mul, nI_clamp, gd_in, nlt0, nI_ltI, nI_leI, nI_eq, if_true, if_false, if_pos, if_neg]
theorem wk_X {Sₓ S' : Mem} {V : Vw} (hBₓ : VB V) (hX : XVw Sₓ V) (hX' : XVw S' V) {aₓ bₓ : Nat} {gₓ sₓ : Int32} (hh : fX7_areHours Sₓ (nI aₓ) (nI bₓ) = some (nI 1, Sₓ)) (hw : fX5_seatAll Sₓ (nI aₓ) (nI bₓ) = some (nI 0, S')) (hg : fX5_greatestBurn S' = some (gₓ, S')) (hs : fX5_sumOfBurns S' = some (sₓ, S')) : fX7_walk Sₓ (nI aₓ) (nI bₓ) (nI 0) = some (gₓ, S') ∧ fX7_walk Sₓ (nI aₓ) (nI bₓ) (nI 1) = some (sₓ, S') ∧ ∀ pₓ, pₓ < V.1 → fX7_walk Sₓ (nI aₓ) (nI bₓ) (nI (10 + pₓ)) = some (S' 34 pₓ, S') := by
  have hn := hBₓ.1
  have e1ₓ := hX.1
  have e1' := hX'.1
  have q0 := pil10 Sₓ hn e1ₓ (nI 0) (fun ⟨pₓ, h1, h2⟩ => by rw [nI_eq (by omega) (by omega)] at h2; omega)
  have q1ₓ := pil10 Sₓ hn e1ₓ (nI 1) (fun ⟨pₓ, h1, h2⟩ => by rw [nI_eq (by omega) (by omega)] at h2; omega)
  refine ⟨?_, ?_, fun pₓ hp => ?_⟩
  · simp (disch := first | omega | assumption) only [fX7_walk, q0, hh, fX7_walk_37, hw, hg, mset_ne, mset_same, upd_same, upd_ne, ltm_e, lti_e, bnd_e, fa_lit, nI_add, pk_mul, nI_clamp, gd_in, nlt0, nI_ltI, nI_leI, nI_eq, if_true, if_false, if_pos, if_neg]
  · simp (disch := first | omega | assumption) only [fX7_walk, q1ₓ, hh, fX7_walk_37, hw, hs, mset_ne, mset_same, upd_same, upd_ne, ltm_e, lti_e, bnd_e, fa_lit, nI_add, pk_mul, nI_clamp, gd_in, nlt0, nI_ltI, nI_leI, nI_eq, if_true, if_false, if_pos, if_neg]
  · simp (disch := first | omega | assumption) only [fX7_walk, pk_sub, Nat.add_sub_cancel_left, fX6_isPilgrim, e1ₓ, hh, fX7_walk_37, hw, fX5_seatOf, e1', mset_ne, mset_same, upd_same, upd_ne, ltm_e, lti_e, bnd_e, fa_lit, nI_add, pk_mul, nI_clamp, gd_in, nlt0, nI_ltI, nI_leI, nI_eq, if_true, if_false, if_pos, if_neg]
theorem sim_walk (xₓ yₓ wₓ : Int32) : Sim RR (fun Sₓ => fX7_walk Sₓ xₓ yₓ wₓ) (fun T => fX8_walk T xₓ yₓ wₓ) := by
  intro Sₓ T hR
  obtain ⟨V, tₓ, hBₓ, hX, hMₓ, -⟩ := hR.vw
  have hn := hBₓ.1
  have e1ₓ := hX.1
  have e6ₓ : T 0 6 = nI V.1 := hMₓ.1
  rcases hrs_X Sₓ xₓ yₓ with ⟨aₓ, bₓ, hab, hbₓ, rfl, rfl, h1, h2⟩ | ⟨h1, h2⟩
  · obtain ⟨S', T', sv, bvₓ, y1, y2, y3, y4, ⟨f1ₓ, f2ₓ, f3ₓ, f4ₓ, f5ₓ⟩⟩ := walk_both hBₓ hab hbₓ hX hMₓ
    have hX' := hX.fr y3
    have gs := great_X hBₓ hX' f2ₓ (fun pₓ hp => (f1ₓ pₓ hp).2) f5ₓ V.1 0 FU 0 (by omega) (by unfold FU; omega) (by omega)
    obtain ⟨m1ₓ, m2ₓ, m3ₓ⟩ := wk_M hBₓ hMₓ h2 y2
    obtain ⟨x1ₓ, x2ₓ, x3⟩ := wk_X hBₓ hX hX' h1 y1 gs.1 (gs.2 0)
    have hR' : RR S' T' := (hR.told 0).ag y3.agX y4.agM
    by_cases w0ₓ : wₓ = nI 0
    · subst w0ₓ
      exact ⟨_, S', T', x1ₓ, m1ₓ.trans (by rw [f3ₓ]), hR'⟩
    · by_cases w1ₓ : wₓ = nI 1
      · subst w1ₓ
        exact ⟨_, S', T', x2ₓ, m2ₓ.trans (by rw [f4ₓ]), hR'⟩
      · by_cases w2ₓ : ∃ pₓ, pₓ < V.1 ∧ wₓ = nI (10 + pₓ)
        · obtain ⟨pₓ, hp, rfl⟩ := w2ₓ
          exact ⟨_, S', T', x3 pₓ hp, (m3ₓ pₓ hp).trans (by rw [(f1ₓ pₓ hp).1]), hR'⟩
        · have qₓ := pil10 Sₓ hn e1ₓ wₓ w2ₓ
          have i10ₓ := in10 hn wₓ w2ₓ
          have i01 : ¬ (nI 0 ≤ wₓ ∧ wₓ ≤ nI 1) := fun zₓ => by
            obtain ⟨jₓ, hj, eₓ⟩ := (inR (show 1 < 2 ^ 31 by omega)).1 zₓ
            obtain rfl | rfl : jₓ = 0 ∨ jₓ = 1 := by omega
            · exact w0ₓ eₓ
            · exact w1ₓ eₓ
          refine ⟨-nI 1, Sₓ, mset T 0 0 (nI 0), ?_, ?_, hR.told 0⟩
          · clear m1ₓ m2ₓ m3ₓ x1ₓ x2ₓ x3 y1 y2 gs
            simp (disch := first | omega | assumption) only [fX7_walk, qₓ, h1, w0ₓ, w1ₓ, mset_ne, mset_same, upd_same, upd_ne, ltm_e, lti_e, bnd_e, fa_lit, nI_add, pk_mul, nI_clamp, gd_in, nlt0, nI_ltI, nI_leI, nI_eq, if_true, if_false, if_pos, if_neg]
          · clear m1ₓ m2ₓ m3ₓ x1ₓ x2ₓ x3 y1 y2 gs
            simp (disch := first | omega | assumption) only [fX8_walk, h2, isIn_eq, e6ₓ, i10ₓ, i01, mset_ne, mset_same, upd_same, upd_ne, ltm_e, lti_e, bnd_e, fa_lit, nI_add, pk_mul, nI_clamp, gd_in, nlt0, nI_ltI, nI_leI, nI_eq, if_true, if_false, if_pos, if_neg]
  · refine ⟨-nI 1, Sₓ, mset T 0 0 (nI 0), ?_, ?_, hR.told 0⟩
    · have hp := pilX Sₓ (wₓ - nI 10) hn e1ₓ
      simp (disch := first | omega | assumption) only [fX7_walk, hp, h1, mset_ne, mset_same, upd_same, upd_ne, ltm_e, lti_e, bnd_e, fa_lit, nI_add, pk_mul, nI_clamp, gd_in, nlt0, nI_ltI, nI_leI, nI_eq, if_true, if_false, if_pos, if_neg]
    · simp (disch := first | omega | assumption) only [fX8_walk, h2, mset_ne, mset_same, upd_same, upd_ne, ltm_e, lti_e, bnd_e, fa_lit, nI_add, pk_mul, nI_clamp, gd_in, nlt0, nI_ltI, nI_leI, nI_eq, if_true, if_false, if_pos, if_neg]
