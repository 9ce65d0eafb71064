/-! one PILGRIM's turn -/
theorem RWn.st {nₓ dₓ tₓ pr re bl pₓ mₓ : Nat} {vₓ : Int32} {Sₓ T : Mem} (hₓ : RWn nₓ dₓ tₓ pr re bl (sl Sₓ 1) T) (hp : pₓ < 10) (hmₓ : mₓ < 5) (r0 : mₓ = 0 → le32 vₓ 24) (r2 : mₓ = 2 → le32 vₓ (81 * (12 * dₓ + tₓ))) : RWn nₓ dₓ tₓ pr re bl (sl (mset Sₓ 3 (10 * pₓ + cm mₓ) vₓ) 1) (mset T 1 (5 + 10 * mₓ + pₓ) vₓ) := by
  refine hₓ.mv1 (m := mₓ) (v := vₓ) hp hmₓ r0 r2 (fun cₓ h1 h2 => ?_) rfl (fun cₓ hcₓ => ?_) rfl rfl rfl rfl rfl
  · show mset Sₓ 3 (10 * pₓ + cm mₓ) vₓ (1 + cₓ) = Sₓ (1 + cₓ)
    exact mset_ne _ _ _ (by omega)
  · exact mset_ne _ _ _ (fun zₓ => by subst zₓ; revert hcₓ; decide)
theorem RWn.sc {nₓ dₓ tₓ pr re bl : Nat} {Sₓ T S' T' : Mem} (hₓ : RWn nₓ dₓ tₓ pr re bl (sl Sₓ 1) T) (hSₓ : frm scX Sₓ S') (hTₓ : frm scM T T') : RWn nₓ dₓ tₓ pr re bl (sl S' 1) T' := by
  have eₓ : ∀ cₓ, cₓ ≤ 10 → sl S' 1 cₓ = sl Sₓ 1 cₓ := fun cₓ hcₓ => hSₓ (1 + cₓ) (fun qₓ => by simp only [scX, List.mem_cons, List.not_mem_nil, or_false] at qₓ; omega)
  have e0ₓ : T' 0 = T 0 := hTₓ 0 (by decide)
  have e1ₓ : T' 1 = T 1 := hTₓ 1 (by decide)
  refine hₓ.mv (fun cₓ h1 _ => eₓ cₓ h1) (fun cₓ hcₓ => hTₓ cₓ (fun qₓ => ?_)) (by rw [e0ₓ]) (by rw [e0ₓ]) (by rw [e0ₓ]) (by rw [e0ₓ]) (fun jₓ _ => by rw [e1ₓ]) (fun pₓ _ => by rw [eₓ 2 (by omega)]; exact ⟨rfl, rfl, rfl, rfl, rfl⟩) ?_
  · simp only [scM, List.mem_cons, List.not_mem_nil, or_false] at qₓ hcₓ
    omega
  · rw [eₓ 2 (by omega), e1ₓ]; exact hₓ.2.2.2.2.2.2.2.2.2.2.2.1
theorem fr12 {Sₓ S' : Mem} (hₓ : frm [12] Sₓ S') : frm scX Sₓ S' := fun cₓ hcₓ => hₓ cₓ (fun qₓ => hcₓ (by rw [List.mem_singleton] at qₓ; subst qₓ; decide))
theorem fr20 {T T' : Mem} (hₓ : frm [20] T T') : frm scM T T' := fun cₓ hcₓ => hₓ cₓ (fun qₓ => hcₓ (by rw [List.mem_singleton] at qₓ; subst qₓ; decide))
theorem Shd.m {T : Mem} {V : Vw} {hₓ rₓ : Nat} (hSₓ : Shd T V hₓ rₓ) (kₓ : Nat) (hk : kₓ = 19 ∨ kₓ = 20) (Fₓ : Nat → Int32) : Shd (mput T kₓ Fₓ) V hₓ rₓ := by
  obtain ⟨h1, h2⟩ := hSₓ
  refine ⟨h1.fr (frm.put _ _ (by rcases hk with rfl | rfl <;> decide)), fun cₓ jₓ hcₓ => ?_⟩
  rw [mput_ne _ _ (show 21 ≠ kₓ by omega), mput_ne _ _ (show 0 ≠ kₓ by omega)]
  exact h2 cₓ jₓ hcₓ
theorem Shd.fr {T T' : Mem} {V : Vw} {hₓ rₓ : Nat} (hSₓ : Shd T V hₓ rₓ) (fₓ : frm [20] T T') : Shd T' V hₓ rₓ := by
  obtain ⟨h1, h2⟩ := hSₓ
  refine ⟨h1.fr (fr20 fₓ), fun cₓ jₓ hcₓ => ?_⟩
  rw [fₓ 21 (by decide), fₓ 0 (by decide)]
  exact h2 cₓ jₓ hcₓ
theorem m31 (Sₓ : Mem) (Fₓ : Nat → Int32) (kₓ jₓ : Nat) (vₓ : Int32) : mset (mput Sₓ kₓ Fₓ) kₓ jₓ vₓ = mput Sₓ kₓ (upd Fₓ jₓ vₓ) := by
  unfold mset
  rw [mput_same, mput_mput]
theorem has31 (Sₓ : Mem) (Fₓ : Nat → Int32) {nₓ pₓ cₓ : Nat} (hn : nₓ ≤ 10) (eₓ : Sₓ 1 9 = nI nₓ) (hp : pₓ < nₓ) (hcₓ : cₓ < 10) : fX6_has (mput Sₓ 31 Fₓ) (nI pₓ) (nI cₓ) = some (Sₓ 3 (10 * pₓ + cₓ), mput Sₓ 31 Fₓ) := has_X (mput Sₓ 31 Fₓ) hn eₓ hp hcₓ
theorem fill_X (Sₓ : Mem) {nₓ pₓ hₓ bₓ : Nat} (hn : nₓ ≤ 10) (eₓ : Sₓ 1 9 = nI nₓ) (hp : pₓ < nₓ) (hbₓ : bₓ < 2) (xₓ : Int32) : ∃ Fₓ, fX1_fillValues Sₓ (nI pₓ) (nI hₓ) xₓ (nI bₓ) = some (nI 0, mput Sₓ 31 Fₓ) ∧ Fₓ 0 = Sₓ 3 (10 * pₓ + 7) ∧ Fₓ 1 = xₓ ∧ Fₓ 2 = nI bₓ ∧ Fₓ 3 = Sₓ 3 (10 * pₓ + 4) ∧ Fₓ 4 = Sₓ 3 (10 * pₓ + 1) ∧ Fₓ 5 = Sₓ 3 (10 * pₓ + 3) ∧ Fₓ 6 = nI hₓ ∧ Fₓ 7 = Sₓ 3 (10 * pₓ + 0) ∧ Fₓ 8 = Sₓ 3 (10 * pₓ + 5) ∧ Fₓ 9 = nI pₓ := by
  have keyₓ : ∀ (Fₓ : Nat → Int32), fX1_fillValues_38 (mput Sₓ 31 Fₓ) (nI pₓ) (nI hₓ) (nI 2) (nI bₓ) = some (nI 0, mput Sₓ 31 (upd (upd (upd (upd (upd (upd (upd (upd Fₓ 2 (nI bₓ)) 3 (Sₓ 3 (10 * pₓ + 4))) 4 (Sₓ 3 (10 * pₓ + 1))) 5 (Sₓ 3 (10 * pₓ + 3))) 6 (nI hₓ)) 7 (Sₓ 3 (10 * pₓ + 0))) 8 (Sₓ 3 (10 * pₓ + 5))) 9 (nI pₓ))) := by
    intro Fₓ
    unfold fX1_fillValues_38
    simp (disch := first | omega | assumption) only [gd_in, ltm_e, fa_lit, nI_clamp, m31, has31 Sₓ _ hn eₓ hp, bnd_e]
  have k0ₓ : fX1_fillValues Sₓ (nI pₓ) (nI hₓ) xₓ (nI bₓ) = fX1_fillValues_38 (mput Sₓ 31 (upd (upd (Sₓ 31) 0 (Sₓ 3 (10 * pₓ + 7))) 1 xₓ)) (nI pₓ) (nI hₓ) (nI 2) (nI bₓ) := by
    unfold fX1_fillValues
    rw [show (7 : Int32) = nI 7 from rfl, has_X Sₓ hn eₓ hp (by omega), bnd_e, ltm_e, ltm_e]
    have e1ₓ : mset (mset Sₓ 31 ((0 : Int32)).toNatClampNeg (Sₓ 3 (10 * pₓ + 7))) 31 ((1 : Int32)).toNatClampNeg xₓ = mput Sₓ 31 (upd (upd (Sₓ 31) 0 (Sₓ 3 (10 * pₓ + 7))) 1 xₓ) := m31 Sₓ _ 31 1 xₓ
    rw [e1ₓ]
    rcases (show bₓ = 0 ∨ bₓ = 1 by omega) with rfl | rfl
    · rw [if_pos (show nI 0 = 0 from rfl)]; rfl
    · rw [if_neg (show ¬ nI 1 = 0 by decide)]; rfl
  refine ⟨_, k0ₓ.trans (keyₓ _), ?_, ?_, ?_, ?_, ?_, ?_, ?_, ?_, ?_, ?_⟩
  all_goals simp (disch := omega) only [upd_ne, upd_same]
theorem rule_M {T : Mem} {V : Vw} (hBₓ : VB V) {hₓ rₓ pₓ : Nat} (hSₓ : Shd T V hₓ rₓ) (hh : hₓ < 12) (hp : pₓ < V.1) (xₓ : Int32) : ∃ Gₓ, fX8_ruleFor T (nI pₓ) (nI hₓ) xₓ = fX8_ruleFor_129 FU (mput T 19 Gₓ) (nI 0) ∧ Gₓ 0 = T 1 (25 + pₓ) ∧ Gₓ 1 = xₓ ∧ Gₓ 2 = (if isSh V hₓ rₓ pₓ = true then nI 1 else nI 0) ∧ Gₓ 3 = T 1 (15 + pₓ) ∧ Gₓ 4 = T 5 pₓ ∧ Gₓ 5 = T 7 pₓ ∧ Gₓ 6 = nI hₓ ∧ Gₓ 7 = T 1 (5 + pₓ) ∧ Gₓ 8 = bitI (T 0 10) pₓ ∧ Gₓ 9 = nI pₓ := by
  have hn := hBₓ.1
  have keyₓ : ∀ (bₓ : Nat) (Fₓ : Nat → Int32), bₓ < 2 → fX8_ruleFor_40 (mput T 19 Fₓ) (nI pₓ) (nI hₓ) (nI 2) (nI bₓ) = fX8_ruleFor_129 FU (mput T 19 (upd (upd (upd (upd (upd (upd (upd (upd Fₓ 2 (nI bₓ)) 3 (T 1 (15 + pₓ))) 4 (T 5 pₓ)) 5 (T 7 pₓ)) 6 (nI hₓ)) 7 (T 1 (5 + pₓ))) 8 (bitI (T 0 10) pₓ)) 9 (nI pₓ))) (nI 0) := by
    intro bₓ Fₓ hbₓ
    unfold fX8_ruleFor_40
    simp (disch := first | omega | assumption) only [gd_in, ltm_e, fa_lit, nI_clamp, m31, nI_add, mput_ne]
    rfl
  have hiₓ := isShd_M hBₓ (hSₓ.m 19 (Or.inl rfl) (upd (upd (T 19) 0 (T 1 (25 + pₓ))) 1 xₓ)) hh hp
  have k0ₓ : fX8_ruleFor T (nI pₓ) (nI hₓ) xₓ = fX8_ruleFor_40 (mput T 19 (upd (upd (T 19) 0 (T 1 (25 + pₓ))) 1 xₓ)) (nI pₓ) (nI hₓ) (nI 2) (if isSh V hₓ rₓ pₓ = true then nI 1 else nI 0) := by
    unfold fX8_ruleFor
    rw [show (25 : Int32) = nI 25 from rfl, nI_add, gd_in _ (show 25 + pₓ < 55 by omega) (by omega), ltm_e, ltm_e, nI_clamp (show 25 + pₓ < 2 ^ 31 by omega)]
    have e1ₓ : mset (mset T 19 ((0 : Int32)).toNatClampNeg (T 1 (25 + pₓ))) 19 ((1 : Int32)).toNatClampNeg xₓ = mput T 19 (upd (upd (T 19) 0 (T 1 (25 + pₓ))) 1 xₓ) := m31 T _ 19 1 xₓ
    rw [e1ₓ, hiₓ, bnd_e]
    by_cases cₓ : isSh V hₓ rₓ pₓ = true
    · rw [if_pos cₓ, if_neg (show ¬ nI 1 = 0 by decide)]; rfl
    · rw [if_neg cₓ, if_pos (show nI 0 = 0 from rfl)]; rfl
  by_cases cₓ : isSh V hₓ rₓ pₓ = true
  · rw [if_pos cₓ] at k0ₓ ⊢
    refine ⟨_, k0ₓ.trans (keyₓ 1 _ (by omega)), ?_, ?_, ?_, ?_, ?_, ?_, ?_, ?_, ?_, ?_⟩
    all_goals simp (disch := omega) only [upd_ne, upd_same]
  · rw [if_neg cₓ] at k0ₓ ⊢
    refine ⟨_, k0ₓ.trans (keyₓ 0 _ (by omega)), ?_, ?_, ?_, ?_, ?_, ?_, ?_, ?_, ?_, ?_⟩
    all_goals simp (disch := omega) only [upd_ne, upd_same]
/-! buying -/
def selOk (V : Vw) (bn : Nat → Nat) (hₓ rₓ pₓ qₓ : Nat) : Bool := !decide (V.2.2 qₓ 5 = 1) && !decide (V.2.2 qₓ 6 = 1) && isSh V hₓ rₓ qₓ && decide (bn qₓ < bn pₓ)
theorem sell_X {Sₓ : Mem} {V : Vw} (hBₓ : VB V) (hX : XVw Sₓ V) {hₓ rₓ pₓ : Nat} {bn : Nat → Nat} (hbₓ : ∀ qₓ, qₓ < 10 → Sₓ 3 (10 * qₓ + 7) = nI (bn qₓ) ∧ bn qₓ < 2 ^ 30) (hp : pₓ < V.1) : ∀ (kₓ iₓ fₓ aₓ : Nat), iₓ + kₓ = V.1 → kₓ < fₓ → (aₓ = 99 ∨ (aₓ < V.1 ∧ bn aₓ < bn pₓ)) → fX1_findSeller_17 fₓ Sₓ (nI (shM V hₓ rₓ)) (eI aₓ) (nI (if aₓ = 99 then bn pₓ else bn aₓ)) (nI iₓ) = some (eI (bstₓ (selOk V bn hₓ rₓ pₓ) (fun xₓ yₓ => decide (bn xₓ < bn yₓ)) kₓ iₓ aₓ), Sₓ) := by
  have hn := hBₓ.1
  have e1ₓ := hX.1
  intro kₓ
  induction kₓ with
  | zero =>
    intro iₓ fₓ aₓ hiₓ hf haₓ
    obtain ⟨fₓ, rfl⟩ : ∃ gₓ, fₓ = gₓ + 1 := ⟨fₓ - 1, by omega⟩
    show fX1_findSeller_17_b (fX1_findSeller_17 fₓ) Sₓ (nI (shM V hₓ rₓ)) (eI aₓ) (nI (if aₓ = 99 then bn pₓ else bn aₓ)) (nI iₓ) = _
    unfold fX1_findSeller_17_b
    rw [e1ₓ, if_pos (nI_le (by omega) (by omega)), bstₓ]
  | succ kₓ ihₓ =>
    intro iₓ fₓ aₓ hiₓ hf haₓ
    obtain ⟨fₓ, rfl⟩ : ∃ gₓ, fₓ = gₓ + 1 := ⟨fₓ - 1, by omega⟩
    have hq : iₓ < V.1 := by omega
    obtain ⟨-, -, -, -, e5ₓ, e6ₓ⟩ := has_V hBₓ hX hq
    obtain ⟨-, -, -, -, b5, b6⟩ := hBₓ.2.2.1 iₓ (by omega)
    have e7ₓ := has_X Sₓ hn e1ₓ hq (show 7 < 10 by omega)
    obtain ⟨hb1, hb2⟩ := hbₓ iₓ (by omega)
    obtain ⟨-, hb3⟩ := hbₓ pₓ (by omega)
    rw [hb1] at e7ₓ
    have es := isShd_X hBₓ hX (gₓ := hₓ) (rₓ := rₓ) hq
    have skipₓ : ¬ (selOk V bn hₓ rₓ pₓ iₓ = true ∧ (aₓ = 99 ∨ decide (bn iₓ < bn aₓ) = true)) → bstₓ (selOk V bn hₓ rₓ pₓ) (fun xₓ yₓ => decide (bn xₓ < bn yₓ)) (kₓ + 1) iₓ aₓ = bstₓ (selOk V bn hₓ rₓ pₓ) (fun xₓ yₓ => decide (bn xₓ < bn yₓ)) kₓ (iₓ + 1) aₓ := fun zₓ => by rw [bstₓ, if_neg zₓ]
    have noOk : selOk V bn hₓ rₓ pₓ iₓ = false → bstₓ (selOk V bn hₓ rₓ pₓ) (fun xₓ yₓ => decide (bn xₓ < bn yₓ)) (kₓ + 1) iₓ aₓ = bstₓ (selOk V bn hₓ rₓ pₓ) (fun xₓ yₓ => decide (bn xₓ < bn yₓ)) kₓ (iₓ + 1) aₓ := fun zₓ => skipₓ (fun yₓ => by rw [zₓ] at yₓ; cases yₓ.1)
    have zₓ := ihₓ (iₓ + 1) fₓ aₓ (by omega) (by omega) haₓ
    show fX1_findSeller_17_b (fX1_findSeller_17 fₓ) Sₓ (nI (shM V hₓ rₓ)) (eI aₓ) (nI (if aₓ = 99 then bn pₓ else bn aₓ)) (nI iₓ) = _
    unfold fX1_findSeller_17_b fX1_findSeller_58 fX1_findSeller_63 fX1_findSeller_115
    rw [e1ₓ, if_neg (show ¬ nI V.1 ≤ nI iₓ by rw [nI_leI (by omega) (by omega)]; omega), show (5 : Int32) = nI 5 from rfl, e5ₓ, bnd_e, show nI iₓ + 1 = nI (iₓ + 1) from nI_add iₓ 1, show (1 : Int32) = nI 1 from rfl, show (0 : Int32) = nI 0 from rfl]
    by_cases c5ₓ : V.2.2 iₓ 5 = 1
    · rw [if_pos (show nI (V.2.2 iₓ 5) = nI 1 by rw [c5ₓ]), if_neg (show ¬ nI 1 = nI 0 by decide), noOk (by unfold selOk; rw [decide_eq_true c5ₓ]; rfl)]
      exact zₓ
    · rw [if_neg (show ¬ nI (V.2.2 iₓ 5) = nI 1 by rw [nI_eq (by omega) (by omega)]; exact c5ₓ), show (6 : Int32) = nI 6 from rfl, e6ₓ, bnd_e]
      by_cases c6ₓ : V.2.2 iₓ 6 = 1
      · rw [if_pos (show nI (V.2.2 iₓ 6) = nI 1 by rw [c6ₓ]), if_neg (show ¬ nI 1 = nI 0 by decide), noOk (by unfold selOk; rw [decide_eq_true c6ₓ]; simp)]
        exact zₓ
      · rw [if_neg (show ¬ nI (V.2.2 iₓ 6) = nI 1 by rw [nI_eq (by omega) (by omega)]; exact c6ₓ), if_pos (show nI 0 = nI 0 from rfl), es, bnd_e]
        by_cases c7ₓ : isSh V hₓ rₓ iₓ = true
        · rw [if_pos c7ₓ, if_neg (show ¬ nI 1 = nI 0 by decide), show (7 : Int32) = nI 7 from rfl, e7ₓ, bnd_e, e7ₓ, bnd_e]
          have hs : selOk V bn hₓ rₓ pₓ iₓ = decide (bn iₓ < bn pₓ) := by
            unfold selOk; rw [decide_eq_false c5ₓ, decide_eq_false c6ₓ, c7ₓ]; simp
          have la : (if aₓ = 99 then bn pₓ else bn aₓ) < 2 ^ 30 ∧ ((if aₓ = 99 then bn pₓ else bn aₓ) ≤ bn iₓ ↔ ¬ (selOk V bn hₓ rₓ pₓ iₓ = true ∧ (aₓ = 99 ∨ decide (bn iₓ < bn aₓ) = true))) := by
            rw [hs, decide_eq_true_eq, decide_eq_true_eq]
            by_cases a9 : aₓ = 99
            · rw [if_pos a9]
              exact ⟨hb3, ⟨fun qₓ wₓ => by omega, fun qₓ => Nat.le_of_not_lt (fun wₓ => qₓ ⟨wₓ, Or.inl a9⟩)⟩⟩
            · rw [if_neg a9]
              have h1 := haₓ.resolve_left a9
              have h2 := (hbₓ aₓ (by omega)).2
              exact ⟨h2, ⟨fun qₓ wₓ => by rcases wₓ.2 with wₓ | wₓ; exact a9 wₓ; omega, fun qₓ => Nat.le_of_not_lt (fun wₓ => qₓ ⟨by omega, Or.inr wₓ⟩)⟩⟩
          by_cases c8ₓ : selOk V bn hₓ rₓ pₓ iₓ = true ∧ (aₓ = 99 ∨ decide (bn iₓ < bn aₓ) = true)
          · rw [if_neg (show ¬ nI (if aₓ = 99 then bn pₓ else bn aₓ) ≤ nI (bn iₓ) by rw [nI_leI (by omega) (by omega)]; exact fun qₓ => (la.2.1 qₓ) c8ₓ), bstₓ, if_pos c8ₓ]
            have yₓ := ihₓ (iₓ + 1) fₓ iₓ (by omega) (by omega) (Or.inr ⟨hq, by have := c8ₓ.1; rw [hs, decide_eq_true_eq] at this; exact this⟩)
            rw [if_neg (show ¬ iₓ = 99 by omega), eI_ne (show iₓ ≠ 99 by omega)] at yₓ
            exact yₓ
          · rw [if_pos (show nI (if aₓ = 99 then bn pₓ else bn aₓ) ≤ nI (bn iₓ) by rw [nI_leI (by omega) (by omega)]; exact la.2.2 c8ₓ), skipₓ c8ₓ]
            exact zₓ
        · have c7' : isSh V hₓ rₓ iₓ = false := by simpa using c7ₓ
          rw [if_neg c7ₓ, if_pos (show nI 0 = nI 0 from rfl), noOk (by unfold selOk; rw [c7']; simp)]
          exact zₓ
/-- the reference's exchange between p and q -/
def swM2 (T : Mem) (pₓ qₓ : Nat) : Mem := mset (mset (mset (mset (mset (mset T 1 (5 + pₓ) (T 1 (5 + qₓ))) 1 (5 + qₓ) (T 1 (5 + pₓ))) 1 (15 + pₓ) (T 1 (15 + pₓ) - T 4 0)) 1 (15 + qₓ) (T 1 (15 + qₓ) + T 4 0)) 1 (45 + pₓ) (T 1 (45 + pₓ) + nI 1)) 1 (35 + qₓ) (T 1 (35 + qₓ) + nI 1)
def swX2 (Sₓ : Mem) (pₓ qₓ : Nat) : Mem := mset (mset (mset (mset (mset (mset Sₓ 3 (10 * pₓ + 0) (Sₓ 3 (10 * qₓ + 0))) 3 (10 * qₓ + 0) (Sₓ 3 (10 * pₓ + 0))) 3 (10 * pₓ + 4) (Sₓ 3 (10 * pₓ + 4) - Sₓ 1 11)) 3 (10 * qₓ + 4) (Sₓ 3 (10 * qₓ + 4) + Sₓ 1 11)) 3 (10 * pₓ + 9) (Sₓ 3 (10 * pₓ + 9) + nI 1)) 3 (10 * qₓ + 8) (Sₓ 3 (10 * qₓ + 8) + nI 1)
theorem buy_M {T : Mem} {V : Vw} (hBₓ : VB V) {hₓ rₓ pₓ : Nat} (hh : hₓ < 12) (hSₓ : Shd T V hₓ rₓ) {bn : Nat → Nat} (hbₓ : ∀ qₓ, qₓ < 10 → T 1 (25 + qₓ) = nI (bn qₓ) ∧ bn qₓ < 2 ^ 30) (hp : pₓ < V.1) : ∀ (kₓ iₓ fₓ aₓ : Nat), iₓ + kₓ = V.1 → kₓ < fₓ → (aₓ = 99 ∨ (aₓ < V.1 ∧ aₓ ≠ pₓ ∧ bn aₓ < bn pₓ)) → fX8_buys_23 fₓ T (nI pₓ) (eI aₓ) (nI iₓ) = some (nI 0, if bstₓ (selOk V bn hₓ rₓ pₓ) (fun xₓ yₓ => decide (bn xₓ < bn yₓ)) kₓ iₓ aₓ = 99 then T else swM2 T pₓ (bstₓ (selOk V bn hₓ rₓ pₓ) (fun xₓ yₓ => decide (bn xₓ < bn yₓ)) kₓ iₓ aₓ)) := by
  have hn := hBₓ.1
  have e2ₓ := hSₓ.1.1
  intro kₓ
  induction kₓ with
  | zero =>
    intro iₓ fₓ aₓ hiₓ hf haₓ
    obtain ⟨fₓ, rfl⟩ : ∃ gₓ, fₓ = gₓ + 1 := ⟨fₓ - 1, by omega⟩
    show fX8_buys_23_b (fX8_buys_23 fₓ) T (nI pₓ) (eI aₓ) (nI iₓ) = _
    rw [bstₓ]
    by_cases a9 : aₓ = 99
    · unfold fX8_buys_23_b
      rw [e2ₓ, if_pos (nI_le (by omega) (by omega)), a9, if_pos (show eI 99 = -1 from rfl), if_pos rfl]
      rfl
    · obtain ⟨h1, h2, h3⟩ := haₓ.resolve_left a9
      rw [if_neg a9, eI_ne a9]
      have na : ¬ nI aₓ = -nI 1 := m1_ne (by omega)
      simp (disch := first | omega | assumption) only [fX8_buys_23_b, e2ₓ, na, swM2, mset_ne, mset_same, upd_same, upd_ne, ltm_e, lti_e, bnd_e, fa_lit, nI_add, pk_mul, nI_clamp, gd_in, nlt0, nI_ltI, nI_leI, nI_eq, if_true, if_false, if_pos, if_neg]
  | succ kₓ ihₓ =>
    intro iₓ fₓ aₓ hiₓ hf haₓ
    obtain ⟨fₓ, rfl⟩ : ∃ gₓ, fₓ = gₓ + 1 := ⟨fₓ - 1, by omega⟩
    have hq : iₓ < V.1 := by omega
    obtain ⟨-, -, -, -, b5, b6⟩ := hBₓ.2.2.1 iₓ (by omega)
    obtain ⟨hb1, hb2⟩ := hbₓ iₓ (by omega)
    obtain ⟨hb0, hb3⟩ := hbₓ pₓ (by omega)
    have es := isShd_M hBₓ hSₓ hh hq
    have k1ₓ := bitI_iff (T 0 10 ||| T 0 11) (show iₓ < 32 by omega)
    rw [b_or, bs_pb hBₓ hSₓ.1 (by omega), hat_b hBₓ hSₓ.1 (by omega)] at k1ₓ
    have skipₓ : ¬ (selOk V bn hₓ rₓ pₓ iₓ = true ∧ (aₓ = 99 ∨ decide (bn iₓ < bn aₓ) = true)) → bstₓ (selOk V bn hₓ rₓ pₓ) (fun xₓ yₓ => decide (bn xₓ < bn yₓ)) (kₓ + 1) iₓ aₓ = bstₓ (selOk V bn hₓ rₓ pₓ) (fun xₓ yₓ => decide (bn xₓ < bn yₓ)) kₓ (iₓ + 1) aₓ := fun zₓ => by rw [bstₓ, if_neg zₓ]
    have noOk : selOk V bn hₓ rₓ pₓ iₓ = false → bstₓ (selOk V bn hₓ rₓ pₓ) (fun xₓ yₓ => decide (bn xₓ < bn yₓ)) (kₓ + 1) iₓ aₓ = bstₓ (selOk V bn hₓ rₓ pₓ) (fun xₓ yₓ => decide (bn xₓ < bn yₓ)) kₓ (iₓ + 1) aₓ := fun zₓ => skipₓ (fun yₓ => by rw [zₓ] at yₓ; cases yₓ.1)
    have by_y : selOk V bn hₓ rₓ pₓ iₓ = true ∧ (aₓ = 99 ∨ decide (bn iₓ < bn aₓ) = true) → bstₓ (selOk V bn hₓ rₓ pₓ) (fun xₓ yₓ => decide (bn xₓ < bn yₓ)) (kₓ + 1) iₓ aₓ = bstₓ (selOk V bn hₓ rₓ pₓ) (fun xₓ yₓ => decide (bn xₓ < bn yₓ)) kₓ (iₓ + 1) iₓ := fun zₓ => by rw [bstₓ, if_pos zₓ]
    have zₓ := ihₓ (iₓ + 1) fₓ aₓ (by omega) (by omega) haₓ
    show fX8_buys_23_b (fX8_buys_23 fₓ) T (nI pₓ) (eI aₓ) (nI iₓ) = _
    unfold fX8_buys_23_b fX8_buys_111 fX8_buys_113
    rw [e2ₓ, if_neg (show ¬ nI V.1 ≤ nI iₓ by rw [nI_leI (by omega) (by omega)]; omega), show nI iₓ + 1 = nI (iₓ + 1) from nI_add iₓ 1]
    by_cases cpₓ : iₓ = pₓ
    · rw [if_pos (show nI iₓ = nI pₓ by rw [cpₓ]), noOk (by unfold selOk; rw [cpₓ, decide_eq_false (Nat.lt_irrefl _), Bool.and_false])]
      exact zₓ
    · rw [if_neg (show ¬ nI iₓ = nI pₓ by rw [nI_eq (by omega) (by omega)]; exact cpₓ), es, bnd_e]
      by_cases c7ₓ : isSh V hₓ rₓ iₓ = true
      · rw [if_pos c7ₓ, if_neg (show ¬ nI 1 = 0 by decide), show (25 : Int32) = nI 25 from rfl, nI_add, nI_add, gd_in _ (show 25 + iₓ < 55 by omega) (by omega), gd_in _ (show 25 + pₓ < 55 by omega) (by omega), nI_clamp (show 25 + iₓ < 2 ^ 31 by omega), nI_clamp (show 25 + pₓ < 2 ^ 31 by omega), hb1, hb0]
        by_cases c8ₓ : bn iₓ < bn pₓ
        · rw [if_neg (show ¬ nI (bn pₓ) ≤ nI (bn iₓ) by rw [nI_leI (by omega) (by omega)]; omega)]
          by_cases c5ₓ : (pb V iₓ || decide (V.2.2 iₓ 6 = 1)) = true
          · rw [if_pos (show (((T 0 10 ||| T 0 11) >>> (nI iₓ &&& 31)) &&& (1 : Int32)) = 1 from k1ₓ.2 c5ₓ), noOk (by
              unfold selOk
              unfold pb at c5ₓ
              rw [Bool.or_eq_true] at c5ₓ
              rcases c5ₓ with c5ₓ | c5ₓ
              · rw [c5ₓ]; rfl
              · rw [c5ₓ]; simp)]
            exact zₓ
          · have c5' : pb V iₓ = false ∧ decide (V.2.2 iₓ 6 = 1) = false := by simpa using c5ₓ
            have hs : selOk V bn hₓ rₓ pₓ iₓ = true := by
              unfold selOk
              have c51ₓ := c5'.1
              unfold pb at c51ₓ
              rw [c51ₓ, c5'.2, c7ₓ, decide_eq_true c8ₓ]; rfl
            rw [if_neg (show ¬ (((T 0 10 ||| T 0 11) >>> (nI iₓ &&& 31)) &&& (1 : Int32)) = 1 from fun qₓ => c5ₓ (k1ₓ.1 qₓ))]
            by_cases a9 : aₓ = 99
            · subst a9
              rw [if_pos (show eI 99 = -1 from rfl), by_y ⟨hs, Or.inl rfl⟩, ← eI_ne (show iₓ ≠ 99 by omega)]
              exact ihₓ (iₓ + 1) fₓ iₓ (by omega) (by omega) (Or.inr ⟨hq, cpₓ, c8ₓ⟩)
            · obtain ⟨h1, h2, h3⟩ := haₓ.resolve_left a9
              obtain ⟨hb4, hb5⟩ := hbₓ aₓ (by omega)
              rw [if_neg (eI_m1 (by omega)), gd_in _ (show 25 + iₓ < 55 by omega) (by omega), eI_ne a9, nI_add, gd_in _ (show 25 + aₓ < 55 by omega) (by omega), nI_clamp (show 25 + aₓ < 2 ^ 31 by omega), hb4]
              by_cases c9ₓ : bn iₓ < bn aₓ
              · rw [if_neg (show ¬ nI (bn aₓ) ≤ nI (bn iₓ) by rw [nI_leI (by omega) (by omega)]; omega), by_y ⟨hs, Or.inr (decide_eq_true c9ₓ)⟩, ← eI_ne (show iₓ ≠ 99 by omega)]
                exact ihₓ (iₓ + 1) fₓ iₓ (by omega) (by omega) (Or.inr ⟨hq, cpₓ, c8ₓ⟩)
              · rw [if_pos (nI_le (by omega) (by omega)), skipₓ (fun wₓ => by rcases wₓ.2 with wₓ | wₓ; exact a9 wₓ; exact c9ₓ (of_decide_eq_true wₓ)), ← eI_ne a9]
                exact zₓ
        · rw [if_pos (nI_le (by omega) (by omega)), noOk (by unfold selOk; rw [decide_eq_false c8ₓ, Bool.and_false])]
          exact zₓ
      · have c7' : isSh V hₓ rₓ iₓ = false := by simpa using c7ₓ
        rw [if_neg c7ₓ, if_pos (show nI 0 = 0 from rfl), noOk (by unfold selOk; rw [c7']; simp)]
        exact zₓ
theorem ms3 (Sₓ : Mem) (jₓ kₓ : Nat) (vₓ : Int32) : mset Sₓ 3 jₓ vₓ 3 kₓ = if kₓ = jₓ then vₓ else Sₓ 3 kₓ := by
  rw [ms_at]
  by_cases hₓ : kₓ = jₓ
  · rw [if_pos hₓ, if_pos ⟨rfl, hₓ⟩]
  · rw [if_neg hₓ, if_neg (fun qₓ => hₓ qₓ.2)]
theorem buy_X {Sₓ : Mem} {nₓ pₓ qₓ : Nat} (hn : nₓ ≤ 10) (eₓ : Sₓ 1 9 = nI nₓ) (hp : pₓ < nₓ) (hq : qₓ < nₓ) (hpq : qₓ ≠ pₓ) {mₓ : Int32} (hs : fX1_findSeller Sₓ (nI pₓ) mₓ = some (nI qₓ, Sₓ)) (hw : Sₓ 1 11 ≤ Sₓ 3 (10 * pₓ + 4)) : fX1_buyShade Sₓ (nI pₓ) mₓ = some (nI 0, swX2 Sₓ pₓ qₓ) := by
  have Hₓ : ∀ (S' : Mem) (xₓ cₓ : Nat), S' 1 = Sₓ 1 → xₓ < nₓ → cₓ < 10 → fX6_has S' (nI xₓ) (nI cₓ) = some (S' 3 (10 * xₓ + cₓ), S') := fun S' xₓ cₓ h1 h2 h3 => has_X S' hn (by rw [h1]; exact eₓ) h2 h3
  have Pₓ : ∀ (S' : Mem) (xₓ cₓ : Nat) (vₓ : Int32), S' 1 = Sₓ 1 → xₓ < nₓ → cₓ < 10 → fX6_put S' (nI xₓ) (nI cₓ) vₓ = some (0, mset S' 3 (10 * xₓ + cₓ) vₓ) := fun S' xₓ cₓ vₓ h1 h2 h3 => put_X S' vₓ hn (by rw [h1]; exact eₓ) h2 h3
  have nq : ¬ nI qₓ = -1 := m1_ne (by omega)
  unfold fX1_buyShade swX2
  rw [hs, bnd_e, if_neg nq, show (4 : Int32) = nI 4 from rfl, Hₓ Sₓ pₓ 4 rfl hp (by omega), bnd_e, if_pos hw, show (0 : Int32) = nI 0 from rfl, show (1 : Int32) = nI 1 from rfl, show (9 : Int32) = nI 9 from rfl, show (8 : Int32) = nI 8 from rfl, Hₓ Sₓ pₓ 0 rfl hp (by omega), bnd_e, Hₓ Sₓ qₓ 0 rfl hq (by omega), bnd_e, Pₓ Sₓ pₓ 0 _ rfl hp (by omega), bnd_e]
  rw [Pₓ (mset Sₓ 3 (10 * pₓ + 0) (Sₓ 3 (10 * qₓ + 0))) qₓ 0 _ rfl hq (by omega), bnd_e]
  rw [Hₓ (mset (mset Sₓ 3 (10 * pₓ + 0) (Sₓ 3 (10 * qₓ + 0))) 3 (10 * qₓ + 0) (Sₓ 3 (10 * pₓ + 0))) pₓ 4 rfl hp (by omega), bnd_e, Pₓ (mset (mset Sₓ 3 (10 * pₓ + 0) (Sₓ 3 (10 * qₓ + 0))) 3 (10 * qₓ + 0) (Sₓ 3 (10 * pₓ + 0))) pₓ 4 _ rfl hp (by omega), bnd_e]
  rw [Hₓ (mset (mset (mset Sₓ 3 (10 * pₓ + 0) (Sₓ 3 (10 * qₓ + 0))) 3 (10 * qₓ + 0) (Sₓ 3 (10 * pₓ + 0))) 3 (10 * pₓ + 4) ((mset (mset Sₓ 3 (10 * pₓ + 0) (Sₓ 3 (10 * qₓ + 0))) 3 (10 * qₓ + 0) (Sₓ 3 (10 * pₓ + 0))) 3 (10 * pₓ + 4) - (mset (mset Sₓ 3 (10 * pₓ + 0) (Sₓ 3 (10 * qₓ + 0))) 3 (10 * qₓ + 0) (Sₓ 3 (10 * pₓ + 0))) 1 11)) qₓ 4 rfl hq (by omega), bnd_e, Pₓ (mset (mset (mset Sₓ 3 (10 * pₓ + 0) (Sₓ 3 (10 * qₓ + 0))) 3 (10 * qₓ + 0) (Sₓ 3 (10 * pₓ + 0))) 3 (10 * pₓ + 4) ((mset (mset Sₓ 3 (10 * pₓ + 0) (Sₓ 3 (10 * qₓ + 0))) 3 (10 * qₓ + 0) (Sₓ 3 (10 * pₓ + 0))) 3 (10 * pₓ + 4) - (mset (mset Sₓ 3 (10 * pₓ + 0) (Sₓ 3 (10 * qₓ + 0))) 3 (10 * qₓ + 0) (Sₓ 3 (10 * pₓ + 0))) 1 11)) qₓ 4 _ rfl hq (by omega), bnd_e]
  rw [Hₓ (mset (mset (mset (mset Sₓ 3 (10 * pₓ + 0) (Sₓ 3 (10 * qₓ + 0))) 3 (10 * qₓ + 0) (Sₓ 3 (10 * pₓ + 0))) 3 (10 * pₓ + 4) ((mset (mset Sₓ 3 (10 * pₓ + 0) (Sₓ 3 (10 * qₓ + 0))) 3 (10 * qₓ + 0) (Sₓ 3 (10 * pₓ + 0))) 3 (10 * pₓ + 4) - (mset (mset Sₓ 3 (10 * pₓ + 0) (Sₓ 3 (10 * qₓ + 0))) 3 (10 * qₓ + 0) (Sₓ 3 (10 * pₓ + 0))) 1 11)) 3 (10 * qₓ + 4) ((mset (mset (mset Sₓ 3 (10 * pₓ + 0) (Sₓ 3 (10 * qₓ + 0))) 3 (10 * qₓ + 0) (Sₓ 3 (10 * pₓ + 0))) 3 (10 * pₓ + 4) ((mset (mset Sₓ 3 (10 * pₓ + 0) (Sₓ 3 (10 * qₓ + 0))) 3 (10 * qₓ + 0) (Sₓ 3 (10 * pₓ + 0))) 3 (10 * pₓ + 4) - (mset (mset Sₓ 3 (10 * pₓ + 0) (Sₓ 3 (10 * qₓ + 0))) 3 (10 * qₓ + 0) (Sₓ 3 (10 * pₓ + 0))) 1 11)) 3 (10 * qₓ + 4) + (mset (mset (mset Sₓ 3 (10 * pₓ + 0) (Sₓ 3 (10 * qₓ + 0))) 3 (10 * qₓ + 0) (Sₓ 3 (10 * pₓ + 0))) 3 (10 * pₓ + 4) ((mset (mset Sₓ 3 (10 * pₓ + 0) (Sₓ 3 (10 * qₓ + 0))) 3 (10 * qₓ + 0) (Sₓ 3 (10 * pₓ + 0))) 3 (10 * pₓ + 4) - (mset (mset Sₓ 3 (10 * pₓ + 0) (Sₓ 3 (10 * qₓ + 0))) 3 (10 * qₓ + 0) (Sₓ 3 (10 * pₓ + 0))) 1 11)) 1 11)) pₓ 9 rfl hp (by omega), bnd_e, Pₓ (mset (mset (mset (mset Sₓ 3 (10 * pₓ + 0) (Sₓ 3 (10 * qₓ + 0))) 3 (10 * qₓ + 0) (Sₓ 3 (10 * pₓ + 0))) 3 (10 * pₓ + 4) ((mset (mset Sₓ 3 (10 * pₓ + 0) (Sₓ 3 (10 * qₓ + 0))) 3 (10 * qₓ + 0) (Sₓ 3 (10 * pₓ + 0))) 3 (10 * pₓ + 4) - (mset (mset Sₓ 3 (10 * pₓ + 0) (Sₓ 3 (10 * qₓ + 0))) 3 (10 * qₓ + 0) (Sₓ 3 (10 * pₓ + 0))) 1 11)) 3 (10 * qₓ + 4) ((mset (mset (mset Sₓ 3 (10 * pₓ + 0) (Sₓ 3 (10 * qₓ + 0))) 3 (10 * qₓ + 0) (Sₓ 3 (10 * pₓ + 0))) 3 (10 * pₓ + 4) ((mset (mset Sₓ 3 (10 * pₓ + 0) (Sₓ 3 (10 * qₓ + 0))) 3 (10 * qₓ + 0) (Sₓ 3 (10 * pₓ + 0))) 3 (10 * pₓ + 4) - (mset (mset Sₓ 3 (10 * pₓ + 0) (Sₓ 3 (10 * qₓ + 0))) 3 (10 * qₓ + 0) (Sₓ 3 (10 * pₓ + 0))) 1 11)) 3 (10 * qₓ + 4) + (mset (mset (mset Sₓ 3 (10 * pₓ + 0) (Sₓ 3 (10 * qₓ + 0))) 3 (10 * qₓ + 0) (Sₓ 3 (10 * pₓ + 0))) 3 (10 * pₓ + 4) ((mset (mset Sₓ 3 (10 * pₓ + 0) (Sₓ 3 (10 * qₓ + 0))) 3 (10 * qₓ + 0) (Sₓ 3 (10 * pₓ + 0))) 3 (10 * pₓ + 4) - (mset (mset Sₓ 3 (10 * pₓ + 0) (Sₓ 3 (10 * qₓ + 0))) 3 (10 * qₓ + 0) (Sₓ 3 (10 * pₓ + 0))) 1 11)) 1 11)) pₓ 9 _ rfl hp (by omega), bnd_e]
  rw [Hₓ (mset (mset (mset (mset (mset Sₓ 3 (10 * pₓ + 0) (Sₓ 3 (10 * qₓ + 0))) 3 (10 * qₓ + 0) (Sₓ 3 (10 * pₓ + 0))) 3 (10 * pₓ + 4) ((mset (mset Sₓ 3 (10 * pₓ + 0) (Sₓ 3 (10 * qₓ + 0))) 3 (10 * qₓ + 0) (Sₓ 3 (10 * pₓ + 0))) 3 (10 * pₓ + 4) - (mset (mset Sₓ 3 (10 * pₓ + 0) (Sₓ 3 (10 * qₓ + 0))) 3 (10 * qₓ + 0) (Sₓ 3 (10 * pₓ + 0))) 1 11)) 3 (10 * qₓ + 4) ((mset (mset (mset Sₓ 3 (10 * pₓ + 0) (Sₓ 3 (10 * qₓ + 0))) 3 (10 * qₓ + 0) (Sₓ 3 (10 * pₓ + 0))) 3 (10 * pₓ + 4) ((mset (mset Sₓ 3 (10 * pₓ + 0) (Sₓ 3 (10 * qₓ + 0))) 3 (10 * qₓ + 0) (Sₓ 3 (10 * pₓ + 0))) 3 (10 * pₓ + 4) - (mset (mset Sₓ 3 (10 * pₓ + 0) (Sₓ 3 (10 * qₓ + 0))) 3 (10 * qₓ + 0) (Sₓ 3 (10 * pₓ + 0))) 1 11)) 3 (10 * qₓ + 4) + (mset (mset (mset Sₓ 3 (10 * pₓ + 0) (Sₓ 3 (10 * qₓ + 0))) 3 (10 * qₓ + 0) (Sₓ 3 (10 * pₓ + 0))) 3 (10 * pₓ + 4) ((mset (mset Sₓ 3 (10 * pₓ + 0) (Sₓ 3 (10 * qₓ + 0))) 3 (10 * qₓ + 0) (Sₓ 3 (10 * pₓ + 0))) 3 (10 * pₓ + 4) - (mset (mset Sₓ 3 (10 * pₓ + 0) (Sₓ 3 (10 * qₓ + 0))) 3 (10 * qₓ + 0) (Sₓ 3 (10 * pₓ + 0))) 1 11)) 1 11)) 3 (10 * pₓ + 9) ((mset (mset (mset (mset Sₓ 3 (10 * pₓ + 0) (Sₓ 3 (10 * qₓ + 0))) 3 (10 * qₓ + 0) (Sₓ 3 (10 * pₓ + 0))) 3 (10 * pₓ + 4) ((mset (mset Sₓ 3 (10 * pₓ + 0) (Sₓ 3 (10 * qₓ + 0))) 3 (10 * qₓ + 0) (Sₓ 3 (10 * pₓ + 0))) 3 (10 * pₓ + 4) - (mset (mset Sₓ 3 (10 * pₓ + 0) (Sₓ 3 (10 * qₓ + 0))) 3 (10 * qₓ + 0) (Sₓ 3 (10 * pₓ + 0))) 1 11)) 3 (10 * qₓ + 4) ((mset (mset (mset Sₓ 3 (10 * pₓ + 0) (Sₓ 3 (10 * qₓ + 0))) 3 (10 * qₓ + 0) (Sₓ 3 (10 * pₓ + 0))) 3 (10 * pₓ + 4) ((mset (mset Sₓ 3 (10 * pₓ + 0) (Sₓ 3 (10 * qₓ + 0))) 3 (10 * qₓ + 0) (Sₓ 3 (10 * pₓ + 0))) 3 (10 * pₓ + 4) - (mset (mset Sₓ 3 (10 * pₓ + 0) (Sₓ 3 (10 * qₓ + 0))) 3 (10 * qₓ + 0) (Sₓ 3 (10 * pₓ + 0))) 1 11)) 3 (10 * qₓ + 4) + (mset (mset (mset Sₓ 3 (10 * pₓ + 0) (Sₓ 3 (10 * qₓ + 0))) 3 (10 * qₓ + 0) (Sₓ 3 (10 * pₓ + 0))) 3 (10 * pₓ + 4) ((mset (mset Sₓ 3 (10 * pₓ + 0) (Sₓ 3 (10 * qₓ + 0))) 3 (10 * qₓ + 0) (Sₓ 3 (10 * pₓ + 0))) 3 (10 * pₓ + 4) - (mset (mset Sₓ 3 (10 * pₓ + 0) (Sₓ 3 (10 * qₓ + 0))) 3 (10 * qₓ + 0) (Sₓ 3 (10 * pₓ + 0))) 1 11)) 1 11)) 3 (10 * pₓ + 9) + nI 1)) qₓ 8 rfl hq (by omega), bnd_e, Pₓ (mset (mset (mset (mset (mset Sₓ 3 (10 * pₓ + 0) (Sₓ 3 (10 * qₓ + 0))) 3 (10 * qₓ + 0) (Sₓ 3 (10 * pₓ + 0))) 3 (10 * pₓ + 4) ((mset (mset Sₓ 3 (10 * pₓ + 0) (Sₓ 3 (10 * qₓ + 0))) 3 (10 * qₓ + 0) (Sₓ 3 (10 * pₓ + 0))) 3 (10 * pₓ + 4) - (mset (mset Sₓ 3 (10 * pₓ + 0) (Sₓ 3 (10 * qₓ + 0))) 3 (10 * qₓ + 0) (Sₓ 3 (10 * pₓ + 0))) 1 11)) 3 (10 * qₓ + 4) ((mset (mset (mset Sₓ 3 (10 * pₓ + 0) (Sₓ 3 (10 * qₓ + 0))) 3 (10 * qₓ + 0) (Sₓ 3 (10 * pₓ + 0))) 3 (10 * pₓ + 4) ((mset (mset Sₓ 3 (10 * pₓ + 0) (Sₓ 3 (10 * qₓ + 0))) 3 (10 * qₓ + 0) (Sₓ 3 (10 * pₓ + 0))) 3 (10 * pₓ + 4) - (mset (mset Sₓ 3 (10 * pₓ + 0) (Sₓ 3 (10 * qₓ + 0))) 3 (10 * qₓ + 0) (Sₓ 3 (10 * pₓ + 0))) 1 11)) 3 (10 * qₓ + 4) + (mset (mset (mset Sₓ 3 (10 * pₓ + 0) (Sₓ 3 (10 * qₓ + 0))) 3 (10 * qₓ + 0) (Sₓ 3 (10 * pₓ + 0))) 3 (10 * pₓ + 4) ((mset (mset Sₓ 3 (10 * pₓ + 0) (Sₓ 3 (10 * qₓ + 0))) 3 (10 * qₓ + 0) (Sₓ 3 (10 * pₓ + 0))) 3 (10 * pₓ + 4) - (mset (mset Sₓ 3 (10 * pₓ + 0) (Sₓ 3 (10 * qₓ + 0))) 3 (10 * qₓ + 0) (Sₓ 3 (10 * pₓ + 0))) 1 11)) 1 11)) 3 (10 * pₓ + 9) ((mset (mset (mset (mset Sₓ 3 (10 * pₓ + 0) (Sₓ 3 (10 * qₓ + 0))) 3 (10 * qₓ + 0) (Sₓ 3 (10 * pₓ + 0))) 3 (10 * pₓ + 4) ((mset (mset Sₓ 3 (10 * pₓ + 0) (Sₓ 3 (10 * qₓ + 0))) 3 (10 * qₓ + 0) (Sₓ 3 (10 * pₓ + 0))) 3 (10 * pₓ + 4) - (mset (mset Sₓ 3 (10 * pₓ + 0) (Sₓ 3 (10 * qₓ + 0))) 3 (10 * qₓ + 0) (Sₓ 3 (10 * pₓ + 0))) 1 11)) 3 (10 * qₓ + 4) ((mset (mset (mset Sₓ 3 (10 * pₓ + 0) (Sₓ 3 (10 * qₓ + 0))) 3 (10 * qₓ + 0) (Sₓ 3 (10 * pₓ + 0))) 3 (10 * pₓ + 4) ((mset (mset Sₓ 3 (10 * pₓ + 0) (Sₓ 3 (10 * qₓ + 0))) 3 (10 * qₓ + 0) (Sₓ 3 (10 * pₓ + 0))) 3 (10 * pₓ + 4) - (mset (mset Sₓ 3 (10 * pₓ + 0) (Sₓ 3 (10 * qₓ + 0))) 3 (10 * qₓ + 0) (Sₓ 3 (10 * pₓ + 0))) 1 11)) 3 (10 * qₓ + 4) + (mset (mset (mset Sₓ 3 (10 * pₓ + 0) (Sₓ 3 (10 * qₓ + 0))) 3 (10 * qₓ + 0) (Sₓ 3 (10 * pₓ + 0))) 3 (10 * pₓ + 4) ((mset (mset Sₓ 3 (10 * pₓ + 0) (Sₓ 3 (10 * qₓ + 0))) 3 (10 * qₓ + 0) (Sₓ 3 (10 * pₓ + 0))) 3 (10 * pₓ + 4) - (mset (mset Sₓ 3 (10 * pₓ + 0) (Sₓ 3 (10 * qₓ + 0))) 3 (10 * qₓ + 0) (Sₓ 3 (10 * pₓ + 0))) 1 11)) 1 11)) 3 (10 * pₓ + 9) + nI 1)) qₓ 8 _ rfl hq (by omega), bnd_e]
  have m1ₓ : ∀ (S' : Mem) (jₓ : Nat) (vₓ : Int32), mset S' 3 jₓ vₓ 1 = S' 1 := fun S' jₓ vₓ => mset_ne _ _ _ (by omega)
  simp (disch := omega) only [ms3, if_neg, m1ₓ]
theorem sw_RW {nₓ dₓ tₓ pr re bl pₓ qₓ : Nat} {Sₓ T : Mem} (hₓ : RWn nₓ dₓ tₓ pr re bl (sl Sₓ 1) T) (hp : pₓ < 10) (hq : qₓ < 10) : RWn nₓ dₓ tₓ pr re bl (sl (swX2 Sₓ pₓ qₓ) 1) (swM2 T pₓ qₓ) := by
  have w11ₓ : RMov (Sₓ 3) (T 1) (81 * (12 * dₓ + tₓ)) := hₓ.2.2.2.2.2.2.2.2.2.2.2.1
  have pr1 : Sₓ 1 11 = nI pr := hₓ.2.2.2.2.1.1
  have pr2 : T 4 0 = nI pr := hₓ.2.2.2.2.1.2
  obtain ⟨a0ₓ, a4, a7, a8, a9, alₓ, -⟩ := w11ₓ pₓ hp
  obtain ⟨c0ₓ, c4ₓ, c7ₓ, c8ₓ, c9ₓ, clₓ, -⟩ := w11ₓ qₓ hq
  have e0ₓ : Sₓ 3 (10 * pₓ + 0) = T 1 (5 + pₓ) := a0ₓ
  have f0ₓ : Sₓ 3 (10 * qₓ + 0) = T 1 (5 + qₓ) := c0ₓ
  unfold swX2 swM2
  rw [e0ₓ, f0ₓ, a4, c4ₓ, a9, c8ₓ, pr1, pr2]
  have s1ₓ := hₓ.st (pₓ := pₓ) (mₓ := 0) (vₓ := T 1 (5 + qₓ)) hp (by omega) (fun _ => clₓ) (fun zₓ => absurd zₓ (by omega))
  have s2ₓ := s1ₓ.st (pₓ := qₓ) (mₓ := 0) (vₓ := T 1 (5 + pₓ)) hq (by omega) (fun _ => alₓ) (fun zₓ => absurd zₓ (by omega))
  have s3ₓ := s2ₓ.st (pₓ := pₓ) (mₓ := 1) (vₓ := T 1 (15 + pₓ) - nI pr) hp (by omega) (fun zₓ => absurd zₓ (by omega)) (fun zₓ => absurd zₓ (by omega))
  have s4ₓ := s3ₓ.st (pₓ := qₓ) (mₓ := 1) (vₓ := T 1 (15 + qₓ) + nI pr) hq (by omega) (fun zₓ => absurd zₓ (by omega)) (fun zₓ => absurd zₓ (by omega))
  have s5 := s4ₓ.st (pₓ := pₓ) (mₓ := 4) (vₓ := T 1 (45 + pₓ) + nI 1) hp (by omega) (fun zₓ => absurd zₓ (by omega)) (fun zₓ => absurd zₓ (by omega))
  exact s5.st (pₓ := qₓ) (mₓ := 3) (vₓ := T 1 (35 + qₓ) + nI 1) hq (by omega) (fun zₓ => absurd zₓ (by omega)) (fun zₓ => absurd zₓ (by omega))
