/-! thief -/
def adF (vₓ : Nat → Int32) : Nat → Nat → (Nat → Int32) → (Nat → Int32)
  | 0, _, Fₓ => Fₓ
  | kₓ + 1, iₓ, Fₓ => adF vₓ kₓ (iₓ + 1) (upd Fₓ iₓ (Fₓ iₓ + vₓ iₓ))
theorem adF_cg (vₓ : Nat → Int32) {nₓ : Nat} : ∀ kₓ iₓ (Fₓ Gₓ : Nat → Int32), iₓ + kₓ ≤ nₓ → (∀ pₓ, pₓ < nₓ → Fₓ pₓ = Gₓ pₓ) → ∀ pₓ, pₓ < nₓ → adF vₓ kₓ iₓ Fₓ pₓ = adF vₓ kₓ iₓ Gₓ pₓ := by
  intro kₓ
  induction kₓ with
  | zero => intro iₓ Fₓ Gₓ _ hₓ; exact hₓ
  | succ kₓ ihₓ =>
    intro iₓ Fₓ Gₓ hiₓ hₓ
    refine ihₓ (iₓ + 1) _ _ (by omega) (fun pₓ hp => ?_)
    by_cases eₓ : pₓ = iₓ
    · subst eₓ; rw [upd_same, upd_same, hₓ pₓ hp]
    · rw [upd_ne _ _ eₓ, upd_ne _ _ eₓ, hₓ pₓ hp]
theorem add_X {V : Vw} (hBₓ : VB V) {hₓ rₓ : Nat} (hh : hₓ < 12) (xₓ : Int32) : ∀ (kₓ iₓ fₓ : Nat) (Sₓ : Mem), XVw Sₓ V → iₓ + kₓ = V.1 → kₓ < fₓ → fX5_addBurns_15 fₓ Sₓ (nI hₓ) xₓ (nI (shM V hₓ rₓ)) (nI iₓ) = some (nI 0, mput Sₓ 37 (adF (fun pₓ => xₓ * nI (bu V hₓ rₓ pₓ)) kₓ iₓ (Sₓ 37))) := by
  have hn := hBₓ.1
  intro kₓ
  induction kₓ with
  | zero =>
    intro iₓ fₓ Sₓ hX hiₓ hf
    obtain ⟨fₓ, rfl⟩ : ∃ gₓ, fₓ = gₓ + 1 := ⟨fₓ - 1, by omega⟩
    have e1ₓ := hX.1
    show fX5_addBurns_15_b (fX5_addBurns_15 fₓ) Sₓ (nI hₓ) xₓ (nI (shM V hₓ rₓ)) (nI iₓ) = _
    unfold fX5_addBurns_15_b
    rw [e1ₓ, if_pos (nI_le (by omega) (by omega)), adF, mput_id]
    rfl
  | succ kₓ ihₓ =>
    intro iₓ fₓ Sₓ hX hiₓ hf
    obtain ⟨fₓ, rfl⟩ : ∃ gₓ, fₓ = gₓ + 1 := ⟨fₓ - 1, by omega⟩
    have e1ₓ := hX.1
    show fX5_addBurns_15_b (fX5_addBurns_15 fₓ) Sₓ (nI hₓ) xₓ (nI (shM V hₓ rₓ)) (nI iₓ) = _
    unfold fX5_addBurns_15_b
    rw [e1ₓ, if_neg (by rw [nI_leI (by omega) (by omega)]; omega), gd_in _ (show iₓ < 10 by omega) (by omega), burn_X hBₓ hX hh (show iₓ < V.1 by omega), bnd_e, gd_in _ (show iₓ < 10 by omega) (by omega), ltm_e, nI_clamp (by omega), show nI iₓ + 1 = nI (iₓ + 1) from nI_add iₓ 1, ihₓ (iₓ + 1) fₓ (mset Sₓ 37 iₓ (Sₓ 37 iₓ + xₓ * nI (bu V hₓ rₓ iₓ))) (hX.m 37 (by omega) _) (by omega) (by omega), adF]
    unfold mset
    rw [mput_same, mput_mput]
theorem add_M {V : Vw} (hBₓ : VB V) {hₓ rₓ : Nat} (hh : hₓ < 12) (xₓ : Int32) : ∀ (kₓ iₓ fₓ : Nat) (T : Mem), Shd T V hₓ rₓ → iₓ + kₓ = V.1 → kₓ < fₓ → fX8_addsBurns_14 fₓ T (nI hₓ) xₓ (nI iₓ) = some (nI 0, mput T 25 (adF (fun pₓ => xₓ * nI (bu V hₓ rₓ pₓ)) kₓ iₓ (T 25))) := by
  have hn := hBₓ.1
  intro kₓ
  induction kₓ with
  | zero =>
    intro iₓ fₓ T hSₓ hiₓ hf
    obtain ⟨fₓ, rfl⟩ : ∃ gₓ, fₓ = gₓ + 1 := ⟨fₓ - 1, by omega⟩
    have e1ₓ := hSₓ.1.1
    show fX8_addsBurns_14_b (fX8_addsBurns_14 fₓ) T (nI hₓ) xₓ (nI iₓ) = _
    unfold fX8_addsBurns_14_b
    rw [e1ₓ, if_pos (nI_le (by omega) (by omega)), adF, mput_id]
    rfl
  | succ kₓ ihₓ =>
    intro iₓ fₓ T hSₓ hiₓ hf
    obtain ⟨fₓ, rfl⟩ : ∃ gₓ, fₓ = gₓ + 1 := ⟨fₓ - 1, by omega⟩
    have e1ₓ := hSₓ.1.1
    have hS' : ∀ Fₓ, Shd (mput T 25 Fₓ) V hₓ rₓ := fun Fₓ => ⟨hSₓ.1.m 25 (by omega) Fₓ, fun cₓ jₓ hcₓ => by rw [mput_ne _ _ (show 21 ≠ 25 by omega), mput_ne _ _ (show 0 ≠ 25 by omega)]; exact hSₓ.2 cₓ jₓ hcₓ⟩
    show fX8_addsBurns_14_b (fX8_addsBurns_14 fₓ) T (nI hₓ) xₓ (nI iₓ) = _
    unfold fX8_addsBurns_14_b
    rw [e1ₓ, if_neg (by rw [nI_leI (by omega) (by omega)]; omega), gd_in _ (show iₓ < 10 by omega) (by omega), burn_M hBₓ hSₓ hh (show iₓ < V.1 by omega), bnd_e, gd_in _ (show iₓ < 10 by omega) (by omega), ltm_e, nI_clamp (by omega), show nI iₓ + 1 = nI (iₓ + 1) from nI_add iₓ 1, ihₓ (iₓ + 1) fₓ (mset T 25 iₓ (T 25 iₓ + xₓ * nI (bu V hₓ rₓ iₓ))) (hS' _) (by omega) (by omega), adF]
    unfold mset
    rw [mput_same, mput_mput]
/-- both sides' sums so far are alike, what was told too -/
def ThI (V : Vw) (Sₓ T : Mem) : Prop := XVw Sₓ V ∧ MVw T V ∧ (∀ pₓ, pₓ < V.1 → Sₓ 37 pₓ = T 25 pₓ) ∧ ∀ pₓ, pₓ < 10 → ∃ kₓ : Nat, kₓ ≤ 10000 ∧ T 10 pₓ = nI kₓ ∧ Sₓ 5 pₓ = nI kₓ - 1
theorem th_add {V : Vw} (hBₓ : VB V) {hₓ rₓ : Nat} (hh : hₓ < 12) (hr : rₓ < 8) (xₓ : Int32) {Sₓ T : Mem} (hI : ThI V Sₓ T) : ∃ S' T', fX5_addBurns Sₓ (nI hₓ) (nI rₓ) xₓ = some (nI 0, S') ∧ fX8_addsBurns T (nI hₓ) (nI rₓ) xₓ = some (nI 0, T') ∧ ThI V S' T' ∧ frm scX Sₓ S' ∧ S' 32 = Sₓ 32 ∧ frm scM T T' := by
  obtain ⟨hX, hMₓ, h37, hTₓ⟩ := hI
  have hn := hBₓ.1
  obtain ⟨Gₓ, g1, g2⟩ := finds_all hBₓ hMₓ hh hr
  have es := shadeA_X hBₓ hX hh hr
  have x1ₓ := add_X hBₓ (rₓ := rₓ) hh xₓ V.1 0 FU Sₓ hX (by omega) (by unfold FU; omega)
  have m1ₓ := add_M hBₓ hh xₓ V.1 0 FU _ g2 (by omega) (by unfold FU; omega)
  refine ⟨mput Sₓ 37 (adF (fun pₓ => xₓ * nI (bu V hₓ rₓ pₓ)) V.1 0 (Sₓ 37)), mput (mput T 21 Gₓ) 25 (adF (fun pₓ => xₓ * nI (bu V hₓ rₓ pₓ)) V.1 0 (mput T 21 Gₓ 25)), ?_, ?_, ⟨hX.m 37 (by omega) _, (hMₓ.m 21 (by omega) Gₓ).m 25 (by omega) _, fun pₓ hp => ?_, fun pₓ hp => ?_⟩, frm.put _ _ (by decide), mput_ne _ _ (by omega), (frm.put T Gₓ (by decide)).mput _ (by decide)⟩
  · unfold fX5_addBurns
    rw [show (-1 : Int32) = -nI 1 from rfl, es, bnd_e]
    exact x1ₓ
  · unfold fX8_addsBurns
    rw [show (1 : Int32) = nI 1 from rfl, g1, bnd_e]
    exact m1ₓ
  · rw [mput_same, mput_same, mput_ne _ _ (show 25 ≠ 21 by omega)]
    exact adF_cg _ (nₓ := V.1) V.1 0 _ _ (by omega) h37 pₓ hp
  · rw [mput_ne _ _ (show 5 ≠ 37 by omega), mput_ne _ _ (show 10 ≠ 25 by omega), mput_ne _ _ (show 10 ≠ 21 by omega)]
    exact hTₓ pₓ hp
theorem th_told {V : Vw} (hBₓ : VB V) {Sₓ T : Mem} (hI : ThI V Sₓ T) : ∃ bₓ : Nat, bₓ < 2 ∧ fX5_isAsTold Sₓ = some (nI bₓ, Sₓ) ∧ fX8_areAsTold T = some (nI bₓ, T) := by
  obtain ⟨hX, hMₓ, h37, hTₓ⟩ := hI
  have hn := hBₓ.1
  have e1ₓ := hX.1
  have e2ₓ := hMₓ.1
  have keyₓ : ∀ (kₓ iₓ fₓ : Nat), iₓ + kₓ = V.1 → kₓ < fₓ → ∃ bₓ : Nat, bₓ < 2 ∧ fX5_isAsTold_2 fₓ Sₓ (nI iₓ) = some (nI bₓ, Sₓ) ∧ fX8_areAsTold_2 fₓ T (nI iₓ) = some (nI bₓ, T) := by
    intro kₓ
    induction kₓ with
    | zero =>
      intro iₓ fₓ hiₓ hf
      obtain ⟨fₓ, rfl⟩ : ∃ gₓ, fₓ = gₓ + 1 := ⟨fₓ - 1, by omega⟩
      refine ⟨1, by omega, ?_, ?_⟩
      · show fX5_isAsTold_2_b (fX5_isAsTold_2 fₓ) Sₓ (nI iₓ) = _
        unfold fX5_isAsTold_2_b
        rw [e1ₓ, if_pos (nI_le (by omega) (by omega))]
        rfl
      · show fX8_areAsTold_2_b (fX8_areAsTold_2 fₓ) T (nI iₓ) = _
        unfold fX8_areAsTold_2_b
        rw [e2ₓ, if_pos (nI_le (by omega) (by omega))]
        rfl
    | succ kₓ ihₓ =>
      intro iₓ fₓ hiₓ hf
      obtain ⟨fₓ, rfl⟩ : ∃ gₓ, fₓ = gₓ + 1 := ⟨fₓ - 1, by omega⟩
      obtain ⟨bₓ, b1, b2, b3⟩ := ihₓ (iₓ + 1) fₓ (by omega) (by omega)
      obtain ⟨qₓ, q1ₓ, q2ₓ, q3ₓ⟩ := hTₓ iₓ (by omega)
      have h7 := h37 iₓ (by omega)
      show ∃ bₓ : Nat, bₓ < 2 ∧ fX5_isAsTold_2_b (fX5_isAsTold_2 fₓ) Sₓ (nI iₓ) = some (nI bₓ, Sₓ) ∧ fX8_areAsTold_2_b (fX8_areAsTold_2 fₓ) T (nI iₓ) = some (nI bₓ, T)
      unfold fX5_isAsTold_2_b fX8_areAsTold_2_b fX5_isAsTold_46 fX8_areAsTold_38
      have nleₓ : ¬ nI V.1 ≤ nI iₓ := by rw [nI_leI (by omega) (by omega)]; omega
      rw [e1ₓ, e2ₓ, if_neg nleₓ, if_neg nleₓ, gd_in _ (show iₓ < 10 by omega) (by omega), gd_in _ (show iₓ < 10 by omega) (by omega), nI_clamp (by omega), q2ₓ, q3ₓ, show nI iₓ + 1 = nI (iₓ + 1) from nI_add iₓ 1, h7, gd_in _ (show iₓ < 10 by omega) (by omega), gd_in _ (show iₓ < 10 by omega) (by omega), gd_in _ (show iₓ < 10 by omega) (by omega), gd_in _ (show iₓ < 10 by omega) (by omega)]
      by_cases q0 : qₓ = 0
      · subst q0
        rw [if_pos (show nI 0 - 1 = -1 by decide), if_pos (show nI 0 ≤ 0 by decide)]
        exact ⟨bₓ, b1, b2, b3⟩
      · have zₓ : nI qₓ - 1 = nI (qₓ - 1) := @pk_sub qₓ 1 (by omega)
        rw [zₓ, if_neg (m1_ne (by omega)), if_neg (show ¬ nI qₓ ≤ 0 by rw [le0_iff (by omega)]; exact q0)]
        by_cases cₓ : nI (qₓ - 1) = T 25 iₓ
        · rw [if_pos cₓ, if_pos cₓ]
          exact ⟨bₓ, b1, b2, b3⟩
        · rw [if_neg cₓ, if_neg cₓ]
          exact ⟨0, by omega, rfl, rfl⟩
  exact keyₓ V.1 0 FU (by omega) (by unfold FU; omega)
/-- the first turning found, if any -/
def FI (mₓ : Nat) (Sₓ : Mem) (x3 : Int32) : Prop := Sₓ 32 6 = nI mₓ ∧ ((mₓ = 0 ∧ x3 = -1 ∧ Sₓ 32 7 = -1 ∧ Sₓ 32 8 = -1) ∨ (0 < mₓ ∧ ∃ aₓ bₓ : Nat, aₓ < 12 ∧ bₓ < 8 ∧ x3 = nI (8 * aₓ + bₓ) ∧ Sₓ 32 7 = nI aₓ ∧ Sₓ 32 8 = nI bₓ))
theorem FI.cg {mₓ : Nat} {Sₓ S' : Mem} {x3 : Int32} (hₓ : FI mₓ Sₓ x3) (eₓ : S' 32 = Sₓ 32) : FI mₓ S' x3 := by
  unfold FI at hₓ ⊢
  rw [eₓ]
  exact hₓ
def ThP (V : Vw) (wₓ : Nat) (S0ₓ T0ₓ : Mem) (oX oM : O) : Prop := ∃ S' T' rₓ, oX = some (nI 0, S') ∧ oM = some (rₓ, T') ∧ frm scX S0ₓ S' ∧ frm scM T0ₓ T' ∧ S' 32 9 = S0ₓ 32 9 ∧ rₓ = (if wₓ = 0 then S' 32 6 else if wₓ = 1 then S' 32 7 else S' 32 8)
def ThQ (V : Vw) (S0ₓ T0ₓ Sₓ T : Mem) (mₓ : Nat) (x3 : Int32) : Prop := ThI V Sₓ T ∧ frm scX S0ₓ Sₓ ∧ frm scM T0ₓ T ∧ Sₓ 32 9 = S0ₓ 32 9 ∧ FI mₓ Sₓ x3
theorem ThQ.to {V : Vw} {S0ₓ T0ₓ Sₓ T S' T' : Mem} {mₓ : Nat} {x3 : Int32} (hₓ : ThQ V S0ₓ T0ₓ Sₓ T mₓ x3) (iₓ : ThI V S' T') (fₓ : frm scX Sₓ S') (eₓ : S' 32 = Sₓ 32) (gₓ : frm scM T T') : ThQ V S0ₓ T0ₓ S' T' mₓ x3 := ⟨iₓ, hₓ.2.1.tr fₓ, hₓ.2.2.1.tr gₓ, by rw [eₓ]; exact hₓ.2.2.2.1, hₓ.2.2.2.2.cg eₓ⟩
theorem th_in {V : Vw} (hBₓ : VB V) {wₓ hₓ : Nat} (hh : hₓ < 12) (hw : wₓ < 3) {S0ₓ T0ₓ : Mem} {kX : Mem → Int32 → O} {kM : Mem → Int32 → Int32 → Int32 → Int32 → O} (hk : ∀ (Sₓ T : Mem) (mₓ : Nat) (x3 : Int32), ThQ V S0ₓ T0ₓ Sₓ T mₓ x3 → mₓ ≤ 8 * (hₓ + 1) → ThP V wₓ S0ₓ T0ₓ (kX Sₓ (nI (hₓ + 1))) (kM T (nI wₓ) (nI mₓ) x3 (nI (hₓ + 1)))) : ∀ (kₓ iₓ fₓ : Nat) (Sₓ T : Mem) (mₓ : Nat) (x3 : Int32), iₓ + kₓ = 8 → kₓ < fₓ → ThQ V S0ₓ T0ₓ Sₓ T mₓ x3 → mₓ ≤ 8 * hₓ + iₓ → ThP V wₓ S0ₓ T0ₓ (fX5_findThieves_85 kX fₓ Sₓ (nI hₓ) (nI iₓ)) (fX8_thief_125 kM fₓ T (nI wₓ) (nI mₓ) x3 (nI hₓ) (nI (V.2.1 hₓ 3)) (nI iₓ)) := by
  have hn := hBₓ.1
  have r8 : V.2.1 hₓ 3 < 8 := by have := hBₓ.2.1 hₓ hh; omega
  intro kₓ
  induction kₓ with
  | zero =>
    intro iₓ fₓ Sₓ T mₓ x3 hiₓ hf hQ hmₓ
    obtain ⟨fₓ, rfl⟩ : ∃ gₓ, fₓ = gₓ + 1 := ⟨fₓ - 1, by omega⟩
    have hiₓ : iₓ = 8 := by omega
    subst hiₓ
    obtain ⟨S1, T1, a1ₓ, a2, a3, a4, a5, a6⟩ := th_add hBₓ hh r8 1 hQ.1
    have e3ₓ := inH_V hQ.1.1 hh (show 3 < 5 by omega)
    have zₓ := hk S1 T1 mₓ x3 (hQ.to a3 a4 a5 a6) (by omega)
    show ThP V wₓ S0ₓ T0ₓ (fX5_findThieves_85_b kX (fX5_findThieves_85 kX fₓ) Sₓ (nI hₓ) (nI 8)) (fX8_thief_125_b kM (fX8_thief_125 kM fₓ) T (nI wₓ) (nI mₓ) x3 (nI hₓ) (nI (V.2.1 hₓ 3)) (nI 8))
    unfold fX5_findThieves_85_b fX8_thief_125_b
    rw [if_pos (show (7 : Int32) < nI 8 by decide), if_pos (show (8 : Int32) ≤ nI 8 by decide), show (3 : Int32) = nI 3 from rfl, e3ₓ, bnd_e, a1ₓ, a2, bnd_e, bnd_e, show nI hₓ + 1 = nI (hₓ + 1) from nI_add hₓ 1]
    exact zₓ
  | succ kₓ ihₓ =>
    intro iₓ fₓ Sₓ T mₓ x3 hiₓ hf hQ hmₓ
    obtain ⟨fₓ, rfl⟩ : ∃ gₓ, fₓ = gₓ + 1 := ⟨fₓ - 1, by omega⟩
    have e3ₓ := inH_V hQ.1.1 hh (show 3 < 5 by omega)
    show ThP V wₓ S0ₓ T0ₓ (fX5_findThieves_85_b kX (fX5_findThieves_85 kX fₓ) Sₓ (nI hₓ) (nI iₓ)) (fX8_thief_125_b kM (fX8_thief_125 kM fₓ) T (nI wₓ) (nI mₓ) x3 (nI hₓ) (nI (V.2.1 hₓ 3)) (nI iₓ))
    unfold fX5_findThieves_85_b fX8_thief_125_b
    rw [if_neg (show ¬ (7 : Int32) < nI iₓ by rw [show (7 : Int32) = nI 7 from rfl, nI_ltI (by omega) (by omega)]; omega), if_neg (show ¬ (8 : Int32) ≤ nI iₓ by rw [show (8 : Int32) = nI 8 from rfl, nI_leI (by omega) (by omega)]; omega), show (3 : Int32) = nI 3 from rfl, e3ₓ, bnd_e]
    by_cases cₓ : iₓ = V.2.1 hₓ 3
    · rw [if_pos (show nI iₓ = nI (V.2.1 hₓ 3) by rw [cₓ]), if_pos (show nI iₓ = nI (V.2.1 hₓ 3) by rw [cₓ])]
      unfold fX5_findThieves_110 fX8_thief_188
      rw [show nI iₓ + 1 = nI (iₓ + 1) from nI_add iₓ 1]
      exact ihₓ (iₓ + 1) fₓ Sₓ T mₓ x3 (by omega) (by omega) hQ (by omega)
    · have c' : ¬ nI iₓ = nI (V.2.1 hₓ 3) := by rw [nI_eq (by omega) (by omega)]; exact cₓ
      rw [if_neg c', if_neg c']
      obtain ⟨S1, T1, a1ₓ, a2, a3, a4, a5, a6⟩ := th_add hBₓ hh (show iₓ < 8 by omega) 1 hQ.1
      obtain ⟨bₓ, b1, b2, b3⟩ := th_told hBₓ a3
      have hQ1 := hQ.to a3 a4 a5 a6
      unfold fX5_tryTurning
      rw [a1ₓ, a2, bnd_e, bnd_e, b2, b3, bnd_e, bnd_e]
      by_cases b0 : bₓ = 0
      · subst b0
        obtain ⟨S2, T2, d1ₓ, d2ₓ, d3ₓ, d4ₓ, d5ₓ, d6ₓ⟩ := th_add hBₓ hh (show iₓ < 8 by omega) (-1) a3
        rw [if_pos (show nI 0 = 0 from rfl), if_pos (show nI 0 = 0 from rfl)]
        unfold fX5_tryTurning_41 fX8_thief_179 fX5_findThieves_110 fX8_thief_188
        rw [d1ₓ, d2ₓ, bnd_e, bnd_e, bnd_e, show nI iₓ + 1 = nI (iₓ + 1) from nI_add iₓ 1]
        exact ihₓ (iₓ + 1) fₓ S2 T2 mₓ x3 (by omega) (by omega) (hQ1.to d3ₓ d4ₓ d5ₓ d6ₓ) (by omega)
      · have b0' : ¬ nI bₓ = 0 := by rw [show (0 : Int32) = nI 0 from rfl, nI_eq (by omega) (by omega)]; exact b0
        rw [if_neg b0', if_neg b0']
        have hQ1b := hQ1
        obtain ⟨i1ₓ, i2ₓ, i3ₓ, i4ₓ, i5ₓ, i6ₓ⟩ := hQ1
        have go : ∀ (S2 : Mem) (y3 : Int32), frm [32] S1 S2 → S2 32 9 = S1 32 9 → S2 32 6 = nI (mₓ + 1) → (∃ aₓ bₓ : Nat, aₓ < 12 ∧ bₓ < 8 ∧ y3 = nI (8 * aₓ + bₓ) ∧ S2 32 7 = nI aₓ ∧ S2 32 8 = nI bₓ) → ThP V wₓ S0ₓ T0ₓ (bnd (fX5_tryTurning_41 S2 (nI hₓ) (nI iₓ)) fun _ S_10 => fX5_findThieves_110 kX (fX5_findThieves_85 kX fₓ) S_10 (nI hₓ) (nI iₓ)) (fX8_thief_179 kM (fX8_thief_125 kM fₓ) T1 (nI wₓ) (nI (mₓ + 1)) y3 (nI hₓ) (nI (V.2.1 hₓ 3)) (nI iₓ)) := by
          intro S2 y3 hf2 h9 h6 hab
          have f2ₓ : frm scX S1 S2 := fun cₓ hcₓ => hf2 cₓ (fun qₓ => hcₓ (by rw [List.mem_singleton] at qₓ; subst qₓ; decide))
          have hI2 : ThI V S2 T1 := ⟨i1ₓ.1.fr f2ₓ, i1ₓ.2.1, fun pₓ hp => by rw [hf2 37 (by decide)]; exact i1ₓ.2.2.1 pₓ hp, fun pₓ hp => by rw [hf2 5 (by decide)]; exact i1ₓ.2.2.2 pₓ hp⟩
          have hQ2 : ThQ V S0ₓ T0ₓ S2 T1 (mₓ + 1) y3 := ⟨hI2, i2ₓ.tr f2ₓ, i3ₓ, h9.trans i4ₓ, h6, Or.inr ⟨by omega, hab⟩⟩
          obtain ⟨S3, T3, d1ₓ, d2ₓ, d3ₓ, d4ₓ, d5ₓ, d6ₓ⟩ := th_add hBₓ hh (show iₓ < 8 by omega) (-1) hI2
          unfold fX5_tryTurning_41 fX8_thief_179 fX5_findThieves_110 fX8_thief_188
          rw [d1ₓ, d2ₓ, bnd_e, bnd_e, bnd_e, show nI iₓ + 1 = nI (iₓ + 1) from nI_add iₓ 1]
          exact ihₓ (iₓ + 1) fₓ S3 T3 (mₓ + 1) y3 (by omega) (by omega) (hQ2.to d3ₓ d4ₓ d5ₓ d6ₓ) (by omega)
        by_cases m0ₓ : mₓ = 0
        · subst m0ₓ
          rw [if_pos (show S1 32 6 = 0 from i5ₓ), if_pos (show nI 0 = 0 from rfl)]
          unfold fX5_tryTurning_31 fX8_thief_174
          rw [ltm_e, ltm_e, ltm_e, lti_e, show nI 0 + 1 = nI (0 + 1) from nI_add 0 1, show (8 : Int32) * nI hₓ + nI iₓ = nI (8 * hₓ + iₓ) by rw [show (8 : Int32) = nI 8 from rfl, pk_mul, nI_add]]
          refine go _ _ (fun cₓ hcₓ => ?_) ?_ ?_ ⟨hₓ, iₓ, hh, by omega, rfl, ?_, ?_⟩
          · have : cₓ ≠ 32 := fun qₓ => hcₓ (by rw [qₓ]; decide)
            rw [mset_ne _ _ _ this, mset_ne _ _ _ this, mset_ne _ _ _ this]
          · rw [ms_at, if_neg (by omega), ms_at, if_neg (by omega), ms_at, if_neg (by omega)]
          · rw [ms_at, if_pos ⟨rfl, rfl⟩, ms_at, if_neg (by omega), ms_at, if_neg (by omega), show S1 32 6 = nI 0 from i5ₓ]
            exact nI_add 0 1
          · rw [ms_at, if_neg (by omega), ms_at, if_neg (by omega), ms_at, if_pos ⟨rfl, rfl⟩]
          · rw [ms_at, if_neg (by omega), ms_at, if_pos ⟨rfl, rfl⟩]
        · have m0' : ¬ nI mₓ = 0 := by rw [show (0 : Int32) = nI 0 from rfl, nI_eq (by omega) (by omega)]; exact m0ₓ
          rw [if_neg (show ¬ S1 32 6 = 0 by rw [i5ₓ]; exact m0'), if_neg m0']
          unfold fX5_tryTurning_31 fX8_thief_174
          rw [ltm_e, lti_e, show nI mₓ + 1 = nI (mₓ + 1) from nI_add mₓ 1]
          rcases i6ₓ with ⟨qₓ, -⟩ | ⟨-, aₓ, bₓ, haₓ, hbₓ, q1ₓ, q2ₓ, q3ₓ⟩
          · exact absurd qₓ m0ₓ
          · refine go _ _ (fun cₓ hcₓ => ?_) ?_ ?_ ⟨aₓ, bₓ, haₓ, hbₓ, q1ₓ, ?_, ?_⟩
            · have : cₓ ≠ 32 := fun qₓ => hcₓ (by rw [qₓ]; decide)
              rw [mset_ne _ _ _ this]
            · rw [ms_at, if_neg (by omega)]
            · rw [ms_at, if_pos ⟨rfl, rfl⟩, i5ₓ]
              exact nI_add mₓ 1
            · rw [ms_at, if_neg (by omega)]; exact q2ₓ
            · rw [ms_at, if_neg (by omega)]; exact q3ₓ
theorem d8ₓ : ∀ aₓ, aₓ < 12 → ∀ bₓ, bₓ < 8 → nI (8 * aₓ + bₓ) / nI 8 = nI aₓ ∧ irem (nI (8 * aₓ + bₓ)) (nI 8) = nI bₓ := by decide +kernel
theorem th_out {V : Vw} (hBₓ : VB V) {wₓ : Nat} (hw : wₓ < 3) {S0ₓ T0ₓ : Mem} : ∀ (kₓ iₓ fₓ : Nat) (Sₓ T : Mem) (mₓ : Nat) (x3 : Int32), iₓ + kₓ = 12 → kₓ < fₓ → ThQ V S0ₓ T0ₓ Sₓ T mₓ x3 → mₓ ≤ 8 * iₓ → ThP V wₓ S0ₓ T0ₓ (fX5_findThieves_62 fₓ Sₓ (nI iₓ)) (fX8_thief_93 fₓ T (nI wₓ) (nI mₓ) x3 (nI iₓ)) := by
  intro kₓ
  induction kₓ with
  | zero =>
    intro iₓ fₓ Sₓ T mₓ x3 hiₓ hf hQ hmₓ
    obtain ⟨fₓ, rfl⟩ : ∃ gₓ, fₓ = gₓ + 1 := ⟨fₓ - 1, by omega⟩
    have hiₓ : iₓ = 12 := by omega
    subst hiₓ
    obtain ⟨i1ₓ, i2ₓ, i3ₓ, i4ₓ, i5ₓ, i6ₓ⟩ := hQ
    show ThP V wₓ S0ₓ T0ₓ (fX5_findThieves_62_b (fX5_findThieves_62 fₓ) Sₓ (nI 12)) (fX8_thief_93_b (fX8_thief_93 fₓ) T (nI wₓ) (nI mₓ) x3 (nI 12))
    unfold fX5_findThieves_62_b fX8_thief_93_b
    rw [if_pos (show (12 : Int32) ≤ nI 12 by decide), if_pos (show (12 : Int32) ≤ nI 12 by decide)]
    by_cases w0ₓ : wₓ = 0
    · subst w0ₓ
      rw [if_pos (show nI 0 = 0 from rfl)]
      exact ⟨Sₓ, T, _, rfl, rfl, i2ₓ, i3ₓ, i4ₓ, i5ₓ.symm⟩
    · rw [if_neg (show ¬ nI wₓ = 0 by rw [show (0 : Int32) = nI 0 from rfl, nI_eq (by omega) (by omega)]; exact w0ₓ)]
      rcases i6ₓ with ⟨qₓ, q1ₓ, q2ₓ, q3ₓ⟩ | ⟨qₓ, aₓ, bₓ, haₓ, hbₓ, q1ₓ, q2ₓ, q3ₓ⟩
      · rw [if_pos q1ₓ]
        refine ⟨Sₓ, T, _, rfl, rfl, i2ₓ, i3ₓ, i4ₓ, ?_⟩
        rw [if_neg w0ₓ, q2ₓ, q3ₓ, ite_self]
      · obtain ⟨z1, z2⟩ := d8ₓ aₓ haₓ bₓ hbₓ
        rw [q1ₓ, if_neg (m1_ne (by omega))]
        by_cases w1ₓ : wₓ = 1
        · subst w1ₓ
          rw [if_pos (show nI 1 = 1 from rfl)]
          refine ⟨Sₓ, T, _, rfl, rfl, i2ₓ, i3ₓ, i4ₓ, ?_⟩
          rw [if_neg w0ₓ, if_pos rfl, q2ₓ]
          exact z1
        · rw [if_neg (show ¬ nI wₓ = 1 by rw [show (1 : Int32) = nI 1 from rfl, nI_eq (by omega) (by omega)]; exact w1ₓ)]
          refine ⟨Sₓ, T, _, rfl, rfl, i2ₓ, i3ₓ, i4ₓ, ?_⟩
          rw [if_neg w0ₓ, if_neg w1ₓ, q3ₓ]
          exact z2
  | succ kₓ ihₓ =>
    intro iₓ fₓ Sₓ T mₓ x3 hiₓ hf hQ hmₓ
    obtain ⟨fₓ, rfl⟩ : ∃ gₓ, fₓ = gₓ + 1 := ⟨fₓ - 1, by omega⟩
    have hh : iₓ < 12 := by omega
    have r8 : V.2.1 iₓ 3 < 8 := by have := hBₓ.2.1 iₓ hh; omega
    have e3ₓ := inH_V hQ.1.1 hh (show 3 < 5 by omega)
    have m3ₓ := hQ.1.2.1.2.1 iₓ 3 hh (by omega)
    obtain ⟨S1, T1, a1ₓ, a2, a3, a4, a5, a6⟩ := th_add hBₓ hh r8 (-1) hQ.1
    have zₓ := th_in hBₓ hh hw (fun Sₓ T mₓ x3 q1ₓ q2ₓ => ihₓ (iₓ + 1) fₓ Sₓ T mₓ x3 (by omega) (by omega) q1ₓ q2ₓ) 8 0 FU S1 T1 mₓ x3 (by omega) (by unfold FU; omega) (hQ.to a3 a4 a5 a6) (by omega)
    show ThP V wₓ S0ₓ T0ₓ (fX5_findThieves_62_b (fX5_findThieves_62 fₓ) Sₓ (nI iₓ)) (fX8_thief_93_b (fX8_thief_93 fₓ) T (nI wₓ) (nI mₓ) x3 (nI iₓ))
    unfold fX5_findThieves_62_b fX8_thief_93_b
    rw [if_neg (show ¬ (12 : Int32) ≤ nI iₓ by rw [show (12 : Int32) = nI 12 from rfl, nI_leI (by omega) (by omega)]; omega), if_neg (show ¬ (12 : Int32) ≤ nI iₓ by rw [show (12 : Int32) = nI 12 from rfl, nI_leI (by omega) (by omega)]; omega), show (3 : Int32) = nI 3 from rfl, show (5 : Int32) = nI 5 from rfl, pk_mul, nI_add, gd_in _ (show 5 * iₓ + 3 < 60 by omega) (by omega), nI_clamp (show 5 * iₓ + 3 < 2 ^ 31 by omega), m3ₓ, e3ₓ, bnd_e, lti_e, a1ₓ, a2, bnd_e, bnd_e]
    exact zₓ
/-- the sums of the whole day -/
theorem th_day {V : Vw} (hBₓ : VB V) : ∀ (kₓ iₓ fₓ : Nat) (Sₓ T : Mem) (wₓ : Nat), iₓ + kₓ = 12 → kₓ < fₓ → ThI V Sₓ T → ∃ S1 T1 bₓ, bₓ < 2 ∧ ThI V S1 T1 ∧ frm scX Sₓ S1 ∧ S1 32 = Sₓ 32 ∧ frm scM T T1 ∧ fX5_findThieves_25 fₓ Sₓ (nI iₓ) = fX5_findThieves_62 FU (mset S1 32 9 (nI bₓ)) (nI 0) ∧ fX8_thief_40 fₓ T (nI wₓ) (nI iₓ) = (if nI wₓ = nI 3 then some (nI bₓ, T1) else fX8_thief_93 FU T1 (nI wₓ) (nI 0) (-nI 1) (nI 0)) := by
  intro kₓ
  induction kₓ with
  | zero =>
    intro iₓ fₓ Sₓ T wₓ hiₓ hf hI
    obtain ⟨fₓ, rfl⟩ : ∃ gₓ, fₓ = gₓ + 1 := ⟨fₓ - 1, by omega⟩
    have hiₓ : iₓ = 12 := by omega
    subst hiₓ
    obtain ⟨bₓ, b1, b2, b3⟩ := th_told hBₓ hI
    refine ⟨Sₓ, T, bₓ, b1, hI, frm.rf _ _, rfl, frm.rf _ _, ?_, ?_⟩
    · show fX5_findThieves_25_b (fX5_findThieves_25 fₓ) Sₓ (nI 12) = _
      unfold fX5_findThieves_25_b
      have hbₓ : isB (nI bₓ) = true := by
        rcases (show bₓ = 0 ∨ bₓ = 1 by omega) with rfl | rfl <;> rfl
      rw [if_pos (show (12 : Int32) ≤ nI 12 by decide), b2, bnd_e, gd_of _ hbₓ, ltm_e, show (0 : Int32) = nI 0 from rfl]
    · show fX8_thief_40_b (fX8_thief_40 fₓ) T (nI wₓ) (nI 12) = _
      unfold fX8_thief_40_b
      rw [if_pos (show (12 : Int32) ≤ nI 12 by decide), b3, bnd_e, show (3 : Int32) = nI 3 from rfl, show (0 : Int32) = nI 0 from rfl, show (-1 : Int32) = -nI 1 from rfl]
      rcases (show bₓ = 0 ∨ bₓ = 1 by omega) with rfl | rfl
      · rw [if_pos (show nI 0 = nI 0 from rfl)]
      · rw [if_neg (show ¬ nI 1 = nI 0 by decide), show (1 : Int32) = nI 1 from rfl]
  | succ kₓ ihₓ =>
    intro iₓ fₓ Sₓ T wₓ hiₓ hf hI
    obtain ⟨fₓ, rfl⟩ : ∃ gₓ, fₓ = gₓ + 1 := ⟨fₓ - 1, by omega⟩
    have hh : iₓ < 12 := by omega
    have r8 : V.2.1 iₓ 3 < 8 := by have := hBₓ.2.1 iₓ hh; omega
    have e3ₓ := inH_V hI.1 hh (show 3 < 5 by omega)
    have m3ₓ := hI.2.1.2.1 iₓ 3 hh (by omega)
    obtain ⟨S1, T1, a1ₓ, a2, a3, a4, a5, a6⟩ := th_add hBₓ hh r8 1 hI
    obtain ⟨S2, T2, bₓ, b1, b2, b3, b4, b5, b6, b7⟩ := ihₓ (iₓ + 1) fₓ S1 T1 wₓ (by omega) (by omega) a3
    refine ⟨S2, T2, bₓ, b1, b2, a4.tr b3, b4.trans a5, a6.tr b5, ?_, ?_⟩
    · rw [← b6]
      show fX5_findThieves_25_b (fX5_findThieves_25 fₓ) Sₓ (nI iₓ) = _
      unfold fX5_findThieves_25_b
      rw [if_neg (show ¬ (12 : Int32) ≤ nI iₓ by rw [show (12 : Int32) = nI 12 from rfl, nI_leI (by omega) (by omega)]; omega), show (3 : Int32) = nI 3 from rfl, e3ₓ, bnd_e, a1ₓ, bnd_e, show nI iₓ + 1 = nI (iₓ + 1) from nI_add iₓ 1]
    · rw [← b7]
      show fX8_thief_40_b (fX8_thief_40 fₓ) T (nI wₓ) (nI iₓ) = _
      unfold fX8_thief_40_b
      rw [if_neg (show ¬ (12 : Int32) ≤ nI iₓ by rw [show (12 : Int32) = nI 12 from rfl, nI_leI (by omega) (by omega)]; omega), show (3 : Int32) = nI 3 from rfl, show (5 : Int32) = nI 5 from rfl, pk_mul, nI_add, gd_in _ (show 5 * iₓ + 3 < 60 by omega) (by omega), nI_clamp (show 5 * iₓ + 3 < 2 ^ 31 by omega), m3ₓ, a2, bnd_e, show nI iₓ + 1 = nI (iₓ + 1) from nI_add iₓ 1]
theorem fill37 : ∀ (kₓ iₓ fₓ : Nat) (Sₓ : Mem), iₓ + kₓ = 10 → kₓ < fₓ → (∀ pₓ, pₓ < iₓ → Sₓ 37 pₓ = nI 0) → ∃ Fₓ, (∀ pₓ, pₓ < 10 → Fₓ pₓ = nI 0) ∧ fJ7_fill_37_5 fₓ Sₓ (nI 0) (nI iₓ) (nI 10) = some (nI 0, mput Sₓ 37 Fₓ) := by
  intro kₓ
  induction kₓ with
  | zero =>
    intro iₓ fₓ Sₓ hiₓ hf hz
    obtain ⟨fₓ, rfl⟩ : ∃ gₓ, fₓ = gₓ + 1 := ⟨fₓ - 1, by omega⟩
    have hiₓ : iₓ = 10 := by omega
    subst hiₓ
    refine ⟨Sₓ 37, hz, ?_⟩
    show fJ7_fill_37_5_b (fJ7_fill_37_5 fₓ) Sₓ (nI 0) (nI 10) (nI 10) = _
    simp (disch := first | omega | assumption) only [fJ7_fill_37_5_b, mput_id, mset_ne, mset_same, upd_same, upd_ne, ltm_e, lti_e, bnd_e, fa_lit, nI_add, pk_mul, nI_clamp, gd_in, nlt0, nI_ltI, nI_leI, nI_eq, if_true, if_false, if_pos, if_neg]
  | succ kₓ ihₓ =>
    intro iₓ fₓ Sₓ hiₓ hf hz
    obtain ⟨fₓ, rfl⟩ : ∃ gₓ, fₓ = gₓ + 1 := ⟨fₓ - 1, by omega⟩
    obtain ⟨Fₓ, z1, z2⟩ := ihₓ (iₓ + 1) fₓ (mset Sₓ 37 iₓ (nI 0)) (by omega) (by omega) (fun pₓ hp => by
      rw [mset_same]
      by_cases eₓ : pₓ = iₓ
      · rw [eₓ, upd_same]
      · rw [upd_ne _ _ eₓ]; exact hz pₓ (by omega))
    refine ⟨Fₓ, z1, ?_⟩
    show fJ7_fill_37_5_b (fJ7_fill_37_5 fₓ) Sₓ (nI 0) (nI iₓ) (nI 10) = _
    rw [show mput (mset Sₓ 37 iₓ (nI 0)) 37 Fₓ = mput Sₓ 37 Fₓ from mput_mput _ _ _ _] at z2
    rw [← z2]
    simp (disch := first | omega | assumption) only [fJ7_fill_37_5_b, mset_ne, mset_same, upd_same, upd_ne, ltm_e, lti_e, bnd_e, fa_lit, nI_add, pk_mul, nI_clamp, gd_in, nlt0, nI_ltI, nI_leI, nI_eq, if_true, if_false, if_pos, if_neg]
theorem zero25 (wₓ : Nat) : ∀ (kₓ iₓ fₓ : Nat) (T : Mem), iₓ + kₓ = 10 → kₓ < fₓ → (∀ pₓ, pₓ < iₓ → T 25 pₓ = nI 0) → ∃ Fₓ, (∀ pₓ, pₓ < 10 → Fₓ pₓ = nI 0) ∧ fX8_thief_19 fₓ T (nI wₓ) (nI iₓ) = fX8_thief_40 FU (mput T 25 Fₓ) (nI wₓ) (nI 0) := by
  intro kₓ
  induction kₓ with
  | zero =>
    intro iₓ fₓ T hiₓ hf hz
    obtain ⟨fₓ, rfl⟩ : ∃ gₓ, fₓ = gₓ + 1 := ⟨fₓ - 1, by omega⟩
    have hiₓ : iₓ = 10 := by omega
    subst hiₓ
    refine ⟨T 25, hz, ?_⟩
    rw [mput_id]
    show fX8_thief_19_b (fX8_thief_19 fₓ) T (nI wₓ) (nI 10) = _
    unfold fX8_thief_19_b
    rw [if_pos (show (10 : Int32) ≤ nI 10 by decide), show (0 : Int32) = nI 0 from rfl]
  | succ kₓ ihₓ =>
    intro iₓ fₓ T hiₓ hf hz
    obtain ⟨fₓ, rfl⟩ : ∃ gₓ, fₓ = gₓ + 1 := ⟨fₓ - 1, by omega⟩
    obtain ⟨Fₓ, z1, z2⟩ := ihₓ (iₓ + 1) fₓ (mset T 25 iₓ (nI 0)) (by omega) (by omega) (fun pₓ hp => by
      rw [mset_same]
      by_cases eₓ : pₓ = iₓ
      · rw [eₓ, upd_same]
      · rw [upd_ne _ _ eₓ]; exact hz pₓ (by omega))
    refine ⟨Fₓ, z1, ?_⟩
    rw [show mput (mset T 25 iₓ (nI 0)) 25 Fₓ = mput T 25 Fₓ from mput_mput _ _ _ _] at z2
    rw [← z2]
    show fX8_thief_19_b (fX8_thief_19 fₓ) T (nI wₓ) (nI iₓ) = _
    unfold fX8_thief_19_b
    rw [if_neg (show ¬ (10 : Int32) ≤ nI iₓ by rw [show (10 : Int32) = nI 10 from rfl, nI_leI (by omega) (by omega)]; omega), gd_in _ (show iₓ < 10 by omega) (by omega), ltm_e, nI_clamp (by omega), show nI iₓ + 1 = nI (iₓ + 1) from nI_add iₓ 1, show (0 : Int32) = nI 0 from rfl]
theorem sim_thief (aₓ : Int32) : Sim RR (fun Sₓ => fX7_thief Sₓ aₓ) (fun T => fX8_thief T aₓ) := by
  intro Sₓ T hR
  rcases ixC aₓ (show 4 < 2 ^ 31 by omega) with ⟨wₓ, hw, rfl⟩ | gₓ | gₓ
  · obtain ⟨V, tₓ, hBₓ, hX, hMₓ, -⟩ := hR.vw
    have hn := hBₓ.1
    obtain ⟨⟨nₓ, dₓ, tₓ, pr, re, bl, cₓ, hW, hP⟩, -⟩ := id hR
    have w14ₓ : RTol (sl Sₓ 1) T := hW.2.2.2.2.2.2.2.2.2.2.2.2.2.2.1
    clear hW hP
    obtain ⟨Fₓ, f1ₓ, f2ₓ⟩ := fill37 10 0 FU (mset (mset (mset Sₓ 32 6 (nI 0)) 32 7 (-nI 1)) 32 8 (-nI 1)) (by omega) (by unfold FU; omega) (fun pₓ hp => absurd hp (by omega))
    obtain ⟨Gₓ, g1, g2⟩ := zero25 wₓ 10 0 FU (mset T 0 0 (nI 0)) (by omega) (by unfold FU; omega) (fun pₓ hp => absurd hp (by omega))
    have hS1 : frm scX Sₓ (mput (mset (mset (mset Sₓ 32 6 (nI 0)) 32 7 (-nI 1)) 32 8 (-nI 1)) 37 Fₓ) := by
      intro cₓ hcₓ
      have c1ₓ : cₓ ≠ 32 := fun qₓ => hcₓ (by rw [qₓ]; decide)
      have c2ₓ : cₓ ≠ 37 := fun qₓ => hcₓ (by rw [qₓ]; decide)
      rw [mput_ne _ _ c2ₓ, mset_ne _ _ _ c1ₓ, mset_ne _ _ _ c1ₓ, mset_ne _ _ _ c1ₓ]
    have hT1 : frm scM (mset T 0 0 (nI 0)) (mput (mset T 0 0 (nI 0)) 25 Gₓ) := frm.put _ _ (by decide)
    have hI : ThI V (mput (mset (mset (mset Sₓ 32 6 (nI 0)) 32 7 (-nI 1)) 32 8 (-nI 1)) 37 Fₓ) (mput (mset T 0 0 (nI 0)) 25 Gₓ) := by
      refine ⟨hX.fr hS1, hMₓ.fr hT1, fun pₓ hp => ?_, fun pₓ hp => ?_⟩
      · rw [mput_same, mput_same, f1ₓ pₓ (by omega), g1 pₓ (by omega)]
      · rw [hS1 5 (by decide), hT1 10 (by decide)]
        exact w14ₓ pₓ hp
    obtain ⟨S2, T2, bₓ, b1, b2, b3, b4, b5, b6, b7⟩ := th_day hBₓ 12 0 FU _ _ wₓ (by omega) (by unfold FU; omega) hI
    have fSₓ : frm scX S2 (mset S2 32 9 (nI bₓ)) := frm.put _ _ (by decide)
    have hI2 : ThI V (mset S2 32 9 (nI bₓ)) T2 := ⟨b2.1.fr fSₓ, b2.2.1, b2.2.2.1, b2.2.2.2⟩
    have hQ : ThQ V (mset S2 32 9 (nI bₓ)) T2 (mset S2 32 9 (nI bₓ)) T2 0 (-nI 1) := by
      refine ⟨hI2, frm.rf _ _, frm.rf _ _, rfl, ?_, Or.inl ⟨rfl, rfl, ?_, ?_⟩⟩
      · rw [ms_at, if_neg (by omega), b4, mput_ne _ _ (by omega), ms_at, if_neg (by omega), ms_at, if_neg (by omega), ms_at, if_pos ⟨rfl, rfl⟩]
      · rw [ms_at, if_neg (by omega), b4, mput_ne _ _ (by omega), ms_at, if_neg (by omega), ms_at, if_pos ⟨rfl, rfl⟩]; rfl
      · rw [ms_at, if_neg (by omega), b4, mput_ne _ _ (by omega), ms_at, if_pos ⟨rfl, rfl⟩]; rfl
    have xf : fX5_findThieves Sₓ = fX5_findThieves_62 FU (mset S2 32 9 (nI bₓ)) (nI 0) := by
      rw [← b6]
      unfold fX5_findThieves fJ7_fill_37
      rw [ltm_e, ltm_e, ltm_e, show (0 : Int32) = nI 0 from rfl, show (10 : Int32) = nI 10 from rfl, show (-1 : Int32) = -nI 1 from rfl, f2ₓ, bnd_e]
    have mf : fX8_thief T (nI wₓ) = fX8_thief_40 FU (mput (mset T 0 0 (nI 0)) 25 Gₓ) (nI wₓ) (nI 0) := by
      rw [← g2]
      generalize hq : fX8_thief_19 FU (mset T 0 0 (nI 0)) (nI wₓ) (nI 0) = qₓ
      clear b6 b7 xf f2ₓ g2
      simp (disch := first | omega | assumption) only [fX8_thief, fX8_isIn, hq, mset_ne, mset_same, upd_same, upd_ne, ltm_e, lti_e, bnd_e, fa_lit, nI_add, pk_mul, nI_clamp, gd_in, nlt0, nI_ltI, nI_leI, nI_eq, if_true, if_false, if_pos, if_neg]
    rw [b7] at mf
    by_cases w3ₓ : wₓ = 3
    · subst w3ₓ
      obtain ⟨S', T', rₓ, p1ₓ, p2ₓ, p3ₓ, p4ₓ, p5ₓ, p6ₓ⟩ := th_out hBₓ (show 0 < 3 by omega) 12 0 FU _ _ 0 _ (by omega) (by unfold FU; omega) hQ (by omega)
      rw [if_pos rfl] at mf
      refine ⟨nI bₓ, S', T2, ?_, mf, hR.fr ((hS1.tr b3).tr (fSₓ.tr p3ₓ)) (hT1.tr b5)⟩
      have e9ₓ : S' 32 9 = nI bₓ := by rw [p5ₓ, ms_at, if_pos ⟨rfl, rfl⟩]
      rw [p1ₓ] at xf
      clear b6 b7 p1ₓ p2ₓ mf f2ₓ g2 hR
      rcases (show bₓ = 0 ∨ bₓ = 1 by omega) with rfl | rfl
      · simp (disch := first | omega | assumption) only [fX7_thief, xf, e9ₓ, mset_ne, mset_same, upd_same, upd_ne, ltm_e, lti_e, bnd_e, fa_lit, nI_add, pk_mul, nI_clamp, gd_in, nlt0, nI_ltI, nI_leI, nI_eq, if_true, if_false, if_pos, if_neg]
      · simp (disch := first | omega | assumption) only [fX7_thief, xf, e9ₓ, mset_ne, mset_same, upd_same, upd_ne, ltm_e, lti_e, bnd_e, fa_lit, nI_add, pk_mul, nI_clamp, gd_in, nlt0, nI_ltI, nI_leI, nI_eq, if_true, if_false, if_pos, if_neg]
    · obtain ⟨S', T', rₓ, p1ₓ, p2ₓ, p3ₓ, p4ₓ, p5ₓ, p6ₓ⟩ := th_out hBₓ (show wₓ < 3 by omega) 12 0 FU _ _ 0 _ (by omega) (by unfold FU; omega) hQ (by omega)
      rw [if_neg (by rw [nI_eq (by omega) (by omega)]; exact w3ₓ), p2ₓ] at mf
      refine ⟨rₓ, S', T', ?_, mf, hR.fr ((hS1.tr b3).tr (fSₓ.tr p3ₓ)) ((hT1.tr b5).tr p4ₓ)⟩
      rw [p1ₓ] at xf
      clear b6 b7 p1ₓ p2ₓ mf f2ₓ g2 hR
      rcases (show wₓ = 0 ∨ wₓ = 1 ∨ wₓ = 2 by omega) with rfl | rfl | rfl
      · rw [if_pos rfl] at p6ₓ
        simp (disch := first | omega | assumption) only [fX7_thief, xf, p6ₓ, mset_ne, mset_same, upd_same, upd_ne, ltm_e, lti_e, bnd_e, fa_lit, nI_add, pk_mul, nI_clamp, gd_in, nlt0, nI_ltI, nI_leI, nI_eq, if_true, if_false, if_pos, if_neg]
      · rw [if_neg (by omega), if_pos rfl] at p6ₓ
        simp (disch := first | omega | assumption) only [fX7_thief, xf, p6ₓ, mset_ne, mset_same, upd_same, upd_ne, ltm_e, lti_e, bnd_e, fa_lit, nI_add, pk_mul, nI_clamp, gd_in, nlt0, nI_ltI, nI_leI, nI_eq, if_true, if_false, if_pos, if_neg]
      · rw [if_neg (by omega), if_neg (by omega)] at p6ₓ
        simp (disch := first | omega | assumption) only [fX7_thief, xf, p6ₓ, mset_ne, mset_same, upd_same, upd_ne, ltm_e, lti_e, bnd_e, fa_lit, nI_add, pk_mul, nI_clamp, gd_in, nlt0, nI_ltI, nI_leI, nI_eq, if_true, if_false, if_pos, if_neg]
  · exact ⟨-1, Sₓ, mset T 0 0 0, by simp (disch := first | omega | assumption) only [fX7_thief, lo1 gₓ, lo2 gₓ, lo3 gₓ, lo4 gₓ, lo5 gₓ, mset_ne, mset_same, upd_same, upd_ne, ltm_e, lti_e, bnd_e, fa_lit, nI_add, pk_mul, nI_clamp, gd_in, nlt0, nI_ltI, nI_leI, nI_eq, if_true, if_false, if_pos, if_neg], by simp (disch := first | omega | assumption) only [fX8_thief, fX8_isIn, lo1 gₓ, lo2 gₓ, lo3 gₓ, lo4 gₓ, lo5 gₓ, mset_ne, mset_same, upd_same, upd_ne, ltm_e, lti_e, bnd_e, fa_lit, nI_add, pk_mul, nI_clamp, gd_in, nlt0, nI_ltI, nI_leI, nI_eq, if_true, if_false, if_pos, if_neg], hR.told 0⟩
  · exact ⟨-1, Sₓ, mset T 0 0 0, by simp (disch := first | omega | assumption) only [fX7_thief, hi1 gₓ, hi2 gₓ, hi3 gₓ, hi4 gₓ, hi5 gₓ, mset_ne, mset_same, upd_same, upd_ne, ltm_e, lti_e, bnd_e, fa_lit, nI_add, pk_mul, nI_clamp, gd_in, nlt0, nI_ltI, nI_leI, nI_eq, if_true, if_false, if_pos, if_neg], by simp (disch := first | omega | assumption) only [fX8_thief, fX8_isIn, hi1 gₓ, hi2 gₓ, hi3 gₓ, hi4 gₓ, hi5 gₓ, mset_ne, mset_same, upd_same, upd_ne, ltm_e, lti_e, bnd_e, fa_lit, nI_add, pk_mul, nI_clamp, gd_in, nlt0, nI_ltI, nI_leI, nI_eq, if_true, if_false, if_pos, if_neg], hR.told 0⟩
