/-! the acts, both sides -/
def ActP (nₓ dₓ tₓ pr re bl : Nat) (Sₓ T : Mem) (oX oM : O) : Prop := ∃ S' T', oX = some (nI 0, S') ∧ oM = some (nI 0, T') ∧ RWn nₓ dₓ tₓ pr re bl (sl S' 1) T' ∧ frm (3 :: scX) Sₓ S' ∧ frm (1 :: scM) T T'
theorem frm.w {Lₓ L' : List Nat} {Sₓ S' : Mem} (hₓ : frm Lₓ Sₓ S') (hl : ∀ cₓ, cₓ ∈ Lₓ → cₓ ∈ L') : frm L' Sₓ S' := fun cₓ hcₓ => hₓ cₓ (fun qₓ => hcₓ (hl cₓ qₓ))
theorem frm.c {Lₓ : List Nat} {Sₓ S' : Mem} (kₓ : Nat) (hₓ : frm Lₓ Sₓ S') : frm (kₓ :: Lₓ) Sₓ S' := hₓ.w (fun _ qₓ => List.mem_cons_of_mem _ qₓ)
theorem go_both {nₓ dₓ tₓ pr re bl pₓ Rₓ : Nat} {Sₓ T : Mem} (hW : RWn nₓ dₓ tₓ pr re bl (sl Sₓ 1) T) (hp : pₓ < nₓ) (hR : Rₓ = 99 ∨ Rₓ < 25) : ∃ T', fX8_goesTo T (nI pₓ) (eI Rₓ) = some (nI 0, T') ∧ RWn nₓ dₓ tₓ pr re bl (sl (goR Sₓ pₓ Rₓ) 1) T' ∧ frm (3 :: scX) Sₓ (goR Sₓ pₓ Rₓ) ∧ frm (1 :: scM) T T' := by
  have hn : nₓ ≤ 10 := hW.1.1
  by_cases hₓ : Rₓ = 99
  · subst hₓ
    refine ⟨T, ?_, ?_, ?_, frm.rf _ _⟩
    · unfold fX8_goesTo; rw [if_pos (show eI 99 = -1 from rfl)]; rfl
    · exact hW
    · exact frm.rf _ _
  · have hr : Rₓ < 25 := hR.resolve_left hₓ
    have stₓ := hW.st (pₓ := pₓ) (mₓ := 0) (vₓ := nI Rₓ) (by omega) (by omega) (fun _ => ⟨Rₓ, by omega, rfl⟩) (fun zₓ => absurd zₓ (by omega))
    have e5ₓ : 5 + 10 * 0 + pₓ = 5 + pₓ := by omega
    rw [e5ₓ] at stₓ
    refine ⟨mset T 1 (5 + pₓ) (nI Rₓ), ?_, ?_, ?_, frm.put _ _ List.mem_cons_self⟩
    · unfold fX8_goesTo
      rw [eI_ne hₓ, if_neg (m1_ne (by omega)), show (5 : Int32) = nI 5 from rfl, nI_add, gd_in _ (show 5 + pₓ < 55 by omega) (by omega), ltm_e, nI_clamp (show 5 + pₓ < 2 ^ 31 by omega)]
      rfl
    · unfold goR; rw [if_neg hₓ]; exact stₓ
    · unfold goR; rw [if_neg hₓ]; exact frm.put _ _ List.mem_cons_self
theorem a70_no (T : Mem) (pₓ : Int32) {aₓ : Nat} (haₓ : aₓ ≤ 3) (h2 : aₓ ≠ 2) : fX8_acts_70 T pₓ (nI aₓ) = some (nI 0, T) := by
  unfold fX8_acts_70
  rw [if_neg (show ¬ nI aₓ = 2 by rw [show (2 : Int32) = nI 2 from rfl, nI_eq (by omega) (by omega)]; exact h2)]
  rfl
theorem a38_no (T : Mem) (pₓ : Int32) {aₓ : Nat} (haₓ : aₓ ≤ 3) (h2 : aₓ ≠ 2) (h3 : aₓ ≠ 3) : fX8_acts_38 T pₓ (nI aₓ) = some (nI 0, T) := by
  unfold fX8_acts_38
  rw [if_neg (show ¬ nI aₓ = 3 by rw [show (3 : Int32) = nI 3 from rfl, nI_eq (by omega) (by omega)]; exact h3)]
  exact a70_no T pₓ haₓ h2
theorem who_both {nₓ dₓ tₓ pr re bl : Nat} {Sₓ T : Mem} (hW : RWn nₓ dₓ tₓ pr re bl (sl Sₓ 1) T) (cₓ : Nat) : whoS (fun pₓ => Sₓ 3 (10 * pₓ)) (nI cₓ) nₓ 0 = whoS (fun pₓ => T 1 (5 + pₓ)) (nI cₓ) nₓ 0 := by
  have w11ₓ : RMov (Sₓ 3) (T 1) (81 * (12 * dₓ + tₓ)) := hW.2.2.2.2.2.2.2.2.2.2.2.1
  exact who_eq hW.1.1 w11ₓ (nI cₓ)
theorem ltF_c (pl : Nat) : (fun xₓ yₓ => decide (farN xₓ pl < farN yₓ pl)) = ltF pl := by
  funext xₓ yₓ
  unfold ltF
  rw [farN_c xₓ pl, farN_c yₓ pl]
theorem bst_lt (okₓ : Nat → Bool) (lt : Nat → Nat → Bool) (kₓ : Nat) : bstₓ okₓ lt kₓ 0 99 = 99 ∨ bstₓ okₓ lt kₓ 0 99 < kₓ := by
  rcases bst_in okₓ lt kₓ 0 99 with hₓ | ⟨-, hₓ, -⟩
  · exact Or.inl hₓ
  · exact Or.inr (by omega)
theorem seek_both {nₓ dₓ tₓ pr re bl pₓ : Nat} {Sₓ T : Mem} {V : Vw} (hV : V.1 = nₓ) (hW : RWn nₓ dₓ tₓ pr re bl (sl Sₓ 1) T) (hBₓ : VB V) (hX : XVw Sₓ V) (ht : tₓ < 12) (hSₓ : Shd T V tₓ (V.2.1 tₓ 3)) (hp : pₓ < nₓ) : ActP nₓ dₓ tₓ pr re bl Sₓ T (bnd (fX6_shadeIn Sₓ (nI tₓ) (nI (V.2.1 tₓ 3)) (nI pₓ)) fun r_14 S_15 => bnd (fX1_goToNearest S_15 (nI pₓ) r_14) fun _ S_17 => some ((0 : Int32), S_17)) (bnd (fX8_shadedFor T (nI pₓ)) fun r_9 S_10 => bnd (fX8_goesTo S_10 (nI pₓ) r_9) fun _ S_12 => fX8_acts_38 S_12 (nI pₓ) (nI 1)) := by
  subst hV
  have hn := hBₓ.1
  have r8 : V.2.1 tₓ 3 < 8 := by have := hBₓ.2.1 tₓ ht; omega
  have es := shade_X hBₓ hX (gₓ := tₓ) (rₓ := V.2.1 tₓ 3) (bₓ := pₓ) ht r8 (xₓ := nI pₓ) (fun iₓ hiₓ => nI_eq (by omega) (by omega))
  have hmₓ := seek_M hBₓ hSₓ.1 hp 25 0 FU 99 (by omega) (by unfold FU; omega) (Or.inl rfl)
  have eR : bstₓ (fun cₓ => decide (¬ (T 21 cₓ &&& (one pₓ ^^^ -1)) = 0) && decide (whoS (fun pₓ => T 1 (5 + pₓ)) (nI cₓ) V.1 0 = -1)) (fun xₓ yₓ => decide (farN xₓ (V.2.2 pₓ 0) < farN yₓ (V.2.2 pₓ 0))) 25 0 99 = bstₓ (okG Sₓ V.1 (nI (shLₓ (gs V tₓ (V.2.1 tₓ 3) (pb V) true) pₓ V.1 0 0))) (ltF (V.2.2 pₓ 0)) 25 0 99 := by
    rw [ltF_c]
    refine bst_cg _ 25 0 99 (fun cₓ h1 h2 => ?_)
    show (decide (¬ (T 21 cₓ &&& (one pₓ ^^^ -1)) = 0) && decide (whoS (fun pₓ => T 1 (5 + pₓ)) (nI cₓ) V.1 0 = -1)) = okG Sₓ V.1 (nI (shLₓ (gs V tₓ (V.2.1 tₓ 3) (pb V) true) pₓ V.1 0 0)) cₓ
    unfold okG
    rw [who_both hW cₓ]
    congr 1
    rw [bt_nI _ (by omega)]
    cases zₓ : (shLₓ (gs V tₓ (V.2.1 tₓ 3) (pb V) true) pₓ V.1 0 0).testBit cₓ with
    | true =>
      refine decide_eq_true (fun qₓ => ?_)
      rw [clr_iff (by omega)] at qₓ
      rw [shL_bit] at zₓ
      rcases zₓ with zₓ | ⟨jₓ, j1, j2ₓ, j3ₓ, j4ₓ⟩
      · rw [Nat.zero_testBit] at zₓ; cases zₓ
      · have := qₓ jₓ (by omega) j3ₓ
        rw [hSₓ.2 cₓ jₓ (by omega), decide_eq_true (show jₓ < V.1 by omega), gs_cg V tₓ (V.2.1 tₓ 3) true (bs_pb hBₓ hSₓ.1 (show jₓ < 10 by omega)), j4ₓ] at this
        cases this
    | false =>
      refine decide_eq_false (fun qₓ => qₓ ?_)
      rw [clr_iff (by omega)]
      intro jₓ hj hne
      rw [hSₓ.2 cₓ jₓ (by omega)]
      by_cases jn : jₓ < V.1
      · rw [decide_eq_true jn, Bool.true_and, gs_cg V tₓ (V.2.1 tₓ 3) true (bs_pb hBₓ hSₓ.1 (show jₓ < 10 by omega))]
        cases yₓ : (gs V tₓ (V.2.1 tₓ 3) (pb V) true jₓ).testBit cₓ with
        | false => rfl
        | true =>
          have : (shLₓ (gs V tₓ (V.2.1 tₓ 3) (pb V) true) pₓ V.1 0 0).testBit cₓ = true := by
            rw [shL_bit]; exact Or.inr ⟨jₓ, by omega, by omega, hne, yₓ⟩
          rw [this] at zₓ; cases zₓ
      · rw [decide_eq_false jn, Bool.false_and]
  rw [eR] at hmₓ
  have hm' : fX8_shadedFor T (nI pₓ) = some (eI (bstₓ (okG Sₓ V.1 (nI (shLₓ (gs V tₓ (V.2.1 tₓ 3) (pb V) true) pₓ V.1 0 0))) (ltF (V.2.2 pₓ 0)) 25 0 99), T) := hmₓ
  have hg := goTo_X hBₓ hX hp (nI (shLₓ (gs V tₓ (V.2.1 tₓ 3) (pb V) true) pₓ V.1 0 0))
  have hlt := bst_lt (okG Sₓ V.1 (nI (shLₓ (gs V tₓ (V.2.1 tₓ 3) (pb V) true) pₓ V.1 0 0))) (ltF (V.2.2 pₓ 0)) 25
  generalize bstₓ (okG Sₓ V.1 (nI (shLₓ (gs V tₓ (V.2.1 tₓ 3) (pb V) true) pₓ V.1 0 0))) (ltF (V.2.2 pₓ 0)) 25 0 99 = Rₓ at hm' hg hlt
  obtain ⟨T', q1ₓ, q2ₓ, q3ₓ, q4ₓ⟩ := go_both hW hp hlt
  refine ⟨goR Sₓ pₓ Rₓ, T', ?_, ?_, q2ₓ, q3ₓ, q4ₓ⟩
  · rw [es, bnd_e, hg, bnd_e]; rfl
  · rw [hm', bnd_e, q1ₓ, bnd_e, a38_no _ _ (by omega) (by omega) (by omega)]
theorem flee_both {nₓ dₓ tₓ pr re bl pₓ : Nat} {Sₓ T : Mem} {V : Vw} (hV : V.1 = nₓ) (hW : RWn nₓ dₓ tₓ pr re bl (sl Sₓ 1) T) (hBₓ : VB V) (hX : XVw Sₓ V) (hMₓ : MVw T V) (hp : pₓ < nₓ) : ActP nₓ dₓ tₓ pr re bl Sₓ T (bnd (fX1_flee Sₓ (nI pₓ)) fun _ S_19 => some ((0 : Int32), S_19)) (fX8_acts_38 T (nI pₓ) (nI 3)) := by
  subst hV
  have hn := hBₓ.1
  have w13ₓ : RFoe (sl Sₓ 1) T := hW.2.2.2.2.2.2.2.2.2.2.2.2.2.1
  have hf : Sₓ 4 pₓ = T 8 pₓ := w13ₓ.1 pₓ (by omega)
  have b0 := (hBₓ.2.2.1 pₓ (by omega)).1
  obtain ⟨e0ₓ, -⟩ := has_V hBₓ hX hp
  have m0ₓ := (hMₓ.2.2 pₓ (by omega)).1
  have nX := foe_X hBₓ hX hp (cₓ := V.2.2 pₓ 0) (by omega) V.1 0 FU (by omega) (by unfold FU; omega)
  have nM := foe_M hBₓ hMₓ hp (cₓ := V.2.2 pₓ 0) (by omega) V.1 0 FU (by omega) (by unfold FU; omega)
  rw [hf] at nX
  have nX' : fX1_foeIsNear Sₓ (nI pₓ) (nI (V.2.2 pₓ 0)) = some (if nfLₓ (bt (T 8 pₓ)) (fun qₓ => V.2.2 qₓ 0) (V.2.2 pₓ 0) V.1 0 = true then nI 1 else nI 0, Sₓ) := nX
  have nM' : fX8_isNearFoe T (nI pₓ) (nI (V.2.2 pₓ 0)) = some (if nfLₓ (bt (T 8 pₓ)) (fun qₓ => V.2.2 qₓ 0) (V.2.2 pₓ 0) V.1 0 = true then nI 1 else nI 0, T) := nM
  unfold fX1_flee fX8_acts_38
  rw [show (0 : Int32) = nI 0 from rfl, e0ₓ, bnd_e, nX', bnd_e, if_pos (show nI 3 = 3 from rfl), show (5 : Int32) = nI 5 from rfl, nI_add, gd_in _ (show 5 + pₓ < 55 by omega) (by omega), nI_clamp (show 5 + pₓ < 2 ^ 31 by omega), m0ₓ, nM', bnd_e]
  by_cases cₓ : nfLₓ (bt (T 8 pₓ)) (fun qₓ => V.2.2 qₓ 0) (V.2.2 pₓ 0) V.1 0 = true
  · rw [if_pos cₓ, if_neg (show ¬ nI 1 = nI 0 by decide), if_neg (show ¬ nI 1 = nI 0 by decide), flee_X hBₓ hX hp 25 0 FU (nI 0) (by omega) (by unfold FU; omega)]
    have hmₓ := away_M hBₓ hMₓ hp 25 0 FU 99 (by omega) (by unfold FU; omega) (Or.inl rfl)
    have eR : bstₓ (fun cₓ => !nfLₓ (bt (T 8 pₓ)) (fun qₓ => V.2.2 qₓ 0) cₓ V.1 0 && decide (whoS (fun pₓ => T 1 (5 + pₓ)) (nI cₓ) V.1 0 = -1)) (fun xₓ yₓ => decide (farN xₓ (V.2.2 pₓ 0) < farN yₓ (V.2.2 pₓ 0))) 25 0 99 = bstₓ (okG Sₓ V.1 (orb (fun cₓ => !nfLₓ (bt (Sₓ 4 pₓ)) (fun qₓ => V.2.2 qₓ 0) cₓ V.1 0) 25 0 (nI 0))) (ltF (V.2.2 pₓ 0)) 25 0 99 := by
      rw [ltF_c]
      refine bst_cg _ 25 0 99 (fun cₓ h1 h2 => ?_)
      show (!nfLₓ (bt (T 8 pₓ)) (fun qₓ => V.2.2 qₓ 0) cₓ V.1 0 && decide (whoS (fun pₓ => T 1 (5 + pₓ)) (nI cₓ) V.1 0 = -1)) = okG Sₓ V.1 (orb (fun cₓ => !nfLₓ (bt (Sₓ 4 pₓ)) (fun qₓ => V.2.2 qₓ 0) cₓ V.1 0) 25 0 (nI 0)) cₓ
      unfold okG
      rw [who_both hW cₓ]
      congr 1
      rw [orb_bit _ _ _ _ _ (by omega), show bt (nI 0) cₓ = false from b_0 cₓ, Bool.false_or, decide_eq_true (show 0 ≤ cₓ ∧ cₓ < 0 + 25 by omega), Bool.true_and, hf]
    rw [eR] at hmₓ
    have hm' : fX8_awayFor T (nI pₓ) = some (eI (bstₓ (okG Sₓ V.1 (orb (fun cₓ => !nfLₓ (bt (Sₓ 4 pₓ)) (fun qₓ => V.2.2 qₓ 0) cₓ V.1 0) 25 0 (nI 0))) (ltF (V.2.2 pₓ 0)) 25 0 99), T) := hmₓ
    have hg := goTo_X hBₓ hX hp (orb (fun cₓ => !nfLₓ (bt (Sₓ 4 pₓ)) (fun qₓ => V.2.2 qₓ 0) cₓ V.1 0) 25 0 (nI 0))
    have hlt := bst_lt (okG Sₓ V.1 (orb (fun cₓ => !nfLₓ (bt (Sₓ 4 pₓ)) (fun qₓ => V.2.2 qₓ 0) cₓ V.1 0) 25 0 (nI 0))) (ltF (V.2.2 pₓ 0)) 25
    generalize bstₓ (okG Sₓ V.1 (orb (fun cₓ => !nfLₓ (bt (Sₓ 4 pₓ)) (fun qₓ => V.2.2 qₓ 0) cₓ V.1 0) 25 0 (nI 0))) (ltF (V.2.2 pₓ 0)) 25 0 99 = Rₓ at hm' hg hlt
    obtain ⟨T', q1ₓ, q2ₓ, q3ₓ, q4ₓ⟩ := go_both hW hp hlt
    refine ⟨goR Sₓ pₓ Rₓ, T', ?_, ?_, q2ₓ, q3ₓ, q4ₓ⟩
    · rw [hg, bnd_e, bnd_e]
    · rw [hm', bnd_e, q1ₓ, bnd_e, a70_no _ _ (by omega) (by omega)]
  · rw [if_neg cₓ, if_pos (show nI 0 = nI 0 from rfl), if_pos (show nI 0 = nI 0 from rfl), bnd_e, a70_no _ _ (by omega) (by omega)]
    exact ⟨Sₓ, T, rfl, rfl, hW, frm.rf _ _, frm.rf _ _⟩
theorem buy_both {nₓ dₓ tₓ pr re bl pₓ : Nat} {Sₓ T : Mem} {V : Vw} (hV : V.1 = nₓ) (hW : RWn nₓ dₓ tₓ pr re bl (sl Sₓ 1) T) (hBₓ : VB V) (hX : XVw Sₓ V) (ht : tₓ < 12) (hSₓ : Shd T V tₓ (V.2.1 tₓ 3)) (hp : pₓ < nₓ) : ActP nₓ dₓ tₓ pr re bl Sₓ T (bnd (fX1_buyShade Sₓ (nI pₓ) (nI (shM V tₓ (V.2.1 tₓ 3)))) fun _ S_4 => some ((0 : Int32), S_4)) (bnd (fX8_buys T (nI pₓ)) fun _ S_6 => some ((0 : Int32), S_6)) := by
  subst hV
  have hn := hBₓ.1
  have hdₓ : dₓ ≤ 999 := hW.1.2.1
  have e1ₓ := hX.1
  have w11ₓ : RMov (Sₓ 3) (T 1) (81 * (12 * dₓ + tₓ)) := hW.2.2.2.2.2.2.2.2.2.2.2.1
  have pr1 : Sₓ 1 11 = nI pr := hW.2.2.2.2.1.1
  have pr2 : T 4 0 = nI pr := hW.2.2.2.2.1.2
  have hbM : ∀ qₓ, qₓ < 10 → T 1 (25 + qₓ) = nI ((fun qₓ => (T 1 (25 + qₓ)).toNatClampNeg) qₓ) ∧ (fun qₓ => (T 1 (25 + qₓ)).toNatClampNeg) qₓ < 2 ^ 30 := fun qₓ hq => by
    obtain ⟨-, -, -, -, -, -, l7⟩ := w11ₓ qₓ hq
    obtain ⟨z1, z2⟩ := le_cl l7 (by omega)
    exact ⟨z1, by show (T 1 (25 + qₓ)).toNatClampNeg < 2 ^ 30; omega⟩
  have hbX : ∀ qₓ, qₓ < 10 → Sₓ 3 (10 * qₓ + 7) = nI ((fun qₓ => (T 1 (25 + qₓ)).toNatClampNeg) qₓ) ∧ (fun qₓ => (T 1 (25 + qₓ)).toNatClampNeg) qₓ < 2 ^ 30 := fun qₓ hq => by
    obtain ⟨-, -, a7, -⟩ := w11ₓ qₓ hq
    exact ⟨a7.trans (hbM qₓ hq).1, (hbM qₓ hq).2⟩
  generalize (fun qₓ => (T 1 (25 + qₓ)).toNatClampNeg) = bn at hbM hbX
  have sx := sell_X hBₓ hX (hₓ := tₓ) (rₓ := V.2.1 tₓ 3) hbX hp V.1 0 FU 99 (by omega) (by unfold FU; omega) (Or.inl rfl)
  have smₓ := buy_M hBₓ ht hSₓ hbM hp V.1 0 FU 99 (by omega) (by unfold FU; omega) (Or.inl rfl)
  have hw4 : Sₓ 3 (10 * pₓ + 4) = T 1 (15 + pₓ) := (w11ₓ pₓ (by omega)).2.1
  have e7ₓ := has_X Sₓ hn e1ₓ hp (show 7 < 10 by omega)
  rw [(hbX pₓ (by omega)).1] at e7ₓ
  have e4ₓ := has_X Sₓ hn e1ₓ hp (show 4 < 10 by omega)
  have fs : fX1_findSeller Sₓ (nI pₓ) (nI (shM V tₓ (V.2.1 tₓ 3))) = some (eI (bstₓ (selOk V bn tₓ (V.2.1 tₓ 3) pₓ) (fun xₓ yₓ => decide (bn xₓ < bn yₓ)) V.1 0 99), Sₓ) := by
    unfold fX1_findSeller
    rw [show (7 : Int32) = nI 7 from rfl, e7ₓ, bnd_e]
    exact sx
  have hin := bst_in (selOk V bn tₓ (V.2.1 tₓ 3) pₓ) (fun xₓ yₓ => decide (bn xₓ < bn yₓ)) V.1 0 99
  have mB : fX8_buys T (nI pₓ) = if nI pr ≤ T 1 (15 + pₓ) then fX8_buys_23 FU T (nI pₓ) (-1) (nI 0) else some (nI 0, T) := by
    unfold fX8_buys
    rw [show (15 : Int32) = nI 15 from rfl, nI_add, gd_in _ (show 15 + pₓ < 55 by omega) (by omega), nI_clamp (show 15 + pₓ < 2 ^ 31 by omega), show T 4 ((0 : Int32)).toNatClampNeg = nI pr from pr2]
    rfl
  have sm' : fX8_buys_23 FU T (nI pₓ) (-1) (nI 0) = some (nI 0, if bstₓ (selOk V bn tₓ (V.2.1 tₓ 3) pₓ) (fun xₓ yₓ => decide (bn xₓ < bn yₓ)) V.1 0 99 = 99 then T else swM2 T pₓ (bstₓ (selOk V bn tₓ (V.2.1 tₓ 3) pₓ) (fun xₓ yₓ => decide (bn xₓ < bn yₓ)) V.1 0 99)) := smₓ
  rw [mB, sm']
  generalize bstₓ (selOk V bn tₓ (V.2.1 tₓ 3) pₓ) (fun xₓ yₓ => decide (bn xₓ < bn yₓ)) V.1 0 99 = Rₓ at fs hin
  by_cases r9 : Rₓ = 99
  · refine ⟨Sₓ, T, ?_, ?_, hW, frm.rf _ _, frm.rf _ _⟩
    · unfold fX1_buyShade
      rw [fs, r9, bnd_e, if_pos (show eI 99 = -1 from rfl), bnd_e]
      rfl
    · rw [if_pos r9, ite_self, bnd_e]
      rfl
  · obtain ⟨-, h2, h3⟩ := hin.resolve_left r9
    have hRn : Rₓ < V.1 := by omega
    have hRp : Rₓ ≠ pₓ := fun eₓ => by
      subst eₓ
      unfold selOk at h3
      rw [decide_eq_false (Nat.lt_irrefl _), Bool.and_false] at h3
      cases h3
    rw [eI_ne r9] at fs
    by_cases wa : nI pr ≤ T 1 (15 + pₓ)
    · have bx := buy_X hn e1ₓ hp hRn hRp fs (by rw [pr1, hw4]; exact wa)
      refine ⟨swX2 Sₓ pₓ Rₓ, swM2 T pₓ Rₓ, ?_, ?_, sw_RW hW (by omega) (by omega), ?_, ?_⟩
      · rw [bx, bnd_e]; rfl
      · rw [if_pos wa, if_neg r9, bnd_e]; rfl
      · unfold swX2
        intro cₓ hcₓ
        have : cₓ ≠ 3 := fun qₓ => hcₓ (by rw [qₓ]; exact List.mem_cons_self)
        rw [mset_ne _ _ _ this, mset_ne _ _ _ this, mset_ne _ _ _ this, mset_ne _ _ _ this, mset_ne _ _ _ this, mset_ne _ _ _ this]
      · unfold swM2
        intro cₓ hcₓ
        have : cₓ ≠ 1 := fun qₓ => hcₓ (by rw [qₓ]; exact List.mem_cons_self)
        rw [mset_ne _ _ _ this, mset_ne _ _ _ this, mset_ne _ _ _ this, mset_ne _ _ _ this, mset_ne _ _ _ this, mset_ne _ _ _ this]
    · refine ⟨Sₓ, T, ?_, ?_, hW, frm.rf _ _, frm.rf _ _⟩
      · unfold fX1_buyShade
        rw [fs, bnd_e, if_neg (m1_ne (by omega)), show (4 : Int32) = nI 4 from rfl, e4ₓ, bnd_e, if_neg (by rw [pr1, hw4]; exact wa), bnd_e]
        rfl
      · rw [if_neg wa, bnd_e]
        rfl
theorem ActP.to {nₓ dₓ tₓ pr re bl : Nat} {S0ₓ T0ₓ Sₓ T : Mem} {oX oM : O} (hₓ : ActP nₓ dₓ tₓ pr re bl Sₓ T oX oM) (fSₓ : frm (3 :: scX) S0ₓ Sₓ) (fTₓ : frm (1 :: scM) T0ₓ T) : ActP nₓ dₓ tₓ pr re bl S0ₓ T0ₓ oX oM := by
  obtain ⟨S', T', aₓ, bₓ, cₓ, eₓ, fₓ⟩ := hₓ
  exact ⟨S', T', aₓ, bₓ, cₓ, fSₓ.tr eₓ, fTₓ.tr fₓ⟩
theorem act_both {nₓ dₓ tₓ pr re bl pₓ : Nat} {Sₓ T : Mem} (hW : RWn nₓ dₓ tₓ pr re bl (sl Sₓ 1) T) (ht : tₓ < 12) (hp : pₓ < nₓ) (xₓ : Int32) : ActP nₓ dₓ tₓ pr re bl Sₓ T (fX1_takeTurn Sₓ (nI pₓ) (nI tₓ) xₓ) (fX8_acts T (nI pₓ) (nI tₓ) xₓ) := by
  have hn : nₓ ≤ 10 := hW.1.1
  have e1ₓ : Sₓ 1 9 = nI nₓ := hW.2.1.1
  obtain ⟨hBₓ, hX, hMₓ⟩ := hW.vw
  obtain ⟨V, hVe⟩ : ∃ V : Vw, V = vw nₓ T := ⟨_, rfl⟩
  rw [← hVe] at hBₓ hX hMₓ
  have hV1 : V.1 = nₓ := by rw [hVe]; rfl
  have hpV : pₓ < V.1 := by omega
  have r8 : V.2.1 tₓ 3 < 8 := by have := hBₓ.2.1 tₓ ht; omega
  obtain ⟨Gₓ, g1, g2⟩ := findsNow_M hBₓ hMₓ ht
  have e3ₓ := inH_V hX ht (show 3 < 5 by omega)
  have es := shadeA_X hBₓ hX ht r8
  have i1ₓ := isShd_X hBₓ hX (gₓ := tₓ) (rₓ := V.2.1 tₓ 3) hpV
  obtain ⟨bₓ, hb2, hbₓ⟩ : ∃ bₓ : Nat, bₓ < 2 ∧ (if isSh V tₓ (V.2.1 tₓ 3) pₓ = true then nI 1 else nI 0) = nI bₓ := by
    by_cases cₓ : isSh V tₓ (V.2.1 tₓ 3) pₓ = true
    · exact ⟨1, by omega, if_pos cₓ⟩
    · exact ⟨0, by omega, if_neg cₓ⟩
  obtain ⟨Fₓ, f0ₓ, f1ₓ, f2ₓ, f3ₓ, f4ₓ, f5ₓ, f6ₓ, f7ₓ, f8ₓ, f9ₓ, f10⟩ := fill_X Sₓ (hₓ := tₓ) hn e1ₓ hp hb2 xₓ
  obtain ⟨G2ₓ, y0, y1, y2, y3, y4, y5, y6, y7, y8, y9, y10⟩ := rule_M hBₓ g2 ht hpV xₓ
  have fr1 : frm scX Sₓ (mput Sₓ 31 Fₓ) := frm.put _ _ (by decide)
  have fr2 : frm scM T (mput (mput T 21 Gₓ) 19 G2ₓ) := (frm.put T Gₓ (by decide)).mput _ (by decide)
  have hW2 := hW.sc fr1 fr2
  have c0ₓ := of_col hW (show pₓ < 10 by omega) (show 0 < 10 by omega)
  have c1ₓ := of_col hW (show pₓ < 10 by omega) (show 1 < 10 by omega)
  have c3ₓ := of_col hW (show pₓ < 10 by omega) (show 3 < 10 by omega)
  have c4ₓ := of_col hW (show pₓ < 10 by omega) (show 4 < 10 by omega)
  have c5ₓ := of_col hW (show pₓ < 10 by omega) (show 5 < 10 by omega)
  have c7ₓ := of_col hW (show pₓ < 10 by omega) (show 7 < 10 by omega)
  have u1ₓ : mput T 21 Gₓ 1 = T 1 := mput_ne _ _ (by omega)
  have u5 : mput T 21 Gₓ 5 = T 5 := mput_ne _ _ (by omega)
  have u7 : mput T 21 Gₓ 7 = T 7 := mput_ne _ _ (by omega)
  have u0 : mput T 21 Gₓ 0 = T 0 := mput_ne _ _ (by omega)
  rw [u1ₓ] at y1 y4 y8
  rw [u5] at y5
  rw [u7] at y6
  rw [u0] at y9
  have hv : ∀ jₓ, jₓ < 10 → (mput Sₓ 31 Fₓ) 31 jₓ = (mput (mput T 21 Gₓ) 19 G2ₓ) 19 jₓ := by
    intro jₓ hj
    rw [mput_same, mput_same]
    obtain rfl | rfl | rfl | rfl | rfl | rfl | rfl | rfl | rfl | rfl : jₓ = 0 ∨ jₓ = 1 ∨ jₓ = 2 ∨ jₓ = 3 ∨ jₓ = 4 ∨ jₓ = 5 ∨ jₓ = 6 ∨ jₓ = 7 ∨ jₓ = 8 ∨ jₓ = 9 := by omega
    · rw [f1ₓ, y1]; exact c7ₓ
    · rw [f2ₓ, y2]
    · rw [f3ₓ, y3, hbₓ]
    · rw [f4ₓ, y4]; exact c4ₓ
    · rw [f5ₓ, y5]; exact c1ₓ
    · rw [f6ₓ, y6]; exact c3ₓ
    · rw [f7ₓ, y7]
    · rw [f8ₓ, y8]; exact c0ₓ
    · rw [f9ₓ, y9]; exact c5ₓ
    · rw [f10, y10]
  obtain ⟨aₓ, S2, T3, a3, r1ₓ, r2, r3, r4⟩ := rule_both (hW2.2.2.2.2.2.2.2.2.2.2.2.2.2.2.2.2) hv
  have hW3 := hW2.sc (fr12 r3) (fr20 r4)
  have fSₓ : frm scX Sₓ S2 := fr1.tr (fr12 r3)
  have fTₓ : frm scM T T3 := fr2.tr (fr20 r4)
  have hX3 := hX.fr fSₓ
  have hS3 : Shd T3 V tₓ (V.2.1 tₓ 3) := (g2.m 19 (Or.inl rfl) G2ₓ).fr r4
  have i2ₓ := isShd_M hBₓ hS3 ht hpV
  rw [hbₓ] at i1ₓ i2ₓ
  have baseₓ : ∀ oX oM, ActP nₓ dₓ tₓ pr re bl S2 T3 oX oM → ActP nₓ dₓ tₓ pr re bl Sₓ T oX oM := fun oX oM hₓ => hₓ.to (fSₓ.c 3) (fTₓ.c 1)
  have stayₓ : ActP nₓ dₓ tₓ pr re bl S2 T3 (some (nI 0, S2)) (some (nI 0, T3)) := ⟨S2, T3, rfl, rfl, hW3, frm.rf _ _, frm.rf _ _⟩
  unfold fX1_takeTurn fX8_acts
  rw [show (3 : Int32) = nI 3 from rfl, e3ₓ, bnd_e, show (-1 : Int32) = -nI 1 from rfl, es, bnd_e, i1ₓ, bnd_e, f0ₓ, bnd_e, r1ₓ, bnd_e, g1, bnd_e, y0, r2, bnd_e, show (1 : Int32) = nI 1 from rfl, show (0 : Int32) = nI 0 from rfl]
  refine baseₓ _ _ ?_
  obtain rfl | rfl | rfl | rfl : aₓ = 0 ∨ aₓ = 1 ∨ aₓ = 2 ∨ aₓ = 3 := by omega
  · rw [if_neg (show ¬ nI 0 = nI 3 by decide), if_neg (show ¬ nI 0 = nI 1 by decide), if_neg (show ¬ nI 0 = nI 1 by decide), a38_no _ _ (by omega) (by omega) (by omega)]
    unfold fX1_takeTurn_105
    rw [if_neg (show ¬ nI 0 = 2 by decide)]
    exact stayₓ
  · rw [if_neg (show ¬ nI 1 = nI 3 by decide), if_pos (show nI 1 = nI 1 from rfl), if_pos (show nI 1 = nI 1 from rfl), i2ₓ, bnd_e]
    by_cases b0 : bₓ = 0
    · subst b0
      rw [if_pos (show nI 0 = nI 0 from rfl), if_pos (show nI 0 = nI 0 from rfl)]
      exact seek_both hV1 hW3 hBₓ hX3 ht hS3 hp
    · have b1 : bₓ = 1 := by omega
      subst b1
      rw [if_neg (show ¬ nI 1 = nI 0 by decide), if_neg (show ¬ nI 1 = nI 0 by decide), a38_no _ _ (by omega) (by omega) (by omega)]
      unfold fX1_takeTurn_105
      rw [if_neg (show ¬ nI 1 = 2 by decide)]
      exact stayₓ
  · rw [if_neg (show ¬ nI 2 = nI 3 by decide), if_neg (show ¬ nI 2 = nI 1 by decide), if_neg (show ¬ nI 2 = nI 1 by decide)]
    unfold fX1_takeTurn_105 fX8_acts_38 fX8_acts_70
    rw [if_pos (show nI 2 = 2 from rfl), if_neg (show ¬ nI 2 = 3 by decide), if_pos (show nI 2 = 2 from rfl), i2ₓ, bnd_e]
    by_cases b0 : bₓ = 0
    · subst b0
      rw [if_pos (show nI 0 = 0 from rfl), if_pos (show nI 0 = 0 from rfl)]
      exact buy_both hV1 hW3 hBₓ hX3 ht hS3 hp
    · have b1 : bₓ = 1 := by omega
      subst b1
      rw [if_neg (show ¬ nI 1 = 0 by decide), if_neg (show ¬ nI 1 = 0 by decide)]
      exact stayₓ
  · rw [if_pos (show nI 3 = nI 3 from rfl), if_neg (show ¬ nI 3 = nI 1 by decide)]
    exact flee_both hV1 hW3 hBₓ hX3 hS3.1 hp
