/-! hours -/
def hLX : List Nat := 1 :: 3 :: 6 :: 7 :: scX
def hLM : List Nat := 1 :: 9 :: scM
theorem acts_loop {nₓ dₓ tₓ pr re bl he : Nat} (ht : tₓ < 12) : ∀ (kₓ iₓ fₓ : Nat) (Sₓ T : Mem), iₓ + kₓ = nₓ → kₓ < fₓ → RWn nₓ dₓ tₓ pr re bl (sl Sₓ 1) T → ∃ S' T', RWn nₓ dₓ tₓ pr re bl (sl S' 1) T' ∧ frm (3 :: scX) Sₓ S' ∧ frm (1 :: scM) T T' ∧ fX1_passHour_16 fₓ Sₓ (nI tₓ) (nI he) (nI iₓ) = (bnd (fX1_burnAll S' (nI tₓ) (nI he)) fun r_2 S_3 => bnd (fX1_countFights S_3) fun r_4 S_5 => ltm (mset S_5 1 10 ((S_3 1 10) + r_4)) fun S_6 => ltm (mset S_6 1 8 ((S_6 1 8) + (1 : Int32))) fun S_7 => some (r_2, S_7)) ∧ fX8_goesBy_54 fₓ T (nI tₓ) (nI he) (nI iₓ) = (bnd (fX8_findsShadeNow T' (nI tₓ)) fun _ S_3 => fX8_goesBy_85 FU S_3 (nI tₓ) (nI he) (nI 0) (nI 0)) := by
  intro kₓ
  induction kₓ with
  | zero =>
    intro iₓ fₓ Sₓ T hiₓ hf hW
    obtain ⟨fₓ, rfl⟩ : ∃ gₓ, fₓ = gₓ + 1 := ⟨fₓ - 1, by omega⟩
    have hn : nₓ ≤ 10 := hW.1.1
    have e1ₓ : Sₓ 1 9 = nI nₓ := hW.2.1.1
    have e2ₓ : T 0 6 = nI nₓ := hW.2.1.2
    refine ⟨Sₓ, T, hW, frm.rf _ _, frm.rf _ _, ?_, ?_⟩
    · show fX1_passHour_16_b (fX1_passHour_16 fₓ) Sₓ (nI tₓ) (nI he) (nI iₓ) = _
      unfold fX1_passHour_16_b
      rw [e1ₓ, if_pos (nI_le (by omega) (by omega))]
    · show fX8_goesBy_54_b (fX8_goesBy_54 fₓ) T (nI tₓ) (nI he) (nI iₓ) = _
      unfold fX8_goesBy_54_b
      rw [e2ₓ, if_pos (nI_le (by omega) (by omega))]
      rfl
  | succ kₓ ihₓ =>
    intro iₓ fₓ Sₓ T hiₓ hf hW
    obtain ⟨fₓ, rfl⟩ : ∃ gₓ, fₓ = gₓ + 1 := ⟨fₓ - 1, by omega⟩
    have hn : nₓ ≤ 10 := hW.1.1
    have e1ₓ : Sₓ 1 9 = nI nₓ := hW.2.1.1
    have e2ₓ : T 0 6 = nI nₓ := hW.2.1.2
    obtain ⟨S1, T1, a1ₓ, a2, a3, a4, a5⟩ := act_both hW ht (show iₓ < nₓ by omega) (nI he)
    obtain ⟨S', T', b1, b2, b3, b4, b5⟩ := ihₓ (iₓ + 1) fₓ S1 T1 (by omega) (by omega) a3
    refine ⟨S', T', b1, a4.tr b2, a5.tr b3, ?_, ?_⟩
    · rw [← b4]
      show fX1_passHour_16_b (fX1_passHour_16 fₓ) Sₓ (nI tₓ) (nI he) (nI iₓ) = _
      unfold fX1_passHour_16_b
      rw [e1ₓ, if_neg (show ¬ nI nₓ ≤ nI iₓ by rw [nI_leI (by omega) (by omega)]; omega), a1ₓ, bnd_e, show nI iₓ + 1 = nI (iₓ + 1) from nI_add iₓ 1]
    · rw [← b5]
      show fX8_goesBy_54_b (fX8_goesBy_54 fₓ) T (nI tₓ) (nI he) (nI iₓ) = _
      unfold fX8_goesBy_54_b
      rw [e2ₓ, if_neg (show ¬ nI nₓ ≤ nI iₓ by rw [nI_leI (by omega) (by omega)]; omega), a2, bnd_e, show nI iₓ + 1 = nI (iₓ + 1) from nI_add iₓ 1]
theorem pass_both {nₓ dₓ tₓ pr re bl : Nat} {Sₓ T : Mem} (hW : RWn nₓ dₓ tₓ pr re bl (sl Sₓ 1) T) (ht : tₓ < 12) : ∃ rₓ bl' S' T', fX1_passHour Sₓ = some (rₓ, S') ∧ fX8_goesBy T = some (rₓ, T') ∧ RWn nₓ dₓ (tₓ + 1) pr re bl' (sl S' 1) T' ∧ frm hLX Sₓ S' ∧ frm hLM T T' := by
  have hn : nₓ ≤ 10 := hW.1.1
  have hdₓ : dₓ ≤ 999 := hW.1.2.1
  have t1ₓ : Sₓ 1 8 = nI tₓ := hW.2.2.2.1.1
  obtain ⟨he, S1, T1, h9, hx, hmₓ, hW1, f1ₓ, f2ₓ, t1'⟩ := heat_both hW ht
  obtain ⟨S2, T2, hW2, g1, g2, hx2, hm2⟩ := acts_loop (he := he) ht nₓ 0 FU S1 T1 (by omega) (by unfold FU; omega) hW1
  obtain ⟨hBₓ, hX, hMₓ⟩ := hW2.vw
  obtain ⟨V, hVe⟩ : ∃ V : Vw, V = vw nₓ T2 := ⟨_, rfl⟩
  rw [← hVe] at hBₓ hX hMₓ
  have hV1 : V.1 = nₓ := by rw [hVe]; rfl
  have r8 : V.2.1 tₓ 3 < 8 := by have := hBₓ.2.1 tₓ ht; omega
  obtain ⟨Gₓ, q1ₓ, q2ₓ⟩ := findsNow_M hBₓ hMₓ ht
  have e3ₓ := inH_V hX ht (show 3 < 5 by omega)
  have es := shadeA_X hBₓ hX ht r8
  obtain ⟨w0ₓ, w1ₓ, w2ₓ, w3ₓ, w4ₓ, w5, w6ₓ, w7ₓ, w8, w9, w10ₓ, w11ₓ, w12, w13ₓ, w14ₓ, w15, w16⟩ := id hW2
  have w11' : RMov (S2 3) (T2 1) (81 * (12 * dₓ + tₓ)) := w11ₓ
  have hBI : BIₓ nₓ dₓ tₓ 0 bl S2 (mput T2 21 Gₓ) S2 (mput T2 21 Gₓ) := by
    refine ⟨frm.rf _ _, frm.rf _ _, fun _ _ _ _ _ => rfl, fun _ _ _ => rfl, fun pₓ hp => ?_, w0ₓ.2.2.2.2.2, w6ₓ.1, ?_, fun jₓ hj => ?_⟩
    · obtain ⟨-, -, a7, -, -, -, l7⟩ := w11' pₓ hp
      rw [mput_ne _ _ (show 1 ≠ 21 by omega), if_neg (by omega), Nat.add_zero]
      exact ⟨a7, l7⟩
    · rw [mput_ne _ _ (show 1 ≠ 21 by omega)]; exact w6ₓ.2
    · rw [mput_ne _ _ (show 9 ≠ 21 by omega)]; exact w15 jₓ hj
  have hdd : S2 1 7 = (mput T2 21 Gₓ) 1 0 := by
    rw [mput_ne _ _ (show 1 ≠ 21 by omega)]
    exact (show S2 1 7 = nI dₓ from w2ₓ.1).trans w2ₓ.2.symm
  obtain ⟨bl', S3, T3, rₓ, b0, bx, bmₓ⟩ := burn_both hV1 hdₓ hBₓ hX q2ₓ ht h9 hdd nₓ 0 FU bl S2 (mput T2 21 Gₓ) (nI 0) (by omega) (by unfold FU; omega) hBI
  have hX3 := b0.vX hX
  have hM3 := b0.vM q2ₓ.1
  have hfx := fgt_X hBₓ hX3 V.1 0 FU 0 (by omega) (by unfold FU; omega)
  have hfm := fgt_M hBₓ (tₓ := tₓ) rₓ V.1 0 FU T3 hM3 (by omega) (by unfold FU; omega)
  obtain ⟨b1, b2, b3, b4, b5, b6, b7, b8, b9⟩ := b0
  have s34 : ∀ aₓ, aₓ < 10 → S3 4 aₓ = T3 8 aₓ := fun aₓ haₓ => by
    rw [b1 4 (by decide), b2 8 (by decide), mput_ne _ _ (show 8 ≠ 21 by omega)]
    exact w13ₓ.1 aₓ haₓ
  have sym : ∀ aₓ bₓ, aₓ < V.1 → bₓ < V.1 → fgt (T3 8) (fun qₓ => V.2.2 qₓ 0) aₓ bₓ = fgt (T3 8) (fun qₓ => V.2.2 qₓ 0) bₓ aₓ := by
    intro aₓ bₓ haₓ hbₓ
    unfold fgt
    have e8 : T3 8 = T2 8 := by rw [b2 8 (by decide), mput_ne _ _ (show 8 ≠ 21 by omega)]
    have zₓ := w13ₓ.2 aₓ bₓ (by omega) (by omega)
    rw [bitI_eq _ (by omega), bitI_eq _ (by omega)] at zₓ
    have z' : bt (T2 8 aₓ) bₓ = bt (T2 8 bₓ) aₓ := by
      cases h3 : bt (T2 8 aₓ) bₓ <;> cases h4 : bt (T2 8 bₓ) aₓ <;> simp [h3, h4] at zₓ ⊢
    rw [e8, z', farN_c (V.2.2 aₓ 0) (V.2.2 bₓ 0)]
  obtain ⟨Cₓ, hC⟩ : ∃ Cₓ, Cₓ = sg (fun xₓ => sg (fun bₓ => fgt (T3 8) (fun qₓ => V.2.2 qₓ 0) (0 + xₓ) bₓ) (0 + xₓ)) V.1 := ⟨_, rfl⟩
  have hCX : 0 + sg (fun xₓ => sg (fun jₓ => fgt (S3 4) (fun qₓ => V.2.2 qₓ 0) (0 + xₓ) (0 + xₓ + 1 + jₓ)) (V.1 - (0 + xₓ + 1))) V.1 = Cₓ := by
    have e1ₓ : sg (fun xₓ => sg (fun jₓ => fgt (S3 4) (fun qₓ => V.2.2 qₓ 0) (0 + xₓ) (0 + xₓ + 1 + jₓ)) (V.1 - (0 + xₓ + 1))) V.1 = sg (fun aₓ => sg (fun jₓ => fgt (T3 8) (fun qₓ => V.2.2 qₓ 0) aₓ (aₓ + 1 + jₓ)) (V.1 - (aₓ + 1))) V.1 := sg_cg _ (fun xₓ hx => by
      show sg (fun jₓ => fgt (S3 4) (fun qₓ => V.2.2 qₓ 0) (0 + xₓ) (0 + xₓ + 1 + jₓ)) (V.1 - (0 + xₓ + 1)) = sg (fun jₓ => fgt (T3 8) (fun qₓ => V.2.2 qₓ 0) xₓ (xₓ + 1 + jₓ)) (V.1 - (xₓ + 1))
      rw [Nat.zero_add]
      refine sg_cg _ (fun jₓ _ => ?_)
      show fgt (S3 4) (fun qₓ => V.2.2 qₓ 0) xₓ (xₓ + 1 + jₓ) = fgt (T3 8) (fun qₓ => V.2.2 qₓ 0) xₓ (xₓ + 1 + jₓ)
      unfold fgt
      rw [s34 xₓ (by omega)])
    rw [Nat.zero_add, e1ₓ, tri_eq _ V.1 sym, hC]
    exact sg_cg _ (fun xₓ _ => by
      show sg (fun bₓ => fgt (T3 8) (fun qₓ => V.2.2 qₓ 0) xₓ bₓ) xₓ = sg (fun bₓ => fgt (T3 8) (fun qₓ => V.2.2 qₓ 0) (0 + xₓ) bₓ) (0 + xₓ)
      rw [Nat.zero_add])
  rw [hCX] at hfx
  rw [← hC] at hfm
  have hfx' : fX1_countFights S3 = some (nI Cₓ, S3) := hfx
  have s38 : S3 1 8 = nI tₓ := by rw [b1 1 (by decide)]; exact w3ₓ.1
  have tcₓ : ∀ cₓ, cₓ ∉ [1, 9, 21] → (mset (mset T3 1 3 (T3 1 3 + nI Cₓ)) 1 1 (nI (tₓ + 1))) cₓ = T2 cₓ := fun cₓ hcₓ => by
    have c1ₓ : cₓ ≠ 1 := fun qₓ => hcₓ (by rw [qₓ]; decide)
    have c21 : cₓ ≠ 21 := fun qₓ => hcₓ (by rw [qₓ]; decide)
    rw [mset_ne _ _ _ c1ₓ, mset_ne _ _ _ c1ₓ, b2 cₓ (fun qₓ => hcₓ (by simp only [List.mem_cons, List.not_mem_nil, or_false] at qₓ ⊢; omega)), mput_ne _ _ c21]
  have t1c : ∀ jₓ, jₓ ≠ 4 → jₓ ≠ 3 → jₓ ≠ 1 → (jₓ < 25 ∨ 35 ≤ jₓ) → (mset (mset T3 1 3 (T3 1 3 + nI Cₓ)) 1 1 (nI (tₓ + 1))) 1 jₓ = T2 1 jₓ := fun jₓ h4 h3 h1 h5 => by
    rw [ms_at, if_neg (by omega), ms_at, if_neg (by omega), b4 jₓ h4 h5, mput_ne _ _ (show 1 ≠ 21 by omega)]
  have scₓ : ∀ cₓ, cₓ ∉ [1, 3, 6, 7] → (mset (mset S3 1 10 (S3 1 10 + nI Cₓ)) 1 8 (nI (tₓ + 1))) cₓ = S2 cₓ := fun cₓ hcₓ => by
    have c1ₓ : cₓ ≠ 1 := fun qₓ => hcₓ (by rw [qₓ]; decide)
    rw [mset_ne _ _ _ c1ₓ, mset_ne _ _ _ c1ₓ, b1 cₓ (fun qₓ => hcₓ (by simp only [List.mem_cons, List.not_mem_nil, or_false] at qₓ ⊢; omega))]
  have s1c : ∀ jₓ, jₓ ≠ 10 → jₓ ≠ 8 → (mset (mset S3 1 10 (S3 1 10 + nI Cₓ)) 1 8 (nI (tₓ + 1))) 1 jₓ = S2 1 jₓ := fun jₓ h10 h8 => by
    rw [ms_at, if_neg (by omega), ms_at, if_neg (by omega), b1 1 (by decide)]
  have s3c : (mset (mset S3 1 10 (S3 1 10 + nI Cₓ)) 1 8 (nI (tₓ + 1))) 3 = S3 3 := by rw [mset_ne _ _ _ (by omega), mset_ne _ _ _ (by omega)]
  refine ⟨rₓ, bl', mset (mset S3 1 10 (S3 1 10 + nI Cₓ)) 1 8 (nI (tₓ + 1)), mset (mset T3 1 3 (T3 1 3 + nI Cₓ)) 1 1 (nI (tₓ + 1)), ?_, ?_, ?_, ?_, ?_⟩
  · unfold fX1_passHour
    rw [lti_e, t1ₓ, hx, bnd_e, show (0 : Int32) = nI 0 from rfl, hx2]
    unfold fX1_burnAll
    rw [show (3 : Int32) = nI 3 from rfl, e3ₓ, bnd_e, show (-1 : Int32) = -nI 1 from rfl, es, bnd_e, show (0 : Int32) = nI 0 from rfl, bx, bnd_e, hfx', bnd_e, ltm_e, ltm_e]
    have e8 : (mset S3 1 10 (S3 1 10 + nI Cₓ)) 1 8 + 1 = nI (tₓ + 1) := by
      rw [ms_at, if_neg (by omega), s38]; exact nI_add tₓ 1
    rw [e8]
  · rw [hmₓ]
    unfold fX8_goesBy_52
    rw [show (0 : Int32) = nI 0 from rfl, hm2, q1ₓ, bnd_e, bmₓ]
    exact hfm
  · refine ⟨⟨w0ₓ.1, w0ₓ.2.1, by omega, w0ₓ.2.2.2.1, w0ₓ.2.2.2.2.1, b6⟩, ⟨?_, ?_⟩, ⟨?_, ?_⟩, ⟨?_, ?_⟩, ⟨?_, ?_⟩, ⟨?_, ?_⟩, ⟨?_, ?_⟩, ?_, ?_, ?_, ?_, ?_, ?_, ?_, ?_, ?_, ?_⟩
    · exact (s1c 9 (by omega) (by omega)).trans w1ₓ.1
    · rw [tcₓ 0 (by decide)]; exact w1ₓ.2
    · exact (s1c 7 (by omega) (by omega)).trans w2ₓ.1
    · exact (t1c 0 (by omega) (by omega) (by omega) (by omega)).trans w2ₓ.2
    · show (mset (mset S3 1 10 (S3 1 10 + nI Cₓ)) 1 8 (nI (tₓ + 1))) 1 8 = _
      rw [ms_at, if_pos ⟨rfl, rfl⟩]
    · rw [ms_at, if_pos ⟨rfl, rfl⟩]
    · exact (s1c 11 (by omega) (by omega)).trans w4ₓ.1
    · rw [tcₓ 4 (by decide)]; exact w4ₓ.2
    · exact (s1c 12 (by omega) (by omega)).trans w5.1
    · rw [tcₓ 4 (by decide)]; exact w5.2
    · show (mset (mset S3 1 10 (S3 1 10 + nI Cₓ)) 1 8 (nI (tₓ + 1))) 6 1 = _
      rw [mset_ne _ _ _ (by omega), mset_ne _ _ _ (by omega)]; exact b7
    · rw [ms_at, if_neg (by omega), ms_at, if_neg (by omega)]; exact b8
    · exact (s1c 6 (by omega) (by omega)).trans (w7ₓ.trans (t1c 2 (by omega) (by omega) (by omega) (by omega)).symm)
    · show (mset (mset S3 1 10 (S3 1 10 + nI Cₓ)) 1 8 (nI (tₓ + 1))) 1 10 = _
      rw [ms_at, if_neg (by omega), ms_at, if_pos ⟨rfl, rfl⟩, ms_at, if_neg (by omega), ms_at, if_pos ⟨rfl, rfl⟩, b1 1 (by decide), b4 3 (by omega) (by omega), mput_ne _ _ (show 1 ≠ 21 by omega)]
      have : S2 1 10 = T2 1 3 := w8
      rw [this]
    · have x2ₓ := scₓ 2 (by decide)
      have y3 := tcₓ 3 (by decide)
      show RHou (sl _ 1) _
      unfold RHou
      rw [y3, show sl (mset (mset S3 1 10 (S3 1 10 + nI Cₓ)) 1 8 (nI (tₓ + 1))) 1 1 = S2 2 from x2ₓ]
      exact w9
    · refine w10ₓ.cg (fun pₓ hp => ?_) (tcₓ 5 (by decide)) (tcₓ 6 (by decide)) (tcₓ 7 (by decide)) (by rw [tcₓ 0 (by decide)]) (by rw [tcₓ 0 (by decide)])
      show (mset (mset S3 1 10 (S3 1 10 + nI Cₓ)) 1 8 (nI (tₓ + 1))) 3 (10 * pₓ + 1) = S2 3 (10 * pₓ + 1) ∧ (mset (mset S3 1 10 (S3 1 10 + nI Cₓ)) 1 8 (nI (tₓ + 1))) 3 (10 * pₓ + 2) = S2 3 (10 * pₓ + 2) ∧ (mset (mset S3 1 10 (S3 1 10 + nI Cₓ)) 1 8 (nI (tₓ + 1))) 3 (10 * pₓ + 3) = S2 3 (10 * pₓ + 3) ∧ (mset (mset S3 1 10 (S3 1 10 + nI Cₓ)) 1 8 (nI (tₓ + 1))) 3 (10 * pₓ + 5) = S2 3 (10 * pₓ + 5) ∧ (mset (mset S3 1 10 (S3 1 10 + nI Cₓ)) 1 8 (nI (tₓ + 1))) 3 (10 * pₓ + 6) = S2 3 (10 * pₓ + 6)
      rw [s3c]
      exact ⟨b3 pₓ 1 hp (by omega) (by omega), b3 pₓ 2 hp (by omega) (by omega), b3 pₓ 3 hp (by omega) (by omega), b3 pₓ 5 hp (by omega) (by omega), b3 pₓ 6 hp (by omega) (by omega)⟩
    · show RMov ((mset (mset S3 1 10 (S3 1 10 + nI Cₓ)) 1 8 (nI (tₓ + 1))) 3) ((mset (mset T3 1 3 (T3 1 3 + nI Cₓ)) 1 1 (nI (tₓ + 1))) 1) (81 * (12 * dₓ + (tₓ + 1)))
      rw [s3c]
      intro pₓ hp
      obtain ⟨a0ₓ, a4, a7, a8, a9, l0, l7⟩ := w11' pₓ hp
      obtain ⟨z7, zₓ, zl, ze⟩ := b5 pₓ hp
      have u25 : (mset (mset T3 1 3 (T3 1 3 + nI Cₓ)) 1 1 (nI (tₓ + 1))) 1 (25 + pₓ) = T3 1 (25 + pₓ) := by rw [ms_at, if_neg (by omega), ms_at, if_neg (by omega)]
      rw [t1c (5 + pₓ) (by omega) (by omega) (by omega) (by omega), t1c (15 + pₓ) (by omega) (by omega) (by omega) (by omega), t1c (35 + pₓ) (by omega) (by omega) (by omega) (by omega), t1c (45 + pₓ) (by omega) (by omega) (by omega) (by omega), u25]
      refine ⟨(b3 pₓ 0 hp (by omega) (by omega)).trans a0ₓ, (b3 pₓ 4 hp (by omega) (by omega)).trans a4, z7, (b3 pₓ 8 hp (by omega) (by omega)).trans a8, (b3 pₓ 9 hp (by omega) (by omega)).trans a9, l0, zₓ, ?_, ze⟩
      have : (if pₓ < nₓ then 81 else 0) ≤ 81 := by split <;> omega
      omega
    · rw [tcₓ 6 (by decide)]; exact w12
    · have x4ₓ := scₓ 4 (by decide)
      have y8 := tcₓ 8 (by decide)
      unfold RFoe
      rw [y8, show sl (mset (mset S3 1 10 (S3 1 10 + nI Cₓ)) 1 8 (nI (tₓ + 1))) 1 3 = S2 4 from x4ₓ]
      exact w13ₓ
    · have x5ₓ := scₓ 5 (by decide)
      have y10 := tcₓ 10 (by decide)
      unfold RTol
      rw [y10, show sl (mset (mset S3 1 10 (S3 1 10 + nI Cₓ)) 1 8 (nI (tₓ + 1))) 1 4 = S2 5 from x5ₓ]
      exact w14ₓ
    · intro jₓ hj
      show (mset (mset S3 1 10 (S3 1 10 + nI Cₓ)) 1 8 (nI (tₓ + 1))) 7 jₓ = _
      rw [mset_ne _ _ _ (show 7 ≠ 1 by omega), mset_ne _ _ _ (show 7 ≠ 1 by omega), mset_ne _ _ _ (show 9 ≠ 1 by omega), mset_ne _ _ _ (show 9 ≠ 1 by omega)]
      exact b9 jₓ hj
    · have x8 := scₓ 8 (by decide)
      have x9 := scₓ 9 (by decide)
      have x10 := scₓ 10 (by decide)
      have x11 := scₓ 11 (by decide)
      unfold RRul
      rw [tcₓ 0 (by decide), tcₓ 13 (by decide), tcₓ 14 (by decide), tcₓ 15 (by decide), tcₓ 16 (by decide), tcₓ 17 (by decide), show sl (mset (mset S3 1 10 (S3 1 10 + nI Cₓ)) 1 8 (nI (tₓ + 1))) 1 7 = S2 8 from x8, show sl (mset (mset S3 1 10 (S3 1 10 + nI Cₓ)) 1 8 (nI (tₓ + 1))) 1 8 = S2 9 from x9, show sl (mset (mset S3 1 10 (S3 1 10 + nI Cₓ)) 1 8 (nI (tₓ + 1))) 1 9 = S2 10 from x10, show sl (mset (mset S3 1 10 (S3 1 10 + nI Cₓ)) 1 8 (nI (tₓ + 1))) 1 10 = S2 11 from x11]
      exact w16
  · have a1ₓ : frm hLX Sₓ S1 := f1ₓ.w (fun cₓ qₓ => by rw [List.mem_singleton] at qₓ; subst qₓ; decide)
    have a2 : frm hLX S1 S2 := g1.w (fun cₓ qₓ => by
      rw [List.mem_cons] at qₓ
      rcases qₓ with qₓ | qₓ
      · subst qₓ; decide
      · exact List.mem_cons_of_mem _ (List.mem_cons_of_mem _ (List.mem_cons_of_mem _ (List.mem_cons_of_mem _ qₓ))))
    have a3 : frm hLX S2 S3 := b1.w (fun cₓ qₓ => by
      simp only [List.mem_cons, List.not_mem_nil, or_false] at qₓ
      rcases qₓ with rfl | rfl | rfl <;> decide)
    exact ((a1ₓ.tr a2).tr a3).tr ((frm.put S3 _ (by decide)).mput _ (by decide))
  · have a1ₓ : frm hLM T T1 := f2ₓ.w (fun cₓ qₓ => by rw [List.mem_singleton] at qₓ; subst qₓ; decide)
    have a2 : frm hLM T1 T2 := g2.w (fun cₓ qₓ => by
      rw [List.mem_cons] at qₓ
      rcases qₓ with qₓ | qₓ
      · subst qₓ; decide
      · exact List.mem_cons_of_mem _ (List.mem_cons_of_mem _ qₓ))
    have a3 : frm hLM (mput T2 21 Gₓ) T3 := b2.w (fun cₓ qₓ => by
      simp only [List.mem_cons, List.not_mem_nil, or_false] at qₓ
      rcases qₓ with rfl | rfl <;> decide)
    exact ((a1ₓ.tr a2).tr ((frm.put T2 Gₓ (by decide)).tr a3)).tr ((frm.put T3 _ (by decide)).mput _ (by decide))
/-! what is kept ahead of an hour -/
theorem keep_loop (cₓ : Nat) (hcₓ : cₓ < 12) : ∀ (kₓ iₓ fₓ : Nat) (T : Mem), iₓ + kₓ = 55 → kₓ < fₓ → T 0 3 = nI cₓ → fX8_keepsAhead_55 fₓ T (nI iₓ) = some (nI 0, mset (mput T 2 (fun jₓ => if 55 * cₓ + iₓ ≤ jₓ ∧ jₓ < 55 * cₓ + 55 then T 1 (jₓ - 55 * cₓ) else T 2 jₓ)) 0 3 (nI (cₓ + 1))) := by
  intro kₓ
  induction kₓ with
  | zero =>
    intro iₓ fₓ T hiₓ hf eₓ
    obtain ⟨fₓ, rfl⟩ : ∃ gₓ, fₓ = gₓ + 1 := ⟨fₓ - 1, by omega⟩
    have hiₓ : iₓ = 55 := by omega
    subst hiₓ
    have eT : mput T 2 (fun jₓ => if 55 * cₓ + 55 ≤ jₓ ∧ jₓ < 55 * cₓ + 55 then T 1 (jₓ - 55 * cₓ) else T 2 jₓ) = T := by
      have : (fun jₓ => if 55 * cₓ + 55 ≤ jₓ ∧ jₓ < 55 * cₓ + 55 then T 1 (jₓ - 55 * cₓ) else T 2 jₓ) = T 2 := by
        funext jₓ
        rw [if_neg (by omega)]
      rw [this, mput_id]
    rw [eT]
    show fX8_keepsAhead_55_b (fX8_keepsAhead_55 fₓ) T (nI 55) = _
    unfold fX8_keepsAhead_55_b
    rw [if_pos (show (55 : Int32) ≤ nI 55 by decide), ltm_e, eₓ, show nI cₓ + 1 = nI (cₓ + 1) from nI_add cₓ 1]
    rfl
  | succ kₓ ihₓ =>
    intro iₓ fₓ T hiₓ hf eₓ
    obtain ⟨fₓ, rfl⟩ : ∃ gₓ, fₓ = gₓ + 1 := ⟨fₓ - 1, by omega⟩
    have zₓ := ihₓ (iₓ + 1) fₓ (mset T 2 (55 * cₓ + iₓ) (T 1 iₓ)) (by omega) (by omega) (by rw [mset_ne _ _ _ (by omega)]; exact eₓ)
    have eT : mput (mset T 2 (55 * cₓ + iₓ) (T 1 iₓ)) 2 (fun jₓ => if 55 * cₓ + (iₓ + 1) ≤ jₓ ∧ jₓ < 55 * cₓ + 55 then (mset T 2 (55 * cₓ + iₓ) (T 1 iₓ)) 1 (jₓ - 55 * cₓ) else (mset T 2 (55 * cₓ + iₓ) (T 1 iₓ)) 2 jₓ) = mput T 2 (fun jₓ => if 55 * cₓ + iₓ ≤ jₓ ∧ jₓ < 55 * cₓ + 55 then T 1 (jₓ - 55 * cₓ) else T 2 jₓ) := by
      rw [show mset T 2 (55 * cₓ + iₓ) (T 1 iₓ) = mput T 2 (upd (T 2) (55 * cₓ + iₓ) (T 1 iₓ)) from rfl, mput_mput]
      congr 1
      funext jₓ
      rw [mput_ne _ _ (show 1 ≠ 2 by omega), mput_same]
      by_cases qₓ : 55 * cₓ + (iₓ + 1) ≤ jₓ ∧ jₓ < 55 * cₓ + 55
      · rw [if_pos qₓ, if_pos (by omega)]
      · rw [if_neg qₓ]
        by_cases q2ₓ : jₓ = 55 * cₓ + iₓ
        · rw [q2ₓ, upd_same, if_pos (by omega), show 55 * cₓ + iₓ - 55 * cₓ = iₓ by omega]
        · rw [upd_ne _ _ q2ₓ, if_neg (by omega)]
    rw [eT] at zₓ
    rw [← zₓ]
    show fX8_keepsAhead_55_b (fX8_keepsAhead_55 fₓ) T (nI iₓ) = _
    unfold fX8_keepsAhead_55_b
    rw [if_neg (show ¬ (55 : Int32) ≤ nI iₓ by rw [show (55 : Int32) = nI 55 from rfl, nI_leI (by omega) (by omega)]; omega), gd_in _ (show iₓ < 55 by omega) (by omega), eₓ, show (55 : Int32) = nI 55 from rfl, pk_mul, nI_add, gd_in _ (show 55 * cₓ + iₓ < 660 by omega) (by omega), ltm_e, nI_clamp (show 55 * cₓ + iₓ < 2 ^ 31 by omega), nI_clamp (show iₓ < 2 ^ 31 by omega), show nI iₓ + 1 = nI (iₓ + 1) from nI_add iₓ 1]
def kpX (Sₓ : Mem) (cₓ : Nat) : Mem := mset (mset (mset (mset (mput Sₓ 26 (va_cpy (Sₓ 3) (Sₓ 26) 0 (100 * cₓ) 100)) 27 cₓ (Sₓ 1 6)) 28 cₓ (Sₓ 1 10)) 29 cₓ (Sₓ 6 1)) 25 4 (nI (cₓ + 1))
def kpM (T : Mem) (cₓ : Nat) : Mem := mset (mput T 2 (fun jₓ => if 55 * cₓ + 0 ≤ jₓ ∧ jₓ < 55 * cₓ + 55 then T 1 (jₓ - 55 * cₓ) else T 2 jₓ)) 0 3 (nI (cₓ + 1))
theorem keep_X (Sₓ : Mem) {cₓ : Nat} (hcₓ : cₓ < 12) (eₓ : Sₓ 25 4 = nI cₓ) : fX2_keep_25_1 Sₓ = some (nI 0, kpX Sₓ cₓ) := by
  have g1 : cpG (nI 0) (nI (100 * cₓ)) (nI 100) 100 1200 = true := by
    simp only [cpG, Bool.and_eq_true, decide_eq_true_eq]
    refine ⟨⟨⟨⟨nI_pos' (by omega), nI_pos' (by omega)⟩, nI_pos' (by omega)⟩, ?_⟩, ?_⟩
    · rw [nI_clamp (by omega), nI_clamp (by omega)]; omega
    · rw [nI_clamp (by omega), nI_clamp (by omega)]; omega
  have e3ₓ : cₓ * 10 * 10 = 100 * cₓ := by omega
  simp (disch := first | omega | assumption) only [fX2_keep_25_1, eₓ, e3ₓ, gd_of _ g1, mput_ne, mput_same, mset_ne, mset_same, upd_same, upd_ne, ltm_e, lti_e, bnd_e, fa_lit, nI_add, pk_mul, nI_clamp, gd_in, nlt0, nI_ltI, nI_leI, nI_eq, if_true, if_false, if_pos, if_neg]
  rfl
theorem keep_M (T : Mem) {cₓ : Nat} (hcₓ : cₓ < 12) (eₓ : T 0 3 = nI cₓ) : fX8_keepsAhead T = some (nI 0, kpM T cₓ) := by
  unfold fX8_keepsAhead fX8_keepsAhead_53
  rw [eₓ, if_neg (show ¬ nI cₓ = 12 by rw [show (12 : Int32) = nI 12 from rfl, nI_eq (by omega) (by omega)]; omega)]
  exact keep_loop cₓ hcₓ 55 0 FU T (by omega) (by unfold FU; omega) eₓ
theorem keep_RW {nₓ dₓ tₓ pr re bl cₓ : Nat} {Sₓ T : Mem} (hW : RWn nₓ dₓ tₓ pr re bl (sl Sₓ 1) T) : RWn nₓ dₓ tₓ pr re bl (sl (kpX Sₓ cₓ) 1) (kpM T cₓ) := by
  have eₓ : ∀ kₓ, kₓ ≤ 10 → sl (kpX Sₓ cₓ) 1 kₓ = sl Sₓ 1 kₓ := fun kₓ hk => by
    show kpX Sₓ cₓ (1 + kₓ) = Sₓ (1 + kₓ)
    unfold kpX
    rw [mset_ne _ _ _ (by omega), mset_ne _ _ _ (by omega), mset_ne _ _ _ (by omega), mset_ne _ _ _ (by omega), mput_ne _ _ (by omega)]
  have e0ₓ : ∀ jₓ, jₓ ≠ 3 → kpM T cₓ 0 jₓ = T 0 jₓ := fun jₓ hj => by unfold kpM; rw [ms_at, if_neg (by omega), mput_ne _ _ (by omega)]
  have ec : ∀ kₓ, kₓ ≠ 0 → kₓ ≠ 2 → kpM T cₓ kₓ = T kₓ := fun kₓ h0 h2 => by unfold kpM; rw [mset_ne _ _ _ h0, mput_ne _ _ h2]
  refine hW.mv (fun cₓ h1 _ => eₓ cₓ h1) (fun kₓ hk => ec kₓ (fun qₓ => by subst qₓ; revert hk; decide) (fun qₓ => by subst qₓ; revert hk; decide)) (e0ₓ 6 (by omega)) (e0ₓ 10 (by omega)) (e0ₓ 11 (by omega)) (e0ₓ 22 (by omega)) (fun jₓ _ => by rw [ec 1 (by omega) (by omega)]) (fun pₓ _ => by rw [eₓ 2 (by omega)]; exact ⟨rfl, rfl, rfl, rfl, rfl⟩) ?_
  rw [eₓ 2 (by omega), ec 1 (by omega) (by omega)]
  exact hW.2.2.2.2.2.2.2.2.2.2.2.1
theorem keep_RP {nₓ dₓ tₓ pr re bl cₓ : Nat} {Sₓ T : Mem} (hW : RWn nₓ dₓ tₓ pr re bl (sl Sₓ 1) T) (hP : RPas dₓ tₓ bl cₓ Sₓ T) (hcₓ : cₓ < 12) : RPas dₓ (tₓ + 1) bl (cₓ + 1) (kpX Sₓ cₓ) (kpM T cₓ) := by
  obtain ⟨p1ₓ, p2ₓ, p3ₓ, p4ₓ⟩ := hP
  have k26 : kpX Sₓ cₓ 26 = va_cpy (Sₓ 3) (Sₓ 26) 0 (100 * cₓ) 100 := rfl
  have k27 : kpX Sₓ cₓ 27 = upd (Sₓ 27) cₓ (Sₓ 1 6) := rfl
  have k28 : kpX Sₓ cₓ 28 = upd (Sₓ 28) cₓ (Sₓ 1 10) := rfl
  have k29 : kpX Sₓ cₓ 29 = upd (Sₓ 29) cₓ (Sₓ 6 1) := rfl
  have k3ₓ : kpX Sₓ cₓ 3 = Sₓ 3 := rfl
  have m2ₓ : ∀ jₓ, kpM T cₓ 2 jₓ = if 55 * cₓ + 0 ≤ jₓ ∧ jₓ < 55 * cₓ + 55 then T 1 (jₓ - 55 * cₓ) else T 2 jₓ := fun jₓ => rfl
  have w11ₓ : RMov (Sₓ 3) (T 1) (81 * (12 * dₓ + tₓ)) := hW.2.2.2.2.2.2.2.2.2.2.2.1
  refine ⟨by omega, rfl, rfl, fun kₓ hk => ?_⟩
  by_cases eₓ : kₓ = cₓ
  · subst eₓ
    have mkₓ : ∀ jₓ, jₓ < 55 → kpM T kₓ 2 (55 * kₓ + jₓ) = T 1 jₓ := fun jₓ hj => by rw [m2ₓ, if_pos (by omega), show 55 * kₓ + jₓ - 55 * kₓ = jₓ by omega]
    have xk : ∀ jₓ, jₓ < 100 → kpX Sₓ kₓ 26 (100 * kₓ + jₓ) = Sₓ 3 jₓ := fun jₓ hj => by rw [k26, pk_cpy_in (by omega) (by omega), show 0 + (100 * kₓ + jₓ - 100 * kₓ) = jₓ by omega]
    have et : tₓ + 1 - (kₓ + 1 - kₓ) = tₓ := by omega
    rw [et]
    refine ⟨?_, ?_, ?_, ?_, ⟨bl, hW.1.2.2.2.2.2, ?_, ?_⟩, ?_, fun pₓ hp => ?_⟩
    · rw [show 55 * kₓ = 55 * kₓ + 0 by omega, mkₓ 0 (by omega)]; exact hW.2.2.1.2
    · rw [mkₓ 1 (by omega)]; exact hW.2.2.2.1.2
    · rw [mkₓ 2 (by omega), k27, upd_same]; exact hW.2.2.2.2.2.2.2.1
    · rw [mkₓ 3 (by omega), k28, upd_same]; exact hW.2.2.2.2.2.2.2.2.1
    · rw [k29, upd_same]; exact hW.2.2.2.2.2.2.1.1
    · rw [mkₓ 4 (by omega)]; exact hW.2.2.2.2.2.2.1.2
    · exact w11ₓ.cg (fun jₓ hj => xk jₓ hj) (fun jₓ _ hj => mkₓ jₓ hj) (Nat.le_refl _)
    · rw [xk _ (by omega), xk _ (by omega), xk _ (by omega), xk _ (by omega), xk _ (by omega), k3ₓ]
      exact ⟨rfl, rfl, rfl, rfl, rfl⟩
  · have hk2 : kₓ < cₓ := by omega
    obtain ⟨r1ₓ, r2, r3, r4, r5ₓ, r6, r7⟩ := p4ₓ kₓ hk2
    have mkₓ : ∀ jₓ, jₓ < 55 → kpM T cₓ 2 (55 * kₓ + jₓ) = T 2 (55 * kₓ + jₓ) := fun jₓ hj => by rw [m2ₓ, if_neg (by omega)]
    have xk : ∀ jₓ, jₓ < 100 → kpX Sₓ cₓ 26 (100 * kₓ + jₓ) = Sₓ 26 (100 * kₓ + jₓ) := fun jₓ hj => by rw [k26, pk_cpy_out (by omega)]
    have et : tₓ + 1 - (cₓ + 1 - kₓ) = tₓ - (cₓ - kₓ) := by omega
    rw [et]
    refine ⟨?_, ?_, ?_, ?_, ?_, ?_, fun pₓ hp => ?_⟩
    · rw [show 55 * kₓ = 55 * kₓ + 0 by omega, mkₓ 0 (by omega)]; exact r1ₓ
    · rw [mkₓ 1 (by omega)]; exact r2
    · rw [mkₓ 2 (by omega), k27, upd_ne _ _ eₓ]; exact r3
    · rw [mkₓ 3 (by omega), k28, upd_ne _ _ eₓ]; exact r4
    · rw [mkₓ 4 (by omega), k29, upd_ne _ _ eₓ]; exact r5ₓ
    · exact r6.cg (fun jₓ hj => xk jₓ hj) (fun jₓ _ hj => mkₓ jₓ hj) (Nat.le_refl _)
    · rw [xk _ (by omega), xk _ (by omega), xk _ (by omega), xk _ (by omega), xk _ (by omega), k3ₓ]
      exact r7 pₓ hp
theorem RX.of {Sₓ T S' T' : Mem} (hₓ : RX Sₓ T) (hSₓ : ∀ cₓ, cₓ ∈ [0, 13, 14, 15, 16, 17, 18, 19, 20, 21, 22, 23, 38, 39] → S' cₓ = Sₓ cₓ) (hTₓ : ∀ cₓ, cₓ ∈ [11, 12, 26] → T' cₓ = T cₓ) (h0 : ∀ jₓ, jₓ ∈ [16, 34, 35, 46] → T' 0 jₓ = T 0 jₓ) : RX S' T' := by
  simp only [RX, RTap, RFau, RImg, RWor, RWn, RHou, RFix, RMov, RFoe, RTol, RBok, RRul, sl] at hₓ ⊢
  simp only [Nat.reduceAdd, Nat.add_zero] at hₓ ⊢
  rw [hSₓ 0 (by decide), hSₓ 13 (by decide), hSₓ 14 (by decide), hSₓ 15 (by decide), hSₓ 16 (by decide), hSₓ 17 (by decide), hSₓ 18 (by decide), hSₓ 19 (by decide), hSₓ 20 (by decide), hSₓ 21 (by decide), hSₓ 22 (by decide), hSₓ 23 (by decide), hSₓ 38 (by decide), hSₓ 39 (by decide), hTₓ 11 (by decide), hTₓ 12 (by decide), hTₓ 26 (by decide), h0 16 (by decide), h0 34 (by decide), h0 35 (by decide), h0 46 (by decide)]
  exact hₓ
theorem hours_loop {nₓ dₓ pr re mₓ : Nat} : ∀ (kₓ iₓ fₓ : Nat) (Sₓ T : Mem) (tₓ bl cₓ : Nat) (acc : Int32), iₓ + kₓ = mₓ → mₓ ≤ 12 → kₓ < fₓ → tₓ + kₓ ≤ 12 → RWn nₓ dₓ tₓ pr re bl (sl Sₓ 1) T → RPas dₓ tₓ bl cₓ Sₓ T → RX Sₓ T → ∃ rₓ S' T', fX7_hours_31 fₓ Sₓ (nI mₓ) acc (nI iₓ) = some (rₓ, S') ∧ fX8_hours_35 fₓ T (nI mₓ) acc (nI iₓ) = some (rₓ, T') ∧ RR S' T' := by
  intro kₓ
  induction kₓ with
  | zero =>
    intro iₓ fₓ Sₓ T tₓ bl cₓ acc hiₓ hmₓ hf ht hW hP hX
    obtain ⟨fₓ, rfl⟩ : ∃ gₓ, fₓ = gₓ + 1 := ⟨fₓ - 1, by omega⟩
    refine ⟨acc, Sₓ, T, ?_, ?_, ⟨⟨nₓ, dₓ, tₓ, pr, re, bl, cₓ, hW, hP⟩, hX⟩⟩
    · show fX7_hours_31_b (fX7_hours_31 fₓ) Sₓ (nI mₓ) acc (nI iₓ) = _
      unfold fX7_hours_31_b
      rw [if_pos (nI_le (by omega) (by omega))]
    · show fX8_hours_35_b (fX8_hours_35 fₓ) T (nI mₓ) acc (nI iₓ) = _
      unfold fX8_hours_35_b
      rw [if_pos (nI_le (by omega) (by omega))]
  | succ kₓ ihₓ =>
    intro iₓ fₓ Sₓ T tₓ bl cₓ acc hiₓ hmₓ hf ht hW hP hX
    obtain ⟨fₓ, rfl⟩ : ∃ gₓ, fₓ = gₓ + 1 := ⟨fₓ - 1, by omega⟩
    have hcₓ : cₓ < 12 := by have := hP.1; omega
    have kx := keep_X Sₓ hcₓ hP.2.1
    have km := keep_M T hcₓ hP.2.2.1
    have hW1 := keep_RW (cₓ := cₓ) hW
    have hP1 := keep_RP hW hP hcₓ
    obtain ⟨rₓ, bl', S2, T2, x1ₓ, x2ₓ, hW2, fSₓ, fTₓ⟩ := pass_both hW1 (by omega)
    have hP2 : RPas dₓ (tₓ + 1) bl' (cₓ + 1) S2 T2 := by
      have z25 := fSₓ 25 (by decide)
      have z26 := fSₓ 26 (by decide)
      have z27 := fSₓ 27 (by decide)
      have z28ₓ := fSₓ 28 (by decide)
      have z29ₓ := fSₓ 29 (by decide)
      have y0 := fTₓ 0 (by decide)
      have y2 := fTₓ 2 (by decide)
      have fx1 : RFix (S2 3) T2 := hW2.2.2.2.2.2.2.2.2.2.2.1
      have fx0 : RFix (kpX Sₓ cₓ 3) (kpM T cₓ) := hW1.2.2.2.2.2.2.2.2.2.2.1
      have y5 := fTₓ 5 (by decide)
      have y6 := fTₓ 6 (by decide)
      have y7 := fTₓ 7 (by decide)
      obtain ⟨p1ₓ, p2ₓ, p3ₓ, p4ₓ⟩ := hP1
      refine ⟨p1ₓ, by rw [z25]; exact p2ₓ, by rw [y0]; exact p3ₓ, fun jₓ hj => ?_⟩
      obtain ⟨r1ₓ, r2, r3, r4, r5ₓ, r6, r7⟩ := p4ₓ jₓ hj
      rw [z26, z27, z28ₓ, z29ₓ, y2]
      refine ⟨r1ₓ, r2, r3, r4, r5ₓ, r6, fun pₓ hp => ?_⟩
      obtain ⟨g1, g2, g3ₓ, g5ₓ, g6⟩ := r7 pₓ hp
      obtain ⟨a1ₓ, a2, a3, a5, a6, -⟩ := fx1 pₓ hp
      obtain ⟨b1, b2, b3, b5, b6, -⟩ := fx0 pₓ hp
      rw [a1ₓ, a2, a3, a5, a6, y5, y6, y7, y0, ← b1, ← b2, ← b3, ← b5, ← b6]
      exact ⟨g1, g2, g3ₓ, g5ₓ, g6⟩
    have hX2 : RX S2 T2 := hX.of (fun aₓ haₓ => by
      rw [fSₓ aₓ (fun qₓ => by simp only [hLX, scX, List.mem_cons, List.not_mem_nil, or_false] at qₓ haₓ; omega)]
      unfold kpX
      simp only [List.mem_cons, List.not_mem_nil, or_false] at haₓ
      rw [mset_ne _ _ _ (by omega), mset_ne _ _ _ (by omega), mset_ne _ _ _ (by omega), mset_ne _ _ _ (by omega), mput_ne _ _ (by omega)]) (fun aₓ haₓ => by
      rw [fTₓ aₓ (fun qₓ => by simp only [hLM, scM, List.mem_cons, List.not_mem_nil, or_false] at qₓ haₓ; omega)]
      unfold kpM
      simp only [List.mem_cons, List.not_mem_nil, or_false] at haₓ
      rw [mset_ne _ _ _ (by omega), mput_ne _ _ (by omega)]) (fun jₓ hj => by
      rw [fTₓ 0 (by decide)]
      unfold kpM
      simp only [List.mem_cons, List.not_mem_nil, or_false] at hj
      rw [ms_at, if_neg (by omega), mput_ne _ _ (by omega)])
    obtain ⟨r', S', T', q1ₓ, q2ₓ, q3ₓ⟩ := ihₓ (iₓ + 1) fₓ S2 T2 (tₓ + 1) bl' (cₓ + 1) (acc + rₓ) (by omega) hmₓ (by omega) (by omega) hW2 hP2 hX2
    refine ⟨r', S', T', ?_, ?_, q3ₓ⟩
    · rw [← q1ₓ]
      show fX7_hours_31_b (fX7_hours_31 fₓ) Sₓ (nI mₓ) acc (nI iₓ) = _
      unfold fX7_hours_31_b
      rw [if_neg (show ¬ nI mₓ ≤ nI iₓ by rw [nI_leI (by omega) (by omega)]; omega), kx, bnd_e, x1ₓ, bnd_e, lti_e, show nI iₓ + 1 = nI (iₓ + 1) from nI_add iₓ 1]
    · rw [← q2ₓ]
      show fX8_hours_35_b (fX8_hours_35 fₓ) T (nI mₓ) acc (nI iₓ) = _
      unfold fX8_hours_35_b
      rw [if_neg (show ¬ nI mₓ ≤ nI iₓ by rw [nI_leI (by omega) (by omega)]; omega), km, bnd_e, x2ₓ, bnd_e, lti_e, show nI iₓ + 1 = nI (iₓ + 1) from nI_add iₓ 1]
theorem sim_hours (aₓ : Int32) : Sim RR (fun Sₓ => fX7_hours Sₓ aₓ) (fun T => fX8_hours T aₓ) := by
  intro Sₓ T hR
  obtain ⟨⟨nₓ, dₓ, tₓ, pr, re, bl, cₓ, hW, hP⟩, hX⟩ := id hR
  have ht : tₓ ≤ 12 := hW.1.2.2.1
  have t1ₓ : Sₓ 1 8 = nI tₓ := hW.2.2.2.1.1
  have t2ₓ : T 1 1 = nI tₓ := hW.2.2.2.1.2
  rcases ixC aₓ (show 13 < 2 ^ 31 by omega) with ⟨mₓ, hmₓ, rfl⟩ | gₓ | gₓ
  · by_cases m0ₓ : mₓ = 0
    · subst m0ₓ
      clear hW hP hX
      exact ⟨-nI 1, Sₓ, mset T 0 0 (nI 0), by simp (disch := first | omega | assumption) only [fX7_hours, mset_ne, mset_same, upd_same, upd_ne, ltm_e, lti_e, bnd_e, fa_lit, nI_add, pk_mul, nI_clamp, gd_in, nlt0, nI_ltI, nI_leI, nI_eq, if_true, if_false, if_pos, if_neg], by simp (disch := first | omega | assumption) only [fX8_hours, fX8_isIn, mset_ne, mset_same, upd_same, upd_ne, ltm_e, lti_e, bnd_e, fa_lit, nI_add, pk_mul, nI_clamp, gd_in, nlt0, nI_ltI, nI_leI, nI_eq, if_true, if_false, if_pos, if_neg], hR.told 0⟩
    · by_cases h12 : tₓ + mₓ ≤ 12
      · obtain ⟨rₓ, S', T', q1ₓ, q2ₓ, q3ₓ⟩ := hours_loop (mₓ := mₓ) mₓ 0 FU Sₓ (mset T 0 0 (nI 0)) tₓ bl cₓ (nI 0) (by omega) (by omega) (by unfold FU; omega) h12 hW hP hX
        refine ⟨rₓ, S', T', ?_, ?_, q3ₓ⟩
        · rw [← q1ₓ]
          generalize hq : fX7_hours_31 FU Sₓ (nI mₓ) (nI 0) (nI 0) = qₓ
          clear hW hP hX q1ₓ q2ₓ q3ₓ
          simp (disch := first | omega | assumption) only [fX7_hours, t1ₓ, hq, mset_ne, mset_same, upd_same, upd_ne, ltm_e, lti_e, bnd_e, fa_lit, nI_add, pk_mul, nI_clamp, gd_in, nlt0, nI_ltI, nI_leI, nI_eq, if_true, if_false, if_pos, if_neg]
        · rw [← q2ₓ]
          generalize hq : fX8_hours_35 FU (mset T 0 0 (nI 0)) (nI mₓ) (nI 0) (nI 0) = qₓ
          clear hW hP hX q1ₓ q2ₓ q3ₓ
          simp (disch := first | omega | assumption) only [fX8_hours, fX8_isIn, t2ₓ, hq, mset_ne, mset_same, upd_same, upd_ne, ltm_e, lti_e, bnd_e, fa_lit, nI_add, pk_mul, nI_clamp, gd_in, nlt0, nI_ltI, nI_leI, nI_eq, if_true, if_false, if_pos, if_neg]
      · clear hW hP hX
        exact ⟨-nI 1, Sₓ, mset T 0 0 (nI 0), by simp (disch := first | omega | assumption) only [fX7_hours, t1ₓ, mset_ne, mset_same, upd_same, upd_ne, ltm_e, lti_e, bnd_e, fa_lit, nI_add, pk_mul, nI_clamp, gd_in, nlt0, nI_ltI, nI_leI, nI_eq, if_true, if_false, if_pos, if_neg], by simp (disch := first | omega | assumption) only [fX8_hours, fX8_isIn, t2ₓ, mset_ne, mset_same, upd_same, upd_ne, ltm_e, lti_e, bnd_e, fa_lit, nI_add, pk_mul, nI_clamp, gd_in, nlt0, nI_ltI, nI_leI, nI_eq, if_true, if_false, if_pos, if_neg], hR.told 0⟩
  · clear hW hP hX
    exact ⟨-nI 1, Sₓ, mset T 0 0 (nI 0), by simp (disch := first | omega | assumption) only [fX7_hours, lo1 gₓ, lo2 gₓ, lo3 gₓ, lo4 gₓ, lo5 gₓ, mset_ne, mset_same, upd_same, upd_ne, ltm_e, lti_e, bnd_e, fa_lit, nI_add, pk_mul, nI_clamp, gd_in, nlt0, nI_ltI, nI_leI, nI_eq, if_true, if_false, if_pos, if_neg], by simp (disch := first | omega | assumption) only [fX8_hours, fX8_isIn, lo1 gₓ, lo2 gₓ, lo3 gₓ, lo4 gₓ, lo5 gₓ, mset_ne, mset_same, upd_same, upd_ne, ltm_e, lti_e, bnd_e, fa_lit, nI_add, pk_mul, nI_clamp, gd_in, nlt0, nI_ltI, nI_leI, nI_eq, if_true, if_false, if_pos, if_neg], hR.told 0⟩
  · clear hW hP hX
    exact ⟨-nI 1, Sₓ, mset T 0 0 (nI 0), by simp (disch := first | omega | assumption) only [fX7_hours, hi1 gₓ, hi2 gₓ, hi3 gₓ, hi4 gₓ, hi5 gₓ, mset_ne, mset_same, upd_same, upd_ne, ltm_e, lti_e, bnd_e, fa_lit, nI_add, pk_mul, nI_clamp, gd_in, nlt0, nI_ltI, nI_leI, nI_eq, if_true, if_false, if_pos, if_neg], by simp (disch := first | omega | assumption) only [fX8_hours, fX8_isIn, hi1 gₓ, hi2 gₓ, hi3 gₓ, hi4 gₓ, hi5 gₓ, mset_ne, mset_same, upd_same, upd_ne, ltm_e, lti_e, bnd_e, fa_lit, nI_add, pk_mul, nI_clamp, gd_in, nlt0, nI_ltI, nI_leI, nI_eq, if_true, if_false, if_pos, if_neg], hR.told 0⟩
