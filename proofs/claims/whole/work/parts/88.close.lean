/-! text: a bracket closes -/
theorem close_go {nₓ : Nat} {bₓ : Nat → Nat} {Sₓ T : Mem} {fₓ iₓ kₓ pₓ eₓ numₓ : Nat} {cx : List (Nat × Nat)} {Dₓ P2ₓ : List Nat} {br mₓ : Nat} {gₓ : Prg} {om : Nat} (hR : Rn nₓ bₓ Sₓ T fₓ iₓ kₓ pₓ eₓ numₓ cx (Dₓ ++ 12 :: (List.replicate mₓ 9 ++ P2ₓ)) (om + n9 Dₓ) br gₓ (cx ++ mpₓ Dₓ) (12 :: (List.replicate mₓ 9 ++ P2ₓ)) om) (ht : fX3_take Sₓ = fX3_takeAfterClaim Sₓ) (hk : kₓ = 24) (hDE : ∀ xₓ ∈ Dₓ, 1 ≤ rk xₓ ∧ xₓ ≠ 12) (hWl : Dₓ.length + (mₓ + P2ₓ.length) < 38) (ho : om + n9 Dₓ < 100) (hbr : 1 ≤ br ∧ br ≤ 8) (hom : mₓ + 1 ≤ om) (h0 : P2ₓ.headD 12 ≠ 9) : ∃ S2 T3 T4 f2ₓ k2ₓ p2ₓ e2ₓ num2, XT fₓ Sₓ iₓ = XT f2ₓ S2 (iₓ + 1) ∧ fX8_settles (mset (mset T 0 31 (nI (mₓ + P2ₓ.length))) 0 29 (nI (om - 1))) (nI 9) = some (nI 0, T3) ∧ fX8_reads T3 = some (nI 0, T4) ∧ FXₓ Sₓ S2 ∧ FM T T4 ∧ pₓ < p2ₓ ∧ Rn nₓ bₓ S2 T4 f2ₓ (iₓ + 1) k2ₓ p2ₓ e2ₓ num2 (cx ++ mpₓ Dₓ) (List.replicate mₓ 9 ++ P2ₓ) (om - 1) (br - 1) gₓ (cx ++ mpₓ Dₓ ++ List.replicate mₓ (9, 0)) P2ₓ (om - 1 - mₓ) ∧ S2 38 9 = nI 6 ∧ (S2 38 10, S2 38 3) = (Sₓ 38 10, Sₓ 38 3) := by
  have hlen := hR.len
  obtain ⟨h1, h2, h3, h4, h5, h6, h7, h8⟩ := id hR
  obtain ⟨-, q2ₓ, q3ₓ, q4ₓ, q5ₓ, q6ₓ, q7ₓ, q8ₓ, q9ₓ, q10ₓ, -⟩ := id h2
  have k29 : kₓ ≠ 29 := by omega
  have hP1 : (List.replicate mₓ 9 ++ P2ₓ).length = mₓ + P2ₓ.length := by rw [List.length_append, List.length_replicate]
  have hEW : (Dₓ ++ 12 :: (List.replicate mₓ 9 ++ P2ₓ)).length = Dₓ.length + (mₓ + P2ₓ.length + 1) := by rw [List.length_append, List.length_cons, hP1]
  have lmp : (mpₓ Dₓ).length = Dₓ.length := by unfold mpₓ; rw [List.length_map]
  have hcl : (cx ++ mpₓ Dₓ).length = cx.length + Dₓ.length := by rw [List.length_append, lmp]
  obtain ⟨S1, s1ₓ, s2ₓ, s3ₓ⟩ := settle_X (rₓ := 1) (W0ₓ := 12 :: (List.replicate mₓ 9 ++ P2ₓ)) (by omega) (fun xₓ l qₓ => by
    obtain ⟨rfl, -⟩ := List.cons.inj qₓ
    decide) Dₓ 0 FU Sₓ cx (om + n9 Dₓ) h5 hDE (by omega) (by unfold FU; omega) (by omega) (by omega) ho
  rw [Nat.add_sub_cancel] at s2ₓ
  have s1' : fX3_settleDownTo Sₓ (1 : Int32) = some (nI 0, S1) := s1ₓ
  obtain ⟨-, x2ₓ, x3, x4ₓ, x5ₓ, -⟩ := id s2ₓ
  obtain ⟨-, -, -, -, w5, -⟩ := id h5
  obtain ⟨-, y2, y3, y4, -⟩ := id h6
  rw [List.length_cons, hP1] at x2ₓ
  have n1ₓ : nI (mₓ + P2ₓ.length + 1) - (1 : Int32) = nI (mₓ + P2ₓ.length) := by rw [show (1 : Int32) = nI 1 from rfl, pk_sub (by omega)]; rfl
  have n2ₓ : nI br - (1 : Int32) = nI (br - 1) := by
    show nI br - nI 1 = nI (br - 1)
    exact pk_sub (by omega)
  have n3ₓ : nI om - (1 : Int32) = nI (om - 1) := by
    show nI om - nI 1 = nI (om - 1)
    exact pk_sub (by omega)
  have d15ₓ : (mset S1 38 13 (nI (mₓ + P2ₓ.length))) 38 15 = nI br := by rw [ms_at, if_neg (by omega)]; exact x5ₓ
  have d14ₓ : (mset (mset S1 38 13 (nI (mₓ + P2ₓ.length))) 38 15 (nI (br - 1))) 38 14 = nI om := by rw [ms_at, if_neg (by omega), ms_at, if_neg (by omega)]; exact x4ₓ
  have tk : fX3_take Sₓ = some (nI 0, mset (mset (mset (mset S1 38 13 (nI (mₓ + P2ₓ.length))) 38 15 (nI (br - 1))) 38 14 (nI (om - 1))) 38 9 (nI 6)) := by
    rw [ht]
    unfold fX3_takeAfterClaim
    rw [q8ₓ, hk, if_neg (show ¬ nI 24 = 6 by decide), if_neg (show ¬ nI 24 = 5 by decide), if_pos (show nI 24 = 24 from rfl), w5, if_neg (show ¬ nI br ≤ 0 by rw [le0_iff (by omega)]; omega), s1', bnd_e]
    unfold fX3_closeBracket fX3_closeBracket_17
    rw [x2ₓ, if_neg (show ¬ nI (mₓ + P2ₓ.length + 1) ≤ 0 by rw [le0_iff (by omega)]; omega), n1ₓ, ltm_e, d15ₓ, n2ₓ, ltm_e, d14ₓ, n3ₓ, ltm_e, bnd_e, ltm_e]
    rfl
  have hX5 : XSt (mset (mset (mset (mset S1 38 13 (nI (mₓ + P2ₓ.length))) 38 15 (nI (br - 1))) 38 14 (nI (om - 1))) 38 9 (nI 6)) (cx ++ mpₓ Dₓ) (List.replicate mₓ 9 ++ P2ₓ) (om - 1) (br - 1) gₓ := s2ₓ.op rfl rfl rfl rfl rfl x3.2 (by rw [ms_at, if_neg (by omega), ms_at, if_neg (by omega), ms_at, if_neg (by omega), ms_at, if_pos ⟨rfl, rfl⟩, hP1]) (by rw [ms_at, if_neg (by omega), ms_at, if_pos ⟨rfl, rfl⟩]) (by rw [ms_at, if_neg (by omega), ms_at, if_neg (by omega), ms_at, if_pos ⟨rfl, rfl⟩])
  have FX5 : FXₓ Sₓ (mset (mset (mset (mset S1 38 13 (nI (mₓ + P2ₓ.length))) 38 15 (nI (br - 1))) 38 14 (nI (om - 1))) 38 9 (nI 6)) := (((s3ₓ.FX.tr (FXₓ.put _ _ (by decide))).tr (FXₓ.put _ _ (by decide))).tr (FXₓ.put _ _ (by decide))).tr (FXₓ.put _ _ (by decide))
  have r5ₓ : ∀ jₓ, jₓ ≠ 9 → jₓ ≠ 13 → jₓ ≠ 14 → jₓ ≠ 15 → (mset (mset (mset (mset S1 38 13 (nI (mₓ + P2ₓ.length))) 38 15 (nI (br - 1))) 38 14 (nI (om - 1))) 38 9 (nI 6)) 38 jₓ = Sₓ 38 jₓ := fun jₓ a1ₓ a2 a3 a4 => by rw [ms_at, if_neg (by omega), ms_at, if_neg (by omega), ms_at, if_neg (by omega), ms_at, if_neg (by omega), s3ₓ.2.1 jₓ a2 a3]
  have hM1 : MSt (mset (mset T 0 31 (nI (mₓ + P2ₓ.length))) 0 29 (nI (om - 1))) (cx ++ mpₓ Dₓ) (List.replicate mₓ 9 ++ P2ₓ) (om - 1) gₓ := h6.op rfl rfl rfl rfl rfl rfl (by rw [ms_at, if_neg (by omega), ms_at, if_neg (by omega)]) y3.2 (by rw [ms_at, if_neg (by omega), ms_at, if_pos ⟨rfl, rfl⟩, hP1]) (by rw [ms_at, if_pos ⟨rfl, rfl⟩])
  have F1ₓ : FM T (mset (mset T 0 31 (nI (mₓ + P2ₓ.length))) 0 29 (nI (om - 1))) := (FM.s0 _ _ (by decide)).tr (FM.s0 _ _ (by decide))
  have K1 : TkM T (mset (mset T 0 31 (nI (mₓ + P2ₓ.length))) 0 29 (nI (om - 1))) := (TkM.s T (cₓ := 0) (jₓ := 31) _ (by omega)).tr (TkM.s _ (cₓ := 0) (jₓ := 29) _ (by omega))
  obtain ⟨T3, t1ₓ, t2ₓ, t3ₓ, t4ₓ⟩ := settle_M (aₓ := 9) (P0ₓ := P2ₓ) (by omega) (fun xₓ l qₓ => by
    rw [qₓ] at h0
    exact h0) mₓ FU _ (cx ++ mpₓ Dₓ) (om - 1) hM1 (by omega) (by unfold FU; omega) (by rw [hcl]; omega) (fun _ => by omega) (by omega)
  rw [if_pos rfl] at t2ₓ
  have FW := F1ₓ.tr t3ₓ
  have KW := K1.tr t4ₓ
  have hT5 : Tp nₓ bₓ (mset (mset (mset (mset S1 38 13 (nI (mₓ + P2ₓ.length))) 38 15 (nI (br - 1))) 38 14 (nI (om - 1))) 38 9 (nI 6)) T3 := (h1.x (r5ₓ 1 (by omega) (by omega) (by omega) (by omega)) (FX5 39 (by decide))).m (FW.2.1 16 (by decide)) (FW.1 11 (by decide)) (FW.1 12 (by decide))
  obtain ⟨S2, T4, f2ₓ, k2ₓ, p2ₓ, e2ₓ, num2, z1, z2, z3, z4, z5, z6, z7⟩ := Rn.go hT5 h2 h3 h4 k29 tk (r5ₓ 5 (by omega) (by omega) (by omega) (by omega)) (r5ₓ 6 (by omega) (by omega) (by omega) (by omega)) KW.1 hX5 t2ₓ (by rw [List.length_append, List.length_replicate, hP1]; omega) (by rw [hcl, hP1]; omega)
  refine ⟨S2, T3, T4, f2ₓ, k2ₓ, p2ₓ, e2ₓ, num2, z1, t1ₓ, z2, FX5.tr z3, FW.tr z4, z6, z7, ?_, ?_⟩
  · rw [z5 9 (by omega) (by omega) (by omega) (by omega) (by omega), ms_at, if_pos ⟨rfl, rfl⟩]
  · rw [z5 10 (by omega) (by omega) (by omega) (by omega) (by omega), r5ₓ 10 (by omega) (by omega) (by omega) (by omega), z5 3 (by omega) (by omega) (by omega) (by omega) (by omega), r5ₓ 3 (by omega) (by omega) (by omega) (by omega)]
