/-! text: claims joined -/
theorem XSt.op {Sₓ S' : Mem} {cx : List (Nat × Nat)} {W W' : List Nat} {ox br ox' br' : Nat} {gₓ : Prg} (hₓ : XSt Sₓ cx W ox br gₓ) (h40 : S' 40 = Sₓ 40) (h41 : S' 41 = Sₓ 41) (h42 : S' 42 = Sₓ 42) (h43 : S' 43 = Sₓ 43) (h45 : S' 45 = Sₓ 45) (hW : WX Sₓ W') (aₓ : S' 38 13 = nI W'.length) (hbₓ : S' 38 14 = nI ox') (hcₓ : S' 38 15 = nI br') : XSt S' cx W' ox' br' gₓ := by
  obtain ⟨⟨c1ₓ, c2ₓ⟩, -, -, -, -, ⟨l1, l2⟩⟩ := hₓ
  exact ⟨⟨by rw [h40]; exact c1ₓ, fun jₓ hj => by rw [h43]; exact c2ₓ jₓ hj⟩, aₓ, hW.cg (fun jₓ _ => by rw [h45]), hbₓ, hcₓ, ⟨by rw [h40]; exact l1, fun iₓ hiₓ => by rw [h41, h42]; exact l2 iₓ hiₓ⟩⟩
theorem MSt.op {T T' : Mem} {cm : List (Nat × Nat)} {Pₓ P'ₓ : List Nat} {om om' : Nat} {gₓ : Prg} (hₓ : MSt T cm Pₓ om gₓ) (h13 : T' 13 = T 13) (h14 : T' 14 = T 14) (h15 : T' 15 = T 15) (h16ₓ : T' 16 = T 16) (h17 : T' 17 = T 17) (h18 : T' 18 = T 18) (aₓ : T' 0 28 = T 0 28) (hP : PMₓ T P'ₓ) (hbₓ : T' 0 31 = nI P'ₓ.length) (hcₓ : T' 0 29 = nI om') : MSt T' cm P'ₓ om' gₓ := by
  obtain ⟨⟨c1ₓ, c2ₓ⟩, -, -, -, l⟩ := hₓ
  exact ⟨⟨by rw [aₓ]; exact c1ₓ, fun jₓ hj => by rw [h16ₓ, h17]; exact c2ₓ jₓ hj⟩, hbₓ, hP.cg (fun jₓ _ => by rw [h18]), hcₓ, fun iₓ hiₓ => by rw [h13, h14, h15]; exact l iₓ hiₓ⟩
theorem ao_go {nₓ : Nat} {bₓ : Nat → Nat} {Sₓ T : Mem} {fₓ iₓ kₓ pₓ eₓ numₓ : Nat} {cx : List (Nat × Nat)} {Dₓ W0ₓ : List Nat} {br aₓ : Nat} {gₓ : Prg} {om : Nat} (hR : Rn nₓ bₓ Sₓ T fₓ iₓ kₓ pₓ eₓ numₓ cx (Dₓ ++ W0ₓ) (om + n9 Dₓ) br gₓ (cx ++ mpₓ Dₓ) W0ₓ om) (ht : fX3_take Sₓ = fX3_takeAfterClaim Sₓ) (haₓ : aₓ = 10 ∨ aₓ = 11) (hak : xsg aₓ = kₓ) (hDE : ∀ xₓ ∈ Dₓ, rk aₓ ≤ rk xₓ ∧ xₓ ≠ 12) (hW0 : ∀ xₓ l, W0ₓ = xₓ :: l → rk xₓ < rk aₓ) (hWl : Dₓ.length + W0ₓ.length < 40) (hWl2 : W0ₓ.length < 39) (ho : om + n9 Dₓ < 100) : ∃ S2 T2 f2ₓ k2ₓ p2ₓ e2ₓ num2, XT fₓ Sₓ iₓ = XT f2ₓ S2 (iₓ + 1) ∧ fX8_waits T (nI aₓ) = some (nI 0, waM T W0ₓ.length (nI aₓ)) ∧ fX8_reads (waM T W0ₓ.length (nI aₓ)) = some (nI 0, T2) ∧ FXₓ Sₓ S2 ∧ FM T T2 ∧ pₓ < p2ₓ ∧ Rn nₓ bₓ S2 T2 f2ₓ (iₓ + 1) k2ₓ p2ₓ e2ₓ num2 (cx ++ mpₓ Dₓ) (aₓ :: W0ₓ) om br gₓ (cx ++ mpₓ Dₓ) (aₓ :: W0ₓ) om ∧ S2 38 9 = nI 2 ∧ S2 38 11 = nI 0 ∧ (S2 38 10, S2 38 3) = (Sₓ 38 10, Sₓ 38 3) := by
  have hlen := hR.len
  obtain ⟨h1, h2, h3, h4, h5, h6, h7, h8⟩ := id hR
  obtain ⟨-, q2ₓ, q3ₓ, q4ₓ, q5ₓ, q6ₓ, q7ₓ, q8ₓ, q9ₓ, q10ₓ, -⟩ := id h2
  have rka : rk aₓ ≤ 6 := by rcases haₓ with rfl | rfl <;> decide
  have k29 : kₓ ≠ 29 := by rw [← hak]; rcases haₓ with rfl | rfl <;> decide
  have hEW : (Dₓ ++ W0ₓ).length = Dₓ.length + W0ₓ.length := List.length_append
  obtain ⟨S1, o1, o2, o3ₓ, o4ₓ⟩ := oper_X h5 (by omega) (by rw [q8ₓ, hak]) hDE hW0 (by omega) (by omega) (by rw [hEW] at hlen; omega) (by omega) ho rka
  rw [Nat.add_sub_cancel] at o2
  have tk : fX3_take Sₓ = some (nI 0, mset (mset S1 38 11 (nI 0)) 38 9 (nI 2)) := by
    rw [ht]
    unfold fX3_takeAfterClaim fX3_takeAfterClaim_17
    rw [q8ₓ, ← hak, o1]
    rcases haₓ with rfl | rfl <;> rfl
  have hX5 : XSt (mset (mset S1 38 11 (nI 0)) 38 9 (nI 2)) (cx ++ mpₓ Dₓ) (aₓ :: W0ₓ) om br gₓ := o2.cg rfl rfl rfl rfl rfl (by rw [ms_at, if_neg (by omega), ms_at, if_neg (by omega)]) (by rw [ms_at, if_neg (by omega), ms_at, if_neg (by omega)]) (by rw [ms_at, if_neg (by omega), ms_at, if_neg (by omega)])
  have FX5 : FXₓ Sₓ (mset (mset S1 38 11 (nI 0)) 38 9 (nI 2)) := (o3ₓ.tr (FXₓ.put _ _ (by decide))).tr (FXₓ.put _ _ (by decide))
  have r5ₓ : ∀ jₓ, jₓ ≠ 9 → jₓ ≠ 11 → jₓ ≠ 13 → jₓ ≠ 14 → (mset (mset S1 38 11 (nI 0)) 38 9 (nI 2)) 38 jₓ = Sₓ 38 jₓ := fun jₓ a1ₓ a2 a3 a4 => by rw [ms_at, if_neg (by omega), ms_at, if_neg (by omega), o4ₓ jₓ a3 a4]
  have FW := waM_FM T W0ₓ.length (nI aₓ)
  have KW := waM_Tk T W0ₓ.length (nI aₓ)
  have hT5 : Tp nₓ bₓ (mset (mset S1 38 11 (nI 0)) 38 9 (nI 2)) (waM T W0ₓ.length (nI aₓ)) := (h1.x (r5ₓ 1 (by omega) (by omega) (by omega) (by omega)) (FX5 39 (by decide))).m (FW.2.1 16 (by decide)) (FW.1 11 (by decide)) (FW.1 12 (by decide))
  have lmp : (mpₓ Dₓ).length = Dₓ.length := by unfold mpₓ; rw [List.length_map]
  have hcl : (cx ++ mpₓ Dₓ).length = cx.length + Dₓ.length := by rw [List.length_append, lmp]
  obtain ⟨S2, T2, f2ₓ, k2ₓ, p2ₓ, e2ₓ, num2, z1, z2, z3, z4, z5, z6, z7⟩ := Rn.go hT5 h2 h3 h4 k29 tk (r5ₓ 5 (by omega) (by omega) (by omega) (by omega)) (r5ₓ 6 (by omega) (by omega) (by omega) (by omega)) KW.1 hX5 (waM_st h6 (show aₓ ≤ 12 by omega)) (by rw [List.length_cons]; omega) (by rw [hcl, List.length_cons]; rw [hEW] at h8; omega)
  refine ⟨S2, T2, f2ₓ, k2ₓ, p2ₓ, e2ₓ, num2, z1, wait_M _ (by omega) h6.2.1, z2, FX5.tr z3, FW.tr z4, z6, z7, ?_, ?_, ?_⟩
  · rw [z5 9 (by omega) (by omega) (by omega) (by omega) (by omega), ms_at, if_pos ⟨rfl, rfl⟩]
  · rw [z5 11 (by omega) (by omega) (by omega) (by omega) (by omega), ms_at, if_neg (by omega), ms_at, if_pos ⟨rfl, rfl⟩]
  · rw [z5 10 (by omega) (by omega) (by omega) (by omega) (by omega), r5ₓ 10 (by omega) (by omega) (by omega) (by omega), z5 3 (by omega) (by omega) (by omega) (by omega) (by omega), r5ₓ 3 (by omega) (by omega) (by omega) (by omega)]
/-- `not` and `(` -/
theorem op_open {nₓ : Nat} {bₓ : Nat → Nat} {Sₓ T : Mem} {fₓ iₓ kₓ pₓ eₓ numₓ : Nat} {cx : List (Nat × Nat)} {Pₓ : List Nat} {br aₓ : Nat} {gₓ : Prg} {om : Nat} (hR : Rn nₓ bₓ Sₓ T fₓ iₓ kₓ pₓ eₓ numₓ cx Pₓ om br gₓ cx Pₓ om) (h9 : Sₓ 38 9 = nI 2) (haₓ : aₓ = 9 ∨ aₓ = 12) (hak : xsg aₓ = kₓ) (hP : Pₓ.length < 39) (ho : om < 8) (hbr : br ≤ 8) : ∃ S2 T2 f2ₓ k2ₓ p2ₓ e2ₓ num2, XT fₓ Sₓ iₓ = XT f2ₓ S2 (iₓ + 1) ∧ fX8_waits (mset T 0 29 (nI (om + 1))) (nI aₓ) = some (nI 0, waM (mset T 0 29 (nI (om + 1))) Pₓ.length (nI aₓ)) ∧ fX8_reads (waM (mset T 0 29 (nI (om + 1))) Pₓ.length (nI aₓ)) = some (nI 0, T2) ∧ FXₓ Sₓ S2 ∧ FM T T2 ∧ pₓ < p2ₓ ∧ Rn nₓ bₓ S2 T2 f2ₓ (iₓ + 1) k2ₓ p2ₓ e2ₓ num2 cx (aₓ :: Pₓ) (om + 1) (if aₓ = 12 then br + 1 else br) gₓ cx (aₓ :: Pₓ) (om + 1) ∧ S2 38 9 = nI 2 ∧ S2 38 11 = Sₓ 38 11 ∧ (S2 38 10, S2 38 3) = (Sₓ 38 10, Sₓ 38 3) := by
  have hlen := hR.len
  obtain ⟨h1, h2, h3, h4, h5, h6, h7, h8⟩ := id hR
  obtain ⟨-, q2ₓ, q3ₓ, q4ₓ, q5ₓ, q6ₓ, q7ₓ, q8ₓ, q9ₓ, q10ₓ, -⟩ := id h2
  obtain ⟨-, x2ₓ, x3, x4ₓ, x5ₓ, -⟩ := id h5
  obtain ⟨-, m2ₓ, m3ₓ, m4ₓ, -⟩ := id h6
  have k29 : kₓ ≠ 29 := by rw [← hak]; rcases haₓ with rfl | rfl <;> decide
  have e1ₓ : nI om + (1 : Int32) = nI (om + 1) := nI_add om 1
  have e2ₓ : nI br + (1 : Int32) = nI (br + 1) := nI_add br 1
  have l8 : nI om < (8 : Int32) := by rw [show (8 : Int32) = nI 8 from rfl, nI_ltI (by omega) (by omega)]; exact ho
  obtain ⟨S1, s1ₓ, s2ₓ, s3ₓ, s4ₓ, s5⟩ : ∃ S1, fX3_take Sₓ = some (nI 0, hoX S1 Pₓ.length (nI (xsg aₓ))) ∧ XSt S1 cx Pₓ (om + 1) (if aₓ = 12 then br + 1 else br) gₓ ∧ FXₓ Sₓ S1 ∧ (∀ jₓ, jₓ ≠ 14 → jₓ ≠ 15 → S1 38 jₓ = Sₓ 38 jₓ) ∧ True := by
    rw [take_d h9 (by omega), if_neg (by omega), if_neg (by omega), if_pos rfl]
    unfold fX3_takeClaim fX3_takeClaim_23 fX3_takeClaim_63
    rw [q8ₓ, ← hak, x4ₓ, if_pos l8, ltm_e, e1ₓ]
    rcases haₓ with rfl | rfl
    · refine ⟨mset Sₓ 38 14 (nI (om + 1)), ?_, h5.op rfl rfl rfl rfl rfl x3 (by rw [ms_at, if_neg (by omega)]; exact x2ₓ) (by rw [ms_at, if_pos ⟨rfl, rfl⟩]) (by rw [ms_at, if_neg (by omega)]; exact x5ₓ), FXₓ.put _ _ (by decide), fun jₓ a1ₓ a2 => by rw [ms_at, if_neg (by omega)], trivial⟩
      have d6ₓ : (mset Sₓ 38 14 (nI (om + 1))) 38 6 = nI (xsg 9) := by rw [ms_at, if_neg (by omega), q8ₓ, hak]
      rw [if_pos (show nI (xsg 9) = 7 from rfl), d6ₓ, if_neg (show ¬ nI (xsg 9) = 23 by decide), hold_X _ (by omega) (show (mset Sₓ 38 14 (nI (om + 1))) 38 13 = nI Pₓ.length by rw [ms_at, if_neg (by omega)]; exact x2ₓ), bnd_e]
      rfl
    · refine ⟨mset (mset Sₓ 38 14 (nI (om + 1))) 38 15 (nI (br + 1)), ?_, h5.op rfl rfl rfl rfl rfl x3 (by rw [ms_at, if_neg (by omega), ms_at, if_neg (by omega)]; exact x2ₓ) (by rw [ms_at, if_neg (by omega), ms_at, if_pos ⟨rfl, rfl⟩]) (by rw [ms_at, if_pos ⟨rfl, rfl⟩]; rfl), (FXₓ.put _ _ (by decide)).tr (FXₓ.put _ _ (by decide)), fun jₓ a1ₓ a2 => by rw [ms_at, if_neg (by omega), ms_at, if_neg (by omega)], trivial⟩
      have d6ₓ : (mset Sₓ 38 14 (nI (om + 1))) 38 6 = nI (xsg 12) := by rw [ms_at, if_neg (by omega), q8ₓ, hak]
      have d15ₓ : (mset Sₓ 38 14 (nI (om + 1))) 38 15 = nI br := by rw [ms_at, if_neg (by omega), x5ₓ]
      have d6' : (mset (mset Sₓ 38 14 (nI (om + 1))) 38 15 (nI (br + 1))) 38 6 = nI (xsg 12) := by rw [ms_at, if_neg (by omega), d6ₓ]
      rw [if_neg (show ¬ nI (xsg 12) = 7 by decide), if_pos (show nI (xsg 12) = 23 from rfl), d6ₓ, if_pos (show nI (xsg 12) = 23 from rfl), d15ₓ, e2ₓ, ltm_e, d6', hold_X _ (by omega) (show (mset (mset Sₓ 38 14 (nI (om + 1))) 38 15 (nI (br + 1))) 38 13 = nI Pₓ.length by rw [ms_at, if_neg (by omega), ms_at, if_neg (by omega)]; exact x2ₓ), bnd_e]
      rfl
  have FX5 : FXₓ Sₓ (hoX S1 Pₓ.length (nI (xsg aₓ))) := s3ₓ.tr (hoX_FX _ _ _)
  have r5ₓ : ∀ jₓ, jₓ ≠ 13 → jₓ ≠ 14 → jₓ ≠ 15 → (hoX S1 Pₓ.length (nI (xsg aₓ))) 38 jₓ = Sₓ 38 jₓ := fun jₓ a1ₓ a2 a3 => by rw [hoX_38 _ _ _ a1ₓ, s4ₓ jₓ a2 a3]
  have F1ₓ : FM T (mset T 0 29 (nI (om + 1))) := FM.s0 _ _ (by decide)
  have FW := F1ₓ.tr (waM_FM (mset T 0 29 (nI (om + 1))) Pₓ.length (nI aₓ))
  have KW := (TkM.s T (cₓ := 0) (jₓ := 29) (nI (om + 1)) (by omega)).tr (waM_Tk (mset T 0 29 (nI (om + 1))) Pₓ.length (nI aₓ))
  have hM1 : MSt (mset T 0 29 (nI (om + 1))) cx Pₓ (om + 1) gₓ := h6.op rfl rfl rfl rfl rfl rfl (by rw [ms_at, if_neg (by omega)]) m3ₓ (by rw [ms_at, if_neg (by omega)]; exact m2ₓ) (by rw [ms_at, if_pos ⟨rfl, rfl⟩])
  have hT5 : Tp nₓ bₓ (hoX S1 Pₓ.length (nI (xsg aₓ))) (waM (mset T 0 29 (nI (om + 1))) Pₓ.length (nI aₓ)) := (h1.x (r5ₓ 1 (by omega) (by omega) (by omega)) (FX5 39 (by decide))).m (FW.2.1 16 (by decide)) (FW.1 11 (by decide)) (FW.1 12 (by decide))
  obtain ⟨S2, T2, f2ₓ, k2ₓ, p2ₓ, e2', num2, z1, z2, z3, z4, z5, z6, z7⟩ := Rn.go hT5 h2 h3 h4 k29 s1ₓ (r5ₓ 5 (by omega) (by omega) (by omega)) (r5ₓ 6 (by omega) (by omega) (by omega)) KW.1 (hoX_st s2ₓ (by omega)) (waM_st hM1 (show aₓ ≤ 12 by omega)) (by rw [List.length_cons]; omega) (by rw [List.length_cons]; omega)
  refine ⟨S2, T2, f2ₓ, k2ₓ, p2ₓ, e2', num2, z1, wait_M _ (by omega) hM1.2.1, z2, FX5.tr z3, FW.tr z4, z6, z7, ?_, ?_, ?_⟩
  · rw [z5 9 (by omega) (by omega) (by omega) (by omega) (by omega), r5ₓ 9 (by omega) (by omega) (by omega), h9]
  · rw [z5 11 (by omega) (by omega) (by omega) (by omega) (by omega), r5ₓ 11 (by omega) (by omega) (by omega)]
  · rw [z5 10 (by omega) (by omega) (by omega) (by omega) (by omega), r5ₓ 10 (by omega) (by omega) (by omega), z5 3 (by omega) (by omega) (by omega) (by omega) (by omega), r5ₓ 3 (by omega) (by omega) (by omega)]
