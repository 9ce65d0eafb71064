/-! text: behind a claim -/
theorem cnt_rep {aₓ : Nat} (haₓ : aₓ = 10 ∨ aₓ = 11) (l : List Nat) : ∀ mₓ, noP (List.replicate mₓ aₓ ++ l) = noP l ∧ nkP (List.replicate mₓ aₓ ++ l) = mₓ + nkP l ∧ nbP (List.replicate mₓ aₓ ++ l) = nbP l := by
  intro mₓ
  induction mₓ with
  | zero => exact ⟨rfl, (Nat.zero_add _).symm, rfl⟩
  | succ mₓ ihₓ =>
    rw [List.replicate_succ, List.cons_append]
    rcases haₓ with rfl | rfl
    · have := c10ₓ (List.replicate mₓ 10 ++ l)
      omega
    · have := c11ₓ (List.replicate mₓ 11 ++ l)
      omega
theorem ac_step {nₓ : Nat} {bₓ : Nat → Nat} {dₓ : List (Nat × Nat)} {br om : Nat} {gₓ : Prg} {Pₓ : List Nat} {Sₓ T : Mem} {fₓ iₓ kₓ pₓ eₓ numₓ gf : Nat} (hC : ACₓ nₓ bₓ dₓ br om gₓ Pₓ Sₓ T fₓ iₓ kₓ pₓ eₓ numₓ) (ih1 : ∀ (S' T' : Mem) (f' i' k' p' e' num' br' om' : Nat) (P'ₓ : List Nat), pₓ < p' → CS nₓ bₓ dₓ br' om' gₓ P'ₓ S' T' f' i' k' p' e' num' → Resₓ S' T' (XT f' S' i') (fX8_readAny_9 gf T' (nI br') (nI 1)) (FiT nₓ bₓ dₓ gₓ)) (ih0 : ∀ (S' T' : Mem) (f' i' k' p' e' num' br' om' : Nat) (P'ₓ : List Nat), pₓ < p' → ACₓ nₓ bₓ dₓ br' om' gₓ P'ₓ S' T' f' i' k' p' e' num' → Resₓ S' T' (XT f' S' i') (fX8_readAny_9 gf T' (nI br') (nI 0)) (FiT nₓ bₓ dₓ gₓ)) : Resₓ Sₓ T (XT fₓ Sₓ iₓ) (fX8_readAny_9_b (fX8_readAny_9 gf) T (nI br) (nI 0)) (FiT nₓ bₓ dₓ gₓ) := by
  obtain ⟨cx, Qₓ, hR, ht, ho, hbₓ, hP, h8o, hTy, hQl, hQ, hh⟩ := hC
  obtain ⟨p1ₓ, p2ₓ, p3ₓ, p4ₓ, p5ₓ⟩ := okP_len Pₓ hP
  have hlen := hR.len
  obtain ⟨mₓ, jₓ, P0ₓ, eP, mj1, mj2, hd0, hP0, hP1, hd1⟩ := okP_split Pₓ hP hh
  have cP : noP Pₓ = noP P0ₓ ∧ nkP Pₓ = mₓ + (jₓ + nkP P0ₓ) ∧ nbP Pₓ = nbP P0ₓ ∧ nkP (List.replicate jₓ 11 ++ P0ₓ) = jₓ + nkP P0ₓ ∧ noP (List.replicate jₓ 11 ++ P0ₓ) = noP P0ₓ ∧ nbP (List.replicate jₓ 11 ++ P0ₓ) = nbP P0ₓ := by
    have a1ₓ := cnt_rep (Or.inl rfl) (List.replicate jₓ 11 ++ P0ₓ) mₓ
    have a2 := cnt_rep (Or.inr rfl) P0ₓ jₓ
    rw [← eP] at a1ₓ
    omega
  obtain ⟨u1ₓ, u2ₓ, u3, u4ₓ, u5, u6⟩ := cP
  have lP : Pₓ.length = mₓ + (jₓ + P0ₓ.length) := by rw [eP, List.length_append, List.length_append, List.length_replicate, List.length_replicate]
  have lP1 : (List.replicate jₓ 11 ++ P0ₓ).length = jₓ + P0ₓ.length := by rw [List.length_append, List.length_replicate]
  have lmp : (cx ++ mpₓ Qₓ).length = cx.length + Qₓ.length := by unfold mpₓ; rw [List.length_append, List.length_map]
  have lW : (Qₓ ++ Pₓ).length = Qₓ.length + Pₓ.length := List.length_append
  obtain ⟨h1, h2, h3, h4, h5, h6, h7, h8⟩ := id hR
  obtain ⟨-, q2ₓ, q3ₓ, q4ₓ, q5ₓ, q6ₓ, q7ₓ, q8ₓ, q9ₓ, q10ₓ, -⟩ := id h2
  have w6ₓ : fX8_isWord T (6 : Int32) = some (if kₓ = 6 then nI 1 else nI 0, T) := wrd_M h2 (show 6 < 18 by omega)
  have w5 : fX8_isWord T (5 : Int32) = some (if kₓ = 5 then nI 1 else nI 0, T) := wrd_M h2 (show 5 < 18 by omega)
  -- the referenceₓ settles 10
  have hR' : Rn nₓ bₓ Sₓ T fₓ iₓ kₓ pₓ eₓ numₓ cx (Qₓ ++ Pₓ) (om + n9 Qₓ) br gₓ (cx ++ mpₓ Qₓ) (List.replicate mₓ 10 ++ (List.replicate jₓ 11 ++ P0ₓ)) om := by rw [← eP]; exact hR
  obtain ⟨T1, s1ₓ, s2ₓ, s3ₓ⟩ := hR'.set (by omega) (by omega) (by omega) (by omega) (fun qₓ => by omega) (by omega) (by omega)
  rw [if_neg (show ¬ 10 = 9 by omega)] at s3ₓ
  have s1' : fX8_settles T (10 : Int32) = some (nI 0, T1) := s1ₓ
  have ty1 : Tyₓ dₓ (cx ++ mpₓ Qₓ ++ List.replicate mₓ (10, 0)) (List.replicate (jₓ + nkP P0ₓ + 1) 1) := Tyₓ.bo (Or.inl rfl) mₓ (by rw [show jₓ + nkP P0ₓ + 1 + mₓ = nkP Pₓ + 1 by omega]; exact hTy)
  have eC1 : cx ++ mpₓ Qₓ ++ List.replicate mₓ (10, 0) = cx ++ mpₓ (Qₓ ++ List.replicate mₓ 10) := by rw [mp_app, mp_rep, List.append_assoc]
  have eW1 : Qₓ ++ Pₓ = (Qₓ ++ List.replicate mₓ 10) ++ (List.replicate jₓ 11 ++ P0ₓ) := by rw [eP, List.append_assoc]
  have n1ₓ : n9 (Qₓ ++ List.replicate mₓ 10) = n9 Qₓ := by
    rw [n9_app]
    obtain rfl | rfl : mₓ = 0 ∨ mₓ = 1 := by omega
    all_goals rfl
  have l1 : (Qₓ ++ List.replicate mₓ 10).length = Qₓ.length + mₓ := by rw [List.length_append, List.length_replicate]
  have r1ₓ : ∀ xₓ ∈ Qₓ ++ List.replicate mₓ 10, 2 ≤ rk xₓ ∧ xₓ ≠ 12 := by
    intro xₓ hx
    rcases List.mem_append.1 hx with qₓ | qₓ
    · have := hQ xₓ qₓ
      exact ⟨by omega, this.2⟩
    · have := (List.mem_replicate.1 qₓ).2
      subst this
      decide
  by_cases k6ₓ : kₓ = 6
  · rw [eC1] at s3ₓ ty1
    rw [eW1, ← n1ₓ] at s3ₓ
    have hW : ∀ xₓ l, List.replicate jₓ 11 ++ P0ₓ = xₓ :: l → rk xₓ < 2 := by
      intro xₓ l qₓ
      rw [qₓ] at hd1 hP1
      have zₓ : 11 ≤ xₓ := hd1
      have z2 := hP1.1.2.1
      obtain rfl | rfl : xₓ = 11 ∨ xₓ = 12 := by omega
      all_goals decide
    obtain ⟨S2, T2, f2ₓ, k2ₓ, p2', e2ₓ, num2, z1, z2, z3, z4, z5, z6, z7, z9, z11, z10⟩ := ao_go (aₓ := 10) s3ₓ ht (Or.inl rfl) k6ₓ.symm r1ₓ hW (by omega) (by omega) (by omega)
    have z2' : fX8_waits T1 (10 : Int32) = some (nI 0, waM T1 (List.replicate jₓ 11 ++ P0ₓ).length (nI 10)) := z2
    have hMₓ : fX8_readAny_9_b (fX8_readAny_9 gf) T (nI br) (nI 0) = fX8_readAny_9 gf T2 (nI br) (nI 1) := by
      unfold fX8_readAny_9_b
      rw [if_pos (show nI 0 = 0 from rfl), w6ₓ, bnd_e, if_pos k6ₓ, if_neg (show ¬ nI 1 = 0 by decide), s1', bnd_e, z2', bnd_e, z3, bnd_e]
      rfl
    rw [hMₓ]
    have b1 := c10ₓ (List.replicate jₓ 11 ++ P0ₓ)
    refine Resₓ.pre (ih1 S2 T2 f2ₓ (iₓ + 1) k2ₓ p2' e2ₓ num2 br om (10 :: (List.replicate jₓ 11 ++ P0ₓ)) z6 ⟨_, z7, z9, z11, by omega, by omega, ⟨⟨by omega, by omega, fun _ => hd1, fun qₓ => by omega⟩, hP1⟩, by omega, ?_⟩) z1 z4 (s2ₓ.tr z5) z10
    rw [show nkP (10 :: (List.replicate jₓ 11 ++ P0ₓ)) = jₓ + nkP P0ₓ + 1 by omega]
    exact ty1
  · -- then 11
    obtain ⟨T2, s4ₓ, s5, s6ₓ⟩ := s3ₓ.set (by omega) (by omega) (by omega) (by omega) (fun qₓ => by omega) (by omega) (by rw [List.length_append, List.length_replicate]; omega)
    rw [if_neg (show ¬ 11 = 9 by omega)] at s6ₓ
    have s4' : fX8_settles T1 (11 : Int32) = some (nI 0, T2) := s4ₓ
    have ty2 : Tyₓ dₓ (cx ++ mpₓ Qₓ ++ List.replicate mₓ (10, 0) ++ List.replicate jₓ (11, 0)) (List.replicate (nkP P0ₓ + 1) 1) := Tyₓ.bo (Or.inr rfl) jₓ (by rw [show nkP P0ₓ + 1 + jₓ = jₓ + nkP P0ₓ + 1 by omega]; exact ty1)
    have eC2 : cx ++ mpₓ Qₓ ++ List.replicate mₓ (10, 0) ++ List.replicate jₓ (11, 0) = cx ++ mpₓ (Qₓ ++ List.replicate mₓ 10 ++ List.replicate jₓ 11) := by rw [eC1, mp_app (Qₓ ++ List.replicate mₓ 10), mp_rep jₓ, List.append_assoc]
    have eW2 : Qₓ ++ Pₓ = (Qₓ ++ List.replicate mₓ 10 ++ List.replicate jₓ 11) ++ P0ₓ := by rw [eW1, ← List.append_assoc]
    have n2ₓ : n9 (Qₓ ++ List.replicate mₓ 10 ++ List.replicate jₓ 11) = n9 Qₓ := by
      rw [n9_app, n1ₓ]
      obtain rfl | rfl : jₓ = 0 ∨ jₓ = 1 := by omega
      all_goals rfl
    have l2 : (Qₓ ++ List.replicate mₓ 10 ++ List.replicate jₓ 11).length = Qₓ.length + mₓ + jₓ := by rw [List.length_append, l1, List.length_replicate]
    have r2 : ∀ xₓ ∈ Qₓ ++ List.replicate mₓ 10 ++ List.replicate jₓ 11, 1 ≤ rk xₓ ∧ xₓ ≠ 12 := by
      intro xₓ hx
      rcases List.mem_append.1 hx with qₓ | qₓ
      · have := r1ₓ xₓ qₓ
        exact ⟨by omega, this.2⟩
      · have := (List.mem_replicate.1 qₓ).2
        subst this
        decide
    rw [eC2] at s6ₓ ty2
    rw [eW2, ← n2ₓ] at s6ₓ
    by_cases k5ₓ : kₓ = 5
    · have hW : ∀ xₓ l, P0ₓ = xₓ :: l → rk xₓ < 1 := by
        intro xₓ l qₓ
        rw [qₓ] at hd0
        have zₓ : xₓ = 12 := hd0
        subst zₓ
        decide
      obtain ⟨S2, T3, f2ₓ, k2ₓ, p2', e2ₓ, num2, z1, z2, z3, z4, z5, z6, z7, z9, z11, z10⟩ := ao_go (aₓ := 11) s6ₓ ht (Or.inr rfl) k5ₓ.symm r2 hW (by omega) (by omega) (by omega)
      have z2' : fX8_waits T2 (11 : Int32) = some (nI 0, waM T2 P0ₓ.length (nI 11)) := z2
      have hMₓ : fX8_readAny_9_b (fX8_readAny_9 gf) T (nI br) (nI 0) = fX8_readAny_9 gf T3 (nI br) (nI 1) := by
        unfold fX8_readAny_9_b
        rw [if_pos (show nI 0 = 0 from rfl), w6ₓ, bnd_e, if_neg k6ₓ, if_pos (show nI 0 = 0 from rfl), w5, bnd_e, if_pos k5ₓ, if_neg (show ¬ nI 1 = 0 by decide), s1', bnd_e, s4', bnd_e, z2', bnd_e, z3, bnd_e]
        rfl
      rw [hMₓ]
      have b1 := c11ₓ P0ₓ
      refine Resₓ.pre (ih1 S2 T3 f2ₓ (iₓ + 1) k2ₓ p2' e2ₓ num2 br om (11 :: P0ₓ) z6 ⟨_, z7, z9, z11, by omega, by omega, ⟨⟨by omega, by omega, fun qₓ => by omega, fun _ => hd0⟩, hP0⟩, by omega, ?_⟩) z1 z4 ((s2ₓ.tr s5).tr z5) z10
      rw [show nkP (11 :: P0ₓ) = nkP P0ₓ + 1 by omega]
      exact ty2
    · have hM0 : fX8_readAny_9_b (fX8_readAny_9 gf) T (nI br) (nI 0) = (if nI br = 0 then some ((0 : Int32), T2) else bnd (fX8_isSign T2 (41 : Int32)) fun r_13 S_14 => (if r_13 = 0 then bnd (fX8_errs S_14 (1 : Int32)) fun r_23 S_24 => some (r_23, S_24) else ltm (mset S_14 0 31 ((S_14 0 31) - (1 : Int32))) fun S_16 => lti (nI br - (1 : Int32)) fun x1_17 => ltm (mset S_16 0 29 ((S_16 0 29) - (1 : Int32))) fun S_18 => bnd (fX8_settles S_18 (9 : Int32)) fun _ S_20 => bnd (fX8_reads S_20) fun _ S_22 => fX8_readAny_9 gf S_22 x1_17 (nI 0))) := by
        unfold fX8_readAny_9_b
        rw [if_pos (show nI 0 = 0 from rfl), w6ₓ, bnd_e, if_neg k6ₓ, if_pos (show nI 0 = 0 from rfl), w5, bnd_e, if_neg k5ₓ, if_pos (show nI 0 = 0 from rfl), s1', bnd_e, s4', bnd_e]
      rw [hM0]
      by_cases b0 : br = 0
      · -- the end of the claims
        have P0n : P0ₓ = [] := by
          cases P0ₓ with
          | nil => rfl
          | cons xₓ l =>
            have zₓ : xₓ = 12 := hd0
            subst zₓ
            have := (c12ₓ l).2.2.1
            omega
        subst P0n
        rw [if_pos (show nI br = 0 by rw [b0]; rfl)]
        have om0 : om = 0 := by rw [ho, u1ₓ]; rfl
        rw [List.append_nil, b0, om0, Nat.zero_add] at s6ₓ
        exact Or.inr ⟨Sₓ, T2, fₓ, iₓ, kₓ, pₓ, eₓ, numₓ, rfl, s2ₓ.tr s5, FXₓ.rf Sₓ, rfl, rfl, cx, _, s6ₓ, ht, ty2, r2, by omega, by omega, k5ₓ, k6ₓ⟩
      · rw [if_neg (show ¬ nI br = 0 by rw [show (0 : Int32) = nI 0 from rfl, nI_eq (by omega) (by omega)]; exact b0)]
        obtain ⟨y1, y2, -, -, y5, y6, -, -⟩ := id s6ₓ
        have s41 : fX8_isSign T2 (41 : Int32) = some (if kₓ = 24 then nI 1 else nI 0, T2) := sgn_M y2 (show 6 < 10 by omega)
        rw [s41, bnd_e]
        by_cases k24 : kₓ = 24
        · cases P0ₓ with
          | nil =>
            have : nbP ([] : List Nat) = 0 := rfl
            omega
          | cons xₓ P3 =>
            have zₓ : xₓ = 12 := hd0
            subst zₓ
            obtain ⟨m', P2ₓ, e3ₓ, a2, a3, a4, a5, a6⟩ := nine_split P3 hP0.2
            have b1 := c12ₓ P3
            have l3 : P3.length = m' + P2ₓ.length := by rw [e3ₓ, List.length_append, List.length_replicate]
            have l4 : (12 :: P3).length = P3.length + 1 := List.length_cons
            rw [e3ₓ] at s6ₓ
            obtain ⟨S2, T3, T4, f2ₓ, k2ₓ, p2', e2ₓ, num2, z1, z2, z3, z4, z5, z6, z7, z9, z10⟩ := close_go s6ₓ ht k24 r2 (by omega) (by omega) (by omega) (by omega) a2
            obtain ⟨-, t31, -, t29, -⟩ := id y6
            have v1ₓ : T2 0 31 - (1 : Int32) = nI (m' + P2ₓ.length) := by
              rw [t31, l4, l3, show (1 : Int32) = nI 1 from rfl, pk_sub (by omega)]; rfl
            have v2 : (mset T2 0 31 (nI (m' + P2ₓ.length))) 0 29 - (1 : Int32) = nI (om - 1) := by
              rw [ms_at, if_neg (by omega), t29]
              show nI om - nI 1 = nI (om - 1)
              exact pk_sub (by omega)
            have v3 : nI br - (1 : Int32) = nI (br - 1) := by
              show nI br - nI 1 = nI (br - 1)
              exact pk_sub (by omega)
            have z2' : fX8_settles (mset (mset T2 0 31 (nI (m' + P2ₓ.length))) 0 29 (nI (om - 1))) (9 : Int32) = some (nI 0, T3) := z2
            rw [if_pos k24, if_neg (show ¬ nI 1 = 0 by decide), ltm_e, lti_e, ltm_e, v1ₓ, v2, v3, z2', bnd_e, z3, bnd_e]
            have eC3 : cx ++ mpₓ (Qₓ ++ List.replicate mₓ 10 ++ List.replicate jₓ 11) ++ List.replicate m' (9, 0) = cx ++ mpₓ (Qₓ ++ List.replicate mₓ 10 ++ List.replicate jₓ 11) ++ mpₓ (List.replicate m' 9) := by rw [mp_rep]
            have ty3 : Tyₓ dₓ (cx ++ mpₓ (Qₓ ++ List.replicate mₓ 10 ++ List.replicate jₓ 11) ++ List.replicate m' (9, 0)) (List.replicate (nkP (12 :: P3) + 1) 1) := Tyₓ.n9 m' ty2
            rw [eC3] at z7 ty3
            refine Resₓ.pre (ih0 S2 T4 f2ₓ (iₓ + 1) k2ₓ p2' e2ₓ num2 (br - 1) (om - 1 - m') P2ₓ z6 ⟨cx ++ mpₓ (Qₓ ++ List.replicate mₓ 10 ++ List.replicate jₓ 11), List.replicate m' 9, ?_, (take_d z9 (by omega)).trans (by rfl), by omega, by omega, a3, ?_, ?_, ?_, ?_, a2⟩) z1 z4 ((s2ₓ.tr s5).tr z5) z10
            · rw [n9_rep, Nat.sub_add_cancel (by omega)]
              exact z7
            · rw [n9_rep]; omega
            · rw [show nkP P2ₓ = nkP (12 :: P3) by omega]
              exact ty3
            · rw [List.length_replicate]; omega
            · intro xₓ hx
              have := (List.mem_replicate.1 hx).2
              subst this
              decide
        · rw [if_neg k24, if_pos (show nI 0 = 0 from rfl), oeta]
          have tx : fX3_take Sₓ = some (nI 1, Sₓ) := by
            obtain ⟨-, -, -, -, x5ₓ, -⟩ := id h5
            rw [ht]
            unfold fX3_takeAfterClaim fX3_takeAfterClaim_68
            rw [q8ₓ, x5ₓ, if_neg (show ¬ nI kₓ = 6 by rw [show (6 : Int32) = nI 6 from rfl, nI_eq (by omega) (by omega)]; exact k6ₓ), if_neg (show ¬ nI kₓ = 5 by rw [show (5 : Int32) = nI 5 from rfl, nI_eq (by omega) (by omega)]; exact k5ₓ), if_neg (show ¬ nI kₓ = 24 by rw [show (24 : Int32) = nI 24 from rfl, nI_eq (by omega) (by omega)]; exact k24), if_neg (show ¬ nI br = 0 by rw [show (0 : Int32) = nI 0 from rfl, nI_eq (by omega) (by omega)]; exact b0), ite_self]
            rfl
          exact Resₓ.pre (Resₓ.err y2 (show 1 ≤ 1 ∧ 1 ≤ 3 by omega) rfl (XT_err tx (by omega) q6ₓ (FXₓ.rf Sₓ))) rfl (FXₓ.rf Sₓ) (s2ₓ.tr s5) rfl
theorem any_loop {nₓ : Nat} {bₓ : Nat → Nat} {dₓ : List (Nat × Nat)} {gₓ : Prg} : ∀ (gf : Nat) (Sₓ T : Mem) (fₓ iₓ kₓ pₓ eₓ numₓ br om : Nat) (Pₓ : List Nat), nₓ - pₓ < gf → pₓ ≤ nₓ → (CS nₓ bₓ dₓ br om gₓ Pₓ Sₓ T fₓ iₓ kₓ pₓ eₓ numₓ → Resₓ Sₓ T (XT fₓ Sₓ iₓ) (fX8_readAny_9 gf T (nI br) (nI 1)) (FiT nₓ bₓ dₓ gₓ)) ∧ (ACₓ nₓ bₓ dₓ br om gₓ Pₓ Sₓ T fₓ iₓ kₓ pₓ eₓ numₓ → Resₓ Sₓ T (XT fₓ Sₓ iₓ) (fX8_readAny_9 gf T (nI br) (nI 0)) (FiT nₓ bₓ dₓ gₓ)) := by
  intro gf
  induction gf with
  | zero => intro Sₓ T fₓ iₓ kₓ pₓ eₓ numₓ br om Pₓ hₓ; omega
  | succ gf ihₓ =>
    intro Sₓ T fₓ iₓ kₓ pₓ eₓ numₓ br om Pₓ hg hp
    have i1ₓ : ∀ (S' T' : Mem) (f' i' k' p' e' num' br' om' : Nat) (P'ₓ : List Nat), pₓ < p' → CS nₓ bₓ dₓ br' om' gₓ P'ₓ S' T' f' i' k' p' e' num' → Resₓ S' T' (XT f' S' i') (fX8_readAny_9 gf T' (nI br') (nI 1)) (FiT nₓ bₓ dₓ gₓ) := by
      intro S' T' f' i' k' p' e' num' br' om' P'ₓ pp hC
      have : p' ≤ nₓ := by obtain ⟨cx, hR, -⟩ := id hC; exact hR.2.1.2.1
      exact (ihₓ S' T' f' i' k' p' e' num' br' om' P'ₓ (by omega) this).1 hC
    have i0ₓ : ∀ (S' T' : Mem) (f' i' k' p' e' num' br' om' : Nat) (P'ₓ : List Nat), pₓ < p' → ACₓ nₓ bₓ dₓ br' om' gₓ P'ₓ S' T' f' i' k' p' e' num' → Resₓ S' T' (XT f' S' i') (fX8_readAny_9 gf T' (nI br') (nI 0)) (FiT nₓ bₓ dₓ gₓ) := by
      intro S' T' f' i' k' p' e' num' br' om' P'ₓ pp hC
      have : p' ≤ nₓ := by obtain ⟨cx, Qₓ, hR, -⟩ := id hC; exact hR.2.1.2.1
      exact (ihₓ S' T' f' i' k' p' e' num' br' om' P'ₓ (by omega) this).2 hC
    refine ⟨fun hC => ?_, fun hC => ?_⟩
    · show Resₓ Sₓ T (XT fₓ Sₓ iₓ) (fX8_readAny_9_b (fX8_readAny_9 gf) T (nI br) (nI 1)) _
      by_cases hop : kₓ = 7 ∨ kₓ = 23
      · exact cs_open hC hop i1ₓ
      · exact cs_cmp hC hop i0ₓ
    · exact ac_step hC i1ₓ i0ₓ
