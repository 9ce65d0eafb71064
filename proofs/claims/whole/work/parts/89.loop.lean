/-! text: the loop over claims -/
def CS (nₓ : Nat) (bₓ : Nat → Nat) (dₓ : List (Nat × Nat)) (br om : Nat) (gₓ : Prg) (Pₓ : List Nat) (Sₓ T : Mem) (fₓ iₓ kₓ pₓ eₓ numₓ : Nat) : Prop := ∃ cx, Rn nₓ bₓ Sₓ T fₓ iₓ kₓ pₓ eₓ numₓ cx Pₓ om br gₓ cx Pₓ om ∧ Sₓ 38 9 = nI 2 ∧ Sₓ 38 11 = nI 0 ∧ om = noP Pₓ ∧ br = nbP Pₓ ∧ okP Pₓ ∧ om ≤ 8 ∧ Tyₓ dₓ cx (List.replicate (nkP Pₓ) 1)
def ACₓ (nₓ : Nat) (bₓ : Nat → Nat) (dₓ : List (Nat × Nat)) (br om : Nat) (gₓ : Prg) (Pₓ : List Nat) (Sₓ T : Mem) (fₓ iₓ kₓ pₓ eₓ numₓ : Nat) : Prop := ∃ cx Qₓ, Rn nₓ bₓ Sₓ T fₓ iₓ kₓ pₓ eₓ numₓ cx (Qₓ ++ Pₓ) (om + n9 Qₓ) br gₓ (cx ++ mpₓ Qₓ) Pₓ om ∧ fX3_take Sₓ = fX3_takeAfterClaim Sₓ ∧ om = noP Pₓ ∧ br = nbP Pₓ ∧ okP Pₓ ∧ om + n9 Qₓ ≤ 8 ∧ Tyₓ dₓ (cx ++ mpₓ Qₓ) (List.replicate (nkP Pₓ + 1) 1) ∧ Qₓ.length ≤ 11 ∧ (∀ xₓ ∈ Qₓ, 3 ≤ rk xₓ ∧ xₓ ≠ 12) ∧ Pₓ.headD 12 ≠ 9
def FiT (nₓ : Nat) (bₓ : Nat → Nat) (dₓ : List (Nat × Nat)) (gₓ : Prg) (Sₓ T : Mem) (fₓ iₓ kₓ pₓ eₓ numₓ : Nat) : Prop := ∃ cx V, Rn nₓ bₓ Sₓ T fₓ iₓ kₓ pₓ eₓ numₓ cx V (n9 V) 0 gₓ (cx ++ mpₓ V) [] 0 ∧ fX3_take Sₓ = fX3_takeAfterClaim Sₓ ∧ Tyₓ dₓ (cx ++ mpₓ V) [1] ∧ (∀ xₓ ∈ V, 1 ≤ rk xₓ ∧ xₓ ≠ 12) ∧ V.length < 40 ∧ n9 V ≤ 8 ∧ kₓ ≠ 5 ∧ kₓ ≠ 6
theorem cs_open {nₓ : Nat} {bₓ : Nat → Nat} {dₓ : List (Nat × Nat)} {br om : Nat} {gₓ : Prg} {Pₓ : List Nat} {Sₓ T : Mem} {fₓ iₓ kₓ pₓ eₓ numₓ gf : Nat} (hC : CS nₓ bₓ dₓ br om gₓ Pₓ Sₓ T fₓ iₓ kₓ pₓ eₓ numₓ) (hop : kₓ = 7 ∨ kₓ = 23) (ihₓ : ∀ (S' T' : Mem) (f' i' k' p' e' num' br' om' : Nat) (P'ₓ : List Nat), pₓ < p' → CS nₓ bₓ dₓ br' om' gₓ P'ₓ S' T' f' i' k' p' e' num' → Resₓ S' T' (XT f' S' i') (fX8_readAny_9 gf T' (nI br') (nI 1)) (FiT nₓ bₓ dₓ gₓ)) : Resₓ Sₓ T (XT fₓ Sₓ iₓ) (fX8_readAny_9_b (fX8_readAny_9 gf) T (nI br) (nI 1)) (FiT nₓ bₓ dₓ gₓ) := by
  obtain ⟨cx, hR, h9, h11, ho, hbₓ, hP, h8o, hTy⟩ := hC
  obtain ⟨p1ₓ, p2ₓ, p3ₓ, p4ₓ, p5ₓ⟩ := okP_len Pₓ hP
  obtain ⟨h1, h2, h3, h4, h5, h6, h7, h8⟩ := id hR
  obtain ⟨-, q2ₓ, q3ₓ, q4ₓ, q5ₓ, q6ₓ, q7ₓ, q8ₓ, q9ₓ, q10ₓ, -⟩ := id h2
  obtain ⟨-, x2ₓ, x3, x4ₓ, x5ₓ, -⟩ := id h5
  obtain ⟨-, m2ₓ, m3ₓ, m4ₓ, -⟩ := id h6
  have w7ₓ : fX8_isWord T (7 : Int32) = some (if kₓ = 7 then nI 1 else nI 0, T) := wrd_M h2 (show 7 < 18 by omega)
  have s40 : fX8_isSign T (40 : Int32) = some (if kₓ = 23 then nI 1 else nI 0, T) := sgn_M h2 (show 5 < 10 by omega)
  obtain ⟨aₓ, haₓ, hak⟩ : ∃ aₓ, (aₓ = 9 ∨ aₓ = 12) ∧ xsg aₓ = kₓ := by
    rcases hop with qₓ | qₓ
    · exact ⟨9, Or.inl rfl, qₓ.symm⟩
    · exact ⟨12, Or.inr rfl, qₓ.symm⟩
  have hMₓ : fX8_readAny_9_b (fX8_readAny_9 gf) T (nI br) (nI 1) = fX8_readAny_33 (fX8_readAny_9 gf) T (nI br) (nI 1) (if aₓ = 12 then nI 0 else nI 1) := by
    unfold fX8_readAny_9_b
    rw [if_neg (show ¬ nI 1 = 0 by decide), w7ₓ, bnd_e]
    rcases haₓ with rfl | rfl
    · have hk : kₓ = 7 := hak.symm
      rw [if_pos hk, if_neg (show ¬ nI 1 = 0 by decide), if_neg (show ¬ 9 = 12 by omega)]
    · have hk : kₓ = 23 := hak.symm
      rw [if_neg (show ¬ kₓ = 7 by omega), if_pos (show nI 0 = 0 from rfl), s40, bnd_e, if_pos hk, if_neg (show ¬ nI 1 = 0 by decide), if_pos (show 12 = 12 from rfl)]
  rw [hMₓ]
  by_cases o8ₓ : om = 8
  · have er : fX8_readAny_33 (fX8_readAny_9 gf) T (nI br) (nI 1) (if aₓ = 12 then nI 0 else nI 1) = fX8_errs T (nI 3) := by
      unfold fX8_readAny_33
      rw [m4ₓ, o8ₓ, if_pos (show nI 8 = 8 from rfl), oeta]
      rfl
    have tx : fX3_take Sₓ = some (nI 3, Sₓ) := by
      rw [take_d h9 (by omega), if_neg (by omega), if_neg (by omega), if_pos rfl]
      unfold fX3_takeClaim fX3_takeClaim_23
      rw [q8ₓ, ← hak, x4ₓ, o8ₓ, if_neg (show ¬ nI 8 < 8 by decide)]
      rcases haₓ with rfl | rfl <;> rfl
    exact Resₓ.err h2 (show 1 ≤ 3 ∧ 3 ≤ 3 by omega) er (XT_err tx (by omega) q6ₓ (FXₓ.rf Sₓ))
  · obtain ⟨S2, T2, f2ₓ, k2ₓ, p2', e2ₓ, num2, z1, z2, z3, z4, z5, z6, z7, z9, z11, z10⟩ := op_open hR h9 haₓ hak (by omega) (show om < 8 by omega) (by omega)
    have e1ₓ : nI om + (1 : Int32) = nI (om + 1) := nI_add om 1
    have e2' : nI br + (1 : Int32) = nI (br + 1) := nI_add br 1
    have n8 : ¬ nI om = 8 := by rw [show (8 : Int32) = nI 8 from rfl, nI_eq (by omega) (by omega)]; exact o8ₓ
    have er : fX8_readAny_33 (fX8_readAny_9 gf) T (nI br) (nI 1) (if aₓ = 12 then nI 0 else nI 1) = fX8_readAny_9 gf T2 (nI (if aₓ = 12 then br + 1 else br)) (nI 1) := by
      unfold fX8_readAny_33 fX8_readAny_66 fX8_readAny_78
      rw [m4ₓ, if_neg n8, e1ₓ, ltm_e]
      rcases haₓ with rfl | rfl
      · rw [if_neg (show ¬ 9 = 12 by omega), if_neg (show ¬ nI 1 = 0 by decide), if_neg (show ¬ nI 1 = 0 by decide), show (9 : Int32) = nI 9 from rfl, z2, bnd_e, z3, bnd_e, if_neg (show ¬ 9 = 12 by omega)]
      · rw [if_pos (show 12 = 12 from rfl), if_pos (show nI 0 = 0 from rfl), lti_e, if_pos (show nI 0 = 0 from rfl), e2', show (12 : Int32) = nI 12 from rfl, z2, bnd_e, z3, bnd_e, if_pos (show 12 = 12 from rfl)]
    rw [er]
    refine Resₓ.pre (ihₓ S2 T2 f2ₓ (iₓ + 1) k2ₓ p2' e2ₓ num2 _ (om + 1) (aₓ :: Pₓ) z6 ⟨cx, z7, z9, z11.trans h11, ?_, ?_, ?_, by omega, ?_⟩) z1 z4 z5 z10
    · rcases haₓ with rfl | rfl
      · have := (c9ₓ Pₓ).1; omega
      · have := (c12ₓ Pₓ).1; omega
    · rcases haₓ with rfl | rfl
      · have := (c9ₓ Pₓ).2.2.1
        rw [if_neg (show ¬ 9 = 12 by omega)]
        omega
      · have := (c12ₓ Pₓ).2.2.1
        rw [if_pos (show 12 = 12 from rfl)]
        omega
    · exact ⟨⟨by omega, by omega, fun qₓ => by omega, fun qₓ => by omega⟩, hP⟩
    · have : nkP (aₓ :: Pₓ) = nkP Pₓ := by
        rcases haₓ with rfl | rfl
        · have := (c9ₓ Pₓ).2.1; omega
        · have := (c12ₓ Pₓ).2.1; omega
      rw [this]
      exact hTy
theorem cs_cmp {nₓ : Nat} {bₓ : Nat → Nat} {dₓ : List (Nat × Nat)} {br om : Nat} {gₓ : Prg} {Pₓ : List Nat} {Sₓ T : Mem} {fₓ iₓ kₓ pₓ eₓ numₓ gf : Nat} (hC : CS nₓ bₓ dₓ br om gₓ Pₓ Sₓ T fₓ iₓ kₓ pₓ eₓ numₓ) (hop : ¬ (kₓ = 7 ∨ kₓ = 23)) (ihₓ : ∀ (S' T' : Mem) (f' i' k' p' e' num' br' om' : Nat) (P'ₓ : List Nat), pₓ < p' → ACₓ nₓ bₓ dₓ br' om' gₓ P'ₓ S' T' f' i' k' p' e' num' → Resₓ S' T' (XT f' S' i') (fX8_readAny_9 gf T' (nI br') (nI 0)) (FiT nₓ bₓ dₓ gₓ)) : Resₓ Sₓ T (XT fₓ Sₓ iₓ) (fX8_readAny_9_b (fX8_readAny_9 gf) T (nI br) (nI 1)) (FiT nₓ bₓ dₓ gₓ) := by
  obtain ⟨cx, hR, h9, h11, ho, hbₓ, hP, h8o, hTy⟩ := hC
  obtain ⟨p1ₓ, p2ₓ, p3ₓ, p4ₓ, p5ₓ⟩ := okP_len Pₓ hP
  obtain ⟨h1, h2, h3, h4, h5, h6, h7, h8⟩ := id hR
  obtain ⟨-, q2ₓ, q3ₓ, q4ₓ, q5ₓ, q6ₓ, q7ₓ, q8ₓ, q9ₓ, q10ₓ, -⟩ := id h2
  have w7ₓ : fX8_isWord T (7 : Int32) = some (if kₓ = 7 then nI 1 else nI 0, T) := wrd_M h2 (show 7 < 18 by omega)
  have s40 : fX8_isSign T (40 : Int32) = some (if kₓ = 23 then nI 1 else nI 0, T) := sgn_M h2 (show 5 < 10 by omega)
  have tu : fX3_take Sₓ = fX3_takeUnit Sₓ := by
    rw [take_d h9 (by omega), if_neg (by omega), if_neg (by omega), if_pos rfl]
    unfold fX3_takeClaim
    rw [q8ₓ, if_neg (show ¬ nI kₓ = 7 by rw [show (7 : Int32) = nI 7 from rfl, nI_eq (by omega) (by omega)]; omega), if_neg (show ¬ nI kₓ = 23 by rw [show (23 : Int32) = nI 23 from rfl, nI_eq (by omega) (by omega)]; omega), oeta]
  have hMₓ : fX8_readAny_9_b (fX8_readAny_9 gf) T (nI br) (nI 1) = bnd (fX8_readCompared T) fun r_45 S_46 => (if r_45 = (-1 : Int32) then some ((-1 : Int32), S_46) else bnd (fX8_settles S_46 (9 : Int32)) fun _ S_49 => fX8_readAny_9 gf S_49 (nI br) (0 : Int32)) := by
    unfold fX8_readAny_9_b
    rw [if_neg (show ¬ nI 1 = 0 by decide), w7ₓ, bnd_e, if_neg (show ¬ kₓ = 7 by omega), if_pos (show nI 0 = 0 from rfl), s40, bnd_e, if_neg (show ¬ kₓ = 23 by omega), if_pos (show nI 0 = 0 from rfl)]
  rw [hMₓ]
  have hcₓ := cmp_both (dₓ := dₓ) (stₓ := List.replicate (nkP Pₓ) 1) (W0ₓ := Pₓ) (fun xₓ l qₓ => (okP_rk Pₓ hP xₓ (by rw [qₓ]; exact List.mem_cons_self)).1) (by omega) (by omega) (by rw [List.length_replicate]; omega) hR tu h11 hTy
  refine hcₓ.seq (fun T' qₓ => ?_) (fun S3 T3 f3ₓ i3ₓ k3ₓ p3ₓ e3ₓ num3 m1ₓ m3ₓ m4ₓ vₓ => ?_)
  · rw [qₓ, bnd_e, if_pos (show -nI 1 = -1 from rfl)]
    rfl
  · obtain ⟨⟨cx1, Dₓ, c1ₓ, c2ₓ, c3ₓ, c4ₓ, c5ₓ, c6ₓ⟩, pp⟩ := vₓ
    obtain ⟨mₓ, P2ₓ, eP, a2, a3, a4, a5, a6⟩ := nine_split Pₓ hP
    have lP : Pₓ.length = mₓ + P2ₓ.length := by rw [eP, List.length_append, List.length_replicate]
    have hlen := c1ₓ.len
    have lmp : (cx1 ++ mpₓ Dₓ).length = cx1.length + Dₓ.length := by unfold mpₓ; rw [List.length_append, List.length_map]
    have lW : (Dₓ ++ Pₓ).length = Dₓ.length + Pₓ.length := List.length_append
    have c1' : Rn nₓ bₓ S3 T3 f3ₓ i3ₓ k3ₓ p3ₓ e3ₓ num3 cx1 (Dₓ ++ Pₓ) om br gₓ (cx1 ++ mpₓ Dₓ) (List.replicate mₓ 9 ++ P2ₓ) om := by rw [← eP]; exact c1ₓ
    obtain ⟨T4, s1ₓ, s2ₓ, s3ₓ⟩ := c1'.set (by omega) a2 (by omega) (by omega) (fun _ => by omega) (by omega) (by omega)
    rw [if_pos rfl] at s3ₓ
    have s1' : fX8_settles T3 (9 : Int32) = some (nI 0, T4) := s1ₓ
    refine ⟨T4, s2ₓ, ?_⟩
    rw [m1ₓ, bnd_e, if_neg (show ¬ nI 0 = -1 by decide), s1', bnd_e]
    have n9Q : n9 (Dₓ ++ List.replicate mₓ 9) = mₓ := by rw [n9_app, n9_rep]; omega
    have eW : Dₓ ++ Pₓ = (Dₓ ++ List.replicate mₓ 9) ++ P2ₓ := by rw [eP, List.append_assoc]
    have eCₓ : cx1 ++ mpₓ Dₓ ++ List.replicate mₓ (9, 0) = cx1 ++ mpₓ (Dₓ ++ List.replicate mₓ 9) := by rw [mp_app, mp_rep, List.append_assoc]
    have c3' : Tyₓ dₓ (cx1 ++ mpₓ Dₓ ++ List.replicate mₓ (9, 0)) (List.replicate (nkP Pₓ + 1) 1) := Tyₓ.n9 mₓ c3ₓ
    rw [eW, eCₓ] at s3ₓ
    rw [eCₓ, a5] at c3'
    refine ihₓ S3 T4 f3ₓ i3ₓ k3ₓ p3ₓ e3ₓ num3 br (om - mₓ) P2ₓ pp ⟨cx1, Dₓ ++ List.replicate mₓ 9, ?_, c2ₓ, by omega, by omega, a3, by omega, c3', ?_, ?_, a2⟩
    · rw [n9Q, Nat.sub_add_cancel (by omega)]
      exact s3ₓ
    · rw [List.length_append, List.length_replicate]
      omega
    · intro xₓ hx
      rcases List.mem_append.1 hx with qₓ | qₓ
      · have := c6ₓ xₓ qₓ
        exact ⟨by omega, this.2⟩
      · have := (List.mem_replicate.1 qₓ).2
        subst this
        decide
