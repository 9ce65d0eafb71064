/-! text: lines -/
def MS0 (T : Mem) (cm : List (Nat × Nat)) (gₓ : Prg) : Prop := CMₓ T cm ∧ T 0 29 = nI 0 ∧ LM T gₓ
def R0ₓ (nₓ : Nat) (bₓ : Nat → Nat) (Sₓ T : Mem) (fₓ iₓ kₓ pₓ eₓ numₓ : Nat) (cx : List (Nat × Nat)) (gₓ : Prg) : Prop := Tp nₓ bₓ Sₓ T ∧ Tk nₓ 0 Sₓ T kₓ pₓ eₓ numₓ ∧ iₓ ≤ pₓ ∧ 900 ≤ fₓ + iₓ ∧ XSt Sₓ cx [] 0 0 gₓ ∧ MS0 T cx gₓ ∧ cx.length ≤ pₓ
theorem MS0.cg {T T' : Mem} {cm : List (Nat × Nat)} {gₓ : Prg} (hₓ : MS0 T cm gₓ) (h13 : T' 13 = T 13) (h14 : T' 14 = T 14) (h15 : T' 15 = T 15) (h16ₓ : T' 16 = T 16) (h17 : T' 17 = T 17) (aₓ : T' 0 28 = T 0 28) (bₓ : T' 0 29 = T 0 29) : MS0 T' cm gₓ := by
  obtain ⟨⟨c1ₓ, c2ₓ⟩, c3ₓ, l⟩ := hₓ
  exact ⟨⟨by rw [aₓ]; exact c1ₓ, fun jₓ hj => by rw [h16ₓ, h17]; exact c2ₓ jₓ hj⟩, by rw [bₓ]; exact c3ₓ, fun iₓ hiₓ => by rw [h13, h14, h15]; exact l iₓ hiₓ⟩
theorem MS0.st {T T' : Mem} {cm : List (Nat × Nat)} {gₓ : Prg} (hₓ : MS0 T cm gₓ) (h13 : T' 13 = T 13) (h14 : T' 14 = T 14) (h15 : T' 15 = T 15) (h16ₓ : T' 16 = T 16) (h17 : T' 17 = T 17) (aₓ : T' 0 28 = T 0 28) (bₓ : T' 0 29 = T 0 29) (cₓ : T' 0 31 = nI 0) : MSt T' cm [] 0 gₓ := by
  obtain ⟨d1ₓ, d2ₓ, d3ₓ⟩ := hₓ.cg h13 h14 h15 h16ₓ h17 aₓ bₓ
  exact ⟨d1ₓ, cₓ, trivial, d2ₓ, d3ₓ⟩
theorem go0 {nₓ : Nat} {bₓ : Nat → Nat} {Sₓ T S5 T5 : Mem} {fₓ iₓ kₓ pₓ eₓ numₓ : Nat} {cx : List (Nat × Nat)} {gₓ : Prg} (hTₓ : Tp nₓ bₓ S5 T5) (hk : Tk nₓ 0 Sₓ T kₓ pₓ eₓ numₓ) (hiₓ : iₓ ≤ pₓ) (hf : 900 ≤ fₓ + iₓ) (k29 : kₓ ≠ 29) (ht : fX3_take Sₓ = some (nI 0, S5)) (s5 : S5 38 5 = Sₓ 38 5) (s6ₓ : S5 38 6 = Sₓ 38 6) (t17 : T5 0 17 = T 0 17) (hX : XSt S5 cx [] 0 0 gₓ) (hMₓ : MS0 T5 cx gₓ) (hw : cx.length ≤ pₓ + 1) : ∃ S' T' f' k' p' e' num', XT fₓ Sₓ iₓ = XT f' S' (iₓ + 1) ∧ fX8_reads T5 = some (nI 0, T') ∧ FXₓ S5 S' ∧ FM T5 T' ∧ (∀ jₓ, jₓ ≠ 2 → jₓ ≠ 5 → jₓ ≠ 6 → jₓ ≠ 7 → jₓ ≠ 8 → S' 38 jₓ = S5 38 jₓ) ∧ (∀ cₓ, cₓ ≠ 0 → T' cₓ = T5 cₓ) ∧ pₓ < p' ∧ R0ₓ nₓ bₓ S' T' f' (iₓ + 1) k' p' e' num' cx gₓ := by
  obtain ⟨-, q2ₓ, q3ₓ, q4ₓ, q5ₓ, q6ₓ, q7ₓ, q8ₓ, q9ₓ, q10ₓ, -⟩ := hk
  have hpe := q10ₓ k29
  obtain ⟨fₓ, rfl⟩ : ∃ hₓ, fₓ = hₓ + 1 := ⟨fₓ - 1, by have := hTₓ.1; omega⟩
  obtain ⟨S', T', k', p', e', num', z1, z2, z3, z4, z5⟩ := XT_next (fₓ := fₓ) (iₓ := iₓ) (kₓ := kₓ) (eₓ := eₓ) ht (s6ₓ.trans q8ₓ) k29 q9ₓ (s5.trans q4ₓ) hTₓ (t17.trans q5ₓ) q3ₓ (by omega)
  have hpp : eₓ ≤ p' := z5.1
  refine ⟨S', T', fₓ, k', p', e', num', z1, z2, (FXₓ.put S5 _ (by decide)).tr z3.FX, z4.FM, fun jₓ j2ₓ j5ₓ j6ₓ j7ₓ j8ₓ => ?_, fun cₓ hcₓ => z4.1 cₓ hcₓ, by omega, z4.tp (z3.tp (hTₓ.x (by rw [ms_at, if_neg (by omega)]) (by rw [mset_ne _ _ _ (by omega)]))), z5.w, by omega, by omega, ?_, ?_, by omega⟩
  · rw [z3.2 jₓ j5ₓ j6ₓ j7ₓ j8ₓ, ms_at, if_neg (by omega)]
  · have mₓ : ∀ cₓ, cₓ ≠ 38 → S' cₓ = S5 cₓ := fun cₓ hcₓ => by rw [z3.1 cₓ hcₓ, mset_ne _ _ _ hcₓ]
    have rₓ : ∀ jₓ, 9 ≤ jₓ → S' 38 jₓ = S5 38 jₓ := fun jₓ hj => by rw [z3.2 jₓ (by omega) (by omega) (by omega) (by omega), ms_at, if_neg (by omega)]
    exact hX.cg (mₓ 40 (by omega)) (mₓ 41 (by omega)) (mₓ 42 (by omega)) (mₓ 43 (by omega)) (mₓ 45 (by omega)) (rₓ 13 (by omega)) (rₓ 14 (by omega)) (rₓ 15 (by omega))
  · have mₓ : ∀ cₓ, cₓ ≠ 0 → T' cₓ = T5 cₓ := fun cₓ hcₓ => z4.1 cₓ hcₓ
    have rₓ : ∀ jₓ, 21 ≤ jₓ → T' 0 jₓ = T5 0 jₓ := fun jₓ hj => z4.2 jₓ (by omega) (by omega) (by omega) (by omega)
    exact hMₓ.cg (mₓ 13 (by omega)) (mₓ 14 (by omega)) (mₓ 15 (by omega)) (mₓ 16 (by omega)) (mₓ 17 (by omega)) (rₓ 28 (by omega)) (rₓ 29 (by omega))
theorem off_snoc (gₓ : Prg) (qₓ : Nat × List (Nat × Nat)) {iₓ : Nat} (hₓ : iₓ ≤ gₓ.length) : off (gₓ ++ [qₓ]) iₓ = off gₓ iₓ := by
  unfold off
  rw [List.take_append_of_le_length hₓ]
theorem flt_snoc (gₓ : Prg) (qₓ : Nat × List (Nat × Nat)) : flt (gₓ ++ [qₓ]) = flt gₓ ++ qₓ.2 := by
  unfold flt
  rw [List.flatMap_append, List.flatMap_cons, List.flatMap_nil, List.append_nil]
theorem off_end (gₓ : Prg) : off gₓ gₓ.length = (flt gₓ).length := by
  unfold off flt
  rw [List.take_length, List.length_flatMap]
theorem addL_X {Sₓ : Mem} {cx : List (Nat × Nat)} {W : List Nat} {ox br act : Nat} {gₓ : Prg} {Lₓ : List (Nat × Nat)} (hₓ : XSt Sₓ cx W ox br gₓ) (hg : gₓ.length < 16) (hcₓ : cx = flt (gₓ ++ [(act, Lₓ)])) : ∃ S', fX4_addLine_40 Sₓ (nI act) = some (nI 0, S') ∧ XSt S' cx W ox br (gₓ ++ [(act, Lₓ)]) ∧ FXₓ Sₓ S' ∧ S' 38 = Sₓ 38 := by
  obtain ⟨⟨c1ₓ, c2ₓ⟩, x2ₓ, x3, x4ₓ, x5ₓ, ⟨l1, l2⟩⟩ := hₓ
  have lg : (gₓ ++ [(act, Lₓ)]).length = gₓ.length + 1 := by rw [List.length_append]; rfl
  have hcl : cx.length = off (gₓ ++ [(act, Lₓ)]) (gₓ.length + 1) := by rw [← lg, off_end, hcₓ]
  have e40 : (mset (mset (mset Sₓ 41 gₓ.length (nI act)) 42 gₓ.length (nI cx.length)) 40 4 (nI (gₓ.length + 1))) 38 = Sₓ 38 := by rw [mset_ne _ _ _ (by omega), mset_ne _ _ _ (by omega), mset_ne _ _ _ (by omega)]
  refine ⟨mset (mset (mset Sₓ 41 gₓ.length (nI act)) 42 gₓ.length (nI cx.length)) 40 4 (nI (gₓ.length + 1)), ?_, ⟨⟨?_, fun jₓ hj => ?_⟩, by rw [e40]; exact x2ₓ, x3.cg (fun jₓ _ => ?_), by rw [e40]; exact x4ₓ, by rw [e40]; exact x5ₓ, ?_, fun iₓ hiₓ => ?_⟩, ((FXₓ.put _ _ (by decide)).tr (FXₓ.put _ _ (by decide))).tr (FXₓ.put _ _ (by decide)), e40⟩
  · simp (disch := first | omega | assumption) only [fX4_addLine_40, l1, c1ₓ, mset_ne, mset_same, upd_same, upd_ne, ltm_e, lti_e, bnd_e, fa_lit, nI_add, pk_mul, nI_clamp, gd_in, nlt0, nI_ltI, nI_leI, nI_eq, if_true, if_false, if_pos, if_neg]
  · rw [ms_at, if_neg (by omega), mset_ne _ _ _ (by omega), mset_ne _ _ _ (by omega)]
    exact c1ₓ
  · rw [mset_ne _ _ _ (by omega), mset_ne _ _ _ (by omega), mset_ne _ _ _ (by omega)]
    exact c2ₓ jₓ hj
  · rw [mset_ne _ _ _ (by omega), mset_ne _ _ _ (by omega), mset_ne _ _ _ (by omega)]
  · rw [ms_at, if_pos ⟨rfl, rfl⟩, lg]
  · rw [lg] at hiₓ
    rw [mset_ne _ _ _ (show 41 ≠ 40 by omega), mset_ne _ _ _ (show 41 ≠ 42 by omega), mset_same, mset_ne _ _ _ (show 42 ≠ 40 by omega), mset_same, mset_ne _ _ _ (show 42 ≠ 41 by omega)]
    by_cases eₓ : iₓ = gₓ.length
    · rw [eₓ, upd_same, upd_same, getD_last, hcl]
      exact ⟨rfl, rfl⟩
    · rw [upd_ne _ _ eₓ, upd_ne _ _ eₓ, getD_app _ _ _ (by omega), off_snoc _ _ (by omega)]
      exact l2 iₓ (by omega)
