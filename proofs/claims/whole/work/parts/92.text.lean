/-! text: the lines of a text -/
def FL (T T' : Mem) : Prop := (∀ cₓ, cₓ ∉ [0, 13, 14, 15, 16, 17, 18] → T' cₓ = T cₓ) ∧ (∀ jₓ, jₓ ∈ [0, 3, 6, 10, 11, 16, 22, 34, 35, 46] → T' 0 jₓ = T 0 jₓ) ∧ (∀ jₓ, jₓ < 16 → T' 13 jₓ = T 13 jₓ ∧ T' 14 jₓ = T 14 jₓ ∧ T' 15 jₓ = T 15 jₓ) ∧ ∀ jₓ, jₓ < 400 → T' 16 jₓ = T 16 jₓ ∧ T' 17 jₓ = T 17 jₓ
theorem FM.fl {T T' : Mem} (hₓ : FM T T') : FL T T' := ⟨hₓ.1, hₓ.2.1, fun jₓ hj => hₓ.2.2.1 jₓ (by omega), hₓ.2.2.2⟩
theorem FL.rf (T : Mem) : FL T T := ⟨fun _ _ => rfl, fun _ _ => rfl, fun _ _ => ⟨rfl, rfl, rfl⟩, fun _ _ => ⟨rfl, rfl⟩⟩
theorem FL.tr {T T1 T2 : Mem} (hₓ : FL T T1) (h2 : FL T1 T2) : FL T T2 := ⟨fun cₓ hcₓ => (h2.1 cₓ hcₓ).trans (hₓ.1 cₓ hcₓ), fun jₓ hj => (h2.2.1 jₓ hj).trans (hₓ.2.1 jₓ hj), fun jₓ hj => ⟨(h2.2.2.1 jₓ hj).1.trans (hₓ.2.2.1 jₓ hj).1, (h2.2.2.1 jₓ hj).2.1.trans (hₓ.2.2.1 jₓ hj).2.1, (h2.2.2.1 jₓ hj).2.2.trans (hₓ.2.2.1 jₓ hj).2.2⟩, fun jₓ hj => ⟨(h2.2.2.2 jₓ hj).1.trans (hₓ.2.2.2 jₓ hj).1, (h2.2.2.2 jₓ hj).2.trans (hₓ.2.2.2 jₓ hj).2⟩⟩
theorem FL.ln (T : Mem) {cₓ jₓ : Nat} (vₓ : Int32) (hₓ : (cₓ = 13 ∨ cₓ = 14 ∨ cₓ = 15) ∧ 16 ≤ jₓ) : FL T (mset T cₓ jₓ vₓ) := by
  refine ⟨fun kₓ hk => mset_ne _ _ _ (fun eₓ => hk (by subst eₓ; simp only [List.mem_cons, List.not_mem_nil, or_false]; omega)), fun iₓ hiₓ => ?_, fun iₓ hiₓ => ⟨?_, ?_, ?_⟩, fun iₓ hiₓ => ⟨?_, ?_⟩⟩
  all_goals rw [ms_at, if_neg (by omega)]
/-- both stand at the head of a line; g has been read -/
def HT (nₓ : Nat) (bₓ : Nat → Nat) (gₓ : Prg) (Sₓ T : Mem) (fₓ iₓ kₓ pₓ eₓ numₓ : Nat) : Prop := R0ₓ nₓ bₓ Sₓ T fₓ iₓ kₓ pₓ eₓ numₓ (flt gₓ) gₓ ∧ Sₓ 38 9 = nI 0 ∧ gₓ.length ≤ 16 ∧ ∀ qₓ ∈ gₓ, wfL qₓ
/-- how a text ends: both fail alike, or both have read the same -/
def RTx (Sₓ T : Mem) (oX oM : O) : Prop := (∃ rₓ pₓ T', 1 ≤ rₓ ∧ rₓ ≤ 3 ∧ oM = some (-nI 1, T') ∧ FL T T' ∧ T' 0 32 = nI rₓ ∧ T' 0 33 = nI pₓ ∧ EXₓ Sₓ oX rₓ pₓ) ∨ (∃ S' T' g', oM = some (nI g'.length, T') ∧ FL T T' ∧ oX = some (nI 0, S') ∧ FXₓ Sₓ S' ∧ S' 38 1 = nI 0 ∧ S' 38 2 = nI 0 ∧ S' 38 3 = Sₓ 38 3 ∧ CX S' (flt g') ∧ LXₓ S' g' ∧ CMₓ T' (flt g') ∧ LM T' g' ∧ g'.length ≤ 16 ∧ (flt g').length ≤ 400 ∧ ∀ qₓ ∈ g', wfL qₓ)
theorem RTx.er {Sₓ T : Mem} {oX oM : O} {nₓ iₓ kₓ pₓ eₓ numₓ rₓ : Nat} (hk : Tk nₓ iₓ Sₓ T kₓ pₓ eₓ numₓ) (hr : 1 ≤ rₓ ∧ rₓ ≤ 3) (hMₓ : oM = fX8_errs T (nI rₓ)) (hX : EXₓ Sₓ oX rₓ pₓ) : RTx Sₓ T oX oM := by
  refine Or.inl ⟨rₓ, pₓ, erM T rₓ pₓ, hr.1, hr.2, ?_, (erM_FM T rₓ pₓ).fl, ?_, ?_, hX⟩
  · rw [hMₓ]; exact errs_M hk.2.2.2.2.2.2.1
  · unfold erM; rw [ms_at, if_neg (by omega), ms_at, if_pos ⟨rfl, rfl⟩]
  · unfold erM; rw [ms_at, if_pos ⟨rfl, rfl⟩]
theorem RTx.bf {Sₓ T S1 T1 : Mem} {oX oX1 oM : O} (hₓ : RTx S1 T1 oX1 oM) (hX : oX = oX1) (fx : FXₓ Sₓ S1) (fm : FL T T1) (h3 : S1 38 3 = Sₓ 38 3) : RTx Sₓ T oX oM := by
  subst hX
  rcases hₓ with ⟨rₓ, pₓ, T', r1ₓ, r2, aₓ, bₓ, cₓ, dₓ, eₓ⟩ | ⟨S', T', g', aₓ, bₓ, cₓ, dₓ, e1ₓ, e2ₓ, e3ₓ, restₓ⟩
  · exact Or.inl ⟨rₓ, pₓ, T', r1ₓ, r2, aₓ, fm.tr bₓ, cₓ, dₓ, eₓ.to fx⟩
  · exact Or.inr ⟨S', T', g', aₓ, fm.tr bₓ, cₓ, fx.tr dₓ, e1ₓ, e2ₓ, e3ₓ.trans h3, restₓ⟩
theorem Tk.mm {nₓ iₓ : Nat} {Sₓ T T' : Mem} {kₓ pₓ eₓ numₓ : Nat} (hₓ : Tk nₓ iₓ Sₓ T kₓ pₓ eₓ numₓ) (qₓ : TkM T T') : Tk nₓ iₓ Sₓ T' kₓ pₓ eₓ numₓ := by
  obtain ⟨k1ₓ, k2ₓ, k3ₓ, k4ₓ⟩ := qₓ
  unfold Tk at hₓ ⊢
  rw [k1ₓ, k2ₓ, k3ₓ, k4ₓ]
  exact hₓ
theorem MS0.lw {T : Mem} {cm : List (Nat × Nat)} {gₓ : Prg} {cₓ : Nat} {vₓ : Int32} (hₓ : MS0 T cm gₓ) (hcₓ : cₓ = 13 ∨ cₓ = 14 ∨ cₓ = 15) : MS0 (mset T cₓ (16 + gₓ.length) vₓ) cm gₓ := by
  obtain ⟨⟨c1ₓ, c2ₓ⟩, c3ₓ, l⟩ := hₓ
  refine ⟨⟨?_, fun jₓ hj => ?_⟩, ?_, fun jₓ hj => ?_⟩
  · rw [ms_at, if_neg (by omega)]; exact c1ₓ
  · rw [ms_at, if_neg (by omega), ms_at, if_neg (by omega)]; exact c2ₓ jₓ hj
  · rw [ms_at, if_neg (by omega)]; exact c3ₓ
  · rw [ms_at, if_neg (by omega), ms_at, if_neg (by omega), ms_at, if_neg (by omega)]; exact l jₓ hj
theorem line_bad {nₓ : Nat} {Sₓ T : Mem} {fₓ iₓ kₓ pₓ eₓ numₓ gl : Nat} {k0ₓ : Mem → Int32 → O} (hk : Tk nₓ 0 Sₓ T kₓ pₓ eₓ numₓ) (k18 : kₓ ≠ 18) (ht : fX3_take Sₓ = some (nI 1, Sₓ)) (hg : gl < 16) : RTx Sₓ T (XT fₓ Sₓ iₓ) (fX8_readText_81 k0ₓ T (nI gl) (nI (16 + gl))) := by
  have Kₓ : TkM T (mset T 15 (16 + gl) (T 0 28)) := TkM.s T _ (by omega)
  have hk' := hk.mm Kₓ
  have sg : fX8_isSign (mset T 15 (16 + gl) (T 0 28)) (59 : Int32) = some (if kₓ = 18 then nI 1 else nI 0, mset T 15 (16 + gl) (T 0 28)) := sgn_M hk' (show 0 < 10 by omega)
  have eMₓ : fX8_readText_81 k0ₓ T (nI gl) (nI (16 + gl)) = fX8_errs (mset T 15 (16 + gl) (T 0 28)) (nI 1) := by
    unfold fX8_readText_81
    rw [gd_in _ (by omega) (by omega), nI_clamp (by omega), ltm_e, sg, bnd_e, if_neg k18, if_pos (show nI 0 = 0 from rfl), oeta]
    rfl
  exact (RTx.er hk' (show 1 ≤ 1 ∧ 1 ≤ 3 by omega) eMₓ (XT_err ht (by omega) hk.2.2.2.2.2.1 (FXₓ.rf Sₓ))).bf rfl (FXₓ.rf Sₓ) (FL.ln T _ (by omega)) rfl
theorem line_end {nₓ : Nat} {bₓ : Nat → Nat} {Sₓ T S5 : Mem} {fₓ iₓ pₓ eₓ numₓ gf kk : Nat} {gₓ : Prg} {Lₓ cx : List (Nat × Nat)} (hk : Tk nₓ 0 Sₓ T 18 pₓ eₓ numₓ) (hTₓ : Tp nₓ bₓ Sₓ T) (hiₓ : iₓ ≤ pₓ) (hf : 900 ≤ fₓ + iₓ) (ht : fX3_take Sₓ = some (nI 0, S5)) (hX : XSt S5 cx [] 0 0 (gₓ ++ [(kk, Lₓ)])) (hF : FXₓ Sₓ S5) (rₓ : ∀ jₓ, jₓ = 1 ∨ jₓ = 3 ∨ jₓ = 5 ∨ jₓ = 6 → S5 38 jₓ = Sₓ 38 jₓ) (h9 : S5 38 9 = nI 0) (hMₓ : MS0 T cx gₓ) (h13 : T 13 (16 + gₓ.length) = nI kk) (h14 : T 14 (16 + gₓ.length) = nI (flt gₓ).length) (hg : gₓ.length < 16) (hcx : cx = flt gₓ ++ Lₓ) (hl : cx.length ≤ pₓ + 1) (hw : ∀ qₓ ∈ gₓ, wfL qₓ) (hwl : wfL (kk, Lₓ)) (ihₓ : ∀ (Sₓ T : Mem) (fₓ iₓ kₓ pₓ eₓ numₓ : Nat) (g' : Prg), g'.length = gₓ.length + 1 → HT nₓ bₓ g' Sₓ T fₓ iₓ kₓ pₓ eₓ numₓ → RTx Sₓ T (XT fₓ Sₓ iₓ) (fX8_readText_2 gf T (nI g'.length))) : RTx Sₓ T (XT fₓ Sₓ iₓ) (fX8_readText_81 (fX8_readText_2 gf) T (nI gₓ.length) (nI (16 + gₓ.length))) := by
  have e28ₓ : T 0 28 = nI cx.length := hMₓ.1.1
  have Kₓ : TkM T (mset T 15 (16 + gₓ.length) (nI cx.length)) := TkM.s T _ (by omega)
  have hk' := hk.mm Kₓ
  have lg : (gₓ ++ [(kk, Lₓ)]).length = gₓ.length + 1 := by rw [List.length_append]; rfl
  have hfl : flt (gₓ ++ [(kk, Lₓ)]) = cx := (flt_snoc gₓ (kk, Lₓ)).trans hcx.symm
  have hcl : cx.length = off (gₓ ++ [(kk, Lₓ)]) (gₓ.length + 1) := by rw [← lg, off_end, hfl]
  have hM' : MS0 (mset T 15 (16 + gₓ.length) (nI cx.length)) cx (gₓ ++ [(kk, Lₓ)]) := by
    obtain ⟨⟨c1ₓ, c2ₓ⟩, c3ₓ, l⟩ := hMₓ
    refine ⟨⟨?_, fun jₓ hj => ?_⟩, ?_, fun jₓ hj => ?_⟩
    · rw [ms_at, if_neg (by omega)]; exact c1ₓ
    · rw [ms_at, if_neg (by omega), ms_at, if_neg (by omega)]; exact c2ₓ jₓ hj
    · rw [ms_at, if_neg (by omega)]; exact c3ₓ
    · rw [lg] at hj
      rw [ms_at, if_neg (by omega), ms_at, if_neg (by omega), ms_at]
      by_cases qₓ : jₓ = gₓ.length
      · rw [if_pos ⟨rfl, by rw [qₓ]⟩, qₓ, getD_last, h13, h14, off_snoc _ _ (Nat.le_refl _), off_end, hcl]
        exact ⟨rfl, rfl, rfl⟩
      · rw [if_neg (by omega), getD_app _ _ _ (by omega), off_snoc _ _ (show jₓ ≤ gₓ.length by omega), off_snoc _ _ (show jₓ + 1 ≤ gₓ.length by omega)]
        exact l jₓ (by omega)
  have sg : fX8_isSign (mset T 15 (16 + gₓ.length) (nI cx.length)) (59 : Int32) = some (if 18 = 18 + 0 then nI 1 else nI 0, mset T 15 (16 + gₓ.length) (nI cx.length)) := sgn_M hk' (show 0 < 10 by omega)
  have hT5 : Tp nₓ bₓ S5 (mset T 15 (16 + gₓ.length) (nI cx.length)) := (hTₓ.x (rₓ 1 (by omega)) (hF 39 (by decide))).m (by rw [ms_at, if_neg (by omega)]) (mset_ne _ _ _ (by omega)) (mset_ne _ _ _ (by omega))
  obtain ⟨S2, T2, f2ₓ, k2ₓ, p2ₓ, e2ₓ, num2, z1, z2, z3, z4, z5, z6, z7, z8⟩ := go0 hT5 hk hiₓ hf (show 18 ≠ 29 by omega) ht (rₓ 5 (by omega)) (rₓ 6 (by omega)) Kₓ.1 hX hM' hl
  have eMₓ : fX8_readText_81 (fX8_readText_2 gf) T (nI gₓ.length) (nI (16 + gₓ.length)) = fX8_readText_2 gf T2 (nI (gₓ ++ [(kk, Lₓ)]).length) := by
    unfold fX8_readText_81
    rw [gd_in _ (by omega) (by omega), nI_clamp (by omega), ltm_e, e28ₓ, sg, bnd_e, if_pos (show 18 = 18 + 0 from rfl), if_neg (show ¬ nI 1 = 0 by decide), z2, bnd_e, lti_e, lg, show nI gₓ.length + (1 : Int32) = nI (gₓ.length + 1) from nI_add _ 1]
  rw [eMₓ]
  have hH : HT nₓ bₓ (gₓ ++ [(kk, Lₓ)]) S2 T2 f2ₓ (iₓ + 1) k2ₓ p2ₓ e2ₓ num2 := by
    refine ⟨by rw [hfl]; exact z8, ?_, by rw [lg]; omega, fun qₓ hq => ?_⟩
    · rw [z5 9 (by omega) (by omega) (by omega) (by omega) (by omega)]; exact h9
    · rcases List.mem_append.1 hq with aₓ | aₓ
      · exact hw qₓ aₓ
      · rw [List.mem_singleton.1 aₓ]; exact hwl
  exact (ihₓ S2 T2 f2ₓ (iₓ + 1) k2ₓ p2ₓ e2ₓ num2 _ lg hH).bf z1 (hF.tr z3) ((FL.ln T _ (by omega)).tr z4.fl) (by rw [z5 3 (by omega) (by omega) (by omega) (by omega) (by omega)]; exact rₓ 3 (by omega))
theorem text_loop {nₓ : Nat} {bₓ : Nat → Nat} : ∀ (gf : Nat) (Sₓ T : Mem) (fₓ iₓ kₓ pₓ eₓ numₓ : Nat) (gₓ : Prg), 16 - gₓ.length < gf → HT nₓ bₓ gₓ Sₓ T fₓ iₓ kₓ pₓ eₓ numₓ → RTx Sₓ T (XT fₓ Sₓ iₓ) (fX8_readText_2 gf T (nI gₓ.length)) := by
  intro gf
  induction gf with
  | zero => intro Sₓ T fₓ iₓ kₓ pₓ eₓ numₓ gₓ hₓ; omega
  | succ gf ihₓ =>
    intro Sₓ T fₓ iₓ kₓ pₓ eₓ numₓ gₓ hg hH
    obtain ⟨⟨h1, h2, h3, h4, h5, h6, h7⟩, h9, hg16, hwf⟩ := id hH
    obtain ⟨-, q2ₓ, q3ₓ, q4ₓ, q5ₓ, q6ₓ, q7ₓ, q8ₓ, q9ₓ, q10ₓ, q11ₓ, q12ₓ, q13ₓ, q14ₓ, q15ₓ⟩ := id h2
    have hn := h1.1
    have l1 : Sₓ 40 4 = nI gₓ.length := h5.2.2.2.2.2.1
    have tk0 : fX3_take Sₓ = fX3_takeLine Sₓ := (take_d h9 (by omega)).trans (by rfl)
    show RTx Sₓ T (XT fₓ Sₓ iₓ) (fX8_readText_2_b (fX8_readText_2 gf) T (nI gₓ.length))
    rcases (show kₓ = 29 ∨ kₓ ≤ 3 ∨ (4 ≤ kₓ ∧ kₓ ≠ 29) by omega) with rfl | hk3 | hk4
    · -- the end
      have tk : fX3_take Sₓ = some (nI 0, Sₓ) := by
        rw [tk0]
        unfold fX3_takeLine
        rw [q8ₓ, if_pos (show nI 29 = 29 from rfl)]
        rfl
      have hX' : XSt (mset (mset Sₓ 38 2 (nI 0)) 38 1 (nI 0)) (flt gₓ) [] 0 0 gₓ := h5.cg rfl rfl rfl rfl rfl (by rw [ms_at, if_neg (by omega), ms_at, if_neg (by omega)]) (by rw [ms_at, if_neg (by omega), ms_at, if_neg (by omega)]) (by rw [ms_at, if_neg (by omega), ms_at, if_neg (by omega)])
      refine Or.inr ⟨mset (mset Sₓ 38 2 (nI 0)) 38 1 (nI 0), T, gₓ, ?_, FL.rf T, ?_, (FXₓ.put _ _ (by decide)).tr (FXₓ.put _ _ (by decide)), ?_, ?_, ?_, hX'.1, hX'.2.2.2.2.2, h6.1, h6.2.2, hg16, by omega, hwf⟩
      · unfold fX8_readText_2_b fX8_readText_117
        rw [q11ₓ rfl, if_neg (show ¬ nI 0 = 2 by decide), if_pos (show nI 0 = 0 from rfl)]
      · have e2ₓ : (mset Sₓ 38 2 (nI 0)) 38 2 = nI 0 := by rw [ms_at, if_pos ⟨rfl, rfl⟩]
        have e6ₓ : (mset Sₓ 38 2 (nI 0)) 38 6 = nI 29 := by rw [ms_at, if_neg (by omega)]; exact q8ₓ
        unfold XT
        rw [tk, bnd_e, ltm_e, e2ₓ, if_pos (show nI 0 = 0 from rfl), e6ₓ, if_pos (show nI 29 = 29 from rfl)]
        unfold fX3_read_89 fX3_read_104
        rw [e2ₓ, if_pos (show nI 0 = 0 from rfl), ltm_e]
        rfl
      · rw [ms_at, if_pos ⟨rfl, rfl⟩]
      · rw [ms_at, if_neg (by omega), ms_at, if_pos ⟨rfl, rfl⟩]
      · rw [ms_at, if_neg (by omega), ms_at, if_neg (by omega)]
    · -- aₓ line
      have k29 : kₓ ≠ 29 := by omega
      obtain ⟨t19, t20⟩ := q13ₓ (by omega)
      have a29 : ¬ nI kₓ = 29 := by rw [show (29 : Int32) = nI 29 from rfl, nI_eq (by omega) (by omega)]; omega
      have a3 : nI kₓ ≤ 3 := by rw [show (3 : Int32) = nI 3 from rfl, nI_leI (by omega) (by omega)]; omega
      have a3' : ¬ (3 : Int32) < nI kₓ := by rw [show (3 : Int32) = nI 3 from rfl, nI_ltI (by omega) (by omega)]; omega
      by_cases hl : gₓ.length = 16
      · have tk : fX3_take Sₓ = some (nI 3, Sₓ) := by
          rw [tk0]
          unfold fX3_takeLine
          rw [q8ₓ, if_neg a29, if_pos a3, l1, if_neg (show ¬ nI gₓ.length < 16 by rw [hl]; decide)]
          rfl
        refine RTx.er h2 (show 1 ≤ 3 ∧ 3 ≤ 3 by omega) ?_ (XT_err tk (by omega) q6ₓ (FXₓ.rf Sₓ))
        unfold fX8_readText_2_b
        rw [t19, if_pos (show nI 2 = 2 from rfl), t20, if_neg a3', if_pos (show nI gₓ.length = 16 by rw [hl]; rfl), oeta]
        rfl
      · have g16 : gₓ.length < 16 := by omega
        have tk : fX3_take Sₓ = some (nI 0, mset (mset Sₓ 38 10 (nI kₓ)) 38 9 (nI 1)) := by
          rw [tk0]
          unfold fX3_takeLine
          rw [q8ₓ, if_neg a29, if_pos a3, l1, if_pos (show nI gₓ.length < 16 by rw [show (16 : Int32) = nI 16 from rfl, nI_ltI (by omega) (by omega)]; exact g16), ltm_e, ltm_e]
          rfl
        have hX5 : XSt (mset (mset Sₓ 38 10 (nI kₓ)) 38 9 (nI 1)) (flt gₓ) [] 0 0 gₓ := h5.cg rfl rfl rfl rfl rfl (by rw [ms_at, if_neg (by omega), ms_at, if_neg (by omega)]) (by rw [ms_at, if_neg (by omega), ms_at, if_neg (by omega)]) (by rw [ms_at, if_neg (by omega), ms_at, if_neg (by omega)])
        have hT5 : Tp nₓ bₓ (mset (mset Sₓ 38 10 (nI kₓ)) 38 9 (nI 1)) (mset T 13 (16 + gₓ.length) (nI kₓ)) := (h1.x (by rw [ms_at, if_neg (by omega), ms_at, if_neg (by omega)]) (by rw [mset_ne _ _ _ (by omega), mset_ne _ _ _ (by omega)])).m (by rw [ms_at, if_neg (by omega)]) (mset_ne _ _ _ (by omega)) (mset_ne _ _ _ (by omega))
        have hM5 : MS0 (mset T 13 (16 + gₓ.length) (nI kₓ)) (flt gₓ) gₓ := h6.lw (Or.inl rfl)
        obtain ⟨S1, T1, f1ₓ, k1ₓ, p1ₓ, e1ₓ, num1, a1ₓ, a2, a3x, a4, a5, a6, a7, a8⟩ := go0 hT5 h2 h3 h4 k29 tk (by rw [ms_at, if_neg (by omega), ms_at, if_neg (by omega)]) (by rw [ms_at, if_neg (by omega), ms_at, if_neg (by omega)]) (by rw [ms_at, if_neg (by omega)]) hX5 hM5 (by omega)
        obtain ⟨b1, b2, b3, b4, b5, b6, b7⟩ := id a8
        have x9 : S1 38 9 = nI 1 := by rw [a5 9 (by omega) (by omega) (by omega) (by omega) (by omega), ms_at, if_pos ⟨rfl, rfl⟩]
        have x10 : S1 38 10 = nI kₓ := by rw [a5 10 (by omega) (by omega) (by omega) (by omega) (by omega), ms_at, if_neg (by omega), ms_at, if_pos ⟨rfl, rfl⟩]
        have x3 : S1 38 3 = Sₓ 38 3 := by rw [a5 3 (by omega) (by omega) (by omega) (by omega) (by omega), ms_at, if_neg (by omega), ms_at, if_neg (by omega)]
        have F1ₓ : FXₓ Sₓ S1 := ((FXₓ.put Sₓ _ (by decide)).tr (FXₓ.put _ _ (by decide))).tr a3x
        have m28 : T1 0 28 = nI (flt gₓ).length := b6.1.1
        obtain ⟨T2, e2ₓ⟩ : ∃ T2, T2 = mset T1 14 (16 + gₓ.length) (nI (flt gₓ).length) := ⟨_, rfl⟩
        have K2 : TkM T1 T2 := by rw [e2ₓ]; exact TkM.s T1 _ (by omega)
        have hk2 : Tk nₓ 0 S1 T2 k1ₓ p1ₓ e1ₓ num1 := b2.mm K2
        have M2ₓ : MS0 T2 (flt gₓ) gₓ := by rw [e2ₓ]; exact b6.lw (Or.inr (Or.inl rfl))
        have r13 : T2 13 (16 + gₓ.length) = nI kₓ := by rw [e2ₓ, ms_at, if_neg (by omega), a6 13 (by omega), ms_at, if_pos ⟨rfl, rfl⟩]
        have r14 : T2 14 (16 + gₓ.length) = nI (flt gₓ).length := by rw [e2ₓ, ms_at, if_pos ⟨rfl, rfl⟩]
        have hT2 : Tp nₓ bₓ S1 T2 := by rw [e2ₓ]; exact b1.m (by rw [ms_at, if_neg (by omega)]) (mset_ne _ _ _ (by omega)) (mset_ne _ _ _ (by omega))
        have FT2 : FL T T2 := by rw [e2ₓ]; exact ((FL.ln T _ (by omega)).tr a4.fl).tr (FL.ln _ _ (by omega))
        have wd' : fX8_isWord T2 (4 : Int32) = some (if k1ₓ = 4 then nI 1 else nI 0, T2) := wrd_M hk2 (show 4 < 18 by omega)
        have eMₓ : fX8_readText_2_b (fX8_readText_2 gf) T (nI gₓ.length) = if k1ₓ = 4 then (bnd (fX8_reads T2) fun _ S_15 => bnd (fX8_readAny S_15) fun r_16 S_17 => if r_16 = (-1 : Int32) then some ((-1 : Int32), S_17) else fX8_readText_81 (fX8_readText_2 gf) S_17 (nI gₓ.length) (nI (16 + gₓ.length))) else fX8_readText_81 (fX8_readText_2 gf) T2 (nI gₓ.length) (nI (16 + gₓ.length)) := by
          unfold fX8_readText_2_b
          rw [t19, if_pos (show nI 2 = 2 from rfl), t20, if_neg a3', if_neg (show ¬ nI gₓ.length = 16 by rw [show (16 : Int32) = nI 16 from rfl, nI_eq (by omega) (by omega)]; exact hl), show (16 : Int32) + nI gₓ.length = nI (16 + gₓ.length) from nI_add 16 _, lti_e, gd_in _ (by omega) (by omega), nI_clamp (by omega), ltm_e, a2, bnd_e, gd_in _ (by omega) (by omega), ltm_e, m28, ← e2ₓ, wd', bnd_e]
          by_cases qₓ : k1ₓ = 4
          · rw [if_pos qₓ, if_pos qₓ, if_neg (show ¬ nI 1 = 0 by decide)]
          · rw [if_neg qₓ, if_neg qₓ, if_pos (show nI 0 = 0 from rfl)]
        rw [eMₓ, a1ₓ]
        refine RTx.bf (S1 := S1) (T1 := T2) ?_ rfl F1ₓ FT2 x3
        have tkR : fX3_take S1 = fX3_takeLineRest S1 := (take_d x9 (by omega)).trans (by rfl)
        obtain ⟨-, u2ₓ, u3, u4ₓ, u5, u6, u7, u8, u9, -⟩ := id b2
        by_cases q4ₓ : k1ₓ = 4
        · rw [if_pos q4ₓ]
          have tk1 : fX3_take S1 = some (nI 0, mset (mset S1 38 9 (nI 2)) 38 11 (nI 0)) := by
            rw [tkR]
            unfold fX3_takeLineRest
            rw [u8, if_pos (show nI k1ₓ = 4 by rw [q4ₓ]; rfl), ltm_e, ltm_e]
            rfl
          have hX6 : XSt (mset (mset S1 38 9 (nI 2)) 38 11 (nI 0)) (flt gₓ) [] 0 0 gₓ := b5.cg rfl rfl rfl rfl rfl (by rw [ms_at, if_neg (by omega), ms_at, if_neg (by omega)]) (by rw [ms_at, if_neg (by omega), ms_at, if_neg (by omega)]) (by rw [ms_at, if_neg (by omega), ms_at, if_neg (by omega)])
          have hT6 : Tp nₓ bₓ (mset (mset S1 38 9 (nI 2)) 38 11 (nI 0)) T2 := hT2.x (by rw [ms_at, if_neg (by omega), ms_at, if_neg (by omega)]) (by rw [mset_ne _ _ _ (by omega), mset_ne _ _ _ (by omega)])
          obtain ⟨S3, T3, f3ₓ, k3ₓ, p3ₓ, e3ₓ, num3, c1ₓ, c2ₓ, c3ₓ, c4ₓ, c5ₓ, c6ₓ, c7ₓ, c8ₓ⟩ := go0 hT6 hk2 b3 b4 (by omega) tk1 (by rw [ms_at, if_neg (by omega), ms_at, if_neg (by omega)]) (by rw [ms_at, if_neg (by omega), ms_at, if_neg (by omega)]) rfl hX6 M2ₓ (by omega)
          obtain ⟨d1ₓ, d2ₓ, d3ₓ, d4ₓ, d5ₓ, d6ₓ, d7ₓ⟩ := id c8ₓ
          have y9 : S3 38 9 = nI 2 := by rw [c5ₓ 9 (by omega) (by omega) (by omega) (by omega) (by omega), ms_at, if_neg (by omega), ms_at, if_pos ⟨rfl, rfl⟩]
          have y11 : S3 38 11 = nI 0 := by rw [c5ₓ 11 (by omega) (by omega) (by omega) (by omega) (by omega), ms_at, if_pos ⟨rfl, rfl⟩]
          have y10 : S3 38 10 = nI kₓ := by rw [c5ₓ 10 (by omega) (by omega) (by omega) (by omega) (by omega), ms_at, if_neg (by omega), ms_at, if_neg (by omega)]; exact x10
          have y3 : S3 38 3 = S1 38 3 := by rw [c5ₓ 3 (by omega) (by omega) (by omega) (by omega) (by omega), ms_at, if_neg (by omega), ms_at, if_neg (by omega)]
          have F3 : FXₓ S1 S3 := ((FXₓ.put S1 _ (by decide)).tr (FXₓ.put _ _ (by decide))).tr c3ₓ
          obtain ⟨T4, e4ₓ⟩ : ∃ T4, T4 = mset T3 0 31 (nI 0) := ⟨_, rfl⟩
          have eAₓ : fX8_readAny T3 = fX8_readAny_9 FU T4 (nI 0) (nI 1) := by
            unfold fX8_readAny
            rw [ltm_e, show (0 : Int32) = nI 0 from rfl, show (1 : Int32) = nI 1 from rfl, ← e4ₓ]
          rw [c1ₓ, c2ₓ, bnd_e, eAₓ]
          have F4 : FM T3 T4 := by rw [e4ₓ]; exact FM.s0 _ _ (by decide)
          have K4 : TkM T3 T4 := by rw [e4ₓ]; exact TkM.s T3 _ (by omega)
          have o4ₓ : ∀ cₓ, cₓ ≠ 0 → T4 cₓ = T3 cₓ := fun cₓ hcₓ => by rw [e4ₓ, mset_ne _ _ _ hcₓ]
          have M4ₓ : MSt T4 (flt gₓ) [] 0 gₓ := d6ₓ.st (o4ₓ 13 (by omega)) (o4ₓ 14 (by omega)) (o4ₓ 15 (by omega)) (o4ₓ 16 (by omega)) (o4ₓ 17 (by omega)) (by rw [e4ₓ, ms_at, if_neg (by omega)]) (by rw [e4ₓ, ms_at, if_neg (by omega)]) (by rw [e4ₓ, ms_at, if_pos ⟨rfl, rfl⟩])
          have hR4 : Rn nₓ bₓ S3 T4 f3ₓ (iₓ + 1 + 1) k3ₓ p3ₓ e3ₓ num3 (flt gₓ) [] 0 0 gₓ (flt gₓ) [] 0 := ⟨d1ₓ.m (by rw [e4ₓ, ms_at, if_neg (by omega)]) (o4ₓ 11 (by omega)) (o4ₓ 12 (by omega)), d2ₓ.mm K4, d3ₓ, d4ₓ, d5ₓ, M4ₓ, by rw [List.length_nil]; omega, by rw [List.length_nil]; omega⟩
          have hC : CS nₓ bₓ (flt gₓ) 0 0 gₓ [] S3 T4 f3ₓ (iₓ + 1 + 1) k3ₓ p3ₓ e3ₓ num3 := ⟨flt gₓ, hR4, y9, y11, rfl, rfl, trivial, by omega, ⟨[], (List.append_nil _).symm, rfl⟩⟩
          have hA := (any_loop (nₓ := nₓ) (bₓ := bₓ) (dₓ := flt gₓ) (gₓ := gₓ) FU S3 T4 f3ₓ (iₓ + 1 + 1) k3ₓ p3ₓ e3ₓ num3 0 0 [] (by unfold FU; omega) d2ₓ.2.1).1 hC
          refine RTx.bf (S1 := S3) (T1 := T4) ?_ rfl F3 (c4ₓ.fl.tr F4.fl) y3
          generalize fX8_readAny_9 FU T4 (nI 0) (nI 1) = oA at hA ⊢
          rcases hA with ⟨rₓ, pe, T', r1ₓ, r2, m1ₓ, m2ₓ, m3ₓ, m4ₓ, m5ₓ⟩ | ⟨S4, T', f4ₓ, i4ₓ, k4ₓ, p4ₓ, e5ₓ, num4, m1ₓ, m2ₓ, m3ₓ, m4ₓ, m5ₓ, hFi⟩
          · refine Or.inl ⟨rₓ, pe, T', r1ₓ, r2, ?_, m2ₓ.fl, m3ₓ, m4ₓ, m5ₓ⟩
            rw [m1ₓ, bnd_e, if_pos (show -nI 1 = -1 from rfl)]
            rfl
          · rw [m1ₓ, bnd_e, if_neg (show ¬ nI 0 = -1 by decide), m5ₓ]
            refine RTx.bf (S1 := S4) (T1 := T') ?_ rfl m3ₓ m2ₓ.fl (congrArg Prod.snd m4ₓ)
            obtain ⟨cx, V, v1ₓ, v2, v3, v4ₓ, v5, v6, v7, v8⟩ := hFi
            obtain ⟨w1ₓ, w2ₓ, w3ₓ, w4ₓ, w5, w6ₓ, w7ₓ, w8⟩ := id v1ₓ
            obtain ⟨-, -, -, -, -, -, -, o8ₓ, o9, -⟩ := id w2ₓ
            have z10 : S4 38 10 = nI kₓ := (congrArg Prod.fst m4ₓ).trans y10
            have hlen := v1ₓ.len
            have br0 : S4 38 15 = nI 0 := w5.2.2.2.2.1
            by_cases q18ₓ : k4ₓ = 18
            · subst q18ₓ
              obtain ⟨Lₓ, hL1, hL2⟩ := v3
              have lmp : (mpₓ V).length = V.length := by unfold mpₓ; rw [List.length_map]
              obtain ⟨S6, s1ₓ, s2ₓ, s3ₓ⟩ := settle_X (rₓ := 1) (W0ₓ := []) (by omega) (fun xₓ l qₓ => by cases qₓ) V 0 FU S4 cx (n9 V) (by rw [List.append_nil]; exact w5) v4ₓ (by rw [List.append_nil]; omega) (by unfold FU; omega) (by omega) (Nat.le_refl _) (by omega)
              rw [Nat.sub_self] at s2ₓ
              have s1' : fX3_settleDownTo S4 (1 : Int32) = some (nI 0, S6) := s1ₓ
              have e10ₓ : S6 38 10 = nI kₓ := by rw [s3ₓ.2.1 10 (by omega) (by omega)]; exact z10
              obtain ⟨S7, t1ₓ, t2ₓ, t3ₓ, t4ₓ⟩ := addL_X (act := kₓ) (Lₓ := Lₓ) (cx := cx ++ mpₓ V) s2ₓ g16 (by rw [flt_snoc]; exact hL1)
              have tk4 : fX3_take S4 = some (nI 0, mset S7 38 9 (nI 0)) := by
                rw [v2]
                unfold fX3_takeAfterClaim fX3_takeAfterClaim_68 fX3_closeLine
                rw [o8ₓ, if_neg (show ¬ nI 18 = 6 by decide), if_neg (show ¬ nI 18 = 5 by decide), if_neg (show ¬ nI 18 = 24 by decide), if_pos (show nI 18 = 18 from rfl), br0, if_pos (show nI 0 = 0 from rfl), s1', bnd_e, e10ₓ, t1ₓ, bnd_e, ltm_e, bnd_e]
                rfl
              have hX8 : XSt (mset S7 38 9 (nI 0)) (cx ++ mpₓ V) [] 0 0 (gₓ ++ [(kₓ, Lₓ)]) := t2ₓ.cg rfl rfl rfl rfl rfl (by rw [ms_at, if_neg (by omega)]) (by rw [ms_at, if_neg (by omega)]) (by rw [ms_at, if_neg (by omega)])
              have l13 : T' 13 (16 + gₓ.length) = nI kₓ := by rw [(m2ₓ.2.2.1 _ (show 16 + gₓ.length < 32 by omega)).1, o4ₓ 13 (by omega), c6ₓ 13 (by omega)]; exact r13
              have l14 : T' 14 (16 + gₓ.length) = nI (flt gₓ).length := by rw [(m2ₓ.2.2.1 _ (show 16 + gₓ.length < 32 by omega)).2.1, o4ₓ 14 (by omega), c6ₓ 14 (by omega)]; exact r14
              exact line_end (cx := cx ++ mpₓ V) (Lₓ := Lₓ) (kk := kₓ) w2ₓ w1ₓ w3ₓ w4ₓ tk4 hX8 ((s3ₓ.FX.tr t3ₓ).tr (FXₓ.put _ _ (by decide))) (fun jₓ hj => by rw [ms_at, if_neg (by omega), t4ₓ, s3ₓ.2.1 jₓ (by omega) (by omega)]) (by rw [ms_at, if_pos ⟨rfl, rfl⟩]) ⟨w6ₓ.1, w6ₓ.2.2.2.1, w6ₓ.2.2.2.2⟩ l13 l14 g16 hL1 (by rw [List.length_append, lmp]; omega) hwf ⟨hk3, Or.inr hL2⟩ (fun Sₓ T fₓ iₓ kₓ pₓ eₓ numₓ g' hg' hH' => ihₓ Sₓ T fₓ iₓ kₓ pₓ eₓ numₓ g' (by omega) hH')
            · have n18ₓ : ¬ nI k4ₓ = 18 := by rw [show (18 : Int32) = nI 18 from rfl, nI_eq (by omega) (by omega)]; exact q18ₓ
              have n6ₓ : ¬ nI k4ₓ = 6 := by rw [show (6 : Int32) = nI 6 from rfl, nI_eq (by omega) (by omega)]; omega
              have n5ₓ : ¬ nI k4ₓ = 5 := by rw [show (5 : Int32) = nI 5 from rfl, nI_eq (by omega) (by omega)]; omega
              have e68 : fX3_takeAfterClaim_68 S4 = some (nI 1, S4) := by
                unfold fX3_takeAfterClaim_68
                rw [o8ₓ, if_neg n18ₓ]
                rfl
              refine line_bad w2ₓ q18ₓ ?_ g16
              rw [v2]
              unfold fX3_takeAfterClaim
              rw [o8ₓ, if_neg n6ₓ, if_neg n5ₓ, br0, if_pos (show nI 0 ≤ 0 by decide), e68, ite_self]
        · rw [if_neg q4ₓ]
          by_cases q18ₓ : k1ₓ = 18
          · subst q18ₓ
            obtain ⟨S7, t1ₓ, t2ₓ, t3ₓ, t4ₓ⟩ := addL_X (act := kₓ) (Lₓ := []) b5 g16 (by rw [flt_snoc]; exact (List.append_nil _).symm)
            have tk1 : fX3_take S1 = some (nI 0, mset S7 38 9 (nI 0)) := by
              rw [tkR]
              unfold fX3_takeLineRest fX3_closeLine
              rw [u8, if_neg (show ¬ nI 18 = 4 by decide), if_pos (show nI 18 = 18 from rfl), x10, t1ₓ, bnd_e, ltm_e, bnd_e]
              rfl
            have hX8 : XSt (mset S7 38 9 (nI 0)) (flt gₓ) [] 0 0 (gₓ ++ [(kₓ, [])]) := t2ₓ.cg rfl rfl rfl rfl rfl (by rw [ms_at, if_neg (by omega)]) (by rw [ms_at, if_neg (by omega)]) (by rw [ms_at, if_neg (by omega)])
            exact line_end (cx := flt gₓ) (Lₓ := []) (kk := kₓ) hk2 hT2 b3 b4 tk1 hX8 (t3ₓ.tr (FXₓ.put _ _ (by decide))) (fun jₓ hj => by rw [ms_at, if_neg (by omega), t4ₓ]) (by rw [ms_at, if_pos ⟨rfl, rfl⟩]) M2ₓ r13 r14 g16 (List.append_nil _).symm (by omega) hwf ⟨hk3, Or.inl rfl⟩ (fun Sₓ T fₓ iₓ kₓ pₓ eₓ numₓ g' hg' hH' => ihₓ Sₓ T fₓ iₓ kₓ pₓ eₓ numₓ g' (by omega) hH')
          · refine line_bad hk2 q18ₓ ?_ g16
            rw [tkR]
            unfold fX3_takeLineRest
            rw [u8, if_neg (show ¬ nI k1ₓ = 4 by rw [show (4 : Int32) = nI 4 from rfl, nI_eq (by omega) (by omega)]; exact q4ₓ), if_neg (show ¬ nI k1ₓ = 18 by rw [show (18 : Int32) = nI 18 from rfl, nI_eq (by omega) (by omega)]; exact q18ₓ)]
            rfl
    · -- nothingₓ that begins aₓ line
      have tk : fX3_take Sₓ = some (nI 1, Sₓ) := by
        rw [tk0]
        unfold fX3_takeLine
        rw [q8ₓ, if_neg (show ¬ nI kₓ = 29 by rw [show (29 : Int32) = nI 29 from rfl, nI_eq (by omega) (by omega)]; omega), if_neg (show ¬ nI kₓ ≤ 3 by rw [show (3 : Int32) = nI 3 from rfl, nI_leI (by omega) (by omega)]; omega)]
        rfl
      refine RTx.er h2 (show 1 ≤ 1 ∧ 1 ≤ 3 by omega) ?_ (XT_err tk (by omega) q6ₓ (FXₓ.rf Sₓ))
      unfold fX8_readText_2_b fX8_readText_117
      rcases (show kₓ < 18 ∨ (18 ≤ kₓ ∧ kₓ < 28) ∨ kₓ = 28 ∨ kₓ = 30 by omega) with qₓ | qₓ | qₓ | qₓ
      · rw [(q13ₓ qₓ).1, (q13ₓ qₓ).2, if_pos (show nI 2 = 2 from rfl), if_pos (show (3 : Int32) < nI kₓ by rw [show (3 : Int32) = nI 3 from rfl, nI_ltI (by omega) (by omega)]; omega), if_neg (show ¬ nI 2 = 0 by decide), oeta]
        rfl
      · rw [(q14ₓ qₓ.1 qₓ.2).1, if_neg (show ¬ nI 4 = 2 by decide), if_neg (show ¬ nI 4 = 0 by decide), oeta]
        rfl
      · rw [(q15ₓ qₓ).1, if_neg (show ¬ nI 3 = 2 by decide), if_neg (show ¬ nI 3 = 0 by decide), oeta]
        rfl
      · rw [q12ₓ qₓ, if_neg (show ¬ nI 1 = 2 by decide), if_neg (show ¬ nI 1 = 0 by decide), oeta]
        rfl
