/-! of, shade, turn, thief -/
def frm (Lₓ : List Nat) (Sₓ S' : Mem) : Prop := ∀ cₓ, cₓ ∉ Lₓ → S' cₓ = Sₓ cₓ
theorem frm.rf (Lₓ : List Nat) (Sₓ : Mem) : frm Lₓ Sₓ Sₓ := fun _ _ => rfl
theorem frm.tr {Lₓ : List Nat} {Sₓ S1 S2 : Mem} (hₓ : frm Lₓ Sₓ S1) (h2 : frm Lₓ S1 S2) : frm Lₓ Sₓ S2 := fun cₓ hcₓ => (h2 cₓ hcₓ).trans (hₓ cₓ hcₓ)
theorem frm.put {Lₓ : List Nat} (Sₓ : Mem) {kₓ : Nat} (fₓ : Nat → Int32) (hₓ : kₓ ∈ Lₓ) : frm Lₓ Sₓ (mput Sₓ kₓ fₓ) := fun cₓ hcₓ => mput_ne _ _ (fun eₓ => hcₓ (eₓ ▸ hₓ))
theorem frm.mput {Lₓ : List Nat} {Sₓ S1 : Mem} (hₓ : frm Lₓ Sₓ S1) {kₓ : Nat} (fₓ : Nat → Int32) (hk : kₓ ∈ Lₓ) : frm Lₓ Sₓ (mput S1 kₓ fₓ) := hₓ.tr (frm.put S1 fₓ hk)
/-- the class's own scratch -/
def scX : List Nat := [12, 31, 32, 33, 34, 35, 36, 37]
def scM : List Nat := [18, 19, 20, 21, 22, 23, 24, 25]
theorem frm.agX {Sₓ S' : Mem} (hₓ : frm scX Sₓ S') : agX Sₓ S' := by
  refine ⟨fun cₓ hcₓ => hₓ cₓ (fun qₓ => ?_), ?_, ?_, ?_, ?_⟩
  · simp only [scX, List.mem_cons, List.not_mem_nil, or_false] at qₓ hcₓ
    omega
  all_goals rw [hₓ _ (by decide)]
theorem frm.agM {T T' : Mem} (hₓ : frm scM T T') : agM T T' := by
  refine ⟨fun cₓ hcₓ => hₓ cₓ (fun qₓ => ?_), fun jₓ _ => by rw [hₓ 0 (by decide)]⟩
  simp only [scM, List.mem_cons, List.not_mem_nil, or_false] at qₓ hcₓ
  omega
theorem RR.fr {Sₓ T S' T' : Mem} (hR : RR Sₓ T) (hSₓ : frm scX Sₓ S') (hTₓ : frm scM (mset T 0 0 (nI 0)) T') : RR S' T' := (hR.told 0).ag hSₓ.agX hTₓ.agM
theorem XVw.fr {Sₓ S' : Mem} {V : Vw} (hₓ : XVw Sₓ V) (fₓ : frm scX Sₓ S') : XVw S' V := by
  unfold XVw at hₓ ⊢
  rw [fₓ 1 (by decide), fₓ 2 (by decide), fₓ 3 (by decide)]
  exact hₓ
theorem MVw.fr {T T' : Mem} {V : Vw} (hₓ : MVw T V) (fₓ : frm scM T T') : MVw T' V := by
  unfold MVw at hₓ ⊢
  rw [fₓ 0 (by decide), fₓ 1 (by decide), fₓ 3 (by decide), fₓ 5 (by decide), fₓ 6 (by decide), fₓ 7 (by decide)]
  exact hₓ
theorem MVw.told {T : Mem} {V : Vw} (hₓ : MVw T V) : MVw (mset T 0 0 (nI 0)) V := hₓ
theorem RR.vw {Sₓ T : Mem} (hR : RR Sₓ T) : ∃ V : Vw, ∃ tₓ : Nat, VB V ∧ XVw Sₓ V ∧ MVw (mset T 0 0 (nI 0)) V ∧ tₓ ≤ 12 ∧ Sₓ 1 8 = nI tₓ ∧ T 1 1 = nI tₓ := by
  obtain ⟨⟨nₓ, dₓ, tₓ, pr, re, bl, cₓ, hW, hP⟩, -⟩ := hR
  obtain ⟨aₓ, bₓ, cₓ⟩ := hW.vw
  exact ⟨_, tₓ, aₓ, bₓ, cₓ.told, hW.1.2.2.1, hW.2.2.2.1.1, hW.2.2.2.1.2⟩
theorem lit_M {T : Mem} {V : Vw} (hBₓ : VB V) {hₓ rₓ cₓ : Nat} (hSₓ : Shd T V hₓ rₓ) (hcₓ : cₓ < 25) : T 21 cₓ = 0 ↔ (shM V hₓ rₓ).testBit cₓ = false := by
  have hn := hBₓ.1
  rw [eq0_iff]
  constructor
  · intro qₓ
    cases zₓ : (shM V hₓ rₓ).testBit cₓ
    · rfl
    · unfold shM at zₓ
      rw [shL_bit] at zₓ
      rcases zₓ with zₓ | ⟨jₓ, h1, h2, h3, h4⟩
      · rw [Nat.zero_testBit] at zₓ; cases zₓ
      · have eₓ := qₓ jₓ (by omega)
        rw [hSₓ.2 cₓ jₓ hcₓ, decide_eq_true (by omega), gs_cg V hₓ rₓ true (bs_pb hBₓ hSₓ.1 (show jₓ < 10 by omega)), h4] at eₓ
        cases eₓ
  · intro qₓ jₓ hj
    rw [hSₓ.2 cₓ jₓ hcₓ]
    by_cases h1 : jₓ < V.1
    · rw [decide_eq_true h1, Bool.true_and, gs_cg V hₓ rₓ true (bs_pb hBₓ hSₓ.1 (show jₓ < 10 by omega))]
      cases zₓ : (gs V hₓ rₓ (pb V) true jₓ).testBit cₓ
      · rfl
      · have : (shM V hₓ rₓ).testBit cₓ = true := by
          unfold shM
          rw [shL_bit]
          exact Or.inr ⟨jₓ, by omega, by omega, by omega, zₓ⟩
        rw [this] at qₓ; cases qₓ
    · rw [decide_eq_false h1, Bool.false_and]
theorem sim_shade (aₓ bₓ : Int32) : Sim RR (fun Sₓ => fX7_shade Sₓ aₓ bₓ) (fun T => fX8_shade T aₓ bₓ) := by
  intro Sₓ T hR
  obtain ⟨V, tₓ, hBₓ, hX, hMₓ, -⟩ := hR.vw
  rcases ixC aₓ (show 25 < 2 ^ 31 by omega) with ⟨cₓ, hcₓ, rfl⟩ | gₓ | gₓ
  · rcases ixC bₓ (show 12 < 2 ^ 31 by omega) with ⟨hₓ, hh, rfl⟩ | gₓ | gₓ
    · obtain ⟨Gₓ, g1, g2⟩ := findsNow_M hBₓ hMₓ hh
      have e3ₓ := inH_V hX hh (show 3 < 5 by omega)
      have r8 : V.2.1 hₓ 3 < 8 := by have := hBₓ.2.1 hₓ hh; omega
      have es := shadeA_X hBₓ hX hh r8
      have kₓ : ((nI (shM V hₓ (V.2.1 hₓ 3)) >>> (nI cₓ &&& 31)) &&& (1 : Int32)) = if (shM V hₓ (V.2.1 hₓ 3)).testBit cₓ = true then 1 else 0 := bitI_nI _ (by omega)
      have k' : ((nI (shM V hₓ (V.2.1 hₓ 3)) >>> (nI cₓ &&& nI 31)) &&& nI 1) = if (shM V hₓ (V.2.1 hₓ 3)).testBit cₓ = true then nI 1 else nI 0 := kₓ
      have hl := lit_M hBₓ g2 hcₓ
      have hl' : mput (mset T 0 0 (nI 0)) 21 Gₓ 21 cₓ = nI 0 ↔ (shM V hₓ (V.2.1 hₓ 3)).testBit cₓ = false := hl
      rw [mput_same] at hl'
      refine ⟨if (shM V hₓ (V.2.1 hₓ 3)).testBit cₓ = true then nI 1 else nI 0, Sₓ, mput (mset T 0 0 (nI 0)) 21 Gₓ, ?_, ?_, hR.fr (frm.rf _ _) (frm.put _ _ (by decide))⟩
      · clear hl hl' g1 g2 hR hBₓ hX hMₓ kₓ
        simp (disch := first | omega | assumption) only [fX7_shade, fX7_isPlace, fX7_isHour, e3ₓ, es, k', mset_ne, mset_same, upd_same, upd_ne, ltm_e, lti_e, bnd_e, fa_lit, nI_add, pk_mul, nI_clamp, gd_in, nlt0, nI_ltI, nI_leI, nI_eq, if_true, if_false, if_pos, if_neg]
      · clear kₓ k' es e3ₓ hR hBₓ hX hMₓ g2 hl
        by_cases zₓ : (shM V hₓ (V.2.1 hₓ 3)).testBit cₓ = true
        · have z2 : ¬ Gₓ cₓ = nI 0 := fun qₓ => by rw [hl'.1 qₓ] at zₓ; cases zₓ
          rw [if_pos zₓ]
          simp (disch := first | omega | assumption) only [fX8_shade, fX8_isIn, fX8_isHour, g1, mput_same, z2, mset_ne, mset_same, upd_same, upd_ne, ltm_e, lti_e, bnd_e, fa_lit, nI_add, pk_mul, nI_clamp, gd_in, nlt0, nI_ltI, nI_leI, nI_eq, if_true, if_false, if_pos, if_neg]
        · have z2 : Gₓ cₓ = nI 0 := hl'.2 (by simpa using zₓ)
          rw [if_neg zₓ]
          simp (disch := first | omega | assumption) only [fX8_shade, fX8_isIn, fX8_isHour, g1, mput_same, z2, mset_ne, mset_same, upd_same, upd_ne, ltm_e, lti_e, bnd_e, fa_lit, nI_add, pk_mul, nI_clamp, gd_in, nlt0, nI_ltI, nI_leI, nI_eq, if_true, if_false, if_pos, if_neg]
    · exact ⟨-1, Sₓ, mset T 0 0 0, by simp (disch := first | omega | assumption) only [fX7_shade, fX7_isPlace, fX7_isHour, lo1 gₓ, lo2 gₓ, lo3 gₓ, lo4 gₓ, lo5 gₓ, mset_ne, mset_same, upd_same, upd_ne, ltm_e, lti_e, bnd_e, fa_lit, nI_add, pk_mul, nI_clamp, gd_in, nlt0, nI_ltI, nI_leI, nI_eq, if_true, if_false, if_pos, if_neg], by simp (disch := first | omega | assumption) only [fX8_shade, fX8_isIn, fX8_isHour, lo1 gₓ, lo2 gₓ, lo3 gₓ, lo4 gₓ, lo5 gₓ, mset_ne, mset_same, upd_same, upd_ne, ltm_e, lti_e, bnd_e, fa_lit, nI_add, pk_mul, nI_clamp, gd_in, nlt0, nI_ltI, nI_leI, nI_eq, if_true, if_false, if_pos, if_neg], hR.told 0⟩
    · exact ⟨-1, Sₓ, mset T 0 0 0, by simp (disch := first | omega | assumption) only [fX7_shade, fX7_isPlace, fX7_isHour, hi1 gₓ, hi2 gₓ, hi3 gₓ, hi4 gₓ, hi5 gₓ, mset_ne, mset_same, upd_same, upd_ne, ltm_e, lti_e, bnd_e, fa_lit, nI_add, pk_mul, nI_clamp, gd_in, nlt0, nI_ltI, nI_leI, nI_eq, if_true, if_false, if_pos, if_neg], by simp (disch := first | omega | assumption) only [fX8_shade, fX8_isIn, fX8_isHour, hi1 gₓ, hi2 gₓ, hi3 gₓ, hi4 gₓ, hi5 gₓ, mset_ne, mset_same, upd_same, upd_ne, ltm_e, lti_e, bnd_e, fa_lit, nI_add, pk_mul, nI_clamp, gd_in, nlt0, nI_ltI, nI_leI, nI_eq, if_true, if_false, if_pos, if_neg], hR.told 0⟩
  · exact ⟨-1, Sₓ, mset T 0 0 0, by simp (disch := first | omega | assumption) only [fX7_shade, fX7_isPlace, lo1 gₓ, lo2 gₓ, lo3 gₓ, lo4 gₓ, lo5 gₓ, mset_ne, mset_same, upd_same, upd_ne, ltm_e, lti_e, bnd_e, fa_lit, nI_add, pk_mul, nI_clamp, gd_in, nlt0, nI_ltI, nI_leI, nI_eq, if_true, if_false, if_pos, if_neg], by simp (disch := first | omega | assumption) only [fX8_shade, fX8_isIn, lo1 gₓ, lo2 gₓ, lo3 gₓ, lo4 gₓ, lo5 gₓ, mset_ne, mset_same, upd_same, upd_ne, ltm_e, lti_e, bnd_e, fa_lit, nI_add, pk_mul, nI_clamp, gd_in, nlt0, nI_ltI, nI_leI, nI_eq, if_true, if_false, if_pos, if_neg], hR.told 0⟩
  · exact ⟨-1, Sₓ, mset T 0 0 0, by simp (disch := first | omega | assumption) only [fX7_shade, fX7_isPlace, hi1 gₓ, hi2 gₓ, hi3 gₓ, hi4 gₓ, hi5 gₓ, mset_ne, mset_same, upd_same, upd_ne, ltm_e, lti_e, bnd_e, fa_lit, nI_add, pk_mul, nI_clamp, gd_in, nlt0, nI_ltI, nI_leI, nI_eq, if_true, if_false, if_pos, if_neg], by simp (disch := first | omega | assumption) only [fX8_shade, fX8_isIn, hi1 gₓ, hi2 gₓ, hi3 gₓ, hi4 gₓ, hi5 gₓ, mset_ne, mset_same, upd_same, upd_ne, ltm_e, lti_e, bnd_e, fa_lit, nI_add, pk_mul, nI_clamp, gd_in, nlt0, nI_ltI, nI_leI, nI_eq, if_true, if_false, if_pos, if_neg], hR.told 0⟩
/-- the columns that both sides show -/
def colM (T : Mem) (pₓ cₓ : Nat) : Int32 := match cₓ with
  | 0 => T 1 (5 + pₓ)
  | 1 => T 5 pₓ
  | 2 => T 6 pₓ
  | 3 => T 7 pₓ
  | 4 => T 1 (15 + pₓ)
  | 5 => bitI (T 0 10) pₓ
  | 6 => bitI (T 0 11) pₓ
  | 7 => T 1 (25 + pₓ)
  | 8 => T 1 (35 + pₓ)
  | _ => T 1 (45 + pₓ)
theorem of_col {nₓ dₓ tₓ pr re bl : Nat} {Sₓ T : Mem} (hₓ : RWn nₓ dₓ tₓ pr re bl (sl Sₓ 1) T) {pₓ cₓ : Nat} (hp : pₓ < 10) (hcₓ : cₓ < 10) : Sₓ 3 (10 * pₓ + cₓ) = colM T pₓ cₓ := by
  obtain ⟨a1ₓ, a2, a3, a5, a6, -⟩ := hₓ.2.2.2.2.2.2.2.2.2.2.1 pₓ hp
  obtain ⟨a0ₓ, a4, a7, a8, a9, -⟩ := hₓ.2.2.2.2.2.2.2.2.2.2.2.1 pₓ hp
  obtain rfl | rfl | rfl | rfl | rfl | rfl | rfl | rfl | rfl | rfl : cₓ = 0 ∨ cₓ = 1 ∨ cₓ = 2 ∨ cₓ = 3 ∨ cₓ = 4 ∨ cₓ = 5 ∨ cₓ = 6 ∨ cₓ = 7 ∨ cₓ = 8 ∨ cₓ = 9 := by omega
  · exact a0ₓ
  · exact a1ₓ
  · exact a2
  · exact a3
  · exact a4
  · exact a5
  · exact a6
  · exact a7
  · exact a8
  · exact a9
theorem ofM_col (T : Mem) {nₓ pₓ cₓ : Nat} (e2ₓ : T 0 6 = nI nₓ) (hn : nₓ ≤ 10) (hp : pₓ < nₓ) (hcₓ : cₓ < 10) : fX8_of T (nI pₓ) (nI cₓ) = some (colM T pₓ cₓ, mset T 0 0 (nI 0)) := by
  obtain rfl | rfl | rfl | rfl | rfl | rfl | rfl | rfl | rfl | rfl : cₓ = 0 ∨ cₓ = 1 ∨ cₓ = 2 ∨ cₓ = 3 ∨ cₓ = 4 ∨ cₓ = 5 ∨ cₓ = 6 ∨ cₓ = 7 ∨ cₓ = 8 ∨ cₓ = 9 := by omega
  all_goals simp (disch := first | omega | assumption) only [fX8_of, fX8_isPilgrim, e2ₓ, colM, bitI, mset_ne, mset_same, upd_same, upd_ne, ltm_e, lti_e, bnd_e, fa_lit, nI_add, pk_mul, nI_clamp, gd_in, nlt0, nI_ltI, nI_leI, nI_eq, if_true, if_false, if_pos, if_neg]
theorem ofM_lo (T : Mem) {nₓ pₓ : Nat} (e2ₓ : T 0 6 = nI nₓ) (hn : nₓ ≤ 10) (hp : pₓ < nₓ) {bₓ : Int32} (gₓ : bₓ < nI 0) : fX8_of T (nI pₓ) bₓ = some (-nI 1, mset T 0 0 (nI 0)) := by
  simp (disch := first | omega | assumption) only [fX8_of, fX8_isPilgrim, e2ₓ, lo1 gₓ, lo2 gₓ, lo3 gₓ, lo4 gₓ, lo5 gₓ, mset_ne, mset_same, upd_same, upd_ne, ltm_e, lti_e, bnd_e, fa_lit, nI_add, pk_mul, nI_clamp, gd_in, nlt0, nI_ltI, nI_leI, nI_eq, if_true, if_false, if_pos, if_neg]
theorem ofM_hi (T : Mem) {nₓ pₓ : Nat} (e2ₓ : T 0 6 = nI nₓ) (hn : nₓ ≤ 10) (hp : pₓ < nₓ) {bₓ : Int32} (gₓ : nI 11 ≤ bₓ) : fX8_of T (nI pₓ) bₓ = some (-nI 1, mset T 0 0 (nI 0)) := by
  simp (disch := first | omega | assumption) only [fX8_of, fX8_isPilgrim, e2ₓ, hi1 gₓ, hi2 gₓ, hi3 gₓ, hi4 gₓ, hi5 gₓ, mset_ne, mset_same, upd_same, upd_ne, ltm_e, lti_e, bnd_e, fa_lit, nI_add, pk_mul, nI_clamp, gd_in, nlt0, nI_ltI, nI_leI, nI_eq, if_true, if_false, if_pos, if_neg]
theorem ofM_no (T : Mem) {nₓ : Nat} (e2ₓ : T 0 6 = nI nₓ) (hn : nₓ ≤ 10) {aₓ bₓ : Int32} (hₓ : ¬ ∃ jₓ, jₓ < nₓ ∧ aₓ = nI jₓ) : fX8_of T aₓ bₓ = some (-nI 1, mset T 0 0 (nI 0)) := by
  unfold fX8_of
  rw [ltm_e, pilM (mset T 0 0 0) aₓ hn e2ₓ, bnd_e, if_neg hₓ, if_pos rfl]
  rfl
theorem sim_of (aₓ bₓ : Int32) : Sim RR (fun Sₓ => fX7_of Sₓ aₓ bₓ) (fun T => fX8_of T aₓ bₓ) := by
  intro Sₓ T hR
  obtain ⟨⟨nₓ, dₓ, tₓ, pr, re, bl, cₓ, hW, hP⟩, -⟩ := id hR
  have hn : nₓ ≤ 10 := hW.1.1
  have e1ₓ : Sₓ 1 9 = nI nₓ := hW.2.1.1
  have e2ₓ : T 0 6 = nI nₓ := hW.2.1.2
  have ht : tₓ ≤ 12 := hW.1.2.2.1
  have t1ₓ : Sₓ 1 8 = nI tₓ := hW.2.2.2.1.1
  have t2ₓ : T 1 1 = nI tₓ := hW.2.2.2.1.2
  rcases ixC aₓ (show nₓ < 2 ^ 31 by omega) with ⟨pₓ, hp, rfl⟩ | gₓ | gₓ
  · rcases ixC bₓ (show 11 < 2 ^ 31 by omega) with ⟨wₓ, hw, rfl⟩ | gₓ | gₓ
    · by_cases w10ₓ : wₓ = 10
      · subst w10ₓ
        by_cases t12 : tₓ = 12
        · subst t12
          clear hW hP
          exact ⟨nI 0, Sₓ, mset T 0 0 (nI 0), by simp (disch := first | omega | assumption) only [fX7_of, fX6_isPilgrim, fX7_isHour, e1ₓ, t1ₓ, mset_ne, mset_same, upd_same, upd_ne, ltm_e, lti_e, bnd_e, fa_lit, nI_add, pk_mul, nI_clamp, gd_in, nlt0, nI_ltI, nI_leI, nI_eq, if_true, if_false, if_pos, if_neg], by simp (disch := first | omega | assumption) only [fX8_of, fX8_isPilgrim, e2ₓ, t2ₓ, mset_ne, mset_same, upd_same, upd_ne, ltm_e, lti_e, bnd_e, fa_lit, nI_add, pk_mul, nI_clamp, gd_in, nlt0, nI_ltI, nI_leI, nI_eq, if_true, if_false, if_pos, if_neg], hR.told 0⟩
        · have hh : tₓ < 12 := by omega
          obtain ⟨hBₓ, hX, hMₓ⟩ := hW.vw
          have hpV : pₓ < (vw nₓ T).1 := hp
          obtain ⟨Gₓ, g1, g2⟩ := findsNow_M hBₓ hMₓ.told hh
          have e3ₓ := inH_V hX hh (show 3 < 5 by omega)
          have r8 : (vw nₓ T).2.1 tₓ 3 < 8 := by have := hBₓ.2.1 tₓ hh; omega
          have es := shadeA_X hBₓ hX hh r8
          have i1ₓ := isShd_X hBₓ hX (gₓ := tₓ) (rₓ := (vw nₓ T).2.1 tₓ 3) hpV
          have i2ₓ := isShd_M hBₓ g2 hh hpV
          refine ⟨if isSh (vw nₓ T) tₓ ((vw nₓ T).2.1 tₓ 3) pₓ = true then nI 1 else nI 0, Sₓ, mput (mset T 0 0 (nI 0)) 21 Gₓ, ?_, ?_, hR.fr (frm.rf _ _) (frm.put _ _ (by decide))⟩
          · clear hW hP i2ₓ g1 g2 hBₓ hX hMₓ hR
            generalize (vw nₓ T) = V at *
            by_cases zₓ : isSh V tₓ (V.2.1 tₓ 3) pₓ = true
            · rw [if_pos zₓ] at i1ₓ ⊢
              simp (disch := first | omega | assumption) only [fX7_of, fX6_isPilgrim, fX7_isHour, e1ₓ, t1ₓ, e3ₓ, es, i1ₓ, mset_ne, mset_same, upd_same, upd_ne, ltm_e, lti_e, bnd_e, fa_lit, nI_add, pk_mul, nI_clamp, gd_in, nlt0, nI_ltI, nI_leI, nI_eq, if_true, if_false, if_pos, if_neg]
            · rw [if_neg zₓ] at i1ₓ ⊢
              simp (disch := first | omega | assumption) only [fX7_of, fX6_isPilgrim, fX7_isHour, e1ₓ, t1ₓ, e3ₓ, es, i1ₓ, mset_ne, mset_same, upd_same, upd_ne, ltm_e, lti_e, bnd_e, fa_lit, nI_add, pk_mul, nI_clamp, gd_in, nlt0, nI_ltI, nI_leI, nI_eq, if_true, if_false, if_pos, if_neg]
          · clear hW hP i1ₓ g2 hBₓ hX hMₓ hR e3ₓ es
            generalize (vw nₓ T) = V at *
            by_cases zₓ : isSh V tₓ (V.2.1 tₓ 3) pₓ = true
            · rw [if_pos zₓ] at i2ₓ ⊢
              simp (disch := first | omega | assumption) only [fX8_of, fX8_isPilgrim, e2ₓ, t2ₓ, g1, i2ₓ, mset_ne, mset_same, upd_same, upd_ne, ltm_e, lti_e, bnd_e, fa_lit, nI_add, pk_mul, nI_clamp, gd_in, nlt0, nI_ltI, nI_leI, nI_eq, if_true, if_false, if_pos, if_neg]
            · rw [if_neg zₓ] at i2ₓ ⊢
              simp (disch := first | omega | assumption) only [fX8_of, fX8_isPilgrim, e2ₓ, t2ₓ, g1, i2ₓ, mset_ne, mset_same, upd_same, upd_ne, ltm_e, lti_e, bnd_e, fa_lit, nI_add, pk_mul, nI_clamp, gd_in, nlt0, nI_ltI, nI_leI, nI_eq, if_true, if_false, if_pos, if_neg]
      · have hcₓ := of_col hW (show pₓ < 10 by omega) (show wₓ < 10 by omega)
        have hx := has_X Sₓ hn e1ₓ hp (show wₓ < 10 by omega)
        have hmₓ := ofM_col T e2ₓ hn hp (show wₓ < 10 by omega)
        refine ⟨colM T pₓ wₓ, Sₓ, mset T 0 0 (nI 0), ?_, hmₓ, hR.told 0⟩
        clear hW hP hmₓ
        simp (disch := first | omega | assumption) only [fX7_of, fX6_isPilgrim, e1ₓ, hx, hcₓ, mset_ne, mset_same, upd_same, upd_ne, ltm_e, lti_e, bnd_e, fa_lit, nI_add, pk_mul, nI_clamp, gd_in, nlt0, nI_ltI, nI_leI, nI_eq, if_true, if_false, if_pos, if_neg]
    · have hmₓ := ofM_lo T e2ₓ hn hp gₓ
      clear hW hP
      exact ⟨-nI 1, Sₓ, mset T 0 0 (nI 0), by simp (disch := first | omega | assumption) only [fX7_of, fX6_isPilgrim, fX6_has, e1ₓ, lo1 gₓ, lo2 gₓ, lo3 gₓ, lo4 gₓ, lo5 gₓ, mset_ne, mset_same, upd_same, upd_ne, ltm_e, lti_e, bnd_e, fa_lit, nI_add, pk_mul, nI_clamp, gd_in, nlt0, nI_ltI, nI_leI, nI_eq, if_true, if_false, if_pos, if_neg], hmₓ, hR.told 0⟩
    · have hmₓ := ofM_hi T e2ₓ hn hp gₓ
      clear hW hP
      exact ⟨-nI 1, Sₓ, mset T 0 0 (nI 0), by simp (disch := first | omega | assumption) only [fX7_of, fX6_isPilgrim, fX6_has, e1ₓ, hi1 gₓ, hi2 gₓ, hi3 gₓ, hi4 gₓ, hi5 gₓ, mset_ne, mset_same, upd_same, upd_ne, ltm_e, lti_e, bnd_e, fa_lit, nI_add, pk_mul, nI_clamp, gd_in, nlt0, nI_ltI, nI_leI, nI_eq, if_true, if_false, if_pos, if_neg], hmₓ, hR.told 0⟩
  · clear hW hP
    exact ⟨-nI 1, Sₓ, mset T 0 0 (nI 0), by simp (disch := first | omega | assumption) only [fX7_of, fX6_isPilgrim, e1ₓ, lo1 gₓ, lo2 gₓ, lo3 gₓ, lo4 gₓ, lo5 gₓ, mset_ne, mset_same, upd_same, upd_ne, ltm_e, lti_e, bnd_e, fa_lit, nI_add, pk_mul, nI_clamp, gd_in, nlt0, nI_ltI, nI_leI, nI_eq, if_true, if_false, if_pos, if_neg], ofM_no T e2ₓ hn (fun ⟨jₓ, hj, ej⟩ => by rw [ej] at gₓ; exact nlt0 (by omega) gₓ), hR.told 0⟩
  · clear hW hP
    exact ⟨-nI 1, Sₓ, mset T 0 0 (nI 0), by simp (disch := first | omega | assumption) only [fX7_of, fX6_isPilgrim, e1ₓ, hi1 gₓ, hi2 gₓ, hi3 gₓ, hi4 gₓ, hi5 gₓ, mset_ne, mset_same, upd_same, upd_ne, ltm_e, lti_e, bnd_e, fa_lit, nI_add, pk_mul, nI_clamp, gd_in, nlt0, nI_ltI, nI_leI, nI_eq, if_true, if_false, if_pos, if_neg], ofM_no T e2ₓ hn (fun ⟨jₓ, hj, ej⟩ => by rw [ej, nI_leI (by omega) (by omega)] at gₓ; omega), hR.told 0⟩
/-! turn -/
def sumI (fₓ : Nat → Int32) : Nat → Nat → Int32
  | 0, _ => 0
  | kₓ + 1, iₓ => fₓ iₓ + sumI fₓ kₓ (iₓ + 1)
def orb (fₓ : Nat → Bool) : Nat → Nat → Int32 → Int32
  | 0, _, aₓ => aₓ
  | kₓ + 1, iₓ, aₓ => orb fₓ kₓ (iₓ + 1) (if fₓ iₓ = true then aₓ ||| one iₓ else aₓ)
theorem orb_bit (fₓ : Nat → Bool) (jₓ : Nat) : ∀ kₓ iₓ aₓ, iₓ + kₓ ≤ 32 → bt (orb fₓ kₓ iₓ aₓ) jₓ = (bt aₓ jₓ || (decide (iₓ ≤ jₓ ∧ jₓ < iₓ + kₓ) && fₓ jₓ)) := by
  intro kₓ
  induction kₓ with
  | zero =>
    intro iₓ aₓ _
    rw [orb, decide_eq_false (by omega), Bool.false_and, Bool.or_false]
  | succ kₓ ihₓ =>
    intro iₓ aₓ hiₓ
    rw [orb, ihₓ _ _ (by omega)]
    have e1ₓ : bt (if fₓ iₓ = true then aₓ ||| one iₓ else aₓ) jₓ = (bt aₓ jₓ || (decide (jₓ = iₓ) && fₓ iₓ)) := by
      by_cases cₓ : fₓ iₓ = true
      · rw [if_pos cₓ, bt_set _ (by omega), cₓ, Bool.and_true]
      · rw [if_neg cₓ]; simp [cₓ]
    rw [e1ₓ]
    by_cases eₓ : jₓ = iₓ
    · subst eₓ
      rw [decide_eq_true rfl, decide_eq_false (show ¬ (jₓ + 1 ≤ jₓ ∧ jₓ < jₓ + 1 + kₓ) by omega), decide_eq_true (show jₓ ≤ jₓ ∧ jₓ < jₓ + (kₓ + 1) by omega)]
      simp
    · rw [decide_eq_false eₓ, Bool.false_and, Bool.or_false]
      by_cases qₓ : iₓ + 1 ≤ jₓ ∧ jₓ < iₓ + 1 + kₓ
      · rw [decide_eq_true qₓ, decide_eq_true (show iₓ ≤ jₓ ∧ jₓ < iₓ + (kₓ + 1) by omega)]
      · rw [decide_eq_false qₓ, decide_eq_false (show ¬ (iₓ ≤ jₓ ∧ jₓ < iₓ + (kₓ + 1)) by omega)]
theorem orb_cg {fₓ gₓ : Nat → Bool} : ∀ kₓ iₓ aₓ, (∀ jₓ, iₓ ≤ jₓ → jₓ < iₓ + kₓ → fₓ jₓ = gₓ jₓ) → orb fₓ kₓ iₓ aₓ = orb gₓ kₓ iₓ aₓ := by
  intro kₓ
  induction kₓ with
  | zero => intro iₓ aₓ _; rfl
  | succ kₓ ihₓ => intro iₓ aₓ hₓ; rw [orb, orb, hₓ iₓ (Nat.le_refl iₓ) (by omega), ihₓ _ _ (fun jₓ h1 h2 => hₓ jₓ (by omega) (by omega))]
theorem sumI_sub (fₓ gₓ : Nat → Int32) : ∀ kₓ iₓ, sumI (fun jₓ => fₓ jₓ - gₓ jₓ) kₓ iₓ = sumI fₓ kₓ iₓ - sumI gₓ kₓ iₓ := by
  intro kₓ
  induction kₓ with
  | zero => intro iₓ; simp only [sumI]; decide
  | succ kₓ ihₓ => intro iₓ; simp only [sumI]; rw [ihₓ]; grind
theorem saved_X {Sₓ : Mem} {V : Vw} (hBₓ : VB V) (hX : XVw Sₓ V) {hₓ rₓ r' : Nat} (hh : hₓ < 12) : ∀ (kₓ iₓ fₓ : Nat) (aₓ : Int32), iₓ + kₓ = V.1 → kₓ < fₓ → fX5_savedByTurn_37 fₓ Sₓ (nI hₓ) (nI (shM V hₓ rₓ)) (nI (shM V hₓ r')) aₓ (nI iₓ) = some (aₓ + sumI (fun jₓ => nI (bu V hₓ rₓ jₓ) - nI (bu V hₓ r' jₓ)) kₓ iₓ, Sₓ) := by
  have hn := hBₓ.1
  have e1ₓ := hX.1
  intro kₓ
  induction kₓ with
  | zero =>
    intro iₓ fₓ aₓ hiₓ hf
    obtain ⟨fₓ, rfl⟩ : ∃ gₓ, fₓ = gₓ + 1 := ⟨fₓ - 1, by omega⟩
    show fX5_savedByTurn_37_b (fX5_savedByTurn_37 fₓ) Sₓ (nI hₓ) (nI (shM V hₓ rₓ)) (nI (shM V hₓ r')) aₓ (nI iₓ) = _
    unfold fX5_savedByTurn_37_b
    rw [e1ₓ, if_pos (nI_le (by omega) (by omega)), sumI, Int32.add_zero]
  | succ kₓ ihₓ =>
    intro iₓ fₓ aₓ hiₓ hf
    obtain ⟨fₓ, rfl⟩ : ∃ gₓ, fₓ = gₓ + 1 := ⟨fₓ - 1, by omega⟩
    show fX5_savedByTurn_37_b (fX5_savedByTurn_37 fₓ) Sₓ (nI hₓ) (nI (shM V hₓ rₓ)) (nI (shM V hₓ r')) aₓ (nI iₓ) = _
    unfold fX5_savedByTurn_37_b
    rw [e1ₓ, if_neg (by rw [nI_leI (by omega) (by omega)]; omega), burn_X hBₓ hX hh (show iₓ < V.1 by omega), bnd_e, burn_X hBₓ hX hh (show iₓ < V.1 by omega), bnd_e, lti_e, show nI iₓ + 1 = nI (iₓ + 1) from nI_add iₓ 1, ihₓ (iₓ + 1) fₓ _ (by omega) (by omega), sumI, Int32.add_assoc]
theorem gain_X {Sₓ : Mem} {V : Vw} (hBₓ : VB V) (hX : XVw Sₓ V) {hₓ rₓ r' : Nat} (hh : hₓ < 12) : ∀ (kₓ iₓ fₓ : Nat) (aₓ : Int32), iₓ + kₓ = V.1 → kₓ < fₓ → fX5_gainersByTurn_37 fₓ Sₓ (nI hₓ) (nI (shM V hₓ rₓ)) (nI (shM V hₓ r')) aₓ (nI iₓ) = some (orb (fun jₓ => decide (bu V hₓ r' jₓ < bu V hₓ rₓ jₓ)) kₓ iₓ aₓ, Sₓ) := by
  have hn := hBₓ.1
  have e1ₓ := hX.1
  intro kₓ
  induction kₓ with
  | zero =>
    intro iₓ fₓ aₓ hiₓ hf
    obtain ⟨fₓ, rfl⟩ : ∃ gₓ, fₓ = gₓ + 1 := ⟨fₓ - 1, by omega⟩
    show fX5_gainersByTurn_37_b (fX5_gainersByTurn_37 fₓ) Sₓ (nI hₓ) (nI (shM V hₓ rₓ)) (nI (shM V hₓ r')) aₓ (nI iₓ) = _
    unfold fX5_gainersByTurn_37_b
    rw [e1ₓ, if_pos (nI_le (by omega) (by omega)), orb]
  | succ kₓ ihₓ =>
    intro iₓ fₓ aₓ hiₓ hf
    obtain ⟨fₓ, rfl⟩ : ∃ gₓ, fₓ = gₓ + 1 := ⟨fₓ - 1, by omega⟩
    show fX5_gainersByTurn_37_b (fX5_gainersByTurn_37 fₓ) Sₓ (nI hₓ) (nI (shM V hₓ rₓ)) (nI (shM V hₓ r')) aₓ (nI iₓ) = _
    have l1 := bu_lt hBₓ (rₓ := rₓ) hh (show iₓ < 10 by omega)
    have l2 := bu_lt hBₓ (rₓ := r') hh (show iₓ < 10 by omega)
    unfold fX5_gainersByTurn_37_b fX5_gainersByTurn_78
    rw [e1ₓ, if_neg (by rw [nI_leI (by omega) (by omega)]; omega), burn_X hBₓ hX hh (show iₓ < V.1 by omega), bnd_e, burn_X hBₓ hX hh (show iₓ < V.1 by omega), bnd_e, orb, show nI iₓ + 1 = nI (iₓ + 1) from nI_add iₓ 1]
    by_cases cₓ : bu V hₓ r' iₓ < bu V hₓ rₓ iₓ
    · rw [if_neg (by rw [nI_leI (by omega) (by omega)]; omega), lti_e, if_pos (by simp [cₓ]), ihₓ (iₓ + 1) fₓ _ (by omega) (by omega)]
      rfl
    · rw [if_pos (by rw [nI_leI (by omega) (by omega)]; omega), if_neg (by simp [cₓ]), ihₓ (iₓ + 1) fₓ _ (by omega) (by omega)]
theorem turn_M2 {T : Mem} {V : Vw} (hBₓ : VB V) {hₓ r' wₓ : Nat} (hh : hₓ < 12) (hSₓ : Shd T V hₓ r') (hw : wₓ < 2) (x6 : Int32) : ∀ (kₓ iₓ fₓ : Nat) (aₓ bₓ : Int32), iₓ + kₓ = V.1 → kₓ < fₓ → fX8_turn_115 fₓ T (nI hₓ) (nI wₓ) aₓ bₓ x6 (nI iₓ) = some (if wₓ = 0 then aₓ - sumI (fun jₓ => nI (bu V hₓ r' jₓ)) kₓ iₓ else orb (fun jₓ => bt x6 jₓ && decide (bu V hₓ r' jₓ = 0)) kₓ iₓ bₓ, T) := by
  have hn := hBₓ.1
  have e1ₓ := hSₓ.1.1
  intro kₓ
  induction kₓ with
  | zero =>
    intro iₓ fₓ aₓ bₓ hiₓ hf
    obtain ⟨fₓ, rfl⟩ : ∃ gₓ, fₓ = gₓ + 1 := ⟨fₓ - 1, by omega⟩
    show fX8_turn_115_b (fX8_turn_115 fₓ) T (nI hₓ) (nI wₓ) aₓ bₓ x6 (nI iₓ) = _
    unfold fX8_turn_115_b
    rw [e1ₓ, if_pos (nI_le (by omega) (by omega)), sumI, orb]
    by_cases cₓ : wₓ = 0
    · subst cₓ
      rw [if_pos (show nI 0 = 0 from rfl), if_pos rfl, Int32.sub_zero]
    · rw [if_neg cₓ, if_neg (by rw [show (0 : Int32) = nI 0 from rfl, nI_eq (by omega) (by omega)]; exact cₓ)]
  | succ kₓ ihₓ =>
    intro iₓ fₓ aₓ bₓ hiₓ hf
    obtain ⟨fₓ, rfl⟩ : ∃ gₓ, fₓ = gₓ + 1 := ⟨fₓ - 1, by omega⟩
    show fX8_turn_115_b (fX8_turn_115 fₓ) T (nI hₓ) (nI wₓ) aₓ bₓ x6 (nI iₓ) = _
    have l2 := bu_lt hBₓ (rₓ := r') hh (show iₓ < 10 by omega)
    have bmₓ := burn_M hBₓ hSₓ hh (show iₓ < V.1 by omega)
    have es : ∀ xₓ : Int32, aₓ - xₓ - sumI (fun jₓ => nI (bu V hₓ r' jₓ)) kₓ (iₓ + 1) = aₓ - (xₓ + sumI (fun jₓ => nI (bu V hₓ r' jₓ)) kₓ (iₓ + 1)) := fun xₓ => by grind
    unfold fX8_turn_115_b fX8_turn_166
    rw [e1ₓ, if_neg (by rw [nI_leI (by omega) (by omega)]; omega), bmₓ, bnd_e, lti_e, orb, sumI, show nI iₓ + 1 = nI (iₓ + 1) from nI_add iₓ 1]
    by_cases cₓ : bt x6 iₓ = true
    · have c' : ((x6 >>> (nI iₓ &&& 31)) &&& (1 : Int32)) = 1 := (bitI_iff x6 (by omega)).2 cₓ
      rw [if_pos c', bmₓ, bnd_e]
      by_cases c2ₓ : bu V hₓ r' iₓ = 0
      · rw [if_pos (show nI (bu V hₓ r' iₓ) = 0 by rw [c2ₓ]; rfl), lti_e, if_pos (show (bt x6 iₓ && decide (bu V hₓ r' iₓ = 0)) = true by rw [cₓ, c2ₓ]; rfl), ihₓ (iₓ + 1) fₓ _ _ (by omega) (by omega), es]
        rfl
      · rw [if_neg (show ¬ nI (bu V hₓ r' iₓ) = 0 by rw [show (0 : Int32) = nI 0 from rfl, nI_eq (by omega) (by omega)]; exact c2ₓ), if_neg (show ¬ (bt x6 iₓ && decide (bu V hₓ r' iₓ = 0)) = true by simp [c2ₓ]), ihₓ (iₓ + 1) fₓ _ _ (by omega) (by omega), es]
    · have c' : ¬ ((x6 >>> (nI iₓ &&& 31)) &&& (1 : Int32)) = 1 := fun qₓ => cₓ ((bitI_iff x6 (by omega)).1 qₓ)
      rw [if_neg c', if_neg (show ¬ (bt x6 iₓ && decide (bu V hₓ r' iₓ = 0)) = true by simp [cₓ]), ihₓ (iₓ + 1) fₓ _ _ (by omega) (by omega), es]
theorem turn_M1 {V : Vw} (hBₓ : VB V) {hₓ rₓ r' wₓ : Nat} (hh : hₓ < 12) (hr : r' < 8) (hw : wₓ < 2) : ∀ (kₓ iₓ fₓ : Nat) (T : Mem) (aₓ x6 : Int32), Shd T V hₓ rₓ → iₓ + kₓ = V.1 → kₓ < fₓ → ∃ T', frm scM T T' ∧ fX8_turn_55 fₓ T (nI hₓ) (nI r') (nI wₓ) aₓ (nI 0) x6 (nI iₓ) = some (if wₓ = 0 then aₓ + sumI (fun jₓ => nI (bu V hₓ rₓ jₓ)) kₓ iₓ - sumI (fun jₓ => nI (bu V hₓ r' jₓ)) V.1 0 else orb (fun jₓ => bt (orb (fun jₓ => decide (0 < bu V hₓ rₓ jₓ)) kₓ iₓ x6) jₓ && decide (bu V hₓ r' jₓ = 0)) V.1 0 (nI 0), T') := by
  have hn := hBₓ.1
  intro kₓ
  induction kₓ with
  | zero =>
    intro iₓ fₓ T aₓ x6 hSₓ hiₓ hf
    obtain ⟨fₓ, rfl⟩ : ∃ gₓ, fₓ = gₓ + 1 := ⟨fₓ - 1, by omega⟩
    obtain ⟨Gₓ, g1, g2⟩ := finds_all hBₓ hSₓ.1 hh hr
    have e1ₓ := hSₓ.1.1
    refine ⟨mput T 21 Gₓ, frm.put _ _ (by decide), ?_⟩
    show fX8_turn_55_b (fX8_turn_55 fₓ) T (nI hₓ) (nI r') (nI wₓ) aₓ (nI 0) x6 (nI iₓ) = _
    unfold fX8_turn_55_b
    rw [e1ₓ, if_pos (nI_le (by omega) (by omega)), show (1 : Int32) = nI 1 from rfl, g1, bnd_e, show (0 : Int32) = nI 0 from rfl, turn_M2 hBₓ hh g2 hw x6 V.1 0 FU _ _ (by omega) (by unfold FU; omega), sumI, orb, Int32.add_zero]
  | succ kₓ ihₓ =>
    intro iₓ fₓ T aₓ x6 hSₓ hiₓ hf
    obtain ⟨fₓ, rfl⟩ : ∃ gₓ, fₓ = gₓ + 1 := ⟨fₓ - 1, by omega⟩
    have e1ₓ := hSₓ.1.1
    have l1 := bu_lt hBₓ (rₓ := rₓ) hh (show iₓ < 10 by omega)
    have bmₓ := burn_M hBₓ hSₓ hh (show iₓ < V.1 by omega)
    obtain ⟨T', t1ₓ, t2ₓ⟩ := ihₓ (iₓ + 1) fₓ T (aₓ + nI (bu V hₓ rₓ iₓ)) (if decide (0 < bu V hₓ rₓ iₓ) = true then x6 ||| one iₓ else x6) hSₓ (by omega) (by omega)
    refine ⟨T', t1ₓ, ?_⟩
    rw [orb, sumI, ← Int32.add_assoc, ← t2ₓ]
    show fX8_turn_55_b (fX8_turn_55 fₓ) T (nI hₓ) (nI r') (nI wₓ) aₓ (nI 0) x6 (nI iₓ) = _
    unfold fX8_turn_55_b fX8_turn_83
    rw [e1ₓ, if_neg (by rw [nI_leI (by omega) (by omega)]; omega), bmₓ, bnd_e, show nI iₓ + 1 = nI (iₓ + 1) from nI_add iₓ 1]
    by_cases cₓ : 0 < bu V hₓ rₓ iₓ
    · rw [if_neg (by rw [le0_iff (by omega)]; omega), if_pos (by simp [cₓ]), lti_e, bmₓ, bnd_e, lti_e]
      rfl
    · rw [if_pos (by rw [le0_iff (by omega)]; omega), if_neg (by simp [cₓ]), bmₓ, bnd_e, lti_e]
theorem bu_c (V : Vw) (hₓ rₓ pₓ : Nat) : bu V hₓ rₓ pₓ = 0 ∨ bu V hₓ rₓ pₓ = V.2.1 hₓ 2 * V.2.2 pₓ 3 := by
  unfold bu
  split
  · exact Or.inl rfl
  · exact Or.inr rfl
theorem sim_turn (aₓ bₓ vₓ : Int32) : Sim RR (fun Sₓ => fX7_turn Sₓ aₓ bₓ vₓ) (fun T => fX8_turn T aₓ bₓ vₓ) := by
  intro Sₓ T hR
  have n5ₓ : (-100000 : Int32) = -nI 100000 := rfl
  rcases ixC aₓ (show 12 < 2 ^ 31 by omega) with ⟨hₓ, hh, rfl⟩ | gₓ | gₓ
  · rcases ixC bₓ (show 8 < 2 ^ 31 by omega) with ⟨r', hr, rfl⟩ | gₓ | gₓ
    · rcases ixC vₓ (show 2 < 2 ^ 31 by omega) with ⟨wₓ, hw, rfl⟩ | gₓ | gₓ
      · obtain ⟨V, tₓ, hBₓ, hX, hMₓ, -⟩ := hR.vw
        have hn := hBₓ.1
        obtain ⟨Gₓ, g1, g2⟩ := findsNow_M hBₓ hMₓ hh
        have e3ₓ := inH_V hX hh (show 3 < 5 by omega)
        have r8 : V.2.1 hₓ 3 < 8 := by have := hBₓ.2.1 hₓ hh; omega
        have es := shadeA_X hBₓ hX hh r8
        have es' := shadeA_X hBₓ hX hh hr
        obtain ⟨T', t1ₓ, t2ₓ⟩ := turn_M1 hBₓ hh hr hw V.1 0 FU _ (nI 0) (nI 0) g2 (by omega) (by unfold FU; omega)
        have ft : frm scM (mset T 0 0 (nI 0)) T' := (frm.put _ _ (by decide)).tr t1ₓ
        have x1ₓ := saved_X hBₓ hX (rₓ := V.2.1 hₓ 3) (r' := r') hh V.1 0 FU (nI 0) (by omega) (by unfold FU; omega)
        have x2ₓ := gain_X hBₓ hX (rₓ := V.2.1 hₓ 3) (r' := r') hh V.1 0 FU (nI 0) (by omega) (by unfold FU; omega)
        have tm : fX8_turn T (nI hₓ) (nI r') (nI wₓ) = fX8_turn_55 FU (mput (mset T 0 0 (nI 0)) 21 Gₓ) (nI hₓ) (nI r') (nI wₓ) (nI 0) (nI 0) (nI 0) (nI 0) := by
          clear t2ₓ x1ₓ x2ₓ es es'
          generalize hq : fX8_turn_55 FU (mput (mset T 0 0 (nI 0)) 21 Gₓ) (nI hₓ) (nI r') (nI wₓ) (nI 0) (nI 0) (nI 0) (nI 0) = qₓ
          simp (disch := first | omega | assumption) only [fX8_turn, fX8_isHour, fX8_isIn, g1, hq, mset_ne, mset_same, upd_same, upd_ne, ltm_e, lti_e, bnd_e, fa_lit, nI_add, pk_mul, nI_clamp, gd_in, nlt0, nI_ltI, nI_leI, nI_eq, if_true, if_false, if_pos, if_neg]
        by_cases w0ₓ : wₓ = 0
        · subst w0ₓ
          rw [if_pos rfl] at t2ₓ
          refine ⟨_, Sₓ, T', ?_, tm.trans t2ₓ, hR.fr (frm.rf _ _) ft⟩
          rw [sumI_sub] at x1ₓ
          have zₓ : nI 0 + sumI (fun jₓ => nI (bu V hₓ (V.2.1 hₓ 3) jₓ)) V.1 0 - sumI (fun jₓ => nI (bu V hₓ r' jₓ)) V.1 0 = nI 0 + (sumI (fun jₓ => nI (bu V hₓ (V.2.1 hₓ 3) jₓ)) V.1 0 - sumI (fun jₓ => nI (bu V hₓ r' jₓ)) V.1 0) := by grind
          rw [zₓ]
          clear t2ₓ tm x2ₓ zₓ ft
          simp (disch := first | omega | assumption) only [fX7_turn, fX7_isHour, fX5_savedByTurn, e3ₓ, es, es', x1ₓ, mset_ne, mset_same, upd_same, upd_ne, ltm_e, lti_e, bnd_e, fa_lit, nI_add, pk_mul, nI_clamp, gd_in, nlt0, nI_ltI, nI_leI, nI_eq, if_true, if_false, if_pos, if_neg]
        · have w1ₓ : wₓ = 1 := by omega
          subst w1ₓ
          rw [if_neg w0ₓ] at t2ₓ
          refine ⟨_, Sₓ, T', ?_, tm.trans t2ₓ, hR.fr (frm.rf _ _) ft⟩
          have zₓ : orb (fun jₓ => bt (orb (fun jₓ => decide (0 < bu V hₓ (V.2.1 hₓ 3) jₓ)) V.1 0 (nI 0)) jₓ && decide (bu V hₓ r' jₓ = 0)) V.1 0 (nI 0) = orb (fun jₓ => decide (bu V hₓ r' jₓ < bu V hₓ (V.2.1 hₓ 3) jₓ)) V.1 0 (nI 0) := by
            refine orb_cg _ _ _ (fun jₓ h1 h2 => ?_)
            show (bt (orb (fun jₓ => decide (0 < bu V hₓ (V.2.1 hₓ 3) jₓ)) V.1 0 (nI 0)) jₓ && decide (bu V hₓ r' jₓ = 0)) = decide (bu V hₓ r' jₓ < bu V hₓ (V.2.1 hₓ 3) jₓ)
            rw [orb_bit _ _ _ _ _ (by omega), show bt (nI 0) jₓ = false from b_0 jₓ, Bool.false_or, decide_eq_true (show 0 ≤ jₓ ∧ jₓ < 0 + V.1 by omega), Bool.true_and]
            have q1ₓ := bu_c V hₓ (V.2.1 hₓ 3) jₓ
            have q2ₓ := bu_c V hₓ r' jₓ
            rw [← Bool.decide_and]
            exact decide_eq_decide.mpr (by omega)
          rw [zₓ]
          clear t2ₓ tm x1ₓ zₓ ft
          simp (disch := first | omega | assumption) only [fX7_turn, fX7_isHour, fX5_gainersByTurn, e3ₓ, es, es', x2ₓ, mset_ne, mset_same, upd_same, upd_ne, ltm_e, lti_e, bnd_e, fa_lit, nI_add, pk_mul, nI_clamp, gd_in, nlt0, nI_ltI, nI_leI, nI_eq, if_true, if_false, if_pos, if_neg]
      · exact ⟨-nI 100000, Sₓ, mset T 0 0 0, by simp (disch := first | omega | assumption) only [fX7_turn, fX7_isHour, n5ₓ, lo1 gₓ, lo2 gₓ, lo3 gₓ, lo4 gₓ, lo5 gₓ, mset_ne, mset_same, upd_same, upd_ne, ltm_e, lti_e, bnd_e, fa_lit, nI_add, pk_mul, nI_clamp, gd_in, nlt0, nI_ltI, nI_leI, nI_eq, if_true, if_false, if_pos, if_neg], by simp (disch := first | omega | assumption) only [fX8_turn, fX8_isHour, fX8_isIn, n5ₓ, lo1 gₓ, lo2 gₓ, lo3 gₓ, lo4 gₓ, lo5 gₓ, mset_ne, mset_same, upd_same, upd_ne, ltm_e, lti_e, bnd_e, fa_lit, nI_add, pk_mul, nI_clamp, gd_in, nlt0, nI_ltI, nI_leI, nI_eq, if_true, if_false, if_pos, if_neg], hR.told 0⟩
      · exact ⟨-nI 100000, Sₓ, mset T 0 0 0, by simp (disch := first | omega | assumption) only [fX7_turn, fX7_isHour, n5ₓ, hi1 gₓ, hi2 gₓ, hi3 gₓ, hi4 gₓ, hi5 gₓ, mset_ne, mset_same, upd_same, upd_ne, ltm_e, lti_e, bnd_e, fa_lit, nI_add, pk_mul, nI_clamp, gd_in, nlt0, nI_ltI, nI_leI, nI_eq, if_true, if_false, if_pos, if_neg], by simp (disch := first | omega | assumption) only [fX8_turn, fX8_isHour, fX8_isIn, n5ₓ, hi1 gₓ, hi2 gₓ, hi3 gₓ, hi4 gₓ, hi5 gₓ, mset_ne, mset_same, upd_same, upd_ne, ltm_e, lti_e, bnd_e, fa_lit, nI_add, pk_mul, nI_clamp, gd_in, nlt0, nI_ltI, nI_leI, nI_eq, if_true, if_false, if_pos, if_neg], hR.told 0⟩
    · exact ⟨-nI 100000, Sₓ, mset T 0 0 0, by simp (disch := first | omega | assumption) only [fX7_turn, fX7_isHour, n5ₓ, lo1 gₓ, lo2 gₓ, lo3 gₓ, lo4 gₓ, lo5 gₓ, mset_ne, mset_same, upd_same, upd_ne, ltm_e, lti_e, bnd_e, fa_lit, nI_add, pk_mul, nI_clamp, gd_in, nlt0, nI_ltI, nI_leI, nI_eq, if_true, if_false, if_pos, if_neg], by simp (disch := first | omega | assumption) only [fX8_turn, fX8_isHour, fX8_isIn, n5ₓ, lo1 gₓ, lo2 gₓ, lo3 gₓ, lo4 gₓ, lo5 gₓ, mset_ne, mset_same, upd_same, upd_ne, ltm_e, lti_e, bnd_e, fa_lit, nI_add, pk_mul, nI_clamp, gd_in, nlt0, nI_ltI, nI_leI, nI_eq, if_true, if_false, if_pos, if_neg], hR.told 0⟩
    · exact ⟨-nI 100000, Sₓ, mset T 0 0 0, by simp (disch := first | omega | assumption) only [fX7_turn, fX7_isHour, n5ₓ, hi1 gₓ, hi2 gₓ, hi3 gₓ, hi4 gₓ, hi5 gₓ, mset_ne, mset_same, upd_same, upd_ne, ltm_e, lti_e, bnd_e, fa_lit, nI_add, pk_mul, nI_clamp, gd_in, nlt0, nI_ltI, nI_leI, nI_eq, if_true, if_false, if_pos, if_neg], by simp (disch := first | omega | assumption) only [fX8_turn, fX8_isHour, fX8_isIn, n5ₓ, hi1 gₓ, hi2 gₓ, hi3 gₓ, hi4 gₓ, hi5 gₓ, mset_ne, mset_same, upd_same, upd_ne, ltm_e, lti_e, bnd_e, fa_lit, nI_add, pk_mul, nI_clamp, gd_in, nlt0, nI_ltI, nI_leI, nI_eq, if_true, if_false, if_pos, if_neg], hR.told 0⟩
  · exact ⟨-nI 100000, Sₓ, mset T 0 0 0, by simp (disch := first | omega | assumption) only [fX7_turn, fX7_isHour, n5ₓ, lo1 gₓ, lo2 gₓ, lo3 gₓ, lo4 gₓ, lo5 gₓ, mset_ne, mset_same, upd_same, upd_ne, ltm_e, lti_e, bnd_e, fa_lit, nI_add, pk_mul, nI_clamp, gd_in, nlt0, nI_ltI, nI_leI, nI_eq, if_true, if_false, if_pos, if_neg], by simp (disch := first | omega | assumption) only [fX8_turn, fX8_isHour, fX8_isIn, n5ₓ, lo1 gₓ, lo2 gₓ, lo3 gₓ, lo4 gₓ, lo5 gₓ, mset_ne, mset_same, upd_same, upd_ne, ltm_e, lti_e, bnd_e, fa_lit, nI_add, pk_mul, nI_clamp, gd_in, nlt0, nI_ltI, nI_leI, nI_eq, if_true, if_false, if_pos, if_neg], hR.told 0⟩
  · exact ⟨-nI 100000, Sₓ, mset T 0 0 0, by simp (disch := first | omega | assumption) only [fX7_turn, fX7_isHour, n5ₓ, hi1 gₓ, hi2 gₓ, hi3 gₓ, hi4 gₓ, hi5 gₓ, mset_ne, mset_same, upd_same, upd_ne, ltm_e, lti_e, bnd_e, fa_lit, nI_add, pk_mul, nI_clamp, gd_in, nlt0, nI_ltI, nI_leI, nI_eq, if_true, if_false, if_pos, if_neg], by simp (disch := first | omega | assumption) only [fX8_turn, fX8_isHour, fX8_isIn, n5ₓ, hi1 gₓ, hi2 gₓ, hi3 gₓ, hi4 gₓ, hi5 gₓ, mset_ne, mset_same, upd_same, upd_ne, ltm_e, lti_e, bnd_e, fa_lit, nI_add, pk_mul, nI_clamp, gd_in, nlt0, nI_ltI, nI_leI, nI_eq, if_true, if_false, if_pos, if_neg], hR.told 0⟩
