/-! the burns of an hour, and the fights -/
theorem heat_both {nₓ dₓ tₓ pr re bl : Nat} {Sₓ T : Mem} (hW : RWn nₓ dₓ tₓ pr re bl (sl Sₓ 1) T) (ht : tₓ < 12) : ∃ he S1 T1, he ≤ 9 ∧ fX1_heatUnderClouds Sₓ (nI tₓ) = some (nI he, S1) ∧ fX8_goesBy T = fX8_goesBy_52 T1 (nI tₓ) (nI he) ∧ RWn nₓ dₓ tₓ pr re bl (sl S1 1) T1 ∧ frm [1] Sₓ S1 ∧ frm [1] T T1 ∧ S1 1 8 = nI tₓ := by
  obtain ⟨hBₓ, hX, hMₓ⟩ := hW.vw
  obtain ⟨V, hVe⟩ : ∃ V : Vw, V = vw nₓ T := ⟨_, rfl⟩
  rw [← hVe] at hBₓ hX hMₓ
  have t1ₓ : Sₓ 1 8 = nI tₓ := hW.2.2.2.1.1
  have t2ₓ : T 1 1 = nI tₓ := hW.2.2.2.1.2
  have q2ₓ := (hBₓ.2.1 tₓ ht).2.2.1
  have q4ₓ := (hBₓ.2.1 tₓ ht).2.2.2.2
  have x2ₓ := inH_V hX ht (show 2 < 5 by omega)
  have x4ₓ := inH_V hX ht (show 4 < 5 by omega)
  have m2ₓ := hMₓ.2.1 tₓ 2 ht (by omega)
  have m4ₓ := hMₓ.2.1 tₓ 4 ht (by omega)
  have gM : fX8_goesBy T = (if nI (V.2.1 tₓ 4) ≤ 0 then fX8_goesBy_52 T (nI tₓ) (nI (V.2.1 tₓ 2)) else bnd (fX8_draw T (10 : Int32)) fun r_6 S_7 => gd (inB (nI (5 * tₓ + 4)) 60) <| (if (S_7 3 (5 * tₓ + 4)) ≤ r_6 then fX8_goesBy_52 S_7 (nI tₓ) (nI (V.2.1 tₓ 2)) else fX8_goesBy_52 S_7 (nI tₓ) (0 : Int32))) := by
    unfold fX8_goesBy
    rw [lti_e, show T 1 ((1 : Int32)).toNatClampNeg = nI tₓ from t2ₓ, show (5 : Int32) = nI 5 from rfl, show (2 : Int32) = nI 2 from rfl, show (4 : Int32) = nI 4 from rfl, pk_mul, nI_add, nI_add, gd_in _ (show 5 * tₓ + 2 < 60 by omega) (by omega), lti_e, gd_in _ (show 5 * tₓ + 4 < 60 by omega) (by omega)]
    simp (disch := omega) only [nI_clamp, m2ₓ, m4ₓ]
  rw [gM]
  unfold fX1_heatUnderClouds fX1_heatUnderClouds_29
  rw [show (4 : Int32) = nI 4 from rfl, x4ₓ, bnd_e, show (2 : Int32) = nI 2 from rfl]
  by_cases c0ₓ : V.2.1 tₓ 4 = 0
  · rw [if_pos (show nI (V.2.1 tₓ 4) ≤ 0 by rw [le0_iff (by omega)]; exact c0ₓ), if_pos (show nI (V.2.1 tₓ 4) ≤ 0 by rw [le0_iff (by omega)]; exact c0ₓ), x2ₓ, bnd_e]
    exact ⟨V.2.1 tₓ 2, Sₓ, T, q2ₓ, rfl, rfl, hW, frm.rf _ _, frm.rf _ _, t1ₓ⟩
  · have nleₓ : ¬ nI (V.2.1 tₓ 4) ≤ 0 := by rw [le0_iff (by omega)]; exact c0ₓ
    rw [if_neg nleₓ, if_neg nleₓ]
    have e6ₓ : Sₓ 1 6 = T 1 2 := hW.2.2.2.2.2.2.2.1
    obtain ⟨vₓ, hv⟩ : ∃ vₓ : Int32, vₓ = (1664525 : Int32) * T 1 2 + (1013904223 : Int32) := ⟨_, rfl⟩
    have dX : fX6_draw Sₓ (10 : Int32) = some (irem (ushr vₓ (8 : Int32)) (10 : Int32), mset Sₓ 1 6 vₓ) := by
      unfold fX6_draw
      rw [ltm_e, e6ₓ, ← hv, if_neg (show ¬ (10 : Int32) ≤ 0 by decide), gd_nz _ (show ¬ (10 : Int32) = 0 by decide), ms_at, if_pos ⟨rfl, rfl⟩]
    have dM : fX8_draw T (10 : Int32) = some (irem (ushr vₓ (8 : Int32)) (10 : Int32), mset T 1 2 vₓ) := by
      unfold fX8_draw
      rw [ltm_e, show T 1 ((2 : Int32)).toNatClampNeg = T 1 2 from rfl, show ((2 : Int32)).toNatClampNeg = 2 from rfl, ← hv, gd_nz _ (show ¬ (10 : Int32) = 0 by decide), ms_at, if_pos ⟨rfl, rfl⟩]
    have hW1 : RWn nₓ dₓ tₓ pr re bl (sl (mset Sₓ 1 6 vₓ) 1) (mset T 1 2 vₓ) := by
      obtain ⟨w0ₓ, w1ₓ, w2ₓ, w3ₓ, w4ₓ, w5, w6ₓ, w7ₓ, w8, w9, w10ₓ, w11ₓ, w12, w13ₓ, w14ₓ, w15, w16⟩ := hW
      exact ⟨w0ₓ, w1ₓ, w2ₓ, w3ₓ, w4ₓ, w5, w6ₓ, rfl, w8, w9, w10ₓ, w11ₓ.cg (fun _ _ => rfl) (fun jₓ hₓ _ => upd_ne _ _ (by omega)) (Nat.le_refl _), w12, w13ₓ, w14ₓ, w15, w16⟩
    have f1ₓ : frm [1] Sₓ (mset Sₓ 1 6 vₓ) := frm.put _ _ List.mem_cons_self
    have f2ₓ : frm [1] T (mset T 1 2 vₓ) := frm.put _ _ List.mem_cons_self
    have x2' : fX6_inHour (mset Sₓ 1 6 vₓ) (nI tₓ) (nI 2) = some (nI (V.2.1 tₓ 2), mset Sₓ 1 6 vₓ) := by
      have eₓ := hX.2.1 tₓ 2 ht (by omega)
      have e' : (mset Sₓ 1 6 vₓ) 2 (5 * tₓ + 2) = nI (V.2.1 tₓ 2) := by rw [mset_ne _ _ _ (by omega)]; exact eₓ
      rw [Nat.mul_comm] at e'
      simp (disch := first | omega | assumption) only [fX6_inHour, e', mset_ne, mset_same, upd_same, upd_ne, ltm_e, lti_e, bnd_e, fa_lit, nI_add, pk_mul, nI_clamp, gd_in, nlt0, nI_ltI, nI_leI, nI_eq, if_true, if_false, if_pos, if_neg]
    have m4' : (mset T 1 2 vₓ) 3 (5 * tₓ + 4) = nI (V.2.1 tₓ 4) := by rw [mset_ne _ _ _ (by omega)]; exact m4ₓ
    have t1' : (mset Sₓ 1 6 vₓ) 1 8 = nI tₓ := by rw [ms_at, if_neg (by omega)]; exact t1ₓ
    rw [dX, bnd_e, dM, bnd_e, gd_in _ (show 5 * tₓ + 4 < 60 by omega) (by omega), m4']
    by_cases cₓ : nI (V.2.1 tₓ 4) ≤ irem (ushr vₓ (8 : Int32)) (10 : Int32)
    · rw [if_pos cₓ, if_pos cₓ, x2', bnd_e]
      exact ⟨V.2.1 tₓ 2, _, _, q2ₓ, rfl, rfl, hW1, f1ₓ, f2ₓ, t1'⟩
    · rw [if_neg cₓ, if_neg cₓ]
      exact ⟨0, _, _, by omega, rfl, rfl, hW1, f1ₓ, f2ₓ, t1'⟩
/-- the burns of those before i are done -/
def BIₓ (nₓ dₓ tₓ iₓ bl : Nat) (S0ₓ T0ₓ Sₓ T : Mem) : Prop := frm [3, 6, 7] S0ₓ Sₓ ∧ frm [1, 9] T0ₓ T ∧ (∀ pₓ cₓ, pₓ < 10 → cₓ < 10 → cₓ ≠ 7 → Sₓ 3 (10 * pₓ + cₓ) = S0ₓ 3 (10 * pₓ + cₓ)) ∧ (∀ jₓ, jₓ ≠ 4 → (jₓ < 25 ∨ 35 ≤ jₓ) → T 1 jₓ = T0ₓ 1 jₓ) ∧ (∀ pₓ, pₓ < 10 → Sₓ 3 (10 * pₓ + 7) = T 1 (25 + pₓ) ∧ le32 (T 1 (25 + pₓ)) (81 * (12 * dₓ + tₓ) + (if pₓ < iₓ then 81 else 0))) ∧ bl ≤ 200 ∧ Sₓ 6 1 = nI bl ∧ T 1 4 = nI bl ∧ ∀ jₓ, jₓ < 800 → Sₓ 7 jₓ = T 9 jₓ
theorem BIₓ.vX {nₓ dₓ tₓ iₓ bl : Nat} {S0ₓ T0ₓ Sₓ T : Mem} {V : Vw} (hₓ : BIₓ nₓ dₓ tₓ iₓ bl S0ₓ T0ₓ Sₓ T) (hX : XVw S0ₓ V) : XVw Sₓ V := by
  obtain ⟨b1, -, b3, -⟩ := hₓ
  unfold XVw at hX ⊢
  rw [b1 1 (by decide), b1 2 (by decide)]
  refine ⟨hX.1, hX.2.1, fun pₓ hp => ?_⟩
  obtain ⟨a0ₓ, a1ₓ, a2, a3, a5, a6⟩ := hX.2.2 pₓ hp
  exact ⟨(b3 pₓ 0 hp (by omega) (by omega)).trans a0ₓ, (b3 pₓ 1 hp (by omega) (by omega)).trans a1ₓ, (b3 pₓ 2 hp (by omega) (by omega)).trans a2, (b3 pₓ 3 hp (by omega) (by omega)).trans a3, (b3 pₓ 5 hp (by omega) (by omega)).trans a5, (b3 pₓ 6 hp (by omega) (by omega)).trans a6⟩
theorem BIₓ.vM {nₓ dₓ tₓ iₓ bl : Nat} {S0ₓ T0ₓ Sₓ T : Mem} {V : Vw} (hₓ : BIₓ nₓ dₓ tₓ iₓ bl S0ₓ T0ₓ Sₓ T) (hMₓ : MVw T0ₓ V) : MVw T V := by
  obtain ⟨-, b2, -, b4, -⟩ := hₓ
  unfold MVw at hMₓ ⊢
  rw [b2 0 (by decide), b2 3 (by decide), b2 5 (by decide), b2 6 (by decide), b2 7 (by decide)]
  refine ⟨hMₓ.1, hMₓ.2.1, fun pₓ hp => ?_⟩
  rw [b4 (5 + pₓ) (by omega) (by omega)]
  exact hMₓ.2.2 pₓ hp
theorem BIₓ.sh {nₓ dₓ tₓ iₓ bl hₓ rₓ : Nat} {S0ₓ T0ₓ Sₓ T : Mem} {V : Vw} (hbₓ : BIₓ nₓ dₓ tₓ iₓ bl S0ₓ T0ₓ Sₓ T) (hSₓ : Shd T0ₓ V hₓ rₓ) : Shd T V hₓ rₓ := by
  refine ⟨hbₓ.vM hSₓ.1, fun cₓ jₓ hcₓ => ?_⟩
  rw [hbₓ.2.1 21 (by decide), hbₓ.2.1 0 (by decide)]
  exact hSₓ.2 cₓ jₓ hcₓ
theorem up4 (Fₓ : Nat → Int32) (bₓ : Nat) (v0ₓ v1ₓ v2 v3 : Int32) (jₓ : Nat) : upd (upd (upd (upd Fₓ (4 * bₓ) v0ₓ) (4 * bₓ + 1) v1ₓ) (4 * bₓ + 2) v2) (4 * bₓ + 3) v3 jₓ = if jₓ = 4 * bₓ + 3 then v3 else if jₓ = 4 * bₓ + 2 then v2 else if jₓ = 4 * bₓ + 1 then v1ₓ else if jₓ = 4 * bₓ then v0ₓ else Fₓ jₓ := by
  by_cases h3 : jₓ = 4 * bₓ + 3
  · rw [if_pos h3, h3, upd_same]
  · rw [if_neg h3, upd_ne _ _ h3]
    by_cases h2 : jₓ = 4 * bₓ + 2
    · rw [if_pos h2, h2, upd_same]
    · rw [if_neg h2, upd_ne _ _ h2]
      by_cases h1 : jₓ = 4 * bₓ + 1
      · rw [if_pos h1, h1, upd_same]
      · rw [if_neg h1, upd_ne _ _ h1]
        by_cases h0 : jₓ = 4 * bₓ
        · rw [if_pos h0, h0, upd_same]
        · rw [if_neg h0, upd_ne _ _ h0]
/-- both books take the same line -/
theorem book_both {bl pₓ hₓ : Nat} {Sₓ T : Mem} (vₓ : Int32) (hv : ¬ vₓ = 0) (hbl : bl ≤ 200) (e6ₓ : Sₓ 6 1 = nI bl) (e4ₓ : T 1 4 = nI bl) (hdₓ : Sₓ 1 7 = T 1 0) (hbₓ : ∀ jₓ, jₓ < 800 → Sₓ 7 jₓ = T 9 jₓ) : ∃ bl' S' T', fX0_write Sₓ (nI pₓ) (Sₓ 1 7) (nI hₓ) vₓ = some (nI 0, S') ∧ fX8_writes T (nI pₓ) (nI hₓ) vₓ = some (nI 0, T') ∧ bl' ≤ 200 ∧ S' 6 1 = nI bl' ∧ T' 1 4 = nI bl' ∧ (∀ jₓ, jₓ < 800 → S' 7 jₓ = T' 9 jₓ) ∧ frm [6, 7] Sₓ S' ∧ frm [1, 9] T T' ∧ ∀ jₓ, jₓ ≠ 4 → T' 1 jₓ = T 1 jₓ := by
  by_cases cₓ : bl = 200
  · refine ⟨bl, Sₓ, T, ?_, ?_, hbl, e6ₓ, e4ₓ, hbₓ, frm.rf _ _, frm.rf _ _, fun _ _ => rfl⟩
    · unfold fX0_write
      rw [e6ₓ, if_neg (show ¬ nI bl < 200 by rw [show (200 : Int32) = nI 200 from rfl, nI_ltI (by omega) (by omega)]; omega)]
      rfl
    · unfold fX8_writes
      rw [lti_e, if_neg hv, show T 1 ((4 : Int32)).toNatClampNeg = nI bl from e4ₓ, if_pos (show nI bl = 200 by rw [cₓ]; rfl)]
      rfl
  · refine ⟨bl + 1, mset (mput Sₓ 7 (upd (upd (upd (upd (Sₓ 7) (4 * bl) (nI pₓ)) (4 * bl + 1) (Sₓ 1 7)) (4 * bl + 2) (nI hₓ)) (4 * bl + 3) vₓ)) 6 1 (nI (bl + 1)), mset (mput T 9 (upd (upd (upd (upd (T 9) (4 * bl) (nI pₓ)) (4 * bl + 1) (T 1 0)) (4 * bl + 2) (nI hₓ)) (4 * bl + 3) vₓ)) 1 4 (nI (bl + 1)), ?_, ?_, by omega, ?_, ?_, fun jₓ hj => ?_, ?_, ?_, fun jₓ hj => ?_⟩
    · unfold fX0_write
      rw [e6ₓ, if_pos (show nI bl < 200 by rw [show (200 : Int32) = nI 200 from rfl, nI_ltI (by omega) (by omega)]; omega), lti_e, show (4 : Int32) = nI 4 from rfl, pk_mul, Nat.mul_comm bl 4]
      simp (disch := first | omega | assumption) only [gd_in, ltm_e, fa_lit, nI_add, nI_clamp]
      have e9ₓ : mset Sₓ 7 (4 * bl) (nI pₓ) = mput Sₓ 7 (upd (Sₓ 7) (4 * bl) (nI pₓ)) := rfl
      rw [e9ₓ, m31, m31, m31, mput_ne _ _ (show 6 ≠ 7 by omega), e6ₓ, nI_add]
    · unfold fX8_writes
      rw [lti_e, if_neg hv, show T 1 ((4 : Int32)).toNatClampNeg = nI bl from e4ₓ, if_neg (show ¬ nI bl = 200 by rw [show (200 : Int32) = nI 200 from rfl, nI_eq (by omega) (by omega)]; exact cₓ)]
      simp (disch := first | omega | assumption) only [gd_in, ltm_e, fa_lit, nI_add, pk_mul, nI_clamp]
      have e9ₓ : mset T 9 (4 * bl) (nI pₓ) = mput T 9 (upd (T 9) (4 * bl) (nI pₓ)) := rfl
      rw [e9ₓ, m31, m31, m31, mput_ne _ _ (show 1 ≠ 9 by omega)]
    · rw [ms_at, if_pos ⟨rfl, rfl⟩]
    · rw [ms_at, if_pos ⟨rfl, rfl⟩]
    · rw [mset_ne _ _ _ (show 7 ≠ 6 by omega), mset_ne _ _ _ (show 9 ≠ 1 by omega), mput_same, mput_same, up4, up4, hdₓ, hbₓ jₓ hj]
    · exact (frm.put Sₓ _ (by decide)).mput _ (by decide)
    · exact (frm.put T _ (by decide)).mput _ (by decide)
    · rw [mset_same, upd_ne _ _ hj, mput_ne _ _ (show 1 ≠ 9 by omega)]
theorem burn_both {nₓ dₓ tₓ he : Nat} {S0ₓ T0ₓ : Mem} {V : Vw} (hV : V.1 = nₓ) (hdₓ : dₓ ≤ 999) (hBₓ : VB V) (hX0 : XVw S0ₓ V) (hS0 : Shd T0ₓ V tₓ (V.2.1 tₓ 3)) (ht : tₓ < 12) (he9 : he ≤ 9) (hdd : S0ₓ 1 7 = T0ₓ 1 0) : ∀ (kₓ iₓ fₓ bl : Nat) (Sₓ T : Mem) (acc : Int32), iₓ + kₓ = nₓ → kₓ < fₓ → BIₓ nₓ dₓ tₓ iₓ bl S0ₓ T0ₓ Sₓ T → ∃ bl' S' T' rₓ, BIₓ nₓ dₓ tₓ nₓ bl' S0ₓ T0ₓ S' T' ∧ fX1_burnAll_25 fₓ Sₓ (nI tₓ) (nI he) (nI (shM V tₓ (V.2.1 tₓ 3))) acc (nI iₓ) = some (rₓ, S') ∧ fX8_goesBy_85 fₓ T (nI tₓ) (nI he) acc (nI iₓ) = fX8_goesBy_164 FU T' (nI tₓ) rₓ (nI 0) := by
  subst hV
  have hn := hBₓ.1
  intro kₓ
  induction kₓ with
  | zero =>
    intro iₓ fₓ bl Sₓ T acc hiₓ hf hbₓ
    obtain ⟨fₓ, rfl⟩ : ∃ gₓ, fₓ = gₓ + 1 := ⟨fₓ - 1, by omega⟩
    have hiₓ : iₓ = V.1 := by omega
    subst hiₓ
    have e1ₓ := (hbₓ.vX hX0).1
    have e2ₓ := (hbₓ.vM hS0.1).1
    refine ⟨bl, Sₓ, T, acc, hbₓ, ?_, ?_⟩
    · show fX1_burnAll_25_b (fX1_burnAll_25 fₓ) Sₓ (nI tₓ) (nI he) (nI (shM V tₓ (V.2.1 tₓ 3))) acc (nI V.1) = _
      unfold fX1_burnAll_25_b
      rw [e1ₓ, if_pos (nI_le (by omega) (by omega))]
    · show fX8_goesBy_85_b (fX8_goesBy_85 fₓ) T (nI tₓ) (nI he) acc (nI V.1) = _
      unfold fX8_goesBy_85_b
      rw [e2ₓ, if_pos (nI_le (by omega) (by omega)), show (0 : Int32) = nI 0 from rfl]
  | succ kₓ ihₓ =>
    intro iₓ fₓ bl Sₓ T acc hiₓ hf hbₓ
    obtain ⟨fₓ, rfl⟩ : ∃ gₓ, fₓ = gₓ + 1 := ⟨fₓ - 1, by omega⟩
    have hp : iₓ < V.1 := by omega
    have hX := hbₓ.vX hX0
    have hSₓ := hbₓ.sh hS0
    have e1ₓ := hX.1
    have e2ₓ := hSₓ.1.1
    have sx := isShd_X hBₓ hX (gₓ := tₓ) (rₓ := V.2.1 tₓ 3) hp
    have smₓ := isShd_M hBₓ hSₓ ht hp
    obtain ⟨-, -, -, e3ₓ, -, -⟩ := has_V hBₓ hX hp
    have m3ₓ := (hSₓ.1.2.2 iₓ (by omega)).2.2.2.1
    have sk9 := (hBₓ.2.2.1 iₓ (by omega)).2.2.2.1
    obtain ⟨vₓ, hv81, hvX, hvM⟩ : ∃ vₓ : Nat, vₓ ≤ 81 ∧ fX1_burnAll_25 (fₓ + 1) Sₓ (nI tₓ) (nI he) (nI (shM V tₓ (V.2.1 tₓ 3))) acc (nI iₓ) = fX1_burnAll_66 (fX1_burnAll_25 fₓ) Sₓ (nI tₓ) (nI he) (nI (shM V tₓ (V.2.1 tₓ 3))) acc (nI iₓ) (nI vₓ) ∧ fX8_goesBy_85 (fₓ + 1) T (nI tₓ) (nI he) acc (nI iₓ) = fX8_goesBy_116 (fX8_goesBy_85 fₓ) T (nI tₓ) (nI he) acc (nI iₓ) (nI vₓ) := by
      by_cases cₓ : isSh V tₓ (V.2.1 tₓ 3) iₓ = true
      · rw [if_pos cₓ] at sx smₓ
        refine ⟨0, by omega, ?_, ?_⟩
        · show fX1_burnAll_25_b (fX1_burnAll_25 fₓ) Sₓ (nI tₓ) (nI he) (nI (shM V tₓ (V.2.1 tₓ 3))) acc (nI iₓ) = _
          unfold fX1_burnAll_25_b
          rw [e1ₓ, if_neg (show ¬ nI V.1 ≤ nI iₓ by rw [nI_leI (by omega) (by omega)]; omega), sx, bnd_e, if_neg (show ¬ nI 1 = 0 by decide)]
          rfl
        · show fX8_goesBy_85_b (fX8_goesBy_85 fₓ) T (nI tₓ) (nI he) acc (nI iₓ) = _
          unfold fX8_goesBy_85_b
          rw [e2ₓ, if_neg (show ¬ nI V.1 ≤ nI iₓ by rw [nI_leI (by omega) (by omega)]; omega), smₓ, bnd_e, if_neg (show ¬ nI 1 = 0 by decide)]
          rfl
      · rw [if_neg cₓ] at sx smₓ
        refine ⟨he * V.2.2 iₓ 3, Nat.mul_le_mul he9 sk9, ?_, ?_⟩
        · show fX1_burnAll_25_b (fX1_burnAll_25 fₓ) Sₓ (nI tₓ) (nI he) (nI (shM V tₓ (V.2.1 tₓ 3))) acc (nI iₓ) = _
          unfold fX1_burnAll_25_b
          rw [e1ₓ, if_neg (show ¬ nI V.1 ≤ nI iₓ by rw [nI_leI (by omega) (by omega)]; omega), sx, bnd_e, if_pos (show nI 0 = 0 from rfl), show (3 : Int32) = nI 3 from rfl, e3ₓ, bnd_e, pk_mul]
        · show fX8_goesBy_85_b (fX8_goesBy_85 fₓ) T (nI tₓ) (nI he) acc (nI iₓ) = _
          unfold fX8_goesBy_85_b
          rw [e2ₓ, if_neg (show ¬ nI V.1 ≤ nI iₓ by rw [nI_leI (by omega) (by omega)]; omega), smₓ, bnd_e, if_pos (show nI 0 = 0 from rfl), gd_in _ (show iₓ < 10 by omega) (by omega), nI_clamp (show iₓ < 2 ^ 31 by omega), m3ₓ, pk_mul]
    rw [hvX, hvM]
    obtain ⟨b1, b2, b3, b4, b5, b6, b7, b8, b9⟩ := id hbₓ
    obtain ⟨bi1, bb, bi2, bi3⟩ := b5 iₓ (by omega)
    rw [if_neg (Nat.lt_irrefl iₓ), Nat.add_zero] at bi2
    rw [bi3] at bi1
    have mstep : fX8_goesBy_116 (fX8_goesBy_85 fₓ) T (nI tₓ) (nI he) acc (nI iₓ) (nI vₓ) = bnd (fX8_writes (mset T 1 (25 + iₓ) (nI (bb + vₓ))) (nI iₓ) (nI tₓ) (nI vₓ)) fun _ S_6 => fX8_goesBy_85 fₓ S_6 (nI tₓ) (nI he) (acc + nI vₓ) (nI (iₓ + 1)) := by
      unfold fX8_goesBy_116
      rw [show (25 : Int32) = nI 25 from rfl, nI_add, gd_in _ (show 25 + iₓ < 55 by omega) (by omega), gd_in _ (show 25 + iₓ < 55 by omega) (by omega), ltm_e, lti_e, nI_clamp (show 25 + iₓ < 2 ^ 31 by omega), bi3, nI_add, show nI iₓ + 1 = nI (iₓ + 1) from nI_add iₓ 1]
    rw [mstep]
    unfold fX1_burnAll_66 fX1_burnAll_127
    by_cases v0ₓ : vₓ = 0
    · subst v0ₓ
      have eT : mset T 1 (25 + iₓ) (nI (bb + 0)) = T := by
        rw [Nat.add_zero, ← bi3]
        funext aₓ jₓ
        rw [ms_at]
        by_cases zₓ : aₓ = 1 ∧ jₓ = 25 + iₓ
        · rw [if_pos zₓ, zₓ.1, zₓ.2]
        · rw [if_neg zₓ]
      have ew : fX8_writes T (nI iₓ) (nI tₓ) (nI 0) = some (nI 0, T) := by
        unfold fX8_writes
        rw [lti_e, if_pos (show nI 0 = 0 from rfl)]; rfl
      rw [eT, ew, bnd_e, if_pos (show nI 0 ≤ 0 by decide), show nI iₓ + 1 = nI (iₓ + 1) from nI_add iₓ 1, show acc + nI 0 = acc from Int32.add_zero acc]
      refine ihₓ (iₓ + 1) fₓ bl Sₓ T acc (by omega) (by omega) ⟨b1, b2, b3, b4, fun pₓ hp => ?_, b6, b7, b8, b9⟩
      obtain ⟨z1, zₓ, z2, z3⟩ := b5 pₓ hp
      refine ⟨z1, zₓ, ?_, z3⟩
      by_cases cₓ : pₓ < iₓ
      · rw [if_pos cₓ] at z2; rw [if_pos (by omega)]; exact z2
      · rw [if_neg cₓ] at z2; omega
    · have e7ₓ := has_X Sₓ hn e1ₓ hp (show 7 < 10 by omega)
      rw [bi1] at e7ₓ
      have pX := put_X Sₓ (nI (bb + vₓ)) hn e1ₓ hp (show 7 < 10 by omega)
      have hv0 : ¬ nI vₓ = 0 := by rw [show (0 : Int32) = nI 0 from rfl, nI_eq (by omega) (by omega)]; exact v0ₓ
      obtain ⟨bl', S2, T2, w1ₓ, w2ₓ, w3ₓ, w4ₓ, w5, w6ₓ, w7ₓ, w8, w9⟩ := book_both (bl := bl) (pₓ := iₓ) (hₓ := tₓ) (Sₓ := mset Sₓ 3 (10 * iₓ + 7) (nI (bb + vₓ))) (T := mset T 1 (25 + iₓ) (nI (bb + vₓ))) (nI vₓ) hv0 b6 (by rw [mset_ne _ _ _ (by omega)]; exact b7) (by rw [mset_same, upd_ne _ _ (by omega)]; exact b8) (by
        rw [mset_ne _ _ _ (show 1 ≠ 3 by omega), mset_same, upd_ne _ _ (show 0 ≠ 25 + iₓ by omega), b1 1 (by decide), b4 0 (by omega) (by omega)]; exact hdd) (fun jₓ hj => by rw [mset_ne _ _ _ (show 7 ≠ 3 by omega), mset_ne _ _ _ (show 9 ≠ 1 by omega)]; exact b9 jₓ hj)
      have hb2 : BIₓ V.1 dₓ tₓ (iₓ + 1) bl' S0ₓ T0ₓ S2 T2 := by
        have g3ₓ : S2 3 = upd (Sₓ 3) (10 * iₓ + 7) (nI (bb + vₓ)) := by rw [w7ₓ 3 (by decide), mset_same]
        have g1 : ∀ jₓ, jₓ ≠ 4 → T2 1 jₓ = upd (T 1) (25 + iₓ) (nI (bb + vₓ)) jₓ := fun jₓ hj => by rw [w9 jₓ hj, mset_same]
        refine ⟨?_, ?_, fun pₓ cₓ hp2 hcₓ hc7 => ?_, fun jₓ hj hj2 => ?_, fun pₓ hp2 => ?_, w3ₓ, w4ₓ, w5, w6ₓ⟩
        · refine b1.tr ((frm.put Sₓ _ (by decide)).tr (w7ₓ.w (fun cₓ qₓ => ?_)))
          simp only [List.mem_cons, List.not_mem_nil, or_false] at qₓ ⊢
          omega
        · exact b2.tr ((frm.put T _ (by decide)).tr w8)
        · rw [g3ₓ, upd_ne _ _ (by omega)]; exact b3 pₓ cₓ hp2 hcₓ hc7
        · rw [g1 jₓ hj, upd_ne _ _ (by omega)]; exact b4 jₓ hj hj2
        · rw [g3ₓ, g1 (25 + pₓ) (by omega)]
          by_cases eₓ : pₓ = iₓ
          · subst eₓ
            rw [upd_same, upd_same, if_pos (by omega)]
            exact ⟨rfl, bb + vₓ, by omega, rfl⟩
          · rw [upd_ne _ _ (by omega), upd_ne _ _ (by omega)]
            obtain ⟨z1, zₓ, z2, z3⟩ := b5 pₓ hp2
            refine ⟨z1, zₓ, ?_, z3⟩
            by_cases cₓ : pₓ < iₓ
            · rw [if_pos cₓ] at z2; rw [if_pos (by omega)]; exact z2
            · rw [if_neg cₓ] at z2; omega
      rw [w2ₓ, bnd_e, if_neg (show ¬ nI vₓ ≤ 0 by rw [le0_iff (by omega)]; exact v0ₓ), show (7 : Int32) = nI 7 from rfl, e7ₓ, bnd_e, nI_add, pX, bnd_e, w1ₓ, bnd_e, lti_e, show nI iₓ + 1 = nI (iₓ + 1) from nI_add iₓ 1]
      exact ihₓ (iₓ + 1) fₓ bl' S2 T2 (acc + nI vₓ) (by omega) (by omega) hb2
/-! fights -/
def sg (fₓ : Nat → Nat) : Nat → Nat
  | 0 => 0
  | kₓ + 1 => sg fₓ kₓ + fₓ kₓ
theorem sg_cg {fₓ gₓ : Nat → Nat} : ∀ kₓ, (∀ jₓ, jₓ < kₓ → fₓ jₓ = gₓ jₓ) → sg fₓ kₓ = sg gₓ kₓ := by
  intro kₓ
  induction kₓ with
  | zero => intro _; rfl
  | succ kₓ ihₓ => intro hₓ; rw [sg, sg, ihₓ (fun jₓ hj => hₓ jₓ (by omega)), hₓ kₓ (by omega)]
theorem sg_add (fₓ gₓ : Nat → Nat) : ∀ kₓ, sg (fun jₓ => fₓ jₓ + gₓ jₓ) kₓ = sg fₓ kₓ + sg gₓ kₓ := by
  intro kₓ
  induction kₓ with
  | zero => rfl
  | succ kₓ ihₓ => rw [sg, sg, sg, ihₓ]; omega
theorem sg_front (fₓ : Nat → Nat) : ∀ kₓ, sg fₓ (kₓ + 1) = fₓ 0 + sg (fun jₓ => fₓ (jₓ + 1)) kₓ := by
  intro kₓ
  induction kₓ with
  | zero => rw [sg, sg, sg]; omega
  | succ kₓ ihₓ => rw [sg, ihₓ, sg]; omega
theorem sumL_sg (fₓ : Nat → Nat) : ∀ kₓ iₓ aₓ, sumLₓ fₓ kₓ iₓ aₓ = aₓ + sg (fun jₓ => fₓ (iₓ + jₓ)) kₓ := by
  intro kₓ
  induction kₓ with
  | zero => intro iₓ aₓ; rfl
  | succ kₓ ihₓ =>
    intro iₓ aₓ
    rw [sumLₓ, ihₓ, sg_front]
    have : sg (fun jₓ => fₓ (iₓ + 1 + jₓ)) kₓ = sg (fun jₓ => fₓ (iₓ + (jₓ + 1))) kₓ := sg_cg kₓ (fun jₓ _ => by show fₓ (iₓ + 1 + jₓ) = fₓ (iₓ + (jₓ + 1)); congr 1; omega)
    rw [this]
    show aₓ + fₓ iₓ + _ = aₓ + (fₓ (iₓ + 0) + _)
    rw [Nat.add_zero]; omega
theorem tri_eq (wₓ : Nat → Nat → Nat) : ∀ nₓ, (∀ aₓ bₓ, aₓ < nₓ → bₓ < nₓ → wₓ aₓ bₓ = wₓ bₓ aₓ) → sg (fun aₓ => sg (fun jₓ => wₓ aₓ (aₓ + 1 + jₓ)) (nₓ - (aₓ + 1))) nₓ = sg (fun aₓ => sg (fun bₓ => wₓ aₓ bₓ) aₓ) nₓ := by
  intro nₓ
  induction nₓ with
  | zero => intro _; rfl
  | succ nₓ ihₓ =>
    intro hₓ
    have e1ₓ : sg (fun aₓ => sg (fun jₓ => wₓ aₓ (aₓ + 1 + jₓ)) (nₓ + 1 - (aₓ + 1))) nₓ = sg (fun aₓ => sg (fun jₓ => wₓ aₓ (aₓ + 1 + jₓ)) (nₓ - (aₓ + 1)) + wₓ aₓ nₓ) nₓ := sg_cg nₓ (fun aₓ haₓ => by
      show sg (fun jₓ => wₓ aₓ (aₓ + 1 + jₓ)) (nₓ + 1 - (aₓ + 1)) = sg (fun jₓ => wₓ aₓ (aₓ + 1 + jₓ)) (nₓ - (aₓ + 1)) + wₓ aₓ nₓ
      rw [show nₓ + 1 - (aₓ + 1) = (nₓ - (aₓ + 1)) + 1 by omega, sg, show aₓ + 1 + (nₓ - (aₓ + 1)) = nₓ by omega])
    rw [sg, sg, e1ₓ, sg_add, ihₓ (fun aₓ bₓ haₓ hbₓ => hₓ aₓ bₓ (by omega) (by omega)), show nₓ + 1 - (nₓ + 1) = 0 by omega, sg, Nat.add_zero, sg_cg (fₓ := fun aₓ => wₓ aₓ nₓ) (gₓ := fun bₓ => wₓ nₓ bₓ) nₓ (fun aₓ haₓ => hₓ aₓ nₓ (by omega) (by omega))]
def fgt (Fₓ : Nat → Int32) (pl : Nat → Nat) (aₓ bₓ : Nat) : Nat := if (bt (Fₓ aₓ) bₓ && decide (farN (pl aₓ) (pl bₓ) ≤ 1)) = true then 1 else 0
theorem fgt_X1 {Sₓ : Mem} {V : Vw} (hBₓ : VB V) (hX : XVw Sₓ V) {aₓ : Nat} (haₓ : aₓ < V.1) (k0ₓ : Mem → Int32 → Int32 → O) : ∀ (kₓ iₓ fₓ acc : Nat), iₓ + kₓ = V.1 → kₓ < fₓ → fX1_countFights_19 k0ₓ fₓ Sₓ (nI acc) (nI aₓ) (nI iₓ) = k0ₓ Sₓ (nI (sumLₓ (fgt (Sₓ 4) (fun qₓ => V.2.2 qₓ 0) aₓ) kₓ iₓ acc)) (nI (aₓ + 1)) := by
  have hn := hBₓ.1
  have e1ₓ := hX.1
  obtain ⟨ea, -⟩ := has_V hBₓ hX haₓ
  have baₓ := (hBₓ.2.2.1 aₓ (by omega)).1
  intro kₓ
  induction kₓ with
  | zero =>
    intro iₓ fₓ acc hiₓ hf
    obtain ⟨fₓ, rfl⟩ : ∃ gₓ, fₓ = gₓ + 1 := ⟨fₓ - 1, by omega⟩
    show fX1_countFights_19_b k0ₓ (fX1_countFights_19 k0ₓ fₓ) Sₓ (nI acc) (nI aₓ) (nI iₓ) = _
    unfold fX1_countFights_19_b
    rw [e1ₓ, if_pos (nI_le (by omega) (by omega)), sumLₓ, show nI aₓ + 1 = nI (aₓ + 1) from nI_add aₓ 1]
  | succ kₓ ihₓ =>
    intro iₓ fₓ acc hiₓ hf
    obtain ⟨fₓ, rfl⟩ : ∃ gₓ, fₓ = gₓ + 1 := ⟨fₓ - 1, by omega⟩
    have hq : iₓ < V.1 := by omega
    obtain ⟨ei, -⟩ := has_V hBₓ hX hq
    have bi := (hBₓ.2.2.1 iₓ (by omega)).1
    have f4ₓ := farN_4 (V.2.2 aₓ 0) (by omega) (V.2.2 iₓ 0) (by omega)
    show fX1_countFights_19_b k0ₓ (fX1_countFights_19 k0ₓ fₓ) Sₓ (nI acc) (nI aₓ) (nI iₓ) = _
    unfold fX1_countFights_19_b fX1_countFights_70
    rw [e1ₓ, if_neg (show ¬ nI V.1 ≤ nI iₓ by rw [nI_leI (by omega) (by omega)]; omega), quar_X hBₓ hX haₓ hq, bnd_e, sumLₓ, show nI iₓ + 1 = nI (iₓ + 1) from nI_add iₓ 1]
    by_cases c1ₓ : bt (Sₓ 4 aₓ) iₓ = true
    · rw [if_pos c1ₓ, if_neg (show ¬ nI 1 = 0 by decide), show (0 : Int32) = nI 0 from rfl, ea, bnd_e, ei, bnd_e, far_X Sₓ (by omega) (by omega), bnd_e, show (1 : Int32) = nI 1 from rfl]
      by_cases c2ₓ : farN (V.2.2 aₓ 0) (V.2.2 iₓ 0) ≤ 1
      · have : fgt (Sₓ 4) (fun qₓ => V.2.2 qₓ 0) aₓ iₓ = 1 := if_pos (by rw [c1ₓ, decide_eq_true c2ₓ]; rfl)
        rw [if_neg (show ¬ nI 1 < nI (farN (V.2.2 aₓ 0) (V.2.2 iₓ 0)) by rw [nI_ltI (by omega) (by omega)]; omega), nI_add, this]
        exact ihₓ (iₓ + 1) fₓ _ (by omega) (by omega)
      · have : fgt (Sₓ 4) (fun qₓ => V.2.2 qₓ 0) aₓ iₓ = 0 := if_neg (by rw [decide_eq_false c2ₓ, Bool.and_false]; simp)
        rw [if_pos (nI_lt (by omega) (by omega)), this]
        exact ihₓ (iₓ + 1) fₓ _ (by omega) (by omega)
    · have c1' : bt (Sₓ 4 aₓ) iₓ = false := by simpa using c1ₓ
      have : fgt (Sₓ 4) (fun qₓ => V.2.2 qₓ 0) aₓ iₓ = 0 := if_neg (by rw [c1', Bool.false_and]; simp)
      rw [if_neg c1ₓ, if_pos (show nI 0 = 0 from rfl), this]
      exact ihₓ (iₓ + 1) fₓ _ (by omega) (by omega)
theorem fgt_X {Sₓ : Mem} {V : Vw} (hBₓ : VB V) (hX : XVw Sₓ V) : ∀ (kₓ iₓ fₓ acc : Nat), iₓ + kₓ = V.1 → kₓ < fₓ → fX1_countFights_4 fₓ Sₓ (nI acc) (nI iₓ) = some (nI (acc + sg (fun xₓ => sg (fun jₓ => fgt (Sₓ 4) (fun qₓ => V.2.2 qₓ 0) (iₓ + xₓ) (iₓ + xₓ + 1 + jₓ)) (V.1 - (iₓ + xₓ + 1))) kₓ), Sₓ) := by
  have hn := hBₓ.1
  have e1ₓ := hX.1
  intro kₓ
  induction kₓ with
  | zero =>
    intro iₓ fₓ acc hiₓ hf
    obtain ⟨fₓ, rfl⟩ : ∃ gₓ, fₓ = gₓ + 1 := ⟨fₓ - 1, by omega⟩
    show fX1_countFights_4_b (fX1_countFights_4 fₓ) Sₓ (nI acc) (nI iₓ) = _
    unfold fX1_countFights_4_b
    rw [e1ₓ, if_pos (nI_le (by omega) (by omega)), sg, Nat.add_zero]
  | succ kₓ ihₓ =>
    intro iₓ fₓ acc hiₓ hf
    obtain ⟨fₓ, rfl⟩ : ∃ gₓ, fₓ = gₓ + 1 := ⟨fₓ - 1, by omega⟩
    have zₓ := fgt_X1 hBₓ hX (show iₓ < V.1 by omega) (fX1_countFights_4 fₓ) (V.1 - (iₓ + 1)) (iₓ + 1) FU acc (by omega) (by unfold FU; omega)
    show fX1_countFights_4_b (fX1_countFights_4 fₓ) Sₓ (nI acc) (nI iₓ) = _
    unfold fX1_countFights_4_b
    rw [e1ₓ, if_neg (show ¬ nI V.1 ≤ nI iₓ by rw [nI_leI (by omega) (by omega)]; omega), lti_e, show nI iₓ + 1 = nI (iₓ + 1) from nI_add iₓ 1, zₓ, ihₓ (iₓ + 1) fₓ _ (by omega) (by omega), sumL_sg, sg_front, Nat.add_zero]
    have : sg (fun xₓ => sg (fun jₓ => fgt (Sₓ 4) (fun qₓ => V.2.2 qₓ 0) (iₓ + 1 + xₓ) (iₓ + 1 + xₓ + 1 + jₓ)) (V.1 - (iₓ + 1 + xₓ + 1))) kₓ = sg (fun xₓ => sg (fun jₓ => fgt (Sₓ 4) (fun qₓ => V.2.2 qₓ 0) (iₓ + (xₓ + 1)) (iₓ + (xₓ + 1) + 1 + jₓ)) (V.1 - (iₓ + (xₓ + 1) + 1))) kₓ := sg_cg kₓ (fun xₓ _ => by
      show sg (fun jₓ => fgt (Sₓ 4) (fun qₓ => V.2.2 qₓ 0) (iₓ + 1 + xₓ) (iₓ + 1 + xₓ + 1 + jₓ)) (V.1 - (iₓ + 1 + xₓ + 1)) = sg (fun jₓ => fgt (Sₓ 4) (fun qₓ => V.2.2 qₓ 0) (iₓ + (xₓ + 1)) (iₓ + (xₓ + 1) + 1 + jₓ)) (V.1 - (iₓ + (xₓ + 1) + 1))
      rw [show iₓ + 1 + xₓ = iₓ + (xₓ + 1) by omega])
    rw [this, Nat.add_assoc]
    rfl
theorem fgt_M1 {V : Vw} (hBₓ : VB V) {aₓ tₓ : Nat} (haₓ : aₓ < V.1) (rₓ : Int32) (k0ₓ : Mem → Int32 → Int32 → Int32 → O) : ∀ (kₓ iₓ fₓ : Nat) (T : Mem), MVw T V → iₓ + kₓ = aₓ → kₓ < fₓ → fX8_goesBy_176 k0ₓ fₓ T (nI tₓ) rₓ (nI aₓ) (nI iₓ) = k0ₓ (mset T 1 3 (T 1 3 + nI (sumLₓ (fgt (T 8) (fun qₓ => V.2.2 qₓ 0) aₓ) kₓ iₓ 0))) (nI tₓ) rₓ (nI (aₓ + 1)) := by
  have hn := hBₓ.1
  have baₓ := (hBₓ.2.2.1 aₓ (by omega)).1
  have m13 : ∀ (T : Mem) (xₓ : Int32), mset (mset T 1 3 xₓ) 1 3 ((mset T 1 3 xₓ) 1 3) = mset T 1 3 xₓ := fun T xₓ => by
    funext cₓ jₓ
    rw [ms_at]
    by_cases zₓ : cₓ = 1 ∧ jₓ = 3
    · rw [if_pos zₓ, zₓ.1, zₓ.2]
    · rw [if_neg zₓ]
  intro kₓ
  induction kₓ with
  | zero =>
    intro iₓ fₓ T hMₓ hiₓ hf
    obtain ⟨fₓ, rfl⟩ : ∃ gₓ, fₓ = gₓ + 1 := ⟨fₓ - 1, by omega⟩
    have eT : mset T 1 3 (T 1 3 + nI (sumLₓ (fgt (T 8) (fun qₓ => V.2.2 qₓ 0) aₓ) 0 iₓ 0)) = T := by
      funext cₓ jₓ
      rw [ms_at, sumLₓ, show T 1 3 + nI 0 = T 1 3 from Int32.add_zero _]
      by_cases zₓ : cₓ = 1 ∧ jₓ = 3
      · rw [if_pos zₓ, zₓ.1, zₓ.2]
      · rw [if_neg zₓ]
    rw [eT]
    show fX8_goesBy_176_b k0ₓ (fX8_goesBy_176 k0ₓ fₓ) T (nI tₓ) rₓ (nI aₓ) (nI iₓ) = _
    unfold fX8_goesBy_176_b
    rw [if_pos (nI_le (by omega) (by omega)), show nI aₓ + 1 = nI (aₓ + 1) from nI_add aₓ 1]
  | succ kₓ ihₓ =>
    intro iₓ fₓ T hMₓ hiₓ hf
    obtain ⟨fₓ, rfl⟩ : ∃ gₓ, fₓ = gₓ + 1 := ⟨fₓ - 1, by omega⟩
    have ea := (hMₓ.2.2 aₓ (by omega)).1
    have ei := (hMₓ.2.2 iₓ (by omega)).1
    have bi := (hBₓ.2.2.1 iₓ (by omega)).1
    have f4ₓ := farN_4 (V.2.2 aₓ 0) (by omega) (V.2.2 iₓ 0) (by omega)
    have kb := bitI_iff (T 8 aₓ) (show iₓ < 32 by omega)
    have noₓ : fgt (T 8) (fun qₓ => V.2.2 qₓ 0) aₓ iₓ = 0 → fX8_goesBy_176 k0ₓ fₓ T (nI tₓ) rₓ (nI aₓ) (nI (iₓ + 1)) = k0ₓ (mset T 1 3 (T 1 3 + nI (sumLₓ (fgt (T 8) (fun qₓ => V.2.2 qₓ 0) aₓ) (kₓ + 1) iₓ 0))) (nI tₓ) rₓ (nI (aₓ + 1)) := fun zₓ => by
      rw [sumLₓ, zₓ]
      exact ihₓ (iₓ + 1) fₓ T hMₓ (by omega) (by omega)
    show fX8_goesBy_176_b k0ₓ (fX8_goesBy_176 k0ₓ fₓ) T (nI tₓ) rₓ (nI aₓ) (nI iₓ) = _
    unfold fX8_goesBy_176_b fX8_goesBy_239
    rw [if_neg (show ¬ nI aₓ ≤ nI iₓ by rw [nI_leI (by omega) (by omega)]; omega), gd_in _ (show aₓ < 10 by omega) (by omega), nI_clamp (show aₓ < 2 ^ 31 by omega), show nI iₓ + 1 = nI (iₓ + 1) from nI_add iₓ 1]
    by_cases c1ₓ : bt (T 8 aₓ) iₓ = true
    · rw [if_pos (show ((T 8 aₓ >>> (nI iₓ &&& 31)) &&& (1 : Int32)) = 1 from kb.2 c1ₓ), show (5 : Int32) = nI 5 from rfl, nI_add, nI_add, gd_in _ (show 5 + aₓ < 55 by omega) (by omega), gd_in _ (show 5 + iₓ < 55 by omega) (by omega), nI_clamp (show 5 + aₓ < 2 ^ 31 by omega), nI_clamp (show 5 + iₓ < 2 ^ 31 by omega), ea, ei, far_M T (by omega) (by omega), bnd_e, show (1 : Int32) = nI 1 from rfl]
      by_cases c2ₓ : farN (V.2.2 aₓ 0) (V.2.2 iₓ 0) ≤ 1
      · have h1 : fgt (T 8) (fun qₓ => V.2.2 qₓ 0) aₓ iₓ = 1 := if_pos (by rw [c1ₓ, decide_eq_true c2ₓ]; rfl)
        rw [if_neg (show ¬ nI 1 < nI (farN (V.2.2 aₓ 0) (V.2.2 iₓ 0)) by rw [nI_ltI (by omega) (by omega)]; omega), ltm_e, show ((3 : Int32)).toNatClampNeg = 3 from rfl, sumLₓ, h1]
        have hM2 : MVw (mset T 1 3 (T 1 3 + nI 1)) V := by
          unfold MVw at hMₓ ⊢
          refine ⟨hMₓ.1, hMₓ.2.1, fun pₓ hp => ?_⟩
          rw [mset_same, upd_ne _ _ (show 5 + pₓ ≠ 3 by omega)]
          exact hMₓ.2.2 pₓ hp
        have zₓ := ihₓ (iₓ + 1) fₓ _ hM2 (by omega) (by omega)
        have eT : mset (mset T 1 3 (T 1 3 + nI 1)) 1 3 ((mset T 1 3 (T 1 3 + nI 1)) 1 3 + nI (sumLₓ (fgt (T 8) (fun qₓ => V.2.2 qₓ 0) aₓ) kₓ (iₓ + 1) 0)) = mset T 1 3 (T 1 3 + nI (sumLₓ (fgt (T 8) (fun qₓ => V.2.2 qₓ 0) aₓ) kₓ (iₓ + 1) (0 + 1))) := by
          have ei : (mset T 1 3 (T 1 3 + nI 1)) 1 3 = T 1 3 + nI 1 := by rw [ms_at, if_pos ⟨rfl, rfl⟩]
          rw [ei]
          funext cₓ jₓ
          rw [ms_at, ms_at, ms_at]
          by_cases zₓ : cₓ = 1 ∧ jₓ = 3
          · rw [if_pos zₓ, if_pos zₓ, sumL_a, Int32.add_assoc, nI_add, Nat.add_comm 1]
          · rw [if_neg zₓ, if_neg zₓ, if_neg zₓ]
        have z' : fX8_goesBy_176 k0ₓ fₓ (mset T 1 3 (T 1 3 + nI 1)) (nI tₓ) rₓ (nI aₓ) (nI (iₓ + 1)) = k0ₓ (mset (mset T 1 3 (T 1 3 + nI 1)) 1 3 ((mset T 1 3 (T 1 3 + nI 1)) 1 3 + nI (sumLₓ (fgt (T 8) (fun qₓ => V.2.2 qₓ 0) aₓ) kₓ (iₓ + 1) 0))) (nI tₓ) rₓ (nI (aₓ + 1)) := zₓ
        rw [eT] at z'
        exact z'
      · rw [if_pos (nI_lt (by omega) (by omega))]
        exact noₓ (if_neg (by rw [decide_eq_false c2ₓ, Bool.and_false]; simp))
    · have c1' : bt (T 8 aₓ) iₓ = false := by simpa using c1ₓ
      rw [if_neg (show ¬ ((T 8 aₓ >>> (nI iₓ &&& 31)) &&& (1 : Int32)) = 1 from fun qₓ => c1ₓ (kb.1 qₓ))]
      exact noₓ (if_neg (by rw [c1', Bool.false_and]; simp))
theorem fgt_M {V : Vw} (hBₓ : VB V) {tₓ : Nat} (rₓ : Int32) : ∀ (kₓ iₓ fₓ : Nat) (T : Mem), MVw T V → iₓ + kₓ = V.1 → kₓ < fₓ → fX8_goesBy_164 fₓ T (nI tₓ) rₓ (nI iₓ) = some (rₓ, mset (mset T 1 3 (T 1 3 + nI (sg (fun xₓ => sg (fun bₓ => fgt (T 8) (fun qₓ => V.2.2 qₓ 0) (iₓ + xₓ) bₓ) (iₓ + xₓ)) kₓ))) 1 1 (nI (tₓ + 1))) := by
  have hn := hBₓ.1
  intro kₓ
  induction kₓ with
  | zero =>
    intro iₓ fₓ T hMₓ hiₓ hf
    obtain ⟨fₓ, rfl⟩ : ∃ gₓ, fₓ = gₓ + 1 := ⟨fₓ - 1, by omega⟩
    have e2ₓ := hMₓ.1
    have eT : mset T 1 3 (T 1 3 + nI (sg (fun xₓ => sg (fun bₓ => fgt (T 8) (fun qₓ => V.2.2 qₓ 0) (iₓ + xₓ) bₓ) (iₓ + xₓ)) 0)) = T := by
      funext cₓ jₓ
      rw [ms_at, sg, show T 1 3 + nI 0 = T 1 3 from Int32.add_zero _]
      by_cases zₓ : cₓ = 1 ∧ jₓ = 3
      · rw [if_pos zₓ, zₓ.1, zₓ.2]
      · rw [if_neg zₓ]
    rw [eT]
    show fX8_goesBy_164_b (fX8_goesBy_164 fₓ) T (nI tₓ) rₓ (nI iₓ) = _
    unfold fX8_goesBy_164_b
    rw [e2ₓ, if_pos (nI_le (by omega) (by omega)), ltm_e, show nI tₓ + 1 = nI (tₓ + 1) from nI_add tₓ 1]
    rfl
  | succ kₓ ihₓ =>
    intro iₓ fₓ T hMₓ hiₓ hf
    obtain ⟨fₓ, rfl⟩ : ∃ gₓ, fₓ = gₓ + 1 := ⟨fₓ - 1, by omega⟩
    have e2ₓ := hMₓ.1
    have zₓ := fgt_M1 hBₓ (tₓ := tₓ) (show iₓ < V.1 by omega) rₓ (fX8_goesBy_164 fₓ) iₓ 0 FU T hMₓ (by omega) (by unfold FU; omega)
    have hM2 : MVw (mset T 1 3 (T 1 3 + nI (sumLₓ (fgt (T 8) (fun qₓ => V.2.2 qₓ 0) iₓ) iₓ 0 0))) V := by
      unfold MVw at hMₓ ⊢
      refine ⟨hMₓ.1, hMₓ.2.1, fun pₓ hp => ?_⟩
      rw [mset_same, upd_ne _ _ (show 5 + pₓ ≠ 3 by omega)]
      exact hMₓ.2.2 pₓ hp
    have yₓ := ihₓ (iₓ + 1) fₓ _ hM2 (by omega) (by omega)
    show fX8_goesBy_164_b (fX8_goesBy_164 fₓ) T (nI tₓ) rₓ (nI iₓ) = _
    unfold fX8_goesBy_164_b
    rw [e2ₓ, if_neg (show ¬ nI V.1 ≤ nI iₓ by rw [nI_leI (by omega) (by omega)]; omega), show (0 : Int32) = nI 0 from rfl, zₓ, yₓ]
    congr 2
    have e8 : (mset T 1 3 (T 1 3 + nI (sumLₓ (fgt (T 8) (fun qₓ => V.2.2 qₓ 0) iₓ) iₓ 0 0))) 8 = T 8 := mset_ne _ _ _ (by omega)
    have es : sg (fun xₓ => sg (fun bₓ => fgt (T 8) (fun qₓ => V.2.2 qₓ 0) (iₓ + xₓ) bₓ) (iₓ + xₓ)) (kₓ + 1) = sumLₓ (fgt (T 8) (fun qₓ => V.2.2 qₓ 0) iₓ) iₓ 0 0 + sg (fun xₓ => sg (fun bₓ => fgt (T 8) (fun qₓ => V.2.2 qₓ 0) (iₓ + 1 + xₓ) bₓ) (iₓ + 1 + xₓ)) kₓ := by
      rw [sg_front, sumL_sg, Nat.add_zero, Nat.zero_add]
      congr 1
      · exact sg_cg iₓ (fun jₓ _ => by show fgt (T 8) (fun qₓ => V.2.2 qₓ 0) iₓ jₓ = fgt (T 8) (fun qₓ => V.2.2 qₓ 0) iₓ (0 + jₓ); rw [Nat.zero_add])
      · exact sg_cg kₓ (fun xₓ _ => by
          show sg (fun bₓ => fgt (T 8) (fun qₓ => V.2.2 qₓ 0) (iₓ + (xₓ + 1)) bₓ) (iₓ + (xₓ + 1)) = sg (fun bₓ => fgt (T 8) (fun qₓ => V.2.2 qₓ 0) (iₓ + 1 + xₓ) bₓ) (iₓ + 1 + xₓ)
          rw [show iₓ + (xₓ + 1) = iₓ + 1 + xₓ by omega])
    have e3ₓ : (mset T 1 3 (T 1 3 + nI (sumLₓ (fgt (T 8) (fun qₓ => V.2.2 qₓ 0) iₓ) iₓ 0 0))) 1 3 = T 1 3 + nI (sumLₓ (fgt (T 8) (fun qₓ => V.2.2 qₓ 0) iₓ) iₓ 0 0) := by rw [ms_at, if_pos ⟨rfl, rfl⟩]
    rw [e8, es, e3ₓ]
    funext cₓ jₓ
    rw [ms_at, ms_at, ms_at, ms_at, ms_at]
    by_cases zₓ : cₓ = 1 ∧ jₓ = 1
    · rw [if_pos zₓ, if_pos zₓ]
    · rw [if_neg zₓ, if_neg zₓ]
      by_cases z3 : cₓ = 1 ∧ jₓ = 3
      · rw [if_pos z3, if_pos z3, Int32.add_assoc, nI_add]
      · rw [if_neg z3, if_neg z3, if_neg z3]
