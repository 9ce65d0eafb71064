/-! text: one TOKEN on both sides -/
def SX (Sₓ S' : Mem) : Prop := (∀ cₓ, cₓ ≠ 38 → S' cₓ = Sₓ cₓ) ∧ ∀ jₓ, jₓ ≠ 5 → jₓ ≠ 6 → jₓ ≠ 7 → jₓ ≠ 8 → S' 38 jₓ = Sₓ 38 jₓ
def SMₓ (T T' : Mem) : Prop := (∀ cₓ, cₓ ≠ 0 → T' cₓ = T cₓ) ∧ ∀ jₓ, jₓ ≠ 17 → jₓ ≠ 18 → jₓ ≠ 19 → jₓ ≠ 20 → T' 0 jₓ = T 0 jₓ
theorem SX.rf (Sₓ : Mem) : SX Sₓ Sₓ := ⟨fun _ _ => rfl, fun _ _ _ _ _ => rfl⟩
theorem SMₓ.rf (T : Mem) : SMₓ T T := ⟨fun _ _ => rfl, fun _ _ _ _ _ => rfl⟩
theorem SX.tr {Sₓ S1 S2 : Mem} (hₓ : SX Sₓ S1) (h2 : SX S1 S2) : SX Sₓ S2 := ⟨fun cₓ hcₓ => (h2.1 cₓ hcₓ).trans (hₓ.1 cₓ hcₓ), fun jₓ aₓ bₓ cₓ dₓ => (h2.2 jₓ aₓ bₓ cₓ dₓ).trans (hₓ.2 jₓ aₓ bₓ cₓ dₓ)⟩
theorem SMₓ.tr {T T1 T2 : Mem} (hₓ : SMₓ T T1) (h2 : SMₓ T1 T2) : SMₓ T T2 := ⟨fun cₓ hcₓ => (h2.1 cₓ hcₓ).trans (hₓ.1 cₓ hcₓ), fun jₓ aₓ bₓ cₓ dₓ => (h2.2 jₓ aₓ bₓ cₓ dₓ).trans (hₓ.2 jₓ aₓ bₓ cₓ dₓ)⟩
theorem SX.set (Sₓ : Mem) {jₓ : Nat} (vₓ : Int32) (hₓ : jₓ = 5 ∨ jₓ = 6 ∨ jₓ = 7 ∨ jₓ = 8) : SX Sₓ (mset Sₓ 38 jₓ vₓ) := ⟨fun cₓ hcₓ => mset_ne _ _ _ hcₓ, fun iₓ aₓ bₓ cₓ dₓ => by rw [ms_at, if_neg (by omega)]⟩
theorem SMₓ.set (T : Mem) {jₓ : Nat} (vₓ : Int32) (hₓ : jₓ = 17 ∨ jₓ = 18 ∨ jₓ = 19 ∨ jₓ = 20) : SMₓ T (mset T 0 jₓ vₓ) := ⟨fun cₓ hcₓ => mset_ne _ _ _ hcₓ, fun iₓ aₓ bₓ cₓ dₓ => by rw [ms_at, if_neg (by omega)]⟩
theorem SX.tp {nₓ : Nat} {bₓ : Nat → Nat} {Sₓ S' T : Mem} (hₓ : SX Sₓ S') (hTₓ : Tp nₓ bₓ Sₓ T) : Tp nₓ bₓ S' T := hTₓ.x (hₓ.2 1 (by omega) (by omega) (by omega) (by omega)) (hₓ.1 39 (by omega))
theorem SMₓ.tp {nₓ : Nat} {bₓ : Nat → Nat} {Sₓ T T' : Mem} (hₓ : SMₓ T T') (hTₓ : Tp nₓ bₓ Sₓ T) : Tp nₓ bₓ Sₓ T' := hTₓ.m (hₓ.2 16 (by omega) (by omega) (by omega) (by omega)) (hₓ.1 11 (by omega)) (hₓ.1 12 (by omega))
/-- the TOKEN k of both, at p .. e - 1; its number, if it is one -/
def Tk (nₓ iₓ : Nat) (Sₓ T : Mem) (kₓ pₓ eₓ numₓ : Nat) : Prop := iₓ ≤ pₓ ∧ pₓ ≤ nₓ ∧ eₓ ≤ nₓ ∧ Sₓ 38 5 = nI eₓ ∧ T 0 17 = nI eₓ ∧ Sₓ 38 7 = nI pₓ ∧ T 0 18 = nI pₓ ∧ Sₓ 38 6 = nI kₓ ∧ kₓ ≤ 30 ∧ (kₓ ≠ 29 → pₓ < eₓ) ∧ (kₓ = 29 → T 0 19 = nI 0) ∧ (kₓ = 30 → T 0 19 = nI 1) ∧ (kₓ < 18 → T 0 19 = nI 2 ∧ T 0 20 = nI kₓ) ∧ (18 ≤ kₓ → kₓ < 28 → T 0 19 = nI 4 ∧ T 0 20 = nI (sgl.getD (kₓ - 18) 0)) ∧ (kₓ = 28 → T 0 19 = nI 3 ∧ T 0 20 = nI numₓ ∧ Sₓ 38 8 = nI numₓ ∧ numₓ < 10000)
theorem scan_both {nₓ : Nat} {bₓ : Nat → Nat} {Sₓ T : Mem} {iₓ : Nat} (hₓ : Tp nₓ bₓ Sₓ T) (hx : Sₓ 38 5 = nI iₓ) (hmₓ : T 0 17 = nI iₓ) (hiₓ : iₓ ≤ nₓ) : ∃ S' T' kₓ pₓ eₓ numₓ, fX3_scan Sₓ = some (nI 0, S') ∧ fX8_reads T = some (nI 0, T') ∧ SX Sₓ S' ∧ SMₓ T T' ∧ Tk nₓ iₓ S' T' kₓ pₓ eₓ numₓ := by
  have hn := hₓ.1
  have sx := skip_X (nₓ - iₓ) iₓ FU Sₓ hₓ (by omega) (by unfold FU; omega)
  have smₓ := skip_M (nₓ - iₓ) iₓ FU T hₓ (by omega) (by unfold FU; omega)
  rw [atX_id hx] at sx
  rw [atM_id hmₓ] at smₓ
  have hp1 := (rn_le isBl bₓ (nₓ - iₓ) iₓ).1
  have hp2 := (rn_le isBl bₓ (nₓ - iₓ) iₓ).2
  generalize rn isBl bₓ (nₓ - iₓ) iₓ = pₓ at sx smₓ hp1 hp2
  have sx' : fX3_scan Sₓ = fX3_scan_50 (atXₓ Sₓ pₓ) := sx
  have sm' : fX8_reads T = rdT (atM T pₓ) := smₓ
  have aS : SX Sₓ (atXₓ Sₓ pₓ) := SX.set Sₓ _ (Or.inl rfl)
  have aT : SMₓ T (atM T pₓ) := SMₓ.set T _ (Or.inl rfl)
  rw [sx', sm']
  unfold fX3_scan_50 rdT
  -- the class
  obtain ⟨S2, hS2⟩ : ∃ Zₓ, Zₓ = mset (atXₓ Sₓ pₓ) 38 7 (nI pₓ) := ⟨_, rfl⟩
  have cSₓ : SX Sₓ S2 := by rw [hS2]; exact aS.tr (SX.set _ _ (by omega))
  have s5 : S2 38 5 = nI pₓ := by rw [hS2, ms_at, if_neg (by omega), atX_5]
  have s7 : S2 38 7 = nI pₓ := by rw [hS2, ms_at, if_pos ⟨rfl, rfl⟩]
  have tpS := cSₓ.tp hₓ
  have s1ₓ : S2 38 1 = nI nₓ := tpS.2.1
  -- the referenceₓ
  obtain ⟨T2, hT2⟩ : ∃ Zₓ, Zₓ = mset (mset (atM T pₓ) 0 18 (nI pₓ)) 0 19 (1 : Int32) := ⟨_, rfl⟩
  have cT : SMₓ T T2 := by rw [hT2]; exact (aT.tr (SMₓ.set _ _ (by omega))).tr (SMₓ.set _ _ (by omega))
  have u17 : T2 0 17 = nI pₓ := by rw [hT2, ms_at, if_neg (by omega), ms_at, if_neg (by omega), atM_17]
  have u18 : T2 0 18 = nI pₓ := by rw [hT2, ms_at, if_neg (by omega), ms_at, if_pos ⟨rfl, rfl⟩]
  have u19 : T2 0 19 = nI 1 := by rw [hT2, ms_at, if_pos ⟨rfl, rfl⟩]; rfl
  have tpT := cT.tp hₓ
  rw [ltm_e, atX_5, ← hS2, s5, s1ₓ, ltm_e, atM_17, ltm_e, ltm_e, ← hT2, u17]
  by_cases c0ₓ : pₓ = nₓ
  · -- the end
    rw [if_neg (show ¬ nI pₓ < nI nₓ by rw [nI_ltI (by omega) (by omega)]; omega), raw_no tpT (show nₓ ≤ pₓ by omega) (by omega), bnd_e, if_pos (show -nI 1 = -1 from rfl)]
    refine ⟨mset S2 38 6 (nI 29), mset T2 0 19 (nI 0), 29, pₓ, pₓ, 0, rfl, rfl, cSₓ.tr (SX.set _ _ (by omega)), cT.tr (SMₓ.set _ _ (by omega)), hp1, by omega, by omega, ?_, ?_, ?_, ?_, ?_, by omega, fun qₓ => absurd rfl qₓ, fun _ => ?_, fun qₓ => absurd qₓ (by omega), fun qₓ => absurd qₓ (by omega), fun _ qₓ => absurd qₓ (by omega), fun qₓ => absurd qₓ (by omega)⟩
    · rw [ms_at, if_neg (by omega)]; exact s5
    · rw [ms_at, if_neg (by omega)]; exact u17
    · rw [ms_at, if_neg (by omega)]; exact s7
    · rw [ms_at, if_neg (by omega)]; exact u18
    · rw [ms_at, if_pos ⟨rfl, rfl⟩]
    · rw [ms_at, if_pos ⟨rfl, rfl⟩]
  · have hpn : pₓ < nₓ := by omega
    have hbx := byte_X tpS hpn
    have hbm := raw_M tpT hpn
    have h256 := (hₓ.2.2.2.1 pₓ hpn).2.2
    obtain ⟨T3, hT3⟩ : ∃ Zₓ, Zₓ = mset (mset T2 0 17 (nI (pₓ + 1))) 0 20 (nI (bₓ pₓ)) := ⟨_, rfl⟩
    have dT : SMₓ T T3 := by rw [hT3]; exact (cT.tr (SMₓ.set _ _ (by omega))).tr (SMₓ.set _ _ (by omega))
    have v17 : T3 0 17 = nI (pₓ + 1) := by rw [hT3, ms_at, if_neg (by omega), ms_at, if_pos ⟨rfl, rfl⟩]
    have v18 : T3 0 18 = nI pₓ := by rw [hT3, ms_at, if_neg (by omega), ms_at, if_neg (by omega)]; exact u18
    have v19 : T3 0 19 = nI 1 := by rw [hT3, ms_at, if_neg (by omega), ms_at, if_neg (by omega)]; exact u19
    have v20 : T3 0 20 = nI (bₓ pₓ) := by rw [hT3, ms_at, if_pos ⟨rfl, rfl⟩]
    have tpT3 := dT.tp hₓ
    rw [if_pos (nI_lt hpn (by omega)), hbx, bnd_e, let_X _ h256, bnd_e, hbm, bnd_e, if_neg (show ¬ nI (bₓ pₓ) = -1 from m1_ne (by omega)), ltm_e, ltm_e, u17, show nI pₓ + 1 = nI (pₓ + 1) from nI_add pₓ 1, ← hT3, let_M _ h256, bnd_e]
    by_cases clₓ : isLt (bₓ pₓ) = true
    · -- aₓ wordₓ
      rw [if_pos clₓ, if_neg (show ¬ nI 1 = 0 by decide), if_neg (show ¬ nI 1 = 0 by decide)]
      have lx := lets_X (nₓ - pₓ) pₓ FU S2 tpS (by omega) (by unfold FU; omega)
      have lm := lets_M (nₓ - (pₓ + 1)) (pₓ + 1) FU T3 tpT3 (by omega) (by unfold FU; omega)
      rw [atX_id s5] at lx
      rw [atM_id v17] at lm
      have er : rn isLt bₓ (nₓ - pₓ) pₓ = rn isLt bₓ (nₓ - (pₓ + 1)) (pₓ + 1) := by
        rw [show nₓ - pₓ = (nₓ - (pₓ + 1)) + 1 by omega, rn, if_pos clₓ]
      have hin := rn_in isLt bₓ (nₓ - pₓ) pₓ
      rw [er] at lx hin
      have he1 := (rn_le isLt bₓ (nₓ - (pₓ + 1)) (pₓ + 1)).1
      have he2 := (rn_le isLt bₓ (nₓ - (pₓ + 1)) (pₓ + 1)).2
      generalize rn isLt bₓ (nₓ - (pₓ + 1)) (pₓ + 1) = eₓ at lx lm he1 he2 hin
      have lx' : fX3_scanWord S2 = fX3_scanWord_38 (atXₓ S2 eₓ) := lx
      have eS : SX Sₓ (mset (atXₓ S2 eₓ) 38 6 (nI 30)) := (cSₓ.tr (SX.set _ _ (Or.inl rfl))).tr (SX.set _ _ (by omega))
      have wx := words_X (pₓ := pₓ) (eₓ := eₓ) (by omega) (by omega) wsₓ 0 0 FU (mset (atXₓ S2 eₓ) 38 6 (nI 30)) 30 wOk_ws (by unfold FU; omega) (eS.tp hₓ) (by rw [ms_at, if_neg (by omega)]; unfold atXₓ; rw [ms_at, if_neg (by omega)]; exact s7) (by rw [ms_at, if_neg (by omega)]; exact atX_5 _ _) (by rw [ms_at, if_pos ⟨rfl, rfl⟩])
      have eT : SMₓ T (atM T3 eₓ) := dT.tr (SMₓ.set _ _ (Or.inl rfl))
      have wm := words_M (eT.tp hₓ) (pₓ := pₓ) (eₓ := eₓ) (by omega) (by omega) (fun jₓ h1 h2 => hin jₓ h1 h2) wsₓ 0 0 FU wOk_ws (by unfold FU; show 18 < 100000; omega)
      obtain ⟨xm, xw⟩ := xm_eq bₓ pₓ eₓ wsₓ 0 30 (ws_pw bₓ pₓ eₓ)
      rw [xm] at wx
      have wx' : fX3_scanWord_38 (atXₓ S2 eₓ) = some (nI 0, mset (mset (atXₓ S2 eₓ) 38 6 (nI 30)) 38 6 (nI ((mR bₓ pₓ eₓ wsₓ 0).getD 30))) := by
        unfold fX3_scanWord_38
        rw [ltm_e, show (0 : Int32) = nI 0 from rfl, show (30 : Int32) = nI 30 from rfl]
        exact wx
      have wm' : fX8_wordAt (atM T3 eₓ) (nI pₓ) (nI eₓ) = some (oI (mR bₓ pₓ eₓ wsₓ 0), atM T3 eₓ) := by
        unfold fX8_wordAt
        rw [show (-1 : Int32) = nI 0 - nI 1 by decide, show (0 : Int32) = nI 0 from rfl]
        exact wm
      have a18 : atM T3 eₓ 0 18 = nI pₓ := by unfold atM; rw [ms_at, if_neg (by omega)]; exact v18
      have a19 : atM T3 eₓ 0 19 = nI 1 := by unfold atM; rw [ms_at, if_neg (by omega)]; exact v19
      have a7 : atXₓ S2 eₓ 38 7 = nI pₓ := by unfold atXₓ; rw [ms_at, if_neg (by omega)]; exact s7
      rw [lx', wx', bnd_e, lm]
      unfold wdT
      have w20 : ∀ xₓ : Int32, (mset (atM T3 eₓ) 0 20 xₓ) 0 20 = xₓ := fun xₓ => by rw [ms_at, if_pos ⟨rfl, rfl⟩]
      rw [a18, atM_17, wm', bnd_e, ltm_e, w20, ltm_e]
      generalize mR bₓ pₓ eₓ wsₓ 0 = rₓ at xw
      cases rₓ with
      | none =>
        rw [if_pos (show oI none = -1 from rfl)]
        refine ⟨mset (mset (atXₓ S2 eₓ) 38 6 (nI 30)) 38 6 (nI 30), mset (atM T3 eₓ) 0 20 (oI none), 30, pₓ, eₓ, 0, rfl, rfl, eS.tr (SX.set _ _ (by omega)), eT.tr (SMₓ.set _ _ (by omega)), hp1, by omega, by omega, ?_, ?_, ?_, ?_, ?_, by omega, fun _ => by omega, fun qₓ => absurd qₓ (by omega), fun _ => ?_, fun qₓ => absurd qₓ (by omega), fun _ qₓ => absurd qₓ (by omega), fun qₓ => absurd qₓ (by omega)⟩
        · rw [ms_at, if_neg (by omega), ms_at, if_neg (by omega)]; exact atX_5 _ _
        · rw [ms_at, if_neg (by omega)]; exact atM_17 _ _
        · rw [ms_at, if_neg (by omega), ms_at, if_neg (by omega)]; exact a7
        · rw [ms_at, if_neg (by omega)]; exact a18
        · rw [ms_at, if_pos ⟨rfl, rfl⟩]
        · rw [ms_at, if_neg (by omega)]; exact a19
      | some wₓ =>
        have hw := (xw wₓ rfl).2
        have hw18 : wₓ < 18 := by have : wsₓ.length = 18 := rfl; omega
        rw [if_neg (show ¬ oI (some wₓ) = -1 from m1_ne (by omega))]
        refine ⟨mset (mset (atXₓ S2 eₓ) 38 6 (nI 30)) 38 6 (nI wₓ), mset (mset (atM T3 eₓ) 0 20 (oI (some wₓ))) 0 19 (nI 2), wₓ, pₓ, eₓ, 0, rfl, rfl, eS.tr (SX.set _ _ (by omega)), (eT.tr (SMₓ.set _ _ (by omega))).tr (SMₓ.set _ _ (by omega)), hp1, by omega, by omega, ?_, ?_, ?_, ?_, ?_, by omega, fun _ => by omega, fun qₓ => absurd qₓ (by omega), fun qₓ => absurd qₓ (by omega), fun _ => ⟨?_, ?_⟩, fun qₓ => absurd qₓ (by omega), fun qₓ => absurd qₓ (by omega)⟩
        · rw [ms_at, if_neg (by omega), ms_at, if_neg (by omega)]; exact atX_5 _ _
        · rw [ms_at, if_neg (by omega), ms_at, if_neg (by omega)]; exact atM_17 _ _
        · rw [ms_at, if_neg (by omega), ms_at, if_neg (by omega)]; exact a7
        · rw [ms_at, if_neg (by omega), ms_at, if_neg (by omega)]; exact a18
        · rw [ms_at, if_pos ⟨rfl, rfl⟩]
        · rw [ms_at, if_pos ⟨rfl, rfl⟩]
        · rw [ms_at, if_neg (by omega), ms_at, if_pos ⟨rfl, rfl⟩]; rfl
    · rw [if_neg clₓ, if_pos (show nI 0 = 0 from rfl), if_pos (show nI 0 = 0 from rfl), s5, hbx, bnd_e, dig_X _ h256, bnd_e, dig_M _ h256, bnd_e]
      by_cases cd : isDg (bₓ pₓ) = true
      · -- aₓ numberₓ
        have hdₓ : 48 ≤ bₓ pₓ ∧ bₓ pₓ ≤ 57 := of_decide_eq_true cd
        rw [if_pos cd, if_neg (show ¬ nI 1 = 0 by decide), if_neg (show ¬ nI 1 = 0 by decide), ltm_e]
        unfold fX3_scanNumber
        rw [ltm_e, show (0 : Int32) = nI 0 from rfl, show (48 : Int32) = nI 48 from rfl, pk_sub hdₓ.1]
        have eX : mset S2 38 8 (nI 0) = nuX S2 pₓ (nI 0) := by
          unfold nuX
          funext cₓ kₓ
          rw [ms_at, ms_at, ms_at]
          by_cases zₓ : cₓ = 38 ∧ kₓ = 5
          · rw [if_pos zₓ, zₓ.1, zₓ.2, if_neg (by omega), s5]
          · rw [if_neg zₓ]
        have eMₓ : mset T3 0 20 (nI (bₓ pₓ - 48)) = nuM T3 (pₓ + 1) (nI (bₓ pₓ - 48)) := by
          unfold nuM
          funext cₓ kₓ
          rw [ms_at, ms_at, ms_at]
          by_cases zₓ : cₓ = 0 ∧ kₓ = 17
          · rw [if_pos zₓ, zₓ.1, zₓ.2, if_neg (by omega), v17]
          · rw [if_neg zₓ]
        have dx := digs_X (nₓ - pₓ) pₓ FU S2 (nI 0) tpS (by omega) (by unfold FU; omega)
        have dm := digs_M (nₓ - (pₓ + 1)) (pₓ + 1) FU T3 (nI (bₓ pₓ - 48)) tpT3 (by omega) (by unfold FU; omega)
        have er : rn isDg bₓ (nₓ - pₓ) pₓ = rn isDg bₓ (nₓ - (pₓ + 1)) (pₓ + 1) := by
          rw [show nₓ - pₓ = (nₓ - (pₓ + 1)) + 1 by omega, rn, if_pos cd]
        have evₓ : nvX bₓ (nₓ - pₓ) pₓ (nI 0) = nvX bₓ (nₓ - (pₓ + 1)) (pₓ + 1) (nI (bₓ pₓ - 48)) := by
          rw [show nₓ - pₓ = (nₓ - (pₓ + 1)) + 1 by omega, nvX, if_pos cd]
          congr 1
          rw [pk_mul, nI_add, pk_sub (by omega)]; congr 1; omega
        have hde := dv_eq bₓ (nₓ - (pₓ + 1)) (pₓ + 1) (bₓ pₓ - 48) 1 (by omega)
        rw [eX, eMₓ, dx, dm, er, evₓ, v18]
        have he1 := (rn_le isDg bₓ (nₓ - (pₓ + 1)) (pₓ + 1)).1
        have he2 := (rn_le isDg bₓ (nₓ - (pₓ + 1)) (pₓ + 1)).2
        generalize rn isDg bₓ (nₓ - (pₓ + 1)) (pₓ + 1) = eₓ at he1 he2 hde
        unfold fX3_scanNumber_66 fX3_scanNumber_87
        rw [nuX_5, nuX_o _ _ _ (show 7 ≠ 5 by omega) (show 7 ≠ 8 by omega), s7, pk_sub (show pₓ ≤ eₓ by omega), show (4 : Int32) = nI 4 from rfl, show (5 : Int32) = nI 5 from rfl, ltm_e, ltm_e]
        have nS : ∀ vₓ, SX Sₓ (nuX S2 eₓ vₓ) := fun vₓ => (cSₓ.tr (SX.set _ _ (by omega))).tr (SX.set _ _ (Or.inl rfl))
        have nT : ∀ vₓ, SMₓ T (nuM T3 eₓ vₓ) := fun vₓ => (dT.tr (SMₓ.set _ _ (by omega))).tr (SMₓ.set _ _ (Or.inl rfl))
        by_cases c4ₓ : eₓ - pₓ ≤ 4
        · obtain ⟨d1ₓ, d2ₓ, d3ₓ⟩ := hde (by omega)
          rw [if_neg (show ¬ nI 4 < nI (eₓ - pₓ) by rw [nI_ltI (by omega) (by omega)]; omega), if_neg (show ¬ nI 5 ≤ nI (eₓ - pₓ) by rw [nI_leI (by omega) (by omega)]; omega), bnd_e, d1ₓ, d2ₓ]
          generalize dv bₓ (nₓ - (pₓ + 1)) (pₓ + 1) (bₓ pₓ - 48) = numₓ at d3ₓ
          refine ⟨mset (nuX S2 eₓ (nI numₓ)) 38 6 (nI 28), mset (nuM T3 eₓ (nI numₓ)) 0 19 (nI 3), 28, pₓ, eₓ, numₓ, rfl, rfl, (nS _).tr (SX.set _ _ (by omega)), (nT _).tr (SMₓ.set _ _ (by omega)), hp1, by omega, by omega, ?_, ?_, ?_, ?_, ?_, by omega, fun _ => by omega, fun qₓ => absurd qₓ (by omega), fun qₓ => absurd qₓ (by omega), fun qₓ => absurd qₓ (by omega), fun _ qₓ => absurd qₓ (by omega), fun _ => ⟨?_, ?_, ?_, d3ₓ⟩⟩
          · rw [ms_at, if_neg (by omega)]; exact nuX_5 _ _ _
          · rw [ms_at, if_neg (by omega)]; exact nuM_17 _ _ _
          · rw [ms_at, if_neg (by omega), nuX_o _ _ _ (by omega) (by omega)]; exact s7
          · rw [ms_at, if_neg (by omega), nuM_o _ _ _ (by omega) (by omega)]; exact v18
          · rw [ms_at, if_pos ⟨rfl, rfl⟩]
          · rw [ms_at, if_pos ⟨rfl, rfl⟩]
          · rw [ms_at, if_neg (by omega)]; exact nuM_20 _ _ _
          · rw [ms_at, if_neg (by omega)]; exact nuX_8 _ _ _
        · rw [if_pos (show nI 4 < nI (eₓ - pₓ) from nI_lt (by omega) (by omega)), if_pos (show nI 5 ≤ nI (eₓ - pₓ) from nI_le (by omega) (by omega)), bnd_e]
          refine ⟨mset (nuX S2 eₓ (nvX bₓ (nₓ - (pₓ + 1)) (pₓ + 1) (nI (bₓ pₓ - 48)))) 38 6 (nI 30), nuM T3 eₓ (nvM bₓ (nₓ - (pₓ + 1)) (pₓ + 1) (nI (bₓ pₓ - 48))), 30, pₓ, eₓ, 0, rfl, rfl, (nS _).tr (SX.set _ _ (by omega)), nT _, hp1, by omega, by omega, ?_, ?_, ?_, ?_, ?_, by omega, fun _ => by omega, fun qₓ => absurd qₓ (by omega), fun _ => ?_, fun qₓ => absurd qₓ (by omega), fun _ qₓ => absurd qₓ (by omega), fun qₓ => absurd qₓ (by omega)⟩
          · rw [ms_at, if_neg (by omega)]; exact nuX_5 _ _ _
          · exact nuM_17 _ _ _
          · rw [ms_at, if_neg (by omega), nuX_o _ _ _ (by omega) (by omega)]; exact s7
          · rw [nuM_o _ _ _ (by omega) (by omega)]; exact v18
          · rw [ms_at, if_pos ⟨rfl, rfl⟩]
          · rw [nuM_o _ _ _ (by omega) (by omega)]; exact v19
      · -- aₓ sign, or none
        rw [if_neg cd, if_pos (show nI 0 = 0 from rfl), if_pos (show nI 0 = 0 from rfl), s5, hbx, bnd_e, sign_X _ h256, bnd_e, sign_M _ h256, bnd_e]
        unfold fX3_scan_149
        have fSₓ : ∀ vₓ, SX Sₓ (mset (mset S2 38 6 vₓ) 38 5 (nI (pₓ + 1))) := fun vₓ => (cSₓ.tr (SX.set _ _ (by omega))).tr (SX.set _ _ (Or.inl rfl))
        have e5ₓ : ∀ vₓ, (mset S2 38 6 vₓ) 38 5 + nI 1 = nI (pₓ + 1) := fun vₓ => by rw [ms_at, if_neg (by omega), s5]; exact nI_add pₓ 1
        by_cases cs : sgx (bₓ pₓ) = 99
        · rw [if_pos cs, if_pos cs, if_neg (show ¬ (0 : Int32) ≤ -1 by decide), if_pos (show nI 0 = 0 from rfl), ltm_e, ltm_e, show (1 : Int32) = nI 1 from rfl, e5ₓ]
          refine ⟨mset (mset S2 38 6 (nI 30)) 38 5 (nI (pₓ + 1)), T3, 30, pₓ, pₓ + 1, 0, rfl, rfl, fSₓ _, dT, hp1, by omega, by omega, ?_, v17, ?_, v18, ?_, by omega, fun _ => by omega, fun qₓ => absurd qₓ (by omega), fun _ => v19, fun qₓ => absurd qₓ (by omega), fun _ qₓ => absurd qₓ (by omega), fun qₓ => absurd qₓ (by omega)⟩
          · rw [ms_at, if_pos ⟨rfl, rfl⟩]
          · rw [ms_at, if_neg (by omega), ms_at, if_neg (by omega)]; exact s7
          · rw [ms_at, if_neg (by omega), ms_at, if_pos ⟨rfl, rfl⟩]
        · obtain ⟨g1, g2⟩ := sg_get (bₓ pₓ) h256 cs
          rw [if_neg cs, if_neg cs, if_pos (show (0 : Int32) ≤ nI (sgx (bₓ pₓ)) from nI_pos' (by omega)), if_neg (show ¬ nI 1 = 0 by decide), ltm_e, ltm_e, ltm_e, show (1 : Int32) = nI 1 from rfl, show (18 : Int32) = nI 18 from rfl, nI_add, e5ₓ]
          refine ⟨mset (mset S2 38 6 (nI (18 + sgx (bₓ pₓ)))) 38 5 (nI (pₓ + 1)), mset T3 0 19 (nI 4), 18 + sgx (bₓ pₓ), pₓ, pₓ + 1, 0, rfl, rfl, fSₓ _, dT.tr (SMₓ.set _ _ (by omega)), hp1, by omega, by omega, ?_, ?_, ?_, ?_, ?_, by omega, fun _ => by omega, fun qₓ => absurd qₓ (by omega), fun qₓ => absurd qₓ (by omega), fun qₓ => absurd qₓ (by omega), fun _ _ => ⟨?_, ?_⟩, fun qₓ => absurd qₓ (by omega)⟩
          · rw [ms_at, if_pos ⟨rfl, rfl⟩]
          · rw [ms_at, if_neg (by omega)]; exact v17
          · rw [ms_at, if_neg (by omega), ms_at, if_neg (by omega)]; exact s7
          · rw [ms_at, if_neg (by omega)]; exact v18
          · rw [ms_at, if_neg (by omega), ms_at, if_pos ⟨rfl, rfl⟩]
          · rw [ms_at, if_pos ⟨rfl, rfl⟩]
          · rw [ms_at, if_neg (by omega), v20, show 18 + sgx (bₓ pₓ) - 18 = sgx (bₓ pₓ) by omega, g2]
