/-! text: the two readers side by side, TOKEN by TOKEN -/
/-- the class, its TOKEN scanned -/
def XT (fₓ : Nat) (Sₓ : Mem) (iₓ : Nat) : O := bnd (fX3_take Sₓ) fun r_4 S_5 => ltm (mset S_5 38 2 r_4) fun S_6 => (if (S_6 38 2) = 0 then (if (S_6 38 6) = (29 : Int32) then fX3_read_89  S_6  else fX3_read_44 fₓ S_6 (nI iₓ + (1 : Int32))) else fX3_read_89  S_6 )
theorem rd44 {fₓ nₓ iₓ : Nat} {Sₓ : Mem} (hn : nₓ ≤ 400) (eₓ : Sₓ 38 1 = nI nₓ) (hiₓ : iₓ ≤ nₓ) : fX3_read_44 (fₓ + 1) Sₓ (nI iₓ) = bnd (fX3_scan Sₓ) fun _ S_3 => XT fₓ S_3 iₓ := by
  show fX3_read_44_b (fX3_read_44 fₓ) Sₓ (nI iₓ) = _
  unfold fX3_read_44_b
  rw [eₓ, if_neg (show ¬ nI nₓ < nI iₓ by rw [nI_ltI (by omega) (by omega)]; omega)]
  rfl
/-- a FAULT: its kind and place -/
def EXₓ (S0ₓ : Mem) (o : O) (rₓ pₓ : Nat) : Prop := ∃ S', o = some (nI 0, S') ∧ FXₓ S0ₓ S' ∧ S' 38 1 = nI 0 ∧ S' 38 2 = nI rₓ ∧ S' 38 3 = nI pₓ
theorem EXₓ.to {S0ₓ Sₓ : Mem} {o : O} {rₓ pₓ : Nat} (hₓ : EXₓ Sₓ o rₓ pₓ) (fₓ : FXₓ S0ₓ Sₓ) : EXₓ S0ₓ o rₓ pₓ := by
  obtain ⟨S', aₓ, bₓ, cₓ⟩ := hₓ
  exact ⟨S', aₓ, fₓ.tr bₓ, cₓ⟩
theorem XT_err {Sₓ S5 : Mem} {rₓ pₓ fₓ iₓ : Nat} (hₓ : fX3_take Sₓ = some (nI rₓ, S5)) (hr : 1 ≤ rₓ ∧ rₓ ≤ 3) (hp : S5 38 7 = nI pₓ) (hF : FXₓ Sₓ S5) : EXₓ Sₓ (XT fₓ Sₓ iₓ) rₓ pₓ := by
  unfold XT
  have e2ₓ : (mset S5 38 2 (nI rₓ)) 38 2 = nI rₓ := by rw [ms_at, if_pos ⟨rfl, rfl⟩]
  have nz0 : ¬ nI rₓ = 0 := by rw [show (0 : Int32) = nI 0 from rfl, nI_eq (by omega) (by omega)]; omega
  rw [hₓ, bnd_e, ltm_e, e2ₓ, if_neg nz0]
  unfold fX3_read_89 fX3_read_104
  rw [e2ₓ, if_neg nz0, ltm_e, ltm_e]
  refine ⟨_, rfl, ((hF.tr (FXₓ.put _ _ (by decide))).tr (FXₓ.put _ _ (by decide))).tr (FXₓ.put _ _ (by decide)), ?_, ?_, ?_⟩
  · rw [ms_at, if_pos ⟨rfl, rfl⟩]; rfl
  · rw [ms_at, if_neg (by omega), ms_at, if_neg (by omega), ms_at, if_pos ⟨rfl, rfl⟩]
  · rw [ms_at, if_neg (by omega), ms_at, if_pos ⟨rfl, rfl⟩, ms_at, if_neg (by omega)]; exact hp
theorem XT_next {nₓ : Nat} {bₓ : Nat → Nat} {Sₓ S5 T5 : Mem} {fₓ iₓ kₓ eₓ : Nat} (hₓ : fX3_take Sₓ = some (nI 0, S5)) (hk : S5 38 6 = nI kₓ) (k29 : kₓ ≠ 29) (k30 : kₓ ≤ 30) (h5 : S5 38 5 = nI eₓ) (hTₓ : Tp nₓ bₓ S5 T5) (h17 : T5 0 17 = nI eₓ) (he : eₓ ≤ nₓ) (hiₓ : iₓ + 1 ≤ nₓ) : ∃ S' T' k' p' e' num', XT (fₓ + 1) Sₓ iₓ = XT fₓ S' (iₓ + 1) ∧ fX8_reads T5 = some (nI 0, T') ∧ SX (mset S5 38 2 (nI 0)) S' ∧ SMₓ T5 T' ∧ Tk nₓ eₓ S' T' k' p' e' num' := by
  have hT' : Tp nₓ bₓ (mset S5 38 2 (nI 0)) T5 := hTₓ.x (by rw [ms_at, if_neg (by omega)]) (by rw [mset_ne _ _ _ (by omega)])
  obtain ⟨S', T', k', p', e', num', s1ₓ, s2ₓ, s3ₓ, s4ₓ, s5⟩ := scan_both hT' (show (mset S5 38 2 (nI 0)) 38 5 = nI eₓ by rw [ms_at, if_neg (by omega)]; exact h5) h17 he
  refine ⟨S', T', k', p', e', num', ?_, s2ₓ, s3ₓ, s4ₓ, s5⟩
  have e2ₓ : (mset S5 38 2 (nI 0)) 38 2 = nI 0 := by rw [ms_at, if_pos ⟨rfl, rfl⟩]
  have e6ₓ : (mset S5 38 2 (nI 0)) 38 6 = nI kₓ := by rw [ms_at, if_neg (by omega)]; exact hk
  show (bnd (fX3_take Sₓ) fun r_4 S_5 => ltm (mset S_5 38 2 r_4) fun S_6 => (if (S_6 38 2) = 0 then (if (S_6 38 6) = (29 : Int32) then fX3_read_89  S_6  else fX3_read_44 (fₓ + 1) S_6 (nI iₓ + (1 : Int32))) else fX3_read_89  S_6 )) = _
  rw [hₓ, bnd_e, ltm_e, e2ₓ, if_pos (show nI 0 = 0 from rfl), e6ₓ, if_neg (show ¬ nI kₓ = 29 by rw [show (29 : Int32) = nI 29 from rfl, nI_eq (by omega) (by omega)]; exact k29), show nI iₓ + 1 = nI (iₓ + 1) from nI_add iₓ 1, rd44 hT'.1 hT'.2.1 hiₓ, s1ₓ, bnd_e]
/-- both stand before the same TOKEN -/
def Rn (nₓ : Nat) (bₓ : Nat → Nat) (Sₓ T : Mem) (fₓ iₓ kₓ pₓ eₓ numₓ : Nat) (cx : List (Nat × Nat)) (W : List Nat) (ox br : Nat) (gₓ : Prg) (cm : List (Nat × Nat)) (Pₓ : List Nat) (om : Nat) : Prop := Tp nₓ bₓ Sₓ T ∧ Tk nₓ 0 Sₓ T kₓ pₓ eₓ numₓ ∧ iₓ ≤ pₓ ∧ 900 ≤ fₓ + iₓ ∧ XSt Sₓ cx W ox br gₓ ∧ MSt T cm Pₓ om gₓ ∧ cm.length ≤ cx.length + W.length ∧ cx.length + W.length ≤ pₓ
theorem Tk.w {nₓ iₓ : Nat} {Sₓ T : Mem} {kₓ pₓ eₓ numₓ : Nat} (hₓ : Tk nₓ iₓ Sₓ T kₓ pₓ eₓ numₓ) : Tk nₓ 0 Sₓ T kₓ pₓ eₓ numₓ := ⟨Nat.zero_le _, hₓ.2⟩
/-- after a TOKEN is taken, the next one -/
theorem Rn.go {nₓ : Nat} {bₓ : Nat → Nat} {Sₓ T S5 T5 : Mem} {fₓ iₓ kₓ pₓ eₓ numₓ : Nat} {cx : List (Nat × Nat)} {W : List Nat} {ox br : Nat} {gₓ : Prg} {cm : List (Nat × Nat)} {Pₓ : List Nat} {om : Nat} (hTₓ : Tp nₓ bₓ S5 T5) (hk : Tk nₓ 0 Sₓ T kₓ pₓ eₓ numₓ) (hiₓ : iₓ ≤ pₓ) (hf : 900 ≤ fₓ + iₓ) (k29 : kₓ ≠ 29) (ht : fX3_take Sₓ = some (nI 0, S5)) (s5 : S5 38 5 = Sₓ 38 5) (s6ₓ : S5 38 6 = Sₓ 38 6) (t17 : T5 0 17 = T 0 17) (hX : XSt S5 cx W ox br gₓ) (hMₓ : MSt T5 cm Pₓ om gₓ) (hcₓ : cm.length ≤ cx.length + W.length) (hw : cx.length + W.length ≤ pₓ + 1) : ∃ S' T' f' k' p' e' num', XT fₓ Sₓ iₓ = XT f' S' (iₓ + 1) ∧ fX8_reads T5 = some (nI 0, T') ∧ FXₓ S5 S' ∧ FM T5 T' ∧ (∀ jₓ, jₓ ≠ 2 → jₓ ≠ 5 → jₓ ≠ 6 → jₓ ≠ 7 → jₓ ≠ 8 → S' 38 jₓ = S5 38 jₓ) ∧ pₓ < p' ∧ Rn nₓ bₓ S' T' f' (iₓ + 1) k' p' e' num' cx W ox br gₓ cm Pₓ om := by
  obtain ⟨-, q2ₓ, q3ₓ, q4ₓ, q5ₓ, q6ₓ, q7ₓ, q8ₓ, q9ₓ, q10ₓ, -⟩ := hk
  have hpe := q10ₓ k29
  obtain ⟨fₓ, rfl⟩ : ∃ hₓ, fₓ = hₓ + 1 := ⟨fₓ - 1, by have := hTₓ.1; omega⟩
  obtain ⟨S', T', k', p', e', num', z1, z2, z3, z4, z5⟩ := XT_next (fₓ := fₓ) (iₓ := iₓ) (kₓ := kₓ) (eₓ := eₓ) ht (s6ₓ.trans q8ₓ) k29 q9ₓ (s5.trans q4ₓ) hTₓ (t17.trans q5ₓ) q3ₓ (by omega)
  have hpp : eₓ ≤ p' := z5.1
  refine ⟨S', T', fₓ, k', p', e', num', z1, z2, (FXₓ.put S5 _ (by decide)).tr z3.FX, z4.FM, fun jₓ j2ₓ j5ₓ j6ₓ j7ₓ j8ₓ => ?_, by omega, z4.tp (z3.tp (hTₓ.x (by rw [ms_at, if_neg (by omega)]) (by rw [mset_ne _ _ _ (by omega)]))), z5.w, by omega, by omega, ?_, ?_, hcₓ, by omega⟩
  · rw [z3.2 jₓ j5ₓ j6ₓ j7ₓ j8ₓ, ms_at, if_neg (by omega)]
  · have mₓ : ∀ cₓ, cₓ ≠ 38 → S' cₓ = S5 cₓ := fun cₓ hcₓ => by rw [z3.1 cₓ hcₓ, mset_ne _ _ _ hcₓ]
    have rₓ : ∀ jₓ, 9 ≤ jₓ → S' 38 jₓ = S5 38 jₓ := fun jₓ hj => by rw [z3.2 jₓ (by omega) (by omega) (by omega) (by omega), ms_at, if_neg (by omega)]
    exact hX.cg (mₓ 40 (by omega)) (mₓ 41 (by omega)) (mₓ 42 (by omega)) (mₓ 43 (by omega)) (mₓ 45 (by omega)) (rₓ 13 (by omega)) (rₓ 14 (by omega)) (rₓ 15 (by omega))
  · have mₓ : ∀ cₓ, cₓ ≠ 0 → T' cₓ = T5 cₓ := fun cₓ hcₓ => z4.1 cₓ hcₓ
    have rₓ : ∀ jₓ, 21 ≤ jₓ → T' 0 jₓ = T5 0 jₓ := fun jₓ hj => z4.2 jₓ (by omega) (by omega) (by omega) (by omega)
    exact hMₓ.cg (mₓ 13 (by omega)) (mₓ 14 (by omega)) (mₓ 15 (by omega)) (mₓ 16 (by omega)) (mₓ 17 (by omega)) (mₓ 18 (by omega)) (rₓ 28 (by omega)) (rₓ 29 (by omega)) (rₓ 31 (by omega))
/-- which sign, which word -/
theorem sgn_M {nₓ : Nat} {Sₓ T : Mem} {kₓ pₓ eₓ numₓ : Nat} (hₓ : Tk nₓ 0 Sₓ T kₓ pₓ eₓ numₓ) {jₓ : Nat} (hj : jₓ < 10) : fX8_isSign T (nI (sgl.getD jₓ 0)) = some (if kₓ = 18 + jₓ then nI 1 else nI 0, T) := by
  obtain ⟨-, -, -, -, -, -, -, -, k30, -, k1ₓ, k2ₓ, k3ₓ, k4ₓ, k5ₓ⟩ := hₓ
  have inj : ∀ iₓ, iₓ < 10 → ∀ jₓ, jₓ < 10 → (nI (sgl.getD iₓ 0) = nI (sgl.getD jₓ 0) ↔ iₓ = jₓ) := by decide +kernel
  unfold fX8_isSign
  by_cases c1ₓ : 18 ≤ kₓ ∧ kₓ < 28
  · obtain ⟨e1ₓ, e2ₓ⟩ := k4ₓ c1ₓ.1 c1ₓ.2
    rw [e1ₓ, if_pos (show nI 4 = 4 from rfl), e2ₓ]
    by_cases cₓ : kₓ = 18 + jₓ
    · rw [if_pos cₓ, if_pos (by rw [cₓ, show 18 + jₓ - 18 = jₓ by omega])]; rfl
    · rw [if_neg cₓ, if_neg (by rw [inj (kₓ - 18) (by omega) jₓ hj]; omega)]; rfl
  · rw [if_neg (show ¬ kₓ = 18 + jₓ by omega), if_neg]
    · rfl
    · rcases (show kₓ < 18 ∨ kₓ = 28 ∨ kₓ = 29 ∨ kₓ = 30 by omega) with qₓ | qₓ | qₓ | qₓ
      · rw [(k3ₓ qₓ).1]; decide
      · rw [(k5ₓ qₓ).1]; decide
      · rw [k1ₓ qₓ]; decide
      · rw [k2ₓ qₓ]; decide
theorem wrd_M {nₓ : Nat} {Sₓ T : Mem} {kₓ pₓ eₓ numₓ : Nat} (hₓ : Tk nₓ 0 Sₓ T kₓ pₓ eₓ numₓ) {wₓ : Nat} (hw : wₓ < 18) : fX8_isWord T (nI wₓ) = some (if kₓ = wₓ then nI 1 else nI 0, T) := by
  obtain ⟨-, -, -, -, -, -, -, -, k30, -, k1ₓ, k2ₓ, k3ₓ, k4ₓ, k5ₓ⟩ := hₓ
  unfold fX8_isWord
  by_cases c1ₓ : kₓ < 18
  · obtain ⟨e1ₓ, e2ₓ⟩ := k3ₓ c1ₓ
    rw [e1ₓ, if_pos (show nI 2 = 2 from rfl), e2ₓ]
    by_cases cₓ : kₓ = wₓ
    · rw [if_pos cₓ, if_pos (by rw [cₓ])]; rfl
    · rw [if_neg cₓ, if_neg (by rw [nI_eq (by omega) (by omega)]; exact cₓ)]; rfl
  · rw [if_neg (show ¬ kₓ = wₓ by omega), if_neg]
    · rfl
    · rcases (show (18 ≤ kₓ ∧ kₓ < 28) ∨ kₓ = 28 ∨ kₓ = 29 ∨ kₓ = 30 by omega) with qₓ | qₓ | qₓ | qₓ
      · rw [(k4ₓ qₓ.1 qₓ.2).1]; decide
      · rw [(k5ₓ qₓ).1]; decide
      · rw [k1ₓ qₓ]; decide
      · rw [k2ₓ qₓ]; decide
def erM (T : Mem) (rₓ pₓ : Nat) : Mem := mset (mset T 0 32 (nI rₓ)) 0 33 (nI pₓ)
theorem errs_M {T : Mem} {rₓ pₓ : Nat} (eₓ : T 0 18 = nI pₓ) : fX8_errs T (nI rₓ) = some (-nI 1, erM T rₓ pₓ) := by
  unfold fX8_errs erM
  rw [ltm_e, ltm_e, ms_at, if_neg (by omega), eₓ]
  rfl
theorem erM_FM (T : Mem) (rₓ pₓ : Nat) : FM T (erM T rₓ pₓ) := (FM.s0 T _ (by decide)).tr (FM.s0 _ _ (by decide))
/-- what comes of a piece: a FAULT of both, or both go on -/
def Resₓ (Sₓ T : Mem) (oX oM : O) (Qₓ : Mem → Mem → Nat → Nat → Nat → Nat → Nat → Nat → Prop) : Prop := (∃ rₓ pₓ T', 1 ≤ rₓ ∧ rₓ ≤ 3 ∧ oM = some (-nI 1, T') ∧ FM T T' ∧ T' 0 32 = nI rₓ ∧ T' 0 33 = nI pₓ ∧ EXₓ Sₓ oX rₓ pₓ) ∨ (∃ S' T' fₓ iₓ kₓ pₓ eₓ numₓ, oM = some (nI 0, T') ∧ FM T T' ∧ FXₓ Sₓ S' ∧ (S' 38 10, S' 38 3) = (Sₓ 38 10, Sₓ 38 3) ∧ oX = XT fₓ S' iₓ ∧ Qₓ S' T' fₓ iₓ kₓ pₓ eₓ numₓ)
theorem Resₓ.err {Sₓ T : Mem} {oX oM : O} {Qₓ : Mem → Mem → Nat → Nat → Nat → Nat → Nat → Nat → Prop} {nₓ iₓ kₓ pₓ eₓ numₓ rₓ : Nat} (hk : Tk nₓ iₓ Sₓ T kₓ pₓ eₓ numₓ) (hr : 1 ≤ rₓ ∧ rₓ ≤ 3) (hMₓ : oM = fX8_errs T (nI rₓ)) (hX : EXₓ Sₓ oX rₓ pₓ) : Resₓ Sₓ T oX oM Qₓ := by
  obtain ⟨-, -, -, -, -, -, q7ₓ, -⟩ := hk
  refine Or.inl ⟨rₓ, pₓ, erM T rₓ pₓ, hr.1, hr.2, by rw [hMₓ, errs_M q7ₓ], erM_FM T rₓ pₓ, ?_, ?_, hX⟩
  · unfold erM; rw [ms_at, if_neg (by omega), ms_at, if_pos ⟨rfl, rfl⟩]
  · unfold erM; rw [ms_at, if_pos ⟨rfl, rfl⟩]
/-- the unit's piece of code -/
def uC (kₓ numₓ : Nat) : Nat × Nat := if kₓ = 28 then (0, numₓ) else (1, kₓ - 8)
def isU (kₓ : Nat) : Prop := kₓ = 28 ∨ (8 ≤ kₓ ∧ kₓ ≤ 17)
theorem uC_x {kₓ numₓ : Nat} (hₓ : isU kₓ) : (kₓ = 28 → xcode (uC kₓ numₓ) = 100 + numₓ) ∧ (kₓ ≠ 28 → xcode (uC kₓ numₓ) = kₓ) := by
  unfold uC
  refine ⟨fun qₓ => by rw [if_pos qₓ]; rfl, fun qₓ => ?_⟩
  rw [if_neg qₓ]
  have : xcode (1, kₓ - 8) = 8 + (kₓ - 8) := rfl
  rw [this]
  rcases hₓ with hₓ | hₓ
  · exact absurd hₓ qₓ
  · omega
theorem tunit_X {Sₓ : Mem} {kₓ numₓ mₓ : Nat} (hU : isU kₓ) (h6 : Sₓ 38 6 = nI kₓ) (h8 : kₓ = 28 → Sₓ 38 8 = nI numₓ) (hmₓ : mₓ < 400) (eₓ : Sₓ 40 5 = nI mₓ) : fX3_takeUnit Sₓ = some (nI 0, mset (adX Sₓ mₓ (nI (xcode (uC kₓ numₓ)))) 38 9 (nI 5)) := by
  obtain ⟨x1ₓ, x2ₓ⟩ := uC_x (numₓ := numₓ) hU
  unfold fX3_takeUnit fX3_takeUnit_60
  rw [h6]
  by_cases cₓ : kₓ = 28
  · rw [if_pos (show nI kₓ = 28 by rw [cₓ]; rfl), h8 cₓ, show (100 : Int32) = nI 100 from rfl, nI_add, x1ₓ cₓ, addC_X _ hmₓ eₓ, bnd_e, ltm_e]
    rfl
  · have hk : 8 ≤ kₓ ∧ kₓ ≤ 17 := hU.resolve_left cₓ
    rw [if_neg (show ¬ nI kₓ = 28 by rw [show (28 : Int32) = nI 28 from rfl, nI_eq (by omega) (by omega)]; exact cₓ), if_neg (show ¬ nI kₓ < 8 by rw [show (8 : Int32) = nI 8 from rfl, nI_ltI (by omega) (by omega)]; omega), if_neg (show ¬ (17 : Int32) < nI kₓ by rw [show (17 : Int32) = nI 17 from rfl, nI_ltI (by omega) (by omega)]; omega), x2ₓ cₓ, addC_X _ hmₓ eₓ, bnd_e, ltm_e]
    rfl
theorem tunit_no {Sₓ : Mem} {kₓ : Nat} (hU : ¬ isU kₓ) (h6 : Sₓ 38 6 = nI kₓ) (hk : kₓ ≤ 30) : fX3_takeUnit Sₓ = some (nI 1, Sₓ) := by
  unfold isU at hU
  unfold fX3_takeUnit
  rw [h6, if_neg (show ¬ nI kₓ = 28 by rw [show (28 : Int32) = nI 28 from rfl, nI_eq (by omega) (by omega)]; omega)]
  by_cases cₓ : kₓ < 8
  · rw [if_pos (show nI kₓ < 8 by rw [show (8 : Int32) = nI 8 from rfl, nI_ltI (by omega) (by omega)]; omega)]; rfl
  · rw [if_neg (show ¬ nI kₓ < 8 by rw [show (8 : Int32) = nI 8 from rfl, nI_ltI (by omega) (by omega)]; omega), if_pos (show (17 : Int32) < nI kₓ by rw [show (17 : Int32) = nI 17 from rfl, nI_ltI (by omega) (by omega)]; omega)]; rfl
theorem unit_M {nₓ : Nat} {Sₓ T : Mem} {kₓ pₓ eₓ numₓ mₓ : Nat} (hₓ : Tk nₓ 0 Sₓ T kₓ pₓ eₓ numₓ) (hmₓ : mₓ < 400) (e28ₓ : T 0 28 = nI mₓ) (hU : isU kₓ) : fX8_readUnit T = bnd (fX8_reads (emM T mₓ (nI (uC kₓ numₓ).1) (nI (uC kₓ numₓ).2))) (fun _ S_4 => some ((0 : Int32), S_4)) := by
  obtain ⟨-, -, -, -, -, -, -, -, k30, -, k1ₓ, k2ₓ, k3ₓ, k4ₓ, k5ₓ⟩ := hₓ
  have em := fun aₓ vₓ => emit_M (T := T) aₓ vₓ hmₓ e28ₓ
  unfold fX8_readUnit fX8_readUnit_21 fX8_readUnit_22 fX8_readUnit_41 fX8_readUnit_51 fX8_readUnit_69
  rcases id hU with c2ₓ | c2ₓ
  · obtain ⟨a1ₓ, a2, -, -⟩ := k5ₓ c2ₓ
    rw [a1ₓ, if_neg (show ¬ nI 3 = 2 by decide), if_pos rfl, if_pos (show nI 3 = 3 from rfl), if_pos rfl, if_pos rfl, a2, em, bnd_e]
    have : uC kₓ numₓ = (0, numₓ) := if_pos c2ₓ
    rw [this]
    rfl
  · obtain ⟨a1ₓ, a2⟩ := k3ₓ (by omega)
    rw [a1ₓ, if_pos (show nI 2 = 2 from rfl), a2, if_neg (show ¬ nI kₓ < 8 by rw [show (8 : Int32) = nI 8 from rfl, nI_ltI (by omega) (by omega)]; omega), if_neg (show ¬ (1 : Int32) = 0 by decide), if_neg (show ¬ (1 : Int32) = 0 by decide), if_neg (show ¬ (1 : Int32) = 0 by decide), show (8 : Int32) = nI 8 from rfl, pk_sub (show 8 ≤ kₓ by omega), em, bnd_e]
    have : uC kₓ numₓ = (1, kₓ - 8) := if_neg (by omega)
    rw [this]
    rfl
/-- a unit, on both sides -/
theorem unit_both {nₓ : Nat} {bₓ : Nat → Nat} {Sₓ T : Mem} {fₓ iₓ kₓ pₓ eₓ numₓ : Nat} {cx : List (Nat × Nat)} {W : List Nat} {ox br : Nat} {gₓ : Prg} {cm : List (Nat × Nat)} {Pₓ : List Nat} {om : Nat} (hₓ : Rn nₓ bₓ Sₓ T fₓ iₓ kₓ pₓ eₓ numₓ cx W ox br gₓ cm Pₓ om) (ht : fX3_take Sₓ = fX3_takeUnit Sₓ) : Resₓ Sₓ T (XT fₓ Sₓ iₓ) (fX8_readUnit T) (fun S' T' f' i' k' p' e' num' => isU kₓ ∧ Rn nₓ bₓ S' T' f' i' k' p' e' num' (cx ++ [uC kₓ numₓ]) W ox br gₓ (cm ++ [uC kₓ numₓ]) Pₓ om ∧ S' 38 9 = nI 5 ∧ S' 38 11 = Sₓ 38 11 ∧ pₓ < p') := by
  obtain ⟨h1, h2, h3, h4, h5, h6, h7, h8⟩ := hₓ
  obtain ⟨-, q2ₓ, q3ₓ, q4ₓ, q5ₓ, q6ₓ, q7ₓ, q8ₓ, q9ₓ, q10ₓ, -, -, -, -, q15ₓ⟩ := id h2
  have hn := h1.1
  by_cases hU : isU kₓ
  · have k29 : kₓ ≠ 29 := by unfold isU at hU; omega
    have hpe := q10ₓ k29
    have e5ₓ := h5.1.1
    have e28ₓ := h6.1.1
    have tx := tunit_X hU q8ₓ (fun qₓ => (q15ₓ qₓ).2.2.1) (show cx.length < 400 by omega) e5ₓ
    have um := unit_M h2 (show cm.length < 400 by omega) e28ₓ hU
    have hX5 : XSt (mset (adX Sₓ cx.length (nI (xcode (uC kₓ numₓ)))) 38 9 (nI 5)) (cx ++ [uC kₓ numₓ]) W ox br gₓ := (adX_st h5 (uC kₓ numₓ)).cg rfl rfl rfl rfl rfl (by rw [ms_at, if_neg (by omega)]) (by rw [ms_at, if_neg (by omega)]) (by rw [ms_at, if_neg (by omega)])
    have hT5 : Tp nₓ bₓ (mset (adX Sₓ cx.length (nI (xcode (uC kₓ numₓ)))) 38 9 (nI 5)) (emM T cm.length (nI (uC kₓ numₓ).1) (nI (uC kₓ numₓ).2)) := by
      refine (h1.x ?_ ?_).m ?_ ?_ ?_
      · rw [ms_at, if_neg (by omega), adX_38]
      · rw [mset_ne _ _ _ (by omega)]; exact adX_FX Sₓ cx.length (nI (xcode (uC kₓ numₓ))) 39 (by decide)
      · exact (emM_FM T _ _ _).2.1 16 (by decide)
      · exact (emM_FM T _ _ _).1 11 (by decide)
      · exact (emM_FM T _ _ _).1 12 (by decide)
    obtain ⟨S', T', f', k', p', e', num', z1, z2, z3, z4, z5, z6, z7⟩ := Rn.go hT5 h2 h3 h4 k29 (ht.trans tx) (by rw [ms_at, if_neg (by omega), adX_38]) (by rw [ms_at, if_neg (by omega), adX_38]) (emM_Tk T _ _ _).1 hX5 (emM_st h6 (uC kₓ numₓ)) (by rw [List.length_append, List.length_append, List.length_singleton]; omega) (by rw [List.length_append, List.length_singleton]; omega)
    refine Or.inr ⟨S', T', f', iₓ + 1, k', p', e', num', ?_, (emM_FM T _ _ _).tr z4, ((adX_FX Sₓ _ _).tr (FXₓ.put _ _ (by decide))).tr z3, ?_, z1, hU, z7, ?_, ?_, z6⟩
    · rw [um, z2, bnd_e]; rfl
    · rw [z5 10 (by omega) (by omega) (by omega) (by omega) (by omega), ms_at, if_neg (show ¬ (38 = 38 ∧ 10 = 9) by omega), z5 3 (by omega) (by omega) (by omega) (by omega) (by omega), ms_at, if_neg (show ¬ (38 = 38 ∧ 3 = 9) by omega), adX_38]
    · rw [z5 9 (by omega) (by omega) (by omega) (by omega) (by omega), ms_at, if_pos ⟨rfl, rfl⟩]
    · rw [z5 11 (by omega) (by omega) (by omega) (by omega) (by omega), ms_at, if_neg (by omega), adX_38]
  · have tx := tunit_no hU q8ₓ q9ₓ
    have um : fX8_readUnit T = fX8_errs T (nI 1) := by
      obtain ⟨-, -, -, -, -, -, -, -, k30, -, k1ₓ, k2ₓ, k3ₓ, k4ₓ, k5ₓ⟩ := id h2
      have ers : ∀ xₓ : O, (bnd xₓ fun r_3 S_4 => some (r_3, S_4)) = xₓ := fun xₓ => by cases xₓ <;> rfl
      unfold isU at hU
      unfold fX8_readUnit fX8_readUnit_21 fX8_readUnit_22
      by_cases c1ₓ : kₓ < 18
      · obtain ⟨a1ₓ, a2⟩ := k3ₓ c1ₓ
        rw [a1ₓ, if_pos (show nI 2 = 2 from rfl), a2, if_pos (show nI kₓ < 8 by rw [show (8 : Int32) = nI 8 from rfl, nI_ltI (by omega) (by omega)]; omega), if_pos rfl, if_neg (show ¬ nI 2 = 3 by decide), ers]
        rfl
      · have n2ₓ : ¬ T 0 19 = 2 := by
          rcases (show (18 ≤ kₓ ∧ kₓ < 28) ∨ kₓ = 29 ∨ kₓ = 30 by omega) with qₓ | qₓ | qₓ
          · rw [(k4ₓ qₓ.1 qₓ.2).1]; decide
          · rw [k1ₓ qₓ]; decide
          · rw [k2ₓ qₓ]; decide
        have n3ₓ : ¬ T 0 19 = 3 := by
          rcases (show (18 ≤ kₓ ∧ kₓ < 28) ∨ kₓ = 29 ∨ kₓ = 30 by omega) with qₓ | qₓ | qₓ
          · rw [(k4ₓ qₓ.1 qₓ.2).1]; decide
          · rw [k1ₓ qₓ]; decide
          · rw [k2ₓ qₓ]; decide
        rw [if_neg n2ₓ, if_pos rfl, if_neg n3ₓ, ers]
        rfl
    exact Resₓ.err h2 (by omega) um (XT_err (ht.trans tx) (by omega) q6ₓ (FXₓ.rf Sₓ))
