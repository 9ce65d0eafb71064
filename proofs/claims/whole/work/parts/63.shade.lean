/-! shade: what a person shades, as masks of places; both sides find the same -/
theorem mput_id (T : Mem) (kₓ : Nat) : mput T kₓ (T kₓ) = T := by
  funext aₓ
  by_cases hₓ : aₓ = kₓ
  · subst hₓ; rw [mput_same]
  · rw [mput_ne _ _ hₓ]
theorem mput_mput (T : Mem) (kₓ : Nat) (fₓ gₓ : Nat → Int32) : mput (mput T kₓ fₓ) kₓ gₓ = mput T kₓ gₓ := by
  funext aₓ
  by_cases hₓ : aₓ = kₓ
  · subst hₓ; rw [mput_same, mput_same]
  · rw [mput_ne _ _ hₓ, mput_ne _ _ hₓ, mput_ne _ _ hₓ]
theorem bt_nI (mₓ : Nat) {iₓ : Nat} (hiₓ : iₓ < 32) : bt (nI mₓ) iₓ = mₓ.testBit iₓ := by
  show (BitVec.ofNat 32 mₓ).getLsbD iₓ = _
  rw [BitVec.getLsbD_ofNat]
  simp [hiₓ]
theorem nI_or (aₓ bₓ : Nat) : nI aₓ ||| nI bₓ = nI (aₓ ||| bₓ) := by
  refine b_ext (fun iₓ hiₓ => ?_)
  rw [b_or, bt_nI _ hiₓ, bt_nI _ hiₓ, bt_nI _ hiₓ, Nat.testBit_or]
theorem bitI_nI (mₓ : Nat) {cₓ : Nat} (hcₓ : cₓ < 32) : bitI (nI mₓ) cₓ = if mₓ.testBit cₓ = true then 1 else 0 := by
  rw [bitI_eq _ hcₓ, bt_nI _ hcₓ]
theorem eq0_iff (xₓ : Int32) : xₓ = 0 ↔ ∀ iₓ, iₓ < 32 → bt xₓ iₓ = false := by
  constructor
  · intro hₓ iₓ _; rw [hₓ, b_0]
  · intro hₓ; exact b_ext (fun iₓ hiₓ => by rw [hₓ iₓ hiₓ, b_0])
/-- the view: how many; hours by columns; pilgrims by columns 0 PLACE 1 TALL 2 GIRTH 3 SKIN 5 PARASOL 6 HAT -/
abbrev Vw : Type := Nat × (Nat → Nat → Nat) × (Nat → Nat → Nat)
def VB (V : Vw) : Prop := V.1 ≤ 10 ∧ (∀ hₓ, hₓ < 12 → V.2.1 hₓ 0 ≤ 7 ∧ V.2.1 hₓ 1 ≤ 4 ∧ V.2.1 hₓ 2 ≤ 9 ∧ V.2.1 hₓ 3 ≤ 7 ∧ V.2.1 hₓ 4 ≤ 10) ∧ (∀ pₓ, pₓ < 10 → V.2.2 pₓ 0 ≤ 24 ∧ V.2.2 pₓ 1 ≤ 9 ∧ V.2.2 pₓ 2 ≤ 3 ∧ V.2.2 pₓ 3 ≤ 9 ∧ V.2.2 pₓ 5 ≤ 1 ∧ V.2.2 pₓ 6 ≤ 1) ∧ ∀ pₓ, pₓ < V.1 → 1 ≤ V.2.2 pₓ 2
def XVw (Sₓ : Mem) (V : Vw) : Prop := Sₓ 1 9 = nI V.1 ∧ (∀ hₓ cₓ, hₓ < 12 → cₓ < 5 → Sₓ 2 (5 * hₓ + cₓ) = nI (V.2.1 hₓ cₓ)) ∧ ∀ pₓ, pₓ < 10 → Sₓ 3 (10 * pₓ) = nI (V.2.2 pₓ 0) ∧ Sₓ 3 (10 * pₓ + 1) = nI (V.2.2 pₓ 1) ∧ Sₓ 3 (10 * pₓ + 2) = nI (V.2.2 pₓ 2) ∧ Sₓ 3 (10 * pₓ + 3) = nI (V.2.2 pₓ 3) ∧ Sₓ 3 (10 * pₓ + 5) = nI (V.2.2 pₓ 5) ∧ Sₓ 3 (10 * pₓ + 6) = nI (V.2.2 pₓ 6)
def MVw (T : Mem) (V : Vw) : Prop := T 0 6 = nI V.1 ∧ (∀ hₓ cₓ, hₓ < 12 → cₓ < 5 → T 3 (5 * hₓ + cₓ) = nI (V.2.1 hₓ cₓ)) ∧ ∀ pₓ, pₓ < 10 → T 1 (5 + pₓ) = nI (V.2.2 pₓ 0) ∧ T 5 pₓ = nI (V.2.2 pₓ 1) ∧ T 6 pₓ = nI (V.2.2 pₓ 2) ∧ T 7 pₓ = nI (V.2.2 pₓ 3) ∧ bitI (T 0 10) pₓ = nI (V.2.2 pₓ 5) ∧ bitI (T 0 11) pₓ = nI (V.2.2 pₓ 6)
theorem MVw.m {T : Mem} {V : Vw} (hₓ : MVw T V) (kₓ : Nat) (hk : 20 < kₓ) (fₓ : Nat → Int32) : MVw (mput T kₓ fₓ) V := by
  unfold MVw at hₓ ⊢
  rw [mput_ne _ _ (show 0 ≠ kₓ by omega), mput_ne _ _ (show 3 ≠ kₓ by omega), mput_ne _ _ (show 1 ≠ kₓ by omega), mput_ne _ _ (show 5 ≠ kₓ by omega), mput_ne _ _ (show 6 ≠ kₓ by omega), mput_ne _ _ (show 7 ≠ kₓ by omega)]
  exact hₓ
theorem XVw.m {Sₓ : Mem} {V : Vw} (hₓ : XVw Sₓ V) (kₓ : Nat) (hk : 20 < kₓ) (fₓ : Nat → Int32) : XVw (mput Sₓ kₓ fₓ) V := by
  unfold XVw at hₓ ⊢
  rw [mput_ne _ _ (show 1 ≠ kₓ by omega), mput_ne _ _ (show 2 ≠ kₓ by omega), mput_ne _ _ (show 3 ≠ kₓ by omega)]
  exact hₓ
theorem le_cl {vₓ : Int32} {bₓ : Nat} (hₓ : le32 vₓ bₓ) (hbₓ : bₓ < 2 ^ 31) : vₓ = nI vₓ.toNatClampNeg ∧ vₓ.toNatClampNeg ≤ bₓ := by
  obtain ⟨kₓ, hk, rfl⟩ := hₓ
  rw [nI_clamp (by omega)]
  exact ⟨rfl, hk⟩
theorem bit_cl (xₓ : Int32) {pₓ : Nat} (hp : pₓ < 32) : bitI xₓ pₓ = nI (if bt xₓ pₓ = true then 1 else 0) ∧ (if bt xₓ pₓ = true then 1 else 0) ≤ 1 := by
  rw [bitI_eq xₓ hp]
  by_cases hₓ : bt xₓ pₓ = true
  · rw [if_pos hₓ, if_pos hₓ]; exact ⟨rfl, Nat.le_refl 1⟩
  · rw [if_neg hₓ, if_neg hₓ]; exact ⟨rfl, Nat.zero_le 1⟩
def vw (nₓ : Nat) (T : Mem) : Vw := (nₓ, fun hₓ cₓ => (T 3 (5 * hₓ + cₓ)).toNatClampNeg, fun pₓ cₓ => match cₓ with
  | 0 => (T 1 (5 + pₓ)).toNatClampNeg
  | 1 => (T 5 pₓ).toNatClampNeg
  | 2 => (T 6 pₓ).toNatClampNeg
  | 3 => (T 7 pₓ).toNatClampNeg
  | 5 => if bt (T 0 10) pₓ = true then 1 else 0
  | _ => if bt (T 0 11) pₓ = true then 1 else 0)
theorem RWn.vw {nₓ dₓ tₓ pr re bl : Nat} {Sₓ T : Mem} (hₓ : RWn nₓ dₓ tₓ pr re bl (sl Sₓ 1) T) : VB (vw nₓ T) ∧ XVw Sₓ (vw nₓ T) ∧ MVw T (vw nₓ T) := by
  obtain ⟨w0ₓ, w1ₓ, w2ₓ, w3ₓ, w4ₓ, w5, w6ₓ, w7ₓ, w8, w9, w10ₓ, w11ₓ, w12, w13ₓ, w14ₓ, w15, w16⟩ := hₓ
  have hr : ∀ hₓ cₓ, hₓ < 12 → cₓ < 5 → T 3 (5 * hₓ + cₓ) = nI (T 3 (5 * hₓ + cₓ)).toNatClampNeg := by
    intro hₓ cₓ hh hcₓ
    obtain ⟨a0ₓ, a1ₓ, a2, a3, a4⟩ := w9.2 hₓ hh
    obtain rfl | rfl | rfl | rfl | rfl : cₓ = 0 ∨ cₓ = 1 ∨ cₓ = 2 ∨ cₓ = 3 ∨ cₓ = 4 := by omega
    · exact (le_cl a0ₓ (by omega)).1
    · exact (le_cl a1ₓ (by omega)).1
    · exact (le_cl a2 (by omega)).1
    · exact (le_cl a3 (by omega)).1
    · exact (le_cl a4 (by omega)).1
  refine ⟨⟨w0ₓ.1, fun hₓ hh => ?_, fun pₓ hp => ?_, fun pₓ hp => ?_⟩, ⟨w1ₓ.1, fun hₓ cₓ hh hcₓ => ?_, fun pₓ hp => ?_⟩, ⟨w1ₓ.2, hr, fun pₓ hp => ?_⟩⟩
  · obtain ⟨a0ₓ, a1ₓ, a2, a3, a4⟩ := w9.2 hₓ hh
    exact ⟨(le_cl a0ₓ (by omega)).2, (le_cl a1ₓ (by omega)).2, (le_cl a2 (by omega)).2, (le_cl a3 (by omega)).2, (le_cl a4 (by omega)).2⟩
  · obtain ⟨-, -, -, -, -, b1, b2, b3⟩ := w10ₓ pₓ hp
    obtain ⟨-, -, -, -, -, b0, -⟩ := w11ₓ pₓ hp
    exact ⟨(le_cl b0 (by omega)).2, (le_cl b1 (by omega)).2, (le_cl b2 (by omega)).2, (le_cl b3 (by omega)).2, (bit_cl (T 0 10) (by omega)).2, (bit_cl (T 0 11) (by omega)).2⟩
  · obtain ⟨kₓ, k1ₓ, k2ₓ, k3ₓ⟩ := w12 pₓ hp
    show 1 ≤ (T 6 pₓ).toNatClampNeg
    rw [k3ₓ, nI_clamp (by omega)]
    exact k1ₓ
  · exact (w9.1 (5 * hₓ + cₓ) (by omega)).trans (hr hₓ cₓ hh hcₓ)
  · obtain ⟨a1ₓ, a2, a3, a5, a6, b1, b2, b3⟩ := w10ₓ pₓ hp
    obtain ⟨a0ₓ, -, -, -, -, b0, -⟩ := w11ₓ pₓ hp
    exact ⟨a0ₓ.trans (le_cl b0 (by omega)).1, a1ₓ.trans (le_cl b1 (by omega)).1, a2.trans (le_cl b2 (by omega)).1, a3.trans (le_cl b3 (by omega)).1, a5.trans (bit_cl (T 0 10) (by omega)).1, a6.trans (bit_cl (T 0 11) (by omega)).1⟩
  · obtain ⟨a1ₓ, a2, a3, a5, a6, b1, b2, b3⟩ := w10ₓ pₓ hp
    obtain ⟨a0ₓ, -, -, -, -, b0, -⟩ := w11ₓ pₓ hp
    exact ⟨(le_cl b0 (by omega)).1, (le_cl b1 (by omega)).1, (le_cl b2 (by omega)).1, (le_cl b3 (by omega)).1, (bit_cl (T 0 10) (by omega)).1, (bit_cl (T 0 11) (by omega)).1⟩
theorem has_V {Sₓ : Mem} {V : Vw} (hBₓ : VB V) (hₓ : XVw Sₓ V) {pₓ : Nat} (hp : pₓ < V.1) : fX6_has Sₓ (nI pₓ) (nI 0) = some (nI (V.2.2 pₓ 0), Sₓ) ∧ fX6_has Sₓ (nI pₓ) (nI 1) = some (nI (V.2.2 pₓ 1), Sₓ) ∧ fX6_has Sₓ (nI pₓ) (nI 2) = some (nI (V.2.2 pₓ 2), Sₓ) ∧ fX6_has Sₓ (nI pₓ) (nI 3) = some (nI (V.2.2 pₓ 3), Sₓ) ∧ fX6_has Sₓ (nI pₓ) (nI 5) = some (nI (V.2.2 pₓ 5), Sₓ) ∧ fX6_has Sₓ (nI pₓ) (nI 6) = some (nI (V.2.2 pₓ 6), Sₓ) := by
  have hn := hBₓ.1
  obtain ⟨a0ₓ, a1ₓ, a2, a3, a5, a6⟩ := hₓ.2.2 pₓ (by omega)
  rw [has_X Sₓ hn hₓ.1 hp (by omega), has_X Sₓ hn hₓ.1 hp (by omega), has_X Sₓ hn hₓ.1 hp (by omega), has_X Sₓ hn hₓ.1 hp (by omega), has_X Sₓ hn hₓ.1 hp (by omega), has_X Sₓ hn hₓ.1 hp (by omega), Nat.add_zero, a0ₓ, a1ₓ, a2, a3, a5, a6]
  exact ⟨rfl, rfl, rfl, rfl, rfl, rfl⟩
theorem inH_V {Sₓ : Mem} {V : Vw} (hₓ : XVw Sₓ V) {gₓ cₓ : Nat} (hg : gₓ < 12) (hcₓ : cₓ < 5) : fX6_inHour Sₓ (nI gₓ) (nI cₓ) = some (nI (V.2.1 gₓ cₓ), Sₓ) := by
  have eₓ := hₓ.2.1 gₓ cₓ hg hcₓ
  rw [Nat.mul_comm] at eₓ
  simp (disch := first | omega | assumption) only [fX6_inHour, eₓ, mset_ne, mset_same, upd_same, upd_ne, ltm_e, lti_e, bnd_e, fa_lit, nI_add, pk_mul, nI_clamp, gd_in, nlt0, nI_ltI, nI_leI, nI_eq, if_true, if_false, if_pos, if_neg]
/-! places -/
def sxN (wₓ : Nat) : Nat := [1, 2, 2, 2, 1, 0, 0, 0].getD wₓ 0
def syN (wₓ : Nat) : Nat := [0, 0, 1, 2, 2, 2, 1, 0].getD wₓ 0
/-- the place beside c; 25: none -/
def nx (cₓ wₓ : Nat) : Nat := if cₓ < 25 ∧ 1 ≤ cₓ % 5 + sxN wₓ ∧ cₓ % 5 + sxN wₓ ≤ 5 ∧ 1 ≤ cₓ / 5 + syN wₓ ∧ cₓ / 5 + syN wₓ ≤ 5 then 5 * (cₓ / 5 + syN wₓ - 1) + (cₓ % 5 + sxN wₓ - 1) else 25
def cb (cₓ : Nat) : Nat := if cₓ < 25 then 2 ^ cₓ else 0
def nxk : Nat → Nat → Nat → Nat
  | 0, _, cₓ => cₓ
  | kₓ + 1, wₓ, cₓ => nx (nxk kₓ wₓ cₓ) wₓ
def parA : Nat → Nat → Nat → Nat
  | 0, _, _ => 0
  | kₓ + 1, wₓ, cₓ => cb cₓ ||| parA kₓ wₓ (nx cₓ wₓ)
def bdy (wₓ pl gi : Nat) : Nat := cb (nx pl wₓ) ||| (if gi = 1 then 0 else cb (nx (nx pl wₓ) ((wₓ + 2) % 8)) ||| cb (nx (nx pl wₓ) ((wₓ + 6) % 8)))
def bodyₓ (ta gi alₓ wₓ pl : Nat) : Nat := if 5 ≤ ta ∧ alₓ ≤ (if gi = 3 then 3 else 2) then bdy wₓ pl gi else 0
def wy (sₓ rₓ : Nat) : Nat := (sₓ + 12 - rₓ) % 8
theorem nx_le (cₓ wₓ : Nat) : nx cₓ wₓ ≤ 25 := by
  unfold nx
  split
  · rename_i hₓ; omega
  · exact Nat.le_refl 25
theorem wy_lt (sₓ rₓ : Nat) : wy sₓ rₓ < 8 := Nat.mod_lt _ (by omega)
def baI (xₓ yₓ : Int32) : Int32 := if xₓ < 0 then 0 else if 5 ≤ xₓ then 0 else if yₓ < 0 then 0 else if yₓ < 5 then 1 <<< (((5 * yₓ) + xₓ) &&& 31) else 0
theorem ba_e (Sₓ : Mem) (xₓ yₓ : Int32) : fX7_bitAt Sₓ xₓ yₓ = some (baI xₓ yₓ, Sₓ) := by
  unfold fX7_bitAt baI
  by_cases h1 : xₓ < 0
  · rw [if_pos h1, if_pos h1]
  · rw [if_neg h1, if_neg h1]
    by_cases h2 : (5 : Int32) ≤ xₓ
    · rw [if_pos h2, if_pos h2]
    · rw [if_neg h2, if_neg h2]
      by_cases h3 : yₓ < 0
      · rw [if_pos h3, if_pos h3]
      · rw [if_neg h3, if_neg h3]
        by_cases h4 : yₓ < (5 : Int32)
        · rw [if_pos h4, if_pos h4]
        · rw [if_neg h4, if_neg h4]
theorem ba_k : ∀ iₓ, iₓ < 5 → ∀ pl, pl < 25 → ∀ wₓ, wₓ < 8 → baI (irem (nI pl) (nI 5) + nI iₓ * st_STEP_X.getD wₓ (nI 0)) (nI pl / nI 5 + nI iₓ * st_STEP_Y.getD wₓ (nI 0)) = nI (cb (nxk iₓ wₓ pl)) := by decide +kernel
theorem ba_0 : ∀ pl, pl < 25 → baI (irem (nI pl) (nI 5)) (nI pl / nI 5) = nI (cb pl) := by decide +kernel
theorem ba_1 : ∀ pl, pl < 25 → ∀ wₓ, wₓ < 8 → baI (irem (nI pl) (nI 5) + st_STEP_X.getD wₓ (nI 0)) (nI pl / nI 5 + st_STEP_Y.getD wₓ (nI 0)) = nI (cb (nx pl wₓ)) := by decide +kernel
theorem ba_2 : ∀ pl, pl < 25 → ∀ wₓ, wₓ < 8 → ∀ vₓ, vₓ < 8 → nx pl wₓ < 25 → baI (irem (nI pl) (nI 5) + st_STEP_X.getD wₓ (nI 0) + st_STEP_X.getD vₓ (nI 0)) (nI pl / nI 5 + st_STEP_Y.getD wₓ (nI 0) + st_STEP_Y.getD vₓ (nI 0)) = nI (cb (nx (nx pl wₓ) vₓ)) := by decide +kernel
theorem and7 : ∀ wₓ, wₓ < 16 → nI wₓ &&& nI 7 = nI (wₓ % 8) := by decide +kernel
theorem wy_X : ∀ sₓ, sₓ < 8 → ∀ rₓ, rₓ < 8 → (nI (sₓ + 4) - nI rₓ) &&& nI 7 = nI (wy sₓ rₓ) := by decide +kernel
theorem wy_M : ∀ sₓ, sₓ < 8 → ∀ rₓ, rₓ < 8 → irem (nI (sₓ + 12) - nI rₓ) (nI 8) = nI (wy sₓ rₓ) := by decide +kernel
theorem cb_pos {cₓ : Nat} (hₓ : cₓ < 25) : cb cₓ < 2 ^ 31 ∧ cb cₓ ≠ 0 := by
  exact (by decide +kernel : ∀ cₓ, cₓ < 25 → cb cₓ < 2 ^ 31 ∧ cb cₓ ≠ 0) cₓ hₓ
theorem cb_lt (cₓ : Nat) : cb cₓ < 2 ^ 31 := by
  by_cases hₓ : cₓ < 25
  · exact (cb_pos hₓ).1
  · unfold cb; rw [if_neg hₓ]; omega
theorem stepX_len : List.length st_STEP_X = 8 := rfl
theorem stepY_len : List.length st_STEP_Y = 8 := rfl
theorem way_X {Sₓ : Mem} {V : Vw} (hBₓ : VB V) (hₓ : XVw Sₓ V) {gₓ rₓ : Nat} (hg : gₓ < 12) (hr : rₓ < 8) : fX6_wayOfShade Sₓ (nI gₓ) (nI rₓ) = some (nI (wy (V.2.1 gₓ 0) rₓ), Sₓ) := by
  have eₓ := inH_V hₓ hg (show 0 < 5 by omega)
  have wₓ := wy_X (V.2.1 gₓ 0) (by have := (hBₓ.2.1 gₓ hg).1; omega) rₓ hr
  simp only [fX6_wayOfShade, fa_lit, eₓ, bnd_e, nI_add, wₓ]
theorem body_X {Sₓ : Mem} {V : Vw} (hBₓ : VB V) (hₓ : XVw Sₓ V) {pₓ gₓ wₓ : Nat} (hp : pₓ < V.1) (hg : gₓ < 12) (hw : wₓ < 8) : fX6_bodyShade Sₓ (nI pₓ) (nI gₓ) (nI wₓ) = some (nI (bodyₓ (V.2.2 pₓ 1) (V.2.2 pₓ 2) (V.2.1 gₓ 1) wₓ (V.2.2 pₓ 0)), Sₓ) := by
  obtain ⟨e0ₓ, e1ₓ, e2ₓ, e3ₓ, e5ₓ, e6ₓ⟩ := has_V hBₓ hₓ hp
  have ea := inH_V hₓ hg (show 1 < 5 by omega)
  obtain ⟨b0, b1, b2, b3, b5, b6⟩ := hBₓ.2.2.1 pₓ (by have := hBₓ.1; omega)
  have bg := hBₓ.2.2.2 pₓ hp
  have baₓ := (hBₓ.2.1 gₓ hg).2.1
  generalize V.2.2 pₓ 0 = pl at *
  generalize V.2.2 pₓ 1 = ta at *
  generalize V.2.2 pₓ 2 = gi at *
  generalize V.2.1 gₓ 1 = alₓ at *
  have k1ₓ := ba_1 pl (by omega) wₓ hw
  have k2ₓ := ba_2 pl (by omega) wₓ hw ((wₓ + 2) % 8) (by omega)
  have k6ₓ := ba_2 pl (by omega) wₓ hw ((wₓ + 6) % 8) (by omega)
  have a2 := and7 (wₓ + 2) (by omega)
  have a6 := and7 (wₓ + 6) (by omega)
  have hlt := cb_lt (nx pl wₓ)
  have hnx := nx_le pl wₓ
  clear hₓ hBₓ e3ₓ e5ₓ e6ₓ
  have keyₓ : ∀ sₓ : Nat, sₓ < 4 → fX6_bodyShade_19 Sₓ (nI pₓ) (nI gₓ) (nI wₓ) (nI gi) (nI sₓ) = some (nI (if 5 ≤ ta ∧ alₓ ≤ sₓ then bdy wₓ pl gi else 0), Sₓ) := by
    intro sₓ hs
    by_cases c1ₓ : ta < 5
    · rw [if_neg (show ¬ (5 ≤ ta ∧ alₓ ≤ sₓ) by omega)]
      simp (disch := first | omega | assumption) only [fX6_bodyShade_19, e1ₓ, mset_ne, mset_same, upd_same, upd_ne, ltm_e, lti_e, bnd_e, fa_lit, nI_add, pk_mul, nI_clamp, gd_in, nlt0, nI_ltI, nI_leI, nI_eq, if_true, if_false, if_pos, if_neg]
    · by_cases c2ₓ : alₓ ≤ sₓ
      · rw [if_pos (show 5 ≤ ta ∧ alₓ ≤ sₓ by omega)]
        by_cases c3ₓ : nx pl wₓ < 25
        · have c4ₓ := (cb_pos c3ₓ).2
          by_cases c5ₓ : gi = 1
          · subst c5ₓ
            simp (disch := first | omega | assumption) only [fX6_bodyShade_19, e0ₓ, e1ₓ, ea, stepX_len, stepY_len, ba_e, k1ₓ, bdy, Nat.or_zero, mset_ne, mset_same, upd_same, upd_ne, ltm_e, lti_e, bnd_e, fa_lit, nI_add, pk_mul, nI_clamp, gd_in, nlt0, nI_ltI, nI_leI, nI_eq, if_true, if_false, if_pos, if_neg]
          · simp (disch := first | omega | assumption) only [fX6_bodyShade_19, e0ₓ, e1ₓ, ea, stepX_len, stepY_len, ba_e, k1ₓ, a2, a6, k2ₓ c3ₓ, k6ₓ c3ₓ, nI_or, bdy, Nat.or_assoc, mset_ne, mset_same, upd_same, upd_ne, ltm_e, lti_e, bnd_e, fa_lit, nI_add, pk_mul, nI_clamp, gd_in, nlt0, nI_ltI, nI_leI, nI_eq, if_true, if_false, if_pos, if_neg]
        · have c4ₓ : nx pl wₓ = 25 := by omega
          have c5ₓ : ∀ vₓ, nx 25 vₓ = 25 := fun vₓ => by unfold nx; rw [if_neg (by omega)]
          have c6ₓ : cb 25 = 0 := rfl
          rw [c4ₓ, c6ₓ] at k1ₓ
          simp (disch := first | omega | assumption) only [fX6_bodyShade_19, e0ₓ, e1ₓ, ea, stepX_len, stepY_len, ba_e, k1ₓ, bdy, c4ₓ, c5ₓ, c6ₓ, Nat.or_zero, ite_self, mset_ne, mset_same, upd_same, upd_ne, ltm_e, lti_e, bnd_e, fa_lit, nI_add, pk_mul, nI_clamp, gd_in, nlt0, nI_ltI, nI_leI, nI_eq, if_true, if_false, if_pos, if_neg]
      · rw [if_neg (show ¬ (5 ≤ ta ∧ alₓ ≤ sₓ) by omega)]
        simp (disch := first | omega | assumption) only [fX6_bodyShade_19, e1ₓ, ea, mset_ne, mset_same, upd_same, upd_ne, ltm_e, lti_e, bnd_e, fa_lit, nI_add, pk_mul, nI_clamp, gd_in, nlt0, nI_ltI, nI_leI, nI_eq, if_true, if_false, if_pos, if_neg]
  by_cases c0ₓ : gi = 3
  · have := keyₓ 3 (by omega)
    subst c0ₓ
    simp (disch := first | omega | assumption) only [fX6_bodyShade, e2ₓ, this, bodyₓ, mset_ne, mset_same, upd_same, upd_ne, ltm_e, lti_e, bnd_e, fa_lit, nI_add, pk_mul, nI_clamp, gd_in, nlt0, nI_ltI, nI_leI, nI_eq, if_true, if_false, if_pos, if_neg]
  · have := keyₓ 2 (by omega)
    simp (disch := first | omega | assumption) only [fX6_bodyShade, e2ₓ, this, bodyₓ, mset_ne, mset_same, upd_same, upd_ne, ltm_e, lti_e, bnd_e, fa_lit, nI_add, pk_mul, nI_clamp, gd_in, nlt0, nI_ltI, nI_leI, nI_eq, if_true, if_false, if_pos, if_neg]
theorem par_X {Sₓ : Mem} {V : Vw} (hBₓ : VB V) (hₓ : XVw Sₓ V) {pₓ gₓ wₓ : Nat} (hp : pₓ < V.1) (hg : gₓ < 12) (hw : wₓ < 8) : fX6_parasolShade Sₓ (nI pₓ) (nI gₓ) (nI wₓ) = some (nI (parA (5 - V.2.1 gₓ 1) wₓ (V.2.2 pₓ 0)), Sₓ) := by
  obtain ⟨e0ₓ, e1ₓ, e2ₓ, e3ₓ, e5ₓ, e6ₓ⟩ := has_V hBₓ hₓ hp
  have ea := inH_V hₓ hg (show 1 < 5 by omega)
  obtain ⟨b0, -⟩ := hBₓ.2.2.1 pₓ (by have := hBₓ.1; omega)
  have baₓ := (hBₓ.2.1 gₓ hg).2.1
  generalize V.2.2 pₓ 0 = pl at *
  generalize V.2.1 gₓ 1 = alₓ at *
  clear hₓ hBₓ e1ₓ e2ₓ e3ₓ e5ₓ e6ₓ
  have keyₓ : ∀ (kₓ iₓ fₓ aₓ : Nat), iₓ + kₓ = 5 - alₓ → 0 < iₓ → kₓ < fₓ → fX6_parasolShade_54 fₓ Sₓ (nI wₓ) (irem (nI pl) (nI 5)) (nI pl / nI 5) (nI aₓ) (nI (4 - alₓ)) (nI iₓ) = some (nI (aₓ ||| parA kₓ wₓ (nxk iₓ wₓ pl)), Sₓ) := by
    intro kₓ
    induction kₓ with
    | zero =>
      intro iₓ fₓ aₓ hiₓ h0 hf
      obtain ⟨fₓ, rfl⟩ : ∃ gₓ, fₓ = gₓ + 1 := ⟨fₓ - 1, by omega⟩
      show fX6_parasolShade_54_b (fX6_parasolShade_54 fₓ) Sₓ (nI wₓ) (irem (nI pl) (nI 5)) (nI pl / nI 5) (nI aₓ) (nI (4 - alₓ)) (nI iₓ) = _
      simp (disch := first | omega | assumption) only [fX6_parasolShade_54_b, parA, Nat.or_zero, mset_ne, mset_same, upd_same, upd_ne, ltm_e, lti_e, bnd_e, fa_lit, nI_add, pk_mul, nI_clamp, gd_in, nlt0, nI_ltI, nI_leI, nI_eq, if_true, if_false, if_pos, if_neg]
    | succ kₓ ihₓ =>
      intro iₓ fₓ aₓ hiₓ h0 hf
      obtain ⟨fₓ, rfl⟩ : ∃ gₓ, fₓ = gₓ + 1 := ⟨fₓ - 1, by omega⟩
      show fX6_parasolShade_54_b (fX6_parasolShade_54 fₓ) Sₓ (nI wₓ) (irem (nI pl) (nI 5)) (nI pl / nI 5) (nI aₓ) (nI (4 - alₓ)) (nI iₓ) = _
      have hk := ba_k iₓ (by omega) pl (by omega) wₓ hw
      simp (disch := first | omega | assumption) only [fX6_parasolShade_54_b, stepX_len, stepY_len, ba_e, hk, nI_or, ihₓ (iₓ + 1) fₓ (aₓ ||| cb (nxk iₓ wₓ pl)) (by omega) (by omega) (by omega), parA, nxk, Nat.or_assoc, mset_ne, mset_same, upd_same, upd_ne, ltm_e, lti_e, bnd_e, fa_lit, nI_add, pk_mul, nI_clamp, gd_in, nlt0, nI_ltI, nI_leI, nI_eq, if_true, if_false, if_pos, if_neg]
  have h0 := ba_0 pl (by omega)
  have hl := keyₓ (4 - alₓ) 1 FU (cb pl) (by omega) (by omega) (by unfold FU; omega)
  have eₓ : 5 - alₓ = (4 - alₓ) + 1 := by omega
  rw [eₓ]
  simp (disch := first | omega | assumption) only [fX6_parasolShade, e0ₓ, ba_e, h0, ea, pk_sub, hl, parA, nxk, mset_ne, mset_same, upd_same, upd_ne, ltm_e, lti_e, bnd_e, fa_lit, nI_add, pk_mul, nI_clamp, gd_in, nlt0, nI_ltI, nI_leI, nI_eq, if_true, if_false, if_pos, if_neg]
/-- what p shades: all: by being tall; b: by a parasol -/
def gs (V : Vw) (hₓ rₓ : Nat) (sbₓ : Nat → Bool) (all : Bool) (pₓ : Nat) : Nat := (if sbₓ pₓ = true then parA (5 - V.2.1 hₓ 1) (wy (V.2.1 hₓ 0) rₓ) (V.2.2 pₓ 0) else 0) ||| (if all = true then bodyₓ (V.2.2 pₓ 1) (V.2.2 pₓ 2) (V.2.1 hₓ 1) (wy (V.2.1 hₓ 0) rₓ) (V.2.2 pₓ 0) else 0)
def pb (V : Vw) (pₓ : Nat) : Bool := decide (V.2.2 pₓ 5 = 1)
def shLₓ (fₓ : Nat → Nat) (bₓ : Nat) : Nat → Nat → Nat → Nat
  | 0, _, aₓ => aₓ
  | kₓ + 1, iₓ, aₓ => shLₓ fₓ bₓ kₓ (iₓ + 1) (if iₓ = bₓ then aₓ else aₓ ||| fₓ iₓ)
theorem shL_bit (fₓ : Nat → Nat) (bₓ cₓ : Nat) : ∀ kₓ iₓ aₓ, (shLₓ fₓ bₓ kₓ iₓ aₓ).testBit cₓ = true ↔ aₓ.testBit cₓ = true ∨ ∃ jₓ, iₓ ≤ jₓ ∧ jₓ < iₓ + kₓ ∧ jₓ ≠ bₓ ∧ (fₓ jₓ).testBit cₓ = true := by
  intro kₓ
  induction kₓ with
  | zero =>
    intro iₓ aₓ
    exact ⟨Or.inl, fun hₓ => hₓ.elim id (fun ⟨jₓ, h1, h2, _⟩ => absurd h2 (by omega))⟩
  | succ kₓ ihₓ =>
    intro iₓ aₓ
    rw [shLₓ, ihₓ]
    constructor
    · rintro (hₓ | ⟨jₓ, h1, h2, h3, h4⟩)
      · by_cases eₓ : iₓ = bₓ
        · rw [if_pos eₓ] at hₓ; exact Or.inl hₓ
        · rw [if_neg eₓ, Nat.testBit_or, Bool.or_eq_true] at hₓ
          exact hₓ.elim Or.inl (fun qₓ => Or.inr ⟨iₓ, Nat.le_refl iₓ, by omega, eₓ, qₓ⟩)
      · exact Or.inr ⟨jₓ, by omega, by omega, h3, h4⟩
    · rintro (hₓ | ⟨jₓ, h1, h2, h3, h4⟩)
      · left
        by_cases eₓ : iₓ = bₓ
        · rw [if_pos eₓ]; exact hₓ
        · rw [if_neg eₓ, Nat.testBit_or, hₓ, Bool.true_or]
      · by_cases eₓ : jₓ = iₓ
        · subst eₓ
          left
          rw [if_neg h3, Nat.testBit_or, h4, Bool.or_true]
        · exact Or.inr ⟨jₓ, by omega, by omega, h3, h4⟩
theorem shade_X {Sₓ : Mem} {V : Vw} (hBₓ : VB V) (hₓ : XVw Sₓ V) {gₓ rₓ bₓ : Nat} (hg : gₓ < 12) (hr : rₓ < 8) {xₓ : Int32} (hx : ∀ iₓ, iₓ < 10 → (nI iₓ = xₓ ↔ iₓ = bₓ)) : fX6_shadeIn Sₓ (nI gₓ) (nI rₓ) xₓ = some (nI (shLₓ (gs V gₓ rₓ (pb V) true) bₓ V.1 0 0), Sₓ) := by
  have hw := wy_lt (V.2.1 gₓ 0) rₓ
  have keyₓ : ∀ (kₓ iₓ fₓ aₓ : Nat), iₓ + kₓ = V.1 → kₓ < fₓ → fX6_shadeIn_14 fₓ Sₓ (nI gₓ) xₓ (nI (wy (V.2.1 gₓ 0) rₓ)) (nI aₓ) (nI iₓ) = some (nI (shLₓ (gs V gₓ rₓ (pb V) true) bₓ kₓ iₓ aₓ), Sₓ) := by
    intro kₓ
    induction kₓ with
    | zero =>
      intro iₓ fₓ aₓ hiₓ hf
      obtain ⟨fₓ, rfl⟩ : ∃ gₓ, fₓ = gₓ + 1 := ⟨fₓ - 1, by omega⟩
      show fX6_shadeIn_14_b (fX6_shadeIn_14 fₓ) Sₓ (nI gₓ) xₓ (nI (wy (V.2.1 gₓ 0) rₓ)) (nI aₓ) (nI iₓ) = _
      have hn := hBₓ.1
      have e1ₓ := hₓ.1
      simp (disch := first | omega | assumption) only [fX6_shadeIn_14_b, e1ₓ, shLₓ, mset_ne, mset_same, upd_same, upd_ne, ltm_e, lti_e, bnd_e, fa_lit, nI_add, pk_mul, nI_clamp, gd_in, nlt0, nI_ltI, nI_leI, nI_eq, if_true, if_false, if_pos, if_neg]
    | succ kₓ ihₓ =>
      intro iₓ fₓ aₓ hiₓ hf
      obtain ⟨fₓ, rfl⟩ : ∃ gₓ, fₓ = gₓ + 1 := ⟨fₓ - 1, by omega⟩
      show fX6_shadeIn_14_b (fX6_shadeIn_14 fₓ) Sₓ (nI gₓ) xₓ (nI (wy (V.2.1 gₓ 0) rₓ)) (nI aₓ) (nI iₓ) = _
      have hn := hBₓ.1
      have e1ₓ := hₓ.1
      have hp : iₓ < V.1 := by omega
      by_cases eₓ : iₓ = bₓ
      · have e' : nI iₓ = xₓ := (hx iₓ (by omega)).2 eₓ
        rw [shLₓ, if_pos eₓ, ← ihₓ (iₓ + 1) fₓ aₓ (by omega) (by omega)]
        unfold fX6_shadeIn_14_b
        rw [e1ₓ, if_neg (by rw [nI_leI (by omega) (by omega)]; omega), if_pos e']
        simp only [fX6_shadeIn_71, fa_lit, nI_add]
      · have e' : ¬ nI iₓ = xₓ := fun qₓ => eₓ ((hx iₓ (by omega)).1 qₓ)
        obtain ⟨-, -, -, -, e5ₓ, -⟩ := has_V hBₓ hₓ hp
        have eb := body_X hBₓ hₓ hp hg hw
        have ep := par_X hBₓ hₓ hp hg hw
        by_cases cₓ : V.2.2 iₓ 5 = 1
        · have hs : gs V gₓ rₓ (pb V) true iₓ = parA (5 - V.2.1 gₓ 1) (wy (V.2.1 gₓ 0) rₓ) (V.2.2 iₓ 0) ||| bodyₓ (V.2.2 iₓ 1) (V.2.2 iₓ 2) (V.2.1 gₓ 1) (wy (V.2.1 gₓ 0) rₓ) (V.2.2 iₓ 0) := by
            unfold gs pb; rw [if_pos (by simp [cₓ]), if_pos rfl]
          rw [cₓ] at e5ₓ
          rw [shLₓ, if_neg eₓ, hs, Nat.or_comm (parA _ _ _), ← Nat.or_assoc, ← ihₓ (iₓ + 1) fₓ _ (by omega) (by omega)]
          unfold fX6_shadeIn_14_b
          rw [e1ₓ, if_neg (by rw [nI_leI (by omega) (by omega)]; omega), if_neg e']
          simp only [fX6_shadeIn_71, fa_lit, nI_add, eb, bnd_e, lti_e, nI_or, e5ₓ, ep, if_true]
        · have hs : gs V gₓ rₓ (pb V) true iₓ = bodyₓ (V.2.2 iₓ 1) (V.2.2 iₓ 2) (V.2.1 gₓ 1) (wy (V.2.1 gₓ 0) rₓ) (V.2.2 iₓ 0) := by
            unfold gs pb; rw [if_neg (by simp [cₓ]), if_pos rfl, Nat.zero_or]
          have c1ₓ : ¬ nI (V.2.2 iₓ 5) = nI 1 := by
            have := (hBₓ.2.2.1 iₓ (by omega)).2.2.2.2.1
            rw [nI_eq (by omega) (by omega)]; exact cₓ
          rw [shLₓ, if_neg eₓ, hs, ← ihₓ (iₓ + 1) fₓ _ (by omega) (by omega)]
          unfold fX6_shadeIn_14_b
          rw [e1ₓ, if_neg (by rw [nI_leI (by omega) (by omega)]; omega), if_neg e']
          simp only [fX6_shadeIn_71, fa_lit, nI_add, eb, bnd_e, lti_e, nI_or, e5ₓ, c1ₓ, if_false]
  unfold fX6_shadeIn
  rw [way_X hBₓ hₓ hg hr, bnd_e]
  exact keyₓ V.1 0 FU 0 (by omega) (by unfold FU; have := hBₓ.1; omega)
