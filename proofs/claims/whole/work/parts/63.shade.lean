/-! shade: what a person shades, as masks of places; both sides find the same -/
theorem mput_id (T : Mem) (k : Nat) : mput T k (T k) = T := by
  funext a
  by_cases h : a = k
  · subst h; rw [mput_same]
  · rw [mput_ne _ _ h]
theorem mput_mput (T : Mem) (k : Nat) (f g : Nat → Int32) : mput (mput T k f) k g = mput T k g := by
  funext a
  by_cases h : a = k
  · subst h; rw [mput_same, mput_same]
  · rw [mput_ne _ _ h, mput_ne _ _ h, mput_ne _ _ h]
theorem bt_nI (m : Nat) {i : Nat} (hi : i < 32) : bt (nI m) i = m.testBit i := by
  show (BitVec.ofNat 32 m).getLsbD i = _
  rw [BitVec.getLsbD_ofNat]
  simp [hi]
theorem nI_or (a b : Nat) : nI a ||| nI b = nI (a ||| b) := by
  refine b_ext (fun i hi => ?_)
  rw [b_or, bt_nI _ hi, bt_nI _ hi, bt_nI _ hi, Nat.testBit_or]
theorem bitI_nI (m : Nat) {c : Nat} (hc : c < 32) : bitI (nI m) c = if m.testBit c = true then 1 else 0 := by
  rw [bitI_eq _ hc, bt_nI _ hc]
theorem eq0_iff (x : Int32) : x = 0 ↔ ∀ i, i < 32 → bt x i = false := by
  constructor
  · intro h i _; rw [h, b_0]
  · intro h; exact b_ext (fun i hi => by rw [h i hi, b_0])
/-- the view: how many; hours by columns; pilgrims by columns 0 PLACE 1 TALL 2 GIRTH 3 SKIN 5 PARASOL 6 HAT -/
abbrev Vw : Type := Nat × (Nat → Nat → Nat) × (Nat → Nat → Nat)
def VB (V : Vw) : Prop := V.1 ≤ 10 ∧ (∀ h, h < 12 → V.2.1 h 0 ≤ 7 ∧ V.2.1 h 1 ≤ 4 ∧ V.2.1 h 2 ≤ 9 ∧ V.2.1 h 3 ≤ 7 ∧ V.2.1 h 4 ≤ 10) ∧ (∀ p, p < 10 → V.2.2 p 0 ≤ 24 ∧ V.2.2 p 1 ≤ 9 ∧ V.2.2 p 2 ≤ 3 ∧ V.2.2 p 3 ≤ 9 ∧ V.2.2 p 5 ≤ 1 ∧ V.2.2 p 6 ≤ 1) ∧ ∀ p, p < V.1 → 1 ≤ V.2.2 p 2
def XV (S : Mem) (V : Vw) : Prop := S 1 9 = nI V.1 ∧ (∀ h c, h < 12 → c < 5 → S 2 (5 * h + c) = nI (V.2.1 h c)) ∧ ∀ p, p < 10 → S 3 (10 * p) = nI (V.2.2 p 0) ∧ S 3 (10 * p + 1) = nI (V.2.2 p 1) ∧ S 3 (10 * p + 2) = nI (V.2.2 p 2) ∧ S 3 (10 * p + 3) = nI (V.2.2 p 3) ∧ S 3 (10 * p + 5) = nI (V.2.2 p 5) ∧ S 3 (10 * p + 6) = nI (V.2.2 p 6)
def MV (T : Mem) (V : Vw) : Prop := T 0 6 = nI V.1 ∧ (∀ h c, h < 12 → c < 5 → T 3 (5 * h + c) = nI (V.2.1 h c)) ∧ ∀ p, p < 10 → T 1 (5 + p) = nI (V.2.2 p 0) ∧ T 5 p = nI (V.2.2 p 1) ∧ T 6 p = nI (V.2.2 p 2) ∧ T 7 p = nI (V.2.2 p 3) ∧ bitI (T 0 10) p = nI (V.2.2 p 5) ∧ bitI (T 0 11) p = nI (V.2.2 p 6)
theorem MV.m {T : Mem} {V : Vw} (h : MV T V) (k : Nat) (hk : 20 < k) (f : Nat → Int32) : MV (mput T k f) V := by
  unfold MV at h ⊢
  rw [mput_ne _ _ (show 0 ≠ k by omega), mput_ne _ _ (show 3 ≠ k by omega), mput_ne _ _ (show 1 ≠ k by omega), mput_ne _ _ (show 5 ≠ k by omega), mput_ne _ _ (show 6 ≠ k by omega), mput_ne _ _ (show 7 ≠ k by omega)]
  exact h
theorem XV.m {S : Mem} {V : Vw} (h : XV S V) (k : Nat) (hk : 20 < k) (f : Nat → Int32) : XV (mput S k f) V := by
  unfold XV at h ⊢
  rw [mput_ne _ _ (show 1 ≠ k by omega), mput_ne _ _ (show 2 ≠ k by omega), mput_ne _ _ (show 3 ≠ k by omega)]
  exact h
theorem le_cl {v : Int32} {b : Nat} (h : le32 v b) (hb : b < 2 ^ 31) : v = nI v.toNatClampNeg ∧ v.toNatClampNeg ≤ b := by
  obtain ⟨k, hk, rfl⟩ := h
  rw [nI_clamp (by omega)]
  exact ⟨rfl, hk⟩
theorem bit_cl (x : Int32) {p : Nat} (hp : p < 32) : bitI x p = nI (if bt x p = true then 1 else 0) ∧ (if bt x p = true then 1 else 0) ≤ 1 := by
  rw [bitI_eq x hp]
  by_cases h : bt x p = true
  · rw [if_pos h, if_pos h]; exact ⟨rfl, Nat.le_refl 1⟩
  · rw [if_neg h, if_neg h]; exact ⟨rfl, Nat.zero_le 1⟩
def vw (n : Nat) (T : Mem) : Vw := (n, fun h c => (T 3 (5 * h + c)).toNatClampNeg, fun p c => match c with
  | 0 => (T 1 (5 + p)).toNatClampNeg
  | 1 => (T 5 p).toNatClampNeg
  | 2 => (T 6 p).toNatClampNeg
  | 3 => (T 7 p).toNatClampNeg
  | 5 => if bt (T 0 10) p = true then 1 else 0
  | _ => if bt (T 0 11) p = true then 1 else 0)
theorem RWn.vw {n d t pr re bl : Nat} {S T : Mem} (h : RWn n d t pr re bl (sl S 1) T) : VB (vw n T) ∧ XV S (vw n T) ∧ MV T (vw n T) := by
  obtain ⟨w0, w1, w2, w3, w4, w5, w6, w7, w8, w9, w10, w11, w12, w13, w14, w15, w16⟩ := h
  have hr : ∀ h c, h < 12 → c < 5 → T 3 (5 * h + c) = nI (T 3 (5 * h + c)).toNatClampNeg := by
    intro h c hh hc
    obtain ⟨a0, a1, a2, a3, a4⟩ := w9.2 h hh
    obtain rfl | rfl | rfl | rfl | rfl : c = 0 ∨ c = 1 ∨ c = 2 ∨ c = 3 ∨ c = 4 := by omega
    · exact (le_cl a0 (by omega)).1
    · exact (le_cl a1 (by omega)).1
    · exact (le_cl a2 (by omega)).1
    · exact (le_cl a3 (by omega)).1
    · exact (le_cl a4 (by omega)).1
  refine ⟨⟨w0.1, fun h hh => ?_, fun p hp => ?_, fun p hp => ?_⟩, ⟨w1.1, fun h c hh hc => ?_, fun p hp => ?_⟩, ⟨w1.2, hr, fun p hp => ?_⟩⟩
  · obtain ⟨a0, a1, a2, a3, a4⟩ := w9.2 h hh
    exact ⟨(le_cl a0 (by omega)).2, (le_cl a1 (by omega)).2, (le_cl a2 (by omega)).2, (le_cl a3 (by omega)).2, (le_cl a4 (by omega)).2⟩
  · obtain ⟨-, -, -, -, -, b1, b2, b3⟩ := w10 p hp
    obtain ⟨-, -, -, -, -, b0, -⟩ := w11 p hp
    exact ⟨(le_cl b0 (by omega)).2, (le_cl b1 (by omega)).2, (le_cl b2 (by omega)).2, (le_cl b3 (by omega)).2, (bit_cl (T 0 10) (by omega)).2, (bit_cl (T 0 11) (by omega)).2⟩
  · obtain ⟨k, k1, k2, k3⟩ := w12 p hp
    show 1 ≤ (T 6 p).toNatClampNeg
    rw [k3, nI_clamp (by omega)]
    exact k1
  · exact (w9.1 (5 * h + c) (by omega)).trans (hr h c hh hc)
  · obtain ⟨a1, a2, a3, a5, a6, b1, b2, b3⟩ := w10 p hp
    obtain ⟨a0, -, -, -, -, b0, -⟩ := w11 p hp
    exact ⟨a0.trans (le_cl b0 (by omega)).1, a1.trans (le_cl b1 (by omega)).1, a2.trans (le_cl b2 (by omega)).1, a3.trans (le_cl b3 (by omega)).1, a5.trans (bit_cl (T 0 10) (by omega)).1, a6.trans (bit_cl (T 0 11) (by omega)).1⟩
  · obtain ⟨a1, a2, a3, a5, a6, b1, b2, b3⟩ := w10 p hp
    obtain ⟨a0, -, -, -, -, b0, -⟩ := w11 p hp
    exact ⟨(le_cl b0 (by omega)).1, (le_cl b1 (by omega)).1, (le_cl b2 (by omega)).1, (le_cl b3 (by omega)).1, (bit_cl (T 0 10) (by omega)).1, (bit_cl (T 0 11) (by omega)).1⟩
theorem has_V {S : Mem} {V : Vw} (hB : VB V) (h : XV S V) {p : Nat} (hp : p < V.1) : fX6_has S (nI p) (nI 0) = some (nI (V.2.2 p 0), S) ∧ fX6_has S (nI p) (nI 1) = some (nI (V.2.2 p 1), S) ∧ fX6_has S (nI p) (nI 2) = some (nI (V.2.2 p 2), S) ∧ fX6_has S (nI p) (nI 3) = some (nI (V.2.2 p 3), S) ∧ fX6_has S (nI p) (nI 5) = some (nI (V.2.2 p 5), S) ∧ fX6_has S (nI p) (nI 6) = some (nI (V.2.2 p 6), S) := by
  have hn := hB.1
  obtain ⟨a0, a1, a2, a3, a5, a6⟩ := h.2.2 p (by omega)
  rw [has_X S hn h.1 hp (by omega), has_X S hn h.1 hp (by omega), has_X S hn h.1 hp (by omega), has_X S hn h.1 hp (by omega), has_X S hn h.1 hp (by omega), has_X S hn h.1 hp (by omega), Nat.add_zero, a0, a1, a2, a3, a5, a6]
  exact ⟨rfl, rfl, rfl, rfl, rfl, rfl⟩
theorem inH_V {S : Mem} {V : Vw} (h : XV S V) {g c : Nat} (hg : g < 12) (hc : c < 5) : fX6_inHour S (nI g) (nI c) = some (nI (V.2.1 g c), S) := by
  have e := h.2.1 g c hg hc
  rw [Nat.mul_comm] at e
  simp (disch := first | omega | assumption) only [fX6_inHour, e, mset_ne, mset_same, upd_same, upd_ne, ltm_e, lti_e, bnd_e, fa_lit, nI_add, pk_mul, nI_clamp, gd_in, nlt0, nI_ltI, nI_leI, nI_eq, if_true, if_false, if_pos, if_neg]
/-! places -/
def sxN (w : Nat) : Nat := [1, 2, 2, 2, 1, 0, 0, 0].getD w 0
def syN (w : Nat) : Nat := [0, 0, 1, 2, 2, 2, 1, 0].getD w 0
/-- the place beside c; 25: none -/
def nx (c w : Nat) : Nat := if c < 25 ∧ 1 ≤ c % 5 + sxN w ∧ c % 5 + sxN w ≤ 5 ∧ 1 ≤ c / 5 + syN w ∧ c / 5 + syN w ≤ 5 then 5 * (c / 5 + syN w - 1) + (c % 5 + sxN w - 1) else 25
def cb (c : Nat) : Nat := if c < 25 then 2 ^ c else 0
def nxk : Nat → Nat → Nat → Nat
  | 0, _, c => c
  | k + 1, w, c => nx (nxk k w c) w
def parA : Nat → Nat → Nat → Nat
  | 0, _, _ => 0
  | k + 1, w, c => cb c ||| parA k w (nx c w)
def bdy (w pl gi : Nat) : Nat := cb (nx pl w) ||| (if gi = 1 then 0 else cb (nx (nx pl w) ((w + 2) % 8)) ||| cb (nx (nx pl w) ((w + 6) % 8)))
def body (ta gi al w pl : Nat) : Nat := if 5 ≤ ta ∧ al ≤ (if gi = 3 then 3 else 2) then bdy w pl gi else 0
def wy (s r : Nat) : Nat := (s + 12 - r) % 8
theorem nx_le (c w : Nat) : nx c w ≤ 25 := by
  unfold nx
  split
  · rename_i h; omega
  · exact Nat.le_refl 25
theorem wy_lt (s r : Nat) : wy s r < 8 := Nat.mod_lt _ (by omega)
def baI (x y : Int32) : Int32 := if x < 0 then 0 else if 5 ≤ x then 0 else if y < 0 then 0 else if y < 5 then 1 <<< (((5 * y) + x) &&& 31) else 0
theorem ba_e (S : Mem) (x y : Int32) : fX7_bitAt S x y = some (baI x y, S) := by
  unfold fX7_bitAt baI
  by_cases h1 : x < 0
  · rw [if_pos h1, if_pos h1]
  · rw [if_neg h1, if_neg h1]
    by_cases h2 : (5 : Int32) ≤ x
    · rw [if_pos h2, if_pos h2]
    · rw [if_neg h2, if_neg h2]
      by_cases h3 : y < 0
      · rw [if_pos h3, if_pos h3]
      · rw [if_neg h3, if_neg h3]
        by_cases h4 : y < (5 : Int32)
        · rw [if_pos h4, if_pos h4]
        · rw [if_neg h4, if_neg h4]
theorem ba_k : ∀ i, i < 5 → ∀ pl, pl < 25 → ∀ w, w < 8 → baI (irem (nI pl) (nI 5) + nI i * st_STEP_X.getD w (nI 0)) (nI pl / nI 5 + nI i * st_STEP_Y.getD w (nI 0)) = nI (cb (nxk i w pl)) := by decide +kernel
theorem ba_0 : ∀ pl, pl < 25 → baI (irem (nI pl) (nI 5)) (nI pl / nI 5) = nI (cb pl) := by decide +kernel
theorem ba_1 : ∀ pl, pl < 25 → ∀ w, w < 8 → baI (irem (nI pl) (nI 5) + st_STEP_X.getD w (nI 0)) (nI pl / nI 5 + st_STEP_Y.getD w (nI 0)) = nI (cb (nx pl w)) := by decide +kernel
theorem ba_2 : ∀ pl, pl < 25 → ∀ w, w < 8 → ∀ v, v < 8 → nx pl w < 25 → baI (irem (nI pl) (nI 5) + st_STEP_X.getD w (nI 0) + st_STEP_X.getD v (nI 0)) (nI pl / nI 5 + st_STEP_Y.getD w (nI 0) + st_STEP_Y.getD v (nI 0)) = nI (cb (nx (nx pl w) v)) := by decide +kernel
theorem and7 : ∀ w, w < 16 → nI w &&& nI 7 = nI (w % 8) := by decide +kernel
theorem wy_X : ∀ s, s < 8 → ∀ r, r < 8 → (nI (s + 4) - nI r) &&& nI 7 = nI (wy s r) := by decide +kernel
theorem wy_M : ∀ s, s < 8 → ∀ r, r < 8 → irem (nI (s + 12) - nI r) (nI 8) = nI (wy s r) := by decide +kernel
theorem cb_pos {c : Nat} (h : c < 25) : cb c < 2 ^ 31 ∧ cb c ≠ 0 := by
  exact (by decide +kernel : ∀ c, c < 25 → cb c < 2 ^ 31 ∧ cb c ≠ 0) c h
theorem cb_lt (c : Nat) : cb c < 2 ^ 31 := by
  by_cases h : c < 25
  · exact (cb_pos h).1
  · unfold cb; rw [if_neg h]; omega
theorem stepX_len : List.length st_STEP_X = 8 := rfl
theorem stepY_len : List.length st_STEP_Y = 8 := rfl
theorem way_X {S : Mem} {V : Vw} (hB : VB V) (h : XV S V) {g r : Nat} (hg : g < 12) (hr : r < 8) : fX6_wayOfShade S (nI g) (nI r) = some (nI (wy (V.2.1 g 0) r), S) := by
  have e := inH_V h hg (show 0 < 5 by omega)
  have w := wy_X (V.2.1 g 0) (by have := (hB.2.1 g hg).1; omega) r hr
  simp only [fX6_wayOfShade, fa_lit, e, bnd_e, nI_add, w]
theorem body_X {S : Mem} {V : Vw} (hB : VB V) (h : XV S V) {p g w : Nat} (hp : p < V.1) (hg : g < 12) (hw : w < 8) : fX6_bodyShade S (nI p) (nI g) (nI w) = some (nI (body (V.2.2 p 1) (V.2.2 p 2) (V.2.1 g 1) w (V.2.2 p 0)), S) := by
  obtain ⟨e0, e1, e2, e3, e5, e6⟩ := has_V hB h hp
  have ea := inH_V h hg (show 1 < 5 by omega)
  obtain ⟨b0, b1, b2, b3, b5, b6⟩ := hB.2.2.1 p (by have := hB.1; omega)
  have bg := hB.2.2.2 p hp
  have ba := (hB.2.1 g hg).2.1
  generalize V.2.2 p 0 = pl at *
  generalize V.2.2 p 1 = ta at *
  generalize V.2.2 p 2 = gi at *
  generalize V.2.1 g 1 = al at *
  have k1 := ba_1 pl (by omega) w hw
  have k2 := ba_2 pl (by omega) w hw ((w + 2) % 8) (by omega)
  have k6 := ba_2 pl (by omega) w hw ((w + 6) % 8) (by omega)
  have a2 := and7 (w + 2) (by omega)
  have a6 := and7 (w + 6) (by omega)
  have hlt := cb_lt (nx pl w)
  have hnx := nx_le pl w
  clear h hB e3 e5 e6
  have key : ∀ s : Nat, s < 4 → fX6_bodyShade_19 S (nI p) (nI g) (nI w) (nI gi) (nI s) = some (nI (if 5 ≤ ta ∧ al ≤ s then bdy w pl gi else 0), S) := by
    intro s hs
    by_cases c1 : ta < 5
    · rw [if_neg (show ¬ (5 ≤ ta ∧ al ≤ s) by omega)]
      simp (disch := first | omega | assumption) only [fX6_bodyShade_19, e1, mset_ne, mset_same, upd_same, upd_ne, ltm_e, lti_e, bnd_e, fa_lit, nI_add, pk_mul, nI_clamp, gd_in, nlt0, nI_ltI, nI_leI, nI_eq, if_true, if_false, if_pos, if_neg]
    · by_cases c2 : al ≤ s
      · rw [if_pos (show 5 ≤ ta ∧ al ≤ s by omega)]
        by_cases c3 : nx pl w < 25
        · have c4 := (cb_pos c3).2
          by_cases c5 : gi = 1
          · subst c5
            simp (disch := first | omega | assumption) only [fX6_bodyShade_19, e0, e1, ea, stepX_len, stepY_len, ba_e, k1, bdy, Nat.or_zero, mset_ne, mset_same, upd_same, upd_ne, ltm_e, lti_e, bnd_e, fa_lit, nI_add, pk_mul, nI_clamp, gd_in, nlt0, nI_ltI, nI_leI, nI_eq, if_true, if_false, if_pos, if_neg]
          · simp (disch := first | omega | assumption) only [fX6_bodyShade_19, e0, e1, ea, stepX_len, stepY_len, ba_e, k1, a2, a6, k2 c3, k6 c3, nI_or, bdy, Nat.or_assoc, mset_ne, mset_same, upd_same, upd_ne, ltm_e, lti_e, bnd_e, fa_lit, nI_add, pk_mul, nI_clamp, gd_in, nlt0, nI_ltI, nI_leI, nI_eq, if_true, if_false, if_pos, if_neg]
        · have c4 : nx pl w = 25 := by omega
          have c5 : ∀ v, nx 25 v = 25 := fun v => by unfold nx; rw [if_neg (by omega)]
          have c6 : cb 25 = 0 := rfl
          rw [c4, c6] at k1
          simp (disch := first | omega | assumption) only [fX6_bodyShade_19, e0, e1, ea, stepX_len, stepY_len, ba_e, k1, bdy, c4, c5, c6, Nat.or_zero, ite_self, mset_ne, mset_same, upd_same, upd_ne, ltm_e, lti_e, bnd_e, fa_lit, nI_add, pk_mul, nI_clamp, gd_in, nlt0, nI_ltI, nI_leI, nI_eq, if_true, if_false, if_pos, if_neg]
      · rw [if_neg (show ¬ (5 ≤ ta ∧ al ≤ s) by omega)]
        simp (disch := first | omega | assumption) only [fX6_bodyShade_19, e1, ea, mset_ne, mset_same, upd_same, upd_ne, ltm_e, lti_e, bnd_e, fa_lit, nI_add, pk_mul, nI_clamp, gd_in, nlt0, nI_ltI, nI_leI, nI_eq, if_true, if_false, if_pos, if_neg]
  by_cases c0 : gi = 3
  · have := key 3 (by omega)
    subst c0
    simp (disch := first | omega | assumption) only [fX6_bodyShade, e2, this, body, mset_ne, mset_same, upd_same, upd_ne, ltm_e, lti_e, bnd_e, fa_lit, nI_add, pk_mul, nI_clamp, gd_in, nlt0, nI_ltI, nI_leI, nI_eq, if_true, if_false, if_pos, if_neg]
  · have := key 2 (by omega)
    simp (disch := first | omega | assumption) only [fX6_bodyShade, e2, this, body, mset_ne, mset_same, upd_same, upd_ne, ltm_e, lti_e, bnd_e, fa_lit, nI_add, pk_mul, nI_clamp, gd_in, nlt0, nI_ltI, nI_leI, nI_eq, if_true, if_false, if_pos, if_neg]
theorem par_X {S : Mem} {V : Vw} (hB : VB V) (h : XV S V) {p g w : Nat} (hp : p < V.1) (hg : g < 12) (hw : w < 8) : fX6_parasolShade S (nI p) (nI g) (nI w) = some (nI (parA (5 - V.2.1 g 1) w (V.2.2 p 0)), S) := by
  obtain ⟨e0, e1, e2, e3, e5, e6⟩ := has_V hB h hp
  have ea := inH_V h hg (show 1 < 5 by omega)
  obtain ⟨b0, -⟩ := hB.2.2.1 p (by have := hB.1; omega)
  have ba := (hB.2.1 g hg).2.1
  generalize V.2.2 p 0 = pl at *
  generalize V.2.1 g 1 = al at *
  clear h hB e1 e2 e3 e5 e6
  have key : ∀ (k i f a : Nat), i + k = 5 - al → 0 < i → k < f → fX6_parasolShade_54 f S (nI w) (irem (nI pl) (nI 5)) (nI pl / nI 5) (nI a) (nI (4 - al)) (nI i) = some (nI (a ||| parA k w (nxk i w pl)), S) := by
    intro k
    induction k with
    | zero =>
      intro i f a hi h0 hf
      obtain ⟨f, rfl⟩ : ∃ g, f = g + 1 := ⟨f - 1, by omega⟩
      show fX6_parasolShade_54_b (fX6_parasolShade_54 f) S (nI w) (irem (nI pl) (nI 5)) (nI pl / nI 5) (nI a) (nI (4 - al)) (nI i) = _
      simp (disch := first | omega | assumption) only [fX6_parasolShade_54_b, parA, Nat.or_zero, mset_ne, mset_same, upd_same, upd_ne, ltm_e, lti_e, bnd_e, fa_lit, nI_add, pk_mul, nI_clamp, gd_in, nlt0, nI_ltI, nI_leI, nI_eq, if_true, if_false, if_pos, if_neg]
    | succ k ih =>
      intro i f a hi h0 hf
      obtain ⟨f, rfl⟩ : ∃ g, f = g + 1 := ⟨f - 1, by omega⟩
      show fX6_parasolShade_54_b (fX6_parasolShade_54 f) S (nI w) (irem (nI pl) (nI 5)) (nI pl / nI 5) (nI a) (nI (4 - al)) (nI i) = _
      have hk := ba_k i (by omega) pl (by omega) w hw
      simp (disch := first | omega | assumption) only [fX6_parasolShade_54_b, stepX_len, stepY_len, ba_e, hk, nI_or, ih (i + 1) f (a ||| cb (nxk i w pl)) (by omega) (by omega) (by omega), parA, nxk, Nat.or_assoc, mset_ne, mset_same, upd_same, upd_ne, ltm_e, lti_e, bnd_e, fa_lit, nI_add, pk_mul, nI_clamp, gd_in, nlt0, nI_ltI, nI_leI, nI_eq, if_true, if_false, if_pos, if_neg]
  have h0 := ba_0 pl (by omega)
  have hl := key (4 - al) 1 FU (cb pl) (by omega) (by omega) (by unfold FU; omega)
  have e : 5 - al = (4 - al) + 1 := by omega
  rw [e]
  simp (disch := first | omega | assumption) only [fX6_parasolShade, e0, ba_e, h0, ea, pk_sub, hl, parA, nxk, mset_ne, mset_same, upd_same, upd_ne, ltm_e, lti_e, bnd_e, fa_lit, nI_add, pk_mul, nI_clamp, gd_in, nlt0, nI_ltI, nI_leI, nI_eq, if_true, if_false, if_pos, if_neg]
/-- what p shades: all: by being tall; b: by a parasol -/
def gs (V : Vw) (h r : Nat) (sb : Nat → Bool) (all : Bool) (p : Nat) : Nat := (if sb p = true then parA (5 - V.2.1 h 1) (wy (V.2.1 h 0) r) (V.2.2 p 0) else 0) ||| (if all = true then body (V.2.2 p 1) (V.2.2 p 2) (V.2.1 h 1) (wy (V.2.1 h 0) r) (V.2.2 p 0) else 0)
def pb (V : Vw) (p : Nat) : Bool := decide (V.2.2 p 5 = 1)
def shL (f : Nat → Nat) (b : Nat) : Nat → Nat → Nat → Nat
  | 0, _, a => a
  | k + 1, i, a => shL f b k (i + 1) (if i = b then a else a ||| f i)
theorem shL_bit (f : Nat → Nat) (b c : Nat) : ∀ k i a, (shL f b k i a).testBit c = true ↔ a.testBit c = true ∨ ∃ j, i ≤ j ∧ j < i + k ∧ j ≠ b ∧ (f j).testBit c = true := by
  intro k
  induction k with
  | zero =>
    intro i a
    exact ⟨Or.inl, fun h => h.elim id (fun ⟨j, h1, h2, _⟩ => absurd h2 (by omega))⟩
  | succ k ih =>
    intro i a
    rw [shL, ih]
    constructor
    · rintro (h | ⟨j, h1, h2, h3, h4⟩)
      · by_cases e : i = b
        · rw [if_pos e] at h; exact Or.inl h
        · rw [if_neg e, Nat.testBit_or, Bool.or_eq_true] at h
          exact h.elim Or.inl (fun q => Or.inr ⟨i, Nat.le_refl i, by omega, e, q⟩)
      · exact Or.inr ⟨j, by omega, by omega, h3, h4⟩
    · rintro (h | ⟨j, h1, h2, h3, h4⟩)
      · left
        by_cases e : i = b
        · rw [if_pos e]; exact h
        · rw [if_neg e, Nat.testBit_or, h, Bool.true_or]
      · by_cases e : j = i
        · subst e
          left
          rw [if_neg h3, Nat.testBit_or, h4, Bool.or_true]
        · exact Or.inr ⟨j, by omega, by omega, h3, h4⟩
theorem shade_X {S : Mem} {V : Vw} (hB : VB V) (h : XV S V) {g r b : Nat} (hg : g < 12) (hr : r < 8) {x : Int32} (hx : ∀ i, i < 10 → (nI i = x ↔ i = b)) : fX6_shadeIn S (nI g) (nI r) x = some (nI (shL (gs V g r (pb V) true) b V.1 0 0), S) := by
  have hw := wy_lt (V.2.1 g 0) r
  have key : ∀ (k i f a : Nat), i + k = V.1 → k < f → fX6_shadeIn_14 f S (nI g) x (nI (wy (V.2.1 g 0) r)) (nI a) (nI i) = some (nI (shL (gs V g r (pb V) true) b k i a), S) := by
    intro k
    induction k with
    | zero =>
      intro i f a hi hf
      obtain ⟨f, rfl⟩ : ∃ g, f = g + 1 := ⟨f - 1, by omega⟩
      show fX6_shadeIn_14_b (fX6_shadeIn_14 f) S (nI g) x (nI (wy (V.2.1 g 0) r)) (nI a) (nI i) = _
      have hn := hB.1
      have e1 := h.1
      simp (disch := first | omega | assumption) only [fX6_shadeIn_14_b, e1, shL, mset_ne, mset_same, upd_same, upd_ne, ltm_e, lti_e, bnd_e, fa_lit, nI_add, pk_mul, nI_clamp, gd_in, nlt0, nI_ltI, nI_leI, nI_eq, if_true, if_false, if_pos, if_neg]
    | succ k ih =>
      intro i f a hi hf
      obtain ⟨f, rfl⟩ : ∃ g, f = g + 1 := ⟨f - 1, by omega⟩
      show fX6_shadeIn_14_b (fX6_shadeIn_14 f) S (nI g) x (nI (wy (V.2.1 g 0) r)) (nI a) (nI i) = _
      have hn := hB.1
      have e1 := h.1
      have hp : i < V.1 := by omega
      by_cases e : i = b
      · have e' : nI i = x := (hx i (by omega)).2 e
        rw [shL, if_pos e, ← ih (i + 1) f a (by omega) (by omega)]
        unfold fX6_shadeIn_14_b
        rw [e1, if_neg (by rw [nI_leI (by omega) (by omega)]; omega), if_pos e']
        simp only [fX6_shadeIn_71, fa_lit, nI_add]
      · have e' : ¬ nI i = x := fun q => e ((hx i (by omega)).1 q)
        obtain ⟨-, -, -, -, e5, -⟩ := has_V hB h hp
        have eb := body_X hB h hp hg hw
        have ep := par_X hB h hp hg hw
        by_cases c : V.2.2 i 5 = 1
        · have hs : gs V g r (pb V) true i = parA (5 - V.2.1 g 1) (wy (V.2.1 g 0) r) (V.2.2 i 0) ||| body (V.2.2 i 1) (V.2.2 i 2) (V.2.1 g 1) (wy (V.2.1 g 0) r) (V.2.2 i 0) := by
            unfold gs pb; rw [if_pos (by simp [c]), if_pos rfl]
          rw [c] at e5
          rw [shL, if_neg e, hs, Nat.or_comm (parA _ _ _), ← Nat.or_assoc, ← ih (i + 1) f _ (by omega) (by omega)]
          unfold fX6_shadeIn_14_b
          rw [e1, if_neg (by rw [nI_leI (by omega) (by omega)]; omega), if_neg e']
          simp only [fX6_shadeIn_71, fa_lit, nI_add, eb, bnd_e, lti_e, nI_or, e5, ep, if_true]
        · have hs : gs V g r (pb V) true i = body (V.2.2 i 1) (V.2.2 i 2) (V.2.1 g 1) (wy (V.2.1 g 0) r) (V.2.2 i 0) := by
            unfold gs pb; rw [if_neg (by simp [c]), if_pos rfl, Nat.zero_or]
          have c1 : ¬ nI (V.2.2 i 5) = nI 1 := by
            have := (hB.2.2.1 i (by omega)).2.2.2.2.1
            rw [nI_eq (by omega) (by omega)]; exact c
          rw [shL, if_neg e, hs, ← ih (i + 1) f _ (by omega) (by omega)]
          unfold fX6_shadeIn_14_b
          rw [e1, if_neg (by rw [nI_leI (by omega) (by omega)]; omega), if_neg e']
          simp only [fX6_shadeIn_71, fa_lit, nI_add, eb, bnd_e, lti_e, nI_or, e5, c1, if_false]
  unfold fX6_shadeIn
  rw [way_X hB h hg hr, bnd_e]
  exact key V.1 0 FU 0 (by omega) (by unfold FU; have := hB.1; omega)
