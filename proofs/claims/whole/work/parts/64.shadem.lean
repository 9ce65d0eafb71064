/-! shade on the reference's side -/
def cI (c : Nat) : Int32 := if c < 25 then nI c else -1
theorem cI_lt {c : Nat} (h : c < 25) : cI c = nI c := if_pos h
def sxI (w : Int32) : Int32 := if w = 0 then 0 else if w = 4 then 0 else if 4 ≤ w then -1 else 1
def syI (w : Int32) : Int32 := if w = 2 then 0 else if w = 6 then 0 else if w = 7 then -1 else if 2 ≤ w then 1 else -1
theorem nxX_e (T : Mem) (w : Int32) : fX8_nextX T w = some (sxI w, T) := by
  unfold fX8_nextX fX8_nextX_9 sxI
  by_cases h1 : w = 0
  · rw [if_pos h1, if_pos h1]
  · rw [if_neg h1, if_neg h1]
    by_cases h2 : w = 4
    · rw [if_pos h2, if_pos h2]
    · rw [if_neg h2, if_neg h2]
      by_cases h3 : (4 : Int32) ≤ w
      · rw [if_pos h3, if_pos h3]
      · rw [if_neg h3, if_neg h3]
theorem nxY_e (T : Mem) (w : Int32) : fX8_nextY T w = some (syI w, T) := by
  unfold fX8_nextY fX8_nextY_11 fX8_nextY_26 syI
  by_cases h1 : w = 2
  · rw [if_pos h1, if_pos h1]
  · rw [if_neg h1, if_neg h1]
    by_cases h2 : w = 6
    · rw [if_pos h2, if_pos h2]
    · rw [if_neg h2, if_neg h2]
      by_cases h3 : w = 7
      · rw [if_pos h3, if_pos h3]
      · rw [if_neg h3, if_neg h3]
        by_cases h4 : (2 : Int32) ≤ w
        · rw [if_pos h4, if_pos h4]
        · rw [if_neg h4, if_neg h4]
def nxI (x w : Int32) : Int32 := if x = -1 then -1 else if 0 ≤ irem x 5 + sxI w ∧ irem x 5 + sxI w ≤ 4 then (if 0 ≤ x / 5 + syI w ∧ x / 5 + syI w ≤ 4 then 5 * (x / 5 + syI w) + (irem x 5 + sxI w) else -1) else -1
theorem nx_e (T : Mem) (x w : Int32) : fX8_nextTo T x w = some (nxI x w, T) := by
  unfold fX8_nextTo nxI
  by_cases h0 : x = -1
  · rw [if_pos h0, if_pos h0]
  · rw [if_neg h0, if_neg h0]
    simp only [nxX_e, nxY_e, bnd_e, lti_e, isIn_eq]
    by_cases h1 : 0 ≤ irem x 5 + sxI w ∧ irem x 5 + sxI w ≤ 4
    · rw [if_pos h1, if_pos h1, if_neg (show ¬ (1 : Int32) = 0 by decide)]
      by_cases h2 : 0 ≤ x / 5 + syI w ∧ x / 5 + syI w ≤ 4
      · rw [if_pos h2, if_pos h2, if_neg (show ¬ (1 : Int32) = 0 by decide)]
      · rw [if_neg h2, if_neg h2, if_pos rfl]
    · rw [if_neg h1, if_neg h1, if_pos rfl]
theorem nxI_nx : ∀ c, c < 26 → ∀ w, w < 8 → nxI (cI c) (nI w) = cI (nx c w) := by decide +kernel
theorem next_M (T : Mem) {c w : Nat} (hc : c ≤ 25) (hw : w < 8) : fX8_nextTo T (cI c) (nI w) = some (cI (nx c w), T) := by
  rw [nx_e, nxI_nx c (by omega) w hw]
/-- p marks the places of a mask -/
def mk (f : Nat → Int32) (p m : Nat) : Nat → Int32 := fun c => if m.testBit c = true then f c ||| one p else f c
theorem mk_0 (f : Nat → Int32) (p : Nat) : mk f p 0 = f := by
  funext c
  unfold mk
  rw [if_neg (by simp)]
theorem mk_mk (f : Nat → Int32) (p a b : Nat) : mk (mk f p a) p b = mk f p (a ||| b) := by
  funext c
  unfold mk
  rw [Nat.testBit_or]
  cases a.testBit c <;> cases b.testBit c <;> simp [Int32.or_assoc]
theorem mk_bit (f : Nat → Int32) {p : Nat} (hp : p < 32) (m c j : Nat) : bt (mk f p m c) j = (bt (f c) j || (decide (j = p) && m.testBit c)) := by
  unfold mk
  cases h : m.testBit c
  · simp
  · rw [if_pos rfl, bt_set _ hp, Bool.and_true]
theorem mk_cb (f : Nat → Int32) (p : Nat) {c : Nat} (hc : c < 25) : mk f p (cb c) = upd f c (f c ||| one p) := by
  funext j
  unfold mk cb
  rw [if_pos hc, Nat.testBit_two_pow]
  by_cases h : c = j
  · subst h; rw [upd_same]; simp
  · rw [upd_ne _ _ (Ne.symm h)]; simp [h]
theorem shades_M (T : Mem) {c p : Nat} (hc : c ≤ 25) : fX8_shades T (cI c) (nI p) = some (nI 0, mput T 21 (mk (T 21) p (cb c))) := by
  unfold fX8_shades
  by_cases h : c < 25
  · rw [cI_lt h, if_neg (m1_ne (by omega)), gd_in _ h (by omega), gd_in _ h (by omega), nI_clamp (by omega), ltm_e, mk_cb _ _ h]
    rfl
  · rw [show c = 25 by omega, show cI 25 = -1 from rfl, if_pos rfl, show cb 25 = 0 from rfl, mk_0, mput_id]
    rfl
theorem parM_loop (T0 : Mem) {p w al : Nat} (hw : w < 8) (ha : al ≤ 4) : ∀ (k i f c : Nat) (T : Mem), i + k = 5 - al → k < f → c ≤ 25 → fX8_shadesByParasol_13 f T (nI p) (nI w) (nI al) (cI c) (nI i) = some (nI 0, mput T 21 (mk (T 21) p (parA k w c))) := by
  intro k
  induction k with
  | zero =>
    intro i f c T hi hf hc
    obtain ⟨f, rfl⟩ : ∃ g, f = g + 1 := ⟨f - 1, by omega⟩
    show fX8_shadesByParasol_13_b (fX8_shadesByParasol_13 f) T (nI p) (nI w) (nI al) (cI c) (nI i) = _
    simp (disch := first | omega | assumption) only [fX8_shadesByParasol_13_b, pk_sub, parA, mk_0, mput_id, mset_ne, mset_same, upd_same, upd_ne, ltm_e, lti_e, bnd_e, fa_lit, nI_add, pk_mul, nI_clamp, gd_in, nlt0, nI_ltI, nI_leI, nI_eq, if_true, if_false, if_pos, if_neg]
  | succ k ih =>
    intro i f c T hi hf hc
    obtain ⟨f, rfl⟩ : ∃ g, f = g + 1 := ⟨f - 1, by omega⟩
    show fX8_shadesByParasol_13_b (fX8_shadesByParasol_13 f) T (nI p) (nI w) (nI al) (cI c) (nI i) = _
    simp (disch := first | omega | assumption) only [fX8_shadesByParasol_13_b, pk_sub, shades_M, next_M, ih (i + 1) f (nx c w) _ (by omega) (by omega) (nx_le c w), mput_same, mk_mk, mput_mput, parA, mset_ne, mset_same, upd_same, upd_ne, ltm_e, lti_e, bnd_e, fa_lit, nI_add, pk_mul, nI_clamp, gd_in, nlt0, nI_ltI, nI_leI, nI_eq, if_true, if_false, if_pos, if_neg]
theorem par_M {T : Mem} {V : Vw} (hB : VB V) (h : MV T V) {p w al : Nat} (hp : p < V.1) (hw : w < 8) (ha : al ≤ 4) : fX8_shadesByParasol T (nI p) (nI w) (nI al) = some (nI 0, mput T 21 (mk (T 21) p (parA (5 - al) w (V.2.2 p 0)))) := by
  have hn := hB.1
  have e0 := (h.2.2 p (by omega)).1
  have b0 := (hB.2.2.1 p (by omega)).1
  rw [← cI_lt (show V.2.2 p 0 < 25 by omega)] at e0
  have hl := parM_loop T (p := p) hw ha (5 - al) 0 FU (V.2.2 p 0) T (by omega) (by unfold FU; omega) (by omega)
  simp (disch := first | omega | assumption) only [fX8_shadesByParasol, e0, hl, mset_ne, mset_same, upd_same, upd_ne, ltm_e, lti_e, bnd_e, fa_lit, nI_add, pk_mul, nI_clamp, gd_in, nlt0, nI_ltI, nI_leI, nI_eq, if_true, if_false, if_pos, if_neg]
theorem mod8 : ∀ w, w < 16 → irem (nI w) (nI 8) = nI (w % 8) := by decide +kernel
theorem body_M {T : Mem} {V : Vw} (hB : VB V) (h : MV T V) {p w al : Nat} (hp : p < V.1) (hw : w < 8) (ha : al ≤ 4) : fX8_shadesByHimself T (nI p) (nI w) (nI al) = some (nI 0, mput T 21 (mk (T 21) p (body (V.2.2 p 1) (V.2.2 p 2) al w (V.2.2 p 0)))) := by
  have hn := hB.1
  obtain ⟨e0, e1, e2, e3, e5, e6⟩ := h.2.2 p (by omega)
  obtain ⟨b0, b1, b2, b3, b5, b6⟩ := hB.2.2.1 p (by omega)
  have bg := hB.2.2.2 p hp
  rw [← cI_lt (show V.2.2 p 0 < 25 by omega)] at e0
  generalize V.2.2 p 0 = pl at *
  generalize V.2.2 p 1 = ta at *
  generalize V.2.2 p 2 = gi at *
  have m2 := mod8 (w + 2) (by omega)
  have m6 := mod8 (w + 6) (by omega)
  have n0 := next_M T (c := pl) (w := w) (by omega) hw
  have key : ∀ s : Nat, s < 4 → ta ≥ 5 → fX8_shadesByHimself_26 T (nI p) (nI w) (nI al) (nI s) = some (nI 0, mput T 21 (mk (T 21) p (if 5 ≤ ta ∧ al ≤ s then bdy w pl gi else 0))) := by
    intro s hs ht
    by_cases c2 : al ≤ s
    · rw [if_pos (show 5 ≤ ta ∧ al ≤ s by omega)]
      by_cases c5 : gi = 1
      · subst c5
        simp (disch := first | omega | assumption) only [fX8_shadesByHimself_26, e0, n0, shades_M T (nx_le pl w), mput_ne, e2, bdy, Nat.or_zero, mset_ne, mset_same, upd_same, upd_ne, ltm_e, lti_e, bnd_e, fa_lit, nI_add, pk_mul, nI_clamp, gd_in, nlt0, nI_ltI, nI_leI, nI_eq, if_true, if_false, if_pos, if_neg]
      · simp (disch := first | omega | assumption) only [fX8_shadesByHimself_26, e0, n0, shades_M _ (nx_le pl w), mput_ne, e2, m2, m6, next_M _ (nx_le pl w) (show (w + 2) % 8 < 8 by omega), next_M _ (nx_le pl w) (show (w + 6) % 8 < 8 by omega), shades_M _ (nx_le (nx pl w) ((w + 2) % 8)), shades_M _ (nx_le (nx pl w) ((w + 6) % 8)), mput_same, mk_mk, mput_mput, bdy, Nat.or_assoc, mset_ne, mset_same, upd_same, upd_ne, ltm_e, lti_e, bnd_e, fa_lit, nI_add, pk_mul, nI_clamp, gd_in, nlt0, nI_ltI, nI_leI, nI_eq, if_true, if_false, if_pos, if_neg]
    · rw [if_neg (show ¬ (5 ≤ ta ∧ al ≤ s) by omega)]
      simp (disch := first | omega | assumption) only [fX8_shadesByHimself_26, mk_0, mput_id, mset_ne, mset_same, upd_same, upd_ne, ltm_e, lti_e, bnd_e, fa_lit, nI_add, pk_mul, nI_clamp, gd_in, nlt0, nI_ltI, nI_leI, nI_eq, if_true, if_false, if_pos, if_neg]
  by_cases c1 : ta < 5
  · rw [body, if_neg (by omega), mk_0, mput_id]
    simp (disch := first | omega | assumption) only [fX8_shadesByHimself, e1, mset_ne, mset_same, upd_same, upd_ne, ltm_e, lti_e, bnd_e, fa_lit, nI_add, pk_mul, nI_clamp, gd_in, nlt0, nI_ltI, nI_leI, nI_eq, if_true, if_false, if_pos, if_neg]
  · by_cases c0 : gi = 3
    · have := key 3 (by omega) (by omega)
      subst c0
      simp (disch := first | omega | assumption) only [fX8_shadesByHimself, e1, e2, this, body, mset_ne, mset_same, upd_same, upd_ne, ltm_e, lti_e, bnd_e, fa_lit, nI_add, pk_mul, nI_clamp, gd_in, nlt0, nI_ltI, nI_leI, nI_eq, if_true, if_false, if_pos, if_neg]
    · have := key 2 (by omega) (by omega)
      simp (disch := first | omega | assumption) only [fX8_shadesByHimself, e1, e2, this, body, mset_ne, mset_same, upd_same, upd_ne, ltm_e, lti_e, bnd_e, fa_lit, nI_add, pk_mul, nI_clamp, gd_in, nlt0, nI_ltI, nI_leI, nI_eq, if_true, if_false, if_pos, if_neg]
def mks (g : Nat → Nat) : Nat → Nat → (Nat → Int32) → (Nat → Int32)
  | 0, _, F => F
  | k + 1, i, F => mks g k (i + 1) (mk F i (g i))
theorem mks_bit (g : Nat → Nat) (c j : Nat) : ∀ k i F, i + k ≤ 32 → bt (mks g k i F c) j = (bt (F c) j || (decide (i ≤ j ∧ j < i + k) && (g j).testBit c)) := by
  intro k
  induction k with
  | zero =>
    intro i F _
    rw [mks, decide_eq_false (by omega), Bool.false_and, Bool.or_false]
  | succ k ih =>
    intro i F hi
    rw [mks, ih _ _ (by omega), mk_bit _ (by omega)]
    by_cases e : j = i
    · subst e
      rw [decide_eq_true rfl, decide_eq_false (show ¬ (j + 1 ≤ j ∧ j < j + 1 + k) by omega), decide_eq_true (show j ≤ j ∧ j < j + (k + 1) by omega)]
      simp
    · rw [decide_eq_false e, Bool.false_and, Bool.or_false]
      by_cases q : i + 1 ≤ j ∧ j < i + 1 + k
      · rw [decide_eq_true q, decide_eq_true (show i ≤ j ∧ j < i + (k + 1) by omega)]
      · rw [decide_eq_false q, decide_eq_false (show ¬ (i ≤ j ∧ j < i + (k + 1)) by omega)]
theorem finds_loop {V : Vw} (hB : VB V) {h r b : Nat} (hh : h < 12) (hb : b < 2) (set : Int32) : ∀ (k i f : Nat) (T : Mem), i + k = V.1 → k < f → MV T V → fX8_findsShade_59 f T set (nI b) (nI (wy (V.2.1 h 0) r)) (nI (V.2.1 h 1)) (nI i) = some (nI 0, mput T 21 (mks (gs V h r (bt set) (decide (b = 1))) k i (T 21))) := by
  have hw := wy_lt (V.2.1 h 0) r
  have ha := (hB.2.1 h hh).2.1
  have hn := hB.1
  intro k
  induction k with
  | zero =>
    intro i f T hi hf hV
    obtain ⟨f, rfl⟩ : ∃ g, f = g + 1 := ⟨f - 1, by omega⟩
    show fX8_findsShade_59_b (fX8_findsShade_59 f) T set (nI b) (nI (wy (V.2.1 h 0) r)) (nI (V.2.1 h 1)) (nI i) = _
    have e1 := hV.1
    simp (disch := first | omega | assumption) only [fX8_findsShade_59_b, e1, mks, mput_id, mset_ne, mset_same, upd_same, upd_ne, ltm_e, lti_e, bnd_e, fa_lit, nI_add, pk_mul, nI_clamp, gd_in, nlt0, nI_ltI, nI_leI, nI_eq, if_true, if_false, if_pos, if_neg]
  | succ k ih =>
    intro i f T hi hf hV
    obtain ⟨f, rfl⟩ : ∃ g, f = g + 1 := ⟨f - 1, by omega⟩
    show fX8_findsShade_59_b (fX8_findsShade_59 f) T set (nI b) (nI (wy (V.2.1 h 0) r)) (nI (V.2.1 h 1)) (nI i) = _
    have e1 := hV.1
    have hp : i < V.1 := by omega
    have hi32 : i < 32 := by omega
    have a88 : ∀ (T1 : Mem) (m : Nat), MV T1 V → T1 = mput T 21 (mk (T 21) i m) → m = (if bt set i = true then parA (5 - V.2.1 h 1) (wy (V.2.1 h 0) r) (V.2.2 i 0) else 0) → fX8_findsShade_88 (fX8_findsShade_59 f) T1 set (nI b) (nI (wy (V.2.1 h 0) r)) (nI (V.2.1 h 1)) (nI i) = some (nI 0, mput T 21 (mks (gs V h r (bt set) (decide (b = 1))) (k + 1) i (T 21))) := by
      intro T1 m h1 eT em
      by_cases c : b = 1
      · subst c
        have eb := body_M hB h1 hp hw ha
        have z := ih (i + 1) f _ (by omega) (by omega) (h1.m 21 (by omega) (mk (T1 21) i (body (V.2.2 i 1) (V.2.2 i 2) (V.2.1 h 1) (wy (V.2.1 h 0) r) (V.2.2 i 0))))
        unfold fX8_findsShade_88 fX8_findsShade_103
        rw [if_neg (show ¬ nI 1 = 0 by decide), eb, bnd_e, show nI i + 1 = nI (i + 1) from nI_add i 1, z, mput_same, mput_mput, eT, mput_mput, mput_same, mk_mk, em, mks]
        unfold gs
        rw [if_pos (show decide (1 = 1) = true from rfl)]
      · have c0 : b = 0 := by omega
        subst c0
        have z := ih (i + 1) f _ (by omega) (by omega) h1
        unfold fX8_findsShade_88 fX8_findsShade_103
        rw [if_pos (show nI 0 = 0 from rfl), show nI i + 1 = nI (i + 1) from nI_add i 1, z, eT, mput_mput, mput_same, em, mks]
        unfold gs
        rw [if_neg (show ¬ decide (0 = 1) = true by decide), Nat.or_zero]
    unfold fX8_findsShade_59_b
    rw [e1, if_neg (by rw [nI_leI (by omega) (by omega)]; omega)]
    by_cases c : bt set i = true
    · have c' : ((set >>> (nI i &&& 31)) &&& (1 : Int32)) = 1 := (bitI_iff set hi32).2 c
      rw [if_pos c', par_M hB hV hp hw ha, bnd_e]
      exact a88 _ _ (hV.m 21 (by omega) _) rfl (by rw [if_pos c])
    · have c' : ¬ ((set >>> (nI i &&& 31)) &&& (1 : Int32)) = 1 := fun q => c ((bitI_iff set hi32).1 q)
      rw [if_neg c']
      exact a88 T 0 hV (by rw [mk_0, mput_id]) (by rw [if_neg c])
theorem zero_loop {V : Vw} (hB : VB V) {h r b : Nat} (hh : h < 12) (hr : r < 8) (hb : b < 2) (set : Int32) : ∀ (k i f : Nat) (T : Mem), i + k = 25 → k < f → MV T V → (∀ c, c < i → T 21 c = 0) → ∃ F, (∀ c, c < 25 → F c = 0) ∧ fX8_findsShade_3 f T (nI h) (nI r) set (nI b) (nI i) = some (nI 0, mput T 21 (mks (gs V h r (bt set) (decide (b = 1))) V.1 0 F)) := by
  have hs := (hB.2.1 h hh).1
  have ha := (hB.2.1 h hh).2.1
  have hn := hB.1
  have wm := wy_M (V.2.1 h 0) (by omega) r hr
  intro k
  induction k with
  | zero =>
    intro i f T hi hf hV hz
    obtain ⟨f, rfl⟩ : ∃ g, f = g + 1 := ⟨f - 1, by omega⟩
    have hi : i = 25 := by omega
    subst hi
    refine ⟨T 21, hz, ?_⟩
    show fX8_findsShade_3_b (fX8_findsShade_3 f) T (nI h) (nI r) set (nI b) (nI 25) = _
    have e0 := hV.2.1 h 0 hh (by omega)
    have e1 := hV.2.1 h 1 hh (by omega)
    have z := finds_loop hB (r := r) hh hb set V.1 0 FU T (by omega) (by unfold FU; omega) hV
    simp (disch := first | omega | assumption) only [fX8_findsShade_3_b, e0, e1, wm, z, mset_ne, mset_same, upd_same, upd_ne, ltm_e, lti_e, bnd_e, fa_lit, nI_add, pk_mul, nI_clamp, gd_in, nlt0, nI_ltI, nI_leI, nI_eq, if_true, if_false, if_pos, if_neg]
  | succ k ih =>
    intro i f T hi hf hV hz
    obtain ⟨f, rfl⟩ : ∃ g, f = g + 1 := ⟨f - 1, by omega⟩
    obtain ⟨F, z1, z2⟩ := ih (i + 1) f (mset T 21 i (nI 0)) (by omega) (by omega) (hV.m 21 (by omega) _) (fun c hc => by
      rw [mset_same]
      by_cases e : c = i
      · rw [e, upd_same]; rfl
      · rw [upd_ne _ _ e]; exact hz c (by omega))
    refine ⟨F, z1, ?_⟩
    show fX8_findsShade_3_b (fX8_findsShade_3 f) T (nI h) (nI r) set (nI b) (nI i) = _
    have e : mput (mset T 21 i (nI 0)) 21 (mks (gs V h r (bt set) (decide (b = 1))) V.1 0 F) = mput T 21 (mks (gs V h r (bt set) (decide (b = 1))) V.1 0 F) := mput_mput _ _ _ _
    rw [e] at z2
    rw [← z2]
    simp (disch := first | omega | assumption) only [fX8_findsShade_3_b, mset_ne, mset_same, upd_same, upd_ne, ltm_e, lti_e, bnd_e, fa_lit, nI_add, pk_mul, nI_clamp, gd_in, nlt0, nI_ltI, nI_leI, nI_eq, if_true, if_false, if_pos, if_neg]
theorem finds_M {T : Mem} {V : Vw} (hB : VB V) (hV : MV T V) {h r b : Nat} (hh : h < 12) (hr : r < 8) (hb : b < 2) (set : Int32) : ∃ G : Nat → Int32, fX8_findsShade T (nI h) (nI r) set (nI b) = some (nI 0, mput T 21 G) ∧ ∀ c j, c < 25 → bt (G c) j = (decide (j < V.1) && (gs V h r (bt set) (decide (b = 1)) j).testBit c) := by
  obtain ⟨F, z1, z2⟩ := zero_loop hB hh hr hb set 25 0 FU T (by omega) (by unfold FU; omega) hV (fun c hc => absurd hc (by omega))
  refine ⟨_, z2, fun c j hc => ?_⟩
  have hn := hB.1
  rw [mks_bit _ _ _ _ _ _ (by omega), z1 c hc, b_0, Bool.false_or]
  congr 1
  exact decide_eq_decide.mpr (by omega)
/-! who is shaded -/
theorem body_own : ∀ w, w < 8 → ∀ pl, pl < 25 → ∀ gi, gi < 4 → (bdy w pl gi).testBit pl = false := by decide +kernel
theorem par_own {k w pl : Nat} (h : pl < 25) : (parA (k + 1) w pl).testBit pl = true := by
  rw [parA, Nat.testBit_or, cb, if_pos h, Nat.testBit_two_pow_self, Bool.true_or]
/-- p is shaded in hour h on road r -/
def isSh (V : Vw) (h r p : Nat) : Bool := decide (V.2.2 p 6 = 1) || (shL (gs V h r (pb V) true) 99 V.1 0 0).testBit (V.2.2 p 0)
theorem bs_pb {T : Mem} {V : Vw} (hB : VB V) (hV : MV T V) {p : Nat} (hp : p < 10) : bt (T 0 10) p = pb V p := by
  have e5 := (hV.2.2 p hp).2.2.2.2.1
  have b5 := (hB.2.2.1 p hp).2.2.2.2.1
  rw [bitI_eq _ (by omega)] at e5
  unfold pb
  by_cases h : bt (T 0 10) p = true
  · rw [if_pos h, show (1 : Int32) = nI 1 from rfl, nI_eq (by omega) (by omega)] at e5
    rw [h, ← e5]; rfl
  · rw [if_neg h, show (0 : Int32) = nI 0 from rfl, nI_eq (by omega) (by omega)] at e5
    rw [← e5]
    simpa using h
theorem hat_b {T : Mem} {V : Vw} (hB : VB V) (hV : MV T V) {p : Nat} (hp : p < 10) : bt (T 0 11) p = decide (V.2.2 p 6 = 1) := by
  have e5 := (hV.2.2 p hp).2.2.2.2.2
  have b5 := (hB.2.2.1 p hp).2.2.2.2.2
  rw [bitI_eq _ (by omega)] at e5
  by_cases h : bt (T 0 11) p = true
  · rw [if_pos h, show (1 : Int32) = nI 1 from rfl, nI_eq (by omega) (by omega)] at e5
    rw [h, ← e5]; rfl
  · rw [if_neg h, show (0 : Int32) = nI 0 from rfl, nI_eq (by omega) (by omega)] at e5
    rw [← e5]
    simpa using h
theorem gs_cg (V : Vw) (h r : Nat) {sb sb' : Nat → Bool} (all : Bool) {p : Nat} (e : sb p = sb' p) : gs V h r sb all p = gs V h r sb' all p := by unfold gs; rw [e]
/-- own shade on the own place: by the parasol alone -/
theorem gs_own {V : Vw} (hB : VB V) {h r : Nat} (hh : h < 12) (sb : Nat → Bool) (all : Bool) {p : Nat} (hp : p < 10) : (gs V h r sb all p).testBit (V.2.2 p 0) = sb p := by
  have b0 := hB.2.2.1 p hp
  have ba := (hB.2.1 h hh).2.1
  unfold gs
  have e1 : (if all = true then body (V.2.2 p 1) (V.2.2 p 2) (V.2.1 h 1) (wy (V.2.1 h 0) r) (V.2.2 p 0) else 0).testBit (V.2.2 p 0) = false := by
    by_cases c : all = true
    · rw [if_pos c]
      unfold body
      generalize hx : (if V.2.2 p 2 = 3 then 3 else 2) = x
      by_cases c2 : 5 ≤ V.2.2 p 1 ∧ V.2.1 h 1 ≤ x
      · rw [if_pos c2]; exact body_own _ (wy_lt _ _) _ (by omega) _ (by omega)
      · rw [if_neg c2]; exact Nat.zero_testBit _
    · rw [if_neg c]; exact Nat.zero_testBit _
  rw [Nat.testBit_or, e1, Bool.or_false]
  by_cases c : sb p = true
  · rw [if_pos c, c]
    obtain ⟨k, hk⟩ : ∃ k, 5 - V.2.1 h 1 = k + 1 := ⟨4 - V.2.1 h 1, by omega⟩
    rw [hk]
    exact par_own (by omega)
  · rw [if_neg c, Nat.zero_testBit]
    simpa using c
theorem shd_X {S : Mem} {V : Vw} (hB : VB V) (h : XV S V) {p m : Nat} (hp : p < V.1) : fX6_isShaded S (nI p) (nI m) = some (if (decide (V.2.2 p 6 = 1) || m.testBit (V.2.2 p 0)) = true then nI 1 else nI 0, S) := by
  obtain ⟨e0, e1, e2, e3, e5, e6⟩ := has_V hB h hp
  have hn := hB.1
  obtain ⟨b0, b1, b2, b3, b5, b6⟩ := hB.2.2.1 p (by omega)
  have en := h.1
  by_cases c : V.2.2 p 6 = 1
  · rw [c] at e6
    rw [if_pos (by simp [c])]
    simp (disch := first | omega | assumption) only [fX6_isShaded, fX6_isShaded_35, fX6_isPilgrim, en, e6, mset_ne, mset_same, upd_same, upd_ne, ltm_e, lti_e, bnd_e, fa_lit, nI_add, pk_mul, nI_clamp, gd_in, nlt0, nI_ltI, nI_leI, nI_eq, if_true, if_false, if_pos, if_neg]
  · have k : ((nI m >>> (nI (V.2.2 p 0) &&& 31)) &&& (1 : Int32)) = if m.testBit (V.2.2 p 0) = true then 1 else 0 := bitI_nI m (by omega)
    have k' : ((nI m >>> (nI (V.2.2 p 0) &&& nI 31)) &&& nI 1) = if m.testBit (V.2.2 p 0) = true then nI 1 else nI 0 := k
    have c6 : V.2.2 p 6 = 0 := by omega
    rw [decide_eq_false c, Bool.false_or]
    by_cases q : m.testBit (V.2.2 p 0) = true
    · rw [if_pos q] at k' ⊢
      simp (disch := first | omega | assumption) only [fX6_isShaded, fX6_isShaded_35, fX6_isPilgrim, en, e6, e0, k', mset_ne, mset_same, upd_same, upd_ne, ltm_e, lti_e, bnd_e, fa_lit, nI_add, pk_mul, nI_clamp, gd_in, nlt0, nI_ltI, nI_leI, nI_eq, if_true, if_false, if_pos, if_neg]
    · rw [if_neg q] at k' ⊢
      simp (disch := first | omega | assumption) only [fX6_isShaded, fX6_isShaded_35, fX6_isPilgrim, en, e6, e0, k', mset_ne, mset_same, upd_same, upd_ne, ltm_e, lti_e, bnd_e, fa_lit, nI_add, pk_mul, nI_clamp, gd_in, nlt0, nI_ltI, nI_leI, nI_eq, if_true, if_false, if_pos, if_neg]
theorem clr_iff {x : Int32} {p : Nat} (hp : p < 32) : (x &&& (one p ^^^ -1)) = 0 ↔ ∀ j, j < 32 → j ≠ p → bt x j = false := by
  rw [eq0_iff]
  constructor
  · intro h j hj hne
    have := h j hj
    rw [bt_clr _ hp hj, decide_eq_false hne] at this
    simpa using this
  · intro h j hj
    rw [bt_clr _ hp hj]
    by_cases e : j = p
    · rw [decide_eq_true e]; simp
    · rw [h j hj e, Bool.false_and]
/-- the reference's answer at a place: somebody else shades it, or a parasol of the set, or a hat -/
def shAt (V : Vw) (h r : Nat) (sb : Nat → Bool) (all : Bool) (p c : Nat) : Prop := (∃ j, j < V.1 ∧ j ≠ p ∧ (gs V h r sb all j).testBit c = true) ∨ sb p = true ∨ V.2.2 p 6 = 1
theorem shd_M {T : Mem} {V : Vw} (hB : VB V) (hV : MV T V) {h r p c : Nat} {all : Bool} {set : Int32} {G : Nat → Int32} (hG : ∀ c j, c < 25 → bt (G c) j = (decide (j < V.1) && (gs V h r (bt set) all j).testBit c)) (hT : T 21 = G) (hp : p < V.1) (hc : c < 25) : ∃ v, fX8_isShadedAt T (nI p) (nI c) set = some (v, T) ∧ ((shAt V h r (bt set) all p c ∧ v = nI 1) ∨ (¬ shAt V h r (bt set) all p c ∧ v = nI 0)) := by
  have hn := hB.1
  have hp32 : p < 32 := by omega
  have k1 : ((G c &&& (one p ^^^ -1)) = 0) ↔ ¬ ∃ j, j < V.1 ∧ j ≠ p ∧ (gs V h r (bt set) all j).testBit c = true := by
    rw [clr_iff hp32]
    constructor
    · rintro q ⟨j, h1, h2, h3⟩
      have := q j (by omega) h2
      rw [hG c j hc, decide_eq_true h1, h3] at this
      cases this
    · intro q j hj hne
      rw [hG c j hc]
      by_cases h1 : j < V.1
      · rw [decide_eq_true h1, Bool.true_and]
        cases h3 : (gs V h r (bt set) all j).testBit c
        · rfl
        · exact absurd ⟨j, h1, hne, h3⟩ q
      · rw [decide_eq_false h1, Bool.false_and]
  have k2 : ((((set ||| T 0 11) >>> (nI p &&& 31)) &&& (1 : Int32)) = 1) ↔ (bt set p = true ∨ V.2.2 p 6 = 1) := by
    have : ((((set ||| T 0 11) >>> (nI p &&& 31)) &&& (1 : Int32)) = 1) ↔ bt (set ||| T 0 11) p = true := bitI_iff _ hp32
    rw [this, b_or, hat_b hB hV (by omega), Bool.or_eq_true, decide_eq_true_eq]
  have k1' : ((G c &&& (((1 : Int32) <<< (nI p &&& 31)) ^^^ (-1 : Int32))) = 0) ↔ ¬ ∃ j, j < V.1 ∧ j ≠ p ∧ (gs V h r (bt set) all j).testBit c = true := k1
  unfold fX8_isShadedAt fX8_isShadedAt_29
  rw [gd_in _ hc (by omega), nI_clamp (by omega), hT]
  by_cases a : ∃ j, j < V.1 ∧ j ≠ p ∧ (gs V h r (bt set) all j).testBit c = true
  · rw [if_neg (fun q => (k1'.1 q) a)]
    exact ⟨1, rfl, Or.inl ⟨Or.inl a, rfl⟩⟩
  · rw [if_pos (k1'.2 a)]
    by_cases b : bt set p = true ∨ V.2.2 p 6 = 1
    · rw [if_pos (k2.2 b)]
      exact ⟨1, rfl, Or.inl ⟨Or.inr b, rfl⟩⟩
    · rw [if_neg (fun q => b (k2.1 q))]
      exact ⟨0, rfl, Or.inr ⟨fun q => q.elim a b, rfl⟩⟩
/-- the two ways of saying that p is shaded -/
theorem sh_eq {V : Vw} (hB : VB V) {h r p : Nat} {sb : Nat → Bool} (hh : h < 12) (hp : p < V.1) (hs : ∀ j, j < 10 → sb j = pb V j) : shAt V h r sb true p (V.2.2 p 0) ↔ isSh V h r p = true := by
  have hn := hB.1
  unfold isSh
  rw [Bool.or_eq_true, decide_eq_true_eq, shL_bit]
  constructor
  · rintro (⟨j, h1, h2, h3⟩ | h1 | h1)
    · rw [gs_cg V h r true (hs j (by omega))] at h3
      exact Or.inr (Or.inr ⟨j, by omega, by omega, by omega, h3⟩)
    · rw [hs p (by omega)] at h1
      exact Or.inr (Or.inr ⟨p, by omega, by omega, by omega, by rw [gs_own hB hh _ _ (by omega)]; exact h1⟩)
    · exact Or.inl h1
  · rintro (h1 | h1 | ⟨j, h1, h2, h3, h4⟩)
    · exact Or.inr (Or.inr h1)
    · rw [Nat.zero_testBit] at h1; cases h1
    · by_cases e : j = p
      · subst e
        rw [gs_own hB hh _ _ (by omega)] at h4
        exact Or.inr (Or.inl (by rw [hs j (by omega)]; exact h4))
      · rw [← gs_cg V h r true (hs j (by omega))] at h4
        exact Or.inl ⟨j, by omega, e, h4⟩
/-- the shade of hour h on road r stands in the reference's row -/
def Shd (T : Mem) (V : Vw) (h r : Nat) : Prop := MV T V ∧ ∀ c j, c < 25 → bt (T 21 c) j = (decide (j < V.1) && (gs V h r (bt (T 0 10)) true j).testBit c)
theorem finds_all {T : Mem} {V : Vw} (hB : VB V) (hV : MV T V) {h r : Nat} (hh : h < 12) (hr : r < 8) : ∃ G : Nat → Int32, fX8_findsShade T (nI h) (nI r) (T 0 10) (nI 1) = some (nI 0, mput T 21 G) ∧ Shd (mput T 21 G) V h r := by
  obtain ⟨G, g1, g2⟩ := finds_M hB hV hh hr (show 1 < 2 by omega) (T 0 10)
  refine ⟨G, g1, hV.m 21 (by omega) G, fun c j hc => ?_⟩
  rw [mput_same, mput_ne _ _ (show 0 ≠ 21 by omega)]
  exact g2 c j hc
theorem findsNow_M {T : Mem} {V : Vw} (hB : VB V) (hV : MV T V) {h : Nat} (hh : h < 12) : ∃ G : Nat → Int32, fX8_findsShadeNow T (nI h) = some (nI 0, mput T 21 G) ∧ Shd (mput T 21 G) V h (V.2.1 h 3) := by
  obtain ⟨G, g1, g2⟩ := finds_all hB hV hh (show V.2.1 h 3 < 8 by have := hB.2.1 h hh; omega)
  refine ⟨G, ?_, g2⟩
  have e := hV.2.1 h 3 hh (by omega)
  simp (disch := first | omega | assumption) only [fX8_findsShadeNow, e, g1, mset_ne, mset_same, upd_same, upd_ne, ltm_e, lti_e, bnd_e, fa_lit, nI_add, pk_mul, nI_clamp, gd_in, nlt0, nI_ltI, nI_leI, nI_eq, if_true, if_false, if_pos, if_neg]
theorem isB_ite (c : Prop) [Decidable c] : isB (if c then nI 1 else nI 0) = true := by
  by_cases h : c
  · rw [if_pos h]; rfl
  · rw [if_neg h]; rfl
theorem isShd_M {T : Mem} {V : Vw} (hB : VB V) {h r p : Nat} (hS : Shd T V h r) (hh : h < 12) (hp : p < V.1) : fX8_isShaded T (nI p) = some (if isSh V h r p = true then nI 1 else nI 0, T) := by
  have hn := hB.1
  obtain ⟨hV, hG⟩ := hS
  have e0 := (hV.2.2 p (by omega)).1
  have b0 := (hB.2.2.1 p (by omega)).1
  obtain ⟨v, v1, v2⟩ := shd_M hB hV (G := T 21) hG rfl hp (show V.2.2 p 0 < 25 by omega)
  rw [sh_eq hB hh hp (fun j hj => bs_pb hB hV hj)] at v2
  have ev : v = if isSh V h r p = true then nI 1 else nI 0 := by
    rcases v2 with ⟨a, b⟩ | ⟨a, b⟩
    · rw [if_pos a]; exact b
    · rw [if_neg a]; exact b
  have hb := isB_ite (isSh V h r p = true)
  rw [ev] at v1
  simp (disch := first | omega | assumption) only [fX8_isShaded, e0, v1, gd_of _ hb, mset_ne, mset_same, upd_same, upd_ne, ltm_e, lti_e, bnd_e, fa_lit, nI_add, pk_mul, nI_clamp, gd_in, nlt0, nI_ltI, nI_leI, nI_eq, if_true, if_false, if_pos, if_neg]
/-- the sun that p would take in hour h on road r -/
def bu (V : Vw) (h r p : Nat) : Nat := if isSh V h r p = true then 0 else V.2.1 h 2 * V.2.2 p 3
theorem bu_lt {V : Vw} (hB : VB V) {h r p : Nat} (hh : h < 12) (hp : p < 10) : bu V h r p ≤ 81 := by
  have h1 := (hB.2.1 h hh).2.2.1
  have h2 := (hB.2.2.1 p hp).2.2.2.1
  unfold bu
  split
  · omega
  · exact Nat.mul_le_mul h1 h2
theorem burn_M {T : Mem} {V : Vw} (hB : VB V) {h r p : Nat} (hS : Shd T V h r) (hh : h < 12) (hp : p < V.1) : fX8_burnIn T (nI p) (nI h) = some (nI (bu V h r p), T) := by
  have hn := hB.1
  have e := isShd_M hB hS hh hp
  have e2 := hS.1.2.1 h 2 hh (by omega)
  have e3 := (hS.1.2.2 p (by omega)).2.2.2.1
  unfold bu
  by_cases c : isSh V h r p = true
  · rw [if_pos c] at e ⊢
    simp (disch := first | omega | assumption) only [fX8_burnIn, e, mset_ne, mset_same, upd_same, upd_ne, ltm_e, lti_e, bnd_e, fa_lit, nI_add, pk_mul, nI_clamp, gd_in, nlt0, nI_ltI, nI_leI, nI_eq, if_true, if_false, if_pos, if_neg]
  · rw [if_neg c] at e ⊢
    simp (disch := first | omega | assumption) only [fX8_burnIn, e, e2, e3, mset_ne, mset_same, upd_same, upd_ne, ltm_e, lti_e, bnd_e, fa_lit, nI_add, pk_mul, nI_clamp, gd_in, nlt0, nI_ltI, nI_leI, nI_eq, if_true, if_false, if_pos, if_neg]
theorem m1_x : ∀ i, i < 10 → (nI i = -nI 1 ↔ i = 99) := fun i hi => ⟨fun q => absurd q (m1_ne (by omega)), fun q => absurd q (by omega)⟩
/-- the mask of all shade -/
def shM (V : Vw) (h r : Nat) : Nat := shL (gs V h r (pb V) true) 99 V.1 0 0
theorem shadeA_X {S : Mem} {V : Vw} (hB : VB V) (h : XV S V) {g r : Nat} (hg : g < 12) (hr : r < 8) : fX6_shadeIn S (nI g) (nI r) (-nI 1) = some (nI (shM V g r), S) := shade_X hB h hg hr m1_x
theorem isShd_X {S : Mem} {V : Vw} (hB : VB V) (h : XV S V) {g r p : Nat} (hp : p < V.1) : fX6_isShaded S (nI p) (nI (shM V g r)) = some (if isSh V g r p = true then nI 1 else nI 0, S) := shd_X hB h hp
theorem burn_X {S : Mem} {V : Vw} (hB : VB V) (h : XV S V) {g r p : Nat} (hg : g < 12) (hp : p < V.1) : fX5_burnOf S (nI p) (nI g) (nI (shM V g r)) = some (nI (bu V g r p), S) := by
  have e := isShd_X hB h (g := g) (r := r) hp
  have e2 := inH_V h hg (show 2 < 5 by omega)
  obtain ⟨-, -, -, e3, -, -⟩ := has_V hB h hp
  unfold bu
  by_cases c : isSh V g r p = true
  · rw [if_pos c] at e ⊢
    simp (disch := first | omega | assumption) only [fX5_burnOf, e, mset_ne, mset_same, upd_same, upd_ne, ltm_e, lti_e, bnd_e, fa_lit, nI_add, pk_mul, nI_clamp, gd_in, nlt0, nI_ltI, nI_leI, nI_eq, if_true, if_false, if_pos, if_neg]
  · rw [if_neg c] at e ⊢
    simp (disch := first | omega | assumption) only [fX5_burnOf, e, e2, e3, mset_ne, mset_same, upd_same, upd_ne, ltm_e, lti_e, bnd_e, fa_lit, nI_add, pk_mul, nI_clamp, gd_in, nlt0, nI_ltI, nI_leI, nI_eq, if_true, if_false, if_pos, if_neg]
