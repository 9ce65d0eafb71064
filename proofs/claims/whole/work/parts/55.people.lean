/-! bits (the first family is kit/laws/BITS.to-paste's); PILGRIMS' columns; who stands where; quarrel -/
def bt (x : Int32) (i : Nat) : Bool := x.toBitVec.getLsbD i
theorem b_ext {x y : Int32} (h : ∀ i, i < 32 → bt x i = bt y i) : x = y := Int32.toBitVec_inj.mp (BitVec.eq_of_getLsbD_eq (fun i hi => h i hi))
theorem b_or (x y : Int32) (i : Nat) : bt (x ||| y) i = (bt x i || bt y i) := by unfold bt; rw [Int32.toBitVec_or, BitVec.getLsbD_or]
theorem b_and (x y : Int32) (i : Nat) : bt (x &&& y) i = (bt x i && bt y i) := by unfold bt; rw [Int32.toBitVec_and, BitVec.getLsbD_and]
theorem b_xor (x y : Int32) (i : Nat) : bt (x ^^^ y) i = (bt x i ^^ bt y i) := by unfold bt; rw [Int32.toBitVec_xor, BitVec.getLsbD_xor]
theorem b_big {x : Int32} {i : Nat} (h : 32 ≤ i) : bt x i = false := BitVec.getLsbD_of_ge _ _ h
theorem b_255 (i : Nat) : bt 255 i = decide (i < 8) := by
  rcases Nat.lt_or_ge i 32 with h | h
  · exact (by decide +kernel : ∀ i, i < 32 → bt 255 i = decide (i < 8)) i h
  · rw [b_big h, decide_eq_false (by omega)]
theorem b_m1 : ∀ i, i < 32 → bt (-1) i = true := by decide +kernel
theorem b_0 (i : Nat) : bt 0 i = false := BitVec.getLsbD_zero
theorem s_l : ∀ n, n < 32 → ((nI n &&& 31).toBitVec.smod 32).toNat = n := by decide +kernel
theorem s_u : ∀ n, n < 32 → (((nI n).toUInt32 &&& Int32.toUInt32 31).toBitVec % 32).toNat = n := by decide +kernel
theorem b_shl (n : Nat) (hn : n < 32) (x : Int32) {i : Nat} (hi : i < 32) : bt (x <<< (nI n &&& 31)) i = (decide (n ≤ i) && bt x (i - n)) := by
  unfold bt
  rw [Int32.toBitVec_shiftLeft]
  show (x.toBitVec <<< ((nI n &&& 31).toBitVec.smod 32).toNat).getLsbD i = _
  rw [s_l n hn, BitVec.getLsbD_shiftLeft]
  rcases Nat.lt_or_ge i n with h | h
  · simp [h, Nat.not_le.mpr h]
  · simp [hi, h, Nat.not_lt.mpr h]
theorem b_ushr (n : Nat) (hn : n < 32) (x : Int32) (i : Nat) : bt ((x.toUInt32 >>> ((nI n).toUInt32 &&& Int32.toUInt32 31)).toInt32) i = bt x (n + i) := by
  show (x.toUInt32 >>> ((nI n).toUInt32 &&& Int32.toUInt32 31)).toBitVec.getLsbD i = x.toUInt32.toBitVec.getLsbD (n + i)
  rw [UInt32.toBitVec_shiftRight]
  show (x.toUInt32.toBitVec >>> (((nI n).toUInt32 &&& Int32.toUInt32 31).toBitVec % 32).toNat).getLsbD i = _
  rw [s_u n hn, BitVec.getLsbD_ushiftRight]
theorem b_sshr (n : Nat) (hn : n < 32) (x : Int32) {i : Nat} (hi : i < 32) : bt (x >>> (nI n &&& 31)) i = if n + i < 32 then bt x (n + i) else bt x 31 := by
  unfold bt
  rw [Int32.toBitVec_shiftRight]
  show (x.toBitVec.sshiftRight ((nI n &&& 31).toBitVec.smod 32).toNat).getLsbD i = _
  rw [s_l n hn, BitVec.getLsbD_sshiftRight, BitVec.msb_eq_getLsbD_last]
  simp [hi]
def one (p : Nat) : Int32 := (1 : Int32) <<< (nI p &&& 31)
theorem bt_1 (i : Nat) : bt 1 i = decide (i = 0) := by
  rcases Nat.lt_or_ge i 32 with h | h
  · exact (by decide +kernel : ∀ i, i < 32 → bt 1 i = decide (i = 0)) i h
  · rw [b_big h, decide_eq_false (by omega)]
theorem bt_one {p : Nat} (hp : p < 32) (i : Nat) : bt (one p) i = decide (i = p) := by
  rcases Nat.lt_or_ge i 32 with h | h
  · rw [one, b_shl p hp _ h, bt_1]
    by_cases e : i = p
    · subst e; simp
    · rw [decide_eq_false e]
      by_cases h1 : p ≤ i
      · rw [decide_eq_false (show ¬ i - p = 0 by omega), Bool.and_false]
      · rw [decide_eq_false h1, Bool.false_and]
  · rw [b_big h, decide_eq_false (by omega)]
theorem bitI_eq (x : Int32) {p : Nat} (hp : p < 32) : bitI x p = if bt x p = true then 1 else 0 := by
  have h : ∀ i, i < 32 → bt (bitI x p) i = (decide (i = 0) && bt x p) := by
    intro i hi
    rw [bitI, b_and, b_sshr p hp x hi, bt_1]
    by_cases e : i = 0
    · subst e
      rw [Nat.add_zero, if_pos hp]
      simp
    · rw [decide_eq_false e, Bool.and_false, Bool.false_and]
  by_cases hb : bt x p = true
  · rw [if_pos hb]
    refine b_ext (fun i hi => ?_)
    rw [h i hi, hb, Bool.and_true, bt_1]
  · rw [if_neg hb]
    refine b_ext (fun i hi => ?_)
    rw [h i hi, b_0]
    simp [hb]
theorem bitI_iff (x : Int32) {p : Nat} (hp : p < 32) : bitI x p = 1 ↔ bt x p = true := by
  rw [bitI_eq x hp]
  by_cases h : bt x p = true
  · rw [if_pos h]; exact ⟨fun _ => h, fun _ => rfl⟩
  · rw [if_neg h]; exact ⟨fun q => absurd q (by decide), fun q => absurd q h⟩
theorem bitI_0 (x : Int32) {p : Nat} (hp : p < 32) : bitI x p = 0 ↔ bt x p = false := by
  rw [bitI_eq x hp]
  by_cases h : bt x p = true
  · rw [if_pos h]; exact ⟨fun q => absurd q (by decide), fun q => absurd (h.symm.trans q) (by decide)⟩
  · rw [if_neg h]; exact ⟨fun _ => by simpa using h, fun _ => rfl⟩
theorem bitI_cg {x y : Int32} {p q : Nat} (hp : p < 32) (hq : q < 32) (h : bt x p = bt y q) : bitI x p = bitI y q := by
  rw [bitI_eq x hp, bitI_eq y hq, h]
theorem bt_set (x : Int32) {p : Nat} (hp : p < 32) (i : Nat) : bt (x ||| one p) i = (bt x i || decide (i = p)) := by rw [b_or, bt_one hp]
theorem bt_clr (x : Int32) {p : Nat} (hp : p < 32) {i : Nat} (hi : i < 32) : bt (x &&& (one p ^^^ -1)) i = (bt x i && !decide (i = p)) := by
  rw [b_and, b_xor, bt_one hp, b_m1 i hi]
  cases decide (i = p) <;> cases bt x i <;> rfl
theorem has_X (S : Mem) {n p c : Nat} (hn : n ≤ 10) (e : S 1 9 = nI n) (hp : p < n) (hc : c < 10) : fX6_has S (nI p) (nI c) = some (S 3 (10 * p + c), S) := by
  simp (disch := first | omega | assumption) only [fX6_has, fX6_isPilgrim, e, mset_ne, mset_same, upd_same, upd_ne, ltm, lti, bnd_some, fa_lit, nI_add, pk_mul, nI_clamp, gd_in, nlt0, nI_ltI, nI_leI, nI_eq, if_true, if_false, if_pos, if_neg]
  rw [Nat.mul_comm]
theorem put_X (S : Mem) {n p c : Nat} (v : Int32) (hn : n ≤ 10) (e : S 1 9 = nI n) (hp : p < n) (hc : c < 10) : fX6_put S (nI p) (nI c) v = some (0, mset S 3 (10 * p + c) v) := by
  simp (disch := first | omega | assumption) only [fX6_put, fX6_isPilgrim, e, mset_ne, mset_same, upd_same, upd_ne, ltm, lti, bnd_some, fa_lit, nI_add, pk_mul, nI_clamp, gd_in, nlt0, nI_ltI, nI_leI, nI_eq, if_true, if_false, if_pos, if_neg]
  rw [Nat.mul_comm]
/-- who stands there: the first -/
def whoS (pl : Nat → Int32) (c : Int32) : Nat → Nat → Int32
  | 0, _ => -1
  | k + 1, i => if pl i = c then nI i else whoS pl c k (i + 1)
theorem whoS_cg {pl pl' : Nat → Int32} (c : Int32) : ∀ k i, (∀ j, i ≤ j → j < i + k → pl j = pl' j) → whoS pl c k i = whoS pl' c k i := by
  intro k
  induction k with
  | zero => intro i _; rfl
  | succ k ih =>
    intro i h
    rw [whoS, whoS, h i (Nat.le_refl i) (by omega), ih (i + 1) (fun j h1 h2 => h j (by omega) (by omega))]
theorem who_M (T : Mem) (c : Int32) {n : Nat} (hn : n ≤ 10) (e : T 0 6 = nI n) : fX8_whoAt T c = some (whoS (fun p => T 1 (5 + p)) c n 0, T) := by
  have key : ∀ k i f, i + k = n → k < f → fX8_whoAt_2 f T c (nI i) = some (whoS (fun p => T 1 (5 + p)) c k i, T) := by
    intro k
    induction k with
    | zero =>
      intro i f hi hf
      obtain ⟨f, rfl⟩ : ∃ g, f = g + 1 := ⟨f - 1, by omega⟩
      show fX8_whoAt_2_b (fX8_whoAt_2 f) T c (nI i) = _
      have hi : i = n := by omega
      subst hi
      simp (disch := first | omega | assumption) only [fX8_whoAt_2_b, e, whoS, mset_ne, mset_same, upd_same, upd_ne, ltm, lti, bnd_some, fa_lit, nI_add, pk_mul, nI_clamp, gd_in, nlt0, nI_ltI, nI_leI, nI_eq, if_true, if_false, if_pos, if_neg]
    | succ k ih =>
      intro i f hi hf
      obtain ⟨f, rfl⟩ : ∃ g, f = g + 1 := ⟨f - 1, by omega⟩
      show fX8_whoAt_2_b (fX8_whoAt_2 f) T c (nI i) = _
      simp (disch := first | omega | assumption) only [fX8_whoAt_2_b, e, whoS, mset_ne, mset_same, upd_same, upd_ne, ltm, lti, bnd_some, fa_lit, nI_add, pk_mul, nI_clamp, gd_in, nlt0, nI_ltI, nI_leI, nI_eq, if_true, if_false, if_pos, if_neg]
      by_cases h : T 1 (5 + i) = c
      · rw [if_pos h, if_pos h]
      · rw [if_neg h, if_neg h]; exact ih (i + 1) f (by omega) (by omega)
  exact key n 0 FU (by omega) (by unfold FU; omega)
theorem who_X (S : Mem) (c : Int32) {n : Nat} (hn : n ≤ 10) (e : S 1 9 = nI n) : fX6_whoStandsAt S c = some (whoS (fun p => S 3 (10 * p)) c n 0, S) := by
  have key : ∀ k i f, i + k = n → k < f → fX6_whoStandsAt_2 f S c (nI i) = some (whoS (fun p => S 3 (10 * p)) c k i, S) := by
    intro k
    induction k with
    | zero =>
      intro i f hi hf
      obtain ⟨f, rfl⟩ : ∃ g, f = g + 1 := ⟨f - 1, by omega⟩
      show fX6_whoStandsAt_2_b (fX6_whoStandsAt_2 f) S c (nI i) = _
      have hi : i = n := by omega
      subst hi
      simp (disch := first | omega | assumption) only [fX6_whoStandsAt_2_b, e, whoS, mset_ne, mset_same, upd_same, upd_ne, ltm, lti, bnd_some, fa_lit, nI_add, pk_mul, nI_clamp, gd_in, nlt0, nI_ltI, nI_leI, nI_eq, if_true, if_false, if_pos, if_neg]
    | succ k ih =>
      intro i f hi hf
      obtain ⟨f, rfl⟩ : ∃ g, f = g + 1 := ⟨f - 1, by omega⟩
      show fX6_whoStandsAt_2_b (fX6_whoStandsAt_2 f) S c (nI i) = _
      simp (disch := first | omega | assumption) only [fX6_whoStandsAt_2_b, e, whoS, has_X S hn e (show i < n by omega) (show 0 < 10 by omega), Nat.add_zero, mset_ne, mset_same, upd_same, upd_ne, ltm, lti, bnd_some, fa_lit, nI_add, pk_mul, nI_clamp, gd_in, nlt0, nI_ltI, nI_leI, nI_eq, if_true, if_false, if_pos, if_neg]
      by_cases h : S 3 (10 * i) = c
      · rw [if_pos h, if_pos h]
      · rw [if_neg h, if_neg h]; exact ih (i + 1) f (by omega) (by omega)
  exact key n 0 FU (by omega) (by unfold FU; omega)
/-- foes after a quarrel is told -/
theorem RFoe.put {X M X' M' : Mem} {a b : Nat} {va vb : Int32} (hR : RFoe X M) (ha : a < 10) (hb : b < 10) (hab : a ≠ b) (hX : X' 3 = upd (upd (X 3) a va) b vb) (hM : M' 8 = upd (upd (M 8) a va) b vb) (w : Bool) (h1 : ∀ i, i < 10 → bt va i = if i = b then w else bt (M 8 a) i) (h2 : ∀ i, i < 10 → bt vb i = if i = a then w else bt (M 8 b) i) : RFoe X' M' := by
  have gb : ∀ i, i < 10 → ∀ j, j < 10 → bt (upd (upd (M 8) a va) b vb i) j = if (i = a ∧ j = b) ∨ (i = b ∧ j = a) then w else bt (M 8 i) j := by
    intro i hi j hj
    by_cases e : i = b
    · subst e
      rw [upd_same, h2 j hj]
      by_cases f : j = a
      · rw [if_pos f, if_pos (Or.inr ⟨rfl, f⟩)]
      · rw [if_neg f, if_neg (by rintro (⟨q, -⟩ | ⟨-, q⟩); exact hab q.symm; exact f q)]
    · rw [upd_ne _ _ e]
      by_cases f : i = a
      · subst f
        rw [upd_same, h1 j hj]
        by_cases g : j = b
        · rw [if_pos g, if_pos (Or.inl ⟨rfl, g⟩)]
        · rw [if_neg g, if_neg (by rintro (⟨-, q⟩ | ⟨q, -⟩); exact g q; exact hab q)]
      · rw [upd_ne _ _ f, if_neg (by rintro (⟨q, -⟩ | ⟨q, -⟩); exact f q; exact e q)]
  rw [RFoe, hX, hM]
  refine ⟨fun i hi => ?_, fun i j hi hj => ?_⟩
  · by_cases e : i = b
    · rw [e, upd_same, upd_same]
    · rw [upd_ne _ _ e, upd_ne _ _ e]
      by_cases f : i = a
      · rw [f, upd_same, upd_same]
      · rw [upd_ne _ _ f, upd_ne _ _ f]; exact hR.1 i hi
  · refine bitI_cg (by omega) (by omega) ?_
    rw [gb i hi j hj, gb j hj i hi]
    by_cases c : (i = a ∧ j = b) ∨ (i = b ∧ j = a)
    · rw [if_pos c, if_pos (by rcases c with ⟨p, q⟩ | ⟨p, q⟩; exact Or.inr ⟨q, p⟩; exact Or.inl ⟨q, p⟩)]
    · rw [if_neg c, if_neg (by rintro (⟨p, q⟩ | ⟨p, q⟩); exact c (Or.inr ⟨q, p⟩); exact c (Or.inl ⟨q, p⟩))]
      have := hR.2 i j hi hj
      rw [bitI_eq _ (by omega), bitI_eq _ (by omega)] at this
      cases h3 : bt (M 8 i) j <;> cases h4 : bt (M 8 j) i <;> simp [h3, h4] at this ⊢
theorem sim_quarrel (a b v : Int32) (hv : isB v = true) : Sim RR (fun S => fX7_quarrel S a b v) (fun T => fX8_quarrel T a b v) := by
  intro S T hR
  obtain ⟨⟨n, d, t, pr, re, bl, c, hW, hP⟩, h2, h3, h4, h5⟩ := id hR
  obtain ⟨w0, w1, w2, w3, w4, w5, w6, w7, w8, w9, w10, w11, w12, w13, w14, w15, w16⟩ := hW
  have hn : n ≤ 10 := w0.1
  have e1 : S 1 9 = nI n := w1.1
  have e2 : T 0 6 = nI n := w1.2
  rcases ixC a (show n < 2 ^ 31 by omega) with ⟨p, hp, rfl⟩ | g | g
  · rcases ixC b (show n < 2 ^ 31 by omega) with ⟨q, hq, rfl⟩ | g | g
    · by_cases hpq : p = q
      · subst hpq
        exact ⟨0, S, mset T 0 0 0, by simp (disch := first | omega | assumption) only [fX7_quarrel, fX6_isPilgrim, e1, mset_ne, mset_same, upd_same, upd_ne, ltm, lti, bnd_some, fa_lit, nI_add, pk_mul, nI_clamp, gd_in, nlt0, nI_ltI, nI_leI, nI_eq, if_true, if_false, if_pos, if_neg], by simp (disch := first | omega | assumption) only [fX8_quarrel, fX8_isPilgrim, e2, mset_ne, mset_same, upd_same, upd_ne, ltm, lti, bnd_some, fa_lit, nI_add, pk_mul, nI_clamp, gd_in, nlt0, nI_ltI, nI_leI, nI_eq, if_true, if_false, if_pos, if_neg], hR.told 0⟩
      · have hfa : S 4 p = T 8 p := w13.1 p (by omega)
        have hfb : S 4 q = T 8 q := w13.1 q (by omega)
        by_cases hv0 : v = nI 0
        · subst hv0
          refine ⟨1, mset (mset (mset S 4 p (T 8 p &&& (one q ^^^ -nI 1))) 4 q (T 8 q &&& (one p ^^^ -nI 1))) 25 4 (nI 0), mset (mset (mset (mset T 0 0 (nI 0)) 8 p (T 8 p &&& (one q ^^^ -nI 1))) 8 q (T 8 q &&& (one p ^^^ -nI 1))) 0 3 (nI 0), ?_, ?_, ⟨⟨n, d, t, pr, re, bl, 0, ⟨w0, w1, w2, w3, w4, w5, w6, w7, w8, w9, w10, w11, w12, ?_, w14, w15, w16⟩, ⟨by omega, rfl, rfl, fun k h => absurd h (Nat.not_lt_zero k)⟩⟩, h2, h3, h4, h5⟩⟩
          · simp (disch := first | omega | assumption) only [fX7_quarrel, fX6_isPilgrim, fX7_quarrel_100, fX2_forget, e1, hfa, hfb, one, mset_ne, mset_same, upd_same, upd_ne, ltm, lti, bnd_some, fa_lit, nI_add, pk_mul, nI_clamp, gd_in, nlt0, nI_ltI, nI_leI, nI_eq, if_true, if_false, if_pos, if_neg]
          · simp (disch := first | omega | assumption) only [fX8_quarrel, fX8_isPilgrim, fX8_quarrel_62, fX8_quarrel_97, e2, one, mset_ne, mset_same, upd_same, upd_ne, ltm, lti, bnd_some, fa_lit, nI_add, pk_mul, nI_clamp, gd_in, nlt0, nI_ltI, nI_leI, nI_eq, if_true, if_false, if_pos, if_neg]
          · refine w13.put (a := p) (b := q) (va := T 8 p &&& (one q ^^^ -nI 1)) (vb := T 8 q &&& (one p ^^^ -nI 1)) (by omega) (by omega) hpq rfl rfl false (fun i hi => ?_) (fun i hi => ?_)
            · rw [show (-nI 1) = (-1 : Int32) from rfl, bt_clr _ (by omega) (by omega)]
              by_cases e : i = q <;> simp [e]
            · rw [show (-nI 1) = (-1 : Int32) from rfl, bt_clr _ (by omega) (by omega)]
              by_cases e : i = p <;> simp [e]
        · refine ⟨1, mset (mset (mset S 4 p (T 8 p ||| one q)) 4 q (T 8 q ||| one p)) 25 4 (nI 0), mset (mset (mset (mset T 0 0 (nI 0)) 8 p (T 8 p ||| one q)) 8 q (T 8 q ||| one p)) 0 3 (nI 0), ?_, ?_, ⟨⟨n, d, t, pr, re, bl, 0, ⟨w0, w1, w2, w3, w4, w5, w6, w7, w8, w9, w10, w11, w12, ?_, w14, w15, w16⟩, ⟨by omega, rfl, rfl, fun k h => absurd h (Nat.not_lt_zero k)⟩⟩, h2, h3, h4, h5⟩⟩
          · simp (disch := first | omega | assumption) only [fX7_quarrel, fX6_isPilgrim, fX7_quarrel_100, fX2_forget, e1, hfa, hfb, one, hv0, mset_ne, mset_same, upd_same, upd_ne, ltm, lti, bnd_some, fa_lit, nI_add, pk_mul, nI_clamp, gd_in, nlt0, nI_ltI, nI_leI, nI_eq, if_true, if_false, if_pos, if_neg]
          · simp (disch := first | omega | assumption) only [fX8_quarrel, fX8_isPilgrim, fX8_quarrel_62, fX8_quarrel_97, e2, one, hv0, mset_ne, mset_same, upd_same, upd_ne, ltm, lti, bnd_some, fa_lit, nI_add, pk_mul, nI_clamp, gd_in, nlt0, nI_ltI, nI_leI, nI_eq, if_true, if_false, if_pos, if_neg]
          · refine w13.put (a := p) (b := q) (va := T 8 p ||| one q) (vb := T 8 q ||| one p) (by omega) (by omega) hpq rfl rfl true (fun i hi => ?_) (fun i hi => ?_)
            · rw [bt_set _ (by omega)]
              by_cases e : i = q <;> simp [e]
            · rw [bt_set _ (by omega)]
              by_cases e : i = p <;> simp [e]
    · exact ⟨0, S, mset T 0 0 0, by simp (disch := first | omega | assumption) only [fX7_quarrel, fX6_isPilgrim, e1, lo1 g, lo2 g, lo3 g, lo4 g, lo5 g, mset_ne, mset_same, upd_same, upd_ne, ltm, lti, bnd_some, fa_lit, nI_add, pk_mul, nI_clamp, gd_in, nlt0, nI_ltI, nI_leI, nI_eq, if_true, if_false, if_pos, if_neg], by simp (disch := first | omega | assumption) only [fX8_quarrel, fX8_isPilgrim, e2, lo1 g, lo2 g, lo3 g, lo4 g, lo5 g, mset_ne, mset_same, upd_same, upd_ne, ltm, lti, bnd_some, fa_lit, nI_add, pk_mul, nI_clamp, gd_in, nlt0, nI_ltI, nI_leI, nI_eq, if_true, if_false, if_pos, if_neg], hR.told 0⟩
    · exact ⟨0, S, mset T 0 0 0, by simp (disch := first | omega | assumption) only [fX7_quarrel, fX6_isPilgrim, e1, hi1 g, hi2 g, hi3 g, hi4 g, hi5 g, mset_ne, mset_same, upd_same, upd_ne, ltm, lti, bnd_some, fa_lit, nI_add, pk_mul, nI_clamp, gd_in, nlt0, nI_ltI, nI_leI, nI_eq, if_true, if_false, if_pos, if_neg], by simp (disch := first | omega | assumption) only [fX8_quarrel, fX8_isPilgrim, e2, hi1 g, hi2 g, hi3 g, hi4 g, hi5 g, mset_ne, mset_same, upd_same, upd_ne, ltm, lti, bnd_some, fa_lit, nI_add, pk_mul, nI_clamp, gd_in, nlt0, nI_ltI, nI_leI, nI_eq, if_true, if_false, if_pos, if_neg], hR.told 0⟩
  · exact ⟨0, S, mset T 0 0 0, by simp (disch := first | omega | assumption) only [fX7_quarrel, fX6_isPilgrim, e1, lo1 g, lo2 g, lo3 g, lo4 g, lo5 g, mset_ne, mset_same, upd_same, upd_ne, ltm, lti, bnd_some, fa_lit, nI_add, pk_mul, nI_clamp, gd_in, nlt0, nI_ltI, nI_leI, nI_eq, if_true, if_false, if_pos, if_neg], by simp (disch := first | omega | assumption) only [fX8_quarrel, fX8_isPilgrim, e2, lo1 g, lo2 g, lo3 g, lo4 g, lo5 g, mset_ne, mset_same, upd_same, upd_ne, ltm, lti, bnd_some, fa_lit, nI_add, pk_mul, nI_clamp, gd_in, nlt0, nI_ltI, nI_leI, nI_eq, if_true, if_false, if_pos, if_neg], hR.told 0⟩
  · exact ⟨0, S, mset T 0 0 0, by simp (disch := first | omega | assumption) only [fX7_quarrel, fX6_isPilgrim, e1, hi1 g, hi2 g, hi3 g, hi4 g, hi5 g, mset_ne, mset_same, upd_same, upd_ne, ltm, lti, bnd_some, fa_lit, nI_add, pk_mul, nI_clamp, gd_in, nlt0, nI_ltI, nI_leI, nI_eq, if_true, if_false, if_pos, if_neg], by simp (disch := first | omega | assumption) only [fX8_quarrel, fX8_isPilgrim, e2, hi1 g, hi2 g, hi3 g, hi4 g, hi5 g, mset_ne, mset_same, upd_same, upd_ne, ltm, lti, bnd_some, fa_lit, nI_add, pk_mul, nI_clamp, gd_in, nlt0, nI_ltI, nI_leI, nI_eq, if_true, if_false, if_pos, if_neg], hR.told 0⟩
