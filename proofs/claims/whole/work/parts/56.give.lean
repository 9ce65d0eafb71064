/-! give, pilgrim -/
def cm (m : Nat) : Nat := [0, 4, 7, 8, 9].getD m 0
theorem cm_lt (m : Nat) : cm m < 10 := by
  unfold cm
  match m with
  | 0 => decide
  | 1 => decide
  | 2 => decide
  | 3 => decide
  | 4 => decide
  | n + 5 => simp
theorem cm_inj : ∀ a, a < 5 → ∀ b, b < 5 → cm a = cm b → a = b := by decide
theorem RMov.put {P N P' N' : Nat → Int32} {u p m : Nat} {v : Int32} (h : RMov P N u) (hp : p < 10) (hm : m < 5) (hP : P' = upd P (10 * p + cm m) v) (hN : N' = upd N (5 + 10 * m + p) v) (r0 : m = 0 → le32 v 24) (r2 : m = 2 → le32 v u) : RMov P' N' u := by
  subst hP; subst hN
  have gen : ∀ q, q < 10 → ∀ m', m' < 5 → P (10 * q + cm m') = N (5 + 10 * m' + q) → upd P (10 * p + cm m) v (10 * q + cm m') = upd N (5 + 10 * m + p) v (5 + 10 * m' + q) := by
    intro q hq m' hm' e
    have l1 := cm_lt m; have l2 := cm_lt m'
    by_cases c : q = p ∧ m' = m
    · obtain ⟨rfl, rfl⟩ := c
      rw [upd_same, upd_same]
    · have n1 : 10 * q + cm m' ≠ 10 * p + cm m := fun z => c ⟨by omega, cm_inj m' hm' m hm (by omega)⟩
      rw [upd_ne _ _ n1, upd_ne _ _ (by omega), e]
  have ran : ∀ q, q < 10 → ∀ m' b, m' < 5 → (m' = m → q = p → le32 v b) → le32 (N (5 + 10 * m' + q)) b → le32 (upd N (5 + 10 * m + p) v (5 + 10 * m' + q)) b := by
    intro q hq m' b hm' h1 h2
    by_cases c : q = p ∧ m' = m
    · obtain ⟨rfl, rfl⟩ := c
      rw [upd_same]; exact h1 rfl rfl
    · rw [upd_ne _ _ (by omega)]; exact h2
  intro q hq
  obtain ⟨a, b, c, d, e, f, g⟩ := h q hq
  exact ⟨gen q hq 0 (by omega) a, gen q hq 1 (by omega) b, gen q hq 2 (by omega) c, gen q hq 3 (by omega) d, gen q hq 4 (by omega) e, ran q hq 0 24 (by omega) (fun z _ => r0 z.symm) f, ran q hq 2 u (by omega) (fun z _ => r2 z.symm) g⟩
/-- the columns that stay, where no one of them is written -/
theorem RFix.cg {P P' : Nat → Int32} {M M' : Mem} (h : RFix P M) (hP : ∀ p, p < 10 → P' (10 * p + 1) = P (10 * p + 1) ∧ P' (10 * p + 2) = P (10 * p + 2) ∧ P' (10 * p + 3) = P (10 * p + 3) ∧ P' (10 * p + 5) = P (10 * p + 5) ∧ P' (10 * p + 6) = P (10 * p + 6)) (h5 : M' 5 = M 5) (h6 : M' 6 = M 6) (h7 : M' 7 = M 7) (hb : M' 0 10 = M 0 10) (hh : M' 0 11 = M 0 11) : RFix P' M' := by
  intro p hp
  obtain ⟨a, b, c, d, e⟩ := hP p hp
  rw [a, b, c, d, e, h5, h6, h7, hb, hh]
  exact h p hp
theorem RFix.mov {P : Nat → Int32} {M M' : Mem} {p m : Nat} {v : Int32} (h : RFix P M) (hm : m < 5) (h5 : M' 5 = M 5) (h6 : M' 6 = M 6) (h7 : M' 7 = M 7) (hb : M' 0 10 = M 0 10) (hh : M' 0 11 = M 0 11) : RFix (upd P (10 * p + cm m) v) M' := by
  refine h.cg (fun q hq => ?_) h5 h6 h7 hb hh
  have hc : cm m = 0 ∨ cm m = 4 ∨ cm m = 7 ∨ cm m = 8 ∨ cm m = 9 := by
    rcases (show m = 0 ∨ m = 1 ∨ m = 2 ∨ m = 3 ∨ m = 4 by omega) with rfl | rfl | rfl | rfl | rfl
    · exact Or.inl rfl
    · exact Or.inr (Or.inl rfl)
    · exact Or.inr (Or.inr (Or.inl rfl))
    · exact Or.inr (Or.inr (Or.inr (Or.inl rfl)))
    · exact Or.inr (Or.inr (Or.inr (Or.inr rfl)))
  refine ⟨upd_ne _ _ ?_, upd_ne _ _ ?_, upd_ne _ _ ?_, upd_ne _ _ ?_, upd_ne _ _ ?_⟩ <;> omega
theorem bt_give (x : Int32) {p k : Nat} (hp : p < 10) (hk : k < 2) {i : Nat} (hi : i < 32) : bt ((x &&& (one p ^^^ -1)) ||| (nI k <<< (nI p &&& 31))) i = if i = p then decide (k = 1) else bt x i := by
  rw [b_or, bt_clr x (by omega) hi, b_shl p (by omega) _ hi]
  rcases (show k = 0 ∨ k = 1 by omega) with rfl | rfl
  · rw [show nI 0 = (0 : Int32) from rfl, b_0]
    by_cases e : i = p
    · subst e; simp
    · simp [e]
  · rw [show nI 1 = (1 : Int32) from rfl, bt_1]
    by_cases e : i = p
    · subst e; simp
    · by_cases h1 : p ≤ i
      · simp [e]; omega
      · simp [e, h1]
theorem bitI_give (x : Int32) {p k : Nat} (hp : p < 10) (hk : k < 2) {i : Nat} (hi : i < 10) : bitI ((x &&& (one p ^^^ -1)) ||| (nI k <<< (nI p &&& 31))) i = if i = p then nI k else bitI x i := by
  rw [bitI_eq _ (show i < 32 by omega), bt_give x hp hk (by omega)]
  by_cases e : i = p
  · rw [if_pos e, if_pos e]
    rcases (show k = 0 ∨ k = 1 by omega) with rfl | rfl <;> rfl
  · rw [if_neg e, if_neg e, bitI_eq _ (by omega)]
theorem RFix.par {P P' : Nat → Int32} {M M' : Mem} {p k : Nat} (h : RFix P M) (hp : p < 10) (hk : k < 2) (hP : P' = upd P (10 * p + 5) (nI k)) (h5 : M' 5 = M 5) (h6 : M' 6 = M 6) (h7 : M' 7 = M 7) (hb : M' 0 10 = (M 0 10 &&& (one p ^^^ -1)) ||| (nI k <<< (nI p &&& 31))) (hh : M' 0 11 = M 0 11) : RFix P' M' := by
  subst hP
  intro q hq
  rw [h5, h6, h7, hb, hh, bitI_give _ hp hk hq]
  obtain ⟨a, b, c, d, e, f⟩ := h q hq
  refine ⟨(upd_ne _ _ (by omega)).trans a, (upd_ne _ _ (by omega)).trans b, (upd_ne _ _ (by omega)).trans c, ?_, (upd_ne _ _ (by omega)).trans e, f⟩
  by_cases e : q = p
  · rw [e, upd_same, if_pos rfl]
  · rw [upd_ne _ _ (by omega), if_neg e]; exact d
theorem RFix.hat {P P' : Nat → Int32} {M M' : Mem} {p k : Nat} (h : RFix P M) (hp : p < 10) (hk : k < 2) (hP : P' = upd P (10 * p + 6) (nI k)) (h5 : M' 5 = M 5) (h6 : M' 6 = M 6) (h7 : M' 7 = M 7) (hb : M' 0 10 = M 0 10) (hh : M' 0 11 = (M 0 11 &&& (one p ^^^ -1)) ||| (nI k <<< (nI p &&& 31))) : RFix P' M' := by
  subst hP
  intro q hq
  rw [h5, h6, h7, hb, hh, bitI_give _ hp hk hq]
  obtain ⟨a, b, c, d, e, f⟩ := h q hq
  refine ⟨(upd_ne _ _ (by omega)).trans a, (upd_ne _ _ (by omega)).trans b, (upd_ne _ _ (by omega)).trans c, (upd_ne _ _ (by omega)).trans d, ?_, f⟩
  by_cases e9 : q = p
  · rw [e9, upd_same, if_pos rfl]
  · rw [upd_ne _ _ (by omega), if_neg e9]; exact e
theorem pas0 {d t bl : Nat} {S T : Mem} (h1 : S 25 4 = nI 0) (h2 : T 0 3 = nI 0) : RPas d t bl 0 S T := ⟨by omega, h1, h2, fun k h => absurd h (Nat.not_lt_zero k)⟩
/-- who stands there is one of the PILGRIMS, or none -/
theorem whoS_cases (pl : Nat → Int32) (c : Int32) : ∀ k i, whoS pl c k i = -1 ∨ ∃ j, i ≤ j ∧ j < i + k ∧ whoS pl c k i = nI j := by
  intro k
  induction k with
  | zero => intro i; exact Or.inl rfl
  | succ k ih =>
    intro i
    rw [whoS]
    by_cases h : pl i = c
    · rw [if_pos h]; exact Or.inr ⟨i, by omega, by omega, rfl⟩
    · rw [if_neg h]
      rcases ih (i + 1) with q | ⟨j, a, b, q⟩
      · exact Or.inl q
      · exact Or.inr ⟨j, by omega, by omega, q⟩
theorem who_eq {S T : Mem} {n u : Nat} (hn : n ≤ 10) (h : RMov (S 3) (T 1) u) (c : Int32) : whoS (fun p => S 3 (10 * p)) c n 0 = whoS (fun p => T 1 (5 + p)) c n 0 := whoS_cg c n 0 (fun j _ hj => (h j (by omega)).1)
/-- a world in which only what moves has moved -/
theorem RWn.mv {n d t pr re bl : Nat} {X X' M M' : Mem} (h : RWn n d t pr re bl X M) (hX : ∀ c, c ≤ 10 → c ≠ 2 → X' c = X c) (hM : ∀ c, c ∈ [3, 4, 5, 6, 7, 8, 9, 10, 13, 14, 15, 16, 17] → M' c = M c) (h6 : M' 0 6 = M 0 6) (h10 : M' 0 10 = M 0 10) (h11 : M' 0 11 = M 0 11) (h22 : M' 0 22 = M 0 22) (hN : ∀ j, j < 5 → M' 1 j = M 1 j) (hF : ∀ p, p < 10 → X' 2 (10 * p + 1) = X 2 (10 * p + 1) ∧ X' 2 (10 * p + 2) = X 2 (10 * p + 2) ∧ X' 2 (10 * p + 3) = X 2 (10 * p + 3) ∧ X' 2 (10 * p + 5) = X 2 (10 * p + 5) ∧ X' 2 (10 * p + 6) = X 2 (10 * p + 6)) (hMov : RMov (X' 2) (M' 1) (81 * (12 * d + t))) : RWn n d t pr re bl X' M' := by
  obtain ⟨w0, w1, w2, w3, w4, w5, w6, w7, w8, w9, w10, w11, w12, w13, w14, w15, w16⟩ := h
  have x0 := hX 0 (by omega) (by omega); have x1 := hX 1 (by omega) (by omega); have x3 := hX 3 (by omega) (by omega); have x4 := hX 4 (by omega) (by omega); have x5 := hX 5 (by omega) (by omega); have x6 := hX 6 (by omega) (by omega); have x7 := hX 7 (by omega) (by omega); have x8 := hX 8 (by omega) (by omega); have x9 := hX 9 (by omega) (by omega); have x10 := hX 10 (by omega) (by omega)
  have y3 := hM 3 (by decide); have y4 := hM 4 (by decide); have y5 := hM 5 (by decide); have y6 := hM 6 (by decide); have y7 := hM 7 (by decide); have y8 := hM 8 (by decide); have y9 := hM 9 (by decide); have y10 := hM 10 (by decide); have y13 := hM 13 (by decide); have y14 := hM 14 (by decide); have y15 := hM 15 (by decide); have y16 := hM 16 (by decide); have y17 := hM 17 (by decide)
  have n0 := hN 0 (by omega); have n1 := hN 1 (by omega); have n2 := hN 2 (by omega); have n3 := hN 3 (by omega); have n4 := hN 4 (by omega)
  refine ⟨w0, ?_, ?_, ?_, ?_, ?_, ?_, ?_, ?_, ?_, w10.cg hF y5 y6 y7 h10 h11, hMov, ?_, ?_, ?_, ?_, ?_⟩
  · rw [x0, h6]; exact w1
  · rw [x0, n0]; exact w2
  · rw [x0, n1]; exact w3
  · rw [x0, y4]; exact w4
  · rw [x0, y4]; exact w5
  · rw [x5, n4]; exact w6
  · rw [x0, n2]; exact w7
  · rw [x0, n3]; exact w8
  · rw [RHou, x1, y3]; exact w9
  · rw [y6]; exact w12
  · rw [RFoe, x3, y8]; exact w13
  · rw [RTol, x4, y10]; exact w14
  · rw [RBok, x6, y9]; exact w15
  · rw [RRul, x7, x8, x9, x10, h22, y13, y14, y15, y16, y17]; exact w16
theorem fix_ne {P : Nat → Int32} {p m : Nat} {v : Int32} (hm : m < 5) : ∀ q, q < 10 → upd P (10 * p + cm m) v (10 * q + 1) = P (10 * q + 1) ∧ upd P (10 * p + cm m) v (10 * q + 2) = P (10 * q + 2) ∧ upd P (10 * p + cm m) v (10 * q + 3) = P (10 * q + 3) ∧ upd P (10 * p + cm m) v (10 * q + 5) = P (10 * q + 5) ∧ upd P (10 * p + cm m) v (10 * q + 6) = P (10 * q + 6) := by
  intro q hq
  have hc : cm m = 0 ∨ cm m = 4 ∨ cm m = 7 ∨ cm m = 8 ∨ cm m = 9 := by
    rcases (show m = 0 ∨ m = 1 ∨ m = 2 ∨ m = 3 ∨ m = 4 by omega) with rfl | rfl | rfl | rfl | rfl
    · exact Or.inl rfl
    · exact Or.inr (Or.inl rfl)
    · exact Or.inr (Or.inr (Or.inl rfl))
    · exact Or.inr (Or.inr (Or.inr (Or.inl rfl)))
    · exact Or.inr (Or.inr (Or.inr (Or.inr rfl)))
  refine ⟨upd_ne _ _ ?_, upd_ne _ _ ?_, upd_ne _ _ ?_, upd_ne _ _ ?_, upd_ne _ _ ?_⟩ <;> omega
/-- one column of one PILGRIM moves, in both -/
theorem RWn.mv1 {n d t pr re bl p m : Nat} {v : Int32} {S T S' T' : Mem} (h : RWn n d t pr re bl (sl S 1) T) (hp : p < 10) (hm : m < 5) (r0 : m = 0 → le32 v 24) (r2 : m = 2 → le32 v (81 * (12 * d + t))) (hX : ∀ c, c ≤ 10 → c ≠ 2 → sl S' 1 c = sl S 1 c) (hX2 : S' 3 = upd (S 3) (10 * p + cm m) v) (hM : ∀ c, c ∈ [3, 4, 5, 6, 7, 8, 9, 10, 13, 14, 15, 16, 17] → T' c = T c) (h6 : T' 0 6 = T 0 6) (h10 : T' 0 10 = T 0 10) (h11 : T' 0 11 = T 0 11) (h22 : T' 0 22 = T 0 22) (hN : T' 1 = upd (T 1) (5 + 10 * m + p) v) : RWn n d t pr re bl (sl S' 1) T' := by
  have hX3 : sl S' 1 2 = upd (sl S 1 2) (10 * p + cm m) v := hX2
  refine h.mv hX hM h6 h10 h11 h22 (fun j hj => by rw [hN]; exact upd_ne _ _ (by omega)) (by rw [hX3]; exact fix_ne hm) ?_
  exact h.2.2.2.2.2.2.2.2.2.2.2.1.put hp hm hX3 hN r0 r2
theorem ms_sl {S : Mem} {c j p : Nat} {v w : Int32} (hc : 25 ≤ c) : ∀ k, k ≤ 10 → k ≠ 2 → sl (mset (mset S 3 p v) c j w) 1 k = sl S 1 k := by
  intro k h1 h2
  show mset (mset S 3 p v) c j w (1 + k) = S (1 + k)
  rw [mset_ne _ _ _ (by omega), mset_ne _ _ _ (by omega)]
theorem ms_T {T : Mem} {p : Nat} {v a b : Int32} : ∀ c, c ∈ [3, 4, 5, 6, 7, 8, 9, 10, 13, 14, 15, 16, 17] → mset (mset (mset T 0 0 a) 1 p v) 0 3 b c = T c := by
  intro c hc
  have h0 : c ≠ 0 := fun z => by subst z; revert hc; decide
  have h1 : c ≠ 1 := fun z => by subst z; revert hc; decide
  rw [mset_ne _ _ _ h0, mset_ne _ _ _ h1, mset_ne _ _ _ h0]
theorem RMov.fx {P N : Nat → Int32} {u p c : Nat} {v : Int32} (h : RMov P N u) (hc : c = 1 ∨ c = 2 ∨ c = 3 ∨ c = 5 ∨ c = 6) : RMov (upd P (10 * p + c) v) N u := by
  intro q hq
  obtain ⟨a, b, c, d, e, f⟩ := h q hq
  exact ⟨(upd_ne _ _ (by omega)).trans a, (upd_ne _ _ (by omega)).trans b, (upd_ne _ _ (by omega)).trans c, (upd_ne _ _ (by omega)).trans d, (upd_ne _ _ (by omega)).trans e, f⟩
theorem sim_give (a w v : Int32) : Sim RR (fun S => fX7_give S a w v) (fun T => fX8_give T a w v) := by
  intro S T hR
  obtain ⟨⟨n, d, t, pr, re, bl, c, hW, hP⟩, h2, h3, h4, h5⟩ := id hR
  have hW0 := hW
  obtain ⟨w0, w1, w2, w3, w4, w5, w6, w7, w8, w9, w10, w11, w12, w13, w14, w15, w16⟩ := hW
  have hn : n ≤ 10 := w0.1
  have e1 : S 1 9 = nI n := w1.1
  have e2 : T 0 6 = nI n := w1.2
  have w11' : RMov (S 3) (T 1) (81 * (12 * d + t)) := w11
  rcases ixC a (show n < 2 ^ 31 by omega) with ⟨p, hp, rfl⟩ | g | g
  · rcases ixC w (show 4 < 2 ^ 31 by omega) with ⟨k, hk, rfl⟩ | g | g
    · rcases (show k = 0 ∨ k = 1 ∨ k = 2 ∨ k = 3 by omega) with rfl | rfl | rfl | rfl
      · -- his PLACE
        rcases ixC v (show 25 < 2 ^ 31 by omega) with ⟨j, hj, rfl⟩ | g | g
        · have hx := who_X S (nI j) hn e1
          have hm := who_M (mset T 0 0 (nI 0)) (nI j) hn e2
          have hq : whoS (fun p => (mset T 0 0 (nI 0)) 1 (5 + p)) (nI j) n 0 = whoS (fun p => S 3 (10 * p)) (nI j) n 0 := (who_eq hn w11' (nI j)).symm
          rw [hq] at hm
          generalize whoS (fun p => S 3 (10 * p)) (nI j) n 0 = r at hx hm
          by_cases ok : r = -nI 1 ∨ r = nI p
          · refine ⟨1, mset (mset S 3 (10 * p + 0) (nI j)) 25 4 (nI 0), mset (mset (mset T 0 0 (nI 0)) 1 (5 + p) (nI j)) 0 3 (nI 0), ?_, ?_, ⟨⟨n, d, t, pr, re, bl, 0, hW0.mv1 (m := 0) (v := nI j) (show p < 10 by omega) (by omega) (fun _ => ⟨j, by omega, rfl⟩) (fun z => absurd z (by omega)) (ms_sl (by omega)) rfl ms_T rfl rfl rfl rfl rfl, pas0 rfl rfl⟩, h2, h3, h4, h5⟩⟩
            · rcases ok with ok | ok
              · simp (disch := first | omega | assumption) only [fX7_give, fX6_isPilgrim, fX7_canBeGiven, fX7_canBeGiven_63, fX7_isPlace, hx, ok, e1, put_X S (nI j) hn e1 hp (show 0 < 10 by omega), fX7_give_87, fX2_forget, mset_ne, mset_same, upd_same, upd_ne, ltm, lti, bnd_some, fa_lit, nI_add, pk_mul, nI_clamp, gd_in, nlt0, nI_ltI, nI_leI, nI_eq, if_true, if_false, if_pos, if_neg]
              · simp (disch := first | omega | assumption) only [fX7_give, fX6_isPilgrim, fX7_canBeGiven, fX7_canBeGiven_63, fX7_isPlace, hx, ok, e1, put_X S (nI j) hn e1 hp (show 0 < 10 by omega), fX7_give_87, fX2_forget, ite_self, mset_ne, mset_same, upd_same, upd_ne, ltm, lti, bnd_some, fa_lit, nI_add, pk_mul, nI_clamp, gd_in, nlt0, nI_ltI, nI_leI, nI_eq, if_true, if_false, if_pos, if_neg]
            · rcases ok with ok | ok
              · simp (disch := first | omega | assumption) only [fX8_give, fX8_canGive, fX8_canGive_43, fX8_isPilgrim, fX8_isIn, hm, ok, e2, fX8_give_30, fX8_give_53, fX8_give_76, fX8_give_91, mset_ne, mset_same, upd_same, upd_ne, ltm, lti, bnd_some, fa_lit, nI_add, pk_mul, nI_clamp, gd_in, nlt0, nI_ltI, nI_leI, nI_eq, if_true, if_false, if_pos, if_neg]
              · simp (disch := first | omega | assumption) only [fX8_give, fX8_canGive, fX8_canGive_43, fX8_isPilgrim, fX8_isIn, hm, ok, e2, fX8_give_30, fX8_give_53, fX8_give_76, fX8_give_91, ite_self, mset_ne, mset_same, upd_same, upd_ne, ltm, lti, bnd_some, fa_lit, nI_add, pk_mul, nI_clamp, gd_in, nlt0, nI_ltI, nI_leI, nI_eq, if_true, if_false, if_pos, if_neg]
          · have o1 : ¬ r = -nI 1 := fun z => ok (Or.inl z)
            have o2 : ¬ r = nI p := fun z => ok (Or.inr z)
            exact ⟨0, S, mset T 0 0 0, by simp (disch := first | omega | assumption) only [fX7_give, fX6_isPilgrim, fX7_canBeGiven, fX7_isPlace, hx, o1, o2, e1, mset_ne, mset_same, upd_same, upd_ne, ltm, lti, bnd_some, fa_lit, nI_add, pk_mul, nI_clamp, gd_in, nlt0, nI_ltI, nI_leI, nI_eq, if_true, if_false, if_pos, if_neg], by simp (disch := first | omega | assumption) only [fX8_give, fX8_canGive, fX8_isPilgrim, fX8_isIn, hm, o1, o2, e2, mset_ne, mset_same, upd_same, upd_ne, ltm, lti, bnd_some, fa_lit, nI_add, pk_mul, nI_clamp, gd_in, nlt0, nI_ltI, nI_leI, nI_eq, if_true, if_false, if_pos, if_neg], hR.told 0⟩
        · exact ⟨0, S, mset T 0 0 0, by simp (disch := first | omega | assumption) only [fX7_give, fX6_isPilgrim, fX7_canBeGiven, fX7_isPlace, e1, lo1 g, lo2 g, lo3 g, lo4 g, lo5 g, mset_ne, mset_same, upd_same, upd_ne, ltm, lti, bnd_some, fa_lit, nI_add, pk_mul, nI_clamp, gd_in, nlt0, nI_ltI, nI_leI, nI_eq, if_true, if_false, if_pos, if_neg], by simp (disch := first | omega | assumption) only [fX8_give, fX8_canGive, fX8_isPilgrim, fX8_isIn, e2, lo1 g, lo2 g, lo3 g, lo4 g, lo5 g, mset_ne, mset_same, upd_same, upd_ne, ltm, lti, bnd_some, fa_lit, nI_add, pk_mul, nI_clamp, gd_in, nlt0, nI_ltI, nI_leI, nI_eq, if_true, if_false, if_pos, if_neg], hR.told 0⟩
        · exact ⟨0, S, mset T 0 0 0, by simp (disch := first | omega | assumption) only [fX7_give, fX6_isPilgrim, fX7_canBeGiven, fX7_isPlace, e1, hi1 g, hi2 g, hi3 g, hi4 g, hi5 g, mset_ne, mset_same, upd_same, upd_ne, ltm, lti, bnd_some, fa_lit, nI_add, pk_mul, nI_clamp, gd_in, nlt0, nI_ltI, nI_leI, nI_eq, if_true, if_false, if_pos, if_neg], by simp (disch := first | omega | assumption) only [fX8_give, fX8_canGive, fX8_isPilgrim, fX8_isIn, e2, hi1 g, hi2 g, hi3 g, hi4 g, hi5 g, mset_ne, mset_same, upd_same, upd_ne, ltm, lti, bnd_some, fa_lit, nI_add, pk_mul, nI_clamp, gd_in, nlt0, nI_ltI, nI_leI, nI_eq, if_true, if_false, if_pos, if_neg], hR.told 0⟩
      · -- a PARASOL
        rcases ixC v (show 2 < 2 ^ 31 by omega) with ⟨j, hj, rfl⟩ | g | g
        · refine ⟨1, mset (mset S 3 (10 * p + 5) (nI j)) 25 4 (nI 0), mset (mset (mset T 0 0 (nI 0)) 0 10 ((T 0 10 &&& (one p ^^^ -nI 1)) ||| (nI j <<< (nI p &&& nI 31)))) 0 3 (nI 0), ?_, ?_, ⟨⟨n, d, t, pr, re, bl, 0, ⟨w0, w1, w2, w3, w4, w5, w6, w7, w8, w9, w10.par (show p < 10 by omega) hj rfl rfl rfl rfl rfl rfl, w11.fx (by omega), w12, w13, w14, w15, w16⟩, pas0 rfl rfl⟩, h2, h3, h4, h5⟩⟩
          · rcases (show j = 0 ∨ j = 1 by omega) with rfl | rfl
            · simp (disch := first | omega | assumption) only [fX7_give, fX6_isPilgrim, fX7_canBeGiven, fX7_canBeGiven_78, e1, put_X S _ hn e1 hp (show 5 < 10 by omega), fX7_give_87, fX2_forget, mset_ne, mset_same, upd_same, upd_ne, ltm, lti, bnd_some, fa_lit, nI_add, pk_mul, nI_clamp, gd_in, nlt0, nI_ltI, nI_leI, nI_eq, if_true, if_false, if_pos, if_neg]
            · simp (disch := first | omega | assumption) only [fX7_give, fX6_isPilgrim, fX7_canBeGiven, fX7_canBeGiven_78, e1, put_X S _ hn e1 hp (show 5 < 10 by omega), fX7_give_87, fX2_forget, mset_ne, mset_same, upd_same, upd_ne, ltm, lti, bnd_some, fa_lit, nI_add, pk_mul, nI_clamp, gd_in, nlt0, nI_ltI, nI_leI, nI_eq, if_true, if_false, if_pos, if_neg]
          · simp (disch := first | omega | assumption) only [fX8_give, fX8_canGive, fX8_canGive_59, fX8_isPilgrim, fX8_isIn, isB, e2, fX8_give_30, fX8_give_53, fX8_give_76, fX8_give_91, one, gd, mset_ne, mset_same, upd_same, upd_ne, ltm, lti, bnd_some, fa_lit, nI_add, pk_mul, nI_clamp, gd_in, nlt0, nI_ltI, nI_leI, nI_eq, if_true, if_false, if_pos, if_neg]
            rfl
        · exact ⟨0, S, mset T 0 0 0, by simp (disch := first | omega | assumption) only [fX7_give, fX6_isPilgrim, fX7_canBeGiven, e1, lo1 g, lo2 g, lo3 g, lo4 g, lo5 g, mset_ne, mset_same, upd_same, upd_ne, ltm, lti, bnd_some, fa_lit, nI_add, pk_mul, nI_clamp, gd_in, nlt0, nI_ltI, nI_leI, nI_eq, if_true, if_false, if_pos, if_neg], by simp (disch := first | omega | assumption) only [fX8_give, fX8_canGive, fX8_canGive_59, fX8_isPilgrim, fX8_isIn, e2, lo1 g, lo2 g, lo3 g, lo4 g, lo5 g, mset_ne, mset_same, upd_same, upd_ne, ltm, lti, bnd_some, fa_lit, nI_add, pk_mul, nI_clamp, gd_in, nlt0, nI_ltI, nI_leI, nI_eq, if_true, if_false, if_pos, if_neg]; rfl, hR.told 0⟩
        · exact ⟨0, S, mset T 0 0 0, by simp (disch := first | omega | assumption) only [fX7_give, fX6_isPilgrim, fX7_canBeGiven, e1, hi1 g, hi2 g, hi3 g, hi4 g, hi5 g, mset_ne, mset_same, upd_same, upd_ne, ltm, lti, bnd_some, fa_lit, nI_add, pk_mul, nI_clamp, gd_in, nlt0, nI_ltI, nI_leI, nI_eq, if_true, if_false, if_pos, if_neg], by simp (disch := first | omega | assumption) only [fX8_give, fX8_canGive, fX8_canGive_59, fX8_isPilgrim, fX8_isIn, e2, hi1 g, hi2 g, hi3 g, hi4 g, hi5 g, mset_ne, mset_same, upd_same, upd_ne, ltm, lti, bnd_some, fa_lit, nI_add, pk_mul, nI_clamp, gd_in, nlt0, nI_ltI, nI_leI, nI_eq, if_true, if_false, if_pos, if_neg]; rfl, hR.told 0⟩
      · -- a HAT
        rcases ixC v (show 2 < 2 ^ 31 by omega) with ⟨j, hj, rfl⟩ | g | g
        · refine ⟨1, mset (mset S 3 (10 * p + 6) (nI j)) 25 4 (nI 0), mset (mset (mset T 0 0 (nI 0)) 0 11 ((T 0 11 &&& (one p ^^^ -nI 1)) ||| (nI j <<< (nI p &&& nI 31)))) 0 3 (nI 0), ?_, ?_, ⟨⟨n, d, t, pr, re, bl, 0, ⟨w0, w1, w2, w3, w4, w5, w6, w7, w8, w9, w10.hat (show p < 10 by omega) hj rfl rfl rfl rfl rfl rfl, w11.fx (by omega), w12, w13, w14, w15, w16⟩, pas0 rfl rfl⟩, h2, h3, h4, h5⟩⟩
          · rcases (show j = 0 ∨ j = 1 by omega) with rfl | rfl
            · simp (disch := first | omega | assumption) only [fX7_give, fX6_isPilgrim, fX7_canBeGiven, fX7_canBeGiven_78, e1, put_X S _ hn e1 hp (show 6 < 10 by omega), fX7_give_87, fX2_forget, mset_ne, mset_same, upd_same, upd_ne, ltm, lti, bnd_some, fa_lit, nI_add, pk_mul, nI_clamp, gd_in, nlt0, nI_ltI, nI_leI, nI_eq, if_true, if_false, if_pos, if_neg]
            · simp (disch := first | omega | assumption) only [fX7_give, fX6_isPilgrim, fX7_canBeGiven, fX7_canBeGiven_78, e1, put_X S _ hn e1 hp (show 6 < 10 by omega), fX7_give_87, fX2_forget, mset_ne, mset_same, upd_same, upd_ne, ltm, lti, bnd_some, fa_lit, nI_add, pk_mul, nI_clamp, gd_in, nlt0, nI_ltI, nI_leI, nI_eq, if_true, if_false, if_pos, if_neg]
          · simp (disch := first | omega | assumption) only [fX8_give, fX8_canGive, fX8_canGive_59, fX8_isPilgrim, fX8_isIn, isB, e2, fX8_give_30, fX8_give_53, fX8_give_76, fX8_give_91, one, gd, mset_ne, mset_same, upd_same, upd_ne, ltm, lti, bnd_some, fa_lit, nI_add, pk_mul, nI_clamp, gd_in, nlt0, nI_ltI, nI_leI, nI_eq, if_true, if_false, if_pos, if_neg]
            rfl
        · exact ⟨0, S, mset T 0 0 0, by simp (disch := first | omega | assumption) only [fX7_give, fX6_isPilgrim, fX7_canBeGiven, e1, lo1 g, lo2 g, lo3 g, lo4 g, lo5 g, mset_ne, mset_same, upd_same, upd_ne, ltm, lti, bnd_some, fa_lit, nI_add, pk_mul, nI_clamp, gd_in, nlt0, nI_ltI, nI_leI, nI_eq, if_true, if_false, if_pos, if_neg], by simp (disch := first | omega | assumption) only [fX8_give, fX8_canGive, fX8_canGive_59, fX8_isPilgrim, fX8_isIn, e2, lo1 g, lo2 g, lo3 g, lo4 g, lo5 g, mset_ne, mset_same, upd_same, upd_ne, ltm, lti, bnd_some, fa_lit, nI_add, pk_mul, nI_clamp, gd_in, nlt0, nI_ltI, nI_leI, nI_eq, if_true, if_false, if_pos, if_neg]; rfl, hR.told 0⟩
        · exact ⟨0, S, mset T 0 0 0, by simp (disch := first | omega | assumption) only [fX7_give, fX6_isPilgrim, fX7_canBeGiven, e1, hi1 g, hi2 g, hi3 g, hi4 g, hi5 g, mset_ne, mset_same, upd_same, upd_ne, ltm, lti, bnd_some, fa_lit, nI_add, pk_mul, nI_clamp, gd_in, nlt0, nI_ltI, nI_leI, nI_eq, if_true, if_false, if_pos, if_neg], by simp (disch := first | omega | assumption) only [fX8_give, fX8_canGive, fX8_canGive_59, fX8_isPilgrim, fX8_isIn, e2, hi1 g, hi2 g, hi3 g, hi4 g, hi5 g, mset_ne, mset_same, upd_same, upd_ne, ltm, lti, bnd_some, fa_lit, nI_add, pk_mul, nI_clamp, gd_in, nlt0, nI_ltI, nI_leI, nI_eq, if_true, if_false, if_pos, if_neg]; rfl, hR.told 0⟩
      · -- WATER
        rcases ixC v (show 10000 < 2 ^ 31 by omega) with ⟨j, hj, rfl⟩ | g | g
        · refine ⟨1, mset (mset S 3 (10 * p + 4) (nI j)) 25 4 (nI 0), mset (mset (mset T 0 0 (nI 0)) 1 (15 + p) (nI j)) 0 3 (nI 0), ?_, ?_, ⟨⟨n, d, t, pr, re, bl, 0, hW0.mv1 (m := 1) (v := nI j) (show p < 10 by omega) (by omega) (fun z => absurd z (by omega)) (fun z => absurd z (by omega)) (ms_sl (by omega)) rfl ms_T rfl rfl rfl rfl rfl, pas0 rfl rfl⟩, h2, h3, h4, h5⟩⟩
          · simp (disch := first | omega | assumption) only [fX7_give, fX6_isPilgrim, fX7_canBeGiven, e1, put_X S _ hn e1 hp (show 4 < 10 by omega), fX7_give_87, fX2_forget, mset_ne, mset_same, upd_same, upd_ne, ltm, lti, bnd_some, fa_lit, nI_add, pk_mul, nI_clamp, gd_in, nlt0, nI_ltI, nI_leI, nI_eq, if_true, if_false, if_pos, if_neg]
          · simp (disch := first | omega | assumption) only [fX8_give, fX8_canGive, fX8_isPilgrim, fX8_isIn, e2, fX8_give_30, fX8_give_53, fX8_give_76, fX8_give_91, mset_ne, mset_same, upd_same, upd_ne, ltm, lti, bnd_some, fa_lit, nI_add, pk_mul, nI_clamp, gd_in, nlt0, nI_ltI, nI_leI, nI_eq, if_true, if_false, if_pos, if_neg]
        · exact ⟨0, S, mset T 0 0 0, by simp (disch := first | omega | assumption) only [fX7_give, fX6_isPilgrim, fX7_canBeGiven, e1, lo1 g, lo2 g, lo3 g, lo4 g, lo5 g, mset_ne, mset_same, upd_same, upd_ne, ltm, lti, bnd_some, fa_lit, nI_add, pk_mul, nI_clamp, gd_in, nlt0, nI_ltI, nI_leI, nI_eq, if_true, if_false, if_pos, if_neg], by simp (disch := first | omega | assumption) only [fX8_give, fX8_canGive, fX8_isPilgrim, fX8_isIn, e2, lo1 g, lo2 g, lo3 g, lo4 g, lo5 g, mset_ne, mset_same, upd_same, upd_ne, ltm, lti, bnd_some, fa_lit, nI_add, pk_mul, nI_clamp, gd_in, nlt0, nI_ltI, nI_leI, nI_eq, if_true, if_false, if_pos, if_neg], hR.told 0⟩
        · exact ⟨0, S, mset T 0 0 0, by simp (disch := first | omega | assumption) only [fX7_give, fX6_isPilgrim, fX7_canBeGiven, e1, hi1 g, hi2 g, hi3 g, hi4 g, hi5 g, mset_ne, mset_same, upd_same, upd_ne, ltm, lti, bnd_some, fa_lit, nI_add, pk_mul, nI_clamp, gd_in, nlt0, nI_ltI, nI_leI, nI_eq, if_true, if_false, if_pos, if_neg], by simp (disch := first | omega | assumption) only [fX8_give, fX8_canGive, fX8_isPilgrim, fX8_isIn, e2, hi1 g, hi2 g, hi3 g, hi4 g, hi5 g, mset_ne, mset_same, upd_same, upd_ne, ltm, lti, bnd_some, fa_lit, nI_add, pk_mul, nI_clamp, gd_in, nlt0, nI_ltI, nI_leI, nI_eq, if_true, if_false, if_pos, if_neg], hR.told 0⟩
    · exact ⟨0, S, mset T 0 0 0, by simp (disch := first | omega | assumption) only [fX7_give, fX6_isPilgrim, fX7_canBeGiven, e1, lo1 g, lo2 g, lo3 g, lo4 g, lo5 g, mset_ne, mset_same, upd_same, upd_ne, ltm, lti, bnd_some, fa_lit, nI_add, pk_mul, nI_clamp, gd_in, nlt0, nI_ltI, nI_leI, nI_eq, if_true, if_false, if_pos, if_neg], by simp (disch := first | omega | assumption) only [fX8_give, fX8_canGive, fX8_isPilgrim, e2, lo1 g, lo2 g, lo3 g, lo4 g, lo5 g, mset_ne, mset_same, upd_same, upd_ne, ltm, lti, bnd_some, fa_lit, nI_add, pk_mul, nI_clamp, gd_in, nlt0, nI_ltI, nI_leI, nI_eq, if_true, if_false, if_pos, if_neg], hR.told 0⟩
    · exact ⟨0, S, mset T 0 0 0, by simp (disch := first | omega | assumption) only [fX7_give, fX6_isPilgrim, fX7_canBeGiven, e1, hi1 g, hi2 g, hi3 g, hi4 g, hi5 g, mset_ne, mset_same, upd_same, upd_ne, ltm, lti, bnd_some, fa_lit, nI_add, pk_mul, nI_clamp, gd_in, nlt0, nI_ltI, nI_leI, nI_eq, if_true, if_false, if_pos, if_neg], by simp (disch := first | omega | assumption) only [fX8_give, fX8_canGive, fX8_isPilgrim, e2, hi1 g, hi2 g, hi3 g, hi4 g, hi5 g, mset_ne, mset_same, upd_same, upd_ne, ltm, lti, bnd_some, fa_lit, nI_add, pk_mul, nI_clamp, gd_in, nlt0, nI_ltI, nI_leI, nI_eq, if_true, if_false, if_pos, if_neg], hR.told 0⟩
  · exact ⟨0, S, mset T 0 0 0, by simp (disch := first | omega | assumption) only [fX7_give, fX6_isPilgrim, e1, lo1 g, lo2 g, lo3 g, lo4 g, lo5 g, mset_ne, mset_same, upd_same, upd_ne, ltm, lti, bnd_some, fa_lit, nI_add, pk_mul, nI_clamp, gd_in, nlt0, nI_ltI, nI_leI, nI_eq, if_true, if_false, if_pos, if_neg], by simp (disch := first | omega | assumption) only [fX8_give, fX8_canGive, fX8_isPilgrim, e2, lo1 g, lo2 g, lo3 g, lo4 g, lo5 g, mset_ne, mset_same, upd_same, upd_ne, ltm, lti, bnd_some, fa_lit, nI_add, pk_mul, nI_clamp, gd_in, nlt0, nI_ltI, nI_leI, nI_eq, if_true, if_false, if_pos, if_neg], hR.told 0⟩
  · exact ⟨0, S, mset T 0 0 0, by simp (disch := first | omega | assumption) only [fX7_give, fX6_isPilgrim, e1, hi1 g, hi2 g, hi3 g, hi4 g, hi5 g, mset_ne, mset_same, upd_same, upd_ne, ltm, lti, bnd_some, fa_lit, nI_add, pk_mul, nI_clamp, gd_in, nlt0, nI_ltI, nI_leI, nI_eq, if_true, if_false, if_pos, if_neg], by simp (disch := first | omega | assumption) only [fX8_give, fX8_canGive, fX8_isPilgrim, e2, hi1 g, hi2 g, hi3 g, hi4 g, hi5 g, mset_ne, mset_same, upd_same, upd_ne, ltm, lti, bnd_some, fa_lit, nI_add, pk_mul, nI_clamp, gd_in, nlt0, nI_ltI, nI_leI, nI_eq, if_true, if_false, if_pos, if_neg], hR.told 0⟩
