/-! hour, told, look -/
def mo (w : Nat) : Nat := [7, 4, 9, 7, 10].getD w 0
theorem RHou.put {X M X' M' : Mem} {h w v : Nat} (hR : RHou X M) (hh : h < 12) (hw : w < 5) (hv : v ≤ mo w) (hX : X' 1 = upd (X 1) (5 * h + w) (nI v)) (hM : M' 3 = upd (M 3) (5 * h + w) (nI v)) : RHou X' M' := by
  rw [RHou, hX, hM]
  have gen : ∀ h', h' < 12 → ∀ k, k < 5 → le32 (M 3 (5 * h' + k)) (mo k) → le32 (upd (M 3) (5 * h + w) (nI v) (5 * h' + k)) (mo k) := by
    intro h' hh' k hk q
    by_cases e : 5 * h' + k = 5 * h + w
    · have : k = w := by omega
      subst this
      rw [e, upd_same]
      exact ⟨v, hv, rfl⟩
    · rw [upd_ne _ _ e]; exact q
  refine ⟨fun j hj => ?_, fun h' hh' => ?_⟩
  · by_cases e : j = 5 * h + w
    · rw [e, upd_same, upd_same]
    · rw [upd_ne _ _ e, upd_ne _ _ e]; exact hR.1 j hj
  · obtain ⟨a, b, c, d, e⟩ := hR.2 h' hh'
    exact ⟨gen h' hh' 0 (by omega) a, gen h' hh' 1 (by omega) b, gen h' hh' 2 (by omega) c, gen h' hh' 3 (by omega) d, gen h' hh' 4 (by omega) e⟩
theorem most_X {w : Nat} (hw : w < 5) : st_MOST_OF_COLUMN.getD w (nI 0) = nI (mo w) := by
  rcases (show w = 0 ∨ w = 1 ∨ w = 2 ∨ w = 3 ∨ w = 4 by omega) with rfl | rfl | rfl | rfl | rfl <;> rfl
theorem most_M (S : Mem) {w : Nat} (hw : w < 5) : fX8_mostOf S (nI w) = some (nI (mo w), S) := by
  rcases (show w = 0 ∨ w = 1 ∨ w = 2 ∨ w = 3 ∨ w = 4 by omega) with rfl | rfl | rfl | rfl | rfl <;> simp (disch := first | omega | assumption) only [fX8_mostOf, fX8_mostOf_9, mo, List.getD_cons_zero, List.getD_cons_succ, mset_ne, mset_same, upd_same, upd_ne, ltm, lti, bnd_some, fa_lit, nI_add, pk_mul, nI_clamp, gd_in, nlt0, nI_ltI, nI_leI, nI_eq, if_true, if_false, if_pos, if_neg]
theorem mo_lt (w : Nat) : mo w < 11 := by
  unfold mo
  match w with
  | 0 => decide
  | 1 => decide
  | 2 => decide
  | 3 => decide
  | 4 => decide
  | n + 5 => simp
theorem most_len : (List.length st_MOST_OF_COLUMN) = 5 := rfl
theorem sim_hour (a b v : Int32) : Sim RR (fun S => fX7_hour S a b v) (fun T => fX8_hour T a b v) := by
  intro S T hR
  rcases ixC a (show 12 < 2 ^ 31 by omega) with ⟨h, hh, rfl⟩ | g | g
  · rcases ixC b (show 5 < 2 ^ 31 by omega) with ⟨w, hw, rfl⟩ | f | f
    · have hmo := mo_lt w
      rcases ixC v (show mo w + 1 < 2 ^ 31 by omega) with ⟨k, hk, rfl⟩ | e | e
      · obtain ⟨⟨n, d, t, pr, re, bl, c, hW, hP⟩, h2, h3, h4, h5⟩ := id hR
        obtain ⟨w0, w1, w2, w3, w4, w5, w6, w7, w8, w9, w10, w11, w12, w13, w14, w15, w16⟩ := hW
        refine ⟨1, mset (mset S 2 (5 * h + w) (nI k)) 25 4 (nI 0), mset (mset (mset T 0 0 (nI 0)) 3 (5 * h + w) (nI k)) 0 3 (nI 0), ?_, ?_, ⟨⟨n, d, t, pr, re, bl, 0, ⟨w0, w1, w2, w3, w4, w5, w6, w7, w8, w9.put hh hw (by omega) rfl rfl, w10, w11, w12, w13, w14, w15, w16⟩, ⟨by omega, rfl, rfl, fun k h => absurd h (Nat.not_lt_zero k)⟩⟩, h2, h3, h4, h5⟩⟩
        · simp (disch := first | omega | assumption) only [fX7_hour, fX7_isHour, most_X, most_len, fX2_forget, mset_ne, mset_same, upd_same, upd_ne, ltm, lti, bnd_some, fa_lit, nI_add, pk_mul, nI_clamp, gd_in, nlt0, nI_ltI, nI_leI, nI_eq, if_true, if_false, if_pos, if_neg]
          rw [Nat.mul_comm]
        · simp (disch := first | omega | assumption) only [fX8_hour, fX8_isHour, fX8_isIn, most_M, mset_ne, mset_same, upd_same, upd_ne, ltm, lti, bnd_some, fa_lit, nI_add, pk_mul, nI_clamp, gd_in, nlt0, nI_ltI, nI_leI, nI_eq, if_true, if_false, if_pos, if_neg]
      · exact ⟨0, S, mset T 0 0 0, by simp (disch := first | omega | assumption) only [fX7_hour, fX7_isHour, most_X, most_len, lo1 e, lo2 e, lo3 e, lo4 e, lo5 e, mset_ne, mset_same, upd_same, upd_ne, ltm, lti, bnd_some, fa_lit, nI_add, pk_mul, nI_clamp, gd_in, nlt0, nI_ltI, nI_leI, nI_eq, if_true, if_false, if_pos, if_neg], by simp (disch := first | omega | assumption) only [fX8_hour, fX8_isHour, fX8_isIn, most_M, lo1 e, lo2 e, lo3 e, lo4 e, lo5 e, mset_ne, mset_same, upd_same, upd_ne, ltm, lti, bnd_some, fa_lit, nI_add, pk_mul, nI_clamp, gd_in, nlt0, nI_ltI, nI_leI, nI_eq, if_true, if_false, if_pos, if_neg], hR.told 0⟩
      · exact ⟨0, S, mset T 0 0 0, by simp (disch := first | omega | assumption) only [fX7_hour, fX7_isHour, most_X, most_len, hi1 e, hi2 e, hi3 e, hi4 e, hi5 e, mset_ne, mset_same, upd_same, upd_ne, ltm, lti, bnd_some, fa_lit, nI_add, pk_mul, nI_clamp, gd_in, nlt0, nI_ltI, nI_leI, nI_eq, if_true, if_false, if_pos, if_neg], by simp (disch := first | omega | assumption) only [fX8_hour, fX8_isHour, fX8_isIn, most_M, hi1 e, hi2 e, hi3 e, hi4 e, hi5 e, mset_ne, mset_same, upd_same, upd_ne, ltm, lti, bnd_some, fa_lit, nI_add, pk_mul, nI_clamp, gd_in, nlt0, nI_ltI, nI_leI, nI_eq, if_true, if_false, if_pos, if_neg], hR.told 0⟩
    · exact ⟨0, S, mset T 0 0 0, by simp (disch := first | omega | assumption) only [fX7_hour, fX7_isHour, lo1 f, lo2 f, lo3 f, lo4 f, lo5 f, mset_ne, mset_same, upd_same, upd_ne, ltm, lti, bnd_some, fa_lit, nI_add, pk_mul, nI_clamp, gd_in, nlt0, nI_ltI, nI_leI, nI_eq, if_true, if_false, if_pos, if_neg], by simp (disch := first | omega | assumption) only [fX8_hour, fX8_isHour, fX8_isIn, lo1 f, lo2 f, lo3 f, lo4 f, lo5 f, mset_ne, mset_same, upd_same, upd_ne, ltm, lti, bnd_some, fa_lit, nI_add, pk_mul, nI_clamp, gd_in, nlt0, nI_ltI, nI_leI, nI_eq, if_true, if_false, if_pos, if_neg], hR.told 0⟩
    · exact ⟨0, S, mset T 0 0 0, by simp (disch := first | omega | assumption) only [fX7_hour, fX7_isHour, hi1 f, hi2 f, hi3 f, hi4 f, hi5 f, mset_ne, mset_same, upd_same, upd_ne, ltm, lti, bnd_some, fa_lit, nI_add, pk_mul, nI_clamp, gd_in, nlt0, nI_ltI, nI_leI, nI_eq, if_true, if_false, if_pos, if_neg], by simp (disch := first | omega | assumption) only [fX8_hour, fX8_isHour, fX8_isIn, hi1 f, hi2 f, hi3 f, hi4 f, hi5 f, mset_ne, mset_same, upd_same, upd_ne, ltm, lti, bnd_some, fa_lit, nI_add, pk_mul, nI_clamp, gd_in, nlt0, nI_ltI, nI_leI, nI_eq, if_true, if_false, if_pos, if_neg], hR.told 0⟩
  · exact ⟨0, S, mset T 0 0 0, by simp (disch := first | omega | assumption) only [fX7_hour, fX7_isHour, lo1 g, lo2 g, lo3 g, lo4 g, lo5 g, mset_ne, mset_same, upd_same, upd_ne, ltm, lti, bnd_some, fa_lit, nI_add, pk_mul, nI_clamp, gd_in, nlt0, nI_ltI, nI_leI, nI_eq, if_true, if_false, if_pos, if_neg], by simp (disch := first | omega | assumption) only [fX8_hour, fX8_isHour, lo1 g, lo2 g, lo3 g, lo4 g, lo5 g, mset_ne, mset_same, upd_same, upd_ne, ltm, lti, bnd_some, fa_lit, nI_add, pk_mul, nI_clamp, gd_in, nlt0, nI_ltI, nI_leI, nI_eq, if_true, if_false, if_pos, if_neg], hR.told 0⟩
  · exact ⟨0, S, mset T 0 0 0, by simp (disch := first | omega | assumption) only [fX7_hour, fX7_isHour, hi1 g, hi2 g, hi3 g, hi4 g, hi5 g, mset_ne, mset_same, upd_same, upd_ne, ltm, lti, bnd_some, fa_lit, nI_add, pk_mul, nI_clamp, gd_in, nlt0, nI_ltI, nI_leI, nI_eq, if_true, if_false, if_pos, if_neg], by simp (disch := first | omega | assumption) only [fX8_hour, fX8_isHour, hi1 g, hi2 g, hi3 g, hi4 g, hi5 g, mset_ne, mset_same, upd_same, upd_ne, ltm, lti, bnd_some, fa_lit, nI_add, pk_mul, nI_clamp, gd_in, nlt0, nI_ltI, nI_leI, nI_eq, if_true, if_false, if_pos, if_neg], hR.told 0⟩
/-- what told() takes: -1 .. 9999 -/
theorem tol_ix (x : Int32) : (∃ k : Nat, k ≤ 10000 ∧ x = nI k - 1 ∧ ¬ x < -1 ∧ x ≤ 9999 ∧ x + 1 = nI k) ∨ x < -1 ∨ (¬ x < -1 ∧ ¬ x ≤ 9999) := by
  by_cases c1 : x < -1
  · exact Or.inr (Or.inl c1)
  · by_cases c2 : x ≤ 9999
    · refine Or.inl ⟨(x + 1).toNatClampNeg, ?_⟩
      have t1 := c1; have t2 := c2
      rw [lt_iff, show (-1 : Int32).toInt = -1 by decide] at t1
      rw [le_iff, show (9999 : Int32).toInt = 9999 by decide] at t2
      have hs : (x + 1).toInt = x.toInt + 1 := by
        rw [Int32.toInt_add, show (1 : Int32).toInt = 1 by decide]
        have := Int32.le_toInt x; have := Int32.toInt_lt x
        rw [Int.bmod_eq_of_le (by omega) (by omega)]
      have hk : x + 1 = nI (x + 1).toNatClampNeg := by
        rcases ixN (x + 1) (show 10001 < 2 ^ 31 by omega) with q | q | ⟨j, hj, q⟩
        · rw [lt_iff, hs, show (0 : Int32).toInt = 0 by decide] at q; omega
        · rw [le_iff, hs, nI_toInt (by omega)] at q; omega
        · rw [q, nI_clamp (by omega)]
      have hle : (x + 1).toNatClampNeg ≤ 10000 := by
        have h9 : ((x + 1).toNatClampNeg : Int) = max ((x + 1).toInt) 0 := by
          have : (x + 1).toNatClampNeg = (x + 1).toInt.toNat := rfl
          rw [this]; omega
        omega
      refine ⟨hle, ?_, c1, c2, hk⟩
      rw [← hk]
      rw [Int32.add_sub_cancel]
    · exact Or.inr (Or.inr ⟨c1, c2⟩)
theorem sim_told (a v : Int32) : Sim RR (fun S => fX7_told S a v) (fun T => fX8_told T a v) := by
  intro S T hR
  obtain ⟨⟨n, d, t, pr, re, bl, c, hW, hP⟩, h2, h3, h4, h5⟩ := id hR
  obtain ⟨w0, w1, w2, w3, w4, w5, w6, w7, w8, w9, w10, w11, w12, w13, w14, w15, w16⟩ := hW
  have hn : n ≤ 10 := w0.1
  have e1 : S 1 9 = nI n := w1.1
  have e2 : T 0 6 = nI n := w1.2
  have e2' : (mset T 0 0 0) 0 6 = nI n := w1.2
  rcases ixC a (show n < 2 ^ 31 by omega) with ⟨p, hp, rfl⟩ | g | g
  · rcases tol_ix v with ⟨k, hk, hv, c1, c2, c3⟩ | c1 | ⟨c1, c2⟩
    · have d1 : ¬ v < -nI 1 := c1
      have d2 : v ≤ nI 9999 := c2
      have d3 : v + nI 1 = nI k := c3
      have d4 : ¬ nI 9999 < v := by rw [Int32.not_lt]; exact c2
      refine ⟨1, mset S 5 p v, mset (mset T 0 0 (nI 0)) 10 p (nI k), ?_, ?_, ⟨⟨n, d, t, pr, re, bl, c, ⟨w0, w1, w2, w3, w4, w5, w6, w7, w8, w9, w10, w11, w12, w13, ?_, w15, w16⟩, hP⟩, h2, h3, h4, h5⟩⟩
      · simp (disch := first | omega | assumption) only [fX7_told, fX6_isPilgrim, e1, mset_ne, mset_same, upd_same, upd_ne, ltm, lti, bnd_some, fa_lit, nI_add, pk_mul, nI_clamp, gd_in, nlt0, nI_ltI, nI_leI, nI_eq, if_true, if_false, if_pos, if_neg]
      · simp (disch := first | omega | assumption) only [fX8_told, fX8_isPilgrim, fX8_isIn, e2, d3, d1, d4, mset_ne, mset_same, upd_same, upd_ne, ltm, lti, bnd_some, fa_lit, nI_add, pk_mul, nI_clamp, gd_in, nlt0, nI_ltI, nI_leI, nI_eq, if_true, if_false, if_pos, if_neg]
      · intro q hq
        by_cases e : q = p
        · subst e
          exact ⟨k, hk, upd_same _ _ _, (upd_same _ _ _).trans hv⟩
        · obtain ⟨k', h1, h2, h3⟩ := w14 q hq
          exact ⟨k', h1, (upd_ne _ _ e).trans h2, (upd_ne _ _ e).trans h3⟩
    · have d1 : v < -nI 1 := c1
      exact ⟨0, S, mset T 0 0 0, by simp (disch := first | omega | assumption) only [fX7_told, fX6_isPilgrim, e1, mset_ne, mset_same, upd_same, upd_ne, ltm, lti, bnd_some, fa_lit, nI_add, pk_mul, nI_clamp, gd_in, nlt0, nI_ltI, nI_leI, nI_eq, if_true, if_false, if_pos, if_neg], by simp (disch := first | omega | assumption) only [fX8_told, fX8_isPilgrim, fX8_isIn, e2, d1, mset_ne, mset_same, upd_same, upd_ne, ltm, lti, bnd_some, fa_lit, nI_add, pk_mul, nI_clamp, gd_in, nlt0, nI_ltI, nI_leI, nI_eq, if_true, if_false, if_pos, if_neg], hR.told 0⟩
    · have d1 : ¬ v < -nI 1 := c1
      have d2 : ¬ v ≤ nI 9999 := c2
      have d4 : nI 9999 < v := by rw [← Int32.not_le]; exact c2
      exact ⟨0, S, mset T 0 0 0, by simp (disch := first | omega | assumption) only [fX7_told, fX6_isPilgrim, e1, mset_ne, mset_same, upd_same, upd_ne, ltm, lti, bnd_some, fa_lit, nI_add, pk_mul, nI_clamp, gd_in, nlt0, nI_ltI, nI_leI, nI_eq, if_true, if_false, if_pos, if_neg], by simp (disch := first | omega | assumption) only [fX8_told, fX8_isPilgrim, fX8_isIn, e2, d1, d4, mset_ne, mset_same, upd_same, upd_ne, ltm, lti, bnd_some, fa_lit, nI_add, pk_mul, nI_clamp, gd_in, nlt0, nI_ltI, nI_leI, nI_eq, if_true, if_false, if_pos, if_neg], hR.told 0⟩
  · exact ⟨0, S, mset T 0 0 0, by simp (disch := first | omega | assumption) only [fX7_told, fX6_isPilgrim, e1, lo1 g, lo2 g, lo3 g, lo4 g, lo5 g, mset_ne, mset_same, upd_same, upd_ne, ltm, lti, bnd_some, fa_lit, nI_add, pk_mul, nI_clamp, gd_in, nlt0, nI_ltI, nI_leI, nI_eq, if_true, if_false, if_pos, if_neg], by simp (disch := first | omega | assumption) only [fX8_told, fX8_isPilgrim, e2, lo1 g, lo2 g, lo3 g, lo4 g, lo5 g, mset_ne, mset_same, upd_same, upd_ne, ltm, lti, bnd_some, fa_lit, nI_add, pk_mul, nI_clamp, gd_in, nlt0, nI_ltI, nI_leI, nI_eq, if_true, if_false, if_pos, if_neg], hR.told 0⟩
  · exact ⟨0, S, mset T 0 0 0, by simp (disch := first | omega | assumption) only [fX7_told, fX6_isPilgrim, e1, hi1 g, hi2 g, hi3 g, hi4 g, hi5 g, mset_ne, mset_same, upd_same, upd_ne, ltm, lti, bnd_some, fa_lit, nI_add, pk_mul, nI_clamp, gd_in, nlt0, nI_ltI, nI_leI, nI_eq, if_true, if_false, if_pos, if_neg], by simp (disch := first | omega | assumption) only [fX8_told, fX8_isPilgrim, e2, hi1 g, hi2 g, hi3 g, hi4 g, hi5 g, mset_ne, mset_same, upd_same, upd_ne, ltm, lti, bnd_some, fa_lit, nI_add, pk_mul, nI_clamp, gd_in, nlt0, nI_ltI, nI_leI, nI_eq, if_true, if_false, if_pos, if_neg], hR.told 0⟩
/-- what look() shows below 10 -/
def lk (S : Mem) (j : Nat) : Int32 := if j = 0 then S 1 7 else if j = 1 then S 1 8 else if j = 2 then S 1 9 else if j = 3 then S 1 10 else if j = 4 then S 6 1 else if j = 5 then S 1 6 else if j = 6 then S 1 11 else if j = 7 then S 1 12 else if j = 8 then S 8 4 else S 25 4
def lkM (T : Mem) (j : Nat) : Int32 := if j = 0 then T 1 0 else if j = 1 then T 1 1 else if j = 2 then T 0 6 else if j = 3 then T 1 3 else if j = 4 then T 1 4 else if j = 5 then T 1 2 else if j = 6 then T 4 0 else if j = 7 then T 4 1 else if j = 8 then T 0 22 else T 0 3
theorem lk_X (S : Mem) {n j : Nat} (e1 : S 1 9 = nI n) (hn : n ≤ 10) (hj : j < 10) : fX7_look S (nI j) = some (lk S j, S) := by
  rcases (show j = 0 ∨ j = 1 ∨ j = 2 ∨ j = 3 ∨ j = 4 ∨ j = 5 ∨ j = 6 ∨ j = 7 ∨ j = 8 ∨ j = 9 by omega) with rfl | rfl | rfl | rfl | rfl | rfl | rfl | rfl | rfl | rfl <;> simp (disch := first | omega | assumption) only [fX7_look, fX7_look_33, fX7_look_58, lk, mset_ne, mset_same, upd_same, upd_ne, ltm, lti, bnd_some, fa_lit, nI_add, pk_mul, nI_clamp, gd_in, nlt0, nI_ltI, nI_leI, nI_eq, if_true, if_false, if_pos, if_neg]
theorem lk_M (T : Mem) {j : Nat} (hj : j < 10) : fX8_look T (nI j) = some (lkM T j, mset T 0 0 0) := by
  rcases (show j = 0 ∨ j = 1 ∨ j = 2 ∨ j = 3 ∨ j = 4 ∨ j = 5 ∨ j = 6 ∨ j = 7 ∨ j = 8 ∨ j = 9 by omega) with rfl | rfl | rfl | rfl | rfl | rfl | rfl | rfl | rfl | rfl <;> simp (disch := first | omega | assumption) only [fX8_look, fX8_look_86, pk_sub, Nat.sub_self, Nat.reduceSub, lkM, mset_ne, mset_same, upd_same, upd_ne, ltm, lti, bnd_some, fa_lit, nI_add, pk_mul, nI_clamp, gd_in, nlt0, nI_ltI, nI_leI, nI_eq, if_true, if_false, if_pos, if_neg]
theorem lk_eq {S T : Mem} (hR : RR S T) {j : Nat} (hj : j < 10) : lkM T j = lk S j := by
  obtain ⟨⟨n, d, t, pr, re, bl, c, hW, hP⟩, h2, h3, h4, h5⟩ := hR
  obtain ⟨w0, w1, w2, w3, w4, w5, w6, w7, w8, w9, w10, w11, w12, w13, w14, w15, w16⟩ := hW
  rcases (show j = 0 ∨ j = 1 ∨ j = 2 ∨ j = 3 ∨ j = 4 ∨ j = 5 ∨ j = 6 ∨ j = 7 ∨ j = 8 ∨ j = 9 by omega) with rfl | rfl | rfl | rfl | rfl | rfl | rfl | rfl | rfl | rfl
  · exact w2.2.trans w2.1.symm
  · exact w3.2.trans w3.1.symm
  · exact w1.2.trans w1.1.symm
  · exact w8.symm
  · exact w6.2.trans w6.1.symm
  · exact w7.symm
  · exact w4.2.trans w4.1.symm
  · exact w5.2.trans w5.1.symm
  · obtain ⟨g, -, -, -, gx, gm⟩ := w16; exact gm.1.trans gx.1.symm
  · exact hP.2.2.1.trans hP.2.1.symm
theorem lk_hi {S T : Mem} {n j : Nat} (hn : n ≤ 10) (e1 : S 1 9 = nI n) (e2 : T 0 6 = nI n) (j80 : 80 ≤ j) (hj : j < 80 + n) (h : RTol (sl S 1) T) : fX7_look S (nI j) = some (S 5 (j - 80), S) ∧ fX8_look T (nI j) = some (S 5 (j - 80), mset T 0 0 0) := by
  obtain ⟨k, k1, k2, k3⟩ := h (j - 80) (by omega)
  have k3' : S 5 (j - 80) = nI k - nI 1 := k3
  constructor
  · simp (disch := first | omega | assumption) only [fX7_look, e1, pk_sub, mset_ne, mset_same, upd_same, upd_ne, ltm, lti, bnd_some, fa_lit, nI_add, pk_mul, nI_clamp, gd_in, nlt0, nI_ltI, nI_leI, nI_eq, if_true, if_false, if_pos, if_neg]
  · simp (disch := first | omega | assumption) only [fX8_look, fX8_isIn, e2, pk_sub, k2, k3', mset_ne, mset_same, upd_same, upd_ne, ltm, lti, bnd_some, fa_lit, nI_add, pk_mul, nI_clamp, gd_in, nlt0, nI_ltI, nI_leI, nI_eq, if_true, if_false, if_pos, if_neg]
theorem lk_mid {S T : Mem} {n j : Nat} (hn : n ≤ 10) (e1 : S 1 9 = nI n) (e2 : T 0 6 = nI n) (j10 : 10 ≤ j) (hj : j < 70) (h : RHou (sl S 1) T) : fX7_look S (nI j) = some (S 2 (j - 10), S) ∧ fX8_look T (nI j) = some (S 2 (j - 10), mset T 0 0 0) := by
  have k3 : S 2 (j - 10) = T 3 (j - 10) := h.1 (j - 10) (by omega)
  constructor
  · simp (disch := first | omega | assumption) only [fX7_look, fX7_look_33, e1, pk_sub, mset_ne, mset_same, upd_same, upd_ne, ltm, lti, bnd_some, fa_lit, nI_add, pk_mul, nI_clamp, gd_in, nlt0, nI_ltI, nI_leI, nI_eq, if_true, if_false, if_pos, if_neg]
  · simp (disch := first | omega | assumption) only [fX8_look, fX8_isIn, e2, pk_sub, k3, mset_ne, mset_same, upd_same, upd_ne, ltm, lti, bnd_some, fa_lit, nI_add, pk_mul, nI_clamp, gd_in, nlt0, nI_ltI, nI_leI, nI_eq, if_true, if_false, if_pos, if_neg]
theorem lk_no {S T : Mem} {n j : Nat} (hn : n ≤ 10) (e1 : S 1 9 = nI n) (e2 : T 0 6 = nI n) (j10 : 70 ≤ j) (hj : j < 80) : fX7_look S (nI j) = some (-2, S) ∧ fX8_look T (nI j) = some (-2, mset T 0 0 0) := by
  constructor
  · simp (disch := first | omega | assumption) only [fX7_look, fX7_look_33, fX7_look_58, e1, pk_sub, mset_ne, mset_same, upd_same, upd_ne, ltm, lti, bnd_some, fa_lit, nI_add, pk_mul, nI_clamp, gd_in, nlt0, nI_ltI, nI_leI, nI_eq, if_true, if_false, if_pos, if_neg]
  · simp (disch := first | omega | assumption) only [fX8_look, fX8_isIn, e2, pk_sub, mset_ne, mset_same, upd_same, upd_ne, ltm, lti, bnd_some, fa_lit, nI_add, pk_mul, nI_clamp, gd_in, nlt0, nI_ltI, nI_leI, nI_eq, if_true, if_false, if_pos, if_neg]
theorem lk_lo1 {S : Mem} {a : Int32} (g : a < nI 0) : fX7_look S a = some (-2, S) := by
  simp (disch := first | omega | assumption) only [fX7_look, fX7_look_33, fX7_look_58, lo1 g, lo2 g, lo3 g, lo4 g, lo5 g, mset_ne, mset_same, upd_same, upd_ne, ltm, lti, bnd_some, fa_lit, nI_add, pk_mul, nI_clamp, gd_in, nlt0, nI_ltI, nI_leI, nI_eq, if_true, if_false, if_pos, if_neg]
theorem lk_lo2 {T : Mem} {a : Int32} {n : Nat} (e2 : T 0 6 = nI n) (hn : n ≤ 10) (g : a < nI 0) : fX8_look T a = some (-2, mset T 0 0 0) := by
  simp (disch := first | omega | assumption) only [fX8_look, fX8_isIn, e2, lo1 g, lo2 g, lo3 g, lo4 g, lo5 g, mset_ne, mset_same, upd_same, upd_ne, ltm, lti, bnd_some, fa_lit, nI_add, pk_mul, nI_clamp, gd_in, nlt0, nI_ltI, nI_leI, nI_eq, if_true, if_false, if_pos, if_neg]
theorem lk_hi1 {S : Mem} {a : Int32} {n : Nat} (e1 : S 1 9 = nI n) (hn : n ≤ 10) (g : nI (80 + n) ≤ a) : fX7_look S a = some (-2, S) := by
  simp (disch := first | omega | assumption) only [fX7_look, fX7_look_33, fX7_look_58, e1, hi1 g, hi2 g, hi3 g, hi4 g, hi5 g, mset_ne, mset_same, upd_same, upd_ne, ltm, lti, bnd_some, fa_lit, nI_add, pk_mul, nI_clamp, gd_in, nlt0, nI_ltI, nI_leI, nI_eq, if_true, if_false, if_pos, if_neg]
theorem lk_hi2 {T : Mem} {a : Int32} {n : Nat} (e2 : T 0 6 = nI n) (hn : n ≤ 10) (g : nI (80 + n) ≤ a) : fX8_look T a = some (-2, mset T 0 0 0) := by
  have h3 : ∀ k, k < 80 → ¬ a = nI k := fun k hk => of_eq_false (hi3 g (by omega) (by omega))
  have q0 : ¬ a = (0 : Int32) := h3 0 (by omega)
  have q1 : ¬ a = (1 : Int32) := h3 1 (by omega)
  have q2 : ¬ a = (2 : Int32) := h3 2 (by omega)
  have q3 : ¬ a = (3 : Int32) := h3 3 (by omega)
  have q4 : ¬ a = (4 : Int32) := h3 4 (by omega)
  have q5 : ¬ a = (5 : Int32) := h3 5 (by omega)
  have q6 : ¬ a = (6 : Int32) := h3 6 (by omega)
  have q7 : ¬ a = (7 : Int32) := h3 7 (by omega)
  have q8 : ¬ a = (8 : Int32) := h3 8 (by omega)
  have q9 : ¬ a = (9 : Int32) := h3 9 (by omega)
  have r1 : ¬ (10 ≤ a ∧ a ≤ (69 : Int32)) := fun q => of_eq_false (hi4 (k := 69) g (by omega) (by omega)) q.2
  have r2 : ¬ (80 ≤ a ∧ a ≤ 79 + (mset T 0 0 0) 0 6) := fun q => by
    have q2 : a ≤ nI 79 + nI n := by have := q.2; rw [show (mset T 0 0 0) 0 6 = nI n from e2] at this; exact this
    rw [nI_add] at q2
    exact of_eq_false (hi4 (k := 79 + n) g (by omega) (by omega)) q2
  simp only [fX8_look, ltm, q0, q1, q2, q3, q4, q5, q6, q7, q8, q9, if_false, isIn_eq, r1, r2, bnd_some, if_true]
theorem sim_look (a : Int32) : Sim RR (fun S => fX7_look S a) (fun T => fX8_look T a) := by
  intro S T hR
  obtain ⟨⟨n, d, t, pr, re, bl, c, hW, hP⟩, -⟩ := id hR
  have hn : n ≤ 10 := hW.1.1
  have e1 : S 1 9 = nI n := hW.2.1.1
  have e2 : T 0 6 = nI n := hW.2.1.2
  have w14 : RTol (sl S 1) T := hW.2.2.2.2.2.2.2.2.2.2.2.2.2.2.1
  have w9 : RHou (sl S 1) T := hW.2.2.2.2.2.2.2.2.2.1
  clear hW hP
  rcases ixC a (show 80 + n < 2 ^ 31 by omega) with ⟨j, hj, rfl⟩ | g | g
  · by_cases j80 : 80 ≤ j
    · exact ⟨_, S, _, (lk_hi hn e1 e2 j80 hj w14).1, (lk_hi hn e1 e2 j80 hj w14).2, hR.told 0⟩
    · by_cases j70 : 70 ≤ j
      · exact ⟨_, S, _, (lk_no hn e1 e2 j70 (by omega)).1, (lk_no hn e1 e2 j70 (by omega)).2, hR.told 0⟩
      · by_cases j10 : 10 ≤ j
        · exact ⟨_, S, _, (lk_mid hn e1 e2 j10 (by omega) w9).1, (lk_mid hn e1 e2 j10 (by omega) w9).2, hR.told 0⟩
        · exact ⟨_, S, _, lk_X S e1 hn (by omega), (lk_M T (by omega)).trans (by rw [lk_eq hR (by omega)]), hR.told 0⟩
  · exact ⟨_, S, _, lk_lo1 g, lk_lo2 e2 hn g, hR.told 0⟩
  · exact ⟨_, S, _, lk_hi1 e1 hn g, lk_hi2 e2 hn g, hR.told 0⟩
