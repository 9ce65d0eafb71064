/-! pilgrim -/
def plS (S : Mem) (n pl ta gi sk wa : Nat) : Mem := mset (mset (mset (mset (mset (mset (mset S 1 9 (nI (n + 1))) 3 (10 * n + 0) (nI pl)) 3 (10 * n + 1) (nI ta)) 3 (10 * n + 2) (nI gi)) 3 (10 * n + 3) (nI sk)) 3 (10 * n + 4) (nI wa)) 25 4 (nI 0)
def plT (T : Mem) (n pl ta gi sk wa : Nat) : Mem := mset (mset (mset (mset (mset (mset (mset (mset T 0 0 (nI 0)) 1 (5 + n) (nI pl)) 1 (15 + n) (nI wa)) 5 n (nI ta)) 6 n (nI gi)) 7 n (nI sk)) 0 6 (nI (n + 1))) 0 3 (nI 0)
theorem pl_3 (S : Mem) (n pl ta gi sk wa : Nat) : plS S n pl ta gi sk wa 3 = upd (upd (upd (upd (upd (S 3) (10 * n + 0) (nI pl)) (10 * n + 1) (nI ta)) (10 * n + 2) (nI gi)) (10 * n + 3) (nI sk)) (10 * n + 4) (nI wa) := rfl
theorem pl_1 (T : Mem) (n pl ta gi sk wa : Nat) : plT T n pl ta gi sk wa 1 = upd (upd (T 1) (5 + n) (nI pl)) (15 + n) (nI wa) := rfl
theorem pl_sl (S : Mem) (n pl ta gi sk wa k : Nat) (h0 : k ≠ 0) (h2 : k ≠ 2) (hk : k ≤ 10) : sl (plS S n pl ta gi sk wa) 1 k = sl S 1 k := by
  show plS S n pl ta gi sk wa (1 + k) = S (1 + k)
  unfold plS
  rw [mset_ne _ _ _ (by omega), mset_ne _ _ _ (by omega), mset_ne _ _ _ (by omega), mset_ne _ _ _ (by omega), mset_ne _ _ _ (by omega), mset_ne _ _ _ (by omega), mset_ne _ _ _ (by omega)]
theorem RWn.pil {n d t pr re bl pl ta gi sk wa : Nat} {S T : Mem} (h : RWn n d t pr re bl (sl S 1) T) (hn : n < 10) (h1 : pl ≤ 24) (h2 : ta ≤ 9) (h3 : 1 ≤ gi ∧ gi ≤ 3) (h4 : sk ≤ 9) : RWn (n + 1) d t pr re bl (sl (plS S n pl ta gi sk wa) 1) (plT T n pl ta gi sk wa) := by
  obtain ⟨w0, w1, w2, w3, w4, w5, w6, w7, w8, w9, w10, w11, w12, w13, w14, w15, w16⟩ := h
  have x1 := pl_sl S n pl ta gi sk wa 1 (by omega) (by omega) (by omega); have x3 := pl_sl S n pl ta gi sk wa 3 (by omega) (by omega) (by omega); have x4 := pl_sl S n pl ta gi sk wa 4 (by omega) (by omega) (by omega); have x5 := pl_sl S n pl ta gi sk wa 5 (by omega) (by omega) (by omega); have x6 := pl_sl S n pl ta gi sk wa 6 (by omega) (by omega) (by omega); have x7 := pl_sl S n pl ta gi sk wa 7 (by omega) (by omega) (by omega); have x8 := pl_sl S n pl ta gi sk wa 8 (by omega) (by omega) (by omega); have x9 := pl_sl S n pl ta gi sk wa 9 (by omega) (by omega) (by omega); have x10 := pl_sl S n pl ta gi sk wa 10 (by omega) (by omega) (by omega)
  have n1 : ∀ j, j < 5 → plT T n pl ta gi sk wa 1 j = T 1 j := fun j hj => by rw [pl_1, upd_ne _ _ (by omega), upd_ne _ _ (by omega)]
  refine ⟨⟨by omega, w0.2⟩, ⟨rfl, rfl⟩, ?_, ?_, ?_, ?_, ?_, ?_, ?_, ?_, ?_, ?_, ?_, ?_, ?_, ?_, ?_⟩
  · rw [n1 0 (by omega)]; exact w2
  · rw [n1 1 (by omega)]; exact w3
  · exact w4
  · exact w5
  · rw [n1 4 (by omega), x5]; exact w6
  · rw [n1 2 (by omega)]; exact w7
  · rw [n1 3 (by omega)]; exact w8
  · rw [RHou, x1]; exact w9
  · intro q hq
    show plS S n pl ta gi sk wa 3 (10 * q + 1) = upd (T 5) n (nI ta) q ∧ plS S n pl ta gi sk wa 3 (10 * q + 2) = upd (T 6) n (nI gi) q ∧ plS S n pl ta gi sk wa 3 (10 * q + 3) = upd (T 7) n (nI sk) q ∧ plS S n pl ta gi sk wa 3 (10 * q + 5) = bitI (T 0 10) q ∧ plS S n pl ta gi sk wa 3 (10 * q + 6) = bitI (T 0 11) q ∧ le32 (upd (T 5) n (nI ta) q) 9 ∧ le32 (upd (T 6) n (nI gi) q) 3 ∧ le32 (upd (T 7) n (nI sk) q) 9
    rw [pl_3]
    obtain ⟨a, b, c, d, e, f, g, h⟩ := w10 q hq
    by_cases z : q = n
    · subst z
      simp (disch := omega) only [upd_ne, upd_same]
      exact ⟨trivial, trivial, trivial, d, e, ⟨ta, h2, rfl⟩, ⟨gi, h3.2, rfl⟩, ⟨sk, h4, rfl⟩⟩
    · simp (disch := omega) only [upd_ne]
      exact ⟨a, b, c, d, e, f, g, h⟩
  · intro q hq
    show plS S n pl ta gi sk wa 3 (10 * q) = plT T n pl ta gi sk wa 1 (5 + q) ∧ plS S n pl ta gi sk wa 3 (10 * q + 4) = plT T n pl ta gi sk wa 1 (15 + q) ∧ plS S n pl ta gi sk wa 3 (10 * q + 7) = plT T n pl ta gi sk wa 1 (25 + q) ∧ plS S n pl ta gi sk wa 3 (10 * q + 8) = plT T n pl ta gi sk wa 1 (35 + q) ∧ plS S n pl ta gi sk wa 3 (10 * q + 9) = plT T n pl ta gi sk wa 1 (45 + q) ∧ le32 (plT T n pl ta gi sk wa 1 (5 + q)) 24 ∧ le32 (plT T n pl ta gi sk wa 1 (25 + q)) _
    rw [pl_3, pl_1]
    obtain ⟨a, b, c, d, e, f, g⟩ := w11 q hq
    by_cases z : q = n
    · subst z
      simp (disch := omega) only [upd_ne, upd_same, Nat.add_zero]
      exact ⟨trivial, trivial, c, d, e, ⟨pl, h1, rfl⟩, g⟩
    · simp (disch := omega) only [upd_ne]
      exact ⟨a, b, c, d, e, f, g⟩
  · intro q hq
    show ∃ k : Nat, 1 ≤ k ∧ k ≤ 3 ∧ upd (T 6) n (nI gi) q = nI k
    by_cases z : q = n
    · subst z; exact ⟨gi, h3.1, h3.2, upd_same _ _ _⟩
    · rw [upd_ne _ _ z]; exact w12 q (by omega)
  · rw [RFoe, x3]; exact w13
  · rw [RTol, x4]; exact w14
  · rw [RBok, x6]; exact w15
  · rw [RRul, x7, x8, x9, x10]; exact w16
theorem pil_X (S : Mem) {n pl ta gi sk wa : Nat} (e1 : S 1 9 = nI n) (hn : n < 10) (h1 : pl < 25) (h2 : ta < 10) (h3 : 1 ≤ gi ∧ gi < 4) (h4 : sk < 10) (h5 : wa < 10000) (hw : fX6_whoStandsAt S (nI pl) = some (-nI 1, S)) : fX7_pilgrim S (nI pl) (nI ta) (nI gi) (nI sk) (nI wa) = some (nI n, plS S n pl ta gi sk wa) := by
  have p0 := put_X (mset S 1 9 (nI (n + 1))) (n := n + 1) (p := n) (c := 0) (nI pl) (by omega) rfl (by omega) (by omega)
  have p1 := put_X (mset (mset S 1 9 (nI (n + 1))) 3 (10 * n + 0) (nI pl)) (n := n + 1) (p := n) (c := 1) (nI ta) (by omega) rfl (by omega) (by omega)
  have p2 := put_X (mset (mset (mset S 1 9 (nI (n + 1))) 3 (10 * n + 0) (nI pl)) 3 (10 * n + 1) (nI ta)) (n := n + 1) (p := n) (c := 2) (nI gi) (by omega) rfl (by omega) (by omega)
  have p3 := put_X (mset (mset (mset (mset S 1 9 (nI (n + 1))) 3 (10 * n + 0) (nI pl)) 3 (10 * n + 1) (nI ta)) 3 (10 * n + 2) (nI gi)) (n := n + 1) (p := n) (c := 3) (nI sk) (by omega) rfl (by omega) (by omega)
  have p4 := put_X (mset (mset (mset (mset (mset S 1 9 (nI (n + 1))) 3 (10 * n + 0) (nI pl)) 3 (10 * n + 1) (nI ta)) 3 (10 * n + 2) (nI gi)) 3 (10 * n + 3) (nI sk)) (n := n + 1) (p := n) (c := 4) (nI wa) (by omega) rfl (by omega) (by omega)
  simp (disch := first | omega | assumption) only [fX7_pilgrim, e1, fX7_isPlace, hw, p0, p1, p2, p3, p4, fX2_forget, mset_ne, mset_same, upd_same, upd_ne, ltm, lti, bnd_some, fa_lit, nI_add, pk_mul, nI_clamp, gd_in, nlt0, nI_ltI, nI_leI, nI_eq, if_true, if_false, if_pos, if_neg]
  rfl
theorem pil_T (T : Mem) {n pl ta gi sk wa : Nat} (e2 : T 0 6 = nI n) (hn : n < 10) (h1 : pl < 25) (h2 : ta < 10) (h3 : 1 ≤ gi ∧ gi < 4) (h4 : sk < 10) (h5 : wa < 10000) (hw : fX8_whoAt (mset T 0 0 (nI 0)) (nI pl) = some (-nI 1, mset T 0 0 (nI 0))) : fX8_pilgrim T (nI pl) (nI ta) (nI gi) (nI sk) (nI wa) = some (nI n, plT T n pl ta gi sk wa) := by
  simp (disch := first | omega | assumption) only [fX8_pilgrim, e2, fX8_isIn, hw, pk_sub, Nat.add_sub_cancel, mset_ne, mset_same, upd_same, upd_ne, ltm, lti, bnd_some, fa_lit, nI_add, pk_mul, nI_clamp, gd_in, nlt0, nI_ltI, nI_leI, nI_eq, if_true, if_false, if_pos, if_neg]
  rfl
theorem sim_pilgrim (a b c1 d1 e : Int32) : Sim RR (fun S => fX7_pilgrim S a b c1 d1 e) (fun T => fX8_pilgrim T a b c1 d1 e) := by
  intro S T hR
  obtain ⟨⟨n, d, t, pr, re, bl, c, hW, hP⟩, h2, h3, h4, h5⟩ := id hR
  have hn : n ≤ 10 := hW.1.1
  have e1 : S 1 9 = nI n := hW.2.1.1
  have e2 : T 0 6 = nI n := hW.2.1.2
  have w11 : RMov (S 3) (T 1) (81 * (12 * d + t)) := hW.2.2.2.2.2.2.2.2.2.2.2.1
  rcases ixC a (show 25 < 2 ^ 31 by omega) with ⟨pl, hpl, rfl⟩ | g | g
  · have hx := who_X S (nI pl) hn e1
    have hm := who_M (mset T 0 0 (nI 0)) (nI pl) hn e2
    have hq : whoS (fun p => (mset T 0 0 (nI 0)) 1 (5 + p)) (nI pl) n 0 = whoS (fun p => S 3 (10 * p)) (nI pl) n 0 := (who_eq hn w11 (nI pl)).symm
    rw [hq] at hm
    generalize whoS (fun p => S 3 (10 * p)) (nI pl) n 0 = r at hx hm
    clear hq w11
    by_cases ok : r = -nI 1
    · subst ok
      rcases ixC b (show 10 < 2 ^ 31 by omega) with ⟨ta, hta, rfl⟩ | g | g
      · rcases ixC c1 (show 4 < 2 ^ 31 by omega) with ⟨gi, hgi, rfl⟩ | g | g
        · by_cases g0 : gi = 0
          · subst g0
            clear hW hP h2 h3 h4 h5
            exact ⟨-1, S, mset T 0 0 0, by simp (disch := first | omega | assumption) only [fX7_pilgrim, fX7_isPlace, hx, e1, ite_self, mset_ne, mset_same, upd_same, upd_ne, ltm, lti, bnd_some, fa_lit, nI_add, pk_mul, nI_clamp, gd_in, nlt0, nI_ltI, nI_leI, nI_eq, if_true, if_false, if_pos, if_neg], by simp (disch := first | omega | assumption) only [fX8_pilgrim, fX8_isIn, hm, mset_ne, mset_same, upd_same, upd_ne, ltm, lti, bnd_some, fa_lit, nI_add, pk_mul, nI_clamp, gd_in, nlt0, nI_ltI, nI_leI, nI_eq, if_true, if_false, if_pos, if_neg], hR.told 0⟩
          · rcases ixC d1 (show 10 < 2 ^ 31 by omega) with ⟨sk, hsk, rfl⟩ | g | g
            · rcases ixC e (show 10000 < 2 ^ 31 by omega) with ⟨wa, hwa, rfl⟩ | g | g
              · by_cases n10 : n = 10
                · subst n10
                  clear hW hP h2 h3 h4 h5
                  exact ⟨-1, S, mset T 0 0 0, by simp (disch := first | omega | assumption) only [fX7_pilgrim, e1, mset_ne, mset_same, upd_same, upd_ne, ltm, lti, bnd_some, fa_lit, nI_add, pk_mul, nI_clamp, gd_in, nlt0, nI_ltI, nI_leI, nI_eq, if_true, if_false, if_pos, if_neg], by simp (disch := first | omega | assumption) only [fX8_pilgrim, fX8_isIn, hm, e2, mset_ne, mset_same, upd_same, upd_ne, ltm, lti, bnd_some, fa_lit, nI_add, pk_mul, nI_clamp, gd_in, nlt0, nI_ltI, nI_leI, nI_eq, if_true, if_false, if_pos, if_neg], hR.told 0⟩
                · exact ⟨nI n, _, _, pil_X S e1 (by omega) hpl hta ⟨by omega, hgi⟩ hsk hwa hx, pil_T T e2 (by omega) hpl hta ⟨by omega, hgi⟩ hsk hwa hm, ⟨⟨n + 1, d, t, pr, re, bl, 0, hW.pil (by omega) (by omega) (by omega) ⟨by omega, by omega⟩ (by omega), pas0 rfl rfl⟩, h2, h3, h4, h5⟩⟩
              · clear hW hP h2 h3 h4 h5
                exact ⟨-1, S, mset T 0 0 0, by simp (disch := first | omega | assumption) only [fX7_pilgrim, fX7_isPlace, hx, e1, ite_self, lo1 g, lo2 g, lo3 g, lo4 g, lo5 g, mset_ne, mset_same, upd_same, upd_ne, ltm, lti, bnd_some, fa_lit, nI_add, pk_mul, nI_clamp, gd_in, nlt0, nI_ltI, nI_leI, nI_eq, if_true, if_false, if_pos, if_neg], by simp (disch := first | omega | assumption) only [fX8_pilgrim, fX8_isIn, hm, lo1 g, lo2 g, lo3 g, lo4 g, lo5 g, mset_ne, mset_same, upd_same, upd_ne, ltm, lti, bnd_some, fa_lit, nI_add, pk_mul, nI_clamp, gd_in, nlt0, nI_ltI, nI_leI, nI_eq, if_true, if_false, if_pos, if_neg], hR.told 0⟩
              · clear hW hP h2 h3 h4 h5
                exact ⟨-1, S, mset T 0 0 0, by simp (disch := first | omega | assumption) only [fX7_pilgrim, fX7_isPlace, hx, e1, ite_self, hi1 g, hi2 g, hi3 g, hi4 g, hi5 g, mset_ne, mset_same, upd_same, upd_ne, ltm, lti, bnd_some, fa_lit, nI_add, pk_mul, nI_clamp, gd_in, nlt0, nI_ltI, nI_leI, nI_eq, if_true, if_false, if_pos, if_neg], by simp (disch := first | omega | assumption) only [fX8_pilgrim, fX8_isIn, hm, hi1 g, hi2 g, hi3 g, hi4 g, hi5 g, mset_ne, mset_same, upd_same, upd_ne, ltm, lti, bnd_some, fa_lit, nI_add, pk_mul, nI_clamp, gd_in, nlt0, nI_ltI, nI_leI, nI_eq, if_true, if_false, if_pos, if_neg], hR.told 0⟩
            · clear hW hP h2 h3 h4 h5
              exact ⟨-1, S, mset T 0 0 0, by simp (disch := first | omega | assumption) only [fX7_pilgrim, fX7_isPlace, hx, e1, ite_self, lo1 g, lo2 g, lo3 g, lo4 g, lo5 g, mset_ne, mset_same, upd_same, upd_ne, ltm, lti, bnd_some, fa_lit, nI_add, pk_mul, nI_clamp, gd_in, nlt0, nI_ltI, nI_leI, nI_eq, if_true, if_false, if_pos, if_neg], by simp (disch := first | omega | assumption) only [fX8_pilgrim, fX8_isIn, hm, lo1 g, lo2 g, lo3 g, lo4 g, lo5 g, mset_ne, mset_same, upd_same, upd_ne, ltm, lti, bnd_some, fa_lit, nI_add, pk_mul, nI_clamp, gd_in, nlt0, nI_ltI, nI_leI, nI_eq, if_true, if_false, if_pos, if_neg], hR.told 0⟩
            · clear hW hP h2 h3 h4 h5
              exact ⟨-1, S, mset T 0 0 0, by simp (disch := first | omega | assumption) only [fX7_pilgrim, fX7_isPlace, hx, e1, ite_self, hi1 g, hi2 g, hi3 g, hi4 g, hi5 g, mset_ne, mset_same, upd_same, upd_ne, ltm, lti, bnd_some, fa_lit, nI_add, pk_mul, nI_clamp, gd_in, nlt0, nI_ltI, nI_leI, nI_eq, if_true, if_false, if_pos, if_neg], by simp (disch := first | omega | assumption) only [fX8_pilgrim, fX8_isIn, hm, hi1 g, hi2 g, hi3 g, hi4 g, hi5 g, mset_ne, mset_same, upd_same, upd_ne, ltm, lti, bnd_some, fa_lit, nI_add, pk_mul, nI_clamp, gd_in, nlt0, nI_ltI, nI_leI, nI_eq, if_true, if_false, if_pos, if_neg], hR.told 0⟩
        · clear hW hP h2 h3 h4 h5
          exact ⟨-1, S, mset T 0 0 0, by simp (disch := first | omega | assumption) only [fX7_pilgrim, fX7_isPlace, hx, e1, ite_self, lo1 g, lo2 g, lo3 g, lo4 g, lo5 g, mset_ne, mset_same, upd_same, upd_ne, ltm, lti, bnd_some, fa_lit, nI_add, pk_mul, nI_clamp, gd_in, nlt0, nI_ltI, nI_leI, nI_eq, if_true, if_false, if_pos, if_neg], by simp (disch := first | omega | assumption) only [fX8_pilgrim, fX8_isIn, hm, lo1 g, lo2 g, lo3 g, lo4 g, lo5 g, mset_ne, mset_same, upd_same, upd_ne, ltm, lti, bnd_some, fa_lit, nI_add, pk_mul, nI_clamp, gd_in, nlt0, nI_ltI, nI_leI, nI_eq, if_true, if_false, if_pos, if_neg], hR.told 0⟩
        · clear hW hP h2 h3 h4 h5
          exact ⟨-1, S, mset T 0 0 0, by simp (disch := first | omega | assumption) only [fX7_pilgrim, fX7_isPlace, hx, e1, ite_self, hi1 g, hi2 g, hi3 g, hi4 g, hi5 g, mset_ne, mset_same, upd_same, upd_ne, ltm, lti, bnd_some, fa_lit, nI_add, pk_mul, nI_clamp, gd_in, nlt0, nI_ltI, nI_leI, nI_eq, if_true, if_false, if_pos, if_neg], by simp (disch := first | omega | assumption) only [fX8_pilgrim, fX8_isIn, hm, hi1 g, hi2 g, hi3 g, hi4 g, hi5 g, mset_ne, mset_same, upd_same, upd_ne, ltm, lti, bnd_some, fa_lit, nI_add, pk_mul, nI_clamp, gd_in, nlt0, nI_ltI, nI_leI, nI_eq, if_true, if_false, if_pos, if_neg], hR.told 0⟩
      · clear hW hP h2 h3 h4 h5
        exact ⟨-1, S, mset T 0 0 0, by simp (disch := first | omega | assumption) only [fX7_pilgrim, fX7_isPlace, hx, e1, ite_self, lo1 g, lo2 g, lo3 g, lo4 g, lo5 g, mset_ne, mset_same, upd_same, upd_ne, ltm, lti, bnd_some, fa_lit, nI_add, pk_mul, nI_clamp, gd_in, nlt0, nI_ltI, nI_leI, nI_eq, if_true, if_false, if_pos, if_neg], by simp (disch := first | omega | assumption) only [fX8_pilgrim, fX8_isIn, hm, lo1 g, lo2 g, lo3 g, lo4 g, lo5 g, mset_ne, mset_same, upd_same, upd_ne, ltm, lti, bnd_some, fa_lit, nI_add, pk_mul, nI_clamp, gd_in, nlt0, nI_ltI, nI_leI, nI_eq, if_true, if_false, if_pos, if_neg], hR.told 0⟩
      · clear hW hP h2 h3 h4 h5
        exact ⟨-1, S, mset T 0 0 0, by simp (disch := first | omega | assumption) only [fX7_pilgrim, fX7_isPlace, hx, e1, ite_self, hi1 g, hi2 g, hi3 g, hi4 g, hi5 g, mset_ne, mset_same, upd_same, upd_ne, ltm, lti, bnd_some, fa_lit, nI_add, pk_mul, nI_clamp, gd_in, nlt0, nI_ltI, nI_leI, nI_eq, if_true, if_false, if_pos, if_neg], by simp (disch := first | omega | assumption) only [fX8_pilgrim, fX8_isIn, hm, hi1 g, hi2 g, hi3 g, hi4 g, hi5 g, mset_ne, mset_same, upd_same, upd_ne, ltm, lti, bnd_some, fa_lit, nI_add, pk_mul, nI_clamp, gd_in, nlt0, nI_ltI, nI_leI, nI_eq, if_true, if_false, if_pos, if_neg], hR.told 0⟩
    · clear hW hP h2 h3 h4 h5
      exact ⟨-1, S, mset T 0 0 0, by simp (disch := first | omega | assumption) only [fX7_pilgrim, fX7_isPlace, hx, ok, e1, ite_self, mset_ne, mset_same, upd_same, upd_ne, ltm, lti, bnd_some, fa_lit, nI_add, pk_mul, nI_clamp, gd_in, nlt0, nI_ltI, nI_leI, nI_eq, if_true, if_false, if_pos, if_neg], by simp (disch := first | omega | assumption) only [fX8_pilgrim, fX8_isIn, hm, ok, mset_ne, mset_same, upd_same, upd_ne, ltm, lti, bnd_some, fa_lit, nI_add, pk_mul, nI_clamp, gd_in, nlt0, nI_ltI, nI_leI, nI_eq, if_true, if_false, if_pos, if_neg], hR.told 0⟩
  · clear hW hP h2 h3 h4 h5
    exact ⟨-1, S, mset T 0 0 0, by simp (disch := first | omega | assumption) only [fX7_pilgrim, fX7_isPlace, e1, ite_self, lo1 g, lo2 g, lo3 g, lo4 g, lo5 g, mset_ne, mset_same, upd_same, upd_ne, ltm, lti, bnd_some, fa_lit, nI_add, pk_mul, nI_clamp, gd_in, nlt0, nI_ltI, nI_leI, nI_eq, if_true, if_false, if_pos, if_neg], by simp (disch := first | omega | assumption) only [fX8_pilgrim, fX8_isIn, lo1 g, lo2 g, lo3 g, lo4 g, lo5 g, mset_ne, mset_same, upd_same, upd_ne, ltm, lti, bnd_some, fa_lit, nI_add, pk_mul, nI_clamp, gd_in, nlt0, nI_ltI, nI_leI, nI_eq, if_true, if_false, if_pos, if_neg], hR.told 0⟩
  · clear hW hP h2 h3 h4 h5
    exact ⟨-1, S, mset T 0 0 0, by simp (disch := first | omega | assumption) only [fX7_pilgrim, fX7_isPlace, e1, ite_self, hi1 g, hi2 g, hi3 g, hi4 g, hi5 g, mset_ne, mset_same, upd_same, upd_ne, ltm, lti, bnd_some, fa_lit, nI_add, pk_mul, nI_clamp, gd_in, nlt0, nI_ltI, nI_leI, nI_eq, if_true, if_false, if_pos, if_neg], by simp (disch := first | omega | assumption) only [fX8_pilgrim, fX8_isIn, hi1 g, hi2 g, hi3 g, hi4 g, hi5 g, mset_ne, mset_same, upd_same, upd_ne, ltm, lti, bnd_some, fa_lit, nI_add, pk_mul, nI_clamp, gd_in, nlt0, nI_ltI, nI_leI, nI_eq, if_true, if_false, if_pos, if_neg], hR.told 0⟩
