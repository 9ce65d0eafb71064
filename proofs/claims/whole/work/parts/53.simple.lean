/-! the simple calls: state, set, hour, fault, end, told, book -/
theorem RMov.cg {P P' N N' : Nat → Int32} {u u' : Nat} (h : RMov P N u) (hP : ∀ j, j < 100 → P' j = P j) (hN : ∀ j, 5 ≤ j → j < 55 → N' j = N j) (hu : u ≤ u') : RMov P' N' u' := by
  intro p hp
  obtain ⟨a, b, c, d, e, ⟨k1, f1, f2⟩, k2, g1, g2⟩ := h p hp
  rw [hP _ (by omega), hP _ (by omega), hP _ (by omega), hP _ (by omega), hP _ (by omega), hN _ (by omega) (by omega), hN _ (by omega) (by omega), hN _ (by omega) (by omega), hN _ (by omega) (by omega), hN _ (by omega) (by omega)]
  exact ⟨a, b, c, d, e, ⟨k1, f1, f2⟩, k2, by omega, g2⟩
theorem clamp_lit (n : Nat) (h : n < 2 ^ 31) : (OfNat.ofNat n : Int32).toNatClampNeg = n := nI_clamp h
theorem sim_state (v : Int32) : Sim RR (fun S => fX7_state S v) (fun T => fX8_state T v) := by
  intro S T hR
  obtain ⟨⟨n, d, t, pr, re, bl, c, hW, hP⟩, h2, h3, h4, h5⟩ := hR
  obtain ⟨w0, w1, w2, w3, w4, w5, w6, w7, w8, w9, w10, w11, w12, w13, w14, w15, w16⟩ := hW
  refine ⟨S 1 6, mset S 1 6 v, mset (mset T 0 0 0) 1 2 v, rfl, ?_, ⟨⟨n, d, t, pr, re, bl, c, ⟨w0, w1, w2, w3, w4, w5, w6, ?_, w8, w9, w10, w11.cg (fun _ _ => rfl) (fun j h _ => upd_ne _ _ (by omega)) (Nat.le_refl _), w12, w13, w14, w15, w16⟩, hP⟩, h2, h3, h4, h5⟩⟩
  · have : S 1 6 = T 1 2 := w7
    rw [this]; rfl
  · rfl
theorem sim_fault (v : Int32) : Sim RR (fun S => fX7_fault S v) (fun T => fX8_fault T v) := by
  intro S T hR
  have hf := hR.2.2.1
  by_cases h0 : v = 0
  · exact ⟨S 38 2, S, mset T 0 0 0, by simp only [fX7_fault, if_pos h0], by simp only [fX8_fault, ltm, if_pos h0, hf.1]; rfl, hR.told 0⟩
  · by_cases h1 : v = 1
    · exact ⟨S 38 3, S, mset T 0 0 0, by simp only [fX7_fault, if_neg h0, if_pos h1], by simp only [fX8_fault, ltm, if_neg h0, if_pos h1, hf.2]; rfl, hR.told 0⟩
    · exact ⟨-1, S, mset T 0 0 0, by simp only [fX7_fault, if_neg h0, if_neg h1], by simp only [fX8_fault, ltm, if_neg h0, if_neg h1], hR.told 0⟩
theorem sim_end (v : Int32) : Sim RR (fun S => fX7_end S v) (fun T => fX8_end T v) := by
  intro S T hR
  obtain ⟨h1, ⟨k, k0, k1, k2, k3⟩, h3, h4, h5⟩ := id hR
  have hm : (mset T 0 0 0) 0 16 = nI k := k2
  rcases ixN v (show k + 1 < 2 ^ 31 by omega) with h | h | ⟨j, hj, rfl⟩
  · refine ⟨0, S, mset T 0 0 0, by simp only [fX7_end, if_pos h], ?_, hR.told 0⟩
    simp only [fX8_end, ltm, isIn_eq, bnd_some, hm]
    rw [if_neg (show ¬ (0 ≤ v ∧ v ≤ nI k) from fun q => by have := q.1; rw [← Int32.not_lt] at this; exact this h)]
    rfl
  · have hn : ¬ v < 0 := by rw [lt_iff]; rw [le_iff, nI_toInt (by omega)] at h; have : (0 : Int32).toInt = 0 := by decide
                            omega
    have hn2 : ¬ v ≤ nI k := by rw [le_iff, nI_toInt (by omega)]; rw [le_iff, nI_toInt (by omega)] at h; omega
    refine ⟨0, S, mset T 0 0 0, by simp only [fX7_end, if_neg hn, k1, if_neg hn2], ?_, hR.told 0⟩
    simp only [fX8_end, ltm, isIn_eq, bnd_some, hm]
    rw [if_neg (show ¬ (0 ≤ v ∧ v ≤ nI k) from fun q => hn2 q.2)]
    rfl
  · refine ⟨1, mset S 38 1 (nI j), mset (mset T 0 0 0) 0 16 (nI j), ?_, ?_, ⟨h1, ⟨j, by omega, rfl, rfl, fun i hi => k3 i (by omega)⟩, h3, h4, h5⟩⟩
    · simp only [fX7_end, if_neg (nlt0 (show j < 2 ^ 31 by omega)), k1, if_pos (nI_le (show j ≤ k by omega) (by omega)), ltm]
    · simp only [fX8_end, ltm, isIn_eq, bnd_some, hm]
      rw [if_pos (show (0 ≤ nI j ∧ nI j ≤ nI k) from ⟨nI_pos' (by omega), nI_le (by omega) (by omega)⟩)]
      rfl
theorem gd_in {k n : Nat} (x : O) (h : k < n) (hn : n < 2 ^ 31) : gd (inB (nI k) n) x = x := gd_of x (inB_t h hn)
theorem hi1 {x : Int32} {n k : Nat} (g : nI n ≤ x) (hk : k ≤ n) (hn : n < 2 ^ 31) : (x < nI k) = False := by
  rw [le_iff, nI_toInt hn] at g; rw [lt_iff, nI_toInt (by omega)]; exact eq_false (by omega)
theorem hi2 {x : Int32} {n k : Nat} (g : nI n ≤ x) (hk : k ≤ n) (hn : n < 2 ^ 31) : (nI k ≤ x) = True := by
  rw [le_iff, nI_toInt hn] at g; rw [le_iff, nI_toInt (by omega)]; exact eq_true (by omega)
theorem hi3 {x : Int32} {n k : Nat} (g : nI n ≤ x) (hk : k < n) (hn : n < 2 ^ 31) : (x = nI k) = False := by
  rw [le_iff, nI_toInt hn] at g; rw [eq_iff, nI_toInt (by omega)]; exact eq_false (by omega)
theorem hi4 {x : Int32} {n k : Nat} (g : nI n ≤ x) (hk : k < n) (hn : n < 2 ^ 31) : (x ≤ nI k) = False := by
  rw [le_iff, nI_toInt hn] at g; rw [le_iff, nI_toInt (by omega)]; exact eq_false (by omega)
theorem hi5 {x : Int32} {n k : Nat} (g : nI n ≤ x) (hk : k < n) (hn : n < 2 ^ 31) : (nI k < x) = True := by
  rw [le_iff, nI_toInt hn] at g; rw [lt_iff, nI_toInt (by omega)]; exact eq_true (by omega)
theorem lo0 {x : Int32} (g : x < nI 0) : x.toInt < 0 := by
  rw [lt_iff] at g; exact g
theorem lo1 {x : Int32} {k : Nat} (g : x < nI 0) (hk : k < 2 ^ 31) : (x < nI k) = True := by
  have := lo0 g; rw [lt_iff, nI_toInt hk]; exact eq_true (by omega)
theorem lo2 {x : Int32} {k : Nat} (g : x < nI 0) (hk : k < 2 ^ 31) : (nI k ≤ x) = False := by
  have := lo0 g; rw [le_iff, nI_toInt hk]; exact eq_false (by omega)
theorem lo3 {x : Int32} {k : Nat} (g : x < nI 0) (hk : k < 2 ^ 31) : (x = nI k) = False := by
  have := lo0 g; rw [eq_iff, nI_toInt hk]; exact eq_false (by omega)
theorem lo4 {x : Int32} {k : Nat} (g : x < nI 0) (hk : k < 2 ^ 31) : (x ≤ nI k) = True := by
  have := lo0 g; rw [le_iff, nI_toInt hk]; exact eq_true (by omega)
theorem lo5 {x : Int32} {k : Nat} (g : x < nI 0) (hk : k < 2 ^ 31) : (nI k < x) = False := by
  have := lo0 g; rw [lt_iff, nI_toInt hk]; exact eq_false (by omega)
/-- an int is a small number, or below 0, or too large -/
theorem ixC (x : Int32) {n : Nat} (hn : n < 2 ^ 31) : (∃ j : Nat, j < n ∧ x = nI j) ∨ x < nI 0 ∨ nI n ≤ x := by
  rcases ixN x hn with h | h | ⟨j, hj, e⟩
  · exact Or.inr (Or.inl h)
  · exact Or.inr (Or.inr h)
  · exact Or.inl ⟨j, hj, e⟩
theorem sim_book (a b : Int32) : Sim RR (fun S => fX7_book S a b) (fun T => fX8_book T a b) := by
  intro S T hR
  obtain ⟨⟨n, d, t, pr, re, bl, c, hW, hP⟩, h2, h3, h4, h5⟩ := id hR
  obtain ⟨w0, w1, w2, w3, w4, w5, w6, w7, w8, w9, w10, w11, w12, w13, w14, w15, w16⟩ := hW
  have hbl : bl ≤ 200 := w0.2.2.2.2.2
  have e1 : S 6 1 = nI bl := w6.1
  have e2 : T 1 4 = nI bl := w6.2
  have z0 : ∀ x : Int32, x < nI 0 ∨ nI 0 - nI 1 < x := fun x => by
    rw [lt_iff, lt_iff, show (nI 0).toInt = 0 by decide, show (nI 0 - nI 1).toInt = -1 by decide]; omega
  rcases ixC a (show bl < 2 ^ 31 by omega) with ⟨i, hi, rfl⟩ | g | g
  · rcases ixC b (show 4 < 2 ^ 31 by omega) with ⟨j, hj, rfl⟩ | f | f
    · refine ⟨S 7 (4 * i + j), S, mset T 0 0 0, ?_, ?_, hR.told 0⟩
      · simp (disch := first | omega | assumption) only [fX7_book, fX0_read, e1, mset_ne, mset_same, upd_same, upd_ne, ltm, lti, bnd_some, fa_lit, nI_add, pk_mul, nI_clamp, gd_in, nlt0, nI_ltI, nI_leI, nI_eq, if_true, if_false, if_pos, if_neg]
        rw [Nat.mul_comm]
      · have e9 : S 7 (4 * i + j) = T 9 (4 * i + j) := w15 (4 * i + j) (by omega)
        simp (disch := first | omega | assumption) only [fX8_book, fX8_isIn, pk_sub, e2, e9, mset_ne, mset_same, upd_same, upd_ne, ltm, lti, bnd_some, fa_lit, nI_add, pk_mul, nI_clamp, gd_in, nlt0, nI_ltI, nI_leI, nI_eq, if_true, if_false, if_pos, if_neg]
    · refine ⟨-1, S, mset T 0 0 0, ?_, ?_, hR.told 0⟩
      · simp (disch := first | omega | assumption) only [fX7_book, fX0_read, e1, lo1 f, lo2 f, lo3 f, lo4 f, lo5 f, mset_ne, mset_same, upd_same, upd_ne, ltm, lti, bnd_some, fa_lit, nI_add, pk_mul, nI_clamp, gd_in, nlt0, nI_ltI, nI_leI, nI_eq, if_true, if_false, if_pos, if_neg]
      · simp (disch := first | omega | assumption) only [fX8_book, fX8_isIn, pk_sub, e2, lo1 f, lo2 f, lo3 f, lo4 f, lo5 f, mset_ne, mset_same, upd_same, upd_ne, ltm, lti, bnd_some, fa_lit, nI_add, pk_mul, nI_clamp, gd_in, nlt0, nI_ltI, nI_leI, nI_eq, if_true, if_false, if_pos, if_neg]
    · refine ⟨-1, S, mset T 0 0 0, ?_, ?_, hR.told 0⟩
      · simp (disch := first | omega | assumption) only [fX7_book, fX0_read, e1, hi1 f, hi2 f, hi3 f, hi4 f, hi5 f, mset_ne, mset_same, upd_same, upd_ne, ltm, lti, bnd_some, fa_lit, nI_add, pk_mul, nI_clamp, gd_in, nlt0, nI_ltI, nI_leI, nI_eq, if_true, if_false, if_pos, if_neg]
      · simp (disch := first | omega | assumption) only [fX8_book, fX8_isIn, pk_sub, e2, hi1 f, hi2 f, hi3 f, hi4 f, hi5 f, mset_ne, mset_same, upd_same, upd_ne, ltm, lti, bnd_some, fa_lit, nI_add, pk_mul, nI_clamp, gd_in, nlt0, nI_ltI, nI_leI, nI_eq, if_true, if_false, if_pos, if_neg]
  · refine ⟨-1, S, mset T 0 0 0, ?_, ?_, hR.told 0⟩
    · simp (disch := first | omega | assumption) only [fX7_book, fX0_read, e1, lo1 g, lo2 g, lo3 g, lo4 g, lo5 g, mset_ne, mset_same, upd_same, upd_ne, ltm, lti, bnd_some, fa_lit, nI_add, pk_mul, nI_clamp, gd_in, nlt0, nI_ltI, nI_leI, nI_eq, if_true, if_false, if_pos, if_neg]
    · simp (disch := first | omega | assumption) only [fX8_book, fX8_isIn, e2, lo1 g, lo2 g, lo3 g, lo4 g, lo5 g, mset_ne, mset_same, upd_same, upd_ne, ltm, lti, bnd_some, fa_lit, nI_add, pk_mul, nI_clamp, gd_in, nlt0, nI_ltI, nI_leI, nI_eq, if_true, if_false, if_pos, if_neg]
  · refine ⟨-1, S, mset T 0 0 0, ?_, ?_, hR.told 0⟩
    · simp (disch := first | omega | assumption) only [fX7_book, fX0_read, e1, hi1 g, hi2 g, hi3 g, hi4 g, hi5 g, mset_ne, mset_same, upd_same, upd_ne, ltm, lti, bnd_some, fa_lit, nI_add, pk_mul, nI_clamp, gd_in, nlt0, nI_ltI, nI_leI, nI_eq, if_true, if_false, if_pos, if_neg]
    · rcases Nat.eq_zero_or_pos bl with rfl | hb
      · rcases z0 a with z | z
        · simp (disch := first | omega | assumption) only [fX8_book, fX8_isIn, e2, z, mset_ne, mset_same, upd_same, upd_ne, ltm, lti, bnd_some, fa_lit, nI_add, pk_mul, nI_clamp, gd_in, nlt0, nI_ltI, nI_leI, nI_eq, if_true, if_false, if_pos, if_neg]
        · simp (disch := first | omega | assumption) only [fX8_book, fX8_isIn, e2, z, hi1 g, hi2 g, hi3 g, hi4 g, hi5 g, mset_ne, mset_same, upd_same, upd_ne, ltm, lti, bnd_some, fa_lit, nI_add, pk_mul, nI_clamp, gd_in, nlt0, nI_ltI, nI_leI, nI_eq, if_true, if_false, if_pos, if_neg]
      · simp (disch := first | omega | assumption) only [fX8_book, fX8_isIn, pk_sub, e2, hi1 g, hi2 g, hi3 g, hi4 g, hi5 g, mset_ne, mset_same, upd_same, upd_ne, ltm, lti, bnd_some, fa_lit, nI_add, pk_mul, nI_clamp, gd_in, nlt0, nI_ltI, nI_leI, nI_eq, if_true, if_false, if_pos, if_neg]
theorem sim_set (a b : Int32) : Sim RR (fun S => fX7_set S a b) (fun T => fX8_set T a b) := by
  intro S T hR
  rcases ixC a (show 2 < 2 ^ 31 by omega) with ⟨i, hi, rfl⟩ | g | g
  · rcases ixC b (show 100 < 2 ^ 31 by omega) with ⟨j, hj, rfl⟩ | f | f
    · obtain ⟨⟨n, d, t, pr, re, bl, c, hW, hP⟩, h2, h3, h4, h5⟩ := id hR
      obtain ⟨w0, w1, w2, w3, w4, w5, w6, w7, w8, w9, w10, w11, w12, w13, w14, w15, w16⟩ := hW
      rcases (show i = 0 ∨ i = 1 by omega) with rfl | rfl
      · refine ⟨1, mset (mset S 1 11 (nI j)) 25 4 (nI 0), mset (mset (mset T 0 0 (nI 0)) 4 0 (nI j)) 0 3 (nI 0), ?_, ?_, ⟨⟨n, d, t, j, re, bl, 0, ⟨by omega, w1, w2, w3, ⟨rfl, rfl⟩, w5, w6, w7, w8, w9, w10, w11, w12, w13, w14, w15, w16⟩, ⟨by omega, rfl, rfl, fun k h => absurd h (Nat.not_lt_zero k)⟩⟩, h2, h3, h4, h5⟩⟩
        · simp (disch := first | omega | assumption) only [fX7_set, fX7_set_44, fX2_forget, mset_ne, mset_same, upd_same, upd_ne, ltm, lti, bnd_some, fa_lit, nI_add, pk_mul, nI_clamp, gd_in, nlt0, nI_ltI, nI_leI, nI_eq, if_true, if_false, if_pos, if_neg]
        · simp (disch := first | omega | assumption) only [fX8_set, fX8_isIn, mset_ne, mset_same, upd_same, upd_ne, ltm, lti, bnd_some, fa_lit, nI_add, pk_mul, nI_clamp, gd_in, nlt0, nI_ltI, nI_leI, nI_eq, if_true, if_false, if_pos, if_neg]
      · refine ⟨1, mset (mset S 1 12 (nI j)) 25 4 (nI 0), mset (mset (mset T 0 0 (nI 0)) 4 1 (nI j)) 0 3 (nI 0), ?_, ?_, ⟨⟨n, d, t, pr, j, bl, 0, ⟨by omega, w1, w2, w3, w4, ⟨rfl, rfl⟩, w6, w7, w8, w9, w10, w11, w12, w13, w14, w15, w16⟩, ⟨by omega, rfl, rfl, fun k h => absurd h (Nat.not_lt_zero k)⟩⟩, h2, h3, h4, h5⟩⟩
        · simp (disch := first | omega | assumption) only [fX7_set, fX7_set_44, fX2_forget, mset_ne, mset_same, upd_same, upd_ne, ltm, lti, bnd_some, fa_lit, nI_add, pk_mul, nI_clamp, gd_in, nlt0, nI_ltI, nI_leI, nI_eq, if_true, if_false, if_pos, if_neg]
        · simp (disch := first | omega | assumption) only [fX8_set, fX8_isIn, mset_ne, mset_same, upd_same, upd_ne, ltm, lti, bnd_some, fa_lit, nI_add, pk_mul, nI_clamp, gd_in, nlt0, nI_ltI, nI_leI, nI_eq, if_true, if_false, if_pos, if_neg]
    · exact ⟨0, S, mset T 0 0 0, by simp (disch := first | omega | assumption) only [fX7_set, lo1 f, lo2 f, lo3 f, lo4 f, lo5 f, mset_ne, mset_same, upd_same, upd_ne, ltm, lti, bnd_some, fa_lit, nI_add, pk_mul, nI_clamp, gd_in, nlt0, nI_ltI, nI_leI, nI_eq, if_true, if_false, if_pos, if_neg], by simp (disch := first | omega | assumption) only [fX8_set, fX8_isIn, lo1 f, lo2 f, lo3 f, lo4 f, lo5 f, mset_ne, mset_same, upd_same, upd_ne, ltm, lti, bnd_some, fa_lit, nI_add, pk_mul, nI_clamp, gd_in, nlt0, nI_ltI, nI_leI, nI_eq, if_true, if_false, if_pos, if_neg], hR.told 0⟩
    · exact ⟨0, S, mset T 0 0 0, by simp (disch := first | omega | assumption) only [fX7_set, hi1 f, hi2 f, hi3 f, hi4 f, hi5 f, mset_ne, mset_same, upd_same, upd_ne, ltm, lti, bnd_some, fa_lit, nI_add, pk_mul, nI_clamp, gd_in, nlt0, nI_ltI, nI_leI, nI_eq, if_true, if_false, if_pos, if_neg], by simp (disch := first | omega | assumption) only [fX8_set, fX8_isIn, hi1 f, hi2 f, hi3 f, hi4 f, hi5 f, mset_ne, mset_same, upd_same, upd_ne, ltm, lti, bnd_some, fa_lit, nI_add, pk_mul, nI_clamp, gd_in, nlt0, nI_ltI, nI_leI, nI_eq, if_true, if_false, if_pos, if_neg], hR.told 0⟩
  · exact ⟨0, S, mset T 0 0 0, by simp (disch := first | omega | assumption) only [fX7_set, lo1 g, lo2 g, lo3 g, lo4 g, lo5 g, mset_ne, mset_same, upd_same, upd_ne, ltm, lti, bnd_some, fa_lit, nI_add, pk_mul, nI_clamp, gd_in, nlt0, nI_ltI, nI_leI, nI_eq, if_true, if_false, if_pos, if_neg], by simp (disch := first | omega | assumption) only [fX8_set, fX8_isIn, lo1 g, lo2 g, lo3 g, lo4 g, lo5 g, mset_ne, mset_same, upd_same, upd_ne, ltm, lti, bnd_some, fa_lit, nI_add, pk_mul, nI_clamp, gd_in, nlt0, nI_ltI, nI_leI, nI_eq, if_true, if_false, if_pos, if_neg], hR.told 0⟩
  · exact ⟨0, S, mset T 0 0 0, by simp (disch := first | omega | assumption) only [fX7_set, hi1 g, hi2 g, hi3 g, hi4 g, hi5 g, mset_ne, mset_same, upd_same, upd_ne, ltm, lti, bnd_some, fa_lit, nI_add, pk_mul, nI_clamp, gd_in, nlt0, nI_ltI, nI_leI, nI_eq, if_true, if_false, if_pos, if_neg], by simp (disch := first | omega | assumption) only [fX8_set, fX8_isIn, hi1 g, hi2 g, hi3 g, hi4 g, hi5 g, mset_ne, mset_same, upd_same, upd_ne, ltm, lti, bnd_some, fa_lit, nI_add, pk_mul, nI_clamp, gd_in, nlt0, nI_ltI, nI_leI, nI_eq, if_true, if_false, if_pos, if_neg], hR.told 0⟩
