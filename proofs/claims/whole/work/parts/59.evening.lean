/-! evening, undo -/
def RX (S T : Mem) : Prop := RTap S T ∧ RFau S T ∧ RImg S T ∧ RWor T
theorem RWn.bur {n d t pr re bl p b : Nat} {S T : Mem} (h : RWn n d t pr re bl (sl S 1) T) (hp : p < 10) (hb : b ≤ 81 * (12 * d + t)) : RWn n d t pr re bl (sl (mset S 3 (10 * p + 7) (nI b)) 1) (mset T 1 (25 + p) (nI b)) := by
  refine h.mv1 (m := 2) (v := nI b) hp (by omega) (fun z => absurd z (by omega)) (fun _ => ⟨b, hb, rfl⟩) (fun c h1 h2 => ?_) rfl (fun c hc => ?_) rfl rfl rfl rfl rfl
  · show mset S 3 (10 * p + 7) (nI b) (1 + c) = S (1 + c)
    exact mset_ne _ _ _ (by omega)
  · exact mset_ne _ _ _ (fun z => by subst z; revert hc; decide)
theorem ev_val {b re : Nat} (hb : b < 2 ^ 30) (hr : re < 2 ^ 30) : imax (nI 0) (nI b - nI re) = nI (b - re) := by
  unfold imax
  rcases Nat.lt_or_ge re b with h | h
  · rw [pk_sub (by omega), if_pos (nI_lt (by omega) (by omega))]
  · rw [if_neg, show b - re = 0 by omega]
    rw [lt_iff, pk_sub_toInt hb hr, show (nI 0).toInt = 0 by decide]
    omega
theorem ev_loop {n d pr re bl : Nat} (hn : n ≤ 10) (hd : d ≤ 999) (hre : re ≤ 99) : ∀ (k i f : Nat) (S T : Mem), i + k = n → k < f → RWn n d 0 pr re bl (sl S 1) T → RX S T → ∃ r S' T', fX7_evening_50 f S (nI i) = some (r, S') ∧ fX8_evening_53 f T (nI i) = some (r, T') ∧ RR S' T' := by
  intro k
  induction k with
  | zero =>
    intro i f S T hi hf hW hX
    obtain ⟨f, rfl⟩ : ∃ g, f = g + 1 := ⟨f - 1, by omega⟩
    have hi : i = n := by omega
    subst hi
    have e1 : S 1 9 = nI i := hW.2.1.1
    have e2 : T 0 6 = nI i := hW.2.1.2
    have d1 : S 1 7 = nI d := hW.2.2.1.1
    have d2 : T 1 0 = nI d := hW.2.2.1.2
    refine ⟨nI d, mset S 25 4 (nI 0), mset T 0 3 (nI 0), ?_, ?_, ⟨⟨i, d, 0, pr, re, bl, 0, hW, pas0 rfl rfl⟩, hX⟩⟩
    · show fX7_evening_50_b (fX7_evening_50 f) S (nI i) = _
      clear hW hX
      simp (disch := first | omega | assumption) only [fX7_evening_50_b, e1, fX2_forget, d1, mset_ne, mset_same, upd_same, upd_ne, ltm, lti, bnd_some, fa_lit, nI_add, pk_mul, nI_clamp, gd_in, nlt0, nI_ltI, nI_leI, nI_eq, if_true, if_false, if_pos, if_neg]
    · show fX8_evening_53_b (fX8_evening_53 f) T (nI i) = _
      clear hW hX
      simp (disch := first | omega | assumption) only [fX8_evening_53_b, e2, d2, mset_ne, mset_same, upd_same, upd_ne, ltm, lti, bnd_some, fa_lit, nI_add, pk_mul, nI_clamp, gd_in, nlt0, nI_ltI, nI_leI, nI_eq, if_true, if_false, if_pos, if_neg]
  | succ k ih =>
    intro i f S T hi hf hW hX
    obtain ⟨f, rfl⟩ : ∃ g, f = g + 1 := ⟨f - 1, by omega⟩
    have e1 : S 1 9 = nI n := hW.2.1.1
    have e2 : T 0 6 = nI n := hW.2.1.2
    have r1 : S 1 12 = nI re := hW.2.2.2.2.2.1.1
    have r2 : T 4 1 = nI re := hW.2.2.2.2.2.1.2
    have w11 : RMov (S 3) (T 1) (81 * (12 * d + 0)) := hW.2.2.2.2.2.2.2.2.2.2.2.1
    obtain ⟨-, -, hb, -, -, -, ⟨b, hb1, hb2⟩⟩ := w11 i (by omega)
    rw [hb2] at hb
    have hW' := hW.bur (p := i) (b := b - re) (by omega) (by omega)
    obtain ⟨r, S', T', x, y, z⟩ := ih (i + 1) f (mset S 3 (10 * i + 7) (nI (b - re))) (mset T 1 (25 + i) (nI (b - re))) (by omega) (by omega) hW' hX
    refine ⟨r, S', T', ?_, ?_, z⟩
    · show fX7_evening_50_b (fX7_evening_50 f) S (nI i) = _
      rw [← x]
      clear hW hW' hX ih x y z
      have ev := ev_val (b := b) (re := re) (by omega) (by omega)
      simp (disch := first | omega | assumption) only [fX7_evening_50_b, e1, has_X S hn e1 (show i < n by omega) (show 7 < 10 by omega), hb, r1, ev, put_X S _ hn e1 (show i < n by omega) (show 7 < 10 by omega), mset_ne, mset_same, upd_same, upd_ne, ltm, lti, bnd_some, fa_lit, nI_add, pk_mul, nI_clamp, gd_in, nlt0, nI_ltI, nI_leI, nI_eq, if_true, if_false, if_pos, if_neg]
    · show fX8_evening_53_b (fX8_evening_53 f) T (nI i) = _
      rw [← y]
      clear hW hW' hX ih x y z
      rcases Nat.lt_or_ge re b with h | h
      · simp (disch := first | omega | assumption) only [fX8_evening_53_b, e2, hb2, r2, fX8_evening_107, pk_sub, mset_ne, mset_same, upd_same, upd_ne, ltm, lti, bnd_some, fa_lit, nI_add, pk_mul, nI_clamp, gd_in, nlt0, nI_ltI, nI_leI, nI_eq, if_true, if_false, if_pos, if_neg]
      · have h0 : b - re = 0 := by omega
        simp (disch := first | omega | assumption) only [fX8_evening_53_b, e2, hb2, r2, fX8_evening_107, h0, mset_ne, mset_same, upd_same, upd_ne, ltm, lti, bnd_some, fa_lit, nI_add, pk_mul, nI_clamp, gd_in, nlt0, nI_ltI, nI_leI, nI_eq, if_true, if_false, if_pos, if_neg]
theorem sim_evening : Sim RR (fun S => fX7_evening S) (fun T => fX8_evening T) := by
  intro S T hR
  obtain ⟨⟨n, d, t, pr, re, bl, c, hW, hP⟩, hX⟩ := id hR
  have hn : n ≤ 10 := hW.1.1
  have hd : d ≤ 999 := hW.1.2.1
  have ht : t ≤ 12 := hW.1.2.2.1
  have hre : re ≤ 99 := hW.1.2.2.2.2.1
  have d1 : S 1 7 = nI d := hW.2.2.1.1
  have d2 : T 1 0 = nI d := hW.2.2.1.2
  have t1 : S 1 8 = nI t := hW.2.2.2.1.1
  have t2 : T 1 1 = nI t := hW.2.2.2.1.2
  by_cases h12 : t = 12
  · subst h12
    by_cases h9 : d = 999
    · subst h9
      clear hW hP hX
      exact ⟨-1, S, mset T 0 0 0, by simp (disch := first | omega | assumption) only [fX7_evening, t1, d1, mset_ne, mset_same, upd_same, upd_ne, ltm, lti, bnd_some, fa_lit, nI_add, pk_mul, nI_clamp, gd_in, nlt0, nI_ltI, nI_leI, nI_eq, if_true, if_false, if_pos, if_neg], by simp (disch := first | omega | assumption) only [fX8_evening, t2, d2, mset_ne, mset_same, upd_same, upd_ne, ltm, lti, bnd_some, fa_lit, nI_add, pk_mul, nI_clamp, gd_in, nlt0, nI_ltI, nI_leI, nI_eq, if_true, if_false, if_pos, if_neg], hR.told 0⟩
    · have hW' : RWn n (d + 1) 0 pr re bl (sl (mset (mset S 1 7 (nI (d + 1))) 1 8 (nI 0)) 1) (mset (mset (mset T 0 0 (nI 0)) 1 0 (nI (d + 1))) 1 1 (nI 0)) := by
        obtain ⟨w0, w1, w2, w3, w4, w5, w6, w7, w8, w9, w10, w11, w12, w13, w14, w15, w16⟩ := hW
        exact ⟨by omega, w1, ⟨rfl, rfl⟩, ⟨rfl, rfl⟩, w4, w5, w6, w7, w8, w9, w10, w11.cg (fun _ _ => rfl) (fun j h _ => by
          show upd (upd (T 1) 0 (nI (d + 1))) 1 (nI 0) j = T 1 j
          rw [upd_ne _ _ (by omega), upd_ne _ _ (by omega)]) (by omega), w12, w13, w14, w15, w16⟩
      obtain ⟨r, S', T', x, y, z⟩ := ev_loop hn (show d + 1 ≤ 999 by omega) hre n 0 FU _ _ (by omega) (by unfold FU; omega) hW' hX
      refine ⟨r, S', T', ?_, ?_, z⟩
      · rw [← x]
        clear hW hP hX hW' x y z
        simp (disch := first | omega | assumption) only [fX7_evening, t1, d1, mset_ne, mset_same, upd_same, upd_ne, ltm, lti, bnd_some, fa_lit, nI_add, pk_mul, nI_clamp, gd_in, nlt0, nI_ltI, nI_leI, nI_eq, if_true, if_false, if_pos, if_neg]
      · rw [← y]
        clear hW hP hX hW' x y z
        simp (disch := first | omega | assumption) only [fX8_evening, t2, d2, mset_ne, mset_same, upd_same, upd_ne, ltm, lti, bnd_some, fa_lit, nI_add, pk_mul, nI_clamp, gd_in, nlt0, nI_ltI, nI_leI, nI_eq, if_true, if_false, if_pos, if_neg]
  · clear hW hP hX
    exact ⟨-1, S, mset T 0 0 0, by simp (disch := first | omega | assumption) only [fX7_evening, t1, mset_ne, mset_same, upd_same, upd_ne, ltm, lti, bnd_some, fa_lit, nI_add, pk_mul, nI_clamp, gd_in, nlt0, nI_ltI, nI_leI, nI_eq, if_true, if_false, if_pos, if_neg], by simp (disch := first | omega | assumption) only [fX8_evening, t2, mset_ne, mset_same, upd_same, upd_ne, ltm, lti, bnd_some, fa_lit, nI_add, pk_mul, nI_clamp, gd_in, nlt0, nI_ltI, nI_leI, nI_eq, if_true, if_false, if_pos, if_neg], hR.told 0⟩
theorem undo_loop (c' : Nat) (hc : c' < 12) : ∀ (k i f : Nat) (T : Mem), i + k = 55 → k < f → T 0 3 = nI c' → fX8_undo_26 f T (nI i) = some (1, mput T 1 (fun j => if i ≤ j ∧ j < 55 then T 2 (55 * c' + j) else T 1 j)) := by
  intro k
  induction k with
  | zero =>
    intro i f T hi hf e
    obtain ⟨f, rfl⟩ : ∃ g, f = g + 1 := ⟨f - 1, by omega⟩
    show fX8_undo_26_b (fX8_undo_26 f) T (nI i) = _
    have hi : i = 55 := by omega
    subst hi
    simp (disch := first | omega | assumption) only [fX8_undo_26_b, mset_ne, mset_same, upd_same, upd_ne, ltm, lti, bnd_some, fa_lit, nI_add, pk_mul, nI_clamp, gd_in, nlt0, nI_ltI, nI_leI, nI_eq, if_true, if_false, if_pos, if_neg]
    have : mput T 1 (fun j => T 1 j) = T := by
      funext a
      by_cases h : a = 1
      · subst h
        rw [mput_same]
      · rw [mput_ne _ _ h]
    rw [this]
  | succ k ih =>
    intro i f T hi hf e
    obtain ⟨f, rfl⟩ : ∃ g, f = g + 1 := ⟨f - 1, by omega⟩
    show fX8_undo_26_b (fX8_undo_26 f) T (nI i) = _
    simp (disch := first | omega | assumption) only [fX8_undo_26_b, e, mset_ne, mset_same, upd_same, upd_ne, ltm, lti, bnd_some, fa_lit, nI_add, pk_mul, nI_clamp, gd_in, nlt0, nI_ltI, nI_leI, nI_eq, if_true, if_false, if_pos, if_neg]
    rw [ih (i + 1) f (mset T 1 i (T 2 (55 * c' + i))) (by omega) (by omega) e]
    congr 2
    funext a
    by_cases h : a = 1
    · subst h
      rw [mput_same, mput_same]
      funext j
      rw [mset_ne _ _ _ (by omega), mset_same]
      by_cases q : i + 1 ≤ j ∧ j < 55
      · rw [if_pos q, if_pos (by omega)]
      · rw [if_neg q]
        by_cases q2 : j = i
        · rw [q2, upd_same, if_pos (by omega)]
        · rw [upd_ne _ _ q2, if_neg (by omega)]
    · rw [mput_ne _ _ h, mput_ne _ _ h, mset_ne _ _ _ h]
/-- the class's step back -/
def unX (S : Mem) (c' t : Nat) : Mem := mset (mset (mset (mset (mput (mset S 25 4 (nI c')) 3 (va_cpy (S 26) (S 3) (100 * c') 0 100)) 1 6 (S 27 c')) 1 10 (S 28 c')) 6 1 (S 29 c')) 1 8 (nI (t - 1))
def unM (T : Mem) (c' : Nat) : Mem := mput (mset (mset T 0 0 (nI 0)) 0 3 (nI c')) 1 (fun j => if 0 ≤ j ∧ j < 55 then T 2 (55 * c' + j) else T 1 j)
theorem gd_b1 (x : O) : gd (isB (nI 1)) x = x := rfl
theorem gd_b0 (x : O) : gd (isB (nI 0)) x = x := rfl
theorem un_X (S : Mem) {c t : Nat} (hc : 0 < c) (hc2 : c ≤ 12) (ht : c ≤ t) (ht2 : t ≤ 12) (e1 : S 25 4 = nI c) (e2 : S 1 8 = nI t) : fX7_undo S = some (1, unX S (c - 1) t) := by
  have g1 : cpG (nI (100 * (c - 1))) (nI 0) (nI 100) 1200 100 = true := by
    simp only [cpG, Bool.and_eq_true, decide_eq_true_eq]
    refine ⟨⟨⟨⟨nI_pos' (by omega), nI_pos' (by omega)⟩, nI_pos' (by omega)⟩, ?_⟩, ?_⟩
    · rw [nI_clamp (by omega), nI_clamp (by omega)]; omega
    · rw [nI_clamp (by omega), nI_clamp (by omega)]; omega
  have e3 : (c - 1) * 10 * 10 = 100 * (c - 1) := by omega
  simp (disch := first | omega | assumption) only [fX7_undo, fX2_goBack_25_1, e1, pk_sub, e3, gd_of _ g1, mput_ne, mput_same, e2, gd_b1, mset_ne, mset_same, upd_same, upd_ne, ltm, lti, bnd_some, fa_lit, nI_add, pk_mul, nI_clamp, gd_in, nlt0, nI_ltI, nI_leI, nI_eq, if_true, if_false, if_pos, if_neg]
  rfl
theorem un_M (T : Mem) {c : Nat} (hc : 0 < c) (hc2 : c ≤ 12) (e1 : T 0 3 = nI c) : fX8_undo T = some (1, unM T (c - 1)) := by
  have hl := undo_loop (c - 1) (by omega) 55 0 FU (mset (mset T 0 0 (nI 0)) 0 3 (nI (c - 1))) (by omega) (by unfold FU; omega) rfl
  simp (disch := first | omega | assumption) only [fX8_undo, e1, pk_sub, mset_ne, mset_same, upd_same, upd_ne, ltm, lti, bnd_some, fa_lit, nI_add, pk_mul, nI_clamp, gd_in, nlt0, nI_ltI, nI_leI, nI_eq, if_true, if_false, if_pos, if_neg]
  rw [show fX8_undo_26 FU (mset (mset T 0 0 (nI 0)) 0 3 (nI (c - 1))) (nI 0) = _ from hl]
  rfl
theorem un_3 (S : Mem) (c' t : Nat) : unX S c' t 3 = va_cpy (S 26) (S 3) (100 * c') 0 100 := rfl
theorem un_p (S : Mem) (c' t : Nat) {j : Nat} (hj : j < 100) : unX S c' t 3 j = S 26 (100 * c' + j) := by
  rw [un_3, pk_cpy_in (by omega) (by omega), Nat.sub_zero]
theorem un_n (T : Mem) (c' : Nat) {j : Nat} (hj : j < 55) : unM T c' 1 j = T 2 (55 * c' + j) := by
  show (if 0 ≤ j ∧ j < 55 then T 2 (55 * c' + j) else T 1 j) = _
  rw [if_pos (by omega)]
theorem sim_undo : Sim RR (fun S => fX7_undo S) (fun T => fX8_undo T) := by
  intro S T hR
  obtain ⟨⟨n, d, t, pr, re, bl, c, hW, hP⟩, hX⟩ := id hR
  have ht : t ≤ 12 := hW.1.2.2.1
  have t1 : S 1 8 = nI t := hW.2.2.2.1.1
  obtain ⟨p1, p2, p3, p4⟩ := hP
  by_cases h0 : c = 0
  · subst h0
    clear hW hX p4
    exact ⟨0, S, mset T 0 0 0, by simp (disch := first | omega | assumption) only [fX7_undo, fX2_goBack_25_1, p2, gd_b0, mset_ne, mset_same, upd_same, upd_ne, ltm, lti, bnd_some, fa_lit, nI_add, pk_mul, nI_clamp, gd_in, nlt0, nI_ltI, nI_leI, nI_eq, if_true, if_false, if_pos, if_neg], by simp (disch := first | omega | assumption) only [fX8_undo, p3, mset_ne, mset_same, upd_same, upd_ne, ltm, lti, bnd_some, fa_lit, nI_add, pk_mul, nI_clamp, gd_in, nlt0, nI_ltI, nI_leI, nI_eq, if_true, if_false, if_pos, if_neg], hR.told 0⟩
  · obtain ⟨q1, q2, q3, q4, ⟨b', q5, q6, q7⟩, q8, q9⟩ := p4 (c - 1) (by omega)
    refine ⟨1, unX S (c - 1) t, unM T (c - 1), un_X S (by omega) (by omega) p1 ht p2 t1, un_M T (by omega) (by omega) p3, ⟨⟨n, d, t - 1, pr, re, b', c - 1, ?_, ?_⟩, hX⟩⟩
    · obtain ⟨w0, w1, w2, w3, w4, w5, w6, w7, w8, w9, w10, w11, w12, w13, w14, w15, w16⟩ := hW
      refine ⟨by omega, w1, ⟨w2.1, ?_⟩, ⟨rfl, ?_⟩, w4, w5, ⟨q6, ?_⟩, ?_, ?_, w9, w10.cg (fun p hp => ?_) rfl rfl rfl rfl rfl, ?_, w12, w13, w14, w15, w16⟩
      · rw [un_n T _ (by omega)]; exact q1
      · rw [un_n T _ (by omega), q2]; congr 1; omega
      · rw [un_n T _ (by omega)]; exact q7
      · rw [un_n T _ (by omega)]; exact q3
      · rw [un_n T _ (by omega)]; exact q4
      · obtain ⟨z1, z2, z3, z4, z5⟩ := q9 p hp
        exact ⟨(un_p S _ t (by omega)).trans z1, (un_p S _ t (by omega)).trans z2, (un_p S _ t (by omega)).trans z3, (un_p S _ t (by omega)).trans z4, (un_p S _ t (by omega)).trans z5⟩
      · refine q8.cg (fun j hj => un_p S _ t hj) (fun j _ hj => un_n T _ hj) ?_
        rw [show c - (c - 1) = 1 by omega]
        exact Nat.le_refl _
    · refine ⟨by omega, rfl, rfl, fun k hk => ?_⟩
      obtain ⟨r1, r2, r3, r4, r5, r6, r7⟩ := p4 k (by omega)
      have e : t - 1 - (c - 1 - k) = t - (c - k) := by omega
      rw [e]
      refine ⟨r1, r2, r3, r4, r5, r6, fun p hp => ?_⟩
      obtain ⟨z1, z2, z3, z4, z5⟩ := q9 p hp
      obtain ⟨y1, y2, y3, y4, y5⟩ := r7 p hp
      rw [un_p S _ t (by omega), un_p S _ t (by omega), un_p S _ t (by omega), un_p S _ t (by omega), un_p S _ t (by omega)]
      exact ⟨y1.trans z1.symm, y2.trans z2.symm, y3.trans z3.symm, y4.trans z4.symm, y5.trans z5.symm⟩
