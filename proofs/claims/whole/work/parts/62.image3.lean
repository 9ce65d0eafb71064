/-! image: both sides -/
theorem img_pos (I : Nat → Int32) {c j : Nat} (h : pos c j < 1819) : imgM I c j = I (pos c j) := by
  have hc : c ≤ 17 := by
    rcases Nat.lt_or_ge 17 c with q | q
    · obtain ⟨k, rfl⟩ : ∃ k, c = k + 18 := ⟨c - 18, by omega⟩
      have e : pos (k + 18) j = 9999 := rfl
      omega
    · exact q
  have e : c = 0 ∨ c = 1 ∨ c = 2 ∨ c = 3 ∨ c = 4 ∨ c = 5 ∨ c = 6 ∨ c = 7 ∨ c = 8 ∨ c = 9 ∨ c = 10 ∨ c = 11 ∨ c = 12 ∨ c = 13 ∨ c = 14 ∨ c = 15 ∨ c = 16 ∨ c = 17 := by omega
  rcases e with rfl | e
  · simp only [pos, imgM] at h ⊢
    by_cases h1 : j = 6
    · simp only [if_pos h1]
    · by_cases h2 : j = 10
      · simp only [if_neg h1, if_pos h2]
      · by_cases h3 : j = 11
        · simp only [if_neg h1, if_neg h2, if_pos h3]
        · by_cases h4 : j = 22
          · simp only [if_neg h1, if_neg h2, if_neg h3, if_pos h4]
          · simp only [if_neg h1, if_neg h2, if_neg h3, if_neg h4] at h; omega
  · rcases e with rfl | rfl | rfl | rfl | rfl | rfl | rfl | rfl | rfl | rfl | rfl | rfl | rfl | rfl | rfl | rfl | rfl <;> simp only [pos, imgM] at h ⊢ <;> (first | omega | (split at h; rename_i q; rw [if_pos q]; omega))
theorem RRul.cg {X M X' M' : Mem} (h : RRul X M) (a7 : X' 7 4 = X 7 4) (a8 : ∀ j, j < 16 → X' 8 j = X 8 j) (a9 : ∀ j, j < 16 → X' 9 j = X 9 j) (a10 : ∀ j, j < 400 → X' 10 j = X 10 j) (b0 : M' 0 22 = M 0 22) (b13 : ∀ j, j < 16 → M' 13 j = M 13 j) (b14 : ∀ j, j < 16 → M' 14 j = M 14 j) (b15 : ∀ j, j < 16 → M' 15 j = M 15 j) (b16 : ∀ j, j < 400 → M' 16 j = M 16 j) (b17 : ∀ j, j < 400 → M' 17 j = M 17 j) : RRul X' M' := by
  obtain ⟨g, g1, g2, g3, ⟨e1, e2, e3⟩, ⟨f1, f2, f3⟩⟩ := h
  refine ⟨g, g1, g2, g3, ⟨by rw [a7]; exact e1, fun i hi => ?_, fun j hj => ?_⟩, ⟨by rw [b0]; exact f1, fun i hi => ?_, fun j hj => ?_⟩⟩
  · rw [a8 i (by omega), a9 i (by omega)]; exact e2 i hi
  · rw [a10 j (by omega)]; exact e3 j hj
  · rw [b13 i (by omega), b14 i (by omega), b15 i (by omega)]; exact f2 i hi
  · rw [b16 j (by omega), b17 j (by omega)]; exact f3 j hj
theorem RWn.cg {n d t pr re bl : Nat} {X M X' M' : Mem} (h : RWn n d t pr re bl X M) (a0 : ∀ j, 6 ≤ j → j < 13 → X' 0 j = X 0 j) (a1 : ∀ j, j < 60 → X' 1 j = X 1 j) (a2 : ∀ j, j < 100 → X' 2 j = X 2 j) (a3 : ∀ j, j < 10 → X' 3 j = X 3 j) (a4 : ∀ j, j < 10 → X' 4 j = X 4 j) (a5 : X' 5 1 = X 5 1) (a6 : ∀ j, j < 800 → X' 6 j = X 6 j) (a7 : X' 7 4 = X 7 4) (a8 : ∀ j, j < 16 → X' 8 j = X 8 j) (a9 : ∀ j, j < 16 → X' 9 j = X 9 j) (a10 : ∀ j, j < 400 → X' 10 j = X 10 j) (b : ∀ c j, pos c j < 1819 → M' c j = M c j) : RWn n d t pr re bl X' M' := by
  have b06 : M' 0 6 = M 0 6 := b 0 6 (by simp [pos])
  have b010 : M' 0 10 = M 0 10 := b 0 10 (by simp [pos])
  have b011 : M' 0 11 = M 0 11 := b 0 11 (by simp [pos])
  have b022 : M' 0 22 = M 0 22 := b 0 22 (by simp [pos])
  have b1 : ∀ j, j < 55 → M' 1 j = M 1 j := fun j hj => b 1 j (by simp only [pos]; rw [if_pos hj]; omega)
  have b3 : ∀ j, j < 60 → M' 3 j = M 3 j := fun j hj => b 3 j (by simp only [pos]; rw [if_pos hj]; omega)
  have b4 : ∀ j, j < 2 → M' 4 j = M 4 j := fun j hj => b 4 j (by simp only [pos]; rw [if_pos hj]; omega)
  have b5 : ∀ j, j < 10 → M' 5 j = M 5 j := fun j hj => b 5 j (by simp only [pos]; rw [if_pos hj]; omega)
  have b6 : ∀ j, j < 10 → M' 6 j = M 6 j := fun j hj => b 6 j (by simp only [pos]; rw [if_pos hj]; omega)
  have b7 : ∀ j, j < 10 → M' 7 j = M 7 j := fun j hj => b 7 j (by simp only [pos]; rw [if_pos hj]; omega)
  have b8 : ∀ j, j < 10 → M' 8 j = M 8 j := fun j hj => b 8 j (by simp only [pos]; rw [if_pos hj]; omega)
  have b10 : ∀ j, j < 10 → M' 10 j = M 10 j := fun j hj => b 10 j (by simp only [pos]; rw [if_pos hj]; omega)
  have b9 : ∀ j, j < 800 → M' 9 j = M 9 j := fun j hj => b 9 j (by simp only [pos]; rw [if_pos hj]; omega)
  have b13 : ∀ j, j < 16 → M' 13 j = M 13 j := fun j hj => b 13 j (by simp only [pos]; rw [if_pos hj]; omega)
  have b14 : ∀ j, j < 16 → M' 14 j = M 14 j := fun j hj => b 14 j (by simp only [pos]; rw [if_pos hj]; omega)
  have b15 : ∀ j, j < 16 → M' 15 j = M 15 j := fun j hj => b 15 j (by simp only [pos]; rw [if_pos hj]; omega)
  have b16 : ∀ j, j < 400 → M' 16 j = M 16 j := fun j hj => b 16 j (by simp only [pos]; rw [if_pos hj]; omega)
  have b17 : ∀ j, j < 400 → M' 17 j = M 17 j := fun j hj => b 17 j (by simp only [pos]; rw [if_pos hj]; omega)
  obtain ⟨w0, w1, w2, w3, w4, w5, w6, w7, w8, w9, w10, w11, w12, w13, w14, w15, w16⟩ := h
  refine ⟨w0, ⟨(a0 9 (by omega) (by omega)).trans w1.1, b06.trans w1.2⟩, ⟨(a0 7 (by omega) (by omega)).trans w2.1, (b1 0 (by omega)).trans w2.2⟩, ⟨(a0 8 (by omega) (by omega)).trans w3.1, (b1 1 (by omega)).trans w3.2⟩, ⟨(a0 11 (by omega) (by omega)).trans w4.1, (b4 0 (by omega)).trans w4.2⟩, ⟨(a0 12 (by omega) (by omega)).trans w5.1, (b4 1 (by omega)).trans w5.2⟩, ⟨a5.trans w6.1, (b1 4 (by omega)).trans w6.2⟩, ?_, ?_, ⟨fun j hj => ?_, fun h hh => ?_⟩, fun p hp => ?_, w11.cg a2 (fun j _ h2 => b1 j h2) (Nat.le_refl _), fun p hp => ?_, ⟨fun a ha => ?_, fun x y hx hy => ?_⟩, fun p hp => ?_, fun j hj => ?_, w16.cg a7 a8 a9 a10 b022 b13 b14 b15 b16 b17⟩
  · rw [a0 6 (by omega) (by omega), b1 2 (by omega)]; exact w7
  · rw [a0 10 (by omega) (by omega), b1 3 (by omega)]; exact w8
  · rw [a1 j hj, b3 j hj]; exact w9.1 j hj
  · rw [b3 _ (by omega), b3 _ (by omega), b3 _ (by omega), b3 _ (by omega), b3 _ (by omega)]; exact w9.2 h hh
  · rw [a2 _ (by omega), a2 _ (by omega), a2 _ (by omega), a2 _ (by omega), a2 _ (by omega), b5 _ hp, b6 _ hp, b7 _ hp, b010, b011]; exact w10 p hp
  · have hn : n ≤ 10 := w0.1
    rw [b6 p (by omega)]; exact w12 p hp
  · rw [a3 a ha, b8 a ha]; exact w13.1 a ha
  · rw [b8 x hx, b8 y hy]; exact w13.2 x y hx hy
  · rw [b10 p hp, a4 p hp]; exact w14 p hp
  · rw [a6 j hj, b9 j hj]; exact w15 j hj
theorem cpy0 {f g : Nat → Int32} {n j : Nat} (h : j < n) : va_cpy f g 0 0 n j = f j := (pk_cpy_in (Nat.zero_le j) (by omega)).trans (congrArg f (by omega))
def bc13a (S : Mem) : Mem := mset (mset (mset (mset (mset (mset (mset (mset (mset (mput (mput (mput (mset (mput (mput (mput (mput (mput (S) 14 (va_cpy (S 2) (S 14) 0 0 60)) 15 (va_cpy (S 3) (S 15) 0 0 100)) 16 (va_cpy (S 4) (S 16) 0 0 10)) 17 (va_cpy (S 5) (S 17) 0 0 10)) 19 (va_cpy (S 7) (S 19) 0 0 800)) 18 1 (S 6 1)) 21 (va_cpy (S 9) (S 21) 0 0 16)) 22 (va_cpy (S 10) (S 22) 0 0 16)) 23 (va_cpy (S 11) (S 23) 0 0 400)) 20 4 (S 8 4)) 20 5 (S 8 5)) 13 6 (S 1 6)) 13 7 (S 1 7)) 13 8 (S 1 8)) 13 9 (S 1 9)) 13 10 (S 1 10)) 13 11 (S 1 11)) 13 12 (S 1 12)
theorem bc13a_eq (S : Mem) : fX6_become_13_1 S = some (nI 0, bc13a S) := by
  simp (disch := first | omega | assumption) only [fX6_become_13_1, fX0_become_18_6, fX4_become_20_8, mput_ne, mput_same, bc13a, mset_ne, mset_same, upd_same, upd_ne, ltm_e, lti_e, bnd_e, fa_lit, nI_add, pk_mul, nI_clamp, gd_in, nlt0, nI_ltI, nI_leI, nI_eq, if_true, if_false, if_pos, if_neg]
theorem bc13a_ne (S : Mem) {c : Nat} (h : c < 13 ∨ 24 < c) : bc13a S c = S c := by
  simp (disch := omega) only [bc13a, mset_ne, mput_ne]
theorem bc13a_cg {n d t pr re bl : Nat} {S M M' : Mem} (h : RWn n d t pr re bl (sl S 1) M) (b : ∀ c j, pos c j < 1819 → M' c j = M c j) : RWn n d t pr re bl (sl (bc13a S) 13) M' := by
  refine h.cg (fun j h1 h2 => ?_) (fun j hj => ?_) (fun j hj => ?_) (fun j hj => ?_) (fun j hj => ?_) ?_ (fun j hj => ?_) ?_ (fun j hj => ?_) (fun j hj => ?_) (fun j hj => ?_) b
  · show bc13a S 13 j = S 1 j
    obtain rfl | rfl | rfl | rfl | rfl | rfl | rfl : j = 6 ∨ j = 7 ∨ j = 8 ∨ j = 9 ∨ j = 10 ∨ j = 11 ∨ j = 12 := by omega
    all_goals simp (disch := omega) only [bc13a, mset_same, mset_ne, mput_ne, upd_same, upd_ne]
  · show bc13a S 14 j = S 2 j
    simp (disch := omega) only [bc13a, mset_same, mset_ne, mput_ne, mput_same]
    exact cpy0 hj
  · show bc13a S 15 j = S 3 j
    simp (disch := omega) only [bc13a, mset_same, mset_ne, mput_ne, mput_same]
    exact cpy0 hj
  · show bc13a S 16 j = S 4 j
    simp (disch := omega) only [bc13a, mset_same, mset_ne, mput_ne, mput_same]
    exact cpy0 hj
  · show bc13a S 17 j = S 5 j
    simp (disch := omega) only [bc13a, mset_same, mset_ne, mput_ne, mput_same]
    exact cpy0 hj
  · show bc13a S 18 1 = S 6 1
    simp (disch := omega) only [bc13a, mset_same, mset_ne, mput_ne, mput_same, upd_same, upd_ne]
  · show bc13a S 19 j = S 7 j
    simp (disch := omega) only [bc13a, mset_same, mset_ne, mput_ne, mput_same]
    exact cpy0 hj
  · show bc13a S 20 4 = S 8 4
    simp (disch := omega) only [bc13a, mset_same, mset_ne, mput_ne, mput_same, upd_same, upd_ne]
  · show bc13a S 21 j = S 9 j
    simp (disch := omega) only [bc13a, mset_same, mset_ne, mput_ne, mput_same]
    exact cpy0 hj
  · show bc13a S 22 j = S 10 j
    simp (disch := omega) only [bc13a, mset_same, mset_ne, mput_ne, mput_same]
    exact cpy0 hj
  · show bc13a S 23 j = S 11 j
    simp (disch := omega) only [bc13a, mset_same, mset_ne, mput_ne, mput_same]
    exact cpy0 hj
def bc13b (S : Mem) : Mem := mset (mset (mset (mset (mset (mset (mset (mset (mset (mput (mput (mput (mset (mput (mput (mput (mput (mput (S) 2 (va_cpy (S 14) (S 2) 0 0 60)) 3 (va_cpy (S 15) (S 3) 0 0 100)) 4 (va_cpy (S 16) (S 4) 0 0 10)) 5 (va_cpy (S 17) (S 5) 0 0 10)) 7 (va_cpy (S 19) (S 7) 0 0 800)) 6 1 (S 18 1)) 9 (va_cpy (S 21) (S 9) 0 0 16)) 10 (va_cpy (S 22) (S 10) 0 0 16)) 11 (va_cpy (S 23) (S 11) 0 0 400)) 8 4 (S 20 4)) 8 5 (S 20 5)) 1 6 (S 13 6)) 1 7 (S 13 7)) 1 8 (S 13 8)) 1 9 (S 13 9)) 1 10 (S 13 10)) 1 11 (S 13 11)) 1 12 (S 13 12)
theorem bc13b_eq (S : Mem) : fX6_become_1_13 S = some (nI 0, bc13b S) := by
  simp (disch := first | omega | assumption) only [fX6_become_1_13, fX0_become_6_18, fX4_become_8_20, mput_ne, mput_same, bc13b, mset_ne, mset_same, upd_same, upd_ne, ltm_e, lti_e, bnd_e, fa_lit, nI_add, pk_mul, nI_clamp, gd_in, nlt0, nI_ltI, nI_leI, nI_eq, if_true, if_false, if_pos, if_neg]
theorem bc13b_ne (S : Mem) {c : Nat} (h : c < 1 ∨ 12 < c) : bc13b S c = S c := by
  simp (disch := omega) only [bc13b, mset_ne, mput_ne]
theorem bc13b_cg {n d t pr re bl : Nat} {S M M' : Mem} (h : RWn n d t pr re bl (sl S 13) M) (b : ∀ c j, pos c j < 1819 → M' c j = M c j) : RWn n d t pr re bl (sl (bc13b S) 1) M' := by
  refine h.cg (fun j h1 h2 => ?_) (fun j hj => ?_) (fun j hj => ?_) (fun j hj => ?_) (fun j hj => ?_) ?_ (fun j hj => ?_) ?_ (fun j hj => ?_) (fun j hj => ?_) (fun j hj => ?_) b
  · show bc13b S 1 j = S 13 j
    obtain rfl | rfl | rfl | rfl | rfl | rfl | rfl : j = 6 ∨ j = 7 ∨ j = 8 ∨ j = 9 ∨ j = 10 ∨ j = 11 ∨ j = 12 := by omega
    all_goals simp (disch := omega) only [bc13b, mset_same, mset_ne, mput_ne, upd_same, upd_ne]
  · show bc13b S 2 j = S 14 j
    simp (disch := omega) only [bc13b, mset_same, mset_ne, mput_ne, mput_same]
    exact cpy0 hj
  · show bc13b S 3 j = S 15 j
    simp (disch := omega) only [bc13b, mset_same, mset_ne, mput_ne, mput_same]
    exact cpy0 hj
  · show bc13b S 4 j = S 16 j
    simp (disch := omega) only [bc13b, mset_same, mset_ne, mput_ne, mput_same]
    exact cpy0 hj
  · show bc13b S 5 j = S 17 j
    simp (disch := omega) only [bc13b, mset_same, mset_ne, mput_ne, mput_same]
    exact cpy0 hj
  · show bc13b S 6 1 = S 18 1
    simp (disch := omega) only [bc13b, mset_same, mset_ne, mput_ne, mput_same, upd_same, upd_ne]
  · show bc13b S 7 j = S 19 j
    simp (disch := omega) only [bc13b, mset_same, mset_ne, mput_ne, mput_same]
    exact cpy0 hj
  · show bc13b S 8 4 = S 20 4
    simp (disch := omega) only [bc13b, mset_same, mset_ne, mput_ne, mput_same, upd_same, upd_ne]
  · show bc13b S 9 j = S 21 j
    simp (disch := omega) only [bc13b, mset_same, mset_ne, mput_ne, mput_same]
    exact cpy0 hj
  · show bc13b S 10 j = S 22 j
    simp (disch := omega) only [bc13b, mset_same, mset_ne, mput_ne, mput_same]
    exact cpy0 hj
  · show bc13b S 11 j = S 23 j
    simp (disch := omega) only [bc13b, mset_same, mset_ne, mput_ne, mput_same]
    exact cpy0 hj
theorem isB_c {v : Int32} (h : isB v = true) : v = nI 0 ∨ v = nI 1 := by
  unfold isB at h
  simp only [Bool.or_eq_true, decide_eq_true_eq] at h
  exact h
theorem sim_image (v : Int32) (hv : isB v = true) : Sim RR (fun S => fX7_image S v) (fun T => fX8_image T v) := by
  intro S T hR
  obtain ⟨⟨n, d, t, pr, re, bl, c, hW, hP⟩, hTap, hFau, hImg, hWor⟩ := id hR
  by_cases h0 : v = nI 0
  · subst h0
    rcases hImg with ⟨i1, i2⟩ | ⟨i1, i2, n', d', t', pr', re', bl', hI⟩
    · exact ⟨0, S, mset T 0 0 0, by simp (disch := first | omega | assumption) only [fX7_image, i1, mset_ne, mset_same, upd_same, upd_ne, ltm_e, lti_e, bnd_e, fa_lit, nI_add, pk_mul, nI_clamp, gd_in, nlt0, nI_ltI, nI_leI, nI_eq, if_true, if_false, if_pos, if_neg], by simp (disch := first | omega | assumption) only [fX8_image, i2, mset_ne, mset_same, upd_same, upd_ne, ltm_e, lti_e, bnd_e, fa_lit, nI_add, pk_mul, nI_clamp, gd_in, nlt0, nI_ltI, nI_leI, nI_eq, if_true, if_false, if_pos, if_neg], hR.told 0⟩
    · obtain ⟨T', x, y⟩ := im_M T (b := 0) (by omega) (fun _ => by rw [i2]; decide)
      obtain ⟨y1, y2, -, y3⟩ := y
      obtain ⟨y4, y5⟩ := y3 rfl
      have im : im0 T 0 26 = T 26 := by unfold im0; rw [mset_ne _ _ _ (by omega), mset_ne _ _ _ (by omega), mset_ne _ _ _ (by omega), mset_ne _ _ _ (by omega)]
      have imj : ∀ j, j ≠ 0 → j ≠ 45 → j ≠ 46 → j ≠ 47 → im0 T 0 0 j = T 0 j := fun j h1 h2 h3 h4 => by
        unfold im0; rw [ms_at, if_neg (by omega), ms_at, if_neg (by omega), ms_at, if_neg (by omega), ms_at, if_neg (by omega)]
      have im46 : im0 T 0 0 46 = nI 1 := by unfold im0; rw [ms_at, if_neg (by omega), ms_at, if_pos ⟨rfl, rfl⟩]
      have imc : ∀ c, c ≠ 0 → im0 T 0 c = T c := fun c hc => by
        unfold im0; rw [mset_ne _ _ _ hc, mset_ne _ _ _ hc, mset_ne _ _ _ hc, mset_ne _ _ _ hc]
      have E : ∀ c j, c ≠ 26 → ¬ (c = 0 ∧ j = 47) → ¬ pos c j < 1819 → T' c j = im0 T 0 c j := fun c j h1 h2 h3 => by rw [y5 c j h1 h2, if_neg h3]
      have F : ∀ c j, pos c j < 1819 → T' c j = imgM (T 26) c j := fun c j h1 => by
        have c26 : c ≠ 26 := fun z => by subst z; simp [pos] at h1
        have c47 : ¬ (c = 0 ∧ j = 47) := fun z => by obtain ⟨rfl, rfl⟩ := z; simp [pos] at h1
        rw [y5 c j c26 c47, if_pos h1, img_pos _ h1, im]
      refine ⟨nI 1, mset (bc13b S) 25 4 (nI 0), imE 0 T', ?_, x, ⟨⟨n', d', t', pr', re', bl', 0, ?_, pas0 ?_ ?_⟩, ?_, ?_, Or.inr ⟨?_, ?_, n', d', t', pr', re', bl', ?_⟩, ?_⟩⟩
      · have : ¬ S 0 2 = nI 0 := by rw [i1]; decide
        simp (disch := first | omega | assumption) only [fX7_image, this, bc13b_eq, fX2_forget, mset_ne, mset_same, upd_same, upd_ne, ltm_e, lti_e, bnd_e, fa_lit, nI_add, pk_mul, nI_clamp, gd_in, nlt0, nI_ltI, nI_leI, nI_eq, if_true, if_false, if_pos, if_neg]
      · have q := bc13b_cg (M' := imE 0 T') hI (fun c j h1 => ?_)
        · exact q.cg (fun _ _ _ => rfl) (fun _ _ => rfl) (fun _ _ => rfl) (fun _ _ => rfl) (fun _ _ => rfl) rfl (fun _ _ => rfl) rfl (fun _ _ => rfl) (fun _ _ => rfl) (fun _ _ => rfl) (fun _ _ _ => rfl)
        · rw [← F c j h1]
          unfold imE
          rw [if_pos rfl, ms_at, if_neg]
          rintro ⟨rfl, rfl⟩
          simp [pos] at h1
      · rw [ms_at, if_pos ⟨rfl, rfl⟩]
      · unfold imE; rw [if_pos rfl, ms_at, if_pos ⟨rfl, rfl⟩]
      · obtain ⟨k, k1, k2, k3, k4⟩ := hTap
        refine ⟨k, k1, ?_, ?_, fun j hj => ?_⟩
        · rw [mset_ne _ _ _ (by omega), bc13b_ne _ (by omega)]; exact k2
        · unfold imE; rw [if_pos rfl, ms_at, if_neg (by omega), E 0 16 (by omega) (by omega) (by simp [pos]), imj 16 (by omega) (by omega) (by omega) (by omega)]; exact k3
        · unfold imE; rw [if_pos rfl, ms_at, if_neg (by omega), E 11 j (by omega) (by omega) (by simp [pos]), imc 11 (by omega), mset_ne _ _ _ (by omega), bc13b_ne _ (by omega)]; exact k4 j hj
      · obtain ⟨k1, k2⟩ := hFau
        refine ⟨?_, ?_⟩
        · unfold imE; rw [if_pos rfl, ms_at (T := T'), if_neg (by omega), E 0 34 (by omega) (by omega) (by simp [pos]), imj 34 (by omega) (by omega) (by omega) (by omega), mset_ne _ _ _ (by omega), bc13b_ne _ (by omega)]; exact k1
        · unfold imE; rw [if_pos rfl, ms_at (T := T'), if_neg (by omega), E 0 35 (by omega) (by omega) (by simp [pos]), imj 35 (by omega) (by omega) (by omega) (by omega), mset_ne _ _ _ (by omega), bc13b_ne _ (by omega)]; exact k2
      · rw [mset_ne _ _ _ (by omega), bc13b_ne _ (by omega)]; exact i1
      · unfold imE; rw [if_pos rfl, ms_at, if_neg (by omega), E 0 46 (by omega) (by omega) (by simp [pos])]; exact im46
      · have e26 : imE 0 T' 26 = T 26 := by unfold imE; rw [if_pos rfl, mset_ne _ _ _ (by omega), y4, im]
        rw [e26]
        have e : ∀ c, c < 11 → sl (mset (bc13b S) 25 4 (nI 0)) 13 c = sl S 13 c := fun c hc => by
          show mset (bc13b S) 25 4 (nI 0) (13 + c) = S (13 + c)
          rw [mset_ne _ _ _ (by omega), bc13b_ne _ (by omega)]
        exact hI.cg (fun _ _ _ => by rw [e 0 (by omega)]) (fun _ _ => by rw [e 1 (by omega)]) (fun _ _ => by rw [e 2 (by omega)]) (fun _ _ => by rw [e 3 (by omega)]) (fun _ _ => by rw [e 4 (by omega)]) (by rw [e 5 (by omega)]) (fun _ _ => by rw [e 6 (by omega)]) (by rw [e 7 (by omega)]) (fun _ _ => by rw [e 8 (by omega)]) (fun _ _ => by rw [e 9 (by omega)]) (fun _ _ => by rw [e 10 (by omega)]) (fun _ _ _ => rfl)
      · intro j hj
        unfold imE; rw [if_pos rfl, ms_at, if_neg (by omega), E 12 j (by omega) (by omega) (by simp [pos]), imc 12 (by omega)]; exact hWor j hj
  · have h1 : v = nI 1 := by
      rcases isB_c hv with q | q
      · exact absurd q h0
      · exact q
    subst h1
    obtain ⟨T', x, y⟩ := im_M T (b := 1) (by omega) (fun z => absurd z (by omega))
    obtain ⟨y1, y2, y3, -⟩ := y
    obtain ⟨y4, y5⟩ := y3 rfl
    have imj : ∀ j, j ≠ 0 → j ≠ 45 → j ≠ 46 → j ≠ 47 → im0 T 1 0 j = T 0 j := fun j h1 h2 h3 h4 => by
      unfold im0; rw [ms_at, if_neg (by omega), ms_at, if_neg (by omega), ms_at, if_neg (by omega), ms_at, if_neg (by omega)]
    have im46 : im0 T 1 0 46 = nI 1 := by unfold im0; rw [ms_at, if_neg (by omega), ms_at, if_pos ⟨rfl, rfl⟩]
    have imc : ∀ c, c ≠ 0 → im0 T 1 c = T c := fun c hc => by
      unfold im0; rw [mset_ne _ _ _ hc, mset_ne _ _ _ hc, mset_ne _ _ _ hc, mset_ne _ _ _ hc]
    have G : ∀ c, c ≠ 26 → c ≠ 0 → T' c = T c := fun c h1 h2 => by
      funext j
      rw [y4 c j h1 (by omega), imc c h2]
    have G0 : ∀ j, j ≠ 0 → j ≠ 45 → j ≠ 46 → j ≠ 47 → T' 0 j = T 0 j := fun j h1 h2 h3 h4 => by rw [y4 0 j (by omega) (by omega), imj j h1 h2 h3 h4]
    have R1 : RR (mset (bc13a S) 0 2 (nI 1)) T' ↔ True := by
      refine iff_true_intro ?_
      have eS : ∀ c, c < 13 ∨ 24 < c → c ≠ 0 → mset (bc13a S) 0 2 (nI 1) c = S c := fun c h1 h2 => by rw [mset_ne _ _ _ h2, bc13a_ne _ h1]
      have eW : RWn n d t pr re bl (sl (mset (bc13a S) 0 2 (nI 1)) 1) T' := by
        have e : ∀ c, c < 11 → sl (mset (bc13a S) 0 2 (nI 1)) 1 c = sl S 1 c := fun c hc => eS (1 + c) (by omega) (by omega)
        refine hW.cg (fun _ _ _ => by rw [e 0 (by omega)]) (fun _ _ => by rw [e 1 (by omega)]) (fun _ _ => by rw [e 2 (by omega)]) (fun _ _ => by rw [e 3 (by omega)]) (fun _ _ => by rw [e 4 (by omega)]) (by rw [e 5 (by omega)]) (fun _ _ => by rw [e 6 (by omega)]) (by rw [e 7 (by omega)]) (fun _ _ => by rw [e 8 (by omega)]) (fun _ _ => by rw [e 9 (by omega)]) (fun _ _ => by rw [e 10 (by omega)]) (fun c j hc => ?_)
        by_cases c0 : c = 0
        · subst c0
          refine G0 j ?_ ?_ ?_ ?_ <;> (intro z; subst z; simp [pos] at hc)
        · exact congrFun (G c (fun z => by subst z; simp [pos] at hc) c0) j
      refine ⟨⟨n, d, t, pr, re, bl, c, eW, ?_⟩, ?_, ?_, Or.inr ⟨?_, ?_, n, d, t, pr, re, bl, ?_⟩, ?_⟩
      · simp only [RPas] at hP ⊢
        rw [eS 25 (by omega) (by omega), eS 26 (by omega) (by omega), eS 27 (by omega) (by omega), eS 28 (by omega) (by omega), eS 29 (by omega) (by omega), eS 3 (by omega) (by omega), G0 3 (by omega) (by omega) (by omega) (by omega), G 2 (by omega) (by omega)]
        exact hP
      · simp only [RTap] at hTap ⊢
        rw [eS 38 (by omega) (by omega), eS 39 (by omega) (by omega), G0 16 (by omega) (by omega) (by omega) (by omega), G 11 (by omega) (by omega)]
        exact hTap
      · simp only [RFau] at hFau ⊢
        rw [eS 38 (by omega) (by omega), G0 34 (by omega) (by omega) (by omega) (by omega), G0 35 (by omega) (by omega) (by omega) (by omega)]
        exact hFau
      · rw [ms_at, if_pos ⟨rfl, rfl⟩]; rfl
      · rw [y4 0 46 (by omega) (by omega), im46]; rfl
      · have q := bc13a_cg (M' := imgM (T' 26)) hW (fun c j h1 => ?_)
        · have e : ∀ c, sl (mset (bc13a S) 0 2 (nI 1)) 13 c = sl (bc13a S) 13 c := fun c => mset_ne _ _ _ (by omega)
          exact q.cg (fun _ _ _ => by rw [e 0]) (fun _ _ => by rw [e 1]) (fun _ _ => by rw [e 2]) (fun _ _ => by rw [e 3]) (fun _ _ => by rw [e 4]) (by rw [e 5]) (fun _ _ => by rw [e 6]) (by rw [e 7]) (fun _ _ => by rw [e 8]) (fun _ _ => by rw [e 9]) (fun _ _ => by rw [e 10]) (fun _ _ _ => rfl)
        · rw [img_pos _ h1, y5 c j h1]
          by_cases c0 : c = 0
          · subst c0
            refine imj j ?_ ?_ ?_ ?_ <;> (intro z; subst z; simp [pos] at h1)
          · rw [imc c c0]
      · intro j hj
        rw [G 12 (by omega) (by omega)]; exact hWor j hj
    refine ⟨nI 1, mset (bc13a S) 0 2 (nI 1), T', ?_, ?_, R1.2 trivial⟩
    · have : ¬ nI 1 = nI 0 := by decide
      simp (disch := first | omega | assumption) only [fX7_image, this, bc13a_eq, mset_ne, mset_same, upd_same, upd_ne, ltm_e, lti_e, bnd_e, fa_lit, nI_add, pk_mul, nI_clamp, gd_in, nlt0, nI_ltI, nI_leI, nI_eq, if_true, if_false, if_pos, if_neg]
    · exact x
