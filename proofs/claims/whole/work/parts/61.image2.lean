/-! image: the reference's loops -/
theorem eqv {α : Sort _} {a b : α} (h : HEq a b) : a = b := eq_of_heq h
theorem bnd_e (r : Int32) (S : Mem) (f : Int32 → Mem → O) : bnd (some (r, S)) f = f r S := eqv (HEq.refl _)
theorem ltm_e (S : Mem) (f : Mem → O) : ltm S f = f S := eqv (HEq.refl _)
theorem lti_e (v : Int32) (f : Int32 → O) : lti v f = f v := eqv (HEq.refl _)
theorem Inv.at {b a a' : Nat} {T0 T : Mem} (h : Inv b T0 a T) (e : a = a') : Inv b T0 a' T := e ▸ h
theorem im_76 {b : Nat} {T0 : Mem} (hb : b < 2) : ∀ (k i f : Nat) (T : Mem), i + k = 400 → k < f → Inv b T0 (1019 + 2 * i) T → ∃ T', fX8_keepsRules_76 f T (nI i) = some (nI 0, T') ∧ Inv b T0 1819 T' := by
  intro k
  induction k with
  | zero =>
    intro i f T hi hf h
    obtain ⟨f, rfl⟩ : ∃ g, f = g + 1 := ⟨f - 1, by omega⟩
    have hi : i = 400 := by omega
    subst hi
    refine ⟨T, ?_, h.at (by omega)⟩
    show fX8_keepsRules_76_b (fX8_keepsRules_76 f) T (nI 400) = _
    simp (disch := first | omega | assumption) only [fX8_keepsRules_76_b, mset_ne, mset_same, upd_same, upd_ne, ltm_e, lti_e, bnd_e, fa_lit, nI_add, pk_mul, nI_clamp, gd_in, nlt0, nI_ltI, nI_leI, nI_eq, if_true, if_false, if_pos, if_neg]
  | succ k ih =>
    intro i f T hi hf h
    obtain ⟨f, rfl⟩ : ∃ g, f = g + 1 := ⟨f - 1, by omega⟩
    obtain ⟨r1, T1, k1, i1, -⟩ := kept_it (c := 16) (j := i) hb h (by simp (disch := omega) only [pos, if_pos] <;> omega) (by omega) (by omega) (by omega)
    obtain ⟨r2, T2, k2, i2, -⟩ := kept_it (c := 17) (j := i) hb i1 (by simp (disch := omega) only [pos, if_pos] <;> omega) (by omega) (by omega) (by omega)
    obtain ⟨T', x, y⟩ := ih (i + 1) f (mset T2 17 i r2) (by omega) (by omega) (i2.at (by omega))
    refine ⟨T', ?_, y⟩
    rw [← x]
    show fX8_keepsRules_76_b (fX8_keepsRules_76 f) T (nI i) = _
    simp only [mset_ne, ne_eq, Nat.reduceEqDiff, not_false_eq_true] at k2
    simp (disch := first | omega | assumption) only [fX8_keepsRules_76_b, k1, k2, mset_ne, mset_same, upd_same, upd_ne, ltm_e, lti_e, bnd_e, fa_lit, nI_add, pk_mul, nI_clamp, gd_in, nlt0, nI_ltI, nI_leI, nI_eq, if_true, if_false, if_pos, if_neg]
theorem im_14 {b : Nat} {T0 : Mem} (hb : b < 2) : ∀ (k i f : Nat) (T : Mem), i + k = 16 → k < f → Inv b T0 (971 + 3 * i) T → ∃ T', fX8_keepsRules_14 f T (nI i) = some (nI 0, T') ∧ Inv b T0 1819 T' := by
  intro k
  induction k with
  | zero =>
    intro i f T hi hf h
    obtain ⟨f, rfl⟩ : ∃ g, f = g + 1 := ⟨f - 1, by omega⟩
    have hi : i = 16 := by omega
    subst hi
    obtain ⟨T', x, y⟩ := im_76 hb 400 0 FU T (by omega) (by unfold FU; omega) (h.at (by omega))
    refine ⟨T', ?_, y⟩
    show fX8_keepsRules_14_b (fX8_keepsRules_14 f) T (nI 16) = _
    simp (disch := first | omega | assumption) only [fX8_keepsRules_14_b, x, mset_ne, mset_same, upd_same, upd_ne, ltm_e, lti_e, bnd_e, fa_lit, nI_add, pk_mul, nI_clamp, gd_in, nlt0, nI_ltI, nI_leI, nI_eq, if_true, if_false, if_pos, if_neg]
  | succ k ih =>
    intro i f T hi hf h
    obtain ⟨f, rfl⟩ : ∃ g, f = g + 1 := ⟨f - 1, by omega⟩
    obtain ⟨r1, T1, k1, i1, -⟩ := kept_it (c := 13) (j := i) hb h (by simp (disch := omega) only [pos, if_pos] <;> omega) (by omega) (by omega) (by omega)
    obtain ⟨r2, T2, k2, i2, -⟩ := kept_it (c := 14) (j := i) hb i1 (by simp (disch := omega) only [pos, if_pos] <;> omega) (by omega) (by omega) (by omega)
    obtain ⟨r3, T3, k3, i3, -⟩ := kept_it (c := 15) (j := i) hb i2 (by simp (disch := omega) only [pos, if_pos] <;> omega) (by omega) (by omega) (by omega)
    obtain ⟨T', x, y⟩ := ih (i + 1) f (mset T3 15 i r3) (by omega) (by omega) (i3.at (by omega))
    refine ⟨T', ?_, y⟩
    rw [← x]
    show fX8_keepsRules_14_b (fX8_keepsRules_14 f) T (nI i) = _
    simp only [mset_ne, ne_eq, Nat.reduceEqDiff, not_false_eq_true] at k2 k3
    simp (disch := first | omega | assumption) only [fX8_keepsRules_14_b, k1, k2, k3, mset_ne, mset_same, upd_same, upd_ne, ltm_e, lti_e, bnd_e, fa_lit, nI_add, pk_mul, nI_clamp, gd_in, nlt0, nI_ltI, nI_leI, nI_eq, if_true, if_false, if_pos, if_neg]
theorem im_rul {b : Nat} {T0 T : Mem} (hb : b < 2) (h : Inv b T0 970 T) : ∃ T', fX8_keepsRules T = some (nI 0, T') ∧ Inv b T0 1819 T' := by
  obtain ⟨r1, T1, k1, i1, -⟩ := kept_it (c := 0) (j := 22) hb h (by simp [pos]) (by omega) (by omega) (by omega)
  obtain ⟨T', x, y⟩ := im_14 hb 16 0 FU (mset T1 0 22 r1) (by omega) (by unfold FU; omega) (i1.at (by omega))
  refine ⟨T', ?_, y⟩
  simp (disch := first | omega | assumption) only [fX8_keepsRules, k1, x, mset_ne, mset_same, upd_same, upd_ne, ltm_e, lti_e, bnd_e, fa_lit, nI_add, pk_mul, nI_clamp, gd_in, nlt0, nI_ltI, nI_leI, nI_eq, if_true, if_false, if_pos, if_neg]
/-- the end of the call -/
def imE (b : Nat) (T' : Mem) : Mem := if b = 0 then mset T' 0 3 (nI 0) else T'
theorem im_254 {b : Nat} {T0 : Mem} (hb : b < 2) : ∀ (k i f : Nat) (T : Mem), i + k = 800 → k < f → Inv b T0 (170 + i) T → ∃ T', fX8_image_254 f T (nI b) (nI i) = some (nI 1, imE b T') ∧ Inv b T0 1819 T' := by
  intro k
  induction k with
  | zero =>
    intro i f T hi hf h
    obtain ⟨f, rfl⟩ : ∃ g, f = g + 1 := ⟨f - 1, by omega⟩
    have hi : i = 800 := by omega
    subst hi
    obtain ⟨T', x, y⟩ := im_rul hb (h.at (by omega))
    refine ⟨T', ?_, y⟩
    show fX8_image_254_b (fX8_image_254 f) T (nI b) (nI 800) = _
    rcases (show b = 0 ∨ b = 1 by omega) with rfl | rfl
    · simp (disch := first | omega | assumption) only [fX8_image_254_b, x, imE, mset_ne, mset_same, upd_same, upd_ne, ltm_e, lti_e, bnd_e, fa_lit, nI_add, pk_mul, nI_clamp, gd_in, nlt0, nI_ltI, nI_leI, nI_eq, if_true, if_false, if_pos, if_neg]
    · simp (disch := first | omega | assumption) only [fX8_image_254_b, x, imE, mset_ne, mset_same, upd_same, upd_ne, ltm_e, lti_e, bnd_e, fa_lit, nI_add, pk_mul, nI_clamp, gd_in, nlt0, nI_ltI, nI_leI, nI_eq, if_true, if_false, if_pos, if_neg]
  | succ k ih =>
    intro i f T hi hf h
    obtain ⟨f, rfl⟩ : ∃ g, f = g + 1 := ⟨f - 1, by omega⟩
    obtain ⟨r1, T1, k1, i1, -⟩ := kept_it (c := 9) (j := i) hb h (by simp (disch := omega) only [pos, if_pos] <;> omega) (by omega) (by omega) (by omega)
    obtain ⟨T', x, y⟩ := ih (i + 1) f (mset T1 9 i r1) (by omega) (by omega) (i1.at (by omega))
    refine ⟨T', ?_, y⟩
    rw [← x]
    show fX8_image_254_b (fX8_image_254 f) T (nI b) (nI i) = _
    simp (disch := first | omega | assumption) only [fX8_image_254_b, k1, mset_ne, mset_same, upd_same, upd_ne, ltm_e, lti_e, bnd_e, fa_lit, nI_add, pk_mul, nI_clamp, gd_in, nlt0, nI_ltI, nI_leI, nI_eq, if_true, if_false, if_pos, if_neg]
theorem im_160 {b : Nat} {T0 : Mem} (hb : b < 2) : ∀ (k i f : Nat) (T : Mem), i + k = 10 → k < f → Inv b T0 (120 + 5 * i) T → ∃ T', fX8_image_160 f T (nI b) (nI i) = some (nI 1, imE b T') ∧ Inv b T0 1819 T' := by
  intro k
  induction k with
  | zero =>
    intro i f T hi hf h
    obtain ⟨f, rfl⟩ : ∃ g, f = g + 1 := ⟨f - 1, by omega⟩
    have hi : i = 10 := by omega
    subst hi
    obtain ⟨T', x, y⟩ := im_254 hb 800 0 FU T (by omega) (by unfold FU; omega) (h.at (by omega))
    refine ⟨T', ?_, y⟩
    show fX8_image_160_b (fX8_image_160 f) T (nI b) (nI 10) = _
    simp (disch := first | omega | assumption) only [fX8_image_160_b, x, mset_ne, mset_same, upd_same, upd_ne, ltm_e, lti_e, bnd_e, fa_lit, nI_add, pk_mul, nI_clamp, gd_in, nlt0, nI_ltI, nI_leI, nI_eq, if_true, if_false, if_pos, if_neg]
  | succ k ih =>
    intro i f T hi hf h
    obtain ⟨f, rfl⟩ : ∃ g, f = g + 1 := ⟨f - 1, by omega⟩
    obtain ⟨r1, T1, k1, i1, -⟩ := kept_it (c := 5) (j := i) hb h (by simp (disch := omega) only [pos, if_pos] <;> omega) (by omega) (by omega) (by omega)
    obtain ⟨r2, T2, k2, i2, -⟩ := kept_it (c := 6) (j := i) hb i1 (by simp (disch := omega) only [pos, if_pos] <;> omega) (by omega) (by omega) (by omega)
    obtain ⟨r3, T3, k3, i3, -⟩ := kept_it (c := 7) (j := i) hb i2 (by simp (disch := omega) only [pos, if_pos] <;> omega) (by omega) (by omega) (by omega)
    obtain ⟨r4, T4, k4, i4, -⟩ := kept_it (c := 8) (j := i) hb i3 (by simp (disch := omega) only [pos, if_pos] <;> omega) (by omega) (by omega) (by omega)
    obtain ⟨r5, T5, k5, i5, -⟩ := kept_it (c := 10) (j := i) hb i4 (by simp (disch := omega) only [pos, if_pos] <;> omega) (by omega) (by omega) (by omega)
    obtain ⟨T', x, y⟩ := ih (i + 1) f (mset T5 10 i r5) (by omega) (by omega) (i5.at (by omega))
    refine ⟨T', ?_, y⟩
    rw [← x]
    show fX8_image_160_b (fX8_image_160 f) T (nI b) (nI i) = _
    simp only [mset_ne, ne_eq, Nat.reduceEqDiff, not_false_eq_true] at k2 k3 k4 k5
    simp (disch := first | omega | assumption) only [fX8_image_160_b, k1, k2, k3, k4, k5, mset_ne, mset_same, upd_same, upd_ne, ltm_e, lti_e, bnd_e, fa_lit, nI_add, pk_mul, nI_clamp, gd_in, nlt0, nI_ltI, nI_leI, nI_eq, if_true, if_false, if_pos, if_neg]
theorem im_95 {b : Nat} {T0 : Mem} (hb : b < 2) : ∀ (k i f : Nat) (T : Mem), i + k = 2 → k < f → Inv b T0 (115 + i) T → ∃ T', fX8_image_95 f T (nI b) (nI i) = some (nI 1, imE b T') ∧ Inv b T0 1819 T' := by
  intro k
  induction k with
  | zero =>
    intro i f T hi hf h
    obtain ⟨f, rfl⟩ : ∃ g, f = g + 1 := ⟨f - 1, by omega⟩
    have hi : i = 2 := by omega
    subst hi
    obtain ⟨r1, T1, k1, i1, -⟩ := kept_it (c := 0) (j := 6) hb (h.at (show 115 + 2 = 117 by omega)) (by simp [pos]) (by omega) (by omega) (by omega)
    obtain ⟨r2, T2, k2, i2, -⟩ := kept_it (c := 0) (j := 10) hb (i1.at (show 117 + 1 = 118 by omega)) (by simp [pos]) (by omega) (by omega) (by omega)
    obtain ⟨r3, T3, k3, i3, -⟩ := kept_it (c := 0) (j := 11) hb (i2.at (show 118 + 1 = 119 by omega)) (by simp [pos]) (by omega) (by omega) (by omega)
    obtain ⟨T', x, y⟩ := im_160 hb 10 0 FU (mset T3 0 11 r3) (by omega) (by unfold FU; omega) (i3.at (by omega))
    refine ⟨T', ?_, y⟩
    show fX8_image_95_b (fX8_image_95 f) T (nI b) (nI 2) = _
    simp (disch := omega) only [mset_same, upd_ne] at k2 k3
    simp (disch := first | omega | assumption) only [fX8_image_95_b, k1, k2, k3, x, mset_ne, mset_same, upd_same, upd_ne, ltm_e, lti_e, bnd_e, fa_lit, nI_add, pk_mul, nI_clamp, gd_in, nlt0, nI_ltI, nI_leI, nI_eq, if_true, if_false, if_pos, if_neg]
  | succ k ih =>
    intro i f T hi hf h
    obtain ⟨f, rfl⟩ : ∃ g, f = g + 1 := ⟨f - 1, by omega⟩
    obtain ⟨r1, T1, k1, i1, -⟩ := kept_it (c := 4) (j := i) hb h (by simp (disch := omega) only [pos, if_pos] <;> omega) (by omega) (by omega) (by omega)
    obtain ⟨T', x, y⟩ := ih (i + 1) f (mset T1 4 i r1) (by omega) (by omega) (i1.at (by omega))
    refine ⟨T', ?_, y⟩
    rw [← x]
    show fX8_image_95_b (fX8_image_95 f) T (nI b) (nI i) = _
    simp (disch := first | omega | assumption) only [fX8_image_95_b, k1, mset_ne, mset_same, upd_same, upd_ne, ltm_e, lti_e, bnd_e, fa_lit, nI_add, pk_mul, nI_clamp, gd_in, nlt0, nI_ltI, nI_leI, nI_eq, if_true, if_false, if_pos, if_neg]
theorem im_65 {b : Nat} {T0 : Mem} (hb : b < 2) : ∀ (k i f : Nat) (T : Mem), i + k = 60 → k < f → Inv b T0 (55 + i) T → ∃ T', fX8_image_65 f T (nI b) (nI i) = some (nI 1, imE b T') ∧ Inv b T0 1819 T' := by
  intro k
  induction k with
  | zero =>
    intro i f T hi hf h
    obtain ⟨f, rfl⟩ : ∃ g, f = g + 1 := ⟨f - 1, by omega⟩
    have hi : i = 60 := by omega
    subst hi
    obtain ⟨T', x, y⟩ := im_95 hb 2 0 FU T (by omega) (by unfold FU; omega) (h.at (by omega))
    refine ⟨T', ?_, y⟩
    show fX8_image_65_b (fX8_image_65 f) T (nI b) (nI 60) = _
    simp (disch := first | omega | assumption) only [fX8_image_65_b, x, mset_ne, mset_same, upd_same, upd_ne, ltm_e, lti_e, bnd_e, fa_lit, nI_add, pk_mul, nI_clamp, gd_in, nlt0, nI_ltI, nI_leI, nI_eq, if_true, if_false, if_pos, if_neg]
  | succ k ih =>
    intro i f T hi hf h
    obtain ⟨f, rfl⟩ : ∃ g, f = g + 1 := ⟨f - 1, by omega⟩
    obtain ⟨r1, T1, k1, i1, -⟩ := kept_it (c := 3) (j := i) hb h (by simp (disch := omega) only [pos, if_pos] <;> omega) (by omega) (by omega) (by omega)
    obtain ⟨T', x, y⟩ := ih (i + 1) f (mset T1 3 i r1) (by omega) (by omega) (i1.at (by omega))
    refine ⟨T', ?_, y⟩
    rw [← x]
    show fX8_image_65_b (fX8_image_65 f) T (nI b) (nI i) = _
    simp (disch := first | omega | assumption) only [fX8_image_65_b, k1, mset_ne, mset_same, upd_same, upd_ne, ltm_e, lti_e, bnd_e, fa_lit, nI_add, pk_mul, nI_clamp, gd_in, nlt0, nI_ltI, nI_leI, nI_eq, if_true, if_false, if_pos, if_neg]
theorem im_35 {b : Nat} {T0 : Mem} (hb : b < 2) : ∀ (k i f : Nat) (T : Mem), i + k = 55 → k < f → Inv b T0 i T → ∃ T', fX8_image_35 f T (nI b) (nI i) = some (nI 1, imE b T') ∧ Inv b T0 1819 T' := by
  intro k
  induction k with
  | zero =>
    intro i f T hi hf h
    obtain ⟨f, rfl⟩ : ∃ g, f = g + 1 := ⟨f - 1, by omega⟩
    have hi : i = 55 := by omega
    subst hi
    obtain ⟨T', x, y⟩ := im_65 hb 60 0 FU T (by omega) (by unfold FU; omega) (h.at (by omega))
    refine ⟨T', ?_, y⟩
    show fX8_image_35_b (fX8_image_35 f) T (nI b) (nI 55) = _
    simp (disch := first | omega | assumption) only [fX8_image_35_b, x, mset_ne, mset_same, upd_same, upd_ne, ltm_e, lti_e, bnd_e, fa_lit, nI_add, pk_mul, nI_clamp, gd_in, nlt0, nI_ltI, nI_leI, nI_eq, if_true, if_false, if_pos, if_neg]
  | succ k ih =>
    intro i f T hi hf h
    obtain ⟨f, rfl⟩ : ∃ g, f = g + 1 := ⟨f - 1, by omega⟩
    obtain ⟨r1, T1, k1, i1, -⟩ := kept_it (c := 1) (j := i) hb h (by simp (disch := omega) only [pos, if_pos] <;> omega) (by omega) (by omega) (by omega)
    obtain ⟨T', x, y⟩ := ih (i + 1) f (mset T1 1 i r1) (by omega) (by omega) (i1.at (by omega))
    refine ⟨T', ?_, y⟩
    rw [← x]
    show fX8_image_35_b (fX8_image_35 f) T (nI b) (nI i) = _
    simp (disch := first | omega | assumption) only [fX8_image_35_b, k1, mset_ne, mset_same, upd_same, upd_ne, ltm_e, lti_e, bnd_e, fa_lit, nI_add, pk_mul, nI_clamp, gd_in, nlt0, nI_ltI, nI_leI, nI_eq, if_true, if_false, if_pos, if_neg]
/-- the memory at the beginning of the items -/
def im0 (T : Mem) (b : Nat) : Mem := mset (mset (mset (mset T 0 0 (nI 0)) 0 45 (nI b)) 0 46 (nI 1)) 0 47 (nI 0)
theorem im_M {b : Nat} (T : Mem) (hb : b < 2) (h : b = 0 → ¬ T 0 46 = nI 0) : ∃ T', fX8_image T (nI b) = some (nI 1, imE b T') ∧ Inv b (im0 T b) 1819 T' := by
  have i0 : Inv b (im0 T b) 0 (im0 T b) := ⟨rfl, rfl, fun _ => ⟨fun _ _ _ _ => rfl, fun c j h => absurd h (Nat.not_lt_zero _)⟩, fun _ => ⟨rfl, fun c j _ _ => by rw [if_neg (Nat.not_lt_zero _)]⟩⟩
  obtain ⟨T', x, y⟩ := im_35 hb 55 0 FU (im0 T b) (by omega) (by unfold FU; omega) (i0.at (by omega))
  refine ⟨T', ?_, y⟩
  rw [← x]
  rcases (show b = 0 ∨ b = 1 by omega) with rfl | rfl
  · have h' := h rfl
    simp (disch := first | omega | assumption) only [fX8_image, fX8_image_18, h', gd_b0, mset_ne, mset_same, upd_same, upd_ne, ltm_e, lti_e, bnd_e, fa_lit, nI_add, pk_mul, nI_clamp, gd_in, nlt0, nI_ltI, nI_leI, nI_eq, if_true, if_false, if_pos, if_neg]
    rfl
  · simp (disch := first | omega | assumption) only [fX8_image, fX8_image_18, gd_b1, mset_ne, mset_same, upd_same, upd_ne, ltm_e, lti_e, bnd_e, fa_lit, nI_add, pk_mul, nI_clamp, gd_in, nlt0, nI_ltI, nI_leI, nI_eq, if_true, if_false, if_pos, if_neg]
    rfl
