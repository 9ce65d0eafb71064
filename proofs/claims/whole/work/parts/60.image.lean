/-! image -/
/-- where an entry of the reference's memory stands in the image; 9999: nowhere -/
def pos (c j : Nat) : Nat := match c with
  | 0 => if j = 6 then 117 else if j = 10 then 118 else if j = 11 then 119 else if j = 22 then 970 else 9999
  | 1 => if j < 55 then j else 9999
  | 3 => if j < 60 then 55 + j else 9999
  | 4 => if j < 2 then 115 + j else 9999
  | 5 => if j < 10 then 120 + 5 * j else 9999
  | 6 => if j < 10 then 121 + 5 * j else 9999
  | 7 => if j < 10 then 122 + 5 * j else 9999
  | 8 => if j < 10 then 123 + 5 * j else 9999
  | 10 => if j < 10 then 124 + 5 * j else 9999
  | 9 => if j < 800 then 170 + j else 9999
  | 13 => if j < 16 then 971 + 3 * j else 9999
  | 14 => if j < 16 then 972 + 3 * j else 9999
  | 15 => if j < 16 then 973 + 3 * j else 9999
  | 16 => if j < 400 then 1019 + 2 * j else 9999
  | 17 => if j < 400 then 1020 + 2 * j else 9999
  | _ => 9999
/-- a items of the image are done: b taking (1) or going back (0); T0 the memory at the beginning -/
def Inv (b : Nat) (T0 : Mem) (a : Nat) (T : Mem) : Prop := T 0 47 = nI a ∧ T 0 45 = nI b ∧ (b = 1 → (∀ c j, c ≠ 26 → ¬ (c = 0 ∧ j = 47) → T c j = T0 c j) ∧ ∀ c j, pos c j < a → T 26 (pos c j) = T0 c j) ∧ (b = 0 → T 26 = T0 26 ∧ ∀ c j, c ≠ 26 → ¬ (c = 0 ∧ j = 47) → T c j = if pos c j < a then T0 26 (pos c j) else T0 c j)
theorem ms_at (T : Mem) (c j c' j' : Nat) (v : Int32) : mset T c j v c' j' = if c' = c ∧ j' = j then v else T c' j' := by
  by_cases h : c' = c
  · subst h
    rw [mset_same]
    by_cases h2 : j' = j
    · subst h2; rw [upd_same, if_pos ⟨rfl, rfl⟩]
    · rw [upd_ne _ _ h2, if_neg (fun q => h2 q.2)]
  · rw [mset_ne _ _ _ h, if_neg (fun q => h q.1)]
theorem pos_inj {c j c' j' a : Nat} (h : pos c j = a) (h' : pos c' j' = a) (ha : a < 1819) : c = c' ∧ j = j' := by
  have hc : c ≤ 17 ∨ 17 < c := by omega
  have hc' : c' ≤ 17 ∨ 17 < c' := by omega
  have big : ∀ c j, 17 < c → pos c j = 9999 := by
    intro c j hc
    obtain ⟨k, rfl⟩ : ∃ k, c = k + 18 := ⟨c - 18, by omega⟩
    rfl
  rcases hc with hc | hc
  · rcases hc' with hc' | hc'
    · have e : ∀ c, c ≤ 17 → c = 0 ∨ c = 1 ∨ c = 2 ∨ c = 3 ∨ c = 4 ∨ c = 5 ∨ c = 6 ∨ c = 7 ∨ c = 8 ∨ c = 9 ∨ c = 10 ∨ c = 11 ∨ c = 12 ∨ c = 13 ∨ c = 14 ∨ c = 15 ∨ c = 16 ∨ c = 17 := by omega
      rcases e c hc with rfl | rfl | rfl | rfl | rfl | rfl | rfl | rfl | rfl | rfl | rfl | rfl | rfl | rfl | rfl | rfl | rfl | rfl <;> rcases e c' hc' with rfl | rfl | rfl | rfl | rfl | rfl | rfl | rfl | rfl | rfl | rfl | rfl | rfl | rfl | rfl | rfl | rfl | rfl <;> simp only [pos] at h h' <;> (repeat' split at h) <;> (repeat' split at h') <;> first | omega | (refine ⟨rfl, ?_⟩; omega)
    · rw [big c' j' hc'] at h'; omega
  · rw [big c j hc] at h; omega
/-- one item -/
theorem kept_it {b a c j : Nat} {T0 T : Mem} (hb : b < 2) (h : Inv b T0 a T) (hp : pos c j = a) (ha : a < 1819) (hc : c ≠ 26) (hcj : ¬ (c = 0 ∧ (j = 47 ∨ j = 45))) : ∃ r T1, fX8_kept T (T c j) = some (r, T1) ∧ Inv b T0 (a + 1) (mset T1 c j r) ∧ (∀ c' j', c' ≠ 26 → ¬ (c' = 0 ∧ j' = 47) → T1 c' j' = T c' j') := by
  obtain ⟨h1, h2, h3, h4⟩ := h
  rcases (show b = 0 ∨ b = 1 by omega) with rfl | rfl
  · obtain ⟨g1, g2⟩ := h4 rfl
    refine ⟨T 26 a, mset T 0 47 (nI (a + 1)), ?_, ⟨?_, ?_, fun z => absurd z (by omega), fun _ => ⟨?_, fun c' j' hc' hj' => ?_⟩⟩, fun c' j' hc' hj' => ?_⟩
    · simp (disch := first | omega | assumption) only [fX8_kept, h1, h2, pk_sub, Nat.add_sub_cancel, mset_ne, mset_same, upd_same, upd_ne, ltm, lti, bnd_some, fa_lit, nI_add, pk_mul, nI_clamp, gd_in, nlt0, nI_ltI, nI_leI, nI_eq, if_true, if_false, if_pos, if_neg]
    · rw [ms_at, if_neg (by omega), ms_at, if_pos ⟨rfl, rfl⟩]
    · rw [ms_at, if_neg (by omega), ms_at, if_neg (by omega)]; exact h2
    · rw [mset_ne _ _ _ (Ne.symm hc), mset_ne _ _ _ (by omega)]; exact g1
    · rw [ms_at]
      by_cases z : c' = c ∧ j' = j
      · rw [if_pos z, z.1, z.2, hp, if_pos (by omega), g1]
      · rw [if_neg z, ms_at, if_neg hj', g2 c' j' hc' hj']
        have : pos c' j' ≠ a := fun q => z (pos_inj q hp ha)
        by_cases y : pos c' j' < a
        · rw [if_pos y, if_pos (by omega)]
        · rw [if_neg y, if_neg (by omega)]
    · rw [ms_at, if_neg hj']
  · obtain ⟨g1, g2⟩ := h3 rfl
    refine ⟨T c j, mset (mset T 0 47 (nI (a + 1))) 26 a (T c j), ?_, ⟨?_, ?_, fun _ => ⟨fun c' j' hc' hj' => ?_, fun c' j' hp' => ?_⟩, fun z => absurd z (by omega)⟩, fun c' j' hc' hj' => ?_⟩
    · simp (disch := first | omega | assumption) only [fX8_kept, h1, h2, pk_sub, Nat.add_sub_cancel, mset_ne, mset_same, upd_same, upd_ne, ltm, lti, bnd_some, fa_lit, nI_add, pk_mul, nI_clamp, gd_in, nlt0, nI_ltI, nI_leI, nI_eq, if_true, if_false, if_pos, if_neg]
    · rw [ms_at, if_neg (by omega), ms_at, if_neg (by omega), ms_at, if_pos ⟨rfl, rfl⟩]
    · rw [ms_at, if_neg (by omega), ms_at, if_neg (by omega), ms_at, if_neg (by omega)]; exact h2
    · rw [ms_at]
      by_cases z : c' = c ∧ j' = j
      · rw [if_pos z, z.1, z.2]; exact g1 c j hc (fun q => hcj ⟨q.1, Or.inl q.2⟩)
      · rw [if_neg z, ms_at, if_neg (fun q => hc' q.1), ms_at, if_neg hj']; exact g1 c' j' hc' hj'
    · rw [ms_at, if_neg (fun q => hc q.1.symm), ms_at]
      by_cases y : pos c' j' = a
      · obtain ⟨z1, z2⟩ := pos_inj y hp ha
        rw [if_pos ⟨rfl, y⟩, z1, z2]; exact g1 c j hc (fun q => hcj ⟨q.1, Or.inl q.2⟩)
      · rw [if_neg (fun q => y q.2), ms_at, if_neg (by omega)]; exact g2 c' j' (by omega)
    · rw [ms_at, if_neg (fun q => hc' q.1), ms_at, if_neg hj']
