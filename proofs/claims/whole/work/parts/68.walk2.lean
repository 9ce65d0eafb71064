/-! walk: the seats -/
theorem eI_m1 {aₓ : Nat} (hₓ : aₓ < 99) : ¬ eI aₓ = -1 := by rw [eI_ne (by omega)]; exact m1_ne (by omega)
theorem pal_X {Sₓ : Mem} {V : Vw} (hBₓ : VB V) (hX : XVw Sₓ V) (se : Int32) : ∀ (kₓ iₓ fₓ aₓ : Nat), iₓ + kₓ = V.1 → kₓ < fₓ → (aₓ = 99 ∨ aₓ < V.1) → fX5_palestOf_4 fₓ Sₓ se (eI aₓ) (nI iₓ) = some (eI (bstₓ (fun pₓ => !bt se pₓ) (fun xₓ yₓ => decide (V.2.2 yₓ 3 < V.2.2 xₓ 3)) kₓ iₓ aₓ), Sₓ) := by
  have hn := hBₓ.1
  have e1ₓ := hX.1
  intro kₓ
  induction kₓ with
  | zero =>
    intro iₓ fₓ aₓ hiₓ hf haₓ
    obtain ⟨fₓ, rfl⟩ : ∃ gₓ, fₓ = gₓ + 1 := ⟨fₓ - 1, by omega⟩
    show fX5_palestOf_4_b (fX5_palestOf_4 fₓ) Sₓ se (eI aₓ) (nI iₓ) = _
    unfold fX5_palestOf_4_b
    rw [e1ₓ, if_pos (nI_le (by omega) (by omega)), bstₓ]
  | succ kₓ ihₓ =>
    intro iₓ fₓ aₓ hiₓ hf haₓ
    obtain ⟨fₓ, rfl⟩ : ∃ gₓ, fₓ = gₓ + 1 := ⟨fₓ - 1, by omega⟩
    have hp : iₓ < V.1 := by omega
    obtain ⟨-, -, -, e3ₓ, -, -⟩ := has_V hBₓ hX hp
    have b3 := (hBₓ.2.2.1 iₓ (by omega)).2.2.2.1
    have kb := bitI_0 se (show iₓ < 32 by omega)
    show fX5_palestOf_4_b (fX5_palestOf_4 fₓ) Sₓ se (eI aₓ) (nI iₓ) = _
    unfold fX5_palestOf_4_b fX5_palestOf_49 fX5_palestOf_51
    rw [e1ₓ, if_neg (by rw [nI_leI (by omega) (by omega)]; omega), bstₓ, show nI iₓ + 1 = nI (iₓ + 1) from nI_add iₓ 1]
    by_cases cₓ : bt se iₓ = true
    · rw [if_neg (show ¬ ((se >>> (nI iₓ &&& 31)) &&& (1 : Int32)) = 0 from fun qₓ => by rw [kb.1 qₓ] at cₓ; cases cₓ), if_neg (by rw [cₓ]; simp)]
      exact ihₓ (iₓ + 1) fₓ aₓ (by omega) (by omega) haₓ
    · have c' : bt se iₓ = false := by simpa using cₓ
      rw [if_pos (show ((se >>> (nI iₓ &&& 31)) &&& (1 : Int32)) = 0 from kb.2 c')]
      by_cases a9 : aₓ = 99
      · subst a9
        rw [if_pos (show eI 99 = -1 from rfl), if_pos ⟨by rw [c']; rfl, Or.inl rfl⟩, ← eI_ne (show iₓ ≠ 99 by omega)]
        exact ihₓ (iₓ + 1) fₓ iₓ (by omega) (by omega) (Or.inr hp)
      · have hq : aₓ < V.1 := by omega
        obtain ⟨-, -, -, d3ₓ, -, -⟩ := has_V hBₓ hX hq
        have c3ₓ := (hBₓ.2.2.1 aₓ (by omega)).2.2.2.1
        rw [if_neg (eI_m1 (by omega)), eI_ne a9, show (3 : Int32) = nI 3 from rfl, e3ₓ, bnd_e, d3ₓ, bnd_e]
        by_cases zₓ : V.2.2 aₓ 3 < V.2.2 iₓ 3
        · rw [if_neg (by rw [nI_leI (by omega) (by omega)]; omega), if_pos ⟨by rw [c']; rfl, Or.inr (decide_eq_true zₓ)⟩, ← eI_ne (show iₓ ≠ 99 by omega)]
          exact ihₓ (iₓ + 1) fₓ iₓ (by omega) (by omega) (Or.inr hp)
        · rw [if_pos (nI_le (by omega) (by omega)), if_neg (fun qₓ => by rcases qₓ.2 with qₓ | qₓ; exact a9 qₓ; exact zₓ (of_decide_eq_true qₓ)), ← eI_ne a9]
          exact ihₓ (iₓ + 1) fₓ aₓ (by omega) (by omega) haₓ
theorem pal_M {T : Mem} {V : Vw} (hBₓ : VB V) (hMₓ : MVw T V) (dn : Int32) : ∀ (kₓ iₓ fₓ aₓ : Nat), iₓ + kₓ = V.1 → kₓ < fₓ → (aₓ = 99 ∨ aₓ < V.1) → fX8_nextBySkin_4 fₓ T dn (eI aₓ) (nI iₓ) = some (eI (bstₓ (fun pₓ => !bt (T 0 10 ||| dn) pₓ) (fun xₓ yₓ => decide (V.2.2 yₓ 3 < V.2.2 xₓ 3)) kₓ iₓ aₓ), T) := by
  have hn := hBₓ.1
  have e1ₓ := hMₓ.1
  intro kₓ
  induction kₓ with
  | zero =>
    intro iₓ fₓ aₓ hiₓ hf haₓ
    obtain ⟨fₓ, rfl⟩ : ∃ gₓ, fₓ = gₓ + 1 := ⟨fₓ - 1, by omega⟩
    show fX8_nextBySkin_4_b (fX8_nextBySkin_4 fₓ) T dn (eI aₓ) (nI iₓ) = _
    unfold fX8_nextBySkin_4_b
    rw [e1ₓ, if_pos (nI_le (by omega) (by omega)), bstₓ]
  | succ kₓ ihₓ =>
    intro iₓ fₓ aₓ hiₓ hf haₓ
    obtain ⟨fₓ, rfl⟩ : ∃ gₓ, fₓ = gₓ + 1 := ⟨fₓ - 1, by omega⟩
    have hp : iₓ < V.1 := by omega
    obtain ⟨-, -, -, e3ₓ, -, -⟩ := hMₓ.2.2 iₓ (by omega)
    have b3 := (hBₓ.2.2.1 iₓ (by omega)).2.2.2.1
    have kb := bitI_0 (T 0 10 ||| dn) (show iₓ < 32 by omega)
    show fX8_nextBySkin_4_b (fX8_nextBySkin_4 fₓ) T dn (eI aₓ) (nI iₓ) = _
    unfold fX8_nextBySkin_4_b fX8_nextBySkin_45 fX8_nextBySkin_47
    rw [e1ₓ, if_neg (by rw [nI_leI (by omega) (by omega)]; omega), bstₓ, show nI iₓ + 1 = nI (iₓ + 1) from nI_add iₓ 1]
    by_cases cₓ : bt (T 0 10 ||| dn) iₓ = true
    · rw [if_neg (show ¬ (((T 0 10 ||| dn) >>> (nI iₓ &&& 31)) &&& (1 : Int32)) = 0 from fun qₓ => by rw [kb.1 qₓ] at cₓ; cases cₓ), if_neg (by rw [cₓ]; simp)]
      exact ihₓ (iₓ + 1) fₓ aₓ (by omega) (by omega) haₓ
    · have c' : bt (T 0 10 ||| dn) iₓ = false := by simpa using cₓ
      rw [if_pos (show (((T 0 10 ||| dn) >>> (nI iₓ &&& 31)) &&& (1 : Int32)) = 0 from kb.2 c')]
      by_cases a9 : aₓ = 99
      · subst a9
        rw [if_pos (show eI 99 = -1 from rfl), if_pos ⟨by rw [c']; rfl, Or.inl rfl⟩, ← eI_ne (show iₓ ≠ 99 by omega)]
        exact ihₓ (iₓ + 1) fₓ iₓ (by omega) (by omega) (Or.inr hp)
      · have hq : aₓ < V.1 := by omega
        obtain ⟨-, -, -, d3ₓ, -, -⟩ := hMₓ.2.2 aₓ (by omega)
        have c3ₓ := (hBₓ.2.2.1 aₓ (by omega)).2.2.2.1
        rw [if_neg (eI_m1 (by omega)), eI_ne a9, gd_in _ (show iₓ < 10 by omega) (by omega), gd_in _ (show aₓ < 10 by omega) (by omega), nI_clamp (show iₓ < 2 ^ 31 by omega), nI_clamp (show aₓ < 2 ^ 31 by omega), e3ₓ, d3ₓ]
        by_cases zₓ : V.2.2 aₓ 3 < V.2.2 iₓ 3
        · rw [if_neg (by rw [nI_leI (by omega) (by omega)]; omega), if_pos ⟨by rw [c']; rfl, Or.inr (decide_eq_true zₓ)⟩, ← eI_ne (show iₓ ≠ 99 by omega)]
          exact ihₓ (iₓ + 1) fₓ iₓ (by omega) (by omega) (Or.inr hp)
        · rw [if_pos (nI_le (by omega) (by omega)), if_neg (fun qₓ => by rcases qₓ.2 with qₓ | qₓ; exact a9 qₓ; exact zₓ (of_decide_eq_true qₓ)), ← eI_ne a9]
          exact ihₓ (iₓ + 1) fₓ aₓ (by omega) (by omega) haₓ
theorem cool_X {Sₓ : Mem} {sv : Nat → Nat} (hs : ∀ cₓ, cₓ < 25 → Sₓ 33 cₓ = nI (sv cₓ)) (hl : ∀ cₓ, sv cₓ ≤ 108) (tk : Int32) : ∀ (kₓ iₓ fₓ aₓ : Nat), iₓ + kₓ = 25 → kₓ < fₓ → (aₓ = 99 ∨ aₓ < 25) → fX5_coolestBut_4 fₓ Sₓ tk (eI aₓ) (nI iₓ) = some (eI (bstₓ (fun pₓ => !bt tk pₓ) (fun xₓ yₓ => decide (sv xₓ < sv yₓ)) kₓ iₓ aₓ), Sₓ) := by
  intro kₓ
  induction kₓ with
  | zero =>
    intro iₓ fₓ aₓ hiₓ hf haₓ
    obtain ⟨fₓ, rfl⟩ : ∃ gₓ, fₓ = gₓ + 1 := ⟨fₓ - 1, by omega⟩
    show fX5_coolestBut_4_b (fX5_coolestBut_4 fₓ) Sₓ tk (eI aₓ) (nI iₓ) = _
    unfold fX5_coolestBut_4_b
    rw [show (25 : Int32) = nI 25 from rfl, if_pos (nI_le (by omega) (by omega)), bstₓ]
  | succ kₓ ihₓ =>
    intro iₓ fₓ aₓ hiₓ hf haₓ
    obtain ⟨fₓ, rfl⟩ : ∃ gₓ, fₓ = gₓ + 1 := ⟨fₓ - 1, by omega⟩
    have kb := bitI_0 tk (show iₓ < 32 by omega)
    have l1 := hl iₓ
    show fX5_coolestBut_4_b (fX5_coolestBut_4 fₓ) Sₓ tk (eI aₓ) (nI iₓ) = _
    unfold fX5_coolestBut_4_b fX5_coolestBut_38 fX5_coolestBut_40
    rw [show (25 : Int32) = nI 25 from rfl, if_neg (by rw [nI_leI (by omega) (by omega)]; omega), bstₓ, show nI iₓ + 1 = nI (iₓ + 1) from nI_add iₓ 1]
    by_cases cₓ : bt tk iₓ = true
    · rw [if_neg (show ¬ ((tk >>> (nI iₓ &&& 31)) &&& (1 : Int32)) = 0 from fun qₓ => by rw [kb.1 qₓ] at cₓ; cases cₓ), if_neg (by rw [cₓ]; simp)]
      exact ihₓ (iₓ + 1) fₓ aₓ (by omega) (by omega) haₓ
    · have c' : bt tk iₓ = false := by simpa using cₓ
      rw [if_pos (show ((tk >>> (nI iₓ &&& 31)) &&& (1 : Int32)) = 0 from kb.2 c')]
      by_cases a9 : aₓ = 99
      · subst a9
        rw [if_pos (show eI 99 = -1 from rfl), if_pos ⟨by rw [c']; rfl, Or.inl rfl⟩, ← eI_ne (show iₓ ≠ 99 by omega)]
        exact ihₓ (iₓ + 1) fₓ iₓ (by omega) (by omega) (Or.inr (by omega))
      · have hq : aₓ < 25 := by omega
        have l2 := hl aₓ
        rw [if_neg (eI_m1 (by omega)), eI_ne a9, gd_in _ (show iₓ < 25 by omega) (by omega), gd_in _ hq (by omega), nI_clamp (show iₓ < 2 ^ 31 by omega), nI_clamp (show aₓ < 2 ^ 31 by omega), hs iₓ (by omega), hs aₓ hq]
        by_cases zₓ : sv iₓ < sv aₓ
        · rw [if_neg (by rw [nI_leI (by omega) (by omega)]; omega), if_pos ⟨by rw [c']; rfl, Or.inr (decide_eq_true zₓ)⟩, ← eI_ne (show iₓ ≠ 99 by omega)]
          exact ihₓ (iₓ + 1) fₓ iₓ (by omega) (by omega) (Or.inr (by omega))
        · rw [if_pos (nI_le (by omega) (by omega)), if_neg (fun qₓ => by rcases qₓ.2 with qₓ | qₓ; exact a9 qₓ; exact zₓ (of_decide_eq_true qₓ)), ← eI_ne a9]
          exact ihₓ (iₓ + 1) fₓ aₓ (by omega) (by omega) haₓ
theorem cool_M {T : Mem} {sv : Nat → Nat} (hs : ∀ cₓ, cₓ < 25 → T 22 cₓ = nI (sv cₓ)) (hl : ∀ cₓ, sv cₓ ≤ 108) (tk : Int32) : ∀ (kₓ iₓ fₓ aₓ : Nat), iₓ + kₓ = 25 → kₓ < fₓ → (aₓ = 99 ∨ aₓ < 25) → fX8_nextBySuns_4 fₓ T tk (eI aₓ) (nI iₓ) = some (eI (bstₓ (fun pₓ => !bt tk pₓ) (fun xₓ yₓ => decide (sv xₓ < sv yₓ)) kₓ iₓ aₓ), T) := by
  intro kₓ
  induction kₓ with
  | zero =>
    intro iₓ fₓ aₓ hiₓ hf haₓ
    obtain ⟨fₓ, rfl⟩ : ∃ gₓ, fₓ = gₓ + 1 := ⟨fₓ - 1, by omega⟩
    show fX8_nextBySuns_4_b (fX8_nextBySuns_4 fₓ) T tk (eI aₓ) (nI iₓ) = _
    unfold fX8_nextBySuns_4_b
    rw [show (25 : Int32) = nI 25 from rfl, if_pos (nI_le (by omega) (by omega)), bstₓ]
  | succ kₓ ihₓ =>
    intro iₓ fₓ aₓ hiₓ hf haₓ
    obtain ⟨fₓ, rfl⟩ : ∃ gₓ, fₓ = gₓ + 1 := ⟨fₓ - 1, by omega⟩
    have kb := bitI_0 tk (show iₓ < 32 by omega)
    have l1 := hl iₓ
    show fX8_nextBySuns_4_b (fX8_nextBySuns_4 fₓ) T tk (eI aₓ) (nI iₓ) = _
    unfold fX8_nextBySuns_4_b fX8_nextBySuns_38 fX8_nextBySuns_40
    rw [show (25 : Int32) = nI 25 from rfl, if_neg (by rw [nI_leI (by omega) (by omega)]; omega), bstₓ, show nI iₓ + 1 = nI (iₓ + 1) from nI_add iₓ 1]
    by_cases cₓ : bt tk iₓ = true
    · rw [if_neg (show ¬ ((tk >>> (nI iₓ &&& 31)) &&& (1 : Int32)) = 0 from fun qₓ => by rw [kb.1 qₓ] at cₓ; cases cₓ), if_neg (by rw [cₓ]; simp)]
      exact ihₓ (iₓ + 1) fₓ aₓ (by omega) (by omega) haₓ
    · have c' : bt tk iₓ = false := by simpa using cₓ
      rw [if_pos (show ((tk >>> (nI iₓ &&& 31)) &&& (1 : Int32)) = 0 from kb.2 c')]
      by_cases a9 : aₓ = 99
      · subst a9
        rw [if_pos (show eI 99 = -1 from rfl), if_pos ⟨by rw [c']; rfl, Or.inl rfl⟩, ← eI_ne (show iₓ ≠ 99 by omega)]
        exact ihₓ (iₓ + 1) fₓ iₓ (by omega) (by omega) (Or.inr (by omega))
      · have hq : aₓ < 25 := by omega
        have l2 := hl aₓ
        rw [if_neg (eI_m1 (by omega)), eI_ne a9, gd_in _ (show iₓ < 25 by omega) (by omega), gd_in _ hq (by omega), nI_clamp (show iₓ < 2 ^ 31 by omega), nI_clamp (show aₓ < 2 ^ 31 by omega), hs iₓ (by omega), hs aₓ hq]
        by_cases zₓ : sv iₓ < sv aₓ
        · rw [if_neg (by rw [nI_leI (by omega) (by omega)]; omega), if_pos ⟨by rw [c']; rfl, Or.inr (decide_eq_true zₓ)⟩, ← eI_ne (show iₓ ≠ 99 by omega)]
          exact ihₓ (iₓ + 1) fₓ iₓ (by omega) (by omega) (Or.inr (by omega))
        · rw [if_pos (nI_le (by omega) (by omega)), if_neg (fun qₓ => by rcases qₓ.2 with qₓ | qₓ; exact a9 qₓ; exact zₓ (of_decide_eq_true qₓ)), ← eI_ne a9]
          exact ihₓ (iₓ + 1) fₓ aₓ (by omega) (by omega) haₓ
/-- the reference's own fields change here too -/
def fw (T T' : Mem) : Prop := (∀ cₓ, cₓ ∉ (0 :: scM) → T' cₓ = T cₓ) ∧ ∀ jₓ, jₓ ≠ 41 → jₓ ≠ 42 → T' 0 jₓ = T 0 jₓ
theorem fw.tr {T T1 T2 : Mem} (hₓ : fw T T1) (h2 : fw T1 T2) : fw T T2 := ⟨fun cₓ hcₓ => (h2.1 cₓ hcₓ).trans (hₓ.1 cₓ hcₓ), fun jₓ h3 h4 => (h2.2 jₓ h3 h4).trans (hₓ.2 jₓ h3 h4)⟩
theorem frm.fw {T T' : Mem} (hₓ : frm scM T T') : fw T T' := ⟨fun cₓ hcₓ => hₓ cₓ (fun qₓ => hcₓ (List.mem_cons_of_mem _ qₓ)), fun jₓ _ _ => by rw [hₓ 0 (by decide)]⟩
theorem fw.agM {T T' : Mem} (hₓ : fw T T') : agM T T' := by
  refine ⟨fun cₓ hcₓ => hₓ.1 cₓ (fun qₓ => ?_), fun jₓ hj => hₓ.2 jₓ (fun qₓ => by subst qₓ; revert hj; decide) (fun qₓ => by subst qₓ; revert hj; decide)⟩
  simp only [scM, List.mem_cons, List.not_mem_nil, or_false] at qₓ hcₓ
  omega
theorem fw.mv {T T' : Mem} (hₓ : fw T T') {V : Vw} (hMₓ : MVw T V) : MVw T' V := by
  unfold MVw at hMₓ ⊢
  rw [hₓ.2 6 (by omega) (by omega), hₓ.2 10 (by omega) (by omega), hₓ.2 11 (by omega) (by omega), hₓ.1 1 (by decide), hₓ.1 3 (by decide), hₓ.1 5 (by decide), hₓ.1 6 (by decide), hₓ.1 7 (by decide)]
  exact hMₓ
theorem fw.set (T : Mem) {jₓ : Nat} (vₓ : Int32) (hₓ : jₓ = 41 ∨ jₓ = 42) : fw T (mset T 0 jₓ vₓ) := ⟨fun cₓ hcₓ => mset_ne _ _ _ (fun qₓ => hcₓ (by rw [qₓ]; exact List.mem_cons_self)), fun iₓ h1 h2 => by rw [ms_at, if_neg (by omega)]⟩
theorem fw.rf (T : Mem) : fw T T := ⟨fun _ _ => rfl, fun _ _ _ => rfl⟩
/-- the end of both: seats alike, the greatest and the sum -/
def WkF (V : Vw) (sv bvₓ : Nat → Nat) (Sₓ T : Mem) : Prop := (∀ pₓ, pₓ < V.1 → Sₓ 34 pₓ = T 23 pₓ ∧ ∃ cₓ, cₓ < 25 ∧ Sₓ 34 pₓ = nI cₓ ∧ bvₓ pₓ = sv cₓ * V.2.2 pₓ 3) ∧ (∀ cₓ, cₓ < 25 → Sₓ 33 cₓ = nI (sv cₓ)) ∧ T 0 41 = nI (maxL bvₓ V.1 0 0) ∧ T 0 42 = nI (sumLₓ bvₓ V.1 0 0) ∧ ∀ pₓ, bvₓ pₓ ≤ 972
def WkP (V : Vw) (sv : Nat → Nat) (S0ₓ T0ₓ : Mem) (oX oM : O) : Prop := ∃ S' T' bvₓ, oX = some (nI 0, S') ∧ oM = some (nI 0, T') ∧ frm scX S0ₓ S' ∧ fw T0ₓ T' ∧ WkF V sv bvₓ S' T'
/-- underway: se those seated, tk the places taken, dn those seated by skin -/
def WkI (V : Vw) (sv bvₓ : Nat → Nat) (S0ₓ T0ₓ Sₓ T : Mem) (tk se dn : Int32) : Prop := frm scX S0ₓ Sₓ ∧ fw T0ₓ T ∧ SV Sₓ T sv ∧ (∀ jₓ, jₓ < 32 → bt se jₓ = ((decide (jₓ < V.1) && pb V jₓ) || bt dn jₓ)) ∧ (∀ pₓ, pₓ < V.1 → bt se pₓ = true → Sₓ 34 pₓ = T 23 pₓ ∧ ∃ cₓ, cₓ < 25 ∧ Sₓ 34 pₓ = nI cₓ ∧ bvₓ pₓ = sv cₓ * V.2.2 pₓ 3) ∧ (∀ pₓ, pₓ < V.1 → bt se pₓ = false → bvₓ pₓ = 0) ∧ (25 + cntₓ (fun pₓ => !bt se pₓ) V.1 ≤ cntₓ (fun cₓ => !bt tk cₓ) 25 + V.1) ∧ T 0 41 = nI (maxL bvₓ V.1 0 0) ∧ T 0 42 = nI (sumLₓ bvₓ V.1 0 0) ∧ ∀ pₓ, bvₓ pₓ ≤ 972
theorem seat_loop {V : Vw} (hBₓ : VB V) {sv : Nat → Nat} (hl : ∀ cₓ, sv cₓ ≤ 108) {S0ₓ T0ₓ : Mem} (hX0 : XVw S0ₓ V) (hM0 : MVw T0ₓ V) : ∀ (kₓ iₓ fₓ gₓ : Nat) (Sₓ T : Mem) (tk se dn : Int32) (bvₓ : Nat → Nat), iₓ + kₓ = V.1 → kₓ < fₓ → kₓ < gₓ → WkI V sv bvₓ S0ₓ T0ₓ Sₓ T tk se dn → cntₓ (fun pₓ => !bt se pₓ) V.1 ≤ kₓ → WkP V sv S0ₓ T0ₓ (fX5_seatAll_87 fₓ Sₓ tk se (nI iₓ)) (fX8_findsWalk_90 gₓ T tk dn (eI (bstₓ (fun pₓ => !bt se pₓ) (fun xₓ yₓ => decide (V.2.2 yₓ 3 < V.2.2 xₓ 3)) V.1 0 99))) := by
  have hn := hBₓ.1
  have finₓ : ∀ (Sₓ T : Mem) (tk se dn : Int32) (bvₓ : Nat → Nat), WkI V sv bvₓ S0ₓ T0ₓ Sₓ T tk se dn → (∀ pₓ, pₓ < V.1 → bt se pₓ = true) → WkF V sv bvₓ Sₓ T := by
    rintro Sₓ T tk se dn bvₓ ⟨i1ₓ, i2ₓ, i3ₓ, i4ₓ, i5ₓ, i6ₓ, i7ₓ, i8ₓ, i9ₓ, i10ₓ⟩ hall
    exact ⟨fun pₓ hp => i5ₓ pₓ hp (hall pₓ hp), fun cₓ hcₓ => (i3ₓ cₓ hcₓ).1, i8ₓ, i9ₓ, i10ₓ⟩
  intro kₓ
  induction kₓ with
  | zero =>
    intro iₓ fₓ gₓ Sₓ T tk se dn bvₓ hiₓ hf hg hI hcₓ
    obtain ⟨fₓ, rfl⟩ : ∃ gₓ, fₓ = gₓ + 1 := ⟨fₓ - 1, by omega⟩
    obtain ⟨gₓ, rfl⟩ : ∃ hₓ, gₓ = hₓ + 1 := ⟨gₓ - 1, by omega⟩
    have hX := hX0.fr hI.1
    have e1ₓ := hX.1
    have hall : ∀ pₓ, pₓ < V.1 → bt se pₓ = true := fun pₓ hp => by
      have := cnt_0 _ (show cntₓ (fun pₓ => !bt se pₓ) V.1 = 0 by omega) pₓ hp
      simpa using this
    have hbₓ : bstₓ (fun pₓ => !bt se pₓ) (fun xₓ yₓ => decide (V.2.2 yₓ 3 < V.2.2 xₓ 3)) V.1 0 99 = 99 := by
      rcases bst_in (fun pₓ => !bt se pₓ) (fun xₓ yₓ => decide (V.2.2 yₓ 3 < V.2.2 xₓ 3)) V.1 0 99 with hₓ | ⟨h1, h2, h3⟩
      · exact hₓ
      · have := hall _ (Nat.lt_of_lt_of_eq h2 (Nat.zero_add _))
        rw [this] at h3
        cases h3
    rw [hbₓ]
    refine ⟨Sₓ, T, bvₓ, ?_, ?_, hI.1, hI.2.1, finₓ _ _ _ _ _ _ hI hall⟩
    · show fX5_seatAll_87_b (fX5_seatAll_87 fₓ) Sₓ tk se (nI iₓ) = _
      unfold fX5_seatAll_87_b
      rw [e1ₓ, if_pos (nI_le (by omega) (by omega))]
      rfl
    · show fX8_findsWalk_90_b (fX8_findsWalk_90 gₓ) T tk dn (eI 99) = _
      unfold fX8_findsWalk_90_b
      rw [if_pos (show eI 99 = -1 from rfl)]
      rfl
  | succ kₓ ihₓ =>
    intro iₓ fₓ gₓ Sₓ T tk se dn bvₓ hiₓ hf hg hI hcₓ
    obtain ⟨fₓ, rfl⟩ : ∃ gₓ, fₓ = gₓ + 1 := ⟨fₓ - 1, by omega⟩
    obtain ⟨gₓ, rfl⟩ : ∃ hₓ, gₓ = hₓ + 1 := ⟨gₓ - 1, by omega⟩
    have hX := hX0.fr hI.1
    have hMₓ := hI.2.1.mv hM0
    have e1ₓ := hX.1
    have pX := pal_X hBₓ hX se V.1 0 FU 99 (by omega) (by unfold FU; omega) (Or.inl rfl)
    have cXₓ := cool_X (fun cₓ hcₓ => (hI.2.2.1 cₓ hcₓ).1) hl tk 25 0 FU 99 (by omega) (by unfold FU; omega) (Or.inl rfl)
    have cM := cool_M (fun cₓ hcₓ => (hI.2.2.1 cₓ hcₓ).2) hl tk 25 0 FU 99 (by omega) (by unfold FU; omega) (Or.inl rfl)
    have bIn := bst_in (fun pₓ => !bt se pₓ) (fun xₓ yₓ => decide (V.2.2 yₓ 3 < V.2.2 xₓ 3)) V.1 0 99
    have bNo := bst_no (fun pₓ => !bt se pₓ) (fun xₓ yₓ => decide (V.2.2 yₓ 3 < V.2.2 xₓ 3)) V.1 0 99 (by omega)
    have cIn := bst_in (fun pₓ => !bt tk pₓ) (fun xₓ yₓ => decide (sv xₓ < sv yₓ)) 25 0 99
    have cNo := bst_no (fun pₓ => !bt tk pₓ) (fun xₓ yₓ => decide (sv xₓ < sv yₓ)) 25 0 99 (by omega)
    generalize hbₓ : bstₓ (fun pₓ => !bt se pₓ) (fun xₓ yₓ => decide (V.2.2 yₓ 3 < V.2.2 xₓ 3)) V.1 0 99 = bₓ at *
    generalize hcc : bstₓ (fun pₓ => !bt tk pₓ) (fun xₓ yₓ => decide (sv xₓ < sv yₓ)) 25 0 99 = cₓ at *
    show WkP V sv S0ₓ T0ₓ (fX5_seatAll_87_b (fX5_seatAll_87 fₓ) Sₓ tk se (nI iₓ)) (fX8_findsWalk_90_b (fX8_findsWalk_90 gₓ) T tk dn (eI bₓ))
    have pX' : fX5_palestOf Sₓ se = some (eI bₓ, Sₓ) := pX
    have cX' : fX5_coolestBut Sₓ tk = some (eI cₓ, Sₓ) := cXₓ
    have cM' : fX8_nextBySuns T tk = some (eI cₓ, T) := cM
    unfold fX5_seatAll_87_b fX8_findsWalk_90_b
    rw [e1ₓ, if_neg (show ¬ nI V.1 ≤ nI iₓ by rw [nI_leI (by omega) (by omega)]; omega), pX', bnd_e, cX', bnd_e, cM', bnd_e]
    by_cases b9 : bₓ = 99
    · rw [b9, if_pos (show eI 99 = -1 from rfl), if_pos (show eI 99 = -1 from rfl)]
      have hall : ∀ pₓ, pₓ < V.1 → bt se pₓ = true := fun pₓ hp => by
        have := (bNo b9).2 pₓ (by omega) (by omega)
        simpa using this
      exact ⟨Sₓ, T, bvₓ, rfl, rfl, hI.1, hI.2.1, finₓ _ _ _ _ _ _ hI hall⟩
    · obtain ⟨i1ₓ, i2ₓ, i3ₓ, i4ₓ, i5ₓ, i6ₓ, i7ₓ, i8ₓ, i9ₓ, i10ₓ⟩ := hI
      have c9ₓ : cₓ ≠ 99 := fun qₓ => by
        have := cnt_allₓ 25 (fun jₓ hj => (cNo qₓ).2 jₓ (by omega) (by omega))
        have : cntₓ (fun cₓ => !bt tk cₓ) 25 = 0 := this
        omega
      obtain ⟨b1, b2, b3⟩ := bIn.resolve_left b9
      obtain ⟨c1ₓ, c2ₓ, c3ₓ⟩ := cIn.resolve_left c9ₓ
      have b3' : bt se bₓ = false := by simpa using b3
      have c3' : bt tk cₓ = false := by simpa using c3ₓ
      have hbn : bₓ < V.1 := by omega
      have hc25 : cₓ < 25 := by omega
      have m7ₓ := (hMₓ.2.2 bₓ (by omega)).2.2.2.1
      have s22 := (i3ₓ cₓ hc25).2
      have sk9 := (hBₓ.2.2.1 bₓ (by omega)).2.2.2.1
      have v972 : sv cₓ * V.2.2 bₓ 3 ≤ 972 := Nat.mul_le_mul (hl cₓ) sk9
      have mxₓ := maxL_le bvₓ i10ₓ V.1 0 0 (by omega)
      have bv0 := i6ₓ bₓ hbn b3'
      have hmx := maxL_u bvₓ (sv cₓ * V.2.2 bₓ 3) bv0 V.1 0 0 (by omega) (by omega)
      have hsm := sumL_u bvₓ (sv cₓ * V.2.2 bₓ 3) bv0 V.1 0 0 (by omega) (by omega)
      have se' : ∀ jₓ, bt (se ||| one bₓ) jₓ = (bt se jₓ || decide (jₓ = bₓ)) := fun jₓ => bt_set _ (by omega) jₓ
      have tk' : ∀ jₓ, bt (tk ||| one cₓ) jₓ = (bt tk jₓ || decide (jₓ = cₓ)) := fun jₓ => bt_set _ (by omega) jₓ
      have dn' : ∀ jₓ, bt (dn ||| one bₓ) jₓ = (bt dn jₓ || decide (jₓ = bₓ)) := fun jₓ => bt_set _ (by omega) jₓ
      have fTₓ : ∀ mₓ : Int32, fw T (mset (mset (mset T 23 bₓ (nI cₓ)) 0 41 mₓ) 0 42 (T 0 42 + nI (sv cₓ * V.2.2 bₓ 3))) := fun mₓ => ((frm.put T _ (by decide)).fw.tr (fw.set _ mₓ (Or.inl rfl))).tr (fw.set _ _ (Or.inr rfl))
      have cd1 : cntₓ (fun pₓ => !bt (se ||| one bₓ) pₓ) V.1 + 1 = cntₓ (fun pₓ => !bt se pₓ) V.1 := cnt_drop (pₓ := bₓ) (fun jₓ hj => by show (!bt (se ||| one bₓ) jₓ) = !bt se jₓ; rw [se', decide_eq_false hj, Bool.or_false]) (by show (!bt (se ||| one bₓ) bₓ) = false; rw [se', decide_eq_true rfl, Bool.or_true]; rfl) (by show (!bt se bₓ) = true; rw [b3']; rfl) V.1 hbn
      have cd2 : cntₓ (fun cₓ => !bt tk cₓ) 25 ≤ cntₓ (fun jₓ => !bt (tk ||| one cₓ) jₓ) 25 + 1 := cnt_drop' (pₓ := cₓ) (fun jₓ hj => by show (!bt (tk ||| one cₓ) jₓ) = !bt tk jₓ; rw [tk', decide_eq_false hj, Bool.or_false]) 25
      have hI' : ∀ mₓ : Int32, mₓ = nI (max (maxL bvₓ V.1 0 0) (sv cₓ * V.2.2 bₓ 3)) → WkI V sv (updN bvₓ bₓ (sv cₓ * V.2.2 bₓ 3)) S0ₓ T0ₓ (mset Sₓ 34 bₓ (nI cₓ)) (mset (mset (mset T 23 bₓ (nI cₓ)) 0 41 mₓ) 0 42 (T 0 42 + nI (sv cₓ * V.2.2 bₓ 3))) (tk ||| one cₓ) (se ||| one bₓ) (dn ||| one bₓ) := by
        intro mₓ hmₓ
        refine ⟨i1ₓ.tr (frm.put _ _ (by decide)), i2ₓ.tr (fTₓ mₓ), fun c' hc' => ?_, fun jₓ hj => ?_, fun pₓ hp hs => ?_, fun pₓ hp hs => ?_, ?_, ?_, ?_, fun pₓ => ?_⟩
        · rw [mset_ne _ _ _ (show 33 ≠ 34 by omega), mset_ne _ _ _ (show 22 ≠ 0 by omega), mset_ne _ _ _ (show 22 ≠ 0 by omega), mset_ne _ _ _ (show 22 ≠ 23 by omega)]
          exact i3ₓ c' hc'
        · rw [se', dn', i4ₓ jₓ hj, Bool.or_assoc]
        · rw [mset_ne _ _ _ (show 23 ≠ 0 by omega), mset_ne _ _ _ (show 23 ≠ 0 by omega), mset_same, mset_same]
          by_cases eₓ : pₓ = bₓ
          · subst eₓ
            rw [upd_same, upd_same]
            exact ⟨rfl, cₓ, hc25, rfl, if_pos rfl⟩
          · rw [upd_ne _ _ eₓ, upd_ne _ _ eₓ]
            rw [se', decide_eq_false eₓ, Bool.or_false] at hs
            have := i5ₓ pₓ hp hs
            rw [updN, if_neg eₓ]
            exact this
        · rw [se'] at hs
          have eₓ : pₓ ≠ bₓ := fun qₓ => by rw [decide_eq_true qₓ, Bool.or_true] at hs; cases hs
          rw [decide_eq_false eₓ, Bool.or_false] at hs
          rw [updN, if_neg eₓ]
          exact i6ₓ pₓ hp hs
        · omega
        · rw [ms_at, if_neg (by omega), ms_at, if_pos ⟨rfl, rfl⟩, hmₓ, hmx]
        · rw [ms_at, if_pos ⟨rfl, rfl⟩, i9ₓ, nI_add, hsm]
        · rw [updN]; split
          · exact v972
          · exact i10ₓ pₓ
      have nextₓ : ∀ mₓ : Int32, mₓ = nI (max (maxL bvₓ V.1 0 0) (sv cₓ * V.2.2 bₓ 3)) → WkP V sv S0ₓ T0ₓ (fX5_seatAll_87 fₓ (mset Sₓ 34 bₓ (nI cₓ)) (tk ||| one cₓ) (se ||| one bₓ) (nI (iₓ + 1))) (fX8_findsWalk_148 (fX8_findsWalk_90 gₓ) (mset T 23 bₓ (nI cₓ)) tk dn (nI bₓ) (nI cₓ) (nI (sv cₓ * V.2.2 bₓ 3)) mₓ) := by
        intro mₓ hmₓ
        have hI2 := hI' mₓ hmₓ
        have hM2 := hI2.2.1.mv hM0
        have pM := pal_M hBₓ hM2 (dn ||| one bₓ) V.1 0 FU 99 (by omega) (by unfold FU; omega) (Or.inl rfl)
        have pM' : fX8_nextBySkin (mset (mset (mset T 23 bₓ (nI cₓ)) 0 41 mₓ) 0 42 (T 0 42 + nI (sv cₓ * V.2.2 bₓ 3))) (dn ||| one bₓ) = some (eI (bstₓ (fun pₓ => !bt (se ||| one bₓ) pₓ) (fun xₓ yₓ => decide (V.2.2 yₓ 3 < V.2.2 xₓ 3)) V.1 0 99), mset (mset (mset T 23 bₓ (nI cₓ)) 0 41 mₓ) 0 42 (T 0 42 + nI (sv cₓ * V.2.2 bₓ 3))) := by
          rw [← bst_cg (okₓ := fun pₓ => !bt ((mset (mset (mset T 23 bₓ (nI cₓ)) 0 41 mₓ) 0 42 (T 0 42 + nI (sv cₓ * V.2.2 bₓ 3))) 0 10 ||| (dn ||| one bₓ)) pₓ) _ V.1 0 99 (fun jₓ h1 h2 => ?_)]
          · exact pM
          · show (!bt _ jₓ) = !bt _ jₓ
            rw [b_or, bs_pb hBₓ hM2 (by omega), hI2.2.2.2.1 jₓ (by omega), decide_eq_true (show jₓ < V.1 by omega), Bool.true_and]
        have zₓ := ihₓ (iₓ + 1) fₓ gₓ _ _ _ _ _ _ (by omega) (by omega) (by omega) hI2 (by omega)
        unfold fX8_findsWalk_148
        rw [ltm_e, ltm_e, lti_e, lti_e, show (mset (mset T 23 bₓ (nI cₓ)) 0 41 mₓ) 0 42 = T 0 42 by rw [ms_at, if_neg (by omega), ms_at, if_neg (by omega)]]
        show WkP V sv S0ₓ T0ₓ _ (bnd (fX8_nextBySkin (mset (mset (mset T 23 bₓ (nI cₓ)) 0 41 mₓ) 0 42 (T 0 42 + nI (sv cₓ * V.2.2 bₓ 3))) (dn ||| one bₓ)) fun r_5 S_6 => fX8_findsWalk_90 gₓ S_6 (tk ||| one cₓ) (dn ||| one bₓ) r_5)
        rw [pM', bnd_e]
        exact zₓ
      rw [eI_ne b9, eI_ne c9ₓ, if_neg (m1_ne (by omega)), if_neg (m1_ne (by omega)), if_neg (m1_ne (by omega)), gd_in _ (show bₓ < 10 by omega) (by omega), gd_in _ (show bₓ < 10 by omega) (by omega), ltm_e, ltm_e, gd_in _ (show cₓ < 25 by omega) (by omega), gd_in _ (show bₓ < 10 by omega) (by omega), lti_e, lti_e, lti_e, nI_clamp (show bₓ < 2 ^ 31 by omega), nI_clamp (show cₓ < 2 ^ 31 by omega), show (mset T 23 bₓ (nI cₓ)) 22 cₓ = T 22 cₓ by rw [mset_ne _ _ _ (show 22 ≠ 23 by omega)], show (mset T 23 bₓ (nI cₓ)) 7 bₓ = T 7 bₓ by rw [mset_ne _ _ _ (show 7 ≠ 23 by omega)], show (mset T 23 bₓ (nI cₓ)) 0 41 = T 0 41 by rw [mset_ne _ _ _ (show 0 ≠ 23 by omega)], s22, m7ₓ, pk_mul, i8ₓ, show nI iₓ + 1 = nI (iₓ + 1) from nI_add iₓ 1]
      by_cases qₓ : sv cₓ * V.2.2 bₓ 3 ≤ maxL bvₓ V.1 0 0
      · rw [if_pos (nI_le qₓ (by omega))]
        exact nextₓ _ (by rw [Nat.max_eq_left qₓ])
      · rw [if_neg (by rw [nI_leI (by omega) (by omega)]; exact qₓ)]
        exact nextₓ _ (by rw [Nat.max_eq_right (by omega)])
/-- those with parasols keep their places -/
def WkJ (V : Vw) (sv : Nat → Nat) (S0ₓ T0ₓ Sₓ T : Mem) (tk se : Int32) (iₓ : Nat) : Prop := frm scX S0ₓ Sₓ ∧ frm scM T0ₓ T ∧ SV Sₓ T sv ∧ (∀ jₓ, bt se jₓ = (decide (jₓ < iₓ) && pb V jₓ)) ∧ (∀ pₓ, pₓ < iₓ → T 23 pₓ = nI (V.2.2 pₓ 0) ∧ (pb V pₓ = true → Sₓ 34 pₓ = nI (V.2.2 pₓ 0))) ∧ 25 ≤ cntₓ (fun cₓ => !bt tk cₓ) 25 + cntₓ (pb V) iₓ
theorem bear_loop {V : Vw} (hBₓ : VB V) {sv : Nat → Nat} (hl : ∀ cₓ, sv cₓ ≤ 108) (hno : noSun V sv) {S0ₓ T0ₓ : Mem} (hX0 : XVw S0ₓ V) (hM0 : MVw T0ₓ V) : ∀ (kₓ iₓ fₓ : Nat) (Sₓ T : Mem) (tk se : Int32), iₓ + kₓ = V.1 → kₓ < fₓ → WkJ V sv S0ₓ T0ₓ Sₓ T tk se iₓ → WkP V sv S0ₓ T0ₓ (fX5_seatAll_14 fₓ Sₓ tk se (nI iₓ)) (fX8_findsWalk_11 fₓ T tk (nI iₓ)) := by
  have hn := hBₓ.1
  intro kₓ
  induction kₓ with
  | zero =>
    intro iₓ fₓ Sₓ T tk se hiₓ hf hJ
    obtain ⟨fₓ, rfl⟩ : ∃ gₓ, fₓ = gₓ + 1 := ⟨fₓ - 1, by omega⟩
    have hiₓ : iₓ = V.1 := by omega
    subst hiₓ
    obtain ⟨i1ₓ, i2ₓ, i3ₓ, i4ₓ, i5ₓ, i6ₓ⟩ := hJ
    have hX := hX0.fr i1ₓ
    have hMₓ := hM0.fr i2ₓ
    have fTₓ : fw T (mset (mset T 0 41 (nI 0)) 0 42 (nI 0)) := (fw.set _ _ (Or.inl rfl)).tr (fw.set _ _ (Or.inr rfl))
    have hM2 := fTₓ.mv hMₓ
    have hI : WkI V sv (fun _ => 0) S0ₓ T0ₓ Sₓ (mset (mset T 0 41 (nI 0)) 0 42 (nI 0)) tk se 0 := by
      refine ⟨i1ₓ, i2ₓ.fw.tr fTₓ, fun cₓ hcₓ => ?_, fun jₓ hj => ?_, fun pₓ hp hs => ?_, fun _ _ _ => rfl, ?_, ?_, ?_, fun _ => Nat.zero_le _⟩
      · rw [mset_ne _ _ _ (show 22 ≠ 0 by omega), mset_ne _ _ _ (show 22 ≠ 0 by omega)]
        exact i3ₓ cₓ hcₓ
      · rw [i4ₓ jₓ, b_0, Bool.or_false]
      · rw [i4ₓ pₓ, decide_eq_true hp, Bool.true_and] at hs
        have b0 := (hBₓ.2.2.1 pₓ (by omega)).1
        obtain ⟨q1ₓ, q2ₓ⟩ := i5ₓ pₓ hp
        rw [mset_ne _ _ _ (show 23 ≠ 0 by omega), mset_ne _ _ _ (show 23 ≠ 0 by omega), q1ₓ, q2ₓ hs]
        exact ⟨rfl, _, by omega, rfl, by rw [hno pₓ hp hs, Nat.zero_mul]⟩
      · have h1 := cnt_not (pb V) V.1
        have h2 : cntₓ (fun pₓ => !bt se pₓ) V.1 = cntₓ (fun pₓ => !pb V pₓ) V.1 := cnt_cg _ (fun jₓ hj => by show (!bt se jₓ) = !pb V jₓ; rw [i4ₓ jₓ, decide_eq_true hj, Bool.true_and])
        omega
      · rw [ms_at, if_neg (by omega), ms_at, if_pos ⟨rfl, rfl⟩, maxL_0]
      · rw [ms_at, if_pos ⟨rfl, rfl⟩, sumL_0]
    have zₓ := seat_loop hBₓ hl hX0 hM0 V.1 0 FU FU _ _ _ _ _ _ (by omega) (by unfold FU; omega) (by unfold FU; omega) hI (cnt_leₓ _ _)
    have pM := pal_M hBₓ hM2 0 V.1 0 FU 99 (by omega) (by unfold FU; omega) (Or.inl rfl)
    have pM' : fX8_nextBySkin (mset (mset T 0 41 (nI 0)) 0 42 (nI 0)) (nI 0) = some (eI (bstₓ (fun pₓ => !bt se pₓ) (fun xₓ yₓ => decide (V.2.2 yₓ 3 < V.2.2 xₓ 3)) V.1 0 99), mset (mset T 0 41 (nI 0)) 0 42 (nI 0)) := by
      rw [← bst_cg (okₓ := fun pₓ => !bt ((mset (mset T 0 41 (nI 0)) 0 42 (nI 0)) 0 10 ||| 0) pₓ) _ V.1 0 99 (fun jₓ h1 h2 => ?_)]
      · exact pM
      · show (!bt _ jₓ) = !bt _ jₓ
        rw [b_or, bs_pb hBₓ hM2 (by omega), b_0, Bool.or_false, i4ₓ jₓ, decide_eq_true (show jₓ < V.1 by omega), Bool.true_and]
    have e1ₓ := hX.1
    have e2ₓ := hMₓ.1
    show WkP V sv S0ₓ T0ₓ (fX5_seatAll_14_b (fX5_seatAll_14 fₓ) Sₓ tk se (nI V.1)) (fX8_findsWalk_11_b (fX8_findsWalk_11 fₓ) T tk (nI V.1))
    unfold fX5_seatAll_14_b fX8_findsWalk_11_b
    rw [e1ₓ, e2ₓ, if_pos (nI_le (by omega) (by omega)), if_pos (nI_le (by omega) (by omega)), ltm_e, ltm_e, show (0 : Int32) = nI 0 from rfl, pM', bnd_e]
    exact zₓ
  | succ kₓ ihₓ =>
    intro iₓ fₓ Sₓ T tk se hiₓ hf hJ
    obtain ⟨fₓ, rfl⟩ : ∃ gₓ, fₓ = gₓ + 1 := ⟨fₓ - 1, by omega⟩
    obtain ⟨i1ₓ, i2ₓ, i3ₓ, i4ₓ, i5ₓ, i6ₓ⟩ := hJ
    have hX := hX0.fr i1ₓ
    have hMₓ := hM0.fr i2ₓ
    have e1ₓ := hX.1
    have e2ₓ := hMₓ.1
    have hp : iₓ < V.1 := by omega
    obtain ⟨e0ₓ, -, -, -, e5ₓ, -⟩ := has_V hBₓ hX hp
    obtain ⟨m0ₓ, -⟩ := hMₓ.2.2 iₓ (by omega)
    obtain ⟨b0, -, -, -, b5, -⟩ := hBₓ.2.2.1 iₓ (by omega)
    have hbp := bs_pb hBₓ hMₓ (show iₓ < 10 by omega)
    show WkP V sv S0ₓ T0ₓ (fX5_seatAll_14_b (fX5_seatAll_14 fₓ) Sₓ tk se (nI iₓ)) (fX8_findsWalk_11_b (fX8_findsWalk_11 fₓ) T tk (nI iₓ))
    unfold fX5_seatAll_14_b fX8_findsWalk_11_b fX5_seatAll_78 fX8_findsWalk_63
    rw [e1ₓ, e2ₓ, if_neg (show ¬ nI V.1 ≤ nI iₓ by rw [nI_leI (by omega) (by omega)]; omega), if_neg (show ¬ nI V.1 ≤ nI iₓ by rw [nI_leI (by omega) (by omega)]; omega), show (5 : Int32) = nI 5 from rfl, e5ₓ, bnd_e, nI_add 5 iₓ, gd_in _ (show 5 + iₓ < 55 by omega) (by omega), gd_in _ (show iₓ < 10 by omega) (by omega), ltm_e, nI_clamp (show 5 + iₓ < 2 ^ 31 by omega), nI_clamp (show iₓ < 2 ^ 31 by omega), m0ₓ, show nI iₓ + 1 = nI (iₓ + 1) from nI_add iₓ 1]
    by_cases cₓ : V.2.2 iₓ 5 = 1
    · have pt : pb V iₓ = true := decide_eq_true cₓ
      have c' : (((mset T 23 iₓ (nI (V.2.2 iₓ 0))) 0 10 >>> (nI iₓ &&& 31)) &&& (1 : Int32)) = 1 := by
        rw [mset_ne _ _ _ (show 0 ≠ 23 by omega)]
        exact (bitI_iff (T 0 10) (by omega)).2 (hbp.trans pt)
      rw [if_pos c', if_pos (show nI (V.2.2 iₓ 5) = 1 by rw [cₓ]; rfl), show (0 : Int32) = nI 0 from rfl, e0ₓ, bnd_e, gd_in _ (show iₓ < 10 by omega) (by omega), ltm_e, gd_in _ (show iₓ < 10 by omega) (by omega), lti_e, lti_e, gd_in _ (show 5 + iₓ < 55 by omega) (by omega), lti_e, mset_same, upd_same, mset_ne _ _ _ (show 1 ≠ 23 by omega), m0ₓ]
      refine ihₓ (iₓ + 1) fₓ (mset Sₓ 34 iₓ (nI (V.2.2 iₓ 0))) (mset T 23 iₓ (nI (V.2.2 iₓ 0))) (tk ||| one (V.2.2 iₓ 0)) (se ||| one iₓ) (by omega) (by omega) ⟨i1ₓ.tr (frm.put _ _ (by decide)), i2ₓ.tr (frm.put _ _ (by decide)), fun cₓ hcₓ => ?_, fun jₓ => ?_, fun pₓ hp2 => ?_, ?_⟩
      · rw [mset_ne _ _ _ (show 33 ≠ 34 by omega), mset_ne _ _ _ (show 22 ≠ 23 by omega)]; exact i3ₓ cₓ hcₓ
      · rw [bt_set _ (by omega), i4ₓ jₓ]
        by_cases eₓ : jₓ = iₓ
        · subst eₓ; rw [pt]; simp
        · rw [decide_eq_false eₓ, Bool.or_false]
          congr 1
          exact decide_eq_decide.mpr (by omega)
      · rw [mset_same, mset_same]
        by_cases eₓ : pₓ = iₓ
        · subst eₓ; rw [upd_same, upd_same]; exact ⟨rfl, fun _ => rfl⟩
        · rw [upd_ne _ _ eₓ, upd_ne _ _ eₓ]; exact i5ₓ pₓ (by omega)
      · have cd2 : cntₓ (fun cₓ => !bt tk cₓ) 25 ≤ cntₓ (fun jₓ => !bt (tk ||| one (V.2.2 iₓ 0)) jₓ) 25 + 1 := cnt_drop' (pₓ := V.2.2 iₓ 0) (fun jₓ hj => by show (!bt (tk ||| one (V.2.2 iₓ 0)) jₓ) = !bt tk jₓ; rw [bt_set _ (by omega), decide_eq_false hj, Bool.or_false]) 25
        have ec : cntₓ (pb V) (iₓ + 1) = cntₓ (pb V) iₓ + (if pb V iₓ = true then 1 else 0) := rfl
        rw [pt, if_pos rfl] at ec
        omega
    · have pf : pb V iₓ = false := decide_eq_false cₓ
      have c' : ¬ (((mset T 23 iₓ (nI (V.2.2 iₓ 0))) 0 10 >>> (nI iₓ &&& 31)) &&& (1 : Int32)) = 1 := by
        rw [mset_ne _ _ _ (show 0 ≠ 23 by omega)]
        intro qₓ
        have := (bitI_iff (T 0 10) (by omega)).1 qₓ
        rw [hbp, pf] at this; cases this
      rw [if_neg c', if_neg (show ¬ nI (V.2.2 iₓ 5) = 1 by rw [show (1 : Int32) = nI 1 from rfl, nI_eq (by omega) (by omega)]; exact cₓ)]
      refine ihₓ (iₓ + 1) fₓ Sₓ (mset T 23 iₓ (nI (V.2.2 iₓ 0))) tk se (by omega) (by omega) ⟨i1ₓ, i2ₓ.tr (frm.put _ _ (by decide)), fun cₓ hcₓ => ?_, fun jₓ => ?_, fun pₓ hp2 => ?_, ?_⟩
      · rw [mset_ne _ _ _ (show 22 ≠ 23 by omega)]; exact i3ₓ cₓ hcₓ
      · rw [i4ₓ jₓ]
        by_cases eₓ : jₓ = iₓ
        · subst eₓ; rw [pf]; simp
        · congr 1
          exact decide_eq_decide.mpr (by omega)
      · rw [mset_same]
        by_cases eₓ : pₓ = iₓ
        · subst eₓ; rw [upd_same]; exact ⟨rfl, fun qₓ => by rw [pf] at qₓ; cases qₓ⟩
        · rw [upd_ne _ _ eₓ]; exact i5ₓ pₓ (by omega)
      · have ec : cntₓ (pb V) (iₓ + 1) = cntₓ (pb V) iₓ + (if pb V iₓ = true then 1 else 0) := rfl
        rw [pf, if_neg (by simp)] at ec
        omega
theorem seat_burn {V : Vw} (hBₓ : VB V) {Sₓ : Mem} (hX : XVw Sₓ V) {sv : Nat → Nat} (hs : ∀ cₓ, cₓ < 25 → Sₓ 33 cₓ = nI (sv cₓ)) {pₓ cₓ : Nat} (hp : pₓ < V.1) (hcₓ : cₓ < 25) (h34 : Sₓ 34 pₓ = nI cₓ) : fX5_seatBurn Sₓ (nI pₓ) = some (nI (sv cₓ * V.2.2 pₓ 3), Sₓ) := by
  have hn := hBₓ.1
  have e1ₓ := hX.1
  have e33ₓ := hs cₓ hcₓ
  obtain ⟨-, -, -, e3ₓ, -, -⟩ := has_V hBₓ hX hp
  simp (disch := first | omega | assumption) only [fX5_seatBurn, fX5_seatOf, fX6_isPilgrim, fX7_isPlace, e1ₓ, h34, e3ₓ, e33ₓ, mset_ne, mset_same, upd_same, upd_ne, ltm_e, lti_e, bnd_e, fa_lit, nI_add, pk_mul, nI_clamp, gd_in, nlt0, nI_ltI, nI_leI, nI_eq, if_true, if_false, if_pos, if_neg]
theorem great_X {V : Vw} (hBₓ : VB V) {Sₓ : Mem} (hX : XVw Sₓ V) {sv bvₓ : Nat → Nat} (hs : ∀ cₓ, cₓ < 25 → Sₓ 33 cₓ = nI (sv cₓ)) (hbₓ : ∀ pₓ, pₓ < V.1 → ∃ cₓ, cₓ < 25 ∧ Sₓ 34 pₓ = nI cₓ ∧ bvₓ pₓ = sv cₓ * V.2.2 pₓ 3) (hl : ∀ pₓ, bvₓ pₓ ≤ 972) : ∀ (kₓ iₓ fₓ aₓ : Nat), iₓ + kₓ = V.1 → kₓ < fₓ → aₓ ≤ 972 → fX5_greatestBurn_4 fₓ Sₓ (nI aₓ) (nI iₓ) = some (nI (maxL bvₓ kₓ iₓ aₓ), Sₓ) ∧ ∀ a2, fX5_sumOfBurns_4 fₓ Sₓ (nI a2) (nI iₓ) = some (nI (sumLₓ bvₓ kₓ iₓ a2), Sₓ) := by
  have hn := hBₓ.1
  have e1ₓ := hX.1
  intro kₓ
  induction kₓ with
  | zero =>
    intro iₓ fₓ aₓ hiₓ hf haₓ
    obtain ⟨fₓ, rfl⟩ : ∃ gₓ, fₓ = gₓ + 1 := ⟨fₓ - 1, by omega⟩
    refine ⟨?_, fun a2 => ?_⟩
    · show fX5_greatestBurn_4_b (fX5_greatestBurn_4 fₓ) Sₓ (nI aₓ) (nI iₓ) = _
      unfold fX5_greatestBurn_4_b
      rw [e1ₓ, if_pos (nI_le (by omega) (by omega)), maxL]
    · show fX5_sumOfBurns_4_b (fX5_sumOfBurns_4 fₓ) Sₓ (nI a2) (nI iₓ) = _
      unfold fX5_sumOfBurns_4_b
      rw [e1ₓ, if_pos (nI_le (by omega) (by omega)), sumLₓ]
  | succ kₓ ihₓ =>
    intro iₓ fₓ aₓ hiₓ hf haₓ
    obtain ⟨fₓ, rfl⟩ : ∃ gₓ, fₓ = gₓ + 1 := ⟨fₓ - 1, by omega⟩
    obtain ⟨cₓ, c1ₓ, c2ₓ, c3ₓ⟩ := hbₓ iₓ (by omega)
    have sbₓ := seat_burn hBₓ hX hs (show iₓ < V.1 by omega) c1ₓ c2ₓ
    rw [← c3ₓ] at sbₓ
    have l := hl iₓ
    have mxₓ : imax (nI aₓ) (nI (bvₓ iₓ)) = nI (max aₓ (bvₓ iₓ)) := by
      unfold imax
      by_cases qₓ : aₓ < bvₓ iₓ
      · rw [if_pos (nI_lt qₓ (by omega)), Nat.max_eq_right (by omega)]
      · rw [if_neg (by rw [nI_ltI (by omega) (by omega)]; exact qₓ), Nat.max_eq_left (by omega)]
    refine ⟨?_, fun a2 => ?_⟩
    · show fX5_greatestBurn_4_b (fX5_greatestBurn_4 fₓ) Sₓ (nI aₓ) (nI iₓ) = _
      unfold fX5_greatestBurn_4_b
      rw [e1ₓ, if_neg (show ¬ nI V.1 ≤ nI iₓ by rw [nI_leI (by omega) (by omega)]; omega), sbₓ, bnd_e, lti_e, mxₓ, show nI iₓ + 1 = nI (iₓ + 1) from nI_add iₓ 1, maxL]
      exact (ihₓ (iₓ + 1) fₓ _ (by omega) (by omega) (by omega)).1
    · show fX5_sumOfBurns_4_b (fX5_sumOfBurns_4 fₓ) Sₓ (nI a2) (nI iₓ) = _
      unfold fX5_sumOfBurns_4_b
      rw [e1ₓ, if_neg (show ¬ nI V.1 ≤ nI iₓ by rw [nI_leI (by omega) (by omega)]; omega), sbₓ, bnd_e, lti_e, nI_add, show nI iₓ + 1 = nI (iₓ + 1) from nI_add iₓ 1, sumLₓ]
      exact (ihₓ (iₓ + 1) fₓ 0 (by omega) (by omega) (by omega)).2 _
theorem walk_both {V : Vw} (hBₓ : VB V) {aₓ toₓ : Nat} (haₓ : aₓ ≤ toₓ) (ht : toₓ < 12) {Sₓ T : Mem} (hX : XVw Sₓ V) (hMₓ : MVw T V) : ∃ S' T' sv bvₓ, fX5_seatAll Sₓ (nI aₓ) (nI toₓ) = some (nI 0, S') ∧ fX8_findsWalk T (nI aₓ) (nI toₓ) = some (nI 0, T') ∧ frm scX Sₓ S' ∧ fw T T' ∧ WkF V sv bvₓ S' T' := by
  obtain ⟨S1, T1, sv, z1, z2, z3, z4, z5, z6, z7⟩ := suns_both hBₓ haₓ ht hX hMₓ
  have hn := hBₓ.1
  have hc25 : cntₓ (fun cₓ => !bt 0 cₓ) 25 = 25 := by
    have : cntₓ (fun cₓ => !bt 0 cₓ) 25 = cntₓ (fun _ => true) 25 := cnt_cg 25 (fun jₓ _ => by show (!bt 0 jₓ) = true; rw [b_0]; rfl)
    rw [this]; rfl
  obtain ⟨S', T', bvₓ, y1, y2, y3, y4, y5⟩ := bear_loop hBₓ z6 z7 (hX.fr z3) (hMₓ.fr z4) V.1 0 FU S1 T1 0 0 (by omega) (by unfold FU; omega) ⟨frm.rf _ _, frm.rf _ _, z5, fun jₓ => by rw [b_0, decide_eq_false (by omega), Bool.false_and], fun pₓ hp => absurd hp (by omega), by omega⟩
  refine ⟨S', T', sv, bvₓ, ?_, ?_, z3.tr y3, z4.fw.tr y4, y5⟩
  · unfold fX5_seatAll
    rw [z1, bnd_e]
    exact y1
  · unfold fX8_findsWalk
    rw [z2, bnd_e]
    exact y2
theorem hrs_X (Sₓ : Mem) (xₓ yₓ : Int32) : (∃ aₓ bₓ : Nat, aₓ ≤ bₓ ∧ bₓ < 12 ∧ xₓ = nI aₓ ∧ yₓ = nI bₓ ∧ fX7_areHours Sₓ xₓ yₓ = some (nI 1, Sₓ) ∧ ∀ T, fX8_areHours T xₓ yₓ = some (nI 1, T)) ∨ (fX7_areHours Sₓ xₓ yₓ = some (nI 0, Sₓ) ∧ ∀ T, fX8_areHours T xₓ yₓ = some (nI 0, T)) := by
  rcases ixC xₓ (show 12 < 2 ^ 31 by omega) with ⟨aₓ, haₓ, rfl⟩ | gₓ | gₓ
  · rcases ixC yₓ (show 12 < 2 ^ 31 by omega) with ⟨bₓ, hbₓ, rfl⟩ | gₓ | gₓ
    · by_cases cₓ : aₓ ≤ bₓ
      · exact Or.inl ⟨aₓ, bₓ, cₓ, hbₓ, rfl, rfl, by simp (disch := first | omega | assumption) only [fX7_areHours, mset_ne, mset_same, upd_same, upd_ne, ltm_e, lti_e, bnd_e, fa_lit, nI_add, pk_mul, nI_clamp, gd_in, nlt0, nI_ltI, nI_leI, nI_eq, if_true, if_false, if_pos, if_neg], fun T => by simp (disch := first | omega | assumption) only [fX8_areHours, fX8_isHour, fX8_isIn, mset_ne, mset_same, upd_same, upd_ne, ltm_e, lti_e, bnd_e, fa_lit, nI_add, pk_mul, nI_clamp, gd_in, nlt0, nI_ltI, nI_leI, nI_eq, if_true, if_false, if_pos, if_neg]⟩
      · exact Or.inr ⟨by simp (disch := first | omega | assumption) only [fX7_areHours, mset_ne, mset_same, upd_same, upd_ne, ltm_e, lti_e, bnd_e, fa_lit, nI_add, pk_mul, nI_clamp, gd_in, nlt0, nI_ltI, nI_leI, nI_eq, if_true, if_false, if_pos, if_neg], fun T => by simp (disch := first | omega | assumption) only [fX8_areHours, fX8_isHour, fX8_isIn, mset_ne, mset_same, upd_same, upd_ne, ltm_e, lti_e, bnd_e, fa_lit, nI_add, pk_mul, nI_clamp, gd_in, nlt0, nI_ltI, nI_leI, nI_eq, if_true, if_false, if_pos, if_neg]⟩
    · exact Or.inr ⟨by simp (disch := first | omega | assumption) only [fX7_areHours, lo1 gₓ, lo2 gₓ, lo3 gₓ, lo4 gₓ, lo5 gₓ, mset_ne, mset_same, upd_same, upd_ne, ltm_e, lti_e, bnd_e, fa_lit, nI_add, pk_mul, nI_clamp, gd_in, nlt0, nI_ltI, nI_leI, nI_eq, if_true, if_false, if_pos, if_neg], fun T => by simp (disch := first | omega | assumption) only [fX8_areHours, fX8_isHour, fX8_isIn, lo1 gₓ, lo2 gₓ, lo3 gₓ, lo4 gₓ, lo5 gₓ, mset_ne, mset_same, upd_same, upd_ne, ltm_e, lti_e, bnd_e, fa_lit, nI_add, pk_mul, nI_clamp, gd_in, nlt0, nI_ltI, nI_leI, nI_eq, if_true, if_false, if_pos, if_neg]⟩
    · refine Or.inr ⟨?_, fun T => ?_⟩
      · by_cases qₓ : yₓ < nI aₓ
        · simp (disch := first | omega | assumption) only [fX7_areHours, qₓ, mset_ne, mset_same, upd_same, upd_ne, ltm_e, lti_e, bnd_e, fa_lit, nI_add, pk_mul, nI_clamp, gd_in, nlt0, nI_ltI, nI_leI, nI_eq, if_true, if_false, if_pos, if_neg]
        · simp (disch := first | omega | assumption) only [fX7_areHours, qₓ, hi1 gₓ, hi2 gₓ, hi3 gₓ, hi4 gₓ, hi5 gₓ, mset_ne, mset_same, upd_same, upd_ne, ltm_e, lti_e, bnd_e, fa_lit, nI_add, pk_mul, nI_clamp, gd_in, nlt0, nI_ltI, nI_leI, nI_eq, if_true, if_false, if_pos, if_neg]
      · simp (disch := first | omega | assumption) only [fX8_areHours, fX8_isHour, fX8_isIn, hi1 gₓ, hi2 gₓ, hi3 gₓ, hi4 gₓ, hi5 gₓ, mset_ne, mset_same, upd_same, upd_ne, ltm_e, lti_e, bnd_e, fa_lit, nI_add, pk_mul, nI_clamp, gd_in, nlt0, nI_ltI, nI_leI, nI_eq, if_true, if_false, if_pos, if_neg]
  · exact Or.inr ⟨by simp (disch := first | omega | assumption) only [fX7_areHours, lo1 gₓ, lo2 gₓ, lo3 gₓ, lo4 gₓ, lo5 gₓ, mset_ne, mset_same, upd_same, upd_ne, ltm_e, lti_e, bnd_e, fa_lit, nI_add, pk_mul, nI_clamp, gd_in, nlt0, nI_ltI, nI_leI, nI_eq, if_true, if_false, if_pos, if_neg], fun T => by simp (disch := first | omega | assumption) only [fX8_areHours, fX8_isHour, lo1 gₓ, lo2 gₓ, lo3 gₓ, lo4 gₓ, lo5 gₓ, mset_ne, mset_same, upd_same, upd_ne, ltm_e, lti_e, bnd_e, fa_lit, nI_add, pk_mul, nI_clamp, gd_in, nlt0, nI_ltI, nI_leI, nI_eq, if_true, if_false, if_pos, if_neg]⟩
  · refine Or.inr ⟨?_, fun T => by simp (disch := first | omega | assumption) only [fX8_areHours, fX8_isHour, hi1 gₓ, hi2 gₓ, hi3 gₓ, hi4 gₓ, hi5 gₓ, mset_ne, mset_same, upd_same, upd_ne, ltm_e, lti_e, bnd_e, fa_lit, nI_add, pk_mul, nI_clamp, gd_in, nlt0, nI_ltI, nI_leI, nI_eq, if_true, if_false, if_pos, if_neg]⟩
    have q0 : ¬ xₓ < nI 0 := by rw [of_eq_false (hi1 (k := 0) gₓ (by omega) (by omega)) |> eq_false]; exact not_false
    by_cases qₓ : yₓ < xₓ
    · simp (disch := first | omega | assumption) only [fX7_areHours, qₓ, q0, mset_ne, mset_same, upd_same, upd_ne, ltm_e, lti_e, bnd_e, fa_lit, nI_add, pk_mul, nI_clamp, gd_in, nlt0, nI_ltI, nI_leI, nI_eq, if_true, if_false, if_pos, if_neg]
    · have q2ₓ : nI 12 ≤ yₓ := by rw [Int32.not_lt] at qₓ; exact Int32.le_trans gₓ qₓ
      simp (disch := first | omega | assumption) only [fX7_areHours, qₓ, q0, q2ₓ, mset_ne, mset_same, upd_same, upd_ne, ltm_e, lti_e, bnd_e, fa_lit, nI_add, pk_mul, nI_clamp, gd_in, nlt0, nI_ltI, nI_leI, nI_eq, if_true, if_false, if_pos, if_neg]
