/-! how an hour goes by: distances, the nearest place, foes -/
def farN (aₓ bₓ : Nat) : Nat := max ((aₓ % 5 - bₓ % 5) + (bₓ % 5 - aₓ % 5)) ((aₓ / 5 - bₓ / 5) + (bₓ / 5 - aₓ / 5))
theorem farN_c (aₓ bₓ : Nat) : farN aₓ bₓ = farN bₓ aₓ := by
  unfold farN
  rw [Nat.add_comm (aₓ % 5 - bₓ % 5), Nat.add_comm (aₓ / 5 - bₓ / 5)]
def farI (xₓ yₓ : Int32) : Int32 := imax (iabs ((irem xₓ (5 : Int32)) - (irem yₓ (5 : Int32)))) (iabs ((xₓ / (5 : Int32)) - (yₓ / (5 : Int32))))
def woI (xₓ : Int32) : Int32 := if 0 ≤ xₓ then xₓ else -xₓ
def farJ (xₓ yₓ : Int32) : Int32 := if woI ((irem xₓ (5 : Int32)) - (irem yₓ (5 : Int32))) ≤ woI ((xₓ / (5 : Int32)) - (yₓ / (5 : Int32))) then woI ((xₓ / (5 : Int32)) - (yₓ / (5 : Int32))) else woI ((irem xₓ (5 : Int32)) - (irem yₓ (5 : Int32)))
theorem farI_e : ∀ aₓ, aₓ < 25 → ∀ bₓ, bₓ < 25 → farI (nI aₓ) (nI bₓ) = nI (farN aₓ bₓ) := by decide +kernel
theorem farJ_e : ∀ aₓ, aₓ < 25 → ∀ bₓ, bₓ < 25 → farJ (nI aₓ) (nI bₓ) = nI (farN aₓ bₓ) := by decide +kernel
theorem farN_4 : ∀ aₓ, aₓ < 25 → ∀ bₓ, bₓ < 25 → farN aₓ bₓ ≤ 4 := by decide +kernel
theorem far_X (Sₓ : Mem) {aₓ bₓ : Nat} (haₓ : aₓ < 25) (hbₓ : bₓ < 25) : fX7_farBetween Sₓ (nI aₓ) (nI bₓ) = some (nI (farN aₓ bₓ), Sₓ) := by
  show some (farI (nI aₓ) (nI bₓ), Sₓ) = _
  rw [farI_e aₓ haₓ bₓ hbₓ]
theorem wo_e (T : Mem) (xₓ : Int32) : fX8_without T xₓ = some (woI xₓ, T) := by
  unfold fX8_without woI
  split <;> rfl
theorem far_M (T : Mem) {aₓ bₓ : Nat} (haₓ : aₓ < 25) (hbₓ : bₓ < 25) : fX8_far T (nI aₓ) (nI bₓ) = some (nI (farN aₓ bₓ), T) := by
  rw [← farJ_e aₓ haₓ bₓ hbₓ]
  unfold fX8_far farJ
  rw [wo_e, bnd_e, wo_e, bnd_e]
  split <;> rfl
theorem m1n : (-1 : Int32) = -nI 1 := rfl
def okG (Sₓ : Mem) (nₓ : Nat) (goals : Int32) (cₓ : Nat) : Bool := bt goals cₓ && decide (whoS (fun pₓ => Sₓ 3 (10 * pₓ)) (nI cₓ) nₓ 0 = -1)
def ltF (pl xₓ yₓ : Nat) : Bool := decide (farN pl xₓ < farN pl yₓ)
def goR (Sₓ : Mem) (pₓ rₓ : Nat) : Mem := if rₓ = 99 then Sₓ else mset Sₓ 3 (10 * pₓ) (nI rₓ)
theorem near_X {Sₓ : Mem} {V : Vw} (hBₓ : VB V) (hX : XVw Sₓ V) {pₓ pl : Nat} (hp : pₓ < V.1) (hpl : pl < 25) (goals : Int32) : ∀ (kₓ iₓ fₓ aₓ : Nat), iₓ + kₓ = 25 → kₓ < fₓ → (aₓ = 99 ∨ aₓ < 25) → fX1_goToNearest_19 fₓ Sₓ (nI pₓ) goals (nI pl) (eI aₓ) (nI (if aₓ = 99 then 5 else farN pl aₓ)) (nI iₓ) = some (nI 0, goR Sₓ pₓ (bstₓ (okG Sₓ V.1 goals) (ltF pl) kₓ iₓ aₓ)) := by
  have hn := hBₓ.1
  have e1ₓ := hX.1
  intro kₓ
  induction kₓ with
  | zero =>
    intro iₓ fₓ aₓ hiₓ hf haₓ
    obtain ⟨fₓ, rfl⟩ : ∃ gₓ, fₓ = gₓ + 1 := ⟨fₓ - 1, by omega⟩
    show fX1_goToNearest_19_b (fX1_goToNearest_19 fₓ) Sₓ (nI pₓ) goals (nI pl) (eI aₓ) (nI (if aₓ = 99 then 5 else farN pl aₓ)) (nI iₓ) = some (nI 0, goR Sₓ pₓ aₓ)
    unfold fX1_goToNearest_19_b goR
    rw [show (25 : Int32) = nI 25 from rfl, if_pos (show nI 25 ≤ nI iₓ from nI_le (by omega) (by omega))]
    by_cases a9 : aₓ = 99
    · rw [if_pos a9, a9, if_pos (show eI 99 = -1 from rfl)]
      rfl
    · rw [if_neg (eI_m1 (by omega)), if_neg a9, eI_ne a9, show (0 : Int32) = nI 0 from rfl, put_X Sₓ _ hn e1ₓ hp (show 0 < 10 by omega), bnd_e]
      rfl
  | succ kₓ ihₓ =>
    intro iₓ fₓ aₓ hiₓ hf haₓ
    obtain ⟨fₓ, rfl⟩ : ∃ gₓ, fₓ = gₓ + 1 := ⟨fₓ - 1, by omega⟩
    have kb := bitI_0 goals (show iₓ < 32 by omega)
    have hw := who_X Sₓ (nI iₓ) hn e1ₓ
    have hfi := farN_4 pl hpl iₓ (by omega)
    have by_y : okG Sₓ V.1 goals iₓ = true ∧ (aₓ = 99 ∨ ltF pl iₓ aₓ = true) → bstₓ (okG Sₓ V.1 goals) (ltF pl) (kₓ + 1) iₓ aₓ = bstₓ (okG Sₓ V.1 goals) (ltF pl) kₓ (iₓ + 1) iₓ := fun zₓ => by rw [bstₓ, if_pos zₓ]
    have by_n : ¬ (okG Sₓ V.1 goals iₓ = true ∧ (aₓ = 99 ∨ ltF pl iₓ aₓ = true)) → bstₓ (okG Sₓ V.1 goals) (ltF pl) (kₓ + 1) iₓ aₓ = bstₓ (okG Sₓ V.1 goals) (ltF pl) kₓ (iₓ + 1) aₓ := fun zₓ => by rw [bstₓ, if_neg zₓ]
    have zi := ihₓ (iₓ + 1) fₓ iₓ (by omega) (by omega) (Or.inr (by omega))
    rw [if_neg (show ¬ iₓ = 99 by omega), eI_ne (show iₓ ≠ 99 by omega)] at zi
    have za := ihₓ (iₓ + 1) fₓ aₓ (by omega) (by omega) haₓ
    show fX1_goToNearest_19_b (fX1_goToNearest_19 fₓ) Sₓ (nI pₓ) goals (nI pl) (eI aₓ) (nI (if aₓ = 99 then 5 else farN pl aₓ)) (nI iₓ) = _
    unfold fX1_goToNearest_19_b fX1_goToNearest_74
    rw [show (25 : Int32) = nI 25 from rfl, if_neg (show ¬ nI 25 ≤ nI iₓ by rw [nI_leI (by omega) (by omega)]; omega), show nI iₓ + 1 = nI (iₓ + 1) from nI_add iₓ 1]
    by_cases c1ₓ : bt goals iₓ = true
    · rw [if_neg (show ¬ ((goals >>> (nI iₓ &&& 31)) &&& (1 : Int32)) = 0 from fun qₓ => by rw [kb.1 qₓ] at c1ₓ; cases c1ₓ), hw, bnd_e]
      by_cases c2ₓ : whoS (fun pₓ => Sₓ 3 (10 * pₓ)) (nI iₓ) V.1 0 = -1
      · have hok : okG Sₓ V.1 goals iₓ = true := by unfold okG; rw [c1ₓ, decide_eq_true c2ₓ]; rfl
        rw [if_pos c2ₓ, far_X Sₓ hpl (by omega), bnd_e]
        by_cases a9 : aₓ = 99
        · rw [by_y ⟨hok, Or.inl a9⟩, if_pos a9, if_neg (show ¬ nI 5 ≤ nI (farN pl iₓ) by rw [nI_leI (by omega) (by omega)]; omega)]
          exact zi
        · have hfa := farN_4 pl hpl aₓ (by omega)
          by_cases c3ₓ : farN pl iₓ < farN pl aₓ
          · rw [by_y ⟨hok, Or.inr (decide_eq_true c3ₓ)⟩, if_neg a9, if_neg (show ¬ nI (farN pl aₓ) ≤ nI (farN pl iₓ) by rw [nI_leI (by omega) (by omega)]; omega)]
            exact zi
          · rw [if_neg a9] at za
            rw [by_n (fun qₓ => by rcases qₓ.2 with qₓ | qₓ; exact a9 qₓ; exact c3ₓ (of_decide_eq_true qₓ)), if_neg a9, if_pos (show nI (farN pl aₓ) ≤ nI (farN pl iₓ) from nI_le (by omega) (by omega))]
            exact za
      · rw [if_neg c2ₓ, by_n (fun qₓ => by have := qₓ.1; unfold okG at this; rw [decide_eq_false c2ₓ, Bool.and_false] at this; cases this)]
        exact za
    · have c1' : bt goals iₓ = false := by simpa using c1ₓ
      rw [if_pos (show ((goals >>> (nI iₓ &&& 31)) &&& (1 : Int32)) = 0 from kb.2 c1'), by_n (fun qₓ => by have := qₓ.1; unfold okG at this; rw [c1', Bool.false_and] at this; cases this)]
      exact za
theorem goTo_X {Sₓ : Mem} {V : Vw} (hBₓ : VB V) (hX : XVw Sₓ V) {pₓ : Nat} (hp : pₓ < V.1) (goals : Int32) : fX1_goToNearest Sₓ (nI pₓ) goals = some (nI 0, goR Sₓ pₓ (bstₓ (okG Sₓ V.1 goals) (ltF (V.2.2 pₓ 0)) 25 0 99)) := by
  obtain ⟨e0ₓ, -⟩ := has_V hBₓ hX hp
  have b0 := (hBₓ.2.2.1 pₓ (by have := hBₓ.1; omega)).1
  unfold fX1_goToNearest
  rw [show (0 : Int32) = nI 0 from rfl, e0ₓ, bnd_e]
  exact near_X hBₓ hX hp (show V.2.2 pₓ 0 < 25 by omega) goals 25 0 FU 99 (by omega) (by unfold FU; omega) (Or.inl rfl)
theorem seek_M {T : Mem} {V : Vw} (hBₓ : VB V) (hMₓ : MVw T V) {pₓ : Nat} (hp : pₓ < V.1) : ∀ (kₓ iₓ fₓ aₓ : Nat), iₓ + kₓ = 25 → kₓ < fₓ → (aₓ = 99 ∨ aₓ < 25) → fX8_shadedFor_4 fₓ T (nI pₓ) (eI aₓ) (nI iₓ) = some (eI (bstₓ (fun cₓ => decide (¬ (T 21 cₓ &&& (one pₓ ^^^ -1)) = 0) && decide (whoS (fun pₓ => T 1 (5 + pₓ)) (nI cₓ) V.1 0 = -1)) (fun xₓ yₓ => decide (farN xₓ (V.2.2 pₓ 0) < farN yₓ (V.2.2 pₓ 0))) kₓ iₓ aₓ), T) := by
  have hn := hBₓ.1
  have e2ₓ := hMₓ.1
  have e0ₓ := (hMₓ.2.2 pₓ (by omega)).1
  have b0 := (hBₓ.2.2.1 pₓ (by omega)).1
  intro kₓ
  induction kₓ with
  | zero =>
    intro iₓ fₓ aₓ hiₓ hf haₓ
    obtain ⟨fₓ, rfl⟩ : ∃ gₓ, fₓ = gₓ + 1 := ⟨fₓ - 1, by omega⟩
    show fX8_shadedFor_4_b (fX8_shadedFor_4 fₓ) T (nI pₓ) (eI aₓ) (nI iₓ) = _
    unfold fX8_shadedFor_4_b
    rw [show (25 : Int32) = nI 25 from rfl, if_pos (nI_le (by omega) (by omega)), bstₓ]
  | succ kₓ ihₓ =>
    intro iₓ fₓ aₓ hiₓ hf haₓ
    obtain ⟨fₓ, rfl⟩ : ∃ gₓ, fₓ = gₓ + 1 := ⟨fₓ - 1, by omega⟩
    have hw := who_M T (nI iₓ) hn e2ₓ
    have hfi := farN_4 iₓ (by omega) (V.2.2 pₓ 0) (by omega)
    have hfx := far_M T (aₓ := iₓ) (bₓ := V.2.2 pₓ 0) (by omega) (by omega)
    show fX8_shadedFor_4_b (fX8_shadedFor_4 fₓ) T (nI pₓ) (eI aₓ) (nI iₓ) = _
    unfold fX8_shadedFor_4_b fX8_shadedFor_71 fX8_shadedFor_73
    rw [show (25 : Int32) = nI 25 from rfl, if_neg (show ¬ nI 25 ≤ nI iₓ by rw [nI_leI (by omega) (by omega)]; omega), hw, bnd_e, bstₓ, show nI iₓ + 1 = nI (iₓ + 1) from nI_add iₓ 1]
    by_cases c2ₓ : whoS (fun pₓ => T 1 (5 + pₓ)) (nI iₓ) V.1 0 = -1
    · rw [if_pos c2ₓ, gd_in _ (show iₓ < 25 by omega) (by omega), nI_clamp (show iₓ < 2 ^ 31 by omega)]
      by_cases c1ₓ : (T 21 iₓ &&& (one pₓ ^^^ -1)) = 0
      · rw [if_pos (show (T 21 iₓ &&& (((1 : Int32) <<< (nI pₓ &&& 31)) ^^^ (-1 : Int32))) = 0 from c1ₓ), if_neg (fun qₓ => by have := qₓ.1; rw [decide_eq_false (fun zₓ => zₓ c1ₓ), Bool.false_and] at this; cases this)]
        exact ihₓ (iₓ + 1) fₓ aₓ (by omega) (by omega) haₓ
      · rw [if_neg (show ¬ (T 21 iₓ &&& (((1 : Int32) <<< (nI pₓ &&& 31)) ^^^ (-1 : Int32))) = 0 from c1ₓ)]
        by_cases a9 : aₓ = 99
        · subst a9
          rw [if_pos (show eI 99 = -1 from rfl), if_pos ⟨by rw [decide_eq_true c1ₓ, decide_eq_true c2ₓ]; rfl, Or.inl rfl⟩, ← eI_ne (show iₓ ≠ 99 by omega)]
          exact ihₓ (iₓ + 1) fₓ iₓ (by omega) (by omega) (Or.inr (by omega))
        · have hfa := farN_4 aₓ (by omega) (V.2.2 pₓ 0) (by omega)
          have hfy := far_M T (aₓ := aₓ) (bₓ := V.2.2 pₓ 0) (by omega) (by omega)
          rw [if_neg (eI_m1 (by omega)), show (5 : Int32) = nI 5 from rfl, nI_add, gd_in _ (show 5 + pₓ < 55 by omega) (by omega), nI_clamp (show 5 + pₓ < 2 ^ 31 by omega), e0ₓ, hfx, bnd_e, gd_in _ (show 5 + pₓ < 55 by omega) (by omega), e0ₓ, eI_ne a9, hfy, bnd_e]
          by_cases c3ₓ : farN iₓ (V.2.2 pₓ 0) < farN aₓ (V.2.2 pₓ 0)
          · rw [if_neg (show ¬ nI (farN aₓ (V.2.2 pₓ 0)) ≤ nI (farN iₓ (V.2.2 pₓ 0)) by rw [nI_leI (by omega) (by omega)]; omega), if_pos ⟨by rw [decide_eq_true c1ₓ, decide_eq_true c2ₓ]; rfl, Or.inr (decide_eq_true c3ₓ)⟩, ← eI_ne (show iₓ ≠ 99 by omega)]
            exact ihₓ (iₓ + 1) fₓ iₓ (by omega) (by omega) (Or.inr (by omega))
          · rw [if_pos (nI_le (by omega) (by omega)), if_neg (fun qₓ => by rcases qₓ.2 with qₓ | qₓ; exact a9 qₓ; exact c3ₓ (of_decide_eq_true qₓ)), ← eI_ne a9]
            exact ihₓ (iₓ + 1) fₓ aₓ (by omega) (by omega) haₓ
    · rw [if_neg c2ₓ, if_neg (fun qₓ => by have := qₓ.1; rw [decide_eq_false c2ₓ, Bool.and_false] at this; cases this)]
      exact ihₓ (iₓ + 1) fₓ aₓ (by omega) (by omega) haₓ
/-- a foe is near the place c -/
def nfLₓ (fo : Nat → Bool) (pl : Nat → Nat) (cₓ : Nat) : Nat → Nat → Bool
  | 0, _ => false
  | kₓ + 1, iₓ => (fo iₓ && decide (farN cₓ (pl iₓ) ≤ 1)) || nfLₓ fo pl cₓ kₓ (iₓ + 1)
theorem quar_X {Sₓ : Mem} {V : Vw} (hBₓ : VB V) (hX : XVw Sₓ V) {pₓ qₓ : Nat} (hp : pₓ < V.1) (hq : qₓ < V.1) : fX6_doQuarrel Sₓ (nI pₓ) (nI qₓ) = some (if bt (Sₓ 4 pₓ) qₓ = true then nI 1 else nI 0, Sₓ) := by
  have hn := hBₓ.1
  have e1ₓ := hX.1
  have kb := bitI_iff (Sₓ 4 pₓ) (show qₓ < 32 by omega)
  have kb' : ((Sₓ 4 pₓ >>> (nI qₓ &&& nI 31)) &&& nI 1) = nI 1 ↔ bt (Sₓ 4 pₓ) qₓ = true := kb
  by_cases cₓ : bt (Sₓ 4 pₓ) qₓ = true
  · have c' := kb'.2 cₓ
    rw [if_pos cₓ]
    simp (disch := first | omega | assumption) only [fX6_doQuarrel, fX6_isPilgrim, e1ₓ, c', mset_ne, mset_same, upd_same, upd_ne, ltm_e, lti_e, bnd_e, fa_lit, nI_add, pk_mul, nI_clamp, gd_in, nlt0, nI_ltI, nI_leI, nI_eq, if_true, if_false, if_pos, if_neg]
  · have c' : ¬ ((Sₓ 4 pₓ >>> (nI qₓ &&& nI 31)) &&& nI 1) = nI 1 := fun zₓ => cₓ (kb'.1 zₓ)
    rw [if_neg cₓ]
    simp (disch := first | omega | assumption) only [fX6_doQuarrel, fX6_isPilgrim, e1ₓ, c', mset_ne, mset_same, upd_same, upd_ne, ltm_e, lti_e, bnd_e, fa_lit, nI_add, pk_mul, nI_clamp, gd_in, nlt0, nI_ltI, nI_leI, nI_eq, if_true, if_false, if_pos, if_neg]
theorem foe_X {Sₓ : Mem} {V : Vw} (hBₓ : VB V) (hX : XVw Sₓ V) {pₓ cₓ : Nat} (hp : pₓ < V.1) (hcₓ : cₓ < 25) : ∀ (kₓ iₓ fₓ : Nat), iₓ + kₓ = V.1 → kₓ < fₓ → fX1_foeIsNear_2 fₓ Sₓ (nI pₓ) (nI cₓ) (nI iₓ) = some (if nfLₓ (bt (Sₓ 4 pₓ)) (fun qₓ => V.2.2 qₓ 0) cₓ kₓ iₓ = true then nI 1 else nI 0, Sₓ) := by
  have hn := hBₓ.1
  have e1ₓ := hX.1
  intro kₓ
  induction kₓ with
  | zero =>
    intro iₓ fₓ hiₓ hf
    obtain ⟨fₓ, rfl⟩ : ∃ gₓ, fₓ = gₓ + 1 := ⟨fₓ - 1, by omega⟩
    show fX1_foeIsNear_2_b (fX1_foeIsNear_2 fₓ) Sₓ (nI pₓ) (nI cₓ) (nI iₓ) = _
    unfold fX1_foeIsNear_2_b
    rw [e1ₓ, if_pos (nI_le (by omega) (by omega)), nfLₓ]
    rfl
  | succ kₓ ihₓ =>
    intro iₓ fₓ hiₓ hf
    obtain ⟨fₓ, rfl⟩ : ∃ gₓ, fₓ = gₓ + 1 := ⟨fₓ - 1, by omega⟩
    have hq : iₓ < V.1 := by omega
    obtain ⟨e0ₓ, -⟩ := has_V hBₓ hX hq
    have b0 := (hBₓ.2.2.1 iₓ (by omega)).1
    have h4 := farN_4 cₓ hcₓ (V.2.2 iₓ 0) (by omega)
    show fX1_foeIsNear_2_b (fX1_foeIsNear_2 fₓ) Sₓ (nI pₓ) (nI cₓ) (nI iₓ) = _
    unfold fX1_foeIsNear_2_b fX1_foeIsNear_44
    rw [e1ₓ, if_neg (show ¬ nI V.1 ≤ nI iₓ by rw [nI_leI (by omega) (by omega)]; omega), quar_X hBₓ hX hp hq, bnd_e, nfLₓ, show nI iₓ + 1 = nI (iₓ + 1) from nI_add iₓ 1]
    by_cases c1ₓ : bt (Sₓ 4 pₓ) iₓ = true
    · rw [if_pos c1ₓ, if_neg (show ¬ nI 1 = 0 by decide), show (0 : Int32) = nI 0 from rfl, e0ₓ, bnd_e, far_X Sₓ hcₓ (by omega), bnd_e, show (1 : Int32) = nI 1 from rfl]
      by_cases c2ₓ : farN cₓ (V.2.2 iₓ 0) ≤ 1
      · rw [if_neg (show ¬ nI 1 < nI (farN cₓ (V.2.2 iₓ 0)) by rw [nI_ltI (by omega) (by omega)]; omega), if_pos (by rw [c1ₓ, decide_eq_true c2ₓ]; rfl)]
      · rw [if_pos (nI_lt (by omega) (by omega)), ihₓ (iₓ + 1) fₓ (by omega) (by omega), decide_eq_false c2ₓ, Bool.and_false, Bool.false_or]
    · rw [if_neg c1ₓ, if_pos (show nI 0 = 0 from rfl), ihₓ (iₓ + 1) fₓ (by omega) (by omega)]
      have c1' : bt (Sₓ 4 pₓ) iₓ = false := by simpa using c1ₓ
      rw [c1', Bool.false_and, Bool.false_or]
theorem foe_M {T : Mem} {V : Vw} (hBₓ : VB V) (hMₓ : MVw T V) {pₓ cₓ : Nat} (hp : pₓ < V.1) (hcₓ : cₓ < 25) : ∀ (kₓ iₓ fₓ : Nat), iₓ + kₓ = V.1 → kₓ < fₓ → fX8_isNearFoe_2 fₓ T (nI pₓ) (nI cₓ) (nI iₓ) = some (if nfLₓ (bt (T 8 pₓ)) (fun qₓ => V.2.2 qₓ 0) cₓ kₓ iₓ = true then nI 1 else nI 0, T) := by
  have hn := hBₓ.1
  have e1ₓ := hMₓ.1
  intro kₓ
  induction kₓ with
  | zero =>
    intro iₓ fₓ hiₓ hf
    obtain ⟨fₓ, rfl⟩ : ∃ gₓ, fₓ = gₓ + 1 := ⟨fₓ - 1, by omega⟩
    show fX8_isNearFoe_2_b (fX8_isNearFoe_2 fₓ) T (nI pₓ) (nI cₓ) (nI iₓ) = _
    unfold fX8_isNearFoe_2_b
    rw [e1ₓ, if_pos (nI_le (by omega) (by omega)), nfLₓ]
    rfl
  | succ kₓ ihₓ =>
    intro iₓ fₓ hiₓ hf
    obtain ⟨fₓ, rfl⟩ : ∃ gₓ, fₓ = gₓ + 1 := ⟨fₓ - 1, by omega⟩
    have e0ₓ := (hMₓ.2.2 iₓ (by omega)).1
    have b0 := (hBₓ.2.2.1 iₓ (by omega)).1
    have h4 := farN_4 cₓ hcₓ (V.2.2 iₓ 0) (by omega)
    have kb := bitI_iff (T 8 pₓ) (show iₓ < 32 by omega)
    show fX8_isNearFoe_2_b (fX8_isNearFoe_2 fₓ) T (nI pₓ) (nI cₓ) (nI iₓ) = _
    unfold fX8_isNearFoe_2_b fX8_isNearFoe_43
    rw [e1ₓ, if_neg (show ¬ nI V.1 ≤ nI iₓ by rw [nI_leI (by omega) (by omega)]; omega), gd_in _ (show pₓ < 10 by omega) (by omega), nI_clamp (show pₓ < 2 ^ 31 by omega), nfLₓ, show nI iₓ + 1 = nI (iₓ + 1) from nI_add iₓ 1]
    by_cases c1ₓ : bt (T 8 pₓ) iₓ = true
    · rw [if_pos (show ((T 8 pₓ >>> (nI iₓ &&& 31)) &&& (1 : Int32)) = 1 from kb.2 c1ₓ), show (5 : Int32) = nI 5 from rfl, nI_add, gd_in _ (show 5 + iₓ < 55 by omega) (by omega), nI_clamp (show 5 + iₓ < 2 ^ 31 by omega), e0ₓ, far_M T hcₓ (by omega), bnd_e, show (1 : Int32) = nI 1 from rfl]
      by_cases c2ₓ : farN cₓ (V.2.2 iₓ 0) ≤ 1
      · rw [if_neg (show ¬ nI 1 < nI (farN cₓ (V.2.2 iₓ 0)) by rw [nI_ltI (by omega) (by omega)]; omega), if_pos (by rw [c1ₓ, decide_eq_true c2ₓ]; rfl)]
      · rw [if_pos (nI_lt (by omega) (by omega)), ihₓ (iₓ + 1) fₓ (by omega) (by omega), decide_eq_false c2ₓ, Bool.and_false, Bool.false_or]
    · rw [if_neg (show ¬ ((T 8 pₓ >>> (nI iₓ &&& 31)) &&& (1 : Int32)) = 1 from fun qₓ => c1ₓ (kb.1 qₓ)), ihₓ (iₓ + 1) fₓ (by omega) (by omega)]
      have c1' : bt (T 8 pₓ) iₓ = false := by simpa using c1ₓ
      rw [c1', Bool.false_and, Bool.false_or]
theorem away_M {T : Mem} {V : Vw} (hBₓ : VB V) (hMₓ : MVw T V) {pₓ : Nat} (hp : pₓ < V.1) : ∀ (kₓ iₓ fₓ aₓ : Nat), iₓ + kₓ = 25 → kₓ < fₓ → (aₓ = 99 ∨ aₓ < 25) → fX8_awayFor_4 fₓ T (nI pₓ) (eI aₓ) (nI iₓ) = some (eI (bstₓ (fun cₓ => !nfLₓ (bt (T 8 pₓ)) (fun qₓ => V.2.2 qₓ 0) cₓ V.1 0 && decide (whoS (fun pₓ => T 1 (5 + pₓ)) (nI cₓ) V.1 0 = -1)) (fun xₓ yₓ => decide (farN xₓ (V.2.2 pₓ 0) < farN yₓ (V.2.2 pₓ 0))) kₓ iₓ aₓ), T) := by
  have hn := hBₓ.1
  have e2ₓ := hMₓ.1
  have e0ₓ := (hMₓ.2.2 pₓ (by omega)).1
  have b0 := (hBₓ.2.2.1 pₓ (by omega)).1
  intro kₓ
  induction kₓ with
  | zero =>
    intro iₓ fₓ aₓ hiₓ hf haₓ
    obtain ⟨fₓ, rfl⟩ : ∃ gₓ, fₓ = gₓ + 1 := ⟨fₓ - 1, by omega⟩
    show fX8_awayFor_4_b (fX8_awayFor_4 fₓ) T (nI pₓ) (eI aₓ) (nI iₓ) = _
    unfold fX8_awayFor_4_b
    rw [show (25 : Int32) = nI 25 from rfl, if_pos (nI_le (by omega) (by omega)), bstₓ]
  | succ kₓ ihₓ =>
    intro iₓ fₓ aₓ hiₓ hf haₓ
    obtain ⟨fₓ, rfl⟩ : ∃ gₓ, fₓ = gₓ + 1 := ⟨fₓ - 1, by omega⟩
    have hw := who_M T (nI iₓ) hn e2ₓ
    have hnf := foe_M hBₓ hMₓ hp (cₓ := iₓ) (by omega) V.1 0 FU (by omega) (by unfold FU; omega)
    have hnf' : fX8_isNearFoe T (nI pₓ) (nI iₓ) = some (if nfLₓ (bt (T 8 pₓ)) (fun qₓ => V.2.2 qₓ 0) iₓ V.1 0 = true then nI 1 else nI 0, T) := hnf
    have hfi := farN_4 iₓ (by omega) (V.2.2 pₓ 0) (by omega)
    have hfx := far_M T (aₓ := iₓ) (bₓ := V.2.2 pₓ 0) (by omega) (by omega)
    show fX8_awayFor_4_b (fX8_awayFor_4 fₓ) T (nI pₓ) (eI aₓ) (nI iₓ) = _
    unfold fX8_awayFor_4_b fX8_awayFor_65 fX8_awayFor_67
    rw [show (25 : Int32) = nI 25 from rfl, if_neg (show ¬ nI 25 ≤ nI iₓ by rw [nI_leI (by omega) (by omega)]; omega), hw, bnd_e, bstₓ, show nI iₓ + 1 = nI (iₓ + 1) from nI_add iₓ 1]
    by_cases c2ₓ : whoS (fun pₓ => T 1 (5 + pₓ)) (nI iₓ) V.1 0 = -1
    · rw [if_pos c2ₓ, hnf', bnd_e]
      by_cases c1ₓ : nfLₓ (bt (T 8 pₓ)) (fun qₓ => V.2.2 qₓ 0) iₓ V.1 0 = true
      · rw [if_pos c1ₓ, if_neg (show ¬ nI 1 = 0 by decide), if_neg (fun qₓ => by have := qₓ.1; rw [c1ₓ] at this; cases this)]
        exact ihₓ (iₓ + 1) fₓ aₓ (by omega) (by omega) haₓ
      · have c1' : nfLₓ (bt (T 8 pₓ)) (fun qₓ => V.2.2 qₓ 0) iₓ V.1 0 = false := by simpa using c1ₓ
        rw [if_neg c1ₓ, if_pos (show nI 0 = 0 from rfl)]
        by_cases a9 : aₓ = 99
        · subst a9
          rw [if_pos (show eI 99 = -1 from rfl), if_pos ⟨by rw [c1', decide_eq_true c2ₓ]; rfl, Or.inl rfl⟩, ← eI_ne (show iₓ ≠ 99 by omega)]
          exact ihₓ (iₓ + 1) fₓ iₓ (by omega) (by omega) (Or.inr (by omega))
        · have hfa := farN_4 aₓ (by omega) (V.2.2 pₓ 0) (by omega)
          have hfy := far_M T (aₓ := aₓ) (bₓ := V.2.2 pₓ 0) (by omega) (by omega)
          rw [if_neg (eI_m1 (by omega)), show (5 : Int32) = nI 5 from rfl, nI_add, gd_in _ (show 5 + pₓ < 55 by omega) (by omega), nI_clamp (show 5 + pₓ < 2 ^ 31 by omega), e0ₓ, hfx, bnd_e, gd_in _ (show 5 + pₓ < 55 by omega) (by omega), e0ₓ, eI_ne a9, hfy, bnd_e]
          by_cases c3ₓ : farN iₓ (V.2.2 pₓ 0) < farN aₓ (V.2.2 pₓ 0)
          · rw [if_neg (show ¬ nI (farN aₓ (V.2.2 pₓ 0)) ≤ nI (farN iₓ (V.2.2 pₓ 0)) by rw [nI_leI (by omega) (by omega)]; omega), if_pos ⟨by rw [c1', decide_eq_true c2ₓ]; rfl, Or.inr (decide_eq_true c3ₓ)⟩, ← eI_ne (show iₓ ≠ 99 by omega)]
            exact ihₓ (iₓ + 1) fₓ iₓ (by omega) (by omega) (Or.inr (by omega))
          · rw [if_pos (nI_le (by omega) (by omega)), if_neg (fun qₓ => by rcases qₓ.2 with qₓ | qₓ; exact a9 qₓ; exact c3ₓ (of_decide_eq_true qₓ)), ← eI_ne a9]
            exact ihₓ (iₓ + 1) fₓ aₓ (by omega) (by omega) haₓ
    · rw [if_neg c2ₓ, if_neg (fun qₓ => by have := qₓ.1; rw [decide_eq_false c2ₓ, Bool.and_false] at this; cases this)]
      exact ihₓ (iₓ + 1) fₓ aₓ (by omega) (by omega) haₓ
/-- the class gathers all places without a foe near -/
theorem flee_X {Sₓ : Mem} {V : Vw} (hBₓ : VB V) (hX : XVw Sₓ V) {pₓ : Nat} (hp : pₓ < V.1) : ∀ (kₓ iₓ fₓ : Nat) (aₓ : Int32), iₓ + kₓ = 25 → kₓ < fₓ → fX1_flee_22 fₓ Sₓ (nI pₓ) aₓ (nI iₓ) = bnd (fX1_goToNearest Sₓ (nI pₓ) (orb (fun cₓ => !nfLₓ (bt (Sₓ 4 pₓ)) (fun qₓ => V.2.2 qₓ 0) cₓ V.1 0) kₓ iₓ aₓ)) (fun _ S_3 => some ((0 : Int32), S_3)) := by
  have hn := hBₓ.1
  intro kₓ
  induction kₓ with
  | zero =>
    intro iₓ fₓ aₓ hiₓ hf
    obtain ⟨fₓ, rfl⟩ : ∃ gₓ, fₓ = gₓ + 1 := ⟨fₓ - 1, by omega⟩
    show fX1_flee_22_b (fX1_flee_22 fₓ) Sₓ (nI pₓ) aₓ (nI iₓ) = _
    unfold fX1_flee_22_b
    rw [show (25 : Int32) = nI 25 from rfl, if_pos (nI_le (by omega) (by omega)), orb]
  | succ kₓ ihₓ =>
    intro iₓ fₓ aₓ hiₓ hf
    obtain ⟨fₓ, rfl⟩ : ∃ gₓ, fₓ = gₓ + 1 := ⟨fₓ - 1, by omega⟩
    have hnf := foe_X hBₓ hX hp (cₓ := iₓ) (by omega) V.1 0 FU (by omega) (by unfold FU; omega)
    have hnf' : fX1_foeIsNear Sₓ (nI pₓ) (nI iₓ) = some (if nfLₓ (bt (Sₓ 4 pₓ)) (fun qₓ => V.2.2 qₓ 0) iₓ V.1 0 = true then nI 1 else nI 0, Sₓ) := hnf
    show fX1_flee_22_b (fX1_flee_22 fₓ) Sₓ (nI pₓ) aₓ (nI iₓ) = _
    unfold fX1_flee_22_b fX1_flee_43
    rw [show (25 : Int32) = nI 25 from rfl, if_neg (show ¬ nI 25 ≤ nI iₓ by rw [nI_leI (by omega) (by omega)]; omega), hnf', bnd_e, orb, show nI iₓ + 1 = nI (iₓ + 1) from nI_add iₓ 1]
    by_cases c1ₓ : nfLₓ (bt (Sₓ 4 pₓ)) (fun qₓ => V.2.2 qₓ 0) iₓ V.1 0 = true
    · rw [if_pos c1ₓ, if_neg (show ¬ nI 1 = 0 by decide), if_neg (by rw [c1ₓ]; simp)]
      exact ihₓ (iₓ + 1) fₓ _ (by omega) (by omega)
    · have c1' : nfLₓ (bt (Sₓ 4 pₓ)) (fun qₓ => V.2.2 qₓ 0) iₓ V.1 0 = false := by simpa using c1ₓ
      rw [if_neg c1ₓ, if_pos (show nI 0 = 0 from rfl), lti_e, if_pos (by rw [c1']; rfl)]
      exact ihₓ (iₓ + 1) fₓ _ (by omega) (by omega)
