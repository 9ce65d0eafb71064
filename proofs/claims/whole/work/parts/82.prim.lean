/-! text: what both readers write down; W what waits in the class, P what is pending in the reference, cx and cm the code so far, g the lines that are done -/
def xsg (aₓ : Nat) : Nat := if aₓ = 12 then 23 else xcode (aₓ, 0)
def rk (aₓ : Nat) : Nat := [9, 9, 5, 5, 6, 6, 4, 4, 4, 3, 2, 1, 0].getD aₓ 9
def WX (Sₓ : Mem) : List Nat → Prop
  | [] => True
  | aₓ :: rₓ => (Sₓ 45 rₓ.length = nI (xsg aₓ) ∧ 2 ≤ aₓ ∧ aₓ ≤ 12) ∧ WX Sₓ rₓ
def PMₓ (T : Mem) : List Nat → Prop
  | [] => True
  | aₓ :: rₓ => (T 18 rₓ.length = nI aₓ ∧ aₓ ≤ 12) ∧ PMₓ T rₓ
def CX (Sₓ : Mem) (cx : List (Nat × Nat)) : Prop := Sₓ 40 5 = nI cx.length ∧ ∀ jₓ, jₓ < cx.length → Sₓ 43 jₓ = nI (xcode (cx.getD jₓ (0, 0)))
def CMₓ (T : Mem) (cm : List (Nat × Nat)) : Prop := T 0 28 = nI cm.length ∧ ∀ jₓ, jₓ < cm.length → T 16 (400 + jₓ) = nI (cm.getD jₓ (0, 0)).1 ∧ T 17 (400 + jₓ) = nI (cm.getD jₓ (0, 0)).2
def LXₓ (Sₓ : Mem) (gₓ : Prg) : Prop := Sₓ 40 4 = nI gₓ.length ∧ ∀ iₓ, iₓ < gₓ.length → Sₓ 41 iₓ = nI (gₓ.getD iₓ (0, [])).1 ∧ Sₓ 42 iₓ = nI (off gₓ (iₓ + 1))
def LM (T : Mem) (gₓ : Prg) : Prop := ∀ iₓ, iₓ < gₓ.length → T 13 (16 + iₓ) = nI (gₓ.getD iₓ (0, [])).1 ∧ T 14 (16 + iₓ) = nI (off gₓ iₓ) ∧ T 15 (16 + iₓ) = nI (off gₓ (iₓ + 1))
def XSt (Sₓ : Mem) (cx : List (Nat × Nat)) (W : List Nat) (ox br : Nat) (gₓ : Prg) : Prop := CX Sₓ cx ∧ Sₓ 38 13 = nI W.length ∧ WX Sₓ W ∧ Sₓ 38 14 = nI ox ∧ Sₓ 38 15 = nI br ∧ LXₓ Sₓ gₓ
def MSt (T : Mem) (cm : List (Nat × Nat)) (Pₓ : List Nat) (om : Nat) (gₓ : Prg) : Prop := CMₓ T cm ∧ T 0 31 = nI Pₓ.length ∧ PMₓ T Pₓ ∧ T 0 29 = nI om ∧ LM T gₓ
theorem WX.cg {Sₓ S' : Mem} : ∀ {W : List Nat}, WX Sₓ W → (∀ jₓ, jₓ < W.length → S' 45 jₓ = Sₓ 45 jₓ) → WX S' W := by
  intro W
  induction W with
  | nil => intro _ _; trivial
  | cons aₓ rₓ ihₓ =>
    intro hₓ eₓ
    rw [List.length_cons] at eₓ
    exact ⟨by rw [eₓ rₓ.length (by omega)]; exact hₓ.1, ihₓ hₓ.2 (fun jₓ hj => eₓ jₓ (by omega))⟩
theorem PMₓ.cg {T T' : Mem} : ∀ {Pₓ : List Nat}, PMₓ T Pₓ → (∀ jₓ, jₓ < Pₓ.length → T' 18 jₓ = T 18 jₓ) → PMₓ T' Pₓ := by
  intro Pₓ
  induction Pₓ with
  | nil => intro _ _; trivial
  | cons aₓ rₓ ihₓ =>
    intro hₓ eₓ
    rw [List.length_cons] at eₓ
    exact ⟨by rw [eₓ rₓ.length (by omega)]; exact hₓ.1, ihₓ hₓ.2 (fun jₓ hj => eₓ jₓ (by omega))⟩
theorem XSt.cg {Sₓ S' : Mem} {cx : List (Nat × Nat)} {W : List Nat} {ox br : Nat} {gₓ : Prg} (hₓ : XSt Sₓ cx W ox br gₓ) (h40 : S' 40 = Sₓ 40) (h41 : S' 41 = Sₓ 41) (h42 : S' 42 = Sₓ 42) (h43 : S' 43 = Sₓ 43) (h45 : S' 45 = Sₓ 45) (aₓ : S' 38 13 = Sₓ 38 13) (bₓ : S' 38 14 = Sₓ 38 14) (cₓ : S' 38 15 = Sₓ 38 15) : XSt S' cx W ox br gₓ := by
  obtain ⟨h1, h2, h3, h4, h5, h6⟩ := hₓ
  refine ⟨?_, aₓ.trans h2, h3.cg (fun jₓ _ => by rw [h45]), bₓ.trans h4, cₓ.trans h5, ?_⟩
  · unfold CX at h1 ⊢; rw [h40, h43]; exact h1
  · unfold LXₓ at h6 ⊢; rw [h40, h41, h42]; exact h6
theorem MSt.cg {T T' : Mem} {cm : List (Nat × Nat)} {Pₓ : List Nat} {om : Nat} {gₓ : Prg} (hₓ : MSt T cm Pₓ om gₓ) (h13 : T' 13 = T 13) (h14 : T' 14 = T 14) (h15 : T' 15 = T 15) (h16ₓ : T' 16 = T 16) (h17 : T' 17 = T 17) (h18 : T' 18 = T 18) (aₓ : T' 0 28 = T 0 28) (bₓ : T' 0 29 = T 0 29) (cₓ : T' 0 31 = T 0 31) : MSt T' cm Pₓ om gₓ := by
  obtain ⟨h1, h2, h3, h4, h5⟩ := hₓ
  refine ⟨?_, cₓ.trans h2, h3.cg (fun jₓ _ => by rw [h18]), bₓ.trans h4, ?_⟩
  · unfold CMₓ at h1 ⊢; rw [h16ₓ, h17, aₓ]; exact h1
  · unfold LM at h5 ⊢; rw [h13, h14, h15]; exact h5
/-- what the readers leave alone -/
def FXₓ (Sₓ S' : Mem) : Prop := (∀ cₓ, cₓ ∉ [38, 40, 41, 42, 43, 45] → S' cₓ = Sₓ cₓ)
def FM (T T' : Mem) : Prop := (∀ cₓ, cₓ ∉ [0, 13, 14, 15, 16, 17, 18] → T' cₓ = T cₓ) ∧ (∀ jₓ, jₓ ∈ [0, 3, 6, 10, 11, 16, 22, 34, 35, 46] → T' 0 jₓ = T 0 jₓ) ∧ (∀ jₓ, jₓ < 32 → T' 13 jₓ = T 13 jₓ ∧ T' 14 jₓ = T 14 jₓ ∧ T' 15 jₓ = T 15 jₓ) ∧ ∀ jₓ, jₓ < 400 → T' 16 jₓ = T 16 jₓ ∧ T' 17 jₓ = T 17 jₓ
theorem FXₓ.rf (Sₓ : Mem) : FXₓ Sₓ Sₓ := fun _ _ => rfl
theorem FM.rf (T : Mem) : FM T T := ⟨fun _ _ => rfl, fun _ _ => rfl, fun _ _ => ⟨rfl, rfl, rfl⟩, fun _ _ => ⟨rfl, rfl⟩⟩
theorem FXₓ.tr {Sₓ S1 S2 : Mem} (hₓ : FXₓ Sₓ S1) (h2 : FXₓ S1 S2) : FXₓ Sₓ S2 := fun cₓ hcₓ => (h2 cₓ hcₓ).trans (hₓ cₓ hcₓ)
theorem FM.tr {T T1 T2 : Mem} (hₓ : FM T T1) (h2 : FM T1 T2) : FM T T2 := ⟨fun cₓ hcₓ => (h2.1 cₓ hcₓ).trans (hₓ.1 cₓ hcₓ), fun jₓ hj => (h2.2.1 jₓ hj).trans (hₓ.2.1 jₓ hj), fun jₓ hj => ⟨(h2.2.2.1 jₓ hj).1.trans (hₓ.2.2.1 jₓ hj).1, (h2.2.2.1 jₓ hj).2.1.trans (hₓ.2.2.1 jₓ hj).2.1, (h2.2.2.1 jₓ hj).2.2.trans (hₓ.2.2.1 jₓ hj).2.2⟩, fun jₓ hj => ⟨(h2.2.2.2 jₓ hj).1.trans (hₓ.2.2.2 jₓ hj).1, (h2.2.2.2 jₓ hj).2.trans (hₓ.2.2.2 jₓ hj).2⟩⟩
theorem FXₓ.put (Sₓ : Mem) {kₓ : Nat} (fₓ : Nat → Int32) (hₓ : kₓ ∈ [38, 40, 41, 42, 43, 45]) : FXₓ Sₓ (mput Sₓ kₓ fₓ) := fun cₓ hcₓ => mput_ne _ _ (fun eₓ => hcₓ (eₓ ▸ hₓ))
theorem FM.s0 (T : Mem) {jₓ : Nat} (vₓ : Int32) (hₓ : jₓ ∉ [0, 3, 6, 10, 11, 16, 22, 34, 35, 46]) : FM T (mset T 0 jₓ vₓ) := by
  refine ⟨fun cₓ hcₓ => mset_ne _ _ _ (fun eₓ => hcₓ (by rw [eₓ]; decide)), fun iₓ hiₓ => ?_, fun iₓ _ => ⟨?_, ?_, ?_⟩, fun iₓ _ => ⟨?_, ?_⟩⟩
  · rw [ms_at, if_neg (fun (qₓ : 0 = 0 ∧ iₓ = jₓ) => hₓ (qₓ.2 ▸ hiₓ))]
  all_goals rw [mset_ne _ _ _ (by omega)]
theorem FM.s1 (T : Mem) {cₓ jₓ : Nat} (vₓ : Int32) (hₓ : cₓ = 18 ∨ ((cₓ = 13 ∨ cₓ = 14 ∨ cₓ = 15) ∧ 32 ≤ jₓ) ∨ ((cₓ = 16 ∨ cₓ = 17) ∧ 400 ≤ jₓ)) : FM T (mset T cₓ jₓ vₓ) := by
  refine ⟨fun kₓ hk => mset_ne _ _ _ (fun eₓ => hk (by subst eₓ; simp only [List.mem_cons, List.not_mem_nil, or_false]; omega)), fun iₓ hiₓ => ?_, fun iₓ hiₓ => ⟨?_, ?_, ?_⟩, fun iₓ hiₓ => ⟨?_, ?_⟩⟩
  all_goals rw [ms_at, if_neg (by omega)]
theorem SX.FX {Sₓ S' : Mem} (hₓ : SX Sₓ S') : FXₓ Sₓ S' := fun cₓ hcₓ => hₓ.1 cₓ (fun eₓ => hcₓ (by rw [eₓ]; decide))
theorem SMₓ.FM {T T' : Mem} (hₓ : SMₓ T T') : FM T T' := by
  refine ⟨fun cₓ hcₓ => hₓ.1 cₓ (fun eₓ => hcₓ (by rw [eₓ]; decide)), fun jₓ hj => ?_, fun jₓ _ => ?_, fun jₓ _ => ?_⟩
  · simp only [List.mem_cons, List.not_mem_nil, or_false] at hj
    exact hₓ.2 jₓ (by omega) (by omega) (by omega) (by omega)
  · rw [hₓ.1 13 (by omega), hₓ.1 14 (by omega), hₓ.1 15 (by omega)]; exact ⟨rfl, rfl, rfl⟩
  · rw [hₓ.1 16 (by omega), hₓ.1 17 (by omega)]; exact ⟨rfl, rfl⟩
theorem getD_app {α : Type} (l mₓ : List α) (dₓ : α) {jₓ : Nat} (hₓ : jₓ < l.length) : (l ++ mₓ).getD jₓ dₓ = l.getD jₓ dₓ := by
  rw [List.getD_eq_getElem?_getD, List.getD_eq_getElem?_getD, List.getElem?_append_left hₓ]
theorem getD_last {α : Type} (l : List α) (xₓ dₓ : α) : (l ++ [xₓ]).getD l.length dₓ = xₓ := by
  rw [List.getD_eq_getElem?_getD, List.getElem?_append_right (Nat.le_refl _), Nat.sub_self]
  rfl
/-! the class -/
def adX (Sₓ : Mem) (mₓ : Nat) (vₓ : Int32) : Mem := mset (mset Sₓ 43 mₓ vₓ) 40 5 (nI (mₓ + 1))
theorem addC_X {Sₓ : Mem} {mₓ : Nat} (vₓ : Int32) (hmₓ : mₓ < 400) (eₓ : Sₓ 40 5 = nI mₓ) : fX4_addCode_40 Sₓ vₓ = some (nI 0, adX Sₓ mₓ vₓ) := by
  unfold adX
  simp (disch := first | omega | assumption) only [fX4_addCode_40, eₓ, mset_ne, mset_same, upd_same, upd_ne, ltm_e, lti_e, bnd_e, fa_lit, nI_add, pk_mul, nI_clamp, gd_in, nlt0, nI_ltI, nI_leI, nI_eq, if_true, if_false, if_pos, if_neg]
theorem adX_CX {Sₓ : Mem} {cx : List (Nat × Nat)} (hₓ : CX Sₓ cx) (cₓ : Nat × Nat) : CX (adX Sₓ cx.length (nI (xcode cₓ))) (cx ++ [cₓ]) := by
  unfold adX
  refine ⟨?_, fun jₓ hj => ?_⟩
  · rw [ms_at, if_pos ⟨rfl, rfl⟩, List.length_append]; rfl
  · rw [mset_ne _ _ _ (by omega), mset_same]
    rw [List.length_append] at hj
    have hj2 : jₓ < cx.length + 1 := hj
    by_cases eₓ : jₓ = cx.length
    · rw [eₓ, upd_same, getD_last]
    · rw [upd_ne _ _ eₓ, getD_app _ _ _ (by omega)]; exact hₓ.2 jₓ (by omega)
theorem adX_st {Sₓ : Mem} {cx : List (Nat × Nat)} {W : List Nat} {ox br : Nat} {gₓ : Prg} (hₓ : XSt Sₓ cx W ox br gₓ) (cₓ : Nat × Nat) : XSt (adX Sₓ cx.length (nI (xcode cₓ))) (cx ++ [cₓ]) W ox br gₓ := by
  obtain ⟨h1, h2, h3, h4, h5, h6⟩ := hₓ
  refine ⟨adX_CX h1 cₓ, ?_, h3.cg (fun jₓ _ => ?_), ?_, ?_, ?_⟩
  · unfold adX; rw [mset_ne _ _ _ (by omega), mset_ne _ _ _ (by omega)]; exact h2
  · unfold adX; rw [mset_ne _ _ _ (by omega), mset_ne _ _ _ (by omega)]
  · unfold adX; rw [mset_ne _ _ _ (by omega), mset_ne _ _ _ (by omega)]; exact h4
  · unfold adX; rw [mset_ne _ _ _ (by omega), mset_ne _ _ _ (by omega)]; exact h5
  · unfold LXₓ at h6 ⊢
    unfold adX
    rw [ms_at, if_neg (by omega), mset_ne _ _ _ (show 40 ≠ 43 by omega), mset_ne _ _ _ (show 41 ≠ 40 by omega), mset_ne _ _ _ (show 41 ≠ 43 by omega), mset_ne _ _ _ (show 42 ≠ 40 by omega), mset_ne _ _ _ (show 42 ≠ 43 by omega)]
    exact h6
theorem adX_FX (Sₓ : Mem) (mₓ : Nat) (vₓ : Int32) : FXₓ Sₓ (adX Sₓ mₓ vₓ) := (FXₓ.put Sₓ _ (by decide)).tr (FXₓ.put _ _ (by decide))
theorem adX_38 (Sₓ : Mem) (mₓ : Nat) (vₓ : Int32) : adX Sₓ mₓ vₓ 38 = Sₓ 38 := by unfold adX; rw [mset_ne _ _ _ (by omega), mset_ne _ _ _ (by omega)]
def hoX (Sₓ : Mem) (mₓ : Nat) (vₓ : Int32) : Mem := mset (mset Sₓ 45 mₓ vₓ) 38 13 (nI (mₓ + 1))
theorem hold_X {Sₓ : Mem} {mₓ : Nat} (vₓ : Int32) (hmₓ : mₓ < 40) (eₓ : Sₓ 38 13 = nI mₓ) : fX3_hold Sₓ vₓ = some (nI 0, hoX Sₓ mₓ vₓ) := by
  unfold hoX
  simp (disch := first | omega | assumption) only [fX3_hold, eₓ, mset_ne, mset_same, upd_same, upd_ne, ltm_e, lti_e, bnd_e, fa_lit, nI_add, pk_mul, nI_clamp, gd_in, nlt0, nI_ltI, nI_leI, nI_eq, if_true, if_false, if_pos, if_neg]
theorem hoX_st {Sₓ : Mem} {cx : List (Nat × Nat)} {W : List Nat} {ox br : Nat} {gₓ : Prg} (hₓ : XSt Sₓ cx W ox br gₓ) {aₓ : Nat} (haₓ : 2 ≤ aₓ ∧ aₓ ≤ 12) : XSt (hoX Sₓ W.length (nI (xsg aₓ))) cx (aₓ :: W) ox br gₓ := by
  obtain ⟨h1, h2, h3, h4, h5, h6⟩ := hₓ
  unfold hoX
  refine ⟨?_, ?_, ⟨⟨?_, haₓ⟩, h3.cg (fun jₓ hj => ?_)⟩, ?_, ?_, ?_⟩
  · unfold CX at h1 ⊢
    rw [mset_ne _ _ _ (show 40 ≠ 38 by omega), mset_ne _ _ _ (show 40 ≠ 45 by omega), mset_ne _ _ _ (show 43 ≠ 38 by omega), mset_ne _ _ _ (show 43 ≠ 45 by omega)]
    exact h1
  · rw [ms_at, if_pos ⟨rfl, rfl⟩, List.length_cons]
  · rw [mset_ne _ _ _ (by omega), mset_same, upd_same]
  · rw [mset_ne _ _ _ (by omega), mset_same, upd_ne _ _ (by omega)]
  · rw [ms_at, if_neg (by omega), mset_ne _ _ _ (by omega)]; exact h4
  · rw [ms_at, if_neg (by omega), mset_ne _ _ _ (by omega)]; exact h5
  · unfold LXₓ at h6 ⊢
    rw [mset_ne _ _ _ (show 40 ≠ 38 by omega), mset_ne _ _ _ (show 40 ≠ 45 by omega), mset_ne _ _ _ (show 41 ≠ 38 by omega), mset_ne _ _ _ (show 41 ≠ 45 by omega), mset_ne _ _ _ (show 42 ≠ 38 by omega), mset_ne _ _ _ (show 42 ≠ 45 by omega)]
    exact h6
theorem hoX_FX (Sₓ : Mem) (mₓ : Nat) (vₓ : Int32) : FXₓ Sₓ (hoX Sₓ mₓ vₓ) := (FXₓ.put Sₓ _ (by decide)).tr (FXₓ.put _ _ (by decide))
theorem hoX_38 (Sₓ : Mem) (mₓ : Nat) (vₓ : Int32) {jₓ : Nat} (hj : jₓ ≠ 13) : hoX Sₓ mₓ vₓ 38 jₓ = Sₓ 38 jₓ := by unfold hoX; rw [ms_at, if_neg (by omega), mset_ne _ _ _ (by omega)]
theorem rank_X (Sₓ : Mem) {aₓ : Nat} (haₓ : 2 ≤ aₓ ∧ aₓ ≤ 12) : fX3_rankOf Sₓ (nI (xsg aₓ)) = some (nI (rk aₓ), Sₓ) := by
  obtain rfl | rfl | rfl | rfl | rfl | rfl | rfl | rfl | rfl | rfl | rfl : aₓ = 2 ∨ aₓ = 3 ∨ aₓ = 4 ∨ aₓ = 5 ∨ aₓ = 6 ∨ aₓ = 7 ∨ aₓ = 8 ∨ aₓ = 9 ∨ aₓ = 10 ∨ aₓ = 11 ∨ aₓ = 12 := by omega
  all_goals rfl
def n9 : List Nat → Nat
  | [] => 0
  | aₓ :: rₓ => (if aₓ = 9 then 1 else 0) + n9 rₓ
/-- only the registers that settling touches have changed -/
def SetF (Sₓ S' : Mem) : Prop := (∀ cₓ, cₓ ∉ [38, 40, 43] → S' cₓ = Sₓ cₓ) ∧ (∀ jₓ, jₓ ≠ 13 → jₓ ≠ 14 → S' 38 jₓ = Sₓ 38 jₓ) ∧ ∀ jₓ, jₓ ≠ 5 → S' 40 jₓ = Sₓ 40 jₓ
theorem SetF.rf (Sₓ : Mem) : SetF Sₓ Sₓ := ⟨fun _ _ => rfl, fun _ _ _ => rfl, fun _ _ => rfl⟩
theorem SetF.tr {Sₓ S1 S2 : Mem} (hₓ : SetF Sₓ S1) (h2 : SetF S1 S2) : SetF Sₓ S2 := ⟨fun cₓ hcₓ => (h2.1 cₓ hcₓ).trans (hₓ.1 cₓ hcₓ), fun jₓ aₓ bₓ => (h2.2.1 jₓ aₓ bₓ).trans (hₓ.2.1 jₓ aₓ bₓ), fun jₓ aₓ => (h2.2.2 jₓ aₓ).trans (hₓ.2.2 jₓ aₓ)⟩
theorem SetF.FX {Sₓ S' : Mem} (hₓ : SetF Sₓ S') : FXₓ Sₓ S' := fun cₓ hcₓ => hₓ.1 cₓ (fun qₓ => hcₓ (by simp only [List.mem_cons, List.not_mem_nil, or_false] at qₓ ⊢; omega))
theorem pop_st {Sₓ : Mem} {cx : List (Nat × Nat)} {W : List Nat} {aₓ ox br : Nat} {gₓ : Prg} (hₓ : XSt Sₓ cx (aₓ :: W) ox br gₓ) (o : Nat) (ho : Sₓ 38 14 = nI ox) : XSt (mset (adX (mset Sₓ 38 14 (nI o)) cx.length (nI (xcode (aₓ, 0)))) 38 13 (nI W.length)) (cx ++ [(aₓ, 0)]) W o br gₓ := by
  obtain ⟨h1, h2, ⟨h30, h3⟩, h4, h5, h6⟩ := hₓ
  have h' : XSt (mset Sₓ 38 14 (nI o)) cx (aₓ :: W) o br gₓ := ⟨h1, by rw [ms_at, if_neg (by omega)]; exact h2, ⟨by rw [mset_ne _ _ _ (show 45 ≠ 38 by omega)]; exact h30, h3.cg (fun jₓ _ => by rw [mset_ne _ _ _ (by omega)])⟩, by rw [ms_at, if_pos ⟨rfl, rfl⟩], by rw [ms_at, if_neg (by omega)]; exact h5, h6⟩
  obtain ⟨k1ₓ, k2ₓ, ⟨-, k3ₓ⟩, k4ₓ, k5ₓ, k6ₓ⟩ := adX_st h' (aₓ, 0)
  exact ⟨k1ₓ, by rw [ms_at, if_pos ⟨rfl, rfl⟩], k3ₓ.cg (fun jₓ _ => by rw [mset_ne _ _ _ (by omega)]), by rw [ms_at, if_neg (by omega)]; exact k4ₓ, by rw [ms_at, if_neg (by omega)]; exact k5ₓ, k6ₓ⟩
theorem settle_X {rₓ br : Nat} {gₓ : Prg} {W0ₓ : List Nat} (hr : rₓ ≤ 6) (h0 : ∀ aₓ l, W0ₓ = aₓ :: l → rk aₓ < rₓ) : ∀ (Dₓ : List Nat) (iₓ fₓ : Nat) (Sₓ : Mem) (cx : List (Nat × Nat)) (ox : Nat), XSt Sₓ cx (Dₓ ++ W0ₓ) ox br gₓ → (∀ aₓ ∈ Dₓ, rₓ ≤ rk aₓ ∧ aₓ ≠ 12) → (Dₓ ++ W0ₓ).length + iₓ < 40 → Dₓ.length < fₓ → cx.length + Dₓ.length ≤ 400 → n9 Dₓ ≤ ox → ox < 100 → ∃ S', fX3_settleDownTo_2 fₓ Sₓ (nI rₓ) (nI iₓ) = some (nI 0, S') ∧ XSt S' (cx ++ Dₓ.map (fun aₓ => (aₓ, 0))) W0ₓ (ox - n9 Dₓ) br gₓ ∧ SetF Sₓ S' := by
  intro Dₓ
  induction Dₓ with
  | nil =>
    intro iₓ fₓ Sₓ cx ox hₓ hD hiₓ hf hcₓ hn ho
    obtain ⟨fₓ, rfl⟩ : ∃ gₓ, fₓ = gₓ + 1 := ⟨fₓ - 1, by omega⟩
    refine ⟨Sₓ, ?_, ?_, SetF.rf Sₓ⟩
    · rw [List.nil_append] at hₓ hiₓ
      obtain ⟨-, h2, h3, -⟩ := hₓ
      show fX3_settleDownTo_2_b (fX3_settleDownTo_2 fₓ) Sₓ (nI rₓ) (nI iₓ) = _
      unfold fX3_settleDownTo_2_b
      rw [if_neg (show ¬ (40 : Int32) ≤ nI iₓ by rw [show (40 : Int32) = nI 40 from rfl, nI_leI (by omega) (by omega)]; omega), h2]
      cases hW : W0ₓ with
      | nil => rw [if_pos (show nI ([] : List Nat).length ≤ 0 by decide)]; rfl
      | cons aₓ l =>
        rw [hW] at h3 hiₓ
        rw [List.length_cons] at hiₓ
        have hrk := h0 aₓ l hW
        obtain ⟨⟨e1ₓ, e2ₓ, e3ₓ⟩, -⟩ := h3
        rw [List.length_cons, if_neg (show ¬ nI (l.length + 1) ≤ 0 by rw [le0_iff (by omega)]; omega), if_neg (show ¬ (40 : Int32) < nI (l.length + 1) by rw [show (40 : Int32) = nI 40 from rfl, nI_ltI (by omega) (by omega)]; omega), show (1 : Int32) = nI 1 from rfl, pk_sub (show 1 ≤ l.length + 1 by omega), show l.length + 1 - 1 = l.length by omega, gd_in _ (show l.length < 40 by omega) (by omega), lti_e, nI_clamp (show l.length < 2 ^ 31 by omega), e1ₓ, rank_X Sₓ ⟨e2ₓ, e3ₓ⟩, bnd_e, if_neg (show ¬ nI rₓ ≤ nI (rk aₓ) by rw [nI_leI (by omega) (by omega)]; omega)]
        rfl
    · rw [List.map_nil, List.append_nil, n9, Nat.sub_zero]; exact hₓ
  | cons aₓ Dₓ ihₓ =>
    intro iₓ fₓ Sₓ cx ox hₓ hD hiₓ hf hcₓ hn ho
    obtain ⟨fₓ, rfl⟩ : ∃ gₓ, fₓ = gₓ + 1 := ⟨fₓ - 1, by omega⟩
    rw [List.length_cons] at hf hcₓ
    obtain ⟨hDa, hD12⟩ := hD aₓ List.mem_cons_self
    have h' : XSt Sₓ cx (aₓ :: (Dₓ ++ W0ₓ)) ox br gₓ := hₓ
    have hi' : (Dₓ ++ W0ₓ).length + 1 + iₓ < 40 := hiₓ
    obtain ⟨h1, h2, ⟨⟨e1ₓ, e2ₓ, e3ₓ⟩, h3⟩, h4, h5, h6⟩ := id h'
    rw [List.length_cons] at h2
    have hrk6 : rk aₓ ≤ 9 := by
      obtain rfl | rfl | rfl | rfl | rfl | rfl | rfl | rfl | rfl | rfl | rfl : aₓ = 2 ∨ aₓ = 3 ∨ aₓ = 4 ∨ aₓ = 5 ∨ aₓ = 6 ∨ aₓ = 7 ∨ aₓ = 8 ∨ aₓ = 9 ∨ aₓ = 10 ∨ aₓ = 11 ∨ aₓ = 12 := by omega
      all_goals decide
    rw [n9] at hn
    -- the stateₓ behindₓ the one that is settledₓ
    obtain ⟨o, hoe⟩ : ∃ o, o = ox - (if aₓ = 9 then 1 else 0) := ⟨_, rfl⟩
    have hst := pop_st h' o h4
    have exs : xsg aₓ = xcode (aₓ, 0) := if_neg hD12
    have stepₓ : fX3_settleDownTo_2 (fₓ + 1) Sₓ (nI rₓ) (nI iₓ) = fX3_settleDownTo_2 fₓ (mset (adX (mset Sₓ 38 14 (nI o)) cx.length (nI (xcode (aₓ, 0)))) 38 13 (nI (Dₓ ++ W0ₓ).length)) (nI rₓ) (nI (iₓ + 1)) := by
      show fX3_settleDownTo_2_b (fX3_settleDownTo_2 fₓ) Sₓ (nI rₓ) (nI iₓ) = _
      unfold fX3_settleDownTo_2_b fX3_settleDownTo_67
      have k67 : ∀ Zₓ : Mem, Zₓ 40 5 = nI cx.length → Zₓ 38 13 = nI ((Dₓ ++ W0ₓ).length + 1) → (bnd (fX4_addCode_40 Zₓ (nI (xsg aₓ))) fun _ S_2 => ltm (mset S_2 38 13 ((S_2 38 13) - (1 : Int32))) fun S_3 => fX3_settleDownTo_2 fₓ S_3 (nI rₓ) (nI iₓ + 1)) = fX3_settleDownTo_2 fₓ (mset (adX Zₓ cx.length (nI (xcode (aₓ, 0)))) 38 13 (nI (Dₓ ++ W0ₓ).length)) (nI rₓ) (nI (iₓ + 1)) := by
        intro Zₓ z1 z2
        rw [addC_X _ (by omega) z1, bnd_e, ltm_e, adX_38, z2, show (1 : Int32) = nI 1 from rfl, pk_sub (by omega), show (Dₓ ++ W0ₓ).length + 1 - 1 = (Dₓ ++ W0ₓ).length by omega, nI_add, exs]
      rw [if_neg (show ¬ (40 : Int32) ≤ nI iₓ by rw [show (40 : Int32) = nI 40 from rfl, nI_leI (by omega) (by omega)]; omega), h2, if_neg (show ¬ nI ((Dₓ ++ W0ₓ).length + 1) ≤ 0 by rw [le0_iff (by omega)]; omega), if_neg (show ¬ (40 : Int32) < nI ((Dₓ ++ W0ₓ).length + 1) by rw [show (40 : Int32) = nI 40 from rfl, nI_ltI (by omega) (by omega)]; omega)]
      have e1s : nI ((Dₓ ++ W0ₓ).length + 1) - (1 : Int32) = nI (Dₓ ++ W0ₓ).length := by rw [show (1 : Int32) = nI 1 from rfl, pk_sub (by omega)]; rfl
      rw [e1s, gd_in _ (show (Dₓ ++ W0ₓ).length < 40 by omega) (by omega), lti_e, nI_clamp (show (Dₓ ++ W0ₓ).length < 2 ^ 31 by omega), e1ₓ, rank_X Sₓ ⟨e2ₓ, e3ₓ⟩, bnd_e, if_pos (nI_le hDa (by omega))]
      by_cases a9 : aₓ = 9
      · rw [if_pos (show nI (xsg aₓ) = 7 by rw [a9]; rfl), ltm_e]
        have eo : nI ox - (1 : Int32) = nI o := by
          rw [if_pos a9] at hoe hn
          rw [show (1 : Int32) = nI 1 from rfl, pk_sub (by omega), hoe]
        rw [h4, eo]
        exact k67 _ (by rw [mset_ne _ _ _ (by omega)]; exact h1.1) (by rw [ms_at, if_neg (by omega)]; exact h2)
      · rw [if_neg a9] at hoe
        have e7ₓ : ¬ nI (xsg aₓ) = 7 := by
          obtain rfl | rfl | rfl | rfl | rfl | rfl | rfl | rfl | rfl | rfl : aₓ = 2 ∨ aₓ = 3 ∨ aₓ = 4 ∨ aₓ = 5 ∨ aₓ = 6 ∨ aₓ = 7 ∨ aₓ = 8 ∨ aₓ = 10 ∨ aₓ = 11 ∨ aₓ = 12 := by omega
          all_goals decide
        rw [if_neg e7ₓ]
        have eZ : mset Sₓ 38 14 (nI o) = Sₓ := by
          funext cₓ kₓ
          rw [ms_at]
          by_cases zₓ : cₓ = 38 ∧ kₓ = 14
          · rw [if_pos zₓ, zₓ.1, zₓ.2, h4, hoe]; rfl
          · rw [if_neg zₓ]
        rw [eZ]
        exact k67 Sₓ h1.1 h2
    obtain ⟨S', s1ₓ, s2ₓ, s3ₓ⟩ := ihₓ (iₓ + 1) fₓ _ (cx ++ [(aₓ, 0)]) o hst (fun xₓ hx => hD xₓ (List.mem_cons_of_mem _ hx)) (by omega) (by omega) (by rw [List.length_append, List.length_singleton]; omega) (by rw [hoe]; split at hn <;> split <;> omega) (by rw [hoe]; omega)
    refine ⟨S', stepₓ.trans s1ₓ, ?_, ?_⟩
    · have ea : cx ++ (aₓ :: Dₓ).map (fun aₓ => (aₓ, 0)) = cx ++ [(aₓ, 0)] ++ Dₓ.map (fun aₓ => (aₓ, 0)) := by rw [List.map_cons, List.append_assoc]; rfl
      rw [ea, n9, show ox - ((if aₓ = 9 then 1 else 0) + n9 Dₓ) = o - n9 Dₓ by rw [hoe]; omega]
      exact s2ₓ
    · refine SetF.tr ⟨fun cₓ hcₓ => ?_, fun jₓ j1 j2ₓ => ?_, fun jₓ j1 => ?_⟩ s3ₓ
      · simp only [List.mem_cons, List.not_mem_nil, or_false] at hcₓ
        unfold adX
        rw [mset_ne _ _ _ (by omega), mset_ne _ _ _ (by omega), mset_ne _ _ _ (by omega), mset_ne _ _ _ (by omega)]
      · rw [ms_at, if_neg (by omega), adX_38, ms_at, if_neg (by omega)]
      · unfold adX
        rw [mset_ne _ _ _ (show 40 ≠ 38 by omega), ms_at, if_neg (by omega), mset_ne _ _ _ (show 40 ≠ 43 by omega), mset_ne _ _ _ (show 40 ≠ 38 by omega)]
/-! the reference -/
def emM (T : Mem) (mₓ : Nat) (aₓ vₓ : Int32) : Mem := mset (mset (mset T 16 (400 + mₓ) aₓ) 17 (400 + mₓ) vₓ) 0 28 (nI (mₓ + 1))
theorem emit_M {T : Mem} {mₓ : Nat} (aₓ vₓ : Int32) (hmₓ : mₓ < 400) (eₓ : T 0 28 = nI mₓ) : fX8_emits T aₓ vₓ = some (nI 0, emM T mₓ aₓ vₓ) := by
  unfold emM
  simp (disch := first | omega | assumption) only [fX8_emits, eₓ, mset_ne, mset_same, upd_same, upd_ne, ltm_e, lti_e, bnd_e, fa_lit, nI_add, pk_mul, nI_clamp, gd_in, nlt0, nI_ltI, nI_leI, nI_eq, if_true, if_false, if_pos, if_neg]
theorem emM_st {T : Mem} {cm : List (Nat × Nat)} {Pₓ : List Nat} {om : Nat} {gₓ : Prg} (hₓ : MSt T cm Pₓ om gₓ) (cₓ : Nat × Nat) : MSt (emM T cm.length (nI cₓ.1) (nI cₓ.2)) (cm ++ [cₓ]) Pₓ om gₓ := by
  obtain ⟨h1, h2, h3, h4, h5⟩ := hₓ
  unfold emM
  refine ⟨⟨?_, fun jₓ hj => ?_⟩, ?_, h3.cg (fun jₓ _ => ?_), ?_, ?_⟩
  · rw [ms_at, if_pos ⟨rfl, rfl⟩, List.length_append]; rfl
  · rw [List.length_append] at hj
    have hj2 : jₓ < cm.length + 1 := hj
    rw [mset_ne _ _ _ (show 16 ≠ 0 by omega), mset_ne _ _ _ (show 16 ≠ 17 by omega), mset_ne _ _ _ (show 17 ≠ 0 by omega), mset_same, mset_same, mset_ne _ _ _ (show 17 ≠ 16 by omega)]
    by_cases eₓ : jₓ = cm.length
    · rw [eₓ, upd_same, upd_same, getD_last]; exact ⟨rfl, rfl⟩
    · rw [upd_ne _ _ (by omega), upd_ne _ _ (by omega), getD_app _ _ _ (by omega)]; exact h1.2 jₓ (by omega)
  · rw [ms_at, if_neg (by omega), mset_ne _ _ _ (by omega), mset_ne _ _ _ (by omega)]; exact h2
  · rw [mset_ne _ _ _ (by omega), mset_ne _ _ _ (by omega), mset_ne _ _ _ (by omega)]
  · rw [ms_at, if_neg (by omega), mset_ne _ _ _ (by omega), mset_ne _ _ _ (by omega)]; exact h4
  · unfold LM at h5 ⊢
    rw [mset_ne _ _ _ (show 13 ≠ 0 by omega), mset_ne _ _ _ (show 13 ≠ 17 by omega), mset_ne _ _ _ (show 13 ≠ 16 by omega), mset_ne _ _ _ (show 14 ≠ 0 by omega), mset_ne _ _ _ (show 14 ≠ 17 by omega), mset_ne _ _ _ (show 14 ≠ 16 by omega), mset_ne _ _ _ (show 15 ≠ 0 by omega), mset_ne _ _ _ (show 15 ≠ 17 by omega), mset_ne _ _ _ (show 15 ≠ 16 by omega)]
    exact h5
theorem emM_FM (T : Mem) (mₓ : Nat) (aₓ vₓ : Int32) : FM T (emM T mₓ aₓ vₓ) := ((FM.s1 T _ (by omega)).tr (FM.s1 _ _ (by omega))).tr (FM.s0 _ _ (by decide))
/-- the token's registers stay -/
def TkM (T T' : Mem) : Prop := T' 0 17 = T 0 17 ∧ T' 0 18 = T 0 18 ∧ T' 0 19 = T 0 19 ∧ T' 0 20 = T 0 20
theorem TkM.rf (T : Mem) : TkM T T := ⟨rfl, rfl, rfl, rfl⟩
theorem TkM.tr {T T1 T2 : Mem} (hₓ : TkM T T1) (h2 : TkM T1 T2) : TkM T T2 := ⟨h2.1.trans hₓ.1, h2.2.1.trans hₓ.2.1, h2.2.2.1.trans hₓ.2.2.1, h2.2.2.2.trans hₓ.2.2.2⟩
theorem TkM.s (T : Mem) {cₓ jₓ : Nat} (vₓ : Int32) (hₓ : cₓ ≠ 0 ∨ 28 ≤ jₓ) : TkM T (mset T cₓ jₓ vₓ) := by
  refine ⟨?_, ?_, ?_, ?_⟩ <;> rw [ms_at, if_neg (by omega)]
theorem emM_Tk (T : Mem) (mₓ : Nat) (aₓ vₓ : Int32) : TkM T (emM T mₓ aₓ vₓ) := ((TkM.s T _ (by omega)).tr (TkM.s _ _ (by omega))).tr (TkM.s _ _ (by omega))
def waM (T : Mem) (mₓ : Nat) (aₓ : Int32) : Mem := mset (mset T 18 mₓ aₓ) 0 31 (nI (mₓ + 1))
theorem wait_M {T : Mem} {mₓ : Nat} (aₓ : Int32) (hmₓ : mₓ < 40) (eₓ : T 0 31 = nI mₓ) : fX8_waits T aₓ = some (nI 0, waM T mₓ aₓ) := by
  unfold waM
  simp (disch := first | omega | assumption) only [fX8_waits, eₓ, mset_ne, mset_same, upd_same, upd_ne, ltm_e, lti_e, bnd_e, fa_lit, nI_add, pk_mul, nI_clamp, gd_in, nlt0, nI_ltI, nI_leI, nI_eq, if_true, if_false, if_pos, if_neg]
theorem waM_st {T : Mem} {cm : List (Nat × Nat)} {Pₓ : List Nat} {om : Nat} {gₓ : Prg} (hₓ : MSt T cm Pₓ om gₓ) {aₓ : Nat} (haₓ : aₓ ≤ 12) : MSt (waM T Pₓ.length (nI aₓ)) cm (aₓ :: Pₓ) om gₓ := by
  obtain ⟨h1, h2, h3, h4, h5⟩ := hₓ
  unfold waM
  refine ⟨?_, ?_, ⟨⟨?_, haₓ⟩, h3.cg (fun jₓ hj => ?_)⟩, ?_, ?_⟩
  · unfold CMₓ at h1 ⊢
    rw [ms_at, if_neg (by omega), mset_ne _ _ _ (show 0 ≠ 18 by omega), mset_ne _ _ _ (show 16 ≠ 0 by omega), mset_ne _ _ _ (show 16 ≠ 18 by omega), mset_ne _ _ _ (show 17 ≠ 0 by omega), mset_ne _ _ _ (show 17 ≠ 18 by omega)]
    exact h1
  · rw [ms_at, if_pos ⟨rfl, rfl⟩, List.length_cons]
  · rw [mset_ne _ _ _ (by omega), mset_same, upd_same]
  · rw [mset_ne _ _ _ (by omega), mset_same, upd_ne _ _ (by omega)]
  · rw [ms_at, if_neg (by omega), mset_ne _ _ _ (by omega)]; exact h4
  · unfold LM at h5 ⊢
    rw [mset_ne _ _ _ (show 13 ≠ 0 by omega), mset_ne _ _ _ (show 13 ≠ 18 by omega), mset_ne _ _ _ (show 14 ≠ 0 by omega), mset_ne _ _ _ (show 14 ≠ 18 by omega), mset_ne _ _ _ (show 15 ≠ 0 by omega), mset_ne _ _ _ (show 15 ≠ 18 by omega)]
    exact h5
theorem waM_FM (T : Mem) (mₓ : Nat) (aₓ : Int32) : FM T (waM T mₓ aₓ) := (FM.s1 T _ (by omega)).tr (FM.s0 _ _ (by decide))
theorem waM_Tk (T : Mem) (mₓ : Nat) (aₓ : Int32) : TkM T (waM T mₓ aₓ) := (TkM.s T _ (by omega)).tr (TkM.s _ _ (by omega))
theorem settle_M {aₓ : Nat} {gₓ : Prg} {P0ₓ : List Nat} (haₓ : aₓ ≤ 12) (h0 : ∀ xₓ l, P0ₓ = xₓ :: l → xₓ ≠ aₓ) : ∀ (mₓ fₓ : Nat) (T : Mem) (cm : List (Nat × Nat)) (om : Nat), MSt T cm (List.replicate mₓ aₓ ++ P0ₓ) om gₓ → mₓ + P0ₓ.length < 40 → mₓ < fₓ → cm.length + mₓ ≤ 400 → (aₓ = 9 → mₓ ≤ om) → om < 100 → ∃ T', fX8_settles_0 fₓ T (nI aₓ) = some (nI 0, T') ∧ MSt T' (cm ++ List.replicate mₓ (aₓ, 0)) P0ₓ (if aₓ = 9 then om - mₓ else om) gₓ ∧ FM T T' ∧ TkM T T' := by
  intro mₓ
  induction mₓ with
  | zero =>
    intro fₓ T cm om hₓ hiₓ hf hcₓ hn ho
    obtain ⟨fₓ, rfl⟩ : ∃ gₓ, fₓ = gₓ + 1 := ⟨fₓ - 1, by omega⟩
    have h' : MSt T cm P0ₓ om gₓ := hₓ
    refine ⟨T, ?_, ?_, FM.rf T, TkM.rf T⟩
    · obtain ⟨-, h2, h3, -⟩ := h'
      show fX8_settles_0_b (fX8_settles_0 fₓ) T (nI aₓ) = _
      unfold fX8_settles_0_b
      rw [h2]
      cases hP : P0ₓ with
      | nil => rw [if_pos (show nI ([] : List Nat).length ≤ 0 by decide)]; rfl
      | cons xₓ l =>
        rw [hP] at h3 hiₓ
        rw [List.length_cons] at hiₓ
        have hx := h0 xₓ l hP
        obtain ⟨⟨e1ₓ, e2ₓ⟩, -⟩ := h3
        rw [List.length_cons, if_neg (show ¬ nI (l.length + 1) ≤ 0 by rw [le0_iff (by omega)]; omega), show (1 : Int32) = nI 1 from rfl, pk_sub (show 1 ≤ l.length + 1 by omega), show l.length + 1 - 1 = l.length by omega, gd_in _ (show l.length < 40 by omega) (by omega), nI_clamp (show l.length < 2 ^ 31 by omega), e1ₓ, if_neg (show ¬ nI xₓ = nI aₓ by rw [nI_eq (by omega) (by omega)]; exact hx)]
        rfl
    · rw [List.replicate_zero, List.append_nil, Nat.sub_zero, ite_self]; exact h'
  | succ mₓ ihₓ =>
    intro fₓ T cm om hₓ hiₓ hf hcₓ hn ho
    obtain ⟨fₓ, rfl⟩ : ∃ gₓ, fₓ = gₓ + 1 := ⟨fₓ - 1, by omega⟩
    have h' : MSt T cm (aₓ :: (List.replicate mₓ aₓ ++ P0ₓ)) om gₓ := hₓ
    have hl : (List.replicate mₓ aₓ ++ P0ₓ).length = mₓ + P0ₓ.length := by rw [List.length_append, List.length_replicate]
    obtain ⟨h1, h2, ⟨⟨e1ₓ, e2ₓ⟩, h3⟩, h4, h5⟩ := id h'
    rw [List.length_cons, hl] at h2
    rw [hl] at e1ₓ
    -- withoutₓ the one that is settledₓ
    have k1ₓ : MSt (mset T 0 31 (nI (mₓ + P0ₓ.length))) cm (List.replicate mₓ aₓ ++ P0ₓ) om gₓ := by
      refine ⟨?_, ?_, h3.cg (fun jₓ _ => by rw [mset_ne _ _ _ (by omega)]), ?_, ?_⟩
      · unfold CMₓ at h1 ⊢
        rw [ms_at, if_neg (by omega), mset_ne _ _ _ (show 16 ≠ 0 by omega), mset_ne _ _ _ (show 17 ≠ 0 by omega)]
        exact h1
      · rw [ms_at, if_pos ⟨rfl, rfl⟩, hl]
      · rw [ms_at, if_neg (by omega)]; exact h4
      · unfold LM at h5 ⊢
        rw [mset_ne _ _ _ (show 13 ≠ 0 by omega), mset_ne _ _ _ (show 14 ≠ 0 by omega), mset_ne _ _ _ (show 15 ≠ 0 by omega)]
        exact h5
    have k2ₓ := emM_st k1ₓ (aₓ, 0)
    have ee := emit_M (T := mset T 0 31 (nI (mₓ + P0ₓ.length))) (nI aₓ) (nI 0) (show cm.length < 400 by omega) k1ₓ.1.1
    have frₓ : FM T (emM (mset T 0 31 (nI (mₓ + P0ₓ.length))) cm.length (nI aₓ) (nI 0)) := (FM.s0 T _ (by decide)).tr (emM_FM _ _ _ _)
    have tk : TkM T (emM (mset T 0 31 (nI (mₓ + P0ₓ.length))) cm.length (nI aₓ) (nI 0)) := (TkM.s T _ (by omega)).tr (emM_Tk _ _ _ _)
    have k29 : emM (mset T 0 31 (nI (mₓ + P0ₓ.length))) cm.length (nI aₓ) (nI 0) 0 29 = nI om := k2ₓ.2.2.2.1
    have ea : cm ++ List.replicate (mₓ + 1) (aₓ, 0) = cm ++ [(aₓ, 0)] ++ List.replicate mₓ (aₓ, 0) := by rw [List.replicate_succ, List.append_assoc]; rfl
    have stepₓ : fX8_settles_0 (fₓ + 1) T (nI aₓ) = if nI aₓ = 9 then fX8_settles_0 fₓ (mset (emM (mset T 0 31 (nI (mₓ + P0ₓ.length))) cm.length (nI aₓ) (nI 0)) 0 29 (nI om - (1 : Int32))) (nI aₓ) else fX8_settles_0 fₓ (emM (mset T 0 31 (nI (mₓ + P0ₓ.length))) cm.length (nI aₓ) (nI 0)) (nI aₓ) := by
      show fX8_settles_0_b (fX8_settles_0 fₓ) T (nI aₓ) = _
      unfold fX8_settles_0_b
      have e1s : nI (mₓ + P0ₓ.length + 1) - (1 : Int32) = nI (mₓ + P0ₓ.length) := by rw [show (1 : Int32) = nI 1 from rfl, pk_sub (by omega)]; rfl
      rw [h2, if_neg (show ¬ nI (mₓ + P0ₓ.length + 1) ≤ 0 by rw [le0_iff (by omega)]; omega), e1s, gd_in _ (show mₓ + P0ₓ.length < 40 by omega) (by omega), nI_clamp (show mₓ + P0ₓ.length < 2 ^ 31 by omega), e1ₓ, if_pos rfl, ltm_e, show (0 : Int32) = nI 0 from rfl, ee, bnd_e, k29, ltm_e]
    rw [stepₓ, ea]
    by_cases a9 : aₓ = 9
    · rw [if_pos (show nI aₓ = 9 by rw [a9]; rfl)]
      have hmₓ := hn a9
      have eo : nI om - (1 : Int32) = nI (om - 1) := by rw [show (1 : Int32) = nI 1 from rfl, pk_sub (by omega)]
      rw [eo]
      have k3ₓ : MSt (mset (emM (mset T 0 31 (nI (mₓ + P0ₓ.length))) cm.length (nI aₓ) (nI 0)) 0 29 (nI (om - 1))) (cm ++ [(aₓ, 0)]) (List.replicate mₓ aₓ ++ P0ₓ) (om - 1) gₓ := by
        obtain ⟨q1ₓ, q2ₓ, q3ₓ, q4ₓ, q5ₓ⟩ := k2ₓ
        refine ⟨?_, ?_, q3ₓ.cg (fun jₓ _ => by rw [mset_ne _ _ _ (by omega)]), ?_, ?_⟩
        · unfold CMₓ at q1ₓ ⊢
          rw [ms_at, if_neg (by omega), mset_ne _ _ _ (show 16 ≠ 0 by omega), mset_ne _ _ _ (show 17 ≠ 0 by omega)]
          exact q1ₓ
        · rw [ms_at, if_neg (by omega)]; exact q2ₓ
        · rw [ms_at, if_pos ⟨rfl, rfl⟩]
        · unfold LM at q5ₓ ⊢
          rw [mset_ne _ _ _ (show 13 ≠ 0 by omega), mset_ne _ _ _ (show 14 ≠ 0 by omega), mset_ne _ _ _ (show 15 ≠ 0 by omega)]
          exact q5ₓ
      obtain ⟨T', t1ₓ, t2ₓ, t3ₓ, t4ₓ⟩ := ihₓ fₓ _ (cm ++ [(aₓ, 0)]) (om - 1) k3ₓ (by omega) (by omega) (by rw [List.length_append, List.length_singleton]; omega) (fun _ => by omega) (by omega)
      rw [if_pos a9] at t2ₓ ⊢
      refine ⟨T', t1ₓ, ?_, (frₓ.tr (FM.s0 _ _ (by decide))).tr t3ₓ, (tk.tr (TkM.s _ _ (by omega))).tr t4ₓ⟩
      rw [show om - (mₓ + 1) = om - 1 - mₓ by omega]; exact t2ₓ
    · rw [if_neg (show ¬ nI aₓ = 9 by rw [show (9 : Int32) = nI 9 from rfl, nI_eq (by omega) (by omega)]; exact a9)]
      obtain ⟨T', t1ₓ, t2ₓ, t3ₓ, t4ₓ⟩ := ihₓ fₓ _ (cm ++ [(aₓ, 0)]) om k2ₓ (by omega) (by omega) (by rw [List.length_append, List.length_singleton]; omega) (fun qₓ => absurd qₓ a9) ho
      rw [if_neg a9] at t2ₓ ⊢
      exact ⟨T', t1ₓ, t2ₓ, frₓ.tr t3ₓ, tk.tr t4ₓ⟩
