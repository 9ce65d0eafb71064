/-! text: products and sums -/
theorem oeta (xₓ : O) : (bnd xₓ fun rₓ Sₓ => some (rₓ, Sₓ)) = xₓ := by cases xₓ <;> rfl
theorem take_d {Sₓ : Mem} {dₓ : Nat} (hₓ : Sₓ 38 9 = nI dₓ) (hdₓ : dₓ ≤ 6) : fX3_take Sₓ = if dₓ = 0 then fX3_takeLine Sₓ else if dₓ = 1 then fX3_takeLineRest Sₓ else if dₓ = 2 then fX3_takeClaim Sₓ else if dₓ = 3 then fX3_takeUnit Sₓ else if dₓ = 4 then fX3_takeDivisor Sₓ else if dₓ = 5 then fX3_takeAfterUnit Sₓ else fX3_takeAfterClaim Sₓ := by
  unfold fX3_take
  rw [hₓ, oeta, oeta, oeta, oeta, oeta, oeta, oeta]
  obtain rfl | rfl | rfl | rfl | rfl | rfl | rfl : dₓ = 0 ∨ dₓ = 1 ∨ dₓ = 2 ∨ dₓ = 3 ∨ dₓ = 4 ∨ dₓ = 5 ∨ dₓ = 6 := by omega
  all_goals rfl
theorem oper_X {Sₓ : Mem} {cx : List (Nat × Nat)} {Dₓ W0ₓ : List Nat} {ox br aₓ : Nat} {gₓ : Prg} (hₓ : XSt Sₓ cx (Dₓ ++ W0ₓ) ox br gₓ) (haₓ : 2 ≤ aₓ ∧ aₓ ≤ 12) (h6 : Sₓ 38 6 = nI (xsg aₓ)) (hD : ∀ xₓ ∈ Dₓ, rk aₓ ≤ rk xₓ ∧ xₓ ≠ 12) (h0 : ∀ xₓ l, W0ₓ = xₓ :: l → rk xₓ < rk aₓ) (hl : (Dₓ ++ W0ₓ).length < 40) (hl2 : W0ₓ.length < 40) (hcₓ : cx.length + Dₓ.length ≤ 400) (hn : n9 Dₓ ≤ ox) (ho : ox < 100) (hr : rk aₓ ≤ 6) : ∃ S', fX3_takeOperator Sₓ = some (nI 0, S') ∧ XSt S' (cx ++ Dₓ.map (fun aₓ => (aₓ, 0))) (aₓ :: W0ₓ) (ox - n9 Dₓ) br gₓ ∧ FXₓ Sₓ S' ∧ ∀ jₓ, jₓ ≠ 13 → jₓ ≠ 14 → S' 38 jₓ = Sₓ 38 jₓ := by
  have hDl : Dₓ.length ≤ (Dₓ ++ W0ₓ).length := by rw [List.length_append]; omega
  obtain ⟨S1, s1ₓ, s2ₓ, s3ₓ⟩ := settle_X hr h0 Dₓ 0 FU Sₓ cx ox hₓ hD (by omega) (by unfold FU; omega) hcₓ hn ho
  have s1' : fX3_settleDownTo Sₓ (nI (rk aₓ)) = some (nI 0, S1) := s1ₓ
  have e6ₓ : S1 38 6 = nI (xsg aₓ) := by rw [s3ₓ.2.1 6 (by omega) (by omega)]; exact h6
  refine ⟨hoX S1 W0ₓ.length (nI (xsg aₓ)), ?_, hoX_st s2ₓ haₓ, s3ₓ.FX.tr (hoX_FX _ _ _), fun jₓ j1 j2ₓ => by rw [hoX_38 _ _ _ j1, s3ₓ.2.1 jₓ j1 j2ₓ]⟩
  unfold fX3_takeOperator
  rw [h6, rank_X Sₓ haₓ, bnd_e, s1', bnd_e, e6ₓ, hold_X _ hl2 s2ₓ.2.1, bnd_e]
  rfl
/-- an operator behind a unit -/
theorem tau_op {Sₓ S1 : Mem} {aₓ cₓ : Nat} (h9 : Sₓ 38 9 = nI 5) (h6 : Sₓ 38 6 = nI (xsg aₓ)) (haₓ : 2 ≤ aₓ ∧ aₓ ≤ 8) (h11 : Sₓ 38 11 = nI cₓ) (hcₓ : cₓ < 2) (hcmp : 6 ≤ aₓ → cₓ = 0) (ho : fX3_takeOperator (mset Sₓ 38 11 (nI (if 6 ≤ aₓ then 1 else cₓ))) = some (nI 0, S1)) (h16ₓ : S1 38 6 = nI (xsg aₓ)) : fX3_take Sₓ = some (nI 0, mset S1 38 9 (nI (if aₓ = 5 then 4 else 3))) := by
  rw [take_d h9 (by omega), if_neg (by omega), if_neg (by omega), if_neg (by omega), if_neg (by omega), if_neg (by omega), if_pos rfl]
  have g0 : ∀ xₓ : O, gd (isB (0 : Int32)) xₓ = xₓ := fun xₓ => rfl
  have g1 : ∀ xₓ : O, gd (isB (1 : Int32)) xₓ = xₓ := fun xₓ => rfl
  have z01 : ¬ nI 1 = nI 0 := by decide
  unfold fX3_takeAfterUnit fX3_takeAfterUnit_22 fX3_takeAfterUnit_23 fX3_takeAfterUnit_46 fX3_takeAfterUnit_47 fX3_takeAfterUnit_59 fX3_takeAfterUnit_63 fX3_takeAfterUnit_75 fX3_takeAfterUnit_80 fX3_takeAfterUnit_102
  rw [h6, h11, g0, g1, ltm_e, ltm_e]
  obtain rfl | rfl : cₓ = 0 ∨ cₓ = 1 := by omega
  · obtain rfl | rfl | rfl | rfl | rfl | rfl | rfl : aₓ = 2 ∨ aₓ = 3 ∨ aₓ = 4 ∨ aₓ = 5 ∨ aₓ = 6 ∨ aₓ = 7 ∨ aₓ = 8 := by omega
    all_goals
      have ho' := ho
      simp only [Nat.reduceLeDiff, if_true, if_false] at ho'
      simp only [show (0 : Int32) = nI 0 from rfl, show (1 : Int32) = nI 1 from rfl, ho', bnd_e, h16ₓ, ltm_e, ite_self]
      rfl
  · obtain rfl | rfl | rfl | rfl : aₓ = 2 ∨ aₓ = 3 ∨ aₓ = 4 ∨ aₓ = 5 := by
      rcases Nat.lt_or_ge aₓ 6 with qₓ | qₓ
      · omega
      · exact absurd (hcmp qₓ) (by omega)
    all_goals
      have ho' := ho
      simp only [Nat.reduceLeDiff, if_true, if_false] at ho'
      simp only [show (0 : Int32) = nI 0 from rfl, show (1 : Int32) = nI 1 from rfl, ho', bnd_e, h16ₓ, ltm_e, ite_self]
      rfl
/-! kinds -/
def Tyₓ (dₓ cm : List (Nat × Nat)) (stₓ : List Nat) : Prop := ∃ Lₓ, cm = dₓ ++ Lₓ ∧ tyR [] Lₓ = some stₓ
theorem tyR_app : ∀ (l : List (Nat × Nat)) (stₓ : List Nat) (cₓ : Nat × Nat), tyR stₓ (l ++ [cₓ]) = (tyR stₓ l).bind (fun sₓ => tyS sₓ cₓ) := by
  intro l
  induction l with
  | nil =>
    intro stₓ cₓ
    show (tyS stₓ cₓ).bind (fun st' => some st') = tyS stₓ cₓ
    cases tyS stₓ cₓ <;> rfl
  | cons qₓ l ihₓ =>
    intro stₓ cₓ
    show (tyS stₓ qₓ).bind (fun st' => tyR st' (l ++ [cₓ])) = ((tyS stₓ qₓ).bind (fun st' => tyR st' l)).bind (fun sₓ => tyS sₓ cₓ)
    cases tyS stₓ qₓ with
    | none => rfl
    | some sₓ => exact ihₓ sₓ cₓ
theorem Tyₓ.add {dₓ cm : List (Nat × Nat)} {stₓ st' : List Nat} {cₓ : Nat × Nat} (hₓ : Tyₓ dₓ cm stₓ) (hcₓ : tyS stₓ cₓ = some st') : Tyₓ dₓ (cm ++ [cₓ]) st' := by
  obtain ⟨Lₓ, rfl, h2⟩ := hₓ
  refine ⟨Lₓ ++ [cₓ], by rw [List.append_assoc], ?_⟩
  rw [tyR_app, h2]
  exact hcₓ
theorem ty_unit {kₓ numₓ : Nat} {stₓ : List Nat} (hU : isU kₓ) (hn : kₓ = 28 → numₓ < 10000) (hs : stₓ.length < 30) : ∃ tₓ, tₓ ≠ 1 ∧ (kₓ = 28 → numₓ ≠ 0 → tₓ = 2) ∧ tyS stₓ (uC kₓ numₓ) = some (tₓ :: stₓ) := by
  unfold uC
  by_cases cₓ : kₓ = 28
  · rw [if_pos cₓ]
    refine ⟨if numₓ = 0 then 0 else 2, by split <;> omega, fun _ qₓ => if_neg qₓ, ?_⟩
    show (if numₓ < 10000 ∧ stₓ.length < 30 then some ((if numₓ = 0 then 0 else 2) :: stₓ) else none) = _
    rw [if_pos ⟨hn cₓ, hs⟩]
  · rw [if_neg cₓ]
    refine ⟨0, by omega, fun qₓ => absurd qₓ cₓ, ?_⟩
    show (if kₓ - 8 < 10 ∧ stₓ.length < 30 then some (0 :: stₓ) else none) = _
    rw [if_pos ⟨by have := hU.resolve_left cₓ; omega, hs⟩]
theorem ty_ar {aₓ xₓ yₓ : Nat} {stₓ : List Nat} (haₓ : aₓ = 2 ∨ aₓ = 3 ∨ aₓ = 4 ∨ (aₓ = 5 ∧ yₓ = 2)) (hx : xₓ ≠ 1) (hy : yₓ ≠ 1) : tyS (yₓ :: xₓ :: stₓ) (aₓ, 0) = some (0 :: stₓ) := by
  rcases haₓ with rfl | rfl | rfl | ⟨rfl, rfl⟩
  · show (if xₓ ≠ 1 ∧ yₓ ≠ 1 then some (0 :: stₓ) else none) = _; rw [if_pos ⟨hx, hy⟩]
  · show (if xₓ ≠ 1 ∧ yₓ ≠ 1 then some (0 :: stₓ) else none) = _; rw [if_pos ⟨hx, hy⟩]
  · show (if xₓ ≠ 1 ∧ yₓ ≠ 1 then some (0 :: stₓ) else none) = _; rw [if_pos ⟨hx, hy⟩]
  · show (if xₓ ≠ 1 ∧ (2 : Nat) = 2 then some (0 :: stₓ) else none) = _; rw [if_pos ⟨hx, rfl⟩]
theorem ty_cp {aₓ xₓ yₓ : Nat} {stₓ : List Nat} (haₓ : aₓ = 6 ∨ aₓ = 7 ∨ aₓ = 8) (hx : xₓ ≠ 1) (hy : yₓ ≠ 1) : tyS (yₓ :: xₓ :: stₓ) (aₓ, 0) = some (1 :: stₓ) := by
  rcases haₓ with rfl | rfl | rfl
  all_goals
    show (if xₓ ≠ 1 ∧ yₓ ≠ 1 then some (1 :: stₓ) else none) = _
    rw [if_pos ⟨hx, hy⟩]
def mpₓ (Dₓ : List Nat) : List (Nat × Nat) := Dₓ.map (fun aₓ => (aₓ, 0))
/-- at the head of a loop over a sum's or a product's parts -/
def AU (nₓ : Nat) (bₓ : Nat → Nat) (dₓ : List (Nat × Nat)) (cₓ : Nat) (Dₓ W0ₓ : List Nat) (ox br : Nat) (gₓ : Prg) (Pₓ : List Nat) (om : Nat) (stₓ : List Nat) (Sₓ T : Mem) (fₓ iₓ kₓ pₓ eₓ numₓ : Nat) : Prop := ∃ cx tₓ, Rn nₓ bₓ Sₓ T fₓ iₓ kₓ pₓ eₓ numₓ cx (Dₓ ++ W0ₓ) ox br gₓ (cx ++ mpₓ Dₓ) Pₓ om ∧ Sₓ 38 9 = nI 5 ∧ Sₓ 38 11 = nI cₓ ∧ tₓ ≠ 1 ∧ Tyₓ dₓ (cx ++ mpₓ Dₓ) (tₓ :: stₓ)
theorem Rn.len {nₓ : Nat} {bₓ : Nat → Nat} {Sₓ T : Mem} {fₓ iₓ kₓ pₓ eₓ numₓ : Nat} {cx : List (Nat × Nat)} {W : List Nat} {ox br : Nat} {gₓ : Prg} {cm : List (Nat × Nat)} {Pₓ : List Nat} {om : Nat} (hₓ : Rn nₓ bₓ Sₓ T fₓ iₓ kₓ pₓ eₓ numₓ cx W ox br gₓ cm Pₓ om) : cm.length ≤ 400 ∧ cx.length + W.length ≤ nₓ ∧ nₓ ≤ 400 := by
  obtain ⟨h1, ⟨-, q2ₓ, -⟩, -, -, -, -, h7, h8⟩ := hₓ
  have := h1.1
  omega
/-- the reference writes an operator down that the class still holds -/
theorem Rn.em {nₓ : Nat} {bₓ : Nat → Nat} {Sₓ T : Mem} {fₓ iₓ kₓ pₓ eₓ numₓ : Nat} {cx : List (Nat × Nat)} {W : List Nat} {ox br : Nat} {gₓ : Prg} {cm : List (Nat × Nat)} {Pₓ : List Nat} {om aₓ : Nat} (hₓ : Rn nₓ bₓ Sₓ T fₓ iₓ kₓ pₓ eₓ numₓ cx W ox br gₓ cm Pₓ om) (hl : cm.length + 1 ≤ cx.length + W.length) : fX8_emits T (nI aₓ) (nI 0) = some (nI 0, emM T cm.length (nI aₓ) (nI 0)) ∧ Rn nₓ bₓ Sₓ (emM T cm.length (nI aₓ) (nI 0)) fₓ iₓ kₓ pₓ eₓ numₓ cx W ox br gₓ (cm ++ [(aₓ, 0)]) Pₓ om := by
  have hlen := hₓ.len
  obtain ⟨h1, h2, h3, h4, h5, h6, h7, h8⟩ := hₓ
  refine ⟨emit_M _ _ (by omega) h6.1.1, ?_⟩
  obtain ⟨k1ₓ, k2ₓ, k3ₓ, k4ₓ⟩ := emM_Tk T cm.length (nI aₓ) (nI 0)
  have Fₓ := emM_FM T cm.length (nI aₓ) (nI 0)
  refine ⟨h1.m (Fₓ.2.1 16 (by decide)) (Fₓ.1 11 (by decide)) (Fₓ.1 12 (by decide)), ?_, h3, h4, h5, emM_st h6 (aₓ, 0), by rw [List.length_append, List.length_singleton]; exact hl, h8⟩
  unfold Tk at h2 ⊢
  rw [k1ₓ, k2ₓ, k3ₓ, k4ₓ]
  exact h2
theorem Resₓ.mono {Sₓ T : Mem} {oX oM : O} {Qₓ Q'ₓ : Mem → Mem → Nat → Nat → Nat → Nat → Nat → Nat → Prop} (hₓ : Resₓ Sₓ T oX oM Qₓ) (hq : ∀ S' T' fₓ iₓ kₓ pₓ eₓ numₓ, Qₓ S' T' fₓ iₓ kₓ pₓ eₓ numₓ → Q'ₓ S' T' fₓ iₓ kₓ pₓ eₓ numₓ) : Resₓ Sₓ T oX oM Q'ₓ := by
  rcases hₓ with hₓ | ⟨S', T', fₓ, iₓ, kₓ, pₓ, eₓ, numₓ, aₓ, bₓ, cₓ, dₓ, e', qₓ⟩
  · exact Or.inl hₓ
  · exact Or.inr ⟨S', T', fₓ, iₓ, kₓ, pₓ, eₓ, numₓ, aₓ, bₓ, cₓ, dₓ, e', hq _ _ _ _ _ _ _ _ qₓ⟩
theorem prod_loop {nₓ : Nat} {bₓ : Nat → Nat} {dₓ : List (Nat × Nat)} {cₓ ox br om : Nat} {gₓ : Prg} {W0ₓ Pₓ stₓ : List Nat} (hc2 : cₓ < 2) (hW0 : ∀ xₓ l, W0ₓ = xₓ :: l → rk xₓ < 6) (hWl : W0ₓ.length ≤ 34) (ho : ox < 100) (hst : stₓ.length < 28) : ∀ (gf : Nat) (Sₓ T : Mem) (fₓ iₓ kₓ pₓ eₓ numₓ : Nat) (Eₓ : List Nat), nₓ - pₓ < gf → (Eₓ = [] ∨ Eₓ = [4] ∨ Eₓ = [5]) → AU nₓ bₓ dₓ cₓ Eₓ W0ₓ ox br gₓ Pₓ om stₓ Sₓ T fₓ iₓ kₓ pₓ eₓ numₓ → Resₓ Sₓ T (XT fₓ Sₓ iₓ) (fX8_readProduct_10 gf T) (fun S' T' f' i' k' p' e' num' => ∃ E'ₓ, (E'ₓ = [] ∨ E'ₓ = [4] ∨ E'ₓ = [5]) ∧ AU nₓ bₓ dₓ cₓ E'ₓ W0ₓ ox br gₓ Pₓ om stₓ S' T' f' i' k' p' e' num' ∧ k' ≠ 21 ∧ k' ≠ 22 ∧ pₓ ≤ p') := by
  intro gf
  induction gf with
  | zero => intro Sₓ T fₓ iₓ kₓ pₓ eₓ numₓ Eₓ hₓ; omega
  | succ gf ihₓ =>
    intro Sₓ T fₓ iₓ kₓ pₓ eₓ numₓ Eₓ hg hE hA
    obtain ⟨cx, tₓ, hR, h9, h11, ht, hTy⟩ := id hA
    have hlen := hR.len
    obtain ⟨h1, h2, h3, h4, h5, h6, h7, h8⟩ := id hR
    obtain ⟨-, q2ₓ, q3ₓ, q4ₓ, q5ₓ, q6ₓ, q7ₓ, q8ₓ, q9ₓ, q10ₓ, -⟩ := id h2
    have s42 := sgn_M h2 (show 3 < 10 by omega)
    have s47 := sgn_M h2 (show 4 < 10 by omega)
    have s42' : fX8_isSign T (42 : Int32) = some (if kₓ = 21 then nI 1 else nI 0, T) := s42
    have s47' : fX8_isSign T (47 : Int32) = some (if kₓ = 22 then nI 1 else nI 0, T) := s47
    show Resₓ Sₓ T (XT fₓ Sₓ iₓ) (fX8_readProduct_10_b (fX8_readProduct_10 gf) T) _
    by_cases hop : kₓ = 21 ∨ kₓ = 22
    · -- an operator
      obtain ⟨aₓ, haₓ, hak⟩ : ∃ aₓ, (aₓ = 4 ∨ aₓ = 5) ∧ xsg aₓ = kₓ := by
        rcases hop with qₓ | qₓ
        · exact ⟨4, Or.inl rfl, qₓ.symm⟩
        · exact ⟨5, Or.inr rfl, qₓ.symm⟩
      have rka : rk aₓ = 6 := by rcases haₓ with rfl | rfl <;> rfl
      have hEl : Eₓ.length ≤ 1 := by rcases hE with rfl | rfl | rfl <;> decide
      have hn9 : n9 Eₓ = 0 := by rcases hE with rfl | rfl | rfl <;> rfl
      have hDE : ∀ xₓ ∈ Eₓ, rk aₓ ≤ rk xₓ ∧ xₓ ≠ 12 := by
        rw [rka]
        rcases hE with rfl | rfl | rfl <;> decide
      have k29 : kₓ ≠ 29 := by omega
      have hEW : (Eₓ ++ W0ₓ).length = Eₓ.length + W0ₓ.length := List.length_append
      have h5' : XSt (mset Sₓ 38 11 (nI (if 6 ≤ aₓ then 1 else cₓ))) cx (Eₓ ++ W0ₓ) ox br gₓ := h5.cg rfl rfl rfl rfl rfl (by rw [ms_at, if_neg (by omega)]) (by rw [ms_at, if_neg (by omega)]) (by rw [ms_at, if_neg (by omega)])
      obtain ⟨S1, o1, o2, o3ₓ, o4ₓ⟩ := oper_X h5' (by omega) (by rw [ms_at, if_neg (by omega), q8ₓ, hak]) hDE (by rw [rka]; exact hW0) (by omega) (by omega) (by rw [hEW] at hlen; omega) (by omega) ho (by omega)
      have e6ₓ : S1 38 6 = nI (xsg aₓ) := by rw [o4ₓ 6 (by omega) (by omega), ms_at, if_neg (by omega), q8ₓ, hak]
      have tk := tau_op h9 (q8ₓ.trans (by rw [hak])) (by omega) h11 hc2 (fun qₓ => by omega) o1 e6ₓ
      rw [hn9, Nat.sub_zero] at o2
      have hX5 : XSt (mset S1 38 9 (nI (if aₓ = 5 then 4 else 3))) (cx ++ mpₓ Eₓ) (aₓ :: W0ₓ) ox br gₓ := o2.cg rfl rfl rfl rfl rfl (by rw [ms_at, if_neg (by omega)]) (by rw [ms_at, if_neg (by omega)]) (by rw [ms_at, if_neg (by omega)])
      have FX5 : FXₓ Sₓ (mset S1 38 9 (nI (if aₓ = 5 then 4 else 3))) := ((FXₓ.put Sₓ _ (by decide)).tr o3ₓ).tr (FXₓ.put _ _ (by decide))
      have r5ₓ : ∀ jₓ, jₓ ≠ 9 → jₓ ≠ 11 → jₓ ≠ 13 → jₓ ≠ 14 → (mset S1 38 9 (nI (if aₓ = 5 then 4 else 3))) 38 jₓ = Sₓ 38 jₓ := fun jₓ a1ₓ a2 a3 a4 => by rw [ms_at, if_neg (by omega), o4ₓ jₓ a3 a4, ms_at, if_neg (by omega)]
      have hT5 : Tp nₓ bₓ (mset S1 38 9 (nI (if aₓ = 5 then 4 else 3))) T := h1.x (r5ₓ 1 (by omega) (by omega) (by omega) (by omega)) (FX5 39 (by decide))
      have lmp : (mpₓ Eₓ).length = Eₓ.length := by unfold mpₓ; rw [List.length_map]
      have hcl : (cx ++ mpₓ Eₓ).length = cx.length + Eₓ.length := by rw [List.length_append, lmp]
      obtain ⟨S2, T2, f2ₓ, k2ₓ, p2ₓ, e2ₓ, num2, z1, z2, z3, z4, z5, z6, z7⟩ := Rn.go hT5 h2 h3 h4 k29 tk (r5ₓ 5 (by omega) (by omega) (by omega) (by omega)) (r5ₓ 6 (by omega) (by omega) (by omega) (by omega)) rfl hX5 h6 (by rw [List.length_cons]; omega) (by rw [hcl, List.length_cons]; rw [hEW] at h8; omega)
      have d9ₓ : S2 38 9 = nI (if aₓ = 5 then 4 else 3) := by rw [z5 9 (by omega) (by omega) (by omega) (by omega) (by omega), ms_at, if_pos ⟨rfl, rfl⟩]
      have d11ₓ : S2 38 11 = nI cₓ := by
        rw [z5 11 (by omega) (by omega) (by omega) (by omega) (by omega), ms_at, if_neg (by omega), o4ₓ 11 (by omega) (by omega), ms_at, if_pos ⟨rfl, rfl⟩, if_neg (by omega)]
      have d10ₓ : (S2 38 10, S2 38 3) = (Sₓ 38 10, Sₓ 38 3) := by rw [z5 10 (by omega) (by omega) (by omega) (by omega) (by omega), r5ₓ 10 (by omega) (by omega) (by omega) (by omega), z5 3 (by omega) (by omega) (by omega) (by omega) (by omega), r5ₓ 3 (by omega) (by omega) (by omega) (by omega)]
      have F2 : FXₓ Sₓ S2 := FX5.tr z3
      obtain ⟨w1ₓ, w2ₓ, w3ₓ, w4ₓ, w5, w6ₓ, w7ₓ, w8⟩ := id z7
      obtain ⟨-, y2, y3, y4, y5, y6, y7, y8, y9, y10, y11, y12, y13, y14, y15⟩ := id w2ₓ
      -- the reference's wayₓ toₓ readProduct_57
      have mM : fX8_readProduct_10_b (fX8_readProduct_10 gf) T = (if aₓ = 5 then (if (T2 0 19) = (3 : Int32) then fX8_readProduct_57 (fX8_readProduct_10 gf) T2 (nI 0) else fX8_errs T2 (nI 1)) else fX8_readProduct_57 (fX8_readProduct_10 gf) T2 (nI 1)) := by
        unfold fX8_readProduct_10_b fX8_readProduct_28
        rw [s42', bnd_e]
        rcases haₓ with rfl | rfl
        · have hk : kₓ = 21 := hak.symm
          rw [if_pos hk, if_neg (show ¬ nI 1 = 0 by decide), s42', bnd_e, if_pos hk, z2, bnd_e, if_neg (show ¬ nI 1 = 0 by decide), if_neg (by omega)]
        · have hk : kₓ = 22 := hak.symm
          rw [if_neg (show ¬ kₓ = 21 by omega), if_pos (show nI 0 = 0 from rfl), s47', bnd_e, if_pos hk, if_neg (show ¬ nI 1 = 0 by decide), s42', bnd_e, if_neg (show ¬ kₓ = 21 by omega), z2, bnd_e, if_pos (show nI 0 = 0 from rfl), if_pos rfl, oeta]
          rfl
      rw [mM, z1]
      -- the unitₓ and what follows
      have finₓ : fX3_take S2 = fX3_takeUnit S2 → (aₓ = 5 → k2ₓ = 28 ∧ num2 ≠ 0) → (∃ xₓ : Int32, (xₓ = 0 ↔ aₓ = 5) ∧ (if aₓ = 5 then (if (T2 0 19) = (3 : Int32) then fX8_readProduct_57 (fX8_readProduct_10 gf) T2 (nI 0) else fX8_errs T2 (nI 1)) else fX8_readProduct_57 (fX8_readProduct_10 gf) T2 (nI 1)) = fX8_readProduct_74 (fX8_readProduct_10 gf) T2 xₓ) → Resₓ Sₓ T (XT f2ₓ S2 (iₓ + 1)) (if aₓ = 5 then (if (T2 0 19) = (3 : Int32) then fX8_readProduct_57 (fX8_readProduct_10 gf) T2 (nI 0) else fX8_errs T2 (nI 1)) else fX8_readProduct_57 (fX8_readProduct_10 gf) T2 (nI 1)) (fun S' T' f' i' k' p' e' num' => ∃ E'ₓ, (E'ₓ = [] ∨ E'ₓ = [4] ∨ E'ₓ = [5]) ∧ AU nₓ bₓ dₓ cₓ E'ₓ W0ₓ ox br gₓ Pₓ om stₓ S' T' f' i' k' p' e' num' ∧ k' ≠ 21 ∧ k' ≠ 22 ∧ pₓ ≤ p') := by
        rintro htu h28 ⟨xₓ, hx, hmₓ⟩
        rw [hmₓ]
        unfold fX8_readProduct_74
        rcases unit_both z7 htu with ⟨rₓ, pe, T3, r1ₓ, r2, m1ₓ, m2ₓ, m3ₓ, m4ₓ, m5ₓ⟩ | ⟨S3, T3, f3ₓ, i3ₓ, k3ₓ, p3ₓ, e3ₓ, num3, m1ₓ, m2ₓ, m3ₓ, m4ₓ, m5ₓ, hU, hR3, m6ₓ, m7ₓ, m8ₓ⟩
        · refine Or.inl ⟨rₓ, pe, T3, r1ₓ, r2, ?_, z4.tr m2ₓ, m3ₓ, m4ₓ, m5ₓ.to F2⟩
          rw [m1ₓ, bnd_e, if_pos (show -nI 1 = -1 from rfl)]
          rfl
        · obtain ⟨t2ₓ, t21, t22, t23⟩ := ty_unit (stₓ := tₓ :: stₓ) hU (fun qₓ => (y15 qₓ).2.2.2) (by rw [List.length_cons]; omega)
          have hTy2 := hTy.add t23
          have lcm : (cx ++ mpₓ Eₓ ++ [uC k2ₓ num2]).length = cx.length + Eₓ.length + 1 := by rw [List.length_append, hcl, List.length_singleton]
          obtain ⟨em1, em2⟩ := hR3.em (aₓ := aₓ) (by rw [lcm, List.length_cons]; omega)
          have hTy3 := hTy2.add (ty_ar (aₓ := aₓ) (xₓ := tₓ) (yₓ := t2ₓ) (stₓ := stₓ) (by
            rcases haₓ with qₓ | qₓ
            · omega
            · exact Or.inr (Or.inr (Or.inr ⟨qₓ, t22 (h28 qₓ).1 (h28 qₓ).2⟩))) ht t21)
          have hA3 : AU nₓ bₓ dₓ cₓ [aₓ] W0ₓ ox br gₓ Pₓ om stₓ S3 (emM T3 (cx ++ mpₓ Eₓ ++ [uC k2ₓ num2]).length (nI aₓ) (nI 0)) f3ₓ i3ₓ k3ₓ p3ₓ e3ₓ num3 := ⟨cx ++ mpₓ Eₓ ++ [uC k2ₓ num2], 0, em2, m6ₓ, m7ₓ.trans d11ₓ, by omega, hTy3⟩
          have hz := ihₓ S3 _ f3ₓ i3ₓ k3ₓ p3ₓ e3ₓ num3 [aₓ] (by omega) (by rcases haₓ with rfl | rfl; exact Or.inr (Or.inl rfl); exact Or.inr (Or.inr rfl)) hA3
          have fm : FM T (emM T3 (cx ++ mpₓ Eₓ ++ [uC k2ₓ num2]).length (nI aₓ) (nI 0)) := (z4.tr m2ₓ).tr (emM_FM _ _ _ _)
          have eMₓ : (bnd (fX8_readUnit T2) fun r_1 S_2 => (if r_1 = (-1 : Int32) then some ((-1 : Int32), S_2) else (if xₓ = 0 then fX8_readProduct_94 (fX8_readProduct_10 gf) S_2 (5 : Int32) else fX8_readProduct_94 (fX8_readProduct_10 gf) S_2 (4 : Int32)))) = fX8_readProduct_10 gf (emM T3 (cx ++ mpₓ Eₓ ++ [uC k2ₓ num2]).length (nI aₓ) (nI 0)) := by
            unfold fX8_readProduct_94
            rw [m1ₓ, bnd_e, if_neg (show ¬ nI 0 = -1 by decide)]
            rcases haₓ with rfl | rfl
            · rw [if_neg (show ¬ xₓ = 0 from fun qₓ => by have := hx.1 qₓ; omega), show (4 : Int32) = nI 4 from rfl, show (0 : Int32) = nI 0 from rfl, em1, bnd_e]
            · rw [if_pos (show xₓ = 0 from hx.2 rfl), show (5 : Int32) = nI 5 from rfl, show (0 : Int32) = nI 0 from rfl, em1, bnd_e]
          rw [eMₓ, m5ₓ]
          rcases hz with ⟨rₓ, pe, T4, r1ₓ, r2, u1ₓ, u2ₓ, u3, u4ₓ, u5⟩ | ⟨S4, T4, f4ₓ, i4ₓ, k4ₓ, p4ₓ, e4ₓ, num4, u1ₓ, u2ₓ, u3, u4ₓ, u5, E'ₓ, v1ₓ, v2, v3, v4ₓ, v5⟩
          · exact Or.inl ⟨rₓ, pe, T4, r1ₓ, r2, u1ₓ, fm.tr u2ₓ, u3, u4ₓ, u5.to (F2.tr m3ₓ)⟩
          · exact Or.inr ⟨S4, T4, f4ₓ, i4ₓ, k4ₓ, p4ₓ, e4ₓ, num4, u1ₓ, fm.tr u2ₓ, (F2.tr m3ₓ).tr u3, u4ₓ.trans (m4ₓ.trans d10ₓ), u5, E'ₓ, v1ₓ, v2, v3, v4ₓ, by omega⟩
      rcases haₓ with rfl | rfl
      · have d9' : S2 38 9 = nI 3 := d9ₓ
        refine finₓ ((take_d d9' (by omega)).trans (by rfl)) (fun qₓ => absurd qₓ (by omega)) ⟨nI 1, ⟨fun qₓ => absurd qₓ (by decide), fun qₓ => absurd qₓ (by omega)⟩, ?_⟩
        rw [if_neg (by omega)]
        unfold fX8_readProduct_57
        rw [if_neg (show ¬ nI 1 = 0 by decide)]
      · have d9' : S2 38 9 = nI 4 := d9ₓ
        have hdv : fX3_take S2 = fX3_takeDivisor S2 := (take_d d9' (by omega)).trans (by rfl)
        by_cases k28 : k2ₓ = 28
        · obtain ⟨a1ₓ, a2, a3, a4⟩ := y15 k28
          have e28ₓ : S2 38 6 = nI 28 := by rw [y8, k28]
          by_cases n0ₓ : num2 = 0
          · -- aₓ divisor 0
            have tx : fX3_take S2 = some (nI 2, S2) := by
              rw [hdv]
              unfold fX3_takeDivisor
              rw [e28ₓ, if_pos (show nI 28 = 28 from rfl), a3, if_pos (by rw [n0ₓ]; rfl)]
              rfl
            have er : (if (5 : Nat) = 5 then (if (T2 0 19) = (3 : Int32) then fX8_readProduct_57 (fX8_readProduct_10 gf) T2 (nI 0) else fX8_errs T2 (nI 1)) else fX8_readProduct_57 (fX8_readProduct_10 gf) T2 (nI 1)) = fX8_errs T2 (nI 2) := by
              unfold fX8_readProduct_57
              rw [if_pos rfl, a1ₓ, if_pos (show nI 3 = 3 from rfl), if_pos (show nI 0 = 0 from rfl), a2, if_pos (by rw [n0ₓ]; rfl), oeta]
              rfl
            rcases Resₓ.err (Qₓ := fun _ _ _ _ _ _ _ _ => True) w2ₓ (show 1 ≤ 2 ∧ 2 ≤ 3 by omega) er (XT_err (fₓ := f2ₓ) (iₓ := iₓ + 1) tx (by omega) y6 (FXₓ.rf S2)) with ⟨rₓ, pe, T3, r1ₓ, r2, m1ₓ, m2ₓ, m3ₓ, m4ₓ, m5ₓ⟩ | ⟨_, _, _, _, _, _, _, _, m1ₓ, _⟩
            · exact Or.inl ⟨rₓ, pe, T3, r1ₓ, r2, m1ₓ, z4.tr m2ₓ, m3ₓ, m4ₓ, m5ₓ.to F2⟩
            · rw [er, errs_M y7] at m1ₓ
              have qₓ : (-nI 1 : Int32) = nI 0 := congrArg Prod.fst (Option.some.inj m1ₓ)
              exact absurd qₓ (by decide)
          · refine finₓ ?_ (fun _ => ⟨k28, n0ₓ⟩) ⟨nI 0, ⟨fun _ => rfl, fun _ => rfl⟩, ?_⟩
            · rw [hdv]
              unfold fX3_takeDivisor
              rw [e28ₓ, if_pos (show nI 28 = 28 from rfl), a3, if_neg (show ¬ nI num2 = 0 by rw [show (0 : Int32) = nI 0 from rfl, nI_eq (by omega) (by omega)]; exact n0ₓ), oeta]
            · unfold fX8_readProduct_57
              rw [if_pos rfl, a1ₓ, if_pos (show nI 3 = 3 from rfl), if_pos (show nI 0 = 0 from rfl), a2, if_neg (show ¬ nI num2 = 0 by rw [show (0 : Int32) = nI 0 from rfl, nI_eq (by omega) (by omega)]; exact n0ₓ)]
        · have tx : fX3_take S2 = some (nI 1, S2) := by
            rw [hdv]
            unfold fX3_takeDivisor
            rw [y8, if_neg (show ¬ nI k2ₓ = 28 by rw [show (28 : Int32) = nI 28 from rfl, nI_eq (by omega) (by omega)]; exact k28)]
            rfl
          have n3ₓ : ¬ T2 0 19 = 3 := by
            rcases (show k2ₓ < 18 ∨ (18 ≤ k2ₓ ∧ k2ₓ < 28) ∨ k2ₓ = 29 ∨ k2ₓ = 30 by omega) with qₓ | qₓ | qₓ | qₓ
            · rw [(y13 qₓ).1]; decide
            · rw [(y14 qₓ.1 qₓ.2).1]; decide
            · rw [y11 qₓ]; decide
            · rw [y12 qₓ]; decide
          have er : (if (5 : Nat) = 5 then (if (T2 0 19) = (3 : Int32) then fX8_readProduct_57 (fX8_readProduct_10 gf) T2 (nI 0) else fX8_errs T2 (nI 1)) else fX8_readProduct_57 (fX8_readProduct_10 gf) T2 (nI 1)) = fX8_errs T2 (nI 1) := by
            rw [if_pos rfl, if_neg n3ₓ]
          rcases Resₓ.err (Qₓ := fun _ _ _ _ _ _ _ _ => True) w2ₓ (show 1 ≤ 1 ∧ 1 ≤ 3 by omega) er (XT_err (fₓ := f2ₓ) (iₓ := iₓ + 1) tx (by omega) y6 (FXₓ.rf S2)) with ⟨rₓ, pe, T3, r1ₓ, r2, m1ₓ, m2ₓ, m3ₓ, m4ₓ, m5ₓ⟩ | ⟨_, _, _, _, _, _, _, _, m1ₓ, _⟩
          · exact Or.inl ⟨rₓ, pe, T3, r1ₓ, r2, m1ₓ, z4.tr m2ₓ, m3ₓ, m4ₓ, m5ₓ.to F2⟩
          · rw [er, errs_M y7] at m1ₓ
            have qₓ : (-nI 1 : Int32) = nI 0 := congrArg Prod.fst (Option.some.inj m1ₓ)
            exact absurd qₓ (by decide)
    · -- the end of the product
      refine Or.inr ⟨Sₓ, T, fₓ, iₓ, kₓ, pₓ, eₓ, numₓ, ?_, FM.rf T, FXₓ.rf Sₓ, rfl, rfl, Eₓ, hE, hA, by omega, by omega, Nat.le_refl pₓ⟩
      unfold fX8_readProduct_10_b
      rw [s42', bnd_e, if_neg (show ¬ kₓ = 21 by omega), if_pos (show nI 0 = 0 from rfl), s47', bnd_e, if_neg (show ¬ kₓ = 22 by omega), if_pos (show nI 0 = 0 from rfl)]
      rfl
