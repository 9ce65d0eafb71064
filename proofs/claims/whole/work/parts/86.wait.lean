/-! text: what may wait -/
def nbP : List Nat → Nat
  | [] => 0
  | xₓ :: l => (if xₓ = 12 then 1 else 0) + nbP l
def noP : List Nat → Nat
  | [] => 0
  | xₓ :: l => (if xₓ = 9 ∨ xₓ = 12 then 1 else 0) + noP l
def nkP : List Nat → Nat
  | [] => 0
  | xₓ :: l => (if xₓ = 10 ∨ xₓ = 11 then 1 else 0) + nkP l
def okP : List Nat → Prop
  | [] => True
  | xₓ :: l => (9 ≤ xₓ ∧ xₓ ≤ 12 ∧ (xₓ = 10 → 11 ≤ l.headD 12) ∧ (xₓ = 11 → l.headD 12 = 12)) ∧ okP l
theorem c9ₓ (l : List Nat) : noP (9 :: l) = 1 + noP l ∧ nkP (9 :: l) = 0 + nkP l ∧ nbP (9 :: l) = 0 + nbP l ∧ n9 (9 :: l) = 1 + n9 l := ⟨rfl, rfl, rfl, rfl⟩
theorem c10ₓ (l : List Nat) : noP (10 :: l) = 0 + noP l ∧ nkP (10 :: l) = 1 + nkP l ∧ nbP (10 :: l) = 0 + nbP l ∧ n9 (10 :: l) = 0 + n9 l := ⟨rfl, rfl, rfl, rfl⟩
theorem c11ₓ (l : List Nat) : noP (11 :: l) = 0 + noP l ∧ nkP (11 :: l) = 1 + nkP l ∧ nbP (11 :: l) = 0 + nbP l ∧ n9 (11 :: l) = 0 + n9 l := ⟨rfl, rfl, rfl, rfl⟩
theorem c12ₓ (l : List Nat) : noP (12 :: l) = 1 + noP l ∧ nkP (12 :: l) = 0 + nkP l ∧ nbP (12 :: l) = 1 + nbP l ∧ n9 (12 :: l) = 0 + n9 l := ⟨rfl, rfl, rfl, rfl⟩
theorem okP_len : ∀ Pₓ, okP Pₓ → Pₓ.length ≤ 3 * noP Pₓ + 2 ∧ (11 ≤ Pₓ.headD 12 → Pₓ.length ≤ 3 * noP Pₓ + 1) ∧ (Pₓ.headD 12 = 12 ∨ Pₓ.headD 12 = 9 → Pₓ.length ≤ 3 * noP Pₓ) ∧ Pₓ.length = noP Pₓ + nkP Pₓ ∧ nbP Pₓ ≤ noP Pₓ := by
  intro Pₓ
  induction Pₓ with
  | nil => intro _; exact ⟨by decide, fun _ => by decide, fun _ => by decide, by decide, by decide⟩
  | cons xₓ l ihₓ =>
    intro ⟨⟨h1, h2, h3, h4⟩, hₓ⟩
    obtain ⟨i1ₓ, i2ₓ, i3ₓ, i4ₓ, i5ₓ⟩ := ihₓ hₓ
    have eₓ : (xₓ :: l).headD 12 = xₓ := rfl
    rw [eₓ, List.length_cons]
    obtain rfl | rfl | rfl | rfl : xₓ = 9 ∨ xₓ = 10 ∨ xₓ = 11 ∨ xₓ = 12 := by omega
    · obtain ⟨a1ₓ, a2, a3, -⟩ := c9ₓ l
      rw [a1ₓ, a2, a3]
      exact ⟨by omega, fun qₓ => by omega, fun qₓ => by omega, by omega, by omega⟩
    · obtain ⟨a1ₓ, a2, a3, -⟩ := c10ₓ l
      rw [a1ₓ, a2, a3]
      have zₓ := i2ₓ (h3 rfl)
      exact ⟨by omega, fun qₓ => by omega, fun qₓ => by omega, by omega, by omega⟩
    · obtain ⟨a1ₓ, a2, a3, -⟩ := c11ₓ l
      rw [a1ₓ, a2, a3]
      have zₓ := i3ₓ (Or.inl (h4 rfl))
      exact ⟨by omega, fun qₓ => by omega, fun qₓ => by omega, by omega, by omega⟩
    · obtain ⟨a1ₓ, a2, a3, -⟩ := c12ₓ l
      rw [a1ₓ, a2, a3]
      exact ⟨by omega, fun qₓ => by omega, fun qₓ => by omega, by omega, by omega⟩
theorem okP_rk : ∀ Pₓ, okP Pₓ → ∀ xₓ ∈ Pₓ, rk xₓ < 4 ∧ (xₓ ≠ 12 → 1 ≤ rk xₓ) := by
  intro Pₓ
  induction Pₓ with
  | nil => intro _ xₓ hx; exact absurd hx (List.not_mem_nil)
  | cons yₓ l ihₓ =>
    intro ⟨⟨h1, h2, _, _⟩, hₓ⟩ xₓ hx
    rcases List.mem_cons.1 hx with rfl | qₓ
    · obtain rfl | rfl | rfl | rfl : xₓ = 9 ∨ xₓ = 10 ∨ xₓ = 11 ∨ xₓ = 12 := by omega
      all_goals decide
    · exact ihₓ hₓ xₓ qₓ
theorem okP_split : ∀ Pₓ, okP Pₓ → Pₓ.headD 12 ≠ 9 → ∃ mₓ jₓ P0ₓ, Pₓ = List.replicate mₓ 10 ++ (List.replicate jₓ 11 ++ P0ₓ) ∧ mₓ ≤ 1 ∧ jₓ ≤ 1 ∧ P0ₓ.headD 12 = 12 ∧ okP P0ₓ ∧ okP (List.replicate jₓ 11 ++ P0ₓ) ∧ 11 ≤ (List.replicate jₓ 11 ++ P0ₓ).headD 12 := by
  intro Pₓ hₓ hn
  cases Pₓ with
  | nil => exact ⟨0, 0, [], rfl, by omega, by omega, rfl, trivial, trivial, by decide⟩
  | cons xₓ l =>
    obtain ⟨⟨h1, h2, h3, h4⟩, h5⟩ := id hₓ
    have hx : xₓ ≠ 9 := hn
    obtain rfl | rfl | rfl : xₓ = 10 ∨ xₓ = 11 ∨ xₓ = 12 := by omega
    · have zₓ := h3 rfl
      cases l with
      | nil => exact ⟨1, 0, [], rfl, by omega, by omega, rfl, trivial, trivial, by decide⟩
      | cons yₓ rₓ =>
        have z' : 11 ≤ yₓ := zₓ
        obtain ⟨⟨k1ₓ, k2ₓ, k3ₓ, k4ₓ⟩, k5ₓ⟩ := id h5
        obtain rfl | rfl : yₓ = 11 ∨ yₓ = 12 := by omega
        · exact ⟨1, 1, rₓ, rfl, by omega, by omega, k4ₓ rfl, k5ₓ, h5, zₓ⟩
        · exact ⟨1, 0, 12 :: rₓ, rfl, by omega, by omega, rfl, h5, h5, zₓ⟩
    · exact ⟨0, 1, l, rfl, by omega, by omega, h4 rfl, h5, hₓ, Nat.le_refl 11⟩
    · exact ⟨0, 0, 12 :: l, rfl, by omega, by omega, rfl, hₓ, hₓ, show 11 ≤ 12 by omega⟩
theorem nine_split : ∀ Pₓ, okP Pₓ → ∃ mₓ P2ₓ, Pₓ = List.replicate mₓ 9 ++ P2ₓ ∧ P2ₓ.headD 12 ≠ 9 ∧ okP P2ₓ ∧ noP Pₓ = mₓ + noP P2ₓ ∧ nkP Pₓ = nkP P2ₓ ∧ nbP Pₓ = nbP P2ₓ := by
  intro Pₓ
  induction Pₓ with
  | nil => intro _; exact ⟨0, [], rfl, by decide, trivial, rfl, rfl, rfl⟩
  | cons xₓ l ihₓ =>
    intro hₓ
    by_cases cₓ : xₓ = 9
    · subst cₓ
      obtain ⟨mₓ, P2ₓ, a1ₓ, a2, a3, a4, a5, a6⟩ := ihₓ hₓ.2
      obtain ⟨b1, b2, b3, -⟩ := c9ₓ l
      exact ⟨mₓ + 1, P2ₓ, by rw [List.replicate_succ, List.cons_append, ← a1ₓ], a2, a3, by omega, by omega, by omega⟩
    · exact ⟨0, xₓ :: l, rfl, cₓ, hₓ, by omega, rfl, rfl⟩
theorem n9_app : ∀ Aₓ Bₓ : List Nat, n9 (Aₓ ++ Bₓ) = n9 Aₓ + n9 Bₓ := by
  intro Aₓ Bₓ
  induction Aₓ with
  | nil => exact (Nat.zero_add _).symm
  | cons xₓ l ihₓ =>
    show (if xₓ = 9 then 1 else 0) + n9 (l ++ Bₓ) = (if xₓ = 9 then 1 else 0) + n9 l + n9 Bₓ
    rw [ihₓ, Nat.add_assoc]
theorem n9_rep : ∀ mₓ, n9 (List.replicate mₓ 9) = mₓ := by
  intro mₓ
  induction mₓ with
  | zero => rfl
  | succ mₓ ihₓ =>
    rw [List.replicate_succ]
    have := (c9ₓ (List.replicate mₓ 9)).2.2.2
    omega
theorem mp_rep (mₓ aₓ : Nat) : mpₓ (List.replicate mₓ aₓ) = List.replicate mₓ (aₓ, 0) := by unfold mpₓ; rw [List.map_replicate]
theorem ty_9 {stₓ : List Nat} : tyS (1 :: stₓ) (9, 0) = some (1 :: stₓ) := rfl
theorem ty_bo {aₓ : Nat} {stₓ : List Nat} (haₓ : aₓ = 10 ∨ aₓ = 11) : tyS (1 :: 1 :: stₓ) (aₓ, 0) = some (1 :: stₓ) := by
  rcases haₓ with rfl | rfl <;> rfl
theorem Tyₓ.n9 {dₓ : List (Nat × Nat)} {jₓ : Nat} : ∀ (mₓ : Nat) {cm : List (Nat × Nat)}, Tyₓ dₓ cm (List.replicate (jₓ + 1) 1) → Tyₓ dₓ (cm ++ List.replicate mₓ (9, 0)) (List.replicate (jₓ + 1) 1) := by
  intro mₓ
  induction mₓ with
  | zero => intro cm hₓ; rw [List.replicate_zero, List.append_nil]; exact hₓ
  | succ mₓ ihₓ =>
    intro cm hₓ
    have zₓ := (ihₓ hₓ).add (ty_9 (stₓ := List.replicate jₓ 1))
    rw [List.append_assoc, ← List.replicate_succ'] at zₓ
    exact zₓ
theorem Tyₓ.bo {dₓ : List (Nat × Nat)} {jₓ aₓ : Nat} (haₓ : aₓ = 10 ∨ aₓ = 11) : ∀ (mₓ : Nat) {cm : List (Nat × Nat)}, Tyₓ dₓ cm (List.replicate (jₓ + 1 + mₓ) 1) → Tyₓ dₓ (cm ++ List.replicate mₓ (aₓ, 0)) (List.replicate (jₓ + 1) 1) := by
  intro mₓ
  induction mₓ with
  | zero => intro cm hₓ; rw [List.replicate_zero, List.append_nil]; exact hₓ
  | succ mₓ ihₓ =>
    intro cm hₓ
    have h' : Tyₓ dₓ cm (1 :: 1 :: List.replicate (jₓ + mₓ) 1) := by
      rw [show jₓ + 1 + (mₓ + 1) = jₓ + mₓ + 1 + 1 by omega] at hₓ
      exact hₓ
    have zₓ := h'.add (ty_bo haₓ)
    have z2 : Tyₓ dₓ (cm ++ [(aₓ, 0)]) (List.replicate (jₓ + 1 + mₓ) 1) := by
      rw [show jₓ + 1 + mₓ = jₓ + mₓ + 1 by omega]
      exact zₓ
    have z3 := ihₓ z2
    rw [List.append_assoc] at z3
    exact z3
/-- the reference settles -/
theorem Rn.set {nₓ : Nat} {bₓ : Nat → Nat} {Sₓ T : Mem} {fₓ iₓ kₓ pₓ eₓ numₓ : Nat} {cx : List (Nat × Nat)} {W : List Nat} {ox br : Nat} {gₓ : Prg} {cm : List (Nat × Nat)} {P0ₓ : List Nat} {om aₓ mₓ : Nat} (hₓ : Rn nₓ bₓ Sₓ T fₓ iₓ kₓ pₓ eₓ numₓ cx W ox br gₓ cm (List.replicate mₓ aₓ ++ P0ₓ) om) (haₓ : aₓ ≤ 12) (h0 : P0ₓ.headD 12 ≠ aₓ) (h12 : aₓ ≠ 12) (hl : mₓ + P0ₓ.length < 40) (hmₓ : aₓ = 9 → mₓ ≤ om) (ho : om < 100) (hcₓ : cm.length + mₓ ≤ cx.length + W.length) : ∃ T', fX8_settles T (nI aₓ) = some (nI 0, T') ∧ FM T T' ∧ Rn nₓ bₓ Sₓ T' fₓ iₓ kₓ pₓ eₓ numₓ cx W ox br gₓ (cm ++ List.replicate mₓ (aₓ, 0)) P0ₓ (if aₓ = 9 then om - mₓ else om) := by
  have hlen := hₓ.len
  obtain ⟨h1, h2, h3, h4, h5, h6, h7, h8⟩ := hₓ
  obtain ⟨T', s1ₓ, s2ₓ, s3ₓ, s4ₓ⟩ := settle_M haₓ (P0ₓ := P0ₓ) (fun xₓ l qₓ => by
    rw [qₓ] at h0
    exact h0) mₓ FU T cm om h6 hl (by unfold FU; omega) (by omega) hmₓ ho
  refine ⟨T', s1ₓ, s3ₓ, h1.m (s3ₓ.2.1 16 (by decide)) (s3ₓ.1 11 (by decide)) (s3ₓ.1 12 (by decide)), ?_, h3, h4, h5, s2ₓ, by rw [List.length_append, List.length_replicate]; exact hcₓ, h8⟩
  obtain ⟨k1ₓ, k2ₓ, k3ₓ, k4ₓ⟩ := s4ₓ
  unfold Tk at h2 ⊢
  rw [k1ₓ, k2ₓ, k3ₓ, k4ₓ]
  exact h2
