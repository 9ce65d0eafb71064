/-! text: sums and claims -/
theorem Resₓ.seq {Sₓ T : Mem} {oX oM1 oM : O} {Qₓ Q'ₓ : Mem → Mem → Nat → Nat → Nat → Nat → Nat → Nat → Prop} (hₓ : Resₓ Sₓ T oX oM1 Qₓ) (hE : ∀ T', oM1 = some (-nI 1, T') → oM = some (-nI 1, T')) (hO : ∀ S' T' fₓ iₓ kₓ pₓ eₓ numₓ, oM1 = some (nI 0, T') → FXₓ Sₓ S' → (S' 38 10, S' 38 3) = (Sₓ 38 10, Sₓ 38 3) → Qₓ S' T' fₓ iₓ kₓ pₓ eₓ numₓ → ∃ T1, FM T' T1 ∧ Resₓ S' T1 (XT fₓ S' iₓ) oM Q'ₓ) : Resₓ Sₓ T oX oM Q'ₓ := by
  rcases hₓ with ⟨rₓ, pe, T3, r1ₓ, r2, m1ₓ, m2ₓ, m3ₓ, m4ₓ, m5ₓ⟩ | ⟨S3, T3, f3ₓ, i3ₓ, k3ₓ, p3ₓ, e3ₓ, num3, m1ₓ, m2ₓ, m3ₓ, m4ₓ, m5ₓ, qₓ⟩
  · exact Or.inl ⟨rₓ, pe, T3, r1ₓ, r2, hE T3 m1ₓ, m2ₓ, m3ₓ, m4ₓ, m5ₓ⟩
  · obtain ⟨T1, c1ₓ, c2ₓ⟩ := hO S3 T3 f3ₓ i3ₓ k3ₓ p3ₓ e3ₓ num3 m1ₓ m3ₓ m4ₓ qₓ
    rw [m5ₓ]
    rcases c2ₓ with ⟨rₓ, pe, T4, r1ₓ, r2, u1ₓ, u2ₓ, u3, u4ₓ, u5⟩ | ⟨S4, T4, f4ₓ, i4ₓ, k4ₓ, p4ₓ, e4ₓ, num4, u1ₓ, u2ₓ, u3, u4ₓ, u5, vₓ⟩
    · exact Or.inl ⟨rₓ, pe, T4, r1ₓ, r2, u1ₓ, (m2ₓ.tr c1ₓ).tr u2ₓ, u3, u4ₓ, u5.to m3ₓ⟩
    · exact Or.inr ⟨S4, T4, f4ₓ, i4ₓ, k4ₓ, p4ₓ, e4ₓ, num4, u1ₓ, (m2ₓ.tr c1ₓ).tr u2ₓ, m3ₓ.tr u3, u4ₓ.trans m4ₓ, u5, vₓ⟩
/-- a step before -/
theorem Resₓ.pre {Sₓ T S1 T1 : Mem} {oX oX1 oM : O} {Qₓ : Mem → Mem → Nat → Nat → Nat → Nat → Nat → Nat → Prop} (hₓ : Resₓ S1 T1 oX1 oM Qₓ) (hX : oX = oX1) (fx : FXₓ Sₓ S1) (fm : FM T T1) (h10 : (S1 38 10, S1 38 3) = (Sₓ 38 10, Sₓ 38 3)) : Resₓ Sₓ T oX oM Qₓ := by
  subst hX
  rcases hₓ with ⟨rₓ, pe, T3, r1ₓ, r2, m1ₓ, m2ₓ, m3ₓ, m4ₓ, m5ₓ⟩ | ⟨S3, T3, f3ₓ, i3ₓ, k3ₓ, p3ₓ, e3ₓ, num3, m1ₓ, m2ₓ, m3ₓ, m4ₓ, m5ₓ, qₓ⟩
  · exact Or.inl ⟨rₓ, pe, T3, r1ₓ, r2, m1ₓ, fm.tr m2ₓ, m3ₓ, m4ₓ, m5ₓ.to fx⟩
  · exact Or.inr ⟨S3, T3, f3ₓ, i3ₓ, k3ₓ, p3ₓ, e3ₓ, num3, m1ₓ, fm.tr m2ₓ, fx.tr m3ₓ, m4ₓ.trans h10, m5ₓ, qₓ⟩
theorem op_go {nₓ : Nat} {bₓ : Nat → Nat} {Sₓ T : Mem} {fₓ iₓ kₓ pₓ eₓ numₓ : Nat} {cx : List (Nat × Nat)} {Dₓ W0ₓ : List Nat} {ox br aₓ cₓ : Nat} {gₓ : Prg} {Pₓ : List Nat} {om : Nat} (hR : Rn nₓ bₓ Sₓ T fₓ iₓ kₓ pₓ eₓ numₓ cx (Dₓ ++ W0ₓ) ox br gₓ (cx ++ mpₓ Dₓ) Pₓ om) (h9 : Sₓ 38 9 = nI 5) (h11 : Sₓ 38 11 = nI cₓ) (hc2 : cₓ < 2) (haₓ : 2 ≤ aₓ ∧ aₓ ≤ 8) (hak : xsg aₓ = kₓ) (hcmp : 6 ≤ aₓ → cₓ = 0) (hDE : ∀ xₓ ∈ Dₓ, rk aₓ ≤ rk xₓ ∧ xₓ ≠ 12) (hn9 : n9 Dₓ = 0) (hW0 : ∀ xₓ l, W0ₓ = xₓ :: l → rk xₓ < rk aₓ) (hWl : Dₓ.length + W0ₓ.length < 40) (ho : ox < 100) : ∃ S2 T2 f2ₓ k2ₓ p2ₓ e2ₓ num2, XT fₓ Sₓ iₓ = XT f2ₓ S2 (iₓ + 1) ∧ fX8_reads T = some (nI 0, T2) ∧ FXₓ Sₓ S2 ∧ FM T T2 ∧ pₓ < p2ₓ ∧ Rn nₓ bₓ S2 T2 f2ₓ (iₓ + 1) k2ₓ p2ₓ e2ₓ num2 (cx ++ mpₓ Dₓ) (aₓ :: W0ₓ) ox br gₓ (cx ++ mpₓ Dₓ) Pₓ om ∧ S2 38 9 = nI (if aₓ = 5 then 4 else 3) ∧ S2 38 11 = nI (if 6 ≤ aₓ then 1 else cₓ) ∧ (S2 38 10, S2 38 3) = (Sₓ 38 10, Sₓ 38 3) := by
  have hlen := hR.len
  obtain ⟨h1, h2, h3, h4, h5, h6, h7, h8⟩ := id hR
  obtain ⟨-, q2ₓ, q3ₓ, q4ₓ, q5ₓ, q6ₓ, q7ₓ, q8ₓ, q9ₓ, q10ₓ, -⟩ := id h2
  have rka : rk aₓ ≤ 6 := by
    obtain rfl | rfl | rfl | rfl | rfl | rfl | rfl : aₓ = 2 ∨ aₓ = 3 ∨ aₓ = 4 ∨ aₓ = 5 ∨ aₓ = 6 ∨ aₓ = 7 ∨ aₓ = 8 := by omega
    all_goals decide
  have k29 : kₓ ≠ 29 := by
    rw [← hak]
    obtain rfl | rfl | rfl | rfl | rfl | rfl | rfl : aₓ = 2 ∨ aₓ = 3 ∨ aₓ = 4 ∨ aₓ = 5 ∨ aₓ = 6 ∨ aₓ = 7 ∨ aₓ = 8 := by omega
    all_goals decide
  have hEW : (Dₓ ++ W0ₓ).length = Dₓ.length + W0ₓ.length := List.length_append
  have h5' : XSt (mset Sₓ 38 11 (nI (if 6 ≤ aₓ then 1 else cₓ))) cx (Dₓ ++ W0ₓ) ox br gₓ := h5.cg rfl rfl rfl rfl rfl (by rw [ms_at, if_neg (by omega)]) (by rw [ms_at, if_neg (by omega)]) (by rw [ms_at, if_neg (by omega)])
  obtain ⟨S1, o1, o2, o3ₓ, o4ₓ⟩ := oper_X h5' (by omega) (by rw [ms_at, if_neg (by omega), q8ₓ, hak]) hDE hW0 (by omega) (by omega) (by rw [hEW] at hlen; omega) (by omega) ho rka
  have e6ₓ : S1 38 6 = nI (xsg aₓ) := by rw [o4ₓ 6 (by omega) (by omega), ms_at, if_neg (by omega), q8ₓ, hak]
  have tk := tau_op h9 (q8ₓ.trans (by rw [hak])) haₓ h11 hc2 hcmp o1 e6ₓ
  rw [hn9, Nat.sub_zero] at o2
  have hX5 : XSt (mset S1 38 9 (nI (if aₓ = 5 then 4 else 3))) (cx ++ mpₓ Dₓ) (aₓ :: W0ₓ) ox br gₓ := o2.cg rfl rfl rfl rfl rfl (by rw [ms_at, if_neg (by omega)]) (by rw [ms_at, if_neg (by omega)]) (by rw [ms_at, if_neg (by omega)])
  have FX5 : FXₓ Sₓ (mset S1 38 9 (nI (if aₓ = 5 then 4 else 3))) := ((FXₓ.put Sₓ _ (by decide)).tr o3ₓ).tr (FXₓ.put _ _ (by decide))
  have r5ₓ : ∀ jₓ, jₓ ≠ 9 → jₓ ≠ 11 → jₓ ≠ 13 → jₓ ≠ 14 → (mset S1 38 9 (nI (if aₓ = 5 then 4 else 3))) 38 jₓ = Sₓ 38 jₓ := fun jₓ a1ₓ a2 a3 a4 => by rw [ms_at, if_neg (by omega), o4ₓ jₓ a3 a4, ms_at, if_neg (by omega)]
  have hT5 : Tp nₓ bₓ (mset S1 38 9 (nI (if aₓ = 5 then 4 else 3))) T := h1.x (r5ₓ 1 (by omega) (by omega) (by omega) (by omega)) (FX5 39 (by decide))
  have lmp : (mpₓ Dₓ).length = Dₓ.length := by unfold mpₓ; rw [List.length_map]
  have hcl : (cx ++ mpₓ Dₓ).length = cx.length + Dₓ.length := by rw [List.length_append, lmp]
  obtain ⟨S2, T2, f2ₓ, k2ₓ, p2ₓ, e2ₓ, num2, z1, z2, z3, z4, z5, z6, z7⟩ := Rn.go hT5 h2 h3 h4 k29 tk (r5ₓ 5 (by omega) (by omega) (by omega) (by omega)) (r5ₓ 6 (by omega) (by omega) (by omega) (by omega)) rfl hX5 h6 (by rw [List.length_cons]; omega) (by rw [hcl, List.length_cons]; rw [hEW] at h8; omega)
  refine ⟨S2, T2, f2ₓ, k2ₓ, p2ₓ, e2ₓ, num2, z1, z2, FX5.tr z3, z4, z6, z7, ?_, ?_, ?_⟩
  · rw [z5 9 (by omega) (by omega) (by omega) (by omega) (by omega), ms_at, if_pos ⟨rfl, rfl⟩]
  · rw [z5 11 (by omega) (by omega) (by omega) (by omega) (by omega), ms_at, if_neg (by omega), o4ₓ 11 (by omega) (by omega), ms_at, if_pos ⟨rfl, rfl⟩]
  · rw [z5 10 (by omega) (by omega) (by omega) (by omega) (by omega), r5ₓ 10 (by omega) (by omega) (by omega) (by omega), z5 3 (by omega) (by omega) (by omega) (by omega) (by omega), r5ₓ 3 (by omega) (by omega) (by omega) (by omega)]
def okE (Eₓ : List Nat) : Prop := Eₓ = [] ∨ Eₓ = [4] ∨ Eₓ = [5]
def okF (Eₓ : List Nat) : Prop := Eₓ = [] ∨ Eₓ = [2] ∨ Eₓ = [3]
theorem prod_both {nₓ : Nat} {bₓ : Nat → Nat} {dₓ : List (Nat × Nat)} {cₓ ox br om : Nat} {gₓ : Prg} {W0ₓ Pₓ stₓ : List Nat} (hc2 : cₓ < 2) (hW0 : ∀ xₓ l, W0ₓ = xₓ :: l → rk xₓ < 6) (hWl : W0ₓ.length ≤ 34) (ho : ox < 100) (hst : stₓ.length < 28) {Sₓ T : Mem} {fₓ iₓ kₓ pₓ eₓ numₓ : Nat} {cx : List (Nat × Nat)} (hR : Rn nₓ bₓ Sₓ T fₓ iₓ kₓ pₓ eₓ numₓ cx W0ₓ ox br gₓ cx Pₓ om) (ht : fX3_take Sₓ = fX3_takeUnit Sₓ) (h11 : Sₓ 38 11 = nI cₓ) (hTy : Tyₓ dₓ cx stₓ) : Resₓ Sₓ T (XT fₓ Sₓ iₓ) (fX8_readProduct T) (fun S' T' f' i' k' p' e' num' => ∃ E'ₓ, okE E'ₓ ∧ AU nₓ bₓ dₓ cₓ E'ₓ W0ₓ ox br gₓ Pₓ om stₓ S' T' f' i' k' p' e' num' ∧ k' ≠ 21 ∧ k' ≠ 22 ∧ pₓ < p') := by
  have hu := unit_both hR ht
  obtain ⟨-, h2, -⟩ := id hR
  obtain ⟨-, q2ₓ, q3ₓ, q4ₓ, q5ₓ, q6ₓ, q7ₓ, q8ₓ, q9ₓ, q10ₓ, q11ₓ, q12ₓ, q13ₓ, q14ₓ, q15ₓ⟩ := id h2
  have hlen := hR.len
  unfold fX8_readProduct
  refine hu.seq (fun T' qₓ => ?_) (fun S3 T3 f3ₓ i3ₓ k3ₓ p3ₓ e3ₓ num3 m1ₓ m3ₓ m4ₓ vₓ => ?_)
  · rw [qₓ, bnd_e, if_pos (show -nI 1 = -1 from rfl)]
    rfl
  · obtain ⟨hU, hR3, m6ₓ, m7ₓ, m8ₓ⟩ := vₓ
    obtain ⟨t2ₓ, t21, t22, t23⟩ := ty_unit (stₓ := stₓ) hU (fun qₓ => (q15ₓ qₓ).2.2.2) (by omega)
    refine ⟨T3, FM.rf T3, ?_⟩
    rw [m1ₓ, bnd_e, if_neg (show ¬ nI 0 = -1 by decide)]
    have hA : AU nₓ bₓ dₓ cₓ [] W0ₓ ox br gₓ Pₓ om stₓ S3 T3 f3ₓ i3ₓ k3ₓ p3ₓ e3ₓ num3 := by
      refine ⟨cx ++ [uC kₓ numₓ], t2ₓ, ?_, m6ₓ, m7ₓ.trans h11, t21, ?_⟩
      · show Rn nₓ bₓ S3 T3 f3ₓ i3ₓ k3ₓ p3ₓ e3ₓ num3 (cx ++ [uC kₓ numₓ]) W0ₓ ox br gₓ (cx ++ [uC kₓ numₓ] ++ []) Pₓ om
        rw [List.append_nil]
        exact hR3
      · show Tyₓ dₓ (cx ++ [uC kₓ numₓ] ++ []) (t2ₓ :: stₓ)
        rw [List.append_nil]
        exact hTy.add t23
    refine (prod_loop hc2 hW0 hWl ho hst FU S3 T3 f3ₓ i3ₓ k3ₓ p3ₓ e3ₓ num3 [] (by unfold FU; omega) (Or.inl rfl) hA).mono ?_
    intro S4 T4 f4ₓ i4ₓ k4ₓ p4ₓ e4ₓ num4 ⟨E'ₓ, w1ₓ, w2ₓ, w3ₓ, w4ₓ, w5⟩
    exact ⟨E'ₓ, w1ₓ, w2ₓ, w3ₓ, w4ₓ, by omega⟩
theorem mp_app (Aₓ Bₓ : List Nat) : mpₓ (Aₓ ++ Bₓ) = mpₓ Aₓ ++ mpₓ Bₓ := by unfold mpₓ; rw [List.map_append]
theorem okEF {Eₓ Fₓ : List Nat} (hE : okE Eₓ) (hF : okF Fₓ) : (Eₓ ++ Fₓ).length ≤ 2 ∧ n9 (Eₓ ++ Fₓ) = 0 ∧ ∀ xₓ ∈ Eₓ ++ Fₓ, 5 ≤ rk xₓ ∧ xₓ ≠ 12 := by
  rcases hE with rfl | rfl | rfl <;> rcases hF with rfl | rfl | rfl <;> decide
theorem sum_loopₓ {nₓ : Nat} {bₓ : Nat → Nat} {dₓ : List (Nat × Nat)} {cₓ ox br om : Nat} {gₓ : Prg} {W0ₓ Pₓ stₓ : List Nat} (hc2 : cₓ < 2) (hW0 : ∀ xₓ l, W0ₓ = xₓ :: l → rk xₓ < 5) (hWl : W0ₓ.length ≤ 33) (ho : ox < 100) (hst : stₓ.length < 27) : ∀ (gf : Nat) (Sₓ T : Mem) (fₓ iₓ kₓ pₓ eₓ numₓ : Nat) (Eₓ Fₓ : List Nat), nₓ - pₓ < gf → okE Eₓ → okF Fₓ → AU nₓ bₓ dₓ cₓ (Eₓ ++ Fₓ) W0ₓ ox br gₓ Pₓ om stₓ Sₓ T fₓ iₓ kₓ pₓ eₓ numₓ → kₓ ≠ 21 → kₓ ≠ 22 → Resₓ Sₓ T (XT fₓ Sₓ iₓ) (fX8_readSum_10 gf T) (fun S' T' f' i' k' p' e' num' => ∃ E'ₓ F', okE E'ₓ ∧ okF F' ∧ AU nₓ bₓ dₓ cₓ (E'ₓ ++ F') W0ₓ ox br gₓ Pₓ om stₓ S' T' f' i' k' p' e' num' ∧ ¬ (19 ≤ k' ∧ k' ≤ 22) ∧ pₓ ≤ p') := by
  intro gf
  induction gf with
  | zero => intro Sₓ T fₓ iₓ kₓ pₓ eₓ numₓ Eₓ Fₓ hₓ; omega
  | succ gf ihₓ =>
    intro Sₓ T fₓ iₓ kₓ pₓ eₓ numₓ Eₓ Fₓ hg hE hF hA k21 k22
    obtain ⟨cx, tₓ, hR, h9, h11, ht, hTy⟩ := id hA
    obtain ⟨l1, l2, l3⟩ := okEF hE hF
    have hlen := hR.len
    obtain ⟨h1, h2, h3, h4, h5, h6, h7, h8⟩ := id hR
    obtain ⟨-, q2ₓ, q3ₓ, q4ₓ, q5ₓ, q6ₓ, q7ₓ, q8ₓ, q9ₓ, q10ₓ, -, -, -, q14ₓ, -⟩ := id h2
    have s43 : fX8_isSign T (43 : Int32) = some (if kₓ = 19 then nI 1 else nI 0, T) := sgn_M h2 (show 1 < 10 by omega)
    have s45 : fX8_isSign T (45 : Int32) = some (if kₓ = 20 then nI 1 else nI 0, T) := sgn_M h2 (show 2 < 10 by omega)
    show Resₓ Sₓ T (XT fₓ Sₓ iₓ) (fX8_readSum_10_b (fX8_readSum_10 gf) T) _
    by_cases hop : kₓ = 19 ∨ kₓ = 20
    · obtain ⟨aₓ, haₓ, hak⟩ : ∃ aₓ, (aₓ = 2 ∨ aₓ = 3) ∧ xsg aₓ = kₓ := by
        rcases hop with qₓ | qₓ
        · exact ⟨2, Or.inl rfl, qₓ.symm⟩
        · exact ⟨3, Or.inr rfl, qₓ.symm⟩
      have rka : rk aₓ = 5 := by rcases haₓ with rfl | rfl <;> rfl
      obtain ⟨S2, T2, f2ₓ, k2ₓ, p2ₓ, e2ₓ, num2, z1, z2, z3, z4, z6, z7, z9, z11, z10⟩ := op_go hR h9 h11 hc2 (by omega) hak (fun qₓ => by omega) (by rw [rka]; exact l3) l2 (by rw [rka]; exact hW0) (by omega) ho
      rw [if_neg (show ¬ aₓ = 5 by omega)] at z9
      rw [if_neg (show ¬ 6 ≤ aₓ by omega)] at z11
      have mM : fX8_readSum_10_b (fX8_readSum_10 gf) T = bnd (fX8_readProduct T2) fun r_3 S_4 => (if r_3 = (-1 : Int32) then some ((-1 : Int32), S_4) else bnd (fX8_emits S_4 (nI aₓ) (0 : Int32)) fun _ S_7 => fX8_readSum_10 gf S_7) := by
        unfold fX8_readSum_10_b fX8_readSum_28 fX8_readSum_42
        rw [s43, bnd_e]
        rcases haₓ with rfl | rfl
        · have hk : kₓ = 19 := hak.symm
          have t20 : T 0 20 = nI 43 := by
            have := (q14ₓ (by omega) (by omega)).2
            rw [this, hk]
            rfl
          rw [if_pos hk, if_neg (show ¬ nI 1 = 0 by decide), t20, if_pos (show nI 43 = 43 from rfl), z2, bnd_e]
          rfl
        · have hk : kₓ = 20 := hak.symm
          have t20 : T 0 20 = nI 45 := by
            have := (q14ₓ (by omega) (by omega)).2
            rw [this, hk]
            rfl
          rw [if_neg (show ¬ kₓ = 19 by omega), if_pos (show nI 0 = 0 from rfl), s45, bnd_e, if_pos hk, if_neg (show ¬ nI 1 = 0 by decide), t20, if_neg (show ¬ nI 45 = 43 by decide), z2, bnd_e]
          rfl
      rw [mM]
      have hp := prod_both (dₓ := dₓ) (cₓ := cₓ) (stₓ := tₓ :: stₓ) hc2 (W0ₓ := aₓ :: W0ₓ) (fun xₓ l qₓ => by
        obtain ⟨rfl, -⟩ := List.cons.inj qₓ
        omega) (by rw [List.length_cons]; omega) ho (by rw [List.length_cons]; omega) z7 ((take_d z9 (by omega)).trans (by rfl)) z11 hTy
      refine Resₓ.pre (hp.seq (fun T' qₓ => ?_) (fun S3 T3 f3ₓ i3ₓ k3ₓ p3ₓ e3ₓ num3 m1ₓ m3ₓ m4ₓ vₓ => ?_)) z1 z3 z4 z10
      · rw [qₓ, bnd_e, if_pos (show -nI 1 = -1 from rfl)]
        rfl
      · obtain ⟨E'ₓ, w1ₓ, ⟨cx', t', w2ₓ, w3ₓ, w4ₓ, w5, w6ₓ⟩, w7ₓ, w8, w9⟩ := vₓ
        have lcm : (cx' ++ mpₓ E'ₓ).length + 1 ≤ cx'.length + (E'ₓ ++ aₓ :: W0ₓ).length := by
          unfold mpₓ
          rw [List.length_append, List.length_map, List.length_append, List.length_cons]
          omega
        obtain ⟨em1, em2⟩ := w2ₓ.em (aₓ := aₓ) lcm
        have hTy3 := w6ₓ.add (ty_ar (aₓ := aₓ) (xₓ := tₓ) (yₓ := t') (stₓ := stₓ) (by omega) ht w5)
        have eW : E'ₓ ++ aₓ :: W0ₓ = (E'ₓ ++ [aₓ]) ++ W0ₓ := by rw [List.append_assoc]; rfl
        have eCₓ : cx' ++ mpₓ E'ₓ ++ [(aₓ, 0)] = cx' ++ mpₓ (E'ₓ ++ [aₓ]) := by rw [mp_app, List.append_assoc]; rfl
        refine ⟨emM T3 (cx' ++ mpₓ E'ₓ).length (nI aₓ) (nI 0), emM_FM _ _ _ _, ?_⟩
        rw [m1ₓ, bnd_e, if_neg (show ¬ nI 0 = -1 by decide), show (0 : Int32) = nI 0 from rfl, em1, bnd_e]
        rw [eW, eCₓ] at em2
        rw [eCₓ] at hTy3
        refine (ihₓ S3 _ f3ₓ i3ₓ k3ₓ p3ₓ e3ₓ num3 E'ₓ [aₓ] (by omega) w1ₓ (by rcases haₓ with rfl | rfl; exact Or.inr (Or.inl rfl); exact Or.inr (Or.inr rfl)) ⟨cx', 0, em2, w3ₓ, w4ₓ, by omega, hTy3⟩ w7ₓ w8).mono ?_
        intro S4 T4 f4ₓ i4ₓ k4ₓ p4ₓ e4ₓ num4 ⟨E4, F4, v1ₓ, v2, v3, v4ₓ, v5⟩
        exact ⟨E4, F4, v1ₓ, v2, v3, v4ₓ, by omega⟩
    · refine Or.inr ⟨Sₓ, T, fₓ, iₓ, kₓ, pₓ, eₓ, numₓ, ?_, FM.rf T, FXₓ.rf Sₓ, rfl, rfl, Eₓ, Fₓ, hE, hF, hA, by omega, Nat.le_refl pₓ⟩
      unfold fX8_readSum_10_b
      rw [s43, bnd_e, if_neg (show ¬ kₓ = 19 by omega), if_pos (show nI 0 = 0 from rfl), s45, bnd_e, if_neg (show ¬ kₓ = 20 by omega), if_pos (show nI 0 = 0 from rfl)]
      rfl
theorem sum_both {nₓ : Nat} {bₓ : Nat → Nat} {dₓ : List (Nat × Nat)} {cₓ ox br om : Nat} {gₓ : Prg} {W0ₓ Pₓ stₓ : List Nat} (hc2 : cₓ < 2) (hW0 : ∀ xₓ l, W0ₓ = xₓ :: l → rk xₓ < 5) (hWl : W0ₓ.length ≤ 33) (ho : ox < 100) (hst : stₓ.length < 27) {Sₓ T : Mem} {fₓ iₓ kₓ pₓ eₓ numₓ : Nat} {cx : List (Nat × Nat)} (hR : Rn nₓ bₓ Sₓ T fₓ iₓ kₓ pₓ eₓ numₓ cx W0ₓ ox br gₓ cx Pₓ om) (ht : fX3_take Sₓ = fX3_takeUnit Sₓ) (h11 : Sₓ 38 11 = nI cₓ) (hTy : Tyₓ dₓ cx stₓ) : Resₓ Sₓ T (XT fₓ Sₓ iₓ) (fX8_readSum T) (fun S' T' f' i' k' p' e' num' => ∃ E'ₓ F', okE E'ₓ ∧ okF F' ∧ AU nₓ bₓ dₓ cₓ (E'ₓ ++ F') W0ₓ ox br gₓ Pₓ om stₓ S' T' f' i' k' p' e' num' ∧ ¬ (19 ≤ k' ∧ k' ≤ 22) ∧ pₓ < p') := by
  have hlen := hR.len
  unfold fX8_readSum
  refine (prod_both hc2 (fun xₓ l qₓ => by have := hW0 xₓ l qₓ; omega) (by omega) ho (by omega) hR ht h11 hTy).seq (fun T' qₓ => ?_) (fun S3 T3 f3ₓ i3ₓ k3ₓ p3ₓ e3ₓ num3 m1ₓ m3ₓ m4ₓ vₓ => ?_)
  · rw [qₓ, bnd_e, if_pos (show -nI 1 = -1 from rfl)]
    rfl
  · obtain ⟨E'ₓ, w1ₓ, w2ₓ, w3ₓ, w4ₓ, w5⟩ := vₓ
    refine ⟨T3, FM.rf T3, ?_⟩
    rw [m1ₓ, bnd_e, if_neg (show ¬ nI 0 = -1 by decide)]
    refine (sum_loopₓ (nₓ := nₓ) hc2 hW0 hWl ho hst FU S3 T3 f3ₓ i3ₓ k3ₓ p3ₓ e3ₓ num3 E'ₓ [] (by unfold FU; omega) w1ₓ (Or.inl rfl) (by rw [List.append_nil]; exact w2ₓ) w3ₓ w4ₓ).mono ?_
    intro S4 T4 f4ₓ i4ₓ k4ₓ p4ₓ e4ₓ num4 ⟨E4, F4, v1ₓ, v2, v3, v4ₓ, v5⟩
    exact ⟨E4, F4, v1ₓ, v2, v3, v4ₓ, by omega⟩
/-- behind a claim -/
def CLₓ (nₓ : Nat) (bₓ : Nat → Nat) (dₓ : List (Nat × Nat)) (W0ₓ : List Nat) (ox br : Nat) (gₓ : Prg) (Pₓ : List Nat) (om : Nat) (stₓ : List Nat) (Sₓ T : Mem) (fₓ iₓ kₓ pₓ eₓ numₓ : Nat) : Prop := ∃ cx Dₓ, Rn nₓ bₓ Sₓ T fₓ iₓ kₓ pₓ eₓ numₓ cx (Dₓ ++ W0ₓ) ox br gₓ (cx ++ mpₓ Dₓ) Pₓ om ∧ fX3_take Sₓ = fX3_takeAfterClaim Sₓ ∧ Tyₓ dₓ (cx ++ mpₓ Dₓ) (1 :: stₓ) ∧ Dₓ.length ≤ 3 ∧ n9 Dₓ = 0 ∧ ∀ xₓ ∈ Dₓ, 4 ≤ rk xₓ ∧ xₓ ≠ 12
theorem okEFc {Eₓ Fₓ : List Nat} {aₓ : Nat} (hE : okE Eₓ) (hF : okF Fₓ) (haₓ : aₓ = 6 ∨ aₓ = 7 ∨ aₓ = 8) : (Eₓ ++ Fₓ ++ [aₓ]).length ≤ 3 ∧ n9 (Eₓ ++ Fₓ ++ [aₓ]) = 0 ∧ ∀ xₓ ∈ Eₓ ++ Fₓ ++ [aₓ], 4 ≤ rk xₓ ∧ xₓ ≠ 12 := by
  rcases hE with rfl | rfl | rfl <;> rcases hF with rfl | rfl | rfl <;> rcases haₓ with rfl | rfl | rfl <;> decide
theorem tau_no {Sₓ : Mem} {kₓ cₓ : Nat} (h9 : Sₓ 38 9 = nI 5) (h6 : Sₓ 38 6 = nI kₓ) (hk : kₓ ≤ 30) (h11 : Sₓ 38 11 = nI cₓ) (hc2 : cₓ < 2) (n1ₓ : ¬ (19 ≤ kₓ ∧ kₓ ≤ 22)) (n2ₓ : cₓ = 0 → ¬ (25 ≤ kₓ ∧ kₓ ≤ 27)) : fX3_take Sₓ = if cₓ = 0 then some (nI 1, Sₓ) else fX3_takeAfterClaim Sₓ := by
  rw [take_d h9 (by omega), if_neg (by omega), if_neg (by omega), if_neg (by omega), if_neg (by omega), if_neg (by omega), if_pos rfl]
  have e59 : fX3_takeAfterUnit_59 Sₓ 0 (if 25 ≤ kₓ ∧ kₓ ≤ 27 then 1 else 0) = if cₓ = 0 then some (nI 1, Sₓ) else fX3_takeAfterClaim Sₓ := by
    unfold fX3_takeAfterUnit_59
    rw [if_pos rfl, h11, oeta]
    obtain rfl | rfl : cₓ = 0 ∨ cₓ = 1 := by omega
    · rfl
    · rfl
  have l19 : (nI kₓ < (19 : Int32)) ↔ kₓ < 19 := by rw [show (19 : Int32) = nI 19 from rfl, nI_ltI (by omega) (by omega)]
  have l22 : ((22 : Int32) < nI kₓ) ↔ 22 < kₓ := by rw [show (22 : Int32) = nI 22 from rfl, nI_ltI (by omega) (by omega)]
  have l25 : (nI kₓ < (25 : Int32)) ↔ kₓ < 25 := by rw [show (25 : Int32) = nI 25 from rfl, nI_ltI (by omega) (by omega)]
  have l27 : ((27 : Int32) < nI kₓ) ↔ 27 < kₓ := by rw [show (27 : Int32) = nI 27 from rfl, nI_ltI (by omega) (by omega)]
  have e22ₓ : fX3_takeAfterUnit Sₓ = fX3_takeAfterUnit_23 Sₓ 0 := by
    unfold fX3_takeAfterUnit fX3_takeAfterUnit_22
    rw [h6]
    by_cases c1ₓ : kₓ < 19
    · rw [if_pos (l19.2 c1ₓ)]
    · rw [if_neg (fun qₓ => c1ₓ (l19.1 qₓ)), if_pos (l22.2 (by omega))]
  rw [e22ₓ, ← e59]
  unfold fX3_takeAfterUnit_23 fX3_takeAfterUnit_46 fX3_takeAfterUnit_47
  rw [h6, h11]
  by_cases c1ₓ : kₓ < 25
  · rw [if_pos (l25.2 c1ₓ), if_pos rfl, if_neg (show ¬ (25 ≤ kₓ ∧ kₓ ≤ 27) by omega)]
  · rw [if_neg (fun qₓ => c1ₓ (l25.1 qₓ))]
    by_cases c2ₓ : 27 < kₓ
    · rw [if_pos (l27.2 c2ₓ), if_pos rfl, if_neg (show ¬ (25 ≤ kₓ ∧ kₓ ≤ 27) by omega)]
    · have q1ₓ : cₓ = 1 := by
        rcases (show cₓ = 0 ∨ cₓ = 1 by omega) with qₓ | qₓ
        · exact absurd ⟨by omega, by omega⟩ (n2ₓ qₓ)
        · exact qₓ
      rw [if_neg (fun qₓ => c2ₓ (l27.1 qₓ)), if_neg (show ¬ (1 : Int32) = 0 by decide), if_neg (show ¬ nI cₓ = 0 by rw [q1ₓ]; decide), if_pos (show 25 ≤ kₓ ∧ kₓ ≤ 27 by omega)]
theorem cmp_both {nₓ : Nat} {bₓ : Nat → Nat} {dₓ : List (Nat × Nat)} {ox br om : Nat} {gₓ : Prg} {W0ₓ Pₓ stₓ : List Nat} (hW0 : ∀ xₓ l, W0ₓ = xₓ :: l → rk xₓ < 4) (hWl : W0ₓ.length ≤ 32) (ho : ox < 100) (hst : stₓ.length < 26) {Sₓ T : Mem} {fₓ iₓ kₓ pₓ eₓ numₓ : Nat} {cx : List (Nat × Nat)} (hR : Rn nₓ bₓ Sₓ T fₓ iₓ kₓ pₓ eₓ numₓ cx W0ₓ ox br gₓ cx Pₓ om) (ht : fX3_take Sₓ = fX3_takeUnit Sₓ) (h11 : Sₓ 38 11 = nI 0) (hTy : Tyₓ dₓ cx stₓ) : Resₓ Sₓ T (XT fₓ Sₓ iₓ) (fX8_readCompared T) (fun S' T' f' i' k' p' e' num' => CLₓ nₓ bₓ dₓ W0ₓ ox br gₓ Pₓ om stₓ S' T' f' i' k' p' e' num' ∧ pₓ < p') := by
  have hlen := hR.len
  unfold fX8_readCompared
  refine (sum_both (show 0 < 2 by omega) (fun xₓ l qₓ => by have := hW0 xₓ l qₓ; omega) (by omega) ho (by omega) hR ht h11 hTy).seq (fun T' qₓ => ?_) (fun S3 T3 f3ₓ i3ₓ k3ₓ p3ₓ e3ₓ num3 m1ₓ m3ₓ m4ₓ vₓ => ?_)
  · rw [qₓ, bnd_e, if_pos (show -nI 1 = -1 from rfl)]
    rfl
  · obtain ⟨Eₓ, Fₓ, hE, hF, ⟨cx1, tₓ, hR1, h9, h11', ht1, hTy1⟩, nk, pp⟩ := vₓ
    obtain ⟨l1, l2, l3⟩ := okEF hE hF
    obtain ⟨h1, h2, h3, h4, h5, h6, h7, h8⟩ := id hR1
    obtain ⟨-, q2ₓ, q3ₓ, q4ₓ, q5ₓ, q6ₓ, q7ₓ, q8ₓ, q9ₓ, q10ₓ, -, -, -, q14ₓ, -⟩ := id h2
    have s60 : fX8_isSign T3 (60 : Int32) = some (if k3ₓ = 25 then nI 1 else nI 0, T3) := sgn_M h2 (show 7 < 10 by omega)
    have s61 : fX8_isSign T3 (61 : Int32) = some (if k3ₓ = 26 then nI 1 else nI 0, T3) := sgn_M h2 (show 8 < 10 by omega)
    have s62 : fX8_isSign T3 (62 : Int32) = some (if k3ₓ = 27 then nI 1 else nI 0, T3) := sgn_M h2 (show 9 < 10 by omega)
    refine ⟨T3, FM.rf T3, ?_⟩
    rw [m1ₓ, bnd_e, if_neg (show ¬ nI 0 = -1 by decide), s60, bnd_e]
    by_cases hop : 25 ≤ k3ₓ ∧ k3ₓ ≤ 27
    · obtain ⟨aₓ, haₓ, hak⟩ : ∃ aₓ, (aₓ = 6 ∨ aₓ = 7 ∨ aₓ = 8) ∧ xsg aₓ = k3ₓ := by
        rcases (show k3ₓ = 25 ∨ k3ₓ = 26 ∨ k3ₓ = 27 by omega) with qₓ | qₓ | qₓ
        · exact ⟨6, Or.inl rfl, qₓ.symm⟩
        · exact ⟨7, Or.inr (Or.inl rfl), qₓ.symm⟩
        · exact ⟨8, Or.inr (Or.inr rfl), qₓ.symm⟩
      have rka : rk aₓ = 4 := by rcases haₓ with rfl | rfl | rfl <;> rfl
      obtain ⟨S2, T2, f2ₓ, k2ₓ, p2ₓ, e2ₓ, num2, z1, z2, z3, z4, z6, z7, z9, z11, z10⟩ := op_go hR1 h9 h11' (show 0 < 2 by omega) (by omega) hak (fun _ => rfl) (by rw [rka]; exact fun xₓ hx => ⟨by have := (l3 xₓ hx).1; omega, (l3 xₓ hx).2⟩) l2 (by rw [rka]; exact hW0) (by omega) ho
      rw [if_neg (show ¬ aₓ = 5 by omega)] at z9
      rw [if_pos (show 6 ≤ aₓ by omega)] at z11
      have mM : (if (if k3ₓ = 25 then nI 1 else nI 0) = 0 then bnd (fX8_isSign T3 (61 : Int32)) fun r_7 S_8 => (if r_7 = 0 then bnd (fX8_isSign S_8 (62 : Int32)) fun r_10 S_11 => (if r_10 = 0 then bnd (fX8_errs S_11 (1 : Int32)) fun r_13 S_14 => some (r_13, S_14) else fX8_readCompared_43 S_11) else fX8_readCompared_43 S_8) else fX8_readCompared_43 T3) = bnd (fX8_readSum T2) fun r_3 S_4 => (if r_3 = (-1 : Int32) then some ((-1 : Int32), S_4) else bnd (fX8_emits S_4 (nI aₓ) (0 : Int32)) fun _ S_7 => some ((0 : Int32), S_7)) := by
        have t20 : T3 0 20 = nI (sgl.getD (k3ₓ - 18) 0) := (q14ₓ (by omega) (by omega)).2
        have e43 : fX8_readCompared_43 T3 = bnd (fX8_readSum T2) fun r_3 S_4 => (if r_3 = (-1 : Int32) then some ((-1 : Int32), S_4) else bnd (fX8_emits S_4 (nI aₓ) (0 : Int32)) fun _ S_7 => some ((0 : Int32), S_7)) := by
          unfold fX8_readCompared_43 fX8_readCompared_73
          rcases haₓ with rfl | rfl | rfl
          · have hk : k3ₓ = 25 := hak.symm
            have tₓ : T3 0 20 = nI 60 := by rw [t20, hk]; rfl
            rw [tₓ, if_pos (show nI 60 = 60 from rfl), z2, bnd_e]
            rfl
          · have hk : k3ₓ = 26 := hak.symm
            have tₓ : T3 0 20 = nI 61 := by rw [t20, hk]; rfl
            rw [tₓ, if_neg (show ¬ nI 61 = 60 by decide), if_pos (show nI 61 = 61 from rfl), z2, bnd_e]
            rfl
          · have hk : k3ₓ = 27 := hak.symm
            have tₓ : T3 0 20 = nI 62 := by rw [t20, hk]; rfl
            rw [tₓ, if_neg (show ¬ nI 62 = 60 by decide), if_neg (show ¬ nI 62 = 61 by decide), z2, bnd_e]
            rfl
        rw [← e43]
        by_cases a25 : k3ₓ = 25
        · rw [if_pos a25, if_neg (show ¬ nI 1 = 0 by decide)]
        · rw [if_neg a25, if_pos (show nI 0 = 0 from rfl), s61, bnd_e]
          by_cases a26 : k3ₓ = 26
          · rw [if_pos a26, if_neg (show ¬ nI 1 = 0 by decide)]
          · rw [if_neg a26, if_pos (show nI 0 = 0 from rfl), s62, bnd_e, if_pos (show k3ₓ = 27 by omega), if_neg (show ¬ nI 1 = 0 by decide)]
      rw [mM]
      have hp := sum_both (dₓ := dₓ) (stₓ := tₓ :: stₓ) (show 1 < 2 by omega) (W0ₓ := aₓ :: W0ₓ) (fun xₓ l qₓ => by
        obtain ⟨rfl, -⟩ := List.cons.inj qₓ
        omega) (by rw [List.length_cons]; omega) ho (by rw [List.length_cons]; omega) z7 ((take_d z9 (by omega)).trans (by rfl)) z11 hTy1
      refine Resₓ.pre (hp.seq (fun T' qₓ => ?_) (fun S4 T4 f4ₓ i4ₓ k4ₓ p4ₓ e4ₓ num4 m1' m3' m4' vₓ => ?_)) z1 z3 z4 z10
      · rw [qₓ, bnd_e, if_pos (show -nI 1 = -1 from rfl)]
        rfl
      · obtain ⟨E'ₓ, F', hE', hF', ⟨cx', t', w2ₓ, w3ₓ, w4ₓ, w5, w6ₓ⟩, w7ₓ, w8⟩ := vₓ
        obtain ⟨k1ₓ, k2ₓ, k3'⟩ := okEFc hE' hF' haₓ
        have lcm : (cx' ++ mpₓ (E'ₓ ++ F')).length + 1 ≤ cx'.length + (E'ₓ ++ F' ++ aₓ :: W0ₓ).length := by
          unfold mpₓ
          simp only [List.length_append, List.length_map, List.length_cons]
          omega
        obtain ⟨em1, em2⟩ := w2ₓ.em (aₓ := aₓ) lcm
        have hTy3 := w6ₓ.add (ty_cp (aₓ := aₓ) (xₓ := tₓ) (yₓ := t') (stₓ := stₓ) haₓ ht1 w5)
        have eW : E'ₓ ++ F' ++ aₓ :: W0ₓ = (E'ₓ ++ F' ++ [aₓ]) ++ W0ₓ := by rw [List.append_assoc (E'ₓ ++ F') [aₓ] W0ₓ]; rfl
        have eCₓ : cx' ++ mpₓ (E'ₓ ++ F') ++ [(aₓ, 0)] = cx' ++ mpₓ (E'ₓ ++ F' ++ [aₓ]) := by rw [mp_app (E'ₓ ++ F') [aₓ], ← List.append_assoc cx' (mpₓ (E'ₓ ++ F')) (mpₓ [aₓ])]; rfl
        refine ⟨emM T4 (cx' ++ mpₓ (E'ₓ ++ F')).length (nI aₓ) (nI 0), emM_FM _ _ _ _, ?_⟩
        rw [m1', bnd_e, if_neg (show ¬ nI 0 = -1 by decide), show (0 : Int32) = nI 0 from rfl, em1, bnd_e]
        rw [eW, eCₓ] at em2
        rw [eCₓ] at hTy3
        obtain ⟨-, y2, -⟩ := id w2ₓ
        obtain ⟨-, -, -, -, -, -, -, y8, y9, -⟩ := id y2
        refine Or.inr ⟨S4, _, f4ₓ, i4ₓ, k4ₓ, p4ₓ, e4ₓ, num4, rfl, FM.rf _, FXₓ.rf _, rfl, rfl, ⟨cx', E'ₓ ++ F' ++ [aₓ], em2, ?_, hTy3, k1ₓ, k2ₓ, k3'⟩, by omega⟩
        exact (tau_no w3ₓ y8 y9 w4ₓ (by omega) w7ₓ (fun qₓ => absurd qₓ (by omega))).trans (if_neg (by omega))
    · have er : (if (if k3ₓ = 25 then nI 1 else nI 0) = 0 then bnd (fX8_isSign T3 (61 : Int32)) fun r_7 S_8 => (if r_7 = 0 then bnd (fX8_isSign S_8 (62 : Int32)) fun r_10 S_11 => (if r_10 = 0 then bnd (fX8_errs S_11 (1 : Int32)) fun r_13 S_14 => some (r_13, S_14) else fX8_readCompared_43 S_11) else fX8_readCompared_43 S_8) else fX8_readCompared_43 T3) = fX8_errs T3 (nI 1) := by
        rw [if_neg (show ¬ k3ₓ = 25 by omega), if_pos (show nI 0 = 0 from rfl), s61, bnd_e, if_neg (show ¬ k3ₓ = 26 by omega), if_pos (show nI 0 = 0 from rfl), s62, bnd_e, if_neg (show ¬ k3ₓ = 27 by omega), if_pos (show nI 0 = 0 from rfl), oeta]
        rfl
      have tx := tau_no h9 q8ₓ q9ₓ h11' (by omega) nk (fun _ => hop)
      rw [if_pos rfl] at tx
      exact Resₓ.err h2 (show 1 ≤ 1 ∧ 1 ≤ 3 by omega) er (XT_err tx (by omega) q6ₓ (FXₓ.rf S3))
