/-! what the Statement gives of the start: static arrays, texts, classes -/
abbrev gv0 : List Cond := flatC (Jvm.Cond.and given_1 narrow_1)
theorem sa_of {nm : String} {xs : List Int32} {args : Array Value} {s : State} {A : Nat → Prop} (hts : ∀ w ∈ lw_tbl, w.before args s = true) (hg : ∀ w ∈ gv0, w.before args s = true) (hA : ∀ a : Nat, a < s.heap.size → ¬ A a) (hn : xs.length < 2 ^ 31)
    (h1 : Cond.laysStatic RX7 nm "[I" ∈ lw_tbl) (h2 : Cond.initialized RX7 ∈ lw_tbl) (h3 : Cond.arrayOf (.static RX7 nm "[I") .int ∈ gv0) (h4 : Cond.eq (.length (.static RX7 nm "[I")) (.int (Int32.ofNat xs.length)) ∈ gv0) (h5 : ∀ j, j < xs.length → Cond.eq (.elem (.static RX7 nm "[I") (.int (Int32.ofNat j))) (.int (xs.getD j 0)) ∈ gv0) : saT nm xs A s := by
  obtain ⟨t, ht, hT⟩ := va_Tof (f := fun j => .int (xs.getD j 0)) (A := A) hn (hg _ h3) (va_eqt (hg _ h4)) (fun j hj => va_eqt (hg _ (h5 j hj))) hA
  exact ⟨t, va_Zof (hts _ h1) (hts _ h2) ht hA, hT⟩
def tmS (i : Nat) : Term := if i = 0 then .string RX3 94 else .string RX3 84
theorem start_strs {args : Array Value} {s : State} {A : Nat → Prop} (hg : ∀ w ∈ gv0, w.before args s = true) (hA : ∀ a : Nat, a < s.heap.size → ¬ A a) : ∃ adK adV : Nat → Nat, vk_S 2 [93, 10] [by_WORDS, by_SIGNS] adK adV A s s.heap ∧ ∀ i : Nat, i < 2 → (tmS i).eval args s none [] s = some (.ref (adK i)) := by
  refine vk_Sof (tm := tmS) (fun i hi => ?_) (fun i hi => hg _ ?_) (fun i hi => hg _ ?_) (fun i hi => hg _ ?_) (fun i hi => hg _ ?_) (fun i hi j hj => hg _ ?_) (fun i j hi hj hij => ?_) hA
  · rcases (show i = 0 ∨ i = 1 by omega) with rfl | rfl <;> decide
  · rcases (show i = 0 ∨ i = 1 by omega) with rfl | rfl <;> decide +kernel
  · rcases (show i = 0 ∨ i = 1 by omega) with rfl | rfl <;> decide +kernel
  · rcases (show i = 0 ∨ i = 1 by omega) with rfl | rfl <;> decide +kernel
  · rcases (show i = 0 ∨ i = 1 by omega) with rfl | rfl <;> decide +kernel
  · rcases (show i = 0 ∨ i = 1 by omega) with rfl | rfl
    · exact (show ∀ j, j < 93 → Cond.eq (.elem (.field (tmS 0) "java/lang/String" "value" "[B") (.int (Int32.ofNat j))) (.int (by_WORDS.getD j 0)) ∈ gv0 by decide +kernel) j hj
    · exact (show ∀ j, j < 10 → Cond.eq (.elem (.field (tmS 1) "java/lang/String" "value" "[B") (.int (Int32.ofNat j))) (.int (by_SIGNS.getD j 0)) ∈ gv0 by decide +kernel) j hj
  · have h0 : (Cond.not (Cond.eq (tmS 0) (tmS 1))).before args s = true := hg _ (by decide +kernel)
    rcases (show i = 0 ∨ i = 1 by omega) with rfl | rfl <;> rcases (show j = 0 ∨ j = 1 by omega) with rfl | rfl
    · exact absurd rfl hij
    · exact Or.inl h0
    · exact Or.inr h0
    · exact absurd rfl hij
theorem nwM_in : ∀ q ∈ nwM, Cond.methodLinkNest q.1 q.2.1 q.2.2.1 q.2.2.2 ∈ lw_tbl := by decide +kernel
theorem nwF_in : ∀ q ∈ nwF, Cond.fieldLinkNest q.1 q.2.1 q.2.2.1 q.2.2.2.1 q.2.2.2.2.1 q.2.2.2.2.2 ∈ lw_tbl := by decide +kernel
theorem start_SF {args : Array Value} {s : State} {A : Nat → Prop} (hts : ∀ w ∈ lw_tbl, w.before args s = true) (hgv : (Jvm.Cond.and given_1 narrow_1).before args s = true) (hA : ∀ a : Nat, a < s.heap.size → ¬ A a) : ∃ adK adV : Nat → Nat, ∀ (D : va_G) (Q : Nat → Nat) (cI cB : ClassId), SF A (D, Q, cI, cB, adK, adV) s := by
  have hg : ∀ w ∈ gv0, w.before args s = true := flat_of_before _ hgv
  obtain ⟨adK, adV, hS, hev⟩ := start_strs (A := A) hg hA
  refine ⟨adK, adV, fun D Q cI cB => ⟨?_, ?_, ?_, ?_, ?_, ?_, ?_, ?_, ?_, ?_, hS⟩⟩
  · exact sa_of hts hg hA (by decide) (by decide +kernel) (by decide +kernel) (by decide +kernel) (by decide +kernel) (by decide +kernel)
  · exact sa_of hts hg hA (by decide) (by decide +kernel) (by decide +kernel) (by decide +kernel) (by decide +kernel) (by decide +kernel)
  · exact sa_of hts hg hA (by decide) (by decide +kernel) (by decide +kernel) (by decide +kernel) (by decide +kernel) (by decide +kernel)
  · exact sa_of hts hg hA (by decide) (by decide +kernel) (by decide +kernel) (by decide +kernel) (by decide +kernel) (by decide +kernel)
  · exact sa_of hts hg hA (by decide) (by decide +kernel) (by decide +kernel) (by decide +kernel) (by decide +kernel) (by decide +kernel)
  · exact va_Zof (hts _ (by decide +kernel)) (hts _ (by decide +kernel)) (va_eqt (hg (Cond.eq (.static RJ0 "COMPACT_STRINGS" "Z") (.int 1)) (by decide +kernel))) hA
  · exact ⟨fun q hq => va_Nw.of rfl (hts _ (nwM_in q hq)), fun q hq => va_Nw.of rfl (hts _ (nwF_in q hq))⟩
  · rcases va_Zqof (A := A) (hts (Cond.laysStatic "jdk/internal/util/Preconditions" "SIOOBE_FORMATTER" "Ljava/util/function/BiFunction;") (by decide +kernel)) (hts _ (by decide +kernel)) (hg _ (by decide +kernel)) hA with h | ⟨t, h⟩
    · exact ⟨.null, h, Or.inl rfl⟩
    · exact ⟨.ref t, h, Or.inr ⟨t, rfl⟩⟩
  · exact vk_R.of (A := args) (hts (Cond.stringRef RX3 94 tx_WORDS) (by decide +kernel)) (hev 0 (by decide))
  · exact vk_R.of (A := args) (hts (Cond.stringRef RX3 84 tx_SIGNS) (by decide +kernel)) (hev 1 (by decide))
theorem arr_known {args : Array Value} {s : State} {ty : FieldType} (h : (Cond.arrayClass ty).before args s = true) (hty : ∀ (U : State) (c : ClassId), U.vm.findClass ("[" ++ ty.toString) = some c → va_RA U c ty) : ∃ cA : ClassId, ArrOfT s cA ty ∧ va_RA s cA ty := by
  obtain ⟨cA, kA, comp, h1, h2, h3⟩ := Cond.arrayClass_spec h
  exact ⟨cA, fun n z => ⟨fun k h => (by cases h), kA, h2, comp, h3⟩, hty s cA h1⟩
theorem start_K {args : Array Value} {s : State} (hts : ∀ w ∈ lw_tbl, w.before args s = true) : ∃ (D : va_G) (cI cB : ClassId), va_K D vwCl [(cI, .int), (cB, .byte)] s := by
  have hg : ∀ w ∈ gt, w.before args s = true := fun w hw => hts w (gt_sub hw)
  obtain ⟨c0, i0, k0⟩ := u_known (C := RX0) (T := TX0) (N := 2) (n := 2) hg inX0 (hts _ (by decide +kernel))
  obtain ⟨c1, i1, k1⟩ := u_known (C := RX1) (T := TX1) (N := 2) (n := 2) hg inX1 (hts _ (by decide +kernel))
  obtain ⟨c2, i2, k2⟩ := u_known (C := RX2) (T := TX2) (N := 5) (n := 5) hg inX2 (hts _ (by decide +kernel))
  obtain ⟨c3, i3, k3⟩ := u_known (C := RX3) (T := TX3) (N := 16) (n := 16) hg inX3 (hts _ (by decide +kernel))
  obtain ⟨c4, i4, k4⟩ := u_known (C := RX4) (T := TX4) (N := 6) (n := 6) hg inX4 (hts _ (by decide +kernel))
  obtain ⟨c5, i5, k5⟩ := u_known (C := RX5) (T := TX5) (N := 10) (n := 10) hg inX5 (hts _ (by decide +kernel))
  obtain ⟨c6, i6, k6⟩ := u_known (C := RX6) (T := TX6) (N := 13) (n := 13) hg inX6 (hts _ (by decide +kernel))
  obtain ⟨c7, i7, k7⟩ := u_known (C := RX7) (T := TX7) (N := 7) (n := 7) hg inX7 (hts _ (by decide +kernel))
  obtain ⟨c8, i8, k8⟩ := u_known (C := RX8) (T := TX8) (N := 49) (n := 49) hg inX8 (hts _ (by decide +kernel))
  obtain ⟨cI, a1, a2⟩ := arr_known (hg _ ac_I) (fun _ _ h => h)
  obtain ⟨cB, b1, b2⟩ := arr_known (hg _ ac_B) (fun _ _ h => h)
  refine ⟨(fun k => [c0, c1, c2, c3, c4, c5, c6, c7, c8].getD k c0, fun k => [i0, i1, i2, i3, i4, i5, i6, i7, i8].getD k i0), cI, cB, fun k q hq => ?_, fun k q hq => ?_⟩
  · match k, hq with
    | 0, hq => cases hq; exact k0
    | 1, hq => cases hq; exact k1
    | 2, hq => cases hq; exact k2
    | 3, hq => cases hq; exact k3
    | 4, hq => cases hq; exact k4
    | 5, hq => cases hq; exact k5
    | 6, hq => cases hq; exact k6
    | 7, hq => cases hq; exact k7
    | 8, hq => cases hq; exact k8
    | k + 9, hq => simp [vwCl] at hq
  · match k, hq with
    | 0, hq => cases hq; exact ⟨a1, a2⟩
    | 1, hq => cases hq; exact ⟨b1, b2⟩
    | k + 2, hq => simp at hq
