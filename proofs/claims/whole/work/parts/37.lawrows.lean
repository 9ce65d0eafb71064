/-! THE CLAIM OUT OF ONE WALK OF THE LAW'S BODY. Your part is whole_start (and what it stands on); all else here is the same for every law, but numbers. -/
def lw_P (b : Addr) (xs : List Int32) (args : Array Value) (s : State) : Prop := args = #[.ref b] ∧ s.IntsAt b xs ∧ xs.length ≤ 3072 ∧ (Jvm.Cond.and given_1 narrow_1).before args s = true
def lw_Q (_ : Array Value) (s : State) (o : Outcome) (t : State) : Prop := o = .returned (some (.int 1)) ∧ Framed s o t [] 73 13830
def lw_Z (below : List Frame) (a : Array Value) (s : State) : State → Prop := fun t => ∃ o, t.status = .running ∧ Ended t below o ∧ lw_Q a s o t
/-- the law's own end, with 1 on the stack, nothing written that was there before, its room as the claim has it -/
theorem lw_ret {p : Program} {l : Launch} {e : Env} {s : State} {m : MethodId} {below : List Frame} {meth : Method} {c : Code} {b : Nat} (hx : p.tables.exec = Jvm.exec) (hb : c.code = code) (hr : meth.sig.returnType = ret) (hlocks : meth.locks = false) {pc : Nat} {H : Heap} {ls : Array Slot} (hdg : decode code pc = .ok (.ireturn, 1)) : W p l e room_1 s m #[Value.ref b] below meth c H [] 73 13830 (lw_Z below #[Value.ref b] s) (F0 m pc ls [.int 1]) := by
  intro T hT X
  obtain ⟨fs, hret, hrun, hended, hW, hframe⟩ := X.leave (v := some (.int 1)) (hlocks := hlocks) (fun h => by rw [hr] at h; cases h)
  have hmeth' : T.vm.method? m = some meth := X.method'
  refine ⟨T.setFrames fs, ?_, .returned (some (.int 1)), hrun, hended, rfl, ⟨_, rfl⟩, hW, hframe⟩
  jvm_step X.here [X.here.top, hx, hb, hdg, hmeth', hr, ret, narrow_b1]
  (try refine ⟨rfl, ?_⟩); (try refine ⟨rfl, ?_⟩)
  first | (intro acts; rw [hret _ acts rfl rfl rfl]) | rw [hret _ _ rfl rfl rfl]
  exact Steps.refl _
/-- what holds at the law's entry: the machine, the code, the tables' words (any of lw_tbl by 'hts w (by decide +kernel)'), the script of L ints xs at the cell b, what the Statement gives of the start (any of its parts by flat_of_before) -/
def lw_At (p : Program) (s : State) (m : MethodId) (meth : Method) (c : Code) (b L : Nat) (xs : Nat → Int32) : Prop :=
  p.tables.exec = Jvm.exec ∧ c.code = code ∧ meth.sig.returnType = ret ∧ c.maxLocals = 4 ∧ s.vm.findClass R_law = some m.cls ∧ (∀ w ∈ lw_tbl, w.before #[Value.ref b] s = true) ∧ va_X b L xs s s.heap ∧ b < s.heap.size ∧ meth.locks = false ∧ (Jvm.Cond.and given_1 narrow_1).before #[Value.ref b] s = true

/-- two methods answer alike and keep the relation -/
def Sim (R : Mem → Mem → Prop) (fx fm : Mem → O) : Prop := ∀ S T, R S T → ∃ r S' T', fx S = some (r, S') ∧ fm T = some (r, T') ∧ R S' T'
def ZL (Z0 : XG) (Q : Nat → Nat) : XG := (Z0.1, Q, Z0.2.2)
def LQ (B : Nat) (Qx : Nat → Nat) : Prop := (∀ i j, i < 46 → j < 46 → Qx i = Qx j → i = j) ∧ ∀ k, k < 46 → B ≤ Qx k ∧ Qx k < B + 46
abbrev qM (B : Nat) : Nat → Nat := fun k => B + 46 + k
def LH (Z0 : XG) (B : Nat) (Qx : Nat → Nat) (S T : Mem) (s : State) (H : Heap) (locs : List Loc) : Prop := va_P Z0.1 vwCl (wd xL (ZL Z0 Qx) S) H ∧ va_P Z0.1 vwCl (wd mL (ZL Z0 (qM B)) T) H ∧ va_S (cA B) s.heap H locs
def LE (p : Program) (s : State) (m : MethodId) (args : Array Value) (c : Code) (Z0 : XG) (B : Nat) : Prop := p.tables.exec = Jvm.exec ∧ c.code = code ∧ c.maxLocals = 4 ∧ s.vm.findClass R_law = some m.cls ∧ (∀ w ∈ gt, w.before args s = true) ∧ va_K Z0.1 vwCl (xtys Z0) s ∧ SF (cA B) Z0 s
theorem wd_adr {L : Lay} {Z : XG} {S : Mem} {k : Nat} {q : Nat × va_E} (h : (wd L Z S)[k]? = some q) : k < L.length ∧ q.1 = Z.2.1 k := wd_at h
section LRows
variable {p : Program} {l : Launch} {e : Env} {R : Room} {s : State} {m : MethodId} {args : Array Value} {below : List Frame} {meth : Method} {c : Code} {H : Heap} {locs : List Loc} {cells slots : Nat} {Q : State → Prop} {Z0 : XG} {B : Nat} {Qx : Nat → Nat} {S T : Mem} {pc : Nat} {ls : Array Slot} {rest : List Value}
theorem l_callX (E : LE p s m args c Z0 B) (X : LH Z0 B Qx S T s H locs) (hq : LQ B Qx) {y : MethodName} {cc' : ByteArray} {nL' n index : Nat} {ret' : Option FieldType} {rm : Room} {As st0 : List Value} {r : Int32} {S1 : Mem} (hw : CWV R_law index RX7 y cc' nL' ret' n) (hM : XM l y cc' nL' ret' rm xL (ZL Z0 Qx) (.ref (Qx 0) :: As) S (XQ xL (ZL Z0 Qx) r S1))
    (hR : (rm.cells == 0 && rm.slots == 0 && Nat.ble (rm.frames + 1) R.frames && Nat.ble (8 + (nL' + 11) + rm.locals) R.locals && Nat.ble cells R.cells && Nat.ble slots R.slots && Nat.ble (rest.map fun v => v.category).sum 8) = true) (hn : As.length = n) (hsz : ls.size = 4) (hst : st0 = As.reverse ++ .ref (Qx 0) :: rest) (hdg : decode code pc = .ok (.invokevirtual index, 3))
    (kk : ∀ (H : Heap) (locs : List Loc), LH Z0 B Qx S1 T s H locs → W p l e R s m args below meth c H locs cells slots Q (F0 m (pc + 3) ls (.int r :: rest))) : W p l e R s m args below meth c H locs cells slots Q (F0 m pc ls st0) := by
  obtain ⟨hx, hb, hml, hown, hts, hK, hSF⟩ := E
  have hA : ∀ q, wA 46 (ZL Z0 Qx) q → cA B q := by rintro q ⟨k, hk, rfl⟩; exact (hq.2 k hk).1
  simp only [Bool.and_eq_true, beq_iff_eq, Nat.ble_eq] at hR
  obtain ⟨⟨⟨⟨⟨⟨r1, r2⟩, r3⟩, r4⟩, r5⟩, r6⟩, r7⟩ := hR
  refine va_calli (mc := 0) (ms := 0) (A0 := cA B) (H0 := s.heap) (A1 := wA 46 (ZL Z0 Qx)) (va_runV (As := As) (rest := rest) ⟨hx, hb, hml, hown, hts⟩ hM (cwV n hts (gt_V hw) rfl r1 r2 hw.2.2.2.2.2 ⟨r3, r4⟩) ⟨XP_blind, va_recv (ci := 7) (q0 := 0) (q := (RX7, TX7, 7)) hK X.1 rfl (wd_get (L := xL) (k := 0) rfl), fun U hU hW => ⟨rfl, by rw [hU]; exact X.1, va_K.moved hW.alike hK, (hSF.go (fun a h1 h2 => by rw [hU]; exact X.2.2.2.1 a h1 h2) hW).narrow hA⟩⟩ rfl hn hsz hst (lv_room r7) hdg ⟨r5, r6⟩) X.2.2 (fun q _ h => hA q h) (fun q h => hA q h) (fun r_ u t H1 locs1 ht hvm hw1 hB hz1 hk1 hS => ?_)
  subst hw1
  refine kk H1 locs1 ⟨by rw [← ht]; exact hB, X.2.1.kept (fun k q hk => hk1 q.1 (X.2.1 k q hk).lt (fun hz => ?_)), hS⟩
  obtain ⟨j, hj, e⟩ := hz
  have h1 := (wd_adr hk).2
  have h2 := (hq.2 j hj).2
  have h3 : q.1 = B + 46 + k := h1
  have h4 : q.1 = Qx j := e
  omega
theorem l_callM (E : LE p s m args c Z0 B) (X : LH Z0 B Qx S T s H locs) (hq : LQ B Qx) {y : MethodName} {cc' : ByteArray} {nL' n index : Nat} {ret' : Option FieldType} {rm : Room} {As st0 : List Value} {r : Int32} {T1 : Mem} (hw : CWV R_law index RX8 y cc' nL' ret' n) (hM : XM l y cc' nL' ret' rm mL (ZL Z0 (qM B)) (.ref (B + 46) :: As) T (XQ mL (ZL Z0 (qM B)) r T1))
    (hR : (rm.cells == 0 && rm.slots == 0 && Nat.ble (rm.frames + 1) R.frames && Nat.ble (8 + (nL' + 11) + rm.locals) R.locals && Nat.ble cells R.cells && Nat.ble slots R.slots && Nat.ble (rest.map fun v => v.category).sum 8) = true) (hn : As.length = n) (hsz : ls.size = 4) (hst : st0 = As.reverse ++ .ref (B + 46) :: rest) (hdg : decode code pc = .ok (.invokevirtual index, 3))
    (kk : ∀ (H : Heap) (locs : List Loc), LH Z0 B Qx S T1 s H locs → W p l e R s m args below meth c H locs cells slots Q (F0 m (pc + 3) ls (.int r :: rest))) : W p l e R s m args below meth c H locs cells slots Q (F0 m pc ls st0) := by
  obtain ⟨hx, hb, hml, hown, hts, hK, hSF⟩ := E
  have hA : ∀ q, wA 27 (ZL Z0 (qM B)) q → cA B q := by rintro q ⟨k, hk, rfl⟩; show B ≤ B + 46 + k; omega
  simp only [Bool.and_eq_true, beq_iff_eq, Nat.ble_eq] at hR
  obtain ⟨⟨⟨⟨⟨⟨r1, r2⟩, r3⟩, r4⟩, r5⟩, r6⟩, r7⟩ := hR
  refine va_calli (mc := 0) (ms := 0) (A0 := cA B) (H0 := s.heap) (A1 := wA 27 (ZL Z0 (qM B))) (va_runV (As := As) (rest := rest) ⟨hx, hb, hml, hown, hts⟩ hM (cwV n hts (gt_V hw) rfl r1 r2 hw.2.2.2.2.2 ⟨r3, r4⟩) ⟨XP_blind, va_recv (ci := 8) (q0 := 0) (q := (RX8, TX8, 49)) hK X.2.1 rfl (wd_get (L := mL) (k := 0) rfl), fun U hU hW => ⟨rfl, by rw [hU]; exact X.2.1, va_K.moved hW.alike hK, (hSF.go (fun a h1 h2 => by rw [hU]; exact X.2.2.2.1 a h1 h2) hW).narrow hA⟩⟩ rfl hn hsz hst (lv_room r7) hdg ⟨r5, r6⟩) X.2.2 (fun q _ h => hA q h) (fun q h => hA q h) (fun r_ u t H1 locs1 ht hvm hw1 hB hz1 hk1 hS => ?_)
  subst hw1
  refine kk H1 locs1 ⟨X.1.kept (fun k q hk => hk1 q.1 (X.1 k q hk).lt (fun hz => ?_)), by rw [← ht]; exact hB, hS⟩
  obtain ⟨j, hj, e⟩ := hz
  have h1 := wd_adr hk
  have h2 := (hq.2 k h1.1).2
  have h3 : q.1 = Qx k := h1.2
  have h4 : q.1 = B + 46 + j := e
  omega
theorem l_callT (E : LE p s m args c Z0 B) (X : LH Z0 B Qx S T s H locs) (hq : LQ B Qx) {index : Nat} {st0 : List Value} {r : Int32} {S1 : Mem} {rm : Room} {cc' : ByteArray} {nL' : Nat} (hw : CWV R_law index RX7 yX7_text cc' nL' (some .int) 0) (hM : XM l yX7_text cc' nL' (some .int) rm xL (ZL Z0 Qx) [.ref (Qx 0)] S (XQt (ZL Z0 Qx) r S1))
    (hR : (rm.cells == 0 && rm.slots == 0 && Nat.ble (rm.frames + 1) R.frames && Nat.ble (8 + (nL' + 11) + rm.locals) R.locals && Nat.ble cells R.cells && Nat.ble slots R.slots && Nat.ble (rest.map fun v => v.category).sum 8) = true) (hsz : ls.size = 4) (hst : st0 = .ref (Qx 0) :: rest) (hdg : decode code pc = .ok (.invokevirtual index, 3))
    (kk : ∀ (H : Heap) (locs : List Loc) (Q2 : Nat → Nat), LQ B Q2 → LH Z0 B Q2 S1 T s H locs → Q2 0 = Qx 0 → W p l e R s m args below meth c H locs cells slots Q (F0 m (pc + 3) ls (.int r :: rest))) : W p l e R s m args below meth c H locs cells slots Q (F0 m pc ls st0) := by
  obtain ⟨hx, hb, hml, hown, hts, hK, hSF⟩ := E
  have hA : ∀ q, wA 46 (ZL Z0 Qx) q → cA B q := by rintro q ⟨k, hk, rfl⟩; exact (hq.2 k hk).1
  simp only [Bool.and_eq_true, beq_iff_eq, Nat.ble_eq] at hR
  obtain ⟨⟨⟨⟨⟨⟨r1, r2⟩, r3⟩, r4⟩, r5⟩, r6⟩, r7⟩ := hR
  refine va_calli (mc := 0) (ms := 0) (A0 := cA B) (H0 := s.heap) (A1 := wA 46 (ZL Z0 Qx)) (va_runV (As := []) (rest := rest) ⟨hx, hb, hml, hown, hts⟩ hM (cwV 0 hts (gt_V hw) rfl r1 r2 hw.2.2.2.2.2 ⟨r3, r4⟩) ⟨XP_blind, va_recv (ci := 7) (q0 := 0) (q := (RX7, TX7, 7)) hK X.1 rfl (wd_get (L := xL) (k := 0) rfl), fun U hU hW => ⟨rfl, by rw [hU]; exact X.1, va_K.moved hW.alike hK, (hSF.go (fun a h1 h2 => by rw [hU]; exact X.2.2.2.1 a h1 h2) hW).narrow hA⟩⟩ rfl rfl hsz hst (lv_room r7) hdg ⟨r5, r6⟩) X.2.2 (fun q _ h => hA q h) (fun q h => hA q h) (fun r_ Z1 t H1 locs1 ht hvm hw1 hB hz1 hk1 hS => ?_)
  obtain ⟨rfl, hZ⟩ := hw1
  have hM2 : va_P Z0.1 vwCl (wd mL (ZL Z0 (qM B)) T) H1 := X.2.1.kept (fun k q hk => hk1 q.1 (X.2.1 k q hk).lt (fun hz => by
    obtain ⟨j, hj, e⟩ := hz
    have h1 := (wd_adr hk).2
    have h2 := (hq.2 j hj).2
    have h3 : q.1 = B + 46 + k := h1
    have h4 : q.1 = Qx j := e
    omega))
  rcases hZ with rfl | rfl
  · exact kk H1 locs1 Qx hq ⟨by rw [← ht]; exact hB, hM2, hS⟩ rfl
  · refine kk H1 locs1 (fun k => Qx (sw k)) ⟨fun i j hi hj e => ?_, fun k hk => hq.2 (sw k) (sw_lt hk)⟩ ⟨by rw [← ht]; exact hB, hM2, hS⟩ rfl
    have := hq.1 (sw i) (sw j) (sw_lt hi) (sw_lt hj) e
    rw [← sw_sw i, this, sw_sw]
end LRows

def LawOK (R : Mem → Mem → Prop) : Prop := (∀ a1 : Int32, Sim R (fun S => fX7_state S a1) (fun T => fX8_state T a1)) ∧
  (∀ a1 : Int32, ∀ a2 : Int32, ∀ a3 : Int32, Sim R (fun S => fX7_hour S a1 a2 a3) (fun T => fX8_hour T a1 a2 a3)) ∧
  (∀ a1 : Int32, ∀ a2 : Int32, Sim R (fun S => fX7_set S a1 a2) (fun T => fX8_set T a1 a2)) ∧
  (∀ a1 : Int32, ∀ a2 : Int32, ∀ a3 : Int32, ∀ a4 : Int32, ∀ a5 : Int32, Sim R (fun S => fX7_pilgrim S a1 a2 a3 a4 a5) (fun T => fX8_pilgrim T a1 a2 a3 a4 a5)) ∧
  (∀ a1 : Int32, ∀ a2 : Int32, ∀ a3 : Int32, Sim R (fun S => fX7_give S a1 a2 a3) (fun T => fX8_give T a1 a2 a3)) ∧
  (∀ a1 : Int32, ∀ a2 : Int32, ∀ a3 : Int32, isB a3 = true → Sim R (fun S => fX7_quarrel S a1 a2 a3) (fun T => fX8_quarrel T a1 a2 a3)) ∧
  (∀ a1 : Int32, ∀ a2 : Int32, ∀ a3 : Int32, ∀ a4 : Int32, ∀ a5 : Int32, Sim R (fun S => fX7_feed S a1 a2 a3 a4 a5) (fun T => fX8_feed T a1 a2 a3 a4 a5)) ∧
  (∀ a1 : Int32, Sim R (fun S => fX7_end S a1) (fun T => fX8_end T a1)) ∧
  (Sim R (fun S => fX7_text S ) (fun T => fX8_text T )) ∧
  (∀ a1 : Int32, Sim R (fun S => fX7_fault S a1) (fun T => fX8_fault T a1)) ∧
  (∀ a1 : Int32, Sim R (fun S => fX7_hours S a1) (fun T => fX8_hours T a1)) ∧
  (Sim R (fun S => fX7_evening S ) (fun T => fX8_evening T )) ∧
  (∀ a1 : Int32, ∀ a2 : Int32, Sim R (fun S => fX7_of S a1 a2) (fun T => fX8_of T a1 a2)) ∧
  (∀ a1 : Int32, ∀ a2 : Int32, Sim R (fun S => fX7_shade S a1 a2) (fun T => fX8_shade T a1 a2)) ∧
  (∀ a1 : Int32, ∀ a2 : Int32, Sim R (fun S => fX7_book S a1 a2) (fun T => fX8_book T a1 a2)) ∧
  (∀ a1 : Int32, ∀ a2 : Int32, ∀ a3 : Int32, Sim R (fun S => fX7_walk S a1 a2 a3) (fun T => fX8_walk T a1 a2 a3)) ∧
  (∀ a1 : Int32, ∀ a2 : Int32, Sim R (fun S => fX7_fewest S a1 a2) (fun T => fX8_fewest T a1 a2)) ∧
  (∀ a1 : Int32, ∀ a2 : Int32, ∀ a3 : Int32, Sim R (fun S => fX7_turn S a1 a2 a3) (fun T => fX8_turn T a1 a2 a3)) ∧
  (∀ a1 : Int32, ∀ a2 : Int32, ∀ a3 : Int32, Sim R (fun S => fX7_halts S a1 a2 a3) (fun T => fX8_halts T a1 a2 a3)) ∧
  (∀ a1 : Int32, ∀ a2 : Int32, Sim R (fun S => fX7_told S a1 a2) (fun T => fX8_told T a1 a2)) ∧
  (∀ a1 : Int32, Sim R (fun S => fX7_thief S a1) (fun T => fX8_thief T a1)) ∧
  (Sim R (fun S => fX7_undo S ) (fun T => fX8_undo T )) ∧
  (∀ a1 : Int32, isB a1 = true → Sim R (fun S => fX7_image S a1) (fun T => fX8_image T a1)) ∧
  (∀ a1 : Int32, Sim R (fun S => fX7_look S a1) (fun T => fX8_look T a1))
