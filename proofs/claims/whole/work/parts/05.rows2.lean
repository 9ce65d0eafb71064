/-! more rows: names of computed numbers, small numbers' functions, switches, Math -/
def ltm (S : Mem) (f : Mem → O) : O := f S
def lti (v : Int32) (f : Int32 → O) : O := f v
theorem ltm_s {S : Mem} {f : Mem → O} {y : Int32 × Mem} (h : ltm S f = some y) : ∃ S1, S1 = S ∧ f S1 = some y := ⟨S, rfl, h⟩
theorem lti_s {v : Int32} {f : Int32 → O} {y : Int32 × Mem} (h : lti v f = some y) : ∃ x, x = v ∧ f x = some y := ⟨v, rfl, h⟩
def nz (y : Int32) : Bool := decide (¬ y = 0)
abbrev ushr (x y : Int32) : Int32 := (x.toUInt32 >>> (y.toUInt32 &&& Int32.toUInt32 31)).toInt32
abbrev irem (x y : Int32) : Int32 := x - x / y * y
abbrev i2c (x : Int32) : Int32 := (x.toUInt32 % 65536).toInt32
abbrev imax (x y : Int32) : Int32 := if x < y then y else x
abbrev iabs (x : Int32) : Int32 := if 0 ≤ x then x else 0 - x
abbrev WN (p : Program) (l : Launch) (e : Env) (R : Room) (s : State) (m : MethodId) (args : Array Value) (below : List Frame) (meth : Method) (c : Code) (L : Lay) (Z : XG) (Qc : Array Value → State → Outcome → State → Prop) (S : Mem) (pc nL : Nat) (lv : List (Nat × Value)) (st : List Value) : Prop :=
  ∀ (H : Heap) (locs : List Loc) (ls : Array Slot), XH L Z S s H locs → lv_has ls nL lv → W p l e R s m args below meth c H locs 0 0 (MQ below Qc args s 0 0 (wA L.length Z)) (F0 m pc ls st)
section XRows2
variable {p : Program} {l : Launch} {e : Env} {R : Room} {s : State} {m : MethodId} {args : Array Value} {below : List Frame} {meth : Method} {c : Code} {H : Heap} {locs : List Loc} {cells slots : Nat} {Q : State → Prop} {cc : ByteArray} {nL : Nat} {own : String} {ret : Option FieldType} {L : Lay} {Z : XG} {S : Mem} {pc : Nat} {ls : Array Slot} {rest : List Value}
theorem lv_nm {x y : Int32} (he : y = x) (k : W p l e R s m args below meth c H locs cells slots Q (F0 m pc ls (.int y :: rest))) : W p l e R s m args below meth c H locs cells slots Q (F0 m pc ls (.int x :: rest)) := he ▸ k
theorem tbl_eq {x : Int32} {z : Int} {v : Int32} (h : x.toInt = z) (hv : v.toInt = z) : x = v := Int32.toInt_inj.mp (h.trans hv.symm)
theorem lv_tableD (hexec : p.tables.exec = Jvm.exec) (hb : c.code = cc) {dflt lo hi : Int} {offs : Array Int} {len : Nat} {x : Int32} {tgt : Nat} (hdg : decode cc pc = .ok (.tableswitch dflt lo hi offs, len)) (ht : (pc : Int) + dflt = (tgt : Int) ∧ (offs.size : Int) = hi - lo + 1) (ho : ∀ i : Nat, i < offs.size → x.toInt = lo + i → offs[i]? = some dflt)
    (k : W p l e R s m args below meth c H locs cells slots Q (F0 m tgt ls rest)) : W p l e R s m args below meth c H locs cells slots Q (F0 m pc ls (.int x :: rest)) := by
  by_cases h1 : x.toInt < lo
  · exact lv_tableOut hexec hb hdg (Or.inl h1) ht.1 k
  · by_cases h2 : hi < x.toInt
    · exact lv_tableOut hexec hb hdg (Or.inr h2) ht.1 k
    · exact lv_tableIn hexec hb hdg h1 h2 (ho (x.toInt - lo).toNat (by omega) (by omega)) ht.1 k
def CMW (own : String) (index : Nat) (y : MethodName) (cc' : ByteArray) (n : Nat) : Prop := Cond.methodLink own index y ∈ gt ∧ Cond.static y ∈ gt ∧ Cond.initialized "java/lang/Math" ∈ gt ∧ Cond.code y cc' n (some .int) ∈ gt
theorem x_mmax (E : XE p s m args meth c cc nL own ret L Z) {index : Nat} {x y : Int32} (hw : CMW own index Lib.Math.max.name Lib.Math.max.code 2) (hsz : ls.size = nL) (h1 : Nat.ble 1 R.frames = true) (h2 : Nat.ble ((rest.map fun v => v.category).sum + 13) R.locals = true) (h3 : Nat.ble cells R.cells = true) (h4 : Nat.ble slots R.slots = true) (hdg : decode cc pc = .ok (.invokestatic index, 3))
    (kk : W p l e R s m args below meth c H locs cells slots Q (F0 m (pc + 3) ls (.int (if x < y then y else x) :: rest))) : W p l e R s m args below meth c H locs cells slots Q (F0 m pc ls (.int y :: .int x :: rest)) := by
  obtain ⟨hx, hb, hml, hown, hts, hr, hlocks, hK, hSF, hQ⟩ := E
  exact va_mmax hx hb (by rw [hml, hsz]) hown (hts _ hw.1) (hts _ hw.2.1) (hts _ hw.2.2.1) (hts _ hw.2.2.2) (Nat.le_of_ble_eq_true h1) (Nat.le_of_ble_eq_true h2) (Nat.le_of_ble_eq_true h3) (Nat.le_of_ble_eq_true h4) hdg kk
theorem x_mabs (E : XE p s m args meth c cc nL own ret L Z) {index : Nat} {x : Int32} (hw : CMW own index Lib.Math.abs.name Lib.Math.abs.code 1) (hsz : ls.size = nL) (h1 : Nat.ble 1 R.frames = true) (h2 : Nat.ble ((rest.map fun v => v.category).sum + 13) R.locals = true) (h3 : Nat.ble cells R.cells = true) (h4 : Nat.ble slots R.slots = true) (hdg : decode cc pc = .ok (.invokestatic index, 3))
    (kk : W p l e R s m args below meth c H locs cells slots Q (F0 m (pc + 3) ls (.int (if 0 ≤ x then x else 0 - x) :: rest))) : W p l e R s m args below meth c H locs cells slots Q (F0 m pc ls (.int x :: rest)) := by
  obtain ⟨hx, hb, hml, hown, hts, hr, hlocks, hK, hSF, hQ⟩ := E
  exact va_mabs hx hb (by rw [hml, hsz]) hown (hts _ hw.1) (hts _ hw.2.1) (hts _ hw.2.2.1) (hts _ hw.2.2.2) (Nat.le_of_ble_eq_true h1) (Nat.le_of_ble_eq_true h2) (Nat.le_of_ble_eq_true h3) (Nat.le_of_ble_eq_true h4) hdg kk
theorem x_mmin (E : XE p s m args meth c cc nL own ret L Z) {index : Nat} {x y : Int32} (hw : CMW own index Lib.Math.min.name Lib.Math.min.code 2) (hsz : ls.size = nL) (h1 : Nat.ble 1 R.frames = true) (h2 : Nat.ble ((rest.map fun v => v.category).sum + 13) R.locals = true) (h3 : Nat.ble cells R.cells = true) (h4 : Nat.ble slots R.slots = true) (hdg : decode cc pc = .ok (.invokestatic index, 3))
    (kk : W p l e R s m args below meth c H locs cells slots Q (F0 m (pc + 3) ls (.int (if y < x then y else x) :: rest))) : W p l e R s m args below meth c H locs cells slots Q (F0 m pc ls (.int y :: .int x :: rest)) := by
  obtain ⟨hx, hb, hml, hown, hts, hr, hlocks, hK, hSF, hQ⟩ := E
  exact va_mmin hx hb (by rw [hml, hsz]) hown (hts _ hw.1) (hts _ hw.2.1) (hts _ hw.2.2.1) (hts _ hw.2.2.2) (Nat.le_of_ble_eq_true h1) (Nat.le_of_ble_eq_true h2) (Nat.le_of_ble_eq_true h3) (Nat.le_of_ble_eq_true h4) hdg kk
abbrev imin (x y : Int32) : Int32 := if y < x then y else x
def isC (v : Int32) : Bool := decide (narrow .char (.int v) = .int v)
theorem x_cret (E : XE p s m args meth c cc nL own (some .char) L Z) (X : XH L Z S s H locs) {v r : Int32} {S' : Mem} (hv : isC v = true) (h : some (v, S) = some (r, S')) (hdg : decode cc pc = .ok (.ireturn, 1)) : W p l e R s m args below meth c H locs cells slots (MQ below (XQ L Z r S') args s cells slots (wA L.length Z)) (F0 m pc ls [.int v]) := by
  obtain ⟨hx, hb, hml, hown, hts, hr, hlocks, hK, hSF, hQ⟩ := E
  cases h
  exact W.zret (v := v) hx hb hr (of_decide_eq_true hv) (fun t ht hW => ⟨⟨v, (), rfl, rfl, by show va_P Z.1 vwCl (wd L Z S) t.heap; rw [ht]; exact X.1⟩, X.2.F ht⟩) X.2.2.2 hdg
theorem x_bret0 (E : XE p s m args meth c cc nL own (some .byte) L Z) (X : XH L Z S s H locs) {r : Int32} {S' : Mem} (h : some ((0 : Int32), S) = some (r, S')) (hdg : decode cc pc = .ok (.ireturn, 1)) : W p l e R s m args below meth c H locs cells slots (MQ below (XQ L Z r S') args s cells slots (wA L.length Z)) (F0 m pc ls [.int 0]) := by
  obtain ⟨hx, hb, hml, hown, hts, hr, hlocks, hK, hSF, hQ⟩ := E
  cases h
  exact W.zret (v := 0) hx hb hr (by decide +kernel) (fun t ht hW => ⟨⟨0, (), rfl, rfl, by show va_P Z.1 vwCl (wd L Z S) t.heap; rw [ht]; exact X.1⟩, X.2.F ht⟩) X.2.2.2 hdg
/-- the two texts -/
theorem x_ldS0 (E : XE p s m args meth c cc nL RX3 ret L Z) (hdg : decode cc pc = .ok (.ldc 94, 2)) (kk : W p l e R s m args below meth c H locs cells slots Q (F0 m (pc + 2) ls (.ref (Z.2.2.2.2.1 0) :: rest))) : W p l e R s m args below meth c H locs cells slots Q (F0 m pc ls rest) :=
  va_ldcS E.1 E.2.1 E.2.2.2.1 E.2.2.2.2.2.2.2.2.1.2.2.2.2.2.2.2.2.1 hdg kk
theorem x_ldS1 (E : XE p s m args meth c cc nL RX3 ret L Z) (hdg : decode cc pc = .ok (.ldc 84, 2)) (kk : W p l e R s m args below meth c H locs cells slots Q (F0 m (pc + 2) ls (.ref (Z.2.2.2.2.1 1) :: rest))) : W p l e R s m args below meth c H locs cells slots Q (F0 m pc ls rest) :=
  va_ldcS E.1 E.2.1 E.2.2.2.1 E.2.2.2.2.2.2.2.2.1.2.2.2.2.2.2.2.2.2.1 hdg kk
theorem x_sval (E : XE p s m args meth c cc nL own ret L Z) (X : XH L Z S s H locs) {i index : Nat} (hi : i < 2) (hlink : Cond.fieldLink own index "java/lang/String" "value" "[B" ∈ gt) (hdg : decode cc pc = .ok (.getfield index, 3)) (kk : W p l e R s m args below meth c H locs cells slots Q (F0 m (pc + 3) ls (.ref (Z.2.2.2.2.2 i) :: rest))) : W p l e R s m args below meth c H locs cells slots Q (F0 m pc ls (.ref (Z.2.2.2.2.1 i) :: rest)) := by
  obtain ⟨hx, hb, hml, hown, hts, hr, hlocks, hK, hSF, hQ⟩ := E
  exact vk_getf hx hb (hSF.2.2.2.2.2.2.2.2.2.2.1 i hi).2.2.1 X.2 hown (hts _ hlink) (fun _ h => h) hdg kk
theorem x_scod (E : XE p s m args meth c cc nL own ret L Z) (X : XH L Z S s H locs) {i index : Nat} (hi : i < 2) (hlink : Cond.fieldLink own index "java/lang/String" "coder" "B" ∈ gt) (hdg : decode cc pc = .ok (.getfield index, 3)) (kk : W p l e R s m args below meth c H locs cells slots Q (F0 m (pc + 3) ls (.int 0 :: rest))) : W p l e R s m args below meth c H locs cells slots Q (F0 m pc ls (.ref (Z.2.2.2.2.1 i) :: rest)) := by
  obtain ⟨hx, hb, hml, hown, hts, hr, hlocks, hK, hSF, hQ⟩ := E
  exact vk_getf hx hb (hSF.2.2.2.2.2.2.2.2.2.2.1 i hi).2.1 X.2 hown (hts _ hlink) (fun _ h => h) hdg kk
theorem x_slen (E : XE p s m args meth c cc nL own ret L Z) (X : XH L Z S s H locs) {i : Nat} {v : Int32} (hi : i < 2) (hv : Int32.ofNat ([93, 10].getD i 0) = v) (hdg : decode cc pc = .ok (.arraylength, 1)) (kk : W p l e R s m args below meth c H locs cells slots Q (F0 m (pc + 1) ls (.int v :: rest))) : W p l e R s m args below meth c H locs cells slots Q (F0 m pc ls (.ref (Z.2.2.2.2.2 i) :: rest)) := by
  obtain ⟨hx, hb, hml, hown, hts, hr, hlocks, hK, hSF, hQ⟩ := E
  exact va_tlen hx hb (hSF.2.2.2.2.2.2.2.2.2.2.1 i hi).2.2.2 X.2 hv hdg kk
def byS (i : Nat) : List Int32 := [by_WORDS, by_SIGNS].getD i []
theorem x_sbld (E : XE p s m args meth c cc nL own ret L Z) (X : XH L Z S s H locs) {i n : Nat} {j : Int32} (hi : i < 2) (hn : [93, 10].getD i 0 = n) (hj : inB j n = true) (hdg : decode cc pc = .ok (.baload, 1)) (kk : W p l e R s m args below meth c H locs cells slots Q (F0 m (pc + 1) ls (.int ((byS i).getD j.toNatClampNeg 0) :: rest))) : W p l e R s m args below meth c H locs cells slots Q (F0 m pc ls (.int j :: .ref (Z.2.2.2.2.2 i) :: rest)) := by
  obtain ⟨hx, hb, hml, hown, hts, hr, hlocks, hK, hSF, hQ⟩ := E
  subst hn
  exact va_tb hx hb (hSF.2.2.2.2.2.2.2.2.2.2.1 i hi).2.2.2 X.2 (inB_in hj) rfl hdg kk
theorem x_compact (E : XE p s m args meth c cc nL own ret L Z) (X : XH L Z S s H locs) {index : Nat} (hlink : Cond.fieldLink own index RJ0 "COMPACT_STRINGS" "Z" ∈ gt) (hdg : decode cc pc = .ok (.getstatic index, 3)) (kk : W p l e R s m args below meth c H locs cells slots Q (F0 m (pc + 3) ls (.int 1 :: rest))) : W p l e R s m args below meth c H locs cells slots Q (F0 m pc ls rest) := by
  obtain ⟨hx, hb, hml, hown, hts, hr, hlocks, hK, hSF, hQ⟩ := E
  exact va_gets hx hb hSF.2.2.2.2.2.1 X.2 hown (hts _ hlink) (fun _ h => h) hdg kk
theorem x_form (E : XE p s m args meth c cc nL own ret L Z) (X : XH L Z S s H locs) {index : Nat} (hlink : Cond.fieldLink own index "jdk/internal/util/Preconditions" "SIOOBE_FORMATTER" "Ljava/util/function/BiFunction;" ∈ gt) (hdg : decode cc pc = .ok (.getstatic index, 3)) (kk : ∀ v : Value, (v = .null ∨ ∃ t, v = .ref t) → W p l e R s m args below meth c H locs cells slots Q (F0 m (pc + 3) ls (v :: rest))) : W p l e R s m args below meth c H locs cells slots Q (F0 m pc ls rest) := by
  obtain ⟨hx, hb, hml, hown, hts, hr, hlocks, hK, hSF, hQ⟩ := E
  obtain ⟨v, h1, h2⟩ := hSF.2.2.2.2.2.2.2.1
  exact va_gets hx hb h1 X.2 hown (hts _ hlink) (fun _ h => h) hdg (kk v h2)
theorem x_callVs (E : XE p s m args meth c cc nL own ret L Z) (X : XH L Z S s H locs) {y : MethodName} {cc' : ByteArray} {nL' n index i : Nat} {ret' : Option FieldType} {rm : Room} {As st0 : List Value} {r : Int32} {S1 : Mem} (hw : CWV own index RJ0 y cc' nL' ret' n) (hM : XM l y cc' nL' ret' rm L Z (.ref (Z.2.2.2.2.1 i) :: As) S (XQ L Z r S1))
    (hi : i < 2) (hR : (rm.cells == 0 && rm.slots == 0 && Nat.ble (rm.frames + 1) R.frames && Nat.ble (8 + (nL' + 11) + rm.locals) R.locals && Nat.ble cells R.cells && Nat.ble slots R.slots && Nat.ble (rest.map fun v => v.category).sum 8) = true) (hn : As.length = n) (hsz : ls.size = nL) (hst : st0 = As.reverse ++ .ref (Z.2.2.2.2.1 i) :: rest) (hdg : decode cc pc = .ok (.invokevirtual index, 3))
    (kk : ∀ (H : Heap) (locs : List Loc), XH L Z S1 s H locs → W p l e R s m args below meth c H locs cells slots Q (F0 m (pc + 3) ls (.int r :: rest))) : W p l e R s m args below meth c H locs cells slots Q (F0 m pc ls st0) := by
  obtain ⟨hx, hb, hml, hown, hts, hr, hlocks, hK, hSF, hQ⟩ := E
  simp only [Bool.and_eq_true, beq_iff_eq, Nat.ble_eq] at hR
  obtain ⟨⟨⟨⟨⟨⟨r1, r2⟩, r3⟩, r4⟩, r5⟩, r6⟩, r7⟩ := hR
  refine va_calli (mc := 0) (ms := 0) (A0 := wA L.length Z) (H0 := s.heap) (A1 := wA L.length Z) (va_runV (As := As) (rest := rest) ⟨hx, hb, hml, hown, hts⟩ hM (cwV n hts (gt_V hw) rfl r1 r2 hw.2.2.2.2.2 ⟨r3, r4⟩) ⟨XP_blind, vk_recv hSF.2.2.2.2.2.2.2.2.2.2 hi X.2, fun U hU hW => XP_at hK hSF X hU hW⟩ rfl hn hsz hst (lv_room r7) hdg ⟨r5, r6⟩) X.2 (fun q _ h => h) (fun q h => h) (fun r_ u t H1 locs1 ht hvm hw1 hB hz1 hk1 hS => ?_)
  subst hw1
  exact kk H1 locs1 ⟨by rw [← ht]; exact hB, hS⟩
end XRows2
