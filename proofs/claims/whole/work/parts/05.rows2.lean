/-! more rows: names of computed numbers, small numbers' functions, switches, Math -/
def ltm (S : Mem) (f : Mem → O) : O := f S
def lti (v : Int32) (f : Int32 → O) : O := f v
theorem ltm_s {S : Mem} {f : Mem → O} {y : Int32 × Mem} (h : ltm S f = some y) : ∃ S1, S1 = S ∧ f S1 = some y := ⟨S, rfl, h⟩
theorem lti_s {v : Int32} {f : Int32 → O} {y : Int32 × Mem} (h : lti v f = some y) : ∃ x, x = v ∧ f x = some y := ⟨v, rfl, h⟩
def nz (y : Int32) : Bool := decide (¬ y = 0)
abbrev ushr (x y : Int32) : Int32 := (x.toUInt32 >>> (y.toUInt32 &&& Int32.toUInt32 31)).toInt32
abbrev irem (x y : Int32) : Int32 := x - x / y * y
abbrev i2c (x : Int32) : Int32 := (x.toUInt32 % 65536).toInt32
abbrev imax (x y : Int32) : Int32 := if x < y then y else x
abbrev iabs (x : Int32) : Int32 := if 0 ≤ x then x else 0 - x
abbrev WN (p : Program) (l : Launch) (e : Env) (R : Room) (s : State) (m : MethodId) (args : Array Value) (below : List Frame) (meth : Method) (c : Code) (L : Lay) (Z : XG) (Qc : Array Value → State → Outcome → State → Prop) (S : Mem) (pc nL : Nat) (lv : List (Nat × Value)) (st : List Value) : Prop :=
  ∀ (H : Heap) (locs : List Loc) (ls : Array Slot), XH L Z S s H locs → lv_has ls nL lv → W p l e R s m args below meth c H locs 0 0 (MQ below Qc args s 0 0 (wA L.length Z)) (F0 m pc ls st)
section XRows2
variable {p : Program} {l : Launch} {e : Env} {R : Room} {s : State} {m : MethodId} {args : Array Value} {below : List Frame} {meth : Method} {c : Code} {H : Heap} {locs : List Loc} {cells slots : Nat} {Q : State → Prop} {cc : ByteArray} {nL : Nat} {own : String} {ret : Option FieldType} {L : Lay} {Z : XG} {S : Mem} {pc : Nat} {ls : Array Slot} {rest : List Value}
theorem lv_nm {x y : Int32} (he : y = x) (k : W p l e R s m args below meth c H locs cells slots Q (F0 m pc ls (.int y :: rest))) : W p l e R s m args below meth c H locs cells slots Q (F0 m pc ls (.int x :: rest)) := he ▸ k
theorem tbl_eq {x : Int32} {z : Int} {v : Int32} (h : x.toInt = z) (hv : v.toInt = z) : x = v := Int32.toInt_inj.mp (h.trans hv.symm)
theorem lv_tableD (hexec : p.tables.exec = Jvm.exec) (hb : c.code = cc) {dflt lo hi : Int} {offs : Array Int} {len : Nat} {x : Int32} {tgt : Nat} (hdg : decode cc pc = .ok (.tableswitch dflt lo hi offs, len)) (ht : (pc : Int) + dflt = (tgt : Int) ∧ (offs.size : Int) = hi - lo + 1) (ho : ∀ i : Nat, i < offs.size → x.toInt = lo + i → offs[i]? = some dflt)
    (k : W p l e R s m args below meth c H locs cells slots Q (F0 m tgt ls rest)) : W p l e R s m args below meth c H locs cells slots Q (F0 m pc ls (.int x :: rest)) := by
  by_cases h1 : x.toInt < lo
  · exact lv_tableOut hexec hb hdg (Or.inl h1) ht.1 k
  · by_cases h2 : hi < x.toInt
    · exact lv_tableOut hexec hb hdg (Or.inr h2) ht.1 k
    · exact lv_tableIn hexec hb hdg h1 h2 (ho (x.toInt - lo).toNat (by omega) (by omega)) ht.1 k
def CMW (own : String) (index : Nat) (y : MethodName) (cc' : ByteArray) (n : Nat) : Prop := Cond.methodLink own index y ∈ gt ∧ Cond.static y ∈ gt ∧ Cond.initialized "java/lang/Math" ∈ gt ∧ Cond.code y cc' n (some .int) ∈ gt
theorem x_mmax (E : XE p s m args meth c cc nL own ret L Z) {index : Nat} {x y : Int32} (hw : CMW own index Lib.Math.max.name Lib.Math.max.code 2) (hsz : ls.size = nL) (h1 : Nat.ble 1 R.frames = true) (h2 : Nat.ble ((rest.map fun v => v.category).sum + 13) R.locals = true) (h3 : Nat.ble cells R.cells = true) (h4 : Nat.ble slots R.slots = true) (hdg : decode cc pc = .ok (.invokestatic index, 3))
    (kk : W p l e R s m args below meth c H locs cells slots Q (F0 m (pc + 3) ls (.int (if x < y then y else x) :: rest))) : W p l e R s m args below meth c H locs cells slots Q (F0 m pc ls (.int y :: .int x :: rest)) := by
  obtain ⟨hx, hb, hml, hown, hts, hr, hlocks, hK, hSF, hQ⟩ := E
  exact va_mmax hx hb (by rw [hml, hsz]) hown (hts _ hw.1) (hts _ hw.2.1) (hts _ hw.2.2.1) (hts _ hw.2.2.2) (Nat.le_of_ble_eq_true h1) (Nat.le_of_ble_eq_true h2) (Nat.le_of_ble_eq_true h3) (Nat.le_of_ble_eq_true h4) hdg kk
theorem x_mabs (E : XE p s m args meth c cc nL own ret L Z) {index : Nat} {x : Int32} (hw : CMW own index Lib.Math.abs.name Lib.Math.abs.code 1) (hsz : ls.size = nL) (h1 : Nat.ble 1 R.frames = true) (h2 : Nat.ble ((rest.map fun v => v.category).sum + 13) R.locals = true) (h3 : Nat.ble cells R.cells = true) (h4 : Nat.ble slots R.slots = true) (hdg : decode cc pc = .ok (.invokestatic index, 3))
    (kk : W p l e R s m args below meth c H locs cells slots Q (F0 m (pc + 3) ls (.int (if 0 ≤ x then x else 0 - x) :: rest))) : W p l e R s m args below meth c H locs cells slots Q (F0 m pc ls (.int x :: rest)) := by
  obtain ⟨hx, hb, hml, hown, hts, hr, hlocks, hK, hSF, hQ⟩ := E
  exact va_mabs hx hb (by rw [hml, hsz]) hown (hts _ hw.1) (hts _ hw.2.1) (hts _ hw.2.2.1) (hts _ hw.2.2.2) (Nat.le_of_ble_eq_true h1) (Nat.le_of_ble_eq_true h2) (Nat.le_of_ble_eq_true h3) (Nat.le_of_ble_eq_true h4) hdg kk
end XRows2
