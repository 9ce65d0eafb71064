/-! what the Statement gives of static arrays and texts; contracts over the flat memory; a row an instruction -/
def saT (nm : String) (xs : List Int32) (A : Nat → Prop) (U : State) : Prop := ∃ t : Nat, va_Z RX7 nm "[I" (.ref t) A U U.heap ∧ va_T .int t xs.length (fun j => .int (xs.getD j 0)) A U U.heap
def st_MOST_OF_COLUMN : List Int32 := [7, 4, 9, 7, 10]
def st_FIRST_SUNS : List Int32 := [2, 2, 3, 3, 4, 4, 4, 4, 5, 5, 6, 6]
def st_FIRST_ALTITUDES : List Int32 := [0, 1, 2, 3, 4, 4, 4, 4, 3, 2, 1, 0]
def st_STEP_X : List Int32 := [0, 1, 1, 1, 0, -1, -1, -1]
def st_STEP_Y : List Int32 := [-1, -1, 0, 1, 1, 1, 0, -1]
def tx_WORDS : String := "stay seek buy flee when or and not burn heat shaded water tall skin hour place bears pilgrim "
def tx_SIGNS : String := ";+-*/()<=>"
def by_WORDS : List Int32 := [115, 116, 97, 121, 32, 115, 101, 101, 107, 32, 98, 117, 121, 32, 102, 108, 101, 101, 32, 119, 104, 101, 110, 32, 111, 114, 32, 97, 110, 100, 32, 110, 111, 116, 32, 98, 117, 114, 110, 32, 104, 101, 97, 116, 32, 115, 104, 97, 100, 101, 100, 32, 119, 97, 116, 101, 114, 32, 116, 97, 108, 108, 32, 115, 107, 105, 110, 32, 104, 111, 117, 114, 32, 112, 108, 97, 99, 101, 32, 98, 101, 97, 114, 115, 32, 112, 105, 108, 103, 114, 105, 109, 32]
def by_SIGNS : List Int32 := [59, 43, 45, 42, 47, 40, 41, 60, 61, 62]
def SFs (A : Nat → Prop) (Z : XG) (U : State) : Prop := vk_R RX3 94 tx_WORDS (Z.2.2.2.2.1 0) U ∧ vk_R RX3 84 tx_SIGNS (Z.2.2.2.2.1 1) U ∧ vk_S 2 [93, 10] [by_WORDS, by_SIGNS] Z.2.2.2.2.1 Z.2.2.2.2.2 A U U.heap
def SFo (A : Nat → Prop) (U : State) : Prop := ∃ v : Value, va_Z "jdk/internal/util/Preconditions" "SIOOBE_FORMATTER" "Ljava/util/function/BiFunction;" v A U U.heap ∧ (v = .null ∨ ∃ t, v = .ref t)
def nwM : List (String × Nat × MethodName × String) := [("SevenToAShadow$World", 26, ⟨"SevenToAShadow$Book", "<init>", "()V"⟩, "SevenToAShadow"), ("SevenToAShadow$World", 33, ⟨"SevenToAShadow$Rules", "<init>", "()V"⟩, "SevenToAShadow"), ("SevenToAShadow", 21, ⟨"SevenToAShadow$Past", "<init>", "()V"⟩, "SevenToAShadow"), ("SevenToAShadow", 44, ⟨"SevenToAShadow$Reader", "<init>", "()V"⟩, "SevenToAShadow"), ("SevenToAShadow$Reader", 21, ⟨"SevenToAShadow$Rules", "<init>", "()V"⟩, "SevenToAShadow"), ("SevenToAShadow$World", 98, ⟨"SevenToAShadow", "bitAt", "(II)I"⟩, "SevenToAShadow"), ("SevenToAShadow$March", 92, ⟨"SevenToAShadow", "farBetween", "(II)I"⟩, "SevenToAShadow"), ("SevenToAShadow$Thought", 75, ⟨"SevenToAShadow", "isPlace", "(I)Z"⟩, "SevenToAShadow"), ("SevenToAShadow$Thought", 99, ⟨"SevenToAShadow", "isHour", "(I)Z"⟩, "SevenToAShadow")]
def nwF : List (String × Nat × String × String × String × String) := [("SevenToAShadow$World", 42, "SevenToAShadow", "FIRST_SUNS", "[I", "SevenToAShadow"), ("SevenToAShadow$World", 45, "SevenToAShadow", "FIRST_ALTITUDES", "[I", "SevenToAShadow"), ("SevenToAShadow$World", 101, "SevenToAShadow", "STEP_X", "[I", "SevenToAShadow"), ("SevenToAShadow$World", 104, "SevenToAShadow", "STEP_Y", "[I", "SevenToAShadow")]
/-- the links among nest mates -/
def SFn (U : State) : Prop := (∀ q ∈ nwM, va_Nw (.methodLinkNest q.1 q.2.1 q.2.2.1 q.2.2.2) U) ∧ ∀ q ∈ nwF, va_Nw (.fieldLinkNest q.1 q.2.1 q.2.2.1 q.2.2.2.1 q.2.2.2.2.1 q.2.2.2.2.2) U
theorem SFn.warm {s U : State} (hW : s.WarmedH U.vm) (h : SFn s) : SFn U := ⟨fun q hq => va_Nw.warmM hW (h.1 q hq), fun q hq => va_Nw.warmF hW (h.2 q hq)⟩
theorem SFn.same {u U : State} (hv : u.vm = U.vm) (h : SFn u) : SFn U := ⟨fun q hq => va_Nw.same rfl hv (h.1 q hq), fun q hq => va_Nw.same rfl hv (h.2 q hq)⟩
def SF (A : Nat → Prop) (Z : XG) (U : State) : Prop := saT "MOST_OF_COLUMN" st_MOST_OF_COLUMN A U ∧ saT "FIRST_SUNS" st_FIRST_SUNS A U ∧ saT "FIRST_ALTITUDES" st_FIRST_ALTITUDES A U ∧ saT "STEP_X" st_STEP_X A U ∧ saT "STEP_Y" st_STEP_Y A U ∧ va_Z RJ0 "COMPACT_STRINGS" "Z" (.int 1) A U U.heap ∧ SFn U ∧ SFo A U ∧ SFs A Z U
theorem saT.go {nm : String} {xs : List Int32} {A : Nat → Prop} {s U : State} (h : saT nm xs A s) (hq : ∀ a : Nat, a < s.heap.size → ¬ A a → U.heap[a]? = s.heap[a]?) (hW : s.vm.Alike U.vm) : saT nm xs A U := by
  obtain ⟨t, h1, h2⟩ := h
  exact ⟨t, (h1.kept hq).moved hW, (h2.kept hq).moved hW⟩
theorem SF.go {A : Nat → Prop} {Z : XG} {s U : State} (h : SF A Z s) (hq : ∀ a : Nat, a < s.heap.size → ¬ A a → U.heap[a]? = s.heap[a]?) (hW : s.WarmedH U.vm) : SF A Z U := by
  obtain ⟨h1, h2, h3, h4, h5, h6, hn, ⟨vo, z1, z2⟩, h7, h8, h9⟩ := h
  exact ⟨h1.go hq hW.alike, h2.go hq hW.alike, h3.go hq hW.alike, h4.go hq hW.alike, h5.go hq hW.alike, (h6.kept hq).moved hW.alike, hn.warm hW, ⟨vo, (z1.kept hq).moved hW.alike, z2⟩, h7.warm hW, h8.warm hW, (h9.kept hq).moved hW.alike⟩
theorem SF.narrow {A B : Nat → Prop} {Z : XG} {U : State} (h : SF A Z U) (hAB : ∀ q, B q → A q) : SF B Z U := by
  obtain ⟨⟨t1, a1, b1⟩, ⟨t2, a2, b2⟩, ⟨t3, a3, b3⟩, ⟨t4, a4, b4⟩, ⟨t5, a5, b5⟩, h6, hn, ⟨vo, z1, z2⟩, h7, h8, h9⟩ := h
  exact ⟨⟨t1, a1.narrow hAB, b1.narrow hAB⟩, ⟨t2, a2.narrow hAB, b2.narrow hAB⟩, ⟨t3, a3.narrow hAB, b3.narrow hAB⟩, ⟨t4, a4.narrow hAB, b4.narrow hAB⟩, ⟨t5, a5.narrow hAB, b5.narrow hAB⟩, h6.narrow hAB, hn, ⟨vo, z1.narrow hAB, z2⟩, h7, h8, h9.narrow hAB⟩
theorem SF.calling {A : Nat → Prop} {Z : XG} {U : State} (h : SF A Z U) (g : JFrame) (mk : MethodId) (a : Array Value) : SF A Z (U.calling g mk a) := by
  obtain ⟨h1, h2, h3, h4, h5, h6, hn, ⟨vo, z1, z2⟩, h7, h8, h9⟩ := h
  exact ⟨h1.go (fun _ _ _ => rfl) (Vm.Alike.refl U.vm), h2.go (fun _ _ _ => rfl) (Vm.Alike.refl U.vm), h3.go (fun _ _ _ => rfl) (Vm.Alike.refl U.vm), h4.go (fun _ _ _ => rfl) (Vm.Alike.refl U.vm), h5.go (fun _ _ _ => rfl) (Vm.Alike.refl U.vm), h6.moved (Vm.Alike.refl U.vm), hn.same rfl, ⟨vo, z1.moved (Vm.Alike.refl U.vm), z2⟩, h7.same rfl, h8.same rfl, h9.moved (Vm.Alike.refl U.vm)⟩
abbrev xtys (Z : XG) : List (ClassId × FieldType) := [(Z.2.2.1, .int), (Z.2.2.2.1, .byte)]
def XE (p : Program) (s : State) (m : MethodId) (args : Array Value) (meth : Method) (c : Code) (cc : ByteArray) (nL : Nat) (own : String) (ret : Option FieldType) (L : Lay) (Z : XG) : Prop :=
  p.tables.exec = Jvm.exec ∧ c.code = cc ∧ c.maxLocals = nL ∧ s.vm.findClass own = some m.cls ∧ (∀ w ∈ gt, w.before args s = true) ∧ meth.sig.returnType = ret ∧ meth.locks = false ∧ va_K Z.1 vwCl (xtys Z) s ∧ SF (wA L.length Z) Z s ∧ wQ L.length Z
def XH (L : Lay) (Z : XG) (S : Mem) (s : State) (H : Heap) (locs : List Loc) : Prop := va_P Z.1 vwCl (wd L Z S) H ∧ va_S (wA L.length Z) s.heap H locs
def XP (L : Lay) (Z : XG) (S : Mem) (av : List Value) : Array Value → State → Prop := va_Pc av (fun U => va_P Z.1 vwCl (wd L Z S) U.heap ∧ va_K Z.1 vwCl (xtys Z) U ∧ SF (wA L.length Z) Z U)
def XQ (L : Lay) (Z : XG) (r : Int32) (S : Mem) : Array Value → State → Outcome → State → Prop := va_Qi (S := Unit) (fun r' _ => r' = r) (fun _ t => va_P Z.1 vwCl (wd L Z S) t.heap) (wA L.length Z)
def XV (L : Lay) (Z : XG) (S : Mem) : Array Value → State → Outcome → State → Prop := va_Qv (S := Unit) (fun _ => True) (fun _ t => va_P Z.1 vwCl (wd L Z S) t.heap) (wA L.length Z)
def XM (l : Launch) (y : MethodName) (cc : ByteArray) (nL : Nat) (ret : Option FieldType) (rm : Room) (L : Lay) (Z : XG) (av : List Value) (S : Mem) (Q : Array Value → State → Outcome → State → Prop) : Prop :=
  Met l y (Cond.code y cc nL ret :: gt) rm (XP L Z S av) Q 0 0 (wA L.length Z)
theorem XP_blind {L : Lay} {Z : XG} {S : Mem} {av : List Value} : FrameBlind (XP L Z S av) := by
  intro a U g mk q
  obtain ⟨q0, q1, q2, q3⟩ := q
  exact ⟨q0, q1, va_K.moved (u := U) (U := U.calling g mk a) (Vm.Alike.refl U.vm) q2, q3.calling g mk a⟩
theorem XP_at {L : Lay} {Z : XG} {S : Mem} {av : List Value} {s U : State} {H : Heap} {locs : List Loc} (hK : va_K Z.1 vwCl (xtys Z) s) (hF : SF (wA L.length Z) Z s) (hX : XH L Z S s H locs) (hU : U.heap = H) (hW : s.WarmedH U.vm) : XP L Z S av av.toArray U :=
  ⟨rfl, by rw [hU]; exact hX.1, va_K.moved hW.alike hK, hF.go (fun a h1 h2 => by rw [hU]; exact hX.2.2.1 a h1 h2) hW⟩
section XMof
variable {l : Launch} {y : MethodName} {cc : ByteArray} {nL : Nat} {ret : Option FieldType} {rm : Room} {L : Lay} {Z : XG} {av : List Value} {S : Mem} {Q : Array Value → State → Outcome → State → Prop}
/-- a contract out of the walk from the entry -/
theorem XM.of {own : String} (hy : plainName y.cls = true) (ho : y.cls = own) (hn : Nat.ble (lg_sl av).length nL = true) (hQ : wQ L.length Z)
    (body : ∀ (p : Program) (e : Env) (s : State) (m : MethodId) (args : Array Value) (below : List Frame) (meth : Method) (c : Code), XE p s m args meth c cc nL own ret L Z → ∀ ls : Array Slot, lv_has ls nL (lv_args 0 av) → XH L Z S s s.heap [] →
      W p l e rm s m args below meth c s.heap [] 0 0 (MQ below Q args s 0 0 (wA L.length Z)) (F0 m 0 ls [])) : XM l y cc nL ret rm L Z av S Q := by
  refine Met.ofW (cc := cc) (maxL := nL) (ret := ret) hy rfl ?_
  intro p e s m args below meth c s₁ B hml hv
  obtain ⟨rfl, hP, hK, hF⟩ := hv
  have hts := atoms_spec (ws := Cond.code y cc nL ret :: gt) B.pre
  have hown : s.vm.findClass own = some m.cls := by rw [← ho]; exact findClass_of_methodNamed B.named
  have hl := lv_entry av (n := nL) (Nat.le_of_ble_eq_true hn)
  rw [lg_entry_eq]
  exact body p e s m _ below meth c ⟨B.exec, B.bytes, hml, hown, fun w hw => hts w (List.mem_cons_of_mem _ hw), B.returns, B.notSynchronized, hK, hF, hQ⟩ _ hl ⟨hP, va_S.rf⟩
end XMof
section XRows
variable {p : Program} {l : Launch} {e : Env} {R : Room} {s : State} {m : MethodId} {args : Array Value} {below : List Frame} {meth : Method} {c : Code} {H : Heap} {locs : List Loc} {cells slots : Nat} {Q : State → Prop} {cc : ByteArray} {nL : Nat} {own : String} {ret : Option FieldType} {L : Lay} {Z : XG} {S : Mem} {pc : Nat} {ls : Array Slot} {rest : List Value}
/-- a field's words: class number, slot -/
def FF (own : String) (index ci j : Nat) : Prop := ∃ (C : String) (T : u_T) (N : Nat), vwCl[ci]? = some (C, T, N) ∧ (∀ w ∈ u_ws C T N, w ∈ gt) ∧ j < N ∧ Cond.fieldLink own index (T j).1 (T j).2.1 (T j).2.2.1 ∈ gt
def FP (own : String) (index ci j : Nat) (ty : FieldType) : Prop := ∃ (C : String) (T : u_T) (N : Nat), vwCl[ci]? = some (C, T, N) ∧ (∀ w ∈ u_ws C T N, w ∈ gt) ∧ j < N ∧ Cond.fieldLink own index (T j).1 (T j).2.1 (T j).2.2.1 ∈ gt ∧ (∃ ty0 : Nat → FieldType, (∀ k, k < N → parseFieldDescriptor (T k).2.2.1 = some (ty0 k)) ∧ (∀ a, a < N → ∀ b, b < N → a ≠ b → (T a).2.1 ≠ (T b).2.1) ∧ ty0 j = ty) ∧ (T j).2.2.2 = false
theorem x_get (E : XE p s m args meth c cc nL own ret L Z) (X : XH L Z S s H locs) {k j ci index : Nat} {fl : List (Option Nat)} (hF : FF own index ci j) (hL : L[k]? = some (.inr (ci, fl))) (hf : fl[j]? = some none) (hdg : decode cc pc = .ok (.getfield index, 3))
    (kk : W p l e R s m args below meth c H locs cells slots Q (F0 m (pc + 3) ls (.int (S k j) :: rest))) : W p l e R s m args below meth c H locs cells slots Q (F0 m pc ls (.ref (Z.2.1 k) :: rest)) := by
  obtain ⟨hx, hb, hml, hown, hts, hr, hlocks, hK, hSF, hQ⟩ := E
  obtain ⟨C, T, N, h1, h2, h3, h4⟩ := hF
  exact va_get (D := Z.1) hx hb hts h2 hown hK X.1 k (wd_get hL) h1 j h3 (hts _ h4) (fun _ h9 => h9) (wfl_get hf) hdg kk
theorem x_getr (E : XE p s m args meth c cc nL own ret L Z) (X : XH L Z S s H locs) {k j ci index t : Nat} {fl : List (Option Nat)} (hF : FF own index ci j) (hL : L[k]? = some (.inr (ci, fl))) (hf : fl[j]? = some (some t)) (hdg : decode cc pc = .ok (.getfield index, 3))
    (kk : W p l e R s m args below meth c H locs cells slots Q (F0 m (pc + 3) ls (.ref (Z.2.1 t) :: rest))) (ht : t ≠ 1000 := by decide) : W p l e R s m args below meth c H locs cells slots Q (F0 m pc ls (.ref (Z.2.1 k) :: rest)) := by
  obtain ⟨hx, hb, hml, hown, hts, hr, hlocks, hK, hSF, hQ⟩ := E
  obtain ⟨C, T, N, h1, h2, h3, h4⟩ := hF
  exact va_get (D := Z.1) hx hb hts h2 hown hK X.1 k (wd_get hL) h1 j h3 (hts _ h4) (fun _ h9 => h9) (wfl_getr hf ht) hdg kk
theorem x_putT (E : XE p s m args meth c cc nL own ret L Z) (X : XH L Z S s H locs) {k j ci index : Nat} {fl : List (Option Nat)} {v : Int32} {ty : FieldType} (hF : FP own index ci j ty) (hL : L[k]? = some (.inr (ci, fl))) (hf : fl[j]? = some none) (hn : narrow ty (.int v) = .int v ∧ fits ty (.int v) = true) (hdg : decode cc pc = .ok (.putfield index, 3))
    (kk : ∀ (H : Heap) (locs : List Loc), XH L Z (mset S k j v) s H locs → W p l e R s m args below meth c H locs cells slots Q (F0 m (pc + 3) ls rest)) : W p l e R s m args below meth c H locs cells slots Q (F0 m pc ls (.int v :: .ref (Z.2.1 k) :: rest)) := by
  obtain ⟨hx, hb, hml, hown, hts, hr, hlocks, hK, hSF, hQ⟩ := E
  obtain ⟨C, T, N, h1, h2, h3, h4, ⟨ty0, g1, g2, g3⟩, h6⟩ := hF
  refine va_put (D := Z.1) (ty := ty) hx hb hts h2 ty0 g1 g2 hown hK X.1 (wd_D hQ) X.2 k (wd_get hL) h1 j h3 (hts _ h4) (fun _ h9 => h9) h6 (by rw [g1 j h3, g3]) hn.1 hn.2 (by rw [wfl_len]; exact (List.getElem?_eq_some_iff.mp hf).1) hdg (fun H1 locs1 hP _ hS => kk H1 locs1 ⟨?_, hS⟩)
  rw [wfl_set hf] at hP
  have := wd_put (Z := Z) (S := S) (f := upd (S k) j v) hL
  rw [show ((Sum.inr (ci, wfl Z.2.1 (upd (S k) j v) fl) : va_E)) = wce Z (upd (S k) j v) (.inr (ci, fl)) from rfl, this] at hP
  exact hP
theorem x_put (E : XE p s m args meth c cc nL own ret L Z) (X : XH L Z S s H locs) {k j ci index : Nat} {fl : List (Option Nat)} {v : Int32} (hF : FP own index ci j .int) (hL : L[k]? = some (.inr (ci, fl))) (hf : fl[j]? = some none) (hdg : decode cc pc = .ok (.putfield index, 3))
    (kk : ∀ (H : Heap) (locs : List Loc), XH L Z (mset S k j v) s H locs → W p l e R s m args below meth c H locs cells slots Q (F0 m (pc + 3) ls rest)) : W p l e R s m args below meth c H locs cells slots Q (F0 m pc ls (.int v :: .ref (Z.2.1 k) :: rest)) :=
  x_putT E X hF hL hf ⟨rfl, rfl⟩ hdg kk
theorem x_putB (E : XE p s m args meth c cc nL own ret L Z) (X : XH L Z S s H locs) {k j ci index : Nat} {fl : List (Option Nat)} {v : Int32} (hF : FP own index ci j .boolean) (hL : L[k]? = some (.inr (ci, fl))) (hf : fl[j]? = some none) (hv : isB v = true) (hdg : decode cc pc = .ok (.putfield index, 3))
    (kk : ∀ (H : Heap) (locs : List Loc), XH L Z (mset S k j v) s H locs → W p l e R s m args below meth c H locs cells slots Q (F0 m (pc + 3) ls rest)) : W p l e R s m args below meth c H locs cells slots Q (F0 m pc ls (.int v :: .ref (Z.2.1 k) :: rest)) :=
  x_putT E X hF hL hf (isB_nar hv) hdg kk
theorem x_iald (E : XE p s m args meth c cc nL own ret L Z) (X : XH L Z S s H locs) {k n : Nat} {i : Int32} (hL : L[k]? = some (.inl (n, false))) (hi : inB i n = true) (hdg : decode cc pc = .ok (.iaload, 1))
    (kk : W p l e R s m args below meth c H locs cells slots Q (F0 m (pc + 1) ls (.int (S k i.toNatClampNeg) :: rest))) : W p l e R s m args below meth c H locs cells slots Q (F0 m pc ls (.int i :: .ref (Z.2.1 k) :: rest)) := by
  obtain ⟨hx, hb, hml, hown, hts, hr, hlocks, hK, hSF, hQ⟩ := E
  exact va_iald (D := Z.1) hx hb hK X.1 k 0 (wd_get hL) rfl (inB_in hi) hdg kk
theorem x_bald (E : XE p s m args meth c cc nL own ret L Z) (X : XH L Z S s H locs) {k n : Nat} {i : Int32} (hL : L[k]? = some (.inl (n, true))) (hi : inB i n = true) (hdg : decode cc pc = .ok (.baload, 1))
    (kk : W p l e R s m args below meth c H locs cells slots Q (F0 m (pc + 1) ls (.int (S k i.toNatClampNeg) :: rest))) : W p l e R s m args below meth c H locs cells slots Q (F0 m pc ls (.int i :: .ref (Z.2.1 k) :: rest)) := by
  obtain ⟨hx, hb, hml, hown, hts, hr, hlocks, hK, hSF, hQ⟩ := E
  exact va_bald (D := Z.1) hx hb hK X.1 k 1 (wd_get hL) rfl (inB_in hi) hdg kk
theorem x_iast (E : XE p s m args meth c cc nL own ret L Z) (X : XH L Z S s H locs) {k n : Nat} {i x : Int32} (hL : L[k]? = some (.inl (n, false))) (hi : inB i n = true) (hdg : decode cc pc = .ok (.iastore, 1))
    (kk : ∀ (H : Heap) (locs : List Loc), XH L Z (mset S k i.toNatClampNeg x) s H locs → W p l e R s m args below meth c H locs cells slots Q (F0 m (pc + 1) ls rest)) : W p l e R s m args below meth c H locs cells slots Q (F0 m pc ls (.int x :: .int i :: .ref (Z.2.1 k) :: rest)) := by
  obtain ⟨hx, hb, hml, hown, hts, hr, hlocks, hK, hSF, hQ⟩ := E
  refine va_iast (D := Z.1) hx hb hK X.1 (wd_D hQ) X.2 k 0 (wd_get hL) rfl (inB_in hi) hdg (fun H1 locs1 hP _ hS => kk H1 locs1 ⟨?_, hS⟩)
  have := wd_put (Z := Z) (S := S) (f := upd (S k) i.toNatClampNeg x) hL
  exact this ▸ hP
theorem x_bast (E : XE p s m args meth c cc nL own ret L Z) (X : XH L Z S s H locs) {k n : Nat} {i x : Int32} (hL : L[k]? = some (.inl (n, true))) (hi : inB i n = true) (hdg : decode cc pc = .ok (.bastore, 1))
    (kk : ∀ (H : Heap) (locs : List Loc), XH L Z (mset S k i.toNatClampNeg (vp_nar .byte x)) s H locs → W p l e R s m args below meth c H locs cells slots Q (F0 m (pc + 1) ls rest)) : W p l e R s m args below meth c H locs cells slots Q (F0 m pc ls (.int x :: .int i :: .ref (Z.2.1 k) :: rest)) := by
  obtain ⟨hx, hb, hml, hown, hts, hr, hlocks, hK, hSF, hQ⟩ := E
  refine va_bast (D := Z.1) hx hb hK X.1 (wd_D hQ) X.2 k 1 (wd_get hL) rfl (inB_in hi) hdg (fun H1 locs1 hP _ hS => kk H1 locs1 ⟨?_, hS⟩)
  have := wd_put (Z := Z) (S := S) (f := upd (S k) i.toNatClampNeg (vp_nar .byte x)) hL
  exact this ▸ hP
theorem x_alen (E : XE p s m args meth c cc nL own ret L Z) (X : XH L Z S s H locs) {k n : Nat} {v : Int32} (hL : L[k]? = some (.inl (n, false))) (hv : Int32.ofNat n = v) (hdg : decode cc pc = .ok (.arraylength, 1))
    (kk : W p l e R s m args below meth c H locs cells slots Q (F0 m (pc + 1) ls (.int v :: rest))) : W p l e R s m args below meth c H locs cells slots Q (F0 m pc ls (.ref (Z.2.1 k) :: rest)) := by
  obtain ⟨hx, hb, hml, hown, hts, hr, hlocks, hK, hSF, hQ⟩ := E
  exact va_alen (D := Z.1) hx hb hK X.1 k 0 (wd_get hL) rfl hv hdg kk
/-- System.arraycopy between two int arrays -/
def cpG (sp dp n : Int32) (n0 n1 : Nat) : Bool := decide (0 ≤ sp) && decide (0 ≤ dp) && decide (0 ≤ n) && decide (sp.toNatClampNeg + n.toNatClampNeg ≤ n0) && decide (dp.toNatClampNeg + n.toNatClampNeg ≤ n1)
def CPW (own : String) (index : Nat) : Prop := Cond.methodLink own index arraycopyName ∈ gt ∧ Cond.native arraycopyName ∈ gt ∧ Cond.static arraycopyName ∈ gt ∧ Cond.initialized "java/lang/System" ∈ gt
theorem x_copy (E : XE p s m args meth c cc nL own ret L Z) (X : XH L Z S s H locs) {k0 k1 n0 n1 index : Nat} {sp dp n : Int32} (hw : CPW own index) (hL0 : L[k0]? = some (.inl (n0, false))) (hL1 : L[k1]? = some (.inl (n1, false))) (hg : cpG sp dp n n0 n1 = true) (hsz : ls.size = nL)
    (hframes : Nat.ble 1 R.frames = true) (hlocals : Nat.ble ((rest.map fun v => v.category).sum + (nativeFrameWords "java/lang/System" "arraycopy" 5 + 11)) R.locals = true) (hdg : decode cc pc = .ok (.invokestatic index, 3))
    (kk : ∀ (H : Heap) (locs : List Loc), XH L Z (mput S k1 (va_cpy (S k0) (S k1) sp.toNatClampNeg dp.toNatClampNeg n.toNatClampNeg)) s H locs → W p l e R s m args below meth c H locs cells slots Q (F0 m (pc + 3) ls rest)) : W p l e R s m args below meth c H locs cells slots Q (F0 m pc ls (.int n :: .int dp :: .ref (Z.2.1 k1) :: .int sp :: .ref (Z.2.1 k0) :: rest)) := by
  obtain ⟨hx, hb, hml, hown, hts, hr, hlocks, hK, hSF, hQ⟩ := E
  simp only [cpG, Bool.and_eq_true, decide_eq_true_eq] at hg
  obtain ⟨⟨⟨⟨g1, g2⟩, g3⟩, g4⟩, g5⟩ := hg
  refine va_copyi (D := Z.1) (ty := .int) hx hb (by rw [hml, hsz]) hown (hts _ hw.1) (hts _ hw.2.1) (hts _ hw.2.2.1) (hts _ hw.2.2.2) hK X.1 (wd_D hQ) X.2 k0 k1 0 0 (wd_get hL0) (wd_get hL1) rfl rfl rfl (by rw [Int32.not_lt]; exact g1) (by rw [Int32.not_lt]; exact g2) (by rw [Int32.not_lt]; exact g3) g4 g5 (fun _ _ => rfl) (Nat.le_of_ble_eq_true hframes) (Nat.le_of_ble_eq_true hlocals) hdg (fun H1 locs1 hP _ hS => kk H1 locs1 ⟨?_, hS⟩)
  have := wd_put (Z := Z) (S := S) (f := va_cpy (S k0) (S k1) sp.toNatClampNeg dp.toNatClampNeg n.toNatClampNeg) hL1
  exact this ▸ hP
/-- a static array of the class: its reference, then an element -/
theorem x_gets (E : XE p s m args meth c cc nL own ret L Z) (X : XH L Z S s H locs) {nm : String} {t index : Nat} (hZ : va_Z RX7 nm "[I" (.ref t) (wA L.length Z) s s.heap) (hlink : Cond.fieldLink own index RX7 nm "[I" ∈ gt) (hdg : decode cc pc = .ok (.getstatic index, 3))
    (kk : W p l e R s m args below meth c H locs cells slots Q (F0 m (pc + 3) ls (.ref t :: rest))) : W p l e R s m args below meth c H locs cells slots Q (F0 m pc ls rest) := by
  obtain ⟨hx, hb, hml, hown, hts, hr, hlocks, hK, hSF, hQ⟩ := E
  exact va_gets hx hb hZ X.2 hown (hts _ hlink) (fun _ h => h) hdg kk
theorem x_getsN (E : XE p s m args meth c cc nL own ret L Z) (X : XH L Z S s H locs) {nm host : String} {t index : Nat} (hZ : va_Z RX7 nm "[I" (.ref t) (wA L.length Z) s s.heap) (hlink : (own, index, RX7, nm, "[I", host) ∈ nwF) (hdg : decode cc pc = .ok (.getstatic index, 3))
    (kk : W p l e R s m args below meth c H locs cells slots Q (F0 m (pc + 3) ls (.ref t :: rest))) : W p l e R s m args below meth c H locs cells slots Q (F0 m pc ls rest) := by
  obtain ⟨hx, hb, hml, hown, hts, hr, hlocks, hK, hSF, hQ⟩ := E
  exact va_getsN hx hb hZ X.2 hown (va_Nw.use rfl (hSF.2.2.2.2.2.2.1.2 _ hlink)) (fun _ h => h) hdg kk
theorem x_ti (E : XE p s m args meth c cc nL own ret L Z) (X : XH L Z S s H locs) {t : Nat} {xs : List Int32} {i : Int32} (hT : va_T .int t xs.length (fun j => .int (xs.getD j 0)) (wA L.length Z) s s.heap) (hi : inB i xs.length = true) (hdg : decode cc pc = .ok (.iaload, 1))
    (kk : W p l e R s m args below meth c H locs cells slots Q (F0 m (pc + 1) ls (.int (xs.getD i.toNatClampNeg 0) :: rest))) : W p l e R s m args below meth c H locs cells slots Q (F0 m pc ls (.int i :: .ref t :: rest)) := by
  obtain ⟨hx, hb, hml, hown, hts, hr, hlocks, hK, hSF, hQ⟩ := E
  exact va_ti hx hb hT X.2 (inB_in hi) rfl hdg kk
/-- constants -/
theorem x_ldc (E : XE p s m args meth c cc nL own ret L Z) {index : Nat} {v : Int32} (hw : Cond.constant own index v ∈ gt) (hdg : decode cc pc = .ok (.ldc index, 2)) (kk : W p l e R s m args below meth c H locs cells slots Q (F0 m (pc + 2) ls (.int v :: rest))) : W p l e R s m args below meth c H locs cells slots Q (F0 m pc ls rest) :=
  lv_ldc E.1 E.2.1 E.2.2.2.1 (E.2.2.2.2.1 _ hw) hdg kk
theorem x_ldcw (E : XE p s m args meth c cc nL own ret L Z) {index : Nat} {v : Int32} (hw : Cond.constant own index v ∈ gt) (hdg : decode cc pc = .ok (.ldc_w index, 3)) (kk : W p l e R s m args below meth c H locs cells slots Q (F0 m (pc + 3) ls (.int v :: rest))) : W p l e R s m args below meth c H locs cells slots Q (F0 m pc ls rest) :=
  lv_ldcw E.1 E.2.1 E.2.2.2.1 (E.2.2.2.2.1 _ hw) hdg kk
/-- ends -/
theorem x_iret (E : XE p s m args meth c cc nL own (some .int) L Z) (X : XH L Z S s H locs) {v r : Int32} {S' : Mem} (h : some (v, S) = some (r, S')) (hdg : decode cc pc = .ok (.ireturn, 1)) : W p l e R s m args below meth c H locs cells slots (MQ below (XQ L Z r S') args s cells slots (wA L.length Z)) (F0 m pc ls [.int v]) := by
  obtain ⟨hx, hb, hml, hown, hts, hr, hlocks, hK, hSF, hQ⟩ := E
  cases h
  exact W.iret (v := v) hx hb hr (fun t ht hW => ⟨⟨v, (), rfl, rfl, by show va_P Z.1 vwCl (wd L Z S) t.heap; rw [ht]; exact X.1⟩, X.2.F ht⟩) X.2.2.2 hdg
theorem x_zret (E : XE p s m args meth c cc nL own (some .boolean) L Z) (X : XH L Z S s H locs) {v r : Int32} {S' : Mem} (hv : isB v = true) (h : some (v, S) = some (r, S')) (hdg : decode cc pc = .ok (.ireturn, 1)) : W p l e R s m args below meth c H locs cells slots (MQ below (XQ L Z r S') args s cells slots (wA L.length Z)) (F0 m pc ls [.int v]) := by
  obtain ⟨hx, hb, hml, hown, hts, hr, hlocks, hK, hSF, hQ⟩ := E
  cases h
  exact W.zret (v := v) hx hb hr (isB_nar hv).1 (fun t ht hW => ⟨⟨v, (), rfl, rfl, by show va_P Z.1 vwCl (wd L Z S) t.heap; rw [ht]; exact X.1⟩, X.2.F ht⟩) X.2.2.2 hdg
theorem x_vret (E : XE p s m args meth c cc nL own none L Z) (X : XH L Z S s H locs) {r : Int32} {S' : Mem} (h : some ((0 : Int32), S) = some (r, S')) (hdg : decode cc pc = .ok (.return_, 1)) : W p l e R s m args below meth c H locs cells slots (MQ below (XV L Z S') args s cells slots (wA L.length Z)) (F0 m pc ls []) := by
  obtain ⟨hx, hb, hml, hown, hts, hr, hlocks, hK, hSF, hQ⟩ := E
  cases h
  exact W.vret hx hb hr (fun t ht hW => ⟨⟨(), rfl, trivial, by show va_P Z.1 vwCl (wd L Z S) t.heap; rw [ht]; exact X.1⟩, X.2.F ht⟩) X.2.2.2 hdg
/-- calls: words of a call -/
def CWV (own : String) (index : Nat) (C : String) (y : MethodName) (cc' : ByteArray) (nL' : Nat) (ret' : Option FieldType) (n : Nat) : Prop := Cond.methodLink own index y ∈ gt ∧ Cond.instanceMethod y ∈ gt ∧ Cond.selects C y y ∈ gt ∧ Cond.initialized C ∈ gt ∧ Cond.code y cc' nL' ret' ∈ gt ∧ (y.cls = C ∧ y.cls ≠ "java/lang/invoke/MethodHandle" ∧ y.cls ≠ "java/lang/invoke/VarHandle" ∧ (parseMethodDescriptor y.desc).map (fun d => d.parameters.length) = some n)
def CWS (own : String) (index : Nat) (y : MethodName) (cc' : ByteArray) (nL' : Nat) (ret' : Option FieldType) (n : Nat) : Prop := Cond.methodLink own index y ∈ gt ∧ Cond.static y ∈ gt ∧ Cond.initialized y.cls ∈ gt ∧ Cond.code y cc' nL' ret' ∈ gt ∧ (y.cls ≠ "java/lang/invoke/MethodHandle" ∧ y.cls ≠ "java/lang/invoke/VarHandle" ∧ (parseMethodDescriptor y.desc).map (fun d => d.parameters.length) = some n)
def CWN (own : String) (index : Nat) (y : MethodName) (host : String) (cc' : ByteArray) (nL' : Nat) (ret' : Option FieldType) (n : Nat) : Prop := (own, index, y, host) ∈ nwM ∧ Cond.static y ∈ gt ∧ Cond.initialized y.cls ∈ gt ∧ Cond.code y cc' nL' ret' ∈ gt ∧ (y.cls ≠ "java/lang/invoke/MethodHandle" ∧ y.cls ≠ "java/lang/invoke/VarHandle" ∧ (parseMethodDescriptor y.desc).map (fun d => d.parameters.length) = some n)
theorem gt_code {y : MethodName} {cc' : ByteArray} {nL' : Nat} {ret' : Option FieldType} (h : Cond.code y cc' nL' ret' ∈ gt) : GoodIn gt (Cond.code y cc' nL' ret' :: gt) := fun w hw => by
  rcases List.mem_cons.mp hw with rfl | hw
  · exact gt_in _ h
  · exact gt_in _ hw
theorem goodIn_ap {big a b : List Cond} (ha : GoodIn big a) (hb : GoodIn big b) : GoodIn big (a ++ b) := fun w h => (List.mem_append.mp h).elim (ha w) (hb w)
theorem gt_V {own C : String} {index n : Nat} {y : MethodName} {cc' : ByteArray} {nL' : Nat} {ret' : Option FieldType} (h : CWV own index C y cc' nL' ret' n) : GoodIn gt (wsV own index C y (Cond.code y cc' nL' ret' :: gt)) := by
  obtain ⟨h1, h2, h3, h4, h5, -⟩ := h
  refine goodIn_ap (fun w hw => ?_) (gt_code h5)
  simp only [List.mem_cons, List.not_mem_nil, or_false] at hw
  rcases hw with rfl | rfl | rfl | rfl
  · exact gt_in _ h1
  · exact gt_in _ h2
  · exact gt_in _ h3
  · exact gt_in _ h4
theorem x_callV (E : XE p s m args meth c cc nL own ret L Z) (X : XH L Z S s H locs) {C : String} {y : MethodName} {cc' : ByteArray} {nL' n index k ci N : Nat} {T : u_T} {fl : List (Option Nat)} {ret' : Option FieldType} {rm : Room} {As st0 : List Value} {r : Int32} {S1 : Mem} (hw : CWV own index C y cc' nL' ret' n) (hM : XM l y cc' nL' ret' rm L Z (.ref (Z.2.1 k) :: As) S (XQ L Z r S1))
    (hL : L[k]? = some (.inr (ci, fl))) (hc : vwCl[ci]? = some (C, T, N)) (hR : (rm.cells == 0 && rm.slots == 0 && Nat.ble (rm.frames + 1) R.frames && Nat.ble (8 + (nL' + 11) + rm.locals) R.locals && Nat.ble cells R.cells && Nat.ble slots R.slots && Nat.ble (rest.map fun v => v.category).sum 8) = true) (hn : As.length = n) (hsz : ls.size = nL) (hst : st0 = As.reverse ++ .ref (Z.2.1 k) :: rest) (hdg : decode cc pc = .ok (.invokevirtual index, 3))
    (kk : ∀ (H : Heap) (locs : List Loc), XH L Z S1 s H locs → W p l e R s m args below meth c H locs cells slots Q (F0 m (pc + 3) ls (.int r :: rest))) : W p l e R s m args below meth c H locs cells slots Q (F0 m pc ls st0) := by
  obtain ⟨hx, hb, hml, hown, hts, hr, hlocks, hK, hSF, hQ⟩ := E
  simp only [Bool.and_eq_true, beq_iff_eq, Nat.ble_eq] at hR
  obtain ⟨⟨⟨⟨⟨⟨r1, r2⟩, r3⟩, r4⟩, r5⟩, r6⟩, r7⟩ := hR
  refine va_calli (mc := 0) (ms := 0) (A0 := wA L.length Z) (H0 := s.heap) (A1 := wA L.length Z) (va_runV (As := As) (rest := rest) ⟨hx, hb, hml, hown, hts⟩ hM (cwV n hts (gt_V hw) rfl r1 r2 hw.2.2.2.2.2 ⟨r3, r4⟩) ⟨XP_blind, va_recv hK X.1 hc (wd_get hL), fun U hU hW => XP_at hK hSF X hU hW⟩ rfl hn hsz hst (lv_room r7) hdg ⟨r5, r6⟩) X.2 (fun q _ h => h) (fun q h => h) (fun r_ u t H1 locs1 ht hvm hw1 hB hz1 hk1 hS => ?_)
  subst hw1
  exact kk H1 locs1 ⟨by rw [← ht]; exact hB, hS⟩
theorem x_callVv (E : XE p s m args meth c cc nL own ret L Z) (X : XH L Z S s H locs) {C : String} {y : MethodName} {cc' : ByteArray} {nL' n index k ci N : Nat} {T : u_T} {fl : List (Option Nat)} {ret' : Option FieldType} {rm : Room} {As st0 : List Value} {S1 : Mem} (hw : CWV own index C y cc' nL' ret' n) (hM : XM l y cc' nL' ret' rm L Z (.ref (Z.2.1 k) :: As) S (XV L Z S1))
    (hL : L[k]? = some (.inr (ci, fl))) (hc : vwCl[ci]? = some (C, T, N)) (hR : (rm.cells == 0 && rm.slots == 0 && Nat.ble (rm.frames + 1) R.frames && Nat.ble (8 + (nL' + 11) + rm.locals) R.locals && Nat.ble cells R.cells && Nat.ble slots R.slots && Nat.ble (rest.map fun v => v.category).sum 8) = true) (hn : As.length = n) (hsz : ls.size = nL) (hst : st0 = As.reverse ++ .ref (Z.2.1 k) :: rest) (hdg : decode cc pc = .ok (.invokevirtual index, 3))
    (kk : ∀ (H : Heap) (locs : List Loc), XH L Z S1 s H locs → W p l e R s m args below meth c H locs cells slots Q (F0 m (pc + 3) ls rest)) : W p l e R s m args below meth c H locs cells slots Q (F0 m pc ls st0) := by
  obtain ⟨hx, hb, hml, hown, hts, hr, hlocks, hK, hSF, hQ⟩ := E
  simp only [Bool.and_eq_true, beq_iff_eq, Nat.ble_eq] at hR
  obtain ⟨⟨⟨⟨⟨⟨r1, r2⟩, r3⟩, r4⟩, r5⟩, r6⟩, r7⟩ := hR
  refine va_callv (mc := 0) (ms := 0) (A0 := wA L.length Z) (H0 := s.heap) (A1 := wA L.length Z) (va_runV (As := As) (rest := rest) ⟨hx, hb, hml, hown, hts⟩ hM (cwV n hts (gt_V hw) rfl r1 r2 hw.2.2.2.2.2 ⟨r3, r4⟩) ⟨XP_blind, va_recv hK X.1 hc (wd_get hL), fun U hU hW => XP_at hK hSF X hU hW⟩ rfl hn hsz hst (lv_room r7) hdg ⟨r5, r6⟩) X.2 (fun q _ h => h) (fun q h => h) (fun u t H1 locs1 ht hvm hw1 hB hz1 hk1 hS => ?_)
  exact kk H1 locs1 ⟨by rw [← ht]; exact hB, hS⟩
theorem x_callS (E : XE p s m args meth c cc nL own ret L Z) (X : XH L Z S s H locs) {y : MethodName} {cc' : ByteArray} {nL' n index : Nat} {ret' : Option FieldType} {rm : Room} {As st0 : List Value} {r : Int32} {S1 : Mem} (hw : CWS own index y cc' nL' ret' n) (hM : XM l y cc' nL' ret' rm L Z As S (XQ L Z r S1))
    (hR : (rm.cells == 0 && rm.slots == 0 && Nat.ble (rm.frames + 1) R.frames && Nat.ble (8 + (nL' + 11) + rm.locals) R.locals && Nat.ble cells R.cells && Nat.ble slots R.slots && Nat.ble (rest.map fun v => v.category).sum 8) = true) (hn : As.length = n) (hsz : ls.size = nL) (hst : st0 = As.reverse ++ rest) (hdg : decode cc pc = .ok (.invokestatic index, 3))
    (kk : ∀ (H : Heap) (locs : List Loc), XH L Z S1 s H locs → W p l e R s m args below meth c H locs cells slots Q (F0 m (pc + 3) ls (.int r :: rest))) : W p l e R s m args below meth c H locs cells slots Q (F0 m pc ls st0) := by
  obtain ⟨hx, hb, hml, hown, hts, hr, hlocks, hK, hSF, hQ⟩ := E
  simp only [Bool.and_eq_true, beq_iff_eq, Nat.ble_eq] at hR
  obtain ⟨⟨⟨⟨⟨⟨r1, r2⟩, r3⟩, r4⟩, r5⟩, r6⟩, r7⟩ := hR
  refine va_calli (mc := 0) (ms := 0) (A0 := wA L.length Z) (H0 := s.heap) (A1 := wA L.length Z) (va_runS (As := As) (rest := rest) ⟨hx, hb, hml, hown, hts⟩ hM ⟨callB_of n hts (gt_code hw.2.2.2.1) rfl r1 r2 (hts _ hw.2.2.1) (hts _ hw.1) hw.2.2.2.2 ⟨r3, r4⟩, hts _ hw.2.1⟩ ⟨XP_blind, fun U hU hW => XP_at hK hSF X hU hW⟩ rfl hn hsz hst (lv_room r7) hdg ⟨r5, r6⟩) X.2 (fun q _ h => h) (fun q h => h) (fun r_ u t H1 locs1 ht hvm hw1 hB hz1 hk1 hS => ?_)
  subst hw1
  exact kk H1 locs1 ⟨by rw [← ht]; exact hB, hS⟩
theorem x_callSv (E : XE p s m args meth c cc nL own ret L Z) (X : XH L Z S s H locs) {y : MethodName} {cc' : ByteArray} {nL' n index : Nat} {ret' : Option FieldType} {rm : Room} {As st0 : List Value} {S1 : Mem} (hw : CWS own index y cc' nL' ret' n) (hM : XM l y cc' nL' ret' rm L Z As S (XV L Z S1))
    (hR : (rm.cells == 0 && rm.slots == 0 && Nat.ble (rm.frames + 1) R.frames && Nat.ble (8 + (nL' + 11) + rm.locals) R.locals && Nat.ble cells R.cells && Nat.ble slots R.slots && Nat.ble (rest.map fun v => v.category).sum 8) = true) (hn : As.length = n) (hsz : ls.size = nL) (hst : st0 = As.reverse ++ rest) (hdg : decode cc pc = .ok (.invokestatic index, 3))
    (kk : ∀ (H : Heap) (locs : List Loc), XH L Z S1 s H locs → W p l e R s m args below meth c H locs cells slots Q (F0 m (pc + 3) ls rest)) : W p l e R s m args below meth c H locs cells slots Q (F0 m pc ls st0) := by
  obtain ⟨hx, hb, hml, hown, hts, hr, hlocks, hK, hSF, hQ⟩ := E
  simp only [Bool.and_eq_true, beq_iff_eq, Nat.ble_eq] at hR
  obtain ⟨⟨⟨⟨⟨⟨r1, r2⟩, r3⟩, r4⟩, r5⟩, r6⟩, r7⟩ := hR
  refine va_callv (mc := 0) (ms := 0) (A0 := wA L.length Z) (H0 := s.heap) (A1 := wA L.length Z) (va_runS (As := As) (rest := rest) ⟨hx, hb, hml, hown, hts⟩ hM ⟨callB_of n hts (gt_code hw.2.2.2.1) rfl r1 r2 (hts _ hw.2.2.1) (hts _ hw.1) hw.2.2.2.2 ⟨r3, r4⟩, hts _ hw.2.1⟩ ⟨XP_blind, fun U hU hW => XP_at hK hSF X hU hW⟩ rfl hn hsz hst (lv_room r7) hdg ⟨r5, r6⟩) X.2 (fun q _ h => h) (fun q h => h) (fun u t H1 locs1 ht hvm hw1 hB hz1 hk1 hS => ?_)
  exact kk H1 locs1 ⟨by rw [← ht]; exact hB, hS⟩
theorem x_callN (E : XE p s m args meth c cc nL own ret L Z) (X : XH L Z S s H locs) {y : MethodName} {host : String} {cc' : ByteArray} {nL' n index : Nat} {ret' : Option FieldType} {rm : Room} {As st0 : List Value} {r : Int32} {S1 : Mem} (hw : CWN own index y host cc' nL' ret' n) (hM : XM l y cc' nL' ret' rm L Z As S (XQ L Z r S1))
    (hR : (rm.cells == 0 && rm.slots == 0 && Nat.ble (rm.frames + 1) R.frames && Nat.ble (8 + (nL' + 11) + rm.locals) R.locals && Nat.ble cells R.cells && Nat.ble slots R.slots && Nat.ble (rest.map fun v => v.category).sum 8) = true) (hn : As.length = n) (hsz : ls.size = nL) (hst : st0 = As.reverse ++ rest) (hdg : decode cc pc = .ok (.invokestatic index, 3))
    (kk : ∀ (H : Heap) (locs : List Loc), XH L Z S1 s H locs → W p l e R s m args below meth c H locs cells slots Q (F0 m (pc + 3) ls (.int r :: rest))) : W p l e R s m args below meth c H locs cells slots Q (F0 m pc ls st0) := by
  obtain ⟨hx, hb, hml, hown, hts, hr, hlocks, hK, hSF, hQ⟩ := E
  simp only [Bool.and_eq_true, beq_iff_eq, Nat.ble_eq] at hR
  obtain ⟨⟨⟨⟨⟨⟨r1, r2⟩, r3⟩, r4⟩, r5⟩, r6⟩, r7⟩ := hR
  refine va_calli (mc := 0) (ms := 0) (A0 := wA L.length Z) (H0 := s.heap) (A1 := wA L.length Z) (va_runSN (As := As) (rest := rest) ⟨hx, hb, hml, hown, hts⟩ hM ⟨va_cnB n hts (gt_code hw.2.2.2.1) rfl r1 r2 (hSF.2.2.2.2.2.2.1.1 _ hw.1) (hts _ hw.2.2.1) hw.2.2.2.2 ⟨r3, r4⟩, hts _ hw.2.1, trivial⟩ ⟨XP_blind, fun U hU hW => XP_at hK hSF X hU hW⟩ rfl hn hsz hst (lv_room r7) hdg ⟨r5, r6⟩) X.2 (fun q _ h => h) (fun q h => h) (fun r_ u t H1 locs1 ht hvm hw1 hB hz1 hk1 hS => ?_)
  subst hw1
  exact kk H1 locs1 ⟨by rw [← ht]; exact hB, hS⟩
end XRows
