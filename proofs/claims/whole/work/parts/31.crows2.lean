/-! constructors: rows, second half -/
section CRows2
variable {p : Program} {l : Launch} {e : Env} {R : Room} {s : State} {m : MethodId} {args : Array Value} {below : List Frame} {meth : Method} {c : Code} {H : Heap} {locs : List Loc} {cells slots : Nat} {Q : State → Prop} {cc : ByteArray} {nL : Nat} {own : String} {ret : Option FieldType} {B n0 : Nat} {L L' : Lay} {Z : XG} {S : Mem} {pc : Nat} {ls : Array Slot} {rest : List Value}
/-- a reference field's words -/
def FR (own : String) (index ci j : Nat) (fin : Bool) : Prop := ∃ (C : String) (T : u_T) (N : Nat) (ty : FieldType), vwCl[ci]? = some (C, T, N) ∧ (∀ w ∈ u_ws C T N, w ∈ gt) ∧ j < N ∧ Cond.fieldLink own index (T j).1 (T j).2.1 (T j).2.2.1 ∈ gt ∧ (∃ ty0 : Nat → FieldType, (∀ k, k < N → parseFieldDescriptor (T k).2.2.1 = some (ty0 k)) ∧ (∀ a, a < N → ∀ b, b < N → a ≠ b → (T a).2.1 ≠ (T b).2.1) ∧ ty0 j = ty) ∧ (T j).2.2.2 = fin ∧ (T j).1 = own ∧ (∀ a : Nat, narrow ty (.ref a) = .ref a ∧ fits ty (.ref a) = true)
theorem y_putr (E : XEc p s m args meth c cc nL own ret B n0 Z) (hin : meth.name = "<init>") (X : XHc B L Z S s H locs) {k j ci index t : Nat} {fin : Bool} {fl : List (Option Nat)} (hF : FR own index ci j fin) (hL : L[k]? = some (.inr (ci, fl))) (hj : Nat.blt j fl.length = true) (ht : t ≠ 1000) (hL' : L' = L.set k (.inr (ci, fl.set j (some t)))) (hdg : decode cc pc = .ok (.putfield index, 3))
    (kk : ∀ (H : Heap) (locs : List Loc), XHc B L' Z S s H locs → W p l e R s m args below meth c H locs cells slots Q (F0 m (pc + 3) ls rest)) : W p l e R s m args below meth c H locs cells slots Q (F0 m pc ls (.ref (Z.2.1 t) :: .ref (Z.2.1 k) :: rest)) := by
  obtain ⟨hx, hb, hml, hown, hts, hr, hlocks, hK, hSF, hZ, hs⟩ := E
  obtain ⟨C, T, N, ty, h1, h2, h3, h4, ⟨ty0, g1, g2, g3⟩, h6, h7, h8⟩ := hF
  have hj : j < fl.length := Nat.le_of_ble_eq_true hj
  subst hL'
  have fini : ∀ (H1 : Heap), va_P Z.1 vwCl ((wd L Z S).set k (Z.2.1 k, .inr (ci, (wfl Z.2.1 (S k) fl).set j (.ref (Z.2.1 t))))) H1 → va_P Z.1 vwCl (wd (L.set k (.inr (ci, fl.set j (some t)))) Z S) H1 := by
    intro H1 hP
    rw [wfl_setr hj ht] at hP
    have := wd_setL (Z := Z) (S := S) (d := .inr (ci, fl.set j (some t))) (List.getElem?_eq_some_iff.mp hL).1
    exact this ▸ hP
  cases fin with
  | true =>
    exact va_putF (D := Z.1) (ty := ty) hx hb hts h2 ty0 g1 g2 hown hK X.1 (wd_Dc hZ) X.2 k (wd_get hL) h1 j h3 (hts _ h4) (fun _ h9 => h9) h6 hin h7 (by rw [g1 j h3, g3]) (h8 _).1 (h8 _).2 (by rw [wfl_len]; exact hj) hdg (fun H1 locs1 hP _ hS => kk H1 locs1 ⟨fini H1 hP, hS⟩)
  | false =>
    exact va_put (D := Z.1) (ty := ty) hx hb hts h2 ty0 g1 g2 hown hK X.1 (wd_Dc hZ) X.2 k (wd_get hL) h1 j h3 (hts _ h4) (fun _ h9 => h9) h6 (by rw [g1 j h3, g3]) (h8 _).1 (h8 _).2 (by rw [wfl_len]; exact hj) hdg (fun H1 locs1 hP _ hS => kk H1 locs1 ⟨fini H1 hP, hS⟩)
theorem y_put (E : XEc p s m args meth c cc nL own ret B n0 Z) (X : XHc B L Z S s H locs) {k j ci index : Nat} {fl : List (Option Nat)} {v : Int32} (hF : FP own index ci j .int) (hL : L[k]? = some (.inr (ci, fl))) (hf : fl[j]? = some none) (hdg : decode cc pc = .ok (.putfield index, 3))
    (kk : ∀ (H : Heap) (locs : List Loc), XHc B L Z (mset S k j v) s H locs → W p l e R s m args below meth c H locs cells slots Q (F0 m (pc + 3) ls rest)) : W p l e R s m args below meth c H locs cells slots Q (F0 m pc ls (.int v :: .ref (Z.2.1 k) :: rest)) := by
  obtain ⟨hx, hb, hml, hown, hts, hr, hlocks, hK, hSF, hZ, hs⟩ := E
  obtain ⟨C, T, N, h1, h2, h3, h4, ⟨ty0, g1, g2, g3⟩, h6⟩ := hF
  refine va_put (D := Z.1) (ty := .int) hx hb hts h2 ty0 g1 g2 hown hK X.1 (wd_Dc hZ) X.2 k (wd_get hL) h1 j h3 (hts _ h4) (fun _ h9 => h9) h6 (by rw [g1 j h3, g3]) rfl rfl (by rw [wfl_len]; exact (List.getElem?_eq_some_iff.mp hf).1) hdg (fun H1 locs1 hP _ hS => kk H1 locs1 ⟨?_, hS⟩)
  rw [wfl_set hf] at hP
  have := wd_put (Z := Z) (S := S) (f := upd (S k) j v) hL
  exact this ▸ hP
theorem y_getr (E : XEc p s m args meth c cc nL own ret B n0 Z) (X : XHc B L Z S s H locs) {k j ci index t : Nat} {fl : List (Option Nat)} (hF : FF own index ci j) (hL : L[k]? = some (.inr (ci, fl))) (hf : fl[j]? = some (some t)) (ht : t ≠ 1000) (hdg : decode cc pc = .ok (.getfield index, 3))
    (kk : W p l e R s m args below meth c H locs cells slots Q (F0 m (pc + 3) ls (.ref (Z.2.1 t) :: rest))) : W p l e R s m args below meth c H locs cells slots Q (F0 m pc ls (.ref (Z.2.1 k) :: rest)) := by
  obtain ⟨hx, hb, hml, hown, hts, hr, hlocks, hK, hSF, hZ, hs⟩ := E
  obtain ⟨C, T, N, h1, h2, h3, h4⟩ := hF
  exact va_get (D := Z.1) hx hb hts h2 hown hK X.1 k (wd_get hL) h1 j h3 (hts _ h4) (fun _ h9 => h9) (wfl_getr hf ht) hdg kk
theorem y_iast (E : XEc p s m args meth c cc nL own ret B n0 Z) (X : XHc B L Z S s H locs) {k n : Nat} {i x : Int32} (hL : L[k]? = some (.inl (n, false))) (hi : inB i n = true) (hdg : decode cc pc = .ok (.iastore, 1))
    (kk : ∀ (H : Heap) (locs : List Loc), XHc B L Z (mset S k i.toNatClampNeg x) s H locs → W p l e R s m args below meth c H locs cells slots Q (F0 m (pc + 1) ls rest)) : W p l e R s m args below meth c H locs cells slots Q (F0 m pc ls (.int x :: .int i :: .ref (Z.2.1 k) :: rest)) := by
  obtain ⟨hx, hb, hml, hown, hts, hr, hlocks, hK, hSF, hZ, hs⟩ := E
  refine va_iast (D := Z.1) hx hb hK X.1 (wd_Dc hZ) X.2 k 0 (wd_get hL) rfl (inB_in hi) hdg (fun H1 locs1 hP _ hS => kk H1 locs1 ⟨?_, hS⟩)
  have := wd_put (Z := Z) (S := S) (f := upd (S k) i.toNatClampNeg x) hL
  exact this ▸ hP
theorem y_getsN (E : XEc p s m args meth c cc nL own ret B n0 Z) (X : XHc B L Z S s H locs) {nm host : String} {t index : Nat} (hZ : va_Z RX7 nm "[I" (.ref t) (cA B) s s.heap) (hlink : (own, index, RX7, nm, "[I", host) ∈ nwF) (hdg : decode cc pc = .ok (.getstatic index, 3))
    (kk : W p l e R s m args below meth c H locs cells slots Q (F0 m (pc + 3) ls (.ref t :: rest))) : W p l e R s m args below meth c H locs cells slots Q (F0 m pc ls rest) := by
  obtain ⟨hx, hb, hml, hown, hts, hr, hlocks, hK, hSF, -⟩ := E
  exact va_getsN hx hb hZ X.2 hown (va_Nw.use rfl (hSF.2.2.2.2.2.2.1.2 _ hlink)) (fun _ h => h) hdg kk
theorem y_ti (E : XEc p s m args meth c cc nL own ret B n0 Z) (X : XHc B L Z S s H locs) {t : Nat} {xs : List Int32} {i : Int32} (hT : va_T .int t xs.length (fun j => .int (xs.getD j 0)) (cA B) s s.heap) (hi : inB i xs.length = true) (hdg : decode cc pc = .ok (.iaload, 1))
    (kk : W p l e R s m args below meth c H locs cells slots Q (F0 m (pc + 1) ls (.int (xs.getD i.toNatClampNeg 0) :: rest))) : W p l e R s m args below meth c H locs cells slots Q (F0 m pc ls (.int i :: .ref t :: rest)) :=
  va_ti E.1 E.2.1 hT X.2 (inB_in hi) rfl hdg kk
theorem y_objInit (E : XEc p s m args meth c cc nL own ret B n0 Z) {index a : Nat} (hw : Cond.methodLink own index objectInit ∈ gt ∧ Cond.instanceMethod objectInit ∈ gt ∧ Cond.code objectInit ⟨#[0xb1]⟩ 1 none ∈ gt) (hsz : ls.size = nL) (hR : (Nat.ble 1 R.frames && Nat.ble ((rest.map fun v => v.category).sum + 12) R.locals) = true) (hdg : decode cc pc = .ok (.invokespecial index, 3))
    (kk : W p l e R s m args below meth c H locs cells slots Q (F0 m (pc + 3) ls rest)) : W p l e R s m args below meth c H locs cells slots Q (F0 m pc ls (.ref a :: rest)) := by
  obtain ⟨hx, hb, hml, hown, hts, hr, hlocks, hK, hSF, hZ, hs⟩ := E
  simp only [Bool.and_eq_true, Nat.ble_eq] at hR
  refine W.objInit hx hb hown (hts _ hw.1) (hts _ hw.2.1) (hts _ hw.2.2) rfl (by rw [hml]; exact hsz) rfl hdg hR.1 ?_ kk
  have : 2 * (F0 m pc ls (.ref a :: rest)).monitorRoom = 0 := rfl
  omega
/-- Arrays.fill and its like on the world as it stands -/
theorem y_callSv (E : XEc p s m args meth c cc nL own ret B n0 Z) (X : XHc B L Z S s H locs) {y : MethodName} {cc' : ByteArray} {nL' n index : Nat} {ret' : Option FieldType} {rm : Room} {As st0 : List Value} {S1 : Mem} (hw : CWS own index y cc' nL' ret' n) (hM : XM l y cc' nL' ret' rm L Z As S (XV L Z S1))
    (hR : (rm.cells == 0 && rm.slots == 0 && Nat.ble (rm.frames + 1) R.frames && Nat.ble (8 + (nL' + 11) + rm.locals) R.locals && Nat.ble cells R.cells && Nat.ble slots R.slots && Nat.ble (rest.map fun v => v.category).sum 8) = true) (hn : As.length = n) (hsz : ls.size = nL) (hst : st0 = As.reverse ++ rest) (hdg : decode cc pc = .ok (.invokestatic index, 3))
    (kk : ∀ (H : Heap) (locs : List Loc), XHc B L Z S1 s H locs → W p l e R s m args below meth c H locs cells slots Q (F0 m (pc + 3) ls rest)) : W p l e R s m args below meth c H locs cells slots Q (F0 m pc ls st0) := by
  obtain ⟨hx, hb, hml, hown, hts, hr, hlocks, hK, hSF, hZ, hs⟩ := E
  have hA : ∀ q, wA L.length Z q → cA B q := by
    rintro q ⟨k, -, rfl⟩
    show B ≤ Z.2.1 k
    rw [hZ k]; omega
  simp only [Bool.and_eq_true, beq_iff_eq, Nat.ble_eq] at hR
  obtain ⟨⟨⟨⟨⟨⟨r1, r2⟩, r3⟩, r4⟩, r5⟩, r6⟩, r7⟩ := hR
  refine va_callv (mc := 0) (ms := 0) (A0 := cA B) (H0 := s.heap) (A1 := wA L.length Z) (va_runS (As := As) (rest := rest) ⟨hx, hb, hml, hown, hts⟩ hM ⟨callB_of n hts (gt_code hw.2.2.2.1) rfl r1 r2 (hts _ hw.2.2.1) (hts _ hw.1) hw.2.2.2.2 ⟨r3, r4⟩, hts _ hw.2.1⟩ ⟨XP_blind, fun U hU hW => ⟨rfl, by rw [hU]; exact X.1, va_K.moved hW.alike hK, (hSF.go (fun a h1 h2 => by rw [hU]; exact X.2.2.1 a h1 h2) hW).narrow hA⟩⟩ rfl hn hsz hst (lv_room r7) hdg ⟨r5, r6⟩) X.2 (fun q _ h => hA q h) (fun q h => hA q h) (fun u t H1 locs1 ht hvm hw1 hB hz1 hk1 hS => ?_)
  exact kk H1 locs1 ⟨by rw [← ht]; exact hB, hS⟩
def CWI (own : String) (index : Nat) (y : MethodName) (cc' : ByteArray) (nL' : Nat) (n : Nat) : Prop := Cond.methodLink own index y ∈ gt ∧ Cond.instanceMethod y ∈ gt ∧ Cond.initialized y.cls ∈ gt ∧ Cond.code y cc' nL' none ∈ gt ∧ y.name = "<init>" ∧ (y.cls ≠ "java/lang/invoke/MethodHandle" ∧ y.cls ≠ "java/lang/invoke/VarHandle" ∧ (parseMethodDescriptor y.desc).map (fun d => d.parameters.length) = some n)
def CWIN (own : String) (index : Nat) (y : MethodName) (host : String) (cc' : ByteArray) (nL' : Nat) (n : Nat) : Prop := (own, index, y, host) ∈ nwM ∧ Cond.instanceMethod y ∈ gt ∧ Cond.initialized y.cls ∈ gt ∧ Cond.code y cc' nL' none ∈ gt ∧ y.name = "<init>" ∧ (y.cls ≠ "java/lang/invoke/MethodHandle" ∧ y.cls ≠ "java/lang/invoke/VarHandle" ∧ (parseMethodDescriptor y.desc).map (fun d => d.parameters.length) = some n)
theorem XPc_at {av : List Value} {U : State} (E : XEc p s m args meth c cc nL own ret B n0 Z) (X : XHc B L Z S s H locs) (hsz : H.size = B + L.length) (hU : U.heap = H) (hW : s.WarmedH U.vm) : XPc B L Z S av av.toArray U := by
  obtain ⟨hx, hb, hml, hown, hts, hr, hlocks, hK, hSF, hZ, hs⟩ := E
  exact ⟨rfl, by rw [hU]; exact X.1, va_K.moved hW.alike hK, hSF.go (fun a h1 h2 => by rw [hU]; exact X.2.2.1 a h1 h2) hW, by rw [hU]; exact hsz⟩
theorem y_callI (E : XEc p s m args meth c cc nL own ret B n0 Z) (X : XHc B L Z S s H locs) {y : MethodName} {cc' : ByteArray} {nL' n index k mc ms : Nat} {rm : Room} {As st0 : List Value} {S1 : Mem} (hw : CWI own index y cc' nL' n) (hM : XMc l y cc' nL' rm B L L' Z (.ref (Z.2.1 k) :: As) S S1 mc ms)
    (hc : n0 + cells = L.length) (h0 : Nat.blt 0 L.length = true) (hR : (rm.cells == mc && rm.slots == ms && Nat.ble (rm.frames + 1) R.frames && Nat.ble (8 + (nL' + 11) + rm.locals) R.locals && Nat.ble (cells + mc) R.cells && Nat.ble (slots + ms) R.slots && Nat.ble (rest.map fun v => v.category).sum 8) = true) (hn : As.length = n) (hsz : ls.size = nL) (hst : st0 = As.reverse ++ .ref (Z.2.1 k) :: rest) (hdg : decode cc pc = .ok (.invokespecial index, 3))
    (kk : ∀ (H : Heap) (locs : List Loc), XHc B L' Z S1 s H locs → W p l e R s m args below meth c H locs (cells + mc) (slots + ms) Q (F0 m (pc + 3) ls rest)) : W p l e R s m args below meth c H locs cells slots Q (F0 m pc ls st0) := by
  refine W.bnd (fun hb0 => ?_)
  have hsz0 := y_size E X hc h0 hb0
  have E2 := E
  obtain ⟨hx, hb, hml, hown, hts, hr, hlocks, hK, hSF, hZ, hs⟩ := E
  simp only [Bool.and_eq_true, beq_iff_eq, Nat.ble_eq] at hR
  obtain ⟨⟨⟨⟨⟨⟨r1, r2⟩, r3⟩, r4⟩, r5⟩, r6⟩, r7⟩ := hR
  refine va_callv (A0 := cA B) (H0 := s.heap) (A1 := cA B) (va_runI (As := As) (rest := rest) ⟨hx, hb, hml, hown, hts⟩ hM ⟨callB_of n hts (gt_code hw.2.2.2.1) rfl r1 r2 (hts _ hw.2.2.1) (hts _ hw.1) hw.2.2.2.2.2 ⟨r3, r4⟩, hw.2.2.2.2.1, hts _ hw.2.1⟩ ⟨XPc_blind, fun U hU hW => XPc_at E2 X hsz0 hU hW⟩ rfl hn hsz hst (lv_room r7) hdg ⟨r5, r6⟩) X.2 (fun q _ h => h) (fun q h => h) (fun u t H1 locs1 ht hvm hw1 hB hz1 hk1 hS => ?_)
  exact kk H1 locs1 ⟨by rw [← ht]; exact hB, hS⟩
theorem y_callIN (E : XEc p s m args meth c cc nL own ret B n0 Z) (X : XHc B L Z S s H locs) {y : MethodName} {host : String} {cc' : ByteArray} {nL' n index k mc ms : Nat} {rm : Room} {As st0 : List Value} {S1 : Mem} (hw : CWIN own index y host cc' nL' n) (hM : XMc l y cc' nL' rm B L L' Z (.ref (Z.2.1 k) :: As) S S1 mc ms)
    (hc : n0 + cells = L.length) (h0 : Nat.blt 0 L.length = true) (hR : (rm.cells == mc && rm.slots == ms && Nat.ble (rm.frames + 1) R.frames && Nat.ble (8 + (nL' + 11) + rm.locals) R.locals && Nat.ble (cells + mc) R.cells && Nat.ble (slots + ms) R.slots && Nat.ble (rest.map fun v => v.category).sum 8) = true) (hn : As.length = n) (hsz : ls.size = nL) (hst : st0 = As.reverse ++ .ref (Z.2.1 k) :: rest) (hdg : decode cc pc = .ok (.invokespecial index, 3))
    (kk : ∀ (H : Heap) (locs : List Loc), XHc B L' Z S1 s H locs → W p l e R s m args below meth c H locs (cells + mc) (slots + ms) Q (F0 m (pc + 3) ls rest)) : W p l e R s m args below meth c H locs cells slots Q (F0 m pc ls st0) := by
  refine W.bnd (fun hb0 => ?_)
  have hsz0 := y_size E X hc h0 hb0
  have E2 := E
  obtain ⟨hx, hb, hml, hown, hts, hr, hlocks, hK, hSF, hZ, hs⟩ := E
  simp only [Bool.and_eq_true, beq_iff_eq, Nat.ble_eq] at hR
  obtain ⟨⟨⟨⟨⟨⟨r1, r2⟩, r3⟩, r4⟩, r5⟩, r6⟩, r7⟩ := hR
  refine va_callv (A0 := cA B) (H0 := s.heap) (A1 := cA B) (va_runIN (As := As) (rest := rest) ⟨hx, hb, hml, hown, hts⟩ hM ⟨va_cnB n hts (gt_code hw.2.2.2.1) rfl r1 r2 (hSF.2.2.2.2.2.2.1.1 _ hw.1) (hts _ hw.2.2.1) hw.2.2.2.2.2 ⟨r3, r4⟩, hw.2.2.2.2.1, hts _ hw.2.1⟩ ⟨XPc_blind, fun U hU hW => XPc_at E2 X hsz0 hU hW⟩ rfl hn hsz hst (lv_room r7) hdg ⟨r5, r6⟩) X.2 (fun q _ h => h) (fun q h => h) (fun u t H1 locs1 ht hvm hw1 hB hz1 hk1 hS => ?_)
  exact kk H1 locs1 ⟨by rw [← ht]; exact hB, hS⟩
theorem y_vret (E : XEc p s m args meth c cc nL own none B n0 Z) (X : XHc B L Z S s H locs) {r : Int32} {S' : Mem} (h : some ((0 : Int32), S) = some (r, S')) (hdg : decode cc pc = .ok (.return_, 1)) : W p l e R s m args below meth c H locs cells slots (MQ below (XVc B L Z S') args s cells slots (cA B)) (F0 m pc ls []) := by
  obtain ⟨hx, hb, hml, hown, hts, hr, hlocks, hK, hSF, hZ, hs⟩ := E
  cases h
  exact W.vret hx hb hr (fun t ht hW => ⟨⟨(), rfl, trivial, by show va_P Z.1 vwCl (wd L Z S) t.heap; rw [ht]; exact X.1⟩, X.2.F ht⟩) X.2.2.2 hdg
abbrev WNc (p : Program) (l : Launch) (e : Env) (R : Room) (s : State) (m : MethodId) (args : Array Value) (below : List Frame) (meth : Method) (c : Code) (B : Nat) (L : Lay) (Z : XG) (Qc : State → Prop) (S : Mem) (pc nL cells slots : Nat) (lv : List (Nat × Value)) (st : List Value) : Prop :=
  ∀ (H : Heap) (locs : List Loc) (ls : Array Slot), XHc B L Z S s H locs → lv_has ls nL lv → W p l e R s m args below meth c H locs cells slots Qc (F0 m pc ls st)
end CRows2
