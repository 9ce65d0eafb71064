/-! constructors: worlds that grow; the addresses are B, B + 1, .. -/
def cA (B : Nat) : Nat → Prop := fun q => B ≤ q
def XEc (p : Program) (s : State) (m : MethodId) (args : Array Value) (meth : Method) (c : Code) (cc : ByteArray) (nL : Nat) (own : String) (ret : Option FieldType) (B n0 : Nat) (Z : XG) : Prop :=
  p.tables.exec = Jvm.exec ∧ c.code = cc ∧ c.maxLocals = nL ∧ s.vm.findClass own = some m.cls ∧ (∀ w ∈ gt, w.before args s = true) ∧ meth.sig.returnType = ret ∧ meth.locks = false ∧ va_K Z.1 vwCl (xtys Z) s ∧ SF (cA B) Z s ∧ (∀ k, Z.2.1 k = B + k) ∧ s.heap.size = B + n0
def XHc (B : Nat) (L : Lay) (Z : XG) (S : Mem) (s : State) (H : Heap) (locs : List Loc) : Prop := va_P Z.1 vwCl (wd L Z S) H ∧ va_S (cA B) s.heap H locs
theorem wd_Dc {B : Nat} {L : Lay} {Z : XG} {S : Mem} (h : ∀ k, Z.2.1 k = B + k) : va_D (cA B) (wd L Z S) := by
  refine ⟨fun i j p q hi hj e => ?_, fun k q hk => ?_⟩
  · obtain ⟨a1, a2⟩ := wd_at hi
    obtain ⟨b1, b2⟩ := wd_at hj
    have := h i; have := h j
    omega
  · obtain ⟨a1, a2⟩ := wd_at hk
    show B ≤ q.1
    rw [a2, h k]; omega
theorem wd_app {L : Lay} {Z : XG} {S : Mem} {d : Kd} {f : Nat → Int32} : wd (L ++ [d]) Z (mput S L.length f) = wd L Z S ++ [(Z.2.1 L.length, wce Z f d)] := by
  refine List.ext_getElem? (fun i => ?_)
  rcases Nat.lt_trichotomy i L.length with h | h | h
  · rw [List.getElem?_append_left (by rw [wd_len]; exact h), wd_get (d := L[i]) (by rw [List.getElem?_append_left h, List.getElem?_eq_getElem h]), wd_get (List.getElem?_eq_getElem h), mput_ne S f (Nat.ne_of_lt h)]
  · subst h
    rw [List.getElem?_append_right (by rw [wd_len]; exact Nat.le_refl _), wd_get (d := d) (by simp), wd_len, mput_same]
    simp
  · rw [List.getElem?_eq_none_iff.mpr (by rw [wd_len, List.length_append]; simp; omega), List.getElem?_eq_none_iff.mpr (by rw [List.length_append, wd_len]; simp; omega)]
theorem wfl_setr {Q : Nat → Nat} {f : Nat → Int32} {fl : List (Option Nat)} {j t : Nat} (hj : j < fl.length) (ht : t ≠ 1000) : (wfl Q f fl).set j (.ref (Q t)) = wfl Q f (fl.set j (some t)) := by
  refine List.ext_getElem? (fun i => ?_)
  by_cases hi : i = j
  · subst hi
    rw [List.getElem?_set_self (by simpa [wfl] using hj), wfl_getr (t := t) (by rw [List.getElem?_set_self hj]) ht]
  · rw [List.getElem?_set_ne (Ne.symm hi)]
    simp only [wfl, List.getElem?_mapIdx, List.getElem?_set_ne (Ne.symm hi)]
theorem wd_setL {L : Lay} {Z : XG} {S : Mem} {k : Nat} {d : Kd} (hk : k < L.length) : (wd L Z S).set k (Z.2.1 k, wce Z (S k) d) = wd (L.set k d) Z S := by
  refine List.ext_getElem? (fun i => ?_)
  by_cases hi : i = k
  · subst hi
    rw [List.getElem?_set_self (by rw [wd_len]; exact hk), wd_get (d := d) (by rw [List.getElem?_set_self hk])]
  · rw [List.getElem?_set_ne (Ne.symm hi)]
    simp only [wd, List.getElem?_mapIdx, List.getElem?_set_ne (Ne.symm hi)]
def XPc (B : Nat) (L : Lay) (Z : XG) (S : Mem) (av : List Value) : Array Value → State → Prop := va_Pc av (fun U => va_P Z.1 vwCl (wd L Z S) U.heap ∧ va_K Z.1 vwCl (xtys Z) U ∧ SF (cA B) Z U ∧ U.heap.size = B + L.length)
def XVc (B : Nat) (L : Lay) (Z : XG) (S : Mem) : Array Value → State → Outcome → State → Prop := va_Qv (S := Unit) (fun _ => True) (fun _ t => va_P Z.1 vwCl (wd L Z S) t.heap) (cA B)
def XMc (l : Launch) (y : MethodName) (cc : ByteArray) (nL : Nat) (rm : Room) (B : Nat) (L L' : Lay) (Z : XG) (av : List Value) (S S' : Mem) (mc ms : Nat) : Prop :=
  Met l y (Cond.code y cc nL none :: gt) rm (XPc B L Z S av) (XVc B L' Z S') mc ms (cA B)
theorem XPc_blind {B : Nat} {L : Lay} {Z : XG} {S : Mem} {av : List Value} : FrameBlind (XPc B L Z S av) := by
  intro a U g mk q
  obtain ⟨q0, q1, q2, q3, q4⟩ := q
  exact ⟨q0, q1, va_K.moved (u := U) (U := U.calling g mk a) (Vm.Alike.refl U.vm) q2, q3.calling g mk a, q4⟩
section XMcof
variable {l : Launch} {y : MethodName} {cc : ByteArray} {nL : Nat} {rm : Room} {B : Nat} {L L' : Lay} {Z : XG} {av : List Value} {S S' : Mem} {mc ms : Nat}
theorem XMc.of {own : String} (hy : plainName y.cls = true) (ho : y.cls = own) (hyn : y.name = "<init>") (hn : Nat.ble (lg_sl av).length nL = true) (hB : ∀ k, Z.2.1 k = B + k)
    (body : ∀ (p : Program) (e : Env) (s : State) (m : MethodId) (args : Array Value) (below : List Frame) (meth : Method) (c : Code), XEc p s m args meth c cc nL own none B L.length Z → meth.name = "<init>" → ∀ ls : Array Slot, lv_has ls nL (lv_args 0 av) → XHc B L Z S s s.heap [] →
      W p l e rm s m args below meth c s.heap [] 0 0 (MQ below (XVc B L' Z S') args s mc ms (cA B)) (F0 m 0 ls [])) : XMc l y cc nL rm B L L' Z av S S' mc ms := by
  refine Met.ofW (cc := cc) (maxL := nL) (ret := none) hy rfl ?_
  intro p e s m args below meth c s₁ B0 hml hv
  obtain ⟨rfl, hP, hK, hF, hs⟩ := hv
  have hts := atoms_spec (ws := Cond.code y cc nL none :: gt) B0.pre
  have hown : s.vm.findClass own = some m.cls := by rw [← ho]; exact findClass_of_methodNamed B0.named
  have hl := lv_entry av (n := nL) (Nat.le_of_ble_eq_true hn)
  rw [lg_entry_eq]
  exact body p e s m _ below meth c ⟨B0.exec, B0.bytes, hml, hown, fun w hw => hts w (List.mem_cons_of_mem _ hw), B0.returns, B0.notSynchronized, hK, hF, hB, hs⟩ (by rw [(name_of_methodNamed B0.named B0.method).1]; exact hyn) _ hl ⟨hP, va_S.rf⟩
end XMcof
section CRows
variable {p : Program} {l : Launch} {e : Env} {R : Room} {s : State} {m : MethodId} {args : Array Value} {below : List Frame} {meth : Method} {c : Code} {H : Heap} {locs : List Loc} {cells slots : Nat} {Q : State → Prop} {cc : ByteArray} {nL : Nat} {own : String} {ret : Option FieldType} {B n0 : Nat} {L L' : Lay} {Z : XG} {S : Mem} {pc : Nat} {ls : Array Slot} {rest : List Value}
theorem W.bnd {g : JFrame} (k : H.size ≤ s.heap.size + cells → W p l e R s m args below meth c H locs cells slots Q g) : W p l e R s m args below meth c H locs cells slots Q g := fun T hT X => k (by have h := X.same.2.2.1; rw [← hT]; exact h) T hT X
theorem y_size (E : XEc p s m args meth c cc nL own ret B n0 Z) (X : XHc B L Z S s H locs) (hc : n0 + cells = L.length) (h0 : Nat.blt 0 L.length = true) (hb : H.size ≤ s.heap.size + cells) : H.size = B + L.length := by
  obtain ⟨-, -, -, -, -, -, -, -, -, hZ, hs⟩ := E
  have h0 : 0 < L.length := Nat.lt_of_lt_of_le Nat.zero_lt_one (Nat.le_of_ble_eq_true h0)
  have h1 : L.length - 1 < L.length := by omega
  have h2 := (X.1 (L.length - 1) _ (wd_get (List.getElem?_eq_getElem h1))).lt
  have h3 := hZ (L.length - 1)
  dsimp only at h2
  omega
theorem y_newI (E : XEc p s m args meth c cc nL own ret B n0 Z) (X : XHc B L Z S s H locs) {n : Int32} {N k : Nat} (harr : Cond.arrayClass .int ∈ gt) (hL : L' = L ++ [.inl (N, false)]) (hk : L.length = k) (hc : n0 + cells = L.length) (h0 : Nat.blt 0 L.length = true) (hn : ¬ n < 0) (hN : n.toNatClampNeg = N) (hR : (Nat.ble (N * componentBytes .int) 536870912 && Nat.ble (cells + 1) R.cells && Nat.ble (slots + N) R.slots) = true) (hdg : decode cc pc = .ok (.newarray .int, 2))
    (kk : ∀ H : Heap, XHc B L' Z (mput S k (fun _ => 0)) s H locs → W p l e R s m args below meth c H locs (cells + 1) (slots + N) Q (F0 m (pc + 2) ls (.ref (Z.2.1 k) :: rest))) : W p l e R s m args below meth c H locs cells slots Q (F0 m pc ls (.int n :: rest)) := by
  refine W.bnd (fun hb0 => ?_)
  have hsz := y_size E X hc h0 hb0
  obtain ⟨hx, hb, hml, hown, hts, hr, hlocks, hK, hSF, hZ, hs⟩ := E
  simp only [Bool.and_eq_true, Nat.ble_eq] at hR
  subst hL; subst hk
  refine va_newaK (N := N) hx hb (atype := .int) (hts _ harr) rfl hdg rfl hn hN hR.1.1 hR.1.2 hR.2 hsz fun H1 cA' e1 z1 o1 hAr hNm => ?_
  have hcI : cA' = Z.2.2.1 := by
    have h1 : s.vm.findClass ("[" ++ (FieldType.int).toString) = some Z.2.2.1 := (hK.2 0 _ rfl).2
    exact Option.some.inj (hNm.symm.trans h1)
  have hkp : ∀ (k : Nat) (x : Nat × va_E), (wd L Z S)[k]? = some x → H1[x.1]? = H[x.1]? := fun k x hx1 => o1 x.1 (by have := (X.1 k x hx1).lt; omega)
  have goal := kk H1 ⟨by
    rw [wd_app]
    refine (X.1.kept hkp).app (fun k x hx1 => ?_)
    have hz : k < 1 := (List.getElem?_eq_some_iff.mp hx1).1
    rw [show k = 0 by omega] at hx1
    cases hx1
    show H1[Z.2.1 L.length]? = some (vp_cell _ _)
    rw [hZ L.length, e1, hcI]
    rfl, Nat.le_trans X.2.1 (by omega), fun x h1 h2 => (o1 x (Nat.lt_of_lt_of_le h1 (by have := X.2.1; omega))).trans (X.2.2.1 x h1 h2), X.2.2.2⟩
  rw [hZ L.length] at goal
  exact goal
theorem y_newB (E : XEc p s m args meth c cc nL own ret B n0 Z) (X : XHc B L Z S s H locs) {n : Int32} {N k : Nat} (harr : Cond.arrayClass .byte ∈ gt) (hL : L' = L ++ [.inl (N, true)]) (hk : L.length = k) (hc : n0 + cells = L.length) (h0 : Nat.blt 0 L.length = true) (hn : ¬ n < 0) (hN : n.toNatClampNeg = N) (hR : (Nat.ble (N * componentBytes .byte) 536870912 && Nat.ble (cells + 1) R.cells && Nat.ble (slots + N) R.slots) = true) (hdg : decode cc pc = .ok (.newarray .byte, 2))
    (kk : ∀ H : Heap, XHc B L' Z (mput S k (fun _ => 0)) s H locs → W p l e R s m args below meth c H locs (cells + 1) (slots + N) Q (F0 m (pc + 2) ls (.ref (Z.2.1 k) :: rest))) : W p l e R s m args below meth c H locs cells slots Q (F0 m pc ls (.int n :: rest)) := by
  refine W.bnd (fun hb0 => ?_)
  have hsz := y_size E X hc h0 hb0
  obtain ⟨hx, hb, hml, hown, hts, hr, hlocks, hK, hSF, hZ, hs⟩ := E
  simp only [Bool.and_eq_true, Nat.ble_eq] at hR
  subst hL; subst hk
  refine va_newaK (N := N) hx hb (atype := .byte) (hts _ harr) rfl hdg rfl hn hN hR.1.1 hR.1.2 hR.2 hsz fun H1 cA' e1 z1 o1 hAr hNm => ?_
  have hcI : cA' = Z.2.2.2.1 := by
    have h1 : s.vm.findClass ("[" ++ (FieldType.byte).toString) = some Z.2.2.2.1 := (hK.2 1 _ rfl).2
    exact Option.some.inj (hNm.symm.trans h1)
  have hkp : ∀ (k : Nat) (x : Nat × va_E), (wd L Z S)[k]? = some x → H1[x.1]? = H[x.1]? := fun k x hx1 => o1 x.1 (by have := (X.1 k x hx1).lt; omega)
  have goal := kk H1 ⟨by
    rw [wd_app]
    refine (X.1.kept hkp).app (fun k x hx1 => ?_)
    have hz : k < 1 := (List.getElem?_eq_some_iff.mp hx1).1
    rw [show k = 0 by omega] at hx1
    cases hx1
    show H1[Z.2.1 L.length]? = some (vp_cell _ _)
    rw [hZ L.length, e1, hcI]
    rfl, Nat.le_trans X.2.1 (by omega), fun x h1 h2 => (o1 x (Nat.lt_of_lt_of_le h1 (by have := X.2.1; omega))).trans (X.2.2.1 x h1 h2), X.2.2.2⟩
  rw [hZ L.length] at goal
  exact goal
/-- a class's words for 'new' -/
def NW (own : String) (index ci : Nat) (fl : List (Option Nat)) (N : Nat) : Prop := ∃ (C : String) (T : u_T) (ty : Nat → FieldType), vwCl[ci]? = some (C, T, N) ∧ (∀ w ∈ u_ws C T N, w ∈ gt) ∧ (∀ k, k < N → parseFieldDescriptor (T k).2.2.1 = some (ty k)) ∧ Cond.classLink own index C ∈ gt ∧ Cond.instantiable C N ∈ gt ∧ Cond.initialized C ∈ gt ∧ (∀ Q : Nat → Nat, ∀ j, j < N → defaultValue (ty j) = vp_V (wfl Q (fun _ => 0) fl) j)
theorem y_newo' (hx : p.tables.exec = Jvm.exec) (hb : c.code = cc) (hown : s.vm.findClass own = some m.cls) (hts : ∀ w ∈ gt, w.before args s = true) (hK : va_K Z.1 vwCl (xtys Z) s) (hZ : ∀ k, Z.2.1 k = B + k) (X : XHc B L Z S s H locs) (hsz : H.size = B + L.length) {index ci N k : Nat} {fl : List (Option Nat)} (hw : NW own index ci fl N) (hL : L' = L ++ [.inr (ci, fl)]) (hk : L.length = k) (hR : (Nat.ble (cells + 1) R.cells && Nat.ble (slots + N) R.slots) = true) (hdg : decode cc pc = .ok (.new index, 3))
    (kk : ∀ H : Heap, XHc B L' Z (mput S k (fun _ => 0)) s H locs → W p l e R s m args below meth c H locs (cells + 1) (slots + N) Q (F0 m (pc + 3) ls (.ref (Z.2.1 k) :: rest))) : W p l e R s m args below meth c H locs cells slots Q (F0 m pc ls rest) := by
  simp only [Bool.and_eq_true, Nat.ble_eq] at hR
  subst hL; subst hk
  obtain ⟨C, T, ty, h1, h2, h3, h4, h5, h6, h7⟩ := hw
  have hKn := hK.1 ci _ h1
  refine W.newcK hx hb hown (hts _ h4) (hts _ h5) (hts _ h6) rfl hdg hR.1 hR.2 hKn.2.1 hsz fun H1 kC hkC e1 z1 o1 => ?_
  have hkp : ∀ (k : Nat) (x : Nat × va_E), (wd L Z S)[k]? = some x → H1[x.1]? = H[x.1]? := fun k x hx1 => o1 x.1 (by have := (X.1 k x hx1).lt; omega)
  have goal := kk H1 ⟨by
    rw [wd_app]
    refine (X.1.kept hkp).app (fun k x hx1 => ?_)
    have hz : k < 1 := (List.getElem?_eq_some_iff.mp hx1).1
    rw [show k = 0 by omega] at hx1
    cases hx1
    rw [hZ L.length]
    exact ⟨_, h1, (u_born ty hts h2 hKn hkC e1 h3).to (h7 _)⟩, Nat.le_trans X.2.1 (by omega), fun x h1 h2 => (o1 x (Nat.lt_of_lt_of_le h1 (by have := X.2.1; omega))).trans (X.2.2.1 x h1 h2), X.2.2.2⟩
  rw [hZ L.length] at goal
  exact goal
theorem y_newo (E : XEc p s m args meth c cc nL own ret B n0 Z) (X : XHc B L Z S s H locs) {index ci N k : Nat} {fl : List (Option Nat)} (hw : NW own index ci fl N) (hL : L' = L ++ [.inr (ci, fl)]) (hk : L.length = k) (hc : n0 + cells = L.length) (h0 : Nat.blt 0 L.length = true) (hR : (Nat.ble (cells + 1) R.cells && Nat.ble (slots + N) R.slots) = true) (hdg : decode cc pc = .ok (.new index, 3))
    (kk : ∀ H : Heap, XHc B L' Z (mput S k (fun _ => 0)) s H locs → W p l e R s m args below meth c H locs (cells + 1) (slots + N) Q (F0 m (pc + 3) ls (.ref (Z.2.1 k) :: rest))) : W p l e R s m args below meth c H locs cells slots Q (F0 m pc ls rest) := by
  refine W.bnd (fun hb0 => ?_)
  have hsz := y_size E X hc h0 hb0
  obtain ⟨hx, hb, hml, hown, hts, hr, hlocks, hK, hSF, hZ, hs⟩ := E
  exact y_newo' hx hb hown hts hK hZ X hsz hw hL hk hR hdg kk
end CRows
