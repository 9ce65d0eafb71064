/-! the law from its entry -/
section LRows2
variable {p : Program} {l : Launch} {e : Env} {R : Room} {s : State} {m : MethodId} {args : Array Value} {below : List Frame} {meth : Method} {c : Code} {H : Heap} {locs : List Loc} {cells slots : Nat} {Q : State → Prop} {Zx Zm : XG} {B : Nat} {S T : Mem} {pc : Nat} {ls : Array Slot} {rest : List Value}
theorem l_newM (hx : p.tables.exec = Jvm.exec) (hb : c.code = code) (hown : s.vm.findClass R_law = some m.cls) (hts : ∀ w ∈ gt, w.before args s = true) (hK : va_K Zm.1 vwCl (xtys Zm) s) (hZ : ∀ k, Zm.2.1 k = (B + 46) + k) (hP : va_P Zx.1 vwCl (wd xL Zx S) H) (hS : va_S (cA B) s.heap H locs) (hsz : H.size = B + 46) {index ci N : Nat} {fl : List (Option Nat)} (hw : NW R_law index ci fl N) (hR : (Nat.ble (cells + 1) R.cells && Nat.ble (slots + N) R.slots) = true) (hdg : decode code pc = .ok (.new index, 3))
    (kk : ∀ H : Heap, H.size = B + 47 → va_P Zx.1 vwCl (wd xL Zx S) H → va_P Zm.1 vwCl (wd [.inr (ci, fl)] Zm (mput T 0 (fun _ => 0))) H → va_S (cA B) s.heap H locs → W p l e R s m args below meth c H locs (cells + 1) (slots + N) Q (F0 m (pc + 3) ls (.ref (Zm.2.1 0) :: rest))) : W p l e R s m args below meth c H locs cells slots Q (F0 m pc ls rest) := by
  simp only [Bool.and_eq_true, Nat.ble_eq] at hR
  obtain ⟨C, Tt, ty, h1, h2, h3, h4, h5, h6, h7⟩ := hw
  have hKn := hK.1 ci _ h1
  refine W.newcK hx hb hown (hts _ h4) (hts _ h5) (hts _ h6) rfl hdg hR.1 hR.2 hKn.2.1 hsz fun H1 kC hkC e1 z1 o1 => ?_
  have goal := kk H1 (by omega) (hP.kept (fun k x hx1 => o1 x.1 (by have := (hP k x hx1).lt; omega))) (fun k x hx1 => by
    have hz := wd_at hx1
    have hk0 : k = 0 := by have := hz.1; simp at this; exact this
    subst hk0
    rw [wd_get (L := [.inr (ci, fl)]) (k := 0) (d := .inr (ci, fl)) rfl, mput_same] at hx1
    cases hx1
    rw [hZ 0]
    exact ⟨_, h1, (u_born ty hts h2 hKn hkC e1 h3).to (h7 _)⟩) ⟨Nat.le_trans hS.1 (by omega), fun x h1 h2 => (o1 x (Nat.lt_of_lt_of_le h1 (by have := hS.1; omega))).trans (hS.2.1 x h1 h2), hS.2.2⟩
  rw [hZ 0] at goal
  exact goal
theorem l_initM (hx : p.tables.exec = Jvm.exec) (hb : c.code = code) (hml : c.maxLocals = 4) (hown : s.vm.findClass R_law = some m.cls) (hts : ∀ w ∈ gt, w.before args s = true) (hK : va_K Zm.1 vwCl (xtys Zm) s) (hSF : SF (cA B) Zm s) (hZx : ∀ k, Zx.2.1 k = B + k) (hP : va_P Zx.1 vwCl (wd xL Zx S) H) {L L' : Lay} (hPm : va_P Zm.1 vwCl (wd L Zm T) H) (hS : va_S (cA B) s.heap H locs) (hsz0 : H.size = B + 46 + L.length) {y : MethodName} {cc' : ByteArray} {nL' index mc ms : Nat} {rm : Room} {st0 : List Value} {T1 : Mem} (hw : CWI R_law index y cc' nL' 0) (hM : XMc l y cc' nL' rm (B + 46) L L' Zm [.ref (Zm.2.1 0)] T T1 mc ms)
    (hR : (rm.cells == mc && rm.slots == ms && Nat.ble (rm.frames + 1) R.frames && Nat.ble (8 + (nL' + 11) + rm.locals) R.locals && Nat.ble (cells + mc) R.cells && Nat.ble (slots + ms) R.slots && Nat.ble (rest.map fun v => v.category).sum 8) = true) (hsz : ls.size = 4) (hst : st0 = .ref (Zm.2.1 0) :: rest) (hdg : decode code pc = .ok (.invokespecial index, 3))
    (kk : ∀ (H : Heap) (locs : List Loc), va_P Zx.1 vwCl (wd xL Zx S) H → va_P Zm.1 vwCl (wd L' Zm T1) H → va_S (cA B) s.heap H locs → W p l e R s m args below meth c H locs (cells + mc) (slots + ms) Q (F0 m (pc + 3) ls rest)) : W p l e R s m args below meth c H locs cells slots Q (F0 m pc ls st0) := by
  have hA : ∀ q, cA (B + 46) q → cA B q := fun q h => by have h : B + 46 ≤ q := h; show B ≤ q; omega
  simp only [Bool.and_eq_true, beq_iff_eq, Nat.ble_eq] at hR
  obtain ⟨⟨⟨⟨⟨⟨r1, r2⟩, r3⟩, r4⟩, r5⟩, r6⟩, r7⟩ := hR
  refine va_callv (A0 := cA B) (H0 := s.heap) (A1 := cA (B + 46)) (va_runI (As := []) (rest := rest) ⟨hx, hb, hml, hown, hts⟩ hM ⟨callB_of 0 hts (gt_code hw.2.2.2.1) rfl r1 r2 (hts _ hw.2.2.1) (hts _ hw.1) hw.2.2.2.2.2 ⟨r3, r4⟩, hw.2.2.2.2.1, hts _ hw.2.1⟩ ⟨XPc_blind, fun U hU hW => ⟨rfl, by rw [hU]; exact hPm, va_K.moved hW.alike hK, (hSF.go (fun a h1 h2 => by rw [hU]; exact hS.2.1 a h1 h2) hW).narrow hA, by rw [hU]; exact hsz0⟩⟩ rfl rfl hsz hst (lv_room r7) hdg ⟨r5, r6⟩) hS (fun q _ h => hA q h) (fun q h => hA q h) (fun u t H1 locs1 ht hvm hw1 hB hz1 hk1 hS1 => ?_)
  refine kk H1 locs1 (hP.kept (fun k q hk => hk1 q.1 (hP k q hk).lt (fun hz => ?_))) (by rw [← ht]; exact hB) hS1
  have h1 := wd_at hk
  have h2 := hZx k
  have h3 : k < 46 := h1.1
  have h4 : B + 46 ≤ q.1 := hz
  have h5 := h1.2
  omega
end LRows2
def S00 : Mem := fun _ _ => 0
def S01 : Mem := mput S00 0 (fun _ => 0)
set_option maxRecDepth 20000 in
/-- the law from its entry, over any relation that every pair of methods keeps and that holds of two new objects -/
theorem law_start {p : Program} {e : Env} {s : State} {m : MethodId} {below : List Frame} {meth : Method} {c : Code} (l : Launch) {b L : Nat} {xs : Nat → Int32} (hL : L ≤ 3072) (C0 : lw_At p s m meth c b L xs) {R : Mem → Mem → Prop} (hok : LawOK R) {r0 r1 : Int32} {Sx Sm : Mem} (h0 : fX7_init_0 S01 = some (r0, Sx)) (h1 : fX8_init_0 S01 = some (r1, Sm)) (hR : R Sx Sm) : W p l e room_1 s m #[Value.ref b] below meth c s.heap [] 0 0 (lw_Z below #[Value.ref b] s) (entryFrame m ([Value.ref b] : List Value).toArray 4) := by
  obtain ⟨hx, hb, hr, hml, hown, hts, hX, hbl, hlocks, hgv⟩ := id C0
  have hg : ∀ w ∈ gt, w.before #[Value.ref b] s = true := fun w hw => hts w (gt_sub hw)
  have hbA : ∀ a : Nat, a < s.heap.size → ¬ cA s.heap.size a := fun a h => Nat.not_le.mpr h
  obtain ⟨D, cI, cB, hK⟩ := start_K hts
  obtain ⟨adK, adV, hSF⟩ := start_SF (A := cA s.heap.size) hts hgv hbA
  obtain ⟨B, hB⟩ : ∃ B, B = s.heap.size := ⟨_, rfl⟩
  have hKx : va_K (ZL (D, fun k => B + k, cI, cB, adK, adV) (fun k => B + k)).1 vwCl (xtys (ZL (D, fun k => B + k, cI, cB, adK, adV) (fun k => B + k))) s := hK
  obtain ⟨Z0, hZ0⟩ : ∃ Z : XG, Z = (D, fun k => B + k, cI, cB, adK, adV) := ⟨_, rfl⟩
  rw [← hZ0] at hKx
  have hZB : ∀ k, (ZL Z0 (fun k => B + k)).2.1 k = B + k := fun k => rfl
  have hSF0 : ∀ Q, SF (cA B) (ZL Z0 Q) s := fun Q => by rw [hB, hZ0]; exact hSF _ _ _ _
  have hl := lv_entry ([.ref b]) (n := 4) (Nat.le_of_ble_eq_true rfl)
  rw [lg_entry_eq]
  generalize (lg_sl ([.ref b]) ++ List.replicate (4 - (lg_sl ([.ref b])).length) Slot.unset).toArray = ls at hl ⊢
  have hl : lv_has ls 4 [(0, .ref b)] := hl
  have X0 : XHc B [] (ZL Z0 (fun k => B + k)) S00 s s.heap [] := ⟨fun k q h => by simp [wd] at h, va_S.rf⟩
  refine y_newo' (B := B) (L := []) (L' := yl_0) (S := S00) hx hb hown hg hKx hZB X0 (by rw [hB]; rfl) (k := 0) nwL_7 rfl rfl rfl dL_law_0 (fun H X => ?_)
  refine lv_dup hx hb dL_law_3 rfl ?_
  have Ec : XEc p s m #[Value.ref b] meth c code 4 R_law ret B 0 (ZL Z0 (fun k => B + k)) := ⟨hx, hb, hml, hown, hg, hr, hlocks, hKx, hSF0 _, hZB, by rw [hB]; rfl⟩
  refine y_callI Ec X (L' := xL) ciL_9 (mX7_init_0 l B (ZL Z0 (fun k => B + k)) hZB h0) rfl rfl rfl rfl hl.1 rfl dL_law_4 (fun H locs X => ?_)
  refine lv_astore_n (lv' := [(1, .ref (B + 0)), (0, .ref b)]) hx hb dL_law_7 rfl hl (by decide) rfl (fun ls hl => ?_)
  refine W.bnd (fun hbd => ?_)
  have hsz : H.size = B + 46 := y_size (L := xL) (cells := 46) Ec X rfl rfl hbd
  have hZmB : ∀ k, (ZL Z0 (qM B)).2.1 k = (B + 46) + k := fun k => rfl
  refine l_newM (Zm := ZL Z0 (qM B)) (T := S00) hx hb hown hg hKx hZmB X.1 X.2 hsz nwL_10 rfl dL_law_8 (fun H hs1 hP hPm hS => ?_)
  refine lv_dup hx hb dL_law_11 rfl ?_
  refine l_initM (Zm := ZL Z0 (qM B)) (T := S01) hx hb hml hown hg hKx (hSF0 _) hZB hP (L' := mL) hPm hS (by rw [hs1]; rfl) ciL_12 (mX8_init_0 l (B + 46) (ZL Z0 (qM B)) hZmB h1) rfl hl.1 rfl dL_law_12 (fun H locs hP hPm hS => ?_)
  refine lv_astore_n (lv' := [(2, .ref (B + 46)), (1, .ref (B + 0)), (0, .ref b)]) hx hb dL_law_15 rfl hl (by decide) rfl (fun ls hl => ?_)
  refine lv_iconst (v := (0 : Int32)) hx hb dL_law_16 (by decide) ?_
  refine lv_istore_n (lv' := [(3, .int (0 : Int32)), (2, .ref (B + 46)), (1, .ref (B + 0)), (0, .ref b)]) hx hb dL_law_17 rfl hl (by decide) rfl (fun ls hl => ?_)
  exact law_loop hok hL C0 (Z0 := Z0) (B := B) ⟨hx, hb, hml, hown, hg, hKx, hSF0 _⟩ hB (L + 1) 0 (Nat.zero_le L) (by omega) Sx Sm (fun k => B + k) hR ⟨fun i j _ _ h => by have h : B + i = B + j := h; omega, fun k hk => ⟨Nat.le_add_right B k, Nat.add_lt_add_left hk B⟩⟩ _ _ ls ⟨hP, hPm, hS⟩ (lv_sub hl [3, 2, 1, 0] rfl)
