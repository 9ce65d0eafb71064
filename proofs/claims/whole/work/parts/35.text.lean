theorem ffX7_114 : FF RX7 114 3 4 := ⟨RX3, TX3, 16, rfl, inX3, by decide, gt_at 350 (by decide +kernel) (by decide +kernel)⟩
theorem cwX7_104 : CWV RX7 104 RX3 yX3_read cX3_read 2 none 0 := ⟨gt_at 491 (by decide +kernel) (by decide +kernel), gt_at 492 (by decide +kernel) (by decide +kernel), gt_at 493 (by decide +kernel) (by decide +kernel), gt_at 117 (by decide +kernel) (by decide +kernel), gt_at 494 (by decide +kernel) (by decide +kernel), by decide +kernel⟩
def xL1 : Lay := [.inr (7, [some 1, some 13, none, some 25, some 30, some 32, some 38]), .inr (6, [some 2, some 3, some 4, some 5, some 6, some 40, none, none, none, none, none, none, none]), .inl (60, false), .inl (100, false), .inl (10, false), .inl (10, false), .inr (0, [some 7, none]), .inl (800, false), .inr (4, [some 9, some 10, some 11, some 12, none, none]), .inl (16, false), .inl (16, false), .inl (400, false), .inl (40, false), .inr (6, [some 14, some 15, some 16, some 17, some 18, some 20, none, none, none, none, none, none, none]), .inl (60, false), .inl (100, false), .inl (10, false), .inl (10, false), .inr (0, [some 19, none]), .inl (800, false), .inr (4, [some 21, some 22, some 23, some 24, none, none]), .inl (16, false), .inl (16, false), .inl (400, false), .inl (40, false), .inr (2, [some 26, some 27, some 28, some 29, none]), .inl (1200, false), .inl (12, false), .inl (12, false), .inl (12, false), .inr (1, [some 1, some 31]), .inl (10, false), .inr (5, [some 1, some 33, some 34, some 35, some 36, some 37, none, none, none, none]), .inl (25, false), .inl (10, false), .inl (12, false), .inl (120, false), .inl (10, false), .inr (3, [some 39, none, none, none, some 40, none, none, none, none, none, none, none, some 45, none, none, none]), .inl (400, true), .inr (4, [some 41, some 42, some 43, some 44, none, none]), .inl (16, false), .inl (16, false), .inl (400, false), .inl (40, false), .inl (40, false)]
def xL2 : Lay := [.inr (7, [some 1, some 13, none, some 25, some 30, some 32, some 38]), .inr (6, [some 2, some 3, some 4, some 5, some 6, some 40, none, none, none, none, none, none, none]), .inl (60, false), .inl (100, false), .inl (10, false), .inl (10, false), .inr (0, [some 7, none]), .inl (800, false), .inr (4, [some 9, some 10, some 11, some 12, none, none]), .inl (16, false), .inl (16, false), .inl (400, false), .inl (40, false), .inr (6, [some 14, some 15, some 16, some 17, some 18, some 20, none, none, none, none, none, none, none]), .inl (60, false), .inl (100, false), .inl (10, false), .inl (10, false), .inr (0, [some 19, none]), .inl (800, false), .inr (4, [some 21, some 22, some 23, some 24, none, none]), .inl (16, false), .inl (16, false), .inl (400, false), .inl (40, false), .inr (2, [some 26, some 27, some 28, some 29, none]), .inl (1200, false), .inl (12, false), .inl (12, false), .inl (12, false), .inr (1, [some 1, some 31]), .inl (10, false), .inr (5, [some 1, some 33, some 34, some 35, some 36, some 37, none, none, none, none]), .inl (25, false), .inl (10, false), .inl (12, false), .inl (120, false), .inl (10, false), .inr (3, [some 39, none, none, none, some 8, none, none, none, none, none, none, none, some 45, none, none, none]), .inl (400, true), .inr (4, [some 41, some 42, some 43, some 44, none, none]), .inl (16, false), .inl (16, false), .inl (400, false), .inl (40, false), .inl (40, false)]
theorem dX7_text_0 : decode cX7_text 0 = .ok (.aload_n 0, 1) := by decide +kernel
theorem dX7_text_1 : decode cX7_text 1 = .ok (.getfield 45, 3) := by decide +kernel
theorem dX7_text_4 : decode cX7_text 4 = .ok (.invokevirtual 104, 3) := by decide +kernel
theorem dX7_text_7 : decode cX7_text 7 = .ok (.aload_n 0, 1) := by decide +kernel
theorem dX7_text_8 : decode cX7_text 8 = .ok (.getfield 45, 3) := by decide +kernel
theorem dX7_text_11 : decode cX7_text 11 = .ok (.getfield 107, 3) := by decide +kernel
theorem dX7_text_14 : decode cX7_text 14 = .ok (.ifCond .eq 5, 3) := by decide +kernel
theorem dX7_text_17 : decode cX7_text 17 = .ok (.iconst (-1), 1) := by decide +kernel
theorem dX7_text_18 : decode cX7_text 18 = .ok (.ireturn, 1) := by decide +kernel
theorem dX7_text_19 : decode cX7_text 19 = .ok (.aload_n 0, 1) := by decide +kernel
theorem dX7_text_20 : decode cX7_text 20 = .ok (.getfield 12, 3) := by decide +kernel
theorem dX7_text_23 : decode cX7_text 23 = .ok (.getfield 110, 3) := by decide +kernel
theorem dX7_text_26 : decode cX7_text 26 = .ok (.astore_n 1, 1) := by decide +kernel
theorem dX7_text_27 : decode cX7_text 27 = .ok (.aload_n 0, 1) := by decide +kernel
theorem dX7_text_28 : decode cX7_text 28 = .ok (.getfield 12, 3) := by decide +kernel
theorem dX7_text_31 : decode cX7_text 31 = .ok (.aload_n 0, 1) := by decide +kernel
theorem dX7_text_32 : decode cX7_text 32 = .ok (.getfield 45, 3) := by decide +kernel
theorem dX7_text_35 : decode cX7_text 35 = .ok (.getfield 114, 3) := by decide +kernel
theorem dX7_text_38 : decode cX7_text 38 = .ok (.putfield 110, 3) := by decide +kernel
theorem dX7_text_41 : decode cX7_text 41 = .ok (.aload_n 0, 1) := by decide +kernel
theorem dX7_text_42 : decode cX7_text 42 = .ok (.getfield 45, 3) := by decide +kernel
theorem dX7_text_45 : decode cX7_text 45 = .ok (.aload_n 1, 1) := by decide +kernel
theorem dX7_text_46 : decode cX7_text 46 = .ok (.putfield 114, 3) := by decide +kernel
theorem dX7_text_49 : decode cX7_text 49 = .ok (.aload_n 0, 1) := by decide +kernel
theorem dX7_text_50 : decode cX7_text 50 = .ok (.getfield 12, 3) := by decide +kernel
theorem dX7_text_53 : decode cX7_text 53 = .ok (.getfield 110, 3) := by decide +kernel
theorem dX7_text_56 : decode cX7_text 56 = .ok (.getfield 115, 3) := by decide +kernel
theorem dX7_text_59 : decode cX7_text 59 = .ok (.ireturn, 1) := by decide +kernel
/-- a reference field that isn't final -/
def FRn (own : String) (index ci j : Nat) : Prop := ∃ (C : String) (T : u_T) (N : Nat) (ty : FieldType), vwCl[ci]? = some (C, T, N) ∧ (∀ w ∈ u_ws C T N, w ∈ gt) ∧ j < N ∧ Cond.fieldLink own index (T j).1 (T j).2.1 (T j).2.2.1 ∈ gt ∧ (∃ ty0 : Nat → FieldType, (∀ k, k < N → parseFieldDescriptor (T k).2.2.1 = some (ty0 k)) ∧ (∀ a, a < N → ∀ b, b < N → a ≠ b → (T a).2.1 ≠ (T b).2.1) ∧ ty0 j = ty) ∧ (T j).2.2.2 = false ∧ (∀ a : Nat, narrow ty (.ref a) = .ref a ∧ fits ty (.ref a) = true)
theorem frn_110 : FRn RX7 110 6 5 := ⟨RX6, TX6, 13, tyX6 5, rfl, inX6, by decide, gt_at 206 (by decide +kernel) (by decide +kernel), ⟨tyX6, tyX6_ok, nmX6, rfl⟩, rfl, fun a => ⟨rfl, rfl⟩⟩
theorem frn_114 : FRn RX7 114 3 4 := ⟨RX3, TX3, 16, tyX3 4, rfl, inX3, by decide, gt_at 350 (by decide +kernel) (by decide +kernel), ⟨tyX3, tyX3_ok, nmX3, rfl⟩, rfl, fun a => ⟨rfl, rfl⟩⟩
theorem x_putr {p : Program} {l : Launch} {e : Env} {R : Room} {s : State} {m : MethodId} {args : Array Value} {below : List Frame} {meth : Method} {c : Code} {H : Heap} {locs : List Loc} {cells slots : Nat} {Q : State → Prop} {cc : ByteArray} {nL : Nat} {own : String} {ret : Option FieldType} {L L' : Lay} {Z : XG} {S : Mem} {pc : Nat} {ls : Array Slot} {rest : List Value} (E : XE p s m args meth c cc nL own ret L Z) (X : XH L Z S s H locs) {k j ci index t : Nat} {fl : List (Option Nat)} (hF : FRn own index ci j) (hL : L[k]? = some (.inr (ci, fl))) (hj : Nat.blt j fl.length = true) (ht : t ≠ 1000) (hL' : L' = L.set k (.inr (ci, fl.set j (some t)))) (hdg : decode cc pc = .ok (.putfield index, 3))
    (kk : ∀ (H : Heap) (locs : List Loc), XH L' Z S s H locs → W p l e R s m args below meth c H locs cells slots Q (F0 m (pc + 3) ls rest)) : W p l e R s m args below meth c H locs cells slots Q (F0 m pc ls (.ref (Z.2.1 t) :: .ref (Z.2.1 k) :: rest)) := by
  obtain ⟨hx, hb, hml, hown, hts, hr, hlocks, hK, hSF, hQ⟩ := E
  obtain ⟨C, T, N, ty, h1, h2, h3, h4, ⟨ty0, g1, g2, g3⟩, h6, h8⟩ := hF
  have hj : j < fl.length := Nat.le_of_ble_eq_true hj
  subst hL'
  refine va_put (D := Z.1) (ty := ty) hx hb hts h2 ty0 g1 g2 hown hK X.1 (wd_D hQ) X.2 k (wd_get hL) h1 j h3 (hts _ h4) (fun _ h9 => h9) h6 (by rw [g1 j h3, g3]) (h8 _).1 (h8 _).2 (by rw [wfl_len]; exact hj) hdg (fun H1 locs1 hP _ hS => kk H1 locs1 ⟨?_, by rw [List.length_set]; exact hS⟩)
  rw [wfl_setr hj ht] at hP
  have := wd_setL (Z := Z) (S := S) (d := .inr (ci, fl.set j (some t))) (List.getElem?_eq_some_iff.mp hL).1
  exact this ▸ hP
/-- text() changes the two RULES' places -/
def sw (k : Nat) : Nat := if 8 ≤ k ∧ k ≤ 12 then k + 32 else if 40 ≤ k ∧ k ≤ 44 then k - 32 else k
def swM (S : Mem) : Mem := fun k => S (sw k)
def swZ (Z : XG) : XG := (Z.1, fun k => Z.2.1 (sw k), Z.2.2)
theorem sw_sw (k : Nat) : sw (sw k) = k := by unfold sw; split <;> split <;> (try split) <;> omega
theorem sw_lt {k : Nat} (h : k < 46) : sw k < 46 := by unfold sw; split <;> (try split) <;> omega
def relab (d : Kd) : Kd := match d with
  | .inl a => .inl a
  | .inr o => .inr (o.1, o.2.map (fun x => x.map sw))
theorem relab_ok : ∀ k, k < 46 → xL2[sw k]? = (xL[k]?).map relab := fun k hk => by match k, hk with | 0, _ => rfl | 1, _ => rfl | 2, _ => rfl | 3, _ => rfl | 4, _ => rfl | 5, _ => rfl | 6, _ => rfl | 7, _ => rfl | 8, _ => rfl | 9, _ => rfl | 10, _ => rfl | 11, _ => rfl | 12, _ => rfl | 13, _ => rfl | 14, _ => rfl | 15, _ => rfl | 16, _ => rfl | 17, _ => rfl | 18, _ => rfl | 19, _ => rfl | 20, _ => rfl | 21, _ => rfl | 22, _ => rfl | 23, _ => rfl | 24, _ => rfl | 25, _ => rfl | 26, _ => rfl | 27, _ => rfl | 28, _ => rfl | 29, _ => rfl | 30, _ => rfl | 31, _ => rfl | 32, _ => rfl | 33, _ => rfl | 34, _ => rfl | 35, _ => rfl | 36, _ => rfl | 37, _ => rfl | 38, _ => rfl | 39, _ => rfl | 40, _ => rfl | 41, _ => rfl | 42, _ => rfl | 43, _ => rfl | 44, _ => rfl | 45, _ => rfl | k + 46, hk => exact absurd hk (by omega)
theorem sw_n (k : Nat) : sw k = 1000 ↔ k = 1000 := by unfold sw; split <;> (try split) <;> omega
theorem relab_wce {Z : XG} {f : Nat → Int32} (d : Kd) : wce (swZ Z) f d = wce Z f (relab d) := by
  cases d with
  | inl a => rfl
  | inr o =>
    show (Sum.inr (o.1, wfl (swZ Z).2.1 f o.2) : va_E) = Sum.inr (o.1, wfl Z.2.1 f (o.2.map (fun x => x.map sw)))
    congr 2
    refine List.ext_getElem? (fun i => ?_)
    simp only [wfl, List.getElem?_mapIdx, List.getElem?_map, Option.map_map]
    cases o.2[i]? with
    | none => rfl
    | some x =>
      cases x with
      | none => rfl
      | some t =>
        show some (if t = 1000 then Value.null else Value.ref (Z.2.1 (sw t))) = some (if sw t = 1000 then Value.null else Value.ref (Z.2.1 (sw t)))
        by_cases h : t = 1000
        · rw [if_pos h, if_pos ((sw_n t).mpr h)]
        · rw [if_neg h, if_neg (fun z => h ((sw_n t).mp z))]
theorem sw_P {Z : XG} {S : Mem} {H : Heap} (h : va_P Z.1 vwCl (wd xL2 Z S) H) : va_P (swZ Z).1 vwCl (wd xL (swZ Z) (swM S)) H := by
  intro k q hk
  have hl : k < 46 := (wd_at hk).1
  refine h (sw k) q ?_
  have h1 := relab_ok k hl
  simp only [wd, List.getElem?_mapIdx] at hk ⊢
  rw [h1]
  cases hx : xL[k]? with
  | none => rw [hx] at hk; cases hk
  | some d =>
    rw [hx] at hk
    rw [← hk]
    show some (Z.2.1 (sw k), wce Z (S (sw k)) (relab d)) = some (Z.2.1 (sw k), wce (swZ Z) (S (sw k)) d)
    rw [relab_wce]
theorem sw_Q {Z : XG} (h : wQ 46 Z) : wQ 46 (swZ Z) := fun i j hi hj e => by
  have := h (sw i) (sw j) (sw_lt hi) (sw_lt hj) e
  rw [← sw_sw i, this, sw_sw]
theorem sw_A {Z : XG} {q : Nat} : wA 46 (swZ Z) q ↔ wA 46 Z q := by
  constructor
  · rintro ⟨k, h, rfl⟩; exact ⟨sw k, sw_lt h, rfl⟩
  · rintro ⟨k, h, rfl⟩; exact ⟨sw k, sw_lt h, by show Z.2.1 k = Z.2.1 (sw (sw k)); rw [sw_sw]⟩
def fX7_text (S : Mem) : O := bnd (fX3_read S) fun _ S1 => if S1 38 2 = 0 then some (S1 40 4, swM S1) else some ((-1 : Int32), S1)
def XQt (Z : XG) (r : Int32) (S : Mem) : Array Value → State → Outcome → State → Prop := va_Qi (S := XG) (fun r' Z' => r' = r ∧ (Z' = Z ∨ Z' = swZ Z)) (fun Z' t => va_P Z'.1 vwCl (wd xL Z' S) t.heap) (wA 46 Z)
set_option maxRecDepth 20000 in
theorem mX7_text (l : Launch) (Z : XG) (hQ : wQ (List.length xL) Z) {S S' : Mem} {r : Int32} (h : fX7_text S = some (r, S')) : XM l yX7_text cX7_text 2 (some .int) { frames := 8, cells := 0, slots := 0, locals := 173 } xL Z [.ref (Z.2.1 0)] S (XQt Z r S') := by
  refine XM.of (own := RX7) (by decide +kernel) rfl rfl hQ (fun p e s m args below meth c E ls hl X => ?_)
  obtain ⟨hx, hb, -, -, -, hr, hlocks, -, -, hQ⟩ := id E
  unfold fX7_text at h
  refine lv_aload_n hx hb dX7_text_0 rfl (lv_at hl 0 rfl) ?_
  refine x_getr E X ffX7_45 rfl rfl dX7_text_1 ?_
  obtain ⟨r_1, S_2, hr_1, h⟩ := bnd_s h
  refine x_callVv E X cwX7_104 (mX3_read l Z hQ hr_1) rfl rfl rfl rfl hl.1 rfl dX7_text_4 (fun H locs X => ?_)
  refine lv_aload_n hx hb dX7_text_7 rfl (lv_at hl 0 rfl) ?_
  refine x_getr E X ffX7_45 rfl rfl dX7_text_8 ?_
  refine x_get E X ffX7_107 rfl rfl dX7_text_11 ?_
  refine lv_if_eq (tgt := 19) hx hb dX7_text_14 (by decide) (fun c_1 => ?_) (fun c_1 => ?_)
  · have h := if_t c_1 h
    refine lv_aload_n hx hb dX7_text_19 rfl (lv_at hl 0 rfl) ?_
    refine x_getr E X ffX7_12 rfl rfl dX7_text_20 ?_
    refine x_getr E X ffX7_110 rfl rfl dX7_text_23 ?_
    refine lv_astore_n (lv' := [(1, .ref (Z.2.1 8)), (0, .ref (Z.2.1 0))]) hx hb dX7_text_26 rfl hl (by decide) rfl (fun ls hl => ?_)
    refine lv_aload_n hx hb dX7_text_27 rfl (lv_at hl 1 rfl) ?_
    refine x_getr E X ffX7_12 rfl rfl dX7_text_28 ?_
    refine lv_aload_n hx hb dX7_text_31 rfl (lv_at hl 1 rfl) ?_
    refine x_getr E X ffX7_45 rfl rfl dX7_text_32 ?_
    refine x_getr E X ffX7_114 rfl rfl dX7_text_35 ?_
    refine x_putr E X frn_110 rfl rfl (by decide) (L' := xL1) rfl dX7_text_38 (fun H locs X => ?_)
    have E1 : XE p s m args meth c cX7_text 2 RX7 (some .int) xL1 Z := E
    refine lv_aload_n hx hb dX7_text_41 rfl (lv_at hl 1 rfl) ?_
    refine x_getr E1 X ffX7_45 rfl rfl dX7_text_42 ?_
    refine lv_aload_n hx hb dX7_text_45 rfl (lv_at hl 0 rfl) ?_
    refine x_putr E1 X frn_114 rfl rfl (by decide) (L' := xL2) rfl dX7_text_46 (fun H locs X => ?_)
    have E2 : XE p s m args meth c cX7_text 2 RX7 (some .int) xL2 Z := E
    refine lv_aload_n hx hb dX7_text_49 rfl (lv_at hl 1 rfl) ?_
    refine x_getr E2 X ffX7_12 rfl rfl dX7_text_50 ?_
    refine x_getr E2 X ffX7_110 rfl rfl dX7_text_53 ?_
    refine x_get E2 X ffX7_115 rfl rfl dX7_text_56 ?_
    cases h
    exact W.iret (v := S_2 40 4) hx hb hr (fun t ht hW => ⟨⟨S_2 40 4, swZ Z, rfl, ⟨rfl, Or.inr rfl⟩, by show va_P (swZ Z).1 vwCl (wd xL (swZ Z) (swM S_2)) t.heap; rw [ht]; exact sw_P X.1⟩, X.2.F ht⟩) X.2.2.2 dX7_text_59
  · have h := if_f c_1 h
    refine lv_iconst (v := (-1 : Int32)) hx hb dX7_text_17 (by decide) ?_
    cases h
    exact W.iret (v := (-1 : Int32)) hx hb hr (fun t ht hW => ⟨⟨-1, Z, rfl, ⟨rfl, Or.inl rfl⟩, by show va_P Z.1 vwCl (wd xL Z S') t.heap; rw [ht]; exact X.1⟩, X.2.F ht⟩) X.2.2.2 dX7_text_18

