def fX0_init_6 (S : Mem) : O := ltm (mput S 7 (fun _ => 0)) fun S_1 => some ((0 : Int32), S_1)
theorem dX0_init_0 : decode cX0_init 0 = .ok (.aload_n 0, 1) := by decide +kernel
theorem dX0_init_1 : decode cX0_init 1 = .ok (.invokespecial 3, 3) := by decide +kernel
theorem dX0_init_4 : decode cX0_init 4 = .ok (.aload_n 0, 1) := by decide +kernel
theorem dX0_init_5 : decode cX0_init 5 = .ok (.sipush 800, 3) := by decide +kernel
theorem dX0_init_8 : decode cX0_init 8 = .ok (.newarray .int, 2) := by decide +kernel
theorem dX0_init_10 : decode cX0_init 10 = .ok (.putfield 9, 3) := by decide +kernel
theorem dX0_init_13 : decode cX0_init 13 = .ok (.return_, 1) := by decide +kernel
set_option maxRecDepth 20000 in
theorem wX0_init_6 {p : Program} {l : Launch} {e : Env} {s : State} {m : MethodId} {args : Array Value} {below : List Frame} {meth : Method} {c : Code} {B : Nat} {Z : XG} {r : Int32} {S' : Mem} (E : XEc p s m args meth c cX0_init 1 RX0 none B 7 Z) (hin : meth.name = "<init>") : ∀ (S : Mem), fX0_init_6  S  = some (r, S') → WNc p l e { frames := 1, cells := 1, slots := 800, locals := 12 } s m args below meth c B yl_10 Z (MQ below (XVc B yl_12 Z S') args s 1 800 (cA B)) S 0 1 0 0 [(0, .ref (Z.2.1 6))] [] := by
  obtain ⟨hx, hb, -, -, -, -, -, -, -, hB, -⟩ := id E
  intro S  h H locs ls X hl
  unfold fX0_init_6 at h
  refine lv_aload_n hx hb dX0_init_0 rfl (lv_at hl 0 rfl) ?_
  refine y_objInit E oiX0_3 hl.1 rfl dX0_init_1 ?_
  refine lv_aload_n hx hb dX0_init_4 rfl (lv_at hl 0 rfl) ?_
  refine lv_sipush (v := (800 : Int32)) hx hb dX0_init_5 (by decide) ?_
  obtain ⟨S_1, eS_1, h⟩ := ltm_s h
  refine y_newI E X (L' := yl_11) (k := 7) ac_I rfl rfl rfl rfl (by decide) (by decide) rfl dX0_init_8 (fun H X => ?_)
  rw [← eS_1] at X
  refine y_putr E hin X frX0_9 rfl rfl (by decide) (L' := yl_12) rfl dX0_init_10 (fun H locs X => ?_)
  exact y_vret E X h dX0_init_13
/-- SevenToAShadow$Book.<init>()V -/
theorem mX0_init_6 (l : Launch) (B : Nat) (Z : XG) (hB : ∀ k, Z.2.1 k = B + k) {S S' : Mem} {r : Int32} (h : fX0_init_6 S = some (r, S')) : XMc l yX0_init cX0_init 1 { frames := 1, cells := 1, slots := 800, locals := 12 } B yl_10 yl_12 Z [.ref (Z.2.1 6)] S S' 1 800 := by
  refine XMc.of (own := RX0) (by decide +kernel) rfl rfl rfl hB (fun p e s m args below meth c E hin ls hl X => ?_)
  exact wX0_init_6 E hin S h _ _ _ X hl
def fX4_init_8 (S : Mem) : O := ltm (mput S 9 (fun _ => 0)) fun S_1 => ltm (mput S_1 10 (fun _ => 0)) fun S_2 => ltm (mput S_2 11 (fun _ => 0)) fun S_3 => ltm (mput S_3 12 (fun _ => 0)) fun S_4 => some ((0 : Int32), S_4)
theorem dX4_init_0 : decode cX4_init 0 = .ok (.aload_n 0, 1) := by decide +kernel
theorem dX4_init_1 : decode cX4_init 1 = .ok (.invokespecial 3, 3) := by decide +kernel
theorem dX4_init_4 : decode cX4_init 4 = .ok (.aload_n 0, 1) := by decide +kernel
theorem dX4_init_5 : decode cX4_init 5 = .ok (.bipush 16, 2) := by decide +kernel
theorem dX4_init_7 : decode cX4_init 7 = .ok (.newarray .int, 2) := by decide +kernel
theorem dX4_init_9 : decode cX4_init 9 = .ok (.putfield 9, 3) := by decide +kernel
theorem dX4_init_12 : decode cX4_init 12 = .ok (.aload_n 0, 1) := by decide +kernel
theorem dX4_init_13 : decode cX4_init 13 = .ok (.bipush 16, 2) := by decide +kernel
theorem dX4_init_15 : decode cX4_init 15 = .ok (.newarray .int, 2) := by decide +kernel
theorem dX4_init_17 : decode cX4_init 17 = .ok (.putfield 15, 3) := by decide +kernel
theorem dX4_init_20 : decode cX4_init 20 = .ok (.aload_n 0, 1) := by decide +kernel
theorem dX4_init_21 : decode cX4_init 21 = .ok (.sipush 400, 3) := by decide +kernel
theorem dX4_init_24 : decode cX4_init 24 = .ok (.newarray .int, 2) := by decide +kernel
theorem dX4_init_26 : decode cX4_init 26 = .ok (.putfield 18, 3) := by decide +kernel
theorem dX4_init_29 : decode cX4_init 29 = .ok (.aload_n 0, 1) := by decide +kernel
theorem dX4_init_30 : decode cX4_init 30 = .ok (.bipush 40, 2) := by decide +kernel
theorem dX4_init_32 : decode cX4_init 32 = .ok (.newarray .int, 2) := by decide +kernel
theorem dX4_init_34 : decode cX4_init 34 = .ok (.putfield 21, 3) := by decide +kernel
theorem dX4_init_37 : decode cX4_init 37 = .ok (.return_, 1) := by decide +kernel
set_option maxRecDepth 20000 in
theorem wX4_init_8 {p : Program} {l : Launch} {e : Env} {s : State} {m : MethodId} {args : Array Value} {below : List Frame} {meth : Method} {c : Code} {B : Nat} {Z : XG} {r : Int32} {S' : Mem} (E : XEc p s m args meth c cX4_init 1 RX4 none B 9 Z) (hin : meth.name = "<init>") : ∀ (S : Mem), fX4_init_8  S  = some (r, S') → WNc p l e { frames := 1, cells := 4, slots := 472, locals := 12 } s m args below meth c B yl_14 Z (MQ below (XVc B yl_22 Z S') args s 4 472 (cA B)) S 0 1 0 0 [(0, .ref (Z.2.1 8))] [] := by
  obtain ⟨hx, hb, -, -, -, -, -, -, -, hB, -⟩ := id E
  intro S  h H locs ls X hl
  unfold fX4_init_8 at h
  refine lv_aload_n hx hb dX4_init_0 rfl (lv_at hl 0 rfl) ?_
  refine y_objInit E oiX4_3 hl.1 rfl dX4_init_1 ?_
  refine lv_aload_n hx hb dX4_init_4 rfl (lv_at hl 0 rfl) ?_
  refine lv_bipush (v := (16 : Int32)) hx hb dX4_init_5 (by decide) ?_
  obtain ⟨S_1, eS_1, h⟩ := ltm_s h
  refine y_newI E X (L' := yl_15) (k := 9) ac_I rfl rfl rfl rfl (by decide) (by decide) rfl dX4_init_7 (fun H X => ?_)
  rw [← eS_1] at X
  refine y_putr E hin X frX4_9 rfl rfl (by decide) (L' := yl_16) rfl dX4_init_9 (fun H locs X => ?_)
  refine lv_aload_n hx hb dX4_init_12 rfl (lv_at hl 0 rfl) ?_
  refine lv_bipush (v := (16 : Int32)) hx hb dX4_init_13 (by decide) ?_
  obtain ⟨S_2, eS_2, h⟩ := ltm_s h
  refine y_newI E X (L' := yl_17) (k := 10) ac_I rfl rfl rfl rfl (by decide) (by decide) rfl dX4_init_15 (fun H X => ?_)
  rw [← eS_2] at X
  refine y_putr E hin X frX4_15 rfl rfl (by decide) (L' := yl_18) rfl dX4_init_17 (fun H locs X => ?_)
  refine lv_aload_n hx hb dX4_init_20 rfl (lv_at hl 0 rfl) ?_
  refine lv_sipush (v := (400 : Int32)) hx hb dX4_init_21 (by decide) ?_
  obtain ⟨S_3, eS_3, h⟩ := ltm_s h
  refine y_newI E X (L' := yl_19) (k := 11) ac_I rfl rfl rfl rfl (by decide) (by decide) rfl dX4_init_24 (fun H X => ?_)
  rw [← eS_3] at X
  refine y_putr E hin X frX4_18 rfl rfl (by decide) (L' := yl_20) rfl dX4_init_26 (fun H locs X => ?_)
  refine lv_aload_n hx hb dX4_init_29 rfl (lv_at hl 0 rfl) ?_
  refine lv_bipush (v := (40 : Int32)) hx hb dX4_init_30 (by decide) ?_
  obtain ⟨S_4, eS_4, h⟩ := ltm_s h
  refine y_newI E X (L' := yl_21) (k := 12) ac_I rfl rfl rfl rfl (by decide) (by decide) rfl dX4_init_32 (fun H X => ?_)
  rw [← eS_4] at X
  refine y_putr E hin X frX4_21 rfl rfl (by decide) (L' := yl_22) rfl dX4_init_34 (fun H locs X => ?_)
  exact y_vret E X h dX4_init_37
/-- SevenToAShadow$Rules.<init>()V -/
theorem mX4_init_8 (l : Launch) (B : Nat) (Z : XG) (hB : ∀ k, Z.2.1 k = B + k) {S S' : Mem} {r : Int32} (h : fX4_init_8 S = some (r, S')) : XMc l yX4_init cX4_init 1 { frames := 1, cells := 4, slots := 472, locals := 12 } B yl_14 yl_22 Z [.ref (Z.2.1 8)] S S' 4 472 := by
  refine XMc.of (own := RX4) (by decide +kernel) rfl rfl rfl hB (fun p e s m args below meth c E hin ls hl X => ?_)
  exact wX4_init_8 E hin S h _ _ _ X hl
def fJ7_fill_yl_23_5_b (k0 : Mem → Int32 → Int32 → Int32 → O) (S : Mem) (x1 x2 x3 : Int32) : O := (if x3 ≤ x2 then some ((0 : Int32), S) else gd (inB x2 10) <| ltm (mset S 5 (x2).toNatClampNeg x1) fun S_3 => k0 S_3 x1 (x2 + (1 : Int32)) x3)
def fJ7_fill_yl_23_5 : Nat → Mem → Int32 → Int32 → Int32 → O
  | 0 => fun _ _ _ _ => none
  | n + 1 => fJ7_fill_yl_23_5_b (fJ7_fill_yl_23_5 n)
def fJ7_fill_yl_23 (S : Mem) (x1 : Int32) : O := fJ7_fill_yl_23_5  FU S x1 (0 : Int32) (10 : Int32)
set_option maxRecDepth 20000 in
theorem wJ7_fill_yl_23_5_b {p : Program} {l : Launch} {e : Env} {s : State} {m : MethodId} {args : Array Value} {below : List Frame} {meth : Method} {c : Code} {Z : XG} {r : Int32} {S' : Mem} (E : XE p s m args meth c cJ7_fill_53178 4 RJ7 none yl_23 Z) (k0 : Mem → Int32 → Int32 → Int32 → O)  (hk0 : ∀ (S : Mem) (x1 x2 x3 : Int32), k0 S x1 x2 x3 = some (r, S') → WN p l e { frames := 0, cells := 0, slots := 0, locals := 0 } s m args below meth c yl_23 Z (XV yl_23 Z S') S 5 4 [(0, .ref (Z.2.1 5)), (1, .int x1), (2, .int x2), (3, .int x3)] []) : ∀ (S : Mem) (x1 x2 x3 : Int32), fJ7_fill_yl_23_5_b k0 S x1 x2 x3 = some (r, S') → WN p l e { frames := 0, cells := 0, slots := 0, locals := 0 } s m args below meth c yl_23 Z (XV yl_23 Z S') S 5 4 [(0, .ref (Z.2.1 5)), (1, .int x1), (2, .int x2), (3, .int x3)] [] := by
  obtain ⟨hx, hb, -, -, -, -, -, -, -, hQ⟩ := id E
  intro S x1 x2 x3 h H locs ls X hl
  unfold fJ7_fill_yl_23_5_b at h
  refine lv_iload_n hx hb dJ7_fill_53178_5 rfl (lv_at hl 2 rfl) ?_
  refine lv_iload_n hx hb dJ7_fill_53178_6 rfl (lv_at hl 3 rfl) ?_
  refine lv_icmp_ge (tgt := 20) hx hb dJ7_fill_53178_7 (by decide) (fun c_1 => ?_) (fun c_1 => ?_)
  · have h := if_t c_1 h
    exact x_vret E X h dJ7_fill_53178_20
  · have h := if_f c_1 h
    refine lv_aload_n hx hb dJ7_fill_53178_10 rfl (lv_at hl 0 rfl) ?_
    refine lv_iload_n hx hb dJ7_fill_53178_11 rfl (lv_at hl 2 rfl) ?_
    refine lv_iload_n hx hb dJ7_fill_53178_12 rfl (lv_at hl 1 rfl) ?_
    obtain ⟨g_2, h⟩ := gd_s h
    obtain ⟨S_3, eS_3, h⟩ := ltm_s h
    refine x_iast E X rfl g_2 dJ7_fill_53178_13 (fun H locs X => ?_)
    rw [← eS_3] at X
    refine lv_iinc (v := (x2 + (1 : Int32))) (lv' := [(2, .int (x2 + (1 : Int32))), (0, .ref (Z.2.1 5)), (1, .int x1), (3, .int x3)]) hx hb dJ7_fill_53178_14 hl (k := 2) rfl rfl (by decide) rfl (fun ls hl => ?_)
    refine lv_goto (tgt := 5) hx hb dJ7_fill_53178_17 (by decide) ?_
    exact hk0 S_3 x1 (x2 + (1 : Int32)) x3 h _ _ _ X (lv_sub hl [1, 2, 0, 3] rfl)
theorem wJ7_fill_yl_23_5 {p : Program} {l : Launch} {e : Env} {s : State} {m : MethodId} {args : Array Value} {below : List Frame} {meth : Method} {c : Code} {Z : XG} {r : Int32} {S' : Mem} (E : XE p s m args meth c cJ7_fill_53178 4 RJ7 none yl_23 Z) : ∀ (n : Nat) (S : Mem) (x1 x2 x3 : Int32), fJ7_fill_yl_23_5 n S x1 x2 x3 = some (r, S') → WN p l e { frames := 0, cells := 0, slots := 0, locals := 0 } s m args below meth c yl_23 Z (XV yl_23 Z S') S 5 4 [(0, .ref (Z.2.1 5)), (1, .int x1), (2, .int x2), (3, .int x3)] [] := by
  intro n
  induction n with
  | zero => intro S x1 x2 x3 h; exact absurd (show (none : O) = some _ from h) (by simp)
  | succ n ih => intro S x1 x2 x3 h; exact wJ7_fill_yl_23_5_b E (fJ7_fill_yl_23_5 n) ih S x1 x2 x3 h
set_option maxRecDepth 20000 in
theorem wJ7_fill_yl_23 {p : Program} {l : Launch} {e : Env} {s : State} {m : MethodId} {args : Array Value} {below : List Frame} {meth : Method} {c : Code} {Z : XG} {r : Int32} {S' : Mem} (E : XE p s m args meth c cJ7_fill_53178 4 RJ7 none yl_23 Z) : ∀ (S : Mem) (x1 : Int32), fJ7_fill_yl_23  S x1 = some (r, S') → WN p l e { frames := 0, cells := 0, slots := 0, locals := 0 } s m args below meth c yl_23 Z (XV yl_23 Z S') S 0 4 [(0, .ref (Z.2.1 5)), (1, .int x1)] [] := by
  obtain ⟨hx, hb, -, -, -, -, -, -, -, hQ⟩ := id E
  intro S x1 h H locs ls X hl
  unfold fJ7_fill_yl_23 at h
  refine lv_iconst (v := (0 : Int32)) hx hb dJ7_fill_53178_0 (by decide) ?_
  refine lv_istore_n (lv' := [(2, .int (0 : Int32)), (0, .ref (Z.2.1 5)), (1, .int x1)]) hx hb dJ7_fill_53178_1 rfl hl (by decide) rfl (fun ls hl => ?_)
  refine lv_aload_n hx hb dJ7_fill_53178_2 rfl (lv_at hl 1 rfl) ?_
  refine x_alen E X (v := (10 : Int32)) rfl (by decide) dJ7_fill_53178_3 ?_
  refine lv_istore_n (lv' := [(3, .int (10 : Int32)), (2, .int (0 : Int32)), (0, .ref (Z.2.1 5)), (1, .int x1)]) hx hb dJ7_fill_53178_4 rfl hl (by decide) rfl (fun ls hl => ?_)
  exact wJ7_fill_yl_23_5 E   FU S x1 (0 : Int32) (10 : Int32) h _ _ _ X (lv_sub hl [2, 3, 1, 0] rfl)
/-- java/util/Arrays.fill([II)V -/
theorem mJ7_fill_yl_23 (l : Launch) (Z : XG) (hQ : wQ (List.length yl_23) Z) {S S' : Mem} {r : Int32} (x1 : Int32) (h : fJ7_fill_yl_23 S x1 = some (r, S')) : XM l yJ7_fill_53178 cJ7_fill_53178 4 none { frames := 0, cells := 0, slots := 0, locals := 0 } yl_23 Z [.ref (Z.2.1 5), .int x1] S (XV yl_23 Z S') := by
  refine XM.of (own := RJ7) (by decide +kernel) rfl rfl hQ (fun p e s m args below meth c E ls hl X => ?_)
  exact wJ7_fill_yl_23 E S x1 h _ _ _ X hl
def fX6_init_1_65_b (k0 : Mem → Int32 → O) (S : Mem) (x1 : Int32) : O := (if (12 : Int32) ≤ x1 then bnd (fJ7_fill_yl_23 S (-1 : Int32)) fun _ S_3 => some ((0 : Int32), S_3) else lti (x1 * (5 : Int32)) fun x2_4 => gd (inB x1 (List.length st_FIRST_SUNS)) <| gd (inB (x2_4 + (0 : Int32)) 60) <| ltm (mset S 2 ((x2_4 + (0 : Int32))).toNatClampNeg (st_FIRST_SUNS.getD (x1).toNatClampNeg 0)) fun S_8 => gd (inB x1 (List.length st_FIRST_ALTITUDES)) <| gd (inB (x2_4 + (1 : Int32)) 60) <| ltm (mset S_8 2 ((x2_4 + (1 : Int32))).toNatClampNeg (st_FIRST_ALTITUDES.getD (x1).toNatClampNeg 0)) fun S_12 => gd (inB x1 (List.length st_FIRST_ALTITUDES)) <| gd (inB (x2_4 + (2 : Int32)) 60) <| ltm (mset S_12 2 ((x2_4 + (2 : Int32))).toNatClampNeg ((st_FIRST_ALTITUDES.getD (x1).toNatClampNeg 0) + (1 : Int32))) fun S_16 => k0 S_16 (x1 + (1 : Int32)))
def fX6_init_1_65 : Nat → Mem → Int32 → O
  | 0 => fun _ _ => none
  | n + 1 => fX6_init_1_65_b (fX6_init_1_65 n)
def fX6_init_1 (S : Mem) : O := ltm (mput S 2 (fun _ => 0)) fun S_1 => ltm (mput S_1 3 (fun _ => 0)) fun S_2 => ltm (mput S_2 4 (fun _ => 0)) fun S_3 => ltm (mput S_3 5 (fun _ => 0)) fun S_4 => ltm (mput S_4 6 (fun _ => 0)) fun S_5 => bnd (fX0_init_6 S_5) fun _ S_7 => ltm (mput S_7 8 (fun _ => 0)) fun S_8 => bnd (fX4_init_8 S_8) fun _ S_10 => ltm (mset S_10 1 11 (5 : Int32)) fun S_11 => fX6_init_1_65  FU S_11 (0 : Int32)
theorem dX6_init_0 : decode cX6_init 0 = .ok (.aload_n 0, 1) := by decide +kernel
theorem dX6_init_1 : decode cX6_init 1 = .ok (.invokespecial 3, 3) := by decide +kernel
theorem dX6_init_4 : decode cX6_init 4 = .ok (.aload_n 0, 1) := by decide +kernel
theorem dX6_init_5 : decode cX6_init 5 = .ok (.bipush 60, 2) := by decide +kernel
theorem dX6_init_7 : decode cX6_init 7 = .ok (.newarray .int, 2) := by decide +kernel
theorem dX6_init_9 : decode cX6_init 9 = .ok (.putfield 9, 3) := by decide +kernel
theorem dX6_init_12 : decode cX6_init 12 = .ok (.aload_n 0, 1) := by decide +kernel
theorem dX6_init_13 : decode cX6_init 13 = .ok (.bipush 100, 2) := by decide +kernel
theorem dX6_init_15 : decode cX6_init 15 = .ok (.newarray .int, 2) := by decide +kernel
theorem dX6_init_17 : decode cX6_init 17 = .ok (.putfield 15, 3) := by decide +kernel
theorem dX6_init_20 : decode cX6_init 20 = .ok (.aload_n 0, 1) := by decide +kernel
theorem dX6_init_21 : decode cX6_init 21 = .ok (.bipush 10, 2) := by decide +kernel
theorem dX6_init_23 : decode cX6_init 23 = .ok (.newarray .int, 2) := by decide +kernel
theorem dX6_init_25 : decode cX6_init 25 = .ok (.putfield 18, 3) := by decide +kernel
theorem dX6_init_28 : decode cX6_init 28 = .ok (.aload_n 0, 1) := by decide +kernel
theorem dX6_init_29 : decode cX6_init 29 = .ok (.bipush 10, 2) := by decide +kernel
theorem dX6_init_31 : decode cX6_init 31 = .ok (.newarray .int, 2) := by decide +kernel
theorem dX6_init_33 : decode cX6_init 33 = .ok (.putfield 21, 3) := by decide +kernel
theorem dX6_init_36 : decode cX6_init 36 = .ok (.aload_n 0, 1) := by decide +kernel
theorem dX6_init_37 : decode cX6_init 37 = .ok (.new 24, 3) := by decide +kernel
theorem dX6_init_40 : decode cX6_init 40 = .ok (.dup, 1) := by decide +kernel
theorem dX6_init_41 : decode cX6_init 41 = .ok (.invokespecial 26, 3) := by decide +kernel
theorem dX6_init_44 : decode cX6_init 44 = .ok (.putfield 27, 3) := by decide +kernel
theorem dX6_init_47 : decode cX6_init 47 = .ok (.aload_n 0, 1) := by decide +kernel
theorem dX6_init_48 : decode cX6_init 48 = .ok (.new 31, 3) := by decide +kernel
theorem dX6_init_51 : decode cX6_init 51 = .ok (.dup, 1) := by decide +kernel
theorem dX6_init_52 : decode cX6_init 52 = .ok (.invokespecial 33, 3) := by decide +kernel
theorem dX6_init_55 : decode cX6_init 55 = .ok (.putfield 34, 3) := by decide +kernel
theorem dX6_init_58 : decode cX6_init 58 = .ok (.aload_n 0, 1) := by decide +kernel
theorem dX6_init_59 : decode cX6_init 59 = .ok (.iconst 5, 1) := by decide +kernel
theorem dX6_init_60 : decode cX6_init 60 = .ok (.putfield 38, 3) := by decide +kernel
theorem dX6_init_63 : decode cX6_init 63 = .ok (.iconst 0, 1) := by decide +kernel
theorem dX6_init_64 : decode cX6_init 64 = .ok (.istore_n 1, 1) := by decide +kernel
theorem dX6_init_65 : decode cX6_init 65 = .ok (.iload_n 1, 1) := by decide +kernel
theorem dX6_init_66 : decode cX6_init 66 = .ok (.bipush 12, 2) := by decide +kernel
theorem dX6_init_68 : decode cX6_init 68 = .ok (.if_icmp .ge 54, 3) := by decide +kernel
theorem dX6_init_71 : decode cX6_init 71 = .ok (.iload_n 1, 1) := by decide +kernel
theorem dX6_init_72 : decode cX6_init 72 = .ok (.iconst 5, 1) := by decide +kernel
theorem dX6_init_73 : decode cX6_init 73 = .ok (.imul, 1) := by decide +kernel
theorem dX6_init_74 : decode cX6_init 74 = .ok (.istore_n 2, 1) := by decide +kernel
theorem dX6_init_75 : decode cX6_init 75 = .ok (.aload_n 0, 1) := by decide +kernel
theorem dX6_init_76 : decode cX6_init 76 = .ok (.getfield 9, 3) := by decide +kernel
theorem dX6_init_79 : decode cX6_init 79 = .ok (.iload_n 2, 1) := by decide +kernel
theorem dX6_init_80 : decode cX6_init 80 = .ok (.iconst 0, 1) := by decide +kernel
theorem dX6_init_81 : decode cX6_init 81 = .ok (.iadd, 1) := by decide +kernel
theorem dX6_init_82 : decode cX6_init 82 = .ok (.getstatic 42, 3) := by decide +kernel
theorem dX6_init_85 : decode cX6_init 85 = .ok (.iload_n 1, 1) := by decide +kernel
theorem dX6_init_86 : decode cX6_init 86 = .ok (.iaload, 1) := by decide +kernel
theorem dX6_init_87 : decode cX6_init 87 = .ok (.iastore, 1) := by decide +kernel
theorem dX6_init_88 : decode cX6_init 88 = .ok (.aload_n 0, 1) := by decide +kernel
theorem dX6_init_89 : decode cX6_init 89 = .ok (.getfield 9, 3) := by decide +kernel
theorem dX6_init_92 : decode cX6_init 92 = .ok (.iload_n 2, 1) := by decide +kernel
theorem dX6_init_93 : decode cX6_init 93 = .ok (.iconst 1, 1) := by decide +kernel
theorem dX6_init_94 : decode cX6_init 94 = .ok (.iadd, 1) := by decide +kernel
theorem dX6_init_95 : decode cX6_init 95 = .ok (.getstatic 45, 3) := by decide +kernel
theorem dX6_init_98 : decode cX6_init 98 = .ok (.iload_n 1, 1) := by decide +kernel
theorem dX6_init_99 : decode cX6_init 99 = .ok (.iaload, 1) := by decide +kernel
theorem dX6_init_100 : decode cX6_init 100 = .ok (.iastore, 1) := by decide +kernel
theorem dX6_init_101 : decode cX6_init 101 = .ok (.aload_n 0, 1) := by decide +kernel
theorem dX6_init_102 : decode cX6_init 102 = .ok (.getfield 9, 3) := by decide +kernel
theorem dX6_init_105 : decode cX6_init 105 = .ok (.iload_n 2, 1) := by decide +kernel
theorem dX6_init_106 : decode cX6_init 106 = .ok (.iconst 2, 1) := by decide +kernel
theorem dX6_init_107 : decode cX6_init 107 = .ok (.iadd, 1) := by decide +kernel
theorem dX6_init_108 : decode cX6_init 108 = .ok (.getstatic 45, 3) := by decide +kernel
theorem dX6_init_111 : decode cX6_init 111 = .ok (.iload_n 1, 1) := by decide +kernel
theorem dX6_init_112 : decode cX6_init 112 = .ok (.iaload, 1) := by decide +kernel
theorem dX6_init_113 : decode cX6_init 113 = .ok (.iconst 1, 1) := by decide +kernel
theorem dX6_init_114 : decode cX6_init 114 = .ok (.iadd, 1) := by decide +kernel
theorem dX6_init_115 : decode cX6_init 115 = .ok (.iastore, 1) := by decide +kernel
theorem dX6_init_116 : decode cX6_init 116 = .ok (.iinc 1 1, 3) := by decide +kernel
theorem dX6_init_119 : decode cX6_init 119 = .ok (.goto (-54), 3) := by decide +kernel
theorem dX6_init_122 : decode cX6_init 122 = .ok (.aload_n 0, 1) := by decide +kernel
theorem dX6_init_123 : decode cX6_init 123 = .ok (.getfield 21, 3) := by decide +kernel
theorem dX6_init_126 : decode cX6_init 126 = .ok (.iconst (-1), 1) := by decide +kernel
theorem dX6_init_127 : decode cX6_init 127 = .ok (.invokestatic 48, 3) := by decide +kernel
theorem dX6_init_130 : decode cX6_init 130 = .ok (.return_, 1) := by decide +kernel
set_option maxRecDepth 20000 in
theorem wX6_init_1_65_b {p : Program} {l : Launch} {e : Env} {s : State} {m : MethodId} {args : Array Value} {below : List Frame} {meth : Method} {c : Code} {B : Nat} {Z : XG} {r : Int32} {S' : Mem} (E : XEc p s m args meth c cX6_init 3 RX6 none B 2 Z) (hin : meth.name = "<init>") (k0 : Mem → Int32 → O)  (hk0 : ∀ (S : Mem) (x1 : Int32), k0 S x1 = some (r, S') → WNc p l e { frames := 2, cells := 11, slots := 1460, locals := 32 } s m args below meth c B yl_23 Z (MQ below (XVc B yl_23 Z S') args s 11 1460 (cA B)) S 65 3 11 1460 [(0, .ref (Z.2.1 1)), (1, .int x1)] []) : ∀ (S : Mem) (x1 : Int32), fX6_init_1_65_b k0 S x1 = some (r, S') → WNc p l e { frames := 2, cells := 11, slots := 1460, locals := 32 } s m args below meth c B yl_23 Z (MQ below (XVc B yl_23 Z S') args s 11 1460 (cA B)) S 65 3 11 1460 [(0, .ref (Z.2.1 1)), (1, .int x1)] [] := by
  obtain ⟨hx, hb, -, -, -, -, -, -, -, hB, -⟩ := id E
  intro S x1 h H locs ls X hl
  unfold fX6_init_1_65_b at h
  refine lv_iload_n hx hb dX6_init_65 rfl (lv_at hl 1 rfl) ?_
  refine lv_bipush (v := (12 : Int32)) hx hb dX6_init_66 (by decide) ?_
  refine lv_icmp_ge (tgt := 122) hx hb dX6_init_68 (by decide) (fun c_1 => ?_) (fun c_1 => ?_)
  · have h := if_t c_1 h
    refine lv_aload_n hx hb dX6_init_122 rfl (lv_at hl 0 rfl) ?_
    refine y_getr E X ffX6_21 rfl rfl (by decide) dX6_init_123 ?_
    refine lv_iconst (v := (-1 : Int32)) hx hb dX6_init_126 (by decide) ?_
    obtain ⟨r_2, S_3, hr_2, h⟩ := bnd_s h
    refine y_callSv E X cwX6_48 (mJ7_fill_yl_23 l Z (wQ_B hB) (-1 : Int32) hr_2) rfl rfl hl.1 rfl dX6_init_127 (fun H locs X => ?_)
    exact y_vret E X h dX6_init_130
  · have h := if_f c_1 h
    refine lv_iload_n hx hb dX6_init_71 rfl (lv_at hl 1 rfl) ?_
    refine lv_iconst (v := (5 : Int32)) hx hb dX6_init_72 (by decide) ?_
    refine lv_imul hx hb dX6_init_73 ?_
    obtain ⟨x2_4, ex2_4, h⟩ := lti_s h
    refine lv_nm ex2_4 ?_
    refine lv_istore_n (lv' := [(2, .int x2_4), (0, .ref (Z.2.1 1)), (1, .int x1)]) hx hb dX6_init_74 rfl hl (by decide) rfl (fun ls hl => ?_)
    refine lv_aload_n hx hb dX6_init_75 rfl (lv_at hl 1 rfl) ?_
    refine y_getr E X ffX6_9 rfl rfl (by decide) dX6_init_76 ?_
    refine lv_iload_n hx hb dX6_init_79 rfl (lv_at hl 0 rfl) ?_
    refine lv_iconst (v := (0 : Int32)) hx hb dX6_init_80 (by decide) ?_
    refine lv_iadd hx hb dX6_init_81 ?_
    obtain ⟨t_5, hZt_5, hTt_5⟩ := E.2.2.2.2.2.2.2.2.1.2.1
    refine y_getsN E X (host := "SevenToAShadow") hZt_5 (by decide +kernel) dX6_init_82 ?_
    refine lv_iload_n hx hb dX6_init_85 rfl (lv_at hl 2 rfl) ?_
    obtain ⟨g_6, h⟩ := gd_s h
    refine y_ti E X hTt_5 g_6 dX6_init_86 ?_
    obtain ⟨g_7, h⟩ := gd_s h
    obtain ⟨S_8, eS_8, h⟩ := ltm_s h
    refine y_iast E X rfl g_7 dX6_init_87 (fun H locs X => ?_)
    rw [← eS_8] at X
    refine lv_aload_n hx hb dX6_init_88 rfl (lv_at hl 1 rfl) ?_
    refine y_getr E X ffX6_9 rfl rfl (by decide) dX6_init_89 ?_
    refine lv_iload_n hx hb dX6_init_92 rfl (lv_at hl 0 rfl) ?_
    refine lv_iconst (v := (1 : Int32)) hx hb dX6_init_93 (by decide) ?_
    refine lv_iadd hx hb dX6_init_94 ?_
    obtain ⟨t_9, hZt_9, hTt_9⟩ := E.2.2.2.2.2.2.2.2.1.2.2.1
    refine y_getsN E X (host := "SevenToAShadow") hZt_9 (by decide +kernel) dX6_init_95 ?_
    refine lv_iload_n hx hb dX6_init_98 rfl (lv_at hl 2 rfl) ?_
    obtain ⟨g_10, h⟩ := gd_s h
    refine y_ti E X hTt_9 g_10 dX6_init_99 ?_
    obtain ⟨g_11, h⟩ := gd_s h
    obtain ⟨S_12, eS_12, h⟩ := ltm_s h
    refine y_iast E X rfl g_11 dX6_init_100 (fun H locs X => ?_)
    rw [← eS_12] at X
    refine lv_aload_n hx hb dX6_init_101 rfl (lv_at hl 1 rfl) ?_
    refine y_getr E X ffX6_9 rfl rfl (by decide) dX6_init_102 ?_
    refine lv_iload_n hx hb dX6_init_105 rfl (lv_at hl 0 rfl) ?_
    refine lv_iconst (v := (2 : Int32)) hx hb dX6_init_106 (by decide) ?_
    refine lv_iadd hx hb dX6_init_107 ?_
    obtain ⟨t_13, hZt_13, hTt_13⟩ := E.2.2.2.2.2.2.2.2.1.2.2.1
    refine y_getsN E X (host := "SevenToAShadow") hZt_13 (by decide +kernel) dX6_init_108 ?_
    refine lv_iload_n hx hb dX6_init_111 rfl (lv_at hl 2 rfl) ?_
    obtain ⟨g_14, h⟩ := gd_s h
    refine y_ti E X hTt_13 g_14 dX6_init_112 ?_
    refine lv_iconst (v := (1 : Int32)) hx hb dX6_init_113 (by decide) ?_
    refine lv_iadd hx hb dX6_init_114 ?_
    obtain ⟨g_15, h⟩ := gd_s h
    obtain ⟨S_16, eS_16, h⟩ := ltm_s h
    refine y_iast E X rfl g_15 dX6_init_115 (fun H locs X => ?_)
    rw [← eS_16] at X
    refine lv_iinc (v := (x1 + (1 : Int32))) (lv' := [(1, .int (x1 + (1 : Int32))), (2, .int x2_4), (0, .ref (Z.2.1 1))]) hx hb dX6_init_116 hl (k := 2) rfl rfl (by decide) rfl (fun ls hl => ?_)
    refine lv_goto (tgt := 65) hx hb dX6_init_119 (by decide) ?_
    exact hk0 S_16 (x1 + (1 : Int32)) h _ _ _ X (lv_sub hl [2, 0] rfl)
theorem wX6_init_1_65 {p : Program} {l : Launch} {e : Env} {s : State} {m : MethodId} {args : Array Value} {below : List Frame} {meth : Method} {c : Code} {B : Nat} {Z : XG} {r : Int32} {S' : Mem} (E : XEc p s m args meth c cX6_init 3 RX6 none B 2 Z) (hin : meth.name = "<init>") : ∀ (n : Nat) (S : Mem) (x1 : Int32), fX6_init_1_65 n S x1 = some (r, S') → WNc p l e { frames := 2, cells := 11, slots := 1460, locals := 32 } s m args below meth c B yl_23 Z (MQ below (XVc B yl_23 Z S') args s 11 1460 (cA B)) S 65 3 11 1460 [(0, .ref (Z.2.1 1)), (1, .int x1)] [] := by
  intro n
  induction n with
  | zero => intro S x1 h; exact absurd (show (none : O) = some _ from h) (by simp)
  | succ n ih => intro S x1 h; exact wX6_init_1_65_b E hin (fX6_init_1_65 n) ih S x1 h
set_option maxRecDepth 20000 in
theorem wX6_init_1 {p : Program} {l : Launch} {e : Env} {s : State} {m : MethodId} {args : Array Value} {below : List Frame} {meth : Method} {c : Code} {B : Nat} {Z : XG} {r : Int32} {S' : Mem} (E : XEc p s m args meth c cX6_init 3 RX6 none B 2 Z) (hin : meth.name = "<init>") : ∀ (S : Mem), fX6_init_1  S  = some (r, S') → WNc p l e { frames := 2, cells := 11, slots := 1460, locals := 32 } s m args below meth c B yl_1 Z (MQ below (XVc B yl_23 Z S') args s 11 1460 (cA B)) S 0 3 0 0 [(0, .ref (Z.2.1 1))] [] := by
  obtain ⟨hx, hb, -, -, -, -, -, -, -, hB, -⟩ := id E
  intro S  h H locs ls X hl
  unfold fX6_init_1 at h
  refine lv_aload_n hx hb dX6_init_0 rfl (lv_at hl 0 rfl) ?_
  refine y_objInit E oiX6_3 hl.1 rfl dX6_init_1 ?_
  refine lv_aload_n hx hb dX6_init_4 rfl (lv_at hl 0 rfl) ?_
  refine lv_bipush (v := (60 : Int32)) hx hb dX6_init_5 (by decide) ?_
  obtain ⟨S_1, eS_1, h⟩ := ltm_s h
  refine y_newI E X (L' := yl_2) (k := 2) ac_I rfl rfl rfl rfl (by decide) (by decide) rfl dX6_init_7 (fun H X => ?_)
  rw [← eS_1] at X
  refine y_putr E hin X frX6_9 rfl rfl (by decide) (L' := yl_3) rfl dX6_init_9 (fun H locs X => ?_)
  refine lv_aload_n hx hb dX6_init_12 rfl (lv_at hl 0 rfl) ?_
  refine lv_bipush (v := (100 : Int32)) hx hb dX6_init_13 (by decide) ?_
  obtain ⟨S_2, eS_2, h⟩ := ltm_s h
  refine y_newI E X (L' := yl_4) (k := 3) ac_I rfl rfl rfl rfl (by decide) (by decide) rfl dX6_init_15 (fun H X => ?_)
  rw [← eS_2] at X
  refine y_putr E hin X frX6_15 rfl rfl (by decide) (L' := yl_5) rfl dX6_init_17 (fun H locs X => ?_)
  refine lv_aload_n hx hb dX6_init_20 rfl (lv_at hl 0 rfl) ?_
  refine lv_bipush (v := (10 : Int32)) hx hb dX6_init_21 (by decide) ?_
  obtain ⟨S_3, eS_3, h⟩ := ltm_s h
  refine y_newI E X (L' := yl_6) (k := 4) ac_I rfl rfl rfl rfl (by decide) (by decide) rfl dX6_init_23 (fun H X => ?_)
  rw [← eS_3] at X
  refine y_putr E hin X frX6_18 rfl rfl (by decide) (L' := yl_7) rfl dX6_init_25 (fun H locs X => ?_)
  refine lv_aload_n hx hb dX6_init_28 rfl (lv_at hl 0 rfl) ?_
  refine lv_bipush (v := (10 : Int32)) hx hb dX6_init_29 (by decide) ?_
  obtain ⟨S_4, eS_4, h⟩ := ltm_s h
  refine y_newI E X (L' := yl_8) (k := 5) ac_I rfl rfl rfl rfl (by decide) (by decide) rfl dX6_init_31 (fun H X => ?_)
  rw [← eS_4] at X
  refine y_putr E hin X frX6_21 rfl rfl (by decide) (L' := yl_9) rfl dX6_init_33 (fun H locs X => ?_)
  refine lv_aload_n hx hb dX6_init_36 rfl (lv_at hl 0 rfl) ?_
  obtain ⟨S_5, eS_5, h⟩ := ltm_s h
  refine y_newo E X (L' := yl_10) (k := 6) nwX6_24 rfl rfl rfl rfl rfl dX6_init_37 (fun H X => ?_)
  rw [← eS_5] at X
  refine lv_dup hx hb dX6_init_40 rfl ?_
  obtain ⟨r_6, S_7, hr_6, h⟩ := bnd_s h
  refine y_callIN E X (L' := yl_12) ciX6_26 (mX0_init_6 l B Z hB hr_6) rfl rfl rfl rfl hl.1 rfl dX6_init_41 (fun H locs X => ?_)
  refine y_putr E hin X frX6_27 rfl rfl (by decide) (L' := yl_13) rfl dX6_init_44 (fun H locs X => ?_)
  refine lv_aload_n hx hb dX6_init_47 rfl (lv_at hl 0 rfl) ?_
  obtain ⟨S_8, eS_8, h⟩ := ltm_s h
  refine y_newo E X (L' := yl_14) (k := 8) nwX6_31 rfl rfl rfl rfl rfl dX6_init_48 (fun H X => ?_)
  rw [← eS_8] at X
  refine lv_dup hx hb dX6_init_51 rfl ?_
  obtain ⟨r_9, S_10, hr_9, h⟩ := bnd_s h
  refine y_callIN E X (L' := yl_22) ciX6_33 (mX4_init_8 l B Z hB hr_9) rfl rfl rfl rfl hl.1 rfl dX6_init_52 (fun H locs X => ?_)
  refine y_putr E hin X frX6_34 rfl rfl (by decide) (L' := yl_23) rfl dX6_init_55 (fun H locs X => ?_)
  refine lv_aload_n hx hb dX6_init_58 rfl (lv_at hl 0 rfl) ?_
  refine lv_iconst (v := (5 : Int32)) hx hb dX6_init_59 (by decide) ?_
  obtain ⟨S_11, eS_11, h⟩ := ltm_s h
  refine y_put E X fpX6_38 rfl rfl dX6_init_60 (fun H locs X => ?_)
  rw [← eS_11] at X
  refine lv_iconst (v := (0 : Int32)) hx hb dX6_init_63 (by decide) ?_
  refine lv_istore_n (lv' := [(1, .int (0 : Int32)), (0, .ref (Z.2.1 1))]) hx hb dX6_init_64 rfl hl (by decide) rfl (fun ls hl => ?_)
  exact wX6_init_1_65 E hin   FU S_11 (0 : Int32) h _ _ _ X (lv_sub hl [1, 0] rfl)
/-- SevenToAShadow$World.<init>()V -/
theorem mX6_init_1 (l : Launch) (B : Nat) (Z : XG) (hB : ∀ k, Z.2.1 k = B + k) {S S' : Mem} {r : Int32} (h : fX6_init_1 S = some (r, S')) : XMc l yX6_init cX6_init 3 { frames := 2, cells := 11, slots := 1460, locals := 32 } B yl_1 yl_23 Z [.ref (Z.2.1 1)] S S' 11 1460 := by
  refine XMc.of (own := RX6) (by decide +kernel) rfl rfl rfl hB (fun p e s m args below meth c E hin ls hl X => ?_)
  exact wX6_init_1 E hin S h _ _ _ X hl
def fX0_init_18 (S : Mem) : O := ltm (mput S 19 (fun _ => 0)) fun S_1 => some ((0 : Int32), S_1)
set_option maxRecDepth 20000 in
theorem wX0_init_18 {p : Program} {l : Launch} {e : Env} {s : State} {m : MethodId} {args : Array Value} {below : List Frame} {meth : Method} {c : Code} {B : Nat} {Z : XG} {r : Int32} {S' : Mem} (E : XEc p s m args meth c cX0_init 1 RX0 none B 19 Z) (hin : meth.name = "<init>") : ∀ (S : Mem), fX0_init_18  S  = some (r, S') → WNc p l e { frames := 1, cells := 1, slots := 800, locals := 12 } s m args below meth c B yl_34 Z (MQ below (XVc B yl_36 Z S') args s 1 800 (cA B)) S 0 1 0 0 [(0, .ref (Z.2.1 18))] [] := by
  obtain ⟨hx, hb, -, -, -, -, -, -, -, hB, -⟩ := id E
  intro S  h H locs ls X hl
  unfold fX0_init_18 at h
  refine lv_aload_n hx hb dX0_init_0 rfl (lv_at hl 0 rfl) ?_
  refine y_objInit E oiX0_3 hl.1 rfl dX0_init_1 ?_
  refine lv_aload_n hx hb dX0_init_4 rfl (lv_at hl 0 rfl) ?_
  refine lv_sipush (v := (800 : Int32)) hx hb dX0_init_5 (by decide) ?_
  obtain ⟨S_1, eS_1, h⟩ := ltm_s h
  refine y_newI E X (L' := yl_35) (k := 19) ac_I rfl rfl rfl rfl (by decide) (by decide) rfl dX0_init_8 (fun H X => ?_)
  rw [← eS_1] at X
  refine y_putr E hin X frX0_9 rfl rfl (by decide) (L' := yl_36) rfl dX0_init_10 (fun H locs X => ?_)
  exact y_vret E X h dX0_init_13
/-- SevenToAShadow$Book.<init>()V -/
theorem mX0_init_18 (l : Launch) (B : Nat) (Z : XG) (hB : ∀ k, Z.2.1 k = B + k) {S S' : Mem} {r : Int32} (h : fX0_init_18 S = some (r, S')) : XMc l yX0_init cX0_init 1 { frames := 1, cells := 1, slots := 800, locals := 12 } B yl_34 yl_36 Z [.ref (Z.2.1 18)] S S' 1 800 := by
  refine XMc.of (own := RX0) (by decide +kernel) rfl rfl rfl hB (fun p e s m args below meth c E hin ls hl X => ?_)
  exact wX0_init_18 E hin S h _ _ _ X hl
def fX4_init_20 (S : Mem) : O := ltm (mput S 21 (fun _ => 0)) fun S_1 => ltm (mput S_1 22 (fun _ => 0)) fun S_2 => ltm (mput S_2 23 (fun _ => 0)) fun S_3 => ltm (mput S_3 24 (fun _ => 0)) fun S_4 => some ((0 : Int32), S_4)
set_option maxRecDepth 20000 in
theorem wX4_init_20 {p : Program} {l : Launch} {e : Env} {s : State} {m : MethodId} {args : Array Value} {below : List Frame} {meth : Method} {c : Code} {B : Nat} {Z : XG} {r : Int32} {S' : Mem} (E : XEc p s m args meth c cX4_init 1 RX4 none B 21 Z) (hin : meth.name = "<init>") : ∀ (S : Mem), fX4_init_20  S  = some (r, S') → WNc p l e { frames := 1, cells := 4, slots := 472, locals := 12 } s m args below meth c B yl_38 Z (MQ below (XVc B yl_46 Z S') args s 4 472 (cA B)) S 0 1 0 0 [(0, .ref (Z.2.1 20))] [] := by
  obtain ⟨hx, hb, -, -, -, -, -, -, -, hB, -⟩ := id E
  intro S  h H locs ls X hl
  unfold fX4_init_20 at h
  refine lv_aload_n hx hb dX4_init_0 rfl (lv_at hl 0 rfl) ?_
  refine y_objInit E oiX4_3 hl.1 rfl dX4_init_1 ?_
  refine lv_aload_n hx hb dX4_init_4 rfl (lv_at hl 0 rfl) ?_
  refine lv_bipush (v := (16 : Int32)) hx hb dX4_init_5 (by decide) ?_
  obtain ⟨S_1, eS_1, h⟩ := ltm_s h
  refine y_newI E X (L' := yl_39) (k := 21) ac_I rfl rfl rfl rfl (by decide) (by decide) rfl dX4_init_7 (fun H X => ?_)
  rw [← eS_1] at X
  refine y_putr E hin X frX4_9 rfl rfl (by decide) (L' := yl_40) rfl dX4_init_9 (fun H locs X => ?_)
  refine lv_aload_n hx hb dX4_init_12 rfl (lv_at hl 0 rfl) ?_
  refine lv_bipush (v := (16 : Int32)) hx hb dX4_init_13 (by decide) ?_
  obtain ⟨S_2, eS_2, h⟩ := ltm_s h
  refine y_newI E X (L' := yl_41) (k := 22) ac_I rfl rfl rfl rfl (by decide) (by decide) rfl dX4_init_15 (fun H X => ?_)
  rw [← eS_2] at X
  refine y_putr E hin X frX4_15 rfl rfl (by decide) (L' := yl_42) rfl dX4_init_17 (fun H locs X => ?_)
  refine lv_aload_n hx hb dX4_init_20 rfl (lv_at hl 0 rfl) ?_
  refine lv_sipush (v := (400 : Int32)) hx hb dX4_init_21 (by decide) ?_
  obtain ⟨S_3, eS_3, h⟩ := ltm_s h
  refine y_newI E X (L' := yl_43) (k := 23) ac_I rfl rfl rfl rfl (by decide) (by decide) rfl dX4_init_24 (fun H X => ?_)
  rw [← eS_3] at X
  refine y_putr E hin X frX4_18 rfl rfl (by decide) (L' := yl_44) rfl dX4_init_26 (fun H locs X => ?_)
  refine lv_aload_n hx hb dX4_init_29 rfl (lv_at hl 0 rfl) ?_
  refine lv_bipush (v := (40 : Int32)) hx hb dX4_init_30 (by decide) ?_
  obtain ⟨S_4, eS_4, h⟩ := ltm_s h
  refine y_newI E X (L' := yl_45) (k := 24) ac_I rfl rfl rfl rfl (by decide) (by decide) rfl dX4_init_32 (fun H X => ?_)
  rw [← eS_4] at X
  refine y_putr E hin X frX4_21 rfl rfl (by decide) (L' := yl_46) rfl dX4_init_34 (fun H locs X => ?_)
  exact y_vret E X h dX4_init_37
/-- SevenToAShadow$Rules.<init>()V -/
theorem mX4_init_20 (l : Launch) (B : Nat) (Z : XG) (hB : ∀ k, Z.2.1 k = B + k) {S S' : Mem} {r : Int32} (h : fX4_init_20 S = some (r, S')) : XMc l yX4_init cX4_init 1 { frames := 1, cells := 4, slots := 472, locals := 12 } B yl_38 yl_46 Z [.ref (Z.2.1 20)] S S' 4 472 := by
  refine XMc.of (own := RX4) (by decide +kernel) rfl rfl rfl hB (fun p e s m args below meth c E hin ls hl X => ?_)
  exact wX4_init_20 E hin S h _ _ _ X hl
def fJ7_fill_yl_47_5_b (k0 : Mem → Int32 → Int32 → Int32 → O) (S : Mem) (x1 x2 x3 : Int32) : O := (if x3 ≤ x2 then some ((0 : Int32), S) else gd (inB x2 10) <| ltm (mset S 17 (x2).toNatClampNeg x1) fun S_3 => k0 S_3 x1 (x2 + (1 : Int32)) x3)
def fJ7_fill_yl_47_5 : Nat → Mem → Int32 → Int32 → Int32 → O
  | 0 => fun _ _ _ _ => none
  | n + 1 => fJ7_fill_yl_47_5_b (fJ7_fill_yl_47_5 n)
def fJ7_fill_yl_47 (S : Mem) (x1 : Int32) : O := fJ7_fill_yl_47_5  FU S x1 (0 : Int32) (10 : Int32)
set_option maxRecDepth 20000 in
theorem wJ7_fill_yl_47_5_b {p : Program} {l : Launch} {e : Env} {s : State} {m : MethodId} {args : Array Value} {below : List Frame} {meth : Method} {c : Code} {Z : XG} {r : Int32} {S' : Mem} (E : XE p s m args meth c cJ7_fill_53178 4 RJ7 none yl_47 Z) (k0 : Mem → Int32 → Int32 → Int32 → O)  (hk0 : ∀ (S : Mem) (x1 x2 x3 : Int32), k0 S x1 x2 x3 = some (r, S') → WN p l e { frames := 0, cells := 0, slots := 0, locals := 0 } s m args below meth c yl_47 Z (XV yl_47 Z S') S 5 4 [(0, .ref (Z.2.1 17)), (1, .int x1), (2, .int x2), (3, .int x3)] []) : ∀ (S : Mem) (x1 x2 x3 : Int32), fJ7_fill_yl_47_5_b k0 S x1 x2 x3 = some (r, S') → WN p l e { frames := 0, cells := 0, slots := 0, locals := 0 } s m args below meth c yl_47 Z (XV yl_47 Z S') S 5 4 [(0, .ref (Z.2.1 17)), (1, .int x1), (2, .int x2), (3, .int x3)] [] := by
  obtain ⟨hx, hb, -, -, -, -, -, -, -, hQ⟩ := id E
  intro S x1 x2 x3 h H locs ls X hl
  unfold fJ7_fill_yl_47_5_b at h
  refine lv_iload_n hx hb dJ7_fill_53178_5 rfl (lv_at hl 2 rfl) ?_
  refine lv_iload_n hx hb dJ7_fill_53178_6 rfl (lv_at hl 3 rfl) ?_
  refine lv_icmp_ge (tgt := 20) hx hb dJ7_fill_53178_7 (by decide) (fun c_1 => ?_) (fun c_1 => ?_)
  · have h := if_t c_1 h
    exact x_vret E X h dJ7_fill_53178_20
  · have h := if_f c_1 h
    refine lv_aload_n hx hb dJ7_fill_53178_10 rfl (lv_at hl 0 rfl) ?_
    refine lv_iload_n hx hb dJ7_fill_53178_11 rfl (lv_at hl 2 rfl) ?_
    refine lv_iload_n hx hb dJ7_fill_53178_12 rfl (lv_at hl 1 rfl) ?_
    obtain ⟨g_2, h⟩ := gd_s h
    obtain ⟨S_3, eS_3, h⟩ := ltm_s h
    refine x_iast E X rfl g_2 dJ7_fill_53178_13 (fun H locs X => ?_)
    rw [← eS_3] at X
    refine lv_iinc (v := (x2 + (1 : Int32))) (lv' := [(2, .int (x2 + (1 : Int32))), (0, .ref (Z.2.1 17)), (1, .int x1), (3, .int x3)]) hx hb dJ7_fill_53178_14 hl (k := 2) rfl rfl (by decide) rfl (fun ls hl => ?_)
    refine lv_goto (tgt := 5) hx hb dJ7_fill_53178_17 (by decide) ?_
    exact hk0 S_3 x1 (x2 + (1 : Int32)) x3 h _ _ _ X (lv_sub hl [1, 2, 0, 3] rfl)
theorem wJ7_fill_yl_47_5 {p : Program} {l : Launch} {e : Env} {s : State} {m : MethodId} {args : Array Value} {below : List Frame} {meth : Method} {c : Code} {Z : XG} {r : Int32} {S' : Mem} (E : XE p s m args meth c cJ7_fill_53178 4 RJ7 none yl_47 Z) : ∀ (n : Nat) (S : Mem) (x1 x2 x3 : Int32), fJ7_fill_yl_47_5 n S x1 x2 x3 = some (r, S') → WN p l e { frames := 0, cells := 0, slots := 0, locals := 0 } s m args below meth c yl_47 Z (XV yl_47 Z S') S 5 4 [(0, .ref (Z.2.1 17)), (1, .int x1), (2, .int x2), (3, .int x3)] [] := by
  intro n
  induction n with
  | zero => intro S x1 x2 x3 h; exact absurd (show (none : O) = some _ from h) (by simp)
  | succ n ih => intro S x1 x2 x3 h; exact wJ7_fill_yl_47_5_b E (fJ7_fill_yl_47_5 n) ih S x1 x2 x3 h
set_option maxRecDepth 20000 in
theorem wJ7_fill_yl_47 {p : Program} {l : Launch} {e : Env} {s : State} {m : MethodId} {args : Array Value} {below : List Frame} {meth : Method} {c : Code} {Z : XG} {r : Int32} {S' : Mem} (E : XE p s m args meth c cJ7_fill_53178 4 RJ7 none yl_47 Z) : ∀ (S : Mem) (x1 : Int32), fJ7_fill_yl_47  S x1 = some (r, S') → WN p l e { frames := 0, cells := 0, slots := 0, locals := 0 } s m args below meth c yl_47 Z (XV yl_47 Z S') S 0 4 [(0, .ref (Z.2.1 17)), (1, .int x1)] [] := by
  obtain ⟨hx, hb, -, -, -, -, -, -, -, hQ⟩ := id E
  intro S x1 h H locs ls X hl
  unfold fJ7_fill_yl_47 at h
  refine lv_iconst (v := (0 : Int32)) hx hb dJ7_fill_53178_0 (by decide) ?_
  refine lv_istore_n (lv' := [(2, .int (0 : Int32)), (0, .ref (Z.2.1 17)), (1, .int x1)]) hx hb dJ7_fill_53178_1 rfl hl (by decide) rfl (fun ls hl => ?_)
  refine lv_aload_n hx hb dJ7_fill_53178_2 rfl (lv_at hl 1 rfl) ?_
  refine x_alen E X (v := (10 : Int32)) rfl (by decide) dJ7_fill_53178_3 ?_
  refine lv_istore_n (lv' := [(3, .int (10 : Int32)), (2, .int (0 : Int32)), (0, .ref (Z.2.1 17)), (1, .int x1)]) hx hb dJ7_fill_53178_4 rfl hl (by decide) rfl (fun ls hl => ?_)
  exact wJ7_fill_yl_47_5 E   FU S x1 (0 : Int32) (10 : Int32) h _ _ _ X (lv_sub hl [2, 3, 1, 0] rfl)
/-- java/util/Arrays.fill([II)V -/
theorem mJ7_fill_yl_47 (l : Launch) (Z : XG) (hQ : wQ (List.length yl_47) Z) {S S' : Mem} {r : Int32} (x1 : Int32) (h : fJ7_fill_yl_47 S x1 = some (r, S')) : XM l yJ7_fill_53178 cJ7_fill_53178 4 none { frames := 0, cells := 0, slots := 0, locals := 0 } yl_47 Z [.ref (Z.2.1 17), .int x1] S (XV yl_47 Z S') := by
  refine XM.of (own := RJ7) (by decide +kernel) rfl rfl hQ (fun p e s m args below meth c E ls hl X => ?_)
  exact wJ7_fill_yl_47 E S x1 h _ _ _ X hl
def fX6_init_13_65_b (k0 : Mem → Int32 → O) (S : Mem) (x1 : Int32) : O := (if (12 : Int32) ≤ x1 then bnd (fJ7_fill_yl_47 S (-1 : Int32)) fun _ S_3 => some ((0 : Int32), S_3) else lti (x1 * (5 : Int32)) fun x2_4 => gd (inB x1 (List.length st_FIRST_SUNS)) <| gd (inB (x2_4 + (0 : Int32)) 60) <| ltm (mset S 14 ((x2_4 + (0 : Int32))).toNatClampNeg (st_FIRST_SUNS.getD (x1).toNatClampNeg 0)) fun S_8 => gd (inB x1 (List.length st_FIRST_ALTITUDES)) <| gd (inB (x2_4 + (1 : Int32)) 60) <| ltm (mset S_8 14 ((x2_4 + (1 : Int32))).toNatClampNeg (st_FIRST_ALTITUDES.getD (x1).toNatClampNeg 0)) fun S_12 => gd (inB x1 (List.length st_FIRST_ALTITUDES)) <| gd (inB (x2_4 + (2 : Int32)) 60) <| ltm (mset S_12 14 ((x2_4 + (2 : Int32))).toNatClampNeg ((st_FIRST_ALTITUDES.getD (x1).toNatClampNeg 0) + (1 : Int32))) fun S_16 => k0 S_16 (x1 + (1 : Int32)))
def fX6_init_13_65 : Nat → Mem → Int32 → O
  | 0 => fun _ _ => none
  | n + 1 => fX6_init_13_65_b (fX6_init_13_65 n)
def fX6_init_13 (S : Mem) : O := ltm (mput S 14 (fun _ => 0)) fun S_1 => ltm (mput S_1 15 (fun _ => 0)) fun S_2 => ltm (mput S_2 16 (fun _ => 0)) fun S_3 => ltm (mput S_3 17 (fun _ => 0)) fun S_4 => ltm (mput S_4 18 (fun _ => 0)) fun S_5 => bnd (fX0_init_18 S_5) fun _ S_7 => ltm (mput S_7 20 (fun _ => 0)) fun S_8 => bnd (fX4_init_20 S_8) fun _ S_10 => ltm (mset S_10 13 11 (5 : Int32)) fun S_11 => fX6_init_13_65  FU S_11 (0 : Int32)
set_option maxRecDepth 20000 in
theorem wX6_init_13_65_b {p : Program} {l : Launch} {e : Env} {s : State} {m : MethodId} {args : Array Value} {below : List Frame} {meth : Method} {c : Code} {B : Nat} {Z : XG} {r : Int32} {S' : Mem} (E : XEc p s m args meth c cX6_init 3 RX6 none B 14 Z) (hin : meth.name = "<init>") (k0 : Mem → Int32 → O)  (hk0 : ∀ (S : Mem) (x1 : Int32), k0 S x1 = some (r, S') → WNc p l e { frames := 2, cells := 11, slots := 1460, locals := 32 } s m args below meth c B yl_47 Z (MQ below (XVc B yl_47 Z S') args s 11 1460 (cA B)) S 65 3 11 1460 [(0, .ref (Z.2.1 13)), (1, .int x1)] []) : ∀ (S : Mem) (x1 : Int32), fX6_init_13_65_b k0 S x1 = some (r, S') → WNc p l e { frames := 2, cells := 11, slots := 1460, locals := 32 } s m args below meth c B yl_47 Z (MQ below (XVc B yl_47 Z S') args s 11 1460 (cA B)) S 65 3 11 1460 [(0, .ref (Z.2.1 13)), (1, .int x1)] [] := by
  obtain ⟨hx, hb, -, -, -, -, -, -, -, hB, -⟩ := id E
  intro S x1 h H locs ls X hl
  unfold fX6_init_13_65_b at h
  refine lv_iload_n hx hb dX6_init_65 rfl (lv_at hl 1 rfl) ?_
  refine lv_bipush (v := (12 : Int32)) hx hb dX6_init_66 (by decide) ?_
  refine lv_icmp_ge (tgt := 122) hx hb dX6_init_68 (by decide) (fun c_1 => ?_) (fun c_1 => ?_)
  · have h := if_t c_1 h
    refine lv_aload_n hx hb dX6_init_122 rfl (lv_at hl 0 rfl) ?_
    refine y_getr E X ffX6_21 rfl rfl (by decide) dX6_init_123 ?_
    refine lv_iconst (v := (-1 : Int32)) hx hb dX6_init_126 (by decide) ?_
    obtain ⟨r_2, S_3, hr_2, h⟩ := bnd_s h
    refine y_callSv E X cwX6_48 (mJ7_fill_yl_47 l Z (wQ_B hB) (-1 : Int32) hr_2) rfl rfl hl.1 rfl dX6_init_127 (fun H locs X => ?_)
    exact y_vret E X h dX6_init_130
  · have h := if_f c_1 h
    refine lv_iload_n hx hb dX6_init_71 rfl (lv_at hl 1 rfl) ?_
    refine lv_iconst (v := (5 : Int32)) hx hb dX6_init_72 (by decide) ?_
    refine lv_imul hx hb dX6_init_73 ?_
    obtain ⟨x2_4, ex2_4, h⟩ := lti_s h
    refine lv_nm ex2_4 ?_
    refine lv_istore_n (lv' := [(2, .int x2_4), (0, .ref (Z.2.1 13)), (1, .int x1)]) hx hb dX6_init_74 rfl hl (by decide) rfl (fun ls hl => ?_)
    refine lv_aload_n hx hb dX6_init_75 rfl (lv_at hl 1 rfl) ?_
    refine y_getr E X ffX6_9 rfl rfl (by decide) dX6_init_76 ?_
    refine lv_iload_n hx hb dX6_init_79 rfl (lv_at hl 0 rfl) ?_
    refine lv_iconst (v := (0 : Int32)) hx hb dX6_init_80 (by decide) ?_
    refine lv_iadd hx hb dX6_init_81 ?_
    obtain ⟨t_5, hZt_5, hTt_5⟩ := E.2.2.2.2.2.2.2.2.1.2.1
    refine y_getsN E X (host := "SevenToAShadow") hZt_5 (by decide +kernel) dX6_init_82 ?_
    refine lv_iload_n hx hb dX6_init_85 rfl (lv_at hl 2 rfl) ?_
    obtain ⟨g_6, h⟩ := gd_s h
    refine y_ti E X hTt_5 g_6 dX6_init_86 ?_
    obtain ⟨g_7, h⟩ := gd_s h
    obtain ⟨S_8, eS_8, h⟩ := ltm_s h
    refine y_iast E X rfl g_7 dX6_init_87 (fun H locs X => ?_)
    rw [← eS_8] at X
    refine lv_aload_n hx hb dX6_init_88 rfl (lv_at hl 1 rfl) ?_
    refine y_getr E X ffX6_9 rfl rfl (by decide) dX6_init_89 ?_
    refine lv_iload_n hx hb dX6_init_92 rfl (lv_at hl 0 rfl) ?_
    refine lv_iconst (v := (1 : Int32)) hx hb dX6_init_93 (by decide) ?_
    refine lv_iadd hx hb dX6_init_94 ?_
    obtain ⟨t_9, hZt_9, hTt_9⟩ := E.2.2.2.2.2.2.2.2.1.2.2.1
    refine y_getsN E X (host := "SevenToAShadow") hZt_9 (by decide +kernel) dX6_init_95 ?_
    refine lv_iload_n hx hb dX6_init_98 rfl (lv_at hl 2 rfl) ?_
    obtain ⟨g_10, h⟩ := gd_s h
    refine y_ti E X hTt_9 g_10 dX6_init_99 ?_
    obtain ⟨g_11, h⟩ := gd_s h
    obtain ⟨S_12, eS_12, h⟩ := ltm_s h
    refine y_iast E X rfl g_11 dX6_init_100 (fun H locs X => ?_)
    rw [← eS_12] at X
    refine lv_aload_n hx hb dX6_init_101 rfl (lv_at hl 1 rfl) ?_
    refine y_getr E X ffX6_9 rfl rfl (by decide) dX6_init_102 ?_
    refine lv_iload_n hx hb dX6_init_105 rfl (lv_at hl 0 rfl) ?_
    refine lv_iconst (v := (2 : Int32)) hx hb dX6_init_106 (by decide) ?_
    refine lv_iadd hx hb dX6_init_107 ?_
    obtain ⟨t_13, hZt_13, hTt_13⟩ := E.2.2.2.2.2.2.2.2.1.2.2.1
    refine y_getsN E X (host := "SevenToAShadow") hZt_13 (by decide +kernel) dX6_init_108 ?_
    refine lv_iload_n hx hb dX6_init_111 rfl (lv_at hl 2 rfl) ?_
    obtain ⟨g_14, h⟩ := gd_s h
    refine y_ti E X hTt_13 g_14 dX6_init_112 ?_
    refine lv_iconst (v := (1 : Int32)) hx hb dX6_init_113 (by decide) ?_
    refine lv_iadd hx hb dX6_init_114 ?_
    obtain ⟨g_15, h⟩ := gd_s h
    obtain ⟨S_16, eS_16, h⟩ := ltm_s h
    refine y_iast E X rfl g_15 dX6_init_115 (fun H locs X => ?_)
    rw [← eS_16] at X
    refine lv_iinc (v := (x1 + (1 : Int32))) (lv' := [(1, .int (x1 + (1 : Int32))), (2, .int x2_4), (0, .ref (Z.2.1 13))]) hx hb dX6_init_116 hl (k := 2) rfl rfl (by decide) rfl (fun ls hl => ?_)
    refine lv_goto (tgt := 65) hx hb dX6_init_119 (by decide) ?_
    exact hk0 S_16 (x1 + (1 : Int32)) h _ _ _ X (lv_sub hl [2, 0] rfl)
theorem wX6_init_13_65 {p : Program} {l : Launch} {e : Env} {s : State} {m : MethodId} {args : Array Value} {below : List Frame} {meth : Method} {c : Code} {B : Nat} {Z : XG} {r : Int32} {S' : Mem} (E : XEc p s m args meth c cX6_init 3 RX6 none B 14 Z) (hin : meth.name = "<init>") : ∀ (n : Nat) (S : Mem) (x1 : Int32), fX6_init_13_65 n S x1 = some (r, S') → WNc p l e { frames := 2, cells := 11, slots := 1460, locals := 32 } s m args below meth c B yl_47 Z (MQ below (XVc B yl_47 Z S') args s 11 1460 (cA B)) S 65 3 11 1460 [(0, .ref (Z.2.1 13)), (1, .int x1)] [] := by
  intro n
  induction n with
  | zero => intro S x1 h; exact absurd (show (none : O) = some _ from h) (by simp)
  | succ n ih => intro S x1 h; exact wX6_init_13_65_b E hin (fX6_init_13_65 n) ih S x1 h
set_option maxRecDepth 20000 in
theorem wX6_init_13 {p : Program} {l : Launch} {e : Env} {s : State} {m : MethodId} {args : Array Value} {below : List Frame} {meth : Method} {c : Code} {B : Nat} {Z : XG} {r : Int32} {S' : Mem} (E : XEc p s m args meth c cX6_init 3 RX6 none B 14 Z) (hin : meth.name = "<init>") : ∀ (S : Mem), fX6_init_13  S  = some (r, S') → WNc p l e { frames := 2, cells := 11, slots := 1460, locals := 32 } s m args below meth c B yl_25 Z (MQ below (XVc B yl_47 Z S') args s 11 1460 (cA B)) S 0 3 0 0 [(0, .ref (Z.2.1 13))] [] := by
  obtain ⟨hx, hb, -, -, -, -, -, -, -, hB, -⟩ := id E
  intro S  h H locs ls X hl
  unfold fX6_init_13 at h
  refine lv_aload_n hx hb dX6_init_0 rfl (lv_at hl 0 rfl) ?_
  refine y_objInit E oiX6_3 hl.1 rfl dX6_init_1 ?_
  refine lv_aload_n hx hb dX6_init_4 rfl (lv_at hl 0 rfl) ?_
  refine lv_bipush (v := (60 : Int32)) hx hb dX6_init_5 (by decide) ?_
  obtain ⟨S_1, eS_1, h⟩ := ltm_s h
  refine y_newI E X (L' := yl_26) (k := 14) ac_I rfl rfl rfl rfl (by decide) (by decide) rfl dX6_init_7 (fun H X => ?_)
  rw [← eS_1] at X
  refine y_putr E hin X frX6_9 rfl rfl (by decide) (L' := yl_27) rfl dX6_init_9 (fun H locs X => ?_)
  refine lv_aload_n hx hb dX6_init_12 rfl (lv_at hl 0 rfl) ?_
  refine lv_bipush (v := (100 : Int32)) hx hb dX6_init_13 (by decide) ?_
  obtain ⟨S_2, eS_2, h⟩ := ltm_s h
  refine y_newI E X (L' := yl_28) (k := 15) ac_I rfl rfl rfl rfl (by decide) (by decide) rfl dX6_init_15 (fun H X => ?_)
  rw [← eS_2] at X
  refine y_putr E hin X frX6_15 rfl rfl (by decide) (L' := yl_29) rfl dX6_init_17 (fun H locs X => ?_)
  refine lv_aload_n hx hb dX6_init_20 rfl (lv_at hl 0 rfl) ?_
  refine lv_bipush (v := (10 : Int32)) hx hb dX6_init_21 (by decide) ?_
  obtain ⟨S_3, eS_3, h⟩ := ltm_s h
  refine y_newI E X (L' := yl_30) (k := 16) ac_I rfl rfl rfl rfl (by decide) (by decide) rfl dX6_init_23 (fun H X => ?_)
  rw [← eS_3] at X
  refine y_putr E hin X frX6_18 rfl rfl (by decide) (L' := yl_31) rfl dX6_init_25 (fun H locs X => ?_)
  refine lv_aload_n hx hb dX6_init_28 rfl (lv_at hl 0 rfl) ?_
  refine lv_bipush (v := (10 : Int32)) hx hb dX6_init_29 (by decide) ?_
  obtain ⟨S_4, eS_4, h⟩ := ltm_s h
  refine y_newI E X (L' := yl_32) (k := 17) ac_I rfl rfl rfl rfl (by decide) (by decide) rfl dX6_init_31 (fun H X => ?_)
  rw [← eS_4] at X
  refine y_putr E hin X frX6_21 rfl rfl (by decide) (L' := yl_33) rfl dX6_init_33 (fun H locs X => ?_)
  refine lv_aload_n hx hb dX6_init_36 rfl (lv_at hl 0 rfl) ?_
  obtain ⟨S_5, eS_5, h⟩ := ltm_s h
  refine y_newo E X (L' := yl_34) (k := 18) nwX6_24 rfl rfl rfl rfl rfl dX6_init_37 (fun H X => ?_)
  rw [← eS_5] at X
  refine lv_dup hx hb dX6_init_40 rfl ?_
  obtain ⟨r_6, S_7, hr_6, h⟩ := bnd_s h
  refine y_callIN E X (L' := yl_36) ciX6_26 (mX0_init_18 l B Z hB hr_6) rfl rfl rfl rfl hl.1 rfl dX6_init_41 (fun H locs X => ?_)
  refine y_putr E hin X frX6_27 rfl rfl (by decide) (L' := yl_37) rfl dX6_init_44 (fun H locs X => ?_)
  refine lv_aload_n hx hb dX6_init_47 rfl (lv_at hl 0 rfl) ?_
  obtain ⟨S_8, eS_8, h⟩ := ltm_s h
  refine y_newo E X (L' := yl_38) (k := 20) nwX6_31 rfl rfl rfl rfl rfl dX6_init_48 (fun H X => ?_)
  rw [← eS_8] at X
  refine lv_dup hx hb dX6_init_51 rfl ?_
  obtain ⟨r_9, S_10, hr_9, h⟩ := bnd_s h
  refine y_callIN E X (L' := yl_46) ciX6_33 (mX4_init_20 l B Z hB hr_9) rfl rfl rfl rfl hl.1 rfl dX6_init_52 (fun H locs X => ?_)
  refine y_putr E hin X frX6_34 rfl rfl (by decide) (L' := yl_47) rfl dX6_init_55 (fun H locs X => ?_)
  refine lv_aload_n hx hb dX6_init_58 rfl (lv_at hl 0 rfl) ?_
  refine lv_iconst (v := (5 : Int32)) hx hb dX6_init_59 (by decide) ?_
  obtain ⟨S_11, eS_11, h⟩ := ltm_s h
  refine y_put E X fpX6_38 rfl rfl dX6_init_60 (fun H locs X => ?_)
  rw [← eS_11] at X
  refine lv_iconst (v := (0 : Int32)) hx hb dX6_init_63 (by decide) ?_
  refine lv_istore_n (lv' := [(1, .int (0 : Int32)), (0, .ref (Z.2.1 13))]) hx hb dX6_init_64 rfl hl (by decide) rfl (fun ls hl => ?_)
  exact wX6_init_13_65 E hin   FU S_11 (0 : Int32) h _ _ _ X (lv_sub hl [1, 0] rfl)
/-- SevenToAShadow$World.<init>()V -/
theorem mX6_init_13 (l : Launch) (B : Nat) (Z : XG) (hB : ∀ k, Z.2.1 k = B + k) {S S' : Mem} {r : Int32} (h : fX6_init_13 S = some (r, S')) : XMc l yX6_init cX6_init 3 { frames := 2, cells := 11, slots := 1460, locals := 32 } B yl_25 yl_47 Z [.ref (Z.2.1 13)] S S' 11 1460 := by
  refine XMc.of (own := RX6) (by decide +kernel) rfl rfl rfl hB (fun p e s m args below meth c E hin ls hl X => ?_)
  exact wX6_init_13 E hin S h _ _ _ X hl
def fX2_init_25 (S : Mem) : O := ltm (mput S 26 (fun _ => 0)) fun S_1 => ltm (mput S_1 27 (fun _ => 0)) fun S_2 => ltm (mput S_2 28 (fun _ => 0)) fun S_3 => ltm (mput S_3 29 (fun _ => 0)) fun S_4 => some ((0 : Int32), S_4)
theorem dX2_init_0 : decode cX2_init 0 = .ok (.aload_n 0, 1) := by decide +kernel
theorem dX2_init_1 : decode cX2_init 1 = .ok (.invokespecial 3, 3) := by decide +kernel
theorem dX2_init_4 : decode cX2_init 4 = .ok (.aload_n 0, 1) := by decide +kernel
theorem dX2_init_5 : decode cX2_init 5 = .ok (.sipush 1200, 3) := by decide +kernel
theorem dX2_init_8 : decode cX2_init 8 = .ok (.newarray .int, 2) := by decide +kernel
theorem dX2_init_10 : decode cX2_init 10 = .ok (.putfield 9, 3) := by decide +kernel
theorem dX2_init_13 : decode cX2_init 13 = .ok (.aload_n 0, 1) := by decide +kernel
theorem dX2_init_14 : decode cX2_init 14 = .ok (.bipush 12, 2) := by decide +kernel
theorem dX2_init_16 : decode cX2_init 16 = .ok (.newarray .int, 2) := by decide +kernel
theorem dX2_init_18 : decode cX2_init 18 = .ok (.putfield 15, 3) := by decide +kernel
theorem dX2_init_21 : decode cX2_init 21 = .ok (.aload_n 0, 1) := by decide +kernel
theorem dX2_init_22 : decode cX2_init 22 = .ok (.bipush 12, 2) := by decide +kernel
theorem dX2_init_24 : decode cX2_init 24 = .ok (.newarray .int, 2) := by decide +kernel
theorem dX2_init_26 : decode cX2_init 26 = .ok (.putfield 18, 3) := by decide +kernel
theorem dX2_init_29 : decode cX2_init 29 = .ok (.aload_n 0, 1) := by decide +kernel
theorem dX2_init_30 : decode cX2_init 30 = .ok (.bipush 12, 2) := by decide +kernel
theorem dX2_init_32 : decode cX2_init 32 = .ok (.newarray .int, 2) := by decide +kernel
theorem dX2_init_34 : decode cX2_init 34 = .ok (.putfield 21, 3) := by decide +kernel
theorem dX2_init_37 : decode cX2_init 37 = .ok (.return_, 1) := by decide +kernel
set_option maxRecDepth 20000 in
theorem wX2_init_25 {p : Program} {l : Launch} {e : Env} {s : State} {m : MethodId} {args : Array Value} {below : List Frame} {meth : Method} {c : Code} {B : Nat} {Z : XG} {r : Int32} {S' : Mem} (E : XEc p s m args meth c cX2_init 1 RX2 none B 26 Z) (hin : meth.name = "<init>") : ∀ (S : Mem), fX2_init_25  S  = some (r, S') → WNc p l e { frames := 1, cells := 4, slots := 1236, locals := 12 } s m args below meth c B yl_49 Z (MQ below (XVc B yl_57 Z S') args s 4 1236 (cA B)) S 0 1 0 0 [(0, .ref (Z.2.1 25))] [] := by
  obtain ⟨hx, hb, -, -, -, -, -, -, -, hB, -⟩ := id E
  intro S  h H locs ls X hl
  unfold fX2_init_25 at h
  refine lv_aload_n hx hb dX2_init_0 rfl (lv_at hl 0 rfl) ?_
  refine y_objInit E oiX2_3 hl.1 rfl dX2_init_1 ?_
  refine lv_aload_n hx hb dX2_init_4 rfl (lv_at hl 0 rfl) ?_
  refine lv_sipush (v := (1200 : Int32)) hx hb dX2_init_5 (by decide) ?_
  obtain ⟨S_1, eS_1, h⟩ := ltm_s h
  refine y_newI E X (L' := yl_50) (k := 26) ac_I rfl rfl rfl rfl (by decide) (by decide) rfl dX2_init_8 (fun H X => ?_)
  rw [← eS_1] at X
  refine y_putr E hin X frX2_9 rfl rfl (by decide) (L' := yl_51) rfl dX2_init_10 (fun H locs X => ?_)
  refine lv_aload_n hx hb dX2_init_13 rfl (lv_at hl 0 rfl) ?_
  refine lv_bipush (v := (12 : Int32)) hx hb dX2_init_14 (by decide) ?_
  obtain ⟨S_2, eS_2, h⟩ := ltm_s h
  refine y_newI E X (L' := yl_52) (k := 27) ac_I rfl rfl rfl rfl (by decide) (by decide) rfl dX2_init_16 (fun H X => ?_)
  rw [← eS_2] at X
  refine y_putr E hin X frX2_15 rfl rfl (by decide) (L' := yl_53) rfl dX2_init_18 (fun H locs X => ?_)
  refine lv_aload_n hx hb dX2_init_21 rfl (lv_at hl 0 rfl) ?_
  refine lv_bipush (v := (12 : Int32)) hx hb dX2_init_22 (by decide) ?_
  obtain ⟨S_3, eS_3, h⟩ := ltm_s h
  refine y_newI E X (L' := yl_54) (k := 28) ac_I rfl rfl rfl rfl (by decide) (by decide) rfl dX2_init_24 (fun H X => ?_)
  rw [← eS_3] at X
  refine y_putr E hin X frX2_18 rfl rfl (by decide) (L' := yl_55) rfl dX2_init_26 (fun H locs X => ?_)
  refine lv_aload_n hx hb dX2_init_29 rfl (lv_at hl 0 rfl) ?_
  refine lv_bipush (v := (12 : Int32)) hx hb dX2_init_30 (by decide) ?_
  obtain ⟨S_4, eS_4, h⟩ := ltm_s h
  refine y_newI E X (L' := yl_56) (k := 29) ac_I rfl rfl rfl rfl (by decide) (by decide) rfl dX2_init_32 (fun H X => ?_)
  rw [← eS_4] at X
  refine y_putr E hin X frX2_21 rfl rfl (by decide) (L' := yl_57) rfl dX2_init_34 (fun H locs X => ?_)
  exact y_vret E X h dX2_init_37
/-- SevenToAShadow$Past.<init>()V -/
theorem mX2_init_25 (l : Launch) (B : Nat) (Z : XG) (hB : ∀ k, Z.2.1 k = B + k) {S S' : Mem} {r : Int32} (h : fX2_init_25 S = some (r, S')) : XMc l yX2_init cX2_init 1 { frames := 1, cells := 4, slots := 1236, locals := 12 } B yl_49 yl_57 Z [.ref (Z.2.1 25)] S S' 4 1236 := by
  refine XMc.of (own := RX2) (by decide +kernel) rfl rfl rfl hB (fun p e s m args below meth c E hin ls hl X => ?_)
  exact wX2_init_25 E hin S h _ _ _ X hl
def fX1_init_30_1 (S : Mem) : O := ltm (mput S 31 (fun _ => 0)) fun S_1 => some ((0 : Int32), S_1)
theorem dX1_init_0 : decode cX1_init 0 = .ok (.aload_n 0, 1) := by decide +kernel
theorem dX1_init_1 : decode cX1_init 1 = .ok (.invokespecial 3, 3) := by decide +kernel
theorem dX1_init_4 : decode cX1_init 4 = .ok (.aload_n 0, 1) := by decide +kernel
theorem dX1_init_5 : decode cX1_init 5 = .ok (.bipush 10, 2) := by decide +kernel
theorem dX1_init_7 : decode cX1_init 7 = .ok (.newarray .int, 2) := by decide +kernel
theorem dX1_init_9 : decode cX1_init 9 = .ok (.putfield 9, 3) := by decide +kernel
theorem dX1_init_12 : decode cX1_init 12 = .ok (.aload_n 0, 1) := by decide +kernel
theorem dX1_init_13 : decode cX1_init 13 = .ok (.aload_n 1, 1) := by decide +kernel
theorem dX1_init_14 : decode cX1_init 14 = .ok (.putfield 15, 3) := by decide +kernel
theorem dX1_init_17 : decode cX1_init 17 = .ok (.return_, 1) := by decide +kernel
set_option maxRecDepth 20000 in
theorem wX1_init_30_1 {p : Program} {l : Launch} {e : Env} {s : State} {m : MethodId} {args : Array Value} {below : List Frame} {meth : Method} {c : Code} {B : Nat} {Z : XG} {r : Int32} {S' : Mem} (E : XEc p s m args meth c cX1_init 2 RX1 none B 31 Z) (hin : meth.name = "<init>") : ∀ (S : Mem), fX1_init_30_1  S  = some (r, S') → WNc p l e { frames := 1, cells := 1, slots := 10, locals := 12 } s m args below meth c B yl_59 Z (MQ below (XVc B yl_62 Z S') args s 1 10 (cA B)) S 0 2 0 0 [(0, .ref (Z.2.1 30)), (1, .ref (Z.2.1 1))] [] := by
  obtain ⟨hx, hb, -, -, -, -, -, -, -, hB, -⟩ := id E
  intro S  h H locs ls X hl
  unfold fX1_init_30_1 at h
  refine lv_aload_n hx hb dX1_init_0 rfl (lv_at hl 0 rfl) ?_
  refine y_objInit E oiX1_3 hl.1 rfl dX1_init_1 ?_
  refine lv_aload_n hx hb dX1_init_4 rfl (lv_at hl 0 rfl) ?_
  refine lv_bipush (v := (10 : Int32)) hx hb dX1_init_5 (by decide) ?_
  obtain ⟨S_1, eS_1, h⟩ := ltm_s h
  refine y_newI E X (L' := yl_60) (k := 31) ac_I rfl rfl rfl rfl (by decide) (by decide) rfl dX1_init_7 (fun H X => ?_)
  rw [← eS_1] at X
  refine y_putr E hin X frX1_9 rfl rfl (by decide) (L' := yl_61) rfl dX1_init_9 (fun H locs X => ?_)
  refine lv_aload_n hx hb dX1_init_12 rfl (lv_at hl 0 rfl) ?_
  refine lv_aload_n hx hb dX1_init_13 rfl (lv_at hl 1 rfl) ?_
  refine y_putr E hin X frX1_15 rfl rfl (by decide) (L' := yl_62) rfl dX1_init_14 (fun H locs X => ?_)
  exact y_vret E X h dX1_init_17
/-- SevenToAShadow$March.<init>(LSevenToAShadow$World;)V -/
theorem mX1_init_30_1 (l : Launch) (B : Nat) (Z : XG) (hB : ∀ k, Z.2.1 k = B + k) {S S' : Mem} {r : Int32} (h : fX1_init_30_1 S = some (r, S')) : XMc l yX1_init cX1_init 2 { frames := 1, cells := 1, slots := 10, locals := 12 } B yl_59 yl_62 Z [.ref (Z.2.1 30), .ref (Z.2.1 1)] S S' 1 10 := by
  refine XMc.of (own := RX1) (by decide +kernel) rfl rfl rfl hB (fun p e s m args below meth c E hin ls hl X => ?_)
  exact wX1_init_30_1 E hin S h _ _ _ X hl
def fX5_init_32_1 (S : Mem) : O := ltm (mput S 33 (fun _ => 0)) fun S_1 => ltm (mput S_1 34 (fun _ => 0)) fun S_2 => ltm (mput S_2 35 (fun _ => 0)) fun S_3 => ltm (mput S_3 36 (fun _ => 0)) fun S_4 => ltm (mput S_4 37 (fun _ => 0)) fun S_5 => some ((0 : Int32), S_5)
theorem dX5_init_0 : decode cX5_init 0 = .ok (.aload_n 0, 1) := by decide +kernel
theorem dX5_init_1 : decode cX5_init 1 = .ok (.invokespecial 3, 3) := by decide +kernel
theorem dX5_init_4 : decode cX5_init 4 = .ok (.aload_n 0, 1) := by decide +kernel
theorem dX5_init_5 : decode cX5_init 5 = .ok (.bipush 25, 2) := by decide +kernel
theorem dX5_init_7 : decode cX5_init 7 = .ok (.newarray .int, 2) := by decide +kernel
theorem dX5_init_9 : decode cX5_init 9 = .ok (.putfield 9, 3) := by decide +kernel
theorem dX5_init_12 : decode cX5_init 12 = .ok (.aload_n 0, 1) := by decide +kernel
theorem dX5_init_13 : decode cX5_init 13 = .ok (.bipush 10, 2) := by decide +kernel
theorem dX5_init_15 : decode cX5_init 15 = .ok (.newarray .int, 2) := by decide +kernel
theorem dX5_init_17 : decode cX5_init 17 = .ok (.putfield 15, 3) := by decide +kernel
theorem dX5_init_20 : decode cX5_init 20 = .ok (.aload_n 0, 1) := by decide +kernel
theorem dX5_init_21 : decode cX5_init 21 = .ok (.bipush 12, 2) := by decide +kernel
theorem dX5_init_23 : decode cX5_init 23 = .ok (.newarray .int, 2) := by decide +kernel
theorem dX5_init_25 : decode cX5_init 25 = .ok (.putfield 18, 3) := by decide +kernel
theorem dX5_init_28 : decode cX5_init 28 = .ok (.aload_n 0, 1) := by decide +kernel
theorem dX5_init_29 : decode cX5_init 29 = .ok (.bipush 120, 2) := by decide +kernel
theorem dX5_init_31 : decode cX5_init 31 = .ok (.newarray .int, 2) := by decide +kernel
theorem dX5_init_33 : decode cX5_init 33 = .ok (.putfield 21, 3) := by decide +kernel
theorem dX5_init_36 : decode cX5_init 36 = .ok (.aload_n 0, 1) := by decide +kernel
theorem dX5_init_37 : decode cX5_init 37 = .ok (.bipush 10, 2) := by decide +kernel
theorem dX5_init_39 : decode cX5_init 39 = .ok (.newarray .int, 2) := by decide +kernel
theorem dX5_init_41 : decode cX5_init 41 = .ok (.putfield 24, 3) := by decide +kernel
theorem dX5_init_44 : decode cX5_init 44 = .ok (.aload_n 0, 1) := by decide +kernel
theorem dX5_init_45 : decode cX5_init 45 = .ok (.aload_n 1, 1) := by decide +kernel
theorem dX5_init_46 : decode cX5_init 46 = .ok (.putfield 27, 3) := by decide +kernel
theorem dX5_init_49 : decode cX5_init 49 = .ok (.return_, 1) := by decide +kernel
set_option maxRecDepth 20000 in
theorem wX5_init_32_1 {p : Program} {l : Launch} {e : Env} {s : State} {m : MethodId} {args : Array Value} {below : List Frame} {meth : Method} {c : Code} {B : Nat} {Z : XG} {r : Int32} {S' : Mem} (E : XEc p s m args meth c cX5_init 2 RX5 none B 33 Z) (hin : meth.name = "<init>") : ∀ (S : Mem), fX5_init_32_1  S  = some (r, S') → WNc p l e { frames := 1, cells := 5, slots := 177, locals := 12 } s m args below meth c B yl_64 Z (MQ below (XVc B yl_75 Z S') args s 5 177 (cA B)) S 0 2 0 0 [(0, .ref (Z.2.1 32)), (1, .ref (Z.2.1 1))] [] := by
  obtain ⟨hx, hb, -, -, -, -, -, -, -, hB, -⟩ := id E
  intro S  h H locs ls X hl
  unfold fX5_init_32_1 at h
  refine lv_aload_n hx hb dX5_init_0 rfl (lv_at hl 0 rfl) ?_
  refine y_objInit E oiX5_3 hl.1 rfl dX5_init_1 ?_
  refine lv_aload_n hx hb dX5_init_4 rfl (lv_at hl 0 rfl) ?_
  refine lv_bipush (v := (25 : Int32)) hx hb dX5_init_5 (by decide) ?_
  obtain ⟨S_1, eS_1, h⟩ := ltm_s h
  refine y_newI E X (L' := yl_65) (k := 33) ac_I rfl rfl rfl rfl (by decide) (by decide) rfl dX5_init_7 (fun H X => ?_)
  rw [← eS_1] at X
  refine y_putr E hin X frX5_9 rfl rfl (by decide) (L' := yl_66) rfl dX5_init_9 (fun H locs X => ?_)
  refine lv_aload_n hx hb dX5_init_12 rfl (lv_at hl 0 rfl) ?_
  refine lv_bipush (v := (10 : Int32)) hx hb dX5_init_13 (by decide) ?_
  obtain ⟨S_2, eS_2, h⟩ := ltm_s h
  refine y_newI E X (L' := yl_67) (k := 34) ac_I rfl rfl rfl rfl (by decide) (by decide) rfl dX5_init_15 (fun H X => ?_)
  rw [← eS_2] at X
  refine y_putr E hin X frX5_15 rfl rfl (by decide) (L' := yl_68) rfl dX5_init_17 (fun H locs X => ?_)
  refine lv_aload_n hx hb dX5_init_20 rfl (lv_at hl 0 rfl) ?_
  refine lv_bipush (v := (12 : Int32)) hx hb dX5_init_21 (by decide) ?_
  obtain ⟨S_3, eS_3, h⟩ := ltm_s h
  refine y_newI E X (L' := yl_69) (k := 35) ac_I rfl rfl rfl rfl (by decide) (by decide) rfl dX5_init_23 (fun H X => ?_)
  rw [← eS_3] at X
  refine y_putr E hin X frX5_18 rfl rfl (by decide) (L' := yl_70) rfl dX5_init_25 (fun H locs X => ?_)
  refine lv_aload_n hx hb dX5_init_28 rfl (lv_at hl 0 rfl) ?_
  refine lv_bipush (v := (120 : Int32)) hx hb dX5_init_29 (by decide) ?_
  obtain ⟨S_4, eS_4, h⟩ := ltm_s h
  refine y_newI E X (L' := yl_71) (k := 36) ac_I rfl rfl rfl rfl (by decide) (by decide) rfl dX5_init_31 (fun H X => ?_)
  rw [← eS_4] at X
  refine y_putr E hin X frX5_21 rfl rfl (by decide) (L' := yl_72) rfl dX5_init_33 (fun H locs X => ?_)
  refine lv_aload_n hx hb dX5_init_36 rfl (lv_at hl 0 rfl) ?_
  refine lv_bipush (v := (10 : Int32)) hx hb dX5_init_37 (by decide) ?_
  obtain ⟨S_5, eS_5, h⟩ := ltm_s h
  refine y_newI E X (L' := yl_73) (k := 37) ac_I rfl rfl rfl rfl (by decide) (by decide) rfl dX5_init_39 (fun H X => ?_)
  rw [← eS_5] at X
  refine y_putr E hin X frX5_24 rfl rfl (by decide) (L' := yl_74) rfl dX5_init_41 (fun H locs X => ?_)
  refine lv_aload_n hx hb dX5_init_44 rfl (lv_at hl 0 rfl) ?_
  refine lv_aload_n hx hb dX5_init_45 rfl (lv_at hl 1 rfl) ?_
  refine y_putr E hin X frX5_27 rfl rfl (by decide) (L' := yl_75) rfl dX5_init_46 (fun H locs X => ?_)
  exact y_vret E X h dX5_init_49
/-- SevenToAShadow$Thought.<init>(LSevenToAShadow$World;)V -/
theorem mX5_init_32_1 (l : Launch) (B : Nat) (Z : XG) (hB : ∀ k, Z.2.1 k = B + k) {S S' : Mem} {r : Int32} (h : fX5_init_32_1 S = some (r, S')) : XMc l yX5_init cX5_init 2 { frames := 1, cells := 5, slots := 177, locals := 12 } B yl_64 yl_75 Z [.ref (Z.2.1 32), .ref (Z.2.1 1)] S S' 5 177 := by
  refine XMc.of (own := RX5) (by decide +kernel) rfl rfl rfl hB (fun p e s m args below meth c E hin ls hl X => ?_)
  exact wX5_init_32_1 E hin S h _ _ _ X hl
def fX4_init_40 (S : Mem) : O := ltm (mput S 41 (fun _ => 0)) fun S_1 => ltm (mput S_1 42 (fun _ => 0)) fun S_2 => ltm (mput S_2 43 (fun _ => 0)) fun S_3 => ltm (mput S_3 44 (fun _ => 0)) fun S_4 => some ((0 : Int32), S_4)
set_option maxRecDepth 20000 in
theorem wX4_init_40 {p : Program} {l : Launch} {e : Env} {s : State} {m : MethodId} {args : Array Value} {below : List Frame} {meth : Method} {c : Code} {B : Nat} {Z : XG} {r : Int32} {S' : Mem} (E : XEc p s m args meth c cX4_init 1 RX4 none B 41 Z) (hin : meth.name = "<init>") : ∀ (S : Mem), fX4_init_40  S  = some (r, S') → WNc p l e { frames := 1, cells := 4, slots := 472, locals := 12 } s m args below meth c B yl_80 Z (MQ below (XVc B yl_88 Z S') args s 4 472 (cA B)) S 0 1 0 0 [(0, .ref (Z.2.1 40))] [] := by
  obtain ⟨hx, hb, -, -, -, -, -, -, -, hB, -⟩ := id E
  intro S  h H locs ls X hl
  unfold fX4_init_40 at h
  refine lv_aload_n hx hb dX4_init_0 rfl (lv_at hl 0 rfl) ?_
  refine y_objInit E oiX4_3 hl.1 rfl dX4_init_1 ?_
  refine lv_aload_n hx hb dX4_init_4 rfl (lv_at hl 0 rfl) ?_
  refine lv_bipush (v := (16 : Int32)) hx hb dX4_init_5 (by decide) ?_
  obtain ⟨S_1, eS_1, h⟩ := ltm_s h
  refine y_newI E X (L' := yl_81) (k := 41) ac_I rfl rfl rfl rfl (by decide) (by decide) rfl dX4_init_7 (fun H X => ?_)
  rw [← eS_1] at X
  refine y_putr E hin X frX4_9 rfl rfl (by decide) (L' := yl_82) rfl dX4_init_9 (fun H locs X => ?_)
  refine lv_aload_n hx hb dX4_init_12 rfl (lv_at hl 0 rfl) ?_
  refine lv_bipush (v := (16 : Int32)) hx hb dX4_init_13 (by decide) ?_
  obtain ⟨S_2, eS_2, h⟩ := ltm_s h
  refine y_newI E X (L' := yl_83) (k := 42) ac_I rfl rfl rfl rfl (by decide) (by decide) rfl dX4_init_15 (fun H X => ?_)
  rw [← eS_2] at X
  refine y_putr E hin X frX4_15 rfl rfl (by decide) (L' := yl_84) rfl dX4_init_17 (fun H locs X => ?_)
  refine lv_aload_n hx hb dX4_init_20 rfl (lv_at hl 0 rfl) ?_
  refine lv_sipush (v := (400 : Int32)) hx hb dX4_init_21 (by decide) ?_
  obtain ⟨S_3, eS_3, h⟩ := ltm_s h
  refine y_newI E X (L' := yl_85) (k := 43) ac_I rfl rfl rfl rfl (by decide) (by decide) rfl dX4_init_24 (fun H X => ?_)
  rw [← eS_3] at X
  refine y_putr E hin X frX4_18 rfl rfl (by decide) (L' := yl_86) rfl dX4_init_26 (fun H locs X => ?_)
  refine lv_aload_n hx hb dX4_init_29 rfl (lv_at hl 0 rfl) ?_
  refine lv_bipush (v := (40 : Int32)) hx hb dX4_init_30 (by decide) ?_
  obtain ⟨S_4, eS_4, h⟩ := ltm_s h
  refine y_newI E X (L' := yl_87) (k := 44) ac_I rfl rfl rfl rfl (by decide) (by decide) rfl dX4_init_32 (fun H X => ?_)
  rw [← eS_4] at X
  refine y_putr E hin X frX4_21 rfl rfl (by decide) (L' := yl_88) rfl dX4_init_34 (fun H locs X => ?_)
  exact y_vret E X h dX4_init_37
/-- SevenToAShadow$Rules.<init>()V -/
theorem mX4_init_40 (l : Launch) (B : Nat) (Z : XG) (hB : ∀ k, Z.2.1 k = B + k) {S S' : Mem} {r : Int32} (h : fX4_init_40 S = some (r, S')) : XMc l yX4_init cX4_init 1 { frames := 1, cells := 4, slots := 472, locals := 12 } B yl_80 yl_88 Z [.ref (Z.2.1 40)] S S' 4 472 := by
  refine XMc.of (own := RX4) (by decide +kernel) rfl rfl rfl hB (fun p e s m args below meth c E hin ls hl X => ?_)
  exact wX4_init_40 E hin S h _ _ _ X hl
def fX3_init_38 (S : Mem) : O := ltm (mput S 39 (fun _ => 0)) fun S_1 => ltm (mset S_1 38 3 (-1 : Int32)) fun S_2 => ltm (mput S_2 40 (fun _ => 0)) fun S_3 => bnd (fX4_init_40 S_3) fun _ S_5 => ltm (mput S_5 45 (fun _ => 0)) fun S_6 => some ((0 : Int32), S_6)
theorem dX3_init_0 : decode cX3_init 0 = .ok (.aload_n 0, 1) := by decide +kernel
theorem dX3_init_1 : decode cX3_init 1 = .ok (.invokespecial 3, 3) := by decide +kernel
theorem dX3_init_4 : decode cX3_init 4 = .ok (.aload_n 0, 1) := by decide +kernel
theorem dX3_init_5 : decode cX3_init 5 = .ok (.sipush 400, 3) := by decide +kernel
theorem dX3_init_8 : decode cX3_init 8 = .ok (.newarray .byte, 2) := by decide +kernel
theorem dX3_init_10 : decode cX3_init 10 = .ok (.putfield 9, 3) := by decide +kernel
theorem dX3_init_13 : decode cX3_init 13 = .ok (.aload_n 0, 1) := by decide +kernel
theorem dX3_init_14 : decode cX3_init 14 = .ok (.iconst (-1), 1) := by decide +kernel
theorem dX3_init_15 : decode cX3_init 15 = .ok (.putfield 15, 3) := by decide +kernel
theorem dX3_init_18 : decode cX3_init 18 = .ok (.aload_n 0, 1) := by decide +kernel
theorem dX3_init_19 : decode cX3_init 19 = .ok (.new 19, 3) := by decide +kernel
theorem dX3_init_22 : decode cX3_init 22 = .ok (.dup, 1) := by decide +kernel
theorem dX3_init_23 : decode cX3_init 23 = .ok (.invokespecial 21, 3) := by decide +kernel
theorem dX3_init_26 : decode cX3_init 26 = .ok (.putfield 22, 3) := by decide +kernel
theorem dX3_init_29 : decode cX3_init 29 = .ok (.aload_n 0, 1) := by decide +kernel
theorem dX3_init_30 : decode cX3_init 30 = .ok (.bipush 40, 2) := by decide +kernel
theorem dX3_init_32 : decode cX3_init 32 = .ok (.newarray .int, 2) := by decide +kernel
theorem dX3_init_34 : decode cX3_init 34 = .ok (.putfield 26, 3) := by decide +kernel
theorem dX3_init_37 : decode cX3_init 37 = .ok (.return_, 1) := by decide +kernel
set_option maxRecDepth 20000 in
theorem wX3_init_38 {p : Program} {l : Launch} {e : Env} {s : State} {m : MethodId} {args : Array Value} {below : List Frame} {meth : Method} {c : Code} {B : Nat} {Z : XG} {r : Int32} {S' : Mem} (E : XEc p s m args meth c cX3_init 1 RX3 none B 39 Z) (hin : meth.name = "<init>") : ∀ (S : Mem), fX3_init_38  S  = some (r, S') → WNc p l e { frames := 2, cells := 7, slots := 918, locals := 32 } s m args below meth c B yl_77 Z (MQ below (XVc B yl_91 Z S') args s 7 918 (cA B)) S 0 1 0 0 [(0, .ref (Z.2.1 38))] [] := by
  obtain ⟨hx, hb, -, -, -, -, -, -, -, hB, -⟩ := id E
  intro S  h H locs ls X hl
  unfold fX3_init_38 at h
  refine lv_aload_n hx hb dX3_init_0 rfl (lv_at hl 0 rfl) ?_
  refine y_objInit E oiX3_3 hl.1 rfl dX3_init_1 ?_
  refine lv_aload_n hx hb dX3_init_4 rfl (lv_at hl 0 rfl) ?_
  refine lv_sipush (v := (400 : Int32)) hx hb dX3_init_5 (by decide) ?_
  obtain ⟨S_1, eS_1, h⟩ := ltm_s h
  refine y_newB E X (L' := yl_78) (k := 39) ac_B rfl rfl rfl rfl (by decide) (by decide) rfl dX3_init_8 (fun H X => ?_)
  rw [← eS_1] at X
  refine y_putr E hin X frX3_9 rfl rfl (by decide) (L' := yl_79) rfl dX3_init_10 (fun H locs X => ?_)
  refine lv_aload_n hx hb dX3_init_13 rfl (lv_at hl 0 rfl) ?_
  refine lv_iconst (v := (-1 : Int32)) hx hb dX3_init_14 (by decide) ?_
  obtain ⟨S_2, eS_2, h⟩ := ltm_s h
  refine y_put E X fpX3_15 rfl rfl dX3_init_15 (fun H locs X => ?_)
  rw [← eS_2] at X
  refine lv_aload_n hx hb dX3_init_18 rfl (lv_at hl 0 rfl) ?_
  obtain ⟨S_3, eS_3, h⟩ := ltm_s h
  refine y_newo E X (L' := yl_80) (k := 40) nwX3_19 rfl rfl rfl rfl rfl dX3_init_19 (fun H X => ?_)
  rw [← eS_3] at X
  refine lv_dup hx hb dX3_init_22 rfl ?_
  obtain ⟨r_4, S_5, hr_4, h⟩ := bnd_s h
  refine y_callIN E X (L' := yl_88) ciX3_21 (mX4_init_40 l B Z hB hr_4) rfl rfl rfl rfl hl.1 rfl dX3_init_23 (fun H locs X => ?_)
  refine y_putr E hin X frX3_22 rfl rfl (by decide) (L' := yl_89) rfl dX3_init_26 (fun H locs X => ?_)
  refine lv_aload_n hx hb dX3_init_29 rfl (lv_at hl 0 rfl) ?_
  refine lv_bipush (v := (40 : Int32)) hx hb dX3_init_30 (by decide) ?_
  obtain ⟨S_6, eS_6, h⟩ := ltm_s h
  refine y_newI E X (L' := yl_90) (k := 45) ac_I rfl rfl rfl rfl (by decide) (by decide) rfl dX3_init_32 (fun H X => ?_)
  rw [← eS_6] at X
  refine y_putr E hin X frX3_26 rfl rfl (by decide) (L' := yl_91) rfl dX3_init_34 (fun H locs X => ?_)
  exact y_vret E X h dX3_init_37
/-- SevenToAShadow$Reader.<init>()V -/
theorem mX3_init_38 (l : Launch) (B : Nat) (Z : XG) (hB : ∀ k, Z.2.1 k = B + k) {S S' : Mem} {r : Int32} (h : fX3_init_38 S = some (r, S')) : XMc l yX3_init cX3_init 1 { frames := 2, cells := 7, slots := 918, locals := 32 } B yl_77 yl_91 Z [.ref (Z.2.1 38)] S S' 7 918 := by
  refine XMc.of (own := RX3) (by decide +kernel) rfl rfl rfl hB (fun p e s m args below meth c E hin ls hl X => ?_)
  exact wX3_init_38 E hin S h _ _ _ X hl
def fX7_init_0 (S : Mem) : O := ltm (mput S 1 (fun _ => 0)) fun S_1 => bnd (fX6_init_1 S_1) fun _ S_3 => ltm (mput S_3 13 (fun _ => 0)) fun S_4 => bnd (fX6_init_13 S_4) fun _ S_6 => ltm (mput S_6 25 (fun _ => 0)) fun S_7 => bnd (fX2_init_25 S_7) fun _ S_9 => ltm (mput S_9 30 (fun _ => 0)) fun S_10 => bnd (fX1_init_30_1 S_10) fun _ S_12 => ltm (mput S_12 32 (fun _ => 0)) fun S_13 => bnd (fX5_init_32_1 S_13) fun _ S_15 => ltm (mput S_15 38 (fun _ => 0)) fun S_16 => bnd (fX3_init_38 S_16) fun _ S_18 => some ((0 : Int32), S_18)
theorem dX7_init_0 : decode cX7_init 0 = .ok (.aload_n 0, 1) := by decide +kernel
theorem dX7_init_1 : decode cX7_init 1 = .ok (.invokespecial 3, 3) := by decide +kernel
theorem dX7_init_4 : decode cX7_init 4 = .ok (.aload_n 0, 1) := by decide +kernel
theorem dX7_init_5 : decode cX7_init 5 = .ok (.new 9, 3) := by decide +kernel
theorem dX7_init_8 : decode cX7_init 8 = .ok (.dup, 1) := by decide +kernel
theorem dX7_init_9 : decode cX7_init 9 = .ok (.invokespecial 11, 3) := by decide +kernel
theorem dX7_init_12 : decode cX7_init 12 = .ok (.putfield 12, 3) := by decide +kernel
theorem dX7_init_15 : decode cX7_init 15 = .ok (.aload_n 0, 1) := by decide +kernel
theorem dX7_init_16 : decode cX7_init 16 = .ok (.new 9, 3) := by decide +kernel
theorem dX7_init_19 : decode cX7_init 19 = .ok (.dup, 1) := by decide +kernel
theorem dX7_init_20 : decode cX7_init 20 = .ok (.invokespecial 11, 3) := by decide +kernel
theorem dX7_init_23 : decode cX7_init 23 = .ok (.putfield 16, 3) := by decide +kernel
theorem dX7_init_26 : decode cX7_init 26 = .ok (.aload_n 0, 1) := by decide +kernel
theorem dX7_init_27 : decode cX7_init 27 = .ok (.new 19, 3) := by decide +kernel
theorem dX7_init_30 : decode cX7_init 30 = .ok (.dup, 1) := by decide +kernel
theorem dX7_init_31 : decode cX7_init 31 = .ok (.invokespecial 21, 3) := by decide +kernel
theorem dX7_init_34 : decode cX7_init 34 = .ok (.putfield 22, 3) := by decide +kernel
theorem dX7_init_37 : decode cX7_init 37 = .ok (.aload_n 0, 1) := by decide +kernel
theorem dX7_init_38 : decode cX7_init 38 = .ok (.new 26, 3) := by decide +kernel
theorem dX7_init_41 : decode cX7_init 41 = .ok (.dup, 1) := by decide +kernel
theorem dX7_init_42 : decode cX7_init 42 = .ok (.aload_n 0, 1) := by decide +kernel
theorem dX7_init_43 : decode cX7_init 43 = .ok (.getfield 12, 3) := by decide +kernel
theorem dX7_init_46 : decode cX7_init 46 = .ok (.invokespecial 28, 3) := by decide +kernel
theorem dX7_init_49 : decode cX7_init 49 = .ok (.putfield 31, 3) := by decide +kernel
theorem dX7_init_52 : decode cX7_init 52 = .ok (.aload_n 0, 1) := by decide +kernel
theorem dX7_init_53 : decode cX7_init 53 = .ok (.new 35, 3) := by decide +kernel
theorem dX7_init_56 : decode cX7_init 56 = .ok (.dup, 1) := by decide +kernel
theorem dX7_init_57 : decode cX7_init 57 = .ok (.aload_n 0, 1) := by decide +kernel
theorem dX7_init_58 : decode cX7_init 58 = .ok (.getfield 12, 3) := by decide +kernel
theorem dX7_init_61 : decode cX7_init 61 = .ok (.invokespecial 37, 3) := by decide +kernel
theorem dX7_init_64 : decode cX7_init 64 = .ok (.putfield 38, 3) := by decide +kernel
theorem dX7_init_67 : decode cX7_init 67 = .ok (.aload_n 0, 1) := by decide +kernel
theorem dX7_init_68 : decode cX7_init 68 = .ok (.new 42, 3) := by decide +kernel
theorem dX7_init_71 : decode cX7_init 71 = .ok (.dup, 1) := by decide +kernel
theorem dX7_init_72 : decode cX7_init 72 = .ok (.invokespecial 44, 3) := by decide +kernel
theorem dX7_init_75 : decode cX7_init 75 = .ok (.putfield 45, 3) := by decide +kernel
theorem dX7_init_78 : decode cX7_init 78 = .ok (.return_, 1) := by decide +kernel
set_option maxRecDepth 20000 in
theorem wX7_init_0 {p : Program} {l : Launch} {e : Env} {s : State} {m : MethodId} {args : Array Value} {below : List Frame} {meth : Method} {c : Code} {B : Nat} {Z : XG} {r : Int32} {S' : Mem} (E : XEc p s m args meth c cX7_init 1 RX7 none B 1 Z) (hin : meth.name = "<init>") : ∀ (S : Mem), fX7_init_0  S  = some (r, S') → WNc p l e { frames := 3, cells := 45, slots := 5320, locals := 54 } s m args below meth c B yl_0 Z (MQ below (XVc B yl_92 Z S') args s 45 5320 (cA B)) S 0 1 0 0 [(0, .ref (Z.2.1 0))] [] := by
  obtain ⟨hx, hb, -, -, -, -, -, -, -, hB, -⟩ := id E
  intro S  h H locs ls X hl
  unfold fX7_init_0 at h
  refine lv_aload_n hx hb dX7_init_0 rfl (lv_at hl 0 rfl) ?_
  refine y_objInit E oiX7_3 hl.1 rfl dX7_init_1 ?_
  refine lv_aload_n hx hb dX7_init_4 rfl (lv_at hl 0 rfl) ?_
  obtain ⟨S_1, eS_1, h⟩ := ltm_s h
  refine y_newo E X (L' := yl_1) (k := 1) nwX7_9 rfl rfl rfl rfl rfl dX7_init_5 (fun H X => ?_)
  rw [← eS_1] at X
  refine lv_dup hx hb dX7_init_8 rfl ?_
  obtain ⟨r_2, S_3, hr_2, h⟩ := bnd_s h
  refine y_callI E X (L' := yl_23) ciX7_11 (mX6_init_1 l B Z hB hr_2) rfl rfl rfl rfl hl.1 rfl dX7_init_9 (fun H locs X => ?_)
  refine y_putr E hin X frX7_12 rfl rfl (by decide) (L' := yl_24) rfl dX7_init_12 (fun H locs X => ?_)
  refine lv_aload_n hx hb dX7_init_15 rfl (lv_at hl 0 rfl) ?_
  obtain ⟨S_4, eS_4, h⟩ := ltm_s h
  refine y_newo E X (L' := yl_25) (k := 13) nwX7_9 rfl rfl rfl rfl rfl dX7_init_16 (fun H X => ?_)
  rw [← eS_4] at X
  refine lv_dup hx hb dX7_init_19 rfl ?_
  obtain ⟨r_5, S_6, hr_5, h⟩ := bnd_s h
  refine y_callI E X (L' := yl_47) ciX7_11 (mX6_init_13 l B Z hB hr_5) rfl rfl rfl rfl hl.1 rfl dX7_init_20 (fun H locs X => ?_)
  refine y_putr E hin X frX7_16 rfl rfl (by decide) (L' := yl_48) rfl dX7_init_23 (fun H locs X => ?_)
  refine lv_aload_n hx hb dX7_init_26 rfl (lv_at hl 0 rfl) ?_
  obtain ⟨S_7, eS_7, h⟩ := ltm_s h
  refine y_newo E X (L' := yl_49) (k := 25) nwX7_19 rfl rfl rfl rfl rfl dX7_init_27 (fun H X => ?_)
  rw [← eS_7] at X
  refine lv_dup hx hb dX7_init_30 rfl ?_
  obtain ⟨r_8, S_9, hr_8, h⟩ := bnd_s h
  refine y_callIN E X (L' := yl_57) ciX7_21 (mX2_init_25 l B Z hB hr_8) rfl rfl rfl rfl hl.1 rfl dX7_init_31 (fun H locs X => ?_)
  refine y_putr E hin X frX7_22 rfl rfl (by decide) (L' := yl_58) rfl dX7_init_34 (fun H locs X => ?_)
  refine lv_aload_n hx hb dX7_init_37 rfl (lv_at hl 0 rfl) ?_
  obtain ⟨S_10, eS_10, h⟩ := ltm_s h
  refine y_newo E X (L' := yl_59) (k := 30) nwX7_26 rfl rfl rfl rfl rfl dX7_init_38 (fun H X => ?_)
  rw [← eS_10] at X
  refine lv_dup hx hb dX7_init_41 rfl ?_
  refine lv_aload_n hx hb dX7_init_42 rfl (lv_at hl 0 rfl) ?_
  refine y_getr E X ffX7_12 rfl rfl (by decide) dX7_init_43 ?_
  obtain ⟨r_11, S_12, hr_11, h⟩ := bnd_s h
  refine y_callI E X (L' := yl_62) ciX7_28 (mX1_init_30_1 l B Z hB hr_11) rfl rfl rfl rfl hl.1 rfl dX7_init_46 (fun H locs X => ?_)
  refine y_putr E hin X frX7_31 rfl rfl (by decide) (L' := yl_63) rfl dX7_init_49 (fun H locs X => ?_)
  refine lv_aload_n hx hb dX7_init_52 rfl (lv_at hl 0 rfl) ?_
  obtain ⟨S_13, eS_13, h⟩ := ltm_s h
  refine y_newo E X (L' := yl_64) (k := 32) nwX7_35 rfl rfl rfl rfl rfl dX7_init_53 (fun H X => ?_)
  rw [← eS_13] at X
  refine lv_dup hx hb dX7_init_56 rfl ?_
  refine lv_aload_n hx hb dX7_init_57 rfl (lv_at hl 0 rfl) ?_
  refine y_getr E X ffX7_12 rfl rfl (by decide) dX7_init_58 ?_
  obtain ⟨r_14, S_15, hr_14, h⟩ := bnd_s h
  refine y_callI E X (L' := yl_75) ciX7_37 (mX5_init_32_1 l B Z hB hr_14) rfl rfl rfl rfl hl.1 rfl dX7_init_61 (fun H locs X => ?_)
  refine y_putr E hin X frX7_38 rfl rfl (by decide) (L' := yl_76) rfl dX7_init_64 (fun H locs X => ?_)
  refine lv_aload_n hx hb dX7_init_67 rfl (lv_at hl 0 rfl) ?_
  obtain ⟨S_16, eS_16, h⟩ := ltm_s h
  refine y_newo E X (L' := yl_77) (k := 38) nwX7_42 rfl rfl rfl rfl rfl dX7_init_68 (fun H X => ?_)
  rw [← eS_16] at X
  refine lv_dup hx hb dX7_init_71 rfl ?_
  obtain ⟨r_17, S_18, hr_17, h⟩ := bnd_s h
  refine y_callIN E X (L' := yl_91) ciX7_44 (mX3_init_38 l B Z hB hr_17) rfl rfl rfl rfl hl.1 rfl dX7_init_72 (fun H locs X => ?_)
  refine y_putr E hin X frX7_45 rfl rfl (by decide) (L' := yl_92) rfl dX7_init_75 (fun H locs X => ?_)
  exact y_vret E X h dX7_init_78
/-- SevenToAShadow.<init>()V -/
theorem mX7_init_0 (l : Launch) (B : Nat) (Z : XG) (hB : ∀ k, Z.2.1 k = B + k) {S S' : Mem} {r : Int32} (h : fX7_init_0 S = some (r, S')) : XMc l yX7_init cX7_init 1 { frames := 3, cells := 45, slots := 5320, locals := 54 } B yl_0 yl_92 Z [.ref (Z.2.1 0)] S S' 45 5320 := by
  refine XMc.of (own := RX7) (by decide +kernel) rfl rfl rfl hB (fun p e s m args below meth c E hin ls hl X => ?_)
  exact wX7_init_0 E hin S h _ _ _ X hl
