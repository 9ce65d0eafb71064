def xL : Lay := [.inr (7, [some 1, some 13, none, some 25, some 30, some 32, some 38]), .inr (6, [some 2, some 3, some 4, some 5, some 6, some 8, none, none, none, none, none, none, none]), .inl (60, false), .inl (100, false), .inl (10, false), .inl (10, false), .inr (0, [some 7, none]), .inl (800, false), .inr (4, [some 9, some 10, some 11, some 12, none, none]), .inl (16, false), .inl (16, false), .inl (400, false), .inl (40, false), .inr (6, [some 14, some 15, some 16, some 17, some 18, some 20, none, none, none, none, none, none, none]), .inl (60, false), .inl (100, false), .inl (10, false), .inl (10, false), .inr (0, [some 19, none]), .inl (800, false), .inr (4, [some 21, some 22, some 23, some 24, none, none]), .inl (16, false), .inl (16, false), .inl (400, false), .inl (40, false), .inr (2, [some 26, some 27, some 28, some 29, none]), .inl (1200, false), .inl (12, false), .inl (12, false), .inl (12, false), .inr (1, [some 1, some 31]), .inl (10, false), .inr (5, [some 1, some 33, some 34, some 35, some 36, some 37, none, none, none, none]), .inl (25, false), .inl (10, false), .inl (12, false), .inl (120, false), .inl (10, false), .inr (3, [some 39, none, none, none, some 40, none, none, none, none, none, none, none, some 45, none, none, none]), .inl (400, true), .inr (4, [some 41, some 42, some 43, some 44, none, none]), .inl (16, false), .inl (16, false), .inl (400, false), .inl (40, false), .inl (40, false)]
def mL : Lay := [.inr (8, [none, some 1, some 2, none, some 3, some 4, none, some 5, some 6, some 7, none, none, some 8, some 9, some 10, some 11, none, none, none, none, none, some 12, none, some 13, some 14, some 15, some 16, some 17, none, none, some 18, none, none, none, none, none, some 19, some 20, some 21, some 22, some 23, none, none, some 24, some 25, none, none, none, some 26]), .inl (55, false), .inl (660, false), .inl (60, false), .inl (2, false), .inl (10, false), .inl (10, false), .inl (10, false), .inl (10, false), .inl (800, false), .inl (10, false), .inl (400, false), .inl (94, false), .inl (32, false), .inl (32, false), .inl (32, false), .inl (800, false), .inl (800, false), .inl (40, false), .inl (10, false), .inl (420, false), .inl (25, false), .inl (25, false), .inl (10, false), .inl (2197, false), .inl (10, false), .inl (1900, false)]
def fX6_isPilgrim (S : Mem) (x1 : Int32) : O := (if x1 < 0 then some ((0 : Int32), S) else (if (S 1 9) ≤ x1 then some ((0 : Int32), S) else some ((1 : Int32), S)))
def fX6_has (S : Mem) (x1 x2 : Int32) : O := bnd (fX6_isPilgrim S x1) fun r_1 S_2 => (if r_1 = 0 then some ((-1 : Int32), S_2) else (if x2 < 0 then some ((-1 : Int32), S_2) else (if x2 < (10 : Int32) then gd (inB ((x1 * (10 : Int32)) + x2) 100) <| some ((S_2 3 (((x1 * (10 : Int32)) + x2)).toNatClampNeg), S_2) else some ((-1 : Int32), S_2))))
def fX6_put (S : Mem) (x1 x2 x3 : Int32) : O := bnd (fX6_isPilgrim S x1) fun r_1 S_2 => (if r_1 = 0 then some ((0 : Int32), S_2) else (if x2 < 0 then some ((0 : Int32), S_2) else (if (10 : Int32) ≤ x2 then some ((0 : Int32), S_2) else gd (inB ((x1 * (10 : Int32)) + x2) 100) <| ltm (mset S_2 3 (((x1 * (10 : Int32)) + x2)).toNatClampNeg x3) fun S_7 => some ((0 : Int32), S_7))))
def fX6_whoStandsAt_2_b (k0 : Mem → Int32 → Int32 → O) (S : Mem) (x1 x2 : Int32) : O := (if (S 1 9) ≤ x2 then some ((-1 : Int32), S) else bnd (fX6_has S x2 (0 : Int32)) fun r_2 S_3 => (if r_2 = x1 then some (x2, S_3) else k0 S_3 x1 (x2 + (1 : Int32))))
def fX6_whoStandsAt_2 : Nat → Mem → Int32 → Int32 → O
  | 0 => fun _ _ _ => none
  | n + 1 => fX6_whoStandsAt_2_b (fX6_whoStandsAt_2 n)
def fX6_whoStandsAt (S : Mem) (x1 : Int32) : O := fX6_whoStandsAt_2  FU S x1 (0 : Int32)
theorem ffX6_76 : FF RX6 76 6 9 := ⟨RX6, TX6, 13, rfl, inX6, by decide, gt_at 219 (by decide +kernel) (by decide +kernel)⟩
theorem cwX6_85 : CWV RX6 85 RX6 yX6_isPilgrim cX6_isPilgrim 2 (some .boolean) 1 := ⟨gt_at 454 (by decide +kernel) (by decide +kernel), gt_at 455 (by decide +kernel) (by decide +kernel), gt_at 456 (by decide +kernel) (by decide +kernel), gt_at 110 (by decide +kernel) (by decide +kernel), gt_at 457 rfl rfl, by decide +kernel⟩
theorem ffX6_15 : FF RX6 15 6 1 := ⟨RX6, TX6, 13, rfl, inX6, by decide, gt_at 193 (by decide +kernel) (by decide +kernel)⟩
theorem cwX6_89 : CWV RX6 89 RX6 yX6_has cX6_has 3 (some .int) 2 := ⟨gt_at 450 (by decide +kernel) (by decide +kernel), gt_at 451 (by decide +kernel) (by decide +kernel), gt_at 452 (by decide +kernel) (by decide +kernel), gt_at 110 (by decide +kernel) (by decide +kernel), gt_at 453 rfl rfl, by decide +kernel⟩
theorem dX6_isPilgrim_0 : decode cX6_isPilgrim 0 = .ok (.iload_n 1, 1) := by decide +kernel
theorem dX6_isPilgrim_1 : decode cX6_isPilgrim 1 = .ok (.ifCond .lt 15, 3) := by decide +kernel
theorem dX6_isPilgrim_4 : decode cX6_isPilgrim 4 = .ok (.iload_n 1, 1) := by decide +kernel
theorem dX6_isPilgrim_5 : decode cX6_isPilgrim 5 = .ok (.aload_n 0, 1) := by decide +kernel
theorem dX6_isPilgrim_6 : decode cX6_isPilgrim 6 = .ok (.getfield 76, 3) := by decide +kernel
theorem dX6_isPilgrim_9 : decode cX6_isPilgrim 9 = .ok (.if_icmp .ge 7, 3) := by decide +kernel
theorem dX6_isPilgrim_12 : decode cX6_isPilgrim 12 = .ok (.iconst 1, 1) := by decide +kernel
theorem dX6_isPilgrim_13 : decode cX6_isPilgrim 13 = .ok (.goto 4, 3) := by decide +kernel
theorem dX6_isPilgrim_16 : decode cX6_isPilgrim 16 = .ok (.iconst 0, 1) := by decide +kernel
theorem dX6_isPilgrim_17 : decode cX6_isPilgrim 17 = .ok (.ireturn, 1) := by decide +kernel
set_option maxRecDepth 20000 in
theorem wX6_isPilgrim {p : Program} {l : Launch} {e : Env} {s : State} {m : MethodId} {args : Array Value} {below : List Frame} {meth : Method} {c : Code} {Z : XG} {r : Int32} {S' : Mem} (E : XE p s m args meth c cX6_isPilgrim 2 RX6 (some .boolean) xL Z) : ∀ (S : Mem) (x1 : Int32), fX6_isPilgrim  S x1 = some (r, S') → WN p l e { frames := 0, cells := 0, slots := 0, locals := 0 } s m args below meth c xL Z (XQ xL Z r S') S 0 2 [(0, .ref (Z.2.1 1)), (1, .int x1)] [] := by
  obtain ⟨hx, hb, -, -, -, -, -, -, -, hQ⟩ := id E
  intro S x1 h H locs ls X hl
  unfold fX6_isPilgrim at h
  refine lv_iload_n hx hb dX6_isPilgrim_0 rfl (lv_at hl 1 rfl) ?_
  refine lv_if_lt (tgt := 16) hx hb dX6_isPilgrim_1 (by decide) (fun c_1 => ?_) (fun c_1 => ?_)
  · have h := if_t c_1 h
    refine lv_iconst (v := (0 : Int32)) hx hb dX6_isPilgrim_16 (by decide) ?_
    exact x_zret E X rfl h dX6_isPilgrim_17
  · have h := if_f c_1 h
    refine lv_iload_n hx hb dX6_isPilgrim_4 rfl (lv_at hl 1 rfl) ?_
    refine lv_aload_n hx hb dX6_isPilgrim_5 rfl (lv_at hl 0 rfl) ?_
    refine x_get E X ffX6_76 rfl rfl dX6_isPilgrim_6 ?_
    refine lv_icmp_ge (tgt := 16) hx hb dX6_isPilgrim_9 (by decide) (fun c_2 => ?_) (fun c_2 => ?_)
    · have h := if_t c_2 h
      refine lv_iconst (v := (0 : Int32)) hx hb dX6_isPilgrim_16 (by decide) ?_
      exact x_zret E X rfl h dX6_isPilgrim_17
    · have h := if_f c_2 h
      refine lv_iconst (v := (1 : Int32)) hx hb dX6_isPilgrim_12 (by decide) ?_
      refine lv_goto (tgt := 17) hx hb dX6_isPilgrim_13 (by decide) ?_
      exact x_zret E X rfl h dX6_isPilgrim_17
/-- SevenToAShadow$World.isPilgrim(I)Z -/
theorem mX6_isPilgrim (l : Launch) (Z : XG) (hQ : wQ (List.length xL) Z) {S S' : Mem} {r : Int32} (x1 : Int32) (h : fX6_isPilgrim S x1 = some (r, S')) : XM l yX6_isPilgrim cX6_isPilgrim 2 (some .boolean) { frames := 0, cells := 0, slots := 0, locals := 0 } xL Z [.ref (Z.2.1 1), .int x1] S (XQ xL Z r S') := by
  refine XM.of (own := RX6) (by decide +kernel) rfl rfl hQ (fun p e s m args below meth c E ls hl X => ?_)
  exact wX6_isPilgrim E S x1 h _ _ _ X hl
theorem dX6_has_0 : decode cX6_has 0 = .ok (.aload_n 0, 1) := by decide +kernel
theorem dX6_has_1 : decode cX6_has 1 = .ok (.iload_n 1, 1) := by decide +kernel
theorem dX6_has_2 : decode cX6_has 2 = .ok (.invokevirtual 85, 3) := by decide +kernel
theorem dX6_has_5 : decode cX6_has 5 = .ok (.ifCond .eq 13, 3) := by decide +kernel
theorem dX6_has_8 : decode cX6_has 8 = .ok (.iload_n 2, 1) := by decide +kernel
theorem dX6_has_9 : decode cX6_has 9 = .ok (.ifCond .lt 9, 3) := by decide +kernel
theorem dX6_has_12 : decode cX6_has 12 = .ok (.iload_n 2, 1) := by decide +kernel
theorem dX6_has_13 : decode cX6_has 13 = .ok (.bipush 10, 2) := by decide +kernel
theorem dX6_has_15 : decode cX6_has 15 = .ok (.if_icmp .lt 5, 3) := by decide +kernel
theorem dX6_has_18 : decode cX6_has 18 = .ok (.iconst (-1), 1) := by decide +kernel
theorem dX6_has_19 : decode cX6_has 19 = .ok (.ireturn, 1) := by decide +kernel
theorem dX6_has_20 : decode cX6_has 20 = .ok (.aload_n 0, 1) := by decide +kernel
theorem dX6_has_21 : decode cX6_has 21 = .ok (.getfield 15, 3) := by decide +kernel
theorem dX6_has_24 : decode cX6_has 24 = .ok (.iload_n 1, 1) := by decide +kernel
theorem dX6_has_25 : decode cX6_has 25 = .ok (.bipush 10, 2) := by decide +kernel
theorem dX6_has_27 : decode cX6_has 27 = .ok (.imul, 1) := by decide +kernel
theorem dX6_has_28 : decode cX6_has 28 = .ok (.iload_n 2, 1) := by decide +kernel
theorem dX6_has_29 : decode cX6_has 29 = .ok (.iadd, 1) := by decide +kernel
theorem dX6_has_30 : decode cX6_has 30 = .ok (.iaload, 1) := by decide +kernel
theorem dX6_has_31 : decode cX6_has 31 = .ok (.ireturn, 1) := by decide +kernel
set_option maxRecDepth 20000 in
theorem wX6_has {p : Program} {l : Launch} {e : Env} {s : State} {m : MethodId} {args : Array Value} {below : List Frame} {meth : Method} {c : Code} {Z : XG} {r : Int32} {S' : Mem} (E : XE p s m args meth c cX6_has 3 RX6 (some .int) xL Z) : ∀ (S : Mem) (x1 x2 : Int32), fX6_has  S x1 x2 = some (r, S') → WN p l e { frames := 1, cells := 0, slots := 0, locals := 21 } s m args below meth c xL Z (XQ xL Z r S') S 0 3 [(0, .ref (Z.2.1 1)), (1, .int x1), (2, .int x2)] [] := by
  obtain ⟨hx, hb, -, -, -, -, -, -, -, hQ⟩ := id E
  intro S x1 x2 h H locs ls X hl
  unfold fX6_has at h
  refine lv_aload_n hx hb dX6_has_0 rfl (lv_at hl 0 rfl) ?_
  refine lv_iload_n hx hb dX6_has_1 rfl (lv_at hl 1 rfl) ?_
  obtain ⟨r_1, S_2, hr_1, h⟩ := bnd_s h
  refine x_callV E X cwX6_85 (mX6_isPilgrim l Z hQ x1 hr_1) rfl rfl rfl rfl hl.1 rfl dX6_has_2 (fun H locs X => ?_)
  refine lv_if_eq (tgt := 18) hx hb dX6_has_5 (by decide) (fun c_3 => ?_) (fun c_3 => ?_)
  · have h := if_t c_3 h
    refine lv_iconst (v := (-1 : Int32)) hx hb dX6_has_18 (by decide) ?_
    exact x_iret E X h dX6_has_19
  · have h := if_f c_3 h
    refine lv_iload_n hx hb dX6_has_8 rfl (lv_at hl 2 rfl) ?_
    refine lv_if_lt (tgt := 18) hx hb dX6_has_9 (by decide) (fun c_4 => ?_) (fun c_4 => ?_)
    · have h := if_t c_4 h
      refine lv_iconst (v := (-1 : Int32)) hx hb dX6_has_18 (by decide) ?_
      exact x_iret E X h dX6_has_19
    · have h := if_f c_4 h
      refine lv_iload_n hx hb dX6_has_12 rfl (lv_at hl 2 rfl) ?_
      refine lv_bipush (v := (10 : Int32)) hx hb dX6_has_13 (by decide) ?_
      refine lv_icmp_lt (tgt := 20) hx hb dX6_has_15 (by decide) (fun c_5 => ?_) (fun c_5 => ?_)
      · have h := if_t c_5 h
        refine lv_aload_n hx hb dX6_has_20 rfl (lv_at hl 0 rfl) ?_
        refine x_getr E X ffX6_15 rfl rfl dX6_has_21 ?_
        refine lv_iload_n hx hb dX6_has_24 rfl (lv_at hl 1 rfl) ?_
        refine lv_bipush (v := (10 : Int32)) hx hb dX6_has_25 (by decide) ?_
        refine lv_imul hx hb dX6_has_27 ?_
        refine lv_iload_n hx hb dX6_has_28 rfl (lv_at hl 2 rfl) ?_
        refine lv_iadd hx hb dX6_has_29 ?_
        obtain ⟨g_6, h⟩ := gd_s h
        refine x_iald E X rfl g_6 dX6_has_30 ?_
        exact x_iret E X h dX6_has_31
      · have h := if_f c_5 h
        refine lv_iconst (v := (-1 : Int32)) hx hb dX6_has_18 (by decide) ?_
        exact x_iret E X h dX6_has_19
/-- SevenToAShadow$World.has(II)I -/
theorem mX6_has (l : Launch) (Z : XG) (hQ : wQ (List.length xL) Z) {S S' : Mem} {r : Int32} (x1 x2 : Int32) (h : fX6_has S x1 x2 = some (r, S')) : XM l yX6_has cX6_has 3 (some .int) { frames := 1, cells := 0, slots := 0, locals := 21 } xL Z [.ref (Z.2.1 1), .int x1, .int x2] S (XQ xL Z r S') := by
  refine XM.of (own := RX6) (by decide +kernel) rfl rfl hQ (fun p e s m args below meth c E ls hl X => ?_)
  exact wX6_has E S x1 x2 h _ _ _ X hl
theorem dX6_put_0 : decode cX6_put 0 = .ok (.aload_n 0, 1) := by decide +kernel
theorem dX6_put_1 : decode cX6_put 1 = .ok (.iload_n 1, 1) := by decide +kernel
theorem dX6_put_2 : decode cX6_put 2 = .ok (.invokevirtual 85, 3) := by decide +kernel
theorem dX6_put_5 : decode cX6_put 5 = .ok (.ifCond .eq 25, 3) := by decide +kernel
theorem dX6_put_8 : decode cX6_put 8 = .ok (.iload_n 2, 1) := by decide +kernel
theorem dX6_put_9 : decode cX6_put 9 = .ok (.ifCond .lt 21, 3) := by decide +kernel
theorem dX6_put_12 : decode cX6_put 12 = .ok (.iload_n 2, 1) := by decide +kernel
theorem dX6_put_13 : decode cX6_put 13 = .ok (.bipush 10, 2) := by decide +kernel
theorem dX6_put_15 : decode cX6_put 15 = .ok (.if_icmp .ge 15, 3) := by decide +kernel
theorem dX6_put_18 : decode cX6_put 18 = .ok (.aload_n 0, 1) := by decide +kernel
theorem dX6_put_19 : decode cX6_put 19 = .ok (.getfield 15, 3) := by decide +kernel
theorem dX6_put_22 : decode cX6_put 22 = .ok (.iload_n 1, 1) := by decide +kernel
theorem dX6_put_23 : decode cX6_put 23 = .ok (.bipush 10, 2) := by decide +kernel
theorem dX6_put_25 : decode cX6_put 25 = .ok (.imul, 1) := by decide +kernel
theorem dX6_put_26 : decode cX6_put 26 = .ok (.iload_n 2, 1) := by decide +kernel
theorem dX6_put_27 : decode cX6_put 27 = .ok (.iadd, 1) := by decide +kernel
theorem dX6_put_28 : decode cX6_put 28 = .ok (.iload_n 3, 1) := by decide +kernel
theorem dX6_put_29 : decode cX6_put 29 = .ok (.iastore, 1) := by decide +kernel
theorem dX6_put_30 : decode cX6_put 30 = .ok (.return_, 1) := by decide +kernel
set_option maxRecDepth 20000 in
theorem wX6_put {p : Program} {l : Launch} {e : Env} {s : State} {m : MethodId} {args : Array Value} {below : List Frame} {meth : Method} {c : Code} {Z : XG} {r : Int32} {S' : Mem} (E : XE p s m args meth c cX6_put 4 RX6 none xL Z) : ∀ (S : Mem) (x1 x2 x3 : Int32), fX6_put  S x1 x2 x3 = some (r, S') → WN p l e { frames := 1, cells := 0, slots := 0, locals := 21 } s m args below meth c xL Z (XV xL Z S') S 0 4 [(0, .ref (Z.2.1 1)), (1, .int x1), (2, .int x2), (3, .int x3)] [] := by
  obtain ⟨hx, hb, -, -, -, -, -, -, -, hQ⟩ := id E
  intro S x1 x2 x3 h H locs ls X hl
  unfold fX6_put at h
  refine lv_aload_n hx hb dX6_put_0 rfl (lv_at hl 0 rfl) ?_
  refine lv_iload_n hx hb dX6_put_1 rfl (lv_at hl 1 rfl) ?_
  obtain ⟨r_1, S_2, hr_1, h⟩ := bnd_s h
  refine x_callV E X cwX6_85 (mX6_isPilgrim l Z hQ x1 hr_1) rfl rfl rfl rfl hl.1 rfl dX6_put_2 (fun H locs X => ?_)
  refine lv_if_eq (tgt := 30) hx hb dX6_put_5 (by decide) (fun c_3 => ?_) (fun c_3 => ?_)
  · have h := if_t c_3 h
    exact x_vret E X h dX6_put_30
  · have h := if_f c_3 h
    refine lv_iload_n hx hb dX6_put_8 rfl (lv_at hl 2 rfl) ?_
    refine lv_if_lt (tgt := 30) hx hb dX6_put_9 (by decide) (fun c_4 => ?_) (fun c_4 => ?_)
    · have h := if_t c_4 h
      exact x_vret E X h dX6_put_30
    · have h := if_f c_4 h
      refine lv_iload_n hx hb dX6_put_12 rfl (lv_at hl 2 rfl) ?_
      refine lv_bipush (v := (10 : Int32)) hx hb dX6_put_13 (by decide) ?_
      refine lv_icmp_ge (tgt := 30) hx hb dX6_put_15 (by decide) (fun c_5 => ?_) (fun c_5 => ?_)
      · have h := if_t c_5 h
        exact x_vret E X h dX6_put_30
      · have h := if_f c_5 h
        refine lv_aload_n hx hb dX6_put_18 rfl (lv_at hl 0 rfl) ?_
        refine x_getr E X ffX6_15 rfl rfl dX6_put_19 ?_
        refine lv_iload_n hx hb dX6_put_22 rfl (lv_at hl 1 rfl) ?_
        refine lv_bipush (v := (10 : Int32)) hx hb dX6_put_23 (by decide) ?_
        refine lv_imul hx hb dX6_put_25 ?_
        refine lv_iload_n hx hb dX6_put_26 rfl (lv_at hl 2 rfl) ?_
        refine lv_iadd hx hb dX6_put_27 ?_
        refine lv_iload_n hx hb dX6_put_28 rfl (lv_at hl 3 rfl) ?_
        obtain ⟨g_6, h⟩ := gd_s h
        obtain ⟨S_7, eS_7, h⟩ := ltm_s h
        refine x_iast E X rfl g_6 dX6_put_29 (fun H locs X => ?_)
        rw [← eS_7] at X
        exact x_vret E X h dX6_put_30
/-- SevenToAShadow$World.put(III)V -/
theorem mX6_put (l : Launch) (Z : XG) (hQ : wQ (List.length xL) Z) {S S' : Mem} {r : Int32} (x1 x2 x3 : Int32) (h : fX6_put S x1 x2 x3 = some (r, S')) : XM l yX6_put cX6_put 4 none { frames := 1, cells := 0, slots := 0, locals := 21 } xL Z [.ref (Z.2.1 1), .int x1, .int x2, .int x3] S (XV xL Z S') := by
  refine XM.of (own := RX6) (by decide +kernel) rfl rfl hQ (fun p e s m args below meth c E ls hl X => ?_)
  exact wX6_put E S x1 x2 x3 h _ _ _ X hl
theorem dX6_whoStandsAt_0 : decode cX6_whoStandsAt 0 = .ok (.iconst 0, 1) := by decide +kernel
theorem dX6_whoStandsAt_1 : decode cX6_whoStandsAt 1 = .ok (.istore_n 2, 1) := by decide +kernel
theorem dX6_whoStandsAt_2 : decode cX6_whoStandsAt 2 = .ok (.iload_n 2, 1) := by decide +kernel
theorem dX6_whoStandsAt_3 : decode cX6_whoStandsAt 3 = .ok (.aload_n 0, 1) := by decide +kernel
theorem dX6_whoStandsAt_4 : decode cX6_whoStandsAt 4 = .ok (.getfield 76, 3) := by decide +kernel
theorem dX6_whoStandsAt_7 : decode cX6_whoStandsAt 7 = .ok (.if_icmp .ge 21, 3) := by decide +kernel
theorem dX6_whoStandsAt_10 : decode cX6_whoStandsAt 10 = .ok (.aload_n 0, 1) := by decide +kernel
theorem dX6_whoStandsAt_11 : decode cX6_whoStandsAt 11 = .ok (.iload_n 2, 1) := by decide +kernel
theorem dX6_whoStandsAt_12 : decode cX6_whoStandsAt 12 = .ok (.iconst 0, 1) := by decide +kernel
theorem dX6_whoStandsAt_13 : decode cX6_whoStandsAt 13 = .ok (.invokevirtual 89, 3) := by decide +kernel
theorem dX6_whoStandsAt_16 : decode cX6_whoStandsAt 16 = .ok (.iload_n 1, 1) := by decide +kernel
theorem dX6_whoStandsAt_17 : decode cX6_whoStandsAt 17 = .ok (.if_icmp .ne 5, 3) := by decide +kernel
theorem dX6_whoStandsAt_20 : decode cX6_whoStandsAt 20 = .ok (.iload_n 2, 1) := by decide +kernel
theorem dX6_whoStandsAt_21 : decode cX6_whoStandsAt 21 = .ok (.ireturn, 1) := by decide +kernel
theorem dX6_whoStandsAt_22 : decode cX6_whoStandsAt 22 = .ok (.iinc 2 1, 3) := by decide +kernel
theorem dX6_whoStandsAt_25 : decode cX6_whoStandsAt 25 = .ok (.goto (-23), 3) := by decide +kernel
theorem dX6_whoStandsAt_28 : decode cX6_whoStandsAt 28 = .ok (.iconst (-1), 1) := by decide +kernel
theorem dX6_whoStandsAt_29 : decode cX6_whoStandsAt 29 = .ok (.ireturn, 1) := by decide +kernel
set_option maxRecDepth 20000 in
theorem wX6_whoStandsAt_2_b {p : Program} {l : Launch} {e : Env} {s : State} {m : MethodId} {args : Array Value} {below : List Frame} {meth : Method} {c : Code} {Z : XG} {r : Int32} {S' : Mem} (E : XE p s m args meth c cX6_whoStandsAt 3 RX6 (some .int) xL Z) (k0 : Mem → Int32 → Int32 → O)  (hk0 : ∀ (S : Mem) (x1 x2 : Int32), k0 S x1 x2 = some (r, S') → WN p l e { frames := 2, cells := 0, slots := 0, locals := 43 } s m args below meth c xL Z (XQ xL Z r S') S 2 3 [(0, .ref (Z.2.1 1)), (1, .int x1), (2, .int x2)] []) : ∀ (S : Mem) (x1 x2 : Int32), fX6_whoStandsAt_2_b k0 S x1 x2 = some (r, S') → WN p l e { frames := 2, cells := 0, slots := 0, locals := 43 } s m args below meth c xL Z (XQ xL Z r S') S 2 3 [(0, .ref (Z.2.1 1)), (1, .int x1), (2, .int x2)] [] := by
  obtain ⟨hx, hb, -, -, -, -, -, -, -, hQ⟩ := id E
  intro S x1 x2 h H locs ls X hl
  unfold fX6_whoStandsAt_2_b at h
  refine lv_iload_n hx hb dX6_whoStandsAt_2 rfl (lv_at hl 2 rfl) ?_
  refine lv_aload_n hx hb dX6_whoStandsAt_3 rfl (lv_at hl 0 rfl) ?_
  refine x_get E X ffX6_76 rfl rfl dX6_whoStandsAt_4 ?_
  refine lv_icmp_ge (tgt := 28) hx hb dX6_whoStandsAt_7 (by decide) (fun c_1 => ?_) (fun c_1 => ?_)
  · have h := if_t c_1 h
    refine lv_iconst (v := (-1 : Int32)) hx hb dX6_whoStandsAt_28 (by decide) ?_
    exact x_iret E X h dX6_whoStandsAt_29
  · have h := if_f c_1 h
    refine lv_aload_n hx hb dX6_whoStandsAt_10 rfl (lv_at hl 0 rfl) ?_
    refine lv_iload_n hx hb dX6_whoStandsAt_11 rfl (lv_at hl 2 rfl) ?_
    refine lv_iconst (v := (0 : Int32)) hx hb dX6_whoStandsAt_12 (by decide) ?_
    obtain ⟨r_2, S_3, hr_2, h⟩ := bnd_s h
    refine x_callV E X cwX6_89 (mX6_has l Z hQ x2 (0 : Int32) hr_2) rfl rfl rfl rfl hl.1 rfl dX6_whoStandsAt_13 (fun H locs X => ?_)
    refine lv_iload_n hx hb dX6_whoStandsAt_16 rfl (lv_at hl 1 rfl) ?_
    refine lv_icmp_ne (tgt := 22) hx hb dX6_whoStandsAt_17 (by decide) (fun c_4 => ?_) (fun c_4 => ?_)
    · have h := if_f c_4 h
      refine lv_iinc (v := (x2 + (1 : Int32))) (lv' := [(2, .int (x2 + (1 : Int32))), (0, .ref (Z.2.1 1)), (1, .int x1)]) hx hb dX6_whoStandsAt_22 hl (k := 2) rfl rfl (by decide) rfl (fun ls hl => ?_)
      refine lv_goto (tgt := 2) hx hb dX6_whoStandsAt_25 (by decide) ?_
      exact hk0 S_3 x1 (x2 + (1 : Int32)) h _ _ _ X (lv_sub hl [1, 2, 0] rfl)
    · have h := if_t c_4 h
      refine lv_iload_n hx hb dX6_whoStandsAt_20 rfl (lv_at hl 2 rfl) ?_
      exact x_iret E X h dX6_whoStandsAt_21
theorem wX6_whoStandsAt_2 {p : Program} {l : Launch} {e : Env} {s : State} {m : MethodId} {args : Array Value} {below : List Frame} {meth : Method} {c : Code} {Z : XG} {r : Int32} {S' : Mem} (E : XE p s m args meth c cX6_whoStandsAt 3 RX6 (some .int) xL Z) : ∀ (n : Nat) (S : Mem) (x1 x2 : Int32), fX6_whoStandsAt_2 n S x1 x2 = some (r, S') → WN p l e { frames := 2, cells := 0, slots := 0, locals := 43 } s m args below meth c xL Z (XQ xL Z r S') S 2 3 [(0, .ref (Z.2.1 1)), (1, .int x1), (2, .int x2)] [] := by
  intro n
  induction n with
  | zero => intro S x1 x2 h; exact absurd (show (none : O) = some _ from h) (by simp)
  | succ n ih => intro S x1 x2 h; exact wX6_whoStandsAt_2_b E (fX6_whoStandsAt_2 n) ih S x1 x2 h
set_option maxRecDepth 20000 in
theorem wX6_whoStandsAt {p : Program} {l : Launch} {e : Env} {s : State} {m : MethodId} {args : Array Value} {below : List Frame} {meth : Method} {c : Code} {Z : XG} {r : Int32} {S' : Mem} (E : XE p s m args meth c cX6_whoStandsAt 3 RX6 (some .int) xL Z) : ∀ (S : Mem) (x1 : Int32), fX6_whoStandsAt  S x1 = some (r, S') → WN p l e { frames := 2, cells := 0, slots := 0, locals := 43 } s m args below meth c xL Z (XQ xL Z r S') S 0 3 [(0, .ref (Z.2.1 1)), (1, .int x1)] [] := by
  obtain ⟨hx, hb, -, -, -, -, -, -, -, hQ⟩ := id E
  intro S x1 h H locs ls X hl
  unfold fX6_whoStandsAt at h
  refine lv_iconst (v := (0 : Int32)) hx hb dX6_whoStandsAt_0 (by decide) ?_
  refine lv_istore_n (lv' := [(2, .int (0 : Int32)), (0, .ref (Z.2.1 1)), (1, .int x1)]) hx hb dX6_whoStandsAt_1 rfl hl (by decide) rfl (fun ls hl => ?_)
  exact wX6_whoStandsAt_2 E   FU S x1 (0 : Int32) h _ _ _ X (lv_sub hl [1, 2, 0] rfl)
/-- SevenToAShadow$World.whoStandsAt(I)I -/
theorem mX6_whoStandsAt (l : Launch) (Z : XG) (hQ : wQ (List.length xL) Z) {S S' : Mem} {r : Int32} (x1 : Int32) (h : fX6_whoStandsAt S x1 = some (r, S')) : XM l yX6_whoStandsAt cX6_whoStandsAt 3 (some .int) { frames := 2, cells := 0, slots := 0, locals := 43 } xL Z [.ref (Z.2.1 1), .int x1] S (XQ xL Z r S') := by
  refine XM.of (own := RX6) (by decide +kernel) rfl rfl hQ (fun p e s m args below meth c E ls hl X => ?_)
  exact wX6_whoStandsAt E S x1 h _ _ _ X hl
