def fX8_state (S : Mem) (x1 : Int32) : O := ltm (mset S 0 0 (0 : Int32)) fun S_1 => lti (S_1 1 ((2 : Int32)).toNatClampNeg) fun x2_2 => ltm (mset S_1 1 ((2 : Int32)).toNatClampNeg x1) fun S_3 => some (x2_2, S_3)
theorem dX8_state_0 : decode cX8_state 0 = .ok (.aload_n 0, 1) := by decide +kernel
theorem dX8_state_1 : decode cX8_state 1 = .ok (.iconst 0, 1) := by decide +kernel
theorem dX8_state_2 : decode cX8_state 2 = .ok (.putfield 92, 3) := by decide +kernel
theorem dX8_state_5 : decode cX8_state 5 = .ok (.aload_n 0, 1) := by decide +kernel
theorem dX8_state_6 : decode cX8_state 6 = .ok (.getfield 7, 3) := by decide +kernel
theorem dX8_state_9 : decode cX8_state 9 = .ok (.iconst 2, 1) := by decide +kernel
theorem dX8_state_10 : decode cX8_state 10 = .ok (.iaload, 1) := by decide +kernel
theorem dX8_state_11 : decode cX8_state 11 = .ok (.istore_n 2, 1) := by decide +kernel
theorem dX8_state_12 : decode cX8_state 12 = .ok (.aload_n 0, 1) := by decide +kernel
theorem dX8_state_13 : decode cX8_state 13 = .ok (.getfield 7, 3) := by decide +kernel
theorem dX8_state_16 : decode cX8_state 16 = .ok (.iconst 2, 1) := by decide +kernel
theorem dX8_state_17 : decode cX8_state 17 = .ok (.iload_n 1, 1) := by decide +kernel
theorem dX8_state_18 : decode cX8_state 18 = .ok (.iastore, 1) := by decide +kernel
theorem dX8_state_19 : decode cX8_state 19 = .ok (.iload_n 2, 1) := by decide +kernel
theorem dX8_state_20 : decode cX8_state 20 = .ok (.ireturn, 1) := by decide +kernel
set_option maxRecDepth 20000 in
theorem wX8_state {p : Program} {l : Launch} {e : Env} {s : State} {m : MethodId} {args : Array Value} {below : List Frame} {meth : Method} {c : Code} {Z : XG} {r : Int32} {S' : Mem} (E : XE p s m args meth c cX8_state 3 RX8 (some .int) mL Z) : ∀ (S : Mem) (x1 : Int32), fX8_state  S x1 = some (r, S') → WN p l e { frames := 0, cells := 0, slots := 0, locals := 0 } s m args below meth c mL Z (XQ mL Z r S') S 0 3 [(0, .ref (Z.2.1 0)), (1, .int x1)] [] := by
  obtain ⟨hx, hb, -, -, -, -, -, -, -, hQ⟩ := id E
  intro S x1 h H locs ls X hl
  unfold fX8_state at h
  refine lv_aload_n hx hb dX8_state_0 rfl (lv_at hl 0 rfl) ?_
  refine lv_iconst (v := (0 : Int32)) hx hb dX8_state_1 (by decide) ?_
  obtain ⟨S_1, eS_1, h⟩ := ltm_s h
  refine x_put E X fpX8_92 rfl rfl dX8_state_2 (fun H locs X => ?_)
  rw [← eS_1] at X
  refine lv_aload_n hx hb dX8_state_5 rfl (lv_at hl 0 rfl) ?_
  refine x_getr E X ffX8_7 rfl rfl dX8_state_6 ?_
  refine lv_iconst (v := (2 : Int32)) hx hb dX8_state_9 (by decide) ?_
  refine x_iald E X rfl (by decide) dX8_state_10 ?_
  obtain ⟨x2_2, ex2_2, h⟩ := lti_s h
  refine lv_nm ex2_2 ?_
  refine lv_istore_n (lv' := [(2, .int x2_2), (0, .ref (Z.2.1 0)), (1, .int x1)]) hx hb dX8_state_11 rfl hl (by decide) rfl (fun ls hl => ?_)
  refine lv_aload_n hx hb dX8_state_12 rfl (lv_at hl 1 rfl) ?_
  refine x_getr E X ffX8_7 rfl rfl dX8_state_13 ?_
  refine lv_iconst (v := (2 : Int32)) hx hb dX8_state_16 (by decide) ?_
  refine lv_iload_n hx hb dX8_state_17 rfl (lv_at hl 2 rfl) ?_
  obtain ⟨S_3, eS_3, h⟩ := ltm_s h
  refine x_iast E X rfl (by decide) dX8_state_18 (fun H locs X => ?_)
  rw [← eS_3] at X
  refine lv_iload_n hx hb dX8_state_19 rfl (lv_at hl 0 rfl) ?_
  exact x_iret E X h dX8_state_20
/-- SevenToAShadowModel.state(I)I -/
theorem mX8_state (l : Launch) (Z : XG) (hQ : wQ (List.length mL) Z) {S S' : Mem} {r : Int32} (x1 : Int32) (h : fX8_state S x1 = some (r, S')) : XM l yX8_state cX8_state 3 (some .int) { frames := 0, cells := 0, slots := 0, locals := 0 } mL Z [.ref (Z.2.1 0), .int x1] S (XQ mL Z r S') := by
  refine XM.of (own := RX8) (by decide +kernel) rfl rfl hQ (fun p e s m args below meth c E ls hl X => ?_)
  exact wX8_state E S x1 h _ _ _ X hl
def fX8_isHour (S : Mem) (x1 : Int32) : O := (if x1 < 0 then some ((0 : Int32), S) else (if (12 : Int32) ≤ x1 then some ((0 : Int32), S) else some ((1 : Int32), S)))
theorem dX8_isHour_0 : decode cX8_isHour 0 = .ok (.iload_n 1, 1) := by decide +kernel
theorem dX8_isHour_1 : decode cX8_isHour 1 = .ok (.ifCond .lt 13, 3) := by decide +kernel
theorem dX8_isHour_4 : decode cX8_isHour 4 = .ok (.iload_n 1, 1) := by decide +kernel
theorem dX8_isHour_5 : decode cX8_isHour 5 = .ok (.bipush 12, 2) := by decide +kernel
theorem dX8_isHour_7 : decode cX8_isHour 7 = .ok (.if_icmp .ge 7, 3) := by decide +kernel
theorem dX8_isHour_10 : decode cX8_isHour 10 = .ok (.iconst 1, 1) := by decide +kernel
theorem dX8_isHour_11 : decode cX8_isHour 11 = .ok (.goto 4, 3) := by decide +kernel
theorem dX8_isHour_14 : decode cX8_isHour 14 = .ok (.iconst 0, 1) := by decide +kernel
theorem dX8_isHour_15 : decode cX8_isHour 15 = .ok (.ireturn, 1) := by decide +kernel
set_option maxRecDepth 20000 in
theorem wX8_isHour {p : Program} {l : Launch} {e : Env} {s : State} {m : MethodId} {args : Array Value} {below : List Frame} {meth : Method} {c : Code} {Z : XG} {r : Int32} {S' : Mem} (E : XE p s m args meth c cX8_isHour 2 RX8 (some .boolean) mL Z) : ∀ (S : Mem) (x1 : Int32), fX8_isHour  S x1 = some (r, S') → WN p l e { frames := 0, cells := 0, slots := 0, locals := 0 } s m args below meth c mL Z (XQ mL Z r S') S 0 2 [(1, .int x1)] [] := by
  obtain ⟨hx, hb, -, -, -, -, -, -, -, hQ⟩ := id E
  intro S x1 h H locs ls X hl
  unfold fX8_isHour at h
  refine lv_iload_n hx hb dX8_isHour_0 rfl (lv_at hl 0 rfl) ?_
  refine lv_if_lt (tgt := 14) hx hb dX8_isHour_1 (by decide) (fun c_1 => ?_) (fun c_1 => ?_)
  · have h := if_t c_1 h
    refine lv_iconst (v := (0 : Int32)) hx hb dX8_isHour_14 (by decide) ?_
    exact x_zret E X rfl h dX8_isHour_15
  · have h := if_f c_1 h
    refine lv_iload_n hx hb dX8_isHour_4 rfl (lv_at hl 0 rfl) ?_
    refine lv_bipush (v := (12 : Int32)) hx hb dX8_isHour_5 (by decide) ?_
    refine lv_icmp_ge (tgt := 14) hx hb dX8_isHour_7 (by decide) (fun c_2 => ?_) (fun c_2 => ?_)
    · have h := if_t c_2 h
      refine lv_iconst (v := (0 : Int32)) hx hb dX8_isHour_14 (by decide) ?_
      exact x_zret E X rfl h dX8_isHour_15
    · have h := if_f c_2 h
      refine lv_iconst (v := (1 : Int32)) hx hb dX8_isHour_10 (by decide) ?_
      refine lv_goto (tgt := 15) hx hb dX8_isHour_11 (by decide) ?_
      exact x_zret E X rfl h dX8_isHour_15
/-- SevenToAShadowModel.isHour(I)Z -/
theorem mX8_isHour (l : Launch) (Z : XG) (hQ : wQ (List.length mL) Z) {S S' : Mem} {r : Int32} (x1 : Int32) (h : fX8_isHour S x1 = some (r, S')) : XM l yX8_isHour cX8_isHour 2 (some .boolean) { frames := 0, cells := 0, slots := 0, locals := 0 } mL Z [.ref (Z.2.1 0), .int x1] S (XQ mL Z r S') := by
  refine XM.of (own := RX8) (by decide +kernel) rfl rfl hQ (fun p e s m args below meth c E ls hl X => ?_)
  exact wX8_isHour E S x1 h _ _ _ X (lv_sub hl [1] rfl)
def fX8_isIn (S : Mem) (x1 x2 x3 : Int32) : O := (if x1 < x2 then some ((0 : Int32), S) else (if x3 < x1 then some ((0 : Int32), S) else some ((1 : Int32), S)))
theorem dX8_isIn_0 : decode cX8_isIn 0 = .ok (.iload_n 1, 1) := by decide +kernel
theorem dX8_isIn_1 : decode cX8_isIn 1 = .ok (.iload_n 2, 1) := by decide +kernel
theorem dX8_isIn_2 : decode cX8_isIn 2 = .ok (.if_icmp .lt 12, 3) := by decide +kernel
theorem dX8_isIn_5 : decode cX8_isIn 5 = .ok (.iload_n 1, 1) := by decide +kernel
theorem dX8_isIn_6 : decode cX8_isIn 6 = .ok (.iload_n 3, 1) := by decide +kernel
theorem dX8_isIn_7 : decode cX8_isIn 7 = .ok (.if_icmp .gt 7, 3) := by decide +kernel
theorem dX8_isIn_10 : decode cX8_isIn 10 = .ok (.iconst 1, 1) := by decide +kernel
theorem dX8_isIn_11 : decode cX8_isIn 11 = .ok (.goto 4, 3) := by decide +kernel
theorem dX8_isIn_14 : decode cX8_isIn 14 = .ok (.iconst 0, 1) := by decide +kernel
theorem dX8_isIn_15 : decode cX8_isIn 15 = .ok (.ireturn, 1) := by decide +kernel
set_option maxRecDepth 20000 in
theorem wX8_isIn {p : Program} {l : Launch} {e : Env} {s : State} {m : MethodId} {args : Array Value} {below : List Frame} {meth : Method} {c : Code} {Z : XG} {r : Int32} {S' : Mem} (E : XE p s m args meth c cX8_isIn 4 RX8 (some .boolean) mL Z) : ∀ (S : Mem) (x1 x2 x3 : Int32), fX8_isIn  S x1 x2 x3 = some (r, S') → WN p l e { frames := 0, cells := 0, slots := 0, locals := 0 } s m args below meth c mL Z (XQ mL Z r S') S 0 4 [(1, .int x1), (2, .int x2), (3, .int x3)] [] := by
  obtain ⟨hx, hb, -, -, -, -, -, -, -, hQ⟩ := id E
  intro S x1 x2 x3 h H locs ls X hl
  unfold fX8_isIn at h
  refine lv_iload_n hx hb dX8_isIn_0 rfl (lv_at hl 0 rfl) ?_
  refine lv_iload_n hx hb dX8_isIn_1 rfl (lv_at hl 1 rfl) ?_
  refine lv_icmp_lt (tgt := 14) hx hb dX8_isIn_2 (by decide) (fun c_1 => ?_) (fun c_1 => ?_)
  · have h := if_t c_1 h
    refine lv_iconst (v := (0 : Int32)) hx hb dX8_isIn_14 (by decide) ?_
    exact x_zret E X rfl h dX8_isIn_15
  · have h := if_f c_1 h
    refine lv_iload_n hx hb dX8_isIn_5 rfl (lv_at hl 0 rfl) ?_
    refine lv_iload_n hx hb dX8_isIn_6 rfl (lv_at hl 2 rfl) ?_
    refine lv_icmp_gt (tgt := 14) hx hb dX8_isIn_7 (by decide) (fun c_2 => ?_) (fun c_2 => ?_)
    · have h := if_t c_2 h
      refine lv_iconst (v := (0 : Int32)) hx hb dX8_isIn_14 (by decide) ?_
      exact x_zret E X rfl h dX8_isIn_15
    · have h := if_f c_2 h
      refine lv_iconst (v := (1 : Int32)) hx hb dX8_isIn_10 (by decide) ?_
      refine lv_goto (tgt := 15) hx hb dX8_isIn_11 (by decide) ?_
      exact x_zret E X rfl h dX8_isIn_15
/-- SevenToAShadowModel.isIn(III)Z -/
theorem mX8_isIn (l : Launch) (Z : XG) (hQ : wQ (List.length mL) Z) {S S' : Mem} {r : Int32} (x1 x2 x3 : Int32) (h : fX8_isIn S x1 x2 x3 = some (r, S')) : XM l yX8_isIn cX8_isIn 4 (some .boolean) { frames := 0, cells := 0, slots := 0, locals := 0 } mL Z [.ref (Z.2.1 0), .int x1, .int x2, .int x3] S (XQ mL Z r S') := by
  refine XM.of (own := RX8) (by decide +kernel) rfl rfl hQ (fun p e s m args below meth c E ls hl X => ?_)
  exact wX8_isIn E S x1 x2 x3 h _ _ _ X (lv_sub hl [1, 2, 3] rfl)
def fX8_mostOf_9 (S : Mem) : O := some ((7 : Int32), S)
def fX8_mostOf (S : Mem) (x1 : Int32) : O := (if x1 = 0 then fX8_mostOf_9  S  else (if x1 = (3 : Int32) then fX8_mostOf_9  S  else (if x1 = (1 : Int32) then some ((4 : Int32), S) else (if x1 = (2 : Int32) then some ((9 : Int32), S) else some ((10 : Int32), S)))))
theorem dX8_mostOf_0 : decode cX8_mostOf 0 = .ok (.iload_n 1, 1) := by decide +kernel
theorem dX8_mostOf_1 : decode cX8_mostOf 1 = .ok (.ifCond .eq 8, 3) := by decide +kernel
theorem dX8_mostOf_4 : decode cX8_mostOf 4 = .ok (.iload_n 1, 1) := by decide +kernel
theorem dX8_mostOf_5 : decode cX8_mostOf 5 = .ok (.iconst 3, 1) := by decide +kernel
theorem dX8_mostOf_6 : decode cX8_mostOf 6 = .ok (.if_icmp .ne 8, 3) := by decide +kernel
theorem dX8_mostOf_9 : decode cX8_mostOf 9 = .ok (.bipush 7, 2) := by decide +kernel
theorem dX8_mostOf_11 : decode cX8_mostOf 11 = .ok (.goto 24, 3) := by decide +kernel
theorem dX8_mostOf_14 : decode cX8_mostOf 14 = .ok (.iload_n 1, 1) := by decide +kernel
theorem dX8_mostOf_15 : decode cX8_mostOf 15 = .ok (.iconst 1, 1) := by decide +kernel
theorem dX8_mostOf_16 : decode cX8_mostOf 16 = .ok (.if_icmp .ne 7, 3) := by decide +kernel
theorem dX8_mostOf_19 : decode cX8_mostOf 19 = .ok (.iconst 4, 1) := by decide +kernel
theorem dX8_mostOf_20 : decode cX8_mostOf 20 = .ok (.goto 15, 3) := by decide +kernel
theorem dX8_mostOf_23 : decode cX8_mostOf 23 = .ok (.iload_n 1, 1) := by decide +kernel
theorem dX8_mostOf_24 : decode cX8_mostOf 24 = .ok (.iconst 2, 1) := by decide +kernel
theorem dX8_mostOf_25 : decode cX8_mostOf 25 = .ok (.if_icmp .ne 8, 3) := by decide +kernel
theorem dX8_mostOf_28 : decode cX8_mostOf 28 = .ok (.bipush 9, 2) := by decide +kernel
theorem dX8_mostOf_30 : decode cX8_mostOf 30 = .ok (.goto 5, 3) := by decide +kernel
theorem dX8_mostOf_33 : decode cX8_mostOf 33 = .ok (.bipush 10, 2) := by decide +kernel
theorem dX8_mostOf_35 : decode cX8_mostOf 35 = .ok (.ireturn, 1) := by decide +kernel
set_option maxRecDepth 20000 in
theorem wX8_mostOf_9 {p : Program} {l : Launch} {e : Env} {s : State} {m : MethodId} {args : Array Value} {below : List Frame} {meth : Method} {c : Code} {Z : XG} {r : Int32} {S' : Mem} (E : XE p s m args meth c cX8_mostOf 2 RX8 (some .int) mL Z) : ∀ (S : Mem), fX8_mostOf_9  S  = some (r, S') → WN p l e { frames := 0, cells := 0, slots := 0, locals := 0 } s m args below meth c mL Z (XQ mL Z r S') S 9 2 [] [] := by
  obtain ⟨hx, hb, -, -, -, -, -, -, -, hQ⟩ := id E
  intro S  h H locs ls X hl
  unfold fX8_mostOf_9 at h
  refine lv_bipush (v := (7 : Int32)) hx hb dX8_mostOf_9 (by decide) ?_
  refine lv_goto (tgt := 35) hx hb dX8_mostOf_11 (by decide) ?_
  exact x_iret E X h dX8_mostOf_35
set_option maxRecDepth 20000 in
theorem wX8_mostOf {p : Program} {l : Launch} {e : Env} {s : State} {m : MethodId} {args : Array Value} {below : List Frame} {meth : Method} {c : Code} {Z : XG} {r : Int32} {S' : Mem} (E : XE p s m args meth c cX8_mostOf 2 RX8 (some .int) mL Z) : ∀ (S : Mem) (x1 : Int32), fX8_mostOf  S x1 = some (r, S') → WN p l e { frames := 0, cells := 0, slots := 0, locals := 0 } s m args below meth c mL Z (XQ mL Z r S') S 0 2 [(1, .int x1)] [] := by
  obtain ⟨hx, hb, -, -, -, -, -, -, -, hQ⟩ := id E
  intro S x1 h H locs ls X hl
  unfold fX8_mostOf at h
  refine lv_iload_n hx hb dX8_mostOf_0 rfl (lv_at hl 0 rfl) ?_
  refine lv_if_eq (tgt := 9) hx hb dX8_mostOf_1 (by decide) (fun c_1 => ?_) (fun c_1 => ?_)
  · have h := if_t c_1 h
    exact wX8_mostOf_9 E   S  h _ _ _ X (lv_sub hl [] rfl)
  · have h := if_f c_1 h
    refine lv_iload_n hx hb dX8_mostOf_4 rfl (lv_at hl 0 rfl) ?_
    refine lv_iconst (v := (3 : Int32)) hx hb dX8_mostOf_5 (by decide) ?_
    refine lv_icmp_ne (tgt := 14) hx hb dX8_mostOf_6 (by decide) (fun c_2 => ?_) (fun c_2 => ?_)
    · have h := if_f c_2 h
      refine lv_iload_n hx hb dX8_mostOf_14 rfl (lv_at hl 0 rfl) ?_
      refine lv_iconst (v := (1 : Int32)) hx hb dX8_mostOf_15 (by decide) ?_
      refine lv_icmp_ne (tgt := 23) hx hb dX8_mostOf_16 (by decide) (fun c_3 => ?_) (fun c_3 => ?_)
      · have h := if_f c_3 h
        refine lv_iload_n hx hb dX8_mostOf_23 rfl (lv_at hl 0 rfl) ?_
        refine lv_iconst (v := (2 : Int32)) hx hb dX8_mostOf_24 (by decide) ?_
        refine lv_icmp_ne (tgt := 33) hx hb dX8_mostOf_25 (by decide) (fun c_4 => ?_) (fun c_4 => ?_)
        · have h := if_f c_4 h
          refine lv_bipush (v := (10 : Int32)) hx hb dX8_mostOf_33 (by decide) ?_
          exact x_iret E X h dX8_mostOf_35
        · have h := if_t c_4 h
          refine lv_bipush (v := (9 : Int32)) hx hb dX8_mostOf_28 (by decide) ?_
          refine lv_goto (tgt := 35) hx hb dX8_mostOf_30 (by decide) ?_
          exact x_iret E X h dX8_mostOf_35
      · have h := if_t c_3 h
        refine lv_iconst (v := (4 : Int32)) hx hb dX8_mostOf_19 (by decide) ?_
        refine lv_goto (tgt := 35) hx hb dX8_mostOf_20 (by decide) ?_
        exact x_iret E X h dX8_mostOf_35
    · have h := if_t c_2 h
      exact wX8_mostOf_9 E   S  h _ _ _ X (lv_sub hl [] rfl)
/-- SevenToAShadowModel.mostOf(I)I -/
theorem mX8_mostOf (l : Launch) (Z : XG) (hQ : wQ (List.length mL) Z) {S S' : Mem} {r : Int32} (x1 : Int32) (h : fX8_mostOf S x1 = some (r, S')) : XM l yX8_mostOf cX8_mostOf 2 (some .int) { frames := 0, cells := 0, slots := 0, locals := 0 } mL Z [.ref (Z.2.1 0), .int x1] S (XQ mL Z r S') := by
  refine XM.of (own := RX8) (by decide +kernel) rfl rfl hQ (fun p e s m args below meth c E ls hl X => ?_)
  exact wX8_mostOf E S x1 h _ _ _ X (lv_sub hl [1] rfl)
def fX8_hour (S : Mem) (x1 x2 x3 : Int32) : O := ltm (mset S 0 0 (0 : Int32)) fun S_1 => bnd (fX8_isHour S_1 x1) fun r_2 S_3 => (if r_2 = 0 then some ((0 : Int32), S_3) else bnd (fX8_isIn S_3 x2 (0 : Int32) (4 : Int32)) fun r_5 S_6 => (if r_5 = 0 then some ((0 : Int32), S_6) else bnd (fX8_mostOf S_6 x2) fun r_8 S_9 => bnd (fX8_isIn S_9 x3 (0 : Int32) r_8) fun r_10 S_11 => (if r_10 = 0 then some ((0 : Int32), S_11) else gd (inB (((5 : Int32) * x1) + x2) 60) <| ltm (mset S_11 3 ((((5 : Int32) * x1) + x2)).toNatClampNeg x3) fun S_14 => ltm (mset S_14 0 3 (0 : Int32)) fun S_15 => some ((1 : Int32), S_15))))
theorem dX8_hour_0 : decode cX8_hour 0 = .ok (.aload_n 0, 1) := by decide +kernel
theorem dX8_hour_1 : decode cX8_hour 1 = .ok (.iconst 0, 1) := by decide +kernel
theorem dX8_hour_2 : decode cX8_hour 2 = .ok (.putfield 92, 3) := by decide +kernel
theorem dX8_hour_5 : decode cX8_hour 5 = .ok (.aload_n 0, 1) := by decide +kernel
theorem dX8_hour_6 : decode cX8_hour 6 = .ok (.iload_n 1, 1) := by decide +kernel
theorem dX8_hour_7 : decode cX8_hour 7 = .ok (.invokevirtual 103, 3) := by decide +kernel
theorem dX8_hour_10 : decode cX8_hour 10 = .ok (.ifCond .eq 27, 3) := by decide +kernel
theorem dX8_hour_13 : decode cX8_hour 13 = .ok (.aload_n 0, 1) := by decide +kernel
theorem dX8_hour_14 : decode cX8_hour 14 = .ok (.iload_n 2, 1) := by decide +kernel
theorem dX8_hour_15 : decode cX8_hour 15 = .ok (.iconst 0, 1) := by decide +kernel
theorem dX8_hour_16 : decode cX8_hour 16 = .ok (.iconst 4, 1) := by decide +kernel
theorem dX8_hour_17 : decode cX8_hour 17 = .ok (.invokevirtual 107, 3) := by decide +kernel
theorem dX8_hour_20 : decode cX8_hour 20 = .ok (.ifCond .eq 17, 3) := by decide +kernel
theorem dX8_hour_23 : decode cX8_hour 23 = .ok (.aload_n 0, 1) := by decide +kernel
theorem dX8_hour_24 : decode cX8_hour 24 = .ok (.iload_n 3, 1) := by decide +kernel
theorem dX8_hour_25 : decode cX8_hour 25 = .ok (.iconst 0, 1) := by decide +kernel
theorem dX8_hour_26 : decode cX8_hour 26 = .ok (.aload_n 0, 1) := by decide +kernel
theorem dX8_hour_27 : decode cX8_hour 27 = .ok (.iload_n 2, 1) := by decide +kernel
theorem dX8_hour_28 : decode cX8_hour 28 = .ok (.invokevirtual 111, 3) := by decide +kernel
theorem dX8_hour_31 : decode cX8_hour 31 = .ok (.invokevirtual 107, 3) := by decide +kernel
theorem dX8_hour_34 : decode cX8_hour 34 = .ok (.ifCond .ne 5, 3) := by decide +kernel
theorem dX8_hour_37 : decode cX8_hour 37 = .ok (.iconst 0, 1) := by decide +kernel
theorem dX8_hour_38 : decode cX8_hour 38 = .ok (.ireturn, 1) := by decide +kernel
theorem dX8_hour_39 : decode cX8_hour 39 = .ok (.aload_n 0, 1) := by decide +kernel
theorem dX8_hour_40 : decode cX8_hour 40 = .ok (.getfield 16, 3) := by decide +kernel
theorem dX8_hour_43 : decode cX8_hour 43 = .ok (.iconst 5, 1) := by decide +kernel
theorem dX8_hour_44 : decode cX8_hour 44 = .ok (.iload_n 1, 1) := by decide +kernel
theorem dX8_hour_45 : decode cX8_hour 45 = .ok (.imul, 1) := by decide +kernel
theorem dX8_hour_46 : decode cX8_hour 46 = .ok (.iload_n 2, 1) := by decide +kernel
theorem dX8_hour_47 : decode cX8_hour 47 = .ok (.iadd, 1) := by decide +kernel
theorem dX8_hour_48 : decode cX8_hour 48 = .ok (.iload_n 3, 1) := by decide +kernel
theorem dX8_hour_49 : decode cX8_hour 49 = .ok (.iastore, 1) := by decide +kernel
theorem dX8_hour_50 : decode cX8_hour 50 = .ok (.aload_n 0, 1) := by decide +kernel
theorem dX8_hour_51 : decode cX8_hour 51 = .ok (.iconst 0, 1) := by decide +kernel
theorem dX8_hour_52 : decode cX8_hour 52 = .ok (.putfield 95, 3) := by decide +kernel
theorem dX8_hour_55 : decode cX8_hour 55 = .ok (.iconst 1, 1) := by decide +kernel
theorem dX8_hour_56 : decode cX8_hour 56 = .ok (.ireturn, 1) := by decide +kernel
set_option maxRecDepth 20000 in
theorem wX8_hour {p : Program} {l : Launch} {e : Env} {s : State} {m : MethodId} {args : Array Value} {below : List Frame} {meth : Method} {c : Code} {Z : XG} {r : Int32} {S' : Mem} (E : XE p s m args meth c cX8_hour 4 RX8 (some .boolean) mL Z) : ∀ (S : Mem) (x1 x2 x3 : Int32), fX8_hour  S x1 x2 x3 = some (r, S') → WN p l e { frames := 1, cells := 0, slots := 0, locals := 23 } s m args below meth c mL Z (XQ mL Z r S') S 0 4 [(0, .ref (Z.2.1 0)), (1, .int x1), (2, .int x2), (3, .int x3)] [] := by
  obtain ⟨hx, hb, -, -, -, -, -, -, -, hQ⟩ := id E
  intro S x1 x2 x3 h H locs ls X hl
  unfold fX8_hour at h
  refine lv_aload_n hx hb dX8_hour_0 rfl (lv_at hl 0 rfl) ?_
  refine lv_iconst (v := (0 : Int32)) hx hb dX8_hour_1 (by decide) ?_
  obtain ⟨S_1, eS_1, h⟩ := ltm_s h
  refine x_put E X fpX8_92 rfl rfl dX8_hour_2 (fun H locs X => ?_)
  rw [← eS_1] at X
  refine lv_aload_n hx hb dX8_hour_5 rfl (lv_at hl 0 rfl) ?_
  refine lv_iload_n hx hb dX8_hour_6 rfl (lv_at hl 1 rfl) ?_
  obtain ⟨r_2, S_3, hr_2, h⟩ := bnd_s h
  refine x_callV E X cwX8_103 (mX8_isHour l Z hQ  x1 hr_2) rfl rfl rfl rfl hl.1 rfl dX8_hour_7 (fun H locs X => ?_)
  refine lv_if_eq (tgt := 37) hx hb dX8_hour_10 (by decide) (fun c_4 => ?_) (fun c_4 => ?_)
  · have h := if_t c_4 h
    refine lv_iconst (v := (0 : Int32)) hx hb dX8_hour_37 (by decide) ?_
    exact x_zret E X rfl h dX8_hour_38
  · have h := if_f c_4 h
    refine lv_aload_n hx hb dX8_hour_13 rfl (lv_at hl 0 rfl) ?_
    refine lv_iload_n hx hb dX8_hour_14 rfl (lv_at hl 2 rfl) ?_
    refine lv_iconst (v := (0 : Int32)) hx hb dX8_hour_15 (by decide) ?_
    refine lv_iconst (v := (4 : Int32)) hx hb dX8_hour_16 (by decide) ?_
    obtain ⟨r_5, S_6, hr_5, h⟩ := bnd_s h
    refine x_callV E X cwX8_107 (mX8_isIn l Z hQ  x2 (0 : Int32) (4 : Int32) hr_5) rfl rfl rfl rfl hl.1 rfl dX8_hour_17 (fun H locs X => ?_)
    refine lv_if_eq (tgt := 37) hx hb dX8_hour_20 (by decide) (fun c_7 => ?_) (fun c_7 => ?_)
    · have h := if_t c_7 h
      refine lv_iconst (v := (0 : Int32)) hx hb dX8_hour_37 (by decide) ?_
      exact x_zret E X rfl h dX8_hour_38
    · have h := if_f c_7 h
      refine lv_aload_n hx hb dX8_hour_23 rfl (lv_at hl 0 rfl) ?_
      refine lv_iload_n hx hb dX8_hour_24 rfl (lv_at hl 3 rfl) ?_
      refine lv_iconst (v := (0 : Int32)) hx hb dX8_hour_25 (by decide) ?_
      refine lv_aload_n hx hb dX8_hour_26 rfl (lv_at hl 0 rfl) ?_
      refine lv_iload_n hx hb dX8_hour_27 rfl (lv_at hl 2 rfl) ?_
      obtain ⟨r_8, S_9, hr_8, h⟩ := bnd_s h
      refine x_callV E X cwX8_111 (mX8_mostOf l Z hQ  x2 hr_8) rfl rfl rfl rfl hl.1 rfl dX8_hour_28 (fun H locs X => ?_)
      obtain ⟨r_10, S_11, hr_10, h⟩ := bnd_s h
      refine x_callV E X cwX8_107 (mX8_isIn l Z hQ  x3 (0 : Int32) r_8 hr_10) rfl rfl rfl rfl hl.1 rfl dX8_hour_31 (fun H locs X => ?_)
      refine lv_if_ne (tgt := 39) hx hb dX8_hour_34 (by decide) (fun c_12 => ?_) (fun c_12 => ?_)
      · have h := if_f c_12 h
        refine lv_aload_n hx hb dX8_hour_39 rfl (lv_at hl 0 rfl) ?_
        refine x_getr E X ffX8_16 rfl rfl dX8_hour_40 ?_
        refine lv_iconst (v := (5 : Int32)) hx hb dX8_hour_43 (by decide) ?_
        refine lv_iload_n hx hb dX8_hour_44 rfl (lv_at hl 1 rfl) ?_
        refine lv_imul hx hb dX8_hour_45 ?_
        refine lv_iload_n hx hb dX8_hour_46 rfl (lv_at hl 2 rfl) ?_
        refine lv_iadd hx hb dX8_hour_47 ?_
        refine lv_iload_n hx hb dX8_hour_48 rfl (lv_at hl 3 rfl) ?_
        obtain ⟨g_13, h⟩ := gd_s h
        obtain ⟨S_14, eS_14, h⟩ := ltm_s h
        refine x_iast E X rfl g_13 dX8_hour_49 (fun H locs X => ?_)
        rw [← eS_14] at X
        refine lv_aload_n hx hb dX8_hour_50 rfl (lv_at hl 0 rfl) ?_
        refine lv_iconst (v := (0 : Int32)) hx hb dX8_hour_51 (by decide) ?_
        obtain ⟨S_15, eS_15, h⟩ := ltm_s h
        refine x_put E X fpX8_95 rfl rfl dX8_hour_52 (fun H locs X => ?_)
        rw [← eS_15] at X
        refine lv_iconst (v := (1 : Int32)) hx hb dX8_hour_55 (by decide) ?_
        exact x_zret E X rfl h dX8_hour_56
      · have h := if_t c_12 h
        refine lv_iconst (v := (0 : Int32)) hx hb dX8_hour_37 (by decide) ?_
        exact x_zret E X rfl h dX8_hour_38
/-- SevenToAShadowModel.hour(III)Z -/
theorem mX8_hour (l : Launch) (Z : XG) (hQ : wQ (List.length mL) Z) {S S' : Mem} {r : Int32} (x1 x2 x3 : Int32) (h : fX8_hour S x1 x2 x3 = some (r, S')) : XM l yX8_hour cX8_hour 4 (some .boolean) { frames := 1, cells := 0, slots := 0, locals := 23 } mL Z [.ref (Z.2.1 0), .int x1, .int x2, .int x3] S (XQ mL Z r S') := by
  refine XM.of (own := RX8) (by decide +kernel) rfl rfl hQ (fun p e s m args below meth c E ls hl X => ?_)
  exact wX8_hour E S x1 x2 x3 h _ _ _ X hl
def fX8_set (S : Mem) (x1 x2 : Int32) : O := ltm (mset S 0 0 (0 : Int32)) fun S_1 => bnd (fX8_isIn S_1 x1 (0 : Int32) (1 : Int32)) fun r_2 S_3 => (if r_2 = 0 then some ((0 : Int32), S_3) else bnd (fX8_isIn S_3 x2 (0 : Int32) (99 : Int32)) fun r_5 S_6 => (if r_5 = 0 then some ((0 : Int32), S_6) else gd (inB x1 2) <| ltm (mset S_6 4 (x1).toNatClampNeg x2) fun S_9 => ltm (mset S_9 0 3 (0 : Int32)) fun S_10 => some ((1 : Int32), S_10)))
theorem dX8_set_0 : decode cX8_set 0 = .ok (.aload_n 0, 1) := by decide +kernel
theorem dX8_set_1 : decode cX8_set 1 = .ok (.iconst 0, 1) := by decide +kernel
theorem dX8_set_2 : decode cX8_set 2 = .ok (.putfield 92, 3) := by decide +kernel
theorem dX8_set_5 : decode cX8_set 5 = .ok (.aload_n 0, 1) := by decide +kernel
theorem dX8_set_6 : decode cX8_set 6 = .ok (.iload_n 1, 1) := by decide +kernel
theorem dX8_set_7 : decode cX8_set 7 = .ok (.iconst 0, 1) := by decide +kernel
theorem dX8_set_8 : decode cX8_set 8 = .ok (.iconst 1, 1) := by decide +kernel
theorem dX8_set_9 : decode cX8_set 9 = .ok (.invokevirtual 107, 3) := by decide +kernel
theorem dX8_set_12 : decode cX8_set 12 = .ok (.ifCond .eq 14, 3) := by decide +kernel
theorem dX8_set_15 : decode cX8_set 15 = .ok (.aload_n 0, 1) := by decide +kernel
theorem dX8_set_16 : decode cX8_set 16 = .ok (.iload_n 2, 1) := by decide +kernel
theorem dX8_set_17 : decode cX8_set 17 = .ok (.iconst 0, 1) := by decide +kernel
theorem dX8_set_18 : decode cX8_set 18 = .ok (.bipush 99, 2) := by decide +kernel
theorem dX8_set_20 : decode cX8_set 20 = .ok (.invokevirtual 107, 3) := by decide +kernel
theorem dX8_set_23 : decode cX8_set 23 = .ok (.ifCond .ne 5, 3) := by decide +kernel
theorem dX8_set_26 : decode cX8_set 26 = .ok (.iconst 0, 1) := by decide +kernel
theorem dX8_set_27 : decode cX8_set 27 = .ok (.ireturn, 1) := by decide +kernel
theorem dX8_set_28 : decode cX8_set 28 = .ok (.aload_n 0, 1) := by decide +kernel
theorem dX8_set_29 : decode cX8_set 29 = .ok (.getfield 19, 3) := by decide +kernel
theorem dX8_set_32 : decode cX8_set 32 = .ok (.iload_n 1, 1) := by decide +kernel
theorem dX8_set_33 : decode cX8_set 33 = .ok (.iload_n 2, 1) := by decide +kernel
theorem dX8_set_34 : decode cX8_set 34 = .ok (.iastore, 1) := by decide +kernel
theorem dX8_set_35 : decode cX8_set 35 = .ok (.aload_n 0, 1) := by decide +kernel
theorem dX8_set_36 : decode cX8_set 36 = .ok (.iconst 0, 1) := by decide +kernel
theorem dX8_set_37 : decode cX8_set 37 = .ok (.putfield 95, 3) := by decide +kernel
theorem dX8_set_40 : decode cX8_set 40 = .ok (.iconst 1, 1) := by decide +kernel
theorem dX8_set_41 : decode cX8_set 41 = .ok (.ireturn, 1) := by decide +kernel
set_option maxRecDepth 20000 in
theorem wX8_set {p : Program} {l : Launch} {e : Env} {s : State} {m : MethodId} {args : Array Value} {below : List Frame} {meth : Method} {c : Code} {Z : XG} {r : Int32} {S' : Mem} (E : XE p s m args meth c cX8_set 3 RX8 (some .boolean) mL Z) : ∀ (S : Mem) (x1 x2 : Int32), fX8_set  S x1 x2 = some (r, S') → WN p l e { frames := 1, cells := 0, slots := 0, locals := 23 } s m args below meth c mL Z (XQ mL Z r S') S 0 3 [(0, .ref (Z.2.1 0)), (1, .int x1), (2, .int x2)] [] := by
  obtain ⟨hx, hb, -, -, -, -, -, -, -, hQ⟩ := id E
  intro S x1 x2 h H locs ls X hl
  unfold fX8_set at h
  refine lv_aload_n hx hb dX8_set_0 rfl (lv_at hl 0 rfl) ?_
  refine lv_iconst (v := (0 : Int32)) hx hb dX8_set_1 (by decide) ?_
  obtain ⟨S_1, eS_1, h⟩ := ltm_s h
  refine x_put E X fpX8_92 rfl rfl dX8_set_2 (fun H locs X => ?_)
  rw [← eS_1] at X
  refine lv_aload_n hx hb dX8_set_5 rfl (lv_at hl 0 rfl) ?_
  refine lv_iload_n hx hb dX8_set_6 rfl (lv_at hl 1 rfl) ?_
  refine lv_iconst (v := (0 : Int32)) hx hb dX8_set_7 (by decide) ?_
  refine lv_iconst (v := (1 : Int32)) hx hb dX8_set_8 (by decide) ?_
  obtain ⟨r_2, S_3, hr_2, h⟩ := bnd_s h
  refine x_callV E X cwX8_107 (mX8_isIn l Z hQ  x1 (0 : Int32) (1 : Int32) hr_2) rfl rfl rfl rfl hl.1 rfl dX8_set_9 (fun H locs X => ?_)
  refine lv_if_eq (tgt := 26) hx hb dX8_set_12 (by decide) (fun c_4 => ?_) (fun c_4 => ?_)
  · have h := if_t c_4 h
    refine lv_iconst (v := (0 : Int32)) hx hb dX8_set_26 (by decide) ?_
    exact x_zret E X rfl h dX8_set_27
  · have h := if_f c_4 h
    refine lv_aload_n hx hb dX8_set_15 rfl (lv_at hl 0 rfl) ?_
    refine lv_iload_n hx hb dX8_set_16 rfl (lv_at hl 2 rfl) ?_
    refine lv_iconst (v := (0 : Int32)) hx hb dX8_set_17 (by decide) ?_
    refine lv_bipush (v := (99 : Int32)) hx hb dX8_set_18 (by decide) ?_
    obtain ⟨r_5, S_6, hr_5, h⟩ := bnd_s h
    refine x_callV E X cwX8_107 (mX8_isIn l Z hQ  x2 (0 : Int32) (99 : Int32) hr_5) rfl rfl rfl rfl hl.1 rfl dX8_set_20 (fun H locs X => ?_)
    refine lv_if_ne (tgt := 28) hx hb dX8_set_23 (by decide) (fun c_7 => ?_) (fun c_7 => ?_)
    · have h := if_f c_7 h
      refine lv_aload_n hx hb dX8_set_28 rfl (lv_at hl 0 rfl) ?_
      refine x_getr E X ffX8_19 rfl rfl dX8_set_29 ?_
      refine lv_iload_n hx hb dX8_set_32 rfl (lv_at hl 1 rfl) ?_
      refine lv_iload_n hx hb dX8_set_33 rfl (lv_at hl 2 rfl) ?_
      obtain ⟨g_8, h⟩ := gd_s h
      obtain ⟨S_9, eS_9, h⟩ := ltm_s h
      refine x_iast E X rfl g_8 dX8_set_34 (fun H locs X => ?_)
      rw [← eS_9] at X
      refine lv_aload_n hx hb dX8_set_35 rfl (lv_at hl 0 rfl) ?_
      refine lv_iconst (v := (0 : Int32)) hx hb dX8_set_36 (by decide) ?_
      obtain ⟨S_10, eS_10, h⟩ := ltm_s h
      refine x_put E X fpX8_95 rfl rfl dX8_set_37 (fun H locs X => ?_)
      rw [← eS_10] at X
      refine lv_iconst (v := (1 : Int32)) hx hb dX8_set_40 (by decide) ?_
      exact x_zret E X rfl h dX8_set_41
    · have h := if_t c_7 h
      refine lv_iconst (v := (0 : Int32)) hx hb dX8_set_26 (by decide) ?_
      exact x_zret E X rfl h dX8_set_27
/-- SevenToAShadowModel.set(II)Z -/
theorem mX8_set (l : Launch) (Z : XG) (hQ : wQ (List.length mL) Z) {S S' : Mem} {r : Int32} (x1 x2 : Int32) (h : fX8_set S x1 x2 = some (r, S')) : XM l yX8_set cX8_set 3 (some .boolean) { frames := 1, cells := 0, slots := 0, locals := 23 } mL Z [.ref (Z.2.1 0), .int x1, .int x2] S (XQ mL Z r S') := by
  refine XM.of (own := RX8) (by decide +kernel) rfl rfl hQ (fun p e s m args below meth c E ls hl X => ?_)
  exact wX8_set E S x1 x2 h _ _ _ X hl
def fX8_whoAt_2_b (k0 : Mem → Int32 → Int32 → O) (S : Mem) (x1 x2 : Int32) : O := (if (S 0 6) ≤ x2 then some ((-1 : Int32), S) else gd (inB ((5 : Int32) + x2) 55) <| (if (S 1 (((5 : Int32) + x2)).toNatClampNeg) = x1 then some (x2, S) else k0 S x1 (x2 + (1 : Int32))))
def fX8_whoAt_2 : Nat → Mem → Int32 → Int32 → O
  | 0 => fun _ _ _ => none
  | n + 1 => fX8_whoAt_2_b (fX8_whoAt_2 n)
def fX8_whoAt (S : Mem) (x1 : Int32) : O := fX8_whoAt_2  FU S x1 (0 : Int32)
theorem dX8_whoAt_0 : decode cX8_whoAt 0 = .ok (.iconst 0, 1) := by decide +kernel
theorem dX8_whoAt_1 : decode cX8_whoAt 1 = .ok (.istore_n 2, 1) := by decide +kernel
theorem dX8_whoAt_2 : decode cX8_whoAt 2 = .ok (.iload_n 2, 1) := by decide +kernel
theorem dX8_whoAt_3 : decode cX8_whoAt 3 = .ok (.aload_n 0, 1) := by decide +kernel
theorem dX8_whoAt_4 : decode cX8_whoAt 4 = .ok (.getfield 100, 3) := by decide +kernel
theorem dX8_whoAt_7 : decode cX8_whoAt 7 = .ok (.if_icmp .ge 23, 3) := by decide +kernel
theorem dX8_whoAt_10 : decode cX8_whoAt 10 = .ok (.aload_n 0, 1) := by decide +kernel
theorem dX8_whoAt_11 : decode cX8_whoAt 11 = .ok (.getfield 7, 3) := by decide +kernel
theorem dX8_whoAt_14 : decode cX8_whoAt 14 = .ok (.iconst 5, 1) := by decide +kernel
theorem dX8_whoAt_15 : decode cX8_whoAt 15 = .ok (.iload_n 2, 1) := by decide +kernel
theorem dX8_whoAt_16 : decode cX8_whoAt 16 = .ok (.iadd, 1) := by decide +kernel
theorem dX8_whoAt_17 : decode cX8_whoAt 17 = .ok (.iaload, 1) := by decide +kernel
theorem dX8_whoAt_18 : decode cX8_whoAt 18 = .ok (.iload_n 1, 1) := by decide +kernel
theorem dX8_whoAt_19 : decode cX8_whoAt 19 = .ok (.if_icmp .ne 5, 3) := by decide +kernel
theorem dX8_whoAt_22 : decode cX8_whoAt 22 = .ok (.iload_n 2, 1) := by decide +kernel
theorem dX8_whoAt_23 : decode cX8_whoAt 23 = .ok (.ireturn, 1) := by decide +kernel
theorem dX8_whoAt_24 : decode cX8_whoAt 24 = .ok (.iinc 2 1, 3) := by decide +kernel
theorem dX8_whoAt_27 : decode cX8_whoAt 27 = .ok (.goto (-25), 3) := by decide +kernel
theorem dX8_whoAt_30 : decode cX8_whoAt 30 = .ok (.iconst (-1), 1) := by decide +kernel
theorem dX8_whoAt_31 : decode cX8_whoAt 31 = .ok (.ireturn, 1) := by decide +kernel
set_option maxRecDepth 20000 in
theorem wX8_whoAt_2_b {p : Program} {l : Launch} {e : Env} {s : State} {m : MethodId} {args : Array Value} {below : List Frame} {meth : Method} {c : Code} {Z : XG} {r : Int32} {S' : Mem} (E : XE p s m args meth c cX8_whoAt 3 RX8 (some .int) mL Z) (k0 : Mem → Int32 → Int32 → O)  (hk0 : ∀ (S : Mem) (x1 x2 : Int32), k0 S x1 x2 = some (r, S') → WN p l e { frames := 0, cells := 0, slots := 0, locals := 0 } s m args below meth c mL Z (XQ mL Z r S') S 2 3 [(0, .ref (Z.2.1 0)), (1, .int x1), (2, .int x2)] []) : ∀ (S : Mem) (x1 x2 : Int32), fX8_whoAt_2_b k0 S x1 x2 = some (r, S') → WN p l e { frames := 0, cells := 0, slots := 0, locals := 0 } s m args below meth c mL Z (XQ mL Z r S') S 2 3 [(0, .ref (Z.2.1 0)), (1, .int x1), (2, .int x2)] [] := by
  obtain ⟨hx, hb, -, -, -, -, -, -, -, hQ⟩ := id E
  intro S x1 x2 h H locs ls X hl
  unfold fX8_whoAt_2_b at h
  refine lv_iload_n hx hb dX8_whoAt_2 rfl (lv_at hl 2 rfl) ?_
  refine lv_aload_n hx hb dX8_whoAt_3 rfl (lv_at hl 0 rfl) ?_
  refine x_get E X ffX8_100 rfl rfl dX8_whoAt_4 ?_
  refine lv_icmp_ge (tgt := 30) hx hb dX8_whoAt_7 (by decide) (fun c_1 => ?_) (fun c_1 => ?_)
  · have h := if_t c_1 h
    refine lv_iconst (v := (-1 : Int32)) hx hb dX8_whoAt_30 (by decide) ?_
    exact x_iret E X h dX8_whoAt_31
  · have h := if_f c_1 h
    refine lv_aload_n hx hb dX8_whoAt_10 rfl (lv_at hl 0 rfl) ?_
    refine x_getr E X ffX8_7 rfl rfl dX8_whoAt_11 ?_
    refine lv_iconst (v := (5 : Int32)) hx hb dX8_whoAt_14 (by decide) ?_
    refine lv_iload_n hx hb dX8_whoAt_15 rfl (lv_at hl 2 rfl) ?_
    refine lv_iadd hx hb dX8_whoAt_16 ?_
    obtain ⟨g_2, h⟩ := gd_s h
    refine x_iald E X rfl g_2 dX8_whoAt_17 ?_
    refine lv_iload_n hx hb dX8_whoAt_18 rfl (lv_at hl 1 rfl) ?_
    refine lv_icmp_ne (tgt := 24) hx hb dX8_whoAt_19 (by decide) (fun c_3 => ?_) (fun c_3 => ?_)
    · have h := if_f c_3 h
      refine lv_iinc (v := (x2 + (1 : Int32))) (lv' := [(2, .int (x2 + (1 : Int32))), (0, .ref (Z.2.1 0)), (1, .int x1)]) hx hb dX8_whoAt_24 hl (k := 2) rfl rfl (by decide) rfl (fun ls hl => ?_)
      refine lv_goto (tgt := 2) hx hb dX8_whoAt_27 (by decide) ?_
      exact hk0 S x1 (x2 + (1 : Int32)) h _ _ _ X (lv_sub hl [1, 2, 0] rfl)
    · have h := if_t c_3 h
      refine lv_iload_n hx hb dX8_whoAt_22 rfl (lv_at hl 2 rfl) ?_
      exact x_iret E X h dX8_whoAt_23
theorem wX8_whoAt_2 {p : Program} {l : Launch} {e : Env} {s : State} {m : MethodId} {args : Array Value} {below : List Frame} {meth : Method} {c : Code} {Z : XG} {r : Int32} {S' : Mem} (E : XE p s m args meth c cX8_whoAt 3 RX8 (some .int) mL Z) : ∀ (n : Nat) (S : Mem) (x1 x2 : Int32), fX8_whoAt_2 n S x1 x2 = some (r, S') → WN p l e { frames := 0, cells := 0, slots := 0, locals := 0 } s m args below meth c mL Z (XQ mL Z r S') S 2 3 [(0, .ref (Z.2.1 0)), (1, .int x1), (2, .int x2)] [] := by
  intro n
  induction n with
  | zero => intro S x1 x2 h; exact absurd (show (none : O) = some _ from h) (by simp)
  | succ n ih => intro S x1 x2 h; exact wX8_whoAt_2_b E (fX8_whoAt_2 n) ih S x1 x2 h
set_option maxRecDepth 20000 in
theorem wX8_whoAt {p : Program} {l : Launch} {e : Env} {s : State} {m : MethodId} {args : Array Value} {below : List Frame} {meth : Method} {c : Code} {Z : XG} {r : Int32} {S' : Mem} (E : XE p s m args meth c cX8_whoAt 3 RX8 (some .int) mL Z) : ∀ (S : Mem) (x1 : Int32), fX8_whoAt  S x1 = some (r, S') → WN p l e { frames := 0, cells := 0, slots := 0, locals := 0 } s m args below meth c mL Z (XQ mL Z r S') S 0 3 [(0, .ref (Z.2.1 0)), (1, .int x1)] [] := by
  obtain ⟨hx, hb, -, -, -, -, -, -, -, hQ⟩ := id E
  intro S x1 h H locs ls X hl
  unfold fX8_whoAt at h
  refine lv_iconst (v := (0 : Int32)) hx hb dX8_whoAt_0 (by decide) ?_
  refine lv_istore_n (lv' := [(2, .int (0 : Int32)), (0, .ref (Z.2.1 0)), (1, .int x1)]) hx hb dX8_whoAt_1 rfl hl (by decide) rfl (fun ls hl => ?_)
  exact wX8_whoAt_2 E   FU S x1 (0 : Int32) h _ _ _ X (lv_sub hl [1, 2, 0] rfl)
/-- SevenToAShadowModel.whoAt(I)I -/
theorem mX8_whoAt (l : Launch) (Z : XG) (hQ : wQ (List.length mL) Z) {S S' : Mem} {r : Int32} (x1 : Int32) (h : fX8_whoAt S x1 = some (r, S')) : XM l yX8_whoAt cX8_whoAt 3 (some .int) { frames := 0, cells := 0, slots := 0, locals := 0 } mL Z [.ref (Z.2.1 0), .int x1] S (XQ mL Z r S') := by
  refine XM.of (own := RX8) (by decide +kernel) rfl rfl hQ (fun p e s m args below meth c E ls hl X => ?_)
  exact wX8_whoAt E S x1 h _ _ _ X hl
def fX8_pilgrim (S : Mem) (x1 x2 x3 x4 x5 : Int32) : O := ltm (mset S 0 0 (0 : Int32)) fun S_1 => bnd (fX8_isIn S_1 x1 (0 : Int32) (24 : Int32)) fun r_2 S_3 => (if r_2 = 0 then some ((-1 : Int32), S_3) else bnd (fX8_whoAt S_3 x1) fun r_5 S_6 => (if r_5 = (-1 : Int32) then bnd (fX8_isIn S_6 x2 (0 : Int32) (9 : Int32)) fun r_8 S_9 => (if r_8 = 0 then some ((-1 : Int32), S_9) else bnd (fX8_isIn S_9 x3 (1 : Int32) (3 : Int32)) fun r_11 S_12 => (if r_11 = 0 then some ((-1 : Int32), S_12) else bnd (fX8_isIn S_12 x4 (0 : Int32) (9 : Int32)) fun r_14 S_15 => (if r_14 = 0 then some ((-1 : Int32), S_15) else bnd (fX8_isIn S_15 x5 (0 : Int32) (9999 : Int32)) fun r_17 S_18 => (if r_17 = 0 then some ((-1 : Int32), S_18) else (if (S_18 0 6) = (10 : Int32) then some ((-1 : Int32), S_18) else gd (inB ((5 : Int32) + (S_18 0 6)) 55) <| ltm (mset S_18 1 (((5 : Int32) + (S_18 0 6))).toNatClampNeg x1) fun S_22 => gd (inB ((15 : Int32) + (S_22 0 6)) 55) <| ltm (mset S_22 1 (((15 : Int32) + (S_22 0 6))).toNatClampNeg x5) fun S_24 => gd (inB (S_24 0 6) 10) <| ltm (mset S_24 5 ((S_24 0 6)).toNatClampNeg x2) fun S_26 => gd (inB (S_26 0 6) 10) <| ltm (mset S_26 6 ((S_26 0 6)).toNatClampNeg x3) fun S_28 => gd (inB (S_28 0 6) 10) <| ltm (mset S_28 7 ((S_28 0 6)).toNatClampNeg x4) fun S_30 => ltm (mset S_30 0 6 ((S_30 0 6) + (1 : Int32))) fun S_31 => ltm (mset S_31 0 3 (0 : Int32)) fun S_32 => some (((S_32 0 6) - (1 : Int32)), S_32)))))) else some ((-1 : Int32), S_6)))
theorem dX8_pilgrim_0 : decode cX8_pilgrim 0 = .ok (.aload_n 0, 1) := by decide +kernel
theorem dX8_pilgrim_1 : decode cX8_pilgrim 1 = .ok (.iconst 0, 1) := by decide +kernel
theorem dX8_pilgrim_2 : decode cX8_pilgrim 2 = .ok (.putfield 92, 3) := by decide +kernel
theorem dX8_pilgrim_5 : decode cX8_pilgrim 5 = .ok (.aload_n 0, 1) := by decide +kernel
theorem dX8_pilgrim_6 : decode cX8_pilgrim 6 = .ok (.iload_n 1, 1) := by decide +kernel
theorem dX8_pilgrim_7 : decode cX8_pilgrim 7 = .ok (.iconst 0, 1) := by decide +kernel
theorem dX8_pilgrim_8 : decode cX8_pilgrim 8 = .ok (.bipush 24, 2) := by decide +kernel
theorem dX8_pilgrim_10 : decode cX8_pilgrim 10 = .ok (.invokevirtual 107, 3) := by decide +kernel
theorem dX8_pilgrim_13 : decode cX8_pilgrim 13 = .ok (.ifCond .eq 67, 3) := by decide +kernel
theorem dX8_pilgrim_16 : decode cX8_pilgrim 16 = .ok (.aload_n 0, 1) := by decide +kernel
theorem dX8_pilgrim_17 : decode cX8_pilgrim 17 = .ok (.iload_n 1, 1) := by decide +kernel
theorem dX8_pilgrim_18 : decode cX8_pilgrim 18 = .ok (.invokevirtual 115, 3) := by decide +kernel
theorem dX8_pilgrim_21 : decode cX8_pilgrim 21 = .ok (.iconst (-1), 1) := by decide +kernel
theorem dX8_pilgrim_22 : decode cX8_pilgrim 22 = .ok (.if_icmp .ne 58, 3) := by decide +kernel
theorem dX8_pilgrim_25 : decode cX8_pilgrim 25 = .ok (.aload_n 0, 1) := by decide +kernel
theorem dX8_pilgrim_26 : decode cX8_pilgrim 26 = .ok (.iload_n 2, 1) := by decide +kernel
theorem dX8_pilgrim_27 : decode cX8_pilgrim 27 = .ok (.iconst 0, 1) := by decide +kernel
theorem dX8_pilgrim_28 : decode cX8_pilgrim 28 = .ok (.bipush 9, 2) := by decide +kernel
theorem dX8_pilgrim_30 : decode cX8_pilgrim 30 = .ok (.invokevirtual 107, 3) := by decide +kernel
theorem dX8_pilgrim_33 : decode cX8_pilgrim 33 = .ok (.ifCond .eq 47, 3) := by decide +kernel
theorem dX8_pilgrim_36 : decode cX8_pilgrim 36 = .ok (.aload_n 0, 1) := by decide +kernel
theorem dX8_pilgrim_37 : decode cX8_pilgrim 37 = .ok (.iload_n 3, 1) := by decide +kernel
theorem dX8_pilgrim_38 : decode cX8_pilgrim 38 = .ok (.iconst 1, 1) := by decide +kernel
theorem dX8_pilgrim_39 : decode cX8_pilgrim 39 = .ok (.iconst 3, 1) := by decide +kernel
theorem dX8_pilgrim_40 : decode cX8_pilgrim 40 = .ok (.invokevirtual 107, 3) := by decide +kernel
theorem dX8_pilgrim_43 : decode cX8_pilgrim 43 = .ok (.ifCond .eq 37, 3) := by decide +kernel
theorem dX8_pilgrim_46 : decode cX8_pilgrim 46 = .ok (.aload_n 0, 1) := by decide +kernel
theorem dX8_pilgrim_47 : decode cX8_pilgrim 47 = .ok (.iload 4, 2) := by decide +kernel
theorem dX8_pilgrim_49 : decode cX8_pilgrim 49 = .ok (.iconst 0, 1) := by decide +kernel
theorem dX8_pilgrim_50 : decode cX8_pilgrim 50 = .ok (.bipush 9, 2) := by decide +kernel
theorem dX8_pilgrim_52 : decode cX8_pilgrim 52 = .ok (.invokevirtual 107, 3) := by decide +kernel
theorem dX8_pilgrim_55 : decode cX8_pilgrim 55 = .ok (.ifCond .eq 25, 3) := by decide +kernel
theorem dX8_pilgrim_58 : decode cX8_pilgrim 58 = .ok (.aload_n 0, 1) := by decide +kernel
theorem dX8_pilgrim_59 : decode cX8_pilgrim 59 = .ok (.iload 5, 2) := by decide +kernel
theorem dX8_pilgrim_61 : decode cX8_pilgrim 61 = .ok (.iconst 0, 1) := by decide +kernel
theorem dX8_pilgrim_62 : decode cX8_pilgrim 62 = .ok (.sipush 9999, 3) := by decide +kernel
theorem dX8_pilgrim_65 : decode cX8_pilgrim 65 = .ok (.invokevirtual 107, 3) := by decide +kernel
theorem dX8_pilgrim_68 : decode cX8_pilgrim 68 = .ok (.ifCond .eq 12, 3) := by decide +kernel
theorem dX8_pilgrim_71 : decode cX8_pilgrim 71 = .ok (.aload_n 0, 1) := by decide +kernel
theorem dX8_pilgrim_72 : decode cX8_pilgrim 72 = .ok (.getfield 100, 3) := by decide +kernel
theorem dX8_pilgrim_75 : decode cX8_pilgrim 75 = .ok (.bipush 10, 2) := by decide +kernel
theorem dX8_pilgrim_77 : decode cX8_pilgrim 77 = .ok (.if_icmp .ne 5, 3) := by decide +kernel
theorem dX8_pilgrim_80 : decode cX8_pilgrim 80 = .ok (.iconst (-1), 1) := by decide +kernel
theorem dX8_pilgrim_81 : decode cX8_pilgrim 81 = .ok (.ireturn, 1) := by decide +kernel
theorem dX8_pilgrim_82 : decode cX8_pilgrim 82 = .ok (.aload_n 0, 1) := by decide +kernel
theorem dX8_pilgrim_83 : decode cX8_pilgrim 83 = .ok (.getfield 7, 3) := by decide +kernel
theorem dX8_pilgrim_86 : decode cX8_pilgrim 86 = .ok (.iconst 5, 1) := by decide +kernel
theorem dX8_pilgrim_87 : decode cX8_pilgrim 87 = .ok (.aload_n 0, 1) := by decide +kernel
theorem dX8_pilgrim_88 : decode cX8_pilgrim 88 = .ok (.getfield 100, 3) := by decide +kernel
theorem dX8_pilgrim_91 : decode cX8_pilgrim 91 = .ok (.iadd, 1) := by decide +kernel
theorem dX8_pilgrim_92 : decode cX8_pilgrim 92 = .ok (.iload_n 1, 1) := by decide +kernel
theorem dX8_pilgrim_93 : decode cX8_pilgrim 93 = .ok (.iastore, 1) := by decide +kernel
theorem dX8_pilgrim_94 : decode cX8_pilgrim 94 = .ok (.aload_n 0, 1) := by decide +kernel
theorem dX8_pilgrim_95 : decode cX8_pilgrim 95 = .ok (.getfield 7, 3) := by decide +kernel
theorem dX8_pilgrim_98 : decode cX8_pilgrim 98 = .ok (.bipush 15, 2) := by decide +kernel
theorem dX8_pilgrim_100 : decode cX8_pilgrim 100 = .ok (.aload_n 0, 1) := by decide +kernel
theorem dX8_pilgrim_101 : decode cX8_pilgrim 101 = .ok (.getfield 100, 3) := by decide +kernel
theorem dX8_pilgrim_104 : decode cX8_pilgrim 104 = .ok (.iadd, 1) := by decide +kernel
theorem dX8_pilgrim_105 : decode cX8_pilgrim 105 = .ok (.iload 5, 2) := by decide +kernel
theorem dX8_pilgrim_107 : decode cX8_pilgrim 107 = .ok (.iastore, 1) := by decide +kernel
theorem dX8_pilgrim_108 : decode cX8_pilgrim 108 = .ok (.aload_n 0, 1) := by decide +kernel
theorem dX8_pilgrim_109 : decode cX8_pilgrim 109 = .ok (.getfield 22, 3) := by decide +kernel
theorem dX8_pilgrim_112 : decode cX8_pilgrim 112 = .ok (.aload_n 0, 1) := by decide +kernel
theorem dX8_pilgrim_113 : decode cX8_pilgrim 113 = .ok (.getfield 100, 3) := by decide +kernel
theorem dX8_pilgrim_116 : decode cX8_pilgrim 116 = .ok (.iload_n 2, 1) := by decide +kernel
theorem dX8_pilgrim_117 : decode cX8_pilgrim 117 = .ok (.iastore, 1) := by decide +kernel
theorem dX8_pilgrim_118 : decode cX8_pilgrim 118 = .ok (.aload_n 0, 1) := by decide +kernel
theorem dX8_pilgrim_119 : decode cX8_pilgrim 119 = .ok (.getfield 25, 3) := by decide +kernel
theorem dX8_pilgrim_122 : decode cX8_pilgrim 122 = .ok (.aload_n 0, 1) := by decide +kernel
theorem dX8_pilgrim_123 : decode cX8_pilgrim 123 = .ok (.getfield 100, 3) := by decide +kernel
theorem dX8_pilgrim_126 : decode cX8_pilgrim 126 = .ok (.iload_n 3, 1) := by decide +kernel
theorem dX8_pilgrim_127 : decode cX8_pilgrim 127 = .ok (.iastore, 1) := by decide +kernel
theorem dX8_pilgrim_128 : decode cX8_pilgrim 128 = .ok (.aload_n 0, 1) := by decide +kernel
theorem dX8_pilgrim_129 : decode cX8_pilgrim 129 = .ok (.getfield 28, 3) := by decide +kernel
theorem dX8_pilgrim_132 : decode cX8_pilgrim 132 = .ok (.aload_n 0, 1) := by decide +kernel
theorem dX8_pilgrim_133 : decode cX8_pilgrim 133 = .ok (.getfield 100, 3) := by decide +kernel
theorem dX8_pilgrim_136 : decode cX8_pilgrim 136 = .ok (.iload 4, 2) := by decide +kernel
theorem dX8_pilgrim_138 : decode cX8_pilgrim 138 = .ok (.iastore, 1) := by decide +kernel
theorem dX8_pilgrim_139 : decode cX8_pilgrim 139 = .ok (.aload_n 0, 1) := by decide +kernel
theorem dX8_pilgrim_140 : decode cX8_pilgrim 140 = .ok (.aload_n 0, 1) := by decide +kernel
theorem dX8_pilgrim_141 : decode cX8_pilgrim 141 = .ok (.getfield 100, 3) := by decide +kernel
theorem dX8_pilgrim_144 : decode cX8_pilgrim 144 = .ok (.iconst 1, 1) := by decide +kernel
theorem dX8_pilgrim_145 : decode cX8_pilgrim 145 = .ok (.iadd, 1) := by decide +kernel
theorem dX8_pilgrim_146 : decode cX8_pilgrim 146 = .ok (.putfield 100, 3) := by decide +kernel
theorem dX8_pilgrim_149 : decode cX8_pilgrim 149 = .ok (.aload_n 0, 1) := by decide +kernel
theorem dX8_pilgrim_150 : decode cX8_pilgrim 150 = .ok (.iconst 0, 1) := by decide +kernel
theorem dX8_pilgrim_151 : decode cX8_pilgrim 151 = .ok (.putfield 95, 3) := by decide +kernel
theorem dX8_pilgrim_154 : decode cX8_pilgrim 154 = .ok (.aload_n 0, 1) := by decide +kernel
theorem dX8_pilgrim_155 : decode cX8_pilgrim 155 = .ok (.getfield 100, 3) := by decide +kernel
theorem dX8_pilgrim_158 : decode cX8_pilgrim 158 = .ok (.iconst 1, 1) := by decide +kernel
theorem dX8_pilgrim_159 : decode cX8_pilgrim 159 = .ok (.isub, 1) := by decide +kernel
theorem dX8_pilgrim_160 : decode cX8_pilgrim 160 = .ok (.ireturn, 1) := by decide +kernel
set_option maxRecDepth 20000 in
theorem wX8_pilgrim {p : Program} {l : Launch} {e : Env} {s : State} {m : MethodId} {args : Array Value} {below : List Frame} {meth : Method} {c : Code} {Z : XG} {r : Int32} {S' : Mem} (E : XE p s m args meth c cX8_pilgrim 6 RX8 (some .int) mL Z) : ∀ (S : Mem) (x1 x2 x3 x4 x5 : Int32), fX8_pilgrim  S x1 x2 x3 x4 x5 = some (r, S') → WN p l e { frames := 1, cells := 0, slots := 0, locals := 23 } s m args below meth c mL Z (XQ mL Z r S') S 0 6 [(0, .ref (Z.2.1 0)), (1, .int x1), (2, .int x2), (3, .int x3), (4, .int x4), (5, .int x5)] [] := by
  obtain ⟨hx, hb, -, -, -, -, -, -, -, hQ⟩ := id E
  intro S x1 x2 x3 x4 x5 h H locs ls X hl
  unfold fX8_pilgrim at h
  refine lv_aload_n hx hb dX8_pilgrim_0 rfl (lv_at hl 0 rfl) ?_
  refine lv_iconst (v := (0 : Int32)) hx hb dX8_pilgrim_1 (by decide) ?_
  obtain ⟨S_1, eS_1, h⟩ := ltm_s h
  refine x_put E X fpX8_92 rfl rfl dX8_pilgrim_2 (fun H locs X => ?_)
  rw [← eS_1] at X
  refine lv_aload_n hx hb dX8_pilgrim_5 rfl (lv_at hl 0 rfl) ?_
  refine lv_iload_n hx hb dX8_pilgrim_6 rfl (lv_at hl 1 rfl) ?_
  refine lv_iconst (v := (0 : Int32)) hx hb dX8_pilgrim_7 (by decide) ?_
  refine lv_bipush (v := (24 : Int32)) hx hb dX8_pilgrim_8 (by decide) ?_
  obtain ⟨r_2, S_3, hr_2, h⟩ := bnd_s h
  refine x_callV E X cwX8_107 (mX8_isIn l Z hQ  x1 (0 : Int32) (24 : Int32) hr_2) rfl rfl rfl rfl hl.1 rfl dX8_pilgrim_10 (fun H locs X => ?_)
  refine lv_if_eq (tgt := 80) hx hb dX8_pilgrim_13 (by decide) (fun c_4 => ?_) (fun c_4 => ?_)
  · have h := if_t c_4 h
    refine lv_iconst (v := (-1 : Int32)) hx hb dX8_pilgrim_80 (by decide) ?_
    exact x_iret E X h dX8_pilgrim_81
  · have h := if_f c_4 h
    refine lv_aload_n hx hb dX8_pilgrim_16 rfl (lv_at hl 0 rfl) ?_
    refine lv_iload_n hx hb dX8_pilgrim_17 rfl (lv_at hl 1 rfl) ?_
    obtain ⟨r_5, S_6, hr_5, h⟩ := bnd_s h
    refine x_callV E X cwX8_115 (mX8_whoAt l Z hQ  x1 hr_5) rfl rfl rfl rfl hl.1 rfl dX8_pilgrim_18 (fun H locs X => ?_)
    refine lv_iconst (v := (-1 : Int32)) hx hb dX8_pilgrim_21 (by decide) ?_
    refine lv_icmp_ne (tgt := 80) hx hb dX8_pilgrim_22 (by decide) (fun c_7 => ?_) (fun c_7 => ?_)
    · have h := if_f c_7 h
      refine lv_iconst (v := (-1 : Int32)) hx hb dX8_pilgrim_80 (by decide) ?_
      exact x_iret E X h dX8_pilgrim_81
    · have h := if_t c_7 h
      refine lv_aload_n hx hb dX8_pilgrim_25 rfl (lv_at hl 0 rfl) ?_
      refine lv_iload_n hx hb dX8_pilgrim_26 rfl (lv_at hl 2 rfl) ?_
      refine lv_iconst (v := (0 : Int32)) hx hb dX8_pilgrim_27 (by decide) ?_
      refine lv_bipush (v := (9 : Int32)) hx hb dX8_pilgrim_28 (by decide) ?_
      obtain ⟨r_8, S_9, hr_8, h⟩ := bnd_s h
      refine x_callV E X cwX8_107 (mX8_isIn l Z hQ  x2 (0 : Int32) (9 : Int32) hr_8) rfl rfl rfl rfl hl.1 rfl dX8_pilgrim_30 (fun H locs X => ?_)
      refine lv_if_eq (tgt := 80) hx hb dX8_pilgrim_33 (by decide) (fun c_10 => ?_) (fun c_10 => ?_)
      · have h := if_t c_10 h
        refine lv_iconst (v := (-1 : Int32)) hx hb dX8_pilgrim_80 (by decide) ?_
        exact x_iret E X h dX8_pilgrim_81
      · have h := if_f c_10 h
        refine lv_aload_n hx hb dX8_pilgrim_36 rfl (lv_at hl 0 rfl) ?_
        refine lv_iload_n hx hb dX8_pilgrim_37 rfl (lv_at hl 3 rfl) ?_
        refine lv_iconst (v := (1 : Int32)) hx hb dX8_pilgrim_38 (by decide) ?_
        refine lv_iconst (v := (3 : Int32)) hx hb dX8_pilgrim_39 (by decide) ?_
        obtain ⟨r_11, S_12, hr_11, h⟩ := bnd_s h
        refine x_callV E X cwX8_107 (mX8_isIn l Z hQ  x3 (1 : Int32) (3 : Int32) hr_11) rfl rfl rfl rfl hl.1 rfl dX8_pilgrim_40 (fun H locs X => ?_)
        refine lv_if_eq (tgt := 80) hx hb dX8_pilgrim_43 (by decide) (fun c_13 => ?_) (fun c_13 => ?_)
        · have h := if_t c_13 h
          refine lv_iconst (v := (-1 : Int32)) hx hb dX8_pilgrim_80 (by decide) ?_
          exact x_iret E X h dX8_pilgrim_81
        · have h := if_f c_13 h
          refine lv_aload_n hx hb dX8_pilgrim_46 rfl (lv_at hl 0 rfl) ?_
          refine lv_iload hx hb dX8_pilgrim_47 (lv_at hl 4 rfl) ?_
          refine lv_iconst (v := (0 : Int32)) hx hb dX8_pilgrim_49 (by decide) ?_
          refine lv_bipush (v := (9 : Int32)) hx hb dX8_pilgrim_50 (by decide) ?_
          obtain ⟨r_14, S_15, hr_14, h⟩ := bnd_s h
          refine x_callV E X cwX8_107 (mX8_isIn l Z hQ  x4 (0 : Int32) (9 : Int32) hr_14) rfl rfl rfl rfl hl.1 rfl dX8_pilgrim_52 (fun H locs X => ?_)
          refine lv_if_eq (tgt := 80) hx hb dX8_pilgrim_55 (by decide) (fun c_16 => ?_) (fun c_16 => ?_)
          · have h := if_t c_16 h
            refine lv_iconst (v := (-1 : Int32)) hx hb dX8_pilgrim_80 (by decide) ?_
            exact x_iret E X h dX8_pilgrim_81
          · have h := if_f c_16 h
            refine lv_aload_n hx hb dX8_pilgrim_58 rfl (lv_at hl 0 rfl) ?_
            refine lv_iload hx hb dX8_pilgrim_59 (lv_at hl 5 rfl) ?_
            refine lv_iconst (v := (0 : Int32)) hx hb dX8_pilgrim_61 (by decide) ?_
            refine lv_sipush (v := (9999 : Int32)) hx hb dX8_pilgrim_62 (by decide) ?_
            obtain ⟨r_17, S_18, hr_17, h⟩ := bnd_s h
            refine x_callV E X cwX8_107 (mX8_isIn l Z hQ  x5 (0 : Int32) (9999 : Int32) hr_17) rfl rfl rfl rfl hl.1 rfl dX8_pilgrim_65 (fun H locs X => ?_)
            refine lv_if_eq (tgt := 80) hx hb dX8_pilgrim_68 (by decide) (fun c_19 => ?_) (fun c_19 => ?_)
            · have h := if_t c_19 h
              refine lv_iconst (v := (-1 : Int32)) hx hb dX8_pilgrim_80 (by decide) ?_
              exact x_iret E X h dX8_pilgrim_81
            · have h := if_f c_19 h
              refine lv_aload_n hx hb dX8_pilgrim_71 rfl (lv_at hl 0 rfl) ?_
              refine x_get E X ffX8_100 rfl rfl dX8_pilgrim_72 ?_
              refine lv_bipush (v := (10 : Int32)) hx hb dX8_pilgrim_75 (by decide) ?_
              refine lv_icmp_ne (tgt := 82) hx hb dX8_pilgrim_77 (by decide) (fun c_20 => ?_) (fun c_20 => ?_)
              · have h := if_f c_20 h
                refine lv_aload_n hx hb dX8_pilgrim_82 rfl (lv_at hl 0 rfl) ?_
                refine x_getr E X ffX8_7 rfl rfl dX8_pilgrim_83 ?_
                refine lv_iconst (v := (5 : Int32)) hx hb dX8_pilgrim_86 (by decide) ?_
                refine lv_aload_n hx hb dX8_pilgrim_87 rfl (lv_at hl 0 rfl) ?_
                refine x_get E X ffX8_100 rfl rfl dX8_pilgrim_88 ?_
                refine lv_iadd hx hb dX8_pilgrim_91 ?_
                refine lv_iload_n hx hb dX8_pilgrim_92 rfl (lv_at hl 1 rfl) ?_
                obtain ⟨g_21, h⟩ := gd_s h
                obtain ⟨S_22, eS_22, h⟩ := ltm_s h
                refine x_iast E X rfl g_21 dX8_pilgrim_93 (fun H locs X => ?_)
                rw [← eS_22] at X
                refine lv_aload_n hx hb dX8_pilgrim_94 rfl (lv_at hl 0 rfl) ?_
                refine x_getr E X ffX8_7 rfl rfl dX8_pilgrim_95 ?_
                refine lv_bipush (v := (15 : Int32)) hx hb dX8_pilgrim_98 (by decide) ?_
                refine lv_aload_n hx hb dX8_pilgrim_100 rfl (lv_at hl 0 rfl) ?_
                refine x_get E X ffX8_100 rfl rfl dX8_pilgrim_101 ?_
                refine lv_iadd hx hb dX8_pilgrim_104 ?_
                refine lv_iload hx hb dX8_pilgrim_105 (lv_at hl 5 rfl) ?_
                obtain ⟨g_23, h⟩ := gd_s h
                obtain ⟨S_24, eS_24, h⟩ := ltm_s h
                refine x_iast E X rfl g_23 dX8_pilgrim_107 (fun H locs X => ?_)
                rw [← eS_24] at X
                refine lv_aload_n hx hb dX8_pilgrim_108 rfl (lv_at hl 0 rfl) ?_
                refine x_getr E X ffX8_22 rfl rfl dX8_pilgrim_109 ?_
                refine lv_aload_n hx hb dX8_pilgrim_112 rfl (lv_at hl 0 rfl) ?_
                refine x_get E X ffX8_100 rfl rfl dX8_pilgrim_113 ?_
                refine lv_iload_n hx hb dX8_pilgrim_116 rfl (lv_at hl 2 rfl) ?_
                obtain ⟨g_25, h⟩ := gd_s h
                obtain ⟨S_26, eS_26, h⟩ := ltm_s h
                refine x_iast E X rfl g_25 dX8_pilgrim_117 (fun H locs X => ?_)
                rw [← eS_26] at X
                refine lv_aload_n hx hb dX8_pilgrim_118 rfl (lv_at hl 0 rfl) ?_
                refine x_getr E X ffX8_25 rfl rfl dX8_pilgrim_119 ?_
                refine lv_aload_n hx hb dX8_pilgrim_122 rfl (lv_at hl 0 rfl) ?_
                refine x_get E X ffX8_100 rfl rfl dX8_pilgrim_123 ?_
                refine lv_iload_n hx hb dX8_pilgrim_126 rfl (lv_at hl 3 rfl) ?_
                obtain ⟨g_27, h⟩ := gd_s h
                obtain ⟨S_28, eS_28, h⟩ := ltm_s h
                refine x_iast E X rfl g_27 dX8_pilgrim_127 (fun H locs X => ?_)
                rw [← eS_28] at X
                refine lv_aload_n hx hb dX8_pilgrim_128 rfl (lv_at hl 0 rfl) ?_
                refine x_getr E X ffX8_28 rfl rfl dX8_pilgrim_129 ?_
                refine lv_aload_n hx hb dX8_pilgrim_132 rfl (lv_at hl 0 rfl) ?_
                refine x_get E X ffX8_100 rfl rfl dX8_pilgrim_133 ?_
                refine lv_iload hx hb dX8_pilgrim_136 (lv_at hl 4 rfl) ?_
                obtain ⟨g_29, h⟩ := gd_s h
                obtain ⟨S_30, eS_30, h⟩ := ltm_s h
                refine x_iast E X rfl g_29 dX8_pilgrim_138 (fun H locs X => ?_)
                rw [← eS_30] at X
                refine lv_aload_n hx hb dX8_pilgrim_139 rfl (lv_at hl 0 rfl) ?_
                refine lv_aload_n hx hb dX8_pilgrim_140 rfl (lv_at hl 0 rfl) ?_
                refine x_get E X ffX8_100 rfl rfl dX8_pilgrim_141 ?_
                refine lv_iconst (v := (1 : Int32)) hx hb dX8_pilgrim_144 (by decide) ?_
                refine lv_iadd hx hb dX8_pilgrim_145 ?_
                obtain ⟨S_31, eS_31, h⟩ := ltm_s h
                refine x_put E X fpX8_100 rfl rfl dX8_pilgrim_146 (fun H locs X => ?_)
                rw [← eS_31] at X
                refine lv_aload_n hx hb dX8_pilgrim_149 rfl (lv_at hl 0 rfl) ?_
                refine lv_iconst (v := (0 : Int32)) hx hb dX8_pilgrim_150 (by decide) ?_
                obtain ⟨S_32, eS_32, h⟩ := ltm_s h
                refine x_put E X fpX8_95 rfl rfl dX8_pilgrim_151 (fun H locs X => ?_)
                rw [← eS_32] at X
                refine lv_aload_n hx hb dX8_pilgrim_154 rfl (lv_at hl 0 rfl) ?_
                refine x_get E X ffX8_100 rfl rfl dX8_pilgrim_155 ?_
                refine lv_iconst (v := (1 : Int32)) hx hb dX8_pilgrim_158 (by decide) ?_
                refine lv_isub hx hb dX8_pilgrim_159 ?_
                exact x_iret E X h dX8_pilgrim_160
              · have h := if_t c_20 h
                refine lv_iconst (v := (-1 : Int32)) hx hb dX8_pilgrim_80 (by decide) ?_
                exact x_iret E X h dX8_pilgrim_81
/-- SevenToAShadowModel.pilgrim(IIIII)I -/
theorem mX8_pilgrim (l : Launch) (Z : XG) (hQ : wQ (List.length mL) Z) {S S' : Mem} {r : Int32} (x1 x2 x3 x4 x5 : Int32) (h : fX8_pilgrim S x1 x2 x3 x4 x5 = some (r, S')) : XM l yX8_pilgrim cX8_pilgrim 6 (some .int) { frames := 1, cells := 0, slots := 0, locals := 23 } mL Z [.ref (Z.2.1 0), .int x1, .int x2, .int x3, .int x4, .int x5] S (XQ mL Z r S') := by
  refine XM.of (own := RX8) (by decide +kernel) rfl rfl hQ (fun p e s m args below meth c E ls hl X => ?_)
  exact wX8_pilgrim E S x1 x2 x3 x4 x5 h _ _ _ X hl
def fX8_isPilgrim (S : Mem) (x1 : Int32) : O := (if x1 < 0 then some ((0 : Int32), S) else (if (S 0 6) ≤ x1 then some ((0 : Int32), S) else some ((1 : Int32), S)))
theorem dX8_isPilgrim_0 : decode cX8_isPilgrim 0 = .ok (.iload_n 1, 1) := by decide +kernel
theorem dX8_isPilgrim_1 : decode cX8_isPilgrim 1 = .ok (.ifCond .lt 15, 3) := by decide +kernel
theorem dX8_isPilgrim_4 : decode cX8_isPilgrim 4 = .ok (.iload_n 1, 1) := by decide +kernel
theorem dX8_isPilgrim_5 : decode cX8_isPilgrim 5 = .ok (.aload_n 0, 1) := by decide +kernel
theorem dX8_isPilgrim_6 : decode cX8_isPilgrim 6 = .ok (.getfield 100, 3) := by decide +kernel
theorem dX8_isPilgrim_9 : decode cX8_isPilgrim 9 = .ok (.if_icmp .ge 7, 3) := by decide +kernel
theorem dX8_isPilgrim_12 : decode cX8_isPilgrim 12 = .ok (.iconst 1, 1) := by decide +kernel
theorem dX8_isPilgrim_13 : decode cX8_isPilgrim 13 = .ok (.goto 4, 3) := by decide +kernel
theorem dX8_isPilgrim_16 : decode cX8_isPilgrim 16 = .ok (.iconst 0, 1) := by decide +kernel
theorem dX8_isPilgrim_17 : decode cX8_isPilgrim 17 = .ok (.ireturn, 1) := by decide +kernel
set_option maxRecDepth 20000 in
theorem wX8_isPilgrim {p : Program} {l : Launch} {e : Env} {s : State} {m : MethodId} {args : Array Value} {below : List Frame} {meth : Method} {c : Code} {Z : XG} {r : Int32} {S' : Mem} (E : XE p s m args meth c cX8_isPilgrim 2 RX8 (some .boolean) mL Z) : ∀ (S : Mem) (x1 : Int32), fX8_isPilgrim  S x1 = some (r, S') → WN p l e { frames := 0, cells := 0, slots := 0, locals := 0 } s m args below meth c mL Z (XQ mL Z r S') S 0 2 [(0, .ref (Z.2.1 0)), (1, .int x1)] [] := by
  obtain ⟨hx, hb, -, -, -, -, -, -, -, hQ⟩ := id E
  intro S x1 h H locs ls X hl
  unfold fX8_isPilgrim at h
  refine lv_iload_n hx hb dX8_isPilgrim_0 rfl (lv_at hl 1 rfl) ?_
  refine lv_if_lt (tgt := 16) hx hb dX8_isPilgrim_1 (by decide) (fun c_1 => ?_) (fun c_1 => ?_)
  · have h := if_t c_1 h
    refine lv_iconst (v := (0 : Int32)) hx hb dX8_isPilgrim_16 (by decide) ?_
    exact x_zret E X rfl h dX8_isPilgrim_17
  · have h := if_f c_1 h
    refine lv_iload_n hx hb dX8_isPilgrim_4 rfl (lv_at hl 1 rfl) ?_
    refine lv_aload_n hx hb dX8_isPilgrim_5 rfl (lv_at hl 0 rfl) ?_
    refine x_get E X ffX8_100 rfl rfl dX8_isPilgrim_6 ?_
    refine lv_icmp_ge (tgt := 16) hx hb dX8_isPilgrim_9 (by decide) (fun c_2 => ?_) (fun c_2 => ?_)
    · have h := if_t c_2 h
      refine lv_iconst (v := (0 : Int32)) hx hb dX8_isPilgrim_16 (by decide) ?_
      exact x_zret E X rfl h dX8_isPilgrim_17
    · have h := if_f c_2 h
      refine lv_iconst (v := (1 : Int32)) hx hb dX8_isPilgrim_12 (by decide) ?_
      refine lv_goto (tgt := 17) hx hb dX8_isPilgrim_13 (by decide) ?_
      exact x_zret E X rfl h dX8_isPilgrim_17
/-- SevenToAShadowModel.isPilgrim(I)Z -/
theorem mX8_isPilgrim (l : Launch) (Z : XG) (hQ : wQ (List.length mL) Z) {S S' : Mem} {r : Int32} (x1 : Int32) (h : fX8_isPilgrim S x1 = some (r, S')) : XM l yX8_isPilgrim cX8_isPilgrim 2 (some .boolean) { frames := 0, cells := 0, slots := 0, locals := 0 } mL Z [.ref (Z.2.1 0), .int x1] S (XQ mL Z r S') := by
  refine XM.of (own := RX8) (by decide +kernel) rfl rfl hQ (fun p e s m args below meth c E ls hl X => ?_)
  exact wX8_isPilgrim E S x1 h _ _ _ X hl
def fX8_canGive_59 (S : Mem) (x3 : Int32) : O := bnd (fX8_isIn S x3 (0 : Int32) (1 : Int32)) fun r_1 S_2 => gd (isB r_1) <| some (r_1, S_2)
def fX8_canGive_43 (S : Mem) : O := some ((1 : Int32), S)
def fX8_canGive (S : Mem) (x1 x2 x3 : Int32) : O := bnd (fX8_isPilgrim S x1) fun r_1 S_2 => (if r_1 = 0 then some ((0 : Int32), S_2) else (if x2 = 0 then bnd (fX8_isIn S_2 x3 (0 : Int32) (24 : Int32)) fun r_11 S_12 => (if r_11 = 0 then some ((0 : Int32), S_12) else bnd (fX8_whoAt S_12 x3) fun r_14 S_15 => (if r_14 = (-1 : Int32) then fX8_canGive_43  S_15  else bnd (fX8_whoAt S_15 x3) fun r_17 S_18 => (if r_17 = x1 then fX8_canGive_43  S_18  else some ((0 : Int32), S_18)))) else (if x2 = (1 : Int32) then fX8_canGive_59  S_2 x3 else (if x2 = (2 : Int32) then fX8_canGive_59  S_2 x3 else (if x2 = (3 : Int32) then bnd (fX8_isIn S_2 x3 (0 : Int32) (9999 : Int32)) fun r_8 S_9 => (if r_8 = 0 then some ((0 : Int32), S_9) else some ((1 : Int32), S_9)) else some ((0 : Int32), S_2))))))
theorem dX8_canGive_0 : decode cX8_canGive 0 = .ok (.aload_n 0, 1) := by decide +kernel
theorem dX8_canGive_1 : decode cX8_canGive 1 = .ok (.iload_n 1, 1) := by decide +kernel
theorem dX8_canGive_2 : decode cX8_canGive 2 = .ok (.invokevirtual 118, 3) := by decide +kernel
theorem dX8_canGive_5 : decode cX8_canGive 5 = .ok (.ifCond .ne 5, 3) := by decide +kernel
theorem dX8_canGive_8 : decode cX8_canGive 8 = .ok (.iconst 0, 1) := by decide +kernel
theorem dX8_canGive_9 : decode cX8_canGive 9 = .ok (.ireturn, 1) := by decide +kernel
theorem dX8_canGive_10 : decode cX8_canGive 10 = .ok (.iload_n 2, 1) := by decide +kernel
theorem dX8_canGive_11 : decode cX8_canGive 11 = .ok (.ifCond .ne 38, 3) := by decide +kernel
theorem dX8_canGive_14 : decode cX8_canGive 14 = .ok (.aload_n 0, 1) := by decide +kernel
theorem dX8_canGive_15 : decode cX8_canGive 15 = .ok (.iload_n 3, 1) := by decide +kernel
theorem dX8_canGive_16 : decode cX8_canGive 16 = .ok (.iconst 0, 1) := by decide +kernel
theorem dX8_canGive_17 : decode cX8_canGive 17 = .ok (.bipush 24, 2) := by decide +kernel
theorem dX8_canGive_19 : decode cX8_canGive 19 = .ok (.invokevirtual 107, 3) := by decide +kernel
theorem dX8_canGive_22 : decode cX8_canGive 22 = .ok (.ifCond .eq 25, 3) := by decide +kernel
theorem dX8_canGive_25 : decode cX8_canGive 25 = .ok (.aload_n 0, 1) := by decide +kernel
theorem dX8_canGive_26 : decode cX8_canGive 26 = .ok (.iload_n 3, 1) := by decide +kernel
theorem dX8_canGive_27 : decode cX8_canGive 27 = .ok (.invokevirtual 115, 3) := by decide +kernel
theorem dX8_canGive_30 : decode cX8_canGive 30 = .ok (.iconst (-1), 1) := by decide +kernel
theorem dX8_canGive_31 : decode cX8_canGive 31 = .ok (.if_icmp .eq 12, 3) := by decide +kernel
theorem dX8_canGive_34 : decode cX8_canGive 34 = .ok (.aload_n 0, 1) := by decide +kernel
theorem dX8_canGive_35 : decode cX8_canGive 35 = .ok (.iload_n 3, 1) := by decide +kernel
theorem dX8_canGive_36 : decode cX8_canGive 36 = .ok (.invokevirtual 115, 3) := by decide +kernel
theorem dX8_canGive_39 : decode cX8_canGive 39 = .ok (.iload_n 1, 1) := by decide +kernel
theorem dX8_canGive_40 : decode cX8_canGive 40 = .ok (.if_icmp .ne 7, 3) := by decide +kernel
theorem dX8_canGive_43 : decode cX8_canGive 43 = .ok (.iconst 1, 1) := by decide +kernel
theorem dX8_canGive_44 : decode cX8_canGive 44 = .ok (.goto 4, 3) := by decide +kernel
theorem dX8_canGive_47 : decode cX8_canGive 47 = .ok (.iconst 0, 1) := by decide +kernel
theorem dX8_canGive_48 : decode cX8_canGive 48 = .ok (.ireturn, 1) := by decide +kernel
theorem dX8_canGive_49 : decode cX8_canGive 49 = .ok (.iload_n 2, 1) := by decide +kernel
theorem dX8_canGive_50 : decode cX8_canGive 50 = .ok (.iconst 1, 1) := by decide +kernel
theorem dX8_canGive_51 : decode cX8_canGive 51 = .ok (.if_icmp .eq 8, 3) := by decide +kernel
theorem dX8_canGive_54 : decode cX8_canGive 54 = .ok (.iload_n 2, 1) := by decide +kernel
theorem dX8_canGive_55 : decode cX8_canGive 55 = .ok (.iconst 2, 1) := by decide +kernel
theorem dX8_canGive_56 : decode cX8_canGive 56 = .ok (.if_icmp .ne 13, 3) := by decide +kernel
theorem dX8_canGive_59 : decode cX8_canGive 59 = .ok (.aload_n 0, 1) := by decide +kernel
theorem dX8_canGive_60 : decode cX8_canGive 60 = .ok (.iload_n 3, 1) := by decide +kernel
theorem dX8_canGive_61 : decode cX8_canGive 61 = .ok (.iconst 0, 1) := by decide +kernel
theorem dX8_canGive_62 : decode cX8_canGive 62 = .ok (.iconst 1, 1) := by decide +kernel
theorem dX8_canGive_63 : decode cX8_canGive 63 = .ok (.invokevirtual 107, 3) := by decide +kernel
theorem dX8_canGive_66 : decode cX8_canGive 66 = .ok (.goto 25, 3) := by decide +kernel
theorem dX8_canGive_69 : decode cX8_canGive 69 = .ok (.iload_n 2, 1) := by decide +kernel
theorem dX8_canGive_70 : decode cX8_canGive 70 = .ok (.iconst 3, 1) := by decide +kernel
theorem dX8_canGive_71 : decode cX8_canGive 71 = .ok (.if_icmp .ne 19, 3) := by decide +kernel
theorem dX8_canGive_74 : decode cX8_canGive 74 = .ok (.aload_n 0, 1) := by decide +kernel
theorem dX8_canGive_75 : decode cX8_canGive 75 = .ok (.iload_n 3, 1) := by decide +kernel
theorem dX8_canGive_76 : decode cX8_canGive 76 = .ok (.iconst 0, 1) := by decide +kernel
theorem dX8_canGive_77 : decode cX8_canGive 77 = .ok (.sipush 9999, 3) := by decide +kernel
theorem dX8_canGive_80 : decode cX8_canGive 80 = .ok (.invokevirtual 107, 3) := by decide +kernel
theorem dX8_canGive_83 : decode cX8_canGive 83 = .ok (.ifCond .eq 7, 3) := by decide +kernel
theorem dX8_canGive_86 : decode cX8_canGive 86 = .ok (.iconst 1, 1) := by decide +kernel
theorem dX8_canGive_87 : decode cX8_canGive 87 = .ok (.goto 4, 3) := by decide +kernel
theorem dX8_canGive_90 : decode cX8_canGive 90 = .ok (.iconst 0, 1) := by decide +kernel
theorem dX8_canGive_91 : decode cX8_canGive 91 = .ok (.ireturn, 1) := by decide +kernel
set_option maxRecDepth 20000 in
theorem wX8_canGive_59 {p : Program} {l : Launch} {e : Env} {s : State} {m : MethodId} {args : Array Value} {below : List Frame} {meth : Method} {c : Code} {Z : XG} {r : Int32} {S' : Mem} (E : XE p s m args meth c cX8_canGive 4 RX8 (some .boolean) mL Z) : ∀ (S : Mem) (x3 : Int32), fX8_canGive_59  S x3 = some (r, S') → WN p l e { frames := 1, cells := 0, slots := 0, locals := 23 } s m args below meth c mL Z (XQ mL Z r S') S 59 4 [(0, .ref (Z.2.1 0)), (3, .int x3)] [] := by
  obtain ⟨hx, hb, -, -, -, -, -, -, -, hQ⟩ := id E
  intro S x3 h H locs ls X hl
  unfold fX8_canGive_59 at h
  refine lv_aload_n hx hb dX8_canGive_59 rfl (lv_at hl 0 rfl) ?_
  refine lv_iload_n hx hb dX8_canGive_60 rfl (lv_at hl 1 rfl) ?_
  refine lv_iconst (v := (0 : Int32)) hx hb dX8_canGive_61 (by decide) ?_
  refine lv_iconst (v := (1 : Int32)) hx hb dX8_canGive_62 (by decide) ?_
  obtain ⟨r_1, S_2, hr_1, h⟩ := bnd_s h
  refine x_callV E X cwX8_107 (mX8_isIn l Z hQ  x3 (0 : Int32) (1 : Int32) hr_1) rfl rfl rfl rfl hl.1 rfl dX8_canGive_63 (fun H locs X => ?_)
  refine lv_goto (tgt := 91) hx hb dX8_canGive_66 (by decide) ?_
  obtain ⟨g_3, h⟩ := gd_s h
  exact x_zret E X g_3 h dX8_canGive_91
set_option maxRecDepth 20000 in
theorem wX8_canGive_43 {p : Program} {l : Launch} {e : Env} {s : State} {m : MethodId} {args : Array Value} {below : List Frame} {meth : Method} {c : Code} {Z : XG} {r : Int32} {S' : Mem} (E : XE p s m args meth c cX8_canGive 4 RX8 (some .boolean) mL Z) : ∀ (S : Mem), fX8_canGive_43  S  = some (r, S') → WN p l e { frames := 1, cells := 0, slots := 0, locals := 23 } s m args below meth c mL Z (XQ mL Z r S') S 43 4 [] [] := by
  obtain ⟨hx, hb, -, -, -, -, -, -, -, hQ⟩ := id E
  intro S  h H locs ls X hl
  unfold fX8_canGive_43 at h
  refine lv_iconst (v := (1 : Int32)) hx hb dX8_canGive_43 (by decide) ?_
  refine lv_goto (tgt := 48) hx hb dX8_canGive_44 (by decide) ?_
  exact x_zret E X rfl h dX8_canGive_48
set_option maxRecDepth 20000 in
theorem wX8_canGive {p : Program} {l : Launch} {e : Env} {s : State} {m : MethodId} {args : Array Value} {below : List Frame} {meth : Method} {c : Code} {Z : XG} {r : Int32} {S' : Mem} (E : XE p s m args meth c cX8_canGive 4 RX8 (some .boolean) mL Z) : ∀ (S : Mem) (x1 x2 x3 : Int32), fX8_canGive  S x1 x2 x3 = some (r, S') → WN p l e { frames := 1, cells := 0, slots := 0, locals := 23 } s m args below meth c mL Z (XQ mL Z r S') S 0 4 [(0, .ref (Z.2.1 0)), (1, .int x1), (2, .int x2), (3, .int x3)] [] := by
  obtain ⟨hx, hb, -, -, -, -, -, -, -, hQ⟩ := id E
  intro S x1 x2 x3 h H locs ls X hl
  unfold fX8_canGive at h
  refine lv_aload_n hx hb dX8_canGive_0 rfl (lv_at hl 0 rfl) ?_
  refine lv_iload_n hx hb dX8_canGive_1 rfl (lv_at hl 1 rfl) ?_
  obtain ⟨r_1, S_2, hr_1, h⟩ := bnd_s h
  refine x_callV E X cwX8_118 (mX8_isPilgrim l Z hQ  x1 hr_1) rfl rfl rfl rfl hl.1 rfl dX8_canGive_2 (fun H locs X => ?_)
  refine lv_if_ne (tgt := 10) hx hb dX8_canGive_5 (by decide) (fun c_3 => ?_) (fun c_3 => ?_)
  · have h := if_f c_3 h
    refine lv_iload_n hx hb dX8_canGive_10 rfl (lv_at hl 2 rfl) ?_
    refine lv_if_ne (tgt := 49) hx hb dX8_canGive_11 (by decide) (fun c_4 => ?_) (fun c_4 => ?_)
    · have h := if_f c_4 h
      refine lv_iload_n hx hb dX8_canGive_49 rfl (lv_at hl 2 rfl) ?_
      refine lv_iconst (v := (1 : Int32)) hx hb dX8_canGive_50 (by decide) ?_
      refine lv_icmp_eq (tgt := 59) hx hb dX8_canGive_51 (by decide) (fun c_5 => ?_) (fun c_5 => ?_)
      · have h := if_t c_5 h
        exact wX8_canGive_59 E   S_2 x3 h _ _ _ X (lv_sub hl [0, 3] rfl)
      · have h := if_f c_5 h
        refine lv_iload_n hx hb dX8_canGive_54 rfl (lv_at hl 2 rfl) ?_
        refine lv_iconst (v := (2 : Int32)) hx hb dX8_canGive_55 (by decide) ?_
        refine lv_icmp_ne (tgt := 69) hx hb dX8_canGive_56 (by decide) (fun c_6 => ?_) (fun c_6 => ?_)
        · have h := if_f c_6 h
          refine lv_iload_n hx hb dX8_canGive_69 rfl (lv_at hl 2 rfl) ?_
          refine lv_iconst (v := (3 : Int32)) hx hb dX8_canGive_70 (by decide) ?_
          refine lv_icmp_ne (tgt := 90) hx hb dX8_canGive_71 (by decide) (fun c_7 => ?_) (fun c_7 => ?_)
          · have h := if_f c_7 h
            refine lv_iconst (v := (0 : Int32)) hx hb dX8_canGive_90 (by decide) ?_
            exact x_zret E X rfl h dX8_canGive_91
          · have h := if_t c_7 h
            refine lv_aload_n hx hb dX8_canGive_74 rfl (lv_at hl 0 rfl) ?_
            refine lv_iload_n hx hb dX8_canGive_75 rfl (lv_at hl 3 rfl) ?_
            refine lv_iconst (v := (0 : Int32)) hx hb dX8_canGive_76 (by decide) ?_
            refine lv_sipush (v := (9999 : Int32)) hx hb dX8_canGive_77 (by decide) ?_
            obtain ⟨r_8, S_9, hr_8, h⟩ := bnd_s h
            refine x_callV E X cwX8_107 (mX8_isIn l Z hQ  x3 (0 : Int32) (9999 : Int32) hr_8) rfl rfl rfl rfl hl.1 rfl dX8_canGive_80 (fun H locs X => ?_)
            refine lv_if_eq (tgt := 90) hx hb dX8_canGive_83 (by decide) (fun c_10 => ?_) (fun c_10 => ?_)
            · have h := if_t c_10 h
              refine lv_iconst (v := (0 : Int32)) hx hb dX8_canGive_90 (by decide) ?_
              exact x_zret E X rfl h dX8_canGive_91
            · have h := if_f c_10 h
              refine lv_iconst (v := (1 : Int32)) hx hb dX8_canGive_86 (by decide) ?_
              refine lv_goto (tgt := 91) hx hb dX8_canGive_87 (by decide) ?_
              exact x_zret E X rfl h dX8_canGive_91
        · have h := if_t c_6 h
          exact wX8_canGive_59 E   S_2 x3 h _ _ _ X (lv_sub hl [0, 3] rfl)
    · have h := if_t c_4 h
      refine lv_aload_n hx hb dX8_canGive_14 rfl (lv_at hl 0 rfl) ?_
      refine lv_iload_n hx hb dX8_canGive_15 rfl (lv_at hl 3 rfl) ?_
      refine lv_iconst (v := (0 : Int32)) hx hb dX8_canGive_16 (by decide) ?_
      refine lv_bipush (v := (24 : Int32)) hx hb dX8_canGive_17 (by decide) ?_
      obtain ⟨r_11, S_12, hr_11, h⟩ := bnd_s h
      refine x_callV E X cwX8_107 (mX8_isIn l Z hQ  x3 (0 : Int32) (24 : Int32) hr_11) rfl rfl rfl rfl hl.1 rfl dX8_canGive_19 (fun H locs X => ?_)
      refine lv_if_eq (tgt := 47) hx hb dX8_canGive_22 (by decide) (fun c_13 => ?_) (fun c_13 => ?_)
      · have h := if_t c_13 h
        refine lv_iconst (v := (0 : Int32)) hx hb dX8_canGive_47 (by decide) ?_
        exact x_zret E X rfl h dX8_canGive_48
      · have h := if_f c_13 h
        refine lv_aload_n hx hb dX8_canGive_25 rfl (lv_at hl 0 rfl) ?_
        refine lv_iload_n hx hb dX8_canGive_26 rfl (lv_at hl 3 rfl) ?_
        obtain ⟨r_14, S_15, hr_14, h⟩ := bnd_s h
        refine x_callV E X cwX8_115 (mX8_whoAt l Z hQ  x3 hr_14) rfl rfl rfl rfl hl.1 rfl dX8_canGive_27 (fun H locs X => ?_)
        refine lv_iconst (v := (-1 : Int32)) hx hb dX8_canGive_30 (by decide) ?_
        refine lv_icmp_eq (tgt := 43) hx hb dX8_canGive_31 (by decide) (fun c_16 => ?_) (fun c_16 => ?_)
        · have h := if_t c_16 h
          exact wX8_canGive_43 E   S_15  h _ _ _ X (lv_sub hl [] rfl)
        · have h := if_f c_16 h
          refine lv_aload_n hx hb dX8_canGive_34 rfl (lv_at hl 0 rfl) ?_
          refine lv_iload_n hx hb dX8_canGive_35 rfl (lv_at hl 3 rfl) ?_
          obtain ⟨r_17, S_18, hr_17, h⟩ := bnd_s h
          refine x_callV E X cwX8_115 (mX8_whoAt l Z hQ  x3 hr_17) rfl rfl rfl rfl hl.1 rfl dX8_canGive_36 (fun H locs X => ?_)
          refine lv_iload_n hx hb dX8_canGive_39 rfl (lv_at hl 1 rfl) ?_
          refine lv_icmp_ne (tgt := 47) hx hb dX8_canGive_40 (by decide) (fun c_19 => ?_) (fun c_19 => ?_)
          · have h := if_f c_19 h
            refine lv_iconst (v := (0 : Int32)) hx hb dX8_canGive_47 (by decide) ?_
            exact x_zret E X rfl h dX8_canGive_48
          · have h := if_t c_19 h
            exact wX8_canGive_43 E   S_18  h _ _ _ X (lv_sub hl [] rfl)
  · have h := if_t c_3 h
    refine lv_iconst (v := (0 : Int32)) hx hb dX8_canGive_8 (by decide) ?_
    exact x_zret E X rfl h dX8_canGive_9
/-- SevenToAShadowModel.canGive(III)Z -/
theorem mX8_canGive (l : Launch) (Z : XG) (hQ : wQ (List.length mL) Z) {S S' : Mem} {r : Int32} (x1 x2 x3 : Int32) (h : fX8_canGive S x1 x2 x3 = some (r, S')) : XM l yX8_canGive cX8_canGive 4 (some .boolean) { frames := 1, cells := 0, slots := 0, locals := 23 } mL Z [.ref (Z.2.1 0), .int x1, .int x2, .int x3] S (XQ mL Z r S') := by
  refine XM.of (own := RX8) (by decide +kernel) rfl rfl hQ (fun p e s m args below meth c E ls hl X => ?_)
  exact wX8_canGive E S x1 x2 x3 h _ _ _ X hl
def fX8_give_91 (S : Mem) : O := ltm (mset S 0 3 (0 : Int32)) fun S_1 => some ((1 : Int32), S_1)
def fX8_give_76 (S : Mem) (x1 x2 x3 : Int32) : O := (if x2 = (3 : Int32) then gd (inB ((15 : Int32) + x1) 55) <| ltm (mset S 1 (((15 : Int32) + x1)).toNatClampNeg x3) fun S_3 => fX8_give_91  S_3  else fX8_give_91  S )
def fX8_give_53 (S : Mem) (x1 x2 x3 : Int32) : O := (if x2 = (2 : Int32) then ltm (mset S 0 11 (((S 0 11) &&& (((1 : Int32) <<< (x1 &&& 31)) ^^^ (-1 : Int32))) ||| (x3 <<< (x1 &&& 31)))) fun S_2 => fX8_give_76  S_2 x1 x2 x3 else fX8_give_76  S x1 x2 x3)
def fX8_give_30 (S : Mem) (x1 x2 x3 : Int32) : O := (if x2 = (1 : Int32) then ltm (mset S 0 10 (((S 0 10) &&& (((1 : Int32) <<< (x1 &&& 31)) ^^^ (-1 : Int32))) ||| (x3 <<< (x1 &&& 31)))) fun S_2 => fX8_give_53  S_2 x1 x2 x3 else fX8_give_53  S x1 x2 x3)
def fX8_give (S : Mem) (x1 x2 x3 : Int32) : O := ltm (mset S 0 0 (0 : Int32)) fun S_1 => bnd (fX8_canGive S_1 x1 x2 x3) fun r_2 S_3 => (if r_2 = 0 then some ((0 : Int32), S_3) else (if x2 = 0 then gd (inB ((5 : Int32) + x1) 55) <| ltm (mset S_3 1 (((5 : Int32) + x1)).toNatClampNeg x3) fun S_7 => fX8_give_30  S_7 x1 x2 x3 else fX8_give_30  S_3 x1 x2 x3))
theorem dX8_give_0 : decode cX8_give 0 = .ok (.aload_n 0, 1) := by decide +kernel
theorem dX8_give_1 : decode cX8_give 1 = .ok (.iconst 0, 1) := by decide +kernel
theorem dX8_give_2 : decode cX8_give 2 = .ok (.putfield 92, 3) := by decide +kernel
theorem dX8_give_5 : decode cX8_give 5 = .ok (.aload_n 0, 1) := by decide +kernel
theorem dX8_give_6 : decode cX8_give 6 = .ok (.iload_n 1, 1) := by decide +kernel
theorem dX8_give_7 : decode cX8_give 7 = .ok (.iload_n 2, 1) := by decide +kernel
theorem dX8_give_8 : decode cX8_give 8 = .ok (.iload_n 3, 1) := by decide +kernel
theorem dX8_give_9 : decode cX8_give 9 = .ok (.invokevirtual 121, 3) := by decide +kernel
theorem dX8_give_12 : decode cX8_give 12 = .ok (.ifCond .ne 5, 3) := by decide +kernel
theorem dX8_give_15 : decode cX8_give 15 = .ok (.iconst 0, 1) := by decide +kernel
theorem dX8_give_16 : decode cX8_give 16 = .ok (.ireturn, 1) := by decide +kernel
theorem dX8_give_17 : decode cX8_give 17 = .ok (.iload_n 2, 1) := by decide +kernel
theorem dX8_give_18 : decode cX8_give 18 = .ok (.ifCond .ne 12, 3) := by decide +kernel
theorem dX8_give_21 : decode cX8_give 21 = .ok (.aload_n 0, 1) := by decide +kernel
theorem dX8_give_22 : decode cX8_give 22 = .ok (.getfield 7, 3) := by decide +kernel
theorem dX8_give_25 : decode cX8_give 25 = .ok (.iconst 5, 1) := by decide +kernel
theorem dX8_give_26 : decode cX8_give 26 = .ok (.iload_n 1, 1) := by decide +kernel
theorem dX8_give_27 : decode cX8_give 27 = .ok (.iadd, 1) := by decide +kernel
theorem dX8_give_28 : decode cX8_give 28 = .ok (.iload_n 3, 1) := by decide +kernel
theorem dX8_give_29 : decode cX8_give 29 = .ok (.iastore, 1) := by decide +kernel
theorem dX8_give_30 : decode cX8_give 30 = .ok (.iload_n 2, 1) := by decide +kernel
theorem dX8_give_31 : decode cX8_give 31 = .ok (.iconst 1, 1) := by decide +kernel
theorem dX8_give_32 : decode cX8_give 32 = .ok (.if_icmp .ne 21, 3) := by decide +kernel
theorem dX8_give_35 : decode cX8_give 35 = .ok (.aload_n 0, 1) := by decide +kernel
theorem dX8_give_36 : decode cX8_give 36 = .ok (.aload_n 0, 1) := by decide +kernel
theorem dX8_give_37 : decode cX8_give 37 = .ok (.getfield 124, 3) := by decide +kernel
theorem dX8_give_40 : decode cX8_give 40 = .ok (.iconst 1, 1) := by decide +kernel
theorem dX8_give_41 : decode cX8_give 41 = .ok (.iload_n 1, 1) := by decide +kernel
theorem dX8_give_42 : decode cX8_give 42 = .ok (.ishl, 1) := by decide +kernel
theorem dX8_give_43 : decode cX8_give 43 = .ok (.iconst (-1), 1) := by decide +kernel
theorem dX8_give_44 : decode cX8_give 44 = .ok (.ixor, 1) := by decide +kernel
theorem dX8_give_45 : decode cX8_give 45 = .ok (.iand, 1) := by decide +kernel
theorem dX8_give_46 : decode cX8_give 46 = .ok (.iload_n 3, 1) := by decide +kernel
theorem dX8_give_47 : decode cX8_give 47 = .ok (.iload_n 1, 1) := by decide +kernel
theorem dX8_give_48 : decode cX8_give 48 = .ok (.ishl, 1) := by decide +kernel
theorem dX8_give_49 : decode cX8_give 49 = .ok (.ior, 1) := by decide +kernel
theorem dX8_give_50 : decode cX8_give 50 = .ok (.putfield 124, 3) := by decide +kernel
theorem dX8_give_53 : decode cX8_give 53 = .ok (.iload_n 2, 1) := by decide +kernel
theorem dX8_give_54 : decode cX8_give 54 = .ok (.iconst 2, 1) := by decide +kernel
theorem dX8_give_55 : decode cX8_give 55 = .ok (.if_icmp .ne 21, 3) := by decide +kernel
theorem dX8_give_58 : decode cX8_give 58 = .ok (.aload_n 0, 1) := by decide +kernel
theorem dX8_give_59 : decode cX8_give 59 = .ok (.aload_n 0, 1) := by decide +kernel
theorem dX8_give_60 : decode cX8_give 60 = .ok (.getfield 127, 3) := by decide +kernel
theorem dX8_give_63 : decode cX8_give 63 = .ok (.iconst 1, 1) := by decide +kernel
theorem dX8_give_64 : decode cX8_give 64 = .ok (.iload_n 1, 1) := by decide +kernel
theorem dX8_give_65 : decode cX8_give 65 = .ok (.ishl, 1) := by decide +kernel
theorem dX8_give_66 : decode cX8_give 66 = .ok (.iconst (-1), 1) := by decide +kernel
theorem dX8_give_67 : decode cX8_give 67 = .ok (.ixor, 1) := by decide +kernel
theorem dX8_give_68 : decode cX8_give 68 = .ok (.iand, 1) := by decide +kernel
theorem dX8_give_69 : decode cX8_give 69 = .ok (.iload_n 3, 1) := by decide +kernel
theorem dX8_give_70 : decode cX8_give 70 = .ok (.iload_n 1, 1) := by decide +kernel
theorem dX8_give_71 : decode cX8_give 71 = .ok (.ishl, 1) := by decide +kernel
theorem dX8_give_72 : decode cX8_give 72 = .ok (.ior, 1) := by decide +kernel
theorem dX8_give_73 : decode cX8_give 73 = .ok (.putfield 127, 3) := by decide +kernel
theorem dX8_give_76 : decode cX8_give 76 = .ok (.iload_n 2, 1) := by decide +kernel
theorem dX8_give_77 : decode cX8_give 77 = .ok (.iconst 3, 1) := by decide +kernel
theorem dX8_give_78 : decode cX8_give 78 = .ok (.if_icmp .ne 13, 3) := by decide +kernel
theorem dX8_give_81 : decode cX8_give 81 = .ok (.aload_n 0, 1) := by decide +kernel
theorem dX8_give_82 : decode cX8_give 82 = .ok (.getfield 7, 3) := by decide +kernel
theorem dX8_give_85 : decode cX8_give 85 = .ok (.bipush 15, 2) := by decide +kernel
theorem dX8_give_87 : decode cX8_give 87 = .ok (.iload_n 1, 1) := by decide +kernel
theorem dX8_give_88 : decode cX8_give 88 = .ok (.iadd, 1) := by decide +kernel
theorem dX8_give_89 : decode cX8_give 89 = .ok (.iload_n 3, 1) := by decide +kernel
theorem dX8_give_90 : decode cX8_give 90 = .ok (.iastore, 1) := by decide +kernel
theorem dX8_give_91 : decode cX8_give 91 = .ok (.aload_n 0, 1) := by decide +kernel
theorem dX8_give_92 : decode cX8_give 92 = .ok (.iconst 0, 1) := by decide +kernel
theorem dX8_give_93 : decode cX8_give 93 = .ok (.putfield 95, 3) := by decide +kernel
theorem dX8_give_96 : decode cX8_give 96 = .ok (.iconst 1, 1) := by decide +kernel
theorem dX8_give_97 : decode cX8_give 97 = .ok (.ireturn, 1) := by decide +kernel
set_option maxRecDepth 20000 in
theorem wX8_give_91 {p : Program} {l : Launch} {e : Env} {s : State} {m : MethodId} {args : Array Value} {below : List Frame} {meth : Method} {c : Code} {Z : XG} {r : Int32} {S' : Mem} (E : XE p s m args meth c cX8_give 4 RX8 (some .boolean) mL Z) : ∀ (S : Mem), fX8_give_91  S  = some (r, S') → WN p l e { frames := 2, cells := 0, slots := 0, locals := 46 } s m args below meth c mL Z (XQ mL Z r S') S 91 4 [(0, .ref (Z.2.1 0))] [] := by
  obtain ⟨hx, hb, -, -, -, -, -, -, -, hQ⟩ := id E
  intro S  h H locs ls X hl
  unfold fX8_give_91 at h
  refine lv_aload_n hx hb dX8_give_91 rfl (lv_at hl 0 rfl) ?_
  refine lv_iconst (v := (0 : Int32)) hx hb dX8_give_92 (by decide) ?_
  obtain ⟨S_1, eS_1, h⟩ := ltm_s h
  refine x_put E X fpX8_95 rfl rfl dX8_give_93 (fun H locs X => ?_)
  rw [← eS_1] at X
  refine lv_iconst (v := (1 : Int32)) hx hb dX8_give_96 (by decide) ?_
  exact x_zret E X rfl h dX8_give_97
set_option maxRecDepth 20000 in
theorem wX8_give_76 {p : Program} {l : Launch} {e : Env} {s : State} {m : MethodId} {args : Array Value} {below : List Frame} {meth : Method} {c : Code} {Z : XG} {r : Int32} {S' : Mem} (E : XE p s m args meth c cX8_give 4 RX8 (some .boolean) mL Z) : ∀ (S : Mem) (x1 x2 x3 : Int32), fX8_give_76  S x1 x2 x3 = some (r, S') → WN p l e { frames := 2, cells := 0, slots := 0, locals := 46 } s m args below meth c mL Z (XQ mL Z r S') S 76 4 [(0, .ref (Z.2.1 0)), (1, .int x1), (2, .int x2), (3, .int x3)] [] := by
  obtain ⟨hx, hb, -, -, -, -, -, -, -, hQ⟩ := id E
  intro S x1 x2 x3 h H locs ls X hl
  unfold fX8_give_76 at h
  refine lv_iload_n hx hb dX8_give_76 rfl (lv_at hl 2 rfl) ?_
  refine lv_iconst (v := (3 : Int32)) hx hb dX8_give_77 (by decide) ?_
  refine lv_icmp_ne (tgt := 91) hx hb dX8_give_78 (by decide) (fun c_1 => ?_) (fun c_1 => ?_)
  · have h := if_f c_1 h
    exact wX8_give_91 E   S  h _ _ _ X (lv_sub hl [0] rfl)
  · have h := if_t c_1 h
    refine lv_aload_n hx hb dX8_give_81 rfl (lv_at hl 0 rfl) ?_
    refine x_getr E X ffX8_7 rfl rfl dX8_give_82 ?_
    refine lv_bipush (v := (15 : Int32)) hx hb dX8_give_85 (by decide) ?_
    refine lv_iload_n hx hb dX8_give_87 rfl (lv_at hl 1 rfl) ?_
    refine lv_iadd hx hb dX8_give_88 ?_
    refine lv_iload_n hx hb dX8_give_89 rfl (lv_at hl 3 rfl) ?_
    obtain ⟨g_2, h⟩ := gd_s h
    obtain ⟨S_3, eS_3, h⟩ := ltm_s h
    refine x_iast E X rfl g_2 dX8_give_90 (fun H locs X => ?_)
    rw [← eS_3] at X
    exact wX8_give_91 E   S_3  h _ _ _ X (lv_sub hl [0] rfl)
set_option maxRecDepth 20000 in
theorem wX8_give_53 {p : Program} {l : Launch} {e : Env} {s : State} {m : MethodId} {args : Array Value} {below : List Frame} {meth : Method} {c : Code} {Z : XG} {r : Int32} {S' : Mem} (E : XE p s m args meth c cX8_give 4 RX8 (some .boolean) mL Z) : ∀ (S : Mem) (x1 x2 x3 : Int32), fX8_give_53  S x1 x2 x3 = some (r, S') → WN p l e { frames := 2, cells := 0, slots := 0, locals := 46 } s m args below meth c mL Z (XQ mL Z r S') S 53 4 [(0, .ref (Z.2.1 0)), (1, .int x1), (2, .int x2), (3, .int x3)] [] := by
  obtain ⟨hx, hb, -, -, -, -, -, -, -, hQ⟩ := id E
  intro S x1 x2 x3 h H locs ls X hl
  unfold fX8_give_53 at h
  refine lv_iload_n hx hb dX8_give_53 rfl (lv_at hl 2 rfl) ?_
  refine lv_iconst (v := (2 : Int32)) hx hb dX8_give_54 (by decide) ?_
  refine lv_icmp_ne (tgt := 76) hx hb dX8_give_55 (by decide) (fun c_1 => ?_) (fun c_1 => ?_)
  · have h := if_f c_1 h
    exact wX8_give_76 E   S x1 x2 x3 h _ _ _ X hl
  · have h := if_t c_1 h
    refine lv_aload_n hx hb dX8_give_58 rfl (lv_at hl 0 rfl) ?_
    refine lv_aload_n hx hb dX8_give_59 rfl (lv_at hl 0 rfl) ?_
    refine x_get E X ffX8_127 rfl rfl dX8_give_60 ?_
    refine lv_iconst (v := (1 : Int32)) hx hb dX8_give_63 (by decide) ?_
    refine lv_iload_n hx hb dX8_give_64 rfl (lv_at hl 1 rfl) ?_
    refine lv_ishl hx hb dX8_give_65 ?_
    refine lv_iconst (v := (-1 : Int32)) hx hb dX8_give_66 (by decide) ?_
    refine lv_ixor hx hb dX8_give_67 ?_
    refine lv_iand hx hb dX8_give_68 ?_
    refine lv_iload_n hx hb dX8_give_69 rfl (lv_at hl 3 rfl) ?_
    refine lv_iload_n hx hb dX8_give_70 rfl (lv_at hl 1 rfl) ?_
    refine lv_ishl hx hb dX8_give_71 ?_
    refine lv_ior hx hb dX8_give_72 ?_
    obtain ⟨S_2, eS_2, h⟩ := ltm_s h
    refine x_put E X fpX8_127 rfl rfl dX8_give_73 (fun H locs X => ?_)
    rw [← eS_2] at X
    exact wX8_give_76 E   S_2 x1 x2 x3 h _ _ _ X hl
set_option maxRecDepth 20000 in
theorem wX8_give_30 {p : Program} {l : Launch} {e : Env} {s : State} {m : MethodId} {args : Array Value} {below : List Frame} {meth : Method} {c : Code} {Z : XG} {r : Int32} {S' : Mem} (E : XE p s m args meth c cX8_give 4 RX8 (some .boolean) mL Z) : ∀ (S : Mem) (x1 x2 x3 : Int32), fX8_give_30  S x1 x2 x3 = some (r, S') → WN p l e { frames := 2, cells := 0, slots := 0, locals := 46 } s m args below meth c mL Z (XQ mL Z r S') S 30 4 [(0, .ref (Z.2.1 0)), (1, .int x1), (2, .int x2), (3, .int x3)] [] := by
  obtain ⟨hx, hb, -, -, -, -, -, -, -, hQ⟩ := id E
  intro S x1 x2 x3 h H locs ls X hl
  unfold fX8_give_30 at h
  refine lv_iload_n hx hb dX8_give_30 rfl (lv_at hl 2 rfl) ?_
  refine lv_iconst (v := (1 : Int32)) hx hb dX8_give_31 (by decide) ?_
  refine lv_icmp_ne (tgt := 53) hx hb dX8_give_32 (by decide) (fun c_1 => ?_) (fun c_1 => ?_)
  · have h := if_f c_1 h
    exact wX8_give_53 E   S x1 x2 x3 h _ _ _ X hl
  · have h := if_t c_1 h
    refine lv_aload_n hx hb dX8_give_35 rfl (lv_at hl 0 rfl) ?_
    refine lv_aload_n hx hb dX8_give_36 rfl (lv_at hl 0 rfl) ?_
    refine x_get E X ffX8_124 rfl rfl dX8_give_37 ?_
    refine lv_iconst (v := (1 : Int32)) hx hb dX8_give_40 (by decide) ?_
    refine lv_iload_n hx hb dX8_give_41 rfl (lv_at hl 1 rfl) ?_
    refine lv_ishl hx hb dX8_give_42 ?_
    refine lv_iconst (v := (-1 : Int32)) hx hb dX8_give_43 (by decide) ?_
    refine lv_ixor hx hb dX8_give_44 ?_
    refine lv_iand hx hb dX8_give_45 ?_
    refine lv_iload_n hx hb dX8_give_46 rfl (lv_at hl 3 rfl) ?_
    refine lv_iload_n hx hb dX8_give_47 rfl (lv_at hl 1 rfl) ?_
    refine lv_ishl hx hb dX8_give_48 ?_
    refine lv_ior hx hb dX8_give_49 ?_
    obtain ⟨S_2, eS_2, h⟩ := ltm_s h
    refine x_put E X fpX8_124 rfl rfl dX8_give_50 (fun H locs X => ?_)
    rw [← eS_2] at X
    exact wX8_give_53 E   S_2 x1 x2 x3 h _ _ _ X hl
set_option maxRecDepth 20000 in
theorem wX8_give {p : Program} {l : Launch} {e : Env} {s : State} {m : MethodId} {args : Array Value} {below : List Frame} {meth : Method} {c : Code} {Z : XG} {r : Int32} {S' : Mem} (E : XE p s m args meth c cX8_give 4 RX8 (some .boolean) mL Z) : ∀ (S : Mem) (x1 x2 x3 : Int32), fX8_give  S x1 x2 x3 = some (r, S') → WN p l e { frames := 2, cells := 0, slots := 0, locals := 46 } s m args below meth c mL Z (XQ mL Z r S') S 0 4 [(0, .ref (Z.2.1 0)), (1, .int x1), (2, .int x2), (3, .int x3)] [] := by
  obtain ⟨hx, hb, -, -, -, -, -, -, -, hQ⟩ := id E
  intro S x1 x2 x3 h H locs ls X hl
  unfold fX8_give at h
  refine lv_aload_n hx hb dX8_give_0 rfl (lv_at hl 0 rfl) ?_
  refine lv_iconst (v := (0 : Int32)) hx hb dX8_give_1 (by decide) ?_
  obtain ⟨S_1, eS_1, h⟩ := ltm_s h
  refine x_put E X fpX8_92 rfl rfl dX8_give_2 (fun H locs X => ?_)
  rw [← eS_1] at X
  refine lv_aload_n hx hb dX8_give_5 rfl (lv_at hl 0 rfl) ?_
  refine lv_iload_n hx hb dX8_give_6 rfl (lv_at hl 1 rfl) ?_
  refine lv_iload_n hx hb dX8_give_7 rfl (lv_at hl 2 rfl) ?_
  refine lv_iload_n hx hb dX8_give_8 rfl (lv_at hl 3 rfl) ?_
  obtain ⟨r_2, S_3, hr_2, h⟩ := bnd_s h
  refine x_callV E X cwX8_121 (mX8_canGive l Z hQ  x1 x2 x3 hr_2) rfl rfl rfl rfl hl.1 rfl dX8_give_9 (fun H locs X => ?_)
  refine lv_if_ne (tgt := 17) hx hb dX8_give_12 (by decide) (fun c_4 => ?_) (fun c_4 => ?_)
  · have h := if_f c_4 h
    refine lv_iload_n hx hb dX8_give_17 rfl (lv_at hl 2 rfl) ?_
    refine lv_if_ne (tgt := 30) hx hb dX8_give_18 (by decide) (fun c_5 => ?_) (fun c_5 => ?_)
    · have h := if_f c_5 h
      exact wX8_give_30 E   S_3 x1 x2 x3 h _ _ _ X hl
    · have h := if_t c_5 h
      refine lv_aload_n hx hb dX8_give_21 rfl (lv_at hl 0 rfl) ?_
      refine x_getr E X ffX8_7 rfl rfl dX8_give_22 ?_
      refine lv_iconst (v := (5 : Int32)) hx hb dX8_give_25 (by decide) ?_
      refine lv_iload_n hx hb dX8_give_26 rfl (lv_at hl 1 rfl) ?_
      refine lv_iadd hx hb dX8_give_27 ?_
      refine lv_iload_n hx hb dX8_give_28 rfl (lv_at hl 3 rfl) ?_
      obtain ⟨g_6, h⟩ := gd_s h
      obtain ⟨S_7, eS_7, h⟩ := ltm_s h
      refine x_iast E X rfl g_6 dX8_give_29 (fun H locs X => ?_)
      rw [← eS_7] at X
      exact wX8_give_30 E   S_7 x1 x2 x3 h _ _ _ X hl
  · have h := if_t c_4 h
    refine lv_iconst (v := (0 : Int32)) hx hb dX8_give_15 (by decide) ?_
    exact x_zret E X rfl h dX8_give_16
/-- SevenToAShadowModel.give(III)Z -/
theorem mX8_give (l : Launch) (Z : XG) (hQ : wQ (List.length mL) Z) {S S' : Mem} {r : Int32} (x1 x2 x3 : Int32) (h : fX8_give S x1 x2 x3 = some (r, S')) : XM l yX8_give cX8_give 4 (some .boolean) { frames := 2, cells := 0, slots := 0, locals := 46 } mL Z [.ref (Z.2.1 0), .int x1, .int x2, .int x3] S (XQ mL Z r S') := by
  refine XM.of (own := RX8) (by decide +kernel) rfl rfl hQ (fun p e s m args below meth c E ls hl X => ?_)
  exact wX8_give E S x1 x2 x3 h _ _ _ X hl
def fX8_quarrel_97 (S : Mem) (s1 s2 : Int32) : O := gd (inB s1 10) <| ltm (mset S 8 (s1).toNatClampNeg s2) fun S_2 => ltm (mset S_2 0 3 (0 : Int32)) fun S_3 => some ((1 : Int32), S_3)
def fX8_quarrel_62 (S : Mem) (x1 x2 x3 s1 s2 : Int32) : O := gd (inB s1 10) <| ltm (mset S 8 (s1).toNatClampNeg s2) fun S_2 => (if x3 = 0 then gd (inB x2 10) <| fX8_quarrel_97  S_2 x2 ((S_2 8 (x2).toNatClampNeg) &&& (((1 : Int32) <<< (x1 &&& 31)) ^^^ (-1 : Int32))) else gd (inB x2 10) <| fX8_quarrel_97  S_2 x2 ((S_2 8 (x2).toNatClampNeg) ||| ((1 : Int32) <<< (x1 &&& 31))))
def fX8_quarrel (S : Mem) (x1 x2 x3 : Int32) : O := ltm (mset S 0 0 (0 : Int32)) fun S_1 => bnd (fX8_isPilgrim S_1 x1) fun r_2 S_3 => (if r_2 = 0 then some ((0 : Int32), S_3) else bnd (fX8_isPilgrim S_3 x2) fun r_5 S_6 => (if r_5 = 0 then some ((0 : Int32), S_6) else (if x1 = x2 then some ((0 : Int32), S_6) else (if x3 = 0 then gd (inB x1 10) <| fX8_quarrel_62  S_6 x1 x2 x3 x1 ((S_6 8 (x1).toNatClampNeg) &&& (((1 : Int32) <<< (x2 &&& 31)) ^^^ (-1 : Int32))) else gd (inB x1 10) <| fX8_quarrel_62  S_6 x1 x2 x3 x1 ((S_6 8 (x1).toNatClampNeg) ||| ((1 : Int32) <<< (x2 &&& 31)))))))
theorem dX8_quarrel_0 : decode cX8_quarrel 0 = .ok (.aload_n 0, 1) := by decide +kernel
theorem dX8_quarrel_1 : decode cX8_quarrel 1 = .ok (.iconst 0, 1) := by decide +kernel
theorem dX8_quarrel_2 : decode cX8_quarrel 2 = .ok (.putfield 92, 3) := by decide +kernel
theorem dX8_quarrel_5 : decode cX8_quarrel 5 = .ok (.aload_n 0, 1) := by decide +kernel
theorem dX8_quarrel_6 : decode cX8_quarrel 6 = .ok (.iload_n 1, 1) := by decide +kernel
theorem dX8_quarrel_7 : decode cX8_quarrel 7 = .ok (.invokevirtual 118, 3) := by decide +kernel
theorem dX8_quarrel_10 : decode cX8_quarrel 10 = .ok (.ifCond .eq 16, 3) := by decide +kernel
theorem dX8_quarrel_13 : decode cX8_quarrel 13 = .ok (.aload_n 0, 1) := by decide +kernel
theorem dX8_quarrel_14 : decode cX8_quarrel 14 = .ok (.iload_n 2, 1) := by decide +kernel
theorem dX8_quarrel_15 : decode cX8_quarrel 15 = .ok (.invokevirtual 118, 3) := by decide +kernel
theorem dX8_quarrel_18 : decode cX8_quarrel 18 = .ok (.ifCond .eq 8, 3) := by decide +kernel
theorem dX8_quarrel_21 : decode cX8_quarrel 21 = .ok (.iload_n 1, 1) := by decide +kernel
theorem dX8_quarrel_22 : decode cX8_quarrel 22 = .ok (.iload_n 2, 1) := by decide +kernel
theorem dX8_quarrel_23 : decode cX8_quarrel 23 = .ok (.if_icmp .ne 5, 3) := by decide +kernel
theorem dX8_quarrel_26 : decode cX8_quarrel 26 = .ok (.iconst 0, 1) := by decide +kernel
theorem dX8_quarrel_27 : decode cX8_quarrel 27 = .ok (.ireturn, 1) := by decide +kernel
theorem dX8_quarrel_28 : decode cX8_quarrel 28 = .ok (.aload_n 0, 1) := by decide +kernel
theorem dX8_quarrel_29 : decode cX8_quarrel 29 = .ok (.getfield 31, 3) := by decide +kernel
theorem dX8_quarrel_32 : decode cX8_quarrel 32 = .ok (.iload_n 1, 1) := by decide +kernel
theorem dX8_quarrel_33 : decode cX8_quarrel 33 = .ok (.iload_n 3, 1) := by decide +kernel
theorem dX8_quarrel_34 : decode cX8_quarrel 34 = .ok (.ifCond .eq 16, 3) := by decide +kernel
theorem dX8_quarrel_37 : decode cX8_quarrel 37 = .ok (.aload_n 0, 1) := by decide +kernel
theorem dX8_quarrel_38 : decode cX8_quarrel 38 = .ok (.getfield 31, 3) := by decide +kernel
theorem dX8_quarrel_41 : decode cX8_quarrel 41 = .ok (.iload_n 1, 1) := by decide +kernel
theorem dX8_quarrel_42 : decode cX8_quarrel 42 = .ok (.iaload, 1) := by decide +kernel
theorem dX8_quarrel_43 : decode cX8_quarrel 43 = .ok (.iconst 1, 1) := by decide +kernel
theorem dX8_quarrel_44 : decode cX8_quarrel 44 = .ok (.iload_n 2, 1) := by decide +kernel
theorem dX8_quarrel_45 : decode cX8_quarrel 45 = .ok (.ishl, 1) := by decide +kernel
theorem dX8_quarrel_46 : decode cX8_quarrel 46 = .ok (.ior, 1) := by decide +kernel
theorem dX8_quarrel_47 : decode cX8_quarrel 47 = .ok (.goto 15, 3) := by decide +kernel
theorem dX8_quarrel_50 : decode cX8_quarrel 50 = .ok (.aload_n 0, 1) := by decide +kernel
theorem dX8_quarrel_51 : decode cX8_quarrel 51 = .ok (.getfield 31, 3) := by decide +kernel
theorem dX8_quarrel_54 : decode cX8_quarrel 54 = .ok (.iload_n 1, 1) := by decide +kernel
theorem dX8_quarrel_55 : decode cX8_quarrel 55 = .ok (.iaload, 1) := by decide +kernel
theorem dX8_quarrel_56 : decode cX8_quarrel 56 = .ok (.iconst 1, 1) := by decide +kernel
theorem dX8_quarrel_57 : decode cX8_quarrel 57 = .ok (.iload_n 2, 1) := by decide +kernel
theorem dX8_quarrel_58 : decode cX8_quarrel 58 = .ok (.ishl, 1) := by decide +kernel
theorem dX8_quarrel_59 : decode cX8_quarrel 59 = .ok (.iconst (-1), 1) := by decide +kernel
theorem dX8_quarrel_60 : decode cX8_quarrel 60 = .ok (.ixor, 1) := by decide +kernel
theorem dX8_quarrel_61 : decode cX8_quarrel 61 = .ok (.iand, 1) := by decide +kernel
theorem dX8_quarrel_62 : decode cX8_quarrel 62 = .ok (.iastore, 1) := by decide +kernel
theorem dX8_quarrel_63 : decode cX8_quarrel 63 = .ok (.aload_n 0, 1) := by decide +kernel
theorem dX8_quarrel_64 : decode cX8_quarrel 64 = .ok (.getfield 31, 3) := by decide +kernel
theorem dX8_quarrel_67 : decode cX8_quarrel 67 = .ok (.iload_n 2, 1) := by decide +kernel
theorem dX8_quarrel_68 : decode cX8_quarrel 68 = .ok (.iload_n 3, 1) := by decide +kernel
theorem dX8_quarrel_69 : decode cX8_quarrel 69 = .ok (.ifCond .eq 16, 3) := by decide +kernel
theorem dX8_quarrel_72 : decode cX8_quarrel 72 = .ok (.aload_n 0, 1) := by decide +kernel
theorem dX8_quarrel_73 : decode cX8_quarrel 73 = .ok (.getfield 31, 3) := by decide +kernel
theorem dX8_quarrel_76 : decode cX8_quarrel 76 = .ok (.iload_n 2, 1) := by decide +kernel
theorem dX8_quarrel_77 : decode cX8_quarrel 77 = .ok (.iaload, 1) := by decide +kernel
theorem dX8_quarrel_78 : decode cX8_quarrel 78 = .ok (.iconst 1, 1) := by decide +kernel
theorem dX8_quarrel_79 : decode cX8_quarrel 79 = .ok (.iload_n 1, 1) := by decide +kernel
theorem dX8_quarrel_80 : decode cX8_quarrel 80 = .ok (.ishl, 1) := by decide +kernel
theorem dX8_quarrel_81 : decode cX8_quarrel 81 = .ok (.ior, 1) := by decide +kernel
theorem dX8_quarrel_82 : decode cX8_quarrel 82 = .ok (.goto 15, 3) := by decide +kernel
theorem dX8_quarrel_85 : decode cX8_quarrel 85 = .ok (.aload_n 0, 1) := by decide +kernel
theorem dX8_quarrel_86 : decode cX8_quarrel 86 = .ok (.getfield 31, 3) := by decide +kernel
theorem dX8_quarrel_89 : decode cX8_quarrel 89 = .ok (.iload_n 2, 1) := by decide +kernel
theorem dX8_quarrel_90 : decode cX8_quarrel 90 = .ok (.iaload, 1) := by decide +kernel
theorem dX8_quarrel_91 : decode cX8_quarrel 91 = .ok (.iconst 1, 1) := by decide +kernel
theorem dX8_quarrel_92 : decode cX8_quarrel 92 = .ok (.iload_n 1, 1) := by decide +kernel
theorem dX8_quarrel_93 : decode cX8_quarrel 93 = .ok (.ishl, 1) := by decide +kernel
theorem dX8_quarrel_94 : decode cX8_quarrel 94 = .ok (.iconst (-1), 1) := by decide +kernel
theorem dX8_quarrel_95 : decode cX8_quarrel 95 = .ok (.ixor, 1) := by decide +kernel
theorem dX8_quarrel_96 : decode cX8_quarrel 96 = .ok (.iand, 1) := by decide +kernel
theorem dX8_quarrel_97 : decode cX8_quarrel 97 = .ok (.iastore, 1) := by decide +kernel
theorem dX8_quarrel_98 : decode cX8_quarrel 98 = .ok (.aload_n 0, 1) := by decide +kernel
theorem dX8_quarrel_99 : decode cX8_quarrel 99 = .ok (.iconst 0, 1) := by decide +kernel
theorem dX8_quarrel_100 : decode cX8_quarrel 100 = .ok (.putfield 95, 3) := by decide +kernel
theorem dX8_quarrel_103 : decode cX8_quarrel 103 = .ok (.iconst 1, 1) := by decide +kernel
theorem dX8_quarrel_104 : decode cX8_quarrel 104 = .ok (.ireturn, 1) := by decide +kernel
set_option maxRecDepth 20000 in
theorem wX8_quarrel_97 {p : Program} {l : Launch} {e : Env} {s : State} {m : MethodId} {args : Array Value} {below : List Frame} {meth : Method} {c : Code} {Z : XG} {r : Int32} {S' : Mem} (E : XE p s m args meth c cX8_quarrel 4 RX8 (some .boolean) mL Z) : ∀ (S : Mem) (s1 s2 : Int32), fX8_quarrel_97  S s1 s2 = some (r, S') → WN p l e { frames := 1, cells := 0, slots := 0, locals := 21 } s m args below meth c mL Z (XQ mL Z r S') S 97 4 [(0, .ref (Z.2.1 0))] [.int s2, .int s1, .ref (Z.2.1 8)] := by
  obtain ⟨hx, hb, -, -, -, -, -, -, -, hQ⟩ := id E
  intro S s1 s2 h H locs ls X hl
  unfold fX8_quarrel_97 at h
  obtain ⟨g_1, h⟩ := gd_s h
  obtain ⟨S_2, eS_2, h⟩ := ltm_s h
  refine x_iast E X rfl g_1 dX8_quarrel_97 (fun H locs X => ?_)
  rw [← eS_2] at X
  refine lv_aload_n hx hb dX8_quarrel_98 rfl (lv_at hl 0 rfl) ?_
  refine lv_iconst (v := (0 : Int32)) hx hb dX8_quarrel_99 (by decide) ?_
  obtain ⟨S_3, eS_3, h⟩ := ltm_s h
  refine x_put E X fpX8_95 rfl rfl dX8_quarrel_100 (fun H locs X => ?_)
  rw [← eS_3] at X
  refine lv_iconst (v := (1 : Int32)) hx hb dX8_quarrel_103 (by decide) ?_
  exact x_zret E X rfl h dX8_quarrel_104
set_option maxRecDepth 20000 in
theorem wX8_quarrel_62 {p : Program} {l : Launch} {e : Env} {s : State} {m : MethodId} {args : Array Value} {below : List Frame} {meth : Method} {c : Code} {Z : XG} {r : Int32} {S' : Mem} (E : XE p s m args meth c cX8_quarrel 4 RX8 (some .boolean) mL Z) : ∀ (S : Mem) (x1 x2 x3 s1 s2 : Int32), fX8_quarrel_62  S x1 x2 x3 s1 s2 = some (r, S') → WN p l e { frames := 1, cells := 0, slots := 0, locals := 21 } s m args below meth c mL Z (XQ mL Z r S') S 62 4 [(0, .ref (Z.2.1 0)), (1, .int x1), (2, .int x2), (3, .int x3)] [.int s2, .int s1, .ref (Z.2.1 8)] := by
  obtain ⟨hx, hb, -, -, -, -, -, -, -, hQ⟩ := id E
  intro S x1 x2 x3 s1 s2 h H locs ls X hl
  unfold fX8_quarrel_62 at h
  obtain ⟨g_1, h⟩ := gd_s h
  obtain ⟨S_2, eS_2, h⟩ := ltm_s h
  refine x_iast E X rfl g_1 dX8_quarrel_62 (fun H locs X => ?_)
  rw [← eS_2] at X
  refine lv_aload_n hx hb dX8_quarrel_63 rfl (lv_at hl 0 rfl) ?_
  refine x_getr E X ffX8_31 rfl rfl dX8_quarrel_64 ?_
  refine lv_iload_n hx hb dX8_quarrel_67 rfl (lv_at hl 2 rfl) ?_
  refine lv_iload_n hx hb dX8_quarrel_68 rfl (lv_at hl 3 rfl) ?_
  refine lv_if_eq (tgt := 85) hx hb dX8_quarrel_69 (by decide) (fun c_3 => ?_) (fun c_3 => ?_)
  · have h := if_t c_3 h
    refine lv_aload_n hx hb dX8_quarrel_85 rfl (lv_at hl 0 rfl) ?_
    refine x_getr E X ffX8_31 rfl rfl dX8_quarrel_86 ?_
    refine lv_iload_n hx hb dX8_quarrel_89 rfl (lv_at hl 2 rfl) ?_
    obtain ⟨g_4, h⟩ := gd_s h
    refine x_iald E X rfl g_4 dX8_quarrel_90 ?_
    refine lv_iconst (v := (1 : Int32)) hx hb dX8_quarrel_91 (by decide) ?_
    refine lv_iload_n hx hb dX8_quarrel_92 rfl (lv_at hl 1 rfl) ?_
    refine lv_ishl hx hb dX8_quarrel_93 ?_
    refine lv_iconst (v := (-1 : Int32)) hx hb dX8_quarrel_94 (by decide) ?_
    refine lv_ixor hx hb dX8_quarrel_95 ?_
    refine lv_iand hx hb dX8_quarrel_96 ?_
    exact wX8_quarrel_97 E   S_2 x2 ((S_2 8 (x2).toNatClampNeg) &&& (((1 : Int32) <<< (x1 &&& 31)) ^^^ (-1 : Int32))) h _ _ _ X (lv_sub hl [0] rfl)
  · have h := if_f c_3 h
    refine lv_aload_n hx hb dX8_quarrel_72 rfl (lv_at hl 0 rfl) ?_
    refine x_getr E X ffX8_31 rfl rfl dX8_quarrel_73 ?_
    refine lv_iload_n hx hb dX8_quarrel_76 rfl (lv_at hl 2 rfl) ?_
    obtain ⟨g_5, h⟩ := gd_s h
    refine x_iald E X rfl g_5 dX8_quarrel_77 ?_
    refine lv_iconst (v := (1 : Int32)) hx hb dX8_quarrel_78 (by decide) ?_
    refine lv_iload_n hx hb dX8_quarrel_79 rfl (lv_at hl 1 rfl) ?_
    refine lv_ishl hx hb dX8_quarrel_80 ?_
    refine lv_ior hx hb dX8_quarrel_81 ?_
    refine lv_goto (tgt := 97) hx hb dX8_quarrel_82 (by decide) ?_
    exact wX8_quarrel_97 E   S_2 x2 ((S_2 8 (x2).toNatClampNeg) ||| ((1 : Int32) <<< (x1 &&& 31))) h _ _ _ X (lv_sub hl [0] rfl)
set_option maxRecDepth 20000 in
theorem wX8_quarrel {p : Program} {l : Launch} {e : Env} {s : State} {m : MethodId} {args : Array Value} {below : List Frame} {meth : Method} {c : Code} {Z : XG} {r : Int32} {S' : Mem} (E : XE p s m args meth c cX8_quarrel 4 RX8 (some .boolean) mL Z) : ∀ (S : Mem) (x1 x2 x3 : Int32), fX8_quarrel  S x1 x2 x3 = some (r, S') → WN p l e { frames := 1, cells := 0, slots := 0, locals := 21 } s m args below meth c mL Z (XQ mL Z r S') S 0 4 [(0, .ref (Z.2.1 0)), (1, .int x1), (2, .int x2), (3, .int x3)] [] := by
  obtain ⟨hx, hb, -, -, -, -, -, -, -, hQ⟩ := id E
  intro S x1 x2 x3 h H locs ls X hl
  unfold fX8_quarrel at h
  refine lv_aload_n hx hb dX8_quarrel_0 rfl (lv_at hl 0 rfl) ?_
  refine lv_iconst (v := (0 : Int32)) hx hb dX8_quarrel_1 (by decide) ?_
  obtain ⟨S_1, eS_1, h⟩ := ltm_s h
  refine x_put E X fpX8_92 rfl rfl dX8_quarrel_2 (fun H locs X => ?_)
  rw [← eS_1] at X
  refine lv_aload_n hx hb dX8_quarrel_5 rfl (lv_at hl 0 rfl) ?_
  refine lv_iload_n hx hb dX8_quarrel_6 rfl (lv_at hl 1 rfl) ?_
  obtain ⟨r_2, S_3, hr_2, h⟩ := bnd_s h
  refine x_callV E X cwX8_118 (mX8_isPilgrim l Z hQ  x1 hr_2) rfl rfl rfl rfl hl.1 rfl dX8_quarrel_7 (fun H locs X => ?_)
  refine lv_if_eq (tgt := 26) hx hb dX8_quarrel_10 (by decide) (fun c_4 => ?_) (fun c_4 => ?_)
  · have h := if_t c_4 h
    refine lv_iconst (v := (0 : Int32)) hx hb dX8_quarrel_26 (by decide) ?_
    exact x_zret E X rfl h dX8_quarrel_27
  · have h := if_f c_4 h
    refine lv_aload_n hx hb dX8_quarrel_13 rfl (lv_at hl 0 rfl) ?_
    refine lv_iload_n hx hb dX8_quarrel_14 rfl (lv_at hl 2 rfl) ?_
    obtain ⟨r_5, S_6, hr_5, h⟩ := bnd_s h
    refine x_callV E X cwX8_118 (mX8_isPilgrim l Z hQ  x2 hr_5) rfl rfl rfl rfl hl.1 rfl dX8_quarrel_15 (fun H locs X => ?_)
    refine lv_if_eq (tgt := 26) hx hb dX8_quarrel_18 (by decide) (fun c_7 => ?_) (fun c_7 => ?_)
    · have h := if_t c_7 h
      refine lv_iconst (v := (0 : Int32)) hx hb dX8_quarrel_26 (by decide) ?_
      exact x_zret E X rfl h dX8_quarrel_27
    · have h := if_f c_7 h
      refine lv_iload_n hx hb dX8_quarrel_21 rfl (lv_at hl 1 rfl) ?_
      refine lv_iload_n hx hb dX8_quarrel_22 rfl (lv_at hl 2 rfl) ?_
      refine lv_icmp_ne (tgt := 28) hx hb dX8_quarrel_23 (by decide) (fun c_8 => ?_) (fun c_8 => ?_)
      · have h := if_f c_8 h
        refine lv_aload_n hx hb dX8_quarrel_28 rfl (lv_at hl 0 rfl) ?_
        refine x_getr E X ffX8_31 rfl rfl dX8_quarrel_29 ?_
        refine lv_iload_n hx hb dX8_quarrel_32 rfl (lv_at hl 1 rfl) ?_
        refine lv_iload_n hx hb dX8_quarrel_33 rfl (lv_at hl 3 rfl) ?_
        refine lv_if_eq (tgt := 50) hx hb dX8_quarrel_34 (by decide) (fun c_9 => ?_) (fun c_9 => ?_)
        · have h := if_t c_9 h
          refine lv_aload_n hx hb dX8_quarrel_50 rfl (lv_at hl 0 rfl) ?_
          refine x_getr E X ffX8_31 rfl rfl dX8_quarrel_51 ?_
          refine lv_iload_n hx hb dX8_quarrel_54 rfl (lv_at hl 1 rfl) ?_
          obtain ⟨g_10, h⟩ := gd_s h
          refine x_iald E X rfl g_10 dX8_quarrel_55 ?_
          refine lv_iconst (v := (1 : Int32)) hx hb dX8_quarrel_56 (by decide) ?_
          refine lv_iload_n hx hb dX8_quarrel_57 rfl (lv_at hl 2 rfl) ?_
          refine lv_ishl hx hb dX8_quarrel_58 ?_
          refine lv_iconst (v := (-1 : Int32)) hx hb dX8_quarrel_59 (by decide) ?_
          refine lv_ixor hx hb dX8_quarrel_60 ?_
          refine lv_iand hx hb dX8_quarrel_61 ?_
          exact wX8_quarrel_62 E   S_6 x1 x2 x3 x1 ((S_6 8 (x1).toNatClampNeg) &&& (((1 : Int32) <<< (x2 &&& 31)) ^^^ (-1 : Int32))) h _ _ _ X hl
        · have h := if_f c_9 h
          refine lv_aload_n hx hb dX8_quarrel_37 rfl (lv_at hl 0 rfl) ?_
          refine x_getr E X ffX8_31 rfl rfl dX8_quarrel_38 ?_
          refine lv_iload_n hx hb dX8_quarrel_41 rfl (lv_at hl 1 rfl) ?_
          obtain ⟨g_11, h⟩ := gd_s h
          refine x_iald E X rfl g_11 dX8_quarrel_42 ?_
          refine lv_iconst (v := (1 : Int32)) hx hb dX8_quarrel_43 (by decide) ?_
          refine lv_iload_n hx hb dX8_quarrel_44 rfl (lv_at hl 2 rfl) ?_
          refine lv_ishl hx hb dX8_quarrel_45 ?_
          refine lv_ior hx hb dX8_quarrel_46 ?_
          refine lv_goto (tgt := 62) hx hb dX8_quarrel_47 (by decide) ?_
          exact wX8_quarrel_62 E   S_6 x1 x2 x3 x1 ((S_6 8 (x1).toNatClampNeg) ||| ((1 : Int32) <<< (x2 &&& 31))) h _ _ _ X hl
      · have h := if_t c_8 h
        refine lv_iconst (v := (0 : Int32)) hx hb dX8_quarrel_26 (by decide) ?_
        exact x_zret E X rfl h dX8_quarrel_27
/-- SevenToAShadowModel.quarrel(IIZ)Z -/
theorem mX8_quarrel (l : Launch) (Z : XG) (hQ : wQ (List.length mL) Z) {S S' : Mem} {r : Int32} (x1 x2 x3 : Int32) (h : fX8_quarrel S x1 x2 x3 = some (r, S')) : XM l yX8_quarrel cX8_quarrel 4 (some .boolean) { frames := 1, cells := 0, slots := 0, locals := 21 } mL Z [.ref (Z.2.1 0), .int x1, .int x2, .int x3] S (XQ mL Z r S') := by
  refine XM.of (own := RX8) (by decide +kernel) rfl rfl hQ (fun p e s m args below meth c E ls hl X => ?_)
  exact wX8_quarrel E S x1 x2 x3 h _ _ _ X hl
def fX8_types_3_b (k0 : Mem → Int32 → Int32 → O) (S : Mem) (x1 x2 : Int32) : O := (if x2 < 0 then some ((0 : Int32), S) else gd (inB (S 0 16) 400) <| ltm (mset S 11 ((S 0 16)).toNatClampNeg ((x1 >>> (x2 &&& 31)) &&& (255 : Int32))) fun S_3 => ltm (mset S_3 0 16 ((S_3 0 16) + (1 : Int32))) fun S_4 => k0 S_4 x1 (x2 + (-8 : Int32)))
def fX8_types_3 : Nat → Mem → Int32 → Int32 → O
  | 0 => fun _ _ _ => none
  | n + 1 => fX8_types_3_b (fX8_types_3 n)
def fX8_types (S : Mem) (x1 : Int32) : O := fX8_types_3  FU S x1 (24 : Int32)
theorem dX8_types_0 : decode cX8_types 0 = .ok (.bipush 24, 2) := by decide +kernel
theorem dX8_types_2 : decode cX8_types 2 = .ok (.istore_n 2, 1) := by decide +kernel
theorem dX8_types_3 : decode cX8_types 3 = .ok (.iload_n 2, 1) := by decide +kernel
theorem dX8_types_4 : decode cX8_types 4 = .ok (.ifCond .lt 35, 3) := by decide +kernel
theorem dX8_types_7 : decode cX8_types 7 = .ok (.aload_n 0, 1) := by decide +kernel
theorem dX8_types_8 : decode cX8_types 8 = .ok (.getfield 40, 3) := by decide +kernel
theorem dX8_types_11 : decode cX8_types 11 = .ok (.aload_n 0, 1) := by decide +kernel
theorem dX8_types_12 : decode cX8_types 12 = .ok (.getfield 130, 3) := by decide +kernel
theorem dX8_types_15 : decode cX8_types 15 = .ok (.iload_n 1, 1) := by decide +kernel
theorem dX8_types_16 : decode cX8_types 16 = .ok (.iload_n 2, 1) := by decide +kernel
theorem dX8_types_17 : decode cX8_types 17 = .ok (.ishr, 1) := by decide +kernel
theorem dX8_types_18 : decode cX8_types 18 = .ok (.sipush 255, 3) := by decide +kernel
theorem dX8_types_21 : decode cX8_types 21 = .ok (.iand, 1) := by decide +kernel
theorem dX8_types_22 : decode cX8_types 22 = .ok (.iastore, 1) := by decide +kernel
theorem dX8_types_23 : decode cX8_types 23 = .ok (.aload_n 0, 1) := by decide +kernel
theorem dX8_types_24 : decode cX8_types 24 = .ok (.aload_n 0, 1) := by decide +kernel
theorem dX8_types_25 : decode cX8_types 25 = .ok (.getfield 130, 3) := by decide +kernel
theorem dX8_types_28 : decode cX8_types 28 = .ok (.iconst 1, 1) := by decide +kernel
theorem dX8_types_29 : decode cX8_types 29 = .ok (.iadd, 1) := by decide +kernel
theorem dX8_types_30 : decode cX8_types 30 = .ok (.putfield 130, 3) := by decide +kernel
theorem dX8_types_33 : decode cX8_types 33 = .ok (.iinc 2 (-8), 3) := by decide +kernel
theorem dX8_types_36 : decode cX8_types 36 = .ok (.goto (-33), 3) := by decide +kernel
theorem dX8_types_39 : decode cX8_types 39 = .ok (.return_, 1) := by decide +kernel
set_option maxRecDepth 20000 in
theorem wX8_types_3_b {p : Program} {l : Launch} {e : Env} {s : State} {m : MethodId} {args : Array Value} {below : List Frame} {meth : Method} {c : Code} {Z : XG} {r : Int32} {S' : Mem} (E : XE p s m args meth c cX8_types 3 RX8 none mL Z) (k0 : Mem → Int32 → Int32 → O)  (hk0 : ∀ (S : Mem) (x1 x2 : Int32), k0 S x1 x2 = some (r, S') → WN p l e { frames := 0, cells := 0, slots := 0, locals := 0 } s m args below meth c mL Z (XV mL Z S') S 3 3 [(0, .ref (Z.2.1 0)), (1, .int x1), (2, .int x2)] []) : ∀ (S : Mem) (x1 x2 : Int32), fX8_types_3_b k0 S x1 x2 = some (r, S') → WN p l e { frames := 0, cells := 0, slots := 0, locals := 0 } s m args below meth c mL Z (XV mL Z S') S 3 3 [(0, .ref (Z.2.1 0)), (1, .int x1), (2, .int x2)] [] := by
  obtain ⟨hx, hb, -, -, -, -, -, -, -, hQ⟩ := id E
  intro S x1 x2 h H locs ls X hl
  unfold fX8_types_3_b at h
  refine lv_iload_n hx hb dX8_types_3 rfl (lv_at hl 2 rfl) ?_
  refine lv_if_lt (tgt := 39) hx hb dX8_types_4 (by decide) (fun c_1 => ?_) (fun c_1 => ?_)
  · have h := if_t c_1 h
    exact x_vret E X h dX8_types_39
  · have h := if_f c_1 h
    refine lv_aload_n hx hb dX8_types_7 rfl (lv_at hl 0 rfl) ?_
    refine x_getr E X ffX8_40 rfl rfl dX8_types_8 ?_
    refine lv_aload_n hx hb dX8_types_11 rfl (lv_at hl 0 rfl) ?_
    refine x_get E X ffX8_130 rfl rfl dX8_types_12 ?_
    refine lv_iload_n hx hb dX8_types_15 rfl (lv_at hl 1 rfl) ?_
    refine lv_iload_n hx hb dX8_types_16 rfl (lv_at hl 2 rfl) ?_
    refine lv_ishr hx hb dX8_types_17 ?_
    refine lv_sipush (v := (255 : Int32)) hx hb dX8_types_18 (by decide) ?_
    refine lv_iand hx hb dX8_types_21 ?_
    obtain ⟨g_2, h⟩ := gd_s h
    obtain ⟨S_3, eS_3, h⟩ := ltm_s h
    refine x_iast E X rfl g_2 dX8_types_22 (fun H locs X => ?_)
    rw [← eS_3] at X
    refine lv_aload_n hx hb dX8_types_23 rfl (lv_at hl 0 rfl) ?_
    refine lv_aload_n hx hb dX8_types_24 rfl (lv_at hl 0 rfl) ?_
    refine x_get E X ffX8_130 rfl rfl dX8_types_25 ?_
    refine lv_iconst (v := (1 : Int32)) hx hb dX8_types_28 (by decide) ?_
    refine lv_iadd hx hb dX8_types_29 ?_
    obtain ⟨S_4, eS_4, h⟩ := ltm_s h
    refine x_put E X fpX8_130 rfl rfl dX8_types_30 (fun H locs X => ?_)
    rw [← eS_4] at X
    refine lv_iinc (v := (x2 + (-8 : Int32))) (lv' := [(2, .int (x2 + (-8 : Int32))), (0, .ref (Z.2.1 0)), (1, .int x1)]) hx hb dX8_types_33 hl (k := 2) rfl rfl (by decide) rfl (fun ls hl => ?_)
    refine lv_goto (tgt := 3) hx hb dX8_types_36 (by decide) ?_
    exact hk0 S_4 x1 (x2 + (-8 : Int32)) h _ _ _ X (lv_sub hl [1, 2, 0] rfl)
theorem wX8_types_3 {p : Program} {l : Launch} {e : Env} {s : State} {m : MethodId} {args : Array Value} {below : List Frame} {meth : Method} {c : Code} {Z : XG} {r : Int32} {S' : Mem} (E : XE p s m args meth c cX8_types 3 RX8 none mL Z) : ∀ (n : Nat) (S : Mem) (x1 x2 : Int32), fX8_types_3 n S x1 x2 = some (r, S') → WN p l e { frames := 0, cells := 0, slots := 0, locals := 0 } s m args below meth c mL Z (XV mL Z S') S 3 3 [(0, .ref (Z.2.1 0)), (1, .int x1), (2, .int x2)] [] := by
  intro n
  induction n with
  | zero => intro S x1 x2 h; exact absurd (show (none : O) = some _ from h) (by simp)
  | succ n ih => intro S x1 x2 h; exact wX8_types_3_b E (fX8_types_3 n) ih S x1 x2 h
set_option maxRecDepth 20000 in
theorem wX8_types {p : Program} {l : Launch} {e : Env} {s : State} {m : MethodId} {args : Array Value} {below : List Frame} {meth : Method} {c : Code} {Z : XG} {r : Int32} {S' : Mem} (E : XE p s m args meth c cX8_types 3 RX8 none mL Z) : ∀ (S : Mem) (x1 : Int32), fX8_types  S x1 = some (r, S') → WN p l e { frames := 0, cells := 0, slots := 0, locals := 0 } s m args below meth c mL Z (XV mL Z S') S 0 3 [(0, .ref (Z.2.1 0)), (1, .int x1)] [] := by
  obtain ⟨hx, hb, -, -, -, -, -, -, -, hQ⟩ := id E
  intro S x1 h H locs ls X hl
  unfold fX8_types at h
  refine lv_bipush (v := (24 : Int32)) hx hb dX8_types_0 (by decide) ?_
  refine lv_istore_n (lv' := [(2, .int (24 : Int32)), (0, .ref (Z.2.1 0)), (1, .int x1)]) hx hb dX8_types_2 rfl hl (by decide) rfl (fun ls hl => ?_)
  exact wX8_types_3 E   FU S x1 (24 : Int32) h _ _ _ X (lv_sub hl [1, 2, 0] rfl)
/-- SevenToAShadowModel.types(I)V -/
theorem mX8_types (l : Launch) (Z : XG) (hQ : wQ (List.length mL) Z) {S S' : Mem} {r : Int32} (x1 : Int32) (h : fX8_types S x1 = some (r, S')) : XM l yX8_types cX8_types 3 none { frames := 0, cells := 0, slots := 0, locals := 0 } mL Z [.ref (Z.2.1 0), .int x1] S (XV mL Z S') := by
  refine XM.of (own := RX8) (by decide +kernel) rfl rfl hQ (fun p e s m args below meth c E ls hl X => ?_)
  exact wX8_types E S x1 h _ _ _ X hl
def fX8_feed (S : Mem) (x1 x2 x3 x4 x5 : Int32) : O := ltm (mset S 0 0 (0 : Int32)) fun S_1 => (if (S_1 0 16) ≤ (380 : Int32) then bnd (fX8_types S_1 x1) fun _ S_4 => bnd (fX8_types S_4 x2) fun _ S_6 => bnd (fX8_types S_6 x3) fun _ S_8 => bnd (fX8_types S_8 x4) fun _ S_10 => bnd (fX8_types S_10 x5) fun _ S_12 => some ((S_12 0 16), S_12) else some ((-1 : Int32), S_1))
theorem dX8_feed_0 : decode cX8_feed 0 = .ok (.aload_n 0, 1) := by decide +kernel
theorem dX8_feed_1 : decode cX8_feed 1 = .ok (.iconst 0, 1) := by decide +kernel
theorem dX8_feed_2 : decode cX8_feed 2 = .ok (.putfield 92, 3) := by decide +kernel
theorem dX8_feed_5 : decode cX8_feed 5 = .ok (.aload_n 0, 1) := by decide +kernel
theorem dX8_feed_6 : decode cX8_feed 6 = .ok (.getfield 130, 3) := by decide +kernel
theorem dX8_feed_9 : decode cX8_feed 9 = .ok (.sipush 380, 3) := by decide +kernel
theorem dX8_feed_12 : decode cX8_feed 12 = .ok (.if_icmp .le 5, 3) := by decide +kernel
theorem dX8_feed_15 : decode cX8_feed 15 = .ok (.iconst (-1), 1) := by decide +kernel
theorem dX8_feed_16 : decode cX8_feed 16 = .ok (.ireturn, 1) := by decide +kernel
theorem dX8_feed_17 : decode cX8_feed 17 = .ok (.aload_n 0, 1) := by decide +kernel
theorem dX8_feed_18 : decode cX8_feed 18 = .ok (.iload_n 1, 1) := by decide +kernel
theorem dX8_feed_19 : decode cX8_feed 19 = .ok (.invokevirtual 133, 3) := by decide +kernel
theorem dX8_feed_22 : decode cX8_feed 22 = .ok (.aload_n 0, 1) := by decide +kernel
theorem dX8_feed_23 : decode cX8_feed 23 = .ok (.iload_n 2, 1) := by decide +kernel
theorem dX8_feed_24 : decode cX8_feed 24 = .ok (.invokevirtual 133, 3) := by decide +kernel
theorem dX8_feed_27 : decode cX8_feed 27 = .ok (.aload_n 0, 1) := by decide +kernel
theorem dX8_feed_28 : decode cX8_feed 28 = .ok (.iload_n 3, 1) := by decide +kernel
theorem dX8_feed_29 : decode cX8_feed 29 = .ok (.invokevirtual 133, 3) := by decide +kernel
theorem dX8_feed_32 : decode cX8_feed 32 = .ok (.aload_n 0, 1) := by decide +kernel
theorem dX8_feed_33 : decode cX8_feed 33 = .ok (.iload 4, 2) := by decide +kernel
theorem dX8_feed_35 : decode cX8_feed 35 = .ok (.invokevirtual 133, 3) := by decide +kernel
theorem dX8_feed_38 : decode cX8_feed 38 = .ok (.aload_n 0, 1) := by decide +kernel
theorem dX8_feed_39 : decode cX8_feed 39 = .ok (.iload 5, 2) := by decide +kernel
theorem dX8_feed_41 : decode cX8_feed 41 = .ok (.invokevirtual 133, 3) := by decide +kernel
theorem dX8_feed_44 : decode cX8_feed 44 = .ok (.aload_n 0, 1) := by decide +kernel
theorem dX8_feed_45 : decode cX8_feed 45 = .ok (.getfield 130, 3) := by decide +kernel
theorem dX8_feed_48 : decode cX8_feed 48 = .ok (.ireturn, 1) := by decide +kernel
set_option maxRecDepth 20000 in
theorem wX8_feed {p : Program} {l : Launch} {e : Env} {s : State} {m : MethodId} {args : Array Value} {below : List Frame} {meth : Method} {c : Code} {Z : XG} {r : Int32} {S' : Mem} (E : XE p s m args meth c cX8_feed 6 RX8 (some .int) mL Z) : ∀ (S : Mem) (x1 x2 x3 x4 x5 : Int32), fX8_feed  S x1 x2 x3 x4 x5 = some (r, S') → WN p l e { frames := 1, cells := 0, slots := 0, locals := 22 } s m args below meth c mL Z (XQ mL Z r S') S 0 6 [(0, .ref (Z.2.1 0)), (1, .int x1), (2, .int x2), (3, .int x3), (4, .int x4), (5, .int x5)] [] := by
  obtain ⟨hx, hb, -, -, -, -, -, -, -, hQ⟩ := id E
  intro S x1 x2 x3 x4 x5 h H locs ls X hl
  unfold fX8_feed at h
  refine lv_aload_n hx hb dX8_feed_0 rfl (lv_at hl 0 rfl) ?_
  refine lv_iconst (v := (0 : Int32)) hx hb dX8_feed_1 (by decide) ?_
  obtain ⟨S_1, eS_1, h⟩ := ltm_s h
  refine x_put E X fpX8_92 rfl rfl dX8_feed_2 (fun H locs X => ?_)
  rw [← eS_1] at X
  refine lv_aload_n hx hb dX8_feed_5 rfl (lv_at hl 0 rfl) ?_
  refine x_get E X ffX8_130 rfl rfl dX8_feed_6 ?_
  refine lv_sipush (v := (380 : Int32)) hx hb dX8_feed_9 (by decide) ?_
  refine lv_icmp_le (tgt := 17) hx hb dX8_feed_12 (by decide) (fun c_2 => ?_) (fun c_2 => ?_)
  · have h := if_t c_2 h
    refine lv_aload_n hx hb dX8_feed_17 rfl (lv_at hl 0 rfl) ?_
    refine lv_iload_n hx hb dX8_feed_18 rfl (lv_at hl 1 rfl) ?_
    obtain ⟨r_3, S_4, hr_3, h⟩ := bnd_s h
    refine x_callVv E X cwX8_133 (mX8_types l Z hQ  x1 hr_3) rfl rfl rfl rfl hl.1 rfl dX8_feed_19 (fun H locs X => ?_)
    refine lv_aload_n hx hb dX8_feed_22 rfl (lv_at hl 0 rfl) ?_
    refine lv_iload_n hx hb dX8_feed_23 rfl (lv_at hl 2 rfl) ?_
    obtain ⟨r_5, S_6, hr_5, h⟩ := bnd_s h
    refine x_callVv E X cwX8_133 (mX8_types l Z hQ  x2 hr_5) rfl rfl rfl rfl hl.1 rfl dX8_feed_24 (fun H locs X => ?_)
    refine lv_aload_n hx hb dX8_feed_27 rfl (lv_at hl 0 rfl) ?_
    refine lv_iload_n hx hb dX8_feed_28 rfl (lv_at hl 3 rfl) ?_
    obtain ⟨r_7, S_8, hr_7, h⟩ := bnd_s h
    refine x_callVv E X cwX8_133 (mX8_types l Z hQ  x3 hr_7) rfl rfl rfl rfl hl.1 rfl dX8_feed_29 (fun H locs X => ?_)
    refine lv_aload_n hx hb dX8_feed_32 rfl (lv_at hl 0 rfl) ?_
    refine lv_iload hx hb dX8_feed_33 (lv_at hl 4 rfl) ?_
    obtain ⟨r_9, S_10, hr_9, h⟩ := bnd_s h
    refine x_callVv E X cwX8_133 (mX8_types l Z hQ  x4 hr_9) rfl rfl rfl rfl hl.1 rfl dX8_feed_35 (fun H locs X => ?_)
    refine lv_aload_n hx hb dX8_feed_38 rfl (lv_at hl 0 rfl) ?_
    refine lv_iload hx hb dX8_feed_39 (lv_at hl 5 rfl) ?_
    obtain ⟨r_11, S_12, hr_11, h⟩ := bnd_s h
    refine x_callVv E X cwX8_133 (mX8_types l Z hQ  x5 hr_11) rfl rfl rfl rfl hl.1 rfl dX8_feed_41 (fun H locs X => ?_)
    refine lv_aload_n hx hb dX8_feed_44 rfl (lv_at hl 0 rfl) ?_
    refine x_get E X ffX8_130 rfl rfl dX8_feed_45 ?_
    exact x_iret E X h dX8_feed_48
  · have h := if_f c_2 h
    refine lv_iconst (v := (-1 : Int32)) hx hb dX8_feed_15 (by decide) ?_
    exact x_iret E X h dX8_feed_16
/-- SevenToAShadowModel.feed(IIIII)I -/
theorem mX8_feed (l : Launch) (Z : XG) (hQ : wQ (List.length mL) Z) {S S' : Mem} {r : Int32} (x1 x2 x3 x4 x5 : Int32) (h : fX8_feed S x1 x2 x3 x4 x5 = some (r, S')) : XM l yX8_feed cX8_feed 6 (some .int) { frames := 1, cells := 0, slots := 0, locals := 22 } mL Z [.ref (Z.2.1 0), .int x1, .int x2, .int x3, .int x4, .int x5] S (XQ mL Z r S') := by
  refine XM.of (own := RX8) (by decide +kernel) rfl rfl hQ (fun p e s m args below meth c E ls hl X => ?_)
  exact wX8_feed E S x1 x2 x3 x4 x5 h _ _ _ X hl
def fX8_end (S : Mem) (x1 : Int32) : O := ltm (mset S 0 0 (0 : Int32)) fun S_1 => bnd (fX8_isIn S_1 x1 (0 : Int32) (S_1 0 16)) fun r_2 S_3 => (if r_2 = 0 then some ((0 : Int32), S_3) else ltm (mset S_3 0 16 x1) fun S_5 => some ((1 : Int32), S_5))
theorem dX8_end_0 : decode cX8_end 0 = .ok (.aload_n 0, 1) := by decide +kernel
theorem dX8_end_1 : decode cX8_end 1 = .ok (.iconst 0, 1) := by decide +kernel
theorem dX8_end_2 : decode cX8_end 2 = .ok (.putfield 92, 3) := by decide +kernel
theorem dX8_end_5 : decode cX8_end 5 = .ok (.aload_n 0, 1) := by decide +kernel
theorem dX8_end_6 : decode cX8_end 6 = .ok (.iload_n 1, 1) := by decide +kernel
theorem dX8_end_7 : decode cX8_end 7 = .ok (.iconst 0, 1) := by decide +kernel
theorem dX8_end_8 : decode cX8_end 8 = .ok (.aload_n 0, 1) := by decide +kernel
theorem dX8_end_9 : decode cX8_end 9 = .ok (.getfield 130, 3) := by decide +kernel
theorem dX8_end_12 : decode cX8_end 12 = .ok (.invokevirtual 107, 3) := by decide +kernel
theorem dX8_end_15 : decode cX8_end 15 = .ok (.ifCond .ne 5, 3) := by decide +kernel
theorem dX8_end_18 : decode cX8_end 18 = .ok (.iconst 0, 1) := by decide +kernel
theorem dX8_end_19 : decode cX8_end 19 = .ok (.ireturn, 1) := by decide +kernel
theorem dX8_end_20 : decode cX8_end 20 = .ok (.aload_n 0, 1) := by decide +kernel
theorem dX8_end_21 : decode cX8_end 21 = .ok (.iload_n 1, 1) := by decide +kernel
theorem dX8_end_22 : decode cX8_end 22 = .ok (.putfield 130, 3) := by decide +kernel
theorem dX8_end_25 : decode cX8_end 25 = .ok (.iconst 1, 1) := by decide +kernel
theorem dX8_end_26 : decode cX8_end 26 = .ok (.ireturn, 1) := by decide +kernel
set_option maxRecDepth 20000 in
theorem wX8_end {p : Program} {l : Launch} {e : Env} {s : State} {m : MethodId} {args : Array Value} {below : List Frame} {meth : Method} {c : Code} {Z : XG} {r : Int32} {S' : Mem} (E : XE p s m args meth c cX8_end 2 RX8 (some .boolean) mL Z) : ∀ (S : Mem) (x1 : Int32), fX8_end  S x1 = some (r, S') → WN p l e { frames := 1, cells := 0, slots := 0, locals := 23 } s m args below meth c mL Z (XQ mL Z r S') S 0 2 [(0, .ref (Z.2.1 0)), (1, .int x1)] [] := by
  obtain ⟨hx, hb, -, -, -, -, -, -, -, hQ⟩ := id E
  intro S x1 h H locs ls X hl
  unfold fX8_end at h
  refine lv_aload_n hx hb dX8_end_0 rfl (lv_at hl 0 rfl) ?_
  refine lv_iconst (v := (0 : Int32)) hx hb dX8_end_1 (by decide) ?_
  obtain ⟨S_1, eS_1, h⟩ := ltm_s h
  refine x_put E X fpX8_92 rfl rfl dX8_end_2 (fun H locs X => ?_)
  rw [← eS_1] at X
  refine lv_aload_n hx hb dX8_end_5 rfl (lv_at hl 0 rfl) ?_
  refine lv_iload_n hx hb dX8_end_6 rfl (lv_at hl 1 rfl) ?_
  refine lv_iconst (v := (0 : Int32)) hx hb dX8_end_7 (by decide) ?_
  refine lv_aload_n hx hb dX8_end_8 rfl (lv_at hl 0 rfl) ?_
  refine x_get E X ffX8_130 rfl rfl dX8_end_9 ?_
  obtain ⟨r_2, S_3, hr_2, h⟩ := bnd_s h
  refine x_callV E X cwX8_107 (mX8_isIn l Z hQ  x1 (0 : Int32) (S_1 0 16) hr_2) rfl rfl rfl rfl hl.1 rfl dX8_end_12 (fun H locs X => ?_)
  refine lv_if_ne (tgt := 20) hx hb dX8_end_15 (by decide) (fun c_4 => ?_) (fun c_4 => ?_)
  · have h := if_f c_4 h
    refine lv_aload_n hx hb dX8_end_20 rfl (lv_at hl 0 rfl) ?_
    refine lv_iload_n hx hb dX8_end_21 rfl (lv_at hl 1 rfl) ?_
    obtain ⟨S_5, eS_5, h⟩ := ltm_s h
    refine x_put E X fpX8_130 rfl rfl dX8_end_22 (fun H locs X => ?_)
    rw [← eS_5] at X
    refine lv_iconst (v := (1 : Int32)) hx hb dX8_end_25 (by decide) ?_
    exact x_zret E X rfl h dX8_end_26
  · have h := if_t c_4 h
    refine lv_iconst (v := (0 : Int32)) hx hb dX8_end_18 (by decide) ?_
    exact x_zret E X rfl h dX8_end_19
/-- SevenToAShadowModel.end(I)Z -/
theorem mX8_end (l : Launch) (Z : XG) (hQ : wQ (List.length mL) Z) {S S' : Mem} {r : Int32} (x1 : Int32) (h : fX8_end S x1 = some (r, S')) : XM l yX8_end cX8_end 2 (some .boolean) { frames := 1, cells := 0, slots := 0, locals := 23 } mL Z [.ref (Z.2.1 0), .int x1] S (XQ mL Z r S') := by
  refine XM.of (own := RX8) (by decide +kernel) rfl rfl hQ (fun p e s m args below meth c E ls hl X => ?_)
  exact wX8_end E S x1 h _ _ _ X hl
def fX8_raw (S : Mem) (x1 : Int32) : O := (if (S 0 16) ≤ x1 then some ((-1 : Int32), S) else gd (inB x1 400) <| some ((S 11 (x1).toNatClampNeg), S))
theorem dX8_raw_0 : decode cX8_raw 0 = .ok (.iload_n 1, 1) := by decide +kernel
theorem dX8_raw_1 : decode cX8_raw 1 = .ok (.aload_n 0, 1) := by decide +kernel
theorem dX8_raw_2 : decode cX8_raw 2 = .ok (.getfield 130, 3) := by decide +kernel
theorem dX8_raw_5 : decode cX8_raw 5 = .ok (.if_icmp .ge 12, 3) := by decide +kernel
theorem dX8_raw_8 : decode cX8_raw 8 = .ok (.aload_n 0, 1) := by decide +kernel
theorem dX8_raw_9 : decode cX8_raw 9 = .ok (.getfield 40, 3) := by decide +kernel
theorem dX8_raw_12 : decode cX8_raw 12 = .ok (.iload_n 1, 1) := by decide +kernel
theorem dX8_raw_13 : decode cX8_raw 13 = .ok (.iaload, 1) := by decide +kernel
theorem dX8_raw_14 : decode cX8_raw 14 = .ok (.goto 4, 3) := by decide +kernel
theorem dX8_raw_17 : decode cX8_raw 17 = .ok (.iconst (-1), 1) := by decide +kernel
theorem dX8_raw_18 : decode cX8_raw 18 = .ok (.ireturn, 1) := by decide +kernel
set_option maxRecDepth 20000 in
theorem wX8_raw {p : Program} {l : Launch} {e : Env} {s : State} {m : MethodId} {args : Array Value} {below : List Frame} {meth : Method} {c : Code} {Z : XG} {r : Int32} {S' : Mem} (E : XE p s m args meth c cX8_raw 2 RX8 (some .int) mL Z) : ∀ (S : Mem) (x1 : Int32), fX8_raw  S x1 = some (r, S') → WN p l e { frames := 0, cells := 0, slots := 0, locals := 0 } s m args below meth c mL Z (XQ mL Z r S') S 0 2 [(0, .ref (Z.2.1 0)), (1, .int x1)] [] := by
  obtain ⟨hx, hb, -, -, -, -, -, -, -, hQ⟩ := id E
  intro S x1 h H locs ls X hl
  unfold fX8_raw at h
  refine lv_iload_n hx hb dX8_raw_0 rfl (lv_at hl 1 rfl) ?_
  refine lv_aload_n hx hb dX8_raw_1 rfl (lv_at hl 0 rfl) ?_
  refine x_get E X ffX8_130 rfl rfl dX8_raw_2 ?_
  refine lv_icmp_ge (tgt := 17) hx hb dX8_raw_5 (by decide) (fun c_1 => ?_) (fun c_1 => ?_)
  · have h := if_t c_1 h
    refine lv_iconst (v := (-1 : Int32)) hx hb dX8_raw_17 (by decide) ?_
    exact x_iret E X h dX8_raw_18
  · have h := if_f c_1 h
    refine lv_aload_n hx hb dX8_raw_8 rfl (lv_at hl 0 rfl) ?_
    refine x_getr E X ffX8_40 rfl rfl dX8_raw_9 ?_
    refine lv_iload_n hx hb dX8_raw_12 rfl (lv_at hl 1 rfl) ?_
    obtain ⟨g_2, h⟩ := gd_s h
    refine x_iald E X rfl g_2 dX8_raw_13 ?_
    refine lv_goto (tgt := 18) hx hb dX8_raw_14 (by decide) ?_
    exact x_iret E X h dX8_raw_18
/-- SevenToAShadowModel.raw(I)I -/
theorem mX8_raw (l : Launch) (Z : XG) (hQ : wQ (List.length mL) Z) {S S' : Mem} {r : Int32} (x1 : Int32) (h : fX8_raw S x1 = some (r, S')) : XM l yX8_raw cX8_raw 2 (some .int) { frames := 0, cells := 0, slots := 0, locals := 0 } mL Z [.ref (Z.2.1 0), .int x1] S (XQ mL Z r S') := by
  refine XM.of (own := RX8) (by decide +kernel) rfl rfl hQ (fun p e s m args below meth c E ls hl X => ?_)
  exact wX8_raw E S x1 h _ _ _ X hl
def fX8_isLetter_24 (S : Mem) : O := some ((1 : Int32), S)
def fX8_isLetter (S : Mem) (x1 : Int32) : O := bnd (fX8_isIn S x1 (97 : Int32) (122 : Int32)) fun r_1 S_2 => (if r_1 = 0 then bnd (fX8_isIn S_2 x1 (65 : Int32) (90 : Int32)) fun r_4 S_5 => (if r_4 = 0 then some ((0 : Int32), S_5) else fX8_isLetter_24  S_5 ) else fX8_isLetter_24  S_2 )
theorem dX8_isLetter_0 : decode cX8_isLetter 0 = .ok (.aload_n 0, 1) := by decide +kernel
theorem dX8_isLetter_1 : decode cX8_isLetter 1 = .ok (.iload_n 1, 1) := by decide +kernel
theorem dX8_isLetter_2 : decode cX8_isLetter 2 = .ok (.bipush 97, 2) := by decide +kernel
theorem dX8_isLetter_4 : decode cX8_isLetter 4 = .ok (.bipush 122, 2) := by decide +kernel
theorem dX8_isLetter_6 : decode cX8_isLetter 6 = .ok (.invokevirtual 107, 3) := by decide +kernel
theorem dX8_isLetter_9 : decode cX8_isLetter 9 = .ok (.ifCond .ne 15, 3) := by decide +kernel
theorem dX8_isLetter_12 : decode cX8_isLetter 12 = .ok (.aload_n 0, 1) := by decide +kernel
theorem dX8_isLetter_13 : decode cX8_isLetter 13 = .ok (.iload_n 1, 1) := by decide +kernel
theorem dX8_isLetter_14 : decode cX8_isLetter 14 = .ok (.bipush 65, 2) := by decide +kernel
theorem dX8_isLetter_16 : decode cX8_isLetter 16 = .ok (.bipush 90, 2) := by decide +kernel
theorem dX8_isLetter_18 : decode cX8_isLetter 18 = .ok (.invokevirtual 107, 3) := by decide +kernel
theorem dX8_isLetter_21 : decode cX8_isLetter 21 = .ok (.ifCond .eq 7, 3) := by decide +kernel
theorem dX8_isLetter_24 : decode cX8_isLetter 24 = .ok (.iconst 1, 1) := by decide +kernel
theorem dX8_isLetter_25 : decode cX8_isLetter 25 = .ok (.goto 4, 3) := by decide +kernel
theorem dX8_isLetter_28 : decode cX8_isLetter 28 = .ok (.iconst 0, 1) := by decide +kernel
theorem dX8_isLetter_29 : decode cX8_isLetter 29 = .ok (.ireturn, 1) := by decide +kernel
set_option maxRecDepth 20000 in
theorem wX8_isLetter_24 {p : Program} {l : Launch} {e : Env} {s : State} {m : MethodId} {args : Array Value} {below : List Frame} {meth : Method} {c : Code} {Z : XG} {r : Int32} {S' : Mem} (E : XE p s m args meth c cX8_isLetter 2 RX8 (some .boolean) mL Z) : ∀ (S : Mem), fX8_isLetter_24  S  = some (r, S') → WN p l e { frames := 1, cells := 0, slots := 0, locals := 23 } s m args below meth c mL Z (XQ mL Z r S') S 24 2 [] [] := by
  obtain ⟨hx, hb, -, -, -, -, -, -, -, hQ⟩ := id E
  intro S  h H locs ls X hl
  unfold fX8_isLetter_24 at h
  refine lv_iconst (v := (1 : Int32)) hx hb dX8_isLetter_24 (by decide) ?_
  refine lv_goto (tgt := 29) hx hb dX8_isLetter_25 (by decide) ?_
  exact x_zret E X rfl h dX8_isLetter_29
set_option maxRecDepth 20000 in
theorem wX8_isLetter {p : Program} {l : Launch} {e : Env} {s : State} {m : MethodId} {args : Array Value} {below : List Frame} {meth : Method} {c : Code} {Z : XG} {r : Int32} {S' : Mem} (E : XE p s m args meth c cX8_isLetter 2 RX8 (some .boolean) mL Z) : ∀ (S : Mem) (x1 : Int32), fX8_isLetter  S x1 = some (r, S') → WN p l e { frames := 1, cells := 0, slots := 0, locals := 23 } s m args below meth c mL Z (XQ mL Z r S') S 0 2 [(0, .ref (Z.2.1 0)), (1, .int x1)] [] := by
  obtain ⟨hx, hb, -, -, -, -, -, -, -, hQ⟩ := id E
  intro S x1 h H locs ls X hl
  unfold fX8_isLetter at h
  refine lv_aload_n hx hb dX8_isLetter_0 rfl (lv_at hl 0 rfl) ?_
  refine lv_iload_n hx hb dX8_isLetter_1 rfl (lv_at hl 1 rfl) ?_
  refine lv_bipush (v := (97 : Int32)) hx hb dX8_isLetter_2 (by decide) ?_
  refine lv_bipush (v := (122 : Int32)) hx hb dX8_isLetter_4 (by decide) ?_
  obtain ⟨r_1, S_2, hr_1, h⟩ := bnd_s h
  refine x_callV E X cwX8_107 (mX8_isIn l Z hQ  x1 (97 : Int32) (122 : Int32) hr_1) rfl rfl rfl rfl hl.1 rfl dX8_isLetter_6 (fun H locs X => ?_)
  refine lv_if_ne (tgt := 24) hx hb dX8_isLetter_9 (by decide) (fun c_3 => ?_) (fun c_3 => ?_)
  · have h := if_f c_3 h
    exact wX8_isLetter_24 E   S_2  h _ _ _ X (lv_sub hl [] rfl)
  · have h := if_t c_3 h
    refine lv_aload_n hx hb dX8_isLetter_12 rfl (lv_at hl 0 rfl) ?_
    refine lv_iload_n hx hb dX8_isLetter_13 rfl (lv_at hl 1 rfl) ?_
    refine lv_bipush (v := (65 : Int32)) hx hb dX8_isLetter_14 (by decide) ?_
    refine lv_bipush (v := (90 : Int32)) hx hb dX8_isLetter_16 (by decide) ?_
    obtain ⟨r_4, S_5, hr_4, h⟩ := bnd_s h
    refine x_callV E X cwX8_107 (mX8_isIn l Z hQ  x1 (65 : Int32) (90 : Int32) hr_4) rfl rfl rfl rfl hl.1 rfl dX8_isLetter_18 (fun H locs X => ?_)
    refine lv_if_eq (tgt := 28) hx hb dX8_isLetter_21 (by decide) (fun c_6 => ?_) (fun c_6 => ?_)
    · have h := if_t c_6 h
      refine lv_iconst (v := (0 : Int32)) hx hb dX8_isLetter_28 (by decide) ?_
      exact x_zret E X rfl h dX8_isLetter_29
    · have h := if_f c_6 h
      exact wX8_isLetter_24 E   S_5  h _ _ _ X (lv_sub hl [] rfl)
/-- SevenToAShadowModel.isLetter(I)Z -/
theorem mX8_isLetter (l : Launch) (Z : XG) (hQ : wQ (List.length mL) Z) {S S' : Mem} {r : Int32} (x1 : Int32) (h : fX8_isLetter S x1 = some (r, S')) : XM l yX8_isLetter cX8_isLetter 2 (some .boolean) { frames := 1, cells := 0, slots := 0, locals := 23 } mL Z [.ref (Z.2.1 0), .int x1] S (XQ mL Z r S') := by
  refine XM.of (own := RX8) (by decide +kernel) rfl rfl hQ (fun p e s m args below meth c E ls hl X => ?_)
  exact wX8_isLetter E S x1 h _ _ _ X hl
def fX8_isDigit (S : Mem) (x1 : Int32) : O := bnd (fX8_isIn S x1 (48 : Int32) (57 : Int32)) fun r_1 S_2 => gd (isB r_1) <| some (r_1, S_2)
theorem dX8_isDigit_0 : decode cX8_isDigit 0 = .ok (.aload_n 0, 1) := by decide +kernel
theorem dX8_isDigit_1 : decode cX8_isDigit 1 = .ok (.iload_n 1, 1) := by decide +kernel
theorem dX8_isDigit_2 : decode cX8_isDigit 2 = .ok (.bipush 48, 2) := by decide +kernel
theorem dX8_isDigit_4 : decode cX8_isDigit 4 = .ok (.bipush 57, 2) := by decide +kernel
theorem dX8_isDigit_6 : decode cX8_isDigit 6 = .ok (.invokevirtual 107, 3) := by decide +kernel
theorem dX8_isDigit_9 : decode cX8_isDigit 9 = .ok (.ireturn, 1) := by decide +kernel
set_option maxRecDepth 20000 in
theorem wX8_isDigit {p : Program} {l : Launch} {e : Env} {s : State} {m : MethodId} {args : Array Value} {below : List Frame} {meth : Method} {c : Code} {Z : XG} {r : Int32} {S' : Mem} (E : XE p s m args meth c cX8_isDigit 2 RX8 (some .boolean) mL Z) : ∀ (S : Mem) (x1 : Int32), fX8_isDigit  S x1 = some (r, S') → WN p l e { frames := 1, cells := 0, slots := 0, locals := 23 } s m args below meth c mL Z (XQ mL Z r S') S 0 2 [(0, .ref (Z.2.1 0)), (1, .int x1)] [] := by
  obtain ⟨hx, hb, -, -, -, -, -, -, -, hQ⟩ := id E
  intro S x1 h H locs ls X hl
  unfold fX8_isDigit at h
  refine lv_aload_n hx hb dX8_isDigit_0 rfl (lv_at hl 0 rfl) ?_
  refine lv_iload_n hx hb dX8_isDigit_1 rfl (lv_at hl 1 rfl) ?_
  refine lv_bipush (v := (48 : Int32)) hx hb dX8_isDigit_2 (by decide) ?_
  refine lv_bipush (v := (57 : Int32)) hx hb dX8_isDigit_4 (by decide) ?_
  obtain ⟨r_1, S_2, hr_1, h⟩ := bnd_s h
  refine x_callV E X cwX8_107 (mX8_isIn l Z hQ  x1 (48 : Int32) (57 : Int32) hr_1) rfl rfl rfl rfl hl.1 rfl dX8_isDigit_6 (fun H locs X => ?_)
  obtain ⟨g_3, h⟩ := gd_s h
  exact x_zret E X g_3 h dX8_isDigit_9
/-- SevenToAShadowModel.isDigit(I)Z -/
theorem mX8_isDigit (l : Launch) (Z : XG) (hQ : wQ (List.length mL) Z) {S S' : Mem} {r : Int32} (x1 : Int32) (h : fX8_isDigit S x1 = some (r, S')) : XM l yX8_isDigit cX8_isDigit 2 (some .boolean) { frames := 1, cells := 0, slots := 0, locals := 23 } mL Z [.ref (Z.2.1 0), .int x1] S (XQ mL Z r S') := by
  refine XM.of (own := RX8) (by decide +kernel) rfl rfl hQ (fun p e s m args below meth c E ls hl X => ?_)
  exact wX8_isDigit E S x1 h _ _ _ X hl
def fX8_isMarkSign_60 (S : Mem) : O := some ((1 : Int32), S)
def fX8_isMarkSign (S : Mem) (x1 : Int32) : O := (if x1 = (59 : Int32) then fX8_isMarkSign_60  S  else (if x1 = (43 : Int32) then fX8_isMarkSign_60  S  else (if x1 = (45 : Int32) then fX8_isMarkSign_60  S  else (if x1 = (42 : Int32) then fX8_isMarkSign_60  S  else (if x1 = (47 : Int32) then fX8_isMarkSign_60  S  else (if x1 = (40 : Int32) then fX8_isMarkSign_60  S  else (if x1 = (41 : Int32) then fX8_isMarkSign_60  S  else (if x1 = (60 : Int32) then fX8_isMarkSign_60  S  else (if x1 = (61 : Int32) then fX8_isMarkSign_60  S  else (if x1 = (62 : Int32) then fX8_isMarkSign_60  S  else some ((0 : Int32), S)))))))))))
theorem dX8_isMarkSign_0 : decode cX8_isMarkSign 0 = .ok (.iload_n 1, 1) := by decide +kernel
theorem dX8_isMarkSign_1 : decode cX8_isMarkSign 1 = .ok (.bipush 59, 2) := by decide +kernel
theorem dX8_isMarkSign_3 : decode cX8_isMarkSign 3 = .ok (.if_icmp .eq 57, 3) := by decide +kernel
theorem dX8_isMarkSign_6 : decode cX8_isMarkSign 6 = .ok (.iload_n 1, 1) := by decide +kernel
theorem dX8_isMarkSign_7 : decode cX8_isMarkSign 7 = .ok (.bipush 43, 2) := by decide +kernel
theorem dX8_isMarkSign_9 : decode cX8_isMarkSign 9 = .ok (.if_icmp .eq 51, 3) := by decide +kernel
theorem dX8_isMarkSign_12 : decode cX8_isMarkSign 12 = .ok (.iload_n 1, 1) := by decide +kernel
theorem dX8_isMarkSign_13 : decode cX8_isMarkSign 13 = .ok (.bipush 45, 2) := by decide +kernel
theorem dX8_isMarkSign_15 : decode cX8_isMarkSign 15 = .ok (.if_icmp .eq 45, 3) := by decide +kernel
theorem dX8_isMarkSign_18 : decode cX8_isMarkSign 18 = .ok (.iload_n 1, 1) := by decide +kernel
theorem dX8_isMarkSign_19 : decode cX8_isMarkSign 19 = .ok (.bipush 42, 2) := by decide +kernel
theorem dX8_isMarkSign_21 : decode cX8_isMarkSign 21 = .ok (.if_icmp .eq 39, 3) := by decide +kernel
theorem dX8_isMarkSign_24 : decode cX8_isMarkSign 24 = .ok (.iload_n 1, 1) := by decide +kernel
theorem dX8_isMarkSign_25 : decode cX8_isMarkSign 25 = .ok (.bipush 47, 2) := by decide +kernel
theorem dX8_isMarkSign_27 : decode cX8_isMarkSign 27 = .ok (.if_icmp .eq 33, 3) := by decide +kernel
theorem dX8_isMarkSign_30 : decode cX8_isMarkSign 30 = .ok (.iload_n 1, 1) := by decide +kernel
theorem dX8_isMarkSign_31 : decode cX8_isMarkSign 31 = .ok (.bipush 40, 2) := by decide +kernel
theorem dX8_isMarkSign_33 : decode cX8_isMarkSign 33 = .ok (.if_icmp .eq 27, 3) := by decide +kernel
theorem dX8_isMarkSign_36 : decode cX8_isMarkSign 36 = .ok (.iload_n 1, 1) := by decide +kernel
theorem dX8_isMarkSign_37 : decode cX8_isMarkSign 37 = .ok (.bipush 41, 2) := by decide +kernel
theorem dX8_isMarkSign_39 : decode cX8_isMarkSign 39 = .ok (.if_icmp .eq 21, 3) := by decide +kernel
theorem dX8_isMarkSign_42 : decode cX8_isMarkSign 42 = .ok (.iload_n 1, 1) := by decide +kernel
theorem dX8_isMarkSign_43 : decode cX8_isMarkSign 43 = .ok (.bipush 60, 2) := by decide +kernel
theorem dX8_isMarkSign_45 : decode cX8_isMarkSign 45 = .ok (.if_icmp .eq 15, 3) := by decide +kernel
theorem dX8_isMarkSign_48 : decode cX8_isMarkSign 48 = .ok (.iload_n 1, 1) := by decide +kernel
theorem dX8_isMarkSign_49 : decode cX8_isMarkSign 49 = .ok (.bipush 61, 2) := by decide +kernel
theorem dX8_isMarkSign_51 : decode cX8_isMarkSign 51 = .ok (.if_icmp .eq 9, 3) := by decide +kernel
theorem dX8_isMarkSign_54 : decode cX8_isMarkSign 54 = .ok (.iload_n 1, 1) := by decide +kernel
theorem dX8_isMarkSign_55 : decode cX8_isMarkSign 55 = .ok (.bipush 62, 2) := by decide +kernel
theorem dX8_isMarkSign_57 : decode cX8_isMarkSign 57 = .ok (.if_icmp .ne 7, 3) := by decide +kernel
theorem dX8_isMarkSign_60 : decode cX8_isMarkSign 60 = .ok (.iconst 1, 1) := by decide +kernel
theorem dX8_isMarkSign_61 : decode cX8_isMarkSign 61 = .ok (.goto 4, 3) := by decide +kernel
theorem dX8_isMarkSign_64 : decode cX8_isMarkSign 64 = .ok (.iconst 0, 1) := by decide +kernel
theorem dX8_isMarkSign_65 : decode cX8_isMarkSign 65 = .ok (.ireturn, 1) := by decide +kernel
set_option maxRecDepth 20000 in
theorem wX8_isMarkSign_60 {p : Program} {l : Launch} {e : Env} {s : State} {m : MethodId} {args : Array Value} {below : List Frame} {meth : Method} {c : Code} {Z : XG} {r : Int32} {S' : Mem} (E : XE p s m args meth c cX8_isMarkSign 2 RX8 (some .boolean) mL Z) : ∀ (S : Mem), fX8_isMarkSign_60  S  = some (r, S') → WN p l e { frames := 0, cells := 0, slots := 0, locals := 0 } s m args below meth c mL Z (XQ mL Z r S') S 60 2 [] [] := by
  obtain ⟨hx, hb, -, -, -, -, -, -, -, hQ⟩ := id E
  intro S  h H locs ls X hl
  unfold fX8_isMarkSign_60 at h
  refine lv_iconst (v := (1 : Int32)) hx hb dX8_isMarkSign_60 (by decide) ?_
  refine lv_goto (tgt := 65) hx hb dX8_isMarkSign_61 (by decide) ?_
  exact x_zret E X rfl h dX8_isMarkSign_65
set_option maxRecDepth 20000 in
theorem wX8_isMarkSign {p : Program} {l : Launch} {e : Env} {s : State} {m : MethodId} {args : Array Value} {below : List Frame} {meth : Method} {c : Code} {Z : XG} {r : Int32} {S' : Mem} (E : XE p s m args meth c cX8_isMarkSign 2 RX8 (some .boolean) mL Z) : ∀ (S : Mem) (x1 : Int32), fX8_isMarkSign  S x1 = some (r, S') → WN p l e { frames := 0, cells := 0, slots := 0, locals := 0 } s m args below meth c mL Z (XQ mL Z r S') S 0 2 [(1, .int x1)] [] := by
  obtain ⟨hx, hb, -, -, -, -, -, -, -, hQ⟩ := id E
  intro S x1 h H locs ls X hl
  unfold fX8_isMarkSign at h
  refine lv_iload_n hx hb dX8_isMarkSign_0 rfl (lv_at hl 0 rfl) ?_
  refine lv_bipush (v := (59 : Int32)) hx hb dX8_isMarkSign_1 (by decide) ?_
  refine lv_icmp_eq (tgt := 60) hx hb dX8_isMarkSign_3 (by decide) (fun c_1 => ?_) (fun c_1 => ?_)
  · have h := if_t c_1 h
    exact wX8_isMarkSign_60 E   S  h _ _ _ X (lv_sub hl [] rfl)
  · have h := if_f c_1 h
    refine lv_iload_n hx hb dX8_isMarkSign_6 rfl (lv_at hl 0 rfl) ?_
    refine lv_bipush (v := (43 : Int32)) hx hb dX8_isMarkSign_7 (by decide) ?_
    refine lv_icmp_eq (tgt := 60) hx hb dX8_isMarkSign_9 (by decide) (fun c_2 => ?_) (fun c_2 => ?_)
    · have h := if_t c_2 h
      exact wX8_isMarkSign_60 E   S  h _ _ _ X (lv_sub hl [] rfl)
    · have h := if_f c_2 h
      refine lv_iload_n hx hb dX8_isMarkSign_12 rfl (lv_at hl 0 rfl) ?_
      refine lv_bipush (v := (45 : Int32)) hx hb dX8_isMarkSign_13 (by decide) ?_
      refine lv_icmp_eq (tgt := 60) hx hb dX8_isMarkSign_15 (by decide) (fun c_3 => ?_) (fun c_3 => ?_)
      · have h := if_t c_3 h
        exact wX8_isMarkSign_60 E   S  h _ _ _ X (lv_sub hl [] rfl)
      · have h := if_f c_3 h
        refine lv_iload_n hx hb dX8_isMarkSign_18 rfl (lv_at hl 0 rfl) ?_
        refine lv_bipush (v := (42 : Int32)) hx hb dX8_isMarkSign_19 (by decide) ?_
        refine lv_icmp_eq (tgt := 60) hx hb dX8_isMarkSign_21 (by decide) (fun c_4 => ?_) (fun c_4 => ?_)
        · have h := if_t c_4 h
          exact wX8_isMarkSign_60 E   S  h _ _ _ X (lv_sub hl [] rfl)
        · have h := if_f c_4 h
          refine lv_iload_n hx hb dX8_isMarkSign_24 rfl (lv_at hl 0 rfl) ?_
          refine lv_bipush (v := (47 : Int32)) hx hb dX8_isMarkSign_25 (by decide) ?_
          refine lv_icmp_eq (tgt := 60) hx hb dX8_isMarkSign_27 (by decide) (fun c_5 => ?_) (fun c_5 => ?_)
          · have h := if_t c_5 h
            exact wX8_isMarkSign_60 E   S  h _ _ _ X (lv_sub hl [] rfl)
          · have h := if_f c_5 h
            refine lv_iload_n hx hb dX8_isMarkSign_30 rfl (lv_at hl 0 rfl) ?_
            refine lv_bipush (v := (40 : Int32)) hx hb dX8_isMarkSign_31 (by decide) ?_
            refine lv_icmp_eq (tgt := 60) hx hb dX8_isMarkSign_33 (by decide) (fun c_6 => ?_) (fun c_6 => ?_)
            · have h := if_t c_6 h
              exact wX8_isMarkSign_60 E   S  h _ _ _ X (lv_sub hl [] rfl)
            · have h := if_f c_6 h
              refine lv_iload_n hx hb dX8_isMarkSign_36 rfl (lv_at hl 0 rfl) ?_
              refine lv_bipush (v := (41 : Int32)) hx hb dX8_isMarkSign_37 (by decide) ?_
              refine lv_icmp_eq (tgt := 60) hx hb dX8_isMarkSign_39 (by decide) (fun c_7 => ?_) (fun c_7 => ?_)
              · have h := if_t c_7 h
                exact wX8_isMarkSign_60 E   S  h _ _ _ X (lv_sub hl [] rfl)
              · have h := if_f c_7 h
                refine lv_iload_n hx hb dX8_isMarkSign_42 rfl (lv_at hl 0 rfl) ?_
                refine lv_bipush (v := (60 : Int32)) hx hb dX8_isMarkSign_43 (by decide) ?_
                refine lv_icmp_eq (tgt := 60) hx hb dX8_isMarkSign_45 (by decide) (fun c_8 => ?_) (fun c_8 => ?_)
                · have h := if_t c_8 h
                  exact wX8_isMarkSign_60 E   S  h _ _ _ X (lv_sub hl [] rfl)
                · have h := if_f c_8 h
                  refine lv_iload_n hx hb dX8_isMarkSign_48 rfl (lv_at hl 0 rfl) ?_
                  refine lv_bipush (v := (61 : Int32)) hx hb dX8_isMarkSign_49 (by decide) ?_
                  refine lv_icmp_eq (tgt := 60) hx hb dX8_isMarkSign_51 (by decide) (fun c_9 => ?_) (fun c_9 => ?_)
                  · have h := if_t c_9 h
                    exact wX8_isMarkSign_60 E   S  h _ _ _ X (lv_sub hl [] rfl)
                  · have h := if_f c_9 h
                    refine lv_iload_n hx hb dX8_isMarkSign_54 rfl (lv_at hl 0 rfl) ?_
                    refine lv_bipush (v := (62 : Int32)) hx hb dX8_isMarkSign_55 (by decide) ?_
                    refine lv_icmp_ne (tgt := 64) hx hb dX8_isMarkSign_57 (by decide) (fun c_10 => ?_) (fun c_10 => ?_)
                    · have h := if_f c_10 h
                      refine lv_iconst (v := (0 : Int32)) hx hb dX8_isMarkSign_64 (by decide) ?_
                      exact x_zret E X rfl h dX8_isMarkSign_65
                    · have h := if_t c_10 h
                      exact wX8_isMarkSign_60 E   S  h _ _ _ X (lv_sub hl [] rfl)
/-- SevenToAShadowModel.isMarkSign(I)Z -/
theorem mX8_isMarkSign (l : Launch) (Z : XG) (hQ : wQ (List.length mL) Z) {S S' : Mem} {r : Int32} (x1 : Int32) (h : fX8_isMarkSign S x1 = some (r, S')) : XM l yX8_isMarkSign cX8_isMarkSign 2 (some .boolean) { frames := 0, cells := 0, slots := 0, locals := 0 } mL Z [.ref (Z.2.1 0), .int x1] S (XQ mL Z r S') := by
  refine XM.of (own := RX8) (by decide +kernel) rfl rfl hQ (fun p e s m args below meth c E ls hl X => ?_)
  exact wX8_isMarkSign E S x1 h _ _ _ X (lv_sub hl [1] rfl)
def fX8_wordAt_93_b (k0 : Mem → Int32 → Int32 → Int32 → Int32 → O) (k1 : Mem → Int32 → Int32 → Int32 → Int32 → O) (S : Mem) (x1 x2 x3 x4 : Int32) : O := gd (inB x4 94) <| (if (S 12 (x4).toNatClampNeg) = (32 : Int32) then k0 S x1 x2 x3 x4 else lti (x4 + (1 : Int32)) fun x4_3 => k1 S x1 x2 x3 x4_3)
def fX8_wordAt_93 (k0 : Mem → Int32 → Int32 → Int32 → Int32 → O) : Nat → Mem → Int32 → Int32 → Int32 → Int32 → O
  | 0 => fun _ _ _ _ _ => none
  | n + 1 => fX8_wordAt_93_b k0 (fX8_wordAt_93 k0 n)
def fX8_wordAt_87 (k0 : Mem → Int32 → Int32 → Int32 → Int32 → O) (S : Mem) (x1 x2 x3 x4 : Int32) : O := lti (x4 + (1 : Int32)) fun x4_1 => fX8_wordAt_93 k0 FU S x1 x2 x3 x4_1
def fX8_wordAt_60 (k0 : Mem → Int32 → Int32 → Int32 → Int32 → O) (S : Mem) (x1 x2 x3 x4 x5 : Int32) : O := (if (x1 + x5) = x2 then gd (inB ((x4 + (1 : Int32)) + x5) 94) <| (if (S 12 (((x4 + (1 : Int32)) + x5)).toNatClampNeg) = (32 : Int32) then some (x3, S) else fX8_wordAt_87 k0 S x1 x2 x3 x4) else fX8_wordAt_87 k0 S x1 x2 x3 x4)
def fX8_wordAt_19_b (k0 : Mem → Int32 → Int32 → Int32 → Int32 → O) (k1 : Mem → Int32 → Int32 → Int32 → Int32 → Int32 → O) (S : Mem) (x1 x2 x3 x4 x5 : Int32) : O := (if x2 ≤ (x1 + x5) then fX8_wordAt_60 k0 S x1 x2 x3 x4 x5 else gd (inB ((x4 + (1 : Int32)) + x5) 94) <| gd (inB (x1 + x5) 400) <| (if (S 12 (((x4 + (1 : Int32)) + x5)).toNatClampNeg) = (S 11 ((x1 + x5)).toNatClampNeg) then lti (x5 + (1 : Int32)) fun x5_5 => k1 S x1 x2 x3 x4 x5_5 else fX8_wordAt_60 k0 S x1 x2 x3 x4 x5))
def fX8_wordAt_19 (k0 : Mem → Int32 → Int32 → Int32 → Int32 → O) : Nat → Mem → Int32 → Int32 → Int32 → Int32 → Int32 → O
  | 0 => fun _ _ _ _ _ _ => none
  | n + 1 => fX8_wordAt_19_b k0 (fX8_wordAt_19 k0 n)
def fX8_wordAt_5_b (k0 : Mem → Int32 → Int32 → Int32 → Int32 → O) (S : Mem) (x1 x2 x3 x4 : Int32) : O := (if (93 : Int32) ≤ x4 then some ((-1 : Int32), S) else lti (x3 + (1 : Int32)) fun x3_2 => fX8_wordAt_19 k0 FU S x1 x2 x3_2 x4 (0 : Int32))
def fX8_wordAt_5 : Nat → Mem → Int32 → Int32 → Int32 → Int32 → O
  | 0 => fun _ _ _ _ _ => none
  | n + 1 => fX8_wordAt_5_b (fX8_wordAt_5 n)
def fX8_wordAt (S : Mem) (x1 x2 : Int32) : O := fX8_wordAt_5  FU S x1 x2 (-1 : Int32) (0 : Int32)
theorem dX8_wordAt_0 : decode cX8_wordAt 0 = .ok (.iconst (-1), 1) := by decide +kernel
theorem dX8_wordAt_1 : decode cX8_wordAt 1 = .ok (.istore_n 3, 1) := by decide +kernel
theorem dX8_wordAt_2 : decode cX8_wordAt 2 = .ok (.iconst 0, 1) := by decide +kernel
theorem dX8_wordAt_3 : decode cX8_wordAt 3 = .ok (.istore 4, 2) := by decide +kernel
theorem dX8_wordAt_5 : decode cX8_wordAt 5 = .ok (.iload 4, 2) := by decide +kernel
theorem dX8_wordAt_7 : decode cX8_wordAt 7 = .ok (.bipush 93, 2) := by decide +kernel
theorem dX8_wordAt_9 : decode cX8_wordAt 9 = .ok (.if_icmp .ge 108, 3) := by decide +kernel
theorem dX8_wordAt_12 : decode cX8_wordAt 12 = .ok (.iconst 0, 1) := by decide +kernel
theorem dX8_wordAt_13 : decode cX8_wordAt 13 = .ok (.istore 5, 2) := by decide +kernel
theorem dX8_wordAt_15 : decode cX8_wordAt 15 = .ok (.iload_n 3, 1) := by decide +kernel
theorem dX8_wordAt_16 : decode cX8_wordAt 16 = .ok (.iconst 1, 1) := by decide +kernel
theorem dX8_wordAt_17 : decode cX8_wordAt 17 = .ok (.iadd, 1) := by decide +kernel
theorem dX8_wordAt_18 : decode cX8_wordAt 18 = .ok (.istore_n 3, 1) := by decide +kernel
theorem dX8_wordAt_19 : decode cX8_wordAt 19 = .ok (.iload_n 1, 1) := by decide +kernel
theorem dX8_wordAt_20 : decode cX8_wordAt 20 = .ok (.iload 5, 2) := by decide +kernel
theorem dX8_wordAt_22 : decode cX8_wordAt 22 = .ok (.iadd, 1) := by decide +kernel
theorem dX8_wordAt_23 : decode cX8_wordAt 23 = .ok (.iload_n 2, 1) := by decide +kernel
theorem dX8_wordAt_24 : decode cX8_wordAt 24 = .ok (.if_icmp .ge 36, 3) := by decide +kernel
theorem dX8_wordAt_27 : decode cX8_wordAt 27 = .ok (.aload_n 0, 1) := by decide +kernel
theorem dX8_wordAt_28 : decode cX8_wordAt 28 = .ok (.getfield 43, 3) := by decide +kernel
theorem dX8_wordAt_31 : decode cX8_wordAt 31 = .ok (.iload 4, 2) := by decide +kernel
theorem dX8_wordAt_33 : decode cX8_wordAt 33 = .ok (.iconst 1, 1) := by decide +kernel
theorem dX8_wordAt_34 : decode cX8_wordAt 34 = .ok (.iadd, 1) := by decide +kernel
theorem dX8_wordAt_35 : decode cX8_wordAt 35 = .ok (.iload 5, 2) := by decide +kernel
theorem dX8_wordAt_37 : decode cX8_wordAt 37 = .ok (.iadd, 1) := by decide +kernel
theorem dX8_wordAt_38 : decode cX8_wordAt 38 = .ok (.iaload, 1) := by decide +kernel
theorem dX8_wordAt_39 : decode cX8_wordAt 39 = .ok (.aload_n 0, 1) := by decide +kernel
theorem dX8_wordAt_40 : decode cX8_wordAt 40 = .ok (.getfield 40, 3) := by decide +kernel
theorem dX8_wordAt_43 : decode cX8_wordAt 43 = .ok (.iload_n 1, 1) := by decide +kernel
theorem dX8_wordAt_44 : decode cX8_wordAt 44 = .ok (.iload 5, 2) := by decide +kernel
theorem dX8_wordAt_46 : decode cX8_wordAt 46 = .ok (.iadd, 1) := by decide +kernel
theorem dX8_wordAt_47 : decode cX8_wordAt 47 = .ok (.iaload, 1) := by decide +kernel
theorem dX8_wordAt_48 : decode cX8_wordAt 48 = .ok (.if_icmp .ne 12, 3) := by decide +kernel
theorem dX8_wordAt_51 : decode cX8_wordAt 51 = .ok (.iload 5, 2) := by decide +kernel
theorem dX8_wordAt_53 : decode cX8_wordAt 53 = .ok (.iconst 1, 1) := by decide +kernel
theorem dX8_wordAt_54 : decode cX8_wordAt 54 = .ok (.iadd, 1) := by decide +kernel
theorem dX8_wordAt_55 : decode cX8_wordAt 55 = .ok (.istore 5, 2) := by decide +kernel
theorem dX8_wordAt_57 : decode cX8_wordAt 57 = .ok (.goto (-38), 3) := by decide +kernel
theorem dX8_wordAt_60 : decode cX8_wordAt 60 = .ok (.iload_n 1, 1) := by decide +kernel
theorem dX8_wordAt_61 : decode cX8_wordAt 61 = .ok (.iload 5, 2) := by decide +kernel
theorem dX8_wordAt_63 : decode cX8_wordAt 63 = .ok (.iadd, 1) := by decide +kernel
theorem dX8_wordAt_64 : decode cX8_wordAt 64 = .ok (.iload_n 2, 1) := by decide +kernel
theorem dX8_wordAt_65 : decode cX8_wordAt 65 = .ok (.if_icmp .ne 22, 3) := by decide +kernel
theorem dX8_wordAt_68 : decode cX8_wordAt 68 = .ok (.aload_n 0, 1) := by decide +kernel
theorem dX8_wordAt_69 : decode cX8_wordAt 69 = .ok (.getfield 43, 3) := by decide +kernel
theorem dX8_wordAt_72 : decode cX8_wordAt 72 = .ok (.iload 4, 2) := by decide +kernel
theorem dX8_wordAt_74 : decode cX8_wordAt 74 = .ok (.iconst 1, 1) := by decide +kernel
theorem dX8_wordAt_75 : decode cX8_wordAt 75 = .ok (.iadd, 1) := by decide +kernel
theorem dX8_wordAt_76 : decode cX8_wordAt 76 = .ok (.iload 5, 2) := by decide +kernel
theorem dX8_wordAt_78 : decode cX8_wordAt 78 = .ok (.iadd, 1) := by decide +kernel
theorem dX8_wordAt_79 : decode cX8_wordAt 79 = .ok (.iaload, 1) := by decide +kernel
theorem dX8_wordAt_80 : decode cX8_wordAt 80 = .ok (.bipush 32, 2) := by decide +kernel
theorem dX8_wordAt_82 : decode cX8_wordAt 82 = .ok (.if_icmp .ne 5, 3) := by decide +kernel
theorem dX8_wordAt_85 : decode cX8_wordAt 85 = .ok (.iload_n 3, 1) := by decide +kernel
theorem dX8_wordAt_86 : decode cX8_wordAt 86 = .ok (.ireturn, 1) := by decide +kernel
theorem dX8_wordAt_87 : decode cX8_wordAt 87 = .ok (.iload 4, 2) := by decide +kernel
theorem dX8_wordAt_89 : decode cX8_wordAt 89 = .ok (.iconst 1, 1) := by decide +kernel
theorem dX8_wordAt_90 : decode cX8_wordAt 90 = .ok (.iadd, 1) := by decide +kernel
theorem dX8_wordAt_91 : decode cX8_wordAt 91 = .ok (.istore 4, 2) := by decide +kernel
theorem dX8_wordAt_93 : decode cX8_wordAt 93 = .ok (.aload_n 0, 1) := by decide +kernel
theorem dX8_wordAt_94 : decode cX8_wordAt 94 = .ok (.getfield 43, 3) := by decide +kernel
theorem dX8_wordAt_97 : decode cX8_wordAt 97 = .ok (.iload 4, 2) := by decide +kernel
theorem dX8_wordAt_99 : decode cX8_wordAt 99 = .ok (.iaload, 1) := by decide +kernel
theorem dX8_wordAt_100 : decode cX8_wordAt 100 = .ok (.bipush 32, 2) := by decide +kernel
theorem dX8_wordAt_102 : decode cX8_wordAt 102 = .ok (.if_icmp .eq 12, 3) := by decide +kernel
theorem dX8_wordAt_105 : decode cX8_wordAt 105 = .ok (.iload 4, 2) := by decide +kernel
theorem dX8_wordAt_107 : decode cX8_wordAt 107 = .ok (.iconst 1, 1) := by decide +kernel
theorem dX8_wordAt_108 : decode cX8_wordAt 108 = .ok (.iadd, 1) := by decide +kernel
theorem dX8_wordAt_109 : decode cX8_wordAt 109 = .ok (.istore 4, 2) := by decide +kernel
theorem dX8_wordAt_111 : decode cX8_wordAt 111 = .ok (.goto (-18), 3) := by decide +kernel
theorem dX8_wordAt_114 : decode cX8_wordAt 114 = .ok (.goto (-109), 3) := by decide +kernel
theorem dX8_wordAt_117 : decode cX8_wordAt 117 = .ok (.iconst (-1), 1) := by decide +kernel
theorem dX8_wordAt_118 : decode cX8_wordAt 118 = .ok (.ireturn, 1) := by decide +kernel
set_option maxRecDepth 20000 in
theorem wX8_wordAt_93_b {p : Program} {l : Launch} {e : Env} {s : State} {m : MethodId} {args : Array Value} {below : List Frame} {meth : Method} {c : Code} {Z : XG} {r : Int32} {S' : Mem} (E : XE p s m args meth c cX8_wordAt 6 RX8 (some .int) mL Z) (k0 : Mem → Int32 → Int32 → Int32 → Int32 → O)  (k1 : Mem → Int32 → Int32 → Int32 → Int32 → O)  (hk0 : ∀ (S : Mem) (x1 x2 x3 x4 : Int32), k0 S x1 x2 x3 x4 = some (r, S') → WN p l e { frames := 0, cells := 0, slots := 0, locals := 0 } s m args below meth c mL Z (XQ mL Z r S') S 5 6 [(0, .ref (Z.2.1 0)), (1, .int x1), (2, .int x2), (3, .int x3), (4, .int x4)] []) (hk1 : ∀ (S : Mem) (x1 x2 x3 x4 : Int32), k1 S x1 x2 x3 x4 = some (r, S') → WN p l e { frames := 0, cells := 0, slots := 0, locals := 0 } s m args below meth c mL Z (XQ mL Z r S') S 93 6 [(0, .ref (Z.2.1 0)), (1, .int x1), (2, .int x2), (3, .int x3), (4, .int x4)] []) : ∀ (S : Mem) (x1 x2 x3 x4 : Int32), fX8_wordAt_93_b k0 k1 S x1 x2 x3 x4 = some (r, S') → WN p l e { frames := 0, cells := 0, slots := 0, locals := 0 } s m args below meth c mL Z (XQ mL Z r S') S 93 6 [(0, .ref (Z.2.1 0)), (1, .int x1), (2, .int x2), (3, .int x3), (4, .int x4)] [] := by
  obtain ⟨hx, hb, -, -, -, -, -, -, -, hQ⟩ := id E
  intro S x1 x2 x3 x4 h H locs ls X hl
  unfold fX8_wordAt_93_b at h
  refine lv_aload_n hx hb dX8_wordAt_93 rfl (lv_at hl 0 rfl) ?_
  refine x_getr E X ffX8_43 rfl rfl dX8_wordAt_94 ?_
  refine lv_iload hx hb dX8_wordAt_97 (lv_at hl 4 rfl) ?_
  obtain ⟨g_1, h⟩ := gd_s h
  refine x_iald E X rfl g_1 dX8_wordAt_99 ?_
  refine lv_bipush (v := (32 : Int32)) hx hb dX8_wordAt_100 (by decide) ?_
  refine lv_icmp_eq (tgt := 114) hx hb dX8_wordAt_102 (by decide) (fun c_2 => ?_) (fun c_2 => ?_)
  · have h := if_t c_2 h
    refine lv_goto (tgt := 5) hx hb dX8_wordAt_114 (by decide) ?_
    exact hk0 S x1 x2 x3 x4 h _ _ _ X hl
  · have h := if_f c_2 h
    refine lv_iload hx hb dX8_wordAt_105 (lv_at hl 4 rfl) ?_
    refine lv_iconst (v := (1 : Int32)) hx hb dX8_wordAt_107 (by decide) ?_
    refine lv_iadd hx hb dX8_wordAt_108 ?_
    obtain ⟨x4_3, ex4_3, h⟩ := lti_s h
    refine lv_nm ex4_3 ?_
    refine lv_istore (lv' := [(4, .int x4_3), (0, .ref (Z.2.1 0)), (1, .int x1), (2, .int x2), (3, .int x3)]) hx hb dX8_wordAt_109 hl (by decide) rfl (fun ls hl => ?_)
    refine lv_goto (tgt := 93) hx hb dX8_wordAt_111 (by decide) ?_
    exact hk1 S x1 x2 x3 x4_3 h _ _ _ X (lv_sub hl [1, 2, 3, 4, 0] rfl)
theorem wX8_wordAt_93 {p : Program} {l : Launch} {e : Env} {s : State} {m : MethodId} {args : Array Value} {below : List Frame} {meth : Method} {c : Code} {Z : XG} {r : Int32} {S' : Mem} (E : XE p s m args meth c cX8_wordAt 6 RX8 (some .int) mL Z) (k0 : Mem → Int32 → Int32 → Int32 → Int32 → O)  (hk0 : ∀ (S : Mem) (x1 x2 x3 x4 : Int32), k0 S x1 x2 x3 x4 = some (r, S') → WN p l e { frames := 0, cells := 0, slots := 0, locals := 0 } s m args below meth c mL Z (XQ mL Z r S') S 5 6 [(0, .ref (Z.2.1 0)), (1, .int x1), (2, .int x2), (3, .int x3), (4, .int x4)] []) : ∀ (n : Nat) (S : Mem) (x1 x2 x3 x4 : Int32), fX8_wordAt_93 k0 n S x1 x2 x3 x4 = some (r, S') → WN p l e { frames := 0, cells := 0, slots := 0, locals := 0 } s m args below meth c mL Z (XQ mL Z r S') S 93 6 [(0, .ref (Z.2.1 0)), (1, .int x1), (2, .int x2), (3, .int x3), (4, .int x4)] [] := by
  intro n
  induction n with
  | zero => intro S x1 x2 x3 x4 h; exact absurd (show (none : O) = some _ from h) (by simp)
  | succ n ih => intro S x1 x2 x3 x4 h; exact wX8_wordAt_93_b E k0 (fX8_wordAt_93 k0 n) hk0 ih S x1 x2 x3 x4 h
set_option maxRecDepth 20000 in
theorem wX8_wordAt_87 {p : Program} {l : Launch} {e : Env} {s : State} {m : MethodId} {args : Array Value} {below : List Frame} {meth : Method} {c : Code} {Z : XG} {r : Int32} {S' : Mem} (E : XE p s m args meth c cX8_wordAt 6 RX8 (some .int) mL Z) (k0 : Mem → Int32 → Int32 → Int32 → Int32 → O)  (hk0 : ∀ (S : Mem) (x1 x2 x3 x4 : Int32), k0 S x1 x2 x3 x4 = some (r, S') → WN p l e { frames := 0, cells := 0, slots := 0, locals := 0 } s m args below meth c mL Z (XQ mL Z r S') S 5 6 [(0, .ref (Z.2.1 0)), (1, .int x1), (2, .int x2), (3, .int x3), (4, .int x4)] []) : ∀ (S : Mem) (x1 x2 x3 x4 : Int32), fX8_wordAt_87 k0 S x1 x2 x3 x4 = some (r, S') → WN p l e { frames := 0, cells := 0, slots := 0, locals := 0 } s m args below meth c mL Z (XQ mL Z r S') S 87 6 [(0, .ref (Z.2.1 0)), (1, .int x1), (2, .int x2), (3, .int x3), (4, .int x4)] [] := by
  obtain ⟨hx, hb, -, -, -, -, -, -, -, hQ⟩ := id E
  intro S x1 x2 x3 x4 h H locs ls X hl
  unfold fX8_wordAt_87 at h
  refine lv_iload hx hb dX8_wordAt_87 (lv_at hl 4 rfl) ?_
  refine lv_iconst (v := (1 : Int32)) hx hb dX8_wordAt_89 (by decide) ?_
  refine lv_iadd hx hb dX8_wordAt_90 ?_
  obtain ⟨x4_1, ex4_1, h⟩ := lti_s h
  refine lv_nm ex4_1 ?_
  refine lv_istore (lv' := [(4, .int x4_1), (0, .ref (Z.2.1 0)), (1, .int x1), (2, .int x2), (3, .int x3)]) hx hb dX8_wordAt_91 hl (by decide) rfl (fun ls hl => ?_)
  exact wX8_wordAt_93 E k0 hk0 FU S x1 x2 x3 x4_1 h _ _ _ X (lv_sub hl [1, 2, 3, 4, 0] rfl)
set_option maxRecDepth 20000 in
theorem wX8_wordAt_60 {p : Program} {l : Launch} {e : Env} {s : State} {m : MethodId} {args : Array Value} {below : List Frame} {meth : Method} {c : Code} {Z : XG} {r : Int32} {S' : Mem} (E : XE p s m args meth c cX8_wordAt 6 RX8 (some .int) mL Z) (k0 : Mem → Int32 → Int32 → Int32 → Int32 → O)  (hk0 : ∀ (S : Mem) (x1 x2 x3 x4 : Int32), k0 S x1 x2 x3 x4 = some (r, S') → WN p l e { frames := 0, cells := 0, slots := 0, locals := 0 } s m args below meth c mL Z (XQ mL Z r S') S 5 6 [(0, .ref (Z.2.1 0)), (1, .int x1), (2, .int x2), (3, .int x3), (4, .int x4)] []) : ∀ (S : Mem) (x1 x2 x3 x4 x5 : Int32), fX8_wordAt_60 k0 S x1 x2 x3 x4 x5 = some (r, S') → WN p l e { frames := 0, cells := 0, slots := 0, locals := 0 } s m args below meth c mL Z (XQ mL Z r S') S 60 6 [(0, .ref (Z.2.1 0)), (1, .int x1), (2, .int x2), (3, .int x3), (4, .int x4), (5, .int x5)] [] := by
  obtain ⟨hx, hb, -, -, -, -, -, -, -, hQ⟩ := id E
  intro S x1 x2 x3 x4 x5 h H locs ls X hl
  unfold fX8_wordAt_60 at h
  refine lv_iload_n hx hb dX8_wordAt_60 rfl (lv_at hl 1 rfl) ?_
  refine lv_iload hx hb dX8_wordAt_61 (lv_at hl 5 rfl) ?_
  refine lv_iadd hx hb dX8_wordAt_63 ?_
  refine lv_iload_n hx hb dX8_wordAt_64 rfl (lv_at hl 2 rfl) ?_
  refine lv_icmp_ne (tgt := 87) hx hb dX8_wordAt_65 (by decide) (fun c_1 => ?_) (fun c_1 => ?_)
  · have h := if_f c_1 h
    exact wX8_wordAt_87 E k0 hk0 S x1 x2 x3 x4 h _ _ _ X (lv_sub hl [0, 1, 2, 3, 4] rfl)
  · have h := if_t c_1 h
    refine lv_aload_n hx hb dX8_wordAt_68 rfl (lv_at hl 0 rfl) ?_
    refine x_getr E X ffX8_43 rfl rfl dX8_wordAt_69 ?_
    refine lv_iload hx hb dX8_wordAt_72 (lv_at hl 4 rfl) ?_
    refine lv_iconst (v := (1 : Int32)) hx hb dX8_wordAt_74 (by decide) ?_
    refine lv_iadd hx hb dX8_wordAt_75 ?_
    refine lv_iload hx hb dX8_wordAt_76 (lv_at hl 5 rfl) ?_
    refine lv_iadd hx hb dX8_wordAt_78 ?_
    obtain ⟨g_2, h⟩ := gd_s h
    refine x_iald E X rfl g_2 dX8_wordAt_79 ?_
    refine lv_bipush (v := (32 : Int32)) hx hb dX8_wordAt_80 (by decide) ?_
    refine lv_icmp_ne (tgt := 87) hx hb dX8_wordAt_82 (by decide) (fun c_3 => ?_) (fun c_3 => ?_)
    · have h := if_f c_3 h
      exact wX8_wordAt_87 E k0 hk0 S x1 x2 x3 x4 h _ _ _ X (lv_sub hl [0, 1, 2, 3, 4] rfl)
    · have h := if_t c_3 h
      refine lv_iload_n hx hb dX8_wordAt_85 rfl (lv_at hl 3 rfl) ?_
      exact x_iret E X h dX8_wordAt_86
set_option maxRecDepth 20000 in
theorem wX8_wordAt_19_b {p : Program} {l : Launch} {e : Env} {s : State} {m : MethodId} {args : Array Value} {below : List Frame} {meth : Method} {c : Code} {Z : XG} {r : Int32} {S' : Mem} (E : XE p s m args meth c cX8_wordAt 6 RX8 (some .int) mL Z) (k0 : Mem → Int32 → Int32 → Int32 → Int32 → O)  (k1 : Mem → Int32 → Int32 → Int32 → Int32 → Int32 → O)  (hk0 : ∀ (S : Mem) (x1 x2 x3 x4 : Int32), k0 S x1 x2 x3 x4 = some (r, S') → WN p l e { frames := 0, cells := 0, slots := 0, locals := 0 } s m args below meth c mL Z (XQ mL Z r S') S 5 6 [(0, .ref (Z.2.1 0)), (1, .int x1), (2, .int x2), (3, .int x3), (4, .int x4)] []) (hk1 : ∀ (S : Mem) (x1 x2 x3 x4 x5 : Int32), k1 S x1 x2 x3 x4 x5 = some (r, S') → WN p l e { frames := 0, cells := 0, slots := 0, locals := 0 } s m args below meth c mL Z (XQ mL Z r S') S 19 6 [(0, .ref (Z.2.1 0)), (1, .int x1), (2, .int x2), (3, .int x3), (4, .int x4), (5, .int x5)] []) : ∀ (S : Mem) (x1 x2 x3 x4 x5 : Int32), fX8_wordAt_19_b k0 k1 S x1 x2 x3 x4 x5 = some (r, S') → WN p l e { frames := 0, cells := 0, slots := 0, locals := 0 } s m args below meth c mL Z (XQ mL Z r S') S 19 6 [(0, .ref (Z.2.1 0)), (1, .int x1), (2, .int x2), (3, .int x3), (4, .int x4), (5, .int x5)] [] := by
  obtain ⟨hx, hb, -, -, -, -, -, -, -, hQ⟩ := id E
  intro S x1 x2 x3 x4 x5 h H locs ls X hl
  unfold fX8_wordAt_19_b at h
  refine lv_iload_n hx hb dX8_wordAt_19 rfl (lv_at hl 1 rfl) ?_
  refine lv_iload hx hb dX8_wordAt_20 (lv_at hl 5 rfl) ?_
  refine lv_iadd hx hb dX8_wordAt_22 ?_
  refine lv_iload_n hx hb dX8_wordAt_23 rfl (lv_at hl 2 rfl) ?_
  refine lv_icmp_ge (tgt := 60) hx hb dX8_wordAt_24 (by decide) (fun c_1 => ?_) (fun c_1 => ?_)
  · have h := if_t c_1 h
    exact wX8_wordAt_60 E k0 hk0 S x1 x2 x3 x4 x5 h _ _ _ X hl
  · have h := if_f c_1 h
    refine lv_aload_n hx hb dX8_wordAt_27 rfl (lv_at hl 0 rfl) ?_
    refine x_getr E X ffX8_43 rfl rfl dX8_wordAt_28 ?_
    refine lv_iload hx hb dX8_wordAt_31 (lv_at hl 4 rfl) ?_
    refine lv_iconst (v := (1 : Int32)) hx hb dX8_wordAt_33 (by decide) ?_
    refine lv_iadd hx hb dX8_wordAt_34 ?_
    refine lv_iload hx hb dX8_wordAt_35 (lv_at hl 5 rfl) ?_
    refine lv_iadd hx hb dX8_wordAt_37 ?_
    obtain ⟨g_2, h⟩ := gd_s h
    refine x_iald E X rfl g_2 dX8_wordAt_38 ?_
    refine lv_aload_n hx hb dX8_wordAt_39 rfl (lv_at hl 0 rfl) ?_
    refine x_getr E X ffX8_40 rfl rfl dX8_wordAt_40 ?_
    refine lv_iload_n hx hb dX8_wordAt_43 rfl (lv_at hl 1 rfl) ?_
    refine lv_iload hx hb dX8_wordAt_44 (lv_at hl 5 rfl) ?_
    refine lv_iadd hx hb dX8_wordAt_46 ?_
    obtain ⟨g_3, h⟩ := gd_s h
    refine x_iald E X rfl g_3 dX8_wordAt_47 ?_
    refine lv_icmp_ne (tgt := 60) hx hb dX8_wordAt_48 (by decide) (fun c_4 => ?_) (fun c_4 => ?_)
    · have h := if_f c_4 h
      exact wX8_wordAt_60 E k0 hk0 S x1 x2 x3 x4 x5 h _ _ _ X hl
    · have h := if_t c_4 h
      refine lv_iload hx hb dX8_wordAt_51 (lv_at hl 5 rfl) ?_
      refine lv_iconst (v := (1 : Int32)) hx hb dX8_wordAt_53 (by decide) ?_
      refine lv_iadd hx hb dX8_wordAt_54 ?_
      obtain ⟨x5_5, ex5_5, h⟩ := lti_s h
      refine lv_nm ex5_5 ?_
      refine lv_istore (lv' := [(5, .int x5_5), (0, .ref (Z.2.1 0)), (1, .int x1), (2, .int x2), (3, .int x3), (4, .int x4)]) hx hb dX8_wordAt_55 hl (by decide) rfl (fun ls hl => ?_)
      refine lv_goto (tgt := 19) hx hb dX8_wordAt_57 (by decide) ?_
      exact hk1 S x1 x2 x3 x4 x5_5 h _ _ _ X (lv_sub hl [1, 2, 3, 4, 5, 0] rfl)
theorem wX8_wordAt_19 {p : Program} {l : Launch} {e : Env} {s : State} {m : MethodId} {args : Array Value} {below : List Frame} {meth : Method} {c : Code} {Z : XG} {r : Int32} {S' : Mem} (E : XE p s m args meth c cX8_wordAt 6 RX8 (some .int) mL Z) (k0 : Mem → Int32 → Int32 → Int32 → Int32 → O)  (hk0 : ∀ (S : Mem) (x1 x2 x3 x4 : Int32), k0 S x1 x2 x3 x4 = some (r, S') → WN p l e { frames := 0, cells := 0, slots := 0, locals := 0 } s m args below meth c mL Z (XQ mL Z r S') S 5 6 [(0, .ref (Z.2.1 0)), (1, .int x1), (2, .int x2), (3, .int x3), (4, .int x4)] []) : ∀ (n : Nat) (S : Mem) (x1 x2 x3 x4 x5 : Int32), fX8_wordAt_19 k0 n S x1 x2 x3 x4 x5 = some (r, S') → WN p l e { frames := 0, cells := 0, slots := 0, locals := 0 } s m args below meth c mL Z (XQ mL Z r S') S 19 6 [(0, .ref (Z.2.1 0)), (1, .int x1), (2, .int x2), (3, .int x3), (4, .int x4), (5, .int x5)] [] := by
  intro n
  induction n with
  | zero => intro S x1 x2 x3 x4 x5 h; exact absurd (show (none : O) = some _ from h) (by simp)
  | succ n ih => intro S x1 x2 x3 x4 x5 h; exact wX8_wordAt_19_b E k0 (fX8_wordAt_19 k0 n) hk0 ih S x1 x2 x3 x4 x5 h
set_option maxRecDepth 20000 in
theorem wX8_wordAt_5_b {p : Program} {l : Launch} {e : Env} {s : State} {m : MethodId} {args : Array Value} {below : List Frame} {meth : Method} {c : Code} {Z : XG} {r : Int32} {S' : Mem} (E : XE p s m args meth c cX8_wordAt 6 RX8 (some .int) mL Z) (k0 : Mem → Int32 → Int32 → Int32 → Int32 → O)  (hk0 : ∀ (S : Mem) (x1 x2 x3 x4 : Int32), k0 S x1 x2 x3 x4 = some (r, S') → WN p l e { frames := 0, cells := 0, slots := 0, locals := 0 } s m args below meth c mL Z (XQ mL Z r S') S 5 6 [(0, .ref (Z.2.1 0)), (1, .int x1), (2, .int x2), (3, .int x3), (4, .int x4)] []) : ∀ (S : Mem) (x1 x2 x3 x4 : Int32), fX8_wordAt_5_b k0 S x1 x2 x3 x4 = some (r, S') → WN p l e { frames := 0, cells := 0, slots := 0, locals := 0 } s m args below meth c mL Z (XQ mL Z r S') S 5 6 [(0, .ref (Z.2.1 0)), (1, .int x1), (2, .int x2), (3, .int x3), (4, .int x4)] [] := by
  obtain ⟨hx, hb, -, -, -, -, -, -, -, hQ⟩ := id E
  intro S x1 x2 x3 x4 h H locs ls X hl
  unfold fX8_wordAt_5_b at h
  refine lv_iload hx hb dX8_wordAt_5 (lv_at hl 4 rfl) ?_
  refine lv_bipush (v := (93 : Int32)) hx hb dX8_wordAt_7 (by decide) ?_
  refine lv_icmp_ge (tgt := 117) hx hb dX8_wordAt_9 (by decide) (fun c_1 => ?_) (fun c_1 => ?_)
  · have h := if_t c_1 h
    refine lv_iconst (v := (-1 : Int32)) hx hb dX8_wordAt_117 (by decide) ?_
    exact x_iret E X h dX8_wordAt_118
  · have h := if_f c_1 h
    refine lv_iconst (v := (0 : Int32)) hx hb dX8_wordAt_12 (by decide) ?_
    refine lv_istore (lv' := [(5, .int (0 : Int32)), (0, .ref (Z.2.1 0)), (1, .int x1), (2, .int x2), (3, .int x3), (4, .int x4)]) hx hb dX8_wordAt_13 hl (by decide) rfl (fun ls hl => ?_)
    refine lv_iload_n hx hb dX8_wordAt_15 rfl (lv_at hl 4 rfl) ?_
    refine lv_iconst (v := (1 : Int32)) hx hb dX8_wordAt_16 (by decide) ?_
    refine lv_iadd hx hb dX8_wordAt_17 ?_
    obtain ⟨x3_2, ex3_2, h⟩ := lti_s h
    refine lv_nm ex3_2 ?_
    refine lv_istore_n (lv' := [(3, .int x3_2), (5, .int (0 : Int32)), (0, .ref (Z.2.1 0)), (1, .int x1), (2, .int x2), (4, .int x4)]) hx hb dX8_wordAt_18 rfl hl (by decide) rfl (fun ls hl => ?_)
    exact wX8_wordAt_19 E k0 hk0 FU S x1 x2 x3_2 x4 (0 : Int32) h _ _ _ X (lv_sub hl [2, 3, 4, 0, 5, 1] rfl)
theorem wX8_wordAt_5 {p : Program} {l : Launch} {e : Env} {s : State} {m : MethodId} {args : Array Value} {below : List Frame} {meth : Method} {c : Code} {Z : XG} {r : Int32} {S' : Mem} (E : XE p s m args meth c cX8_wordAt 6 RX8 (some .int) mL Z) : ∀ (n : Nat) (S : Mem) (x1 x2 x3 x4 : Int32), fX8_wordAt_5 n S x1 x2 x3 x4 = some (r, S') → WN p l e { frames := 0, cells := 0, slots := 0, locals := 0 } s m args below meth c mL Z (XQ mL Z r S') S 5 6 [(0, .ref (Z.2.1 0)), (1, .int x1), (2, .int x2), (3, .int x3), (4, .int x4)] [] := by
  intro n
  induction n with
  | zero => intro S x1 x2 x3 x4 h; exact absurd (show (none : O) = some _ from h) (by simp)
  | succ n ih => intro S x1 x2 x3 x4 h; exact wX8_wordAt_5_b E (fX8_wordAt_5 n) ih S x1 x2 x3 x4 h
set_option maxRecDepth 20000 in
theorem wX8_wordAt {p : Program} {l : Launch} {e : Env} {s : State} {m : MethodId} {args : Array Value} {below : List Frame} {meth : Method} {c : Code} {Z : XG} {r : Int32} {S' : Mem} (E : XE p s m args meth c cX8_wordAt 6 RX8 (some .int) mL Z) : ∀ (S : Mem) (x1 x2 : Int32), fX8_wordAt  S x1 x2 = some (r, S') → WN p l e { frames := 0, cells := 0, slots := 0, locals := 0 } s m args below meth c mL Z (XQ mL Z r S') S 0 6 [(0, .ref (Z.2.1 0)), (1, .int x1), (2, .int x2)] [] := by
  obtain ⟨hx, hb, -, -, -, -, -, -, -, hQ⟩ := id E
  intro S x1 x2 h H locs ls X hl
  unfold fX8_wordAt at h
  refine lv_iconst (v := (-1 : Int32)) hx hb dX8_wordAt_0 (by decide) ?_
  refine lv_istore_n (lv' := [(3, .int (-1 : Int32)), (0, .ref (Z.2.1 0)), (1, .int x1), (2, .int x2)]) hx hb dX8_wordAt_1 rfl hl (by decide) rfl (fun ls hl => ?_)
  refine lv_iconst (v := (0 : Int32)) hx hb dX8_wordAt_2 (by decide) ?_
  refine lv_istore (lv' := [(4, .int (0 : Int32)), (3, .int (-1 : Int32)), (0, .ref (Z.2.1 0)), (1, .int x1), (2, .int x2)]) hx hb dX8_wordAt_3 hl (by decide) rfl (fun ls hl => ?_)
  exact wX8_wordAt_5 E   FU S x1 x2 (-1 : Int32) (0 : Int32) h _ _ _ X (lv_sub hl [2, 3, 4, 1, 0] rfl)
/-- SevenToAShadowModel.wordAt(II)I -/
theorem mX8_wordAt (l : Launch) (Z : XG) (hQ : wQ (List.length mL) Z) {S S' : Mem} {r : Int32} (x1 x2 : Int32) (h : fX8_wordAt S x1 x2 = some (r, S')) : XM l yX8_wordAt cX8_wordAt 6 (some .int) { frames := 0, cells := 0, slots := 0, locals := 0 } mL Z [.ref (Z.2.1 0), .int x1, .int x2] S (XQ mL Z r S') := by
  refine XM.of (own := RX8) (by decide +kernel) rfl rfl hQ (fun p e s m args below meth c E ls hl X => ?_)
  exact wX8_wordAt E S x1 x2 h _ _ _ X hl
