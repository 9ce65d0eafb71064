def fX7_state (S : Mem) (x1 : Int32) : O := lti (S 1 6) fun x2_1 => ltm (mset S 1 6 x1) fun S_2 => some (x2_1, S_2)
theorem dX7_state_0 : decode cX7_state 0 = .ok (.aload_n 0, 1) := by decide +kernel
theorem dX7_state_1 : decode cX7_state 1 = .ok (.getfield 12, 3) := by decide +kernel
theorem dX7_state_4 : decode cX7_state 4 = .ok (.getfield 49, 3) := by decide +kernel
theorem dX7_state_7 : decode cX7_state 7 = .ok (.istore_n 2, 1) := by decide +kernel
theorem dX7_state_8 : decode cX7_state 8 = .ok (.aload_n 0, 1) := by decide +kernel
theorem dX7_state_9 : decode cX7_state 9 = .ok (.getfield 12, 3) := by decide +kernel
theorem dX7_state_12 : decode cX7_state 12 = .ok (.iload_n 1, 1) := by decide +kernel
theorem dX7_state_13 : decode cX7_state 13 = .ok (.putfield 49, 3) := by decide +kernel
theorem dX7_state_16 : decode cX7_state 16 = .ok (.iload_n 2, 1) := by decide +kernel
theorem dX7_state_17 : decode cX7_state 17 = .ok (.ireturn, 1) := by decide +kernel
set_option maxRecDepth 20000 in
theorem wX7_state {p : Program} {l : Launch} {e : Env} {s : State} {m : MethodId} {args : Array Value} {below : List Frame} {meth : Method} {c : Code} {Z : XG} {r : Int32} {S' : Mem} (E : XE p s m args meth c cX7_state 3 RX7 (some .int) xL Z) : ∀ (S : Mem) (x1 : Int32), fX7_state  S x1 = some (r, S') → WN p l e { frames := 0, cells := 0, slots := 0, locals := 0 } s m args below meth c xL Z (XQ xL Z r S') S 0 3 [(0, .ref (Z.2.1 0)), (1, .int x1)] [] := by
  obtain ⟨hx, hb, -, -, -, -, -, -, -, hQ⟩ := id E
  intro S x1 h H locs ls X hl
  unfold fX7_state at h
  refine lv_aload_n hx hb dX7_state_0 rfl (lv_at hl 0 rfl) ?_
  refine x_getr E X ffX7_12 rfl rfl dX7_state_1 ?_
  refine x_get E X ffX7_49 rfl rfl dX7_state_4 ?_
  obtain ⟨x2_1, ex2_1, h⟩ := lti_s h
  refine lv_nm ex2_1 ?_
  refine lv_istore_n (lv' := [(2, .int x2_1), (0, .ref (Z.2.1 0)), (1, .int x1)]) hx hb dX7_state_7 rfl hl (by decide) rfl (fun ls hl => ?_)
  refine lv_aload_n hx hb dX7_state_8 rfl (lv_at hl 1 rfl) ?_
  refine x_getr E X ffX7_12 rfl rfl dX7_state_9 ?_
  refine lv_iload_n hx hb dX7_state_12 rfl (lv_at hl 2 rfl) ?_
  obtain ⟨S_2, eS_2, h⟩ := ltm_s h
  refine x_put E X fpX7_49 rfl rfl dX7_state_13 (fun H locs X => ?_)
  rw [← eS_2] at X
  refine lv_iload_n hx hb dX7_state_16 rfl (lv_at hl 0 rfl) ?_
  exact x_iret E X h dX7_state_17
/-- SevenToAShadow.state(I)I -/
theorem mX7_state (l : Launch) (Z : XG) (hQ : wQ (List.length xL) Z) {S S' : Mem} {r : Int32} (x1 : Int32) (h : fX7_state S x1 = some (r, S')) : XM l yX7_state cX7_state 3 (some .int) { frames := 0, cells := 0, slots := 0, locals := 0 } xL Z [.ref (Z.2.1 0), .int x1] S (XQ xL Z r S') := by
  refine XM.of (own := RX7) (by decide +kernel) rfl rfl hQ (fun p e s m args below meth c E ls hl X => ?_)
  exact wX7_state E S x1 h _ _ _ X hl
def fX7_isHour (S : Mem) (x0 : Int32) : O := (if x0 < 0 then some ((0 : Int32), S) else (if (12 : Int32) ≤ x0 then some ((0 : Int32), S) else some ((1 : Int32), S)))
theorem dX7_isHour_0 : decode cX7_isHour 0 = .ok (.iload_n 0, 1) := by decide +kernel
theorem dX7_isHour_1 : decode cX7_isHour 1 = .ok (.ifCond .lt 13, 3) := by decide +kernel
theorem dX7_isHour_4 : decode cX7_isHour 4 = .ok (.iload_n 0, 1) := by decide +kernel
theorem dX7_isHour_5 : decode cX7_isHour 5 = .ok (.bipush 12, 2) := by decide +kernel
theorem dX7_isHour_7 : decode cX7_isHour 7 = .ok (.if_icmp .ge 7, 3) := by decide +kernel
theorem dX7_isHour_10 : decode cX7_isHour 10 = .ok (.iconst 1, 1) := by decide +kernel
theorem dX7_isHour_11 : decode cX7_isHour 11 = .ok (.goto 4, 3) := by decide +kernel
theorem dX7_isHour_14 : decode cX7_isHour 14 = .ok (.iconst 0, 1) := by decide +kernel
theorem dX7_isHour_15 : decode cX7_isHour 15 = .ok (.ireturn, 1) := by decide +kernel
set_option maxRecDepth 20000 in
theorem wX7_isHour {p : Program} {l : Launch} {e : Env} {s : State} {m : MethodId} {args : Array Value} {below : List Frame} {meth : Method} {c : Code} {Z : XG} {r : Int32} {S' : Mem} (E : XE p s m args meth c cX7_isHour 1 RX7 (some .boolean) xL Z) : ∀ (S : Mem) (x0 : Int32), fX7_isHour  S x0 = some (r, S') → WN p l e { frames := 0, cells := 0, slots := 0, locals := 0 } s m args below meth c xL Z (XQ xL Z r S') S 0 1 [(0, .int x0)] [] := by
  obtain ⟨hx, hb, -, -, -, -, -, -, -, hQ⟩ := id E
  intro S x0 h H locs ls X hl
  unfold fX7_isHour at h
  refine lv_iload_n hx hb dX7_isHour_0 rfl (lv_at hl 0 rfl) ?_
  refine lv_if_lt (tgt := 14) hx hb dX7_isHour_1 (by decide) (fun c_1 => ?_) (fun c_1 => ?_)
  · have h := if_t c_1 h
    refine lv_iconst (v := (0 : Int32)) hx hb dX7_isHour_14 (by decide) ?_
    exact x_zret E X rfl h dX7_isHour_15
  · have h := if_f c_1 h
    refine lv_iload_n hx hb dX7_isHour_4 rfl (lv_at hl 0 rfl) ?_
    refine lv_bipush (v := (12 : Int32)) hx hb dX7_isHour_5 (by decide) ?_
    refine lv_icmp_ge (tgt := 14) hx hb dX7_isHour_7 (by decide) (fun c_2 => ?_) (fun c_2 => ?_)
    · have h := if_t c_2 h
      refine lv_iconst (v := (0 : Int32)) hx hb dX7_isHour_14 (by decide) ?_
      exact x_zret E X rfl h dX7_isHour_15
    · have h := if_f c_2 h
      refine lv_iconst (v := (1 : Int32)) hx hb dX7_isHour_10 (by decide) ?_
      refine lv_goto (tgt := 15) hx hb dX7_isHour_11 (by decide) ?_
      exact x_zret E X rfl h dX7_isHour_15
/-- SevenToAShadow.isHour(I)Z -/
theorem mX7_isHour (l : Launch) (Z : XG) (hQ : wQ (List.length xL) Z) {S S' : Mem} {r : Int32} (x0 : Int32) (h : fX7_isHour S x0 = some (r, S')) : XM l yX7_isHour cX7_isHour 1 (some .boolean) { frames := 0, cells := 0, slots := 0, locals := 0 } xL Z [.int x0] S (XQ xL Z r S') := by
  refine XM.of (own := RX7) (by decide +kernel) rfl rfl hQ (fun p e s m args below meth c E ls hl X => ?_)
  exact wX7_isHour E S x0 h _ _ _ X hl
def fX2_forget (S : Mem) : O := ltm (mset S 25 4 (0 : Int32)) fun S_1 => some ((0 : Int32), S_1)
theorem dX2_forget_0 : decode cX2_forget 0 = .ok (.aload_n 0, 1) := by decide +kernel
theorem dX2_forget_1 : decode cX2_forget 1 = .ok (.iconst 0, 1) := by decide +kernel
theorem dX2_forget_2 : decode cX2_forget 2 = .ok (.putfield 24, 3) := by decide +kernel
theorem dX2_forget_5 : decode cX2_forget 5 = .ok (.return_, 1) := by decide +kernel
set_option maxRecDepth 20000 in
theorem wX2_forget {p : Program} {l : Launch} {e : Env} {s : State} {m : MethodId} {args : Array Value} {below : List Frame} {meth : Method} {c : Code} {Z : XG} {r : Int32} {S' : Mem} (E : XE p s m args meth c cX2_forget 1 RX2 none xL Z) : ∀ (S : Mem), fX2_forget  S  = some (r, S') → WN p l e { frames := 0, cells := 0, slots := 0, locals := 0 } s m args below meth c xL Z (XV xL Z S') S 0 1 [(0, .ref (Z.2.1 25))] [] := by
  obtain ⟨hx, hb, -, -, -, -, -, -, -, hQ⟩ := id E
  intro S  h H locs ls X hl
  unfold fX2_forget at h
  refine lv_aload_n hx hb dX2_forget_0 rfl (lv_at hl 0 rfl) ?_
  refine lv_iconst (v := (0 : Int32)) hx hb dX2_forget_1 (by decide) ?_
  obtain ⟨S_1, eS_1, h⟩ := ltm_s h
  refine x_put E X fpX2_24 rfl rfl dX2_forget_2 (fun H locs X => ?_)
  rw [← eS_1] at X
  exact x_vret E X h dX2_forget_5
/-- SevenToAShadow$Past.forget()V -/
theorem mX2_forget (l : Launch) (Z : XG) (hQ : wQ (List.length xL) Z) {S S' : Mem} {r : Int32} (h : fX2_forget S  = some (r, S')) : XM l yX2_forget cX2_forget 1 none { frames := 0, cells := 0, slots := 0, locals := 0 } xL Z [.ref (Z.2.1 25)] S (XV xL Z S') := by
  refine XM.of (own := RX2) (by decide +kernel) rfl rfl hQ (fun p e s m args below meth c E ls hl X => ?_)
  exact wX2_forget E S  h _ _ _ X hl
def fX7_hour (S : Mem) (x1 x2 x3 : Int32) : O := bnd (fX7_isHour S x1) fun r_1 S_2 => (if r_1 = 0 then some ((0 : Int32), S_2) else (if x2 < 0 then some ((0 : Int32), S_2) else (if (5 : Int32) ≤ x2 then some ((0 : Int32), S_2) else (if x3 < 0 then some ((0 : Int32), S_2) else gd (inB x2 (List.length st_MOST_OF_COLUMN)) <| (if x3 ≤ (st_MOST_OF_COLUMN.getD (x2).toNatClampNeg 0) then gd (inB ((x1 * (5 : Int32)) + x2) 60) <| ltm (mset S_2 2 (((x1 * (5 : Int32)) + x2)).toNatClampNeg x3) fun S_11 => bnd (fX2_forget S_11 ) fun _ S_13 => some ((1 : Int32), S_13) else some ((0 : Int32), S_2))))))
theorem dX7_hour_0 : decode cX7_hour 0 = .ok (.iload_n 1, 1) := by decide +kernel
theorem dX7_hour_1 : decode cX7_hour 1 = .ok (.invokestatic 53, 3) := by decide +kernel
theorem dX7_hour_4 : decode cX7_hour 4 = .ok (.ifCond .eq 25, 3) := by decide +kernel
theorem dX7_hour_7 : decode cX7_hour 7 = .ok (.iload_n 2, 1) := by decide +kernel
theorem dX7_hour_8 : decode cX7_hour 8 = .ok (.ifCond .lt 21, 3) := by decide +kernel
theorem dX7_hour_11 : decode cX7_hour 11 = .ok (.iload_n 2, 1) := by decide +kernel
theorem dX7_hour_12 : decode cX7_hour 12 = .ok (.iconst 5, 1) := by decide +kernel
theorem dX7_hour_13 : decode cX7_hour 13 = .ok (.if_icmp .ge 16, 3) := by decide +kernel
theorem dX7_hour_16 : decode cX7_hour 16 = .ok (.iload_n 3, 1) := by decide +kernel
theorem dX7_hour_17 : decode cX7_hour 17 = .ok (.ifCond .lt 12, 3) := by decide +kernel
theorem dX7_hour_20 : decode cX7_hour 20 = .ok (.iload_n 3, 1) := by decide +kernel
theorem dX7_hour_21 : decode cX7_hour 21 = .ok (.getstatic 57, 3) := by decide +kernel
theorem dX7_hour_24 : decode cX7_hour 24 = .ok (.iload_n 2, 1) := by decide +kernel
theorem dX7_hour_25 : decode cX7_hour 25 = .ok (.iaload, 1) := by decide +kernel
theorem dX7_hour_26 : decode cX7_hour 26 = .ok (.if_icmp .le 5, 3) := by decide +kernel
theorem dX7_hour_29 : decode cX7_hour 29 = .ok (.iconst 0, 1) := by decide +kernel
theorem dX7_hour_30 : decode cX7_hour 30 = .ok (.ireturn, 1) := by decide +kernel
theorem dX7_hour_31 : decode cX7_hour 31 = .ok (.aload_n 0, 1) := by decide +kernel
theorem dX7_hour_32 : decode cX7_hour 32 = .ok (.getfield 12, 3) := by decide +kernel
theorem dX7_hour_35 : decode cX7_hour 35 = .ok (.getfield 61, 3) := by decide +kernel
theorem dX7_hour_38 : decode cX7_hour 38 = .ok (.iload_n 1, 1) := by decide +kernel
theorem dX7_hour_39 : decode cX7_hour 39 = .ok (.iconst 5, 1) := by decide +kernel
theorem dX7_hour_40 : decode cX7_hour 40 = .ok (.imul, 1) := by decide +kernel
theorem dX7_hour_41 : decode cX7_hour 41 = .ok (.iload_n 2, 1) := by decide +kernel
theorem dX7_hour_42 : decode cX7_hour 42 = .ok (.iadd, 1) := by decide +kernel
theorem dX7_hour_43 : decode cX7_hour 43 = .ok (.iload_n 3, 1) := by decide +kernel
theorem dX7_hour_44 : decode cX7_hour 44 = .ok (.iastore, 1) := by decide +kernel
theorem dX7_hour_45 : decode cX7_hour 45 = .ok (.aload_n 0, 1) := by decide +kernel
theorem dX7_hour_46 : decode cX7_hour 46 = .ok (.getfield 22, 3) := by decide +kernel
theorem dX7_hour_49 : decode cX7_hour 49 = .ok (.invokevirtual 64, 3) := by decide +kernel
theorem dX7_hour_52 : decode cX7_hour 52 = .ok (.iconst 1, 1) := by decide +kernel
theorem dX7_hour_53 : decode cX7_hour 53 = .ok (.ireturn, 1) := by decide +kernel
set_option maxRecDepth 20000 in
theorem wX7_hour {p : Program} {l : Launch} {e : Env} {s : State} {m : MethodId} {args : Array Value} {below : List Frame} {meth : Method} {c : Code} {Z : XG} {r : Int32} {S' : Mem} (E : XE p s m args meth c cX7_hour 4 RX7 (some .boolean) xL Z) : ∀ (S : Mem) (x1 x2 x3 : Int32), fX7_hour  S x1 x2 x3 = some (r, S') → WN p l e { frames := 1, cells := 0, slots := 0, locals := 20 } s m args below meth c xL Z (XQ xL Z r S') S 0 4 [(0, .ref (Z.2.1 0)), (1, .int x1), (2, .int x2), (3, .int x3)] [] := by
  obtain ⟨hx, hb, -, -, -, -, -, -, -, hQ⟩ := id E
  intro S x1 x2 x3 h H locs ls X hl
  unfold fX7_hour at h
  refine lv_iload_n hx hb dX7_hour_0 rfl (lv_at hl 1 rfl) ?_
  obtain ⟨r_1, S_2, hr_1, h⟩ := bnd_s h
  refine x_callS E X cwX7_53 (mX7_isHour l Z hQ  x1 hr_1) rfl rfl hl.1 rfl dX7_hour_1 (fun H locs X => ?_)
  refine lv_if_eq (tgt := 29) hx hb dX7_hour_4 (by decide) (fun c_3 => ?_) (fun c_3 => ?_)
  · have h := if_t c_3 h
    refine lv_iconst (v := (0 : Int32)) hx hb dX7_hour_29 (by decide) ?_
    exact x_zret E X rfl h dX7_hour_30
  · have h := if_f c_3 h
    refine lv_iload_n hx hb dX7_hour_7 rfl (lv_at hl 2 rfl) ?_
    refine lv_if_lt (tgt := 29) hx hb dX7_hour_8 (by decide) (fun c_4 => ?_) (fun c_4 => ?_)
    · have h := if_t c_4 h
      refine lv_iconst (v := (0 : Int32)) hx hb dX7_hour_29 (by decide) ?_
      exact x_zret E X rfl h dX7_hour_30
    · have h := if_f c_4 h
      refine lv_iload_n hx hb dX7_hour_11 rfl (lv_at hl 2 rfl) ?_
      refine lv_iconst (v := (5 : Int32)) hx hb dX7_hour_12 (by decide) ?_
      refine lv_icmp_ge (tgt := 29) hx hb dX7_hour_13 (by decide) (fun c_5 => ?_) (fun c_5 => ?_)
      · have h := if_t c_5 h
        refine lv_iconst (v := (0 : Int32)) hx hb dX7_hour_29 (by decide) ?_
        exact x_zret E X rfl h dX7_hour_30
      · have h := if_f c_5 h
        refine lv_iload_n hx hb dX7_hour_16 rfl (lv_at hl 3 rfl) ?_
        refine lv_if_lt (tgt := 29) hx hb dX7_hour_17 (by decide) (fun c_6 => ?_) (fun c_6 => ?_)
        · have h := if_t c_6 h
          refine lv_iconst (v := (0 : Int32)) hx hb dX7_hour_29 (by decide) ?_
          exact x_zret E X rfl h dX7_hour_30
        · have h := if_f c_6 h
          refine lv_iload_n hx hb dX7_hour_20 rfl (lv_at hl 3 rfl) ?_
          obtain ⟨t_7, hZt_7, hTt_7⟩ := E.2.2.2.2.2.2.2.2.1.1
          refine x_gets E X hZt_7 (gt_at 429 (by decide +kernel) (by decide +kernel)) dX7_hour_21 ?_
          refine lv_iload_n hx hb dX7_hour_24 rfl (lv_at hl 2 rfl) ?_
          obtain ⟨g_8, h⟩ := gd_s h
          refine x_ti E X hTt_7 g_8 dX7_hour_25 ?_
          refine lv_icmp_le (tgt := 31) hx hb dX7_hour_26 (by decide) (fun c_9 => ?_) (fun c_9 => ?_)
          · have h := if_t c_9 h
            refine lv_aload_n hx hb dX7_hour_31 rfl (lv_at hl 0 rfl) ?_
            refine x_getr E X ffX7_12 rfl rfl dX7_hour_32 ?_
            refine x_getr E X ffX7_61 rfl rfl dX7_hour_35 ?_
            refine lv_iload_n hx hb dX7_hour_38 rfl (lv_at hl 1 rfl) ?_
            refine lv_iconst (v := (5 : Int32)) hx hb dX7_hour_39 (by decide) ?_
            refine lv_imul hx hb dX7_hour_40 ?_
            refine lv_iload_n hx hb dX7_hour_41 rfl (lv_at hl 2 rfl) ?_
            refine lv_iadd hx hb dX7_hour_42 ?_
            refine lv_iload_n hx hb dX7_hour_43 rfl (lv_at hl 3 rfl) ?_
            obtain ⟨g_10, h⟩ := gd_s h
            obtain ⟨S_11, eS_11, h⟩ := ltm_s h
            refine x_iast E X rfl g_10 dX7_hour_44 (fun H locs X => ?_)
            rw [← eS_11] at X
            refine lv_aload_n hx hb dX7_hour_45 rfl (lv_at hl 0 rfl) ?_
            refine x_getr E X ffX7_22 rfl rfl dX7_hour_46 ?_
            obtain ⟨r_12, S_13, hr_12, h⟩ := bnd_s h
            refine x_callVv E X cwX7_64 (mX2_forget l Z hQ   hr_12) rfl rfl rfl rfl hl.1 rfl dX7_hour_49 (fun H locs X => ?_)
            refine lv_iconst (v := (1 : Int32)) hx hb dX7_hour_52 (by decide) ?_
            exact x_zret E X rfl h dX7_hour_53
          · have h := if_f c_9 h
            refine lv_iconst (v := (0 : Int32)) hx hb dX7_hour_29 (by decide) ?_
            exact x_zret E X rfl h dX7_hour_30
/-- SevenToAShadow.hour(III)Z -/
theorem mX7_hour (l : Launch) (Z : XG) (hQ : wQ (List.length xL) Z) {S S' : Mem} {r : Int32} (x1 x2 x3 : Int32) (h : fX7_hour S x1 x2 x3 = some (r, S')) : XM l yX7_hour cX7_hour 4 (some .boolean) { frames := 1, cells := 0, slots := 0, locals := 20 } xL Z [.ref (Z.2.1 0), .int x1, .int x2, .int x3] S (XQ xL Z r S') := by
  refine XM.of (own := RX7) (by decide +kernel) rfl rfl hQ (fun p e s m args below meth c E ls hl X => ?_)
  exact wX7_hour E S x1 x2 x3 h _ _ _ X hl
def fX7_set_44 (S : Mem) : O := bnd (fX2_forget S ) fun _ S_2 => some ((1 : Int32), S_2)
def fX7_set (S : Mem) (x1 x2 : Int32) : O := (if x1 < 0 then some ((0 : Int32), S) else (if (1 : Int32) < x1 then some ((0 : Int32), S) else (if x2 < 0 then some ((0 : Int32), S) else (if x2 ≤ (99 : Int32) then (if x1 = 0 then ltm (mset S 1 11 x2) fun S_7 => fX7_set_44  S_7  else ltm (mset S 1 12 x2) fun S_6 => fX7_set_44  S_6 ) else some ((0 : Int32), S)))))
theorem dX7_set_0 : decode cX7_set 0 = .ok (.iload_n 1, 1) := by decide +kernel
theorem dX7_set_1 : decode cX7_set 1 = .ok (.ifCond .lt 18, 3) := by decide +kernel
theorem dX7_set_4 : decode cX7_set 4 = .ok (.iload_n 1, 1) := by decide +kernel
theorem dX7_set_5 : decode cX7_set 5 = .ok (.iconst 1, 1) := by decide +kernel
theorem dX7_set_6 : decode cX7_set 6 = .ok (.if_icmp .gt 13, 3) := by decide +kernel
theorem dX7_set_9 : decode cX7_set 9 = .ok (.iload_n 2, 1) := by decide +kernel
theorem dX7_set_10 : decode cX7_set 10 = .ok (.ifCond .lt 9, 3) := by decide +kernel
theorem dX7_set_13 : decode cX7_set 13 = .ok (.iload_n 2, 1) := by decide +kernel
theorem dX7_set_14 : decode cX7_set 14 = .ok (.bipush 99, 2) := by decide +kernel
theorem dX7_set_16 : decode cX7_set 16 = .ok (.if_icmp .le 5, 3) := by decide +kernel
theorem dX7_set_19 : decode cX7_set 19 = .ok (.iconst 0, 1) := by decide +kernel
theorem dX7_set_20 : decode cX7_set 20 = .ok (.ireturn, 1) := by decide +kernel
theorem dX7_set_21 : decode cX7_set 21 = .ok (.iload_n 1, 1) := by decide +kernel
theorem dX7_set_22 : decode cX7_set 22 = .ok (.ifCond .ne 14, 3) := by decide +kernel
theorem dX7_set_25 : decode cX7_set 25 = .ok (.aload_n 0, 1) := by decide +kernel
theorem dX7_set_26 : decode cX7_set 26 = .ok (.getfield 12, 3) := by decide +kernel
theorem dX7_set_29 : decode cX7_set 29 = .ok (.iload_n 2, 1) := by decide +kernel
theorem dX7_set_30 : decode cX7_set 30 = .ok (.putfield 67, 3) := by decide +kernel
theorem dX7_set_33 : decode cX7_set 33 = .ok (.goto 11, 3) := by decide +kernel
theorem dX7_set_36 : decode cX7_set 36 = .ok (.aload_n 0, 1) := by decide +kernel
theorem dX7_set_37 : decode cX7_set 37 = .ok (.getfield 12, 3) := by decide +kernel
theorem dX7_set_40 : decode cX7_set 40 = .ok (.iload_n 2, 1) := by decide +kernel
theorem dX7_set_41 : decode cX7_set 41 = .ok (.putfield 70, 3) := by decide +kernel
theorem dX7_set_44 : decode cX7_set 44 = .ok (.aload_n 0, 1) := by decide +kernel
theorem dX7_set_45 : decode cX7_set 45 = .ok (.getfield 22, 3) := by decide +kernel
theorem dX7_set_48 : decode cX7_set 48 = .ok (.invokevirtual 64, 3) := by decide +kernel
theorem dX7_set_51 : decode cX7_set 51 = .ok (.iconst 1, 1) := by decide +kernel
theorem dX7_set_52 : decode cX7_set 52 = .ok (.ireturn, 1) := by decide +kernel
set_option maxRecDepth 20000 in
theorem wX7_set_44 {p : Program} {l : Launch} {e : Env} {s : State} {m : MethodId} {args : Array Value} {below : List Frame} {meth : Method} {c : Code} {Z : XG} {r : Int32} {S' : Mem} (E : XE p s m args meth c cX7_set 3 RX7 (some .boolean) xL Z) : ∀ (S : Mem), fX7_set_44  S  = some (r, S') → WN p l e { frames := 1, cells := 0, slots := 0, locals := 20 } s m args below meth c xL Z (XQ xL Z r S') S 44 3 [(0, .ref (Z.2.1 0))] [] := by
  obtain ⟨hx, hb, -, -, -, -, -, -, -, hQ⟩ := id E
  intro S  h H locs ls X hl
  unfold fX7_set_44 at h
  refine lv_aload_n hx hb dX7_set_44 rfl (lv_at hl 0 rfl) ?_
  refine x_getr E X ffX7_22 rfl rfl dX7_set_45 ?_
  obtain ⟨r_1, S_2, hr_1, h⟩ := bnd_s h
  refine x_callVv E X cwX7_64 (mX2_forget l Z hQ   hr_1) rfl rfl rfl rfl hl.1 rfl dX7_set_48 (fun H locs X => ?_)
  refine lv_iconst (v := (1 : Int32)) hx hb dX7_set_51 (by decide) ?_
  exact x_zret E X rfl h dX7_set_52
set_option maxRecDepth 20000 in
theorem wX7_set {p : Program} {l : Launch} {e : Env} {s : State} {m : MethodId} {args : Array Value} {below : List Frame} {meth : Method} {c : Code} {Z : XG} {r : Int32} {S' : Mem} (E : XE p s m args meth c cX7_set 3 RX7 (some .boolean) xL Z) : ∀ (S : Mem) (x1 x2 : Int32), fX7_set  S x1 x2 = some (r, S') → WN p l e { frames := 1, cells := 0, slots := 0, locals := 20 } s m args below meth c xL Z (XQ xL Z r S') S 0 3 [(0, .ref (Z.2.1 0)), (1, .int x1), (2, .int x2)] [] := by
  obtain ⟨hx, hb, -, -, -, -, -, -, -, hQ⟩ := id E
  intro S x1 x2 h H locs ls X hl
  unfold fX7_set at h
  refine lv_iload_n hx hb dX7_set_0 rfl (lv_at hl 1 rfl) ?_
  refine lv_if_lt (tgt := 19) hx hb dX7_set_1 (by decide) (fun c_1 => ?_) (fun c_1 => ?_)
  · have h := if_t c_1 h
    refine lv_iconst (v := (0 : Int32)) hx hb dX7_set_19 (by decide) ?_
    exact x_zret E X rfl h dX7_set_20
  · have h := if_f c_1 h
    refine lv_iload_n hx hb dX7_set_4 rfl (lv_at hl 1 rfl) ?_
    refine lv_iconst (v := (1 : Int32)) hx hb dX7_set_5 (by decide) ?_
    refine lv_icmp_gt (tgt := 19) hx hb dX7_set_6 (by decide) (fun c_2 => ?_) (fun c_2 => ?_)
    · have h := if_t c_2 h
      refine lv_iconst (v := (0 : Int32)) hx hb dX7_set_19 (by decide) ?_
      exact x_zret E X rfl h dX7_set_20
    · have h := if_f c_2 h
      refine lv_iload_n hx hb dX7_set_9 rfl (lv_at hl 2 rfl) ?_
      refine lv_if_lt (tgt := 19) hx hb dX7_set_10 (by decide) (fun c_3 => ?_) (fun c_3 => ?_)
      · have h := if_t c_3 h
        refine lv_iconst (v := (0 : Int32)) hx hb dX7_set_19 (by decide) ?_
        exact x_zret E X rfl h dX7_set_20
      · have h := if_f c_3 h
        refine lv_iload_n hx hb dX7_set_13 rfl (lv_at hl 2 rfl) ?_
        refine lv_bipush (v := (99 : Int32)) hx hb dX7_set_14 (by decide) ?_
        refine lv_icmp_le (tgt := 21) hx hb dX7_set_16 (by decide) (fun c_4 => ?_) (fun c_4 => ?_)
        · have h := if_t c_4 h
          refine lv_iload_n hx hb dX7_set_21 rfl (lv_at hl 1 rfl) ?_
          refine lv_if_ne (tgt := 36) hx hb dX7_set_22 (by decide) (fun c_5 => ?_) (fun c_5 => ?_)
          · have h := if_f c_5 h
            refine lv_aload_n hx hb dX7_set_36 rfl (lv_at hl 0 rfl) ?_
            refine x_getr E X ffX7_12 rfl rfl dX7_set_37 ?_
            refine lv_iload_n hx hb dX7_set_40 rfl (lv_at hl 2 rfl) ?_
            obtain ⟨S_6, eS_6, h⟩ := ltm_s h
            refine x_put E X fpX7_70 rfl rfl dX7_set_41 (fun H locs X => ?_)
            rw [← eS_6] at X
            exact wX7_set_44 E   S_6  h _ _ _ X (lv_sub hl [0] rfl)
          · have h := if_t c_5 h
            refine lv_aload_n hx hb dX7_set_25 rfl (lv_at hl 0 rfl) ?_
            refine x_getr E X ffX7_12 rfl rfl dX7_set_26 ?_
            refine lv_iload_n hx hb dX7_set_29 rfl (lv_at hl 2 rfl) ?_
            obtain ⟨S_7, eS_7, h⟩ := ltm_s h
            refine x_put E X fpX7_67 rfl rfl dX7_set_30 (fun H locs X => ?_)
            rw [← eS_7] at X
            refine lv_goto (tgt := 44) hx hb dX7_set_33 (by decide) ?_
            exact wX7_set_44 E   S_7  h _ _ _ X (lv_sub hl [0] rfl)
        · have h := if_f c_4 h
          refine lv_iconst (v := (0 : Int32)) hx hb dX7_set_19 (by decide) ?_
          exact x_zret E X rfl h dX7_set_20
/-- SevenToAShadow.set(II)Z -/
theorem mX7_set (l : Launch) (Z : XG) (hQ : wQ (List.length xL) Z) {S S' : Mem} {r : Int32} (x1 x2 : Int32) (h : fX7_set S x1 x2 = some (r, S')) : XM l yX7_set cX7_set 3 (some .boolean) { frames := 1, cells := 0, slots := 0, locals := 20 } xL Z [.ref (Z.2.1 0), .int x1, .int x2] S (XQ xL Z r S') := by
  refine XM.of (own := RX7) (by decide +kernel) rfl rfl hQ (fun p e s m args below meth c E ls hl X => ?_)
  exact wX7_set E S x1 x2 h _ _ _ X hl
def fX7_isPlace (S : Mem) (x0 : Int32) : O := (if x0 < 0 then some ((0 : Int32), S) else (if (25 : Int32) ≤ x0 then some ((0 : Int32), S) else some ((1 : Int32), S)))
theorem dX7_isPlace_0 : decode cX7_isPlace 0 = .ok (.iload_n 0, 1) := by decide +kernel
theorem dX7_isPlace_1 : decode cX7_isPlace 1 = .ok (.ifCond .lt 13, 3) := by decide +kernel
theorem dX7_isPlace_4 : decode cX7_isPlace 4 = .ok (.iload_n 0, 1) := by decide +kernel
theorem dX7_isPlace_5 : decode cX7_isPlace 5 = .ok (.bipush 25, 2) := by decide +kernel
theorem dX7_isPlace_7 : decode cX7_isPlace 7 = .ok (.if_icmp .ge 7, 3) := by decide +kernel
theorem dX7_isPlace_10 : decode cX7_isPlace 10 = .ok (.iconst 1, 1) := by decide +kernel
theorem dX7_isPlace_11 : decode cX7_isPlace 11 = .ok (.goto 4, 3) := by decide +kernel
theorem dX7_isPlace_14 : decode cX7_isPlace 14 = .ok (.iconst 0, 1) := by decide +kernel
theorem dX7_isPlace_15 : decode cX7_isPlace 15 = .ok (.ireturn, 1) := by decide +kernel
set_option maxRecDepth 20000 in
theorem wX7_isPlace {p : Program} {l : Launch} {e : Env} {s : State} {m : MethodId} {args : Array Value} {below : List Frame} {meth : Method} {c : Code} {Z : XG} {r : Int32} {S' : Mem} (E : XE p s m args meth c cX7_isPlace 1 RX7 (some .boolean) xL Z) : ∀ (S : Mem) (x0 : Int32), fX7_isPlace  S x0 = some (r, S') → WN p l e { frames := 0, cells := 0, slots := 0, locals := 0 } s m args below meth c xL Z (XQ xL Z r S') S 0 1 [(0, .int x0)] [] := by
  obtain ⟨hx, hb, -, -, -, -, -, -, -, hQ⟩ := id E
  intro S x0 h H locs ls X hl
  unfold fX7_isPlace at h
  refine lv_iload_n hx hb dX7_isPlace_0 rfl (lv_at hl 0 rfl) ?_
  refine lv_if_lt (tgt := 14) hx hb dX7_isPlace_1 (by decide) (fun c_1 => ?_) (fun c_1 => ?_)
  · have h := if_t c_1 h
    refine lv_iconst (v := (0 : Int32)) hx hb dX7_isPlace_14 (by decide) ?_
    exact x_zret E X rfl h dX7_isPlace_15
  · have h := if_f c_1 h
    refine lv_iload_n hx hb dX7_isPlace_4 rfl (lv_at hl 0 rfl) ?_
    refine lv_bipush (v := (25 : Int32)) hx hb dX7_isPlace_5 (by decide) ?_
    refine lv_icmp_ge (tgt := 14) hx hb dX7_isPlace_7 (by decide) (fun c_2 => ?_) (fun c_2 => ?_)
    · have h := if_t c_2 h
      refine lv_iconst (v := (0 : Int32)) hx hb dX7_isPlace_14 (by decide) ?_
      exact x_zret E X rfl h dX7_isPlace_15
    · have h := if_f c_2 h
      refine lv_iconst (v := (1 : Int32)) hx hb dX7_isPlace_10 (by decide) ?_
      refine lv_goto (tgt := 15) hx hb dX7_isPlace_11 (by decide) ?_
      exact x_zret E X rfl h dX7_isPlace_15
/-- SevenToAShadow.isPlace(I)Z -/
theorem mX7_isPlace (l : Launch) (Z : XG) (hQ : wQ (List.length xL) Z) {S S' : Mem} {r : Int32} (x0 : Int32) (h : fX7_isPlace S x0 = some (r, S')) : XM l yX7_isPlace cX7_isPlace 1 (some .boolean) { frames := 0, cells := 0, slots := 0, locals := 0 } xL Z [.int x0] S (XQ xL Z r S') := by
  refine XM.of (own := RX7) (by decide +kernel) rfl rfl hQ (fun p e s m args below meth c E ls hl X => ?_)
  exact wX7_isPlace E S x0 h _ _ _ X hl
def fX6_isPilgrim (S : Mem) (x1 : Int32) : O := (if x1 < 0 then some ((0 : Int32), S) else (if (S 1 9) ≤ x1 then some ((0 : Int32), S) else some ((1 : Int32), S)))
theorem dX6_isPilgrim_0 : decode cX6_isPilgrim 0 = .ok (.iload_n 1, 1) := by decide +kernel
theorem dX6_isPilgrim_1 : decode cX6_isPilgrim 1 = .ok (.ifCond .lt 15, 3) := by decide +kernel
theorem dX6_isPilgrim_4 : decode cX6_isPilgrim 4 = .ok (.iload_n 1, 1) := by decide +kernel
theorem dX6_isPilgrim_5 : decode cX6_isPilgrim 5 = .ok (.aload_n 0, 1) := by decide +kernel
theorem dX6_isPilgrim_6 : decode cX6_isPilgrim 6 = .ok (.getfield 76, 3) := by decide +kernel
theorem dX6_isPilgrim_9 : decode cX6_isPilgrim 9 = .ok (.if_icmp .ge 7, 3) := by decide +kernel
theorem dX6_isPilgrim_12 : decode cX6_isPilgrim 12 = .ok (.iconst 1, 1) := by decide +kernel
theorem dX6_isPilgrim_13 : decode cX6_isPilgrim 13 = .ok (.goto 4, 3) := by decide +kernel
theorem dX6_isPilgrim_16 : decode cX6_isPilgrim 16 = .ok (.iconst 0, 1) := by decide +kernel
theorem dX6_isPilgrim_17 : decode cX6_isPilgrim 17 = .ok (.ireturn, 1) := by decide +kernel
set_option maxRecDepth 20000 in
theorem wX6_isPilgrim {p : Program} {l : Launch} {e : Env} {s : State} {m : MethodId} {args : Array Value} {below : List Frame} {meth : Method} {c : Code} {Z : XG} {r : Int32} {S' : Mem} (E : XE p s m args meth c cX6_isPilgrim 2 RX6 (some .boolean) xL Z) : ∀ (S : Mem) (x1 : Int32), fX6_isPilgrim  S x1 = some (r, S') → WN p l e { frames := 0, cells := 0, slots := 0, locals := 0 } s m args below meth c xL Z (XQ xL Z r S') S 0 2 [(0, .ref (Z.2.1 1)), (1, .int x1)] [] := by
  obtain ⟨hx, hb, -, -, -, -, -, -, -, hQ⟩ := id E
  intro S x1 h H locs ls X hl
  unfold fX6_isPilgrim at h
  refine lv_iload_n hx hb dX6_isPilgrim_0 rfl (lv_at hl 1 rfl) ?_
  refine lv_if_lt (tgt := 16) hx hb dX6_isPilgrim_1 (by decide) (fun c_1 => ?_) (fun c_1 => ?_)
  · have h := if_t c_1 h
    refine lv_iconst (v := (0 : Int32)) hx hb dX6_isPilgrim_16 (by decide) ?_
    exact x_zret E X rfl h dX6_isPilgrim_17
  · have h := if_f c_1 h
    refine lv_iload_n hx hb dX6_isPilgrim_4 rfl (lv_at hl 1 rfl) ?_
    refine lv_aload_n hx hb dX6_isPilgrim_5 rfl (lv_at hl 0 rfl) ?_
    refine x_get E X ffX6_76 rfl rfl dX6_isPilgrim_6 ?_
    refine lv_icmp_ge (tgt := 16) hx hb dX6_isPilgrim_9 (by decide) (fun c_2 => ?_) (fun c_2 => ?_)
    · have h := if_t c_2 h
      refine lv_iconst (v := (0 : Int32)) hx hb dX6_isPilgrim_16 (by decide) ?_
      exact x_zret E X rfl h dX6_isPilgrim_17
    · have h := if_f c_2 h
      refine lv_iconst (v := (1 : Int32)) hx hb dX6_isPilgrim_12 (by decide) ?_
      refine lv_goto (tgt := 17) hx hb dX6_isPilgrim_13 (by decide) ?_
      exact x_zret E X rfl h dX6_isPilgrim_17
/-- SevenToAShadow$World.isPilgrim(I)Z -/
theorem mX6_isPilgrim (l : Launch) (Z : XG) (hQ : wQ (List.length xL) Z) {S S' : Mem} {r : Int32} (x1 : Int32) (h : fX6_isPilgrim S x1 = some (r, S')) : XM l yX6_isPilgrim cX6_isPilgrim 2 (some .boolean) { frames := 0, cells := 0, slots := 0, locals := 0 } xL Z [.ref (Z.2.1 1), .int x1] S (XQ xL Z r S') := by
  refine XM.of (own := RX6) (by decide +kernel) rfl rfl hQ (fun p e s m args below meth c E ls hl X => ?_)
  exact wX6_isPilgrim E S x1 h _ _ _ X hl
def fX6_has (S : Mem) (x1 x2 : Int32) : O := bnd (fX6_isPilgrim S x1) fun r_1 S_2 => (if r_1 = 0 then some ((-1 : Int32), S_2) else (if x2 < 0 then some ((-1 : Int32), S_2) else (if x2 < (10 : Int32) then gd (inB ((x1 * (10 : Int32)) + x2) 100) <| some ((S_2 3 (((x1 * (10 : Int32)) + x2)).toNatClampNeg), S_2) else some ((-1 : Int32), S_2))))
theorem dX6_has_0 : decode cX6_has 0 = .ok (.aload_n 0, 1) := by decide +kernel
theorem dX6_has_1 : decode cX6_has 1 = .ok (.iload_n 1, 1) := by decide +kernel
theorem dX6_has_2 : decode cX6_has 2 = .ok (.invokevirtual 85, 3) := by decide +kernel
theorem dX6_has_5 : decode cX6_has 5 = .ok (.ifCond .eq 13, 3) := by decide +kernel
theorem dX6_has_8 : decode cX6_has 8 = .ok (.iload_n 2, 1) := by decide +kernel
theorem dX6_has_9 : decode cX6_has 9 = .ok (.ifCond .lt 9, 3) := by decide +kernel
theorem dX6_has_12 : decode cX6_has 12 = .ok (.iload_n 2, 1) := by decide +kernel
theorem dX6_has_13 : decode cX6_has 13 = .ok (.bipush 10, 2) := by decide +kernel
theorem dX6_has_15 : decode cX6_has 15 = .ok (.if_icmp .lt 5, 3) := by decide +kernel
theorem dX6_has_18 : decode cX6_has 18 = .ok (.iconst (-1), 1) := by decide +kernel
theorem dX6_has_19 : decode cX6_has 19 = .ok (.ireturn, 1) := by decide +kernel
theorem dX6_has_20 : decode cX6_has 20 = .ok (.aload_n 0, 1) := by decide +kernel
theorem dX6_has_21 : decode cX6_has 21 = .ok (.getfield 15, 3) := by decide +kernel
theorem dX6_has_24 : decode cX6_has 24 = .ok (.iload_n 1, 1) := by decide +kernel
theorem dX6_has_25 : decode cX6_has 25 = .ok (.bipush 10, 2) := by decide +kernel
theorem dX6_has_27 : decode cX6_has 27 = .ok (.imul, 1) := by decide +kernel
theorem dX6_has_28 : decode cX6_has 28 = .ok (.iload_n 2, 1) := by decide +kernel
theorem dX6_has_29 : decode cX6_has 29 = .ok (.iadd, 1) := by decide +kernel
theorem dX6_has_30 : decode cX6_has 30 = .ok (.iaload, 1) := by decide +kernel
theorem dX6_has_31 : decode cX6_has 31 = .ok (.ireturn, 1) := by decide +kernel
set_option maxRecDepth 20000 in
theorem wX6_has {p : Program} {l : Launch} {e : Env} {s : State} {m : MethodId} {args : Array Value} {below : List Frame} {meth : Method} {c : Code} {Z : XG} {r : Int32} {S' : Mem} (E : XE p s m args meth c cX6_has 3 RX6 (some .int) xL Z) : ∀ (S : Mem) (x1 x2 : Int32), fX6_has  S x1 x2 = some (r, S') → WN p l e { frames := 1, cells := 0, slots := 0, locals := 21 } s m args below meth c xL Z (XQ xL Z r S') S 0 3 [(0, .ref (Z.2.1 1)), (1, .int x1), (2, .int x2)] [] := by
  obtain ⟨hx, hb, -, -, -, -, -, -, -, hQ⟩ := id E
  intro S x1 x2 h H locs ls X hl
  unfold fX6_has at h
  refine lv_aload_n hx hb dX6_has_0 rfl (lv_at hl 0 rfl) ?_
  refine lv_iload_n hx hb dX6_has_1 rfl (lv_at hl 1 rfl) ?_
  obtain ⟨r_1, S_2, hr_1, h⟩ := bnd_s h
  refine x_callV E X cwX6_85 (mX6_isPilgrim l Z hQ  x1 hr_1) rfl rfl rfl rfl hl.1 rfl dX6_has_2 (fun H locs X => ?_)
  refine lv_if_eq (tgt := 18) hx hb dX6_has_5 (by decide) (fun c_3 => ?_) (fun c_3 => ?_)
  · have h := if_t c_3 h
    refine lv_iconst (v := (-1 : Int32)) hx hb dX6_has_18 (by decide) ?_
    exact x_iret E X h dX6_has_19
  · have h := if_f c_3 h
    refine lv_iload_n hx hb dX6_has_8 rfl (lv_at hl 2 rfl) ?_
    refine lv_if_lt (tgt := 18) hx hb dX6_has_9 (by decide) (fun c_4 => ?_) (fun c_4 => ?_)
    · have h := if_t c_4 h
      refine lv_iconst (v := (-1 : Int32)) hx hb dX6_has_18 (by decide) ?_
      exact x_iret E X h dX6_has_19
    · have h := if_f c_4 h
      refine lv_iload_n hx hb dX6_has_12 rfl (lv_at hl 2 rfl) ?_
      refine lv_bipush (v := (10 : Int32)) hx hb dX6_has_13 (by decide) ?_
      refine lv_icmp_lt (tgt := 20) hx hb dX6_has_15 (by decide) (fun c_5 => ?_) (fun c_5 => ?_)
      · have h := if_t c_5 h
        refine lv_aload_n hx hb dX6_has_20 rfl (lv_at hl 0 rfl) ?_
        refine x_getr E X ffX6_15 rfl rfl dX6_has_21 ?_
        refine lv_iload_n hx hb dX6_has_24 rfl (lv_at hl 1 rfl) ?_
        refine lv_bipush (v := (10 : Int32)) hx hb dX6_has_25 (by decide) ?_
        refine lv_imul hx hb dX6_has_27 ?_
        refine lv_iload_n hx hb dX6_has_28 rfl (lv_at hl 2 rfl) ?_
        refine lv_iadd hx hb dX6_has_29 ?_
        obtain ⟨g_6, h⟩ := gd_s h
        refine x_iald E X rfl g_6 dX6_has_30 ?_
        exact x_iret E X h dX6_has_31
      · have h := if_f c_5 h
        refine lv_iconst (v := (-1 : Int32)) hx hb dX6_has_18 (by decide) ?_
        exact x_iret E X h dX6_has_19
/-- SevenToAShadow$World.has(II)I -/
theorem mX6_has (l : Launch) (Z : XG) (hQ : wQ (List.length xL) Z) {S S' : Mem} {r : Int32} (x1 x2 : Int32) (h : fX6_has S x1 x2 = some (r, S')) : XM l yX6_has cX6_has 3 (some .int) { frames := 1, cells := 0, slots := 0, locals := 21 } xL Z [.ref (Z.2.1 1), .int x1, .int x2] S (XQ xL Z r S') := by
  refine XM.of (own := RX6) (by decide +kernel) rfl rfl hQ (fun p e s m args below meth c E ls hl X => ?_)
  exact wX6_has E S x1 x2 h _ _ _ X hl
def fX6_whoStandsAt_2_b (k0 : Mem → Int32 → Int32 → O) (S : Mem) (x1 x2 : Int32) : O := (if (S 1 9) ≤ x2 then some ((-1 : Int32), S) else bnd (fX6_has S x2 (0 : Int32)) fun r_2 S_3 => (if r_2 = x1 then some (x2, S_3) else k0 S_3 x1 (x2 + (1 : Int32))))
def fX6_whoStandsAt_2 : Nat → Mem → Int32 → Int32 → O
  | 0 => fun _ _ _ => none
  | n + 1 => fX6_whoStandsAt_2_b (fX6_whoStandsAt_2 n)
def fX6_whoStandsAt (S : Mem) (x1 : Int32) : O := fX6_whoStandsAt_2  FU S x1 (0 : Int32)
theorem dX6_whoStandsAt_0 : decode cX6_whoStandsAt 0 = .ok (.iconst 0, 1) := by decide +kernel
theorem dX6_whoStandsAt_1 : decode cX6_whoStandsAt 1 = .ok (.istore_n 2, 1) := by decide +kernel
theorem dX6_whoStandsAt_2 : decode cX6_whoStandsAt 2 = .ok (.iload_n 2, 1) := by decide +kernel
theorem dX6_whoStandsAt_3 : decode cX6_whoStandsAt 3 = .ok (.aload_n 0, 1) := by decide +kernel
theorem dX6_whoStandsAt_4 : decode cX6_whoStandsAt 4 = .ok (.getfield 76, 3) := by decide +kernel
theorem dX6_whoStandsAt_7 : decode cX6_whoStandsAt 7 = .ok (.if_icmp .ge 21, 3) := by decide +kernel
theorem dX6_whoStandsAt_10 : decode cX6_whoStandsAt 10 = .ok (.aload_n 0, 1) := by decide +kernel
theorem dX6_whoStandsAt_11 : decode cX6_whoStandsAt 11 = .ok (.iload_n 2, 1) := by decide +kernel
theorem dX6_whoStandsAt_12 : decode cX6_whoStandsAt 12 = .ok (.iconst 0, 1) := by decide +kernel
theorem dX6_whoStandsAt_13 : decode cX6_whoStandsAt 13 = .ok (.invokevirtual 89, 3) := by decide +kernel
theorem dX6_whoStandsAt_16 : decode cX6_whoStandsAt 16 = .ok (.iload_n 1, 1) := by decide +kernel
theorem dX6_whoStandsAt_17 : decode cX6_whoStandsAt 17 = .ok (.if_icmp .ne 5, 3) := by decide +kernel
theorem dX6_whoStandsAt_20 : decode cX6_whoStandsAt 20 = .ok (.iload_n 2, 1) := by decide +kernel
theorem dX6_whoStandsAt_21 : decode cX6_whoStandsAt 21 = .ok (.ireturn, 1) := by decide +kernel
theorem dX6_whoStandsAt_22 : decode cX6_whoStandsAt 22 = .ok (.iinc 2 1, 3) := by decide +kernel
theorem dX6_whoStandsAt_25 : decode cX6_whoStandsAt 25 = .ok (.goto (-23), 3) := by decide +kernel
theorem dX6_whoStandsAt_28 : decode cX6_whoStandsAt 28 = .ok (.iconst (-1), 1) := by decide +kernel
theorem dX6_whoStandsAt_29 : decode cX6_whoStandsAt 29 = .ok (.ireturn, 1) := by decide +kernel
set_option maxRecDepth 20000 in
theorem wX6_whoStandsAt_2_b {p : Program} {l : Launch} {e : Env} {s : State} {m : MethodId} {args : Array Value} {below : List Frame} {meth : Method} {c : Code} {Z : XG} {r : Int32} {S' : Mem} (E : XE p s m args meth c cX6_whoStandsAt 3 RX6 (some .int) xL Z) (k0 : Mem → Int32 → Int32 → O)  (hk0 : ∀ (S : Mem) (x1 x2 : Int32), k0 S x1 x2 = some (r, S') → WN p l e { frames := 2, cells := 0, slots := 0, locals := 43 } s m args below meth c xL Z (XQ xL Z r S') S 2 3 [(0, .ref (Z.2.1 1)), (1, .int x1), (2, .int x2)] []) : ∀ (S : Mem) (x1 x2 : Int32), fX6_whoStandsAt_2_b k0 S x1 x2 = some (r, S') → WN p l e { frames := 2, cells := 0, slots := 0, locals := 43 } s m args below meth c xL Z (XQ xL Z r S') S 2 3 [(0, .ref (Z.2.1 1)), (1, .int x1), (2, .int x2)] [] := by
  obtain ⟨hx, hb, -, -, -, -, -, -, -, hQ⟩ := id E
  intro S x1 x2 h H locs ls X hl
  unfold fX6_whoStandsAt_2_b at h
  refine lv_iload_n hx hb dX6_whoStandsAt_2 rfl (lv_at hl 2 rfl) ?_
  refine lv_aload_n hx hb dX6_whoStandsAt_3 rfl (lv_at hl 0 rfl) ?_
  refine x_get E X ffX6_76 rfl rfl dX6_whoStandsAt_4 ?_
  refine lv_icmp_ge (tgt := 28) hx hb dX6_whoStandsAt_7 (by decide) (fun c_1 => ?_) (fun c_1 => ?_)
  · have h := if_t c_1 h
    refine lv_iconst (v := (-1 : Int32)) hx hb dX6_whoStandsAt_28 (by decide) ?_
    exact x_iret E X h dX6_whoStandsAt_29
  · have h := if_f c_1 h
    refine lv_aload_n hx hb dX6_whoStandsAt_10 rfl (lv_at hl 0 rfl) ?_
    refine lv_iload_n hx hb dX6_whoStandsAt_11 rfl (lv_at hl 2 rfl) ?_
    refine lv_iconst (v := (0 : Int32)) hx hb dX6_whoStandsAt_12 (by decide) ?_
    obtain ⟨r_2, S_3, hr_2, h⟩ := bnd_s h
    refine x_callV E X cwX6_89 (mX6_has l Z hQ  x2 (0 : Int32) hr_2) rfl rfl rfl rfl hl.1 rfl dX6_whoStandsAt_13 (fun H locs X => ?_)
    refine lv_iload_n hx hb dX6_whoStandsAt_16 rfl (lv_at hl 1 rfl) ?_
    refine lv_icmp_ne (tgt := 22) hx hb dX6_whoStandsAt_17 (by decide) (fun c_4 => ?_) (fun c_4 => ?_)
    · have h := if_f c_4 h
      refine lv_iinc (v := (x2 + (1 : Int32))) (lv' := [(2, .int (x2 + (1 : Int32))), (0, .ref (Z.2.1 1)), (1, .int x1)]) hx hb dX6_whoStandsAt_22 hl (k := 2) rfl rfl (by decide) rfl (fun ls hl => ?_)
      refine lv_goto (tgt := 2) hx hb dX6_whoStandsAt_25 (by decide) ?_
      exact hk0 S_3 x1 (x2 + (1 : Int32)) h _ _ _ X (lv_sub hl [1, 2, 0] rfl)
    · have h := if_t c_4 h
      refine lv_iload_n hx hb dX6_whoStandsAt_20 rfl (lv_at hl 2 rfl) ?_
      exact x_iret E X h dX6_whoStandsAt_21
theorem wX6_whoStandsAt_2 {p : Program} {l : Launch} {e : Env} {s : State} {m : MethodId} {args : Array Value} {below : List Frame} {meth : Method} {c : Code} {Z : XG} {r : Int32} {S' : Mem} (E : XE p s m args meth c cX6_whoStandsAt 3 RX6 (some .int) xL Z) : ∀ (n : Nat) (S : Mem) (x1 x2 : Int32), fX6_whoStandsAt_2 n S x1 x2 = some (r, S') → WN p l e { frames := 2, cells := 0, slots := 0, locals := 43 } s m args below meth c xL Z (XQ xL Z r S') S 2 3 [(0, .ref (Z.2.1 1)), (1, .int x1), (2, .int x2)] [] := by
  intro n
  induction n with
  | zero => intro S x1 x2 h; exact absurd (show (none : O) = some _ from h) (by simp)
  | succ n ih => intro S x1 x2 h; exact wX6_whoStandsAt_2_b E (fX6_whoStandsAt_2 n) ih S x1 x2 h
set_option maxRecDepth 20000 in
theorem wX6_whoStandsAt {p : Program} {l : Launch} {e : Env} {s : State} {m : MethodId} {args : Array Value} {below : List Frame} {meth : Method} {c : Code} {Z : XG} {r : Int32} {S' : Mem} (E : XE p s m args meth c cX6_whoStandsAt 3 RX6 (some .int) xL Z) : ∀ (S : Mem) (x1 : Int32), fX6_whoStandsAt  S x1 = some (r, S') → WN p l e { frames := 2, cells := 0, slots := 0, locals := 43 } s m args below meth c xL Z (XQ xL Z r S') S 0 3 [(0, .ref (Z.2.1 1)), (1, .int x1)] [] := by
  obtain ⟨hx, hb, -, -, -, -, -, -, -, hQ⟩ := id E
  intro S x1 h H locs ls X hl
  unfold fX6_whoStandsAt at h
  refine lv_iconst (v := (0 : Int32)) hx hb dX6_whoStandsAt_0 (by decide) ?_
  refine lv_istore_n (lv' := [(2, .int (0 : Int32)), (0, .ref (Z.2.1 1)), (1, .int x1)]) hx hb dX6_whoStandsAt_1 rfl hl (by decide) rfl (fun ls hl => ?_)
  exact wX6_whoStandsAt_2 E   FU S x1 (0 : Int32) h _ _ _ X (lv_sub hl [1, 2, 0] rfl)
/-- SevenToAShadow$World.whoStandsAt(I)I -/
theorem mX6_whoStandsAt (l : Launch) (Z : XG) (hQ : wQ (List.length xL) Z) {S S' : Mem} {r : Int32} (x1 : Int32) (h : fX6_whoStandsAt S x1 = some (r, S')) : XM l yX6_whoStandsAt cX6_whoStandsAt 3 (some .int) { frames := 2, cells := 0, slots := 0, locals := 43 } xL Z [.ref (Z.2.1 1), .int x1] S (XQ xL Z r S') := by
  refine XM.of (own := RX6) (by decide +kernel) rfl rfl hQ (fun p e s m args below meth c E ls hl X => ?_)
  exact wX6_whoStandsAt E S x1 h _ _ _ X hl
def fX6_put (S : Mem) (x1 x2 x3 : Int32) : O := bnd (fX6_isPilgrim S x1) fun r_1 S_2 => (if r_1 = 0 then some ((0 : Int32), S_2) else (if x2 < 0 then some ((0 : Int32), S_2) else (if (10 : Int32) ≤ x2 then some ((0 : Int32), S_2) else gd (inB ((x1 * (10 : Int32)) + x2) 100) <| ltm (mset S_2 3 (((x1 * (10 : Int32)) + x2)).toNatClampNeg x3) fun S_7 => some ((0 : Int32), S_7))))
theorem dX6_put_0 : decode cX6_put 0 = .ok (.aload_n 0, 1) := by decide +kernel
theorem dX6_put_1 : decode cX6_put 1 = .ok (.iload_n 1, 1) := by decide +kernel
theorem dX6_put_2 : decode cX6_put 2 = .ok (.invokevirtual 85, 3) := by decide +kernel
theorem dX6_put_5 : decode cX6_put 5 = .ok (.ifCond .eq 25, 3) := by decide +kernel
theorem dX6_put_8 : decode cX6_put 8 = .ok (.iload_n 2, 1) := by decide +kernel
theorem dX6_put_9 : decode cX6_put 9 = .ok (.ifCond .lt 21, 3) := by decide +kernel
theorem dX6_put_12 : decode cX6_put 12 = .ok (.iload_n 2, 1) := by decide +kernel
theorem dX6_put_13 : decode cX6_put 13 = .ok (.bipush 10, 2) := by decide +kernel
theorem dX6_put_15 : decode cX6_put 15 = .ok (.if_icmp .ge 15, 3) := by decide +kernel
theorem dX6_put_18 : decode cX6_put 18 = .ok (.aload_n 0, 1) := by decide +kernel
theorem dX6_put_19 : decode cX6_put 19 = .ok (.getfield 15, 3) := by decide +kernel
theorem dX6_put_22 : decode cX6_put 22 = .ok (.iload_n 1, 1) := by decide +kernel
theorem dX6_put_23 : decode cX6_put 23 = .ok (.bipush 10, 2) := by decide +kernel
theorem dX6_put_25 : decode cX6_put 25 = .ok (.imul, 1) := by decide +kernel
theorem dX6_put_26 : decode cX6_put 26 = .ok (.iload_n 2, 1) := by decide +kernel
theorem dX6_put_27 : decode cX6_put 27 = .ok (.iadd, 1) := by decide +kernel
theorem dX6_put_28 : decode cX6_put 28 = .ok (.iload_n 3, 1) := by decide +kernel
theorem dX6_put_29 : decode cX6_put 29 = .ok (.iastore, 1) := by decide +kernel
theorem dX6_put_30 : decode cX6_put 30 = .ok (.return_, 1) := by decide +kernel
set_option maxRecDepth 20000 in
theorem wX6_put {p : Program} {l : Launch} {e : Env} {s : State} {m : MethodId} {args : Array Value} {below : List Frame} {meth : Method} {c : Code} {Z : XG} {r : Int32} {S' : Mem} (E : XE p s m args meth c cX6_put 4 RX6 none xL Z) : ∀ (S : Mem) (x1 x2 x3 : Int32), fX6_put  S x1 x2 x3 = some (r, S') → WN p l e { frames := 1, cells := 0, slots := 0, locals := 21 } s m args below meth c xL Z (XV xL Z S') S 0 4 [(0, .ref (Z.2.1 1)), (1, .int x1), (2, .int x2), (3, .int x3)] [] := by
  obtain ⟨hx, hb, -, -, -, -, -, -, -, hQ⟩ := id E
  intro S x1 x2 x3 h H locs ls X hl
  unfold fX6_put at h
  refine lv_aload_n hx hb dX6_put_0 rfl (lv_at hl 0 rfl) ?_
  refine lv_iload_n hx hb dX6_put_1 rfl (lv_at hl 1 rfl) ?_
  obtain ⟨r_1, S_2, hr_1, h⟩ := bnd_s h
  refine x_callV E X cwX6_85 (mX6_isPilgrim l Z hQ  x1 hr_1) rfl rfl rfl rfl hl.1 rfl dX6_put_2 (fun H locs X => ?_)
  refine lv_if_eq (tgt := 30) hx hb dX6_put_5 (by decide) (fun c_3 => ?_) (fun c_3 => ?_)
  · have h := if_t c_3 h
    exact x_vret E X h dX6_put_30
  · have h := if_f c_3 h
    refine lv_iload_n hx hb dX6_put_8 rfl (lv_at hl 2 rfl) ?_
    refine lv_if_lt (tgt := 30) hx hb dX6_put_9 (by decide) (fun c_4 => ?_) (fun c_4 => ?_)
    · have h := if_t c_4 h
      exact x_vret E X h dX6_put_30
    · have h := if_f c_4 h
      refine lv_iload_n hx hb dX6_put_12 rfl (lv_at hl 2 rfl) ?_
      refine lv_bipush (v := (10 : Int32)) hx hb dX6_put_13 (by decide) ?_
      refine lv_icmp_ge (tgt := 30) hx hb dX6_put_15 (by decide) (fun c_5 => ?_) (fun c_5 => ?_)
      · have h := if_t c_5 h
        exact x_vret E X h dX6_put_30
      · have h := if_f c_5 h
        refine lv_aload_n hx hb dX6_put_18 rfl (lv_at hl 0 rfl) ?_
        refine x_getr E X ffX6_15 rfl rfl dX6_put_19 ?_
        refine lv_iload_n hx hb dX6_put_22 rfl (lv_at hl 1 rfl) ?_
        refine lv_bipush (v := (10 : Int32)) hx hb dX6_put_23 (by decide) ?_
        refine lv_imul hx hb dX6_put_25 ?_
        refine lv_iload_n hx hb dX6_put_26 rfl (lv_at hl 2 rfl) ?_
        refine lv_iadd hx hb dX6_put_27 ?_
        refine lv_iload_n hx hb dX6_put_28 rfl (lv_at hl 3 rfl) ?_
        obtain ⟨g_6, h⟩ := gd_s h
        obtain ⟨S_7, eS_7, h⟩ := ltm_s h
        refine x_iast E X rfl g_6 dX6_put_29 (fun H locs X => ?_)
        rw [← eS_7] at X
        exact x_vret E X h dX6_put_30
/-- SevenToAShadow$World.put(III)V -/
theorem mX6_put (l : Launch) (Z : XG) (hQ : wQ (List.length xL) Z) {S S' : Mem} {r : Int32} (x1 x2 x3 : Int32) (h : fX6_put S x1 x2 x3 = some (r, S')) : XM l yX6_put cX6_put 4 none { frames := 1, cells := 0, slots := 0, locals := 21 } xL Z [.ref (Z.2.1 1), .int x1, .int x2, .int x3] S (XV xL Z S') := by
  refine XM.of (own := RX6) (by decide +kernel) rfl rfl hQ (fun p e s m args below meth c E ls hl X => ?_)
  exact wX6_put E S x1 x2 x3 h _ _ _ X hl
def fX7_pilgrim (S : Mem) (x1 x2 x3 x4 x5 : Int32) : O := (if (10 : Int32) ≤ (S 1 9) then some ((-1 : Int32), S) else bnd (fX7_isPlace S x1) fun r_2 S_3 => (if r_2 = 0 then some ((-1 : Int32), S_3) else bnd (fX6_whoStandsAt S_3 x1) fun r_5 S_6 => (if r_5 = (-1 : Int32) then (if x2 < 0 then some ((-1 : Int32), S_6) else (if (9 : Int32) < x2 then some ((-1 : Int32), S_6) else (if x3 < (1 : Int32) then some ((-1 : Int32), S_6) else (if (3 : Int32) < x3 then some ((-1 : Int32), S_6) else (if x4 < 0 then some ((-1 : Int32), S_6) else (if (9 : Int32) < x4 then some ((-1 : Int32), S_6) else (if x5 < 0 then some ((-1 : Int32), S_6) else (if x5 ≤ (9999 : Int32) then lti (S_6 1 9) fun x6_16 => ltm (mset S_6 1 9 ((S_6 1 9) + (1 : Int32))) fun S_17 => bnd (fX6_put S_17 x6_16 (0 : Int32) x1) fun _ S_19 => bnd (fX6_put S_19 x6_16 (1 : Int32) x2) fun _ S_21 => bnd (fX6_put S_21 x6_16 (2 : Int32) x3) fun _ S_23 => bnd (fX6_put S_23 x6_16 (3 : Int32) x4) fun _ S_25 => bnd (fX6_put S_25 x6_16 (4 : Int32) x5) fun _ S_27 => bnd (fX2_forget S_27 ) fun _ S_29 => some (x6_16, S_29) else some ((-1 : Int32), S_6))))))))) else some ((-1 : Int32), S_6))))
theorem dX7_pilgrim_0 : decode cX7_pilgrim 0 = .ok (.aload_n 0, 1) := by decide +kernel
theorem dX7_pilgrim_1 : decode cX7_pilgrim 1 = .ok (.getfield 12, 3) := by decide +kernel
theorem dX7_pilgrim_4 : decode cX7_pilgrim 4 = .ok (.getfield 73, 3) := by decide +kernel
theorem dX7_pilgrim_7 : decode cX7_pilgrim 7 = .ok (.bipush 10, 2) := by decide +kernel
theorem dX7_pilgrim_9 : decode cX7_pilgrim 9 = .ok (.if_icmp .ge 22, 3) := by decide +kernel
theorem dX7_pilgrim_12 : decode cX7_pilgrim 12 = .ok (.iload_n 1, 1) := by decide +kernel
theorem dX7_pilgrim_13 : decode cX7_pilgrim 13 = .ok (.invokestatic 76, 3) := by decide +kernel
theorem dX7_pilgrim_16 : decode cX7_pilgrim 16 = .ok (.ifCond .eq 15, 3) := by decide +kernel
theorem dX7_pilgrim_19 : decode cX7_pilgrim 19 = .ok (.aload_n 0, 1) := by decide +kernel
theorem dX7_pilgrim_20 : decode cX7_pilgrim 20 = .ok (.getfield 12, 3) := by decide +kernel
theorem dX7_pilgrim_23 : decode cX7_pilgrim 23 = .ok (.iload_n 1, 1) := by decide +kernel
theorem dX7_pilgrim_24 : decode cX7_pilgrim 24 = .ok (.invokevirtual 79, 3) := by decide +kernel
theorem dX7_pilgrim_27 : decode cX7_pilgrim 27 = .ok (.iconst (-1), 1) := by decide +kernel
theorem dX7_pilgrim_28 : decode cX7_pilgrim 28 = .ok (.if_icmp .eq 5, 3) := by decide +kernel
theorem dX7_pilgrim_31 : decode cX7_pilgrim 31 = .ok (.iconst (-1), 1) := by decide +kernel
theorem dX7_pilgrim_32 : decode cX7_pilgrim 32 = .ok (.ireturn, 1) := by decide +kernel
theorem dX7_pilgrim_33 : decode cX7_pilgrim 33 = .ok (.iload_n 2, 1) := by decide +kernel
theorem dX7_pilgrim_34 : decode cX7_pilgrim 34 = .ok (.ifCond .lt 44, 3) := by decide +kernel
theorem dX7_pilgrim_37 : decode cX7_pilgrim 37 = .ok (.iload_n 2, 1) := by decide +kernel
theorem dX7_pilgrim_38 : decode cX7_pilgrim 38 = .ok (.bipush 9, 2) := by decide +kernel
theorem dX7_pilgrim_40 : decode cX7_pilgrim 40 = .ok (.if_icmp .gt 38, 3) := by decide +kernel
theorem dX7_pilgrim_43 : decode cX7_pilgrim 43 = .ok (.iload_n 3, 1) := by decide +kernel
theorem dX7_pilgrim_44 : decode cX7_pilgrim 44 = .ok (.iconst 1, 1) := by decide +kernel
theorem dX7_pilgrim_45 : decode cX7_pilgrim 45 = .ok (.if_icmp .lt 33, 3) := by decide +kernel
theorem dX7_pilgrim_48 : decode cX7_pilgrim 48 = .ok (.iload_n 3, 1) := by decide +kernel
theorem dX7_pilgrim_49 : decode cX7_pilgrim 49 = .ok (.iconst 3, 1) := by decide +kernel
theorem dX7_pilgrim_50 : decode cX7_pilgrim 50 = .ok (.if_icmp .gt 28, 3) := by decide +kernel
theorem dX7_pilgrim_53 : decode cX7_pilgrim 53 = .ok (.iload 4, 2) := by decide +kernel
theorem dX7_pilgrim_55 : decode cX7_pilgrim 55 = .ok (.ifCond .lt 23, 3) := by decide +kernel
theorem dX7_pilgrim_58 : decode cX7_pilgrim 58 = .ok (.iload 4, 2) := by decide +kernel
theorem dX7_pilgrim_60 : decode cX7_pilgrim 60 = .ok (.bipush 9, 2) := by decide +kernel
theorem dX7_pilgrim_62 : decode cX7_pilgrim 62 = .ok (.if_icmp .gt 16, 3) := by decide +kernel
theorem dX7_pilgrim_65 : decode cX7_pilgrim 65 = .ok (.iload 5, 2) := by decide +kernel
theorem dX7_pilgrim_67 : decode cX7_pilgrim 67 = .ok (.ifCond .lt 11, 3) := by decide +kernel
theorem dX7_pilgrim_70 : decode cX7_pilgrim 70 = .ok (.iload 5, 2) := by decide +kernel
theorem dX7_pilgrim_72 : decode cX7_pilgrim 72 = .ok (.sipush 9999, 3) := by decide +kernel
theorem dX7_pilgrim_75 : decode cX7_pilgrim 75 = .ok (.if_icmp .le 5, 3) := by decide +kernel
theorem dX7_pilgrim_78 : decode cX7_pilgrim 78 = .ok (.iconst (-1), 1) := by decide +kernel
theorem dX7_pilgrim_79 : decode cX7_pilgrim 79 = .ok (.ireturn, 1) := by decide +kernel
theorem dX7_pilgrim_80 : decode cX7_pilgrim 80 = .ok (.aload_n 0, 1) := by decide +kernel
theorem dX7_pilgrim_81 : decode cX7_pilgrim 81 = .ok (.getfield 12, 3) := by decide +kernel
theorem dX7_pilgrim_84 : decode cX7_pilgrim 84 = .ok (.getfield 73, 3) := by decide +kernel
theorem dX7_pilgrim_87 : decode cX7_pilgrim 87 = .ok (.istore 6, 2) := by decide +kernel
theorem dX7_pilgrim_89 : decode cX7_pilgrim 89 = .ok (.aload_n 0, 1) := by decide +kernel
theorem dX7_pilgrim_90 : decode cX7_pilgrim 90 = .ok (.getfield 12, 3) := by decide +kernel
theorem dX7_pilgrim_93 : decode cX7_pilgrim 93 = .ok (.dup, 1) := by decide +kernel
theorem dX7_pilgrim_94 : decode cX7_pilgrim 94 = .ok (.getfield 73, 3) := by decide +kernel
theorem dX7_pilgrim_97 : decode cX7_pilgrim 97 = .ok (.iconst 1, 1) := by decide +kernel
theorem dX7_pilgrim_98 : decode cX7_pilgrim 98 = .ok (.iadd, 1) := by decide +kernel
theorem dX7_pilgrim_99 : decode cX7_pilgrim 99 = .ok (.putfield 73, 3) := by decide +kernel
theorem dX7_pilgrim_102 : decode cX7_pilgrim 102 = .ok (.aload_n 0, 1) := by decide +kernel
theorem dX7_pilgrim_103 : decode cX7_pilgrim 103 = .ok (.getfield 12, 3) := by decide +kernel
theorem dX7_pilgrim_106 : decode cX7_pilgrim 106 = .ok (.iload 6, 2) := by decide +kernel
theorem dX7_pilgrim_108 : decode cX7_pilgrim 108 = .ok (.iconst 0, 1) := by decide +kernel
theorem dX7_pilgrim_109 : decode cX7_pilgrim 109 = .ok (.iload_n 1, 1) := by decide +kernel
theorem dX7_pilgrim_110 : decode cX7_pilgrim 110 = .ok (.invokevirtual 83, 3) := by decide +kernel
theorem dX7_pilgrim_113 : decode cX7_pilgrim 113 = .ok (.aload_n 0, 1) := by decide +kernel
theorem dX7_pilgrim_114 : decode cX7_pilgrim 114 = .ok (.getfield 12, 3) := by decide +kernel
theorem dX7_pilgrim_117 : decode cX7_pilgrim 117 = .ok (.iload 6, 2) := by decide +kernel
theorem dX7_pilgrim_119 : decode cX7_pilgrim 119 = .ok (.iconst 1, 1) := by decide +kernel
theorem dX7_pilgrim_120 : decode cX7_pilgrim 120 = .ok (.iload_n 2, 1) := by decide +kernel
theorem dX7_pilgrim_121 : decode cX7_pilgrim 121 = .ok (.invokevirtual 83, 3) := by decide +kernel
theorem dX7_pilgrim_124 : decode cX7_pilgrim 124 = .ok (.aload_n 0, 1) := by decide +kernel
theorem dX7_pilgrim_125 : decode cX7_pilgrim 125 = .ok (.getfield 12, 3) := by decide +kernel
theorem dX7_pilgrim_128 : decode cX7_pilgrim 128 = .ok (.iload 6, 2) := by decide +kernel
theorem dX7_pilgrim_130 : decode cX7_pilgrim 130 = .ok (.iconst 2, 1) := by decide +kernel
theorem dX7_pilgrim_131 : decode cX7_pilgrim 131 = .ok (.iload_n 3, 1) := by decide +kernel
theorem dX7_pilgrim_132 : decode cX7_pilgrim 132 = .ok (.invokevirtual 83, 3) := by decide +kernel
theorem dX7_pilgrim_135 : decode cX7_pilgrim 135 = .ok (.aload_n 0, 1) := by decide +kernel
theorem dX7_pilgrim_136 : decode cX7_pilgrim 136 = .ok (.getfield 12, 3) := by decide +kernel
theorem dX7_pilgrim_139 : decode cX7_pilgrim 139 = .ok (.iload 6, 2) := by decide +kernel
theorem dX7_pilgrim_141 : decode cX7_pilgrim 141 = .ok (.iconst 3, 1) := by decide +kernel
theorem dX7_pilgrim_142 : decode cX7_pilgrim 142 = .ok (.iload 4, 2) := by decide +kernel
theorem dX7_pilgrim_144 : decode cX7_pilgrim 144 = .ok (.invokevirtual 83, 3) := by decide +kernel
theorem dX7_pilgrim_147 : decode cX7_pilgrim 147 = .ok (.aload_n 0, 1) := by decide +kernel
theorem dX7_pilgrim_148 : decode cX7_pilgrim 148 = .ok (.getfield 12, 3) := by decide +kernel
theorem dX7_pilgrim_151 : decode cX7_pilgrim 151 = .ok (.iload 6, 2) := by decide +kernel
theorem dX7_pilgrim_153 : decode cX7_pilgrim 153 = .ok (.iconst 4, 1) := by decide +kernel
theorem dX7_pilgrim_154 : decode cX7_pilgrim 154 = .ok (.iload 5, 2) := by decide +kernel
theorem dX7_pilgrim_156 : decode cX7_pilgrim 156 = .ok (.invokevirtual 83, 3) := by decide +kernel
theorem dX7_pilgrim_159 : decode cX7_pilgrim 159 = .ok (.aload_n 0, 1) := by decide +kernel
theorem dX7_pilgrim_160 : decode cX7_pilgrim 160 = .ok (.getfield 22, 3) := by decide +kernel
theorem dX7_pilgrim_163 : decode cX7_pilgrim 163 = .ok (.invokevirtual 64, 3) := by decide +kernel
theorem dX7_pilgrim_166 : decode cX7_pilgrim 166 = .ok (.iload 6, 2) := by decide +kernel
theorem dX7_pilgrim_168 : decode cX7_pilgrim 168 = .ok (.ireturn, 1) := by decide +kernel
set_option maxRecDepth 20000 in
theorem wX7_pilgrim {p : Program} {l : Launch} {e : Env} {s : State} {m : MethodId} {args : Array Value} {below : List Frame} {meth : Method} {c : Code} {Z : XG} {r : Int32} {S' : Mem} (E : XE p s m args meth c cX7_pilgrim 7 RX7 (some .int) xL Z) : ∀ (S : Mem) (x1 x2 x3 x4 x5 : Int32), fX7_pilgrim  S x1 x2 x3 x4 x5 = some (r, S') → WN p l e { frames := 3, cells := 0, slots := 0, locals := 65 } s m args below meth c xL Z (XQ xL Z r S') S 0 7 [(0, .ref (Z.2.1 0)), (1, .int x1), (2, .int x2), (3, .int x3), (4, .int x4), (5, .int x5)] [] := by
  obtain ⟨hx, hb, -, -, -, -, -, -, -, hQ⟩ := id E
  intro S x1 x2 x3 x4 x5 h H locs ls X hl
  unfold fX7_pilgrim at h
  refine lv_aload_n hx hb dX7_pilgrim_0 rfl (lv_at hl 0 rfl) ?_
  refine x_getr E X ffX7_12 rfl rfl dX7_pilgrim_1 ?_
  refine x_get E X ffX7_73 rfl rfl dX7_pilgrim_4 ?_
  refine lv_bipush (v := (10 : Int32)) hx hb dX7_pilgrim_7 (by decide) ?_
  refine lv_icmp_ge (tgt := 31) hx hb dX7_pilgrim_9 (by decide) (fun c_1 => ?_) (fun c_1 => ?_)
  · have h := if_t c_1 h
    refine lv_iconst (v := (-1 : Int32)) hx hb dX7_pilgrim_31 (by decide) ?_
    exact x_iret E X h dX7_pilgrim_32
  · have h := if_f c_1 h
    refine lv_iload_n hx hb dX7_pilgrim_12 rfl (lv_at hl 1 rfl) ?_
    obtain ⟨r_2, S_3, hr_2, h⟩ := bnd_s h
    refine x_callS E X cwX7_76 (mX7_isPlace l Z hQ  x1 hr_2) rfl rfl hl.1 rfl dX7_pilgrim_13 (fun H locs X => ?_)
    refine lv_if_eq (tgt := 31) hx hb dX7_pilgrim_16 (by decide) (fun c_4 => ?_) (fun c_4 => ?_)
    · have h := if_t c_4 h
      refine lv_iconst (v := (-1 : Int32)) hx hb dX7_pilgrim_31 (by decide) ?_
      exact x_iret E X h dX7_pilgrim_32
    · have h := if_f c_4 h
      refine lv_aload_n hx hb dX7_pilgrim_19 rfl (lv_at hl 0 rfl) ?_
      refine x_getr E X ffX7_12 rfl rfl dX7_pilgrim_20 ?_
      refine lv_iload_n hx hb dX7_pilgrim_23 rfl (lv_at hl 1 rfl) ?_
      obtain ⟨r_5, S_6, hr_5, h⟩ := bnd_s h
      refine x_callV E X cwX7_79 (mX6_whoStandsAt l Z hQ  x1 hr_5) rfl rfl rfl rfl hl.1 rfl dX7_pilgrim_24 (fun H locs X => ?_)
      refine lv_iconst (v := (-1 : Int32)) hx hb dX7_pilgrim_27 (by decide) ?_
      refine lv_icmp_eq (tgt := 33) hx hb dX7_pilgrim_28 (by decide) (fun c_7 => ?_) (fun c_7 => ?_)
      · have h := if_t c_7 h
        refine lv_iload_n hx hb dX7_pilgrim_33 rfl (lv_at hl 2 rfl) ?_
        refine lv_if_lt (tgt := 78) hx hb dX7_pilgrim_34 (by decide) (fun c_8 => ?_) (fun c_8 => ?_)
        · have h := if_t c_8 h
          refine lv_iconst (v := (-1 : Int32)) hx hb dX7_pilgrim_78 (by decide) ?_
          exact x_iret E X h dX7_pilgrim_79
        · have h := if_f c_8 h
          refine lv_iload_n hx hb dX7_pilgrim_37 rfl (lv_at hl 2 rfl) ?_
          refine lv_bipush (v := (9 : Int32)) hx hb dX7_pilgrim_38 (by decide) ?_
          refine lv_icmp_gt (tgt := 78) hx hb dX7_pilgrim_40 (by decide) (fun c_9 => ?_) (fun c_9 => ?_)
          · have h := if_t c_9 h
            refine lv_iconst (v := (-1 : Int32)) hx hb dX7_pilgrim_78 (by decide) ?_
            exact x_iret E X h dX7_pilgrim_79
          · have h := if_f c_9 h
            refine lv_iload_n hx hb dX7_pilgrim_43 rfl (lv_at hl 3 rfl) ?_
            refine lv_iconst (v := (1 : Int32)) hx hb dX7_pilgrim_44 (by decide) ?_
            refine lv_icmp_lt (tgt := 78) hx hb dX7_pilgrim_45 (by decide) (fun c_10 => ?_) (fun c_10 => ?_)
            · have h := if_t c_10 h
              refine lv_iconst (v := (-1 : Int32)) hx hb dX7_pilgrim_78 (by decide) ?_
              exact x_iret E X h dX7_pilgrim_79
            · have h := if_f c_10 h
              refine lv_iload_n hx hb dX7_pilgrim_48 rfl (lv_at hl 3 rfl) ?_
              refine lv_iconst (v := (3 : Int32)) hx hb dX7_pilgrim_49 (by decide) ?_
              refine lv_icmp_gt (tgt := 78) hx hb dX7_pilgrim_50 (by decide) (fun c_11 => ?_) (fun c_11 => ?_)
              · have h := if_t c_11 h
                refine lv_iconst (v := (-1 : Int32)) hx hb dX7_pilgrim_78 (by decide) ?_
                exact x_iret E X h dX7_pilgrim_79
              · have h := if_f c_11 h
                refine lv_iload hx hb dX7_pilgrim_53 (lv_at hl 4 rfl) ?_
                refine lv_if_lt (tgt := 78) hx hb dX7_pilgrim_55 (by decide) (fun c_12 => ?_) (fun c_12 => ?_)
                · have h := if_t c_12 h
                  refine lv_iconst (v := (-1 : Int32)) hx hb dX7_pilgrim_78 (by decide) ?_
                  exact x_iret E X h dX7_pilgrim_79
                · have h := if_f c_12 h
                  refine lv_iload hx hb dX7_pilgrim_58 (lv_at hl 4 rfl) ?_
                  refine lv_bipush (v := (9 : Int32)) hx hb dX7_pilgrim_60 (by decide) ?_
                  refine lv_icmp_gt (tgt := 78) hx hb dX7_pilgrim_62 (by decide) (fun c_13 => ?_) (fun c_13 => ?_)
                  · have h := if_t c_13 h
                    refine lv_iconst (v := (-1 : Int32)) hx hb dX7_pilgrim_78 (by decide) ?_
                    exact x_iret E X h dX7_pilgrim_79
                  · have h := if_f c_13 h
                    refine lv_iload hx hb dX7_pilgrim_65 (lv_at hl 5 rfl) ?_
                    refine lv_if_lt (tgt := 78) hx hb dX7_pilgrim_67 (by decide) (fun c_14 => ?_) (fun c_14 => ?_)
                    · have h := if_t c_14 h
                      refine lv_iconst (v := (-1 : Int32)) hx hb dX7_pilgrim_78 (by decide) ?_
                      exact x_iret E X h dX7_pilgrim_79
                    · have h := if_f c_14 h
                      refine lv_iload hx hb dX7_pilgrim_70 (lv_at hl 5 rfl) ?_
                      refine lv_sipush (v := (9999 : Int32)) hx hb dX7_pilgrim_72 (by decide) ?_
                      refine lv_icmp_le (tgt := 80) hx hb dX7_pilgrim_75 (by decide) (fun c_15 => ?_) (fun c_15 => ?_)
                      · have h := if_t c_15 h
                        refine lv_aload_n hx hb dX7_pilgrim_80 rfl (lv_at hl 0 rfl) ?_
                        refine x_getr E X ffX7_12 rfl rfl dX7_pilgrim_81 ?_
                        refine x_get E X ffX7_73 rfl rfl dX7_pilgrim_84 ?_
                        obtain ⟨x6_16, ex6_16, h⟩ := lti_s h
                        refine lv_nm ex6_16 ?_
                        refine lv_istore (lv' := [(6, .int x6_16), (0, .ref (Z.2.1 0)), (1, .int x1), (2, .int x2), (3, .int x3), (4, .int x4), (5, .int x5)]) hx hb dX7_pilgrim_87 hl (by decide) rfl (fun ls hl => ?_)
                        refine lv_aload_n hx hb dX7_pilgrim_89 rfl (lv_at hl 1 rfl) ?_
                        refine x_getr E X ffX7_12 rfl rfl dX7_pilgrim_90 ?_
                        refine lv_dup hx hb dX7_pilgrim_93 rfl ?_
                        refine x_get E X ffX7_73 rfl rfl dX7_pilgrim_94 ?_
                        refine lv_iconst (v := (1 : Int32)) hx hb dX7_pilgrim_97 (by decide) ?_
                        refine lv_iadd hx hb dX7_pilgrim_98 ?_
                        obtain ⟨S_17, eS_17, h⟩ := ltm_s h
                        refine x_put E X fpX7_73 rfl rfl dX7_pilgrim_99 (fun H locs X => ?_)
                        rw [← eS_17] at X
                        refine lv_aload_n hx hb dX7_pilgrim_102 rfl (lv_at hl 1 rfl) ?_
                        refine x_getr E X ffX7_12 rfl rfl dX7_pilgrim_103 ?_
                        refine lv_iload hx hb dX7_pilgrim_106 (lv_at hl 0 rfl) ?_
                        refine lv_iconst (v := (0 : Int32)) hx hb dX7_pilgrim_108 (by decide) ?_
                        refine lv_iload_n hx hb dX7_pilgrim_109 rfl (lv_at hl 2 rfl) ?_
                        obtain ⟨r_18, S_19, hr_18, h⟩ := bnd_s h
                        refine x_callVv E X cwX7_83 (mX6_put l Z hQ  x6_16 (0 : Int32) x1 hr_18) rfl rfl rfl rfl hl.1 rfl dX7_pilgrim_110 (fun H locs X => ?_)
                        refine lv_aload_n hx hb dX7_pilgrim_113 rfl (lv_at hl 1 rfl) ?_
                        refine x_getr E X ffX7_12 rfl rfl dX7_pilgrim_114 ?_
                        refine lv_iload hx hb dX7_pilgrim_117 (lv_at hl 0 rfl) ?_
                        refine lv_iconst (v := (1 : Int32)) hx hb dX7_pilgrim_119 (by decide) ?_
                        refine lv_iload_n hx hb dX7_pilgrim_120 rfl (lv_at hl 3 rfl) ?_
                        obtain ⟨r_20, S_21, hr_20, h⟩ := bnd_s h
                        refine x_callVv E X cwX7_83 (mX6_put l Z hQ  x6_16 (1 : Int32) x2 hr_20) rfl rfl rfl rfl hl.1 rfl dX7_pilgrim_121 (fun H locs X => ?_)
                        refine lv_aload_n hx hb dX7_pilgrim_124 rfl (lv_at hl 1 rfl) ?_
                        refine x_getr E X ffX7_12 rfl rfl dX7_pilgrim_125 ?_
                        refine lv_iload hx hb dX7_pilgrim_128 (lv_at hl 0 rfl) ?_
                        refine lv_iconst (v := (2 : Int32)) hx hb dX7_pilgrim_130 (by decide) ?_
                        refine lv_iload_n hx hb dX7_pilgrim_131 rfl (lv_at hl 4 rfl) ?_
                        obtain ⟨r_22, S_23, hr_22, h⟩ := bnd_s h
                        refine x_callVv E X cwX7_83 (mX6_put l Z hQ  x6_16 (2 : Int32) x3 hr_22) rfl rfl rfl rfl hl.1 rfl dX7_pilgrim_132 (fun H locs X => ?_)
                        refine lv_aload_n hx hb dX7_pilgrim_135 rfl (lv_at hl 1 rfl) ?_
                        refine x_getr E X ffX7_12 rfl rfl dX7_pilgrim_136 ?_
                        refine lv_iload hx hb dX7_pilgrim_139 (lv_at hl 0 rfl) ?_
                        refine lv_iconst (v := (3 : Int32)) hx hb dX7_pilgrim_141 (by decide) ?_
                        refine lv_iload hx hb dX7_pilgrim_142 (lv_at hl 5 rfl) ?_
                        obtain ⟨r_24, S_25, hr_24, h⟩ := bnd_s h
                        refine x_callVv E X cwX7_83 (mX6_put l Z hQ  x6_16 (3 : Int32) x4 hr_24) rfl rfl rfl rfl hl.1 rfl dX7_pilgrim_144 (fun H locs X => ?_)
                        refine lv_aload_n hx hb dX7_pilgrim_147 rfl (lv_at hl 1 rfl) ?_
                        refine x_getr E X ffX7_12 rfl rfl dX7_pilgrim_148 ?_
                        refine lv_iload hx hb dX7_pilgrim_151 (lv_at hl 0 rfl) ?_
                        refine lv_iconst (v := (4 : Int32)) hx hb dX7_pilgrim_153 (by decide) ?_
                        refine lv_iload hx hb dX7_pilgrim_154 (lv_at hl 6 rfl) ?_
                        obtain ⟨r_26, S_27, hr_26, h⟩ := bnd_s h
                        refine x_callVv E X cwX7_83 (mX6_put l Z hQ  x6_16 (4 : Int32) x5 hr_26) rfl rfl rfl rfl hl.1 rfl dX7_pilgrim_156 (fun H locs X => ?_)
                        refine lv_aload_n hx hb dX7_pilgrim_159 rfl (lv_at hl 1 rfl) ?_
                        refine x_getr E X ffX7_22 rfl rfl dX7_pilgrim_160 ?_
                        obtain ⟨r_28, S_29, hr_28, h⟩ := bnd_s h
                        refine x_callVv E X cwX7_64 (mX2_forget l Z hQ   hr_28) rfl rfl rfl rfl hl.1 rfl dX7_pilgrim_163 (fun H locs X => ?_)
                        refine lv_iload hx hb dX7_pilgrim_166 (lv_at hl 0 rfl) ?_
                        exact x_iret E X h dX7_pilgrim_168
                      · have h := if_f c_15 h
                        refine lv_iconst (v := (-1 : Int32)) hx hb dX7_pilgrim_78 (by decide) ?_
                        exact x_iret E X h dX7_pilgrim_79
      · have h := if_f c_7 h
        refine lv_iconst (v := (-1 : Int32)) hx hb dX7_pilgrim_31 (by decide) ?_
        exact x_iret E X h dX7_pilgrim_32
/-- SevenToAShadow.pilgrim(IIIII)I -/
theorem mX7_pilgrim (l : Launch) (Z : XG) (hQ : wQ (List.length xL) Z) {S S' : Mem} {r : Int32} (x1 x2 x3 x4 x5 : Int32) (h : fX7_pilgrim S x1 x2 x3 x4 x5 = some (r, S')) : XM l yX7_pilgrim cX7_pilgrim 7 (some .int) { frames := 3, cells := 0, slots := 0, locals := 65 } xL Z [.ref (Z.2.1 0), .int x1, .int x2, .int x3, .int x4, .int x5] S (XQ xL Z r S') := by
  refine XM.of (own := RX7) (by decide +kernel) rfl rfl hQ (fun p e s m args below meth c E ls hl X => ?_)
  exact wX7_pilgrim E S x1 x2 x3 x4 x5 h _ _ _ X hl
def fX7_canBeGiven_63 (S : Mem) : O := some ((1 : Int32), S)
def fX7_canBeGiven_78 (S : Mem) : O := some ((1 : Int32), S)
def fX7_canBeGiven (S : Mem) (x1 x2 x3 : Int32) : O := (if x2 = (0 : Int32) then bnd (fX7_isPlace S x3) fun r_2 S_3 => (if r_2 = 0 then some ((0 : Int32), S_3) else bnd (fX6_whoStandsAt S_3 x3) fun r_5 S_6 => (if r_5 = (-1 : Int32) then fX7_canBeGiven_63  S_6  else (if r_5 = x1 then fX7_canBeGiven_63  S_6  else some ((0 : Int32), S_6)))) else if x2 = (1 : Int32) then (if x3 = 0 then fX7_canBeGiven_78  S  else (if x3 = (1 : Int32) then fX7_canBeGiven_78  S  else some ((0 : Int32), S))) else if x2 = (2 : Int32) then (if x3 = 0 then fX7_canBeGiven_78  S  else (if x3 = (1 : Int32) then fX7_canBeGiven_78  S  else some ((0 : Int32), S))) else if x2 = (3 : Int32) then (if x3 < 0 then some ((0 : Int32), S) else (if (9999 : Int32) < x3 then some ((0 : Int32), S) else some ((1 : Int32), S))) else some ((0 : Int32), S))
theorem dX7_canBeGiven_0 : decode cX7_canBeGiven 0 = .ok (.iload_n 2, 1) := by decide +kernel
theorem dX7_canBeGiven_1 : decode cX7_canBeGiven 1 = .ok (.tableswitch 100 0 3 #[31, 68, 68, 83], 31) := by decide +kernel
theorem dX7_canBeGiven_32 : decode cX7_canBeGiven 32 = .ok (.iload_n 3, 1) := by decide +kernel
theorem dX7_canBeGiven_33 : decode cX7_canBeGiven 33 = .ok (.invokestatic 76, 3) := by decide +kernel
theorem dX7_canBeGiven_36 : decode cX7_canBeGiven 36 = .ok (.ifCond .ne 5, 3) := by decide +kernel
theorem dX7_canBeGiven_39 : decode cX7_canBeGiven 39 = .ok (.iconst 0, 1) := by decide +kernel
theorem dX7_canBeGiven_40 : decode cX7_canBeGiven 40 = .ok (.ireturn, 1) := by decide +kernel
theorem dX7_canBeGiven_41 : decode cX7_canBeGiven 41 = .ok (.aload_n 0, 1) := by decide +kernel
theorem dX7_canBeGiven_42 : decode cX7_canBeGiven 42 = .ok (.getfield 12, 3) := by decide +kernel
theorem dX7_canBeGiven_45 : decode cX7_canBeGiven 45 = .ok (.iload_n 3, 1) := by decide +kernel
theorem dX7_canBeGiven_46 : decode cX7_canBeGiven 46 = .ok (.invokevirtual 79, 3) := by decide +kernel
theorem dX7_canBeGiven_49 : decode cX7_canBeGiven 49 = .ok (.istore 4, 2) := by decide +kernel
theorem dX7_canBeGiven_51 : decode cX7_canBeGiven 51 = .ok (.iload 4, 2) := by decide +kernel
theorem dX7_canBeGiven_53 : decode cX7_canBeGiven 53 = .ok (.iconst (-1), 1) := by decide +kernel
theorem dX7_canBeGiven_54 : decode cX7_canBeGiven 54 = .ok (.if_icmp .eq 9, 3) := by decide +kernel
theorem dX7_canBeGiven_57 : decode cX7_canBeGiven 57 = .ok (.iload 4, 2) := by decide +kernel
theorem dX7_canBeGiven_59 : decode cX7_canBeGiven 59 = .ok (.iload_n 1, 1) := by decide +kernel
theorem dX7_canBeGiven_60 : decode cX7_canBeGiven 60 = .ok (.if_icmp .ne 7, 3) := by decide +kernel
theorem dX7_canBeGiven_63 : decode cX7_canBeGiven 63 = .ok (.iconst 1, 1) := by decide +kernel
theorem dX7_canBeGiven_64 : decode cX7_canBeGiven 64 = .ok (.goto 4, 3) := by decide +kernel
theorem dX7_canBeGiven_67 : decode cX7_canBeGiven 67 = .ok (.iconst 0, 1) := by decide +kernel
theorem dX7_canBeGiven_68 : decode cX7_canBeGiven 68 = .ok (.ireturn, 1) := by decide +kernel
theorem dX7_canBeGiven_69 : decode cX7_canBeGiven 69 = .ok (.iload_n 3, 1) := by decide +kernel
theorem dX7_canBeGiven_70 : decode cX7_canBeGiven 70 = .ok (.ifCond .eq 8, 3) := by decide +kernel
theorem dX7_canBeGiven_73 : decode cX7_canBeGiven 73 = .ok (.iload_n 3, 1) := by decide +kernel
theorem dX7_canBeGiven_74 : decode cX7_canBeGiven 74 = .ok (.iconst 1, 1) := by decide +kernel
theorem dX7_canBeGiven_75 : decode cX7_canBeGiven 75 = .ok (.if_icmp .ne 7, 3) := by decide +kernel
theorem dX7_canBeGiven_78 : decode cX7_canBeGiven 78 = .ok (.iconst 1, 1) := by decide +kernel
theorem dX7_canBeGiven_79 : decode cX7_canBeGiven 79 = .ok (.goto 4, 3) := by decide +kernel
theorem dX7_canBeGiven_82 : decode cX7_canBeGiven 82 = .ok (.iconst 0, 1) := by decide +kernel
theorem dX7_canBeGiven_83 : decode cX7_canBeGiven 83 = .ok (.ireturn, 1) := by decide +kernel
theorem dX7_canBeGiven_84 : decode cX7_canBeGiven 84 = .ok (.iload_n 3, 1) := by decide +kernel
theorem dX7_canBeGiven_85 : decode cX7_canBeGiven 85 = .ok (.ifCond .lt 14, 3) := by decide +kernel
theorem dX7_canBeGiven_88 : decode cX7_canBeGiven 88 = .ok (.iload_n 3, 1) := by decide +kernel
theorem dX7_canBeGiven_89 : decode cX7_canBeGiven 89 = .ok (.sipush 9999, 3) := by decide +kernel
theorem dX7_canBeGiven_92 : decode cX7_canBeGiven 92 = .ok (.if_icmp .gt 7, 3) := by decide +kernel
theorem dX7_canBeGiven_95 : decode cX7_canBeGiven 95 = .ok (.iconst 1, 1) := by decide +kernel
theorem dX7_canBeGiven_96 : decode cX7_canBeGiven 96 = .ok (.goto 4, 3) := by decide +kernel
theorem dX7_canBeGiven_99 : decode cX7_canBeGiven 99 = .ok (.iconst 0, 1) := by decide +kernel
theorem dX7_canBeGiven_100 : decode cX7_canBeGiven 100 = .ok (.ireturn, 1) := by decide +kernel
theorem dX7_canBeGiven_101 : decode cX7_canBeGiven 101 = .ok (.iconst 0, 1) := by decide +kernel
theorem dX7_canBeGiven_102 : decode cX7_canBeGiven 102 = .ok (.ireturn, 1) := by decide +kernel
set_option maxRecDepth 20000 in
theorem wX7_canBeGiven_63 {p : Program} {l : Launch} {e : Env} {s : State} {m : MethodId} {args : Array Value} {below : List Frame} {meth : Method} {c : Code} {Z : XG} {r : Int32} {S' : Mem} (E : XE p s m args meth c cX7_canBeGiven 5 RX7 (some .boolean) xL Z) : ∀ (S : Mem), fX7_canBeGiven_63  S  = some (r, S') → WN p l e { frames := 3, cells := 0, slots := 0, locals := 65 } s m args below meth c xL Z (XQ xL Z r S') S 63 5 [] [] := by
  obtain ⟨hx, hb, -, -, -, -, -, -, -, hQ⟩ := id E
  intro S  h H locs ls X hl
  unfold fX7_canBeGiven_63 at h
  refine lv_iconst (v := (1 : Int32)) hx hb dX7_canBeGiven_63 (by decide) ?_
  refine lv_goto (tgt := 68) hx hb dX7_canBeGiven_64 (by decide) ?_
  exact x_zret E X rfl h dX7_canBeGiven_68
set_option maxRecDepth 20000 in
theorem wX7_canBeGiven_78 {p : Program} {l : Launch} {e : Env} {s : State} {m : MethodId} {args : Array Value} {below : List Frame} {meth : Method} {c : Code} {Z : XG} {r : Int32} {S' : Mem} (E : XE p s m args meth c cX7_canBeGiven 5 RX7 (some .boolean) xL Z) : ∀ (S : Mem), fX7_canBeGiven_78  S  = some (r, S') → WN p l e { frames := 3, cells := 0, slots := 0, locals := 65 } s m args below meth c xL Z (XQ xL Z r S') S 78 5 [] [] := by
  obtain ⟨hx, hb, -, -, -, -, -, -, -, hQ⟩ := id E
  intro S  h H locs ls X hl
  unfold fX7_canBeGiven_78 at h
  refine lv_iconst (v := (1 : Int32)) hx hb dX7_canBeGiven_78 (by decide) ?_
  refine lv_goto (tgt := 83) hx hb dX7_canBeGiven_79 (by decide) ?_
  exact x_zret E X rfl h dX7_canBeGiven_83
set_option maxRecDepth 20000 in
theorem wX7_canBeGiven {p : Program} {l : Launch} {e : Env} {s : State} {m : MethodId} {args : Array Value} {below : List Frame} {meth : Method} {c : Code} {Z : XG} {r : Int32} {S' : Mem} (E : XE p s m args meth c cX7_canBeGiven 5 RX7 (some .boolean) xL Z) : ∀ (S : Mem) (x1 x2 x3 : Int32), fX7_canBeGiven  S x1 x2 x3 = some (r, S') → WN p l e { frames := 3, cells := 0, slots := 0, locals := 65 } s m args below meth c xL Z (XQ xL Z r S') S 0 5 [(0, .ref (Z.2.1 0)), (1, .int x1), (2, .int x2), (3, .int x3)] [] := by
  obtain ⟨hx, hb, -, -, -, -, -, -, -, hQ⟩ := id E
  intro S x1 x2 x3 h H locs ls X hl
  unfold fX7_canBeGiven at h
  refine lv_iload_n hx hb dX7_canBeGiven_0 rfl (lv_at hl 2 rfl) ?_
  by_cases c_1 : x2 = (0 : Int32)
  · have h := if_t c_1 h
    refine lv_tableIn (off := 31) (tgt := 32) hx hb dX7_canBeGiven_1 (by rw [c_1]; decide) (by rw [c_1]; decide) (by rw [c_1]; decide) (by decide) ?_
    refine lv_iload_n hx hb dX7_canBeGiven_32 rfl (lv_at hl 3 rfl) ?_
    obtain ⟨r_2, S_3, hr_2, h⟩ := bnd_s h
    refine x_callS E X cwX7_76 (mX7_isPlace l Z hQ  x3 hr_2) rfl rfl hl.1 rfl dX7_canBeGiven_33 (fun H locs X => ?_)
    refine lv_if_ne (tgt := 41) hx hb dX7_canBeGiven_36 (by decide) (fun c_4 => ?_) (fun c_4 => ?_)
    · have h := if_f c_4 h
      refine lv_aload_n hx hb dX7_canBeGiven_41 rfl (lv_at hl 0 rfl) ?_
      refine x_getr E X ffX7_12 rfl rfl dX7_canBeGiven_42 ?_
      refine lv_iload_n hx hb dX7_canBeGiven_45 rfl (lv_at hl 3 rfl) ?_
      obtain ⟨r_5, S_6, hr_5, h⟩ := bnd_s h
      refine x_callV E X cwX7_79 (mX6_whoStandsAt l Z hQ  x3 hr_5) rfl rfl rfl rfl hl.1 rfl dX7_canBeGiven_46 (fun H locs X => ?_)
      refine lv_istore (lv' := [(4, .int r_5), (0, .ref (Z.2.1 0)), (1, .int x1), (2, .int x2), (3, .int x3)]) hx hb dX7_canBeGiven_49 hl (by decide) rfl (fun ls hl => ?_)
      refine lv_iload hx hb dX7_canBeGiven_51 (lv_at hl 0 rfl) ?_
      refine lv_iconst (v := (-1 : Int32)) hx hb dX7_canBeGiven_53 (by decide) ?_
      refine lv_icmp_eq (tgt := 63) hx hb dX7_canBeGiven_54 (by decide) (fun c_7 => ?_) (fun c_7 => ?_)
      · have h := if_t c_7 h
        exact wX7_canBeGiven_63 E   S_6  h _ _ _ X (lv_sub hl [] rfl)
      · have h := if_f c_7 h
        refine lv_iload hx hb dX7_canBeGiven_57 (lv_at hl 0 rfl) ?_
        refine lv_iload_n hx hb dX7_canBeGiven_59 rfl (lv_at hl 2 rfl) ?_
        refine lv_icmp_ne (tgt := 67) hx hb dX7_canBeGiven_60 (by decide) (fun c_8 => ?_) (fun c_8 => ?_)
        · have h := if_f c_8 h
          refine lv_iconst (v := (0 : Int32)) hx hb dX7_canBeGiven_67 (by decide) ?_
          exact x_zret E X rfl h dX7_canBeGiven_68
        · have h := if_t c_8 h
          exact wX7_canBeGiven_63 E   S_6  h _ _ _ X (lv_sub hl [] rfl)
    · have h := if_t c_4 h
      refine lv_iconst (v := (0 : Int32)) hx hb dX7_canBeGiven_39 (by decide) ?_
      exact x_zret E X rfl h dX7_canBeGiven_40
  replace h := if_f c_1 h
  by_cases c_9 : x2 = (1 : Int32)
  · have h := if_t c_9 h
    refine lv_tableIn (off := 68) (tgt := 69) hx hb dX7_canBeGiven_1 (by rw [c_9]; decide) (by rw [c_9]; decide) (by rw [c_9]; decide) (by decide) ?_
    refine lv_iload_n hx hb dX7_canBeGiven_69 rfl (lv_at hl 3 rfl) ?_
    refine lv_if_eq (tgt := 78) hx hb dX7_canBeGiven_70 (by decide) (fun c_10 => ?_) (fun c_10 => ?_)
    · have h := if_t c_10 h
      exact wX7_canBeGiven_78 E   S  h _ _ _ X (lv_sub hl [] rfl)
    · have h := if_f c_10 h
      refine lv_iload_n hx hb dX7_canBeGiven_73 rfl (lv_at hl 3 rfl) ?_
      refine lv_iconst (v := (1 : Int32)) hx hb dX7_canBeGiven_74 (by decide) ?_
      refine lv_icmp_ne (tgt := 82) hx hb dX7_canBeGiven_75 (by decide) (fun c_11 => ?_) (fun c_11 => ?_)
      · have h := if_f c_11 h
        refine lv_iconst (v := (0 : Int32)) hx hb dX7_canBeGiven_82 (by decide) ?_
        exact x_zret E X rfl h dX7_canBeGiven_83
      · have h := if_t c_11 h
        exact wX7_canBeGiven_78 E   S  h _ _ _ X (lv_sub hl [] rfl)
  replace h := if_f c_9 h
  by_cases c_12 : x2 = (2 : Int32)
  · have h := if_t c_12 h
    refine lv_tableIn (off := 68) (tgt := 69) hx hb dX7_canBeGiven_1 (by rw [c_12]; decide) (by rw [c_12]; decide) (by rw [c_12]; decide) (by decide) ?_
    refine lv_iload_n hx hb dX7_canBeGiven_69 rfl (lv_at hl 3 rfl) ?_
    refine lv_if_eq (tgt := 78) hx hb dX7_canBeGiven_70 (by decide) (fun c_13 => ?_) (fun c_13 => ?_)
    · have h := if_t c_13 h
      exact wX7_canBeGiven_78 E   S  h _ _ _ X (lv_sub hl [] rfl)
    · have h := if_f c_13 h
      refine lv_iload_n hx hb dX7_canBeGiven_73 rfl (lv_at hl 3 rfl) ?_
      refine lv_iconst (v := (1 : Int32)) hx hb dX7_canBeGiven_74 (by decide) ?_
      refine lv_icmp_ne (tgt := 82) hx hb dX7_canBeGiven_75 (by decide) (fun c_14 => ?_) (fun c_14 => ?_)
      · have h := if_f c_14 h
        refine lv_iconst (v := (0 : Int32)) hx hb dX7_canBeGiven_82 (by decide) ?_
        exact x_zret E X rfl h dX7_canBeGiven_83
      · have h := if_t c_14 h
        exact wX7_canBeGiven_78 E   S  h _ _ _ X (lv_sub hl [] rfl)
  replace h := if_f c_12 h
  by_cases c_15 : x2 = (3 : Int32)
  · have h := if_t c_15 h
    refine lv_tableIn (off := 83) (tgt := 84) hx hb dX7_canBeGiven_1 (by rw [c_15]; decide) (by rw [c_15]; decide) (by rw [c_15]; decide) (by decide) ?_
    refine lv_iload_n hx hb dX7_canBeGiven_84 rfl (lv_at hl 3 rfl) ?_
    refine lv_if_lt (tgt := 99) hx hb dX7_canBeGiven_85 (by decide) (fun c_16 => ?_) (fun c_16 => ?_)
    · have h := if_t c_16 h
      refine lv_iconst (v := (0 : Int32)) hx hb dX7_canBeGiven_99 (by decide) ?_
      exact x_zret E X rfl h dX7_canBeGiven_100
    · have h := if_f c_16 h
      refine lv_iload_n hx hb dX7_canBeGiven_88 rfl (lv_at hl 3 rfl) ?_
      refine lv_sipush (v := (9999 : Int32)) hx hb dX7_canBeGiven_89 (by decide) ?_
      refine lv_icmp_gt (tgt := 99) hx hb dX7_canBeGiven_92 (by decide) (fun c_17 => ?_) (fun c_17 => ?_)
      · have h := if_t c_17 h
        refine lv_iconst (v := (0 : Int32)) hx hb dX7_canBeGiven_99 (by decide) ?_
        exact x_zret E X rfl h dX7_canBeGiven_100
      · have h := if_f c_17 h
        refine lv_iconst (v := (1 : Int32)) hx hb dX7_canBeGiven_95 (by decide) ?_
        refine lv_goto (tgt := 100) hx hb dX7_canBeGiven_96 (by decide) ?_
        exact x_zret E X rfl h dX7_canBeGiven_100
  replace h := if_f c_15 h
  refine lv_tableD (tgt := 101) hx hb dX7_canBeGiven_1 (by decide +kernel) (fun i hi q_18 => ?_) ?_
  · match i, hi, q_18 with
    | 0, _, q_18 => exact absurd (tbl_eq q_18 (by decide)) c_1
    | 1, _, q_18 => exact absurd (tbl_eq q_18 (by decide)) c_9
    | 2, _, q_18 => exact absurd (tbl_eq q_18 (by decide)) c_12
    | 3, _, q_18 => exact absurd (tbl_eq q_18 (by decide)) c_15
    | i + 4, hi, _ => exact absurd hi (by simp)
  refine lv_iconst (v := (0 : Int32)) hx hb dX7_canBeGiven_101 (by decide) ?_
  exact x_zret E X rfl h dX7_canBeGiven_102
/-- SevenToAShadow.canBeGiven(III)Z -/
theorem mX7_canBeGiven (l : Launch) (Z : XG) (hQ : wQ (List.length xL) Z) {S S' : Mem} {r : Int32} (x1 x2 x3 : Int32) (h : fX7_canBeGiven S x1 x2 x3 = some (r, S')) : XM l yX7_canBeGiven cX7_canBeGiven 5 (some .boolean) { frames := 3, cells := 0, slots := 0, locals := 65 } xL Z [.ref (Z.2.1 0), .int x1, .int x2, .int x3] S (XQ xL Z r S') := by
  refine XM.of (own := RX7) (by decide +kernel) rfl rfl hQ (fun p e s m args below meth c E ls hl X => ?_)
  exact wX7_canBeGiven E S x1 x2 x3 h _ _ _ X hl
def fX7_give_87 (S : Mem) : O := bnd (fX2_forget S ) fun _ S_2 => some ((1 : Int32), S_2)
def fX7_give (S : Mem) (x1 x2 x3 : Int32) : O := bnd (fX6_isPilgrim S x1) fun r_1 S_2 => (if r_1 = 0 then some ((0 : Int32), S_2) else bnd (fX7_canBeGiven S_2 x1 x2 x3) fun r_4 S_5 => (if r_4 = 0 then some ((0 : Int32), S_5) else (if x2 = 0 then bnd (fX6_put S_5 x1 (0 : Int32) x3) fun _ S_17 => fX7_give_87  S_17  else (if x2 = (1 : Int32) then bnd (fX6_put S_5 x1 (5 : Int32) x3) fun _ S_15 => fX7_give_87  S_15  else (if x2 = (2 : Int32) then bnd (fX6_put S_5 x1 (6 : Int32) x3) fun _ S_13 => fX7_give_87  S_13  else bnd (fX6_put S_5 x1 (4 : Int32) x3) fun _ S_11 => fX7_give_87  S_11 )))))
theorem dX7_give_0 : decode cX7_give 0 = .ok (.aload_n 0, 1) := by decide +kernel
theorem dX7_give_1 : decode cX7_give 1 = .ok (.getfield 12, 3) := by decide +kernel
theorem dX7_give_4 : decode cX7_give 4 = .ok (.iload_n 1, 1) := by decide +kernel
theorem dX7_give_5 : decode cX7_give 5 = .ok (.invokevirtual 87, 3) := by decide +kernel
theorem dX7_give_8 : decode cX7_give 8 = .ok (.ifCond .eq 13, 3) := by decide +kernel
theorem dX7_give_11 : decode cX7_give 11 = .ok (.aload_n 0, 1) := by decide +kernel
theorem dX7_give_12 : decode cX7_give 12 = .ok (.iload_n 1, 1) := by decide +kernel
theorem dX7_give_13 : decode cX7_give 13 = .ok (.iload_n 2, 1) := by decide +kernel
theorem dX7_give_14 : decode cX7_give 14 = .ok (.iload_n 3, 1) := by decide +kernel
theorem dX7_give_15 : decode cX7_give 15 = .ok (.invokevirtual 90, 3) := by decide +kernel
theorem dX7_give_18 : decode cX7_give 18 = .ok (.ifCond .ne 5, 3) := by decide +kernel
theorem dX7_give_21 : decode cX7_give 21 = .ok (.iconst 0, 1) := by decide +kernel
theorem dX7_give_22 : decode cX7_give 22 = .ok (.ireturn, 1) := by decide +kernel
theorem dX7_give_23 : decode cX7_give 23 = .ok (.iload_n 2, 1) := by decide +kernel
theorem dX7_give_24 : decode cX7_give 24 = .ok (.ifCond .ne 16, 3) := by decide +kernel
theorem dX7_give_27 : decode cX7_give 27 = .ok (.aload_n 0, 1) := by decide +kernel
theorem dX7_give_28 : decode cX7_give 28 = .ok (.getfield 12, 3) := by decide +kernel
theorem dX7_give_31 : decode cX7_give 31 = .ok (.iload_n 1, 1) := by decide +kernel
theorem dX7_give_32 : decode cX7_give 32 = .ok (.iconst 0, 1) := by decide +kernel
theorem dX7_give_33 : decode cX7_give 33 = .ok (.iload_n 3, 1) := by decide +kernel
theorem dX7_give_34 : decode cX7_give 34 = .ok (.invokevirtual 83, 3) := by decide +kernel
theorem dX7_give_37 : decode cX7_give 37 = .ok (.goto 50, 3) := by decide +kernel
theorem dX7_give_40 : decode cX7_give 40 = .ok (.iload_n 2, 1) := by decide +kernel
theorem dX7_give_41 : decode cX7_give 41 = .ok (.iconst 1, 1) := by decide +kernel
theorem dX7_give_42 : decode cX7_give 42 = .ok (.if_icmp .ne 16, 3) := by decide +kernel
theorem dX7_give_45 : decode cX7_give 45 = .ok (.aload_n 0, 1) := by decide +kernel
theorem dX7_give_46 : decode cX7_give 46 = .ok (.getfield 12, 3) := by decide +kernel
theorem dX7_give_49 : decode cX7_give 49 = .ok (.iload_n 1, 1) := by decide +kernel
theorem dX7_give_50 : decode cX7_give 50 = .ok (.iconst 5, 1) := by decide +kernel
theorem dX7_give_51 : decode cX7_give 51 = .ok (.iload_n 3, 1) := by decide +kernel
theorem dX7_give_52 : decode cX7_give 52 = .ok (.invokevirtual 83, 3) := by decide +kernel
theorem dX7_give_55 : decode cX7_give 55 = .ok (.goto 32, 3) := by decide +kernel
theorem dX7_give_58 : decode cX7_give 58 = .ok (.iload_n 2, 1) := by decide +kernel
theorem dX7_give_59 : decode cX7_give 59 = .ok (.iconst 2, 1) := by decide +kernel
theorem dX7_give_60 : decode cX7_give 60 = .ok (.if_icmp .ne 17, 3) := by decide +kernel
theorem dX7_give_63 : decode cX7_give 63 = .ok (.aload_n 0, 1) := by decide +kernel
theorem dX7_give_64 : decode cX7_give 64 = .ok (.getfield 12, 3) := by decide +kernel
theorem dX7_give_67 : decode cX7_give 67 = .ok (.iload_n 1, 1) := by decide +kernel
theorem dX7_give_68 : decode cX7_give 68 = .ok (.bipush 6, 2) := by decide +kernel
theorem dX7_give_70 : decode cX7_give 70 = .ok (.iload_n 3, 1) := by decide +kernel
theorem dX7_give_71 : decode cX7_give 71 = .ok (.invokevirtual 83, 3) := by decide +kernel
theorem dX7_give_74 : decode cX7_give 74 = .ok (.goto 13, 3) := by decide +kernel
theorem dX7_give_77 : decode cX7_give 77 = .ok (.aload_n 0, 1) := by decide +kernel
theorem dX7_give_78 : decode cX7_give 78 = .ok (.getfield 12, 3) := by decide +kernel
theorem dX7_give_81 : decode cX7_give 81 = .ok (.iload_n 1, 1) := by decide +kernel
theorem dX7_give_82 : decode cX7_give 82 = .ok (.iconst 4, 1) := by decide +kernel
theorem dX7_give_83 : decode cX7_give 83 = .ok (.iload_n 3, 1) := by decide +kernel
theorem dX7_give_84 : decode cX7_give 84 = .ok (.invokevirtual 83, 3) := by decide +kernel
theorem dX7_give_87 : decode cX7_give 87 = .ok (.aload_n 0, 1) := by decide +kernel
theorem dX7_give_88 : decode cX7_give 88 = .ok (.getfield 22, 3) := by decide +kernel
theorem dX7_give_91 : decode cX7_give 91 = .ok (.invokevirtual 64, 3) := by decide +kernel
theorem dX7_give_94 : decode cX7_give 94 = .ok (.iconst 1, 1) := by decide +kernel
theorem dX7_give_95 : decode cX7_give 95 = .ok (.ireturn, 1) := by decide +kernel
set_option maxRecDepth 20000 in
theorem wX7_give_87 {p : Program} {l : Launch} {e : Env} {s : State} {m : MethodId} {args : Array Value} {below : List Frame} {meth : Method} {c : Code} {Z : XG} {r : Int32} {S' : Mem} (E : XE p s m args meth c cX7_give 4 RX7 (some .boolean) xL Z) : ∀ (S : Mem), fX7_give_87  S  = some (r, S') → WN p l e { frames := 4, cells := 0, slots := 0, locals := 89 } s m args below meth c xL Z (XQ xL Z r S') S 87 4 [(0, .ref (Z.2.1 0))] [] := by
  obtain ⟨hx, hb, -, -, -, -, -, -, -, hQ⟩ := id E
  intro S  h H locs ls X hl
  unfold fX7_give_87 at h
  refine lv_aload_n hx hb dX7_give_87 rfl (lv_at hl 0 rfl) ?_
  refine x_getr E X ffX7_22 rfl rfl dX7_give_88 ?_
  obtain ⟨r_1, S_2, hr_1, h⟩ := bnd_s h
  refine x_callVv E X cwX7_64 (mX2_forget l Z hQ   hr_1) rfl rfl rfl rfl hl.1 rfl dX7_give_91 (fun H locs X => ?_)
  refine lv_iconst (v := (1 : Int32)) hx hb dX7_give_94 (by decide) ?_
  exact x_zret E X rfl h dX7_give_95
set_option maxRecDepth 20000 in
theorem wX7_give {p : Program} {l : Launch} {e : Env} {s : State} {m : MethodId} {args : Array Value} {below : List Frame} {meth : Method} {c : Code} {Z : XG} {r : Int32} {S' : Mem} (E : XE p s m args meth c cX7_give 4 RX7 (some .boolean) xL Z) : ∀ (S : Mem) (x1 x2 x3 : Int32), fX7_give  S x1 x2 x3 = some (r, S') → WN p l e { frames := 4, cells := 0, slots := 0, locals := 89 } s m args below meth c xL Z (XQ xL Z r S') S 0 4 [(0, .ref (Z.2.1 0)), (1, .int x1), (2, .int x2), (3, .int x3)] [] := by
  obtain ⟨hx, hb, -, -, -, -, -, -, -, hQ⟩ := id E
  intro S x1 x2 x3 h H locs ls X hl
  unfold fX7_give at h
  refine lv_aload_n hx hb dX7_give_0 rfl (lv_at hl 0 rfl) ?_
  refine x_getr E X ffX7_12 rfl rfl dX7_give_1 ?_
  refine lv_iload_n hx hb dX7_give_4 rfl (lv_at hl 1 rfl) ?_
  obtain ⟨r_1, S_2, hr_1, h⟩ := bnd_s h
  refine x_callV E X cwX7_87 (mX6_isPilgrim l Z hQ  x1 hr_1) rfl rfl rfl rfl hl.1 rfl dX7_give_5 (fun H locs X => ?_)
  refine lv_if_eq (tgt := 21) hx hb dX7_give_8 (by decide) (fun c_3 => ?_) (fun c_3 => ?_)
  · have h := if_t c_3 h
    refine lv_iconst (v := (0 : Int32)) hx hb dX7_give_21 (by decide) ?_
    exact x_zret E X rfl h dX7_give_22
  · have h := if_f c_3 h
    refine lv_aload_n hx hb dX7_give_11 rfl (lv_at hl 0 rfl) ?_
    refine lv_iload_n hx hb dX7_give_12 rfl (lv_at hl 1 rfl) ?_
    refine lv_iload_n hx hb dX7_give_13 rfl (lv_at hl 2 rfl) ?_
    refine lv_iload_n hx hb dX7_give_14 rfl (lv_at hl 3 rfl) ?_
    obtain ⟨r_4, S_5, hr_4, h⟩ := bnd_s h
    refine x_callV E X cwX7_90 (mX7_canBeGiven l Z hQ  x1 x2 x3 hr_4) rfl rfl rfl rfl hl.1 rfl dX7_give_15 (fun H locs X => ?_)
    refine lv_if_ne (tgt := 23) hx hb dX7_give_18 (by decide) (fun c_6 => ?_) (fun c_6 => ?_)
    · have h := if_f c_6 h
      refine lv_iload_n hx hb dX7_give_23 rfl (lv_at hl 2 rfl) ?_
      refine lv_if_ne (tgt := 40) hx hb dX7_give_24 (by decide) (fun c_7 => ?_) (fun c_7 => ?_)
      · have h := if_f c_7 h
        refine lv_iload_n hx hb dX7_give_40 rfl (lv_at hl 2 rfl) ?_
        refine lv_iconst (v := (1 : Int32)) hx hb dX7_give_41 (by decide) ?_
        refine lv_icmp_ne (tgt := 58) hx hb dX7_give_42 (by decide) (fun c_8 => ?_) (fun c_8 => ?_)
        · have h := if_f c_8 h
          refine lv_iload_n hx hb dX7_give_58 rfl (lv_at hl 2 rfl) ?_
          refine lv_iconst (v := (2 : Int32)) hx hb dX7_give_59 (by decide) ?_
          refine lv_icmp_ne (tgt := 77) hx hb dX7_give_60 (by decide) (fun c_9 => ?_) (fun c_9 => ?_)
          · have h := if_f c_9 h
            refine lv_aload_n hx hb dX7_give_77 rfl (lv_at hl 0 rfl) ?_
            refine x_getr E X ffX7_12 rfl rfl dX7_give_78 ?_
            refine lv_iload_n hx hb dX7_give_81 rfl (lv_at hl 1 rfl) ?_
            refine lv_iconst (v := (4 : Int32)) hx hb dX7_give_82 (by decide) ?_
            refine lv_iload_n hx hb dX7_give_83 rfl (lv_at hl 3 rfl) ?_
            obtain ⟨r_10, S_11, hr_10, h⟩ := bnd_s h
            refine x_callVv E X cwX7_83 (mX6_put l Z hQ  x1 (4 : Int32) x3 hr_10) rfl rfl rfl rfl hl.1 rfl dX7_give_84 (fun H locs X => ?_)
            exact wX7_give_87 E   S_11  h _ _ _ X (lv_sub hl [0] rfl)
          · have h := if_t c_9 h
            refine lv_aload_n hx hb dX7_give_63 rfl (lv_at hl 0 rfl) ?_
            refine x_getr E X ffX7_12 rfl rfl dX7_give_64 ?_
            refine lv_iload_n hx hb dX7_give_67 rfl (lv_at hl 1 rfl) ?_
            refine lv_bipush (v := (6 : Int32)) hx hb dX7_give_68 (by decide) ?_
            refine lv_iload_n hx hb dX7_give_70 rfl (lv_at hl 3 rfl) ?_
            obtain ⟨r_12, S_13, hr_12, h⟩ := bnd_s h
            refine x_callVv E X cwX7_83 (mX6_put l Z hQ  x1 (6 : Int32) x3 hr_12) rfl rfl rfl rfl hl.1 rfl dX7_give_71 (fun H locs X => ?_)
            refine lv_goto (tgt := 87) hx hb dX7_give_74 (by decide) ?_
            exact wX7_give_87 E   S_13  h _ _ _ X (lv_sub hl [0] rfl)
        · have h := if_t c_8 h
          refine lv_aload_n hx hb dX7_give_45 rfl (lv_at hl 0 rfl) ?_
          refine x_getr E X ffX7_12 rfl rfl dX7_give_46 ?_
          refine lv_iload_n hx hb dX7_give_49 rfl (lv_at hl 1 rfl) ?_
          refine lv_iconst (v := (5 : Int32)) hx hb dX7_give_50 (by decide) ?_
          refine lv_iload_n hx hb dX7_give_51 rfl (lv_at hl 3 rfl) ?_
          obtain ⟨r_14, S_15, hr_14, h⟩ := bnd_s h
          refine x_callVv E X cwX7_83 (mX6_put l Z hQ  x1 (5 : Int32) x3 hr_14) rfl rfl rfl rfl hl.1 rfl dX7_give_52 (fun H locs X => ?_)
          refine lv_goto (tgt := 87) hx hb dX7_give_55 (by decide) ?_
          exact wX7_give_87 E   S_15  h _ _ _ X (lv_sub hl [0] rfl)
      · have h := if_t c_7 h
        refine lv_aload_n hx hb dX7_give_27 rfl (lv_at hl 0 rfl) ?_
        refine x_getr E X ffX7_12 rfl rfl dX7_give_28 ?_
        refine lv_iload_n hx hb dX7_give_31 rfl (lv_at hl 1 rfl) ?_
        refine lv_iconst (v := (0 : Int32)) hx hb dX7_give_32 (by decide) ?_
        refine lv_iload_n hx hb dX7_give_33 rfl (lv_at hl 3 rfl) ?_
        obtain ⟨r_16, S_17, hr_16, h⟩ := bnd_s h
        refine x_callVv E X cwX7_83 (mX6_put l Z hQ  x1 (0 : Int32) x3 hr_16) rfl rfl rfl rfl hl.1 rfl dX7_give_34 (fun H locs X => ?_)
        refine lv_goto (tgt := 87) hx hb dX7_give_37 (by decide) ?_
        exact wX7_give_87 E   S_17  h _ _ _ X (lv_sub hl [0] rfl)
    · have h := if_t c_6 h
      refine lv_iconst (v := (0 : Int32)) hx hb dX7_give_21 (by decide) ?_
      exact x_zret E X rfl h dX7_give_22
/-- SevenToAShadow.give(III)Z -/
theorem mX7_give (l : Launch) (Z : XG) (hQ : wQ (List.length xL) Z) {S S' : Mem} {r : Int32} (x1 x2 x3 : Int32) (h : fX7_give S x1 x2 x3 = some (r, S')) : XM l yX7_give cX7_give 4 (some .boolean) { frames := 4, cells := 0, slots := 0, locals := 89 } xL Z [.ref (Z.2.1 0), .int x1, .int x2, .int x3] S (XQ xL Z r S') := by
  refine XM.of (own := RX7) (by decide +kernel) rfl rfl hQ (fun p e s m args below meth c E ls hl X => ?_)
  exact wX7_give E S x1 x2 x3 h _ _ _ X hl
def fX7_quarrel_100 (S : Mem) : O := bnd (fX2_forget S ) fun _ S_2 => some ((1 : Int32), S_2)
def fX7_quarrel (S : Mem) (x1 x2 x3 : Int32) : O := bnd (fX6_isPilgrim S x1) fun r_1 S_2 => (if r_1 = 0 then some ((0 : Int32), S_2) else bnd (fX6_isPilgrim S_2 x2) fun r_4 S_5 => (if r_4 = 0 then some ((0 : Int32), S_5) else (if x1 = x2 then some ((0 : Int32), S_5) else (if x3 = 0 then gd (inB x1 10) <| gd (inB x1 10) <| ltm (mset S_5 4 (x1).toNatClampNeg ((S_5 4 (x1).toNatClampNeg) &&& (((1 : Int32) <<< (x2 &&& 31)) ^^^ (-1 : Int32)))) fun S_11 => gd (inB x2 10) <| gd (inB x2 10) <| ltm (mset S_11 4 (x2).toNatClampNeg ((S_11 4 (x2).toNatClampNeg) &&& (((1 : Int32) <<< (x1 &&& 31)) ^^^ (-1 : Int32)))) fun S_14 => fX7_quarrel_100  S_14  else gd (inB x1 10) <| gd (inB x1 10) <| ltm (mset S_5 4 (x1).toNatClampNeg ((S_5 4 (x1).toNatClampNeg) ||| ((1 : Int32) <<< (x2 &&& 31)))) fun S_17 => gd (inB x2 10) <| gd (inB x2 10) <| ltm (mset S_17 4 (x2).toNatClampNeg ((S_17 4 (x2).toNatClampNeg) ||| ((1 : Int32) <<< (x1 &&& 31)))) fun S_20 => fX7_quarrel_100  S_20 ))))
theorem dX7_quarrel_0 : decode cX7_quarrel 0 = .ok (.aload_n 0, 1) := by decide +kernel
theorem dX7_quarrel_1 : decode cX7_quarrel 1 = .ok (.getfield 12, 3) := by decide +kernel
theorem dX7_quarrel_4 : decode cX7_quarrel 4 = .ok (.iload_n 1, 1) := by decide +kernel
theorem dX7_quarrel_5 : decode cX7_quarrel 5 = .ok (.invokevirtual 87, 3) := by decide +kernel
theorem dX7_quarrel_8 : decode cX7_quarrel 8 = .ok (.ifCond .eq 19, 3) := by decide +kernel
theorem dX7_quarrel_11 : decode cX7_quarrel 11 = .ok (.aload_n 0, 1) := by decide +kernel
theorem dX7_quarrel_12 : decode cX7_quarrel 12 = .ok (.getfield 12, 3) := by decide +kernel
theorem dX7_quarrel_15 : decode cX7_quarrel 15 = .ok (.iload_n 2, 1) := by decide +kernel
theorem dX7_quarrel_16 : decode cX7_quarrel 16 = .ok (.invokevirtual 87, 3) := by decide +kernel
theorem dX7_quarrel_19 : decode cX7_quarrel 19 = .ok (.ifCond .eq 8, 3) := by decide +kernel
theorem dX7_quarrel_22 : decode cX7_quarrel 22 = .ok (.iload_n 1, 1) := by decide +kernel
theorem dX7_quarrel_23 : decode cX7_quarrel 23 = .ok (.iload_n 2, 1) := by decide +kernel
theorem dX7_quarrel_24 : decode cX7_quarrel 24 = .ok (.if_icmp .ne 5, 3) := by decide +kernel
theorem dX7_quarrel_27 : decode cX7_quarrel 27 = .ok (.iconst 0, 1) := by decide +kernel
theorem dX7_quarrel_28 : decode cX7_quarrel 28 = .ok (.ireturn, 1) := by decide +kernel
theorem dX7_quarrel_29 : decode cX7_quarrel 29 = .ok (.iload_n 3, 1) := by decide +kernel
theorem dX7_quarrel_30 : decode cX7_quarrel 30 = .ok (.ifCond .eq 36, 3) := by decide +kernel
theorem dX7_quarrel_33 : decode cX7_quarrel 33 = .ok (.aload_n 0, 1) := by decide +kernel
theorem dX7_quarrel_34 : decode cX7_quarrel 34 = .ok (.getfield 12, 3) := by decide +kernel
theorem dX7_quarrel_37 : decode cX7_quarrel 37 = .ok (.getfield 94, 3) := by decide +kernel
theorem dX7_quarrel_40 : decode cX7_quarrel 40 = .ok (.iload_n 1, 1) := by decide +kernel
theorem dX7_quarrel_41 : decode cX7_quarrel 41 = .ok (.dup2, 1) := by decide +kernel
theorem dX7_quarrel_42 : decode cX7_quarrel 42 = .ok (.iaload, 1) := by decide +kernel
theorem dX7_quarrel_43 : decode cX7_quarrel 43 = .ok (.iconst 1, 1) := by decide +kernel
theorem dX7_quarrel_44 : decode cX7_quarrel 44 = .ok (.iload_n 2, 1) := by decide +kernel
theorem dX7_quarrel_45 : decode cX7_quarrel 45 = .ok (.ishl, 1) := by decide +kernel
theorem dX7_quarrel_46 : decode cX7_quarrel 46 = .ok (.ior, 1) := by decide +kernel
theorem dX7_quarrel_47 : decode cX7_quarrel 47 = .ok (.iastore, 1) := by decide +kernel
theorem dX7_quarrel_48 : decode cX7_quarrel 48 = .ok (.aload_n 0, 1) := by decide +kernel
theorem dX7_quarrel_49 : decode cX7_quarrel 49 = .ok (.getfield 12, 3) := by decide +kernel
theorem dX7_quarrel_52 : decode cX7_quarrel 52 = .ok (.getfield 94, 3) := by decide +kernel
theorem dX7_quarrel_55 : decode cX7_quarrel 55 = .ok (.iload_n 2, 1) := by decide +kernel
theorem dX7_quarrel_56 : decode cX7_quarrel 56 = .ok (.dup2, 1) := by decide +kernel
theorem dX7_quarrel_57 : decode cX7_quarrel 57 = .ok (.iaload, 1) := by decide +kernel
theorem dX7_quarrel_58 : decode cX7_quarrel 58 = .ok (.iconst 1, 1) := by decide +kernel
theorem dX7_quarrel_59 : decode cX7_quarrel 59 = .ok (.iload_n 1, 1) := by decide +kernel
theorem dX7_quarrel_60 : decode cX7_quarrel 60 = .ok (.ishl, 1) := by decide +kernel
theorem dX7_quarrel_61 : decode cX7_quarrel 61 = .ok (.ior, 1) := by decide +kernel
theorem dX7_quarrel_62 : decode cX7_quarrel 62 = .ok (.iastore, 1) := by decide +kernel
theorem dX7_quarrel_63 : decode cX7_quarrel 63 = .ok (.goto 37, 3) := by decide +kernel
theorem dX7_quarrel_66 : decode cX7_quarrel 66 = .ok (.aload_n 0, 1) := by decide +kernel
theorem dX7_quarrel_67 : decode cX7_quarrel 67 = .ok (.getfield 12, 3) := by decide +kernel
theorem dX7_quarrel_70 : decode cX7_quarrel 70 = .ok (.getfield 94, 3) := by decide +kernel
theorem dX7_quarrel_73 : decode cX7_quarrel 73 = .ok (.iload_n 1, 1) := by decide +kernel
theorem dX7_quarrel_74 : decode cX7_quarrel 74 = .ok (.dup2, 1) := by decide +kernel
theorem dX7_quarrel_75 : decode cX7_quarrel 75 = .ok (.iaload, 1) := by decide +kernel
theorem dX7_quarrel_76 : decode cX7_quarrel 76 = .ok (.iconst 1, 1) := by decide +kernel
theorem dX7_quarrel_77 : decode cX7_quarrel 77 = .ok (.iload_n 2, 1) := by decide +kernel
theorem dX7_quarrel_78 : decode cX7_quarrel 78 = .ok (.ishl, 1) := by decide +kernel
theorem dX7_quarrel_79 : decode cX7_quarrel 79 = .ok (.iconst (-1), 1) := by decide +kernel
theorem dX7_quarrel_80 : decode cX7_quarrel 80 = .ok (.ixor, 1) := by decide +kernel
theorem dX7_quarrel_81 : decode cX7_quarrel 81 = .ok (.iand, 1) := by decide +kernel
theorem dX7_quarrel_82 : decode cX7_quarrel 82 = .ok (.iastore, 1) := by decide +kernel
theorem dX7_quarrel_83 : decode cX7_quarrel 83 = .ok (.aload_n 0, 1) := by decide +kernel
theorem dX7_quarrel_84 : decode cX7_quarrel 84 = .ok (.getfield 12, 3) := by decide +kernel
theorem dX7_quarrel_87 : decode cX7_quarrel 87 = .ok (.getfield 94, 3) := by decide +kernel
theorem dX7_quarrel_90 : decode cX7_quarrel 90 = .ok (.iload_n 2, 1) := by decide +kernel
theorem dX7_quarrel_91 : decode cX7_quarrel 91 = .ok (.dup2, 1) := by decide +kernel
theorem dX7_quarrel_92 : decode cX7_quarrel 92 = .ok (.iaload, 1) := by decide +kernel
theorem dX7_quarrel_93 : decode cX7_quarrel 93 = .ok (.iconst 1, 1) := by decide +kernel
theorem dX7_quarrel_94 : decode cX7_quarrel 94 = .ok (.iload_n 1, 1) := by decide +kernel
theorem dX7_quarrel_95 : decode cX7_quarrel 95 = .ok (.ishl, 1) := by decide +kernel
theorem dX7_quarrel_96 : decode cX7_quarrel 96 = .ok (.iconst (-1), 1) := by decide +kernel
theorem dX7_quarrel_97 : decode cX7_quarrel 97 = .ok (.ixor, 1) := by decide +kernel
theorem dX7_quarrel_98 : decode cX7_quarrel 98 = .ok (.iand, 1) := by decide +kernel
theorem dX7_quarrel_99 : decode cX7_quarrel 99 = .ok (.iastore, 1) := by decide +kernel
theorem dX7_quarrel_100 : decode cX7_quarrel 100 = .ok (.aload_n 0, 1) := by decide +kernel
theorem dX7_quarrel_101 : decode cX7_quarrel 101 = .ok (.getfield 22, 3) := by decide +kernel
theorem dX7_quarrel_104 : decode cX7_quarrel 104 = .ok (.invokevirtual 64, 3) := by decide +kernel
theorem dX7_quarrel_107 : decode cX7_quarrel 107 = .ok (.iconst 1, 1) := by decide +kernel
theorem dX7_quarrel_108 : decode cX7_quarrel 108 = .ok (.ireturn, 1) := by decide +kernel
set_option maxRecDepth 20000 in
theorem wX7_quarrel_100 {p : Program} {l : Launch} {e : Env} {s : State} {m : MethodId} {args : Array Value} {below : List Frame} {meth : Method} {c : Code} {Z : XG} {r : Int32} {S' : Mem} (E : XE p s m args meth c cX7_quarrel 4 RX7 (some .boolean) xL Z) : ∀ (S : Mem), fX7_quarrel_100  S  = some (r, S') → WN p l e { frames := 1, cells := 0, slots := 0, locals := 21 } s m args below meth c xL Z (XQ xL Z r S') S 100 4 [(0, .ref (Z.2.1 0))] [] := by
  obtain ⟨hx, hb, -, -, -, -, -, -, -, hQ⟩ := id E
  intro S  h H locs ls X hl
  unfold fX7_quarrel_100 at h
  refine lv_aload_n hx hb dX7_quarrel_100 rfl (lv_at hl 0 rfl) ?_
  refine x_getr E X ffX7_22 rfl rfl dX7_quarrel_101 ?_
  obtain ⟨r_1, S_2, hr_1, h⟩ := bnd_s h
  refine x_callVv E X cwX7_64 (mX2_forget l Z hQ   hr_1) rfl rfl rfl rfl hl.1 rfl dX7_quarrel_104 (fun H locs X => ?_)
  refine lv_iconst (v := (1 : Int32)) hx hb dX7_quarrel_107 (by decide) ?_
  exact x_zret E X rfl h dX7_quarrel_108
set_option maxRecDepth 20000 in
theorem wX7_quarrel {p : Program} {l : Launch} {e : Env} {s : State} {m : MethodId} {args : Array Value} {below : List Frame} {meth : Method} {c : Code} {Z : XG} {r : Int32} {S' : Mem} (E : XE p s m args meth c cX7_quarrel 4 RX7 (some .boolean) xL Z) : ∀ (S : Mem) (x1 x2 x3 : Int32), fX7_quarrel  S x1 x2 x3 = some (r, S') → WN p l e { frames := 1, cells := 0, slots := 0, locals := 21 } s m args below meth c xL Z (XQ xL Z r S') S 0 4 [(0, .ref (Z.2.1 0)), (1, .int x1), (2, .int x2), (3, .int x3)] [] := by
  obtain ⟨hx, hb, -, -, -, -, -, -, -, hQ⟩ := id E
  intro S x1 x2 x3 h H locs ls X hl
  unfold fX7_quarrel at h
  refine lv_aload_n hx hb dX7_quarrel_0 rfl (lv_at hl 0 rfl) ?_
  refine x_getr E X ffX7_12 rfl rfl dX7_quarrel_1 ?_
  refine lv_iload_n hx hb dX7_quarrel_4 rfl (lv_at hl 1 rfl) ?_
  obtain ⟨r_1, S_2, hr_1, h⟩ := bnd_s h
  refine x_callV E X cwX7_87 (mX6_isPilgrim l Z hQ  x1 hr_1) rfl rfl rfl rfl hl.1 rfl dX7_quarrel_5 (fun H locs X => ?_)
  refine lv_if_eq (tgt := 27) hx hb dX7_quarrel_8 (by decide) (fun c_3 => ?_) (fun c_3 => ?_)
  · have h := if_t c_3 h
    refine lv_iconst (v := (0 : Int32)) hx hb dX7_quarrel_27 (by decide) ?_
    exact x_zret E X rfl h dX7_quarrel_28
  · have h := if_f c_3 h
    refine lv_aload_n hx hb dX7_quarrel_11 rfl (lv_at hl 0 rfl) ?_
    refine x_getr E X ffX7_12 rfl rfl dX7_quarrel_12 ?_
    refine lv_iload_n hx hb dX7_quarrel_15 rfl (lv_at hl 2 rfl) ?_
    obtain ⟨r_4, S_5, hr_4, h⟩ := bnd_s h
    refine x_callV E X cwX7_87 (mX6_isPilgrim l Z hQ  x2 hr_4) rfl rfl rfl rfl hl.1 rfl dX7_quarrel_16 (fun H locs X => ?_)
    refine lv_if_eq (tgt := 27) hx hb dX7_quarrel_19 (by decide) (fun c_6 => ?_) (fun c_6 => ?_)
    · have h := if_t c_6 h
      refine lv_iconst (v := (0 : Int32)) hx hb dX7_quarrel_27 (by decide) ?_
      exact x_zret E X rfl h dX7_quarrel_28
    · have h := if_f c_6 h
      refine lv_iload_n hx hb dX7_quarrel_22 rfl (lv_at hl 1 rfl) ?_
      refine lv_iload_n hx hb dX7_quarrel_23 rfl (lv_at hl 2 rfl) ?_
      refine lv_icmp_ne (tgt := 29) hx hb dX7_quarrel_24 (by decide) (fun c_7 => ?_) (fun c_7 => ?_)
      · have h := if_f c_7 h
        refine lv_iload_n hx hb dX7_quarrel_29 rfl (lv_at hl 3 rfl) ?_
        refine lv_if_eq (tgt := 66) hx hb dX7_quarrel_30 (by decide) (fun c_8 => ?_) (fun c_8 => ?_)
        · have h := if_t c_8 h
          refine lv_aload_n hx hb dX7_quarrel_66 rfl (lv_at hl 0 rfl) ?_
          refine x_getr E X ffX7_12 rfl rfl dX7_quarrel_67 ?_
          refine x_getr E X ffX7_94 rfl rfl dX7_quarrel_70 ?_
          refine lv_iload_n hx hb dX7_quarrel_73 rfl (lv_at hl 1 rfl) ?_
          refine lv_dup2_11 hx hb dX7_quarrel_74 rfl rfl ?_
          obtain ⟨g_9, h⟩ := gd_s h
          refine x_iald E X rfl g_9 dX7_quarrel_75 ?_
          refine lv_iconst (v := (1 : Int32)) hx hb dX7_quarrel_76 (by decide) ?_
          refine lv_iload_n hx hb dX7_quarrel_77 rfl (lv_at hl 2 rfl) ?_
          refine lv_ishl hx hb dX7_quarrel_78 ?_
          refine lv_iconst (v := (-1 : Int32)) hx hb dX7_quarrel_79 (by decide) ?_
          refine lv_ixor hx hb dX7_quarrel_80 ?_
          refine lv_iand hx hb dX7_quarrel_81 ?_
          obtain ⟨g_10, h⟩ := gd_s h
          obtain ⟨S_11, eS_11, h⟩ := ltm_s h
          refine x_iast E X rfl g_10 dX7_quarrel_82 (fun H locs X => ?_)
          rw [← eS_11] at X
          refine lv_aload_n hx hb dX7_quarrel_83 rfl (lv_at hl 0 rfl) ?_
          refine x_getr E X ffX7_12 rfl rfl dX7_quarrel_84 ?_
          refine x_getr E X ffX7_94 rfl rfl dX7_quarrel_87 ?_
          refine lv_iload_n hx hb dX7_quarrel_90 rfl (lv_at hl 2 rfl) ?_
          refine lv_dup2_11 hx hb dX7_quarrel_91 rfl rfl ?_
          obtain ⟨g_12, h⟩ := gd_s h
          refine x_iald E X rfl g_12 dX7_quarrel_92 ?_
          refine lv_iconst (v := (1 : Int32)) hx hb dX7_quarrel_93 (by decide) ?_
          refine lv_iload_n hx hb dX7_quarrel_94 rfl (lv_at hl 1 rfl) ?_
          refine lv_ishl hx hb dX7_quarrel_95 ?_
          refine lv_iconst (v := (-1 : Int32)) hx hb dX7_quarrel_96 (by decide) ?_
          refine lv_ixor hx hb dX7_quarrel_97 ?_
          refine lv_iand hx hb dX7_quarrel_98 ?_
          obtain ⟨g_13, h⟩ := gd_s h
          obtain ⟨S_14, eS_14, h⟩ := ltm_s h
          refine x_iast E X rfl g_13 dX7_quarrel_99 (fun H locs X => ?_)
          rw [← eS_14] at X
          exact wX7_quarrel_100 E   S_14  h _ _ _ X (lv_sub hl [0] rfl)
        · have h := if_f c_8 h
          refine lv_aload_n hx hb dX7_quarrel_33 rfl (lv_at hl 0 rfl) ?_
          refine x_getr E X ffX7_12 rfl rfl dX7_quarrel_34 ?_
          refine x_getr E X ffX7_94 rfl rfl dX7_quarrel_37 ?_
          refine lv_iload_n hx hb dX7_quarrel_40 rfl (lv_at hl 1 rfl) ?_
          refine lv_dup2_11 hx hb dX7_quarrel_41 rfl rfl ?_
          obtain ⟨g_15, h⟩ := gd_s h
          refine x_iald E X rfl g_15 dX7_quarrel_42 ?_
          refine lv_iconst (v := (1 : Int32)) hx hb dX7_quarrel_43 (by decide) ?_
          refine lv_iload_n hx hb dX7_quarrel_44 rfl (lv_at hl 2 rfl) ?_
          refine lv_ishl hx hb dX7_quarrel_45 ?_
          refine lv_ior hx hb dX7_quarrel_46 ?_
          obtain ⟨g_16, h⟩ := gd_s h
          obtain ⟨S_17, eS_17, h⟩ := ltm_s h
          refine x_iast E X rfl g_16 dX7_quarrel_47 (fun H locs X => ?_)
          rw [← eS_17] at X
          refine lv_aload_n hx hb dX7_quarrel_48 rfl (lv_at hl 0 rfl) ?_
          refine x_getr E X ffX7_12 rfl rfl dX7_quarrel_49 ?_
          refine x_getr E X ffX7_94 rfl rfl dX7_quarrel_52 ?_
          refine lv_iload_n hx hb dX7_quarrel_55 rfl (lv_at hl 2 rfl) ?_
          refine lv_dup2_11 hx hb dX7_quarrel_56 rfl rfl ?_
          obtain ⟨g_18, h⟩ := gd_s h
          refine x_iald E X rfl g_18 dX7_quarrel_57 ?_
          refine lv_iconst (v := (1 : Int32)) hx hb dX7_quarrel_58 (by decide) ?_
          refine lv_iload_n hx hb dX7_quarrel_59 rfl (lv_at hl 1 rfl) ?_
          refine lv_ishl hx hb dX7_quarrel_60 ?_
          refine lv_ior hx hb dX7_quarrel_61 ?_
          obtain ⟨g_19, h⟩ := gd_s h
          obtain ⟨S_20, eS_20, h⟩ := ltm_s h
          refine x_iast E X rfl g_19 dX7_quarrel_62 (fun H locs X => ?_)
          rw [← eS_20] at X
          refine lv_goto (tgt := 100) hx hb dX7_quarrel_63 (by decide) ?_
          exact wX7_quarrel_100 E   S_20  h _ _ _ X (lv_sub hl [0] rfl)
      · have h := if_t c_7 h
        refine lv_iconst (v := (0 : Int32)) hx hb dX7_quarrel_27 (by decide) ?_
        exact x_zret E X rfl h dX7_quarrel_28
/-- SevenToAShadow.quarrel(IIZ)Z -/
theorem mX7_quarrel (l : Launch) (Z : XG) (hQ : wQ (List.length xL) Z) {S S' : Mem} {r : Int32} (x1 x2 x3 : Int32) (h : fX7_quarrel S x1 x2 x3 = some (r, S')) : XM l yX7_quarrel cX7_quarrel 4 (some .boolean) { frames := 1, cells := 0, slots := 0, locals := 21 } xL Z [.ref (Z.2.1 0), .int x1, .int x2, .int x3] S (XQ xL Z r S') := by
  refine XM.of (own := RX7) (by decide +kernel) rfl rfl hQ (fun p e s m args below meth c E ls hl X => ?_)
  exact wX7_quarrel E S x1 x2 x3 h _ _ _ X hl
def fX3_addBytes_40 (k0 : Mem → Int32 → Int32 → O) (S : Mem) (x1 x2 : Int32) : O := k0 S x1 (x2 + (-8 : Int32))
def fX3_addBytes_3_b (k0 : Mem → Int32 → Int32 → O) (S : Mem) (x1 x2 : Int32) : O := (if x2 < 0 then some ((0 : Int32), S) else (if (400 : Int32) ≤ (S 38 1) then fX3_addBytes_40 k0 S x1 x2 else gd (inB (S 38 1) 400) <| ltm (mset S 39 ((S 38 1)).toNatClampNeg (vp_nar .byte (((x1 >>> (x2 &&& 31))).toInt8.toInt32))) fun S_4 => ltm (mset S_4 38 1 ((S_4 38 1) + (1 : Int32))) fun S_5 => fX3_addBytes_40 k0 S_5 x1 x2))
def fX3_addBytes_3 : Nat → Mem → Int32 → Int32 → O
  | 0 => fun _ _ _ => none
  | n + 1 => fX3_addBytes_3_b (fX3_addBytes_3 n)
def fX3_addBytes (S : Mem) (x1 : Int32) : O := fX3_addBytes_3  FU S x1 (24 : Int32)
theorem dX3_addBytes_0 : decode cX3_addBytes 0 = .ok (.bipush 24, 2) := by decide +kernel
theorem dX3_addBytes_2 : decode cX3_addBytes 2 = .ok (.istore_n 2, 1) := by decide +kernel
theorem dX3_addBytes_3 : decode cX3_addBytes 3 = .ok (.iload_n 2, 1) := by decide +kernel
theorem dX3_addBytes_4 : decode cX3_addBytes 4 = .ok (.ifCond .lt 42, 3) := by decide +kernel
theorem dX3_addBytes_7 : decode cX3_addBytes 7 = .ok (.aload_n 0, 1) := by decide +kernel
theorem dX3_addBytes_8 : decode cX3_addBytes 8 = .ok (.getfield 30, 3) := by decide +kernel
theorem dX3_addBytes_11 : decode cX3_addBytes 11 = .ok (.sipush 400, 3) := by decide +kernel
theorem dX3_addBytes_14 : decode cX3_addBytes 14 = .ok (.if_icmp .ge 26, 3) := by decide +kernel
theorem dX3_addBytes_17 : decode cX3_addBytes 17 = .ok (.aload_n 0, 1) := by decide +kernel
theorem dX3_addBytes_18 : decode cX3_addBytes 18 = .ok (.getfield 9, 3) := by decide +kernel
theorem dX3_addBytes_21 : decode cX3_addBytes 21 = .ok (.aload_n 0, 1) := by decide +kernel
theorem dX3_addBytes_22 : decode cX3_addBytes 22 = .ok (.getfield 30, 3) := by decide +kernel
theorem dX3_addBytes_25 : decode cX3_addBytes 25 = .ok (.iload_n 1, 1) := by decide +kernel
theorem dX3_addBytes_26 : decode cX3_addBytes 26 = .ok (.iload_n 2, 1) := by decide +kernel
theorem dX3_addBytes_27 : decode cX3_addBytes 27 = .ok (.ishr, 1) := by decide +kernel
theorem dX3_addBytes_28 : decode cX3_addBytes 28 = .ok (.i2b, 1) := by decide +kernel
theorem dX3_addBytes_29 : decode cX3_addBytes 29 = .ok (.bastore, 1) := by decide +kernel
theorem dX3_addBytes_30 : decode cX3_addBytes 30 = .ok (.aload_n 0, 1) := by decide +kernel
theorem dX3_addBytes_31 : decode cX3_addBytes 31 = .ok (.dup, 1) := by decide +kernel
theorem dX3_addBytes_32 : decode cX3_addBytes 32 = .ok (.getfield 30, 3) := by decide +kernel
theorem dX3_addBytes_35 : decode cX3_addBytes 35 = .ok (.iconst 1, 1) := by decide +kernel
theorem dX3_addBytes_36 : decode cX3_addBytes 36 = .ok (.iadd, 1) := by decide +kernel
theorem dX3_addBytes_37 : decode cX3_addBytes 37 = .ok (.putfield 30, 3) := by decide +kernel
theorem dX3_addBytes_40 : decode cX3_addBytes 40 = .ok (.iinc 2 (-8), 3) := by decide +kernel
theorem dX3_addBytes_43 : decode cX3_addBytes 43 = .ok (.goto (-40), 3) := by decide +kernel
theorem dX3_addBytes_46 : decode cX3_addBytes 46 = .ok (.return_, 1) := by decide +kernel
set_option maxRecDepth 20000 in
theorem wX3_addBytes_40 {p : Program} {l : Launch} {e : Env} {s : State} {m : MethodId} {args : Array Value} {below : List Frame} {meth : Method} {c : Code} {Z : XG} {r : Int32} {S' : Mem} (E : XE p s m args meth c cX3_addBytes 3 RX3 none xL Z) (k0 : Mem → Int32 → Int32 → O)  (hk0 : ∀ (S : Mem) (x1 x2 : Int32), k0 S x1 x2 = some (r, S') → WN p l e { frames := 0, cells := 0, slots := 0, locals := 0 } s m args below meth c xL Z (XV xL Z S') S 3 3 [(0, .ref (Z.2.1 38)), (1, .int x1), (2, .int x2)] []) : ∀ (S : Mem) (x1 x2 : Int32), fX3_addBytes_40 k0 S x1 x2 = some (r, S') → WN p l e { frames := 0, cells := 0, slots := 0, locals := 0 } s m args below meth c xL Z (XV xL Z S') S 40 3 [(0, .ref (Z.2.1 38)), (1, .int x1), (2, .int x2)] [] := by
  obtain ⟨hx, hb, -, -, -, -, -, -, -, hQ⟩ := id E
  intro S x1 x2 h H locs ls X hl
  unfold fX3_addBytes_40 at h
  refine lv_iinc (v := (x2 + (-8 : Int32))) (lv' := [(2, .int (x2 + (-8 : Int32))), (0, .ref (Z.2.1 38)), (1, .int x1)]) hx hb dX3_addBytes_40 hl (k := 2) rfl rfl (by decide) rfl (fun ls hl => ?_)
  refine lv_goto (tgt := 3) hx hb dX3_addBytes_43 (by decide) ?_
  exact hk0 S x1 (x2 + (-8 : Int32)) h _ _ _ X (lv_sub hl [1, 2, 0] rfl)
set_option maxRecDepth 20000 in
theorem wX3_addBytes_3_b {p : Program} {l : Launch} {e : Env} {s : State} {m : MethodId} {args : Array Value} {below : List Frame} {meth : Method} {c : Code} {Z : XG} {r : Int32} {S' : Mem} (E : XE p s m args meth c cX3_addBytes 3 RX3 none xL Z) (k0 : Mem → Int32 → Int32 → O)  (hk0 : ∀ (S : Mem) (x1 x2 : Int32), k0 S x1 x2 = some (r, S') → WN p l e { frames := 0, cells := 0, slots := 0, locals := 0 } s m args below meth c xL Z (XV xL Z S') S 3 3 [(0, .ref (Z.2.1 38)), (1, .int x1), (2, .int x2)] []) : ∀ (S : Mem) (x1 x2 : Int32), fX3_addBytes_3_b k0 S x1 x2 = some (r, S') → WN p l e { frames := 0, cells := 0, slots := 0, locals := 0 } s m args below meth c xL Z (XV xL Z S') S 3 3 [(0, .ref (Z.2.1 38)), (1, .int x1), (2, .int x2)] [] := by
  obtain ⟨hx, hb, -, -, -, -, -, -, -, hQ⟩ := id E
  intro S x1 x2 h H locs ls X hl
  unfold fX3_addBytes_3_b at h
  refine lv_iload_n hx hb dX3_addBytes_3 rfl (lv_at hl 2 rfl) ?_
  refine lv_if_lt (tgt := 46) hx hb dX3_addBytes_4 (by decide) (fun c_1 => ?_) (fun c_1 => ?_)
  · have h := if_t c_1 h
    exact x_vret E X h dX3_addBytes_46
  · have h := if_f c_1 h
    refine lv_aload_n hx hb dX3_addBytes_7 rfl (lv_at hl 0 rfl) ?_
    refine x_get E X ffX3_30 rfl rfl dX3_addBytes_8 ?_
    refine lv_sipush (v := (400 : Int32)) hx hb dX3_addBytes_11 (by decide) ?_
    refine lv_icmp_ge (tgt := 40) hx hb dX3_addBytes_14 (by decide) (fun c_2 => ?_) (fun c_2 => ?_)
    · have h := if_t c_2 h
      exact wX3_addBytes_40 E k0 hk0 S x1 x2 h _ _ _ X hl
    · have h := if_f c_2 h
      refine lv_aload_n hx hb dX3_addBytes_17 rfl (lv_at hl 0 rfl) ?_
      refine x_getr E X ffX3_9 rfl rfl dX3_addBytes_18 ?_
      refine lv_aload_n hx hb dX3_addBytes_21 rfl (lv_at hl 0 rfl) ?_
      refine x_get E X ffX3_30 rfl rfl dX3_addBytes_22 ?_
      refine lv_iload_n hx hb dX3_addBytes_25 rfl (lv_at hl 1 rfl) ?_
      refine lv_iload_n hx hb dX3_addBytes_26 rfl (lv_at hl 2 rfl) ?_
      refine lv_ishr hx hb dX3_addBytes_27 ?_
      refine lv_i2b (v := (((x1 >>> (x2 &&& 31))).toInt8.toInt32)) hx hb dX3_addBytes_28 rfl ?_
      obtain ⟨g_3, h⟩ := gd_s h
      obtain ⟨S_4, eS_4, h⟩ := ltm_s h
      refine x_bast E X rfl g_3 dX3_addBytes_29 (fun H locs X => ?_)
      rw [← eS_4] at X
      refine lv_aload_n hx hb dX3_addBytes_30 rfl (lv_at hl 0 rfl) ?_
      refine lv_dup hx hb dX3_addBytes_31 rfl ?_
      refine x_get E X ffX3_30 rfl rfl dX3_addBytes_32 ?_
      refine lv_iconst (v := (1 : Int32)) hx hb dX3_addBytes_35 (by decide) ?_
      refine lv_iadd hx hb dX3_addBytes_36 ?_
      obtain ⟨S_5, eS_5, h⟩ := ltm_s h
      refine x_put E X fpX3_30 rfl rfl dX3_addBytes_37 (fun H locs X => ?_)
      rw [← eS_5] at X
      exact wX3_addBytes_40 E k0 hk0 S_5 x1 x2 h _ _ _ X hl
theorem wX3_addBytes_3 {p : Program} {l : Launch} {e : Env} {s : State} {m : MethodId} {args : Array Value} {below : List Frame} {meth : Method} {c : Code} {Z : XG} {r : Int32} {S' : Mem} (E : XE p s m args meth c cX3_addBytes 3 RX3 none xL Z) : ∀ (n : Nat) (S : Mem) (x1 x2 : Int32), fX3_addBytes_3 n S x1 x2 = some (r, S') → WN p l e { frames := 0, cells := 0, slots := 0, locals := 0 } s m args below meth c xL Z (XV xL Z S') S 3 3 [(0, .ref (Z.2.1 38)), (1, .int x1), (2, .int x2)] [] := by
  intro n
  induction n with
  | zero => intro S x1 x2 h; exact absurd (show (none : O) = some _ from h) (by simp)
  | succ n ih => intro S x1 x2 h; exact wX3_addBytes_3_b E (fX3_addBytes_3 n) ih S x1 x2 h
set_option maxRecDepth 20000 in
theorem wX3_addBytes {p : Program} {l : Launch} {e : Env} {s : State} {m : MethodId} {args : Array Value} {below : List Frame} {meth : Method} {c : Code} {Z : XG} {r : Int32} {S' : Mem} (E : XE p s m args meth c cX3_addBytes 3 RX3 none xL Z) : ∀ (S : Mem) (x1 : Int32), fX3_addBytes  S x1 = some (r, S') → WN p l e { frames := 0, cells := 0, slots := 0, locals := 0 } s m args below meth c xL Z (XV xL Z S') S 0 3 [(0, .ref (Z.2.1 38)), (1, .int x1)] [] := by
  obtain ⟨hx, hb, -, -, -, -, -, -, -, hQ⟩ := id E
  intro S x1 h H locs ls X hl
  unfold fX3_addBytes at h
  refine lv_bipush (v := (24 : Int32)) hx hb dX3_addBytes_0 (by decide) ?_
  refine lv_istore_n (lv' := [(2, .int (24 : Int32)), (0, .ref (Z.2.1 38)), (1, .int x1)]) hx hb dX3_addBytes_2 rfl hl (by decide) rfl (fun ls hl => ?_)
  exact wX3_addBytes_3 E   FU S x1 (24 : Int32) h _ _ _ X (lv_sub hl [1, 2, 0] rfl)
/-- SevenToAShadow$Reader.addBytes(I)V -/
theorem mX3_addBytes (l : Launch) (Z : XG) (hQ : wQ (List.length xL) Z) {S S' : Mem} {r : Int32} (x1 : Int32) (h : fX3_addBytes S x1 = some (r, S')) : XM l yX3_addBytes cX3_addBytes 3 none { frames := 0, cells := 0, slots := 0, locals := 0 } xL Z [.ref (Z.2.1 38), .int x1] S (XV xL Z S') := by
  refine XM.of (own := RX3) (by decide +kernel) rfl rfl hQ (fun p e s m args below meth c E ls hl X => ?_)
  exact wX3_addBytes E S x1 h _ _ _ X hl
def fX7_feed (S : Mem) (x1 x2 x3 x4 x5 : Int32) : O := (if ((S 38 1) + (20 : Int32)) ≤ (400 : Int32) then bnd (fX3_addBytes S x1) fun _ S_3 => bnd (fX3_addBytes S_3 x2) fun _ S_5 => bnd (fX3_addBytes S_5 x3) fun _ S_7 => bnd (fX3_addBytes S_7 x4) fun _ S_9 => bnd (fX3_addBytes S_9 x5) fun _ S_11 => some ((S_11 38 1), S_11) else some ((-1 : Int32), S))
theorem dX7_feed_0 : decode cX7_feed 0 = .ok (.aload_n 0, 1) := by decide +kernel
theorem dX7_feed_1 : decode cX7_feed 1 = .ok (.getfield 45, 3) := by decide +kernel
theorem dX7_feed_4 : decode cX7_feed 4 = .ok (.getfield 97, 3) := by decide +kernel
theorem dX7_feed_7 : decode cX7_feed 7 = .ok (.bipush 20, 2) := by decide +kernel
theorem dX7_feed_9 : decode cX7_feed 9 = .ok (.iadd, 1) := by decide +kernel
theorem dX7_feed_10 : decode cX7_feed 10 = .ok (.sipush 400, 3) := by decide +kernel
theorem dX7_feed_13 : decode cX7_feed 13 = .ok (.if_icmp .le 5, 3) := by decide +kernel
theorem dX7_feed_16 : decode cX7_feed 16 = .ok (.iconst (-1), 1) := by decide +kernel
theorem dX7_feed_17 : decode cX7_feed 17 = .ok (.ireturn, 1) := by decide +kernel
theorem dX7_feed_18 : decode cX7_feed 18 = .ok (.aload_n 0, 1) := by decide +kernel
theorem dX7_feed_19 : decode cX7_feed 19 = .ok (.getfield 45, 3) := by decide +kernel
theorem dX7_feed_22 : decode cX7_feed 22 = .ok (.iload_n 1, 1) := by decide +kernel
theorem dX7_feed_23 : decode cX7_feed 23 = .ok (.invokevirtual 100, 3) := by decide +kernel
theorem dX7_feed_26 : decode cX7_feed 26 = .ok (.aload_n 0, 1) := by decide +kernel
theorem dX7_feed_27 : decode cX7_feed 27 = .ok (.getfield 45, 3) := by decide +kernel
theorem dX7_feed_30 : decode cX7_feed 30 = .ok (.iload_n 2, 1) := by decide +kernel
theorem dX7_feed_31 : decode cX7_feed 31 = .ok (.invokevirtual 100, 3) := by decide +kernel
theorem dX7_feed_34 : decode cX7_feed 34 = .ok (.aload_n 0, 1) := by decide +kernel
theorem dX7_feed_35 : decode cX7_feed 35 = .ok (.getfield 45, 3) := by decide +kernel
theorem dX7_feed_38 : decode cX7_feed 38 = .ok (.iload_n 3, 1) := by decide +kernel
theorem dX7_feed_39 : decode cX7_feed 39 = .ok (.invokevirtual 100, 3) := by decide +kernel
theorem dX7_feed_42 : decode cX7_feed 42 = .ok (.aload_n 0, 1) := by decide +kernel
theorem dX7_feed_43 : decode cX7_feed 43 = .ok (.getfield 45, 3) := by decide +kernel
theorem dX7_feed_46 : decode cX7_feed 46 = .ok (.iload 4, 2) := by decide +kernel
theorem dX7_feed_48 : decode cX7_feed 48 = .ok (.invokevirtual 100, 3) := by decide +kernel
theorem dX7_feed_51 : decode cX7_feed 51 = .ok (.aload_n 0, 1) := by decide +kernel
theorem dX7_feed_52 : decode cX7_feed 52 = .ok (.getfield 45, 3) := by decide +kernel
theorem dX7_feed_55 : decode cX7_feed 55 = .ok (.iload 5, 2) := by decide +kernel
theorem dX7_feed_57 : decode cX7_feed 57 = .ok (.invokevirtual 100, 3) := by decide +kernel
theorem dX7_feed_60 : decode cX7_feed 60 = .ok (.aload_n 0, 1) := by decide +kernel
theorem dX7_feed_61 : decode cX7_feed 61 = .ok (.getfield 45, 3) := by decide +kernel
theorem dX7_feed_64 : decode cX7_feed 64 = .ok (.getfield 97, 3) := by decide +kernel
theorem dX7_feed_67 : decode cX7_feed 67 = .ok (.ireturn, 1) := by decide +kernel
set_option maxRecDepth 20000 in
theorem wX7_feed {p : Program} {l : Launch} {e : Env} {s : State} {m : MethodId} {args : Array Value} {below : List Frame} {meth : Method} {c : Code} {Z : XG} {r : Int32} {S' : Mem} (E : XE p s m args meth c cX7_feed 6 RX7 (some .int) xL Z) : ∀ (S : Mem) (x1 x2 x3 x4 x5 : Int32), fX7_feed  S x1 x2 x3 x4 x5 = some (r, S') → WN p l e { frames := 1, cells := 0, slots := 0, locals := 22 } s m args below meth c xL Z (XQ xL Z r S') S 0 6 [(0, .ref (Z.2.1 0)), (1, .int x1), (2, .int x2), (3, .int x3), (4, .int x4), (5, .int x5)] [] := by
  obtain ⟨hx, hb, -, -, -, -, -, -, -, hQ⟩ := id E
  intro S x1 x2 x3 x4 x5 h H locs ls X hl
  unfold fX7_feed at h
  refine lv_aload_n hx hb dX7_feed_0 rfl (lv_at hl 0 rfl) ?_
  refine x_getr E X ffX7_45 rfl rfl dX7_feed_1 ?_
  refine x_get E X ffX7_97 rfl rfl dX7_feed_4 ?_
  refine lv_bipush (v := (20 : Int32)) hx hb dX7_feed_7 (by decide) ?_
  refine lv_iadd hx hb dX7_feed_9 ?_
  refine lv_sipush (v := (400 : Int32)) hx hb dX7_feed_10 (by decide) ?_
  refine lv_icmp_le (tgt := 18) hx hb dX7_feed_13 (by decide) (fun c_1 => ?_) (fun c_1 => ?_)
  · have h := if_t c_1 h
    refine lv_aload_n hx hb dX7_feed_18 rfl (lv_at hl 0 rfl) ?_
    refine x_getr E X ffX7_45 rfl rfl dX7_feed_19 ?_
    refine lv_iload_n hx hb dX7_feed_22 rfl (lv_at hl 1 rfl) ?_
    obtain ⟨r_2, S_3, hr_2, h⟩ := bnd_s h
    refine x_callVv E X cwX7_100 (mX3_addBytes l Z hQ  x1 hr_2) rfl rfl rfl rfl hl.1 rfl dX7_feed_23 (fun H locs X => ?_)
    refine lv_aload_n hx hb dX7_feed_26 rfl (lv_at hl 0 rfl) ?_
    refine x_getr E X ffX7_45 rfl rfl dX7_feed_27 ?_
    refine lv_iload_n hx hb dX7_feed_30 rfl (lv_at hl 2 rfl) ?_
    obtain ⟨r_4, S_5, hr_4, h⟩ := bnd_s h
    refine x_callVv E X cwX7_100 (mX3_addBytes l Z hQ  x2 hr_4) rfl rfl rfl rfl hl.1 rfl dX7_feed_31 (fun H locs X => ?_)
    refine lv_aload_n hx hb dX7_feed_34 rfl (lv_at hl 0 rfl) ?_
    refine x_getr E X ffX7_45 rfl rfl dX7_feed_35 ?_
    refine lv_iload_n hx hb dX7_feed_38 rfl (lv_at hl 3 rfl) ?_
    obtain ⟨r_6, S_7, hr_6, h⟩ := bnd_s h
    refine x_callVv E X cwX7_100 (mX3_addBytes l Z hQ  x3 hr_6) rfl rfl rfl rfl hl.1 rfl dX7_feed_39 (fun H locs X => ?_)
    refine lv_aload_n hx hb dX7_feed_42 rfl (lv_at hl 0 rfl) ?_
    refine x_getr E X ffX7_45 rfl rfl dX7_feed_43 ?_
    refine lv_iload hx hb dX7_feed_46 (lv_at hl 4 rfl) ?_
    obtain ⟨r_8, S_9, hr_8, h⟩ := bnd_s h
    refine x_callVv E X cwX7_100 (mX3_addBytes l Z hQ  x4 hr_8) rfl rfl rfl rfl hl.1 rfl dX7_feed_48 (fun H locs X => ?_)
    refine lv_aload_n hx hb dX7_feed_51 rfl (lv_at hl 0 rfl) ?_
    refine x_getr E X ffX7_45 rfl rfl dX7_feed_52 ?_
    refine lv_iload hx hb dX7_feed_55 (lv_at hl 5 rfl) ?_
    obtain ⟨r_10, S_11, hr_10, h⟩ := bnd_s h
    refine x_callVv E X cwX7_100 (mX3_addBytes l Z hQ  x5 hr_10) rfl rfl rfl rfl hl.1 rfl dX7_feed_57 (fun H locs X => ?_)
    refine lv_aload_n hx hb dX7_feed_60 rfl (lv_at hl 0 rfl) ?_
    refine x_getr E X ffX7_45 rfl rfl dX7_feed_61 ?_
    refine x_get E X ffX7_97 rfl rfl dX7_feed_64 ?_
    exact x_iret E X h dX7_feed_67
  · have h := if_f c_1 h
    refine lv_iconst (v := (-1 : Int32)) hx hb dX7_feed_16 (by decide) ?_
    exact x_iret E X h dX7_feed_17
/-- SevenToAShadow.feed(IIIII)I -/
theorem mX7_feed (l : Launch) (Z : XG) (hQ : wQ (List.length xL) Z) {S S' : Mem} {r : Int32} (x1 x2 x3 x4 x5 : Int32) (h : fX7_feed S x1 x2 x3 x4 x5 = some (r, S')) : XM l yX7_feed cX7_feed 6 (some .int) { frames := 1, cells := 0, slots := 0, locals := 22 } xL Z [.ref (Z.2.1 0), .int x1, .int x2, .int x3, .int x4, .int x5] S (XQ xL Z r S') := by
  refine XM.of (own := RX7) (by decide +kernel) rfl rfl hQ (fun p e s m args below meth c E ls hl X => ?_)
  exact wX7_feed E S x1 x2 x3 x4 x5 h _ _ _ X hl
def fX7_end (S : Mem) (x1 : Int32) : O := (if x1 < 0 then some ((0 : Int32), S) else (if x1 ≤ (S 38 1) then ltm (mset S 38 1 x1) fun S_3 => some ((1 : Int32), S_3) else some ((0 : Int32), S)))
theorem dX7_end_0 : decode cX7_end 0 = .ok (.iload_n 1, 1) := by decide +kernel
theorem dX7_end_1 : decode cX7_end 1 = .ok (.ifCond .lt 14, 3) := by decide +kernel
theorem dX7_end_4 : decode cX7_end 4 = .ok (.iload_n 1, 1) := by decide +kernel
theorem dX7_end_5 : decode cX7_end 5 = .ok (.aload_n 0, 1) := by decide +kernel
theorem dX7_end_6 : decode cX7_end 6 = .ok (.getfield 45, 3) := by decide +kernel
theorem dX7_end_9 : decode cX7_end 9 = .ok (.getfield 97, 3) := by decide +kernel
theorem dX7_end_12 : decode cX7_end 12 = .ok (.if_icmp .le 5, 3) := by decide +kernel
theorem dX7_end_15 : decode cX7_end 15 = .ok (.iconst 0, 1) := by decide +kernel
theorem dX7_end_16 : decode cX7_end 16 = .ok (.ireturn, 1) := by decide +kernel
theorem dX7_end_17 : decode cX7_end 17 = .ok (.aload_n 0, 1) := by decide +kernel
theorem dX7_end_18 : decode cX7_end 18 = .ok (.getfield 45, 3) := by decide +kernel
theorem dX7_end_21 : decode cX7_end 21 = .ok (.iload_n 1, 1) := by decide +kernel
theorem dX7_end_22 : decode cX7_end 22 = .ok (.putfield 97, 3) := by decide +kernel
theorem dX7_end_25 : decode cX7_end 25 = .ok (.iconst 1, 1) := by decide +kernel
theorem dX7_end_26 : decode cX7_end 26 = .ok (.ireturn, 1) := by decide +kernel
set_option maxRecDepth 20000 in
theorem wX7_end {p : Program} {l : Launch} {e : Env} {s : State} {m : MethodId} {args : Array Value} {below : List Frame} {meth : Method} {c : Code} {Z : XG} {r : Int32} {S' : Mem} (E : XE p s m args meth c cX7_end 2 RX7 (some .boolean) xL Z) : ∀ (S : Mem) (x1 : Int32), fX7_end  S x1 = some (r, S') → WN p l e { frames := 0, cells := 0, slots := 0, locals := 0 } s m args below meth c xL Z (XQ xL Z r S') S 0 2 [(0, .ref (Z.2.1 0)), (1, .int x1)] [] := by
  obtain ⟨hx, hb, -, -, -, -, -, -, -, hQ⟩ := id E
  intro S x1 h H locs ls X hl
  unfold fX7_end at h
  refine lv_iload_n hx hb dX7_end_0 rfl (lv_at hl 1 rfl) ?_
  refine lv_if_lt (tgt := 15) hx hb dX7_end_1 (by decide) (fun c_1 => ?_) (fun c_1 => ?_)
  · have h := if_t c_1 h
    refine lv_iconst (v := (0 : Int32)) hx hb dX7_end_15 (by decide) ?_
    exact x_zret E X rfl h dX7_end_16
  · have h := if_f c_1 h
    refine lv_iload_n hx hb dX7_end_4 rfl (lv_at hl 1 rfl) ?_
    refine lv_aload_n hx hb dX7_end_5 rfl (lv_at hl 0 rfl) ?_
    refine x_getr E X ffX7_45 rfl rfl dX7_end_6 ?_
    refine x_get E X ffX7_97 rfl rfl dX7_end_9 ?_
    refine lv_icmp_le (tgt := 17) hx hb dX7_end_12 (by decide) (fun c_2 => ?_) (fun c_2 => ?_)
    · have h := if_t c_2 h
      refine lv_aload_n hx hb dX7_end_17 rfl (lv_at hl 0 rfl) ?_
      refine x_getr E X ffX7_45 rfl rfl dX7_end_18 ?_
      refine lv_iload_n hx hb dX7_end_21 rfl (lv_at hl 1 rfl) ?_
      obtain ⟨S_3, eS_3, h⟩ := ltm_s h
      refine x_put E X fpX7_97 rfl rfl dX7_end_22 (fun H locs X => ?_)
      rw [← eS_3] at X
      refine lv_iconst (v := (1 : Int32)) hx hb dX7_end_25 (by decide) ?_
      exact x_zret E X rfl h dX7_end_26
    · have h := if_f c_2 h
      refine lv_iconst (v := (0 : Int32)) hx hb dX7_end_15 (by decide) ?_
      exact x_zret E X rfl h dX7_end_16
/-- SevenToAShadow.end(I)Z -/
theorem mX7_end (l : Launch) (Z : XG) (hQ : wQ (List.length xL) Z) {S S' : Mem} {r : Int32} (x1 : Int32) (h : fX7_end S x1 = some (r, S')) : XM l yX7_end cX7_end 2 (some .boolean) { frames := 0, cells := 0, slots := 0, locals := 0 } xL Z [.ref (Z.2.1 0), .int x1] S (XQ xL Z r S') := by
  refine XM.of (own := RX7) (by decide +kernel) rfl rfl hQ (fun p e s m args below meth c E ls hl X => ?_)
  exact wX7_end E S x1 h _ _ _ X hl
def fX4_clear_40 (S : Mem) : O := ltm (mset S 40 4 (0 : Int32)) fun S_1 => ltm (mset S_1 40 5 (0 : Int32)) fun S_2 => some ((0 : Int32), S_2)
theorem dX4_clear_0 : decode cX4_clear 0 = .ok (.aload_n 0, 1) := by decide +kernel
theorem dX4_clear_1 : decode cX4_clear 1 = .ok (.iconst 0, 1) := by decide +kernel
theorem dX4_clear_2 : decode cX4_clear 2 = .ok (.putfield 24, 3) := by decide +kernel
theorem dX4_clear_5 : decode cX4_clear 5 = .ok (.aload_n 0, 1) := by decide +kernel
theorem dX4_clear_6 : decode cX4_clear 6 = .ok (.iconst 0, 1) := by decide +kernel
theorem dX4_clear_7 : decode cX4_clear 7 = .ok (.putfield 28, 3) := by decide +kernel
theorem dX4_clear_10 : decode cX4_clear 10 = .ok (.return_, 1) := by decide +kernel
set_option maxRecDepth 20000 in
theorem wX4_clear_40 {p : Program} {l : Launch} {e : Env} {s : State} {m : MethodId} {args : Array Value} {below : List Frame} {meth : Method} {c : Code} {Z : XG} {r : Int32} {S' : Mem} (E : XE p s m args meth c cX4_clear 1 RX4 none xL Z) : ∀ (S : Mem), fX4_clear_40  S  = some (r, S') → WN p l e { frames := 0, cells := 0, slots := 0, locals := 0 } s m args below meth c xL Z (XV xL Z S') S 0 1 [(0, .ref (Z.2.1 40))] [] := by
  obtain ⟨hx, hb, -, -, -, -, -, -, -, hQ⟩ := id E
  intro S  h H locs ls X hl
  unfold fX4_clear_40 at h
  refine lv_aload_n hx hb dX4_clear_0 rfl (lv_at hl 0 rfl) ?_
  refine lv_iconst (v := (0 : Int32)) hx hb dX4_clear_1 (by decide) ?_
  obtain ⟨S_1, eS_1, h⟩ := ltm_s h
  refine x_put E X fpX4_24 rfl rfl dX4_clear_2 (fun H locs X => ?_)
  rw [← eS_1] at X
  refine lv_aload_n hx hb dX4_clear_5 rfl (lv_at hl 0 rfl) ?_
  refine lv_iconst (v := (0 : Int32)) hx hb dX4_clear_6 (by decide) ?_
  obtain ⟨S_2, eS_2, h⟩ := ltm_s h
  refine x_put E X fpX4_28 rfl rfl dX4_clear_7 (fun H locs X => ?_)
  rw [← eS_2] at X
  exact x_vret E X h dX4_clear_10
/-- SevenToAShadow$Rules.clear()V -/
theorem mX4_clear_40 (l : Launch) (Z : XG) (hQ : wQ (List.length xL) Z) {S S' : Mem} {r : Int32} (h : fX4_clear_40 S  = some (r, S')) : XM l yX4_clear cX4_clear 1 none { frames := 0, cells := 0, slots := 0, locals := 0 } xL Z [.ref (Z.2.1 40)] S (XV xL Z S') := by
  refine XM.of (own := RX4) (by decide +kernel) rfl rfl hQ (fun p e s m args below meth c E ls hl X => ?_)
  exact wX4_clear_40 E S  h _ _ _ X hl
def fX3_byteAt (S : Mem) (x1 : Int32) : O := (if x1 < 0 then some ((0 : Int32), S) else (if (S 38 1) ≤ x1 then some ((0 : Int32), S) else (if (400 : Int32) ≤ x1 then some ((0 : Int32), S) else gd (inB x1 400) <| some (((S 39 (x1).toNatClampNeg) &&& (255 : Int32)), S))))
theorem dX3_byteAt_0 : decode cX3_byteAt 0 = .ok (.iload_n 1, 1) := by decide +kernel
theorem dX3_byteAt_1 : decode cX3_byteAt 1 = .ok (.ifCond .lt 31, 3) := by decide +kernel
theorem dX3_byteAt_4 : decode cX3_byteAt 4 = .ok (.iload_n 1, 1) := by decide +kernel
theorem dX3_byteAt_5 : decode cX3_byteAt 5 = .ok (.aload_n 0, 1) := by decide +kernel
theorem dX3_byteAt_6 : decode cX3_byteAt 6 = .ok (.getfield 30, 3) := by decide +kernel
theorem dX3_byteAt_9 : decode cX3_byteAt 9 = .ok (.if_icmp .ge 23, 3) := by decide +kernel
theorem dX3_byteAt_12 : decode cX3_byteAt 12 = .ok (.iload_n 1, 1) := by decide +kernel
theorem dX3_byteAt_13 : decode cX3_byteAt 13 = .ok (.sipush 400, 3) := by decide +kernel
theorem dX3_byteAt_16 : decode cX3_byteAt 16 = .ok (.if_icmp .ge 16, 3) := by decide +kernel
theorem dX3_byteAt_19 : decode cX3_byteAt 19 = .ok (.aload_n 0, 1) := by decide +kernel
theorem dX3_byteAt_20 : decode cX3_byteAt 20 = .ok (.getfield 9, 3) := by decide +kernel
theorem dX3_byteAt_23 : decode cX3_byteAt 23 = .ok (.iload_n 1, 1) := by decide +kernel
theorem dX3_byteAt_24 : decode cX3_byteAt 24 = .ok (.baload, 1) := by decide +kernel
theorem dX3_byteAt_25 : decode cX3_byteAt 25 = .ok (.sipush 255, 3) := by decide +kernel
theorem dX3_byteAt_28 : decode cX3_byteAt 28 = .ok (.iand, 1) := by decide +kernel
theorem dX3_byteAt_29 : decode cX3_byteAt 29 = .ok (.goto 4, 3) := by decide +kernel
theorem dX3_byteAt_32 : decode cX3_byteAt 32 = .ok (.iconst 0, 1) := by decide +kernel
theorem dX3_byteAt_33 : decode cX3_byteAt 33 = .ok (.ireturn, 1) := by decide +kernel
set_option maxRecDepth 20000 in
theorem wX3_byteAt {p : Program} {l : Launch} {e : Env} {s : State} {m : MethodId} {args : Array Value} {below : List Frame} {meth : Method} {c : Code} {Z : XG} {r : Int32} {S' : Mem} (E : XE p s m args meth c cX3_byteAt 2 RX3 (some .int) xL Z) : ∀ (S : Mem) (x1 : Int32), fX3_byteAt  S x1 = some (r, S') → WN p l e { frames := 0, cells := 0, slots := 0, locals := 0 } s m args below meth c xL Z (XQ xL Z r S') S 0 2 [(0, .ref (Z.2.1 38)), (1, .int x1)] [] := by
  obtain ⟨hx, hb, -, -, -, -, -, -, -, hQ⟩ := id E
  intro S x1 h H locs ls X hl
  unfold fX3_byteAt at h
  refine lv_iload_n hx hb dX3_byteAt_0 rfl (lv_at hl 1 rfl) ?_
  refine lv_if_lt (tgt := 32) hx hb dX3_byteAt_1 (by decide) (fun c_1 => ?_) (fun c_1 => ?_)
  · have h := if_t c_1 h
    refine lv_iconst (v := (0 : Int32)) hx hb dX3_byteAt_32 (by decide) ?_
    exact x_iret E X h dX3_byteAt_33
  · have h := if_f c_1 h
    refine lv_iload_n hx hb dX3_byteAt_4 rfl (lv_at hl 1 rfl) ?_
    refine lv_aload_n hx hb dX3_byteAt_5 rfl (lv_at hl 0 rfl) ?_
    refine x_get E X ffX3_30 rfl rfl dX3_byteAt_6 ?_
    refine lv_icmp_ge (tgt := 32) hx hb dX3_byteAt_9 (by decide) (fun c_2 => ?_) (fun c_2 => ?_)
    · have h := if_t c_2 h
      refine lv_iconst (v := (0 : Int32)) hx hb dX3_byteAt_32 (by decide) ?_
      exact x_iret E X h dX3_byteAt_33
    · have h := if_f c_2 h
      refine lv_iload_n hx hb dX3_byteAt_12 rfl (lv_at hl 1 rfl) ?_
      refine lv_sipush (v := (400 : Int32)) hx hb dX3_byteAt_13 (by decide) ?_
      refine lv_icmp_ge (tgt := 32) hx hb dX3_byteAt_16 (by decide) (fun c_3 => ?_) (fun c_3 => ?_)
      · have h := if_t c_3 h
        refine lv_iconst (v := (0 : Int32)) hx hb dX3_byteAt_32 (by decide) ?_
        exact x_iret E X h dX3_byteAt_33
      · have h := if_f c_3 h
        refine lv_aload_n hx hb dX3_byteAt_19 rfl (lv_at hl 0 rfl) ?_
        refine x_getr E X ffX3_9 rfl rfl dX3_byteAt_20 ?_
        refine lv_iload_n hx hb dX3_byteAt_23 rfl (lv_at hl 1 rfl) ?_
        obtain ⟨g_4, h⟩ := gd_s h
        refine x_bald E X rfl g_4 dX3_byteAt_24 ?_
        refine lv_sipush (v := (255 : Int32)) hx hb dX3_byteAt_25 (by decide) ?_
        refine lv_iand hx hb dX3_byteAt_28 ?_
        refine lv_goto (tgt := 33) hx hb dX3_byteAt_29 (by decide) ?_
        exact x_iret E X h dX3_byteAt_33
/-- SevenToAShadow$Reader.byteAt(I)I -/
theorem mX3_byteAt (l : Launch) (Z : XG) (hQ : wQ (List.length xL) Z) {S S' : Mem} {r : Int32} (x1 : Int32) (h : fX3_byteAt S x1 = some (r, S')) : XM l yX3_byteAt cX3_byteAt 2 (some .int) { frames := 0, cells := 0, slots := 0, locals := 0 } xL Z [.ref (Z.2.1 38), .int x1] S (XQ xL Z r S') := by
  refine XM.of (own := RX3) (by decide +kernel) rfl rfl hQ (fun p e s m args below meth c E ls hl X => ?_)
  exact wX3_byteAt E S x1 h _ _ _ X hl
def fX3_isLetter_24 (S : Mem) : O := some ((1 : Int32), S)
def fX3_isLetter_12 (S : Mem) (x0 : Int32) : O := (if x0 < (65 : Int32) then some ((0 : Int32), S) else (if (90 : Int32) < x0 then some ((0 : Int32), S) else fX3_isLetter_24  S ))
def fX3_isLetter (S : Mem) (x0 : Int32) : O := (if x0 < (97 : Int32) then fX3_isLetter_12  S x0 else (if x0 ≤ (122 : Int32) then fX3_isLetter_24  S  else fX3_isLetter_12  S x0))
theorem dX3_isLetter_0 : decode cX3_isLetter 0 = .ok (.iload_n 0, 1) := by decide +kernel
theorem dX3_isLetter_1 : decode cX3_isLetter 1 = .ok (.bipush 97, 2) := by decide +kernel
theorem dX3_isLetter_3 : decode cX3_isLetter 3 = .ok (.if_icmp .lt 9, 3) := by decide +kernel
theorem dX3_isLetter_6 : decode cX3_isLetter 6 = .ok (.iload_n 0, 1) := by decide +kernel
theorem dX3_isLetter_7 : decode cX3_isLetter 7 = .ok (.bipush 122, 2) := by decide +kernel
theorem dX3_isLetter_9 : decode cX3_isLetter 9 = .ok (.if_icmp .le 15, 3) := by decide +kernel
theorem dX3_isLetter_12 : decode cX3_isLetter 12 = .ok (.iload_n 0, 1) := by decide +kernel
theorem dX3_isLetter_13 : decode cX3_isLetter 13 = .ok (.bipush 65, 2) := by decide +kernel
theorem dX3_isLetter_15 : decode cX3_isLetter 15 = .ok (.if_icmp .lt 13, 3) := by decide +kernel
theorem dX3_isLetter_18 : decode cX3_isLetter 18 = .ok (.iload_n 0, 1) := by decide +kernel
theorem dX3_isLetter_19 : decode cX3_isLetter 19 = .ok (.bipush 90, 2) := by decide +kernel
theorem dX3_isLetter_21 : decode cX3_isLetter 21 = .ok (.if_icmp .gt 7, 3) := by decide +kernel
theorem dX3_isLetter_24 : decode cX3_isLetter 24 = .ok (.iconst 1, 1) := by decide +kernel
theorem dX3_isLetter_25 : decode cX3_isLetter 25 = .ok (.goto 4, 3) := by decide +kernel
theorem dX3_isLetter_28 : decode cX3_isLetter 28 = .ok (.iconst 0, 1) := by decide +kernel
theorem dX3_isLetter_29 : decode cX3_isLetter 29 = .ok (.ireturn, 1) := by decide +kernel
set_option maxRecDepth 20000 in
theorem wX3_isLetter_24 {p : Program} {l : Launch} {e : Env} {s : State} {m : MethodId} {args : Array Value} {below : List Frame} {meth : Method} {c : Code} {Z : XG} {r : Int32} {S' : Mem} (E : XE p s m args meth c cX3_isLetter 1 RX3 (some .boolean) xL Z) : ∀ (S : Mem), fX3_isLetter_24  S  = some (r, S') → WN p l e { frames := 0, cells := 0, slots := 0, locals := 0 } s m args below meth c xL Z (XQ xL Z r S') S 24 1 [] [] := by
  obtain ⟨hx, hb, -, -, -, -, -, -, -, hQ⟩ := id E
  intro S  h H locs ls X hl
  unfold fX3_isLetter_24 at h
  refine lv_iconst (v := (1 : Int32)) hx hb dX3_isLetter_24 (by decide) ?_
  refine lv_goto (tgt := 29) hx hb dX3_isLetter_25 (by decide) ?_
  exact x_zret E X rfl h dX3_isLetter_29
set_option maxRecDepth 20000 in
theorem wX3_isLetter_12 {p : Program} {l : Launch} {e : Env} {s : State} {m : MethodId} {args : Array Value} {below : List Frame} {meth : Method} {c : Code} {Z : XG} {r : Int32} {S' : Mem} (E : XE p s m args meth c cX3_isLetter 1 RX3 (some .boolean) xL Z) : ∀ (S : Mem) (x0 : Int32), fX3_isLetter_12  S x0 = some (r, S') → WN p l e { frames := 0, cells := 0, slots := 0, locals := 0 } s m args below meth c xL Z (XQ xL Z r S') S 12 1 [(0, .int x0)] [] := by
  obtain ⟨hx, hb, -, -, -, -, -, -, -, hQ⟩ := id E
  intro S x0 h H locs ls X hl
  unfold fX3_isLetter_12 at h
  refine lv_iload_n hx hb dX3_isLetter_12 rfl (lv_at hl 0 rfl) ?_
  refine lv_bipush (v := (65 : Int32)) hx hb dX3_isLetter_13 (by decide) ?_
  refine lv_icmp_lt (tgt := 28) hx hb dX3_isLetter_15 (by decide) (fun c_1 => ?_) (fun c_1 => ?_)
  · have h := if_t c_1 h
    refine lv_iconst (v := (0 : Int32)) hx hb dX3_isLetter_28 (by decide) ?_
    exact x_zret E X rfl h dX3_isLetter_29
  · have h := if_f c_1 h
    refine lv_iload_n hx hb dX3_isLetter_18 rfl (lv_at hl 0 rfl) ?_
    refine lv_bipush (v := (90 : Int32)) hx hb dX3_isLetter_19 (by decide) ?_
    refine lv_icmp_gt (tgt := 28) hx hb dX3_isLetter_21 (by decide) (fun c_2 => ?_) (fun c_2 => ?_)
    · have h := if_t c_2 h
      refine lv_iconst (v := (0 : Int32)) hx hb dX3_isLetter_28 (by decide) ?_
      exact x_zret E X rfl h dX3_isLetter_29
    · have h := if_f c_2 h
      exact wX3_isLetter_24 E   S  h _ _ _ X (lv_sub hl [] rfl)
set_option maxRecDepth 20000 in
theorem wX3_isLetter {p : Program} {l : Launch} {e : Env} {s : State} {m : MethodId} {args : Array Value} {below : List Frame} {meth : Method} {c : Code} {Z : XG} {r : Int32} {S' : Mem} (E : XE p s m args meth c cX3_isLetter 1 RX3 (some .boolean) xL Z) : ∀ (S : Mem) (x0 : Int32), fX3_isLetter  S x0 = some (r, S') → WN p l e { frames := 0, cells := 0, slots := 0, locals := 0 } s m args below meth c xL Z (XQ xL Z r S') S 0 1 [(0, .int x0)] [] := by
  obtain ⟨hx, hb, -, -, -, -, -, -, -, hQ⟩ := id E
  intro S x0 h H locs ls X hl
  unfold fX3_isLetter at h
  refine lv_iload_n hx hb dX3_isLetter_0 rfl (lv_at hl 0 rfl) ?_
  refine lv_bipush (v := (97 : Int32)) hx hb dX3_isLetter_1 (by decide) ?_
  refine lv_icmp_lt (tgt := 12) hx hb dX3_isLetter_3 (by decide) (fun c_1 => ?_) (fun c_1 => ?_)
  · have h := if_t c_1 h
    exact wX3_isLetter_12 E   S x0 h _ _ _ X hl
  · have h := if_f c_1 h
    refine lv_iload_n hx hb dX3_isLetter_6 rfl (lv_at hl 0 rfl) ?_
    refine lv_bipush (v := (122 : Int32)) hx hb dX3_isLetter_7 (by decide) ?_
    refine lv_icmp_le (tgt := 24) hx hb dX3_isLetter_9 (by decide) (fun c_2 => ?_) (fun c_2 => ?_)
    · have h := if_t c_2 h
      exact wX3_isLetter_24 E   S  h _ _ _ X (lv_sub hl [] rfl)
    · have h := if_f c_2 h
      exact wX3_isLetter_12 E   S x0 h _ _ _ X hl
/-- SevenToAShadow$Reader.isLetter(I)Z -/
theorem mX3_isLetter (l : Launch) (Z : XG) (hQ : wQ (List.length xL) Z) {S S' : Mem} {r : Int32} (x0 : Int32) (h : fX3_isLetter S x0 = some (r, S')) : XM l yX3_isLetter cX3_isLetter 1 (some .boolean) { frames := 0, cells := 0, slots := 0, locals := 0 } xL Z [.int x0] S (XQ xL Z r S') := by
  refine XM.of (own := RX3) (by decide +kernel) rfl rfl hQ (fun p e s m args below meth c E ls hl X => ?_)
  exact wX3_isLetter E S x0 h _ _ _ X hl
def fX3_isDigit (S : Mem) (x0 : Int32) : O := (if x0 < (48 : Int32) then some ((0 : Int32), S) else (if (57 : Int32) < x0 then some ((0 : Int32), S) else some ((1 : Int32), S)))
theorem dX3_isDigit_0 : decode cX3_isDigit 0 = .ok (.iload_n 0, 1) := by decide +kernel
theorem dX3_isDigit_1 : decode cX3_isDigit 1 = .ok (.bipush 48, 2) := by decide +kernel
theorem dX3_isDigit_3 : decode cX3_isDigit 3 = .ok (.if_icmp .lt 13, 3) := by decide +kernel
theorem dX3_isDigit_6 : decode cX3_isDigit 6 = .ok (.iload_n 0, 1) := by decide +kernel
theorem dX3_isDigit_7 : decode cX3_isDigit 7 = .ok (.bipush 57, 2) := by decide +kernel
theorem dX3_isDigit_9 : decode cX3_isDigit 9 = .ok (.if_icmp .gt 7, 3) := by decide +kernel
theorem dX3_isDigit_12 : decode cX3_isDigit 12 = .ok (.iconst 1, 1) := by decide +kernel
theorem dX3_isDigit_13 : decode cX3_isDigit 13 = .ok (.goto 4, 3) := by decide +kernel
theorem dX3_isDigit_16 : decode cX3_isDigit 16 = .ok (.iconst 0, 1) := by decide +kernel
theorem dX3_isDigit_17 : decode cX3_isDigit 17 = .ok (.ireturn, 1) := by decide +kernel
set_option maxRecDepth 20000 in
theorem wX3_isDigit {p : Program} {l : Launch} {e : Env} {s : State} {m : MethodId} {args : Array Value} {below : List Frame} {meth : Method} {c : Code} {Z : XG} {r : Int32} {S' : Mem} (E : XE p s m args meth c cX3_isDigit 1 RX3 (some .boolean) xL Z) : ∀ (S : Mem) (x0 : Int32), fX3_isDigit  S x0 = some (r, S') → WN p l e { frames := 0, cells := 0, slots := 0, locals := 0 } s m args below meth c xL Z (XQ xL Z r S') S 0 1 [(0, .int x0)] [] := by
  obtain ⟨hx, hb, -, -, -, -, -, -, -, hQ⟩ := id E
  intro S x0 h H locs ls X hl
  unfold fX3_isDigit at h
  refine lv_iload_n hx hb dX3_isDigit_0 rfl (lv_at hl 0 rfl) ?_
  refine lv_bipush (v := (48 : Int32)) hx hb dX3_isDigit_1 (by decide) ?_
  refine lv_icmp_lt (tgt := 16) hx hb dX3_isDigit_3 (by decide) (fun c_1 => ?_) (fun c_1 => ?_)
  · have h := if_t c_1 h
    refine lv_iconst (v := (0 : Int32)) hx hb dX3_isDigit_16 (by decide) ?_
    exact x_zret E X rfl h dX3_isDigit_17
  · have h := if_f c_1 h
    refine lv_iload_n hx hb dX3_isDigit_6 rfl (lv_at hl 0 rfl) ?_
    refine lv_bipush (v := (57 : Int32)) hx hb dX3_isDigit_7 (by decide) ?_
    refine lv_icmp_gt (tgt := 16) hx hb dX3_isDigit_9 (by decide) (fun c_2 => ?_) (fun c_2 => ?_)
    · have h := if_t c_2 h
      refine lv_iconst (v := (0 : Int32)) hx hb dX3_isDigit_16 (by decide) ?_
      exact x_zret E X rfl h dX3_isDigit_17
    · have h := if_f c_2 h
      refine lv_iconst (v := (1 : Int32)) hx hb dX3_isDigit_12 (by decide) ?_
      refine lv_goto (tgt := 17) hx hb dX3_isDigit_13 (by decide) ?_
      exact x_zret E X rfl h dX3_isDigit_17
/-- SevenToAShadow$Reader.isDigit(I)Z -/
theorem mX3_isDigit (l : Launch) (Z : XG) (hQ : wQ (List.length xL) Z) {S S' : Mem} {r : Int32} (x0 : Int32) (h : fX3_isDigit S x0 = some (r, S')) : XM l yX3_isDigit cX3_isDigit 1 (some .boolean) { frames := 0, cells := 0, slots := 0, locals := 0 } xL Z [.int x0] S (XQ xL Z r S') := by
  refine XM.of (own := RX3) (by decide +kernel) rfl rfl hQ (fun p e s m args below meth c E ls hl X => ?_)
  exact wX3_isDigit E S x0 h _ _ _ X hl
def fJ0_isLatin1_s1 (S : Mem) : O := some ((1 : Int32), S)
theorem dJ0_isLatin1_aae02_0 : decode cJ0_isLatin1_aae02 0 = .ok (.getstatic 38, 3) := by decide +kernel
theorem dJ0_isLatin1_aae02_3 : decode cJ0_isLatin1_aae02 3 = .ok (.ifCond .eq 14, 3) := by decide +kernel
theorem dJ0_isLatin1_aae02_6 : decode cJ0_isLatin1_aae02 6 = .ok (.aload_n 0, 1) := by decide +kernel
theorem dJ0_isLatin1_aae02_7 : decode cJ0_isLatin1_aae02 7 = .ok (.getfield 15, 3) := by decide +kernel
theorem dJ0_isLatin1_aae02_10 : decode cJ0_isLatin1_aae02 10 = .ok (.ifCond .ne 7, 3) := by decide +kernel
theorem dJ0_isLatin1_aae02_13 : decode cJ0_isLatin1_aae02 13 = .ok (.iconst 1, 1) := by decide +kernel
theorem dJ0_isLatin1_aae02_14 : decode cJ0_isLatin1_aae02 14 = .ok (.goto 4, 3) := by decide +kernel
theorem dJ0_isLatin1_aae02_17 : decode cJ0_isLatin1_aae02 17 = .ok (.iconst 0, 1) := by decide +kernel
theorem dJ0_isLatin1_aae02_18 : decode cJ0_isLatin1_aae02 18 = .ok (.ireturn, 1) := by decide +kernel
set_option maxRecDepth 20000 in
theorem wJ0_isLatin1_s1 {p : Program} {l : Launch} {e : Env} {s : State} {m : MethodId} {args : Array Value} {below : List Frame} {meth : Method} {c : Code} {Z : XG} {r : Int32} {S' : Mem} (E : XE p s m args meth c cJ0_isLatin1_aae02 1 RJ0 (some .boolean) xL Z) : ∀ (S : Mem), fJ0_isLatin1_s1  S  = some (r, S') → WN p l e { frames := 0, cells := 0, slots := 0, locals := 0 } s m args below meth c xL Z (XQ xL Z r S') S 0 1 [(0, .ref (Z.2.2.2.2.1 1))] [] := by
  obtain ⟨hx, hb, -, -, -, -, -, -, -, hQ⟩ := id E
  intro S  h H locs ls X hl
  unfold fJ0_isLatin1_s1 at h
  refine x_compact E X (gt_at 523 (by decide +kernel) (by decide +kernel)) dJ0_isLatin1_aae02_0 ?_
  refine lv_if_eq (tgt := 17) hx hb dJ0_isLatin1_aae02_3 (by decide) (fun c_2 => ?_) (fun c_2 => ?_)
  · exact absurd c_2 (by decide)
  · refine lv_aload_n hx hb dJ0_isLatin1_aae02_6 rfl (lv_at hl 0 rfl) ?_
    refine x_scod E X (by decide) (gt_at 1540 (by decide +kernel) (by decide +kernel)) dJ0_isLatin1_aae02_7 ?_
    refine lv_if_ne (tgt := 17) hx hb dJ0_isLatin1_aae02_10 (by decide) (fun c_3 => ?_) (fun c_3 => ?_)
    · exact absurd c_3 (by decide)
    · refine lv_iconst (v := (1 : Int32)) hx hb dJ0_isLatin1_aae02_13 (by decide) ?_
      refine lv_goto (tgt := 18) hx hb dJ0_isLatin1_aae02_14 (by decide) ?_
      exact x_zret E X rfl h dJ0_isLatin1_aae02_18
/-- java/lang/String.isLatin1()Z -/
theorem mJ0_isLatin1_s1 (l : Launch) (Z : XG) (hQ : wQ (List.length xL) Z) {S S' : Mem} {r : Int32} (h : fJ0_isLatin1_s1 S  = some (r, S')) : XM l yJ0_isLatin1_aae02 cJ0_isLatin1_aae02 1 (some .boolean) { frames := 0, cells := 0, slots := 0, locals := 0 } xL Z [.ref (Z.2.2.2.2.1 1)] S (XQ xL Z r S') := by
  refine XM.of (own := RJ0) (by decide +kernel) rfl rfl hQ (fun p e s m args below meth c E ls hl X => ?_)
  exact wJ0_isLatin1_s1 E S  h _ _ _ X hl
def fJ0_coder_s1 (S : Mem) : O := some ((0 : Int32), S)
theorem dJ0_coder_7d493_0 : decode cJ0_coder_7d493 0 = .ok (.getstatic 38, 3) := by decide +kernel
theorem dJ0_coder_7d493_3 : decode cJ0_coder_7d493 3 = .ok (.ifCond .eq 10, 3) := by decide +kernel
theorem dJ0_coder_7d493_6 : decode cJ0_coder_7d493 6 = .ok (.aload_n 0, 1) := by decide +kernel
theorem dJ0_coder_7d493_7 : decode cJ0_coder_7d493 7 = .ok (.getfield 15, 3) := by decide +kernel
theorem dJ0_coder_7d493_10 : decode cJ0_coder_7d493 10 = .ok (.goto 4, 3) := by decide +kernel
theorem dJ0_coder_7d493_13 : decode cJ0_coder_7d493 13 = .ok (.iconst 1, 1) := by decide +kernel
theorem dJ0_coder_7d493_14 : decode cJ0_coder_7d493 14 = .ok (.ireturn, 1) := by decide +kernel
set_option maxRecDepth 20000 in
theorem wJ0_coder_s1 {p : Program} {l : Launch} {e : Env} {s : State} {m : MethodId} {args : Array Value} {below : List Frame} {meth : Method} {c : Code} {Z : XG} {r : Int32} {S' : Mem} (E : XE p s m args meth c cJ0_coder_7d493 1 RJ0 (some .byte) xL Z) : ∀ (S : Mem), fJ0_coder_s1  S  = some (r, S') → WN p l e { frames := 0, cells := 0, slots := 0, locals := 0 } s m args below meth c xL Z (XQ xL Z r S') S 0 1 [(0, .ref (Z.2.2.2.2.1 1))] [] := by
  obtain ⟨hx, hb, -, -, -, -, -, -, -, hQ⟩ := id E
  intro S  h H locs ls X hl
  unfold fJ0_coder_s1 at h
  refine x_compact E X (gt_at 523 (by decide +kernel) (by decide +kernel)) dJ0_coder_7d493_0 ?_
  refine lv_if_eq (tgt := 13) hx hb dJ0_coder_7d493_3 (by decide) (fun c_2 => ?_) (fun c_2 => ?_)
  · exact absurd c_2 (by decide)
  · refine lv_aload_n hx hb dJ0_coder_7d493_6 rfl (lv_at hl 0 rfl) ?_
    refine x_scod E X (by decide) (gt_at 1540 (by decide +kernel) (by decide +kernel)) dJ0_coder_7d493_7 ?_
    refine lv_goto (tgt := 14) hx hb dJ0_coder_7d493_10 (by decide) ?_
    exact x_bret0 E X h dJ0_coder_7d493_14
/-- java/lang/String.coder()B -/
theorem mJ0_coder_s1 (l : Launch) (Z : XG) (hQ : wQ (List.length xL) Z) {S S' : Mem} {r : Int32} (h : fJ0_coder_s1 S  = some (r, S')) : XM l yJ0_coder_7d493 cJ0_coder_7d493 1 (some .byte) { frames := 0, cells := 0, slots := 0, locals := 0 } xL Z [.ref (Z.2.2.2.2.1 1)] S (XQ xL Z r S') := by
  refine XM.of (own := RJ0) (by decide +kernel) rfl rfl hQ (fun p e s m args below meth c E ls hl X => ?_)
  exact wJ0_coder_s1 E S  h _ _ _ X hl
def fJ0_length_s1 (S : Mem) : O := some (((10 : Int32) >>> ((0 : Int32) &&& 31)), S)
theorem dJ0_length_8abf5_0 : decode cJ0_length_8abf5 0 = .ok (.aload_n 0, 1) := by decide +kernel
theorem dJ0_length_8abf5_1 : decode cJ0_length_8abf5 1 = .ok (.getfield 9, 3) := by decide +kernel
theorem dJ0_length_8abf5_4 : decode cJ0_length_8abf5 4 = .ok (.arraylength, 1) := by decide +kernel
theorem dJ0_length_8abf5_5 : decode cJ0_length_8abf5 5 = .ok (.aload_n 0, 1) := by decide +kernel
theorem dJ0_length_8abf5_6 : decode cJ0_length_8abf5 6 = .ok (.invokevirtual 335, 3) := by decide +kernel
theorem dJ0_length_8abf5_9 : decode cJ0_length_8abf5 9 = .ok (.ishr, 1) := by decide +kernel
theorem dJ0_length_8abf5_10 : decode cJ0_length_8abf5 10 = .ok (.ireturn, 1) := by decide +kernel
set_option maxRecDepth 20000 in
theorem wJ0_length_s1 {p : Program} {l : Launch} {e : Env} {s : State} {m : MethodId} {args : Array Value} {below : List Frame} {meth : Method} {c : Code} {Z : XG} {r : Int32} {S' : Mem} (E : XE p s m args meth c cJ0_length_8abf5 1 RJ0 (some .int) xL Z) : ∀ (S : Mem), fJ0_length_s1  S  = some (r, S') → WN p l e { frames := 1, cells := 0, slots := 0, locals := 20 } s m args below meth c xL Z (XQ xL Z r S') S 0 1 [(0, .ref (Z.2.2.2.2.1 1))] [] := by
  obtain ⟨hx, hb, -, -, -, -, -, -, -, hQ⟩ := id E
  intro S  h H locs ls X hl
  unfold fJ0_length_s1 at h
  refine lv_aload_n hx hb dJ0_length_8abf5_0 rfl (lv_at hl 0 rfl) ?_
  refine x_sval E X (by decide) (gt_at 1539 (by decide +kernel) (by decide +kernel)) dJ0_length_8abf5_1 ?_
  refine x_slen E X (v := (10 : Int32)) (by decide) (by decide) dJ0_length_8abf5_4 ?_
  refine lv_aload_n hx hb dJ0_length_8abf5_5 rfl (lv_at hl 0 rfl) ?_
  refine x_callVs E X cwJ0_335 (mJ0_coder_s1 l Z hQ (S := S) (r := (0 : Int32)) (S' := S) rfl) (by decide) rfl rfl hl.1 rfl dJ0_length_8abf5_6 (fun H locs X => ?_)
  refine lv_ishr hx hb dJ0_length_8abf5_9 ?_
  exact x_iret E X h dJ0_length_8abf5_10
/-- java/lang/String.length()I -/
theorem mJ0_length_s1 (l : Launch) (Z : XG) (hQ : wQ (List.length xL) Z) {S S' : Mem} {r : Int32} (h : fJ0_length_s1 S  = some (r, S')) : XM l yJ0_length_8abf5 cJ0_length_8abf5 1 (some .int) { frames := 1, cells := 0, slots := 0, locals := 20 } xL Z [.ref (Z.2.2.2.2.1 1)] S (XQ xL Z r S') := by
  refine XM.of (own := RJ0) (by decide +kernel) rfl rfl hQ (fun p e s m args below meth c E ls hl X => ?_)
  exact wJ0_length_s1 E S  h _ _ _ X hl
def fJ1_canEncode (S : Mem) (x0 : Int32) : O := (if x0 < 0 then some ((0 : Int32), S) else (if (255 : Int32) < x0 then some ((0 : Int32), S) else some ((1 : Int32), S)))
theorem dJ1_canEncode_9a6ad_0 : decode cJ1_canEncode_9a6ad 0 = .ok (.iload_n 0, 1) := by decide +kernel
theorem dJ1_canEncode_9a6ad_1 : decode cJ1_canEncode_9a6ad 1 = .ok (.ifCond .lt 14, 3) := by decide +kernel
theorem dJ1_canEncode_9a6ad_4 : decode cJ1_canEncode_9a6ad 4 = .ok (.iload_n 0, 1) := by decide +kernel
theorem dJ1_canEncode_9a6ad_5 : decode cJ1_canEncode_9a6ad 5 = .ok (.sipush 255, 3) := by decide +kernel
theorem dJ1_canEncode_9a6ad_8 : decode cJ1_canEncode_9a6ad 8 = .ok (.if_icmp .gt 7, 3) := by decide +kernel
theorem dJ1_canEncode_9a6ad_11 : decode cJ1_canEncode_9a6ad 11 = .ok (.iconst 1, 1) := by decide +kernel
theorem dJ1_canEncode_9a6ad_12 : decode cJ1_canEncode_9a6ad 12 = .ok (.goto 4, 3) := by decide +kernel
theorem dJ1_canEncode_9a6ad_15 : decode cJ1_canEncode_9a6ad 15 = .ok (.iconst 0, 1) := by decide +kernel
theorem dJ1_canEncode_9a6ad_16 : decode cJ1_canEncode_9a6ad 16 = .ok (.ireturn, 1) := by decide +kernel
set_option maxRecDepth 20000 in
theorem wJ1_canEncode {p : Program} {l : Launch} {e : Env} {s : State} {m : MethodId} {args : Array Value} {below : List Frame} {meth : Method} {c : Code} {Z : XG} {r : Int32} {S' : Mem} (E : XE p s m args meth c cJ1_canEncode_9a6ad 1 RJ1 (some .boolean) xL Z) : ∀ (S : Mem) (x0 : Int32), fJ1_canEncode  S x0 = some (r, S') → WN p l e { frames := 0, cells := 0, slots := 0, locals := 0 } s m args below meth c xL Z (XQ xL Z r S') S 0 1 [(0, .int x0)] [] := by
  obtain ⟨hx, hb, -, -, -, -, -, -, -, hQ⟩ := id E
  intro S x0 h H locs ls X hl
  unfold fJ1_canEncode at h
  refine lv_iload_n hx hb dJ1_canEncode_9a6ad_0 rfl (lv_at hl 0 rfl) ?_
  refine lv_if_lt (tgt := 15) hx hb dJ1_canEncode_9a6ad_1 (by decide) (fun c_1 => ?_) (fun c_1 => ?_)
  · have h := if_t c_1 h
    refine lv_iconst (v := (0 : Int32)) hx hb dJ1_canEncode_9a6ad_15 (by decide) ?_
    exact x_zret E X rfl h dJ1_canEncode_9a6ad_16
  · have h := if_f c_1 h
    refine lv_iload_n hx hb dJ1_canEncode_9a6ad_4 rfl (lv_at hl 0 rfl) ?_
    refine lv_sipush (v := (255 : Int32)) hx hb dJ1_canEncode_9a6ad_5 (by decide) ?_
    refine lv_icmp_gt (tgt := 15) hx hb dJ1_canEncode_9a6ad_8 (by decide) (fun c_2 => ?_) (fun c_2 => ?_)
    · have h := if_t c_2 h
      refine lv_iconst (v := (0 : Int32)) hx hb dJ1_canEncode_9a6ad_15 (by decide) ?_
      exact x_zret E X rfl h dJ1_canEncode_9a6ad_16
    · have h := if_f c_2 h
      refine lv_iconst (v := (1 : Int32)) hx hb dJ1_canEncode_9a6ad_11 (by decide) ?_
      refine lv_goto (tgt := 16) hx hb dJ1_canEncode_9a6ad_12 (by decide) ?_
      exact x_zret E X rfl h dJ1_canEncode_9a6ad_16
/-- java/lang/StringLatin1.canEncode(I)Z -/
theorem mJ1_canEncode (l : Launch) (Z : XG) (hQ : wQ (List.length xL) Z) {S S' : Mem} {r : Int32} (x0 : Int32) (h : fJ1_canEncode S x0 = some (r, S')) : XM l yJ1_canEncode_9a6ad cJ1_canEncode_9a6ad 1 (some .boolean) { frames := 0, cells := 0, slots := 0, locals := 0 } xL Z [.int x0] S (XQ xL Z r S') := by
  refine XM.of (own := RJ1) (by decide +kernel) rfl rfl hQ (fun p e s m args below meth c E ls hl X => ?_)
  exact wJ1_canEncode E S x0 h _ _ _ X hl
def fJ1_indexOfChar_v1_7_b (k0 : Mem → Int32 → Int32 → Int32 → O) (S : Mem) (x3 x4 x5 : Int32) : O := (if x3 ≤ x5 then some ((-1 : Int32), S) else gd (inB x5 10) <| (if ((byS 1).getD (x5).toNatClampNeg 0) = x4 then some (x5, S) else k0 S x3 x4 (x5 + (1 : Int32))))
def fJ1_indexOfChar_v1_7 : Nat → Mem → Int32 → Int32 → Int32 → O
  | 0 => fun _ _ _ _ => none
  | n + 1 => fJ1_indexOfChar_v1_7_b (fJ1_indexOfChar_v1_7 n)
def fJ1_indexOfChar_v1 (S : Mem) (x1 x2 x3 : Int32) : O := lti ((x1).toInt8.toInt32) fun x4_1 => fJ1_indexOfChar_v1_7  FU S x3 x4_1 x2
theorem dJ1_indexOfChar_4cfef_0 : decode cJ1_indexOfChar_4cfef 0 = .ok (.iload_n 1, 1) := by decide +kernel
theorem dJ1_indexOfChar_4cfef_1 : decode cJ1_indexOfChar_4cfef 1 = .ok (.i2b, 1) := by decide +kernel
theorem dJ1_indexOfChar_4cfef_2 : decode cJ1_indexOfChar_4cfef 2 = .ok (.istore 4, 2) := by decide +kernel
theorem dJ1_indexOfChar_4cfef_4 : decode cJ1_indexOfChar_4cfef 4 = .ok (.iload_n 2, 1) := by decide +kernel
theorem dJ1_indexOfChar_4cfef_5 : decode cJ1_indexOfChar_4cfef 5 = .ok (.istore 5, 2) := by decide +kernel
theorem dJ1_indexOfChar_4cfef_7 : decode cJ1_indexOfChar_4cfef 7 = .ok (.iload 5, 2) := by decide +kernel
theorem dJ1_indexOfChar_4cfef_9 : decode cJ1_indexOfChar_4cfef 9 = .ok (.iload_n 3, 1) := by decide +kernel
theorem dJ1_indexOfChar_4cfef_10 : decode cJ1_indexOfChar_4cfef 10 = .ok (.if_icmp .ge 21, 3) := by decide +kernel
theorem dJ1_indexOfChar_4cfef_13 : decode cJ1_indexOfChar_4cfef 13 = .ok (.aload_n 0, 1) := by decide +kernel
theorem dJ1_indexOfChar_4cfef_14 : decode cJ1_indexOfChar_4cfef 14 = .ok (.iload 5, 2) := by decide +kernel
theorem dJ1_indexOfChar_4cfef_16 : decode cJ1_indexOfChar_4cfef 16 = .ok (.baload, 1) := by decide +kernel
theorem dJ1_indexOfChar_4cfef_17 : decode cJ1_indexOfChar_4cfef 17 = .ok (.iload 4, 2) := by decide +kernel
theorem dJ1_indexOfChar_4cfef_19 : decode cJ1_indexOfChar_4cfef 19 = .ok (.if_icmp .ne 6, 3) := by decide +kernel
theorem dJ1_indexOfChar_4cfef_22 : decode cJ1_indexOfChar_4cfef 22 = .ok (.iload 5, 2) := by decide +kernel
theorem dJ1_indexOfChar_4cfef_24 : decode cJ1_indexOfChar_4cfef 24 = .ok (.ireturn, 1) := by decide +kernel
theorem dJ1_indexOfChar_4cfef_25 : decode cJ1_indexOfChar_4cfef 25 = .ok (.iinc 5 1, 3) := by decide +kernel
theorem dJ1_indexOfChar_4cfef_28 : decode cJ1_indexOfChar_4cfef 28 = .ok (.goto (-21), 3) := by decide +kernel
theorem dJ1_indexOfChar_4cfef_31 : decode cJ1_indexOfChar_4cfef 31 = .ok (.iconst (-1), 1) := by decide +kernel
theorem dJ1_indexOfChar_4cfef_32 : decode cJ1_indexOfChar_4cfef 32 = .ok (.ireturn, 1) := by decide +kernel
set_option maxRecDepth 20000 in
theorem wJ1_indexOfChar_v1_7_b {p : Program} {l : Launch} {e : Env} {s : State} {m : MethodId} {args : Array Value} {below : List Frame} {meth : Method} {c : Code} {Z : XG} {r : Int32} {S' : Mem} (E : XE p s m args meth c cJ1_indexOfChar_4cfef 6 RJ1 (some .int) xL Z) (k0 : Mem → Int32 → Int32 → Int32 → O)  (hk0 : ∀ (S : Mem) (x3 x4 x5 : Int32), k0 S x3 x4 x5 = some (r, S') → WN p l e { frames := 0, cells := 0, slots := 0, locals := 0 } s m args below meth c xL Z (XQ xL Z r S') S 7 6 [(0, .ref (Z.2.2.2.2.2 1)), (3, .int x3), (4, .int x4), (5, .int x5)] []) : ∀ (S : Mem) (x3 x4 x5 : Int32), fJ1_indexOfChar_v1_7_b k0 S x3 x4 x5 = some (r, S') → WN p l e { frames := 0, cells := 0, slots := 0, locals := 0 } s m args below meth c xL Z (XQ xL Z r S') S 7 6 [(0, .ref (Z.2.2.2.2.2 1)), (3, .int x3), (4, .int x4), (5, .int x5)] [] := by
  obtain ⟨hx, hb, -, -, -, -, -, -, -, hQ⟩ := id E
  intro S x3 x4 x5 h H locs ls X hl
  unfold fJ1_indexOfChar_v1_7_b at h
  refine lv_iload hx hb dJ1_indexOfChar_4cfef_7 (lv_at hl 3 rfl) ?_
  refine lv_iload_n hx hb dJ1_indexOfChar_4cfef_9 rfl (lv_at hl 1 rfl) ?_
  refine lv_icmp_ge (tgt := 31) hx hb dJ1_indexOfChar_4cfef_10 (by decide) (fun c_1 => ?_) (fun c_1 => ?_)
  · have h := if_t c_1 h
    refine lv_iconst (v := (-1 : Int32)) hx hb dJ1_indexOfChar_4cfef_31 (by decide) ?_
    exact x_iret E X h dJ1_indexOfChar_4cfef_32
  · have h := if_f c_1 h
    refine lv_aload_n hx hb dJ1_indexOfChar_4cfef_13 rfl (lv_at hl 0 rfl) ?_
    refine lv_iload hx hb dJ1_indexOfChar_4cfef_14 (lv_at hl 3 rfl) ?_
    obtain ⟨g_2, h⟩ := gd_s h
    refine x_sbld E X (by decide) (n := 10) rfl g_2 dJ1_indexOfChar_4cfef_16 ?_
    refine lv_iload hx hb dJ1_indexOfChar_4cfef_17 (lv_at hl 2 rfl) ?_
    refine lv_icmp_ne (tgt := 25) hx hb dJ1_indexOfChar_4cfef_19 (by decide) (fun c_3 => ?_) (fun c_3 => ?_)
    · have h := if_f c_3 h
      refine lv_iinc (v := (x5 + (1 : Int32))) (lv' := [(5, .int (x5 + (1 : Int32))), (0, .ref (Z.2.2.2.2.2 1)), (3, .int x3), (4, .int x4)]) hx hb dJ1_indexOfChar_4cfef_25 hl (k := 3) rfl rfl (by decide) rfl (fun ls hl => ?_)
      refine lv_goto (tgt := 7) hx hb dJ1_indexOfChar_4cfef_28 (by decide) ?_
      exact hk0 S x3 x4 (x5 + (1 : Int32)) h _ _ _ X (lv_sub hl [1, 2, 3, 0] rfl)
    · have h := if_t c_3 h
      refine lv_iload hx hb dJ1_indexOfChar_4cfef_22 (lv_at hl 3 rfl) ?_
      exact x_iret E X h dJ1_indexOfChar_4cfef_24
theorem wJ1_indexOfChar_v1_7 {p : Program} {l : Launch} {e : Env} {s : State} {m : MethodId} {args : Array Value} {below : List Frame} {meth : Method} {c : Code} {Z : XG} {r : Int32} {S' : Mem} (E : XE p s m args meth c cJ1_indexOfChar_4cfef 6 RJ1 (some .int) xL Z) : ∀ (n : Nat) (S : Mem) (x3 x4 x5 : Int32), fJ1_indexOfChar_v1_7 n S x3 x4 x5 = some (r, S') → WN p l e { frames := 0, cells := 0, slots := 0, locals := 0 } s m args below meth c xL Z (XQ xL Z r S') S 7 6 [(0, .ref (Z.2.2.2.2.2 1)), (3, .int x3), (4, .int x4), (5, .int x5)] [] := by
  intro n
  induction n with
  | zero => intro S x3 x4 x5 h; exact absurd (show (none : O) = some _ from h) (by simp)
  | succ n ih => intro S x3 x4 x5 h; exact wJ1_indexOfChar_v1_7_b E (fJ1_indexOfChar_v1_7 n) ih S x3 x4 x5 h
set_option maxRecDepth 20000 in
theorem wJ1_indexOfChar_v1 {p : Program} {l : Launch} {e : Env} {s : State} {m : MethodId} {args : Array Value} {below : List Frame} {meth : Method} {c : Code} {Z : XG} {r : Int32} {S' : Mem} (E : XE p s m args meth c cJ1_indexOfChar_4cfef 6 RJ1 (some .int) xL Z) : ∀ (S : Mem) (x1 x2 x3 : Int32), fJ1_indexOfChar_v1  S x1 x2 x3 = some (r, S') → WN p l e { frames := 0, cells := 0, slots := 0, locals := 0 } s m args below meth c xL Z (XQ xL Z r S') S 0 6 [(0, .ref (Z.2.2.2.2.2 1)), (1, .int x1), (2, .int x2), (3, .int x3)] [] := by
  obtain ⟨hx, hb, -, -, -, -, -, -, -, hQ⟩ := id E
  intro S x1 x2 x3 h H locs ls X hl
  unfold fJ1_indexOfChar_v1 at h
  refine lv_iload_n hx hb dJ1_indexOfChar_4cfef_0 rfl (lv_at hl 1 rfl) ?_
  refine lv_i2b (v := ((x1).toInt8.toInt32)) hx hb dJ1_indexOfChar_4cfef_1 rfl ?_
  obtain ⟨x4_1, ex4_1, h⟩ := lti_s h
  refine lv_nm ex4_1 ?_
  refine lv_istore (lv' := [(4, .int x4_1), (0, .ref (Z.2.2.2.2.2 1)), (1, .int x1), (2, .int x2), (3, .int x3)]) hx hb dJ1_indexOfChar_4cfef_2 hl (by decide) rfl (fun ls hl => ?_)
  refine lv_iload_n hx hb dJ1_indexOfChar_4cfef_4 rfl (lv_at hl 3 rfl) ?_
  refine lv_istore (lv' := [(5, .int x2), (4, .int x4_1), (0, .ref (Z.2.2.2.2.2 1)), (1, .int x1), (2, .int x2), (3, .int x3)]) hx hb dJ1_indexOfChar_4cfef_5 hl (by decide) rfl (fun ls hl => ?_)
  exact wJ1_indexOfChar_v1_7 E   FU S x3 x4_1 x2 h _ _ _ X (lv_sub hl [2, 5, 1, 0] rfl)
/-- java/lang/StringLatin1.indexOfChar([BIII)I -/
theorem mJ1_indexOfChar_v1 (l : Launch) (Z : XG) (hQ : wQ (List.length xL) Z) {S S' : Mem} {r : Int32} (x1 x2 x3 : Int32) (h : fJ1_indexOfChar_v1 S x1 x2 x3 = some (r, S')) : XM l yJ1_indexOfChar_4cfef cJ1_indexOfChar_4cfef 6 (some .int) { frames := 0, cells := 0, slots := 0, locals := 0 } xL Z [.ref (Z.2.2.2.2.2 1), .int x1, .int x2, .int x3] S (XQ xL Z r S') := by
  refine XM.of (own := RJ1) (by decide +kernel) rfl rfl hQ (fun p e s m args below meth c E ls hl X => ?_)
  exact wJ1_indexOfChar_v1 E S x1 x2 x3 h _ _ _ X hl
def fJ1_indexOf_v1 (S : Mem) (x1 x2 x3 : Int32) : O := bnd (fJ1_canEncode S x1) fun r_1 S_2 => (if r_1 = 0 then some ((-1 : Int32), S_2) else lti (imax x2 (0 : Int32)) fun x2_4 => lti (imin x3 (10 : Int32)) fun x3_5 => (if x2_4 < x3_5 then bnd (fJ1_indexOfChar_v1 S_2 x1 x2_4 x3_5) fun r_7 S_8 => some (r_7, S_8) else some ((-1 : Int32), S_2)))
theorem dJ1_indexOf_4cfef_0 : decode cJ1_indexOf_4cfef 0 = .ok (.iload_n 1, 1) := by decide +kernel
theorem dJ1_indexOf_4cfef_1 : decode cJ1_indexOf_4cfef 1 = .ok (.invokestatic 88, 3) := by decide +kernel
theorem dJ1_indexOf_4cfef_4 : decode cJ1_indexOf_4cfef 4 = .ok (.ifCond .ne 5, 3) := by decide +kernel
theorem dJ1_indexOf_4cfef_7 : decode cJ1_indexOf_4cfef 7 = .ok (.iconst (-1), 1) := by decide +kernel
theorem dJ1_indexOf_4cfef_8 : decode cJ1_indexOf_4cfef 8 = .ok (.ireturn, 1) := by decide +kernel
theorem dJ1_indexOf_4cfef_9 : decode cJ1_indexOf_4cfef 9 = .ok (.iload_n 2, 1) := by decide +kernel
theorem dJ1_indexOf_4cfef_10 : decode cJ1_indexOf_4cfef 10 = .ok (.iconst 0, 1) := by decide +kernel
theorem dJ1_indexOf_4cfef_11 : decode cJ1_indexOf_4cfef 11 = .ok (.invokestatic 92, 3) := by decide +kernel
theorem dJ1_indexOf_4cfef_14 : decode cJ1_indexOf_4cfef 14 = .ok (.istore_n 2, 1) := by decide +kernel
theorem dJ1_indexOf_4cfef_15 : decode cJ1_indexOf_4cfef 15 = .ok (.iload_n 3, 1) := by decide +kernel
theorem dJ1_indexOf_4cfef_16 : decode cJ1_indexOf_4cfef 16 = .ok (.aload_n 0, 1) := by decide +kernel
theorem dJ1_indexOf_4cfef_17 : decode cJ1_indexOf_4cfef 17 = .ok (.arraylength, 1) := by decide +kernel
theorem dJ1_indexOf_4cfef_18 : decode cJ1_indexOf_4cfef 18 = .ok (.invokestatic 38, 3) := by decide +kernel
theorem dJ1_indexOf_4cfef_21 : decode cJ1_indexOf_4cfef 21 = .ok (.istore_n 3, 1) := by decide +kernel
theorem dJ1_indexOf_4cfef_22 : decode cJ1_indexOf_4cfef 22 = .ok (.iload_n 2, 1) := by decide +kernel
theorem dJ1_indexOf_4cfef_23 : decode cJ1_indexOf_4cfef 23 = .ok (.iload_n 3, 1) := by decide +kernel
theorem dJ1_indexOf_4cfef_24 : decode cJ1_indexOf_4cfef 24 = .ok (.if_icmp .lt 5, 3) := by decide +kernel
theorem dJ1_indexOf_4cfef_27 : decode cJ1_indexOf_4cfef 27 = .ok (.iconst (-1), 1) := by decide +kernel
theorem dJ1_indexOf_4cfef_28 : decode cJ1_indexOf_4cfef 28 = .ok (.ireturn, 1) := by decide +kernel
theorem dJ1_indexOf_4cfef_29 : decode cJ1_indexOf_4cfef 29 = .ok (.aload_n 0, 1) := by decide +kernel
theorem dJ1_indexOf_4cfef_30 : decode cJ1_indexOf_4cfef 30 = .ok (.iload_n 1, 1) := by decide +kernel
theorem dJ1_indexOf_4cfef_31 : decode cJ1_indexOf_4cfef 31 = .ok (.iload_n 2, 1) := by decide +kernel
theorem dJ1_indexOf_4cfef_32 : decode cJ1_indexOf_4cfef 32 = .ok (.iload_n 3, 1) := by decide +kernel
theorem dJ1_indexOf_4cfef_33 : decode cJ1_indexOf_4cfef 33 = .ok (.invokestatic 95, 3) := by decide +kernel
theorem dJ1_indexOf_4cfef_36 : decode cJ1_indexOf_4cfef 36 = .ok (.ireturn, 1) := by decide +kernel
set_option maxRecDepth 20000 in
theorem wJ1_indexOf_v1 {p : Program} {l : Launch} {e : Env} {s : State} {m : MethodId} {args : Array Value} {below : List Frame} {meth : Method} {c : Code} {Z : XG} {r : Int32} {S' : Mem} (E : XE p s m args meth c cJ1_indexOf_4cfef 4 RJ1 (some .int) xL Z) : ∀ (S : Mem) (x1 x2 x3 : Int32), fJ1_indexOf_v1  S x1 x2 x3 = some (r, S') → WN p l e { frames := 1, cells := 0, slots := 0, locals := 25 } s m args below meth c xL Z (XQ xL Z r S') S 0 4 [(0, .ref (Z.2.2.2.2.2 1)), (1, .int x1), (2, .int x2), (3, .int x3)] [] := by
  obtain ⟨hx, hb, -, -, -, -, -, -, -, hQ⟩ := id E
  intro S x1 x2 x3 h H locs ls X hl
  unfold fJ1_indexOf_v1 at h
  refine lv_iload_n hx hb dJ1_indexOf_4cfef_0 rfl (lv_at hl 1 rfl) ?_
  obtain ⟨r_1, S_2, hr_1, h⟩ := bnd_s h
  refine x_callS E X cwJ1_88 (mJ1_canEncode l Z hQ  x1 hr_1) rfl rfl hl.1 rfl dJ1_indexOf_4cfef_1 (fun H locs X => ?_)
  refine lv_if_ne (tgt := 9) hx hb dJ1_indexOf_4cfef_4 (by decide) (fun c_3 => ?_) (fun c_3 => ?_)
  · have h := if_f c_3 h
    refine lv_iload_n hx hb dJ1_indexOf_4cfef_9 rfl (lv_at hl 2 rfl) ?_
    refine lv_iconst (v := (0 : Int32)) hx hb dJ1_indexOf_4cfef_10 (by decide) ?_
    refine x_mmax E cwJ1_92 hl.1 rfl rfl rfl rfl dJ1_indexOf_4cfef_11 ?_
    refine lv_nm (y := (imax x2 (0 : Int32))) rfl ?_
    obtain ⟨x2_4, ex2_4, h⟩ := lti_s h
    refine lv_nm ex2_4 ?_
    refine lv_istore_n (lv' := [(2, .int x2_4), (0, .ref (Z.2.2.2.2.2 1)), (1, .int x1), (3, .int x3)]) hx hb dJ1_indexOf_4cfef_14 rfl hl (by decide) rfl (fun ls hl => ?_)
    refine lv_iload_n hx hb dJ1_indexOf_4cfef_15 rfl (lv_at hl 3 rfl) ?_
    refine lv_aload_n hx hb dJ1_indexOf_4cfef_16 rfl (lv_at hl 1 rfl) ?_
    refine x_slen E X (v := (10 : Int32)) (by decide) (by decide) dJ1_indexOf_4cfef_17 ?_
    refine x_mmin E cwJ1_38 hl.1 rfl rfl rfl rfl dJ1_indexOf_4cfef_18 ?_
    refine lv_nm (y := (imin x3 (10 : Int32))) rfl ?_
    obtain ⟨x3_5, ex3_5, h⟩ := lti_s h
    refine lv_nm ex3_5 ?_
    refine lv_istore_n (lv' := [(3, .int x3_5), (2, .int x2_4), (0, .ref (Z.2.2.2.2.2 1)), (1, .int x1)]) hx hb dJ1_indexOf_4cfef_21 rfl hl (by decide) rfl (fun ls hl => ?_)
    refine lv_iload_n hx hb dJ1_indexOf_4cfef_22 rfl (lv_at hl 1 rfl) ?_
    refine lv_iload_n hx hb dJ1_indexOf_4cfef_23 rfl (lv_at hl 0 rfl) ?_
    refine lv_icmp_lt (tgt := 29) hx hb dJ1_indexOf_4cfef_24 (by decide) (fun c_6 => ?_) (fun c_6 => ?_)
    · have h := if_t c_6 h
      refine lv_aload_n hx hb dJ1_indexOf_4cfef_29 rfl (lv_at hl 2 rfl) ?_
      refine lv_iload_n hx hb dJ1_indexOf_4cfef_30 rfl (lv_at hl 3 rfl) ?_
      refine lv_iload_n hx hb dJ1_indexOf_4cfef_31 rfl (lv_at hl 1 rfl) ?_
      refine lv_iload_n hx hb dJ1_indexOf_4cfef_32 rfl (lv_at hl 0 rfl) ?_
      obtain ⟨r_7, S_8, hr_7, h⟩ := bnd_s h
      refine x_callS E X cwJ1_95 (mJ1_indexOfChar_v1 l Z hQ  x1 x2_4 x3_5 hr_7) rfl rfl hl.1 rfl dJ1_indexOf_4cfef_33 (fun H locs X => ?_)
      exact x_iret E X h dJ1_indexOf_4cfef_36
    · have h := if_f c_6 h
      refine lv_iconst (v := (-1 : Int32)) hx hb dJ1_indexOf_4cfef_27 (by decide) ?_
      exact x_iret E X h dJ1_indexOf_4cfef_28
  · have h := if_t c_3 h
    refine lv_iconst (v := (-1 : Int32)) hx hb dJ1_indexOf_4cfef_7 (by decide) ?_
    exact x_iret E X h dJ1_indexOf_4cfef_8
/-- java/lang/StringLatin1.indexOf([BIII)I -/
theorem mJ1_indexOf_v1 (l : Launch) (Z : XG) (hQ : wQ (List.length xL) Z) {S S' : Mem} {r : Int32} (x1 x2 x3 : Int32) (h : fJ1_indexOf_v1 S x1 x2 x3 = some (r, S')) : XM l yJ1_indexOf_4cfef cJ1_indexOf_4cfef 4 (some .int) { frames := 1, cells := 0, slots := 0, locals := 25 } xL Z [.ref (Z.2.2.2.2.2 1), .int x1, .int x2, .int x3] S (XQ xL Z r S') := by
  refine XM.of (own := RJ1) (by decide +kernel) rfl rfl hQ (fun p e s m args below meth c E ls hl X => ?_)
  exact wJ1_indexOf_v1 E S x1 x2 x3 h _ _ _ X hl
def fJ0_indexOf2_s1 (S : Mem) (x1 x2 : Int32) : O := bnd (fJ1_indexOf_v1 S x1 x2 (10 : Int32)) fun r_2 S_3 => some (r_2, S_3)
theorem dJ0_indexOf_7cf53_0 : decode cJ0_indexOf_7cf53 0 = .ok (.aload_n 0, 1) := by decide +kernel
theorem dJ0_indexOf_7cf53_1 : decode cJ0_indexOf_7cf53 1 = .ok (.invokevirtual 492, 3) := by decide +kernel
theorem dJ0_indexOf_7cf53_4 : decode cJ0_indexOf_7cf53 4 = .ok (.ifCond .eq 19, 3) := by decide +kernel
theorem dJ0_indexOf_7cf53_7 : decode cJ0_indexOf_7cf53 7 = .ok (.aload_n 0, 1) := by decide +kernel
theorem dJ0_indexOf_7cf53_8 : decode cJ0_indexOf_7cf53 8 = .ok (.getfield 9, 3) := by decide +kernel
theorem dJ0_indexOf_7cf53_11 : decode cJ0_indexOf_7cf53 11 = .ok (.iload_n 1, 1) := by decide +kernel
theorem dJ0_indexOf_7cf53_12 : decode cJ0_indexOf_7cf53 12 = .ok (.iload_n 2, 1) := by decide +kernel
theorem dJ0_indexOf_7cf53_13 : decode cJ0_indexOf_7cf53 13 = .ok (.aload_n 0, 1) := by decide +kernel
theorem dJ0_indexOf_7cf53_14 : decode cJ0_indexOf_7cf53 14 = .ok (.invokevirtual 505, 3) := by decide +kernel
theorem dJ0_indexOf_7cf53_17 : decode cJ0_indexOf_7cf53 17 = .ok (.invokestatic 637, 3) := by decide +kernel
theorem dJ0_indexOf_7cf53_20 : decode cJ0_indexOf_7cf53 20 = .ok (.goto 16, 3) := by decide +kernel
theorem dJ0_indexOf_7cf53_23 : decode cJ0_indexOf_7cf53 23 = .ok (.aload_n 0, 1) := by decide +kernel
theorem dJ0_indexOf_7cf53_24 : decode cJ0_indexOf_7cf53 24 = .ok (.getfield 9, 3) := by decide +kernel
theorem dJ0_indexOf_7cf53_27 : decode cJ0_indexOf_7cf53 27 = .ok (.iload_n 1, 1) := by decide +kernel
theorem dJ0_indexOf_7cf53_28 : decode cJ0_indexOf_7cf53 28 = .ok (.iload_n 2, 1) := by decide +kernel
theorem dJ0_indexOf_7cf53_29 : decode cJ0_indexOf_7cf53 29 = .ok (.aload_n 0, 1) := by decide +kernel
theorem dJ0_indexOf_7cf53_30 : decode cJ0_indexOf_7cf53 30 = .ok (.invokevirtual 505, 3) := by decide +kernel
theorem dJ0_indexOf_7cf53_33 : decode cJ0_indexOf_7cf53 33 = .ok (.invokestatic 640, 3) := by decide +kernel
theorem dJ0_indexOf_7cf53_36 : decode cJ0_indexOf_7cf53 36 = .ok (.ireturn, 1) := by decide +kernel
set_option maxRecDepth 20000 in
theorem wJ0_indexOf2_s1 {p : Program} {l : Launch} {e : Env} {s : State} {m : MethodId} {args : Array Value} {below : List Frame} {meth : Method} {c : Code} {Z : XG} {r : Int32} {S' : Mem} (E : XE p s m args meth c cJ0_indexOf_7cf53 3 RJ0 (some .int) xL Z) : ∀ (S : Mem) (x1 x2 : Int32), fJ0_indexOf2_s1  S x1 x2 = some (r, S') → WN p l e { frames := 2, cells := 0, slots := 0, locals := 48 } s m args below meth c xL Z (XQ xL Z r S') S 0 3 [(0, .ref (Z.2.2.2.2.1 1)), (1, .int x1), (2, .int x2)] [] := by
  obtain ⟨hx, hb, -, -, -, -, -, -, -, hQ⟩ := id E
  intro S x1 x2 h H locs ls X hl
  unfold fJ0_indexOf2_s1 at h
  refine lv_aload_n hx hb dJ0_indexOf_7cf53_0 rfl (lv_at hl 0 rfl) ?_
  refine x_callVs E X cwJ0_492 (mJ0_isLatin1_s1 l Z hQ (S := S) (r := (1 : Int32)) (S' := S) rfl) (by decide) rfl rfl hl.1 rfl dJ0_indexOf_7cf53_1 (fun H locs X => ?_)
  refine lv_if_eq (tgt := 23) hx hb dJ0_indexOf_7cf53_4 (by decide) (fun c_1 => ?_) (fun c_1 => ?_)
  · exact absurd c_1 (by decide)
  · refine lv_aload_n hx hb dJ0_indexOf_7cf53_7 rfl (lv_at hl 0 rfl) ?_
    refine x_sval E X (by decide) (gt_at 1539 (by decide +kernel) (by decide +kernel)) dJ0_indexOf_7cf53_8 ?_
    refine lv_iload_n hx hb dJ0_indexOf_7cf53_11 rfl (lv_at hl 1 rfl) ?_
    refine lv_iload_n hx hb dJ0_indexOf_7cf53_12 rfl (lv_at hl 2 rfl) ?_
    refine lv_aload_n hx hb dJ0_indexOf_7cf53_13 rfl (lv_at hl 0 rfl) ?_
    refine x_callVs E X cwJ0_505 (mJ0_length_s1 l Z hQ (S := S) (r := (10 : Int32)) (S' := S) (congrArg (fun v => some (v, S)) (by decide : ((10 : Int32) >>> ((0 : Int32) &&& 31)) = (10 : Int32)))) (by decide) rfl rfl hl.1 rfl dJ0_indexOf_7cf53_14 (fun H locs X => ?_)
    obtain ⟨r_2, S_3, hr_2, h⟩ := bnd_s h
    refine x_callS E X cwJ0_637 (mJ1_indexOf_v1 l Z hQ  x1 x2 (10 : Int32) hr_2) rfl rfl hl.1 rfl dJ0_indexOf_7cf53_17 (fun H locs X => ?_)
    refine lv_goto (tgt := 36) hx hb dJ0_indexOf_7cf53_20 (by decide) ?_
    exact x_iret E X h dJ0_indexOf_7cf53_36
/-- java/lang/String.indexOf(II)I -/
theorem mJ0_indexOf2_s1 (l : Launch) (Z : XG) (hQ : wQ (List.length xL) Z) {S S' : Mem} {r : Int32} (x1 x2 : Int32) (h : fJ0_indexOf2_s1 S x1 x2 = some (r, S')) : XM l yJ0_indexOf_7cf53 cJ0_indexOf_7cf53 3 (some .int) { frames := 2, cells := 0, slots := 0, locals := 48 } xL Z [.ref (Z.2.2.2.2.1 1), .int x1, .int x2] S (XQ xL Z r S') := by
  refine XM.of (own := RJ0) (by decide +kernel) rfl rfl hQ (fun p e s m args below meth c E ls hl X => ?_)
  exact wJ0_indexOf2_s1 E S x1 x2 h _ _ _ X hl
def fJ0_indexOf1_s1 (S : Mem) (x1 : Int32) : O := bnd (fJ0_indexOf2_s1 S x1 (0 : Int32)) fun r_1 S_2 => some (r_1, S_2)
theorem dJ0_indexOf_0f7a4_0 : decode cJ0_indexOf_0f7a4 0 = .ok (.aload_n 0, 1) := by decide +kernel
theorem dJ0_indexOf_0f7a4_1 : decode cJ0_indexOf_0f7a4 1 = .ok (.iload_n 1, 1) := by decide +kernel
theorem dJ0_indexOf_0f7a4_2 : decode cJ0_indexOf_0f7a4 2 = .ok (.iconst 0, 1) := by decide +kernel
theorem dJ0_indexOf_0f7a4_3 : decode cJ0_indexOf_0f7a4 3 = .ok (.invokevirtual 633, 3) := by decide +kernel
theorem dJ0_indexOf_0f7a4_6 : decode cJ0_indexOf_0f7a4 6 = .ok (.ireturn, 1) := by decide +kernel
set_option maxRecDepth 20000 in
theorem wJ0_indexOf1_s1 {p : Program} {l : Launch} {e : Env} {s : State} {m : MethodId} {args : Array Value} {below : List Frame} {meth : Method} {c : Code} {Z : XG} {r : Int32} {S' : Mem} (E : XE p s m args meth c cJ0_indexOf_0f7a4 2 RJ0 (some .int) xL Z) : ∀ (S : Mem) (x1 : Int32), fJ0_indexOf1_s1  S x1 = some (r, S') → WN p l e { frames := 3, cells := 0, slots := 0, locals := 70 } s m args below meth c xL Z (XQ xL Z r S') S 0 2 [(0, .ref (Z.2.2.2.2.1 1)), (1, .int x1)] [] := by
  obtain ⟨hx, hb, -, -, -, -, -, -, -, hQ⟩ := id E
  intro S x1 h H locs ls X hl
  unfold fJ0_indexOf1_s1 at h
  refine lv_aload_n hx hb dJ0_indexOf_0f7a4_0 rfl (lv_at hl 0 rfl) ?_
  refine lv_iload_n hx hb dJ0_indexOf_0f7a4_1 rfl (lv_at hl 1 rfl) ?_
  refine lv_iconst (v := (0 : Int32)) hx hb dJ0_indexOf_0f7a4_2 (by decide) ?_
  obtain ⟨r_1, S_2, hr_1, h⟩ := bnd_s h
  refine x_callVs E X cwJ0_633 (mJ0_indexOf2_s1 l Z hQ  x1 (0 : Int32) hr_1) (by decide) rfl rfl hl.1 rfl dJ0_indexOf_0f7a4_3 (fun H locs X => ?_)
  exact x_iret E X h dJ0_indexOf_0f7a4_6
/-- java/lang/String.indexOf(I)I -/
theorem mJ0_indexOf1_s1 (l : Launch) (Z : XG) (hQ : wQ (List.length xL) Z) {S S' : Mem} {r : Int32} (x1 : Int32) (h : fJ0_indexOf1_s1 S x1 = some (r, S')) : XM l yJ0_indexOf_0f7a4 cJ0_indexOf_0f7a4 2 (some .int) { frames := 3, cells := 0, slots := 0, locals := 70 } xL Z [.ref (Z.2.2.2.2.1 1), .int x1] S (XQ xL Z r S') := by
  refine XM.of (own := RJ0) (by decide +kernel) rfl rfl hQ (fun p e s m args below meth c E ls hl X => ?_)
  exact wJ0_indexOf1_s1 E S x1 h _ _ _ X hl
