def fX1_takeTurn_105 (S : Mem) (x1 x5 x6 x7 : Int32) : O := (if x7 = (2 : Int32) then (if x6 = 0 then bnd (fX1_buyShade S x1 x5) fun _ S_4 => some ((0 : Int32), S_4) else some ((0 : Int32), S)) else some ((0 : Int32), S))
def fX1_takeTurn (S : Mem) (x1 x2 x3 : Int32) : O := bnd (fX6_inHour S x2 (3 : Int32)) fun r_1 S_2 => bnd (fX6_shadeIn S_2 x2 r_1 (-1 : Int32)) fun r_3 S_4 => bnd (fX6_isShaded S_4 x1 r_3) fun r_5 S_6 => bnd (fX1_fillValues S_6 x1 x2 x3 r_5) fun _ S_8 => bnd (fX4_choose_8_31 S_8 ) fun r_9 S_10 => (if r_9 = (3 : Int32) then bnd (fX1_flee S_10 x1) fun _ S_19 => some ((0 : Int32), S_19) else (if r_9 = (1 : Int32) then (if r_5 = 0 then bnd (fX6_shadeIn S_10 x2 r_1 x1) fun r_14 S_15 => bnd (fX1_goToNearest S_15 x1 r_14) fun _ S_17 => some ((0 : Int32), S_17) else fX1_takeTurn_105  S_10 x1 r_3 r_5 r_9) else fX1_takeTurn_105  S_10 x1 r_3 r_5 r_9))
theorem dX1_takeTurn_0 : decode cX1_takeTurn 0 = .ok (.aload_n 0, 1) := by decide +kernel
theorem dX1_takeTurn_1 : decode cX1_takeTurn 1 = .ok (.getfield 15, 3) := by decide +kernel
theorem dX1_takeTurn_4 : decode cX1_takeTurn 4 = .ok (.iload_n 2, 1) := by decide +kernel
theorem dX1_takeTurn_5 : decode cX1_takeTurn 5 = .ok (.iconst 3, 1) := by decide +kernel
theorem dX1_takeTurn_6 : decode cX1_takeTurn 6 = .ok (.invokevirtual 47, 3) := by decide +kernel
theorem dX1_takeTurn_9 : decode cX1_takeTurn 9 = .ok (.istore 4, 2) := by decide +kernel
theorem dX1_takeTurn_11 : decode cX1_takeTurn 11 = .ok (.aload_n 0, 1) := by decide +kernel
theorem dX1_takeTurn_12 : decode cX1_takeTurn 12 = .ok (.getfield 15, 3) := by decide +kernel
theorem dX1_takeTurn_15 : decode cX1_takeTurn 15 = .ok (.iload_n 2, 1) := by decide +kernel
theorem dX1_takeTurn_16 : decode cX1_takeTurn 16 = .ok (.iload 4, 2) := by decide +kernel
theorem dX1_takeTurn_18 : decode cX1_takeTurn 18 = .ok (.iconst (-1), 1) := by decide +kernel
theorem dX1_takeTurn_19 : decode cX1_takeTurn 19 = .ok (.invokevirtual 53, 3) := by decide +kernel
theorem dX1_takeTurn_22 : decode cX1_takeTurn 22 = .ok (.istore 5, 2) := by decide +kernel
theorem dX1_takeTurn_24 : decode cX1_takeTurn 24 = .ok (.aload_n 0, 1) := by decide +kernel
theorem dX1_takeTurn_25 : decode cX1_takeTurn 25 = .ok (.getfield 15, 3) := by decide +kernel
theorem dX1_takeTurn_28 : decode cX1_takeTurn 28 = .ok (.iload_n 1, 1) := by decide +kernel
theorem dX1_takeTurn_29 : decode cX1_takeTurn 29 = .ok (.iload 5, 2) := by decide +kernel
theorem dX1_takeTurn_31 : decode cX1_takeTurn 31 = .ok (.invokevirtual 57, 3) := by decide +kernel
theorem dX1_takeTurn_34 : decode cX1_takeTurn 34 = .ok (.istore 6, 2) := by decide +kernel
theorem dX1_takeTurn_36 : decode cX1_takeTurn 36 = .ok (.aload_n 0, 1) := by decide +kernel
theorem dX1_takeTurn_37 : decode cX1_takeTurn 37 = .ok (.iload_n 1, 1) := by decide +kernel
theorem dX1_takeTurn_38 : decode cX1_takeTurn 38 = .ok (.iload_n 2, 1) := by decide +kernel
theorem dX1_takeTurn_39 : decode cX1_takeTurn 39 = .ok (.iload_n 3, 1) := by decide +kernel
theorem dX1_takeTurn_40 : decode cX1_takeTurn 40 = .ok (.iload 6, 2) := by decide +kernel
theorem dX1_takeTurn_42 : decode cX1_takeTurn 42 = .ok (.invokevirtual 61, 3) := by decide +kernel
theorem dX1_takeTurn_45 : decode cX1_takeTurn 45 = .ok (.aload_n 0, 1) := by decide +kernel
theorem dX1_takeTurn_46 : decode cX1_takeTurn 46 = .ok (.getfield 15, 3) := by decide +kernel
theorem dX1_takeTurn_49 : decode cX1_takeTurn 49 = .ok (.getfield 65, 3) := by decide +kernel
theorem dX1_takeTurn_52 : decode cX1_takeTurn 52 = .ok (.aload_n 0, 1) := by decide +kernel
theorem dX1_takeTurn_53 : decode cX1_takeTurn 53 = .ok (.getfield 9, 3) := by decide +kernel
theorem dX1_takeTurn_56 : decode cX1_takeTurn 56 = .ok (.invokevirtual 69, 3) := by decide +kernel
theorem dX1_takeTurn_59 : decode cX1_takeTurn 59 = .ok (.istore 7, 2) := by decide +kernel
theorem dX1_takeTurn_61 : decode cX1_takeTurn 61 = .ok (.iload 7, 2) := by decide +kernel
theorem dX1_takeTurn_63 : decode cX1_takeTurn 63 = .ok (.iconst 3, 1) := by decide +kernel
theorem dX1_takeTurn_64 : decode cX1_takeTurn 64 = .ok (.if_icmp .ne 11, 3) := by decide +kernel
theorem dX1_takeTurn_67 : decode cX1_takeTurn 67 = .ok (.aload_n 0, 1) := by decide +kernel
theorem dX1_takeTurn_68 : decode cX1_takeTurn 68 = .ok (.iload_n 1, 1) := by decide +kernel
theorem dX1_takeTurn_69 : decode cX1_takeTurn 69 = .ok (.invokevirtual 75, 3) := by decide +kernel
theorem dX1_takeTurn_72 : decode cX1_takeTurn 72 = .ok (.goto 51, 3) := by decide +kernel
theorem dX1_takeTurn_75 : decode cX1_takeTurn 75 = .ok (.iload 7, 2) := by decide +kernel
theorem dX1_takeTurn_77 : decode cX1_takeTurn 77 = .ok (.iconst 1, 1) := by decide +kernel
theorem dX1_takeTurn_78 : decode cX1_takeTurn 78 = .ok (.if_icmp .ne 27, 3) := by decide +kernel
theorem dX1_takeTurn_81 : decode cX1_takeTurn 81 = .ok (.iload 6, 2) := by decide +kernel
theorem dX1_takeTurn_83 : decode cX1_takeTurn 83 = .ok (.ifCond .ne 22, 3) := by decide +kernel
theorem dX1_takeTurn_86 : decode cX1_takeTurn 86 = .ok (.aload_n 0, 1) := by decide +kernel
theorem dX1_takeTurn_87 : decode cX1_takeTurn 87 = .ok (.iload_n 1, 1) := by decide +kernel
theorem dX1_takeTurn_88 : decode cX1_takeTurn 88 = .ok (.aload_n 0, 1) := by decide +kernel
theorem dX1_takeTurn_89 : decode cX1_takeTurn 89 = .ok (.getfield 15, 3) := by decide +kernel
theorem dX1_takeTurn_92 : decode cX1_takeTurn 92 = .ok (.iload_n 2, 1) := by decide +kernel
theorem dX1_takeTurn_93 : decode cX1_takeTurn 93 = .ok (.iload 4, 2) := by decide +kernel
theorem dX1_takeTurn_95 : decode cX1_takeTurn 95 = .ok (.iload_n 1, 1) := by decide +kernel
theorem dX1_takeTurn_96 : decode cX1_takeTurn 96 = .ok (.invokevirtual 53, 3) := by decide +kernel
theorem dX1_takeTurn_99 : decode cX1_takeTurn 99 = .ok (.invokevirtual 79, 3) := by decide +kernel
theorem dX1_takeTurn_102 : decode cX1_takeTurn 102 = .ok (.goto 21, 3) := by decide +kernel
theorem dX1_takeTurn_105 : decode cX1_takeTurn 105 = .ok (.iload 7, 2) := by decide +kernel
theorem dX1_takeTurn_107 : decode cX1_takeTurn 107 = .ok (.iconst 2, 1) := by decide +kernel
theorem dX1_takeTurn_108 : decode cX1_takeTurn 108 = .ok (.if_icmp .ne 15, 3) := by decide +kernel
theorem dX1_takeTurn_111 : decode cX1_takeTurn 111 = .ok (.iload 6, 2) := by decide +kernel
theorem dX1_takeTurn_113 : decode cX1_takeTurn 113 = .ok (.ifCond .ne 10, 3) := by decide +kernel
theorem dX1_takeTurn_116 : decode cX1_takeTurn 116 = .ok (.aload_n 0, 1) := by decide +kernel
theorem dX1_takeTurn_117 : decode cX1_takeTurn 117 = .ok (.iload_n 1, 1) := by decide +kernel
theorem dX1_takeTurn_118 : decode cX1_takeTurn 118 = .ok (.iload 5, 2) := by decide +kernel
theorem dX1_takeTurn_120 : decode cX1_takeTurn 120 = .ok (.invokevirtual 83, 3) := by decide +kernel
theorem dX1_takeTurn_123 : decode cX1_takeTurn 123 = .ok (.return_, 1) := by decide +kernel
set_option maxRecDepth 20000 in
theorem wX1_takeTurn_105 {p : Program} {l : Launch} {e : Env} {s : State} {m : MethodId} {args : Array Value} {below : List Frame} {meth : Method} {c : Code} {Z : XG} {r : Int32} {S' : Mem} (E : XE p s m args meth c cX1_takeTurn 8 RX1 none xL Z) : ∀ (S : Mem) (x1 x5 x6 x7 : Int32), fX1_takeTurn_105  S x1 x5 x6 x7 = some (r, S') → WN p l e { frames := 5, cells := 0, slots := 0, locals := 115 } s m args below meth c xL Z (XV xL Z S') S 105 8 [(0, .ref (Z.2.1 30)), (1, .int x1), (5, .int x5), (6, .int x6), (7, .int x7)] [] := by
  obtain ⟨hx, hb, -, -, -, -, -, -, -, hQ⟩ := id E
  intro S x1 x5 x6 x7 h H locs ls X hl
  unfold fX1_takeTurn_105 at h
  refine lv_iload hx hb dX1_takeTurn_105 (lv_at hl 4 rfl) ?_
  refine lv_iconst (v := (2 : Int32)) hx hb dX1_takeTurn_107 (by decide) ?_
  refine lv_icmp_ne (tgt := 123) hx hb dX1_takeTurn_108 (by decide) (fun c_1 => ?_) (fun c_1 => ?_)
  · have h := if_f c_1 h
    exact x_vret E X h dX1_takeTurn_123
  · have h := if_t c_1 h
    refine lv_iload hx hb dX1_takeTurn_111 (lv_at hl 3 rfl) ?_
    refine lv_if_ne (tgt := 123) hx hb dX1_takeTurn_113 (by decide) (fun c_2 => ?_) (fun c_2 => ?_)
    · have h := if_f c_2 h
      exact x_vret E X h dX1_takeTurn_123
    · have h := if_t c_2 h
      refine lv_aload_n hx hb dX1_takeTurn_116 rfl (lv_at hl 0 rfl) ?_
      refine lv_iload_n hx hb dX1_takeTurn_117 rfl (lv_at hl 1 rfl) ?_
      refine lv_iload hx hb dX1_takeTurn_118 (lv_at hl 2 rfl) ?_
      obtain ⟨r_3, S_4, hr_3, h⟩ := bnd_s h
      refine x_callVv E X cwX1_83 (mX1_buyShade l Z hQ  x1 x5 hr_3) rfl rfl rfl rfl hl.1 rfl dX1_takeTurn_120 (fun H locs X => ?_)
      exact x_vret E X h dX1_takeTurn_123
set_option maxRecDepth 20000 in
theorem wX1_takeTurn {p : Program} {l : Launch} {e : Env} {s : State} {m : MethodId} {args : Array Value} {below : List Frame} {meth : Method} {c : Code} {Z : XG} {r : Int32} {S' : Mem} (E : XE p s m args meth c cX1_takeTurn 8 RX1 none xL Z) : ∀ (S : Mem) (x1 x2 x3 : Int32), fX1_takeTurn  S x1 x2 x3 = some (r, S') → WN p l e { frames := 5, cells := 0, slots := 0, locals := 115 } s m args below meth c xL Z (XV xL Z S') S 0 8 [(0, .ref (Z.2.1 30)), (1, .int x1), (2, .int x2), (3, .int x3)] [] := by
  obtain ⟨hx, hb, -, -, -, -, -, -, -, hQ⟩ := id E
  intro S x1 x2 x3 h H locs ls X hl
  unfold fX1_takeTurn at h
  refine lv_aload_n hx hb dX1_takeTurn_0 rfl (lv_at hl 0 rfl) ?_
  refine x_getr E X ffX1_15 rfl rfl dX1_takeTurn_1 ?_
  refine lv_iload_n hx hb dX1_takeTurn_4 rfl (lv_at hl 2 rfl) ?_
  refine lv_iconst (v := (3 : Int32)) hx hb dX1_takeTurn_5 (by decide) ?_
  obtain ⟨r_1, S_2, hr_1, h⟩ := bnd_s h
  refine x_callV E X cwX1_47 (mX6_inHour l Z hQ  x2 (3 : Int32) hr_1) rfl rfl rfl rfl hl.1 rfl dX1_takeTurn_6 (fun H locs X => ?_)
  refine lv_istore (lv' := [(4, .int r_1), (0, .ref (Z.2.1 30)), (1, .int x1), (2, .int x2), (3, .int x3)]) hx hb dX1_takeTurn_9 hl (by decide) rfl (fun ls hl => ?_)
  refine lv_aload_n hx hb dX1_takeTurn_11 rfl (lv_at hl 1 rfl) ?_
  refine x_getr E X ffX1_15 rfl rfl dX1_takeTurn_12 ?_
  refine lv_iload_n hx hb dX1_takeTurn_15 rfl (lv_at hl 3 rfl) ?_
  refine lv_iload hx hb dX1_takeTurn_16 (lv_at hl 0 rfl) ?_
  refine lv_iconst (v := (-1 : Int32)) hx hb dX1_takeTurn_18 (by decide) ?_
  obtain ⟨r_3, S_4, hr_3, h⟩ := bnd_s h
  refine x_callV E X cwX1_53 (mX6_shadeIn l Z hQ  x2 r_1 (-1 : Int32) hr_3) rfl rfl rfl rfl hl.1 rfl dX1_takeTurn_19 (fun H locs X => ?_)
  refine lv_istore (lv' := [(5, .int r_3), (4, .int r_1), (0, .ref (Z.2.1 30)), (1, .int x1), (2, .int x2), (3, .int x3)]) hx hb dX1_takeTurn_22 hl (by decide) rfl (fun ls hl => ?_)
  refine lv_aload_n hx hb dX1_takeTurn_24 rfl (lv_at hl 2 rfl) ?_
  refine x_getr E X ffX1_15 rfl rfl dX1_takeTurn_25 ?_
  refine lv_iload_n hx hb dX1_takeTurn_28 rfl (lv_at hl 3 rfl) ?_
  refine lv_iload hx hb dX1_takeTurn_29 (lv_at hl 0 rfl) ?_
  obtain ⟨r_5, S_6, hr_5, h⟩ := bnd_s h
  refine x_callV E X cwX1_57 (mX6_isShaded l Z hQ  x1 r_3 hr_5) rfl rfl rfl rfl hl.1 rfl dX1_takeTurn_31 (fun H locs X => ?_)
  refine lv_istore (lv' := [(6, .int r_5), (5, .int r_3), (4, .int r_1), (0, .ref (Z.2.1 30)), (1, .int x1), (2, .int x2), (3, .int x3)]) hx hb dX1_takeTurn_34 hl (by decide) rfl (fun ls hl => ?_)
  refine lv_aload_n hx hb dX1_takeTurn_36 rfl (lv_at hl 3 rfl) ?_
  refine lv_iload_n hx hb dX1_takeTurn_37 rfl (lv_at hl 4 rfl) ?_
  refine lv_iload_n hx hb dX1_takeTurn_38 rfl (lv_at hl 5 rfl) ?_
  refine lv_iload_n hx hb dX1_takeTurn_39 rfl (lv_at hl 6 rfl) ?_
  refine lv_iload hx hb dX1_takeTurn_40 (lv_at hl 0 rfl) ?_
  obtain ⟨r_7, S_8, hr_7, h⟩ := bnd_s h
  refine x_callVv E X cwX1_61 (mX1_fillValues l Z hQ  x1 x2 x3 r_5 hr_7) rfl rfl rfl rfl hl.1 rfl dX1_takeTurn_42 (fun H locs X => ?_)
  refine lv_aload_n hx hb dX1_takeTurn_45 rfl (lv_at hl 3 rfl) ?_
  refine x_getr E X ffX1_15 rfl rfl dX1_takeTurn_46 ?_
  refine x_getr E X ffX1_65 rfl rfl dX1_takeTurn_49 ?_
  refine lv_aload_n hx hb dX1_takeTurn_52 rfl (lv_at hl 3 rfl) ?_
  refine x_getr E X ffX1_9 rfl rfl dX1_takeTurn_53 ?_
  obtain ⟨r_9, S_10, hr_9, h⟩ := bnd_s h
  refine x_callV E X cwX1_69 (mX4_choose_8_31 l Z hQ   hr_9) rfl rfl rfl rfl hl.1 rfl dX1_takeTurn_56 (fun H locs X => ?_)
  refine lv_istore (lv' := [(7, .int r_9), (6, .int r_5), (5, .int r_3), (4, .int r_1), (0, .ref (Z.2.1 30)), (1, .int x1), (2, .int x2), (3, .int x3)]) hx hb dX1_takeTurn_59 hl (by decide) rfl (fun ls hl => ?_)
  refine lv_iload hx hb dX1_takeTurn_61 (lv_at hl 0 rfl) ?_
  refine lv_iconst (v := (3 : Int32)) hx hb dX1_takeTurn_63 (by decide) ?_
  refine lv_icmp_ne (tgt := 75) hx hb dX1_takeTurn_64 (by decide) (fun c_11 => ?_) (fun c_11 => ?_)
  · have h := if_f c_11 h
    refine lv_iload hx hb dX1_takeTurn_75 (lv_at hl 0 rfl) ?_
    refine lv_iconst (v := (1 : Int32)) hx hb dX1_takeTurn_77 (by decide) ?_
    refine lv_icmp_ne (tgt := 105) hx hb dX1_takeTurn_78 (by decide) (fun c_12 => ?_) (fun c_12 => ?_)
    · have h := if_f c_12 h
      exact wX1_takeTurn_105 E   S_10 x1 r_3 r_5 r_9 h _ _ _ X (lv_sub hl [4, 5, 2, 1, 0] rfl)
    · have h := if_t c_12 h
      refine lv_iload hx hb dX1_takeTurn_81 (lv_at hl 1 rfl) ?_
      refine lv_if_ne (tgt := 105) hx hb dX1_takeTurn_83 (by decide) (fun c_13 => ?_) (fun c_13 => ?_)
      · have h := if_f c_13 h
        exact wX1_takeTurn_105 E   S_10 x1 r_3 r_5 r_9 h _ _ _ X (lv_sub hl [4, 5, 2, 1, 0] rfl)
      · have h := if_t c_13 h
        refine lv_aload_n hx hb dX1_takeTurn_86 rfl (lv_at hl 4 rfl) ?_
        refine lv_iload_n hx hb dX1_takeTurn_87 rfl (lv_at hl 5 rfl) ?_
        refine lv_aload_n hx hb dX1_takeTurn_88 rfl (lv_at hl 4 rfl) ?_
        refine x_getr E X ffX1_15 rfl rfl dX1_takeTurn_89 ?_
        refine lv_iload_n hx hb dX1_takeTurn_92 rfl (lv_at hl 6 rfl) ?_
        refine lv_iload hx hb dX1_takeTurn_93 (lv_at hl 3 rfl) ?_
        refine lv_iload_n hx hb dX1_takeTurn_95 rfl (lv_at hl 5 rfl) ?_
        obtain ⟨r_14, S_15, hr_14, h⟩ := bnd_s h
        refine x_callV E X cwX1_53 (mX6_shadeIn l Z hQ  x2 r_1 x1 hr_14) rfl rfl rfl rfl hl.1 rfl dX1_takeTurn_96 (fun H locs X => ?_)
        obtain ⟨r_16, S_17, hr_16, h⟩ := bnd_s h
        refine x_callVv E X cwX1_79 (mX1_goToNearest l Z hQ  x1 r_14 hr_16) rfl rfl rfl rfl hl.1 rfl dX1_takeTurn_99 (fun H locs X => ?_)
        refine lv_goto (tgt := 123) hx hb dX1_takeTurn_102 (by decide) ?_
        exact x_vret E X h dX1_takeTurn_123
  · have h := if_t c_11 h
    refine lv_aload_n hx hb dX1_takeTurn_67 rfl (lv_at hl 4 rfl) ?_
    refine lv_iload_n hx hb dX1_takeTurn_68 rfl (lv_at hl 5 rfl) ?_
    obtain ⟨r_18, S_19, hr_18, h⟩ := bnd_s h
    refine x_callVv E X cwX1_75 (mX1_flee l Z hQ  x1 hr_18) rfl rfl rfl rfl hl.1 rfl dX1_takeTurn_69 (fun H locs X => ?_)
    refine lv_goto (tgt := 123) hx hb dX1_takeTurn_72 (by decide) ?_
    exact x_vret E X h dX1_takeTurn_123
/-- SevenToAShadow$March.takeTurn(III)V -/
theorem mX1_takeTurn (l : Launch) (Z : XG) (hQ : wQ (List.length xL) Z) {S S' : Mem} {r : Int32} (x1 x2 x3 : Int32) (h : fX1_takeTurn S x1 x2 x3 = some (r, S')) : XM l yX1_takeTurn cX1_takeTurn 8 none { frames := 5, cells := 0, slots := 0, locals := 115 } xL Z [.ref (Z.2.1 30), .int x1, .int x2, .int x3] S (XV xL Z S') := by
  refine XM.of (own := RX1) (by decide +kernel) rfl rfl hQ (fun p e s m args below meth c E ls hl X => ?_)
  exact wX1_takeTurn E S x1 x2 x3 h _ _ _ X hl
def fX1_passHour_16_b (k0 : Mem → Int32 → Int32 → Int32 → O) (S : Mem) (x1 x2 x3 : Int32) : O := (if (S 1 9) ≤ x3 then bnd (fX1_burnAll S x1 x2) fun r_2 S_3 => bnd (fX1_countFights S_3 ) fun r_4 S_5 => ltm (mset S_5 1 10 ((S_3 1 10) + r_4)) fun S_6 => ltm (mset S_6 1 8 ((S_6 1 8) + (1 : Int32))) fun S_7 => some (r_2, S_7) else bnd (fX1_takeTurn S x3 x1 x2) fun _ S_9 => k0 S_9 x1 x2 (x3 + (1 : Int32)))
def fX1_passHour_16 : Nat → Mem → Int32 → Int32 → Int32 → O
  | 0 => fun _ _ _ _ => none
  | n + 1 => fX1_passHour_16_b (fX1_passHour_16 n)
def fX1_passHour (S : Mem) : O := lti (S 1 8) fun x1_1 => bnd (fX1_heatUnderClouds S x1_1) fun r_2 S_3 => fX1_passHour_16  FU S_3 x1_1 r_2 (0 : Int32)
theorem dX1_passHour_0 : decode cX1_passHour 0 = .ok (.aload_n 0, 1) := by decide +kernel
theorem dX1_passHour_1 : decode cX1_passHour 1 = .ok (.getfield 15, 3) := by decide +kernel
theorem dX1_passHour_4 : decode cX1_passHour 4 = .ok (.getfield 19, 3) := by decide +kernel
theorem dX1_passHour_7 : decode cX1_passHour 7 = .ok (.istore_n 1, 1) := by decide +kernel
theorem dX1_passHour_8 : decode cX1_passHour 8 = .ok (.aload_n 0, 1) := by decide +kernel
theorem dX1_passHour_9 : decode cX1_passHour 9 = .ok (.iload_n 1, 1) := by decide +kernel
theorem dX1_passHour_10 : decode cX1_passHour 10 = .ok (.invokevirtual 25, 3) := by decide +kernel
theorem dX1_passHour_13 : decode cX1_passHour 13 = .ok (.istore_n 2, 1) := by decide +kernel
theorem dX1_passHour_14 : decode cX1_passHour 14 = .ok (.iconst 0, 1) := by decide +kernel
theorem dX1_passHour_15 : decode cX1_passHour 15 = .ok (.istore_n 3, 1) := by decide +kernel
theorem dX1_passHour_16 : decode cX1_passHour 16 = .ok (.iload_n 3, 1) := by decide +kernel
theorem dX1_passHour_17 : decode cX1_passHour 17 = .ok (.aload_n 0, 1) := by decide +kernel
theorem dX1_passHour_18 : decode cX1_passHour 18 = .ok (.getfield 15, 3) := by decide +kernel
theorem dX1_passHour_21 : decode cX1_passHour 21 = .ok (.getfield 29, 3) := by decide +kernel
theorem dX1_passHour_24 : decode cX1_passHour 24 = .ok (.if_icmp .ge 16, 3) := by decide +kernel
theorem dX1_passHour_27 : decode cX1_passHour 27 = .ok (.aload_n 0, 1) := by decide +kernel
theorem dX1_passHour_28 : decode cX1_passHour 28 = .ok (.iload_n 3, 1) := by decide +kernel
theorem dX1_passHour_29 : decode cX1_passHour 29 = .ok (.iload_n 1, 1) := by decide +kernel
theorem dX1_passHour_30 : decode cX1_passHour 30 = .ok (.iload_n 2, 1) := by decide +kernel
theorem dX1_passHour_31 : decode cX1_passHour 31 = .ok (.invokevirtual 32, 3) := by decide +kernel
theorem dX1_passHour_34 : decode cX1_passHour 34 = .ok (.iinc 3 1, 3) := by decide +kernel
theorem dX1_passHour_37 : decode cX1_passHour 37 = .ok (.goto (-21), 3) := by decide +kernel
theorem dX1_passHour_40 : decode cX1_passHour 40 = .ok (.aload_n 0, 1) := by decide +kernel
theorem dX1_passHour_41 : decode cX1_passHour 41 = .ok (.iload_n 1, 1) := by decide +kernel
theorem dX1_passHour_42 : decode cX1_passHour 42 = .ok (.iload_n 2, 1) := by decide +kernel
theorem dX1_passHour_43 : decode cX1_passHour 43 = .ok (.invokevirtual 36, 3) := by decide +kernel
theorem dX1_passHour_46 : decode cX1_passHour 46 = .ok (.istore_n 3, 1) := by decide +kernel
theorem dX1_passHour_47 : decode cX1_passHour 47 = .ok (.aload_n 0, 1) := by decide +kernel
theorem dX1_passHour_48 : decode cX1_passHour 48 = .ok (.getfield 15, 3) := by decide +kernel
theorem dX1_passHour_51 : decode cX1_passHour 51 = .ok (.dup, 1) := by decide +kernel
theorem dX1_passHour_52 : decode cX1_passHour 52 = .ok (.getfield 40, 3) := by decide +kernel
theorem dX1_passHour_55 : decode cX1_passHour 55 = .ok (.aload_n 0, 1) := by decide +kernel
theorem dX1_passHour_56 : decode cX1_passHour 56 = .ok (.invokevirtual 43, 3) := by decide +kernel
theorem dX1_passHour_59 : decode cX1_passHour 59 = .ok (.iadd, 1) := by decide +kernel
theorem dX1_passHour_60 : decode cX1_passHour 60 = .ok (.putfield 40, 3) := by decide +kernel
theorem dX1_passHour_63 : decode cX1_passHour 63 = .ok (.aload_n 0, 1) := by decide +kernel
theorem dX1_passHour_64 : decode cX1_passHour 64 = .ok (.getfield 15, 3) := by decide +kernel
theorem dX1_passHour_67 : decode cX1_passHour 67 = .ok (.dup, 1) := by decide +kernel
theorem dX1_passHour_68 : decode cX1_passHour 68 = .ok (.getfield 19, 3) := by decide +kernel
theorem dX1_passHour_71 : decode cX1_passHour 71 = .ok (.iconst 1, 1) := by decide +kernel
theorem dX1_passHour_72 : decode cX1_passHour 72 = .ok (.iadd, 1) := by decide +kernel
theorem dX1_passHour_73 : decode cX1_passHour 73 = .ok (.putfield 19, 3) := by decide +kernel
theorem dX1_passHour_76 : decode cX1_passHour 76 = .ok (.iload_n 3, 1) := by decide +kernel
theorem dX1_passHour_77 : decode cX1_passHour 77 = .ok (.ireturn, 1) := by decide +kernel
set_option maxRecDepth 20000 in
theorem wX1_passHour_16_b {p : Program} {l : Launch} {e : Env} {s : State} {m : MethodId} {args : Array Value} {below : List Frame} {meth : Method} {c : Code} {Z : XG} {r : Int32} {S' : Mem} (E : XE p s m args meth c cX1_passHour 4 RX1 (some .int) xL Z) (k0 : Mem → Int32 → Int32 → Int32 → O)  (hk0 : ∀ (S : Mem) (x1 x2 x3 : Int32), k0 S x1 x2 x3 = some (r, S') → WN p l e { frames := 6, cells := 0, slots := 0, locals := 142 } s m args below meth c xL Z (XQ xL Z r S') S 16 4 [(0, .ref (Z.2.1 30)), (1, .int x1), (2, .int x2), (3, .int x3)] []) : ∀ (S : Mem) (x1 x2 x3 : Int32), fX1_passHour_16_b k0 S x1 x2 x3 = some (r, S') → WN p l e { frames := 6, cells := 0, slots := 0, locals := 142 } s m args below meth c xL Z (XQ xL Z r S') S 16 4 [(0, .ref (Z.2.1 30)), (1, .int x1), (2, .int x2), (3, .int x3)] [] := by
  obtain ⟨hx, hb, -, -, -, -, -, -, -, hQ⟩ := id E
  intro S x1 x2 x3 h H locs ls X hl
  unfold fX1_passHour_16_b at h
  refine lv_iload_n hx hb dX1_passHour_16 rfl (lv_at hl 3 rfl) ?_
  refine lv_aload_n hx hb dX1_passHour_17 rfl (lv_at hl 0 rfl) ?_
  refine x_getr E X ffX1_15 rfl rfl dX1_passHour_18 ?_
  refine x_get E X ffX1_29 rfl rfl dX1_passHour_21 ?_
  refine lv_icmp_ge (tgt := 40) hx hb dX1_passHour_24 (by decide) (fun c_1 => ?_) (fun c_1 => ?_)
  · have h := if_t c_1 h
    refine lv_aload_n hx hb dX1_passHour_40 rfl (lv_at hl 0 rfl) ?_
    refine lv_iload_n hx hb dX1_passHour_41 rfl (lv_at hl 1 rfl) ?_
    refine lv_iload_n hx hb dX1_passHour_42 rfl (lv_at hl 2 rfl) ?_
    obtain ⟨r_2, S_3, hr_2, h⟩ := bnd_s h
    refine x_callV E X cwX1_36 (mX1_burnAll l Z hQ  x1 x2 hr_2) rfl rfl rfl rfl hl.1 rfl dX1_passHour_43 (fun H locs X => ?_)
    refine lv_istore_n (lv' := [(3, .int r_2), (0, .ref (Z.2.1 30)), (1, .int x1), (2, .int x2)]) hx hb dX1_passHour_46 rfl hl (by decide) rfl (fun ls hl => ?_)
    refine lv_aload_n hx hb dX1_passHour_47 rfl (lv_at hl 1 rfl) ?_
    refine x_getr E X ffX1_15 rfl rfl dX1_passHour_48 ?_
    refine lv_dup hx hb dX1_passHour_51 rfl ?_
    refine x_get E X ffX1_40 rfl rfl dX1_passHour_52 ?_
    refine lv_aload_n hx hb dX1_passHour_55 rfl (lv_at hl 1 rfl) ?_
    obtain ⟨r_4, S_5, hr_4, h⟩ := bnd_s h
    refine x_callV E X cwX1_43 (mX1_countFights l Z hQ   hr_4) rfl rfl rfl rfl hl.1 rfl dX1_passHour_56 (fun H locs X => ?_)
    refine lv_iadd hx hb dX1_passHour_59 ?_
    obtain ⟨S_6, eS_6, h⟩ := ltm_s h
    refine x_put E X fpX1_40 rfl rfl dX1_passHour_60 (fun H locs X => ?_)
    rw [← eS_6] at X
    refine lv_aload_n hx hb dX1_passHour_63 rfl (lv_at hl 1 rfl) ?_
    refine x_getr E X ffX1_15 rfl rfl dX1_passHour_64 ?_
    refine lv_dup hx hb dX1_passHour_67 rfl ?_
    refine x_get E X ffX1_19 rfl rfl dX1_passHour_68 ?_
    refine lv_iconst (v := (1 : Int32)) hx hb dX1_passHour_71 (by decide) ?_
    refine lv_iadd hx hb dX1_passHour_72 ?_
    obtain ⟨S_7, eS_7, h⟩ := ltm_s h
    refine x_put E X fpX1_19 rfl rfl dX1_passHour_73 (fun H locs X => ?_)
    rw [← eS_7] at X
    refine lv_iload_n hx hb dX1_passHour_76 rfl (lv_at hl 0 rfl) ?_
    exact x_iret E X h dX1_passHour_77
  · have h := if_f c_1 h
    refine lv_aload_n hx hb dX1_passHour_27 rfl (lv_at hl 0 rfl) ?_
    refine lv_iload_n hx hb dX1_passHour_28 rfl (lv_at hl 3 rfl) ?_
    refine lv_iload_n hx hb dX1_passHour_29 rfl (lv_at hl 1 rfl) ?_
    refine lv_iload_n hx hb dX1_passHour_30 rfl (lv_at hl 2 rfl) ?_
    obtain ⟨r_8, S_9, hr_8, h⟩ := bnd_s h
    refine x_callVv E X cwX1_32 (mX1_takeTurn l Z hQ  x3 x1 x2 hr_8) rfl rfl rfl rfl hl.1 rfl dX1_passHour_31 (fun H locs X => ?_)
    refine lv_iinc (v := (x3 + (1 : Int32))) (lv' := [(3, .int (x3 + (1 : Int32))), (0, .ref (Z.2.1 30)), (1, .int x1), (2, .int x2)]) hx hb dX1_passHour_34 hl (k := 3) rfl rfl (by decide) rfl (fun ls hl => ?_)
    refine lv_goto (tgt := 16) hx hb dX1_passHour_37 (by decide) ?_
    exact hk0 S_9 x1 x2 (x3 + (1 : Int32)) h _ _ _ X (lv_sub hl [1, 2, 3, 0] rfl)
theorem wX1_passHour_16 {p : Program} {l : Launch} {e : Env} {s : State} {m : MethodId} {args : Array Value} {below : List Frame} {meth : Method} {c : Code} {Z : XG} {r : Int32} {S' : Mem} (E : XE p s m args meth c cX1_passHour 4 RX1 (some .int) xL Z) : ∀ (n : Nat) (S : Mem) (x1 x2 x3 : Int32), fX1_passHour_16 n S x1 x2 x3 = some (r, S') → WN p l e { frames := 6, cells := 0, slots := 0, locals := 142 } s m args below meth c xL Z (XQ xL Z r S') S 16 4 [(0, .ref (Z.2.1 30)), (1, .int x1), (2, .int x2), (3, .int x3)] [] := by
  intro n
  induction n with
  | zero => intro S x1 x2 x3 h; exact absurd (show (none : O) = some _ from h) (by simp)
  | succ n ih => intro S x1 x2 x3 h; exact wX1_passHour_16_b E (fX1_passHour_16 n) ih S x1 x2 x3 h
set_option maxRecDepth 20000 in
theorem wX1_passHour {p : Program} {l : Launch} {e : Env} {s : State} {m : MethodId} {args : Array Value} {below : List Frame} {meth : Method} {c : Code} {Z : XG} {r : Int32} {S' : Mem} (E : XE p s m args meth c cX1_passHour 4 RX1 (some .int) xL Z) : ∀ (S : Mem), fX1_passHour  S  = some (r, S') → WN p l e { frames := 6, cells := 0, slots := 0, locals := 142 } s m args below meth c xL Z (XQ xL Z r S') S 0 4 [(0, .ref (Z.2.1 30))] [] := by
  obtain ⟨hx, hb, -, -, -, -, -, -, -, hQ⟩ := id E
  intro S  h H locs ls X hl
  unfold fX1_passHour at h
  refine lv_aload_n hx hb dX1_passHour_0 rfl (lv_at hl 0 rfl) ?_
  refine x_getr E X ffX1_15 rfl rfl dX1_passHour_1 ?_
  refine x_get E X ffX1_19 rfl rfl dX1_passHour_4 ?_
  obtain ⟨x1_1, ex1_1, h⟩ := lti_s h
  refine lv_nm ex1_1 ?_
  refine lv_istore_n (lv' := [(1, .int x1_1), (0, .ref (Z.2.1 30))]) hx hb dX1_passHour_7 rfl hl (by decide) rfl (fun ls hl => ?_)
  refine lv_aload_n hx hb dX1_passHour_8 rfl (lv_at hl 1 rfl) ?_
  refine lv_iload_n hx hb dX1_passHour_9 rfl (lv_at hl 0 rfl) ?_
  obtain ⟨r_2, S_3, hr_2, h⟩ := bnd_s h
  refine x_callV E X cwX1_25 (mX1_heatUnderClouds l Z hQ  x1_1 hr_2) rfl rfl rfl rfl hl.1 rfl dX1_passHour_10 (fun H locs X => ?_)
  refine lv_istore_n (lv' := [(2, .int r_2), (1, .int x1_1), (0, .ref (Z.2.1 30))]) hx hb dX1_passHour_13 rfl hl (by decide) rfl (fun ls hl => ?_)
  refine lv_iconst (v := (0 : Int32)) hx hb dX1_passHour_14 (by decide) ?_
  refine lv_istore_n (lv' := [(3, .int (0 : Int32)), (2, .int r_2), (1, .int x1_1), (0, .ref (Z.2.1 30))]) hx hb dX1_passHour_15 rfl hl (by decide) rfl (fun ls hl => ?_)
  exact wX1_passHour_16 E   FU S_3 x1_1 r_2 (0 : Int32) h _ _ _ X (lv_sub hl [3, 2, 1, 0] rfl)
/-- SevenToAShadow$March.passHour()I -/
theorem mX1_passHour (l : Launch) (Z : XG) (hQ : wQ (List.length xL) Z) {S S' : Mem} {r : Int32} (h : fX1_passHour S  = some (r, S')) : XM l yX1_passHour cX1_passHour 4 (some .int) { frames := 6, cells := 0, slots := 0, locals := 142 } xL Z [.ref (Z.2.1 30)] S (XQ xL Z r S') := by
  refine XM.of (own := RX1) (by decide +kernel) rfl rfl hQ (fun p e s m args below meth c E ls hl X => ?_)
  exact wX1_passHour E S  h _ _ _ X hl
def fX7_hours_31_b (k0 : Mem → Int32 → Int32 → Int32 → O) (S : Mem) (x1 x2 x3 : Int32) : O := (if x1 ≤ x3 then some (x2, S) else bnd (fX2_keep_25_1 S ) fun _ S_3 => bnd (fX1_passHour S_3 ) fun r_4 S_5 => lti (x2 + r_4) fun x2_6 => k0 S_5 x1 x2_6 (x3 + (1 : Int32)))
def fX7_hours_31 : Nat → Mem → Int32 → Int32 → Int32 → O
  | 0 => fun _ _ _ _ => none
  | n + 1 => fX7_hours_31_b (fX7_hours_31 n)
def fX7_hours (S : Mem) (x1 : Int32) : O := (if x1 < (1 : Int32) then some ((-1 : Int32), S) else (if (12 : Int32) < x1 then some ((-1 : Int32), S) else (if ((S 1 8) + x1) ≤ (12 : Int32) then fX7_hours_31  FU S x1 (0 : Int32) (0 : Int32) else some ((-1 : Int32), S))))
theorem dX7_hours_0 : decode cX7_hours 0 = .ok (.iload_n 1, 1) := by decide +kernel
theorem dX7_hours_1 : decode cX7_hours 1 = .ok (.iconst 1, 1) := by decide +kernel
theorem dX7_hours_2 : decode cX7_hours 2 = .ok (.if_icmp .lt 23, 3) := by decide +kernel
theorem dX7_hours_5 : decode cX7_hours 5 = .ok (.iload_n 1, 1) := by decide +kernel
theorem dX7_hours_6 : decode cX7_hours 6 = .ok (.bipush 12, 2) := by decide +kernel
theorem dX7_hours_8 : decode cX7_hours 8 = .ok (.if_icmp .gt 17, 3) := by decide +kernel
theorem dX7_hours_11 : decode cX7_hours 11 = .ok (.aload_n 0, 1) := by decide +kernel
theorem dX7_hours_12 : decode cX7_hours 12 = .ok (.getfield 12, 3) := by decide +kernel
theorem dX7_hours_15 : decode cX7_hours 15 = .ok (.getfield 123, 3) := by decide +kernel
theorem dX7_hours_18 : decode cX7_hours 18 = .ok (.iload_n 1, 1) := by decide +kernel
theorem dX7_hours_19 : decode cX7_hours 19 = .ok (.iadd, 1) := by decide +kernel
theorem dX7_hours_20 : decode cX7_hours 20 = .ok (.bipush 12, 2) := by decide +kernel
theorem dX7_hours_22 : decode cX7_hours 22 = .ok (.if_icmp .le 5, 3) := by decide +kernel
theorem dX7_hours_25 : decode cX7_hours 25 = .ok (.iconst (-1), 1) := by decide +kernel
theorem dX7_hours_26 : decode cX7_hours 26 = .ok (.ireturn, 1) := by decide +kernel
theorem dX7_hours_27 : decode cX7_hours 27 = .ok (.iconst 0, 1) := by decide +kernel
theorem dX7_hours_28 : decode cX7_hours 28 = .ok (.istore_n 2, 1) := by decide +kernel
theorem dX7_hours_29 : decode cX7_hours 29 = .ok (.iconst 0, 1) := by decide +kernel
theorem dX7_hours_30 : decode cX7_hours 30 = .ok (.istore_n 3, 1) := by decide +kernel
theorem dX7_hours_31 : decode cX7_hours 31 = .ok (.iload_n 3, 1) := by decide +kernel
theorem dX7_hours_32 : decode cX7_hours 32 = .ok (.iload_n 1, 1) := by decide +kernel
theorem dX7_hours_33 : decode cX7_hours 33 = .ok (.if_icmp .ge 30, 3) := by decide +kernel
theorem dX7_hours_36 : decode cX7_hours 36 = .ok (.aload_n 0, 1) := by decide +kernel
theorem dX7_hours_37 : decode cX7_hours 37 = .ok (.getfield 22, 3) := by decide +kernel
theorem dX7_hours_40 : decode cX7_hours 40 = .ok (.aload_n 0, 1) := by decide +kernel
theorem dX7_hours_41 : decode cX7_hours 41 = .ok (.getfield 12, 3) := by decide +kernel
theorem dX7_hours_44 : decode cX7_hours 44 = .ok (.invokevirtual 126, 3) := by decide +kernel
theorem dX7_hours_47 : decode cX7_hours 47 = .ok (.iload_n 2, 1) := by decide +kernel
theorem dX7_hours_48 : decode cX7_hours 48 = .ok (.aload_n 0, 1) := by decide +kernel
theorem dX7_hours_49 : decode cX7_hours 49 = .ok (.getfield 31, 3) := by decide +kernel
theorem dX7_hours_52 : decode cX7_hours 52 = .ok (.invokevirtual 129, 3) := by decide +kernel
theorem dX7_hours_55 : decode cX7_hours 55 = .ok (.iadd, 1) := by decide +kernel
theorem dX7_hours_56 : decode cX7_hours 56 = .ok (.istore_n 2, 1) := by decide +kernel
theorem dX7_hours_57 : decode cX7_hours 57 = .ok (.iinc 3 1, 3) := by decide +kernel
theorem dX7_hours_60 : decode cX7_hours 60 = .ok (.goto (-29), 3) := by decide +kernel
theorem dX7_hours_63 : decode cX7_hours 63 = .ok (.iload_n 2, 1) := by decide +kernel
theorem dX7_hours_64 : decode cX7_hours 64 = .ok (.ireturn, 1) := by decide +kernel
set_option maxRecDepth 20000 in
theorem wX7_hours_31_b {p : Program} {l : Launch} {e : Env} {s : State} {m : MethodId} {args : Array Value} {below : List Frame} {meth : Method} {c : Code} {Z : XG} {r : Int32} {S' : Mem} (E : XE p s m args meth c cX7_hours 4 RX7 (some .int) xL Z) (k0 : Mem → Int32 → Int32 → Int32 → O)  (hk0 : ∀ (S : Mem) (x1 x2 x3 : Int32), k0 S x1 x2 x3 = some (r, S') → WN p l e { frames := 7, cells := 0, slots := 0, locals := 165 } s m args below meth c xL Z (XQ xL Z r S') S 31 4 [(0, .ref (Z.2.1 0)), (1, .int x1), (2, .int x2), (3, .int x3)] []) : ∀ (S : Mem) (x1 x2 x3 : Int32), fX7_hours_31_b k0 S x1 x2 x3 = some (r, S') → WN p l e { frames := 7, cells := 0, slots := 0, locals := 165 } s m args below meth c xL Z (XQ xL Z r S') S 31 4 [(0, .ref (Z.2.1 0)), (1, .int x1), (2, .int x2), (3, .int x3)] [] := by
  obtain ⟨hx, hb, -, -, -, -, -, -, -, hQ⟩ := id E
  intro S x1 x2 x3 h H locs ls X hl
  unfold fX7_hours_31_b at h
  refine lv_iload_n hx hb dX7_hours_31 rfl (lv_at hl 3 rfl) ?_
  refine lv_iload_n hx hb dX7_hours_32 rfl (lv_at hl 1 rfl) ?_
  refine lv_icmp_ge (tgt := 63) hx hb dX7_hours_33 (by decide) (fun c_1 => ?_) (fun c_1 => ?_)
  · have h := if_t c_1 h
    refine lv_iload_n hx hb dX7_hours_63 rfl (lv_at hl 2 rfl) ?_
    exact x_iret E X h dX7_hours_64
  · have h := if_f c_1 h
    refine lv_aload_n hx hb dX7_hours_36 rfl (lv_at hl 0 rfl) ?_
    refine x_getr E X ffX7_22 rfl rfl dX7_hours_37 ?_
    refine lv_aload_n hx hb dX7_hours_40 rfl (lv_at hl 0 rfl) ?_
    refine x_getr E X ffX7_12 rfl rfl dX7_hours_41 ?_
    obtain ⟨r_2, S_3, hr_2, h⟩ := bnd_s h
    refine x_callVv E X cwX7_126 (mX2_keep_25_1 l Z hQ   hr_2) rfl rfl rfl rfl hl.1 rfl dX7_hours_44 (fun H locs X => ?_)
    refine lv_iload_n hx hb dX7_hours_47 rfl (lv_at hl 2 rfl) ?_
    refine lv_aload_n hx hb dX7_hours_48 rfl (lv_at hl 0 rfl) ?_
    refine x_getr E X ffX7_31 rfl rfl dX7_hours_49 ?_
    obtain ⟨r_4, S_5, hr_4, h⟩ := bnd_s h
    refine x_callV E X cwX7_129 (mX1_passHour l Z hQ   hr_4) rfl rfl rfl rfl hl.1 rfl dX7_hours_52 (fun H locs X => ?_)
    refine lv_iadd hx hb dX7_hours_55 ?_
    obtain ⟨x2_6, ex2_6, h⟩ := lti_s h
    refine lv_nm ex2_6 ?_
    refine lv_istore_n (lv' := [(2, .int x2_6), (0, .ref (Z.2.1 0)), (1, .int x1), (3, .int x3)]) hx hb dX7_hours_56 rfl hl (by decide) rfl (fun ls hl => ?_)
    refine lv_iinc (v := (x3 + (1 : Int32))) (lv' := [(3, .int (x3 + (1 : Int32))), (2, .int x2_6), (0, .ref (Z.2.1 0)), (1, .int x1)]) hx hb dX7_hours_57 hl (k := 3) rfl rfl (by decide) rfl (fun ls hl => ?_)
    refine lv_goto (tgt := 31) hx hb dX7_hours_60 (by decide) ?_
    exact hk0 S_5 x1 x2_6 (x3 + (1 : Int32)) h _ _ _ X (lv_sub hl [2, 3, 1, 0] rfl)
theorem wX7_hours_31 {p : Program} {l : Launch} {e : Env} {s : State} {m : MethodId} {args : Array Value} {below : List Frame} {meth : Method} {c : Code} {Z : XG} {r : Int32} {S' : Mem} (E : XE p s m args meth c cX7_hours 4 RX7 (some .int) xL Z) : ∀ (n : Nat) (S : Mem) (x1 x2 x3 : Int32), fX7_hours_31 n S x1 x2 x3 = some (r, S') → WN p l e { frames := 7, cells := 0, slots := 0, locals := 165 } s m args below meth c xL Z (XQ xL Z r S') S 31 4 [(0, .ref (Z.2.1 0)), (1, .int x1), (2, .int x2), (3, .int x3)] [] := by
  intro n
  induction n with
  | zero => intro S x1 x2 x3 h; exact absurd (show (none : O) = some _ from h) (by simp)
  | succ n ih => intro S x1 x2 x3 h; exact wX7_hours_31_b E (fX7_hours_31 n) ih S x1 x2 x3 h
set_option maxRecDepth 20000 in
theorem wX7_hours {p : Program} {l : Launch} {e : Env} {s : State} {m : MethodId} {args : Array Value} {below : List Frame} {meth : Method} {c : Code} {Z : XG} {r : Int32} {S' : Mem} (E : XE p s m args meth c cX7_hours 4 RX7 (some .int) xL Z) : ∀ (S : Mem) (x1 : Int32), fX7_hours  S x1 = some (r, S') → WN p l e { frames := 7, cells := 0, slots := 0, locals := 165 } s m args below meth c xL Z (XQ xL Z r S') S 0 4 [(0, .ref (Z.2.1 0)), (1, .int x1)] [] := by
  obtain ⟨hx, hb, -, -, -, -, -, -, -, hQ⟩ := id E
  intro S x1 h H locs ls X hl
  unfold fX7_hours at h
  refine lv_iload_n hx hb dX7_hours_0 rfl (lv_at hl 1 rfl) ?_
  refine lv_iconst (v := (1 : Int32)) hx hb dX7_hours_1 (by decide) ?_
  refine lv_icmp_lt (tgt := 25) hx hb dX7_hours_2 (by decide) (fun c_1 => ?_) (fun c_1 => ?_)
  · have h := if_t c_1 h
    refine lv_iconst (v := (-1 : Int32)) hx hb dX7_hours_25 (by decide) ?_
    exact x_iret E X h dX7_hours_26
  · have h := if_f c_1 h
    refine lv_iload_n hx hb dX7_hours_5 rfl (lv_at hl 1 rfl) ?_
    refine lv_bipush (v := (12 : Int32)) hx hb dX7_hours_6 (by decide) ?_
    refine lv_icmp_gt (tgt := 25) hx hb dX7_hours_8 (by decide) (fun c_2 => ?_) (fun c_2 => ?_)
    · have h := if_t c_2 h
      refine lv_iconst (v := (-1 : Int32)) hx hb dX7_hours_25 (by decide) ?_
      exact x_iret E X h dX7_hours_26
    · have h := if_f c_2 h
      refine lv_aload_n hx hb dX7_hours_11 rfl (lv_at hl 0 rfl) ?_
      refine x_getr E X ffX7_12 rfl rfl dX7_hours_12 ?_
      refine x_get E X ffX7_123 rfl rfl dX7_hours_15 ?_
      refine lv_iload_n hx hb dX7_hours_18 rfl (lv_at hl 1 rfl) ?_
      refine lv_iadd hx hb dX7_hours_19 ?_
      refine lv_bipush (v := (12 : Int32)) hx hb dX7_hours_20 (by decide) ?_
      refine lv_icmp_le (tgt := 27) hx hb dX7_hours_22 (by decide) (fun c_3 => ?_) (fun c_3 => ?_)
      · have h := if_t c_3 h
        refine lv_iconst (v := (0 : Int32)) hx hb dX7_hours_27 (by decide) ?_
        refine lv_istore_n (lv' := [(2, .int (0 : Int32)), (0, .ref (Z.2.1 0)), (1, .int x1)]) hx hb dX7_hours_28 rfl hl (by decide) rfl (fun ls hl => ?_)
        refine lv_iconst (v := (0 : Int32)) hx hb dX7_hours_29 (by decide) ?_
        refine lv_istore_n (lv' := [(3, .int (0 : Int32)), (2, .int (0 : Int32)), (0, .ref (Z.2.1 0)), (1, .int x1)]) hx hb dX7_hours_30 rfl hl (by decide) rfl (fun ls hl => ?_)
        exact wX7_hours_31 E   FU S x1 (0 : Int32) (0 : Int32) h _ _ _ X (lv_sub hl [2, 3, 1, 0] rfl)
      · have h := if_f c_3 h
        refine lv_iconst (v := (-1 : Int32)) hx hb dX7_hours_25 (by decide) ?_
        exact x_iret E X h dX7_hours_26
/-- SevenToAShadow.hours(I)I -/
theorem mX7_hours (l : Launch) (Z : XG) (hQ : wQ (List.length xL) Z) {S S' : Mem} {r : Int32} (x1 : Int32) (h : fX7_hours S x1 = some (r, S')) : XM l yX7_hours cX7_hours 4 (some .int) { frames := 7, cells := 0, slots := 0, locals := 165 } xL Z [.ref (Z.2.1 0), .int x1] S (XQ xL Z r S') := by
  refine XM.of (own := RX7) (by decide +kernel) rfl rfl hQ (fun p e s m args below meth c E ls hl X => ?_)
  exact wX7_hours E S x1 h _ _ _ X hl
def fX7_evening_50_b (k0 : Mem → Int32 → O) (S : Mem) (x1 : Int32) : O := (if (S 1 9) ≤ x1 then bnd (fX2_forget S ) fun _ S_3 => some ((S_3 1 7), S_3) else bnd (fX6_has S x1 (7 : Int32)) fun r_4 S_5 => bnd (fX6_put S_5 x1 (7 : Int32) (imax (0 : Int32) (r_4 - (S_5 1 12)))) fun _ S_7 => k0 S_7 (x1 + (1 : Int32)))
def fX7_evening_50 : Nat → Mem → Int32 → O
  | 0 => fun _ _ => none
  | n + 1 => fX7_evening_50_b (fX7_evening_50 n)
def fX7_evening (S : Mem) : O := (if (S 1 8) = (12 : Int32) then (if (S 1 7) < (999 : Int32) then ltm (mset S 1 7 ((S 1 7) + (1 : Int32))) fun S_3 => ltm (mset S_3 1 8 (0 : Int32)) fun S_4 => fX7_evening_50  FU S_4 (0 : Int32) else some ((-1 : Int32), S)) else some ((-1 : Int32), S))
theorem dX7_evening_0 : decode cX7_evening 0 = .ok (.aload_n 0, 1) := by decide +kernel
theorem dX7_evening_1 : decode cX7_evening 1 = .ok (.getfield 12, 3) := by decide +kernel
theorem dX7_evening_4 : decode cX7_evening 4 = .ok (.getfield 123, 3) := by decide +kernel
theorem dX7_evening_7 : decode cX7_evening 7 = .ok (.bipush 12, 2) := by decide +kernel
theorem dX7_evening_9 : decode cX7_evening 9 = .ok (.if_icmp .ne 16, 3) := by decide +kernel
theorem dX7_evening_12 : decode cX7_evening 12 = .ok (.aload_n 0, 1) := by decide +kernel
theorem dX7_evening_13 : decode cX7_evening 13 = .ok (.getfield 12, 3) := by decide +kernel
theorem dX7_evening_16 : decode cX7_evening 16 = .ok (.getfield 133, 3) := by decide +kernel
theorem dX7_evening_19 : decode cX7_evening 19 = .ok (.sipush 999, 3) := by decide +kernel
theorem dX7_evening_22 : decode cX7_evening 22 = .ok (.if_icmp .lt 5, 3) := by decide +kernel
theorem dX7_evening_25 : decode cX7_evening 25 = .ok (.iconst (-1), 1) := by decide +kernel
theorem dX7_evening_26 : decode cX7_evening 26 = .ok (.ireturn, 1) := by decide +kernel
theorem dX7_evening_27 : decode cX7_evening 27 = .ok (.aload_n 0, 1) := by decide +kernel
theorem dX7_evening_28 : decode cX7_evening 28 = .ok (.getfield 12, 3) := by decide +kernel
theorem dX7_evening_31 : decode cX7_evening 31 = .ok (.dup, 1) := by decide +kernel
theorem dX7_evening_32 : decode cX7_evening 32 = .ok (.getfield 133, 3) := by decide +kernel
theorem dX7_evening_35 : decode cX7_evening 35 = .ok (.iconst 1, 1) := by decide +kernel
theorem dX7_evening_36 : decode cX7_evening 36 = .ok (.iadd, 1) := by decide +kernel
theorem dX7_evening_37 : decode cX7_evening 37 = .ok (.putfield 133, 3) := by decide +kernel
theorem dX7_evening_40 : decode cX7_evening 40 = .ok (.aload_n 0, 1) := by decide +kernel
theorem dX7_evening_41 : decode cX7_evening 41 = .ok (.getfield 12, 3) := by decide +kernel
theorem dX7_evening_44 : decode cX7_evening 44 = .ok (.iconst 0, 1) := by decide +kernel
theorem dX7_evening_45 : decode cX7_evening 45 = .ok (.putfield 123, 3) := by decide +kernel
theorem dX7_evening_48 : decode cX7_evening 48 = .ok (.iconst 0, 1) := by decide +kernel
theorem dX7_evening_49 : decode cX7_evening 49 = .ok (.istore_n 1, 1) := by decide +kernel
theorem dX7_evening_50 : decode cX7_evening 50 = .ok (.iload_n 1, 1) := by decide +kernel
theorem dX7_evening_51 : decode cX7_evening 51 = .ok (.aload_n 0, 1) := by decide +kernel
theorem dX7_evening_52 : decode cX7_evening 52 = .ok (.getfield 12, 3) := by decide +kernel
theorem dX7_evening_55 : decode cX7_evening 55 = .ok (.getfield 73, 3) := by decide +kernel
theorem dX7_evening_58 : decode cX7_evening 58 = .ok (.if_icmp .ge 41, 3) := by decide +kernel
theorem dX7_evening_61 : decode cX7_evening 61 = .ok (.aload_n 0, 1) := by decide +kernel
theorem dX7_evening_62 : decode cX7_evening 62 = .ok (.getfield 12, 3) := by decide +kernel
theorem dX7_evening_65 : decode cX7_evening 65 = .ok (.iload_n 1, 1) := by decide +kernel
theorem dX7_evening_66 : decode cX7_evening 66 = .ok (.bipush 7, 2) := by decide +kernel
theorem dX7_evening_68 : decode cX7_evening 68 = .ok (.iconst 0, 1) := by decide +kernel
theorem dX7_evening_69 : decode cX7_evening 69 = .ok (.aload_n 0, 1) := by decide +kernel
theorem dX7_evening_70 : decode cX7_evening 70 = .ok (.getfield 12, 3) := by decide +kernel
theorem dX7_evening_73 : decode cX7_evening 73 = .ok (.iload_n 1, 1) := by decide +kernel
theorem dX7_evening_74 : decode cX7_evening 74 = .ok (.bipush 7, 2) := by decide +kernel
theorem dX7_evening_76 : decode cX7_evening 76 = .ok (.invokevirtual 136, 3) := by decide +kernel
theorem dX7_evening_79 : decode cX7_evening 79 = .ok (.aload_n 0, 1) := by decide +kernel
theorem dX7_evening_80 : decode cX7_evening 80 = .ok (.getfield 12, 3) := by decide +kernel
theorem dX7_evening_83 : decode cX7_evening 83 = .ok (.getfield 70, 3) := by decide +kernel
theorem dX7_evening_86 : decode cX7_evening 86 = .ok (.isub, 1) := by decide +kernel
theorem dX7_evening_87 : decode cX7_evening 87 = .ok (.invokestatic 140, 3) := by decide +kernel
theorem dX7_evening_90 : decode cX7_evening 90 = .ok (.invokevirtual 83, 3) := by decide +kernel
theorem dX7_evening_93 : decode cX7_evening 93 = .ok (.iinc 1 1, 3) := by decide +kernel
theorem dX7_evening_96 : decode cX7_evening 96 = .ok (.goto (-46), 3) := by decide +kernel
theorem dX7_evening_99 : decode cX7_evening 99 = .ok (.aload_n 0, 1) := by decide +kernel
theorem dX7_evening_100 : decode cX7_evening 100 = .ok (.getfield 22, 3) := by decide +kernel
theorem dX7_evening_103 : decode cX7_evening 103 = .ok (.invokevirtual 64, 3) := by decide +kernel
theorem dX7_evening_106 : decode cX7_evening 106 = .ok (.aload_n 0, 1) := by decide +kernel
theorem dX7_evening_107 : decode cX7_evening 107 = .ok (.getfield 12, 3) := by decide +kernel
theorem dX7_evening_110 : decode cX7_evening 110 = .ok (.getfield 133, 3) := by decide +kernel
theorem dX7_evening_113 : decode cX7_evening 113 = .ok (.ireturn, 1) := by decide +kernel
set_option maxRecDepth 20000 in
theorem wX7_evening_50_b {p : Program} {l : Launch} {e : Env} {s : State} {m : MethodId} {args : Array Value} {below : List Frame} {meth : Method} {c : Code} {Z : XG} {r : Int32} {S' : Mem} (E : XE p s m args meth c cX7_evening 2 RX7 (some .int) xL Z) (k0 : Mem → Int32 → O)  (hk0 : ∀ (S : Mem) (x1 : Int32), k0 S x1 = some (r, S') → WN p l e { frames := 2, cells := 0, slots := 0, locals := 44 } s m args below meth c xL Z (XQ xL Z r S') S 50 2 [(0, .ref (Z.2.1 0)), (1, .int x1)] []) : ∀ (S : Mem) (x1 : Int32), fX7_evening_50_b k0 S x1 = some (r, S') → WN p l e { frames := 2, cells := 0, slots := 0, locals := 44 } s m args below meth c xL Z (XQ xL Z r S') S 50 2 [(0, .ref (Z.2.1 0)), (1, .int x1)] [] := by
  obtain ⟨hx, hb, -, -, -, -, -, -, -, hQ⟩ := id E
  intro S x1 h H locs ls X hl
  unfold fX7_evening_50_b at h
  refine lv_iload_n hx hb dX7_evening_50 rfl (lv_at hl 1 rfl) ?_
  refine lv_aload_n hx hb dX7_evening_51 rfl (lv_at hl 0 rfl) ?_
  refine x_getr E X ffX7_12 rfl rfl dX7_evening_52 ?_
  refine x_get E X ffX7_73 rfl rfl dX7_evening_55 ?_
  refine lv_icmp_ge (tgt := 99) hx hb dX7_evening_58 (by decide) (fun c_1 => ?_) (fun c_1 => ?_)
  · have h := if_t c_1 h
    refine lv_aload_n hx hb dX7_evening_99 rfl (lv_at hl 0 rfl) ?_
    refine x_getr E X ffX7_22 rfl rfl dX7_evening_100 ?_
    obtain ⟨r_2, S_3, hr_2, h⟩ := bnd_s h
    refine x_callVv E X cwX7_64 (mX2_forget l Z hQ   hr_2) rfl rfl rfl rfl hl.1 rfl dX7_evening_103 (fun H locs X => ?_)
    refine lv_aload_n hx hb dX7_evening_106 rfl (lv_at hl 0 rfl) ?_
    refine x_getr E X ffX7_12 rfl rfl dX7_evening_107 ?_
    refine x_get E X ffX7_133 rfl rfl dX7_evening_110 ?_
    exact x_iret E X h dX7_evening_113
  · have h := if_f c_1 h
    refine lv_aload_n hx hb dX7_evening_61 rfl (lv_at hl 0 rfl) ?_
    refine x_getr E X ffX7_12 rfl rfl dX7_evening_62 ?_
    refine lv_iload_n hx hb dX7_evening_65 rfl (lv_at hl 1 rfl) ?_
    refine lv_bipush (v := (7 : Int32)) hx hb dX7_evening_66 (by decide) ?_
    refine lv_iconst (v := (0 : Int32)) hx hb dX7_evening_68 (by decide) ?_
    refine lv_aload_n hx hb dX7_evening_69 rfl (lv_at hl 0 rfl) ?_
    refine x_getr E X ffX7_12 rfl rfl dX7_evening_70 ?_
    refine lv_iload_n hx hb dX7_evening_73 rfl (lv_at hl 1 rfl) ?_
    refine lv_bipush (v := (7 : Int32)) hx hb dX7_evening_74 (by decide) ?_
    obtain ⟨r_4, S_5, hr_4, h⟩ := bnd_s h
    refine x_callV E X cwX7_136 (mX6_has l Z hQ  x1 (7 : Int32) hr_4) rfl rfl rfl rfl hl.1 rfl dX7_evening_76 (fun H locs X => ?_)
    refine lv_aload_n hx hb dX7_evening_79 rfl (lv_at hl 0 rfl) ?_
    refine x_getr E X ffX7_12 rfl rfl dX7_evening_80 ?_
    refine x_get E X ffX7_70 rfl rfl dX7_evening_83 ?_
    refine lv_isub hx hb dX7_evening_86 ?_
    refine x_mmax E cwX7_140 hl.1 rfl rfl rfl rfl dX7_evening_87 ?_
    refine lv_nm (y := (imax (0 : Int32) (r_4 - (S_5 1 12)))) rfl ?_
    obtain ⟨r_6, S_7, hr_6, h⟩ := bnd_s h
    refine x_callVv E X cwX7_83 (mX6_put l Z hQ  x1 (7 : Int32) (imax (0 : Int32) (r_4 - (S_5 1 12))) hr_6) rfl rfl rfl rfl hl.1 rfl dX7_evening_90 (fun H locs X => ?_)
    refine lv_iinc (v := (x1 + (1 : Int32))) (lv' := [(1, .int (x1 + (1 : Int32))), (0, .ref (Z.2.1 0))]) hx hb dX7_evening_93 hl (k := 1) rfl rfl (by decide) rfl (fun ls hl => ?_)
    refine lv_goto (tgt := 50) hx hb dX7_evening_96 (by decide) ?_
    exact hk0 S_7 (x1 + (1 : Int32)) h _ _ _ X (lv_sub hl [1, 0] rfl)
theorem wX7_evening_50 {p : Program} {l : Launch} {e : Env} {s : State} {m : MethodId} {args : Array Value} {below : List Frame} {meth : Method} {c : Code} {Z : XG} {r : Int32} {S' : Mem} (E : XE p s m args meth c cX7_evening 2 RX7 (some .int) xL Z) : ∀ (n : Nat) (S : Mem) (x1 : Int32), fX7_evening_50 n S x1 = some (r, S') → WN p l e { frames := 2, cells := 0, slots := 0, locals := 44 } s m args below meth c xL Z (XQ xL Z r S') S 50 2 [(0, .ref (Z.2.1 0)), (1, .int x1)] [] := by
  intro n
  induction n with
  | zero => intro S x1 h; exact absurd (show (none : O) = some _ from h) (by simp)
  | succ n ih => intro S x1 h; exact wX7_evening_50_b E (fX7_evening_50 n) ih S x1 h
set_option maxRecDepth 20000 in
theorem wX7_evening {p : Program} {l : Launch} {e : Env} {s : State} {m : MethodId} {args : Array Value} {below : List Frame} {meth : Method} {c : Code} {Z : XG} {r : Int32} {S' : Mem} (E : XE p s m args meth c cX7_evening 2 RX7 (some .int) xL Z) : ∀ (S : Mem), fX7_evening  S  = some (r, S') → WN p l e { frames := 2, cells := 0, slots := 0, locals := 44 } s m args below meth c xL Z (XQ xL Z r S') S 0 2 [(0, .ref (Z.2.1 0))] [] := by
  obtain ⟨hx, hb, -, -, -, -, -, -, -, hQ⟩ := id E
  intro S  h H locs ls X hl
  unfold fX7_evening at h
  refine lv_aload_n hx hb dX7_evening_0 rfl (lv_at hl 0 rfl) ?_
  refine x_getr E X ffX7_12 rfl rfl dX7_evening_1 ?_
  refine x_get E X ffX7_123 rfl rfl dX7_evening_4 ?_
  refine lv_bipush (v := (12 : Int32)) hx hb dX7_evening_7 (by decide) ?_
  refine lv_icmp_ne (tgt := 25) hx hb dX7_evening_9 (by decide) (fun c_1 => ?_) (fun c_1 => ?_)
  · have h := if_f c_1 h
    refine lv_iconst (v := (-1 : Int32)) hx hb dX7_evening_25 (by decide) ?_
    exact x_iret E X h dX7_evening_26
  · have h := if_t c_1 h
    refine lv_aload_n hx hb dX7_evening_12 rfl (lv_at hl 0 rfl) ?_
    refine x_getr E X ffX7_12 rfl rfl dX7_evening_13 ?_
    refine x_get E X ffX7_133 rfl rfl dX7_evening_16 ?_
    refine lv_sipush (v := (999 : Int32)) hx hb dX7_evening_19 (by decide) ?_
    refine lv_icmp_lt (tgt := 27) hx hb dX7_evening_22 (by decide) (fun c_2 => ?_) (fun c_2 => ?_)
    · have h := if_t c_2 h
      refine lv_aload_n hx hb dX7_evening_27 rfl (lv_at hl 0 rfl) ?_
      refine x_getr E X ffX7_12 rfl rfl dX7_evening_28 ?_
      refine lv_dup hx hb dX7_evening_31 rfl ?_
      refine x_get E X ffX7_133 rfl rfl dX7_evening_32 ?_
      refine lv_iconst (v := (1 : Int32)) hx hb dX7_evening_35 (by decide) ?_
      refine lv_iadd hx hb dX7_evening_36 ?_
      obtain ⟨S_3, eS_3, h⟩ := ltm_s h
      refine x_put E X fpX7_133 rfl rfl dX7_evening_37 (fun H locs X => ?_)
      rw [← eS_3] at X
      refine lv_aload_n hx hb dX7_evening_40 rfl (lv_at hl 0 rfl) ?_
      refine x_getr E X ffX7_12 rfl rfl dX7_evening_41 ?_
      refine lv_iconst (v := (0 : Int32)) hx hb dX7_evening_44 (by decide) ?_
      obtain ⟨S_4, eS_4, h⟩ := ltm_s h
      refine x_put E X fpX7_123 rfl rfl dX7_evening_45 (fun H locs X => ?_)
      rw [← eS_4] at X
      refine lv_iconst (v := (0 : Int32)) hx hb dX7_evening_48 (by decide) ?_
      refine lv_istore_n (lv' := [(1, .int (0 : Int32)), (0, .ref (Z.2.1 0))]) hx hb dX7_evening_49 rfl hl (by decide) rfl (fun ls hl => ?_)
      exact wX7_evening_50 E   FU S_4 (0 : Int32) h _ _ _ X (lv_sub hl [1, 0] rfl)
    · have h := if_f c_2 h
      refine lv_iconst (v := (-1 : Int32)) hx hb dX7_evening_25 (by decide) ?_
      exact x_iret E X h dX7_evening_26
/-- SevenToAShadow.evening()I -/
theorem mX7_evening (l : Launch) (Z : XG) (hQ : wQ (List.length xL) Z) {S S' : Mem} {r : Int32} (h : fX7_evening S  = some (r, S')) : XM l yX7_evening cX7_evening 2 (some .int) { frames := 2, cells := 0, slots := 0, locals := 44 } xL Z [.ref (Z.2.1 0)] S (XQ xL Z r S') := by
  refine XM.of (own := RX7) (by decide +kernel) rfl rfl hQ (fun p e s m args below meth c E ls hl X => ?_)
  exact wX7_evening E S  h _ _ _ X hl
def fX7_of (S : Mem) (x1 x2 : Int32) : O := bnd (fX6_isPilgrim S x1) fun r_1 S_2 => (if r_1 = 0 then some ((-1 : Int32), S_2) else (if x2 = (10 : Int32) then bnd (fX7_isHour S_2 (S_2 1 8)) fun r_5 S_6 => (if r_5 = 0 then some ((0 : Int32), S_6) else bnd (fX6_inHour S_6 (S_6 1 8) (3 : Int32)) fun r_8 S_9 => bnd (fX6_shadeIn S_9 (S_6 1 8) r_8 (-1 : Int32)) fun r_10 S_11 => bnd (fX6_isShaded S_11 x1 r_10) fun r_12 S_13 => (if r_12 = 0 then some ((0 : Int32), S_13) else some ((1 : Int32), S_13))) else bnd (fX6_has S_2 x1 x2) fun r_15 S_16 => some (r_15, S_16)))
theorem dX7_of_0 : decode cX7_of 0 = .ok (.aload_n 0, 1) := by decide +kernel
theorem dX7_of_1 : decode cX7_of 1 = .ok (.getfield 12, 3) := by decide +kernel
theorem dX7_of_4 : decode cX7_of 4 = .ok (.iload_n 1, 1) := by decide +kernel
theorem dX7_of_5 : decode cX7_of 5 = .ok (.invokevirtual 87, 3) := by decide +kernel
theorem dX7_of_8 : decode cX7_of 8 = .ok (.ifCond .ne 5, 3) := by decide +kernel
theorem dX7_of_11 : decode cX7_of 11 = .ok (.iconst (-1), 1) := by decide +kernel
theorem dX7_of_12 : decode cX7_of 12 = .ok (.ireturn, 1) := by decide +kernel
theorem dX7_of_13 : decode cX7_of 13 = .ok (.iload_n 2, 1) := by decide +kernel
theorem dX7_of_14 : decode cX7_of 14 = .ok (.bipush 10, 2) := by decide +kernel
theorem dX7_of_16 : decode cX7_of 16 = .ok (.if_icmp .eq 13, 3) := by decide +kernel
theorem dX7_of_19 : decode cX7_of 19 = .ok (.aload_n 0, 1) := by decide +kernel
theorem dX7_of_20 : decode cX7_of 20 = .ok (.getfield 12, 3) := by decide +kernel
theorem dX7_of_23 : decode cX7_of 23 = .ok (.iload_n 1, 1) := by decide +kernel
theorem dX7_of_24 : decode cX7_of 24 = .ok (.iload_n 2, 1) := by decide +kernel
theorem dX7_of_25 : decode cX7_of 25 = .ok (.invokevirtual 136, 3) := by decide +kernel
theorem dX7_of_28 : decode cX7_of 28 = .ok (.ireturn, 1) := by decide +kernel
theorem dX7_of_29 : decode cX7_of 29 = .ok (.aload_n 0, 1) := by decide +kernel
theorem dX7_of_30 : decode cX7_of 30 = .ok (.getfield 12, 3) := by decide +kernel
theorem dX7_of_33 : decode cX7_of 33 = .ok (.getfield 123, 3) := by decide +kernel
theorem dX7_of_36 : decode cX7_of 36 = .ok (.invokestatic 53, 3) := by decide +kernel
theorem dX7_of_39 : decode cX7_of 39 = .ok (.ifCond .ne 5, 3) := by decide +kernel
theorem dX7_of_42 : decode cX7_of 42 = .ok (.iconst 0, 1) := by decide +kernel
theorem dX7_of_43 : decode cX7_of 43 = .ok (.ireturn, 1) := by decide +kernel
theorem dX7_of_44 : decode cX7_of 44 = .ok (.aload_n 0, 1) := by decide +kernel
theorem dX7_of_45 : decode cX7_of 45 = .ok (.getfield 12, 3) := by decide +kernel
theorem dX7_of_48 : decode cX7_of 48 = .ok (.aload_n 0, 1) := by decide +kernel
theorem dX7_of_49 : decode cX7_of 49 = .ok (.getfield 12, 3) := by decide +kernel
theorem dX7_of_52 : decode cX7_of 52 = .ok (.getfield 123, 3) := by decide +kernel
theorem dX7_of_55 : decode cX7_of 55 = .ok (.aload_n 0, 1) := by decide +kernel
theorem dX7_of_56 : decode cX7_of 56 = .ok (.getfield 12, 3) := by decide +kernel
theorem dX7_of_59 : decode cX7_of 59 = .ok (.aload_n 0, 1) := by decide +kernel
theorem dX7_of_60 : decode cX7_of 60 = .ok (.getfield 12, 3) := by decide +kernel
theorem dX7_of_63 : decode cX7_of 63 = .ok (.getfield 123, 3) := by decide +kernel
theorem dX7_of_66 : decode cX7_of 66 = .ok (.iconst 3, 1) := by decide +kernel
theorem dX7_of_67 : decode cX7_of 67 = .ok (.invokevirtual 145, 3) := by decide +kernel
theorem dX7_of_70 : decode cX7_of 70 = .ok (.iconst (-1), 1) := by decide +kernel
theorem dX7_of_71 : decode cX7_of 71 = .ok (.invokevirtual 148, 3) := by decide +kernel
theorem dX7_of_74 : decode cX7_of 74 = .ok (.istore_n 3, 1) := by decide +kernel
theorem dX7_of_75 : decode cX7_of 75 = .ok (.aload_n 0, 1) := by decide +kernel
theorem dX7_of_76 : decode cX7_of 76 = .ok (.getfield 12, 3) := by decide +kernel
theorem dX7_of_79 : decode cX7_of 79 = .ok (.iload_n 1, 1) := by decide +kernel
theorem dX7_of_80 : decode cX7_of 80 = .ok (.iload_n 3, 1) := by decide +kernel
theorem dX7_of_81 : decode cX7_of 81 = .ok (.invokevirtual 152, 3) := by decide +kernel
theorem dX7_of_84 : decode cX7_of 84 = .ok (.ifCond .eq 7, 3) := by decide +kernel
theorem dX7_of_87 : decode cX7_of 87 = .ok (.iconst 1, 1) := by decide +kernel
theorem dX7_of_88 : decode cX7_of 88 = .ok (.goto 4, 3) := by decide +kernel
theorem dX7_of_91 : decode cX7_of 91 = .ok (.iconst 0, 1) := by decide +kernel
theorem dX7_of_92 : decode cX7_of 92 = .ok (.ireturn, 1) := by decide +kernel
set_option maxRecDepth 20000 in
theorem wX7_of {p : Program} {l : Launch} {e : Env} {s : State} {m : MethodId} {args : Array Value} {below : List Frame} {meth : Method} {c : Code} {Z : XG} {r : Int32} {S' : Mem} (E : XE p s m args meth c cX7_of 4 RX7 (some .int) xL Z) : ∀ (S : Mem) (x1 x2 : Int32), fX7_of  S x1 x2 = some (r, S') → WN p l e { frames := 4, cells := 0, slots := 0, locals := 99 } s m args below meth c xL Z (XQ xL Z r S') S 0 4 [(0, .ref (Z.2.1 0)), (1, .int x1), (2, .int x2)] [] := by
  obtain ⟨hx, hb, -, -, -, -, -, -, -, hQ⟩ := id E
  intro S x1 x2 h H locs ls X hl
  unfold fX7_of at h
  refine lv_aload_n hx hb dX7_of_0 rfl (lv_at hl 0 rfl) ?_
  refine x_getr E X ffX7_12 rfl rfl dX7_of_1 ?_
  refine lv_iload_n hx hb dX7_of_4 rfl (lv_at hl 1 rfl) ?_
  obtain ⟨r_1, S_2, hr_1, h⟩ := bnd_s h
  refine x_callV E X cwX7_87 (mX6_isPilgrim l Z hQ  x1 hr_1) rfl rfl rfl rfl hl.1 rfl dX7_of_5 (fun H locs X => ?_)
  refine lv_if_ne (tgt := 13) hx hb dX7_of_8 (by decide) (fun c_3 => ?_) (fun c_3 => ?_)
  · have h := if_f c_3 h
    refine lv_iload_n hx hb dX7_of_13 rfl (lv_at hl 2 rfl) ?_
    refine lv_bipush (v := (10 : Int32)) hx hb dX7_of_14 (by decide) ?_
    refine lv_icmp_eq (tgt := 29) hx hb dX7_of_16 (by decide) (fun c_4 => ?_) (fun c_4 => ?_)
    · have h := if_t c_4 h
      refine lv_aload_n hx hb dX7_of_29 rfl (lv_at hl 0 rfl) ?_
      refine x_getr E X ffX7_12 rfl rfl dX7_of_30 ?_
      refine x_get E X ffX7_123 rfl rfl dX7_of_33 ?_
      obtain ⟨r_5, S_6, hr_5, h⟩ := bnd_s h
      refine x_callS E X cwX7_53 (mX7_isHour l Z hQ  (S_2 1 8) hr_5) rfl rfl hl.1 rfl dX7_of_36 (fun H locs X => ?_)
      refine lv_if_ne (tgt := 44) hx hb dX7_of_39 (by decide) (fun c_7 => ?_) (fun c_7 => ?_)
      · have h := if_f c_7 h
        refine lv_aload_n hx hb dX7_of_44 rfl (lv_at hl 0 rfl) ?_
        refine x_getr E X ffX7_12 rfl rfl dX7_of_45 ?_
        refine lv_aload_n hx hb dX7_of_48 rfl (lv_at hl 0 rfl) ?_
        refine x_getr E X ffX7_12 rfl rfl dX7_of_49 ?_
        refine x_get E X ffX7_123 rfl rfl dX7_of_52 ?_
        refine lv_aload_n hx hb dX7_of_55 rfl (lv_at hl 0 rfl) ?_
        refine x_getr E X ffX7_12 rfl rfl dX7_of_56 ?_
        refine lv_aload_n hx hb dX7_of_59 rfl (lv_at hl 0 rfl) ?_
        refine x_getr E X ffX7_12 rfl rfl dX7_of_60 ?_
        refine x_get E X ffX7_123 rfl rfl dX7_of_63 ?_
        refine lv_iconst (v := (3 : Int32)) hx hb dX7_of_66 (by decide) ?_
        obtain ⟨r_8, S_9, hr_8, h⟩ := bnd_s h
        refine x_callV E X cwX7_145 (mX6_inHour l Z hQ  (S_6 1 8) (3 : Int32) hr_8) rfl rfl rfl rfl hl.1 rfl dX7_of_67 (fun H locs X => ?_)
        refine lv_iconst (v := (-1 : Int32)) hx hb dX7_of_70 (by decide) ?_
        obtain ⟨r_10, S_11, hr_10, h⟩ := bnd_s h
        refine x_callV E X cwX7_148 (mX6_shadeIn l Z hQ  (S_6 1 8) r_8 (-1 : Int32) hr_10) rfl rfl rfl rfl hl.1 rfl dX7_of_71 (fun H locs X => ?_)
        refine lv_istore_n (lv' := [(3, .int r_10), (0, .ref (Z.2.1 0)), (1, .int x1), (2, .int x2)]) hx hb dX7_of_74 rfl hl (by decide) rfl (fun ls hl => ?_)
        refine lv_aload_n hx hb dX7_of_75 rfl (lv_at hl 1 rfl) ?_
        refine x_getr E X ffX7_12 rfl rfl dX7_of_76 ?_
        refine lv_iload_n hx hb dX7_of_79 rfl (lv_at hl 2 rfl) ?_
        refine lv_iload_n hx hb dX7_of_80 rfl (lv_at hl 0 rfl) ?_
        obtain ⟨r_12, S_13, hr_12, h⟩ := bnd_s h
        refine x_callV E X cwX7_152 (mX6_isShaded l Z hQ  x1 r_10 hr_12) rfl rfl rfl rfl hl.1 rfl dX7_of_81 (fun H locs X => ?_)
        refine lv_if_eq (tgt := 91) hx hb dX7_of_84 (by decide) (fun c_14 => ?_) (fun c_14 => ?_)
        · have h := if_t c_14 h
          refine lv_iconst (v := (0 : Int32)) hx hb dX7_of_91 (by decide) ?_
          exact x_iret E X h dX7_of_92
        · have h := if_f c_14 h
          refine lv_iconst (v := (1 : Int32)) hx hb dX7_of_87 (by decide) ?_
          refine lv_goto (tgt := 92) hx hb dX7_of_88 (by decide) ?_
          exact x_iret E X h dX7_of_92
      · have h := if_t c_7 h
        refine lv_iconst (v := (0 : Int32)) hx hb dX7_of_42 (by decide) ?_
        exact x_iret E X h dX7_of_43
    · have h := if_f c_4 h
      refine lv_aload_n hx hb dX7_of_19 rfl (lv_at hl 0 rfl) ?_
      refine x_getr E X ffX7_12 rfl rfl dX7_of_20 ?_
      refine lv_iload_n hx hb dX7_of_23 rfl (lv_at hl 1 rfl) ?_
      refine lv_iload_n hx hb dX7_of_24 rfl (lv_at hl 2 rfl) ?_
      obtain ⟨r_15, S_16, hr_15, h⟩ := bnd_s h
      refine x_callV E X cwX7_136 (mX6_has l Z hQ  x1 x2 hr_15) rfl rfl rfl rfl hl.1 rfl dX7_of_25 (fun H locs X => ?_)
      exact x_iret E X h dX7_of_28
  · have h := if_t c_3 h
    refine lv_iconst (v := (-1 : Int32)) hx hb dX7_of_11 (by decide) ?_
    exact x_iret E X h dX7_of_12
/-- SevenToAShadow.of(II)I -/
theorem mX7_of (l : Launch) (Z : XG) (hQ : wQ (List.length xL) Z) {S S' : Mem} {r : Int32} (x1 x2 : Int32) (h : fX7_of S x1 x2 = some (r, S')) : XM l yX7_of cX7_of 4 (some .int) { frames := 4, cells := 0, slots := 0, locals := 99 } xL Z [.ref (Z.2.1 0), .int x1, .int x2] S (XQ xL Z r S') := by
  refine XM.of (own := RX7) (by decide +kernel) rfl rfl hQ (fun p e s m args below meth c E ls hl X => ?_)
  exact wX7_of E S x1 x2 h _ _ _ X hl
def fX7_shade (S : Mem) (x1 x2 : Int32) : O := bnd (fX7_isPlace S x1) fun r_1 S_2 => (if r_1 = 0 then some ((-1 : Int32), S_2) else bnd (fX7_isHour S_2 x2) fun r_4 S_5 => (if r_4 = 0 then some ((-1 : Int32), S_5) else bnd (fX6_inHour S_5 x2 (3 : Int32)) fun r_7 S_8 => bnd (fX6_shadeIn S_8 x2 r_7 (-1 : Int32)) fun r_9 S_10 => some (((r_9 >>> (x1 &&& 31)) &&& (1 : Int32)), S_10)))
theorem dX7_shade_0 : decode cX7_shade 0 = .ok (.iload_n 1, 1) := by decide +kernel
theorem dX7_shade_1 : decode cX7_shade 1 = .ok (.invokestatic 76, 3) := by decide +kernel
theorem dX7_shade_4 : decode cX7_shade 4 = .ok (.ifCond .eq 10, 3) := by decide +kernel
theorem dX7_shade_7 : decode cX7_shade 7 = .ok (.iload_n 2, 1) := by decide +kernel
theorem dX7_shade_8 : decode cX7_shade 8 = .ok (.invokestatic 53, 3) := by decide +kernel
theorem dX7_shade_11 : decode cX7_shade 11 = .ok (.ifCond .ne 5, 3) := by decide +kernel
theorem dX7_shade_14 : decode cX7_shade 14 = .ok (.iconst (-1), 1) := by decide +kernel
theorem dX7_shade_15 : decode cX7_shade 15 = .ok (.ireturn, 1) := by decide +kernel
theorem dX7_shade_16 : decode cX7_shade 16 = .ok (.aload_n 0, 1) := by decide +kernel
theorem dX7_shade_17 : decode cX7_shade 17 = .ok (.getfield 12, 3) := by decide +kernel
theorem dX7_shade_20 : decode cX7_shade 20 = .ok (.iload_n 2, 1) := by decide +kernel
theorem dX7_shade_21 : decode cX7_shade 21 = .ok (.aload_n 0, 1) := by decide +kernel
theorem dX7_shade_22 : decode cX7_shade 22 = .ok (.getfield 12, 3) := by decide +kernel
theorem dX7_shade_25 : decode cX7_shade 25 = .ok (.iload_n 2, 1) := by decide +kernel
theorem dX7_shade_26 : decode cX7_shade 26 = .ok (.iconst 3, 1) := by decide +kernel
theorem dX7_shade_27 : decode cX7_shade 27 = .ok (.invokevirtual 145, 3) := by decide +kernel
theorem dX7_shade_30 : decode cX7_shade 30 = .ok (.iconst (-1), 1) := by decide +kernel
theorem dX7_shade_31 : decode cX7_shade 31 = .ok (.invokevirtual 148, 3) := by decide +kernel
theorem dX7_shade_34 : decode cX7_shade 34 = .ok (.iload_n 1, 1) := by decide +kernel
theorem dX7_shade_35 : decode cX7_shade 35 = .ok (.ishr, 1) := by decide +kernel
theorem dX7_shade_36 : decode cX7_shade 36 = .ok (.iconst 1, 1) := by decide +kernel
theorem dX7_shade_37 : decode cX7_shade 37 = .ok (.iand, 1) := by decide +kernel
theorem dX7_shade_38 : decode cX7_shade 38 = .ok (.ireturn, 1) := by decide +kernel
set_option maxRecDepth 20000 in
theorem wX7_shade {p : Program} {l : Launch} {e : Env} {s : State} {m : MethodId} {args : Array Value} {below : List Frame} {meth : Method} {c : Code} {Z : XG} {r : Int32} {S' : Mem} (E : XE p s m args meth c cX7_shade 3 RX7 (some .int) xL Z) : ∀ (S : Mem) (x1 x2 : Int32), fX7_shade  S x1 x2 = some (r, S') → WN p l e { frames := 4, cells := 0, slots := 0, locals := 99 } s m args below meth c xL Z (XQ xL Z r S') S 0 3 [(0, .ref (Z.2.1 0)), (1, .int x1), (2, .int x2)] [] := by
  obtain ⟨hx, hb, -, -, -, -, -, -, -, hQ⟩ := id E
  intro S x1 x2 h H locs ls X hl
  unfold fX7_shade at h
  refine lv_iload_n hx hb dX7_shade_0 rfl (lv_at hl 1 rfl) ?_
  obtain ⟨r_1, S_2, hr_1, h⟩ := bnd_s h
  refine x_callS E X cwX7_76 (mX7_isPlace l Z hQ  x1 hr_1) rfl rfl hl.1 rfl dX7_shade_1 (fun H locs X => ?_)
  refine lv_if_eq (tgt := 14) hx hb dX7_shade_4 (by decide) (fun c_3 => ?_) (fun c_3 => ?_)
  · have h := if_t c_3 h
    refine lv_iconst (v := (-1 : Int32)) hx hb dX7_shade_14 (by decide) ?_
    exact x_iret E X h dX7_shade_15
  · have h := if_f c_3 h
    refine lv_iload_n hx hb dX7_shade_7 rfl (lv_at hl 2 rfl) ?_
    obtain ⟨r_4, S_5, hr_4, h⟩ := bnd_s h
    refine x_callS E X cwX7_53 (mX7_isHour l Z hQ  x2 hr_4) rfl rfl hl.1 rfl dX7_shade_8 (fun H locs X => ?_)
    refine lv_if_ne (tgt := 16) hx hb dX7_shade_11 (by decide) (fun c_6 => ?_) (fun c_6 => ?_)
    · have h := if_f c_6 h
      refine lv_aload_n hx hb dX7_shade_16 rfl (lv_at hl 0 rfl) ?_
      refine x_getr E X ffX7_12 rfl rfl dX7_shade_17 ?_
      refine lv_iload_n hx hb dX7_shade_20 rfl (lv_at hl 2 rfl) ?_
      refine lv_aload_n hx hb dX7_shade_21 rfl (lv_at hl 0 rfl) ?_
      refine x_getr E X ffX7_12 rfl rfl dX7_shade_22 ?_
      refine lv_iload_n hx hb dX7_shade_25 rfl (lv_at hl 2 rfl) ?_
      refine lv_iconst (v := (3 : Int32)) hx hb dX7_shade_26 (by decide) ?_
      obtain ⟨r_7, S_8, hr_7, h⟩ := bnd_s h
      refine x_callV E X cwX7_145 (mX6_inHour l Z hQ  x2 (3 : Int32) hr_7) rfl rfl rfl rfl hl.1 rfl dX7_shade_27 (fun H locs X => ?_)
      refine lv_iconst (v := (-1 : Int32)) hx hb dX7_shade_30 (by decide) ?_
      obtain ⟨r_9, S_10, hr_9, h⟩ := bnd_s h
      refine x_callV E X cwX7_148 (mX6_shadeIn l Z hQ  x2 r_7 (-1 : Int32) hr_9) rfl rfl rfl rfl hl.1 rfl dX7_shade_31 (fun H locs X => ?_)
      refine lv_iload_n hx hb dX7_shade_34 rfl (lv_at hl 1 rfl) ?_
      refine lv_ishr hx hb dX7_shade_35 ?_
      refine lv_iconst (v := (1 : Int32)) hx hb dX7_shade_36 (by decide) ?_
      refine lv_iand hx hb dX7_shade_37 ?_
      exact x_iret E X h dX7_shade_38
    · have h := if_t c_6 h
      refine lv_iconst (v := (-1 : Int32)) hx hb dX7_shade_14 (by decide) ?_
      exact x_iret E X h dX7_shade_15
/-- SevenToAShadow.shade(II)I -/
theorem mX7_shade (l : Launch) (Z : XG) (hQ : wQ (List.length xL) Z) {S S' : Mem} {r : Int32} (x1 x2 : Int32) (h : fX7_shade S x1 x2 = some (r, S')) : XM l yX7_shade cX7_shade 3 (some .int) { frames := 4, cells := 0, slots := 0, locals := 99 } xL Z [.ref (Z.2.1 0), .int x1, .int x2] S (XQ xL Z r S') := by
  refine XM.of (own := RX7) (by decide +kernel) rfl rfl hQ (fun p e s m args below meth c E ls hl X => ?_)
  exact wX7_shade E S x1 x2 h _ _ _ X hl
def fX0_read (S : Mem) (x1 x2 : Int32) : O := (if x1 < 0 then some ((-1 : Int32), S) else (if (S 6 1) ≤ x1 then some ((-1 : Int32), S) else (if x2 < 0 then some ((-1 : Int32), S) else (if x2 < (4 : Int32) then gd (inB ((x1 * (4 : Int32)) + x2) 800) <| some ((S 7 (((x1 * (4 : Int32)) + x2)).toNatClampNeg), S) else some ((-1 : Int32), S)))))
theorem dX0_read_0 : decode cX0_read 0 = .ok (.iload_n 1, 1) := by decide +kernel
theorem dX0_read_1 : decode cX0_read 1 = .ok (.ifCond .lt 20, 3) := by decide +kernel
theorem dX0_read_4 : decode cX0_read 4 = .ok (.iload_n 1, 1) := by decide +kernel
theorem dX0_read_5 : decode cX0_read 5 = .ok (.aload_n 0, 1) := by decide +kernel
theorem dX0_read_6 : decode cX0_read 6 = .ok (.getfield 15, 3) := by decide +kernel
theorem dX0_read_9 : decode cX0_read 9 = .ok (.if_icmp .ge 12, 3) := by decide +kernel
theorem dX0_read_12 : decode cX0_read 12 = .ok (.iload_n 2, 1) := by decide +kernel
theorem dX0_read_13 : decode cX0_read 13 = .ok (.ifCond .lt 8, 3) := by decide +kernel
theorem dX0_read_16 : decode cX0_read 16 = .ok (.iload_n 2, 1) := by decide +kernel
theorem dX0_read_17 : decode cX0_read 17 = .ok (.iconst 4, 1) := by decide +kernel
theorem dX0_read_18 : decode cX0_read 18 = .ok (.if_icmp .lt 5, 3) := by decide +kernel
theorem dX0_read_21 : decode cX0_read 21 = .ok (.iconst (-1), 1) := by decide +kernel
theorem dX0_read_22 : decode cX0_read 22 = .ok (.ireturn, 1) := by decide +kernel
theorem dX0_read_23 : decode cX0_read 23 = .ok (.aload_n 0, 1) := by decide +kernel
theorem dX0_read_24 : decode cX0_read 24 = .ok (.getfield 9, 3) := by decide +kernel
theorem dX0_read_27 : decode cX0_read 27 = .ok (.iload_n 1, 1) := by decide +kernel
theorem dX0_read_28 : decode cX0_read 28 = .ok (.iconst 4, 1) := by decide +kernel
theorem dX0_read_29 : decode cX0_read 29 = .ok (.imul, 1) := by decide +kernel
theorem dX0_read_30 : decode cX0_read 30 = .ok (.iload_n 2, 1) := by decide +kernel
theorem dX0_read_31 : decode cX0_read 31 = .ok (.iadd, 1) := by decide +kernel
theorem dX0_read_32 : decode cX0_read 32 = .ok (.iaload, 1) := by decide +kernel
theorem dX0_read_33 : decode cX0_read 33 = .ok (.ireturn, 1) := by decide +kernel
set_option maxRecDepth 20000 in
theorem wX0_read {p : Program} {l : Launch} {e : Env} {s : State} {m : MethodId} {args : Array Value} {below : List Frame} {meth : Method} {c : Code} {Z : XG} {r : Int32} {S' : Mem} (E : XE p s m args meth c cX0_read 3 RX0 (some .int) xL Z) : ∀ (S : Mem) (x1 x2 : Int32), fX0_read  S x1 x2 = some (r, S') → WN p l e { frames := 0, cells := 0, slots := 0, locals := 0 } s m args below meth c xL Z (XQ xL Z r S') S 0 3 [(0, .ref (Z.2.1 6)), (1, .int x1), (2, .int x2)] [] := by
  obtain ⟨hx, hb, -, -, -, -, -, -, -, hQ⟩ := id E
  intro S x1 x2 h H locs ls X hl
  unfold fX0_read at h
  refine lv_iload_n hx hb dX0_read_0 rfl (lv_at hl 1 rfl) ?_
  refine lv_if_lt (tgt := 21) hx hb dX0_read_1 (by decide) (fun c_1 => ?_) (fun c_1 => ?_)
  · have h := if_t c_1 h
    refine lv_iconst (v := (-1 : Int32)) hx hb dX0_read_21 (by decide) ?_
    exact x_iret E X h dX0_read_22
  · have h := if_f c_1 h
    refine lv_iload_n hx hb dX0_read_4 rfl (lv_at hl 1 rfl) ?_
    refine lv_aload_n hx hb dX0_read_5 rfl (lv_at hl 0 rfl) ?_
    refine x_get E X ffX0_15 rfl rfl dX0_read_6 ?_
    refine lv_icmp_ge (tgt := 21) hx hb dX0_read_9 (by decide) (fun c_2 => ?_) (fun c_2 => ?_)
    · have h := if_t c_2 h
      refine lv_iconst (v := (-1 : Int32)) hx hb dX0_read_21 (by decide) ?_
      exact x_iret E X h dX0_read_22
    · have h := if_f c_2 h
      refine lv_iload_n hx hb dX0_read_12 rfl (lv_at hl 2 rfl) ?_
      refine lv_if_lt (tgt := 21) hx hb dX0_read_13 (by decide) (fun c_3 => ?_) (fun c_3 => ?_)
      · have h := if_t c_3 h
        refine lv_iconst (v := (-1 : Int32)) hx hb dX0_read_21 (by decide) ?_
        exact x_iret E X h dX0_read_22
      · have h := if_f c_3 h
        refine lv_iload_n hx hb dX0_read_16 rfl (lv_at hl 2 rfl) ?_
        refine lv_iconst (v := (4 : Int32)) hx hb dX0_read_17 (by decide) ?_
        refine lv_icmp_lt (tgt := 23) hx hb dX0_read_18 (by decide) (fun c_4 => ?_) (fun c_4 => ?_)
        · have h := if_t c_4 h
          refine lv_aload_n hx hb dX0_read_23 rfl (lv_at hl 0 rfl) ?_
          refine x_getr E X ffX0_9 rfl rfl dX0_read_24 ?_
          refine lv_iload_n hx hb dX0_read_27 rfl (lv_at hl 1 rfl) ?_
          refine lv_iconst (v := (4 : Int32)) hx hb dX0_read_28 (by decide) ?_
          refine lv_imul hx hb dX0_read_29 ?_
          refine lv_iload_n hx hb dX0_read_30 rfl (lv_at hl 2 rfl) ?_
          refine lv_iadd hx hb dX0_read_31 ?_
          obtain ⟨g_5, h⟩ := gd_s h
          refine x_iald E X rfl g_5 dX0_read_32 ?_
          exact x_iret E X h dX0_read_33
        · have h := if_f c_4 h
          refine lv_iconst (v := (-1 : Int32)) hx hb dX0_read_21 (by decide) ?_
          exact x_iret E X h dX0_read_22
/-- SevenToAShadow$Book.read(II)I -/
theorem mX0_read (l : Launch) (Z : XG) (hQ : wQ (List.length xL) Z) {S S' : Mem} {r : Int32} (x1 x2 : Int32) (h : fX0_read S x1 x2 = some (r, S')) : XM l yX0_read cX0_read 3 (some .int) { frames := 0, cells := 0, slots := 0, locals := 0 } xL Z [.ref (Z.2.1 6), .int x1, .int x2] S (XQ xL Z r S') := by
  refine XM.of (own := RX0) (by decide +kernel) rfl rfl hQ (fun p e s m args below meth c E ls hl X => ?_)
  exact wX0_read E S x1 x2 h _ _ _ X hl
def fX7_book (S : Mem) (x1 x2 : Int32) : O := bnd (fX0_read S x1 x2) fun r_1 S_2 => some (r_1, S_2)
theorem dX7_book_0 : decode cX7_book 0 = .ok (.aload_n 0, 1) := by decide +kernel
theorem dX7_book_1 : decode cX7_book 1 = .ok (.getfield 12, 3) := by decide +kernel
theorem dX7_book_4 : decode cX7_book 4 = .ok (.getfield 156, 3) := by decide +kernel
theorem dX7_book_7 : decode cX7_book 7 = .ok (.iload_n 1, 1) := by decide +kernel
theorem dX7_book_8 : decode cX7_book 8 = .ok (.iload_n 2, 1) := by decide +kernel
theorem dX7_book_9 : decode cX7_book 9 = .ok (.invokevirtual 160, 3) := by decide +kernel
theorem dX7_book_12 : decode cX7_book 12 = .ok (.ireturn, 1) := by decide +kernel
set_option maxRecDepth 20000 in
theorem wX7_book {p : Program} {l : Launch} {e : Env} {s : State} {m : MethodId} {args : Array Value} {below : List Frame} {meth : Method} {c : Code} {Z : XG} {r : Int32} {S' : Mem} (E : XE p s m args meth c cX7_book 3 RX7 (some .int) xL Z) : ∀ (S : Mem) (x1 x2 : Int32), fX7_book  S x1 x2 = some (r, S') → WN p l e { frames := 1, cells := 0, slots := 0, locals := 22 } s m args below meth c xL Z (XQ xL Z r S') S 0 3 [(0, .ref (Z.2.1 0)), (1, .int x1), (2, .int x2)] [] := by
  obtain ⟨hx, hb, -, -, -, -, -, -, -, hQ⟩ := id E
  intro S x1 x2 h H locs ls X hl
  unfold fX7_book at h
  refine lv_aload_n hx hb dX7_book_0 rfl (lv_at hl 0 rfl) ?_
  refine x_getr E X ffX7_12 rfl rfl dX7_book_1 ?_
  refine x_getr E X ffX7_156 rfl rfl dX7_book_4 ?_
  refine lv_iload_n hx hb dX7_book_7 rfl (lv_at hl 1 rfl) ?_
  refine lv_iload_n hx hb dX7_book_8 rfl (lv_at hl 2 rfl) ?_
  obtain ⟨r_1, S_2, hr_1, h⟩ := bnd_s h
  refine x_callV E X cwX7_160 (mX0_read l Z hQ  x1 x2 hr_1) rfl rfl rfl rfl hl.1 rfl dX7_book_9 (fun H locs X => ?_)
  exact x_iret E X h dX7_book_12
/-- SevenToAShadow.book(II)I -/
theorem mX7_book (l : Launch) (Z : XG) (hQ : wQ (List.length xL) Z) {S S' : Mem} {r : Int32} (x1 x2 : Int32) (h : fX7_book S x1 x2 = some (r, S')) : XM l yX7_book cX7_book 3 (some .int) { frames := 1, cells := 0, slots := 0, locals := 22 } xL Z [.ref (Z.2.1 0), .int x1, .int x2] S (XQ xL Z r S') := by
  refine XM.of (own := RX7) (by decide +kernel) rfl rfl hQ (fun p e s m args below meth c E ls hl X => ?_)
  exact wX7_book E S x1 x2 h _ _ _ X hl
def fX7_areHours (S : Mem) (x0 x1 : Int32) : O := (if x0 < 0 then some ((0 : Int32), S) else (if x1 < x0 then some ((0 : Int32), S) else (if (12 : Int32) ≤ x1 then some ((0 : Int32), S) else some ((1 : Int32), S))))
theorem dX7_areHours_0 : decode cX7_areHours 0 = .ok (.iload_n 0, 1) := by decide +kernel
theorem dX7_areHours_1 : decode cX7_areHours 1 = .ok (.ifCond .lt 18, 3) := by decide +kernel
theorem dX7_areHours_4 : decode cX7_areHours 4 = .ok (.iload_n 0, 1) := by decide +kernel
theorem dX7_areHours_5 : decode cX7_areHours 5 = .ok (.iload_n 1, 1) := by decide +kernel
theorem dX7_areHours_6 : decode cX7_areHours 6 = .ok (.if_icmp .gt 13, 3) := by decide +kernel
theorem dX7_areHours_9 : decode cX7_areHours 9 = .ok (.iload_n 1, 1) := by decide +kernel
theorem dX7_areHours_10 : decode cX7_areHours 10 = .ok (.bipush 12, 2) := by decide +kernel
theorem dX7_areHours_12 : decode cX7_areHours 12 = .ok (.if_icmp .ge 7, 3) := by decide +kernel
theorem dX7_areHours_15 : decode cX7_areHours 15 = .ok (.iconst 1, 1) := by decide +kernel
theorem dX7_areHours_16 : decode cX7_areHours 16 = .ok (.goto 4, 3) := by decide +kernel
theorem dX7_areHours_19 : decode cX7_areHours 19 = .ok (.iconst 0, 1) := by decide +kernel
theorem dX7_areHours_20 : decode cX7_areHours 20 = .ok (.ireturn, 1) := by decide +kernel
set_option maxRecDepth 20000 in
theorem wX7_areHours {p : Program} {l : Launch} {e : Env} {s : State} {m : MethodId} {args : Array Value} {below : List Frame} {meth : Method} {c : Code} {Z : XG} {r : Int32} {S' : Mem} (E : XE p s m args meth c cX7_areHours 2 RX7 (some .boolean) xL Z) : ∀ (S : Mem) (x0 x1 : Int32), fX7_areHours  S x0 x1 = some (r, S') → WN p l e { frames := 0, cells := 0, slots := 0, locals := 0 } s m args below meth c xL Z (XQ xL Z r S') S 0 2 [(0, .int x0), (1, .int x1)] [] := by
  obtain ⟨hx, hb, -, -, -, -, -, -, -, hQ⟩ := id E
  intro S x0 x1 h H locs ls X hl
  unfold fX7_areHours at h
  refine lv_iload_n hx hb dX7_areHours_0 rfl (lv_at hl 0 rfl) ?_
  refine lv_if_lt (tgt := 19) hx hb dX7_areHours_1 (by decide) (fun c_1 => ?_) (fun c_1 => ?_)
  · have h := if_t c_1 h
    refine lv_iconst (v := (0 : Int32)) hx hb dX7_areHours_19 (by decide) ?_
    exact x_zret E X rfl h dX7_areHours_20
  · have h := if_f c_1 h
    refine lv_iload_n hx hb dX7_areHours_4 rfl (lv_at hl 0 rfl) ?_
    refine lv_iload_n hx hb dX7_areHours_5 rfl (lv_at hl 1 rfl) ?_
    refine lv_icmp_gt (tgt := 19) hx hb dX7_areHours_6 (by decide) (fun c_2 => ?_) (fun c_2 => ?_)
    · have h := if_t c_2 h
      refine lv_iconst (v := (0 : Int32)) hx hb dX7_areHours_19 (by decide) ?_
      exact x_zret E X rfl h dX7_areHours_20
    · have h := if_f c_2 h
      refine lv_iload_n hx hb dX7_areHours_9 rfl (lv_at hl 1 rfl) ?_
      refine lv_bipush (v := (12 : Int32)) hx hb dX7_areHours_10 (by decide) ?_
      refine lv_icmp_ge (tgt := 19) hx hb dX7_areHours_12 (by decide) (fun c_3 => ?_) (fun c_3 => ?_)
      · have h := if_t c_3 h
        refine lv_iconst (v := (0 : Int32)) hx hb dX7_areHours_19 (by decide) ?_
        exact x_zret E X rfl h dX7_areHours_20
      · have h := if_f c_3 h
        refine lv_iconst (v := (1 : Int32)) hx hb dX7_areHours_15 (by decide) ?_
        refine lv_goto (tgt := 20) hx hb dX7_areHours_16 (by decide) ?_
        exact x_zret E X rfl h dX7_areHours_20
/-- SevenToAShadow.areHours(II)Z -/
theorem mX7_areHours (l : Launch) (Z : XG) (hQ : wQ (List.length xL) Z) {S S' : Mem} {r : Int32} (x0 x1 : Int32) (h : fX7_areHours S x0 x1 = some (r, S')) : XM l yX7_areHours cX7_areHours 2 (some .boolean) { frames := 0, cells := 0, slots := 0, locals := 0 } xL Z [.int x0, .int x1] S (XQ xL Z r S') := by
  refine XM.of (own := RX7) (by decide +kernel) rfl rfl hQ (fun p e s m args below meth c E ls hl X => ?_)
  exact wX7_areHours E S x0 x1 h _ _ _ X hl
def fJ7_fill_33_5_b (k0 : Mem → Int32 → Int32 → Int32 → O) (S : Mem) (x1 x2 x3 : Int32) : O := (if x3 ≤ x2 then some ((0 : Int32), S) else gd (inB x2 25) <| ltm (mset S 33 (x2).toNatClampNeg x1) fun S_3 => k0 S_3 x1 (x2 + (1 : Int32)) x3)
def fJ7_fill_33_5 : Nat → Mem → Int32 → Int32 → Int32 → O
  | 0 => fun _ _ _ _ => none
  | n + 1 => fJ7_fill_33_5_b (fJ7_fill_33_5 n)
def fJ7_fill_33 (S : Mem) (x1 : Int32) : O := fJ7_fill_33_5  FU S x1 (0 : Int32) (25 : Int32)
theorem dJ7_fill_53178_0 : decode cJ7_fill_53178 0 = .ok (.iconst 0, 1) := by decide +kernel
theorem dJ7_fill_53178_1 : decode cJ7_fill_53178 1 = .ok (.istore_n 2, 1) := by decide +kernel
theorem dJ7_fill_53178_2 : decode cJ7_fill_53178 2 = .ok (.aload_n 0, 1) := by decide +kernel
theorem dJ7_fill_53178_3 : decode cJ7_fill_53178 3 = .ok (.arraylength, 1) := by decide +kernel
theorem dJ7_fill_53178_4 : decode cJ7_fill_53178 4 = .ok (.istore_n 3, 1) := by decide +kernel
theorem dJ7_fill_53178_5 : decode cJ7_fill_53178 5 = .ok (.iload_n 2, 1) := by decide +kernel
theorem dJ7_fill_53178_6 : decode cJ7_fill_53178 6 = .ok (.iload_n 3, 1) := by decide +kernel
theorem dJ7_fill_53178_7 : decode cJ7_fill_53178 7 = .ok (.if_icmp .ge 13, 3) := by decide +kernel
theorem dJ7_fill_53178_10 : decode cJ7_fill_53178 10 = .ok (.aload_n 0, 1) := by decide +kernel
theorem dJ7_fill_53178_11 : decode cJ7_fill_53178 11 = .ok (.iload_n 2, 1) := by decide +kernel
theorem dJ7_fill_53178_12 : decode cJ7_fill_53178 12 = .ok (.iload_n 1, 1) := by decide +kernel
theorem dJ7_fill_53178_13 : decode cJ7_fill_53178 13 = .ok (.iastore, 1) := by decide +kernel
theorem dJ7_fill_53178_14 : decode cJ7_fill_53178 14 = .ok (.iinc 2 1, 3) := by decide +kernel
theorem dJ7_fill_53178_17 : decode cJ7_fill_53178 17 = .ok (.goto (-12), 3) := by decide +kernel
theorem dJ7_fill_53178_20 : decode cJ7_fill_53178 20 = .ok (.return_, 1) := by decide +kernel
set_option maxRecDepth 20000 in
theorem wJ7_fill_33_5_b {p : Program} {l : Launch} {e : Env} {s : State} {m : MethodId} {args : Array Value} {below : List Frame} {meth : Method} {c : Code} {Z : XG} {r : Int32} {S' : Mem} (E : XE p s m args meth c cJ7_fill_53178 4 RJ7 none xL Z) (k0 : Mem → Int32 → Int32 → Int32 → O)  (hk0 : ∀ (S : Mem) (x1 x2 x3 : Int32), k0 S x1 x2 x3 = some (r, S') → WN p l e { frames := 0, cells := 0, slots := 0, locals := 0 } s m args below meth c xL Z (XV xL Z S') S 5 4 [(0, .ref (Z.2.1 33)), (1, .int x1), (2, .int x2), (3, .int x3)] []) : ∀ (S : Mem) (x1 x2 x3 : Int32), fJ7_fill_33_5_b k0 S x1 x2 x3 = some (r, S') → WN p l e { frames := 0, cells := 0, slots := 0, locals := 0 } s m args below meth c xL Z (XV xL Z S') S 5 4 [(0, .ref (Z.2.1 33)), (1, .int x1), (2, .int x2), (3, .int x3)] [] := by
  obtain ⟨hx, hb, -, -, -, -, -, -, -, hQ⟩ := id E
  intro S x1 x2 x3 h H locs ls X hl
  unfold fJ7_fill_33_5_b at h
  refine lv_iload_n hx hb dJ7_fill_53178_5 rfl (lv_at hl 2 rfl) ?_
  refine lv_iload_n hx hb dJ7_fill_53178_6 rfl (lv_at hl 3 rfl) ?_
  refine lv_icmp_ge (tgt := 20) hx hb dJ7_fill_53178_7 (by decide) (fun c_1 => ?_) (fun c_1 => ?_)
  · have h := if_t c_1 h
    exact x_vret E X h dJ7_fill_53178_20
  · have h := if_f c_1 h
    refine lv_aload_n hx hb dJ7_fill_53178_10 rfl (lv_at hl 0 rfl) ?_
    refine lv_iload_n hx hb dJ7_fill_53178_11 rfl (lv_at hl 2 rfl) ?_
    refine lv_iload_n hx hb dJ7_fill_53178_12 rfl (lv_at hl 1 rfl) ?_
    obtain ⟨g_2, h⟩ := gd_s h
    obtain ⟨S_3, eS_3, h⟩ := ltm_s h
    refine x_iast E X rfl g_2 dJ7_fill_53178_13 (fun H locs X => ?_)
    rw [← eS_3] at X
    refine lv_iinc (v := (x2 + (1 : Int32))) (lv' := [(2, .int (x2 + (1 : Int32))), (0, .ref (Z.2.1 33)), (1, .int x1), (3, .int x3)]) hx hb dJ7_fill_53178_14 hl (k := 2) rfl rfl (by decide) rfl (fun ls hl => ?_)
    refine lv_goto (tgt := 5) hx hb dJ7_fill_53178_17 (by decide) ?_
    exact hk0 S_3 x1 (x2 + (1 : Int32)) x3 h _ _ _ X (lv_sub hl [1, 2, 0, 3] rfl)
theorem wJ7_fill_33_5 {p : Program} {l : Launch} {e : Env} {s : State} {m : MethodId} {args : Array Value} {below : List Frame} {meth : Method} {c : Code} {Z : XG} {r : Int32} {S' : Mem} (E : XE p s m args meth c cJ7_fill_53178 4 RJ7 none xL Z) : ∀ (n : Nat) (S : Mem) (x1 x2 x3 : Int32), fJ7_fill_33_5 n S x1 x2 x3 = some (r, S') → WN p l e { frames := 0, cells := 0, slots := 0, locals := 0 } s m args below meth c xL Z (XV xL Z S') S 5 4 [(0, .ref (Z.2.1 33)), (1, .int x1), (2, .int x2), (3, .int x3)] [] := by
  intro n
  induction n with
  | zero => intro S x1 x2 x3 h; exact absurd (show (none : O) = some _ from h) (by simp)
  | succ n ih => intro S x1 x2 x3 h; exact wJ7_fill_33_5_b E (fJ7_fill_33_5 n) ih S x1 x2 x3 h
set_option maxRecDepth 20000 in
theorem wJ7_fill_33 {p : Program} {l : Launch} {e : Env} {s : State} {m : MethodId} {args : Array Value} {below : List Frame} {meth : Method} {c : Code} {Z : XG} {r : Int32} {S' : Mem} (E : XE p s m args meth c cJ7_fill_53178 4 RJ7 none xL Z) : ∀ (S : Mem) (x1 : Int32), fJ7_fill_33  S x1 = some (r, S') → WN p l e { frames := 0, cells := 0, slots := 0, locals := 0 } s m args below meth c xL Z (XV xL Z S') S 0 4 [(0, .ref (Z.2.1 33)), (1, .int x1)] [] := by
  obtain ⟨hx, hb, -, -, -, -, -, -, -, hQ⟩ := id E
  intro S x1 h H locs ls X hl
  unfold fJ7_fill_33 at h
  refine lv_iconst (v := (0 : Int32)) hx hb dJ7_fill_53178_0 (by decide) ?_
  refine lv_istore_n (lv' := [(2, .int (0 : Int32)), (0, .ref (Z.2.1 33)), (1, .int x1)]) hx hb dJ7_fill_53178_1 rfl hl (by decide) rfl (fun ls hl => ?_)
  refine lv_aload_n hx hb dJ7_fill_53178_2 rfl (lv_at hl 1 rfl) ?_
  refine x_alen E X (v := (25 : Int32)) rfl (by decide) dJ7_fill_53178_3 ?_
  refine lv_istore_n (lv' := [(3, .int (25 : Int32)), (2, .int (0 : Int32)), (0, .ref (Z.2.1 33)), (1, .int x1)]) hx hb dJ7_fill_53178_4 rfl hl (by decide) rfl (fun ls hl => ?_)
  exact wJ7_fill_33_5 E   FU S x1 (0 : Int32) (25 : Int32) h _ _ _ X (lv_sub hl [2, 3, 1, 0] rfl)
/-- java/util/Arrays.fill([II)V -/
theorem mJ7_fill_33 (l : Launch) (Z : XG) (hQ : wQ (List.length xL) Z) {S S' : Mem} {r : Int32} (x1 : Int32) (h : fJ7_fill_33 S x1 = some (r, S')) : XM l yJ7_fill_53178 cJ7_fill_53178 4 none { frames := 0, cells := 0, slots := 0, locals := 0 } xL Z [.ref (Z.2.1 33), .int x1] S (XV xL Z S') := by
  refine XM.of (own := RJ7) (by decide +kernel) rfl rfl hQ (fun p e s m args below meth c E ls hl X => ?_)
  exact wJ7_fill_33 E S x1 h _ _ _ X hl
def fX5_addSuns_128 (k0 : Mem → Int32 → Int32 → O) (k1 : Mem → Int32 → Int32 → Int32 → Int32 → O) (S : Mem) (x2 x3 x5 x6 : Int32) : O := k1 S x2 x3 x5 (x6 + (1 : Int32))
def fX5_addSuns_92_b (k0 : Mem → Int32 → Int32 → O) (k1 : Mem → Int32 → Int32 → Int32 → Int32 → O) (S : Mem) (x2 x3 x5 x6 : Int32) : O := (if (25 : Int32) ≤ x6 then k0 S x2 (x3 + (1 : Int32)) else (if ((x5 >>> (x6 &&& 31)) &&& (1 : Int32)) = 0 then gd (inB x6 25) <| bnd (fX6_inHour S x3 (2 : Int32)) fun r_4 S_5 => gd (inB x6 25) <| ltm (mset S_5 33 (x6).toNatClampNeg ((S 33 (x6).toNatClampNeg) + r_4)) fun S_7 => fX5_addSuns_128 k0 k1 S_7 x2 x3 x5 x6 else fX5_addSuns_128 k0 k1 S x2 x3 x5 x6))
def fX5_addSuns_92 (k0 : Mem → Int32 → Int32 → O) : Nat → Mem → Int32 → Int32 → Int32 → Int32 → O
  | 0 => fun _ _ _ _ _ => none
  | n + 1 => fX5_addSuns_92_b k0 (fX5_addSuns_92 k0 n)
def fX5_addSuns_83 (k0 : Mem → Int32 → Int32 → O) (k1 : Mem → Int32 → Int32 → Int32 → Int32 → Int32 → O) (S : Mem) (x2 x3 x4 x5 x6 : Int32) : O := k1 S x2 x3 x4 x5 (x6 + (1 : Int32))
def fX5_addSuns_40_b (k0 : Mem → Int32 → Int32 → O) (k1 : Mem → Int32 → Int32 → Int32 → Int32 → Int32 → O) (S : Mem) (x2 x3 x4 x5 x6 : Int32) : O := (if (S 1 9) ≤ x6 then fX5_addSuns_92 k0 FU S x2 x3 x5 (0 : Int32) else bnd (fX6_has S x6 (5 : Int32)) fun r_2 S_3 => (if r_2 = (1 : Int32) then bnd (fX6_parasolShade S_3 x6 x3 x4) fun r_5 S_6 => lti (x5 ||| r_5) fun x5_7 => fX5_addSuns_83 k0 k1 S_6 x2 x3 x4 x5_7 x6 else fX5_addSuns_83 k0 k1 S_3 x2 x3 x4 x5 x6))
def fX5_addSuns_40 (k0 : Mem → Int32 → Int32 → O) : Nat → Mem → Int32 → Int32 → Int32 → Int32 → Int32 → O
  | 0 => fun _ _ _ _ _ _ => none
  | n + 1 => fX5_addSuns_40_b k0 (fX5_addSuns_40 k0 n)
def fX5_addSuns_10_b (k0 : Mem → Int32 → Int32 → O) (S : Mem) (x2 x3 : Int32) : O := (if x2 < x3 then some ((0 : Int32), S) else bnd (fX6_inHour S x3 (3 : Int32)) fun r_2 S_3 => bnd (fX6_wayOfShade S_3 x3 r_2) fun r_4 S_5 => fX5_addSuns_40 k0 FU S_5 x2 x3 r_4 (0 : Int32) (0 : Int32))
def fX5_addSuns_10 : Nat → Mem → Int32 → Int32 → O
  | 0 => fun _ _ _ => none
  | n + 1 => fX5_addSuns_10_b (fX5_addSuns_10 n)
def fX5_addSuns (S : Mem) (x1 x2 : Int32) : O := bnd (fJ7_fill_33 S (0 : Int32)) fun _ S_2 => fX5_addSuns_10  FU S_2 x2 x1
theorem dX5_addSuns_0 : decode cX5_addSuns 0 = .ok (.aload_n 0, 1) := by decide +kernel
theorem dX5_addSuns_1 : decode cX5_addSuns 1 = .ok (.getfield 9, 3) := by decide +kernel
theorem dX5_addSuns_4 : decode cX5_addSuns 4 = .ok (.iconst 0, 1) := by decide +kernel
theorem dX5_addSuns_5 : decode cX5_addSuns 5 = .ok (.invokestatic 52, 3) := by decide +kernel
theorem dX5_addSuns_8 : decode cX5_addSuns 8 = .ok (.iload_n 1, 1) := by decide +kernel
theorem dX5_addSuns_9 : decode cX5_addSuns 9 = .ok (.istore_n 3, 1) := by decide +kernel
theorem dX5_addSuns_10 : decode cX5_addSuns 10 = .ok (.iload_n 3, 1) := by decide +kernel
theorem dX5_addSuns_11 : decode cX5_addSuns 11 = .ok (.iload_n 2, 1) := by decide +kernel
theorem dX5_addSuns_12 : decode cX5_addSuns 12 = .ok (.if_icmp .gt 128, 3) := by decide +kernel
theorem dX5_addSuns_15 : decode cX5_addSuns 15 = .ok (.aload_n 0, 1) := by decide +kernel
theorem dX5_addSuns_16 : decode cX5_addSuns 16 = .ok (.getfield 27, 3) := by decide +kernel
theorem dX5_addSuns_19 : decode cX5_addSuns 19 = .ok (.iload_n 3, 1) := by decide +kernel
theorem dX5_addSuns_20 : decode cX5_addSuns 20 = .ok (.aload_n 0, 1) := by decide +kernel
theorem dX5_addSuns_21 : decode cX5_addSuns 21 = .ok (.getfield 27, 3) := by decide +kernel
theorem dX5_addSuns_24 : decode cX5_addSuns 24 = .ok (.iload_n 3, 1) := by decide +kernel
theorem dX5_addSuns_25 : decode cX5_addSuns 25 = .ok (.iconst 3, 1) := by decide +kernel
theorem dX5_addSuns_26 : decode cX5_addSuns 26 = .ok (.invokevirtual 58, 3) := by decide +kernel
theorem dX5_addSuns_29 : decode cX5_addSuns 29 = .ok (.invokevirtual 61, 3) := by decide +kernel
theorem dX5_addSuns_32 : decode cX5_addSuns 32 = .ok (.istore 4, 2) := by decide +kernel
theorem dX5_addSuns_34 : decode cX5_addSuns 34 = .ok (.iconst 0, 1) := by decide +kernel
theorem dX5_addSuns_35 : decode cX5_addSuns 35 = .ok (.istore 5, 2) := by decide +kernel
theorem dX5_addSuns_37 : decode cX5_addSuns 37 = .ok (.iconst 0, 1) := by decide +kernel
theorem dX5_addSuns_38 : decode cX5_addSuns 38 = .ok (.istore 6, 2) := by decide +kernel
theorem dX5_addSuns_40 : decode cX5_addSuns 40 = .ok (.iload 6, 2) := by decide +kernel
theorem dX5_addSuns_42 : decode cX5_addSuns 42 = .ok (.aload_n 0, 1) := by decide +kernel
theorem dX5_addSuns_43 : decode cX5_addSuns 43 = .ok (.getfield 27, 3) := by decide +kernel
theorem dX5_addSuns_46 : decode cX5_addSuns 46 = .ok (.getfield 35, 3) := by decide +kernel
theorem dX5_addSuns_49 : decode cX5_addSuns 49 = .ok (.if_icmp .ge 40, 3) := by decide +kernel
theorem dX5_addSuns_52 : decode cX5_addSuns 52 = .ok (.aload_n 0, 1) := by decide +kernel
theorem dX5_addSuns_53 : decode cX5_addSuns 53 = .ok (.getfield 27, 3) := by decide +kernel
theorem dX5_addSuns_56 : decode cX5_addSuns 56 = .ok (.iload 6, 2) := by decide +kernel
theorem dX5_addSuns_58 : decode cX5_addSuns 58 = .ok (.iconst 5, 1) := by decide +kernel
theorem dX5_addSuns_59 : decode cX5_addSuns 59 = .ok (.invokevirtual 41, 3) := by decide +kernel
theorem dX5_addSuns_62 : decode cX5_addSuns 62 = .ok (.iconst 1, 1) := by decide +kernel
theorem dX5_addSuns_63 : decode cX5_addSuns 63 = .ok (.if_icmp .ne 20, 3) := by decide +kernel
theorem dX5_addSuns_66 : decode cX5_addSuns 66 = .ok (.iload 5, 2) := by decide +kernel
theorem dX5_addSuns_68 : decode cX5_addSuns 68 = .ok (.aload_n 0, 1) := by decide +kernel
theorem dX5_addSuns_69 : decode cX5_addSuns 69 = .ok (.getfield 27, 3) := by decide +kernel
theorem dX5_addSuns_72 : decode cX5_addSuns 72 = .ok (.iload 6, 2) := by decide +kernel
theorem dX5_addSuns_74 : decode cX5_addSuns 74 = .ok (.iload_n 3, 1) := by decide +kernel
theorem dX5_addSuns_75 : decode cX5_addSuns 75 = .ok (.iload 4, 2) := by decide +kernel
theorem dX5_addSuns_77 : decode cX5_addSuns 77 = .ok (.invokevirtual 64, 3) := by decide +kernel
theorem dX5_addSuns_80 : decode cX5_addSuns 80 = .ok (.ior, 1) := by decide +kernel
theorem dX5_addSuns_81 : decode cX5_addSuns 81 = .ok (.istore 5, 2) := by decide +kernel
theorem dX5_addSuns_83 : decode cX5_addSuns 83 = .ok (.iinc 6 1, 3) := by decide +kernel
theorem dX5_addSuns_86 : decode cX5_addSuns 86 = .ok (.goto (-46), 3) := by decide +kernel
theorem dX5_addSuns_89 : decode cX5_addSuns 89 = .ok (.iconst 0, 1) := by decide +kernel
theorem dX5_addSuns_90 : decode cX5_addSuns 90 = .ok (.istore 6, 2) := by decide +kernel
theorem dX5_addSuns_92 : decode cX5_addSuns 92 = .ok (.iload 6, 2) := by decide +kernel
theorem dX5_addSuns_94 : decode cX5_addSuns 94 = .ok (.bipush 25, 2) := by decide +kernel
theorem dX5_addSuns_96 : decode cX5_addSuns 96 = .ok (.if_icmp .ge 38, 3) := by decide +kernel
theorem dX5_addSuns_99 : decode cX5_addSuns 99 = .ok (.iload 5, 2) := by decide +kernel
theorem dX5_addSuns_101 : decode cX5_addSuns 101 = .ok (.iload 6, 2) := by decide +kernel
theorem dX5_addSuns_103 : decode cX5_addSuns 103 = .ok (.ishr, 1) := by decide +kernel
theorem dX5_addSuns_104 : decode cX5_addSuns 104 = .ok (.iconst 1, 1) := by decide +kernel
theorem dX5_addSuns_105 : decode cX5_addSuns 105 = .ok (.iand, 1) := by decide +kernel
theorem dX5_addSuns_106 : decode cX5_addSuns 106 = .ok (.ifCond .ne 22, 3) := by decide +kernel
theorem dX5_addSuns_109 : decode cX5_addSuns 109 = .ok (.aload_n 0, 1) := by decide +kernel
theorem dX5_addSuns_110 : decode cX5_addSuns 110 = .ok (.getfield 9, 3) := by decide +kernel
theorem dX5_addSuns_113 : decode cX5_addSuns 113 = .ok (.iload 6, 2) := by decide +kernel
theorem dX5_addSuns_115 : decode cX5_addSuns 115 = .ok (.dup2, 1) := by decide +kernel
theorem dX5_addSuns_116 : decode cX5_addSuns 116 = .ok (.iaload, 1) := by decide +kernel
theorem dX5_addSuns_117 : decode cX5_addSuns 117 = .ok (.aload_n 0, 1) := by decide +kernel
theorem dX5_addSuns_118 : decode cX5_addSuns 118 = .ok (.getfield 27, 3) := by decide +kernel
theorem dX5_addSuns_121 : decode cX5_addSuns 121 = .ok (.iload_n 3, 1) := by decide +kernel
theorem dX5_addSuns_122 : decode cX5_addSuns 122 = .ok (.iconst 2, 1) := by decide +kernel
theorem dX5_addSuns_123 : decode cX5_addSuns 123 = .ok (.invokevirtual 58, 3) := by decide +kernel
theorem dX5_addSuns_126 : decode cX5_addSuns 126 = .ok (.iadd, 1) := by decide +kernel
theorem dX5_addSuns_127 : decode cX5_addSuns 127 = .ok (.iastore, 1) := by decide +kernel
theorem dX5_addSuns_128 : decode cX5_addSuns 128 = .ok (.iinc 6 1, 3) := by decide +kernel
theorem dX5_addSuns_131 : decode cX5_addSuns 131 = .ok (.goto (-39), 3) := by decide +kernel
theorem dX5_addSuns_134 : decode cX5_addSuns 134 = .ok (.iinc 3 1, 3) := by decide +kernel
theorem dX5_addSuns_137 : decode cX5_addSuns 137 = .ok (.goto (-127), 3) := by decide +kernel
theorem dX5_addSuns_140 : decode cX5_addSuns 140 = .ok (.return_, 1) := by decide +kernel
set_option maxRecDepth 20000 in
theorem wX5_addSuns_128 {p : Program} {l : Launch} {e : Env} {s : State} {m : MethodId} {args : Array Value} {below : List Frame} {meth : Method} {c : Code} {Z : XG} {r : Int32} {S' : Mem} (E : XE p s m args meth c cX5_addSuns 7 RX5 none xL Z) (k0 : Mem → Int32 → Int32 → O)  (k1 : Mem → Int32 → Int32 → Int32 → Int32 → O)  (hk0 : ∀ (S : Mem) (x2 x3 : Int32), k0 S x2 x3 = some (r, S') → WN p l e { frames := 3, cells := 0, slots := 0, locals := 71 } s m args below meth c xL Z (XV xL Z S') S 10 7 [(0, .ref (Z.2.1 32)), (2, .int x2), (3, .int x3)] []) (hk1 : ∀ (S : Mem) (x2 x3 x5 x6 : Int32), k1 S x2 x3 x5 x6 = some (r, S') → WN p l e { frames := 3, cells := 0, slots := 0, locals := 71 } s m args below meth c xL Z (XV xL Z S') S 92 7 [(0, .ref (Z.2.1 32)), (2, .int x2), (3, .int x3), (5, .int x5), (6, .int x6)] []) : ∀ (S : Mem) (x2 x3 x5 x6 : Int32), fX5_addSuns_128 k0 k1 S x2 x3 x5 x6 = some (r, S') → WN p l e { frames := 3, cells := 0, slots := 0, locals := 71 } s m args below meth c xL Z (XV xL Z S') S 128 7 [(0, .ref (Z.2.1 32)), (2, .int x2), (3, .int x3), (5, .int x5), (6, .int x6)] [] := by
  obtain ⟨hx, hb, -, -, -, -, -, -, -, hQ⟩ := id E
  intro S x2 x3 x5 x6 h H locs ls X hl
  unfold fX5_addSuns_128 at h
  refine lv_iinc (v := (x6 + (1 : Int32))) (lv' := [(6, .int (x6 + (1 : Int32))), (0, .ref (Z.2.1 32)), (2, .int x2), (3, .int x3), (5, .int x5)]) hx hb dX5_addSuns_128 hl (k := 4) rfl rfl (by decide) rfl (fun ls hl => ?_)
  refine lv_goto (tgt := 92) hx hb dX5_addSuns_131 (by decide) ?_
  exact hk1 S x2 x3 x5 (x6 + (1 : Int32)) h _ _ _ X (lv_sub hl [1, 2, 3, 4, 0] rfl)
set_option maxRecDepth 20000 in
theorem wX5_addSuns_92_b {p : Program} {l : Launch} {e : Env} {s : State} {m : MethodId} {args : Array Value} {below : List Frame} {meth : Method} {c : Code} {Z : XG} {r : Int32} {S' : Mem} (E : XE p s m args meth c cX5_addSuns 7 RX5 none xL Z) (k0 : Mem → Int32 → Int32 → O)  (k1 : Mem → Int32 → Int32 → Int32 → Int32 → O)  (hk0 : ∀ (S : Mem) (x2 x3 : Int32), k0 S x2 x3 = some (r, S') → WN p l e { frames := 3, cells := 0, slots := 0, locals := 71 } s m args below meth c xL Z (XV xL Z S') S 10 7 [(0, .ref (Z.2.1 32)), (2, .int x2), (3, .int x3)] []) (hk1 : ∀ (S : Mem) (x2 x3 x5 x6 : Int32), k1 S x2 x3 x5 x6 = some (r, S') → WN p l e { frames := 3, cells := 0, slots := 0, locals := 71 } s m args below meth c xL Z (XV xL Z S') S 92 7 [(0, .ref (Z.2.1 32)), (2, .int x2), (3, .int x3), (5, .int x5), (6, .int x6)] []) : ∀ (S : Mem) (x2 x3 x5 x6 : Int32), fX5_addSuns_92_b k0 k1 S x2 x3 x5 x6 = some (r, S') → WN p l e { frames := 3, cells := 0, slots := 0, locals := 71 } s m args below meth c xL Z (XV xL Z S') S 92 7 [(0, .ref (Z.2.1 32)), (2, .int x2), (3, .int x3), (5, .int x5), (6, .int x6)] [] := by
  obtain ⟨hx, hb, -, -, -, -, -, -, -, hQ⟩ := id E
  intro S x2 x3 x5 x6 h H locs ls X hl
  unfold fX5_addSuns_92_b at h
  refine lv_iload hx hb dX5_addSuns_92 (lv_at hl 4 rfl) ?_
  refine lv_bipush (v := (25 : Int32)) hx hb dX5_addSuns_94 (by decide) ?_
  refine lv_icmp_ge (tgt := 134) hx hb dX5_addSuns_96 (by decide) (fun c_1 => ?_) (fun c_1 => ?_)
  · have h := if_t c_1 h
    refine lv_iinc (v := (x3 + (1 : Int32))) (lv' := [(3, .int (x3 + (1 : Int32))), (0, .ref (Z.2.1 32)), (2, .int x2), (5, .int x5), (6, .int x6)]) hx hb dX5_addSuns_134 hl (k := 2) rfl rfl (by decide) rfl (fun ls hl => ?_)
    refine lv_goto (tgt := 10) hx hb dX5_addSuns_137 (by decide) ?_
    exact hk0 S x2 (x3 + (1 : Int32)) h _ _ _ X (lv_sub hl [1, 2, 0] rfl)
  · have h := if_f c_1 h
    refine lv_iload hx hb dX5_addSuns_99 (lv_at hl 3 rfl) ?_
    refine lv_iload hx hb dX5_addSuns_101 (lv_at hl 4 rfl) ?_
    refine lv_ishr hx hb dX5_addSuns_103 ?_
    refine lv_iconst (v := (1 : Int32)) hx hb dX5_addSuns_104 (by decide) ?_
    refine lv_iand hx hb dX5_addSuns_105 ?_
    refine lv_if_ne (tgt := 128) hx hb dX5_addSuns_106 (by decide) (fun c_2 => ?_) (fun c_2 => ?_)
    · have h := if_f c_2 h
      exact wX5_addSuns_128 E k0 k1 hk0 hk1 S x2 x3 x5 x6 h _ _ _ X hl
    · have h := if_t c_2 h
      refine lv_aload_n hx hb dX5_addSuns_109 rfl (lv_at hl 0 rfl) ?_
      refine x_getr E X ffX5_9 rfl rfl dX5_addSuns_110 ?_
      refine lv_iload hx hb dX5_addSuns_113 (lv_at hl 4 rfl) ?_
      refine lv_dup2_11 hx hb dX5_addSuns_115 rfl rfl ?_
      obtain ⟨g_3, h⟩ := gd_s h
      refine x_iald E X rfl g_3 dX5_addSuns_116 ?_
      refine lv_aload_n hx hb dX5_addSuns_117 rfl (lv_at hl 0 rfl) ?_
      refine x_getr E X ffX5_27 rfl rfl dX5_addSuns_118 ?_
      refine lv_iload_n hx hb dX5_addSuns_121 rfl (lv_at hl 2 rfl) ?_
      refine lv_iconst (v := (2 : Int32)) hx hb dX5_addSuns_122 (by decide) ?_
      obtain ⟨r_4, S_5, hr_4, h⟩ := bnd_s h
      refine x_callV E X cwX5_58 (mX6_inHour l Z hQ  x3 (2 : Int32) hr_4) rfl rfl rfl rfl hl.1 rfl dX5_addSuns_123 (fun H locs X => ?_)
      refine lv_iadd hx hb dX5_addSuns_126 ?_
      obtain ⟨g_6, h⟩ := gd_s h
      obtain ⟨S_7, eS_7, h⟩ := ltm_s h
      refine x_iast E X rfl g_6 dX5_addSuns_127 (fun H locs X => ?_)
      rw [← eS_7] at X
      exact wX5_addSuns_128 E k0 k1 hk0 hk1 S_7 x2 x3 x5 x6 h _ _ _ X hl
theorem wX5_addSuns_92 {p : Program} {l : Launch} {e : Env} {s : State} {m : MethodId} {args : Array Value} {below : List Frame} {meth : Method} {c : Code} {Z : XG} {r : Int32} {S' : Mem} (E : XE p s m args meth c cX5_addSuns 7 RX5 none xL Z) (k0 : Mem → Int32 → Int32 → O)  (hk0 : ∀ (S : Mem) (x2 x3 : Int32), k0 S x2 x3 = some (r, S') → WN p l e { frames := 3, cells := 0, slots := 0, locals := 71 } s m args below meth c xL Z (XV xL Z S') S 10 7 [(0, .ref (Z.2.1 32)), (2, .int x2), (3, .int x3)] []) : ∀ (n : Nat) (S : Mem) (x2 x3 x5 x6 : Int32), fX5_addSuns_92 k0 n S x2 x3 x5 x6 = some (r, S') → WN p l e { frames := 3, cells := 0, slots := 0, locals := 71 } s m args below meth c xL Z (XV xL Z S') S 92 7 [(0, .ref (Z.2.1 32)), (2, .int x2), (3, .int x3), (5, .int x5), (6, .int x6)] [] := by
  intro n
  induction n with
  | zero => intro S x2 x3 x5 x6 h; exact absurd (show (none : O) = some _ from h) (by simp)
  | succ n ih => intro S x2 x3 x5 x6 h; exact wX5_addSuns_92_b E k0 (fX5_addSuns_92 k0 n) hk0 ih S x2 x3 x5 x6 h
set_option maxRecDepth 20000 in
theorem wX5_addSuns_83 {p : Program} {l : Launch} {e : Env} {s : State} {m : MethodId} {args : Array Value} {below : List Frame} {meth : Method} {c : Code} {Z : XG} {r : Int32} {S' : Mem} (E : XE p s m args meth c cX5_addSuns 7 RX5 none xL Z) (k0 : Mem → Int32 → Int32 → O)  (k1 : Mem → Int32 → Int32 → Int32 → Int32 → Int32 → O)  (hk0 : ∀ (S : Mem) (x2 x3 : Int32), k0 S x2 x3 = some (r, S') → WN p l e { frames := 3, cells := 0, slots := 0, locals := 71 } s m args below meth c xL Z (XV xL Z S') S 10 7 [(0, .ref (Z.2.1 32)), (2, .int x2), (3, .int x3)] []) (hk1 : ∀ (S : Mem) (x2 x3 x4 x5 x6 : Int32), k1 S x2 x3 x4 x5 x6 = some (r, S') → WN p l e { frames := 3, cells := 0, slots := 0, locals := 71 } s m args below meth c xL Z (XV xL Z S') S 40 7 [(0, .ref (Z.2.1 32)), (2, .int x2), (3, .int x3), (4, .int x4), (5, .int x5), (6, .int x6)] []) : ∀ (S : Mem) (x2 x3 x4 x5 x6 : Int32), fX5_addSuns_83 k0 k1 S x2 x3 x4 x5 x6 = some (r, S') → WN p l e { frames := 3, cells := 0, slots := 0, locals := 71 } s m args below meth c xL Z (XV xL Z S') S 83 7 [(0, .ref (Z.2.1 32)), (2, .int x2), (3, .int x3), (4, .int x4), (5, .int x5), (6, .int x6)] [] := by
  obtain ⟨hx, hb, -, -, -, -, -, -, -, hQ⟩ := id E
  intro S x2 x3 x4 x5 x6 h H locs ls X hl
  unfold fX5_addSuns_83 at h
  refine lv_iinc (v := (x6 + (1 : Int32))) (lv' := [(6, .int (x6 + (1 : Int32))), (0, .ref (Z.2.1 32)), (2, .int x2), (3, .int x3), (4, .int x4), (5, .int x5)]) hx hb dX5_addSuns_83 hl (k := 5) rfl rfl (by decide) rfl (fun ls hl => ?_)
  refine lv_goto (tgt := 40) hx hb dX5_addSuns_86 (by decide) ?_
  exact hk1 S x2 x3 x4 x5 (x6 + (1 : Int32)) h _ _ _ X (lv_sub hl [1, 2, 3, 4, 5, 0] rfl)
set_option maxRecDepth 20000 in
theorem wX5_addSuns_40_b {p : Program} {l : Launch} {e : Env} {s : State} {m : MethodId} {args : Array Value} {below : List Frame} {meth : Method} {c : Code} {Z : XG} {r : Int32} {S' : Mem} (E : XE p s m args meth c cX5_addSuns 7 RX5 none xL Z) (k0 : Mem → Int32 → Int32 → O)  (k1 : Mem → Int32 → Int32 → Int32 → Int32 → Int32 → O)  (hk0 : ∀ (S : Mem) (x2 x3 : Int32), k0 S x2 x3 = some (r, S') → WN p l e { frames := 3, cells := 0, slots := 0, locals := 71 } s m args below meth c xL Z (XV xL Z S') S 10 7 [(0, .ref (Z.2.1 32)), (2, .int x2), (3, .int x3)] []) (hk1 : ∀ (S : Mem) (x2 x3 x4 x5 x6 : Int32), k1 S x2 x3 x4 x5 x6 = some (r, S') → WN p l e { frames := 3, cells := 0, slots := 0, locals := 71 } s m args below meth c xL Z (XV xL Z S') S 40 7 [(0, .ref (Z.2.1 32)), (2, .int x2), (3, .int x3), (4, .int x4), (5, .int x5), (6, .int x6)] []) : ∀ (S : Mem) (x2 x3 x4 x5 x6 : Int32), fX5_addSuns_40_b k0 k1 S x2 x3 x4 x5 x6 = some (r, S') → WN p l e { frames := 3, cells := 0, slots := 0, locals := 71 } s m args below meth c xL Z (XV xL Z S') S 40 7 [(0, .ref (Z.2.1 32)), (2, .int x2), (3, .int x3), (4, .int x4), (5, .int x5), (6, .int x6)] [] := by
  obtain ⟨hx, hb, -, -, -, -, -, -, -, hQ⟩ := id E
  intro S x2 x3 x4 x5 x6 h H locs ls X hl
  unfold fX5_addSuns_40_b at h
  refine lv_iload hx hb dX5_addSuns_40 (lv_at hl 5 rfl) ?_
  refine lv_aload_n hx hb dX5_addSuns_42 rfl (lv_at hl 0 rfl) ?_
  refine x_getr E X ffX5_27 rfl rfl dX5_addSuns_43 ?_
  refine x_get E X ffX5_35 rfl rfl dX5_addSuns_46 ?_
  refine lv_icmp_ge (tgt := 89) hx hb dX5_addSuns_49 (by decide) (fun c_1 => ?_) (fun c_1 => ?_)
  · have h := if_t c_1 h
    refine lv_iconst (v := (0 : Int32)) hx hb dX5_addSuns_89 (by decide) ?_
    refine lv_istore (lv' := [(6, .int (0 : Int32)), (0, .ref (Z.2.1 32)), (2, .int x2), (3, .int x3), (4, .int x4), (5, .int x5)]) hx hb dX5_addSuns_90 hl (by decide) rfl (fun ls hl => ?_)
    exact wX5_addSuns_92 E k0 hk0 FU S x2 x3 x5 (0 : Int32) h _ _ _ X (lv_sub hl [1, 2, 3, 5, 0] rfl)
  · have h := if_f c_1 h
    refine lv_aload_n hx hb dX5_addSuns_52 rfl (lv_at hl 0 rfl) ?_
    refine x_getr E X ffX5_27 rfl rfl dX5_addSuns_53 ?_
    refine lv_iload hx hb dX5_addSuns_56 (lv_at hl 5 rfl) ?_
    refine lv_iconst (v := (5 : Int32)) hx hb dX5_addSuns_58 (by decide) ?_
    obtain ⟨r_2, S_3, hr_2, h⟩ := bnd_s h
    refine x_callV E X cwX5_41 (mX6_has l Z hQ  x6 (5 : Int32) hr_2) rfl rfl rfl rfl hl.1 rfl dX5_addSuns_59 (fun H locs X => ?_)
    refine lv_iconst (v := (1 : Int32)) hx hb dX5_addSuns_62 (by decide) ?_
    refine lv_icmp_ne (tgt := 83) hx hb dX5_addSuns_63 (by decide) (fun c_4 => ?_) (fun c_4 => ?_)
    · have h := if_f c_4 h
      exact wX5_addSuns_83 E k0 k1 hk0 hk1 S_3 x2 x3 x4 x5 x6 h _ _ _ X hl
    · have h := if_t c_4 h
      refine lv_iload hx hb dX5_addSuns_66 (lv_at hl 4 rfl) ?_
      refine lv_aload_n hx hb dX5_addSuns_68 rfl (lv_at hl 0 rfl) ?_
      refine x_getr E X ffX5_27 rfl rfl dX5_addSuns_69 ?_
      refine lv_iload hx hb dX5_addSuns_72 (lv_at hl 5 rfl) ?_
      refine lv_iload_n hx hb dX5_addSuns_74 rfl (lv_at hl 2 rfl) ?_
      refine lv_iload hx hb dX5_addSuns_75 (lv_at hl 3 rfl) ?_
      obtain ⟨r_5, S_6, hr_5, h⟩ := bnd_s h
      refine x_callV E X cwX5_64 (mX6_parasolShade l Z hQ  x6 x3 x4 hr_5) rfl rfl rfl rfl hl.1 rfl dX5_addSuns_77 (fun H locs X => ?_)
      refine lv_ior hx hb dX5_addSuns_80 ?_
      obtain ⟨x5_7, ex5_7, h⟩ := lti_s h
      refine lv_nm ex5_7 ?_
      refine lv_istore (lv' := [(5, .int x5_7), (0, .ref (Z.2.1 32)), (2, .int x2), (3, .int x3), (4, .int x4), (6, .int x6)]) hx hb dX5_addSuns_81 hl (by decide) rfl (fun ls hl => ?_)
      exact wX5_addSuns_83 E k0 k1 hk0 hk1 S_6 x2 x3 x4 x5_7 x6 h _ _ _ X (lv_sub hl [1, 2, 3, 4, 0, 5] rfl)
theorem wX5_addSuns_40 {p : Program} {l : Launch} {e : Env} {s : State} {m : MethodId} {args : Array Value} {below : List Frame} {meth : Method} {c : Code} {Z : XG} {r : Int32} {S' : Mem} (E : XE p s m args meth c cX5_addSuns 7 RX5 none xL Z) (k0 : Mem → Int32 → Int32 → O)  (hk0 : ∀ (S : Mem) (x2 x3 : Int32), k0 S x2 x3 = some (r, S') → WN p l e { frames := 3, cells := 0, slots := 0, locals := 71 } s m args below meth c xL Z (XV xL Z S') S 10 7 [(0, .ref (Z.2.1 32)), (2, .int x2), (3, .int x3)] []) : ∀ (n : Nat) (S : Mem) (x2 x3 x4 x5 x6 : Int32), fX5_addSuns_40 k0 n S x2 x3 x4 x5 x6 = some (r, S') → WN p l e { frames := 3, cells := 0, slots := 0, locals := 71 } s m args below meth c xL Z (XV xL Z S') S 40 7 [(0, .ref (Z.2.1 32)), (2, .int x2), (3, .int x3), (4, .int x4), (5, .int x5), (6, .int x6)] [] := by
  intro n
  induction n with
  | zero => intro S x2 x3 x4 x5 x6 h; exact absurd (show (none : O) = some _ from h) (by simp)
  | succ n ih => intro S x2 x3 x4 x5 x6 h; exact wX5_addSuns_40_b E k0 (fX5_addSuns_40 k0 n) hk0 ih S x2 x3 x4 x5 x6 h
set_option maxRecDepth 20000 in
theorem wX5_addSuns_10_b {p : Program} {l : Launch} {e : Env} {s : State} {m : MethodId} {args : Array Value} {below : List Frame} {meth : Method} {c : Code} {Z : XG} {r : Int32} {S' : Mem} (E : XE p s m args meth c cX5_addSuns 7 RX5 none xL Z) (k0 : Mem → Int32 → Int32 → O)  (hk0 : ∀ (S : Mem) (x2 x3 : Int32), k0 S x2 x3 = some (r, S') → WN p l e { frames := 3, cells := 0, slots := 0, locals := 71 } s m args below meth c xL Z (XV xL Z S') S 10 7 [(0, .ref (Z.2.1 32)), (2, .int x2), (3, .int x3)] []) : ∀ (S : Mem) (x2 x3 : Int32), fX5_addSuns_10_b k0 S x2 x3 = some (r, S') → WN p l e { frames := 3, cells := 0, slots := 0, locals := 71 } s m args below meth c xL Z (XV xL Z S') S 10 7 [(0, .ref (Z.2.1 32)), (2, .int x2), (3, .int x3)] [] := by
  obtain ⟨hx, hb, -, -, -, -, -, -, -, hQ⟩ := id E
  intro S x2 x3 h H locs ls X hl
  unfold fX5_addSuns_10_b at h
  refine lv_iload_n hx hb dX5_addSuns_10 rfl (lv_at hl 2 rfl) ?_
  refine lv_iload_n hx hb dX5_addSuns_11 rfl (lv_at hl 1 rfl) ?_
  refine lv_icmp_gt (tgt := 140) hx hb dX5_addSuns_12 (by decide) (fun c_1 => ?_) (fun c_1 => ?_)
  · have h := if_t c_1 h
    exact x_vret E X h dX5_addSuns_140
  · have h := if_f c_1 h
    refine lv_aload_n hx hb dX5_addSuns_15 rfl (lv_at hl 0 rfl) ?_
    refine x_getr E X ffX5_27 rfl rfl dX5_addSuns_16 ?_
    refine lv_iload_n hx hb dX5_addSuns_19 rfl (lv_at hl 2 rfl) ?_
    refine lv_aload_n hx hb dX5_addSuns_20 rfl (lv_at hl 0 rfl) ?_
    refine x_getr E X ffX5_27 rfl rfl dX5_addSuns_21 ?_
    refine lv_iload_n hx hb dX5_addSuns_24 rfl (lv_at hl 2 rfl) ?_
    refine lv_iconst (v := (3 : Int32)) hx hb dX5_addSuns_25 (by decide) ?_
    obtain ⟨r_2, S_3, hr_2, h⟩ := bnd_s h
    refine x_callV E X cwX5_58 (mX6_inHour l Z hQ  x3 (3 : Int32) hr_2) rfl rfl rfl rfl hl.1 rfl dX5_addSuns_26 (fun H locs X => ?_)
    obtain ⟨r_4, S_5, hr_4, h⟩ := bnd_s h
    refine x_callV E X cwX5_61 (mX6_wayOfShade l Z hQ  x3 r_2 hr_4) rfl rfl rfl rfl hl.1 rfl dX5_addSuns_29 (fun H locs X => ?_)
    refine lv_istore (lv' := [(4, .int r_4), (0, .ref (Z.2.1 32)), (2, .int x2), (3, .int x3)]) hx hb dX5_addSuns_32 hl (by decide) rfl (fun ls hl => ?_)
    refine lv_iconst (v := (0 : Int32)) hx hb dX5_addSuns_34 (by decide) ?_
    refine lv_istore (lv' := [(5, .int (0 : Int32)), (4, .int r_4), (0, .ref (Z.2.1 32)), (2, .int x2), (3, .int x3)]) hx hb dX5_addSuns_35 hl (by decide) rfl (fun ls hl => ?_)
    refine lv_iconst (v := (0 : Int32)) hx hb dX5_addSuns_37 (by decide) ?_
    refine lv_istore (lv' := [(6, .int (0 : Int32)), (5, .int (0 : Int32)), (4, .int r_4), (0, .ref (Z.2.1 32)), (2, .int x2), (3, .int x3)]) hx hb dX5_addSuns_38 hl (by decide) rfl (fun ls hl => ?_)
    exact wX5_addSuns_40 E k0 hk0 FU S_5 x2 x3 r_4 (0 : Int32) (0 : Int32) h _ _ _ X (lv_sub hl [3, 4, 5, 2, 1, 0] rfl)
theorem wX5_addSuns_10 {p : Program} {l : Launch} {e : Env} {s : State} {m : MethodId} {args : Array Value} {below : List Frame} {meth : Method} {c : Code} {Z : XG} {r : Int32} {S' : Mem} (E : XE p s m args meth c cX5_addSuns 7 RX5 none xL Z) : ∀ (n : Nat) (S : Mem) (x2 x3 : Int32), fX5_addSuns_10 n S x2 x3 = some (r, S') → WN p l e { frames := 3, cells := 0, slots := 0, locals := 71 } s m args below meth c xL Z (XV xL Z S') S 10 7 [(0, .ref (Z.2.1 32)), (2, .int x2), (3, .int x3)] [] := by
  intro n
  induction n with
  | zero => intro S x2 x3 h; exact absurd (show (none : O) = some _ from h) (by simp)
  | succ n ih => intro S x2 x3 h; exact wX5_addSuns_10_b E (fX5_addSuns_10 n) ih S x2 x3 h
set_option maxRecDepth 20000 in
theorem wX5_addSuns {p : Program} {l : Launch} {e : Env} {s : State} {m : MethodId} {args : Array Value} {below : List Frame} {meth : Method} {c : Code} {Z : XG} {r : Int32} {S' : Mem} (E : XE p s m args meth c cX5_addSuns 7 RX5 none xL Z) : ∀ (S : Mem) (x1 x2 : Int32), fX5_addSuns  S x1 x2 = some (r, S') → WN p l e { frames := 3, cells := 0, slots := 0, locals := 71 } s m args below meth c xL Z (XV xL Z S') S 0 7 [(0, .ref (Z.2.1 32)), (1, .int x1), (2, .int x2)] [] := by
  obtain ⟨hx, hb, -, -, -, -, -, -, -, hQ⟩ := id E
  intro S x1 x2 h H locs ls X hl
  unfold fX5_addSuns at h
  refine lv_aload_n hx hb dX5_addSuns_0 rfl (lv_at hl 0 rfl) ?_
  refine x_getr E X ffX5_9 rfl rfl dX5_addSuns_1 ?_
  refine lv_iconst (v := (0 : Int32)) hx hb dX5_addSuns_4 (by decide) ?_
  obtain ⟨r_1, S_2, hr_1, h⟩ := bnd_s h
  refine x_callSv E X cwX5_52 (mJ7_fill_33 l Z hQ  (0 : Int32) hr_1) rfl rfl hl.1 rfl dX5_addSuns_5 (fun H locs X => ?_)
  refine lv_iload_n hx hb dX5_addSuns_8 rfl (lv_at hl 1 rfl) ?_
  refine lv_istore_n (lv' := [(3, .int x1), (0, .ref (Z.2.1 32)), (1, .int x1), (2, .int x2)]) hx hb dX5_addSuns_9 rfl hl (by decide) rfl (fun ls hl => ?_)
  exact wX5_addSuns_10 E   FU S_2 x2 x1 h _ _ _ X (lv_sub hl [1, 3, 0] rfl)
/-- SevenToAShadow$Thought.addSuns(II)V -/
theorem mX5_addSuns (l : Launch) (Z : XG) (hQ : wQ (List.length xL) Z) {S S' : Mem} {r : Int32} (x1 x2 : Int32) (h : fX5_addSuns S x1 x2 = some (r, S')) : XM l yX5_addSuns cX5_addSuns 7 none { frames := 3, cells := 0, slots := 0, locals := 71 } xL Z [.ref (Z.2.1 32), .int x1, .int x2] S (XV xL Z S') := by
  refine XM.of (own := RX5) (by decide +kernel) rfl rfl hQ (fun p e s m args below meth c E ls hl X => ?_)
  exact wX5_addSuns E S x1 x2 h _ _ _ X hl
def fX5_palestOf_51 (k0 : Mem → Int32 → Int32 → Int32 → O) (S : Mem) (x1 x2 x3 : Int32) : O := k0 S x1 x2 (x3 + (1 : Int32))
def fX5_palestOf_49 (k0 : Mem → Int32 → Int32 → Int32 → O) (S : Mem) (x1 x3 : Int32) : O := fX5_palestOf_51 k0 S x1 x3 x3
def fX5_palestOf_4_b (k0 : Mem → Int32 → Int32 → Int32 → O) (S : Mem) (x1 x2 x3 : Int32) : O := (if (S 1 9) ≤ x3 then some (x2, S) else (if ((x1 >>> (x3 &&& 31)) &&& (1 : Int32)) = 0 then (if x2 = (-1 : Int32) then fX5_palestOf_49 k0 S x1 x3 else bnd (fX6_has S x3 (3 : Int32)) fun r_4 S_5 => bnd (fX6_has S_5 x2 (3 : Int32)) fun r_6 S_7 => (if r_4 ≤ r_6 then fX5_palestOf_51 k0 S_7 x1 x2 x3 else fX5_palestOf_49 k0 S_7 x1 x3)) else fX5_palestOf_51 k0 S x1 x2 x3))
def fX5_palestOf_4 : Nat → Mem → Int32 → Int32 → Int32 → O
  | 0 => fun _ _ _ _ => none
  | n + 1 => fX5_palestOf_4_b (fX5_palestOf_4 n)
def fX5_palestOf (S : Mem) (x1 : Int32) : O := fX5_palestOf_4  FU S x1 (-1 : Int32) (0 : Int32)
theorem dX5_palestOf_0 : decode cX5_palestOf 0 = .ok (.iconst (-1), 1) := by decide +kernel
theorem dX5_palestOf_1 : decode cX5_palestOf 1 = .ok (.istore_n 2, 1) := by decide +kernel
theorem dX5_palestOf_2 : decode cX5_palestOf 2 = .ok (.iconst 0, 1) := by decide +kernel
theorem dX5_palestOf_3 : decode cX5_palestOf 3 = .ok (.istore_n 3, 1) := by decide +kernel
theorem dX5_palestOf_4 : decode cX5_palestOf 4 = .ok (.iload_n 3, 1) := by decide +kernel
theorem dX5_palestOf_5 : decode cX5_palestOf 5 = .ok (.aload_n 0, 1) := by decide +kernel
theorem dX5_palestOf_6 : decode cX5_palestOf 6 = .ok (.getfield 27, 3) := by decide +kernel
theorem dX5_palestOf_9 : decode cX5_palestOf 9 = .ok (.getfield 35, 3) := by decide +kernel
theorem dX5_palestOf_12 : decode cX5_palestOf 12 = .ok (.if_icmp .ge 45, 3) := by decide +kernel
theorem dX5_palestOf_15 : decode cX5_palestOf 15 = .ok (.iload_n 1, 1) := by decide +kernel
theorem dX5_palestOf_16 : decode cX5_palestOf 16 = .ok (.iload_n 3, 1) := by decide +kernel
theorem dX5_palestOf_17 : decode cX5_palestOf 17 = .ok (.ishr, 1) := by decide +kernel
theorem dX5_palestOf_18 : decode cX5_palestOf 18 = .ok (.iconst 1, 1) := by decide +kernel
theorem dX5_palestOf_19 : decode cX5_palestOf 19 = .ok (.iand, 1) := by decide +kernel
theorem dX5_palestOf_20 : decode cX5_palestOf 20 = .ok (.ifCond .ne 31, 3) := by decide +kernel
theorem dX5_palestOf_23 : decode cX5_palestOf 23 = .ok (.iload_n 2, 1) := by decide +kernel
theorem dX5_palestOf_24 : decode cX5_palestOf 24 = .ok (.iconst (-1), 1) := by decide +kernel
theorem dX5_palestOf_25 : decode cX5_palestOf 25 = .ok (.if_icmp .eq 24, 3) := by decide +kernel
theorem dX5_palestOf_28 : decode cX5_palestOf 28 = .ok (.aload_n 0, 1) := by decide +kernel
theorem dX5_palestOf_29 : decode cX5_palestOf 29 = .ok (.getfield 27, 3) := by decide +kernel
theorem dX5_palestOf_32 : decode cX5_palestOf 32 = .ok (.iload_n 3, 1) := by decide +kernel
theorem dX5_palestOf_33 : decode cX5_palestOf 33 = .ok (.iconst 3, 1) := by decide +kernel
theorem dX5_palestOf_34 : decode cX5_palestOf 34 = .ok (.invokevirtual 41, 3) := by decide +kernel
theorem dX5_palestOf_37 : decode cX5_palestOf 37 = .ok (.aload_n 0, 1) := by decide +kernel
theorem dX5_palestOf_38 : decode cX5_palestOf 38 = .ok (.getfield 27, 3) := by decide +kernel
theorem dX5_palestOf_41 : decode cX5_palestOf 41 = .ok (.iload_n 2, 1) := by decide +kernel
theorem dX5_palestOf_42 : decode cX5_palestOf 42 = .ok (.iconst 3, 1) := by decide +kernel
theorem dX5_palestOf_43 : decode cX5_palestOf 43 = .ok (.invokevirtual 41, 3) := by decide +kernel
theorem dX5_palestOf_46 : decode cX5_palestOf 46 = .ok (.if_icmp .le 5, 3) := by decide +kernel
theorem dX5_palestOf_49 : decode cX5_palestOf 49 = .ok (.iload_n 3, 1) := by decide +kernel
theorem dX5_palestOf_50 : decode cX5_palestOf 50 = .ok (.istore_n 2, 1) := by decide +kernel
theorem dX5_palestOf_51 : decode cX5_palestOf 51 = .ok (.iinc 3 1, 3) := by decide +kernel
theorem dX5_palestOf_54 : decode cX5_palestOf 54 = .ok (.goto (-50), 3) := by decide +kernel
theorem dX5_palestOf_57 : decode cX5_palestOf 57 = .ok (.iload_n 2, 1) := by decide +kernel
theorem dX5_palestOf_58 : decode cX5_palestOf 58 = .ok (.ireturn, 1) := by decide +kernel
set_option maxRecDepth 20000 in
theorem wX5_palestOf_51 {p : Program} {l : Launch} {e : Env} {s : State} {m : MethodId} {args : Array Value} {below : List Frame} {meth : Method} {c : Code} {Z : XG} {r : Int32} {S' : Mem} (E : XE p s m args meth c cX5_palestOf 4 RX5 (some .int) xL Z) (k0 : Mem → Int32 → Int32 → Int32 → O)  (hk0 : ∀ (S : Mem) (x1 x2 x3 : Int32), k0 S x1 x2 x3 = some (r, S') → WN p l e { frames := 2, cells := 0, slots := 0, locals := 43 } s m args below meth c xL Z (XQ xL Z r S') S 4 4 [(0, .ref (Z.2.1 32)), (1, .int x1), (2, .int x2), (3, .int x3)] []) : ∀ (S : Mem) (x1 x2 x3 : Int32), fX5_palestOf_51 k0 S x1 x2 x3 = some (r, S') → WN p l e { frames := 2, cells := 0, slots := 0, locals := 43 } s m args below meth c xL Z (XQ xL Z r S') S 51 4 [(0, .ref (Z.2.1 32)), (1, .int x1), (2, .int x2), (3, .int x3)] [] := by
  obtain ⟨hx, hb, -, -, -, -, -, -, -, hQ⟩ := id E
  intro S x1 x2 x3 h H locs ls X hl
  unfold fX5_palestOf_51 at h
  refine lv_iinc (v := (x3 + (1 : Int32))) (lv' := [(3, .int (x3 + (1 : Int32))), (0, .ref (Z.2.1 32)), (1, .int x1), (2, .int x2)]) hx hb dX5_palestOf_51 hl (k := 3) rfl rfl (by decide) rfl (fun ls hl => ?_)
  refine lv_goto (tgt := 4) hx hb dX5_palestOf_54 (by decide) ?_
  exact hk0 S x1 x2 (x3 + (1 : Int32)) h _ _ _ X (lv_sub hl [1, 2, 3, 0] rfl)
set_option maxRecDepth 20000 in
theorem wX5_palestOf_49 {p : Program} {l : Launch} {e : Env} {s : State} {m : MethodId} {args : Array Value} {below : List Frame} {meth : Method} {c : Code} {Z : XG} {r : Int32} {S' : Mem} (E : XE p s m args meth c cX5_palestOf 4 RX5 (some .int) xL Z) (k0 : Mem → Int32 → Int32 → Int32 → O)  (hk0 : ∀ (S : Mem) (x1 x2 x3 : Int32), k0 S x1 x2 x3 = some (r, S') → WN p l e { frames := 2, cells := 0, slots := 0, locals := 43 } s m args below meth c xL Z (XQ xL Z r S') S 4 4 [(0, .ref (Z.2.1 32)), (1, .int x1), (2, .int x2), (3, .int x3)] []) : ∀ (S : Mem) (x1 x3 : Int32), fX5_palestOf_49 k0 S x1 x3 = some (r, S') → WN p l e { frames := 2, cells := 0, slots := 0, locals := 43 } s m args below meth c xL Z (XQ xL Z r S') S 49 4 [(0, .ref (Z.2.1 32)), (1, .int x1), (3, .int x3)] [] := by
  obtain ⟨hx, hb, -, -, -, -, -, -, -, hQ⟩ := id E
  intro S x1 x3 h H locs ls X hl
  unfold fX5_palestOf_49 at h
  refine lv_iload_n hx hb dX5_palestOf_49 rfl (lv_at hl 2 rfl) ?_
  refine lv_istore_n (lv' := [(2, .int x3), (0, .ref (Z.2.1 32)), (1, .int x1), (3, .int x3)]) hx hb dX5_palestOf_50 rfl hl (by decide) rfl (fun ls hl => ?_)
  exact wX5_palestOf_51 E k0 hk0 S x1 x3 x3 h _ _ _ X (lv_sub hl [1, 2, 0, 3] rfl)
set_option maxRecDepth 20000 in
theorem wX5_palestOf_4_b {p : Program} {l : Launch} {e : Env} {s : State} {m : MethodId} {args : Array Value} {below : List Frame} {meth : Method} {c : Code} {Z : XG} {r : Int32} {S' : Mem} (E : XE p s m args meth c cX5_palestOf 4 RX5 (some .int) xL Z) (k0 : Mem → Int32 → Int32 → Int32 → O)  (hk0 : ∀ (S : Mem) (x1 x2 x3 : Int32), k0 S x1 x2 x3 = some (r, S') → WN p l e { frames := 2, cells := 0, slots := 0, locals := 43 } s m args below meth c xL Z (XQ xL Z r S') S 4 4 [(0, .ref (Z.2.1 32)), (1, .int x1), (2, .int x2), (3, .int x3)] []) : ∀ (S : Mem) (x1 x2 x3 : Int32), fX5_palestOf_4_b k0 S x1 x2 x3 = some (r, S') → WN p l e { frames := 2, cells := 0, slots := 0, locals := 43 } s m args below meth c xL Z (XQ xL Z r S') S 4 4 [(0, .ref (Z.2.1 32)), (1, .int x1), (2, .int x2), (3, .int x3)] [] := by
  obtain ⟨hx, hb, -, -, -, -, -, -, -, hQ⟩ := id E
  intro S x1 x2 x3 h H locs ls X hl
  unfold fX5_palestOf_4_b at h
  refine lv_iload_n hx hb dX5_palestOf_4 rfl (lv_at hl 3 rfl) ?_
  refine lv_aload_n hx hb dX5_palestOf_5 rfl (lv_at hl 0 rfl) ?_
  refine x_getr E X ffX5_27 rfl rfl dX5_palestOf_6 ?_
  refine x_get E X ffX5_35 rfl rfl dX5_palestOf_9 ?_
  refine lv_icmp_ge (tgt := 57) hx hb dX5_palestOf_12 (by decide) (fun c_1 => ?_) (fun c_1 => ?_)
  · have h := if_t c_1 h
    refine lv_iload_n hx hb dX5_palestOf_57 rfl (lv_at hl 2 rfl) ?_
    exact x_iret E X h dX5_palestOf_58
  · have h := if_f c_1 h
    refine lv_iload_n hx hb dX5_palestOf_15 rfl (lv_at hl 1 rfl) ?_
    refine lv_iload_n hx hb dX5_palestOf_16 rfl (lv_at hl 3 rfl) ?_
    refine lv_ishr hx hb dX5_palestOf_17 ?_
    refine lv_iconst (v := (1 : Int32)) hx hb dX5_palestOf_18 (by decide) ?_
    refine lv_iand hx hb dX5_palestOf_19 ?_
    refine lv_if_ne (tgt := 51) hx hb dX5_palestOf_20 (by decide) (fun c_2 => ?_) (fun c_2 => ?_)
    · have h := if_f c_2 h
      exact wX5_palestOf_51 E k0 hk0 S x1 x2 x3 h _ _ _ X hl
    · have h := if_t c_2 h
      refine lv_iload_n hx hb dX5_palestOf_23 rfl (lv_at hl 2 rfl) ?_
      refine lv_iconst (v := (-1 : Int32)) hx hb dX5_palestOf_24 (by decide) ?_
      refine lv_icmp_eq (tgt := 49) hx hb dX5_palestOf_25 (by decide) (fun c_3 => ?_) (fun c_3 => ?_)
      · have h := if_t c_3 h
        exact wX5_palestOf_49 E k0 hk0 S x1 x3 h _ _ _ X (lv_sub hl [0, 1, 3] rfl)
      · have h := if_f c_3 h
        refine lv_aload_n hx hb dX5_palestOf_28 rfl (lv_at hl 0 rfl) ?_
        refine x_getr E X ffX5_27 rfl rfl dX5_palestOf_29 ?_
        refine lv_iload_n hx hb dX5_palestOf_32 rfl (lv_at hl 3 rfl) ?_
        refine lv_iconst (v := (3 : Int32)) hx hb dX5_palestOf_33 (by decide) ?_
        obtain ⟨r_4, S_5, hr_4, h⟩ := bnd_s h
        refine x_callV E X cwX5_41 (mX6_has l Z hQ  x3 (3 : Int32) hr_4) rfl rfl rfl rfl hl.1 rfl dX5_palestOf_34 (fun H locs X => ?_)
        refine lv_aload_n hx hb dX5_palestOf_37 rfl (lv_at hl 0 rfl) ?_
        refine x_getr E X ffX5_27 rfl rfl dX5_palestOf_38 ?_
        refine lv_iload_n hx hb dX5_palestOf_41 rfl (lv_at hl 2 rfl) ?_
        refine lv_iconst (v := (3 : Int32)) hx hb dX5_palestOf_42 (by decide) ?_
        obtain ⟨r_6, S_7, hr_6, h⟩ := bnd_s h
        refine x_callV E X cwX5_41 (mX6_has l Z hQ  x2 (3 : Int32) hr_6) rfl rfl rfl rfl hl.1 rfl dX5_palestOf_43 (fun H locs X => ?_)
        refine lv_icmp_le (tgt := 51) hx hb dX5_palestOf_46 (by decide) (fun c_8 => ?_) (fun c_8 => ?_)
        · have h := if_t c_8 h
          exact wX5_palestOf_51 E k0 hk0 S_7 x1 x2 x3 h _ _ _ X hl
        · have h := if_f c_8 h
          exact wX5_palestOf_49 E k0 hk0 S_7 x1 x3 h _ _ _ X (lv_sub hl [0, 1, 3] rfl)
theorem wX5_palestOf_4 {p : Program} {l : Launch} {e : Env} {s : State} {m : MethodId} {args : Array Value} {below : List Frame} {meth : Method} {c : Code} {Z : XG} {r : Int32} {S' : Mem} (E : XE p s m args meth c cX5_palestOf 4 RX5 (some .int) xL Z) : ∀ (n : Nat) (S : Mem) (x1 x2 x3 : Int32), fX5_palestOf_4 n S x1 x2 x3 = some (r, S') → WN p l e { frames := 2, cells := 0, slots := 0, locals := 43 } s m args below meth c xL Z (XQ xL Z r S') S 4 4 [(0, .ref (Z.2.1 32)), (1, .int x1), (2, .int x2), (3, .int x3)] [] := by
  intro n
  induction n with
  | zero => intro S x1 x2 x3 h; exact absurd (show (none : O) = some _ from h) (by simp)
  | succ n ih => intro S x1 x2 x3 h; exact wX5_palestOf_4_b E (fX5_palestOf_4 n) ih S x1 x2 x3 h
set_option maxRecDepth 20000 in
theorem wX5_palestOf {p : Program} {l : Launch} {e : Env} {s : State} {m : MethodId} {args : Array Value} {below : List Frame} {meth : Method} {c : Code} {Z : XG} {r : Int32} {S' : Mem} (E : XE p s m args meth c cX5_palestOf 4 RX5 (some .int) xL Z) : ∀ (S : Mem) (x1 : Int32), fX5_palestOf  S x1 = some (r, S') → WN p l e { frames := 2, cells := 0, slots := 0, locals := 43 } s m args below meth c xL Z (XQ xL Z r S') S 0 4 [(0, .ref (Z.2.1 32)), (1, .int x1)] [] := by
  obtain ⟨hx, hb, -, -, -, -, -, -, -, hQ⟩ := id E
  intro S x1 h H locs ls X hl
  unfold fX5_palestOf at h
  refine lv_iconst (v := (-1 : Int32)) hx hb dX5_palestOf_0 (by decide) ?_
  refine lv_istore_n (lv' := [(2, .int (-1 : Int32)), (0, .ref (Z.2.1 32)), (1, .int x1)]) hx hb dX5_palestOf_1 rfl hl (by decide) rfl (fun ls hl => ?_)
  refine lv_iconst (v := (0 : Int32)) hx hb dX5_palestOf_2 (by decide) ?_
  refine lv_istore_n (lv' := [(3, .int (0 : Int32)), (2, .int (-1 : Int32)), (0, .ref (Z.2.1 32)), (1, .int x1)]) hx hb dX5_palestOf_3 rfl hl (by decide) rfl (fun ls hl => ?_)
  exact wX5_palestOf_4 E   FU S x1 (-1 : Int32) (0 : Int32) h _ _ _ X (lv_sub hl [2, 3, 1, 0] rfl)
/-- SevenToAShadow$Thought.palestOf(I)I -/
theorem mX5_palestOf (l : Launch) (Z : XG) (hQ : wQ (List.length xL) Z) {S S' : Mem} {r : Int32} (x1 : Int32) (h : fX5_palestOf S x1 = some (r, S')) : XM l yX5_palestOf cX5_palestOf 4 (some .int) { frames := 2, cells := 0, slots := 0, locals := 43 } xL Z [.ref (Z.2.1 32), .int x1] S (XQ xL Z r S') := by
  refine XM.of (own := RX5) (by decide +kernel) rfl rfl hQ (fun p e s m args below meth c E ls hl X => ?_)
  exact wX5_palestOf E S x1 h _ _ _ X hl
def fX5_coolestBut_40 (k0 : Mem → Int32 → Int32 → Int32 → O) (S : Mem) (x1 x2 x3 : Int32) : O := k0 S x1 x2 (x3 + (1 : Int32))
def fX5_coolestBut_38 (k0 : Mem → Int32 → Int32 → Int32 → O) (S : Mem) (x1 x3 : Int32) : O := fX5_coolestBut_40 k0 S x1 x3 x3
def fX5_coolestBut_4_b (k0 : Mem → Int32 → Int32 → Int32 → O) (S : Mem) (x1 x2 x3 : Int32) : O := (if (25 : Int32) ≤ x3 then some (x2, S) else (if ((x1 >>> (x3 &&& 31)) &&& (1 : Int32)) = 0 then (if x2 = (-1 : Int32) then fX5_coolestBut_38 k0 S x1 x3 else gd (inB x3 25) <| gd (inB x2 25) <| (if (S 33 (x2).toNatClampNeg) ≤ (S 33 (x3).toNatClampNeg) then fX5_coolestBut_40 k0 S x1 x2 x3 else fX5_coolestBut_38 k0 S x1 x3)) else fX5_coolestBut_40 k0 S x1 x2 x3))
def fX5_coolestBut_4 : Nat → Mem → Int32 → Int32 → Int32 → O
  | 0 => fun _ _ _ _ => none
  | n + 1 => fX5_coolestBut_4_b (fX5_coolestBut_4 n)
def fX5_coolestBut (S : Mem) (x1 : Int32) : O := fX5_coolestBut_4  FU S x1 (-1 : Int32) (0 : Int32)
theorem dX5_coolestBut_0 : decode cX5_coolestBut 0 = .ok (.iconst (-1), 1) := by decide +kernel
theorem dX5_coolestBut_1 : decode cX5_coolestBut 1 = .ok (.istore_n 2, 1) := by decide +kernel
theorem dX5_coolestBut_2 : decode cX5_coolestBut 2 = .ok (.iconst 0, 1) := by decide +kernel
theorem dX5_coolestBut_3 : decode cX5_coolestBut 3 = .ok (.istore_n 3, 1) := by decide +kernel
theorem dX5_coolestBut_4 : decode cX5_coolestBut 4 = .ok (.iload_n 3, 1) := by decide +kernel
theorem dX5_coolestBut_5 : decode cX5_coolestBut 5 = .ok (.bipush 25, 2) := by decide +kernel
theorem dX5_coolestBut_7 : decode cX5_coolestBut 7 = .ok (.if_icmp .ge 39, 3) := by decide +kernel
theorem dX5_coolestBut_10 : decode cX5_coolestBut 10 = .ok (.iload_n 1, 1) := by decide +kernel
theorem dX5_coolestBut_11 : decode cX5_coolestBut 11 = .ok (.iload_n 3, 1) := by decide +kernel
theorem dX5_coolestBut_12 : decode cX5_coolestBut 12 = .ok (.ishr, 1) := by decide +kernel
theorem dX5_coolestBut_13 : decode cX5_coolestBut 13 = .ok (.iconst 1, 1) := by decide +kernel
theorem dX5_coolestBut_14 : decode cX5_coolestBut 14 = .ok (.iand, 1) := by decide +kernel
theorem dX5_coolestBut_15 : decode cX5_coolestBut 15 = .ok (.ifCond .ne 25, 3) := by decide +kernel
theorem dX5_coolestBut_18 : decode cX5_coolestBut 18 = .ok (.iload_n 2, 1) := by decide +kernel
theorem dX5_coolestBut_19 : decode cX5_coolestBut 19 = .ok (.iconst (-1), 1) := by decide +kernel
theorem dX5_coolestBut_20 : decode cX5_coolestBut 20 = .ok (.if_icmp .eq 18, 3) := by decide +kernel
theorem dX5_coolestBut_23 : decode cX5_coolestBut 23 = .ok (.aload_n 0, 1) := by decide +kernel
theorem dX5_coolestBut_24 : decode cX5_coolestBut 24 = .ok (.getfield 9, 3) := by decide +kernel
theorem dX5_coolestBut_27 : decode cX5_coolestBut 27 = .ok (.iload_n 3, 1) := by decide +kernel
theorem dX5_coolestBut_28 : decode cX5_coolestBut 28 = .ok (.iaload, 1) := by decide +kernel
theorem dX5_coolestBut_29 : decode cX5_coolestBut 29 = .ok (.aload_n 0, 1) := by decide +kernel
theorem dX5_coolestBut_30 : decode cX5_coolestBut 30 = .ok (.getfield 9, 3) := by decide +kernel
theorem dX5_coolestBut_33 : decode cX5_coolestBut 33 = .ok (.iload_n 2, 1) := by decide +kernel
theorem dX5_coolestBut_34 : decode cX5_coolestBut 34 = .ok (.iaload, 1) := by decide +kernel
theorem dX5_coolestBut_35 : decode cX5_coolestBut 35 = .ok (.if_icmp .ge 5, 3) := by decide +kernel
theorem dX5_coolestBut_38 : decode cX5_coolestBut 38 = .ok (.iload_n 3, 1) := by decide +kernel
theorem dX5_coolestBut_39 : decode cX5_coolestBut 39 = .ok (.istore_n 2, 1) := by decide +kernel
theorem dX5_coolestBut_40 : decode cX5_coolestBut 40 = .ok (.iinc 3 1, 3) := by decide +kernel
theorem dX5_coolestBut_43 : decode cX5_coolestBut 43 = .ok (.goto (-39), 3) := by decide +kernel
theorem dX5_coolestBut_46 : decode cX5_coolestBut 46 = .ok (.iload_n 2, 1) := by decide +kernel
theorem dX5_coolestBut_47 : decode cX5_coolestBut 47 = .ok (.ireturn, 1) := by decide +kernel
set_option maxRecDepth 20000 in
theorem wX5_coolestBut_40 {p : Program} {l : Launch} {e : Env} {s : State} {m : MethodId} {args : Array Value} {below : List Frame} {meth : Method} {c : Code} {Z : XG} {r : Int32} {S' : Mem} (E : XE p s m args meth c cX5_coolestBut 4 RX5 (some .int) xL Z) (k0 : Mem → Int32 → Int32 → Int32 → O)  (hk0 : ∀ (S : Mem) (x1 x2 x3 : Int32), k0 S x1 x2 x3 = some (r, S') → WN p l e { frames := 0, cells := 0, slots := 0, locals := 0 } s m args below meth c xL Z (XQ xL Z r S') S 4 4 [(0, .ref (Z.2.1 32)), (1, .int x1), (2, .int x2), (3, .int x3)] []) : ∀ (S : Mem) (x1 x2 x3 : Int32), fX5_coolestBut_40 k0 S x1 x2 x3 = some (r, S') → WN p l e { frames := 0, cells := 0, slots := 0, locals := 0 } s m args below meth c xL Z (XQ xL Z r S') S 40 4 [(0, .ref (Z.2.1 32)), (1, .int x1), (2, .int x2), (3, .int x3)] [] := by
  obtain ⟨hx, hb, -, -, -, -, -, -, -, hQ⟩ := id E
  intro S x1 x2 x3 h H locs ls X hl
  unfold fX5_coolestBut_40 at h
  refine lv_iinc (v := (x3 + (1 : Int32))) (lv' := [(3, .int (x3 + (1 : Int32))), (0, .ref (Z.2.1 32)), (1, .int x1), (2, .int x2)]) hx hb dX5_coolestBut_40 hl (k := 3) rfl rfl (by decide) rfl (fun ls hl => ?_)
  refine lv_goto (tgt := 4) hx hb dX5_coolestBut_43 (by decide) ?_
  exact hk0 S x1 x2 (x3 + (1 : Int32)) h _ _ _ X (lv_sub hl [1, 2, 3, 0] rfl)
set_option maxRecDepth 20000 in
theorem wX5_coolestBut_38 {p : Program} {l : Launch} {e : Env} {s : State} {m : MethodId} {args : Array Value} {below : List Frame} {meth : Method} {c : Code} {Z : XG} {r : Int32} {S' : Mem} (E : XE p s m args meth c cX5_coolestBut 4 RX5 (some .int) xL Z) (k0 : Mem → Int32 → Int32 → Int32 → O)  (hk0 : ∀ (S : Mem) (x1 x2 x3 : Int32), k0 S x1 x2 x3 = some (r, S') → WN p l e { frames := 0, cells := 0, slots := 0, locals := 0 } s m args below meth c xL Z (XQ xL Z r S') S 4 4 [(0, .ref (Z.2.1 32)), (1, .int x1), (2, .int x2), (3, .int x3)] []) : ∀ (S : Mem) (x1 x3 : Int32), fX5_coolestBut_38 k0 S x1 x3 = some (r, S') → WN p l e { frames := 0, cells := 0, slots := 0, locals := 0 } s m args below meth c xL Z (XQ xL Z r S') S 38 4 [(0, .ref (Z.2.1 32)), (1, .int x1), (3, .int x3)] [] := by
  obtain ⟨hx, hb, -, -, -, -, -, -, -, hQ⟩ := id E
  intro S x1 x3 h H locs ls X hl
  unfold fX5_coolestBut_38 at h
  refine lv_iload_n hx hb dX5_coolestBut_38 rfl (lv_at hl 2 rfl) ?_
  refine lv_istore_n (lv' := [(2, .int x3), (0, .ref (Z.2.1 32)), (1, .int x1), (3, .int x3)]) hx hb dX5_coolestBut_39 rfl hl (by decide) rfl (fun ls hl => ?_)
  exact wX5_coolestBut_40 E k0 hk0 S x1 x3 x3 h _ _ _ X (lv_sub hl [1, 2, 0, 3] rfl)
set_option maxRecDepth 20000 in
theorem wX5_coolestBut_4_b {p : Program} {l : Launch} {e : Env} {s : State} {m : MethodId} {args : Array Value} {below : List Frame} {meth : Method} {c : Code} {Z : XG} {r : Int32} {S' : Mem} (E : XE p s m args meth c cX5_coolestBut 4 RX5 (some .int) xL Z) (k0 : Mem → Int32 → Int32 → Int32 → O)  (hk0 : ∀ (S : Mem) (x1 x2 x3 : Int32), k0 S x1 x2 x3 = some (r, S') → WN p l e { frames := 0, cells := 0, slots := 0, locals := 0 } s m args below meth c xL Z (XQ xL Z r S') S 4 4 [(0, .ref (Z.2.1 32)), (1, .int x1), (2, .int x2), (3, .int x3)] []) : ∀ (S : Mem) (x1 x2 x3 : Int32), fX5_coolestBut_4_b k0 S x1 x2 x3 = some (r, S') → WN p l e { frames := 0, cells := 0, slots := 0, locals := 0 } s m args below meth c xL Z (XQ xL Z r S') S 4 4 [(0, .ref (Z.2.1 32)), (1, .int x1), (2, .int x2), (3, .int x3)] [] := by
  obtain ⟨hx, hb, -, -, -, -, -, -, -, hQ⟩ := id E
  intro S x1 x2 x3 h H locs ls X hl
  unfold fX5_coolestBut_4_b at h
  refine lv_iload_n hx hb dX5_coolestBut_4 rfl (lv_at hl 3 rfl) ?_
  refine lv_bipush (v := (25 : Int32)) hx hb dX5_coolestBut_5 (by decide) ?_
  refine lv_icmp_ge (tgt := 46) hx hb dX5_coolestBut_7 (by decide) (fun c_1 => ?_) (fun c_1 => ?_)
  · have h := if_t c_1 h
    refine lv_iload_n hx hb dX5_coolestBut_46 rfl (lv_at hl 2 rfl) ?_
    exact x_iret E X h dX5_coolestBut_47
  · have h := if_f c_1 h
    refine lv_iload_n hx hb dX5_coolestBut_10 rfl (lv_at hl 1 rfl) ?_
    refine lv_iload_n hx hb dX5_coolestBut_11 rfl (lv_at hl 3 rfl) ?_
    refine lv_ishr hx hb dX5_coolestBut_12 ?_
    refine lv_iconst (v := (1 : Int32)) hx hb dX5_coolestBut_13 (by decide) ?_
    refine lv_iand hx hb dX5_coolestBut_14 ?_
    refine lv_if_ne (tgt := 40) hx hb dX5_coolestBut_15 (by decide) (fun c_2 => ?_) (fun c_2 => ?_)
    · have h := if_f c_2 h
      exact wX5_coolestBut_40 E k0 hk0 S x1 x2 x3 h _ _ _ X hl
    · have h := if_t c_2 h
      refine lv_iload_n hx hb dX5_coolestBut_18 rfl (lv_at hl 2 rfl) ?_
      refine lv_iconst (v := (-1 : Int32)) hx hb dX5_coolestBut_19 (by decide) ?_
      refine lv_icmp_eq (tgt := 38) hx hb dX5_coolestBut_20 (by decide) (fun c_3 => ?_) (fun c_3 => ?_)
      · have h := if_t c_3 h
        exact wX5_coolestBut_38 E k0 hk0 S x1 x3 h _ _ _ X (lv_sub hl [0, 1, 3] rfl)
      · have h := if_f c_3 h
        refine lv_aload_n hx hb dX5_coolestBut_23 rfl (lv_at hl 0 rfl) ?_
        refine x_getr E X ffX5_9 rfl rfl dX5_coolestBut_24 ?_
        refine lv_iload_n hx hb dX5_coolestBut_27 rfl (lv_at hl 3 rfl) ?_
        obtain ⟨g_4, h⟩ := gd_s h
        refine x_iald E X rfl g_4 dX5_coolestBut_28 ?_
        refine lv_aload_n hx hb dX5_coolestBut_29 rfl (lv_at hl 0 rfl) ?_
        refine x_getr E X ffX5_9 rfl rfl dX5_coolestBut_30 ?_
        refine lv_iload_n hx hb dX5_coolestBut_33 rfl (lv_at hl 2 rfl) ?_
        obtain ⟨g_5, h⟩ := gd_s h
        refine x_iald E X rfl g_5 dX5_coolestBut_34 ?_
        refine lv_icmp_ge (tgt := 40) hx hb dX5_coolestBut_35 (by decide) (fun c_6 => ?_) (fun c_6 => ?_)
        · have h := if_t c_6 h
          exact wX5_coolestBut_40 E k0 hk0 S x1 x2 x3 h _ _ _ X hl
        · have h := if_f c_6 h
          exact wX5_coolestBut_38 E k0 hk0 S x1 x3 h _ _ _ X (lv_sub hl [0, 1, 3] rfl)
theorem wX5_coolestBut_4 {p : Program} {l : Launch} {e : Env} {s : State} {m : MethodId} {args : Array Value} {below : List Frame} {meth : Method} {c : Code} {Z : XG} {r : Int32} {S' : Mem} (E : XE p s m args meth c cX5_coolestBut 4 RX5 (some .int) xL Z) : ∀ (n : Nat) (S : Mem) (x1 x2 x3 : Int32), fX5_coolestBut_4 n S x1 x2 x3 = some (r, S') → WN p l e { frames := 0, cells := 0, slots := 0, locals := 0 } s m args below meth c xL Z (XQ xL Z r S') S 4 4 [(0, .ref (Z.2.1 32)), (1, .int x1), (2, .int x2), (3, .int x3)] [] := by
  intro n
  induction n with
  | zero => intro S x1 x2 x3 h; exact absurd (show (none : O) = some _ from h) (by simp)
  | succ n ih => intro S x1 x2 x3 h; exact wX5_coolestBut_4_b E (fX5_coolestBut_4 n) ih S x1 x2 x3 h
set_option maxRecDepth 20000 in
theorem wX5_coolestBut {p : Program} {l : Launch} {e : Env} {s : State} {m : MethodId} {args : Array Value} {below : List Frame} {meth : Method} {c : Code} {Z : XG} {r : Int32} {S' : Mem} (E : XE p s m args meth c cX5_coolestBut 4 RX5 (some .int) xL Z) : ∀ (S : Mem) (x1 : Int32), fX5_coolestBut  S x1 = some (r, S') → WN p l e { frames := 0, cells := 0, slots := 0, locals := 0 } s m args below meth c xL Z (XQ xL Z r S') S 0 4 [(0, .ref (Z.2.1 32)), (1, .int x1)] [] := by
  obtain ⟨hx, hb, -, -, -, -, -, -, -, hQ⟩ := id E
  intro S x1 h H locs ls X hl
  unfold fX5_coolestBut at h
  refine lv_iconst (v := (-1 : Int32)) hx hb dX5_coolestBut_0 (by decide) ?_
  refine lv_istore_n (lv' := [(2, .int (-1 : Int32)), (0, .ref (Z.2.1 32)), (1, .int x1)]) hx hb dX5_coolestBut_1 rfl hl (by decide) rfl (fun ls hl => ?_)
  refine lv_iconst (v := (0 : Int32)) hx hb dX5_coolestBut_2 (by decide) ?_
  refine lv_istore_n (lv' := [(3, .int (0 : Int32)), (2, .int (-1 : Int32)), (0, .ref (Z.2.1 32)), (1, .int x1)]) hx hb dX5_coolestBut_3 rfl hl (by decide) rfl (fun ls hl => ?_)
  exact wX5_coolestBut_4 E   FU S x1 (-1 : Int32) (0 : Int32) h _ _ _ X (lv_sub hl [2, 3, 1, 0] rfl)
/-- SevenToAShadow$Thought.coolestBut(I)I -/
theorem mX5_coolestBut (l : Launch) (Z : XG) (hQ : wQ (List.length xL) Z) {S S' : Mem} {r : Int32} (x1 : Int32) (h : fX5_coolestBut S x1 = some (r, S')) : XM l yX5_coolestBut cX5_coolestBut 4 (some .int) { frames := 0, cells := 0, slots := 0, locals := 0 } xL Z [.ref (Z.2.1 32), .int x1] S (XQ xL Z r S') := by
  refine XM.of (own := RX5) (by decide +kernel) rfl rfl hQ (fun p e s m args below meth c E ls hl X => ?_)
  exact wX5_coolestBut E S x1 h _ _ _ X hl
def fX5_seatAll_87_b (k0 : Mem → Int32 → Int32 → Int32 → O) (S : Mem) (x3 x4 x5 : Int32) : O := (if (S 1 9) ≤ x5 then some ((0 : Int32), S) else bnd (fX5_palestOf S x4) fun r_2 S_3 => bnd (fX5_coolestBut S_3 x3) fun r_4 S_5 => (if r_2 = (-1 : Int32) then some ((0 : Int32), S_5) else (if r_4 = (-1 : Int32) then some ((0 : Int32), S_5) else gd (inB r_2 10) <| ltm (mset S_5 34 (r_2).toNatClampNeg r_4) fun S_9 => lti (x3 ||| ((1 : Int32) <<< (r_4 &&& 31))) fun x3_10 => lti (x4 ||| ((1 : Int32) <<< (r_2 &&& 31))) fun x4_11 => k0 S_9 x3_10 x4_11 (x5 + (1 : Int32)))))
def fX5_seatAll_87 : Nat → Mem → Int32 → Int32 → Int32 → O
  | 0 => fun _ _ _ _ => none
  | n + 1 => fX5_seatAll_87_b (fX5_seatAll_87 n)
def fX5_seatAll_78 (k0 : Mem → Int32 → Int32 → Int32 → O) (S : Mem) (x3 x4 x5 : Int32) : O := k0 S x3 x4 (x5 + (1 : Int32))
def fX5_seatAll_14_b (k0 : Mem → Int32 → Int32 → Int32 → O) (S : Mem) (x3 x4 x5 : Int32) : O := (if (S 1 9) ≤ x5 then fX5_seatAll_87  FU S x3 x4 (0 : Int32) else bnd (fX6_has S x5 (5 : Int32)) fun r_2 S_3 => (if r_2 = (1 : Int32) then bnd (fX6_has S_3 x5 (0 : Int32)) fun r_5 S_6 => gd (inB x5 10) <| ltm (mset S_6 34 (x5).toNatClampNeg r_5) fun S_8 => gd (inB x5 10) <| lti (x3 ||| ((1 : Int32) <<< ((S_8 34 (x5).toNatClampNeg) &&& 31))) fun x3_10 => lti (x4 ||| ((1 : Int32) <<< (x5 &&& 31))) fun x4_11 => fX5_seatAll_78 k0 S_8 x3_10 x4_11 x5 else fX5_seatAll_78 k0 S_3 x3 x4 x5))
def fX5_seatAll_14 : Nat → Mem → Int32 → Int32 → Int32 → O
  | 0 => fun _ _ _ _ => none
  | n + 1 => fX5_seatAll_14_b (fX5_seatAll_14 n)
def fX5_seatAll (S : Mem) (x1 x2 : Int32) : O := bnd (fX5_addSuns S x1 x2) fun _ S_2 => fX5_seatAll_14  FU S_2 (0 : Int32) (0 : Int32) (0 : Int32)
theorem dX5_seatAll_0 : decode cX5_seatAll 0 = .ok (.aload_n 0, 1) := by decide +kernel
theorem dX5_seatAll_1 : decode cX5_seatAll 1 = .ok (.iload_n 1, 1) := by decide +kernel
theorem dX5_seatAll_2 : decode cX5_seatAll 2 = .ok (.iload_n 2, 1) := by decide +kernel
theorem dX5_seatAll_3 : decode cX5_seatAll 3 = .ok (.invokevirtual 31, 3) := by decide +kernel
theorem dX5_seatAll_6 : decode cX5_seatAll 6 = .ok (.iconst 0, 1) := by decide +kernel
theorem dX5_seatAll_7 : decode cX5_seatAll 7 = .ok (.istore_n 3, 1) := by decide +kernel
theorem dX5_seatAll_8 : decode cX5_seatAll 8 = .ok (.iconst 0, 1) := by decide +kernel
theorem dX5_seatAll_9 : decode cX5_seatAll 9 = .ok (.istore 4, 2) := by decide +kernel
theorem dX5_seatAll_11 : decode cX5_seatAll 11 = .ok (.iconst 0, 1) := by decide +kernel
theorem dX5_seatAll_12 : decode cX5_seatAll 12 = .ok (.istore 5, 2) := by decide +kernel
theorem dX5_seatAll_14 : decode cX5_seatAll 14 = .ok (.iload 5, 2) := by decide +kernel
theorem dX5_seatAll_16 : decode cX5_seatAll 16 = .ok (.aload_n 0, 1) := by decide +kernel
theorem dX5_seatAll_17 : decode cX5_seatAll 17 = .ok (.getfield 27, 3) := by decide +kernel
theorem dX5_seatAll_20 : decode cX5_seatAll 20 = .ok (.getfield 35, 3) := by decide +kernel
theorem dX5_seatAll_23 : decode cX5_seatAll 23 = .ok (.if_icmp .ge 61, 3) := by decide +kernel
theorem dX5_seatAll_26 : decode cX5_seatAll 26 = .ok (.aload_n 0, 1) := by decide +kernel
theorem dX5_seatAll_27 : decode cX5_seatAll 27 = .ok (.getfield 27, 3) := by decide +kernel
theorem dX5_seatAll_30 : decode cX5_seatAll 30 = .ok (.iload 5, 2) := by decide +kernel
theorem dX5_seatAll_32 : decode cX5_seatAll 32 = .ok (.iconst 5, 1) := by decide +kernel
theorem dX5_seatAll_33 : decode cX5_seatAll 33 = .ok (.invokevirtual 41, 3) := by decide +kernel
theorem dX5_seatAll_36 : decode cX5_seatAll 36 = .ok (.iconst 1, 1) := by decide +kernel
theorem dX5_seatAll_37 : decode cX5_seatAll 37 = .ok (.if_icmp .ne 41, 3) := by decide +kernel
theorem dX5_seatAll_40 : decode cX5_seatAll 40 = .ok (.aload_n 0, 1) := by decide +kernel
theorem dX5_seatAll_41 : decode cX5_seatAll 41 = .ok (.getfield 15, 3) := by decide +kernel
theorem dX5_seatAll_44 : decode cX5_seatAll 44 = .ok (.iload 5, 2) := by decide +kernel
theorem dX5_seatAll_46 : decode cX5_seatAll 46 = .ok (.aload_n 0, 1) := by decide +kernel
theorem dX5_seatAll_47 : decode cX5_seatAll 47 = .ok (.getfield 27, 3) := by decide +kernel
theorem dX5_seatAll_50 : decode cX5_seatAll 50 = .ok (.iload 5, 2) := by decide +kernel
theorem dX5_seatAll_52 : decode cX5_seatAll 52 = .ok (.iconst 0, 1) := by decide +kernel
theorem dX5_seatAll_53 : decode cX5_seatAll 53 = .ok (.invokevirtual 41, 3) := by decide +kernel
theorem dX5_seatAll_56 : decode cX5_seatAll 56 = .ok (.iastore, 1) := by decide +kernel
theorem dX5_seatAll_57 : decode cX5_seatAll 57 = .ok (.iload_n 3, 1) := by decide +kernel
theorem dX5_seatAll_58 : decode cX5_seatAll 58 = .ok (.iconst 1, 1) := by decide +kernel
theorem dX5_seatAll_59 : decode cX5_seatAll 59 = .ok (.aload_n 0, 1) := by decide +kernel
theorem dX5_seatAll_60 : decode cX5_seatAll 60 = .ok (.getfield 15, 3) := by decide +kernel
theorem dX5_seatAll_63 : decode cX5_seatAll 63 = .ok (.iload 5, 2) := by decide +kernel
theorem dX5_seatAll_65 : decode cX5_seatAll 65 = .ok (.iaload, 1) := by decide +kernel
theorem dX5_seatAll_66 : decode cX5_seatAll 66 = .ok (.ishl, 1) := by decide +kernel
theorem dX5_seatAll_67 : decode cX5_seatAll 67 = .ok (.ior, 1) := by decide +kernel
theorem dX5_seatAll_68 : decode cX5_seatAll 68 = .ok (.istore_n 3, 1) := by decide +kernel
theorem dX5_seatAll_69 : decode cX5_seatAll 69 = .ok (.iload 4, 2) := by decide +kernel
theorem dX5_seatAll_71 : decode cX5_seatAll 71 = .ok (.iconst 1, 1) := by decide +kernel
theorem dX5_seatAll_72 : decode cX5_seatAll 72 = .ok (.iload 5, 2) := by decide +kernel
theorem dX5_seatAll_74 : decode cX5_seatAll 74 = .ok (.ishl, 1) := by decide +kernel
theorem dX5_seatAll_75 : decode cX5_seatAll 75 = .ok (.ior, 1) := by decide +kernel
theorem dX5_seatAll_76 : decode cX5_seatAll 76 = .ok (.istore 4, 2) := by decide +kernel
theorem dX5_seatAll_78 : decode cX5_seatAll 78 = .ok (.iinc 5 1, 3) := by decide +kernel
theorem dX5_seatAll_81 : decode cX5_seatAll 81 = .ok (.goto (-67), 3) := by decide +kernel
theorem dX5_seatAll_84 : decode cX5_seatAll 84 = .ok (.iconst 0, 1) := by decide +kernel
theorem dX5_seatAll_85 : decode cX5_seatAll 85 = .ok (.istore 5, 2) := by decide +kernel
theorem dX5_seatAll_87 : decode cX5_seatAll 87 = .ok (.iload 5, 2) := by decide +kernel
theorem dX5_seatAll_89 : decode cX5_seatAll 89 = .ok (.aload_n 0, 1) := by decide +kernel
theorem dX5_seatAll_90 : decode cX5_seatAll 90 = .ok (.getfield 27, 3) := by decide +kernel
theorem dX5_seatAll_93 : decode cX5_seatAll 93 = .ok (.getfield 35, 3) := by decide +kernel
theorem dX5_seatAll_96 : decode cX5_seatAll 96 = .ok (.if_icmp .ge 64, 3) := by decide +kernel
theorem dX5_seatAll_99 : decode cX5_seatAll 99 = .ok (.aload_n 0, 1) := by decide +kernel
theorem dX5_seatAll_100 : decode cX5_seatAll 100 = .ok (.iload 4, 2) := by decide +kernel
theorem dX5_seatAll_102 : decode cX5_seatAll 102 = .ok (.invokevirtual 45, 3) := by decide +kernel
theorem dX5_seatAll_105 : decode cX5_seatAll 105 = .ok (.istore 6, 2) := by decide +kernel
theorem dX5_seatAll_107 : decode cX5_seatAll 107 = .ok (.aload_n 0, 1) := by decide +kernel
theorem dX5_seatAll_108 : decode cX5_seatAll 108 = .ok (.iload_n 3, 1) := by decide +kernel
theorem dX5_seatAll_109 : decode cX5_seatAll 109 = .ok (.invokevirtual 49, 3) := by decide +kernel
theorem dX5_seatAll_112 : decode cX5_seatAll 112 = .ok (.istore 7, 2) := by decide +kernel
theorem dX5_seatAll_114 : decode cX5_seatAll 114 = .ok (.iload 6, 2) := by decide +kernel
theorem dX5_seatAll_116 : decode cX5_seatAll 116 = .ok (.iconst (-1), 1) := by decide +kernel
theorem dX5_seatAll_117 : decode cX5_seatAll 117 = .ok (.if_icmp .eq 43, 3) := by decide +kernel
theorem dX5_seatAll_120 : decode cX5_seatAll 120 = .ok (.iload 7, 2) := by decide +kernel
theorem dX5_seatAll_122 : decode cX5_seatAll 122 = .ok (.iconst (-1), 1) := by decide +kernel
theorem dX5_seatAll_123 : decode cX5_seatAll 123 = .ok (.if_icmp .ne 6, 3) := by decide +kernel
theorem dX5_seatAll_126 : decode cX5_seatAll 126 = .ok (.goto 34, 3) := by decide +kernel
theorem dX5_seatAll_129 : decode cX5_seatAll 129 = .ok (.aload_n 0, 1) := by decide +kernel
theorem dX5_seatAll_130 : decode cX5_seatAll 130 = .ok (.getfield 15, 3) := by decide +kernel
theorem dX5_seatAll_133 : decode cX5_seatAll 133 = .ok (.iload 6, 2) := by decide +kernel
theorem dX5_seatAll_135 : decode cX5_seatAll 135 = .ok (.iload 7, 2) := by decide +kernel
theorem dX5_seatAll_137 : decode cX5_seatAll 137 = .ok (.iastore, 1) := by decide +kernel
theorem dX5_seatAll_138 : decode cX5_seatAll 138 = .ok (.iload_n 3, 1) := by decide +kernel
theorem dX5_seatAll_139 : decode cX5_seatAll 139 = .ok (.iconst 1, 1) := by decide +kernel
theorem dX5_seatAll_140 : decode cX5_seatAll 140 = .ok (.iload 7, 2) := by decide +kernel
theorem dX5_seatAll_142 : decode cX5_seatAll 142 = .ok (.ishl, 1) := by decide +kernel
theorem dX5_seatAll_143 : decode cX5_seatAll 143 = .ok (.ior, 1) := by decide +kernel
theorem dX5_seatAll_144 : decode cX5_seatAll 144 = .ok (.istore_n 3, 1) := by decide +kernel
theorem dX5_seatAll_145 : decode cX5_seatAll 145 = .ok (.iload 4, 2) := by decide +kernel
theorem dX5_seatAll_147 : decode cX5_seatAll 147 = .ok (.iconst 1, 1) := by decide +kernel
theorem dX5_seatAll_148 : decode cX5_seatAll 148 = .ok (.iload 6, 2) := by decide +kernel
theorem dX5_seatAll_150 : decode cX5_seatAll 150 = .ok (.ishl, 1) := by decide +kernel
theorem dX5_seatAll_151 : decode cX5_seatAll 151 = .ok (.ior, 1) := by decide +kernel
theorem dX5_seatAll_152 : decode cX5_seatAll 152 = .ok (.istore 4, 2) := by decide +kernel
theorem dX5_seatAll_154 : decode cX5_seatAll 154 = .ok (.iinc 5 1, 3) := by decide +kernel
theorem dX5_seatAll_157 : decode cX5_seatAll 157 = .ok (.goto (-70), 3) := by decide +kernel
theorem dX5_seatAll_160 : decode cX5_seatAll 160 = .ok (.return_, 1) := by decide +kernel
set_option maxRecDepth 20000 in
theorem wX5_seatAll_87_b {p : Program} {l : Launch} {e : Env} {s : State} {m : MethodId} {args : Array Value} {below : List Frame} {meth : Method} {c : Code} {Z : XG} {r : Int32} {S' : Mem} (E : XE p s m args meth c cX5_seatAll 8 RX5 none xL Z) (k0 : Mem → Int32 → Int32 → Int32 → O)  (hk0 : ∀ (S : Mem) (x3 x4 x5 : Int32), k0 S x3 x4 x5 = some (r, S') → WN p l e { frames := 4, cells := 0, slots := 0, locals := 97 } s m args below meth c xL Z (XV xL Z S') S 87 8 [(0, .ref (Z.2.1 32)), (3, .int x3), (4, .int x4), (5, .int x5)] []) : ∀ (S : Mem) (x3 x4 x5 : Int32), fX5_seatAll_87_b k0 S x3 x4 x5 = some (r, S') → WN p l e { frames := 4, cells := 0, slots := 0, locals := 97 } s m args below meth c xL Z (XV xL Z S') S 87 8 [(0, .ref (Z.2.1 32)), (3, .int x3), (4, .int x4), (5, .int x5)] [] := by
  obtain ⟨hx, hb, -, -, -, -, -, -, -, hQ⟩ := id E
  intro S x3 x4 x5 h H locs ls X hl
  unfold fX5_seatAll_87_b at h
  refine lv_iload hx hb dX5_seatAll_87 (lv_at hl 3 rfl) ?_
  refine lv_aload_n hx hb dX5_seatAll_89 rfl (lv_at hl 0 rfl) ?_
  refine x_getr E X ffX5_27 rfl rfl dX5_seatAll_90 ?_
  refine x_get E X ffX5_35 rfl rfl dX5_seatAll_93 ?_
  refine lv_icmp_ge (tgt := 160) hx hb dX5_seatAll_96 (by decide) (fun c_1 => ?_) (fun c_1 => ?_)
  · have h := if_t c_1 h
    exact x_vret E X h dX5_seatAll_160
  · have h := if_f c_1 h
    refine lv_aload_n hx hb dX5_seatAll_99 rfl (lv_at hl 0 rfl) ?_
    refine lv_iload hx hb dX5_seatAll_100 (lv_at hl 2 rfl) ?_
    obtain ⟨r_2, S_3, hr_2, h⟩ := bnd_s h
    refine x_callV E X cwX5_45 (mX5_palestOf l Z hQ  x4 hr_2) rfl rfl rfl rfl hl.1 rfl dX5_seatAll_102 (fun H locs X => ?_)
    refine lv_istore (lv' := [(6, .int r_2), (0, .ref (Z.2.1 32)), (3, .int x3), (4, .int x4), (5, .int x5)]) hx hb dX5_seatAll_105 hl (by decide) rfl (fun ls hl => ?_)
    refine lv_aload_n hx hb dX5_seatAll_107 rfl (lv_at hl 1 rfl) ?_
    refine lv_iload_n hx hb dX5_seatAll_108 rfl (lv_at hl 2 rfl) ?_
    obtain ⟨r_4, S_5, hr_4, h⟩ := bnd_s h
    refine x_callV E X cwX5_49 (mX5_coolestBut l Z hQ  x3 hr_4) rfl rfl rfl rfl hl.1 rfl dX5_seatAll_109 (fun H locs X => ?_)
    refine lv_istore (lv' := [(7, .int r_4), (6, .int r_2), (0, .ref (Z.2.1 32)), (3, .int x3), (4, .int x4), (5, .int x5)]) hx hb dX5_seatAll_112 hl (by decide) rfl (fun ls hl => ?_)
    refine lv_iload hx hb dX5_seatAll_114 (lv_at hl 1 rfl) ?_
    refine lv_iconst (v := (-1 : Int32)) hx hb dX5_seatAll_116 (by decide) ?_
    refine lv_icmp_eq (tgt := 160) hx hb dX5_seatAll_117 (by decide) (fun c_6 => ?_) (fun c_6 => ?_)
    · have h := if_t c_6 h
      exact x_vret E X h dX5_seatAll_160
    · have h := if_f c_6 h
      refine lv_iload hx hb dX5_seatAll_120 (lv_at hl 0 rfl) ?_
      refine lv_iconst (v := (-1 : Int32)) hx hb dX5_seatAll_122 (by decide) ?_
      refine lv_icmp_ne (tgt := 129) hx hb dX5_seatAll_123 (by decide) (fun c_7 => ?_) (fun c_7 => ?_)
      · have h := if_f c_7 h
        refine lv_aload_n hx hb dX5_seatAll_129 rfl (lv_at hl 2 rfl) ?_
        refine x_getr E X ffX5_15 rfl rfl dX5_seatAll_130 ?_
        refine lv_iload hx hb dX5_seatAll_133 (lv_at hl 1 rfl) ?_
        refine lv_iload hx hb dX5_seatAll_135 (lv_at hl 0 rfl) ?_
        obtain ⟨g_8, h⟩ := gd_s h
        obtain ⟨S_9, eS_9, h⟩ := ltm_s h
        refine x_iast E X rfl g_8 dX5_seatAll_137 (fun H locs X => ?_)
        rw [← eS_9] at X
        refine lv_iload_n hx hb dX5_seatAll_138 rfl (lv_at hl 3 rfl) ?_
        refine lv_iconst (v := (1 : Int32)) hx hb dX5_seatAll_139 (by decide) ?_
        refine lv_iload hx hb dX5_seatAll_140 (lv_at hl 0 rfl) ?_
        refine lv_ishl hx hb dX5_seatAll_142 ?_
        refine lv_ior hx hb dX5_seatAll_143 ?_
        obtain ⟨x3_10, ex3_10, h⟩ := lti_s h
        refine lv_nm ex3_10 ?_
        refine lv_istore_n (lv' := [(3, .int x3_10), (7, .int r_4), (6, .int r_2), (0, .ref (Z.2.1 32)), (4, .int x4), (5, .int x5)]) hx hb dX5_seatAll_144 rfl hl (by decide) rfl (fun ls hl => ?_)
        refine lv_iload hx hb dX5_seatAll_145 (lv_at hl 4 rfl) ?_
        refine lv_iconst (v := (1 : Int32)) hx hb dX5_seatAll_147 (by decide) ?_
        refine lv_iload hx hb dX5_seatAll_148 (lv_at hl 2 rfl) ?_
        refine lv_ishl hx hb dX5_seatAll_150 ?_
        refine lv_ior hx hb dX5_seatAll_151 ?_
        obtain ⟨x4_11, ex4_11, h⟩ := lti_s h
        refine lv_nm ex4_11 ?_
        refine lv_istore (lv' := [(4, .int x4_11), (3, .int x3_10), (7, .int r_4), (6, .int r_2), (0, .ref (Z.2.1 32)), (5, .int x5)]) hx hb dX5_seatAll_152 hl (by decide) rfl (fun ls hl => ?_)
        refine lv_iinc (v := (x5 + (1 : Int32))) (lv' := [(5, .int (x5 + (1 : Int32))), (4, .int x4_11), (3, .int x3_10), (7, .int r_4), (6, .int r_2), (0, .ref (Z.2.1 32))]) hx hb dX5_seatAll_154 hl (k := 5) rfl rfl (by decide) rfl (fun ls hl => ?_)
        refine lv_goto (tgt := 87) hx hb dX5_seatAll_157 (by decide) ?_
        exact hk0 S_9 x3_10 x4_11 (x5 + (1 : Int32)) h _ _ _ X (lv_sub hl [5, 2, 1, 0] rfl)
      · have h := if_t c_7 h
        refine lv_goto (tgt := 160) hx hb dX5_seatAll_126 (by decide) ?_
        exact x_vret E X h dX5_seatAll_160
theorem wX5_seatAll_87 {p : Program} {l : Launch} {e : Env} {s : State} {m : MethodId} {args : Array Value} {below : List Frame} {meth : Method} {c : Code} {Z : XG} {r : Int32} {S' : Mem} (E : XE p s m args meth c cX5_seatAll 8 RX5 none xL Z) : ∀ (n : Nat) (S : Mem) (x3 x4 x5 : Int32), fX5_seatAll_87 n S x3 x4 x5 = some (r, S') → WN p l e { frames := 4, cells := 0, slots := 0, locals := 97 } s m args below meth c xL Z (XV xL Z S') S 87 8 [(0, .ref (Z.2.1 32)), (3, .int x3), (4, .int x4), (5, .int x5)] [] := by
  intro n
  induction n with
  | zero => intro S x3 x4 x5 h; exact absurd (show (none : O) = some _ from h) (by simp)
  | succ n ih => intro S x3 x4 x5 h; exact wX5_seatAll_87_b E (fX5_seatAll_87 n) ih S x3 x4 x5 h
set_option maxRecDepth 20000 in
theorem wX5_seatAll_78 {p : Program} {l : Launch} {e : Env} {s : State} {m : MethodId} {args : Array Value} {below : List Frame} {meth : Method} {c : Code} {Z : XG} {r : Int32} {S' : Mem} (E : XE p s m args meth c cX5_seatAll 8 RX5 none xL Z) (k0 : Mem → Int32 → Int32 → Int32 → O)  (hk0 : ∀ (S : Mem) (x3 x4 x5 : Int32), k0 S x3 x4 x5 = some (r, S') → WN p l e { frames := 4, cells := 0, slots := 0, locals := 97 } s m args below meth c xL Z (XV xL Z S') S 14 8 [(0, .ref (Z.2.1 32)), (3, .int x3), (4, .int x4), (5, .int x5)] []) : ∀ (S : Mem) (x3 x4 x5 : Int32), fX5_seatAll_78 k0 S x3 x4 x5 = some (r, S') → WN p l e { frames := 4, cells := 0, slots := 0, locals := 97 } s m args below meth c xL Z (XV xL Z S') S 78 8 [(0, .ref (Z.2.1 32)), (3, .int x3), (4, .int x4), (5, .int x5)] [] := by
  obtain ⟨hx, hb, -, -, -, -, -, -, -, hQ⟩ := id E
  intro S x3 x4 x5 h H locs ls X hl
  unfold fX5_seatAll_78 at h
  refine lv_iinc (v := (x5 + (1 : Int32))) (lv' := [(5, .int (x5 + (1 : Int32))), (0, .ref (Z.2.1 32)), (3, .int x3), (4, .int x4)]) hx hb dX5_seatAll_78 hl (k := 3) rfl rfl (by decide) rfl (fun ls hl => ?_)
  refine lv_goto (tgt := 14) hx hb dX5_seatAll_81 (by decide) ?_
  exact hk0 S x3 x4 (x5 + (1 : Int32)) h _ _ _ X (lv_sub hl [1, 2, 3, 0] rfl)
set_option maxRecDepth 20000 in
theorem wX5_seatAll_14_b {p : Program} {l : Launch} {e : Env} {s : State} {m : MethodId} {args : Array Value} {below : List Frame} {meth : Method} {c : Code} {Z : XG} {r : Int32} {S' : Mem} (E : XE p s m args meth c cX5_seatAll 8 RX5 none xL Z) (k0 : Mem → Int32 → Int32 → Int32 → O)  (hk0 : ∀ (S : Mem) (x3 x4 x5 : Int32), k0 S x3 x4 x5 = some (r, S') → WN p l e { frames := 4, cells := 0, slots := 0, locals := 97 } s m args below meth c xL Z (XV xL Z S') S 14 8 [(0, .ref (Z.2.1 32)), (3, .int x3), (4, .int x4), (5, .int x5)] []) : ∀ (S : Mem) (x3 x4 x5 : Int32), fX5_seatAll_14_b k0 S x3 x4 x5 = some (r, S') → WN p l e { frames := 4, cells := 0, slots := 0, locals := 97 } s m args below meth c xL Z (XV xL Z S') S 14 8 [(0, .ref (Z.2.1 32)), (3, .int x3), (4, .int x4), (5, .int x5)] [] := by
  obtain ⟨hx, hb, -, -, -, -, -, -, -, hQ⟩ := id E
  intro S x3 x4 x5 h H locs ls X hl
  unfold fX5_seatAll_14_b at h
  refine lv_iload hx hb dX5_seatAll_14 (lv_at hl 3 rfl) ?_
  refine lv_aload_n hx hb dX5_seatAll_16 rfl (lv_at hl 0 rfl) ?_
  refine x_getr E X ffX5_27 rfl rfl dX5_seatAll_17 ?_
  refine x_get E X ffX5_35 rfl rfl dX5_seatAll_20 ?_
  refine lv_icmp_ge (tgt := 84) hx hb dX5_seatAll_23 (by decide) (fun c_1 => ?_) (fun c_1 => ?_)
  · have h := if_t c_1 h
    refine lv_iconst (v := (0 : Int32)) hx hb dX5_seatAll_84 (by decide) ?_
    refine lv_istore (lv' := [(5, .int (0 : Int32)), (0, .ref (Z.2.1 32)), (3, .int x3), (4, .int x4)]) hx hb dX5_seatAll_85 hl (by decide) rfl (fun ls hl => ?_)
    exact wX5_seatAll_87 E   FU S x3 x4 (0 : Int32) h _ _ _ X (lv_sub hl [1, 2, 3, 0] rfl)
  · have h := if_f c_1 h
    refine lv_aload_n hx hb dX5_seatAll_26 rfl (lv_at hl 0 rfl) ?_
    refine x_getr E X ffX5_27 rfl rfl dX5_seatAll_27 ?_
    refine lv_iload hx hb dX5_seatAll_30 (lv_at hl 3 rfl) ?_
    refine lv_iconst (v := (5 : Int32)) hx hb dX5_seatAll_32 (by decide) ?_
    obtain ⟨r_2, S_3, hr_2, h⟩ := bnd_s h
    refine x_callV E X cwX5_41 (mX6_has l Z hQ  x5 (5 : Int32) hr_2) rfl rfl rfl rfl hl.1 rfl dX5_seatAll_33 (fun H locs X => ?_)
    refine lv_iconst (v := (1 : Int32)) hx hb dX5_seatAll_36 (by decide) ?_
    refine lv_icmp_ne (tgt := 78) hx hb dX5_seatAll_37 (by decide) (fun c_4 => ?_) (fun c_4 => ?_)
    · have h := if_f c_4 h
      exact wX5_seatAll_78 E k0 hk0 S_3 x3 x4 x5 h _ _ _ X hl
    · have h := if_t c_4 h
      refine lv_aload_n hx hb dX5_seatAll_40 rfl (lv_at hl 0 rfl) ?_
      refine x_getr E X ffX5_15 rfl rfl dX5_seatAll_41 ?_
      refine lv_iload hx hb dX5_seatAll_44 (lv_at hl 3 rfl) ?_
      refine lv_aload_n hx hb dX5_seatAll_46 rfl (lv_at hl 0 rfl) ?_
      refine x_getr E X ffX5_27 rfl rfl dX5_seatAll_47 ?_
      refine lv_iload hx hb dX5_seatAll_50 (lv_at hl 3 rfl) ?_
      refine lv_iconst (v := (0 : Int32)) hx hb dX5_seatAll_52 (by decide) ?_
      obtain ⟨r_5, S_6, hr_5, h⟩ := bnd_s h
      refine x_callV E X cwX5_41 (mX6_has l Z hQ  x5 (0 : Int32) hr_5) rfl rfl rfl rfl hl.1 rfl dX5_seatAll_53 (fun H locs X => ?_)
      obtain ⟨g_7, h⟩ := gd_s h
      obtain ⟨S_8, eS_8, h⟩ := ltm_s h
      refine x_iast E X rfl g_7 dX5_seatAll_56 (fun H locs X => ?_)
      rw [← eS_8] at X
      refine lv_iload_n hx hb dX5_seatAll_57 rfl (lv_at hl 1 rfl) ?_
      refine lv_iconst (v := (1 : Int32)) hx hb dX5_seatAll_58 (by decide) ?_
      refine lv_aload_n hx hb dX5_seatAll_59 rfl (lv_at hl 0 rfl) ?_
      refine x_getr E X ffX5_15 rfl rfl dX5_seatAll_60 ?_
      refine lv_iload hx hb dX5_seatAll_63 (lv_at hl 3 rfl) ?_
      obtain ⟨g_9, h⟩ := gd_s h
      refine x_iald E X rfl g_9 dX5_seatAll_65 ?_
      refine lv_ishl hx hb dX5_seatAll_66 ?_
      refine lv_ior hx hb dX5_seatAll_67 ?_
      obtain ⟨x3_10, ex3_10, h⟩ := lti_s h
      refine lv_nm ex3_10 ?_
      refine lv_istore_n (lv' := [(3, .int x3_10), (0, .ref (Z.2.1 32)), (4, .int x4), (5, .int x5)]) hx hb dX5_seatAll_68 rfl hl (by decide) rfl (fun ls hl => ?_)
      refine lv_iload hx hb dX5_seatAll_69 (lv_at hl 2 rfl) ?_
      refine lv_iconst (v := (1 : Int32)) hx hb dX5_seatAll_71 (by decide) ?_
      refine lv_iload hx hb dX5_seatAll_72 (lv_at hl 3 rfl) ?_
      refine lv_ishl hx hb dX5_seatAll_74 ?_
      refine lv_ior hx hb dX5_seatAll_75 ?_
      obtain ⟨x4_11, ex4_11, h⟩ := lti_s h
      refine lv_nm ex4_11 ?_
      refine lv_istore (lv' := [(4, .int x4_11), (3, .int x3_10), (0, .ref (Z.2.1 32)), (5, .int x5)]) hx hb dX5_seatAll_76 hl (by decide) rfl (fun ls hl => ?_)
      exact wX5_seatAll_78 E k0 hk0 S_8 x3_10 x4_11 x5 h _ _ _ X (lv_sub hl [2, 1, 0, 3] rfl)
theorem wX5_seatAll_14 {p : Program} {l : Launch} {e : Env} {s : State} {m : MethodId} {args : Array Value} {below : List Frame} {meth : Method} {c : Code} {Z : XG} {r : Int32} {S' : Mem} (E : XE p s m args meth c cX5_seatAll 8 RX5 none xL Z) : ∀ (n : Nat) (S : Mem) (x3 x4 x5 : Int32), fX5_seatAll_14 n S x3 x4 x5 = some (r, S') → WN p l e { frames := 4, cells := 0, slots := 0, locals := 97 } s m args below meth c xL Z (XV xL Z S') S 14 8 [(0, .ref (Z.2.1 32)), (3, .int x3), (4, .int x4), (5, .int x5)] [] := by
  intro n
  induction n with
  | zero => intro S x3 x4 x5 h; exact absurd (show (none : O) = some _ from h) (by simp)
  | succ n ih => intro S x3 x4 x5 h; exact wX5_seatAll_14_b E (fX5_seatAll_14 n) ih S x3 x4 x5 h
set_option maxRecDepth 20000 in
theorem wX5_seatAll {p : Program} {l : Launch} {e : Env} {s : State} {m : MethodId} {args : Array Value} {below : List Frame} {meth : Method} {c : Code} {Z : XG} {r : Int32} {S' : Mem} (E : XE p s m args meth c cX5_seatAll 8 RX5 none xL Z) : ∀ (S : Mem) (x1 x2 : Int32), fX5_seatAll  S x1 x2 = some (r, S') → WN p l e { frames := 4, cells := 0, slots := 0, locals := 97 } s m args below meth c xL Z (XV xL Z S') S 0 8 [(0, .ref (Z.2.1 32)), (1, .int x1), (2, .int x2)] [] := by
  obtain ⟨hx, hb, -, -, -, -, -, -, -, hQ⟩ := id E
  intro S x1 x2 h H locs ls X hl
  unfold fX5_seatAll at h
  refine lv_aload_n hx hb dX5_seatAll_0 rfl (lv_at hl 0 rfl) ?_
  refine lv_iload_n hx hb dX5_seatAll_1 rfl (lv_at hl 1 rfl) ?_
  refine lv_iload_n hx hb dX5_seatAll_2 rfl (lv_at hl 2 rfl) ?_
  obtain ⟨r_1, S_2, hr_1, h⟩ := bnd_s h
  refine x_callVv E X cwX5_31 (mX5_addSuns l Z hQ  x1 x2 hr_1) rfl rfl rfl rfl hl.1 rfl dX5_seatAll_3 (fun H locs X => ?_)
  refine lv_iconst (v := (0 : Int32)) hx hb dX5_seatAll_6 (by decide) ?_
  refine lv_istore_n (lv' := [(3, .int (0 : Int32)), (0, .ref (Z.2.1 32)), (1, .int x1), (2, .int x2)]) hx hb dX5_seatAll_7 rfl hl (by decide) rfl (fun ls hl => ?_)
  refine lv_iconst (v := (0 : Int32)) hx hb dX5_seatAll_8 (by decide) ?_
  refine lv_istore (lv' := [(4, .int (0 : Int32)), (3, .int (0 : Int32)), (0, .ref (Z.2.1 32)), (1, .int x1), (2, .int x2)]) hx hb dX5_seatAll_9 hl (by decide) rfl (fun ls hl => ?_)
  refine lv_iconst (v := (0 : Int32)) hx hb dX5_seatAll_11 (by decide) ?_
  refine lv_istore (lv' := [(5, .int (0 : Int32)), (4, .int (0 : Int32)), (3, .int (0 : Int32)), (0, .ref (Z.2.1 32)), (1, .int x1), (2, .int x2)]) hx hb dX5_seatAll_12 hl (by decide) rfl (fun ls hl => ?_)
  exact wX5_seatAll_14 E   FU S_2 (0 : Int32) (0 : Int32) (0 : Int32) h _ _ _ X (lv_sub hl [3, 2, 1, 0] rfl)
/-- SevenToAShadow$Thought.seatAll(II)V -/
theorem mX5_seatAll (l : Launch) (Z : XG) (hQ : wQ (List.length xL) Z) {S S' : Mem} {r : Int32} (x1 x2 : Int32) (h : fX5_seatAll S x1 x2 = some (r, S')) : XM l yX5_seatAll cX5_seatAll 8 none { frames := 4, cells := 0, slots := 0, locals := 97 } xL Z [.ref (Z.2.1 32), .int x1, .int x2] S (XV xL Z S') := by
  refine XM.of (own := RX5) (by decide +kernel) rfl rfl hQ (fun p e s m args below meth c E ls hl X => ?_)
  exact wX5_seatAll E S x1 x2 h _ _ _ X hl
def fX5_seatOf (S : Mem) (x1 : Int32) : O := bnd (fX6_isPilgrim S x1) fun r_1 S_2 => (if r_1 = 0 then some ((-1 : Int32), S_2) else gd (inB x1 10) <| some ((S_2 34 (x1).toNatClampNeg), S_2))
theorem dX5_seatOf_0 : decode cX5_seatOf 0 = .ok (.aload_n 0, 1) := by decide +kernel
theorem dX5_seatOf_1 : decode cX5_seatOf 1 = .ok (.getfield 27, 3) := by decide +kernel
theorem dX5_seatOf_4 : decode cX5_seatOf 4 = .ok (.iload_n 1, 1) := by decide +kernel
theorem dX5_seatOf_5 : decode cX5_seatOf 5 = .ok (.invokevirtual 68, 3) := by decide +kernel
theorem dX5_seatOf_8 : decode cX5_seatOf 8 = .ok (.ifCond .eq 12, 3) := by decide +kernel
theorem dX5_seatOf_11 : decode cX5_seatOf 11 = .ok (.aload_n 0, 1) := by decide +kernel
theorem dX5_seatOf_12 : decode cX5_seatOf 12 = .ok (.getfield 15, 3) := by decide +kernel
theorem dX5_seatOf_15 : decode cX5_seatOf 15 = .ok (.iload_n 1, 1) := by decide +kernel
theorem dX5_seatOf_16 : decode cX5_seatOf 16 = .ok (.iaload, 1) := by decide +kernel
theorem dX5_seatOf_17 : decode cX5_seatOf 17 = .ok (.goto 4, 3) := by decide +kernel
theorem dX5_seatOf_20 : decode cX5_seatOf 20 = .ok (.iconst (-1), 1) := by decide +kernel
theorem dX5_seatOf_21 : decode cX5_seatOf 21 = .ok (.ireturn, 1) := by decide +kernel
set_option maxRecDepth 20000 in
theorem wX5_seatOf {p : Program} {l : Launch} {e : Env} {s : State} {m : MethodId} {args : Array Value} {below : List Frame} {meth : Method} {c : Code} {Z : XG} {r : Int32} {S' : Mem} (E : XE p s m args meth c cX5_seatOf 2 RX5 (some .int) xL Z) : ∀ (S : Mem) (x1 : Int32), fX5_seatOf  S x1 = some (r, S') → WN p l e { frames := 1, cells := 0, slots := 0, locals := 21 } s m args below meth c xL Z (XQ xL Z r S') S 0 2 [(0, .ref (Z.2.1 32)), (1, .int x1)] [] := by
  obtain ⟨hx, hb, -, -, -, -, -, -, -, hQ⟩ := id E
  intro S x1 h H locs ls X hl
  unfold fX5_seatOf at h
  refine lv_aload_n hx hb dX5_seatOf_0 rfl (lv_at hl 0 rfl) ?_
  refine x_getr E X ffX5_27 rfl rfl dX5_seatOf_1 ?_
  refine lv_iload_n hx hb dX5_seatOf_4 rfl (lv_at hl 1 rfl) ?_
  obtain ⟨r_1, S_2, hr_1, h⟩ := bnd_s h
  refine x_callV E X cwX5_68 (mX6_isPilgrim l Z hQ  x1 hr_1) rfl rfl rfl rfl hl.1 rfl dX5_seatOf_5 (fun H locs X => ?_)
  refine lv_if_eq (tgt := 20) hx hb dX5_seatOf_8 (by decide) (fun c_3 => ?_) (fun c_3 => ?_)
  · have h := if_t c_3 h
    refine lv_iconst (v := (-1 : Int32)) hx hb dX5_seatOf_20 (by decide) ?_
    exact x_iret E X h dX5_seatOf_21
  · have h := if_f c_3 h
    refine lv_aload_n hx hb dX5_seatOf_11 rfl (lv_at hl 0 rfl) ?_
    refine x_getr E X ffX5_15 rfl rfl dX5_seatOf_12 ?_
    refine lv_iload_n hx hb dX5_seatOf_15 rfl (lv_at hl 1 rfl) ?_
    obtain ⟨g_4, h⟩ := gd_s h
    refine x_iald E X rfl g_4 dX5_seatOf_16 ?_
    refine lv_goto (tgt := 21) hx hb dX5_seatOf_17 (by decide) ?_
    exact x_iret E X h dX5_seatOf_21
/-- SevenToAShadow$Thought.seatOf(I)I -/
theorem mX5_seatOf (l : Launch) (Z : XG) (hQ : wQ (List.length xL) Z) {S S' : Mem} {r : Int32} (x1 : Int32) (h : fX5_seatOf S x1 = some (r, S')) : XM l yX5_seatOf cX5_seatOf 2 (some .int) { frames := 1, cells := 0, slots := 0, locals := 21 } xL Z [.ref (Z.2.1 32), .int x1] S (XQ xL Z r S') := by
  refine XM.of (own := RX5) (by decide +kernel) rfl rfl hQ (fun p e s m args below meth c E ls hl X => ?_)
  exact wX5_seatOf E S x1 h _ _ _ X hl
def fX5_seatBurn (S : Mem) (x1 : Int32) : O := bnd (fX5_seatOf S x1) fun r_1 S_2 => bnd (fX7_isPlace S_2 r_1) fun r_3 S_4 => (if r_3 = 0 then some ((0 : Int32), S_4) else gd (inB r_1 25) <| bnd (fX6_has S_4 x1 (3 : Int32)) fun r_7 S_8 => some (((S_4 33 (r_1).toNatClampNeg) * r_7), S_8))
theorem dX5_seatBurn_0 : decode cX5_seatBurn 0 = .ok (.aload_n 0, 1) := by decide +kernel
theorem dX5_seatBurn_1 : decode cX5_seatBurn 1 = .ok (.iload_n 1, 1) := by decide +kernel
theorem dX5_seatBurn_2 : decode cX5_seatBurn 2 = .ok (.invokevirtual 72, 3) := by decide +kernel
theorem dX5_seatBurn_5 : decode cX5_seatBurn 5 = .ok (.istore_n 2, 1) := by decide +kernel
theorem dX5_seatBurn_6 : decode cX5_seatBurn 6 = .ok (.iload_n 2, 1) := by decide +kernel
theorem dX5_seatBurn_7 : decode cX5_seatBurn 7 = .ok (.invokestatic 75, 3) := by decide +kernel
theorem dX5_seatBurn_10 : decode cX5_seatBurn 10 = .ok (.ifCond .eq 22, 3) := by decide +kernel
theorem dX5_seatBurn_13 : decode cX5_seatBurn 13 = .ok (.aload_n 0, 1) := by decide +kernel
theorem dX5_seatBurn_14 : decode cX5_seatBurn 14 = .ok (.getfield 9, 3) := by decide +kernel
theorem dX5_seatBurn_17 : decode cX5_seatBurn 17 = .ok (.iload_n 2, 1) := by decide +kernel
theorem dX5_seatBurn_18 : decode cX5_seatBurn 18 = .ok (.iaload, 1) := by decide +kernel
theorem dX5_seatBurn_19 : decode cX5_seatBurn 19 = .ok (.aload_n 0, 1) := by decide +kernel
theorem dX5_seatBurn_20 : decode cX5_seatBurn 20 = .ok (.getfield 27, 3) := by decide +kernel
theorem dX5_seatBurn_23 : decode cX5_seatBurn 23 = .ok (.iload_n 1, 1) := by decide +kernel
theorem dX5_seatBurn_24 : decode cX5_seatBurn 24 = .ok (.iconst 3, 1) := by decide +kernel
theorem dX5_seatBurn_25 : decode cX5_seatBurn 25 = .ok (.invokevirtual 41, 3) := by decide +kernel
theorem dX5_seatBurn_28 : decode cX5_seatBurn 28 = .ok (.imul, 1) := by decide +kernel
theorem dX5_seatBurn_29 : decode cX5_seatBurn 29 = .ok (.goto 4, 3) := by decide +kernel
theorem dX5_seatBurn_32 : decode cX5_seatBurn 32 = .ok (.iconst 0, 1) := by decide +kernel
theorem dX5_seatBurn_33 : decode cX5_seatBurn 33 = .ok (.ireturn, 1) := by decide +kernel
set_option maxRecDepth 20000 in
theorem wX5_seatBurn {p : Program} {l : Launch} {e : Env} {s : State} {m : MethodId} {args : Array Value} {below : List Frame} {meth : Method} {c : Code} {Z : XG} {r : Int32} {S' : Mem} (E : XE p s m args meth c cX5_seatBurn 3 RX5 (some .int) xL Z) : ∀ (S : Mem) (x1 : Int32), fX5_seatBurn  S x1 = some (r, S') → WN p l e { frames := 2, cells := 0, slots := 0, locals := 43 } s m args below meth c xL Z (XQ xL Z r S') S 0 3 [(0, .ref (Z.2.1 32)), (1, .int x1)] [] := by
  obtain ⟨hx, hb, -, -, -, -, -, -, -, hQ⟩ := id E
  intro S x1 h H locs ls X hl
  unfold fX5_seatBurn at h
  refine lv_aload_n hx hb dX5_seatBurn_0 rfl (lv_at hl 0 rfl) ?_
  refine lv_iload_n hx hb dX5_seatBurn_1 rfl (lv_at hl 1 rfl) ?_
  obtain ⟨r_1, S_2, hr_1, h⟩ := bnd_s h
  refine x_callV E X cwX5_72 (mX5_seatOf l Z hQ  x1 hr_1) rfl rfl rfl rfl hl.1 rfl dX5_seatBurn_2 (fun H locs X => ?_)
  refine lv_istore_n (lv' := [(2, .int r_1), (0, .ref (Z.2.1 32)), (1, .int x1)]) hx hb dX5_seatBurn_5 rfl hl (by decide) rfl (fun ls hl => ?_)
  refine lv_iload_n hx hb dX5_seatBurn_6 rfl (lv_at hl 0 rfl) ?_
  obtain ⟨r_3, S_4, hr_3, h⟩ := bnd_s h
  refine x_callN E X cwX5_75 (mX7_isPlace l Z hQ  r_1 hr_3) rfl rfl hl.1 rfl dX5_seatBurn_7 (fun H locs X => ?_)
  refine lv_if_eq (tgt := 32) hx hb dX5_seatBurn_10 (by decide) (fun c_5 => ?_) (fun c_5 => ?_)
  · have h := if_t c_5 h
    refine lv_iconst (v := (0 : Int32)) hx hb dX5_seatBurn_32 (by decide) ?_
    exact x_iret E X h dX5_seatBurn_33
  · have h := if_f c_5 h
    refine lv_aload_n hx hb dX5_seatBurn_13 rfl (lv_at hl 1 rfl) ?_
    refine x_getr E X ffX5_9 rfl rfl dX5_seatBurn_14 ?_
    refine lv_iload_n hx hb dX5_seatBurn_17 rfl (lv_at hl 0 rfl) ?_
    obtain ⟨g_6, h⟩ := gd_s h
    refine x_iald E X rfl g_6 dX5_seatBurn_18 ?_
    refine lv_aload_n hx hb dX5_seatBurn_19 rfl (lv_at hl 1 rfl) ?_
    refine x_getr E X ffX5_27 rfl rfl dX5_seatBurn_20 ?_
    refine lv_iload_n hx hb dX5_seatBurn_23 rfl (lv_at hl 2 rfl) ?_
    refine lv_iconst (v := (3 : Int32)) hx hb dX5_seatBurn_24 (by decide) ?_
    obtain ⟨r_7, S_8, hr_7, h⟩ := bnd_s h
    refine x_callV E X cwX5_41 (mX6_has l Z hQ  x1 (3 : Int32) hr_7) rfl rfl rfl rfl hl.1 rfl dX5_seatBurn_25 (fun H locs X => ?_)
    refine lv_imul hx hb dX5_seatBurn_28 ?_
    refine lv_goto (tgt := 33) hx hb dX5_seatBurn_29 (by decide) ?_
    exact x_iret E X h dX5_seatBurn_33
/-- SevenToAShadow$Thought.seatBurn(I)I -/
theorem mX5_seatBurn (l : Launch) (Z : XG) (hQ : wQ (List.length xL) Z) {S S' : Mem} {r : Int32} (x1 : Int32) (h : fX5_seatBurn S x1 = some (r, S')) : XM l yX5_seatBurn cX5_seatBurn 3 (some .int) { frames := 2, cells := 0, slots := 0, locals := 43 } xL Z [.ref (Z.2.1 32), .int x1] S (XQ xL Z r S') := by
  refine XM.of (own := RX5) (by decide +kernel) rfl rfl hQ (fun p e s m args below meth c E ls hl X => ?_)
  exact wX5_seatBurn E S x1 h _ _ _ X hl
def fX5_sumOfBurns_4_b (k0 : Mem → Int32 → Int32 → O) (S : Mem) (x1 x2 : Int32) : O := (if (S 1 9) ≤ x2 then some (x1, S) else bnd (fX5_seatBurn S x2) fun r_2 S_3 => lti (x1 + r_2) fun x1_4 => k0 S_3 x1_4 (x2 + (1 : Int32)))
def fX5_sumOfBurns_4 : Nat → Mem → Int32 → Int32 → O
  | 0 => fun _ _ _ => none
  | n + 1 => fX5_sumOfBurns_4_b (fX5_sumOfBurns_4 n)
def fX5_sumOfBurns (S : Mem) : O := fX5_sumOfBurns_4  FU S (0 : Int32) (0 : Int32)
theorem dX5_sumOfBurns_0 : decode cX5_sumOfBurns 0 = .ok (.iconst 0, 1) := by decide +kernel
theorem dX5_sumOfBurns_1 : decode cX5_sumOfBurns 1 = .ok (.istore_n 1, 1) := by decide +kernel
theorem dX5_sumOfBurns_2 : decode cX5_sumOfBurns 2 = .ok (.iconst 0, 1) := by decide +kernel
theorem dX5_sumOfBurns_3 : decode cX5_sumOfBurns 3 = .ok (.istore_n 2, 1) := by decide +kernel
theorem dX5_sumOfBurns_4 : decode cX5_sumOfBurns 4 = .ok (.iload_n 2, 1) := by decide +kernel
theorem dX5_sumOfBurns_5 : decode cX5_sumOfBurns 5 = .ok (.aload_n 0, 1) := by decide +kernel
theorem dX5_sumOfBurns_6 : decode cX5_sumOfBurns 6 = .ok (.getfield 27, 3) := by decide +kernel
theorem dX5_sumOfBurns_9 : decode cX5_sumOfBurns 9 = .ok (.getfield 35, 3) := by decide +kernel
theorem dX5_sumOfBurns_12 : decode cX5_sumOfBurns 12 = .ok (.if_icmp .ge 17, 3) := by decide +kernel
theorem dX5_sumOfBurns_15 : decode cX5_sumOfBurns 15 = .ok (.iload_n 1, 1) := by decide +kernel
theorem dX5_sumOfBurns_16 : decode cX5_sumOfBurns 16 = .ok (.aload_n 0, 1) := by decide +kernel
theorem dX5_sumOfBurns_17 : decode cX5_sumOfBurns 17 = .ok (.iload_n 2, 1) := by decide +kernel
theorem dX5_sumOfBurns_18 : decode cX5_sumOfBurns 18 = .ok (.invokevirtual 78, 3) := by decide +kernel
theorem dX5_sumOfBurns_21 : decode cX5_sumOfBurns 21 = .ok (.iadd, 1) := by decide +kernel
theorem dX5_sumOfBurns_22 : decode cX5_sumOfBurns 22 = .ok (.istore_n 1, 1) := by decide +kernel
theorem dX5_sumOfBurns_23 : decode cX5_sumOfBurns 23 = .ok (.iinc 2 1, 3) := by decide +kernel
theorem dX5_sumOfBurns_26 : decode cX5_sumOfBurns 26 = .ok (.goto (-22), 3) := by decide +kernel
theorem dX5_sumOfBurns_29 : decode cX5_sumOfBurns 29 = .ok (.iload_n 1, 1) := by decide +kernel
theorem dX5_sumOfBurns_30 : decode cX5_sumOfBurns 30 = .ok (.ireturn, 1) := by decide +kernel
set_option maxRecDepth 20000 in
theorem wX5_sumOfBurns_4_b {p : Program} {l : Launch} {e : Env} {s : State} {m : MethodId} {args : Array Value} {below : List Frame} {meth : Method} {c : Code} {Z : XG} {r : Int32} {S' : Mem} (E : XE p s m args meth c cX5_sumOfBurns 3 RX5 (some .int) xL Z) (k0 : Mem → Int32 → Int32 → O)  (hk0 : ∀ (S : Mem) (x1 x2 : Int32), k0 S x1 x2 = some (r, S') → WN p l e { frames := 3, cells := 0, slots := 0, locals := 65 } s m args below meth c xL Z (XQ xL Z r S') S 4 3 [(0, .ref (Z.2.1 32)), (1, .int x1), (2, .int x2)] []) : ∀ (S : Mem) (x1 x2 : Int32), fX5_sumOfBurns_4_b k0 S x1 x2 = some (r, S') → WN p l e { frames := 3, cells := 0, slots := 0, locals := 65 } s m args below meth c xL Z (XQ xL Z r S') S 4 3 [(0, .ref (Z.2.1 32)), (1, .int x1), (2, .int x2)] [] := by
  obtain ⟨hx, hb, -, -, -, -, -, -, -, hQ⟩ := id E
  intro S x1 x2 h H locs ls X hl
  unfold fX5_sumOfBurns_4_b at h
  refine lv_iload_n hx hb dX5_sumOfBurns_4 rfl (lv_at hl 2 rfl) ?_
  refine lv_aload_n hx hb dX5_sumOfBurns_5 rfl (lv_at hl 0 rfl) ?_
  refine x_getr E X ffX5_27 rfl rfl dX5_sumOfBurns_6 ?_
  refine x_get E X ffX5_35 rfl rfl dX5_sumOfBurns_9 ?_
  refine lv_icmp_ge (tgt := 29) hx hb dX5_sumOfBurns_12 (by decide) (fun c_1 => ?_) (fun c_1 => ?_)
  · have h := if_t c_1 h
    refine lv_iload_n hx hb dX5_sumOfBurns_29 rfl (lv_at hl 1 rfl) ?_
    exact x_iret E X h dX5_sumOfBurns_30
  · have h := if_f c_1 h
    refine lv_iload_n hx hb dX5_sumOfBurns_15 rfl (lv_at hl 1 rfl) ?_
    refine lv_aload_n hx hb dX5_sumOfBurns_16 rfl (lv_at hl 0 rfl) ?_
    refine lv_iload_n hx hb dX5_sumOfBurns_17 rfl (lv_at hl 2 rfl) ?_
    obtain ⟨r_2, S_3, hr_2, h⟩ := bnd_s h
    refine x_callV E X cwX5_78 (mX5_seatBurn l Z hQ  x2 hr_2) rfl rfl rfl rfl hl.1 rfl dX5_sumOfBurns_18 (fun H locs X => ?_)
    refine lv_iadd hx hb dX5_sumOfBurns_21 ?_
    obtain ⟨x1_4, ex1_4, h⟩ := lti_s h
    refine lv_nm ex1_4 ?_
    refine lv_istore_n (lv' := [(1, .int x1_4), (0, .ref (Z.2.1 32)), (2, .int x2)]) hx hb dX5_sumOfBurns_22 rfl hl (by decide) rfl (fun ls hl => ?_)
    refine lv_iinc (v := (x2 + (1 : Int32))) (lv' := [(2, .int (x2 + (1 : Int32))), (1, .int x1_4), (0, .ref (Z.2.1 32))]) hx hb dX5_sumOfBurns_23 hl (k := 2) rfl rfl (by decide) rfl (fun ls hl => ?_)
    refine lv_goto (tgt := 4) hx hb dX5_sumOfBurns_26 (by decide) ?_
    exact hk0 S_3 x1_4 (x2 + (1 : Int32)) h _ _ _ X (lv_sub hl [2, 1, 0] rfl)
theorem wX5_sumOfBurns_4 {p : Program} {l : Launch} {e : Env} {s : State} {m : MethodId} {args : Array Value} {below : List Frame} {meth : Method} {c : Code} {Z : XG} {r : Int32} {S' : Mem} (E : XE p s m args meth c cX5_sumOfBurns 3 RX5 (some .int) xL Z) : ∀ (n : Nat) (S : Mem) (x1 x2 : Int32), fX5_sumOfBurns_4 n S x1 x2 = some (r, S') → WN p l e { frames := 3, cells := 0, slots := 0, locals := 65 } s m args below meth c xL Z (XQ xL Z r S') S 4 3 [(0, .ref (Z.2.1 32)), (1, .int x1), (2, .int x2)] [] := by
  intro n
  induction n with
  | zero => intro S x1 x2 h; exact absurd (show (none : O) = some _ from h) (by simp)
  | succ n ih => intro S x1 x2 h; exact wX5_sumOfBurns_4_b E (fX5_sumOfBurns_4 n) ih S x1 x2 h
set_option maxRecDepth 20000 in
theorem wX5_sumOfBurns {p : Program} {l : Launch} {e : Env} {s : State} {m : MethodId} {args : Array Value} {below : List Frame} {meth : Method} {c : Code} {Z : XG} {r : Int32} {S' : Mem} (E : XE p s m args meth c cX5_sumOfBurns 3 RX5 (some .int) xL Z) : ∀ (S : Mem), fX5_sumOfBurns  S  = some (r, S') → WN p l e { frames := 3, cells := 0, slots := 0, locals := 65 } s m args below meth c xL Z (XQ xL Z r S') S 0 3 [(0, .ref (Z.2.1 32))] [] := by
  obtain ⟨hx, hb, -, -, -, -, -, -, -, hQ⟩ := id E
  intro S  h H locs ls X hl
  unfold fX5_sumOfBurns at h
  refine lv_iconst (v := (0 : Int32)) hx hb dX5_sumOfBurns_0 (by decide) ?_
  refine lv_istore_n (lv' := [(1, .int (0 : Int32)), (0, .ref (Z.2.1 32))]) hx hb dX5_sumOfBurns_1 rfl hl (by decide) rfl (fun ls hl => ?_)
  refine lv_iconst (v := (0 : Int32)) hx hb dX5_sumOfBurns_2 (by decide) ?_
  refine lv_istore_n (lv' := [(2, .int (0 : Int32)), (1, .int (0 : Int32)), (0, .ref (Z.2.1 32))]) hx hb dX5_sumOfBurns_3 rfl hl (by decide) rfl (fun ls hl => ?_)
  exact wX5_sumOfBurns_4 E   FU S (0 : Int32) (0 : Int32) h _ _ _ X (lv_sub hl [2, 1, 0] rfl)
/-- SevenToAShadow$Thought.sumOfBurns()I -/
theorem mX5_sumOfBurns (l : Launch) (Z : XG) (hQ : wQ (List.length xL) Z) {S S' : Mem} {r : Int32} (h : fX5_sumOfBurns S  = some (r, S')) : XM l yX5_sumOfBurns cX5_sumOfBurns 3 (some .int) { frames := 3, cells := 0, slots := 0, locals := 65 } xL Z [.ref (Z.2.1 32)] S (XQ xL Z r S') := by
  refine XM.of (own := RX5) (by decide +kernel) rfl rfl hQ (fun p e s m args below meth c E ls hl X => ?_)
  exact wX5_sumOfBurns E S  h _ _ _ X hl
