def fX7_farBetween (S : Mem) (x0 x1 : Int32) : O := some ((imax (iabs ((irem x0 (5 : Int32)) - (irem x1 (5 : Int32)))) (iabs ((x0 / (5 : Int32)) - (x1 / (5 : Int32))))), S)
theorem dX7_farBetween_0 : decode cX7_farBetween 0 = .ok (.iload_n 0, 1) := by decide +kernel
theorem dX7_farBetween_1 : decode cX7_farBetween 1 = .ok (.iconst 5, 1) := by decide +kernel
theorem dX7_farBetween_2 : decode cX7_farBetween 2 = .ok (.irem, 1) := by decide +kernel
theorem dX7_farBetween_3 : decode cX7_farBetween 3 = .ok (.iload_n 1, 1) := by decide +kernel
theorem dX7_farBetween_4 : decode cX7_farBetween 4 = .ok (.iconst 5, 1) := by decide +kernel
theorem dX7_farBetween_5 : decode cX7_farBetween 5 = .ok (.irem, 1) := by decide +kernel
theorem dX7_farBetween_6 : decode cX7_farBetween 6 = .ok (.isub, 1) := by decide +kernel
theorem dX7_farBetween_7 : decode cX7_farBetween 7 = .ok (.invokestatic 230, 3) := by decide +kernel
theorem dX7_farBetween_10 : decode cX7_farBetween 10 = .ok (.iload_n 0, 1) := by decide +kernel
theorem dX7_farBetween_11 : decode cX7_farBetween 11 = .ok (.iconst 5, 1) := by decide +kernel
theorem dX7_farBetween_12 : decode cX7_farBetween 12 = .ok (.idiv, 1) := by decide +kernel
theorem dX7_farBetween_13 : decode cX7_farBetween 13 = .ok (.iload_n 1, 1) := by decide +kernel
theorem dX7_farBetween_14 : decode cX7_farBetween 14 = .ok (.iconst 5, 1) := by decide +kernel
theorem dX7_farBetween_15 : decode cX7_farBetween 15 = .ok (.idiv, 1) := by decide +kernel
theorem dX7_farBetween_16 : decode cX7_farBetween 16 = .ok (.isub, 1) := by decide +kernel
theorem dX7_farBetween_17 : decode cX7_farBetween 17 = .ok (.invokestatic 230, 3) := by decide +kernel
theorem dX7_farBetween_20 : decode cX7_farBetween 20 = .ok (.invokestatic 140, 3) := by decide +kernel
theorem dX7_farBetween_23 : decode cX7_farBetween 23 = .ok (.ireturn, 1) := by decide +kernel
set_option maxRecDepth 20000 in
theorem wX7_farBetween {p : Program} {l : Launch} {e : Env} {s : State} {m : MethodId} {args : Array Value} {below : List Frame} {meth : Method} {c : Code} {Z : XG} {r : Int32} {S' : Mem} (E : XE p s m args meth c cX7_farBetween 2 RX7 (some .int) xL Z) : ∀ (S : Mem) (x0 x1 : Int32), fX7_farBetween  S x0 x1 = some (r, S') → WN p l e { frames := 1, cells := 0, slots := 0, locals := 14 } s m args below meth c xL Z (XQ xL Z r S') S 0 2 [(0, .int x0), (1, .int x1)] [] := by
  obtain ⟨hx, hb, -, -, -, -, -, -, -, hQ⟩ := id E
  intro S x0 x1 h H locs ls X hl
  unfold fX7_farBetween at h
  refine lv_iload_n hx hb dX7_farBetween_0 rfl (lv_at hl 0 rfl) ?_
  refine lv_iconst (v := (5 : Int32)) hx hb dX7_farBetween_1 (by decide) ?_
  refine lv_irem hx hb dX7_farBetween_2 (by decide) ?_
  refine lv_nm (y := (irem x0 (5 : Int32))) rfl ?_
  refine lv_iload_n hx hb dX7_farBetween_3 rfl (lv_at hl 1 rfl) ?_
  refine lv_iconst (v := (5 : Int32)) hx hb dX7_farBetween_4 (by decide) ?_
  refine lv_irem hx hb dX7_farBetween_5 (by decide) ?_
  refine lv_nm (y := (irem x1 (5 : Int32))) rfl ?_
  refine lv_isub hx hb dX7_farBetween_6 ?_
  refine x_mabs E cwX7_230 hl.1 rfl rfl rfl rfl dX7_farBetween_7 ?_
  refine lv_nm (y := (iabs ((irem x0 (5 : Int32)) - (irem x1 (5 : Int32))))) rfl ?_
  refine lv_iload_n hx hb dX7_farBetween_10 rfl (lv_at hl 0 rfl) ?_
  refine lv_iconst (v := (5 : Int32)) hx hb dX7_farBetween_11 (by decide) ?_
  refine lv_idiv hx hb dX7_farBetween_12 (by decide) ?_
  refine lv_iload_n hx hb dX7_farBetween_13 rfl (lv_at hl 1 rfl) ?_
  refine lv_iconst (v := (5 : Int32)) hx hb dX7_farBetween_14 (by decide) ?_
  refine lv_idiv hx hb dX7_farBetween_15 (by decide) ?_
  refine lv_isub hx hb dX7_farBetween_16 ?_
  refine x_mabs E cwX7_230 hl.1 rfl rfl rfl rfl dX7_farBetween_17 ?_
  refine lv_nm (y := (iabs ((x0 / (5 : Int32)) - (x1 / (5 : Int32))))) rfl ?_
  refine x_mmax E cwX7_140 hl.1 rfl rfl rfl rfl dX7_farBetween_20 ?_
  refine lv_nm (y := (imax (iabs ((irem x0 (5 : Int32)) - (irem x1 (5 : Int32)))) (iabs ((x0 / (5 : Int32)) - (x1 / (5 : Int32)))))) rfl ?_
  exact x_iret E X h dX7_farBetween_23
/-- SevenToAShadow.farBetween(II)I -/
theorem mX7_farBetween (l : Launch) (Z : XG) (hQ : wQ (List.length xL) Z) {S S' : Mem} {r : Int32} (x0 x1 : Int32) (h : fX7_farBetween S x0 x1 = some (r, S')) : XM l yX7_farBetween cX7_farBetween 2 (some .int) { frames := 1, cells := 0, slots := 0, locals := 14 } xL Z [.int x0, .int x1] S (XQ xL Z r S') := by
  refine XM.of (own := RX7) (by decide +kernel) rfl rfl hQ (fun p e s m args below meth c E ls hl X => ?_)
  exact wX7_farBetween E S x0 x1 h _ _ _ X hl
def fX1_countFights_70 (k0 : Mem → Int32 → Int32 → O) (k1 : Mem → Int32 → Int32 → Int32 → O) (S : Mem) (x1 x2 x3 : Int32) : O := k1 S x1 x2 (x3 + (1 : Int32))
def fX1_countFights_19_b (k0 : Mem → Int32 → Int32 → O) (k1 : Mem → Int32 → Int32 → Int32 → O) (S : Mem) (x1 x2 x3 : Int32) : O := (if (S 1 9) ≤ x3 then k0 S x1 (x2 + (1 : Int32)) else bnd (fX6_doQuarrel S x2 x3) fun r_2 S_3 => (if r_2 = 0 then fX1_countFights_70 k0 k1 S_3 x1 x2 x3 else bnd (fX6_has S_3 x2 (0 : Int32)) fun r_5 S_6 => bnd (fX6_has S_6 x3 (0 : Int32)) fun r_7 S_8 => bnd (fX7_farBetween S_8 r_5 r_7) fun r_9 S_10 => (if (1 : Int32) < r_9 then fX1_countFights_70 k0 k1 S_10 x1 x2 x3 else fX1_countFights_70 k0 k1 S_10 (x1 + (1 : Int32)) x2 x3)))
def fX1_countFights_19 (k0 : Mem → Int32 → Int32 → O) : Nat → Mem → Int32 → Int32 → Int32 → O
  | 0 => fun _ _ _ _ => none
  | n + 1 => fX1_countFights_19_b k0 (fX1_countFights_19 k0 n)
def fX1_countFights_4_b (k0 : Mem → Int32 → Int32 → O) (S : Mem) (x1 x2 : Int32) : O := (if (S 1 9) ≤ x2 then some (x1, S) else lti (x2 + (1 : Int32)) fun x3_2 => fX1_countFights_19 k0 FU S x1 x2 x3_2)
def fX1_countFights_4 : Nat → Mem → Int32 → Int32 → O
  | 0 => fun _ _ _ => none
  | n + 1 => fX1_countFights_4_b (fX1_countFights_4 n)
def fX1_countFights (S : Mem) : O := fX1_countFights_4  FU S (0 : Int32) (0 : Int32)
theorem dX1_countFights_0 : decode cX1_countFights 0 = .ok (.iconst 0, 1) := by decide +kernel
theorem dX1_countFights_1 : decode cX1_countFights 1 = .ok (.istore_n 1, 1) := by decide +kernel
theorem dX1_countFights_2 : decode cX1_countFights 2 = .ok (.iconst 0, 1) := by decide +kernel
theorem dX1_countFights_3 : decode cX1_countFights 3 = .ok (.istore_n 2, 1) := by decide +kernel
theorem dX1_countFights_4 : decode cX1_countFights 4 = .ok (.iload_n 2, 1) := by decide +kernel
theorem dX1_countFights_5 : decode cX1_countFights 5 = .ok (.aload_n 0, 1) := by decide +kernel
theorem dX1_countFights_6 : decode cX1_countFights 6 = .ok (.getfield 15, 3) := by decide +kernel
theorem dX1_countFights_9 : decode cX1_countFights 9 = .ok (.getfield 29, 3) := by decide +kernel
theorem dX1_countFights_12 : decode cX1_countFights 12 = .ok (.if_icmp .ge 70, 3) := by decide +kernel
theorem dX1_countFights_15 : decode cX1_countFights 15 = .ok (.iload_n 2, 1) := by decide +kernel
theorem dX1_countFights_16 : decode cX1_countFights 16 = .ok (.iconst 1, 1) := by decide +kernel
theorem dX1_countFights_17 : decode cX1_countFights 17 = .ok (.iadd, 1) := by decide +kernel
theorem dX1_countFights_18 : decode cX1_countFights 18 = .ok (.istore_n 3, 1) := by decide +kernel
theorem dX1_countFights_19 : decode cX1_countFights 19 = .ok (.iload_n 3, 1) := by decide +kernel
theorem dX1_countFights_20 : decode cX1_countFights 20 = .ok (.aload_n 0, 1) := by decide +kernel
theorem dX1_countFights_21 : decode cX1_countFights 21 = .ok (.getfield 15, 3) := by decide +kernel
theorem dX1_countFights_24 : decode cX1_countFights 24 = .ok (.getfield 29, 3) := by decide +kernel
theorem dX1_countFights_27 : decode cX1_countFights 27 = .ok (.if_icmp .ge 49, 3) := by decide +kernel
theorem dX1_countFights_30 : decode cX1_countFights 30 = .ok (.aload_n 0, 1) := by decide +kernel
theorem dX1_countFights_31 : decode cX1_countFights 31 = .ok (.getfield 15, 3) := by decide +kernel
theorem dX1_countFights_34 : decode cX1_countFights 34 = .ok (.iload_n 2, 1) := by decide +kernel
theorem dX1_countFights_35 : decode cX1_countFights 35 = .ok (.iload_n 3, 1) := by decide +kernel
theorem dX1_countFights_36 : decode cX1_countFights 36 = .ok (.invokevirtual 101, 3) := by decide +kernel
theorem dX1_countFights_39 : decode cX1_countFights 39 = .ok (.ifCond .eq 31, 3) := by decide +kernel
theorem dX1_countFights_42 : decode cX1_countFights 42 = .ok (.aload_n 0, 1) := by decide +kernel
theorem dX1_countFights_43 : decode cX1_countFights 43 = .ok (.getfield 15, 3) := by decide +kernel
theorem dX1_countFights_46 : decode cX1_countFights 46 = .ok (.iload_n 2, 1) := by decide +kernel
theorem dX1_countFights_47 : decode cX1_countFights 47 = .ok (.iconst 0, 1) := by decide +kernel
theorem dX1_countFights_48 : decode cX1_countFights 48 = .ok (.invokevirtual 86, 3) := by decide +kernel
theorem dX1_countFights_51 : decode cX1_countFights 51 = .ok (.aload_n 0, 1) := by decide +kernel
theorem dX1_countFights_52 : decode cX1_countFights 52 = .ok (.getfield 15, 3) := by decide +kernel
theorem dX1_countFights_55 : decode cX1_countFights 55 = .ok (.iload_n 3, 1) := by decide +kernel
theorem dX1_countFights_56 : decode cX1_countFights 56 = .ok (.iconst 0, 1) := by decide +kernel
theorem dX1_countFights_57 : decode cX1_countFights 57 = .ok (.invokevirtual 86, 3) := by decide +kernel
theorem dX1_countFights_60 : decode cX1_countFights 60 = .ok (.invokestatic 92, 3) := by decide +kernel
theorem dX1_countFights_63 : decode cX1_countFights 63 = .ok (.iconst 1, 1) := by decide +kernel
theorem dX1_countFights_64 : decode cX1_countFights 64 = .ok (.if_icmp .gt 6, 3) := by decide +kernel
theorem dX1_countFights_67 : decode cX1_countFights 67 = .ok (.iinc 1 1, 3) := by decide +kernel
theorem dX1_countFights_70 : decode cX1_countFights 70 = .ok (.iinc 3 1, 3) := by decide +kernel
theorem dX1_countFights_73 : decode cX1_countFights 73 = .ok (.goto (-54), 3) := by decide +kernel
theorem dX1_countFights_76 : decode cX1_countFights 76 = .ok (.iinc 2 1, 3) := by decide +kernel
theorem dX1_countFights_79 : decode cX1_countFights 79 = .ok (.goto (-75), 3) := by decide +kernel
theorem dX1_countFights_82 : decode cX1_countFights 82 = .ok (.iload_n 1, 1) := by decide +kernel
theorem dX1_countFights_83 : decode cX1_countFights 83 = .ok (.ireturn, 1) := by decide +kernel
set_option maxRecDepth 20000 in
theorem wX1_countFights_70 {p : Program} {l : Launch} {e : Env} {s : State} {m : MethodId} {args : Array Value} {below : List Frame} {meth : Method} {c : Code} {Z : XG} {r : Int32} {S' : Mem} (E : XE p s m args meth c cX1_countFights 4 RX1 (some .int) xL Z) (k0 : Mem → Int32 → Int32 → O)  (k1 : Mem → Int32 → Int32 → Int32 → O)  (hk0 : ∀ (S : Mem) (x1 x2 : Int32), k0 S x1 x2 = some (r, S') → WN p l e { frames := 2, cells := 0, slots := 0, locals := 43 } s m args below meth c xL Z (XQ xL Z r S') S 4 4 [(0, .ref (Z.2.1 30)), (1, .int x1), (2, .int x2)] []) (hk1 : ∀ (S : Mem) (x1 x2 x3 : Int32), k1 S x1 x2 x3 = some (r, S') → WN p l e { frames := 2, cells := 0, slots := 0, locals := 43 } s m args below meth c xL Z (XQ xL Z r S') S 19 4 [(0, .ref (Z.2.1 30)), (1, .int x1), (2, .int x2), (3, .int x3)] []) : ∀ (S : Mem) (x1 x2 x3 : Int32), fX1_countFights_70 k0 k1 S x1 x2 x3 = some (r, S') → WN p l e { frames := 2, cells := 0, slots := 0, locals := 43 } s m args below meth c xL Z (XQ xL Z r S') S 70 4 [(0, .ref (Z.2.1 30)), (1, .int x1), (2, .int x2), (3, .int x3)] [] := by
  obtain ⟨hx, hb, -, -, -, -, -, -, -, hQ⟩ := id E
  intro S x1 x2 x3 h H locs ls X hl
  unfold fX1_countFights_70 at h
  refine lv_iinc (v := (x3 + (1 : Int32))) (lv' := [(3, .int (x3 + (1 : Int32))), (0, .ref (Z.2.1 30)), (1, .int x1), (2, .int x2)]) hx hb dX1_countFights_70 hl (k := 3) rfl rfl (by decide) rfl (fun ls hl => ?_)
  refine lv_goto (tgt := 19) hx hb dX1_countFights_73 (by decide) ?_
  exact hk1 S x1 x2 (x3 + (1 : Int32)) h _ _ _ X (lv_sub hl [1, 2, 3, 0] rfl)
set_option maxRecDepth 20000 in
theorem wX1_countFights_19_b {p : Program} {l : Launch} {e : Env} {s : State} {m : MethodId} {args : Array Value} {below : List Frame} {meth : Method} {c : Code} {Z : XG} {r : Int32} {S' : Mem} (E : XE p s m args meth c cX1_countFights 4 RX1 (some .int) xL Z) (k0 : Mem → Int32 → Int32 → O)  (k1 : Mem → Int32 → Int32 → Int32 → O)  (hk0 : ∀ (S : Mem) (x1 x2 : Int32), k0 S x1 x2 = some (r, S') → WN p l e { frames := 2, cells := 0, slots := 0, locals := 43 } s m args below meth c xL Z (XQ xL Z r S') S 4 4 [(0, .ref (Z.2.1 30)), (1, .int x1), (2, .int x2)] []) (hk1 : ∀ (S : Mem) (x1 x2 x3 : Int32), k1 S x1 x2 x3 = some (r, S') → WN p l e { frames := 2, cells := 0, slots := 0, locals := 43 } s m args below meth c xL Z (XQ xL Z r S') S 19 4 [(0, .ref (Z.2.1 30)), (1, .int x1), (2, .int x2), (3, .int x3)] []) : ∀ (S : Mem) (x1 x2 x3 : Int32), fX1_countFights_19_b k0 k1 S x1 x2 x3 = some (r, S') → WN p l e { frames := 2, cells := 0, slots := 0, locals := 43 } s m args below meth c xL Z (XQ xL Z r S') S 19 4 [(0, .ref (Z.2.1 30)), (1, .int x1), (2, .int x2), (3, .int x3)] [] := by
  obtain ⟨hx, hb, -, -, -, -, -, -, -, hQ⟩ := id E
  intro S x1 x2 x3 h H locs ls X hl
  unfold fX1_countFights_19_b at h
  refine lv_iload_n hx hb dX1_countFights_19 rfl (lv_at hl 3 rfl) ?_
  refine lv_aload_n hx hb dX1_countFights_20 rfl (lv_at hl 0 rfl) ?_
  refine x_getr E X ffX1_15 rfl rfl dX1_countFights_21 ?_
  refine x_get E X ffX1_29 rfl rfl dX1_countFights_24 ?_
  refine lv_icmp_ge (tgt := 76) hx hb dX1_countFights_27 (by decide) (fun c_1 => ?_) (fun c_1 => ?_)
  · have h := if_t c_1 h
    refine lv_iinc (v := (x2 + (1 : Int32))) (lv' := [(2, .int (x2 + (1 : Int32))), (0, .ref (Z.2.1 30)), (1, .int x1), (3, .int x3)]) hx hb dX1_countFights_76 hl (k := 2) rfl rfl (by decide) rfl (fun ls hl => ?_)
    refine lv_goto (tgt := 4) hx hb dX1_countFights_79 (by decide) ?_
    exact hk0 S x1 (x2 + (1 : Int32)) h _ _ _ X (lv_sub hl [1, 2, 0] rfl)
  · have h := if_f c_1 h
    refine lv_aload_n hx hb dX1_countFights_30 rfl (lv_at hl 0 rfl) ?_
    refine x_getr E X ffX1_15 rfl rfl dX1_countFights_31 ?_
    refine lv_iload_n hx hb dX1_countFights_34 rfl (lv_at hl 2 rfl) ?_
    refine lv_iload_n hx hb dX1_countFights_35 rfl (lv_at hl 3 rfl) ?_
    obtain ⟨r_2, S_3, hr_2, h⟩ := bnd_s h
    refine x_callV E X cwX1_101 (mX6_doQuarrel l Z hQ  x2 x3 hr_2) rfl rfl rfl rfl hl.1 rfl dX1_countFights_36 (fun H locs X => ?_)
    refine lv_if_eq (tgt := 70) hx hb dX1_countFights_39 (by decide) (fun c_4 => ?_) (fun c_4 => ?_)
    · have h := if_t c_4 h
      exact wX1_countFights_70 E k0 k1 hk0 hk1 S_3 x1 x2 x3 h _ _ _ X hl
    · have h := if_f c_4 h
      refine lv_aload_n hx hb dX1_countFights_42 rfl (lv_at hl 0 rfl) ?_
      refine x_getr E X ffX1_15 rfl rfl dX1_countFights_43 ?_
      refine lv_iload_n hx hb dX1_countFights_46 rfl (lv_at hl 2 rfl) ?_
      refine lv_iconst (v := (0 : Int32)) hx hb dX1_countFights_47 (by decide) ?_
      obtain ⟨r_5, S_6, hr_5, h⟩ := bnd_s h
      refine x_callV E X cwX1_86 (mX6_has l Z hQ  x2 (0 : Int32) hr_5) rfl rfl rfl rfl hl.1 rfl dX1_countFights_48 (fun H locs X => ?_)
      refine lv_aload_n hx hb dX1_countFights_51 rfl (lv_at hl 0 rfl) ?_
      refine x_getr E X ffX1_15 rfl rfl dX1_countFights_52 ?_
      refine lv_iload_n hx hb dX1_countFights_55 rfl (lv_at hl 3 rfl) ?_
      refine lv_iconst (v := (0 : Int32)) hx hb dX1_countFights_56 (by decide) ?_
      obtain ⟨r_7, S_8, hr_7, h⟩ := bnd_s h
      refine x_callV E X cwX1_86 (mX6_has l Z hQ  x3 (0 : Int32) hr_7) rfl rfl rfl rfl hl.1 rfl dX1_countFights_57 (fun H locs X => ?_)
      obtain ⟨r_9, S_10, hr_9, h⟩ := bnd_s h
      refine x_callN E X cwX1_92 (mX7_farBetween l Z hQ  r_5 r_7 hr_9) rfl rfl hl.1 rfl dX1_countFights_60 (fun H locs X => ?_)
      refine lv_iconst (v := (1 : Int32)) hx hb dX1_countFights_63 (by decide) ?_
      refine lv_icmp_gt (tgt := 70) hx hb dX1_countFights_64 (by decide) (fun c_11 => ?_) (fun c_11 => ?_)
      · have h := if_t c_11 h
        exact wX1_countFights_70 E k0 k1 hk0 hk1 S_10 x1 x2 x3 h _ _ _ X hl
      · have h := if_f c_11 h
        refine lv_iinc (v := (x1 + (1 : Int32))) (lv' := [(1, .int (x1 + (1 : Int32))), (0, .ref (Z.2.1 30)), (2, .int x2), (3, .int x3)]) hx hb dX1_countFights_67 hl (k := 1) rfl rfl (by decide) rfl (fun ls hl => ?_)
        exact wX1_countFights_70 E k0 k1 hk0 hk1 S_10 (x1 + (1 : Int32)) x2 x3 h _ _ _ X (lv_sub hl [1, 0, 2, 3] rfl)
theorem wX1_countFights_19 {p : Program} {l : Launch} {e : Env} {s : State} {m : MethodId} {args : Array Value} {below : List Frame} {meth : Method} {c : Code} {Z : XG} {r : Int32} {S' : Mem} (E : XE p s m args meth c cX1_countFights 4 RX1 (some .int) xL Z) (k0 : Mem → Int32 → Int32 → O)  (hk0 : ∀ (S : Mem) (x1 x2 : Int32), k0 S x1 x2 = some (r, S') → WN p l e { frames := 2, cells := 0, slots := 0, locals := 43 } s m args below meth c xL Z (XQ xL Z r S') S 4 4 [(0, .ref (Z.2.1 30)), (1, .int x1), (2, .int x2)] []) : ∀ (n : Nat) (S : Mem) (x1 x2 x3 : Int32), fX1_countFights_19 k0 n S x1 x2 x3 = some (r, S') → WN p l e { frames := 2, cells := 0, slots := 0, locals := 43 } s m args below meth c xL Z (XQ xL Z r S') S 19 4 [(0, .ref (Z.2.1 30)), (1, .int x1), (2, .int x2), (3, .int x3)] [] := by
  intro n
  induction n with
  | zero => intro S x1 x2 x3 h; exact absurd (show (none : O) = some _ from h) (by simp)
  | succ n ih => intro S x1 x2 x3 h; exact wX1_countFights_19_b E k0 (fX1_countFights_19 k0 n) hk0 ih S x1 x2 x3 h
set_option maxRecDepth 20000 in
theorem wX1_countFights_4_b {p : Program} {l : Launch} {e : Env} {s : State} {m : MethodId} {args : Array Value} {below : List Frame} {meth : Method} {c : Code} {Z : XG} {r : Int32} {S' : Mem} (E : XE p s m args meth c cX1_countFights 4 RX1 (some .int) xL Z) (k0 : Mem → Int32 → Int32 → O)  (hk0 : ∀ (S : Mem) (x1 x2 : Int32), k0 S x1 x2 = some (r, S') → WN p l e { frames := 2, cells := 0, slots := 0, locals := 43 } s m args below meth c xL Z (XQ xL Z r S') S 4 4 [(0, .ref (Z.2.1 30)), (1, .int x1), (2, .int x2)] []) : ∀ (S : Mem) (x1 x2 : Int32), fX1_countFights_4_b k0 S x1 x2 = some (r, S') → WN p l e { frames := 2, cells := 0, slots := 0, locals := 43 } s m args below meth c xL Z (XQ xL Z r S') S 4 4 [(0, .ref (Z.2.1 30)), (1, .int x1), (2, .int x2)] [] := by
  obtain ⟨hx, hb, -, -, -, -, -, -, -, hQ⟩ := id E
  intro S x1 x2 h H locs ls X hl
  unfold fX1_countFights_4_b at h
  refine lv_iload_n hx hb dX1_countFights_4 rfl (lv_at hl 2 rfl) ?_
  refine lv_aload_n hx hb dX1_countFights_5 rfl (lv_at hl 0 rfl) ?_
  refine x_getr E X ffX1_15 rfl rfl dX1_countFights_6 ?_
  refine x_get E X ffX1_29 rfl rfl dX1_countFights_9 ?_
  refine lv_icmp_ge (tgt := 82) hx hb dX1_countFights_12 (by decide) (fun c_1 => ?_) (fun c_1 => ?_)
  · have h := if_t c_1 h
    refine lv_iload_n hx hb dX1_countFights_82 rfl (lv_at hl 1 rfl) ?_
    exact x_iret E X h dX1_countFights_83
  · have h := if_f c_1 h
    refine lv_iload_n hx hb dX1_countFights_15 rfl (lv_at hl 2 rfl) ?_
    refine lv_iconst (v := (1 : Int32)) hx hb dX1_countFights_16 (by decide) ?_
    refine lv_iadd hx hb dX1_countFights_17 ?_
    obtain ⟨x3_2, ex3_2, h⟩ := lti_s h
    refine lv_nm ex3_2 ?_
    refine lv_istore_n (lv' := [(3, .int x3_2), (0, .ref (Z.2.1 30)), (1, .int x1), (2, .int x2)]) hx hb dX1_countFights_18 rfl hl (by decide) rfl (fun ls hl => ?_)
    exact wX1_countFights_19 E k0 hk0 FU S x1 x2 x3_2 h _ _ _ X (lv_sub hl [1, 2, 3, 0] rfl)
theorem wX1_countFights_4 {p : Program} {l : Launch} {e : Env} {s : State} {m : MethodId} {args : Array Value} {below : List Frame} {meth : Method} {c : Code} {Z : XG} {r : Int32} {S' : Mem} (E : XE p s m args meth c cX1_countFights 4 RX1 (some .int) xL Z) : ∀ (n : Nat) (S : Mem) (x1 x2 : Int32), fX1_countFights_4 n S x1 x2 = some (r, S') → WN p l e { frames := 2, cells := 0, slots := 0, locals := 43 } s m args below meth c xL Z (XQ xL Z r S') S 4 4 [(0, .ref (Z.2.1 30)), (1, .int x1), (2, .int x2)] [] := by
  intro n
  induction n with
  | zero => intro S x1 x2 h; exact absurd (show (none : O) = some _ from h) (by simp)
  | succ n ih => intro S x1 x2 h; exact wX1_countFights_4_b E (fX1_countFights_4 n) ih S x1 x2 h
set_option maxRecDepth 20000 in
theorem wX1_countFights {p : Program} {l : Launch} {e : Env} {s : State} {m : MethodId} {args : Array Value} {below : List Frame} {meth : Method} {c : Code} {Z : XG} {r : Int32} {S' : Mem} (E : XE p s m args meth c cX1_countFights 4 RX1 (some .int) xL Z) : ∀ (S : Mem), fX1_countFights  S  = some (r, S') → WN p l e { frames := 2, cells := 0, slots := 0, locals := 43 } s m args below meth c xL Z (XQ xL Z r S') S 0 4 [(0, .ref (Z.2.1 30))] [] := by
  obtain ⟨hx, hb, -, -, -, -, -, -, -, hQ⟩ := id E
  intro S  h H locs ls X hl
  unfold fX1_countFights at h
  refine lv_iconst (v := (0 : Int32)) hx hb dX1_countFights_0 (by decide) ?_
  refine lv_istore_n (lv' := [(1, .int (0 : Int32)), (0, .ref (Z.2.1 30))]) hx hb dX1_countFights_1 rfl hl (by decide) rfl (fun ls hl => ?_)
  refine lv_iconst (v := (0 : Int32)) hx hb dX1_countFights_2 (by decide) ?_
  refine lv_istore_n (lv' := [(2, .int (0 : Int32)), (1, .int (0 : Int32)), (0, .ref (Z.2.1 30))]) hx hb dX1_countFights_3 rfl hl (by decide) rfl (fun ls hl => ?_)
  exact wX1_countFights_4 E   FU S (0 : Int32) (0 : Int32) h _ _ _ X (lv_sub hl [2, 1, 0] rfl)
/-- SevenToAShadow$March.countFights()I -/
theorem mX1_countFights (l : Launch) (Z : XG) (hQ : wQ (List.length xL) Z) {S S' : Mem} {r : Int32} (h : fX1_countFights S  = some (r, S')) : XM l yX1_countFights cX1_countFights 4 (some .int) { frames := 2, cells := 0, slots := 0, locals := 43 } xL Z [.ref (Z.2.1 30)] S (XQ xL Z r S') := by
  refine XM.of (own := RX1) (by decide +kernel) rfl rfl hQ (fun p e s m args below meth c E ls hl X => ?_)
  exact wX1_countFights E S  h _ _ _ X hl
def fX1_fillValues_38 (S : Mem) (x1 x2 s1 s2 : Int32) : O := gd (inB s1 10) <| ltm (mset S 31 (s1).toNatClampNeg s2) fun S_2 => bnd (fX6_has S_2 x1 (4 : Int32)) fun r_3 S_4 => ltm (mset S_4 31 ((3 : Int32)).toNatClampNeg r_3) fun S_5 => bnd (fX6_has S_5 x1 (1 : Int32)) fun r_6 S_7 => ltm (mset S_7 31 ((4 : Int32)).toNatClampNeg r_6) fun S_8 => bnd (fX6_has S_8 x1 (3 : Int32)) fun r_9 S_10 => ltm (mset S_10 31 ((5 : Int32)).toNatClampNeg r_9) fun S_11 => ltm (mset S_11 31 ((6 : Int32)).toNatClampNeg x2) fun S_12 => bnd (fX6_has S_12 x1 (0 : Int32)) fun r_13 S_14 => ltm (mset S_14 31 ((7 : Int32)).toNatClampNeg r_13) fun S_15 => bnd (fX6_has S_15 x1 (5 : Int32)) fun r_16 S_17 => ltm (mset S_17 31 ((8 : Int32)).toNatClampNeg r_16) fun S_18 => ltm (mset S_18 31 ((9 : Int32)).toNatClampNeg x1) fun S_19 => some ((0 : Int32), S_19)
def fX1_fillValues (S : Mem) (x1 x2 x3 x4 : Int32) : O := bnd (fX6_has S x1 (7 : Int32)) fun r_1 S_2 => ltm (mset S_2 31 ((0 : Int32)).toNatClampNeg r_1) fun S_3 => ltm (mset S_3 31 ((1 : Int32)).toNatClampNeg x3) fun S_4 => (if x4 = 0 then fX1_fillValues_38  S_4 x1 x2 (2 : Int32) (0 : Int32) else fX1_fillValues_38  S_4 x1 x2 (2 : Int32) (1 : Int32))
theorem dX1_fillValues_0 : decode cX1_fillValues 0 = .ok (.aload_n 0, 1) := by decide +kernel
theorem dX1_fillValues_1 : decode cX1_fillValues 1 = .ok (.getfield 9, 3) := by decide +kernel
theorem dX1_fillValues_4 : decode cX1_fillValues 4 = .ok (.iconst 0, 1) := by decide +kernel
theorem dX1_fillValues_5 : decode cX1_fillValues 5 = .ok (.aload_n 0, 1) := by decide +kernel
theorem dX1_fillValues_6 : decode cX1_fillValues 6 = .ok (.getfield 15, 3) := by decide +kernel
theorem dX1_fillValues_9 : decode cX1_fillValues 9 = .ok (.iload_n 1, 1) := by decide +kernel
theorem dX1_fillValues_10 : decode cX1_fillValues 10 = .ok (.bipush 7, 2) := by decide +kernel
theorem dX1_fillValues_12 : decode cX1_fillValues 12 = .ok (.invokevirtual 86, 3) := by decide +kernel
theorem dX1_fillValues_15 : decode cX1_fillValues 15 = .ok (.iastore, 1) := by decide +kernel
theorem dX1_fillValues_16 : decode cX1_fillValues 16 = .ok (.aload_n 0, 1) := by decide +kernel
theorem dX1_fillValues_17 : decode cX1_fillValues 17 = .ok (.getfield 9, 3) := by decide +kernel
theorem dX1_fillValues_20 : decode cX1_fillValues 20 = .ok (.iconst 1, 1) := by decide +kernel
theorem dX1_fillValues_21 : decode cX1_fillValues 21 = .ok (.iload_n 3, 1) := by decide +kernel
theorem dX1_fillValues_22 : decode cX1_fillValues 22 = .ok (.iastore, 1) := by decide +kernel
theorem dX1_fillValues_23 : decode cX1_fillValues 23 = .ok (.aload_n 0, 1) := by decide +kernel
theorem dX1_fillValues_24 : decode cX1_fillValues 24 = .ok (.getfield 9, 3) := by decide +kernel
theorem dX1_fillValues_27 : decode cX1_fillValues 27 = .ok (.iconst 2, 1) := by decide +kernel
theorem dX1_fillValues_28 : decode cX1_fillValues 28 = .ok (.iload 4, 2) := by decide +kernel
theorem dX1_fillValues_30 : decode cX1_fillValues 30 = .ok (.ifCond .eq 7, 3) := by decide +kernel
theorem dX1_fillValues_33 : decode cX1_fillValues 33 = .ok (.iconst 1, 1) := by decide +kernel
theorem dX1_fillValues_34 : decode cX1_fillValues 34 = .ok (.goto 4, 3) := by decide +kernel
theorem dX1_fillValues_37 : decode cX1_fillValues 37 = .ok (.iconst 0, 1) := by decide +kernel
theorem dX1_fillValues_38 : decode cX1_fillValues 38 = .ok (.iastore, 1) := by decide +kernel
theorem dX1_fillValues_39 : decode cX1_fillValues 39 = .ok (.aload_n 0, 1) := by decide +kernel
theorem dX1_fillValues_40 : decode cX1_fillValues 40 = .ok (.getfield 9, 3) := by decide +kernel
theorem dX1_fillValues_43 : decode cX1_fillValues 43 = .ok (.iconst 3, 1) := by decide +kernel
theorem dX1_fillValues_44 : decode cX1_fillValues 44 = .ok (.aload_n 0, 1) := by decide +kernel
theorem dX1_fillValues_45 : decode cX1_fillValues 45 = .ok (.getfield 15, 3) := by decide +kernel
theorem dX1_fillValues_48 : decode cX1_fillValues 48 = .ok (.iload_n 1, 1) := by decide +kernel
theorem dX1_fillValues_49 : decode cX1_fillValues 49 = .ok (.iconst 4, 1) := by decide +kernel
theorem dX1_fillValues_50 : decode cX1_fillValues 50 = .ok (.invokevirtual 86, 3) := by decide +kernel
theorem dX1_fillValues_53 : decode cX1_fillValues 53 = .ok (.iastore, 1) := by decide +kernel
theorem dX1_fillValues_54 : decode cX1_fillValues 54 = .ok (.aload_n 0, 1) := by decide +kernel
theorem dX1_fillValues_55 : decode cX1_fillValues 55 = .ok (.getfield 9, 3) := by decide +kernel
theorem dX1_fillValues_58 : decode cX1_fillValues 58 = .ok (.iconst 4, 1) := by decide +kernel
theorem dX1_fillValues_59 : decode cX1_fillValues 59 = .ok (.aload_n 0, 1) := by decide +kernel
theorem dX1_fillValues_60 : decode cX1_fillValues 60 = .ok (.getfield 15, 3) := by decide +kernel
theorem dX1_fillValues_63 : decode cX1_fillValues 63 = .ok (.iload_n 1, 1) := by decide +kernel
theorem dX1_fillValues_64 : decode cX1_fillValues 64 = .ok (.iconst 1, 1) := by decide +kernel
theorem dX1_fillValues_65 : decode cX1_fillValues 65 = .ok (.invokevirtual 86, 3) := by decide +kernel
theorem dX1_fillValues_68 : decode cX1_fillValues 68 = .ok (.iastore, 1) := by decide +kernel
theorem dX1_fillValues_69 : decode cX1_fillValues 69 = .ok (.aload_n 0, 1) := by decide +kernel
theorem dX1_fillValues_70 : decode cX1_fillValues 70 = .ok (.getfield 9, 3) := by decide +kernel
theorem dX1_fillValues_73 : decode cX1_fillValues 73 = .ok (.iconst 5, 1) := by decide +kernel
theorem dX1_fillValues_74 : decode cX1_fillValues 74 = .ok (.aload_n 0, 1) := by decide +kernel
theorem dX1_fillValues_75 : decode cX1_fillValues 75 = .ok (.getfield 15, 3) := by decide +kernel
theorem dX1_fillValues_78 : decode cX1_fillValues 78 = .ok (.iload_n 1, 1) := by decide +kernel
theorem dX1_fillValues_79 : decode cX1_fillValues 79 = .ok (.iconst 3, 1) := by decide +kernel
theorem dX1_fillValues_80 : decode cX1_fillValues 80 = .ok (.invokevirtual 86, 3) := by decide +kernel
theorem dX1_fillValues_83 : decode cX1_fillValues 83 = .ok (.iastore, 1) := by decide +kernel
theorem dX1_fillValues_84 : decode cX1_fillValues 84 = .ok (.aload_n 0, 1) := by decide +kernel
theorem dX1_fillValues_85 : decode cX1_fillValues 85 = .ok (.getfield 9, 3) := by decide +kernel
theorem dX1_fillValues_88 : decode cX1_fillValues 88 = .ok (.bipush 6, 2) := by decide +kernel
theorem dX1_fillValues_90 : decode cX1_fillValues 90 = .ok (.iload_n 2, 1) := by decide +kernel
theorem dX1_fillValues_91 : decode cX1_fillValues 91 = .ok (.iastore, 1) := by decide +kernel
theorem dX1_fillValues_92 : decode cX1_fillValues 92 = .ok (.aload_n 0, 1) := by decide +kernel
theorem dX1_fillValues_93 : decode cX1_fillValues 93 = .ok (.getfield 9, 3) := by decide +kernel
theorem dX1_fillValues_96 : decode cX1_fillValues 96 = .ok (.bipush 7, 2) := by decide +kernel
theorem dX1_fillValues_98 : decode cX1_fillValues 98 = .ok (.aload_n 0, 1) := by decide +kernel
theorem dX1_fillValues_99 : decode cX1_fillValues 99 = .ok (.getfield 15, 3) := by decide +kernel
theorem dX1_fillValues_102 : decode cX1_fillValues 102 = .ok (.iload_n 1, 1) := by decide +kernel
theorem dX1_fillValues_103 : decode cX1_fillValues 103 = .ok (.iconst 0, 1) := by decide +kernel
theorem dX1_fillValues_104 : decode cX1_fillValues 104 = .ok (.invokevirtual 86, 3) := by decide +kernel
theorem dX1_fillValues_107 : decode cX1_fillValues 107 = .ok (.iastore, 1) := by decide +kernel
theorem dX1_fillValues_108 : decode cX1_fillValues 108 = .ok (.aload_n 0, 1) := by decide +kernel
theorem dX1_fillValues_109 : decode cX1_fillValues 109 = .ok (.getfield 9, 3) := by decide +kernel
theorem dX1_fillValues_112 : decode cX1_fillValues 112 = .ok (.bipush 8, 2) := by decide +kernel
theorem dX1_fillValues_114 : decode cX1_fillValues 114 = .ok (.aload_n 0, 1) := by decide +kernel
theorem dX1_fillValues_115 : decode cX1_fillValues 115 = .ok (.getfield 15, 3) := by decide +kernel
theorem dX1_fillValues_118 : decode cX1_fillValues 118 = .ok (.iload_n 1, 1) := by decide +kernel
theorem dX1_fillValues_119 : decode cX1_fillValues 119 = .ok (.iconst 5, 1) := by decide +kernel
theorem dX1_fillValues_120 : decode cX1_fillValues 120 = .ok (.invokevirtual 86, 3) := by decide +kernel
theorem dX1_fillValues_123 : decode cX1_fillValues 123 = .ok (.iastore, 1) := by decide +kernel
theorem dX1_fillValues_124 : decode cX1_fillValues 124 = .ok (.aload_n 0, 1) := by decide +kernel
theorem dX1_fillValues_125 : decode cX1_fillValues 125 = .ok (.getfield 9, 3) := by decide +kernel
theorem dX1_fillValues_128 : decode cX1_fillValues 128 = .ok (.bipush 9, 2) := by decide +kernel
theorem dX1_fillValues_130 : decode cX1_fillValues 130 = .ok (.iload_n 1, 1) := by decide +kernel
theorem dX1_fillValues_131 : decode cX1_fillValues 131 = .ok (.iastore, 1) := by decide +kernel
theorem dX1_fillValues_132 : decode cX1_fillValues 132 = .ok (.return_, 1) := by decide +kernel
set_option maxRecDepth 20000 in
theorem wX1_fillValues_38 {p : Program} {l : Launch} {e : Env} {s : State} {m : MethodId} {args : Array Value} {below : List Frame} {meth : Method} {c : Code} {Z : XG} {r : Int32} {S' : Mem} (E : XE p s m args meth c cX1_fillValues 5 RX1 none xL Z) : ∀ (S : Mem) (x1 x2 s1 s2 : Int32), fX1_fillValues_38  S x1 x2 s1 s2 = some (r, S') → WN p l e { frames := 2, cells := 0, slots := 0, locals := 43 } s m args below meth c xL Z (XV xL Z S') S 38 5 [(0, .ref (Z.2.1 30)), (1, .int x1), (2, .int x2)] [.int s2, .int s1, .ref (Z.2.1 31)] := by
  obtain ⟨hx, hb, -, -, -, -, -, -, -, hQ⟩ := id E
  intro S x1 x2 s1 s2 h H locs ls X hl
  unfold fX1_fillValues_38 at h
  obtain ⟨g_1, h⟩ := gd_s h
  obtain ⟨S_2, eS_2, h⟩ := ltm_s h
  refine x_iast E X rfl g_1 dX1_fillValues_38 (fun H locs X => ?_)
  rw [← eS_2] at X
  refine lv_aload_n hx hb dX1_fillValues_39 rfl (lv_at hl 0 rfl) ?_
  refine x_getr E X ffX1_9 rfl rfl dX1_fillValues_40 ?_
  refine lv_iconst (v := (3 : Int32)) hx hb dX1_fillValues_43 (by decide) ?_
  refine lv_aload_n hx hb dX1_fillValues_44 rfl (lv_at hl 0 rfl) ?_
  refine x_getr E X ffX1_15 rfl rfl dX1_fillValues_45 ?_
  refine lv_iload_n hx hb dX1_fillValues_48 rfl (lv_at hl 1 rfl) ?_
  refine lv_iconst (v := (4 : Int32)) hx hb dX1_fillValues_49 (by decide) ?_
  obtain ⟨r_3, S_4, hr_3, h⟩ := bnd_s h
  refine x_callV E X cwX1_86 (mX6_has l Z hQ  x1 (4 : Int32) hr_3) rfl rfl rfl rfl hl.1 rfl dX1_fillValues_50 (fun H locs X => ?_)
  obtain ⟨S_5, eS_5, h⟩ := ltm_s h
  refine x_iast E X rfl (by decide) dX1_fillValues_53 (fun H locs X => ?_)
  rw [← eS_5] at X
  refine lv_aload_n hx hb dX1_fillValues_54 rfl (lv_at hl 0 rfl) ?_
  refine x_getr E X ffX1_9 rfl rfl dX1_fillValues_55 ?_
  refine lv_iconst (v := (4 : Int32)) hx hb dX1_fillValues_58 (by decide) ?_
  refine lv_aload_n hx hb dX1_fillValues_59 rfl (lv_at hl 0 rfl) ?_
  refine x_getr E X ffX1_15 rfl rfl dX1_fillValues_60 ?_
  refine lv_iload_n hx hb dX1_fillValues_63 rfl (lv_at hl 1 rfl) ?_
  refine lv_iconst (v := (1 : Int32)) hx hb dX1_fillValues_64 (by decide) ?_
  obtain ⟨r_6, S_7, hr_6, h⟩ := bnd_s h
  refine x_callV E X cwX1_86 (mX6_has l Z hQ  x1 (1 : Int32) hr_6) rfl rfl rfl rfl hl.1 rfl dX1_fillValues_65 (fun H locs X => ?_)
  obtain ⟨S_8, eS_8, h⟩ := ltm_s h
  refine x_iast E X rfl (by decide) dX1_fillValues_68 (fun H locs X => ?_)
  rw [← eS_8] at X
  refine lv_aload_n hx hb dX1_fillValues_69 rfl (lv_at hl 0 rfl) ?_
  refine x_getr E X ffX1_9 rfl rfl dX1_fillValues_70 ?_
  refine lv_iconst (v := (5 : Int32)) hx hb dX1_fillValues_73 (by decide) ?_
  refine lv_aload_n hx hb dX1_fillValues_74 rfl (lv_at hl 0 rfl) ?_
  refine x_getr E X ffX1_15 rfl rfl dX1_fillValues_75 ?_
  refine lv_iload_n hx hb dX1_fillValues_78 rfl (lv_at hl 1 rfl) ?_
  refine lv_iconst (v := (3 : Int32)) hx hb dX1_fillValues_79 (by decide) ?_
  obtain ⟨r_9, S_10, hr_9, h⟩ := bnd_s h
  refine x_callV E X cwX1_86 (mX6_has l Z hQ  x1 (3 : Int32) hr_9) rfl rfl rfl rfl hl.1 rfl dX1_fillValues_80 (fun H locs X => ?_)
  obtain ⟨S_11, eS_11, h⟩ := ltm_s h
  refine x_iast E X rfl (by decide) dX1_fillValues_83 (fun H locs X => ?_)
  rw [← eS_11] at X
  refine lv_aload_n hx hb dX1_fillValues_84 rfl (lv_at hl 0 rfl) ?_
  refine x_getr E X ffX1_9 rfl rfl dX1_fillValues_85 ?_
  refine lv_bipush (v := (6 : Int32)) hx hb dX1_fillValues_88 (by decide) ?_
  refine lv_iload_n hx hb dX1_fillValues_90 rfl (lv_at hl 2 rfl) ?_
  obtain ⟨S_12, eS_12, h⟩ := ltm_s h
  refine x_iast E X rfl (by decide) dX1_fillValues_91 (fun H locs X => ?_)
  rw [← eS_12] at X
  refine lv_aload_n hx hb dX1_fillValues_92 rfl (lv_at hl 0 rfl) ?_
  refine x_getr E X ffX1_9 rfl rfl dX1_fillValues_93 ?_
  refine lv_bipush (v := (7 : Int32)) hx hb dX1_fillValues_96 (by decide) ?_
  refine lv_aload_n hx hb dX1_fillValues_98 rfl (lv_at hl 0 rfl) ?_
  refine x_getr E X ffX1_15 rfl rfl dX1_fillValues_99 ?_
  refine lv_iload_n hx hb dX1_fillValues_102 rfl (lv_at hl 1 rfl) ?_
  refine lv_iconst (v := (0 : Int32)) hx hb dX1_fillValues_103 (by decide) ?_
  obtain ⟨r_13, S_14, hr_13, h⟩ := bnd_s h
  refine x_callV E X cwX1_86 (mX6_has l Z hQ  x1 (0 : Int32) hr_13) rfl rfl rfl rfl hl.1 rfl dX1_fillValues_104 (fun H locs X => ?_)
  obtain ⟨S_15, eS_15, h⟩ := ltm_s h
  refine x_iast E X rfl (by decide) dX1_fillValues_107 (fun H locs X => ?_)
  rw [← eS_15] at X
  refine lv_aload_n hx hb dX1_fillValues_108 rfl (lv_at hl 0 rfl) ?_
  refine x_getr E X ffX1_9 rfl rfl dX1_fillValues_109 ?_
  refine lv_bipush (v := (8 : Int32)) hx hb dX1_fillValues_112 (by decide) ?_
  refine lv_aload_n hx hb dX1_fillValues_114 rfl (lv_at hl 0 rfl) ?_
  refine x_getr E X ffX1_15 rfl rfl dX1_fillValues_115 ?_
  refine lv_iload_n hx hb dX1_fillValues_118 rfl (lv_at hl 1 rfl) ?_
  refine lv_iconst (v := (5 : Int32)) hx hb dX1_fillValues_119 (by decide) ?_
  obtain ⟨r_16, S_17, hr_16, h⟩ := bnd_s h
  refine x_callV E X cwX1_86 (mX6_has l Z hQ  x1 (5 : Int32) hr_16) rfl rfl rfl rfl hl.1 rfl dX1_fillValues_120 (fun H locs X => ?_)
  obtain ⟨S_18, eS_18, h⟩ := ltm_s h
  refine x_iast E X rfl (by decide) dX1_fillValues_123 (fun H locs X => ?_)
  rw [← eS_18] at X
  refine lv_aload_n hx hb dX1_fillValues_124 rfl (lv_at hl 0 rfl) ?_
  refine x_getr E X ffX1_9 rfl rfl dX1_fillValues_125 ?_
  refine lv_bipush (v := (9 : Int32)) hx hb dX1_fillValues_128 (by decide) ?_
  refine lv_iload_n hx hb dX1_fillValues_130 rfl (lv_at hl 1 rfl) ?_
  obtain ⟨S_19, eS_19, h⟩ := ltm_s h
  refine x_iast E X rfl (by decide) dX1_fillValues_131 (fun H locs X => ?_)
  rw [← eS_19] at X
  exact x_vret E X h dX1_fillValues_132
set_option maxRecDepth 20000 in
theorem wX1_fillValues {p : Program} {l : Launch} {e : Env} {s : State} {m : MethodId} {args : Array Value} {below : List Frame} {meth : Method} {c : Code} {Z : XG} {r : Int32} {S' : Mem} (E : XE p s m args meth c cX1_fillValues 5 RX1 none xL Z) : ∀ (S : Mem) (x1 x2 x3 x4 : Int32), fX1_fillValues  S x1 x2 x3 x4 = some (r, S') → WN p l e { frames := 2, cells := 0, slots := 0, locals := 43 } s m args below meth c xL Z (XV xL Z S') S 0 5 [(0, .ref (Z.2.1 30)), (1, .int x1), (2, .int x2), (3, .int x3), (4, .int x4)] [] := by
  obtain ⟨hx, hb, -, -, -, -, -, -, -, hQ⟩ := id E
  intro S x1 x2 x3 x4 h H locs ls X hl
  unfold fX1_fillValues at h
  refine lv_aload_n hx hb dX1_fillValues_0 rfl (lv_at hl 0 rfl) ?_
  refine x_getr E X ffX1_9 rfl rfl dX1_fillValues_1 ?_
  refine lv_iconst (v := (0 : Int32)) hx hb dX1_fillValues_4 (by decide) ?_
  refine lv_aload_n hx hb dX1_fillValues_5 rfl (lv_at hl 0 rfl) ?_
  refine x_getr E X ffX1_15 rfl rfl dX1_fillValues_6 ?_
  refine lv_iload_n hx hb dX1_fillValues_9 rfl (lv_at hl 1 rfl) ?_
  refine lv_bipush (v := (7 : Int32)) hx hb dX1_fillValues_10 (by decide) ?_
  obtain ⟨r_1, S_2, hr_1, h⟩ := bnd_s h
  refine x_callV E X cwX1_86 (mX6_has l Z hQ  x1 (7 : Int32) hr_1) rfl rfl rfl rfl hl.1 rfl dX1_fillValues_12 (fun H locs X => ?_)
  obtain ⟨S_3, eS_3, h⟩ := ltm_s h
  refine x_iast E X rfl (by decide) dX1_fillValues_15 (fun H locs X => ?_)
  rw [← eS_3] at X
  refine lv_aload_n hx hb dX1_fillValues_16 rfl (lv_at hl 0 rfl) ?_
  refine x_getr E X ffX1_9 rfl rfl dX1_fillValues_17 ?_
  refine lv_iconst (v := (1 : Int32)) hx hb dX1_fillValues_20 (by decide) ?_
  refine lv_iload_n hx hb dX1_fillValues_21 rfl (lv_at hl 3 rfl) ?_
  obtain ⟨S_4, eS_4, h⟩ := ltm_s h
  refine x_iast E X rfl (by decide) dX1_fillValues_22 (fun H locs X => ?_)
  rw [← eS_4] at X
  refine lv_aload_n hx hb dX1_fillValues_23 rfl (lv_at hl 0 rfl) ?_
  refine x_getr E X ffX1_9 rfl rfl dX1_fillValues_24 ?_
  refine lv_iconst (v := (2 : Int32)) hx hb dX1_fillValues_27 (by decide) ?_
  refine lv_iload hx hb dX1_fillValues_28 (lv_at hl 4 rfl) ?_
  refine lv_if_eq (tgt := 37) hx hb dX1_fillValues_30 (by decide) (fun c_5 => ?_) (fun c_5 => ?_)
  · have h := if_t c_5 h
    refine lv_iconst (v := (0 : Int32)) hx hb dX1_fillValues_37 (by decide) ?_
    exact wX1_fillValues_38 E   S_4 x1 x2 (2 : Int32) (0 : Int32) h _ _ _ X (lv_sub hl [0, 1, 2] rfl)
  · have h := if_f c_5 h
    refine lv_iconst (v := (1 : Int32)) hx hb dX1_fillValues_33 (by decide) ?_
    refine lv_goto (tgt := 38) hx hb dX1_fillValues_34 (by decide) ?_
    exact wX1_fillValues_38 E   S_4 x1 x2 (2 : Int32) (1 : Int32) h _ _ _ X (lv_sub hl [0, 1, 2] rfl)
/-- SevenToAShadow$March.fillValues(IIIZ)V -/
theorem mX1_fillValues (l : Launch) (Z : XG) (hQ : wQ (List.length xL) Z) {S S' : Mem} {r : Int32} (x1 x2 x3 x4 : Int32) (h : fX1_fillValues S x1 x2 x3 x4 = some (r, S')) : XM l yX1_fillValues cX1_fillValues 5 none { frames := 2, cells := 0, slots := 0, locals := 43 } xL Z [.ref (Z.2.1 30), .int x1, .int x2, .int x3, .int x4] S (XV xL Z S') := by
  refine XM.of (own := RX1) (by decide +kernel) rfl rfl hQ (fun p e s m args below meth c E ls hl X => ?_)
  exact wX1_fillValues E S x1 x2 x3 x4 h _ _ _ X hl
def fX4_push_8 (S : Mem) (x1 x2 : Int32) : O := (if x2 < 0 then some (x2, S) else (if x2 < (40 : Int32) then gd (inB x2 40) <| ltm (mset S 12 (x2).toNatClampNeg x1) fun S_4 => some ((x2 + (1 : Int32)), S_4) else some (x2, S)))
theorem dX4_push_0 : decode cX4_push 0 = .ok (.iload_n 2, 1) := by decide +kernel
theorem dX4_push_1 : decode cX4_push 1 = .ok (.ifCond .lt 12, 3) := by decide +kernel
theorem dX4_push_4 : decode cX4_push 4 = .ok (.iload_n 2, 1) := by decide +kernel
theorem dX4_push_5 : decode cX4_push 5 = .ok (.aload_n 0, 1) := by decide +kernel
theorem dX4_push_6 : decode cX4_push 6 = .ok (.getfield 21, 3) := by decide +kernel
theorem dX4_push_9 : decode cX4_push 9 = .ok (.arraylength, 1) := by decide +kernel
theorem dX4_push_10 : decode cX4_push 10 = .ok (.if_icmp .lt 5, 3) := by decide +kernel
theorem dX4_push_13 : decode cX4_push 13 = .ok (.iload_n 2, 1) := by decide +kernel
theorem dX4_push_14 : decode cX4_push 14 = .ok (.ireturn, 1) := by decide +kernel
theorem dX4_push_15 : decode cX4_push 15 = .ok (.aload_n 0, 1) := by decide +kernel
theorem dX4_push_16 : decode cX4_push 16 = .ok (.getfield 21, 3) := by decide +kernel
theorem dX4_push_19 : decode cX4_push 19 = .ok (.iload_n 2, 1) := by decide +kernel
theorem dX4_push_20 : decode cX4_push 20 = .ok (.iload_n 1, 1) := by decide +kernel
theorem dX4_push_21 : decode cX4_push 21 = .ok (.iastore, 1) := by decide +kernel
theorem dX4_push_22 : decode cX4_push 22 = .ok (.iload_n 2, 1) := by decide +kernel
theorem dX4_push_23 : decode cX4_push 23 = .ok (.iconst 1, 1) := by decide +kernel
theorem dX4_push_24 : decode cX4_push 24 = .ok (.iadd, 1) := by decide +kernel
theorem dX4_push_25 : decode cX4_push 25 = .ok (.ireturn, 1) := by decide +kernel
set_option maxRecDepth 20000 in
theorem wX4_push_8 {p : Program} {l : Launch} {e : Env} {s : State} {m : MethodId} {args : Array Value} {below : List Frame} {meth : Method} {c : Code} {Z : XG} {r : Int32} {S' : Mem} (E : XE p s m args meth c cX4_push 3 RX4 (some .int) xL Z) : ∀ (S : Mem) (x1 x2 : Int32), fX4_push_8  S x1 x2 = some (r, S') → WN p l e { frames := 0, cells := 0, slots := 0, locals := 0 } s m args below meth c xL Z (XQ xL Z r S') S 0 3 [(0, .ref (Z.2.1 8)), (1, .int x1), (2, .int x2)] [] := by
  obtain ⟨hx, hb, -, -, -, -, -, -, -, hQ⟩ := id E
  intro S x1 x2 h H locs ls X hl
  unfold fX4_push_8 at h
  refine lv_iload_n hx hb dX4_push_0 rfl (lv_at hl 2 rfl) ?_
  refine lv_if_lt (tgt := 13) hx hb dX4_push_1 (by decide) (fun c_1 => ?_) (fun c_1 => ?_)
  · have h := if_t c_1 h
    refine lv_iload_n hx hb dX4_push_13 rfl (lv_at hl 2 rfl) ?_
    exact x_iret E X h dX4_push_14
  · have h := if_f c_1 h
    refine lv_iload_n hx hb dX4_push_4 rfl (lv_at hl 2 rfl) ?_
    refine lv_aload_n hx hb dX4_push_5 rfl (lv_at hl 0 rfl) ?_
    refine x_getr E X ffX4_21 rfl rfl dX4_push_6 ?_
    refine x_alen E X (v := (40 : Int32)) rfl (by decide) dX4_push_9 ?_
    refine lv_icmp_lt (tgt := 15) hx hb dX4_push_10 (by decide) (fun c_2 => ?_) (fun c_2 => ?_)
    · have h := if_t c_2 h
      refine lv_aload_n hx hb dX4_push_15 rfl (lv_at hl 0 rfl) ?_
      refine x_getr E X ffX4_21 rfl rfl dX4_push_16 ?_
      refine lv_iload_n hx hb dX4_push_19 rfl (lv_at hl 2 rfl) ?_
      refine lv_iload_n hx hb dX4_push_20 rfl (lv_at hl 1 rfl) ?_
      obtain ⟨g_3, h⟩ := gd_s h
      obtain ⟨S_4, eS_4, h⟩ := ltm_s h
      refine x_iast E X rfl g_3 dX4_push_21 (fun H locs X => ?_)
      rw [← eS_4] at X
      refine lv_iload_n hx hb dX4_push_22 rfl (lv_at hl 2 rfl) ?_
      refine lv_iconst (v := (1 : Int32)) hx hb dX4_push_23 (by decide) ?_
      refine lv_iadd hx hb dX4_push_24 ?_
      exact x_iret E X h dX4_push_25
    · have h := if_f c_2 h
      refine lv_iload_n hx hb dX4_push_13 rfl (lv_at hl 2 rfl) ?_
      exact x_iret E X h dX4_push_14
/-- SevenToAShadow$Rules.push(II)I -/
theorem mX4_push_8 (l : Launch) (Z : XG) (hQ : wQ (List.length xL) Z) {S S' : Mem} {r : Int32} (x1 x2 : Int32) (h : fX4_push_8 S x1 x2 = some (r, S')) : XM l yX4_push cX4_push 3 (some .int) { frames := 0, cells := 0, slots := 0, locals := 0 } xL Z [.ref (Z.2.1 8), .int x1, .int x2] S (XQ xL Z r S') := by
  refine XM.of (own := RX4) (by decide +kernel) rfl rfl hQ (fun p e s m args below meth c E ls hl X => ?_)
  exact wX4_push_8 E S x1 x2 h _ _ _ X hl
def fX4_reckon (S : Mem) (x0 x1 x2 : Int32) : O := (if x0 = (5 : Int32) then some ((x1 ||| x2), S) else if x0 = (6 : Int32) then some ((x1 &&& x2), S) else if x0 = (19 : Int32) then some ((x1 + x2), S) else if x0 = (20 : Int32) then some ((x1 - x2), S) else if x0 = (21 : Int32) then some ((x1 * x2), S) else if x0 = (25 : Int32) then (if x2 ≤ x1 then some ((0 : Int32), S) else some ((1 : Int32), S)) else if x0 = (26 : Int32) then (if x1 = x2 then some ((1 : Int32), S) else some ((0 : Int32), S)) else if x0 = (27 : Int32) then (if x1 ≤ x2 then some ((0 : Int32), S) else some ((1 : Int32), S)) else (if x2 = 0 then some ((0 : Int32), S) else gd (nz x2) <| some ((x1 / x2), S)))
theorem dX4_reckon_0 : decode cX4_reckon 0 = .ok (.iload_n 0, 1) := by decide +kernel
theorem dX4_reckon_1 : decode cX4_reckon 1 = .ok (.tableswitch 160 5 27 #[107, 111, 160, 160, 160, 160, 160, 160, 160, 160, 160, 160, 160, 160, 148, 152, 156, 160, 160, 160, 115, 126, 137], 107) := by decide +kernel
theorem dX4_reckon_108 : decode cX4_reckon 108 = .ok (.iload_n 1, 1) := by decide +kernel
theorem dX4_reckon_109 : decode cX4_reckon 109 = .ok (.iload_n 2, 1) := by decide +kernel
theorem dX4_reckon_110 : decode cX4_reckon 110 = .ok (.ior, 1) := by decide +kernel
theorem dX4_reckon_111 : decode cX4_reckon 111 = .ok (.ireturn, 1) := by decide +kernel
theorem dX4_reckon_112 : decode cX4_reckon 112 = .ok (.iload_n 1, 1) := by decide +kernel
theorem dX4_reckon_113 : decode cX4_reckon 113 = .ok (.iload_n 2, 1) := by decide +kernel
theorem dX4_reckon_114 : decode cX4_reckon 114 = .ok (.iand, 1) := by decide +kernel
theorem dX4_reckon_115 : decode cX4_reckon 115 = .ok (.ireturn, 1) := by decide +kernel
theorem dX4_reckon_116 : decode cX4_reckon 116 = .ok (.iload_n 1, 1) := by decide +kernel
theorem dX4_reckon_117 : decode cX4_reckon 117 = .ok (.iload_n 2, 1) := by decide +kernel
theorem dX4_reckon_118 : decode cX4_reckon 118 = .ok (.if_icmp .ge 7, 3) := by decide +kernel
theorem dX4_reckon_121 : decode cX4_reckon 121 = .ok (.iconst 1, 1) := by decide +kernel
theorem dX4_reckon_122 : decode cX4_reckon 122 = .ok (.goto 4, 3) := by decide +kernel
theorem dX4_reckon_125 : decode cX4_reckon 125 = .ok (.iconst 0, 1) := by decide +kernel
theorem dX4_reckon_126 : decode cX4_reckon 126 = .ok (.ireturn, 1) := by decide +kernel
theorem dX4_reckon_127 : decode cX4_reckon 127 = .ok (.iload_n 1, 1) := by decide +kernel
theorem dX4_reckon_128 : decode cX4_reckon 128 = .ok (.iload_n 2, 1) := by decide +kernel
theorem dX4_reckon_129 : decode cX4_reckon 129 = .ok (.if_icmp .ne 7, 3) := by decide +kernel
theorem dX4_reckon_132 : decode cX4_reckon 132 = .ok (.iconst 1, 1) := by decide +kernel
theorem dX4_reckon_133 : decode cX4_reckon 133 = .ok (.goto 4, 3) := by decide +kernel
theorem dX4_reckon_136 : decode cX4_reckon 136 = .ok (.iconst 0, 1) := by decide +kernel
theorem dX4_reckon_137 : decode cX4_reckon 137 = .ok (.ireturn, 1) := by decide +kernel
theorem dX4_reckon_138 : decode cX4_reckon 138 = .ok (.iload_n 1, 1) := by decide +kernel
theorem dX4_reckon_139 : decode cX4_reckon 139 = .ok (.iload_n 2, 1) := by decide +kernel
theorem dX4_reckon_140 : decode cX4_reckon 140 = .ok (.if_icmp .le 7, 3) := by decide +kernel
theorem dX4_reckon_143 : decode cX4_reckon 143 = .ok (.iconst 1, 1) := by decide +kernel
theorem dX4_reckon_144 : decode cX4_reckon 144 = .ok (.goto 4, 3) := by decide +kernel
theorem dX4_reckon_147 : decode cX4_reckon 147 = .ok (.iconst 0, 1) := by decide +kernel
theorem dX4_reckon_148 : decode cX4_reckon 148 = .ok (.ireturn, 1) := by decide +kernel
theorem dX4_reckon_149 : decode cX4_reckon 149 = .ok (.iload_n 1, 1) := by decide +kernel
theorem dX4_reckon_150 : decode cX4_reckon 150 = .ok (.iload_n 2, 1) := by decide +kernel
theorem dX4_reckon_151 : decode cX4_reckon 151 = .ok (.iadd, 1) := by decide +kernel
theorem dX4_reckon_152 : decode cX4_reckon 152 = .ok (.ireturn, 1) := by decide +kernel
theorem dX4_reckon_153 : decode cX4_reckon 153 = .ok (.iload_n 1, 1) := by decide +kernel
theorem dX4_reckon_154 : decode cX4_reckon 154 = .ok (.iload_n 2, 1) := by decide +kernel
theorem dX4_reckon_155 : decode cX4_reckon 155 = .ok (.isub, 1) := by decide +kernel
theorem dX4_reckon_156 : decode cX4_reckon 156 = .ok (.ireturn, 1) := by decide +kernel
theorem dX4_reckon_157 : decode cX4_reckon 157 = .ok (.iload_n 1, 1) := by decide +kernel
theorem dX4_reckon_158 : decode cX4_reckon 158 = .ok (.iload_n 2, 1) := by decide +kernel
theorem dX4_reckon_159 : decode cX4_reckon 159 = .ok (.imul, 1) := by decide +kernel
theorem dX4_reckon_160 : decode cX4_reckon 160 = .ok (.ireturn, 1) := by decide +kernel
theorem dX4_reckon_161 : decode cX4_reckon 161 = .ok (.iload_n 2, 1) := by decide +kernel
theorem dX4_reckon_162 : decode cX4_reckon 162 = .ok (.ifCond .ne 7, 3) := by decide +kernel
theorem dX4_reckon_165 : decode cX4_reckon 165 = .ok (.iconst 0, 1) := by decide +kernel
theorem dX4_reckon_166 : decode cX4_reckon 166 = .ok (.goto 6, 3) := by decide +kernel
theorem dX4_reckon_169 : decode cX4_reckon 169 = .ok (.iload_n 1, 1) := by decide +kernel
theorem dX4_reckon_170 : decode cX4_reckon 170 = .ok (.iload_n 2, 1) := by decide +kernel
theorem dX4_reckon_171 : decode cX4_reckon 171 = .ok (.idiv, 1) := by decide +kernel
theorem dX4_reckon_172 : decode cX4_reckon 172 = .ok (.ireturn, 1) := by decide +kernel
set_option maxRecDepth 20000 in
theorem wX4_reckon {p : Program} {l : Launch} {e : Env} {s : State} {m : MethodId} {args : Array Value} {below : List Frame} {meth : Method} {c : Code} {Z : XG} {r : Int32} {S' : Mem} (E : XE p s m args meth c cX4_reckon 3 RX4 (some .int) xL Z) : ∀ (S : Mem) (x0 x1 x2 : Int32), fX4_reckon  S x0 x1 x2 = some (r, S') → WN p l e { frames := 0, cells := 0, slots := 0, locals := 0 } s m args below meth c xL Z (XQ xL Z r S') S 0 3 [(0, .int x0), (1, .int x1), (2, .int x2)] [] := by
  obtain ⟨hx, hb, -, -, -, -, -, -, -, hQ⟩ := id E
  intro S x0 x1 x2 h H locs ls X hl
  unfold fX4_reckon at h
  refine lv_iload_n hx hb dX4_reckon_0 rfl (lv_at hl 0 rfl) ?_
  by_cases c_1 : x0 = (5 : Int32)
  · have h := if_t c_1 h
    refine lv_tableIn (off := 107) (tgt := 108) hx hb dX4_reckon_1 (by rw [c_1]; decide) (by rw [c_1]; decide) (by rw [c_1]; decide) (by decide) ?_
    refine lv_iload_n hx hb dX4_reckon_108 rfl (lv_at hl 1 rfl) ?_
    refine lv_iload_n hx hb dX4_reckon_109 rfl (lv_at hl 2 rfl) ?_
    refine lv_ior hx hb dX4_reckon_110 ?_
    exact x_iret E X h dX4_reckon_111
  replace h := if_f c_1 h
  by_cases c_2 : x0 = (6 : Int32)
  · have h := if_t c_2 h
    refine lv_tableIn (off := 111) (tgt := 112) hx hb dX4_reckon_1 (by rw [c_2]; decide) (by rw [c_2]; decide) (by rw [c_2]; decide) (by decide) ?_
    refine lv_iload_n hx hb dX4_reckon_112 rfl (lv_at hl 1 rfl) ?_
    refine lv_iload_n hx hb dX4_reckon_113 rfl (lv_at hl 2 rfl) ?_
    refine lv_iand hx hb dX4_reckon_114 ?_
    exact x_iret E X h dX4_reckon_115
  replace h := if_f c_2 h
  by_cases c_3 : x0 = (19 : Int32)
  · have h := if_t c_3 h
    refine lv_tableIn (off := 148) (tgt := 149) hx hb dX4_reckon_1 (by rw [c_3]; decide) (by rw [c_3]; decide) (by rw [c_3]; decide) (by decide) ?_
    refine lv_iload_n hx hb dX4_reckon_149 rfl (lv_at hl 1 rfl) ?_
    refine lv_iload_n hx hb dX4_reckon_150 rfl (lv_at hl 2 rfl) ?_
    refine lv_iadd hx hb dX4_reckon_151 ?_
    exact x_iret E X h dX4_reckon_152
  replace h := if_f c_3 h
  by_cases c_4 : x0 = (20 : Int32)
  · have h := if_t c_4 h
    refine lv_tableIn (off := 152) (tgt := 153) hx hb dX4_reckon_1 (by rw [c_4]; decide) (by rw [c_4]; decide) (by rw [c_4]; decide) (by decide) ?_
    refine lv_iload_n hx hb dX4_reckon_153 rfl (lv_at hl 1 rfl) ?_
    refine lv_iload_n hx hb dX4_reckon_154 rfl (lv_at hl 2 rfl) ?_
    refine lv_isub hx hb dX4_reckon_155 ?_
    exact x_iret E X h dX4_reckon_156
  replace h := if_f c_4 h
  by_cases c_5 : x0 = (21 : Int32)
  · have h := if_t c_5 h
    refine lv_tableIn (off := 156) (tgt := 157) hx hb dX4_reckon_1 (by rw [c_5]; decide) (by rw [c_5]; decide) (by rw [c_5]; decide) (by decide) ?_
    refine lv_iload_n hx hb dX4_reckon_157 rfl (lv_at hl 1 rfl) ?_
    refine lv_iload_n hx hb dX4_reckon_158 rfl (lv_at hl 2 rfl) ?_
    refine lv_imul hx hb dX4_reckon_159 ?_
    exact x_iret E X h dX4_reckon_160
  replace h := if_f c_5 h
  by_cases c_6 : x0 = (25 : Int32)
  · have h := if_t c_6 h
    refine lv_tableIn (off := 115) (tgt := 116) hx hb dX4_reckon_1 (by rw [c_6]; decide) (by rw [c_6]; decide) (by rw [c_6]; decide) (by decide) ?_
    refine lv_iload_n hx hb dX4_reckon_116 rfl (lv_at hl 1 rfl) ?_
    refine lv_iload_n hx hb dX4_reckon_117 rfl (lv_at hl 2 rfl) ?_
    refine lv_icmp_ge (tgt := 125) hx hb dX4_reckon_118 (by decide) (fun c_7 => ?_) (fun c_7 => ?_)
    · have h := if_t c_7 h
      refine lv_iconst (v := (0 : Int32)) hx hb dX4_reckon_125 (by decide) ?_
      exact x_iret E X h dX4_reckon_126
    · have h := if_f c_7 h
      refine lv_iconst (v := (1 : Int32)) hx hb dX4_reckon_121 (by decide) ?_
      refine lv_goto (tgt := 126) hx hb dX4_reckon_122 (by decide) ?_
      exact x_iret E X h dX4_reckon_126
  replace h := if_f c_6 h
  by_cases c_8 : x0 = (26 : Int32)
  · have h := if_t c_8 h
    refine lv_tableIn (off := 126) (tgt := 127) hx hb dX4_reckon_1 (by rw [c_8]; decide) (by rw [c_8]; decide) (by rw [c_8]; decide) (by decide) ?_
    refine lv_iload_n hx hb dX4_reckon_127 rfl (lv_at hl 1 rfl) ?_
    refine lv_iload_n hx hb dX4_reckon_128 rfl (lv_at hl 2 rfl) ?_
    refine lv_icmp_ne (tgt := 136) hx hb dX4_reckon_129 (by decide) (fun c_9 => ?_) (fun c_9 => ?_)
    · have h := if_f c_9 h
      refine lv_iconst (v := (0 : Int32)) hx hb dX4_reckon_136 (by decide) ?_
      exact x_iret E X h dX4_reckon_137
    · have h := if_t c_9 h
      refine lv_iconst (v := (1 : Int32)) hx hb dX4_reckon_132 (by decide) ?_
      refine lv_goto (tgt := 137) hx hb dX4_reckon_133 (by decide) ?_
      exact x_iret E X h dX4_reckon_137
  replace h := if_f c_8 h
  by_cases c_10 : x0 = (27 : Int32)
  · have h := if_t c_10 h
    refine lv_tableIn (off := 137) (tgt := 138) hx hb dX4_reckon_1 (by rw [c_10]; decide) (by rw [c_10]; decide) (by rw [c_10]; decide) (by decide) ?_
    refine lv_iload_n hx hb dX4_reckon_138 rfl (lv_at hl 1 rfl) ?_
    refine lv_iload_n hx hb dX4_reckon_139 rfl (lv_at hl 2 rfl) ?_
    refine lv_icmp_le (tgt := 147) hx hb dX4_reckon_140 (by decide) (fun c_11 => ?_) (fun c_11 => ?_)
    · have h := if_t c_11 h
      refine lv_iconst (v := (0 : Int32)) hx hb dX4_reckon_147 (by decide) ?_
      exact x_iret E X h dX4_reckon_148
    · have h := if_f c_11 h
      refine lv_iconst (v := (1 : Int32)) hx hb dX4_reckon_143 (by decide) ?_
      refine lv_goto (tgt := 148) hx hb dX4_reckon_144 (by decide) ?_
      exact x_iret E X h dX4_reckon_148
  replace h := if_f c_10 h
  refine lv_tableD (tgt := 161) hx hb dX4_reckon_1 (by decide +kernel) (fun i hi q_12 => ?_) ?_
  · match i, hi, q_12 with
    | 0, _, q_12 => exact absurd (tbl_eq q_12 (by decide)) c_1
    | 1, _, q_12 => exact absurd (tbl_eq q_12 (by decide)) c_2
    | 2, _, _ => rfl
    | 3, _, _ => rfl
    | 4, _, _ => rfl
    | 5, _, _ => rfl
    | 6, _, _ => rfl
    | 7, _, _ => rfl
    | 8, _, _ => rfl
    | 9, _, _ => rfl
    | 10, _, _ => rfl
    | 11, _, _ => rfl
    | 12, _, _ => rfl
    | 13, _, _ => rfl
    | 14, _, q_12 => exact absurd (tbl_eq q_12 (by decide)) c_3
    | 15, _, q_12 => exact absurd (tbl_eq q_12 (by decide)) c_4
    | 16, _, q_12 => exact absurd (tbl_eq q_12 (by decide)) c_5
    | 17, _, _ => rfl
    | 18, _, _ => rfl
    | 19, _, _ => rfl
    | 20, _, q_12 => exact absurd (tbl_eq q_12 (by decide)) c_6
    | 21, _, q_12 => exact absurd (tbl_eq q_12 (by decide)) c_8
    | 22, _, q_12 => exact absurd (tbl_eq q_12 (by decide)) c_10
    | i + 23, hi, _ => exact absurd hi (by simp)
  refine lv_iload_n hx hb dX4_reckon_161 rfl (lv_at hl 2 rfl) ?_
  refine lv_if_ne (tgt := 169) hx hb dX4_reckon_162 (by decide) (fun c_13 => ?_) (fun c_13 => ?_)
  · have h := if_f c_13 h
    refine lv_iload_n hx hb dX4_reckon_169 rfl (lv_at hl 1 rfl) ?_
    refine lv_iload_n hx hb dX4_reckon_170 rfl (lv_at hl 2 rfl) ?_
    obtain ⟨g_14, h⟩ := gd_s h
    refine lv_idiv hx hb dX4_reckon_171 (of_decide_eq_true g_14) ?_
    exact x_iret E X h dX4_reckon_172
  · have h := if_t c_13 h
    refine lv_iconst (v := (0 : Int32)) hx hb dX4_reckon_165 (by decide) ?_
    refine lv_goto (tgt := 172) hx hb dX4_reckon_166 (by decide) ?_
    exact x_iret E X h dX4_reckon_172
/-- SevenToAShadow$Rules.reckon(III)I -/
theorem mX4_reckon (l : Launch) (Z : XG) (hQ : wQ (List.length xL) Z) {S S' : Mem} {r : Int32} (x0 x1 x2 : Int32) (h : fX4_reckon S x0 x1 x2 = some (r, S')) : XM l yX4_reckon cX4_reckon 3 (some .int) { frames := 0, cells := 0, slots := 0, locals := 0 } xL Z [.int x0, .int x1, .int x2] S (XQ xL Z r S') := by
  refine XM.of (own := RX4) (by decide +kernel) rfl rfl hQ (fun p e s m args below meth c E ls hl X => ?_)
  exact wX4_reckon E S x0 x1 x2 h _ _ _ X hl
def fX4_takeCode_8_31_80 (S : Mem) (x1 x2 : Int32) : O := (if (2 : Int32) ≤ x2 then gd (inB (x2 - (2 : Int32)) 40) <| gd (inB (x2 - (1 : Int32)) 40) <| bnd (fX4_reckon S x1 (S 12 ((x2 - (2 : Int32))).toNatClampNeg) (S 12 ((x2 - (1 : Int32))).toNatClampNeg)) fun r_4 S_5 => gd (inB (x2 - (2 : Int32)) 40) <| ltm (mset S_5 12 ((x2 - (2 : Int32))).toNatClampNeg r_4) fun S_7 => some ((x2 - (1 : Int32)), S_7) else some (x2, S))
def fX4_takeCode_8_31_49 (S : Mem) (x1 x2 : Int32) : O := (if x1 = (7 : Int32) then (if x2 < (1 : Int32) then fX4_takeCode_8_31_80  S x1 x2 else gd (inB (x2 - (1 : Int32)) 40) <| gd (inB (x2 - (1 : Int32)) 40) <| ltm (mset S 12 ((x2 - (1 : Int32))).toNatClampNeg ((1 : Int32) - (S 12 ((x2 - (1 : Int32))).toNatClampNeg))) fun S_5 => some (x2, S_5)) else fX4_takeCode_8_31_80  S x1 x2)
def fX4_takeCode_8_31 (S : Mem) (x1 x2 : Int32) : O := (if x1 < (100 : Int32) then (if x1 < (8 : Int32) then fX4_takeCode_8_31_49  S x1 x2 else (if (17 : Int32) < x1 then fX4_takeCode_8_31_49  S x1 x2 else (if (10 : Int32) ≤ (x1 - (8 : Int32)) then fX4_takeCode_8_31_49  S x1 x2 else gd (inB (x1 - (8 : Int32)) 10) <| bnd (fX4_push_8 S (S 31 ((x1 - (8 : Int32))).toNatClampNeg) x2) fun r_6 S_7 => some (r_6, S_7)))) else bnd (fX4_push_8 S (x1 - (100 : Int32)) x2) fun r_8 S_9 => some (r_8, S_9))
theorem dX4_takeCode_0 : decode cX4_takeCode 0 = .ok (.iload_n 1, 1) := by decide +kernel
theorem dX4_takeCode_1 : decode cX4_takeCode 1 = .ok (.bipush 100, 2) := by decide +kernel
theorem dX4_takeCode_3 : decode cX4_takeCode 3 = .ok (.if_icmp .lt 13, 3) := by decide +kernel
theorem dX4_takeCode_6 : decode cX4_takeCode 6 = .ok (.aload_n 0, 1) := by decide +kernel
theorem dX4_takeCode_7 : decode cX4_takeCode 7 = .ok (.iload_n 1, 1) := by decide +kernel
theorem dX4_takeCode_8 : decode cX4_takeCode 8 = .ok (.bipush 100, 2) := by decide +kernel
theorem dX4_takeCode_10 : decode cX4_takeCode 10 = .ok (.isub, 1) := by decide +kernel
theorem dX4_takeCode_11 : decode cX4_takeCode 11 = .ok (.iload_n 2, 1) := by decide +kernel
theorem dX4_takeCode_12 : decode cX4_takeCode 12 = .ok (.invokevirtual 51, 3) := by decide +kernel
theorem dX4_takeCode_15 : decode cX4_takeCode 15 = .ok (.ireturn, 1) := by decide +kernel
theorem dX4_takeCode_16 : decode cX4_takeCode 16 = .ok (.iload_n 1, 1) := by decide +kernel
theorem dX4_takeCode_17 : decode cX4_takeCode 17 = .ok (.bipush 8, 2) := by decide +kernel
theorem dX4_takeCode_19 : decode cX4_takeCode 19 = .ok (.if_icmp .lt 30, 3) := by decide +kernel
theorem dX4_takeCode_22 : decode cX4_takeCode 22 = .ok (.iload_n 1, 1) := by decide +kernel
theorem dX4_takeCode_23 : decode cX4_takeCode 23 = .ok (.bipush 17, 2) := by decide +kernel
theorem dX4_takeCode_25 : decode cX4_takeCode 25 = .ok (.if_icmp .gt 24, 3) := by decide +kernel
theorem dX4_takeCode_28 : decode cX4_takeCode 28 = .ok (.iload_n 1, 1) := by decide +kernel
theorem dX4_takeCode_29 : decode cX4_takeCode 29 = .ok (.bipush 8, 2) := by decide +kernel
theorem dX4_takeCode_31 : decode cX4_takeCode 31 = .ok (.isub, 1) := by decide +kernel
theorem dX4_takeCode_32 : decode cX4_takeCode 32 = .ok (.aload_n 3, 1) := by decide +kernel
theorem dX4_takeCode_33 : decode cX4_takeCode 33 = .ok (.arraylength, 1) := by decide +kernel
theorem dX4_takeCode_34 : decode cX4_takeCode 34 = .ok (.if_icmp .ge 15, 3) := by decide +kernel
theorem dX4_takeCode_37 : decode cX4_takeCode 37 = .ok (.aload_n 0, 1) := by decide +kernel
theorem dX4_takeCode_38 : decode cX4_takeCode 38 = .ok (.aload_n 3, 1) := by decide +kernel
theorem dX4_takeCode_39 : decode cX4_takeCode 39 = .ok (.iload_n 1, 1) := by decide +kernel
theorem dX4_takeCode_40 : decode cX4_takeCode 40 = .ok (.bipush 8, 2) := by decide +kernel
theorem dX4_takeCode_42 : decode cX4_takeCode 42 = .ok (.isub, 1) := by decide +kernel
theorem dX4_takeCode_43 : decode cX4_takeCode 43 = .ok (.iaload, 1) := by decide +kernel
theorem dX4_takeCode_44 : decode cX4_takeCode 44 = .ok (.iload_n 2, 1) := by decide +kernel
theorem dX4_takeCode_45 : decode cX4_takeCode 45 = .ok (.invokevirtual 51, 3) := by decide +kernel
theorem dX4_takeCode_48 : decode cX4_takeCode 48 = .ok (.ireturn, 1) := by decide +kernel
theorem dX4_takeCode_49 : decode cX4_takeCode 49 = .ok (.iload_n 1, 1) := by decide +kernel
theorem dX4_takeCode_50 : decode cX4_takeCode 50 = .ok (.bipush 7, 2) := by decide +kernel
theorem dX4_takeCode_52 : decode cX4_takeCode 52 = .ok (.if_icmp .ne 28, 3) := by decide +kernel
theorem dX4_takeCode_55 : decode cX4_takeCode 55 = .ok (.iload_n 2, 1) := by decide +kernel
theorem dX4_takeCode_56 : decode cX4_takeCode 56 = .ok (.iconst 1, 1) := by decide +kernel
theorem dX4_takeCode_57 : decode cX4_takeCode 57 = .ok (.if_icmp .lt 23, 3) := by decide +kernel
theorem dX4_takeCode_60 : decode cX4_takeCode 60 = .ok (.aload_n 0, 1) := by decide +kernel
theorem dX4_takeCode_61 : decode cX4_takeCode 61 = .ok (.getfield 21, 3) := by decide +kernel
theorem dX4_takeCode_64 : decode cX4_takeCode 64 = .ok (.iload_n 2, 1) := by decide +kernel
theorem dX4_takeCode_65 : decode cX4_takeCode 65 = .ok (.iconst 1, 1) := by decide +kernel
theorem dX4_takeCode_66 : decode cX4_takeCode 66 = .ok (.isub, 1) := by decide +kernel
theorem dX4_takeCode_67 : decode cX4_takeCode 67 = .ok (.iconst 1, 1) := by decide +kernel
theorem dX4_takeCode_68 : decode cX4_takeCode 68 = .ok (.aload_n 0, 1) := by decide +kernel
theorem dX4_takeCode_69 : decode cX4_takeCode 69 = .ok (.getfield 21, 3) := by decide +kernel
theorem dX4_takeCode_72 : decode cX4_takeCode 72 = .ok (.iload_n 2, 1) := by decide +kernel
theorem dX4_takeCode_73 : decode cX4_takeCode 73 = .ok (.iconst 1, 1) := by decide +kernel
theorem dX4_takeCode_74 : decode cX4_takeCode 74 = .ok (.isub, 1) := by decide +kernel
theorem dX4_takeCode_75 : decode cX4_takeCode 75 = .ok (.iaload, 1) := by decide +kernel
theorem dX4_takeCode_76 : decode cX4_takeCode 76 = .ok (.isub, 1) := by decide +kernel
theorem dX4_takeCode_77 : decode cX4_takeCode 77 = .ok (.iastore, 1) := by decide +kernel
theorem dX4_takeCode_78 : decode cX4_takeCode 78 = .ok (.iload_n 2, 1) := by decide +kernel
theorem dX4_takeCode_79 : decode cX4_takeCode 79 = .ok (.ireturn, 1) := by decide +kernel
theorem dX4_takeCode_80 : decode cX4_takeCode 80 = .ok (.iload_n 2, 1) := by decide +kernel
theorem dX4_takeCode_81 : decode cX4_takeCode 81 = .ok (.iconst 2, 1) := by decide +kernel
theorem dX4_takeCode_82 : decode cX4_takeCode 82 = .ok (.if_icmp .ge 5, 3) := by decide +kernel
theorem dX4_takeCode_85 : decode cX4_takeCode 85 = .ok (.iload_n 2, 1) := by decide +kernel
theorem dX4_takeCode_86 : decode cX4_takeCode 86 = .ok (.ireturn, 1) := by decide +kernel
theorem dX4_takeCode_87 : decode cX4_takeCode 87 = .ok (.aload_n 0, 1) := by decide +kernel
theorem dX4_takeCode_88 : decode cX4_takeCode 88 = .ok (.getfield 21, 3) := by decide +kernel
theorem dX4_takeCode_91 : decode cX4_takeCode 91 = .ok (.iload_n 2, 1) := by decide +kernel
theorem dX4_takeCode_92 : decode cX4_takeCode 92 = .ok (.iconst 2, 1) := by decide +kernel
theorem dX4_takeCode_93 : decode cX4_takeCode 93 = .ok (.isub, 1) := by decide +kernel
theorem dX4_takeCode_94 : decode cX4_takeCode 94 = .ok (.iload_n 1, 1) := by decide +kernel
theorem dX4_takeCode_95 : decode cX4_takeCode 95 = .ok (.aload_n 0, 1) := by decide +kernel
theorem dX4_takeCode_96 : decode cX4_takeCode 96 = .ok (.getfield 21, 3) := by decide +kernel
theorem dX4_takeCode_99 : decode cX4_takeCode 99 = .ok (.iload_n 2, 1) := by decide +kernel
theorem dX4_takeCode_100 : decode cX4_takeCode 100 = .ok (.iconst 2, 1) := by decide +kernel
theorem dX4_takeCode_101 : decode cX4_takeCode 101 = .ok (.isub, 1) := by decide +kernel
theorem dX4_takeCode_102 : decode cX4_takeCode 102 = .ok (.iaload, 1) := by decide +kernel
theorem dX4_takeCode_103 : decode cX4_takeCode 103 = .ok (.aload_n 0, 1) := by decide +kernel
theorem dX4_takeCode_104 : decode cX4_takeCode 104 = .ok (.getfield 21, 3) := by decide +kernel
theorem dX4_takeCode_107 : decode cX4_takeCode 107 = .ok (.iload_n 2, 1) := by decide +kernel
theorem dX4_takeCode_108 : decode cX4_takeCode 108 = .ok (.iconst 1, 1) := by decide +kernel
theorem dX4_takeCode_109 : decode cX4_takeCode 109 = .ok (.isub, 1) := by decide +kernel
theorem dX4_takeCode_110 : decode cX4_takeCode 110 = .ok (.iaload, 1) := by decide +kernel
theorem dX4_takeCode_111 : decode cX4_takeCode 111 = .ok (.invokestatic 54, 3) := by decide +kernel
theorem dX4_takeCode_114 : decode cX4_takeCode 114 = .ok (.iastore, 1) := by decide +kernel
theorem dX4_takeCode_115 : decode cX4_takeCode 115 = .ok (.iload_n 2, 1) := by decide +kernel
theorem dX4_takeCode_116 : decode cX4_takeCode 116 = .ok (.iconst 1, 1) := by decide +kernel
theorem dX4_takeCode_117 : decode cX4_takeCode 117 = .ok (.isub, 1) := by decide +kernel
theorem dX4_takeCode_118 : decode cX4_takeCode 118 = .ok (.ireturn, 1) := by decide +kernel
set_option maxRecDepth 20000 in
theorem wX4_takeCode_8_31_80 {p : Program} {l : Launch} {e : Env} {s : State} {m : MethodId} {args : Array Value} {below : List Frame} {meth : Method} {c : Code} {Z : XG} {r : Int32} {S' : Mem} (E : XE p s m args meth c cX4_takeCode 4 RX4 (some .int) xL Z) : ∀ (S : Mem) (x1 x2 : Int32), fX4_takeCode_8_31_80  S x1 x2 = some (r, S') → WN p l e { frames := 1, cells := 0, slots := 0, locals := 22 } s m args below meth c xL Z (XQ xL Z r S') S 80 4 [(0, .ref (Z.2.1 8)), (1, .int x1), (2, .int x2)] [] := by
  obtain ⟨hx, hb, -, -, -, -, -, -, -, hQ⟩ := id E
  intro S x1 x2 h H locs ls X hl
  unfold fX4_takeCode_8_31_80 at h
  refine lv_iload_n hx hb dX4_takeCode_80 rfl (lv_at hl 2 rfl) ?_
  refine lv_iconst (v := (2 : Int32)) hx hb dX4_takeCode_81 (by decide) ?_
  refine lv_icmp_ge (tgt := 87) hx hb dX4_takeCode_82 (by decide) (fun c_1 => ?_) (fun c_1 => ?_)
  · have h := if_t c_1 h
    refine lv_aload_n hx hb dX4_takeCode_87 rfl (lv_at hl 0 rfl) ?_
    refine x_getr E X ffX4_21 rfl rfl dX4_takeCode_88 ?_
    refine lv_iload_n hx hb dX4_takeCode_91 rfl (lv_at hl 2 rfl) ?_
    refine lv_iconst (v := (2 : Int32)) hx hb dX4_takeCode_92 (by decide) ?_
    refine lv_isub hx hb dX4_takeCode_93 ?_
    refine lv_iload_n hx hb dX4_takeCode_94 rfl (lv_at hl 1 rfl) ?_
    refine lv_aload_n hx hb dX4_takeCode_95 rfl (lv_at hl 0 rfl) ?_
    refine x_getr E X ffX4_21 rfl rfl dX4_takeCode_96 ?_
    refine lv_iload_n hx hb dX4_takeCode_99 rfl (lv_at hl 2 rfl) ?_
    refine lv_iconst (v := (2 : Int32)) hx hb dX4_takeCode_100 (by decide) ?_
    refine lv_isub hx hb dX4_takeCode_101 ?_
    obtain ⟨g_2, h⟩ := gd_s h
    refine x_iald E X rfl g_2 dX4_takeCode_102 ?_
    refine lv_aload_n hx hb dX4_takeCode_103 rfl (lv_at hl 0 rfl) ?_
    refine x_getr E X ffX4_21 rfl rfl dX4_takeCode_104 ?_
    refine lv_iload_n hx hb dX4_takeCode_107 rfl (lv_at hl 2 rfl) ?_
    refine lv_iconst (v := (1 : Int32)) hx hb dX4_takeCode_108 (by decide) ?_
    refine lv_isub hx hb dX4_takeCode_109 ?_
    obtain ⟨g_3, h⟩ := gd_s h
    refine x_iald E X rfl g_3 dX4_takeCode_110 ?_
    obtain ⟨r_4, S_5, hr_4, h⟩ := bnd_s h
    refine x_callS E X cwX4_54 (mX4_reckon l Z hQ  x1 (S 12 ((x2 - (2 : Int32))).toNatClampNeg) (S 12 ((x2 - (1 : Int32))).toNatClampNeg) hr_4) rfl rfl hl.1 rfl dX4_takeCode_111 (fun H locs X => ?_)
    obtain ⟨g_6, h⟩ := gd_s h
    obtain ⟨S_7, eS_7, h⟩ := ltm_s h
    refine x_iast E X rfl g_6 dX4_takeCode_114 (fun H locs X => ?_)
    rw [← eS_7] at X
    refine lv_iload_n hx hb dX4_takeCode_115 rfl (lv_at hl 2 rfl) ?_
    refine lv_iconst (v := (1 : Int32)) hx hb dX4_takeCode_116 (by decide) ?_
    refine lv_isub hx hb dX4_takeCode_117 ?_
    exact x_iret E X h dX4_takeCode_118
  · have h := if_f c_1 h
    refine lv_iload_n hx hb dX4_takeCode_85 rfl (lv_at hl 2 rfl) ?_
    exact x_iret E X h dX4_takeCode_86
set_option maxRecDepth 20000 in
theorem wX4_takeCode_8_31_49 {p : Program} {l : Launch} {e : Env} {s : State} {m : MethodId} {args : Array Value} {below : List Frame} {meth : Method} {c : Code} {Z : XG} {r : Int32} {S' : Mem} (E : XE p s m args meth c cX4_takeCode 4 RX4 (some .int) xL Z) : ∀ (S : Mem) (x1 x2 : Int32), fX4_takeCode_8_31_49  S x1 x2 = some (r, S') → WN p l e { frames := 1, cells := 0, slots := 0, locals := 22 } s m args below meth c xL Z (XQ xL Z r S') S 49 4 [(0, .ref (Z.2.1 8)), (1, .int x1), (2, .int x2)] [] := by
  obtain ⟨hx, hb, -, -, -, -, -, -, -, hQ⟩ := id E
  intro S x1 x2 h H locs ls X hl
  unfold fX4_takeCode_8_31_49 at h
  refine lv_iload_n hx hb dX4_takeCode_49 rfl (lv_at hl 1 rfl) ?_
  refine lv_bipush (v := (7 : Int32)) hx hb dX4_takeCode_50 (by decide) ?_
  refine lv_icmp_ne (tgt := 80) hx hb dX4_takeCode_52 (by decide) (fun c_1 => ?_) (fun c_1 => ?_)
  · have h := if_f c_1 h
    exact wX4_takeCode_8_31_80 E   S x1 x2 h _ _ _ X hl
  · have h := if_t c_1 h
    refine lv_iload_n hx hb dX4_takeCode_55 rfl (lv_at hl 2 rfl) ?_
    refine lv_iconst (v := (1 : Int32)) hx hb dX4_takeCode_56 (by decide) ?_
    refine lv_icmp_lt (tgt := 80) hx hb dX4_takeCode_57 (by decide) (fun c_2 => ?_) (fun c_2 => ?_)
    · have h := if_t c_2 h
      exact wX4_takeCode_8_31_80 E   S x1 x2 h _ _ _ X hl
    · have h := if_f c_2 h
      refine lv_aload_n hx hb dX4_takeCode_60 rfl (lv_at hl 0 rfl) ?_
      refine x_getr E X ffX4_21 rfl rfl dX4_takeCode_61 ?_
      refine lv_iload_n hx hb dX4_takeCode_64 rfl (lv_at hl 2 rfl) ?_
      refine lv_iconst (v := (1 : Int32)) hx hb dX4_takeCode_65 (by decide) ?_
      refine lv_isub hx hb dX4_takeCode_66 ?_
      refine lv_iconst (v := (1 : Int32)) hx hb dX4_takeCode_67 (by decide) ?_
      refine lv_aload_n hx hb dX4_takeCode_68 rfl (lv_at hl 0 rfl) ?_
      refine x_getr E X ffX4_21 rfl rfl dX4_takeCode_69 ?_
      refine lv_iload_n hx hb dX4_takeCode_72 rfl (lv_at hl 2 rfl) ?_
      refine lv_iconst (v := (1 : Int32)) hx hb dX4_takeCode_73 (by decide) ?_
      refine lv_isub hx hb dX4_takeCode_74 ?_
      obtain ⟨g_3, h⟩ := gd_s h
      refine x_iald E X rfl g_3 dX4_takeCode_75 ?_
      refine lv_isub hx hb dX4_takeCode_76 ?_
      obtain ⟨g_4, h⟩ := gd_s h
      obtain ⟨S_5, eS_5, h⟩ := ltm_s h
      refine x_iast E X rfl g_4 dX4_takeCode_77 (fun H locs X => ?_)
      rw [← eS_5] at X
      refine lv_iload_n hx hb dX4_takeCode_78 rfl (lv_at hl 2 rfl) ?_
      exact x_iret E X h dX4_takeCode_79
set_option maxRecDepth 20000 in
theorem wX4_takeCode_8_31 {p : Program} {l : Launch} {e : Env} {s : State} {m : MethodId} {args : Array Value} {below : List Frame} {meth : Method} {c : Code} {Z : XG} {r : Int32} {S' : Mem} (E : XE p s m args meth c cX4_takeCode 4 RX4 (some .int) xL Z) : ∀ (S : Mem) (x1 x2 : Int32), fX4_takeCode_8_31  S x1 x2 = some (r, S') → WN p l e { frames := 1, cells := 0, slots := 0, locals := 22 } s m args below meth c xL Z (XQ xL Z r S') S 0 4 [(0, .ref (Z.2.1 8)), (1, .int x1), (2, .int x2), (3, .ref (Z.2.1 31))] [] := by
  obtain ⟨hx, hb, -, -, -, -, -, -, -, hQ⟩ := id E
  intro S x1 x2 h H locs ls X hl
  unfold fX4_takeCode_8_31 at h
  refine lv_iload_n hx hb dX4_takeCode_0 rfl (lv_at hl 1 rfl) ?_
  refine lv_bipush (v := (100 : Int32)) hx hb dX4_takeCode_1 (by decide) ?_
  refine lv_icmp_lt (tgt := 16) hx hb dX4_takeCode_3 (by decide) (fun c_1 => ?_) (fun c_1 => ?_)
  · have h := if_t c_1 h
    refine lv_iload_n hx hb dX4_takeCode_16 rfl (lv_at hl 1 rfl) ?_
    refine lv_bipush (v := (8 : Int32)) hx hb dX4_takeCode_17 (by decide) ?_
    refine lv_icmp_lt (tgt := 49) hx hb dX4_takeCode_19 (by decide) (fun c_2 => ?_) (fun c_2 => ?_)
    · have h := if_t c_2 h
      exact wX4_takeCode_8_31_49 E   S x1 x2 h _ _ _ X (lv_sub hl [0, 1, 2] rfl)
    · have h := if_f c_2 h
      refine lv_iload_n hx hb dX4_takeCode_22 rfl (lv_at hl 1 rfl) ?_
      refine lv_bipush (v := (17 : Int32)) hx hb dX4_takeCode_23 (by decide) ?_
      refine lv_icmp_gt (tgt := 49) hx hb dX4_takeCode_25 (by decide) (fun c_3 => ?_) (fun c_3 => ?_)
      · have h := if_t c_3 h
        exact wX4_takeCode_8_31_49 E   S x1 x2 h _ _ _ X (lv_sub hl [0, 1, 2] rfl)
      · have h := if_f c_3 h
        refine lv_iload_n hx hb dX4_takeCode_28 rfl (lv_at hl 1 rfl) ?_
        refine lv_bipush (v := (8 : Int32)) hx hb dX4_takeCode_29 (by decide) ?_
        refine lv_isub hx hb dX4_takeCode_31 ?_
        refine lv_aload_n hx hb dX4_takeCode_32 rfl (lv_at hl 3 rfl) ?_
        refine x_alen E X (v := (10 : Int32)) rfl (by decide) dX4_takeCode_33 ?_
        refine lv_icmp_ge (tgt := 49) hx hb dX4_takeCode_34 (by decide) (fun c_4 => ?_) (fun c_4 => ?_)
        · have h := if_t c_4 h
          exact wX4_takeCode_8_31_49 E   S x1 x2 h _ _ _ X (lv_sub hl [0, 1, 2] rfl)
        · have h := if_f c_4 h
          refine lv_aload_n hx hb dX4_takeCode_37 rfl (lv_at hl 0 rfl) ?_
          refine lv_aload_n hx hb dX4_takeCode_38 rfl (lv_at hl 3 rfl) ?_
          refine lv_iload_n hx hb dX4_takeCode_39 rfl (lv_at hl 1 rfl) ?_
          refine lv_bipush (v := (8 : Int32)) hx hb dX4_takeCode_40 (by decide) ?_
          refine lv_isub hx hb dX4_takeCode_42 ?_
          obtain ⟨g_5, h⟩ := gd_s h
          refine x_iald E X rfl g_5 dX4_takeCode_43 ?_
          refine lv_iload_n hx hb dX4_takeCode_44 rfl (lv_at hl 2 rfl) ?_
          obtain ⟨r_6, S_7, hr_6, h⟩ := bnd_s h
          refine x_callV E X cwX4_51 (mX4_push_8 l Z hQ  (S 31 ((x1 - (8 : Int32))).toNatClampNeg) x2 hr_6) rfl rfl rfl rfl hl.1 rfl dX4_takeCode_45 (fun H locs X => ?_)
          exact x_iret E X h dX4_takeCode_48
  · have h := if_f c_1 h
    refine lv_aload_n hx hb dX4_takeCode_6 rfl (lv_at hl 0 rfl) ?_
    refine lv_iload_n hx hb dX4_takeCode_7 rfl (lv_at hl 1 rfl) ?_
    refine lv_bipush (v := (100 : Int32)) hx hb dX4_takeCode_8 (by decide) ?_
    refine lv_isub hx hb dX4_takeCode_10 ?_
    refine lv_iload_n hx hb dX4_takeCode_11 rfl (lv_at hl 2 rfl) ?_
    obtain ⟨r_8, S_9, hr_8, h⟩ := bnd_s h
    refine x_callV E X cwX4_51 (mX4_push_8 l Z hQ  (x1 - (100 : Int32)) x2 hr_8) rfl rfl rfl rfl hl.1 rfl dX4_takeCode_12 (fun H locs X => ?_)
    exact x_iret E X h dX4_takeCode_15
/-- SevenToAShadow$Rules.takeCode(II[I)I -/
theorem mX4_takeCode_8_31 (l : Launch) (Z : XG) (hQ : wQ (List.length xL) Z) {S S' : Mem} {r : Int32} (x1 x2 : Int32) (h : fX4_takeCode_8_31 S x1 x2 = some (r, S')) : XM l yX4_takeCode cX4_takeCode 4 (some .int) { frames := 1, cells := 0, slots := 0, locals := 22 } xL Z [.ref (Z.2.1 8), .int x1, .int x2, .ref (Z.2.1 31)] S (XQ xL Z r S') := by
  refine XM.of (own := RX4) (by decide +kernel) rfl rfl hQ (fun p e s m args below meth c E ls hl X => ?_)
  exact wX4_takeCode_8_31 E S x1 x2 h _ _ _ X hl
def fX4_holds_8_31_62 (S : Mem) : O := some ((1 : Int32), S)
def fX4_holds_8_31_48 (S : Mem) (x4 : Int32) : O := (if x4 = 0 then fX4_holds_8_31_62  S  else (if (S 12 ((0 : Int32)).toNatClampNeg) = 0 then some ((0 : Int32), S) else fX4_holds_8_31_62  S ))
def fX4_holds_8_31_10_b (k0 : Mem → Int32 → Int32 → Int32 → O) (S : Mem) (x2 x4 x5 : Int32) : O := (if x2 ≤ x5 then fX4_holds_8_31_48  S x4 else (if (400 : Int32) ≤ x5 then fX4_holds_8_31_48  S x4 else gd (inB x5 400) <| bnd (fX4_takeCode_8_31 S (S 11 (x5).toNatClampNeg) x4) fun r_4 S_5 => k0 S_5 x2 r_4 (x5 + (1 : Int32))))
def fX4_holds_8_31_10 : Nat → Mem → Int32 → Int32 → Int32 → O
  | 0 => fun _ _ _ _ => none
  | n + 1 => fX4_holds_8_31_10_b (fX4_holds_8_31_10 n)
def fX4_holds_8_31 (S : Mem) (x1 x2 : Int32) : O := lti (imax (0 : Int32) x1) fun x5_1 => fX4_holds_8_31_10  FU S x2 (0 : Int32) x5_1
theorem dX4_holds_0 : decode cX4_holds 0 = .ok (.iconst 0, 1) := by decide +kernel
theorem dX4_holds_1 : decode cX4_holds 1 = .ok (.istore 4, 2) := by decide +kernel
theorem dX4_holds_3 : decode cX4_holds 3 = .ok (.iconst 0, 1) := by decide +kernel
theorem dX4_holds_4 : decode cX4_holds 4 = .ok (.iload_n 1, 1) := by decide +kernel
theorem dX4_holds_5 : decode cX4_holds 5 = .ok (.invokestatic 41, 3) := by decide +kernel
theorem dX4_holds_8 : decode cX4_holds 8 = .ok (.istore 5, 2) := by decide +kernel
theorem dX4_holds_10 : decode cX4_holds 10 = .ok (.iload 5, 2) := by decide +kernel
theorem dX4_holds_12 : decode cX4_holds 12 = .ok (.iload_n 2, 1) := by decide +kernel
theorem dX4_holds_13 : decode cX4_holds 13 = .ok (.if_icmp .ge 35, 3) := by decide +kernel
theorem dX4_holds_16 : decode cX4_holds 16 = .ok (.iload 5, 2) := by decide +kernel
theorem dX4_holds_18 : decode cX4_holds 18 = .ok (.aload_n 0, 1) := by decide +kernel
theorem dX4_holds_19 : decode cX4_holds 19 = .ok (.getfield 18, 3) := by decide +kernel
theorem dX4_holds_22 : decode cX4_holds 22 = .ok (.arraylength, 1) := by decide +kernel
theorem dX4_holds_23 : decode cX4_holds 23 = .ok (.if_icmp .ge 25, 3) := by decide +kernel
theorem dX4_holds_26 : decode cX4_holds 26 = .ok (.aload_n 0, 1) := by decide +kernel
theorem dX4_holds_27 : decode cX4_holds 27 = .ok (.aload_n 0, 1) := by decide +kernel
theorem dX4_holds_28 : decode cX4_holds 28 = .ok (.getfield 18, 3) := by decide +kernel
theorem dX4_holds_31 : decode cX4_holds 31 = .ok (.iload 5, 2) := by decide +kernel
theorem dX4_holds_33 : decode cX4_holds 33 = .ok (.iaload, 1) := by decide +kernel
theorem dX4_holds_34 : decode cX4_holds 34 = .ok (.iload 4, 2) := by decide +kernel
theorem dX4_holds_36 : decode cX4_holds 36 = .ok (.aload_n 3, 1) := by decide +kernel
theorem dX4_holds_37 : decode cX4_holds 37 = .ok (.invokevirtual 47, 3) := by decide +kernel
theorem dX4_holds_40 : decode cX4_holds 40 = .ok (.istore 4, 2) := by decide +kernel
theorem dX4_holds_42 : decode cX4_holds 42 = .ok (.iinc 5 1, 3) := by decide +kernel
theorem dX4_holds_45 : decode cX4_holds 45 = .ok (.goto (-35), 3) := by decide +kernel
theorem dX4_holds_48 : decode cX4_holds 48 = .ok (.iload 4, 2) := by decide +kernel
theorem dX4_holds_50 : decode cX4_holds 50 = .ok (.ifCond .eq 12, 3) := by decide +kernel
theorem dX4_holds_53 : decode cX4_holds 53 = .ok (.aload_n 0, 1) := by decide +kernel
theorem dX4_holds_54 : decode cX4_holds 54 = .ok (.getfield 21, 3) := by decide +kernel
theorem dX4_holds_57 : decode cX4_holds 57 = .ok (.iconst 0, 1) := by decide +kernel
theorem dX4_holds_58 : decode cX4_holds 58 = .ok (.iaload, 1) := by decide +kernel
theorem dX4_holds_59 : decode cX4_holds 59 = .ok (.ifCond .eq 7, 3) := by decide +kernel
theorem dX4_holds_62 : decode cX4_holds 62 = .ok (.iconst 1, 1) := by decide +kernel
theorem dX4_holds_63 : decode cX4_holds 63 = .ok (.goto 4, 3) := by decide +kernel
theorem dX4_holds_66 : decode cX4_holds 66 = .ok (.iconst 0, 1) := by decide +kernel
theorem dX4_holds_67 : decode cX4_holds 67 = .ok (.ireturn, 1) := by decide +kernel
set_option maxRecDepth 20000 in
theorem wX4_holds_8_31_62 {p : Program} {l : Launch} {e : Env} {s : State} {m : MethodId} {args : Array Value} {below : List Frame} {meth : Method} {c : Code} {Z : XG} {r : Int32} {S' : Mem} (E : XE p s m args meth c cX4_holds 6 RX4 (some .boolean) xL Z) : ∀ (S : Mem), fX4_holds_8_31_62  S  = some (r, S') → WN p l e { frames := 2, cells := 0, slots := 0, locals := 45 } s m args below meth c xL Z (XQ xL Z r S') S 62 6 [] [] := by
  obtain ⟨hx, hb, -, -, -, -, -, -, -, hQ⟩ := id E
  intro S  h H locs ls X hl
  unfold fX4_holds_8_31_62 at h
  refine lv_iconst (v := (1 : Int32)) hx hb dX4_holds_62 (by decide) ?_
  refine lv_goto (tgt := 67) hx hb dX4_holds_63 (by decide) ?_
  exact x_zret E X rfl h dX4_holds_67
set_option maxRecDepth 20000 in
theorem wX4_holds_8_31_48 {p : Program} {l : Launch} {e : Env} {s : State} {m : MethodId} {args : Array Value} {below : List Frame} {meth : Method} {c : Code} {Z : XG} {r : Int32} {S' : Mem} (E : XE p s m args meth c cX4_holds 6 RX4 (some .boolean) xL Z) : ∀ (S : Mem) (x4 : Int32), fX4_holds_8_31_48  S x4 = some (r, S') → WN p l e { frames := 2, cells := 0, slots := 0, locals := 45 } s m args below meth c xL Z (XQ xL Z r S') S 48 6 [(0, .ref (Z.2.1 8)), (4, .int x4)] [] := by
  obtain ⟨hx, hb, -, -, -, -, -, -, -, hQ⟩ := id E
  intro S x4 h H locs ls X hl
  unfold fX4_holds_8_31_48 at h
  refine lv_iload hx hb dX4_holds_48 (lv_at hl 1 rfl) ?_
  refine lv_if_eq (tgt := 62) hx hb dX4_holds_50 (by decide) (fun c_1 => ?_) (fun c_1 => ?_)
  · have h := if_t c_1 h
    exact wX4_holds_8_31_62 E   S  h _ _ _ X (lv_sub hl [] rfl)
  · have h := if_f c_1 h
    refine lv_aload_n hx hb dX4_holds_53 rfl (lv_at hl 0 rfl) ?_
    refine x_getr E X ffX4_21 rfl rfl dX4_holds_54 ?_
    refine lv_iconst (v := (0 : Int32)) hx hb dX4_holds_57 (by decide) ?_
    refine x_iald E X rfl (by decide) dX4_holds_58 ?_
    refine lv_if_eq (tgt := 66) hx hb dX4_holds_59 (by decide) (fun c_2 => ?_) (fun c_2 => ?_)
    · have h := if_t c_2 h
      refine lv_iconst (v := (0 : Int32)) hx hb dX4_holds_66 (by decide) ?_
      exact x_zret E X rfl h dX4_holds_67
    · have h := if_f c_2 h
      exact wX4_holds_8_31_62 E   S  h _ _ _ X (lv_sub hl [] rfl)
set_option maxRecDepth 20000 in
theorem wX4_holds_8_31_10_b {p : Program} {l : Launch} {e : Env} {s : State} {m : MethodId} {args : Array Value} {below : List Frame} {meth : Method} {c : Code} {Z : XG} {r : Int32} {S' : Mem} (E : XE p s m args meth c cX4_holds 6 RX4 (some .boolean) xL Z) (k0 : Mem → Int32 → Int32 → Int32 → O)  (hk0 : ∀ (S : Mem) (x2 x4 x5 : Int32), k0 S x2 x4 x5 = some (r, S') → WN p l e { frames := 2, cells := 0, slots := 0, locals := 45 } s m args below meth c xL Z (XQ xL Z r S') S 10 6 [(0, .ref (Z.2.1 8)), (2, .int x2), (3, .ref (Z.2.1 31)), (4, .int x4), (5, .int x5)] []) : ∀ (S : Mem) (x2 x4 x5 : Int32), fX4_holds_8_31_10_b k0 S x2 x4 x5 = some (r, S') → WN p l e { frames := 2, cells := 0, slots := 0, locals := 45 } s m args below meth c xL Z (XQ xL Z r S') S 10 6 [(0, .ref (Z.2.1 8)), (2, .int x2), (3, .ref (Z.2.1 31)), (4, .int x4), (5, .int x5)] [] := by
  obtain ⟨hx, hb, -, -, -, -, -, -, -, hQ⟩ := id E
  intro S x2 x4 x5 h H locs ls X hl
  unfold fX4_holds_8_31_10_b at h
  refine lv_iload hx hb dX4_holds_10 (lv_at hl 4 rfl) ?_
  refine lv_iload_n hx hb dX4_holds_12 rfl (lv_at hl 1 rfl) ?_
  refine lv_icmp_ge (tgt := 48) hx hb dX4_holds_13 (by decide) (fun c_1 => ?_) (fun c_1 => ?_)
  · have h := if_t c_1 h
    exact wX4_holds_8_31_48 E   S x4 h _ _ _ X (lv_sub hl [0, 3] rfl)
  · have h := if_f c_1 h
    refine lv_iload hx hb dX4_holds_16 (lv_at hl 4 rfl) ?_
    refine lv_aload_n hx hb dX4_holds_18 rfl (lv_at hl 0 rfl) ?_
    refine x_getr E X ffX4_18 rfl rfl dX4_holds_19 ?_
    refine x_alen E X (v := (400 : Int32)) rfl (by decide) dX4_holds_22 ?_
    refine lv_icmp_ge (tgt := 48) hx hb dX4_holds_23 (by decide) (fun c_2 => ?_) (fun c_2 => ?_)
    · have h := if_t c_2 h
      exact wX4_holds_8_31_48 E   S x4 h _ _ _ X (lv_sub hl [0, 3] rfl)
    · have h := if_f c_2 h
      refine lv_aload_n hx hb dX4_holds_26 rfl (lv_at hl 0 rfl) ?_
      refine lv_aload_n hx hb dX4_holds_27 rfl (lv_at hl 0 rfl) ?_
      refine x_getr E X ffX4_18 rfl rfl dX4_holds_28 ?_
      refine lv_iload hx hb dX4_holds_31 (lv_at hl 4 rfl) ?_
      obtain ⟨g_3, h⟩ := gd_s h
      refine x_iald E X rfl g_3 dX4_holds_33 ?_
      refine lv_iload hx hb dX4_holds_34 (lv_at hl 3 rfl) ?_
      refine lv_aload_n hx hb dX4_holds_36 rfl (lv_at hl 2 rfl) ?_
      obtain ⟨r_4, S_5, hr_4, h⟩ := bnd_s h
      refine x_callV E X cwX4_47 (mX4_takeCode_8_31 l Z hQ  (S 11 (x5).toNatClampNeg) x4 hr_4) rfl rfl rfl rfl hl.1 rfl dX4_holds_37 (fun H locs X => ?_)
      refine lv_istore (lv' := [(4, .int r_4), (0, .ref (Z.2.1 8)), (2, .int x2), (3, .ref (Z.2.1 31)), (5, .int x5)]) hx hb dX4_holds_40 hl (by decide) rfl (fun ls hl => ?_)
      refine lv_iinc (v := (x5 + (1 : Int32))) (lv' := [(5, .int (x5 + (1 : Int32))), (4, .int r_4), (0, .ref (Z.2.1 8)), (2, .int x2), (3, .ref (Z.2.1 31))]) hx hb dX4_holds_42 hl (k := 4) rfl rfl (by decide) rfl (fun ls hl => ?_)
      refine lv_goto (tgt := 10) hx hb dX4_holds_45 (by decide) ?_
      exact hk0 S_5 x2 r_4 (x5 + (1 : Int32)) h _ _ _ X (lv_sub hl [2, 3, 4, 1, 0] rfl)
theorem wX4_holds_8_31_10 {p : Program} {l : Launch} {e : Env} {s : State} {m : MethodId} {args : Array Value} {below : List Frame} {meth : Method} {c : Code} {Z : XG} {r : Int32} {S' : Mem} (E : XE p s m args meth c cX4_holds 6 RX4 (some .boolean) xL Z) : ∀ (n : Nat) (S : Mem) (x2 x4 x5 : Int32), fX4_holds_8_31_10 n S x2 x4 x5 = some (r, S') → WN p l e { frames := 2, cells := 0, slots := 0, locals := 45 } s m args below meth c xL Z (XQ xL Z r S') S 10 6 [(0, .ref (Z.2.1 8)), (2, .int x2), (3, .ref (Z.2.1 31)), (4, .int x4), (5, .int x5)] [] := by
  intro n
  induction n with
  | zero => intro S x2 x4 x5 h; exact absurd (show (none : O) = some _ from h) (by simp)
  | succ n ih => intro S x2 x4 x5 h; exact wX4_holds_8_31_10_b E (fX4_holds_8_31_10 n) ih S x2 x4 x5 h
set_option maxRecDepth 20000 in
theorem wX4_holds_8_31 {p : Program} {l : Launch} {e : Env} {s : State} {m : MethodId} {args : Array Value} {below : List Frame} {meth : Method} {c : Code} {Z : XG} {r : Int32} {S' : Mem} (E : XE p s m args meth c cX4_holds 6 RX4 (some .boolean) xL Z) : ∀ (S : Mem) (x1 x2 : Int32), fX4_holds_8_31  S x1 x2 = some (r, S') → WN p l e { frames := 2, cells := 0, slots := 0, locals := 45 } s m args below meth c xL Z (XQ xL Z r S') S 0 6 [(0, .ref (Z.2.1 8)), (1, .int x1), (2, .int x2), (3, .ref (Z.2.1 31))] [] := by
  obtain ⟨hx, hb, -, -, -, -, -, -, -, hQ⟩ := id E
  intro S x1 x2 h H locs ls X hl
  unfold fX4_holds_8_31 at h
  refine lv_iconst (v := (0 : Int32)) hx hb dX4_holds_0 (by decide) ?_
  refine lv_istore (lv' := [(4, .int (0 : Int32)), (0, .ref (Z.2.1 8)), (1, .int x1), (2, .int x2), (3, .ref (Z.2.1 31))]) hx hb dX4_holds_1 hl (by decide) rfl (fun ls hl => ?_)
  refine lv_iconst (v := (0 : Int32)) hx hb dX4_holds_3 (by decide) ?_
  refine lv_iload_n hx hb dX4_holds_4 rfl (lv_at hl 2 rfl) ?_
  refine x_mmax E cwX4_41 hl.1 rfl rfl rfl rfl dX4_holds_5 ?_
  refine lv_nm (y := (imax (0 : Int32) x1)) rfl ?_
  obtain ⟨x5_1, ex5_1, h⟩ := lti_s h
  refine lv_nm ex5_1 ?_
  refine lv_istore (lv' := [(5, .int x5_1), (4, .int (0 : Int32)), (0, .ref (Z.2.1 8)), (1, .int x1), (2, .int x2), (3, .ref (Z.2.1 31))]) hx hb dX4_holds_8 hl (by decide) rfl (fun ls hl => ?_)
  exact wX4_holds_8_31_10 E   FU S x2 (0 : Int32) x5_1 h _ _ _ X (lv_sub hl [2, 4, 5, 1, 0] rfl)
/-- SevenToAShadow$Rules.holds(II[I)Z -/
theorem mX4_holds_8_31 (l : Launch) (Z : XG) (hQ : wQ (List.length xL) Z) {S S' : Mem} {r : Int32} (x1 x2 : Int32) (h : fX4_holds_8_31 S x1 x2 = some (r, S')) : XM l yX4_holds cX4_holds 6 (some .boolean) { frames := 2, cells := 0, slots := 0, locals := 45 } xL Z [.ref (Z.2.1 8), .int x1, .int x2, .ref (Z.2.1 31)] S (XQ xL Z r S') := by
  refine XM.of (own := RX4) (by decide +kernel) rfl rfl hQ (fun p e s m args below meth c E ls hl X => ?_)
  exact wX4_holds_8_31 E S x1 x2 h _ _ _ X hl
def fX4_choose_8_31_4_b (k0 : Mem → Int32 → Int32 → O) (S : Mem) (x2 x3 : Int32) : O := (if (S 8 4) ≤ x3 then some ((0 : Int32), S) else (if (16 : Int32) ≤ x3 then some ((0 : Int32), S) else gd (inB x3 16) <| bnd (fX4_holds_8_31 S x2 (S 10 (x3).toNatClampNeg)) fun r_4 S_5 => (if r_4 = 0 then gd (inB x3 16) <| lti (S_5 10 (x3).toNatClampNeg) fun x2_8 => k0 S_5 x2_8 (x3 + (1 : Int32)) else gd (inB x3 16) <| some ((S_5 9 (x3).toNatClampNeg), S_5))))
def fX4_choose_8_31_4 : Nat → Mem → Int32 → Int32 → O
  | 0 => fun _ _ _ => none
  | n + 1 => fX4_choose_8_31_4_b (fX4_choose_8_31_4 n)
def fX4_choose_8_31 (S : Mem) : O := fX4_choose_8_31_4  FU S (0 : Int32) (0 : Int32)
theorem dX4_choose_0 : decode cX4_choose 0 = .ok (.iconst 0, 1) := by decide +kernel
theorem dX4_choose_1 : decode cX4_choose 1 = .ok (.istore_n 2, 1) := by decide +kernel
theorem dX4_choose_2 : decode cX4_choose 2 = .ok (.iconst 0, 1) := by decide +kernel
theorem dX4_choose_3 : decode cX4_choose 3 = .ok (.istore_n 3, 1) := by decide +kernel
theorem dX4_choose_4 : decode cX4_choose 4 = .ok (.iload_n 3, 1) := by decide +kernel
theorem dX4_choose_5 : decode cX4_choose 5 = .ok (.aload_n 0, 1) := by decide +kernel
theorem dX4_choose_6 : decode cX4_choose 6 = .ok (.getfield 24, 3) := by decide +kernel
theorem dX4_choose_9 : decode cX4_choose 9 = .ok (.if_icmp .ge 44, 3) := by decide +kernel
theorem dX4_choose_12 : decode cX4_choose 12 = .ok (.iload_n 3, 1) := by decide +kernel
theorem dX4_choose_13 : decode cX4_choose 13 = .ok (.bipush 16, 2) := by decide +kernel
theorem dX4_choose_15 : decode cX4_choose 15 = .ok (.if_icmp .ge 38, 3) := by decide +kernel
theorem dX4_choose_18 : decode cX4_choose 18 = .ok (.aload_n 0, 1) := by decide +kernel
theorem dX4_choose_19 : decode cX4_choose 19 = .ok (.iload_n 2, 1) := by decide +kernel
theorem dX4_choose_20 : decode cX4_choose 20 = .ok (.aload_n 0, 1) := by decide +kernel
theorem dX4_choose_21 : decode cX4_choose 21 = .ok (.getfield 15, 3) := by decide +kernel
theorem dX4_choose_24 : decode cX4_choose 24 = .ok (.iload_n 3, 1) := by decide +kernel
theorem dX4_choose_25 : decode cX4_choose 25 = .ok (.iaload, 1) := by decide +kernel
theorem dX4_choose_26 : decode cX4_choose 26 = .ok (.aload_n 1, 1) := by decide +kernel
theorem dX4_choose_27 : decode cX4_choose 27 = .ok (.invokevirtual 37, 3) := by decide +kernel
theorem dX4_choose_30 : decode cX4_choose 30 = .ok (.ifCond .eq 10, 3) := by decide +kernel
theorem dX4_choose_33 : decode cX4_choose 33 = .ok (.aload_n 0, 1) := by decide +kernel
theorem dX4_choose_34 : decode cX4_choose 34 = .ok (.getfield 9, 3) := by decide +kernel
theorem dX4_choose_37 : decode cX4_choose 37 = .ok (.iload_n 3, 1) := by decide +kernel
theorem dX4_choose_38 : decode cX4_choose 38 = .ok (.iaload, 1) := by decide +kernel
theorem dX4_choose_39 : decode cX4_choose 39 = .ok (.ireturn, 1) := by decide +kernel
theorem dX4_choose_40 : decode cX4_choose 40 = .ok (.aload_n 0, 1) := by decide +kernel
theorem dX4_choose_41 : decode cX4_choose 41 = .ok (.getfield 15, 3) := by decide +kernel
theorem dX4_choose_44 : decode cX4_choose 44 = .ok (.iload_n 3, 1) := by decide +kernel
theorem dX4_choose_45 : decode cX4_choose 45 = .ok (.iaload, 1) := by decide +kernel
theorem dX4_choose_46 : decode cX4_choose 46 = .ok (.istore_n 2, 1) := by decide +kernel
theorem dX4_choose_47 : decode cX4_choose 47 = .ok (.iinc 3 1, 3) := by decide +kernel
theorem dX4_choose_50 : decode cX4_choose 50 = .ok (.goto (-46), 3) := by decide +kernel
theorem dX4_choose_53 : decode cX4_choose 53 = .ok (.iconst 0, 1) := by decide +kernel
theorem dX4_choose_54 : decode cX4_choose 54 = .ok (.ireturn, 1) := by decide +kernel
set_option maxRecDepth 20000 in
theorem wX4_choose_8_31_4_b {p : Program} {l : Launch} {e : Env} {s : State} {m : MethodId} {args : Array Value} {below : List Frame} {meth : Method} {c : Code} {Z : XG} {r : Int32} {S' : Mem} (E : XE p s m args meth c cX4_choose 4 RX4 (some .int) xL Z) (k0 : Mem → Int32 → Int32 → O)  (hk0 : ∀ (S : Mem) (x2 x3 : Int32), k0 S x2 x3 = some (r, S') → WN p l e { frames := 3, cells := 0, slots := 0, locals := 70 } s m args below meth c xL Z (XQ xL Z r S') S 4 4 [(0, .ref (Z.2.1 8)), (1, .ref (Z.2.1 31)), (2, .int x2), (3, .int x3)] []) : ∀ (S : Mem) (x2 x3 : Int32), fX4_choose_8_31_4_b k0 S x2 x3 = some (r, S') → WN p l e { frames := 3, cells := 0, slots := 0, locals := 70 } s m args below meth c xL Z (XQ xL Z r S') S 4 4 [(0, .ref (Z.2.1 8)), (1, .ref (Z.2.1 31)), (2, .int x2), (3, .int x3)] [] := by
  obtain ⟨hx, hb, -, -, -, -, -, -, -, hQ⟩ := id E
  intro S x2 x3 h H locs ls X hl
  unfold fX4_choose_8_31_4_b at h
  refine lv_iload_n hx hb dX4_choose_4 rfl (lv_at hl 3 rfl) ?_
  refine lv_aload_n hx hb dX4_choose_5 rfl (lv_at hl 0 rfl) ?_
  refine x_get E X ffX4_24 rfl rfl dX4_choose_6 ?_
  refine lv_icmp_ge (tgt := 53) hx hb dX4_choose_9 (by decide) (fun c_1 => ?_) (fun c_1 => ?_)
  · have h := if_t c_1 h
    refine lv_iconst (v := (0 : Int32)) hx hb dX4_choose_53 (by decide) ?_
    exact x_iret E X h dX4_choose_54
  · have h := if_f c_1 h
    refine lv_iload_n hx hb dX4_choose_12 rfl (lv_at hl 3 rfl) ?_
    refine lv_bipush (v := (16 : Int32)) hx hb dX4_choose_13 (by decide) ?_
    refine lv_icmp_ge (tgt := 53) hx hb dX4_choose_15 (by decide) (fun c_2 => ?_) (fun c_2 => ?_)
    · have h := if_t c_2 h
      refine lv_iconst (v := (0 : Int32)) hx hb dX4_choose_53 (by decide) ?_
      exact x_iret E X h dX4_choose_54
    · have h := if_f c_2 h
      refine lv_aload_n hx hb dX4_choose_18 rfl (lv_at hl 0 rfl) ?_
      refine lv_iload_n hx hb dX4_choose_19 rfl (lv_at hl 2 rfl) ?_
      refine lv_aload_n hx hb dX4_choose_20 rfl (lv_at hl 0 rfl) ?_
      refine x_getr E X ffX4_15 rfl rfl dX4_choose_21 ?_
      refine lv_iload_n hx hb dX4_choose_24 rfl (lv_at hl 3 rfl) ?_
      obtain ⟨g_3, h⟩ := gd_s h
      refine x_iald E X rfl g_3 dX4_choose_25 ?_
      refine lv_aload_n hx hb dX4_choose_26 rfl (lv_at hl 1 rfl) ?_
      obtain ⟨r_4, S_5, hr_4, h⟩ := bnd_s h
      refine x_callV E X cwX4_37 (mX4_holds_8_31 l Z hQ  x2 (S 10 (x3).toNatClampNeg) hr_4) rfl rfl rfl rfl hl.1 rfl dX4_choose_27 (fun H locs X => ?_)
      refine lv_if_eq (tgt := 40) hx hb dX4_choose_30 (by decide) (fun c_6 => ?_) (fun c_6 => ?_)
      · have h := if_t c_6 h
        refine lv_aload_n hx hb dX4_choose_40 rfl (lv_at hl 0 rfl) ?_
        refine x_getr E X ffX4_15 rfl rfl dX4_choose_41 ?_
        refine lv_iload_n hx hb dX4_choose_44 rfl (lv_at hl 3 rfl) ?_
        obtain ⟨g_7, h⟩ := gd_s h
        refine x_iald E X rfl g_7 dX4_choose_45 ?_
        obtain ⟨x2_8, ex2_8, h⟩ := lti_s h
        refine lv_nm ex2_8 ?_
        refine lv_istore_n (lv' := [(2, .int x2_8), (0, .ref (Z.2.1 8)), (1, .ref (Z.2.1 31)), (3, .int x3)]) hx hb dX4_choose_46 rfl hl (by decide) rfl (fun ls hl => ?_)
        refine lv_iinc (v := (x3 + (1 : Int32))) (lv' := [(3, .int (x3 + (1 : Int32))), (2, .int x2_8), (0, .ref (Z.2.1 8)), (1, .ref (Z.2.1 31))]) hx hb dX4_choose_47 hl (k := 3) rfl rfl (by decide) rfl (fun ls hl => ?_)
        refine lv_goto (tgt := 4) hx hb dX4_choose_50 (by decide) ?_
        exact hk0 S_5 x2_8 (x3 + (1 : Int32)) h _ _ _ X (lv_sub hl [2, 3, 1, 0] rfl)
      · have h := if_f c_6 h
        refine lv_aload_n hx hb dX4_choose_33 rfl (lv_at hl 0 rfl) ?_
        refine x_getr E X ffX4_9 rfl rfl dX4_choose_34 ?_
        refine lv_iload_n hx hb dX4_choose_37 rfl (lv_at hl 3 rfl) ?_
        obtain ⟨g_9, h⟩ := gd_s h
        refine x_iald E X rfl g_9 dX4_choose_38 ?_
        exact x_iret E X h dX4_choose_39
theorem wX4_choose_8_31_4 {p : Program} {l : Launch} {e : Env} {s : State} {m : MethodId} {args : Array Value} {below : List Frame} {meth : Method} {c : Code} {Z : XG} {r : Int32} {S' : Mem} (E : XE p s m args meth c cX4_choose 4 RX4 (some .int) xL Z) : ∀ (n : Nat) (S : Mem) (x2 x3 : Int32), fX4_choose_8_31_4 n S x2 x3 = some (r, S') → WN p l e { frames := 3, cells := 0, slots := 0, locals := 70 } s m args below meth c xL Z (XQ xL Z r S') S 4 4 [(0, .ref (Z.2.1 8)), (1, .ref (Z.2.1 31)), (2, .int x2), (3, .int x3)] [] := by
  intro n
  induction n with
  | zero => intro S x2 x3 h; exact absurd (show (none : O) = some _ from h) (by simp)
  | succ n ih => intro S x2 x3 h; exact wX4_choose_8_31_4_b E (fX4_choose_8_31_4 n) ih S x2 x3 h
set_option maxRecDepth 20000 in
theorem wX4_choose_8_31 {p : Program} {l : Launch} {e : Env} {s : State} {m : MethodId} {args : Array Value} {below : List Frame} {meth : Method} {c : Code} {Z : XG} {r : Int32} {S' : Mem} (E : XE p s m args meth c cX4_choose 4 RX4 (some .int) xL Z) : ∀ (S : Mem), fX4_choose_8_31  S  = some (r, S') → WN p l e { frames := 3, cells := 0, slots := 0, locals := 70 } s m args below meth c xL Z (XQ xL Z r S') S 0 4 [(0, .ref (Z.2.1 8)), (1, .ref (Z.2.1 31))] [] := by
  obtain ⟨hx, hb, -, -, -, -, -, -, -, hQ⟩ := id E
  intro S  h H locs ls X hl
  unfold fX4_choose_8_31 at h
  refine lv_iconst (v := (0 : Int32)) hx hb dX4_choose_0 (by decide) ?_
  refine lv_istore_n (lv' := [(2, .int (0 : Int32)), (0, .ref (Z.2.1 8)), (1, .ref (Z.2.1 31))]) hx hb dX4_choose_1 rfl hl (by decide) rfl (fun ls hl => ?_)
  refine lv_iconst (v := (0 : Int32)) hx hb dX4_choose_2 (by decide) ?_
  refine lv_istore_n (lv' := [(3, .int (0 : Int32)), (2, .int (0 : Int32)), (0, .ref (Z.2.1 8)), (1, .ref (Z.2.1 31))]) hx hb dX4_choose_3 rfl hl (by decide) rfl (fun ls hl => ?_)
  exact wX4_choose_8_31_4 E   FU S (0 : Int32) (0 : Int32) h _ _ _ X (lv_sub hl [2, 3, 1, 0] rfl)
/-- SevenToAShadow$Rules.choose([I)I -/
theorem mX4_choose_8_31 (l : Launch) (Z : XG) (hQ : wQ (List.length xL) Z) {S S' : Mem} {r : Int32} (h : fX4_choose_8_31 S  = some (r, S')) : XM l yX4_choose cX4_choose 4 (some .int) { frames := 3, cells := 0, slots := 0, locals := 70 } xL Z [.ref (Z.2.1 8), .ref (Z.2.1 31)] S (XQ xL Z r S') := by
  refine XM.of (own := RX4) (by decide +kernel) rfl rfl hQ (fun p e s m args below meth c E ls hl X => ?_)
  exact wX4_choose_8_31 E S  h _ _ _ X hl
def fX1_goToNearest_74 (k0 : Mem → Int32 → Int32 → Int32 → Int32 → Int32 → Int32 → O) (S : Mem) (x1 x2 x3 x4 x5 x6 : Int32) : O := k0 S x1 x2 x3 x4 x5 (x6 + (1 : Int32))
def fX1_goToNearest_19_b (k0 : Mem → Int32 → Int32 → Int32 → Int32 → Int32 → Int32 → O) (S : Mem) (x1 x2 x3 x4 x5 x6 : Int32) : O := (if (25 : Int32) ≤ x6 then (if x4 = (-1 : Int32) then some ((0 : Int32), S) else bnd (fX6_put S x1 (0 : Int32) x4) fun _ S_4 => some ((0 : Int32), S_4)) else (if ((x2 >>> (x6 &&& 31)) &&& (1 : Int32)) = 0 then fX1_goToNearest_74 k0 S x1 x2 x3 x4 x5 x6 else bnd (fX6_whoStandsAt S x6) fun r_6 S_7 => (if r_6 = (-1 : Int32) then bnd (fX7_farBetween S_7 x3 x6) fun r_9 S_10 => (if x5 ≤ r_9 then fX1_goToNearest_74 k0 S_10 x1 x2 x3 x4 x5 x6 else fX1_goToNearest_74 k0 S_10 x1 x2 x3 x6 r_9 x6) else fX1_goToNearest_74 k0 S_7 x1 x2 x3 x4 x5 x6)))
def fX1_goToNearest_19 : Nat → Mem → Int32 → Int32 → Int32 → Int32 → Int32 → Int32 → O
  | 0 => fun _ _ _ _ _ _ _ => none
  | n + 1 => fX1_goToNearest_19_b (fX1_goToNearest_19 n)
def fX1_goToNearest (S : Mem) (x1 x2 : Int32) : O := bnd (fX6_has S x1 (0 : Int32)) fun r_1 S_2 => fX1_goToNearest_19  FU S_2 x1 x2 r_1 (-1 : Int32) (5 : Int32) (0 : Int32)
theorem dX1_goToNearest_0 : decode cX1_goToNearest 0 = .ok (.aload_n 0, 1) := by decide +kernel
theorem dX1_goToNearest_1 : decode cX1_goToNearest 1 = .ok (.getfield 15, 3) := by decide +kernel
theorem dX1_goToNearest_4 : decode cX1_goToNearest 4 = .ok (.iload_n 1, 1) := by decide +kernel
theorem dX1_goToNearest_5 : decode cX1_goToNearest 5 = .ok (.iconst 0, 1) := by decide +kernel
theorem dX1_goToNearest_6 : decode cX1_goToNearest 6 = .ok (.invokevirtual 86, 3) := by decide +kernel
theorem dX1_goToNearest_9 : decode cX1_goToNearest 9 = .ok (.istore_n 3, 1) := by decide +kernel
theorem dX1_goToNearest_10 : decode cX1_goToNearest 10 = .ok (.iconst (-1), 1) := by decide +kernel
theorem dX1_goToNearest_11 : decode cX1_goToNearest 11 = .ok (.istore 4, 2) := by decide +kernel
theorem dX1_goToNearest_13 : decode cX1_goToNearest 13 = .ok (.iconst 5, 1) := by decide +kernel
theorem dX1_goToNearest_14 : decode cX1_goToNearest 14 = .ok (.istore 5, 2) := by decide +kernel
theorem dX1_goToNearest_16 : decode cX1_goToNearest 16 = .ok (.iconst 0, 1) := by decide +kernel
theorem dX1_goToNearest_17 : decode cX1_goToNearest 17 = .ok (.istore 6, 2) := by decide +kernel
theorem dX1_goToNearest_19 : decode cX1_goToNearest 19 = .ok (.iload 6, 2) := by decide +kernel
theorem dX1_goToNearest_21 : decode cX1_goToNearest 21 = .ok (.bipush 25, 2) := by decide +kernel
theorem dX1_goToNearest_23 : decode cX1_goToNearest 23 = .ok (.if_icmp .ge 57, 3) := by decide +kernel
theorem dX1_goToNearest_26 : decode cX1_goToNearest 26 = .ok (.iload_n 2, 1) := by decide +kernel
theorem dX1_goToNearest_27 : decode cX1_goToNearest 27 = .ok (.iload 6, 2) := by decide +kernel
theorem dX1_goToNearest_29 : decode cX1_goToNearest 29 = .ok (.ishr, 1) := by decide +kernel
theorem dX1_goToNearest_30 : decode cX1_goToNearest 30 = .ok (.iconst 1, 1) := by decide +kernel
theorem dX1_goToNearest_31 : decode cX1_goToNearest 31 = .ok (.iand, 1) := by decide +kernel
theorem dX1_goToNearest_32 : decode cX1_goToNearest 32 = .ok (.ifCond .eq 42, 3) := by decide +kernel
theorem dX1_goToNearest_35 : decode cX1_goToNearest 35 = .ok (.aload_n 0, 1) := by decide +kernel
theorem dX1_goToNearest_36 : decode cX1_goToNearest 36 = .ok (.getfield 15, 3) := by decide +kernel
theorem dX1_goToNearest_39 : decode cX1_goToNearest 39 = .ok (.iload 6, 2) := by decide +kernel
theorem dX1_goToNearest_41 : decode cX1_goToNearest 41 = .ok (.invokevirtual 89, 3) := by decide +kernel
theorem dX1_goToNearest_44 : decode cX1_goToNearest 44 = .ok (.iconst (-1), 1) := by decide +kernel
theorem dX1_goToNearest_45 : decode cX1_goToNearest 45 = .ok (.if_icmp .eq 6, 3) := by decide +kernel
theorem dX1_goToNearest_48 : decode cX1_goToNearest 48 = .ok (.goto 26, 3) := by decide +kernel
theorem dX1_goToNearest_51 : decode cX1_goToNearest 51 = .ok (.iload_n 3, 1) := by decide +kernel
theorem dX1_goToNearest_52 : decode cX1_goToNearest 52 = .ok (.iload 6, 2) := by decide +kernel
theorem dX1_goToNearest_54 : decode cX1_goToNearest 54 = .ok (.invokestatic 92, 3) := by decide +kernel
theorem dX1_goToNearest_57 : decode cX1_goToNearest 57 = .ok (.istore 7, 2) := by decide +kernel
theorem dX1_goToNearest_59 : decode cX1_goToNearest 59 = .ok (.iload 7, 2) := by decide +kernel
theorem dX1_goToNearest_61 : decode cX1_goToNearest 61 = .ok (.iload 5, 2) := by decide +kernel
theorem dX1_goToNearest_63 : decode cX1_goToNearest 63 = .ok (.if_icmp .ge 11, 3) := by decide +kernel
theorem dX1_goToNearest_66 : decode cX1_goToNearest 66 = .ok (.iload 6, 2) := by decide +kernel
theorem dX1_goToNearest_68 : decode cX1_goToNearest 68 = .ok (.istore 4, 2) := by decide +kernel
theorem dX1_goToNearest_70 : decode cX1_goToNearest 70 = .ok (.iload 7, 2) := by decide +kernel
theorem dX1_goToNearest_72 : decode cX1_goToNearest 72 = .ok (.istore 5, 2) := by decide +kernel
theorem dX1_goToNearest_74 : decode cX1_goToNearest 74 = .ok (.iinc 6 1, 3) := by decide +kernel
theorem dX1_goToNearest_77 : decode cX1_goToNearest 77 = .ok (.goto (-58), 3) := by decide +kernel
theorem dX1_goToNearest_80 : decode cX1_goToNearest 80 = .ok (.iload 4, 2) := by decide +kernel
theorem dX1_goToNearest_82 : decode cX1_goToNearest 82 = .ok (.iconst (-1), 1) := by decide +kernel
theorem dX1_goToNearest_83 : decode cX1_goToNearest 83 = .ok (.if_icmp .eq 14, 3) := by decide +kernel
theorem dX1_goToNearest_86 : decode cX1_goToNearest 86 = .ok (.aload_n 0, 1) := by decide +kernel
theorem dX1_goToNearest_87 : decode cX1_goToNearest 87 = .ok (.getfield 15, 3) := by decide +kernel
theorem dX1_goToNearest_90 : decode cX1_goToNearest 90 = .ok (.iload_n 1, 1) := by decide +kernel
theorem dX1_goToNearest_91 : decode cX1_goToNearest 91 = .ok (.iconst 0, 1) := by decide +kernel
theorem dX1_goToNearest_92 : decode cX1_goToNearest 92 = .ok (.iload 4, 2) := by decide +kernel
theorem dX1_goToNearest_94 : decode cX1_goToNearest 94 = .ok (.invokevirtual 95, 3) := by decide +kernel
theorem dX1_goToNearest_97 : decode cX1_goToNearest 97 = .ok (.return_, 1) := by decide +kernel
set_option maxRecDepth 20000 in
theorem wX1_goToNearest_74 {p : Program} {l : Launch} {e : Env} {s : State} {m : MethodId} {args : Array Value} {below : List Frame} {meth : Method} {c : Code} {Z : XG} {r : Int32} {S' : Mem} (E : XE p s m args meth c cX1_goToNearest 8 RX1 none xL Z) (k0 : Mem → Int32 → Int32 → Int32 → Int32 → Int32 → Int32 → O)  (hk0 : ∀ (S : Mem) (x1 x2 x3 x4 x5 x6 : Int32), k0 S x1 x2 x3 x4 x5 x6 = some (r, S') → WN p l e { frames := 3, cells := 0, slots := 0, locals := 65 } s m args below meth c xL Z (XV xL Z S') S 19 8 [(0, .ref (Z.2.1 30)), (1, .int x1), (2, .int x2), (3, .int x3), (4, .int x4), (5, .int x5), (6, .int x6)] []) : ∀ (S : Mem) (x1 x2 x3 x4 x5 x6 : Int32), fX1_goToNearest_74 k0 S x1 x2 x3 x4 x5 x6 = some (r, S') → WN p l e { frames := 3, cells := 0, slots := 0, locals := 65 } s m args below meth c xL Z (XV xL Z S') S 74 8 [(0, .ref (Z.2.1 30)), (1, .int x1), (2, .int x2), (3, .int x3), (4, .int x4), (5, .int x5), (6, .int x6)] [] := by
  obtain ⟨hx, hb, -, -, -, -, -, -, -, hQ⟩ := id E
  intro S x1 x2 x3 x4 x5 x6 h H locs ls X hl
  unfold fX1_goToNearest_74 at h
  refine lv_iinc (v := (x6 + (1 : Int32))) (lv' := [(6, .int (x6 + (1 : Int32))), (0, .ref (Z.2.1 30)), (1, .int x1), (2, .int x2), (3, .int x3), (4, .int x4), (5, .int x5)]) hx hb dX1_goToNearest_74 hl (k := 6) rfl rfl (by decide) rfl (fun ls hl => ?_)
  refine lv_goto (tgt := 19) hx hb dX1_goToNearest_77 (by decide) ?_
  exact hk0 S x1 x2 x3 x4 x5 (x6 + (1 : Int32)) h _ _ _ X (lv_sub hl [1, 2, 3, 4, 5, 6, 0] rfl)
set_option maxRecDepth 20000 in
theorem wX1_goToNearest_19_b {p : Program} {l : Launch} {e : Env} {s : State} {m : MethodId} {args : Array Value} {below : List Frame} {meth : Method} {c : Code} {Z : XG} {r : Int32} {S' : Mem} (E : XE p s m args meth c cX1_goToNearest 8 RX1 none xL Z) (k0 : Mem → Int32 → Int32 → Int32 → Int32 → Int32 → Int32 → O)  (hk0 : ∀ (S : Mem) (x1 x2 x3 x4 x5 x6 : Int32), k0 S x1 x2 x3 x4 x5 x6 = some (r, S') → WN p l e { frames := 3, cells := 0, slots := 0, locals := 65 } s m args below meth c xL Z (XV xL Z S') S 19 8 [(0, .ref (Z.2.1 30)), (1, .int x1), (2, .int x2), (3, .int x3), (4, .int x4), (5, .int x5), (6, .int x6)] []) : ∀ (S : Mem) (x1 x2 x3 x4 x5 x6 : Int32), fX1_goToNearest_19_b k0 S x1 x2 x3 x4 x5 x6 = some (r, S') → WN p l e { frames := 3, cells := 0, slots := 0, locals := 65 } s m args below meth c xL Z (XV xL Z S') S 19 8 [(0, .ref (Z.2.1 30)), (1, .int x1), (2, .int x2), (3, .int x3), (4, .int x4), (5, .int x5), (6, .int x6)] [] := by
  obtain ⟨hx, hb, -, -, -, -, -, -, -, hQ⟩ := id E
  intro S x1 x2 x3 x4 x5 x6 h H locs ls X hl
  unfold fX1_goToNearest_19_b at h
  refine lv_iload hx hb dX1_goToNearest_19 (lv_at hl 6 rfl) ?_
  refine lv_bipush (v := (25 : Int32)) hx hb dX1_goToNearest_21 (by decide) ?_
  refine lv_icmp_ge (tgt := 80) hx hb dX1_goToNearest_23 (by decide) (fun c_1 => ?_) (fun c_1 => ?_)
  · have h := if_t c_1 h
    refine lv_iload hx hb dX1_goToNearest_80 (lv_at hl 4 rfl) ?_
    refine lv_iconst (v := (-1 : Int32)) hx hb dX1_goToNearest_82 (by decide) ?_
    refine lv_icmp_eq (tgt := 97) hx hb dX1_goToNearest_83 (by decide) (fun c_2 => ?_) (fun c_2 => ?_)
    · have h := if_t c_2 h
      exact x_vret E X h dX1_goToNearest_97
    · have h := if_f c_2 h
      refine lv_aload_n hx hb dX1_goToNearest_86 rfl (lv_at hl 0 rfl) ?_
      refine x_getr E X ffX1_15 rfl rfl dX1_goToNearest_87 ?_
      refine lv_iload_n hx hb dX1_goToNearest_90 rfl (lv_at hl 1 rfl) ?_
      refine lv_iconst (v := (0 : Int32)) hx hb dX1_goToNearest_91 (by decide) ?_
      refine lv_iload hx hb dX1_goToNearest_92 (lv_at hl 4 rfl) ?_
      obtain ⟨r_3, S_4, hr_3, h⟩ := bnd_s h
      refine x_callVv E X cwX1_95 (mX6_put l Z hQ  x1 (0 : Int32) x4 hr_3) rfl rfl rfl rfl hl.1 rfl dX1_goToNearest_94 (fun H locs X => ?_)
      exact x_vret E X h dX1_goToNearest_97
  · have h := if_f c_1 h
    refine lv_iload_n hx hb dX1_goToNearest_26 rfl (lv_at hl 2 rfl) ?_
    refine lv_iload hx hb dX1_goToNearest_27 (lv_at hl 6 rfl) ?_
    refine lv_ishr hx hb dX1_goToNearest_29 ?_
    refine lv_iconst (v := (1 : Int32)) hx hb dX1_goToNearest_30 (by decide) ?_
    refine lv_iand hx hb dX1_goToNearest_31 ?_
    refine lv_if_eq (tgt := 74) hx hb dX1_goToNearest_32 (by decide) (fun c_5 => ?_) (fun c_5 => ?_)
    · have h := if_t c_5 h
      exact wX1_goToNearest_74 E k0 hk0 S x1 x2 x3 x4 x5 x6 h _ _ _ X hl
    · have h := if_f c_5 h
      refine lv_aload_n hx hb dX1_goToNearest_35 rfl (lv_at hl 0 rfl) ?_
      refine x_getr E X ffX1_15 rfl rfl dX1_goToNearest_36 ?_
      refine lv_iload hx hb dX1_goToNearest_39 (lv_at hl 6 rfl) ?_
      obtain ⟨r_6, S_7, hr_6, h⟩ := bnd_s h
      refine x_callV E X cwX1_89 (mX6_whoStandsAt l Z hQ  x6 hr_6) rfl rfl rfl rfl hl.1 rfl dX1_goToNearest_41 (fun H locs X => ?_)
      refine lv_iconst (v := (-1 : Int32)) hx hb dX1_goToNearest_44 (by decide) ?_
      refine lv_icmp_eq (tgt := 51) hx hb dX1_goToNearest_45 (by decide) (fun c_8 => ?_) (fun c_8 => ?_)
      · have h := if_t c_8 h
        refine lv_iload_n hx hb dX1_goToNearest_51 rfl (lv_at hl 3 rfl) ?_
        refine lv_iload hx hb dX1_goToNearest_52 (lv_at hl 6 rfl) ?_
        obtain ⟨r_9, S_10, hr_9, h⟩ := bnd_s h
        refine x_callN E X cwX1_92 (mX7_farBetween l Z hQ  x3 x6 hr_9) rfl rfl hl.1 rfl dX1_goToNearest_54 (fun H locs X => ?_)
        refine lv_istore (lv' := [(7, .int r_9), (0, .ref (Z.2.1 30)), (1, .int x1), (2, .int x2), (3, .int x3), (4, .int x4), (5, .int x5), (6, .int x6)]) hx hb dX1_goToNearest_57 hl (by decide) rfl (fun ls hl => ?_)
        refine lv_iload hx hb dX1_goToNearest_59 (lv_at hl 0 rfl) ?_
        refine lv_iload hx hb dX1_goToNearest_61 (lv_at hl 6 rfl) ?_
        refine lv_icmp_ge (tgt := 74) hx hb dX1_goToNearest_63 (by decide) (fun c_11 => ?_) (fun c_11 => ?_)
        · have h := if_t c_11 h
          exact wX1_goToNearest_74 E k0 hk0 S_10 x1 x2 x3 x4 x5 x6 h _ _ _ X (lv_sub hl [1, 2, 3, 4, 5, 6, 7] rfl)
        · have h := if_f c_11 h
          refine lv_iload hx hb dX1_goToNearest_66 (lv_at hl 7 rfl) ?_
          refine lv_istore (lv' := [(4, .int x6), (7, .int r_9), (0, .ref (Z.2.1 30)), (1, .int x1), (2, .int x2), (3, .int x3), (5, .int x5), (6, .int x6)]) hx hb dX1_goToNearest_68 hl (by decide) rfl (fun ls hl => ?_)
          refine lv_iload hx hb dX1_goToNearest_70 (lv_at hl 1 rfl) ?_
          refine lv_istore (lv' := [(5, .int r_9), (4, .int x6), (7, .int r_9), (0, .ref (Z.2.1 30)), (1, .int x1), (2, .int x2), (3, .int x3), (6, .int x6)]) hx hb dX1_goToNearest_72 hl (by decide) rfl (fun ls hl => ?_)
          exact wX1_goToNearest_74 E k0 hk0 S_10 x1 x2 x3 x6 r_9 x6 h _ _ _ X (lv_sub hl [3, 4, 5, 6, 1, 0, 7] rfl)
      · have h := if_f c_8 h
        refine lv_goto (tgt := 74) hx hb dX1_goToNearest_48 (by decide) ?_
        exact wX1_goToNearest_74 E k0 hk0 S_7 x1 x2 x3 x4 x5 x6 h _ _ _ X hl
theorem wX1_goToNearest_19 {p : Program} {l : Launch} {e : Env} {s : State} {m : MethodId} {args : Array Value} {below : List Frame} {meth : Method} {c : Code} {Z : XG} {r : Int32} {S' : Mem} (E : XE p s m args meth c cX1_goToNearest 8 RX1 none xL Z) : ∀ (n : Nat) (S : Mem) (x1 x2 x3 x4 x5 x6 : Int32), fX1_goToNearest_19 n S x1 x2 x3 x4 x5 x6 = some (r, S') → WN p l e { frames := 3, cells := 0, slots := 0, locals := 65 } s m args below meth c xL Z (XV xL Z S') S 19 8 [(0, .ref (Z.2.1 30)), (1, .int x1), (2, .int x2), (3, .int x3), (4, .int x4), (5, .int x5), (6, .int x6)] [] := by
  intro n
  induction n with
  | zero => intro S x1 x2 x3 x4 x5 x6 h; exact absurd (show (none : O) = some _ from h) (by simp)
  | succ n ih => intro S x1 x2 x3 x4 x5 x6 h; exact wX1_goToNearest_19_b E (fX1_goToNearest_19 n) ih S x1 x2 x3 x4 x5 x6 h
set_option maxRecDepth 20000 in
theorem wX1_goToNearest {p : Program} {l : Launch} {e : Env} {s : State} {m : MethodId} {args : Array Value} {below : List Frame} {meth : Method} {c : Code} {Z : XG} {r : Int32} {S' : Mem} (E : XE p s m args meth c cX1_goToNearest 8 RX1 none xL Z) : ∀ (S : Mem) (x1 x2 : Int32), fX1_goToNearest  S x1 x2 = some (r, S') → WN p l e { frames := 3, cells := 0, slots := 0, locals := 65 } s m args below meth c xL Z (XV xL Z S') S 0 8 [(0, .ref (Z.2.1 30)), (1, .int x1), (2, .int x2)] [] := by
  obtain ⟨hx, hb, -, -, -, -, -, -, -, hQ⟩ := id E
  intro S x1 x2 h H locs ls X hl
  unfold fX1_goToNearest at h
  refine lv_aload_n hx hb dX1_goToNearest_0 rfl (lv_at hl 0 rfl) ?_
  refine x_getr E X ffX1_15 rfl rfl dX1_goToNearest_1 ?_
  refine lv_iload_n hx hb dX1_goToNearest_4 rfl (lv_at hl 1 rfl) ?_
  refine lv_iconst (v := (0 : Int32)) hx hb dX1_goToNearest_5 (by decide) ?_
  obtain ⟨r_1, S_2, hr_1, h⟩ := bnd_s h
  refine x_callV E X cwX1_86 (mX6_has l Z hQ  x1 (0 : Int32) hr_1) rfl rfl rfl rfl hl.1 rfl dX1_goToNearest_6 (fun H locs X => ?_)
  refine lv_istore_n (lv' := [(3, .int r_1), (0, .ref (Z.2.1 30)), (1, .int x1), (2, .int x2)]) hx hb dX1_goToNearest_9 rfl hl (by decide) rfl (fun ls hl => ?_)
  refine lv_iconst (v := (-1 : Int32)) hx hb dX1_goToNearest_10 (by decide) ?_
  refine lv_istore (lv' := [(4, .int (-1 : Int32)), (3, .int r_1), (0, .ref (Z.2.1 30)), (1, .int x1), (2, .int x2)]) hx hb dX1_goToNearest_11 hl (by decide) rfl (fun ls hl => ?_)
  refine lv_iconst (v := (5 : Int32)) hx hb dX1_goToNearest_13 (by decide) ?_
  refine lv_istore (lv' := [(5, .int (5 : Int32)), (4, .int (-1 : Int32)), (3, .int r_1), (0, .ref (Z.2.1 30)), (1, .int x1), (2, .int x2)]) hx hb dX1_goToNearest_14 hl (by decide) rfl (fun ls hl => ?_)
  refine lv_iconst (v := (0 : Int32)) hx hb dX1_goToNearest_16 (by decide) ?_
  refine lv_istore (lv' := [(6, .int (0 : Int32)), (5, .int (5 : Int32)), (4, .int (-1 : Int32)), (3, .int r_1), (0, .ref (Z.2.1 30)), (1, .int x1), (2, .int x2)]) hx hb dX1_goToNearest_17 hl (by decide) rfl (fun ls hl => ?_)
  exact wX1_goToNearest_19 E   FU S_2 x1 x2 r_1 (-1 : Int32) (5 : Int32) (0 : Int32) h _ _ _ X (lv_sub hl [4, 5, 6, 3, 2, 1, 0] rfl)
/-- SevenToAShadow$March.goToNearest(II)V -/
theorem mX1_goToNearest (l : Launch) (Z : XG) (hQ : wQ (List.length xL) Z) {S S' : Mem} {r : Int32} (x1 x2 : Int32) (h : fX1_goToNearest S x1 x2 = some (r, S')) : XM l yX1_goToNearest cX1_goToNearest 8 none { frames := 3, cells := 0, slots := 0, locals := 65 } xL Z [.ref (Z.2.1 30), .int x1, .int x2] S (XV xL Z S') := by
  refine XM.of (own := RX1) (by decide +kernel) rfl rfl hQ (fun p e s m args below meth c E ls hl X => ?_)
  exact wX1_goToNearest E S x1 x2 h _ _ _ X hl
def fX1_foeIsNear_44 (k0 : Mem → Int32 → Int32 → Int32 → O) (S : Mem) (x1 x2 x3 : Int32) : O := k0 S x1 x2 (x3 + (1 : Int32))
def fX1_foeIsNear_2_b (k0 : Mem → Int32 → Int32 → Int32 → O) (S : Mem) (x1 x2 x3 : Int32) : O := (if (S 1 9) ≤ x3 then some ((0 : Int32), S) else bnd (fX6_doQuarrel S x1 x3) fun r_2 S_3 => (if r_2 = 0 then fX1_foeIsNear_44 k0 S_3 x1 x2 x3 else bnd (fX6_has S_3 x3 (0 : Int32)) fun r_5 S_6 => bnd (fX7_farBetween S_6 x2 r_5) fun r_7 S_8 => (if (1 : Int32) < r_7 then fX1_foeIsNear_44 k0 S_8 x1 x2 x3 else some ((1 : Int32), S_8))))
def fX1_foeIsNear_2 : Nat → Mem → Int32 → Int32 → Int32 → O
  | 0 => fun _ _ _ _ => none
  | n + 1 => fX1_foeIsNear_2_b (fX1_foeIsNear_2 n)
def fX1_foeIsNear (S : Mem) (x1 x2 : Int32) : O := fX1_foeIsNear_2  FU S x1 x2 (0 : Int32)
theorem dX1_foeIsNear_0 : decode cX1_foeIsNear 0 = .ok (.iconst 0, 1) := by decide +kernel
theorem dX1_foeIsNear_1 : decode cX1_foeIsNear 1 = .ok (.istore_n 3, 1) := by decide +kernel
theorem dX1_foeIsNear_2 : decode cX1_foeIsNear 2 = .ok (.iload_n 3, 1) := by decide +kernel
theorem dX1_foeIsNear_3 : decode cX1_foeIsNear 3 = .ok (.aload_n 0, 1) := by decide +kernel
theorem dX1_foeIsNear_4 : decode cX1_foeIsNear 4 = .ok (.getfield 15, 3) := by decide +kernel
theorem dX1_foeIsNear_7 : decode cX1_foeIsNear 7 = .ok (.getfield 29, 3) := by decide +kernel
theorem dX1_foeIsNear_10 : decode cX1_foeIsNear 10 = .ok (.if_icmp .ge 40, 3) := by decide +kernel
theorem dX1_foeIsNear_13 : decode cX1_foeIsNear 13 = .ok (.aload_n 0, 1) := by decide +kernel
theorem dX1_foeIsNear_14 : decode cX1_foeIsNear 14 = .ok (.getfield 15, 3) := by decide +kernel
theorem dX1_foeIsNear_17 : decode cX1_foeIsNear 17 = .ok (.iload_n 1, 1) := by decide +kernel
theorem dX1_foeIsNear_18 : decode cX1_foeIsNear 18 = .ok (.iload_n 3, 1) := by decide +kernel
theorem dX1_foeIsNear_19 : decode cX1_foeIsNear 19 = .ok (.invokevirtual 101, 3) := by decide +kernel
theorem dX1_foeIsNear_22 : decode cX1_foeIsNear 22 = .ok (.ifCond .eq 22, 3) := by decide +kernel
theorem dX1_foeIsNear_25 : decode cX1_foeIsNear 25 = .ok (.iload_n 2, 1) := by decide +kernel
theorem dX1_foeIsNear_26 : decode cX1_foeIsNear 26 = .ok (.aload_n 0, 1) := by decide +kernel
theorem dX1_foeIsNear_27 : decode cX1_foeIsNear 27 = .ok (.getfield 15, 3) := by decide +kernel
theorem dX1_foeIsNear_30 : decode cX1_foeIsNear 30 = .ok (.iload_n 3, 1) := by decide +kernel
theorem dX1_foeIsNear_31 : decode cX1_foeIsNear 31 = .ok (.iconst 0, 1) := by decide +kernel
theorem dX1_foeIsNear_32 : decode cX1_foeIsNear 32 = .ok (.invokevirtual 86, 3) := by decide +kernel
theorem dX1_foeIsNear_35 : decode cX1_foeIsNear 35 = .ok (.invokestatic 92, 3) := by decide +kernel
theorem dX1_foeIsNear_38 : decode cX1_foeIsNear 38 = .ok (.iconst 1, 1) := by decide +kernel
theorem dX1_foeIsNear_39 : decode cX1_foeIsNear 39 = .ok (.if_icmp .gt 5, 3) := by decide +kernel
theorem dX1_foeIsNear_42 : decode cX1_foeIsNear 42 = .ok (.iconst 1, 1) := by decide +kernel
theorem dX1_foeIsNear_43 : decode cX1_foeIsNear 43 = .ok (.ireturn, 1) := by decide +kernel
theorem dX1_foeIsNear_44 : decode cX1_foeIsNear 44 = .ok (.iinc 3 1, 3) := by decide +kernel
theorem dX1_foeIsNear_47 : decode cX1_foeIsNear 47 = .ok (.goto (-45), 3) := by decide +kernel
theorem dX1_foeIsNear_50 : decode cX1_foeIsNear 50 = .ok (.iconst 0, 1) := by decide +kernel
theorem dX1_foeIsNear_51 : decode cX1_foeIsNear 51 = .ok (.ireturn, 1) := by decide +kernel
set_option maxRecDepth 20000 in
theorem wX1_foeIsNear_44 {p : Program} {l : Launch} {e : Env} {s : State} {m : MethodId} {args : Array Value} {below : List Frame} {meth : Method} {c : Code} {Z : XG} {r : Int32} {S' : Mem} (E : XE p s m args meth c cX1_foeIsNear 4 RX1 (some .boolean) xL Z) (k0 : Mem → Int32 → Int32 → Int32 → O)  (hk0 : ∀ (S : Mem) (x1 x2 x3 : Int32), k0 S x1 x2 x3 = some (r, S') → WN p l e { frames := 2, cells := 0, slots := 0, locals := 43 } s m args below meth c xL Z (XQ xL Z r S') S 2 4 [(0, .ref (Z.2.1 30)), (1, .int x1), (2, .int x2), (3, .int x3)] []) : ∀ (S : Mem) (x1 x2 x3 : Int32), fX1_foeIsNear_44 k0 S x1 x2 x3 = some (r, S') → WN p l e { frames := 2, cells := 0, slots := 0, locals := 43 } s m args below meth c xL Z (XQ xL Z r S') S 44 4 [(0, .ref (Z.2.1 30)), (1, .int x1), (2, .int x2), (3, .int x3)] [] := by
  obtain ⟨hx, hb, -, -, -, -, -, -, -, hQ⟩ := id E
  intro S x1 x2 x3 h H locs ls X hl
  unfold fX1_foeIsNear_44 at h
  refine lv_iinc (v := (x3 + (1 : Int32))) (lv' := [(3, .int (x3 + (1 : Int32))), (0, .ref (Z.2.1 30)), (1, .int x1), (2, .int x2)]) hx hb dX1_foeIsNear_44 hl (k := 3) rfl rfl (by decide) rfl (fun ls hl => ?_)
  refine lv_goto (tgt := 2) hx hb dX1_foeIsNear_47 (by decide) ?_
  exact hk0 S x1 x2 (x3 + (1 : Int32)) h _ _ _ X (lv_sub hl [1, 2, 3, 0] rfl)
set_option maxRecDepth 20000 in
theorem wX1_foeIsNear_2_b {p : Program} {l : Launch} {e : Env} {s : State} {m : MethodId} {args : Array Value} {below : List Frame} {meth : Method} {c : Code} {Z : XG} {r : Int32} {S' : Mem} (E : XE p s m args meth c cX1_foeIsNear 4 RX1 (some .boolean) xL Z) (k0 : Mem → Int32 → Int32 → Int32 → O)  (hk0 : ∀ (S : Mem) (x1 x2 x3 : Int32), k0 S x1 x2 x3 = some (r, S') → WN p l e { frames := 2, cells := 0, slots := 0, locals := 43 } s m args below meth c xL Z (XQ xL Z r S') S 2 4 [(0, .ref (Z.2.1 30)), (1, .int x1), (2, .int x2), (3, .int x3)] []) : ∀ (S : Mem) (x1 x2 x3 : Int32), fX1_foeIsNear_2_b k0 S x1 x2 x3 = some (r, S') → WN p l e { frames := 2, cells := 0, slots := 0, locals := 43 } s m args below meth c xL Z (XQ xL Z r S') S 2 4 [(0, .ref (Z.2.1 30)), (1, .int x1), (2, .int x2), (3, .int x3)] [] := by
  obtain ⟨hx, hb, -, -, -, -, -, -, -, hQ⟩ := id E
  intro S x1 x2 x3 h H locs ls X hl
  unfold fX1_foeIsNear_2_b at h
  refine lv_iload_n hx hb dX1_foeIsNear_2 rfl (lv_at hl 3 rfl) ?_
  refine lv_aload_n hx hb dX1_foeIsNear_3 rfl (lv_at hl 0 rfl) ?_
  refine x_getr E X ffX1_15 rfl rfl dX1_foeIsNear_4 ?_
  refine x_get E X ffX1_29 rfl rfl dX1_foeIsNear_7 ?_
  refine lv_icmp_ge (tgt := 50) hx hb dX1_foeIsNear_10 (by decide) (fun c_1 => ?_) (fun c_1 => ?_)
  · have h := if_t c_1 h
    refine lv_iconst (v := (0 : Int32)) hx hb dX1_foeIsNear_50 (by decide) ?_
    exact x_zret E X rfl h dX1_foeIsNear_51
  · have h := if_f c_1 h
    refine lv_aload_n hx hb dX1_foeIsNear_13 rfl (lv_at hl 0 rfl) ?_
    refine x_getr E X ffX1_15 rfl rfl dX1_foeIsNear_14 ?_
    refine lv_iload_n hx hb dX1_foeIsNear_17 rfl (lv_at hl 1 rfl) ?_
    refine lv_iload_n hx hb dX1_foeIsNear_18 rfl (lv_at hl 3 rfl) ?_
    obtain ⟨r_2, S_3, hr_2, h⟩ := bnd_s h
    refine x_callV E X cwX1_101 (mX6_doQuarrel l Z hQ  x1 x3 hr_2) rfl rfl rfl rfl hl.1 rfl dX1_foeIsNear_19 (fun H locs X => ?_)
    refine lv_if_eq (tgt := 44) hx hb dX1_foeIsNear_22 (by decide) (fun c_4 => ?_) (fun c_4 => ?_)
    · have h := if_t c_4 h
      exact wX1_foeIsNear_44 E k0 hk0 S_3 x1 x2 x3 h _ _ _ X hl
    · have h := if_f c_4 h
      refine lv_iload_n hx hb dX1_foeIsNear_25 rfl (lv_at hl 2 rfl) ?_
      refine lv_aload_n hx hb dX1_foeIsNear_26 rfl (lv_at hl 0 rfl) ?_
      refine x_getr E X ffX1_15 rfl rfl dX1_foeIsNear_27 ?_
      refine lv_iload_n hx hb dX1_foeIsNear_30 rfl (lv_at hl 3 rfl) ?_
      refine lv_iconst (v := (0 : Int32)) hx hb dX1_foeIsNear_31 (by decide) ?_
      obtain ⟨r_5, S_6, hr_5, h⟩ := bnd_s h
      refine x_callV E X cwX1_86 (mX6_has l Z hQ  x3 (0 : Int32) hr_5) rfl rfl rfl rfl hl.1 rfl dX1_foeIsNear_32 (fun H locs X => ?_)
      obtain ⟨r_7, S_8, hr_7, h⟩ := bnd_s h
      refine x_callN E X cwX1_92 (mX7_farBetween l Z hQ  x2 r_5 hr_7) rfl rfl hl.1 rfl dX1_foeIsNear_35 (fun H locs X => ?_)
      refine lv_iconst (v := (1 : Int32)) hx hb dX1_foeIsNear_38 (by decide) ?_
      refine lv_icmp_gt (tgt := 44) hx hb dX1_foeIsNear_39 (by decide) (fun c_9 => ?_) (fun c_9 => ?_)
      · have h := if_t c_9 h
        exact wX1_foeIsNear_44 E k0 hk0 S_8 x1 x2 x3 h _ _ _ X hl
      · have h := if_f c_9 h
        refine lv_iconst (v := (1 : Int32)) hx hb dX1_foeIsNear_42 (by decide) ?_
        exact x_zret E X rfl h dX1_foeIsNear_43
theorem wX1_foeIsNear_2 {p : Program} {l : Launch} {e : Env} {s : State} {m : MethodId} {args : Array Value} {below : List Frame} {meth : Method} {c : Code} {Z : XG} {r : Int32} {S' : Mem} (E : XE p s m args meth c cX1_foeIsNear 4 RX1 (some .boolean) xL Z) : ∀ (n : Nat) (S : Mem) (x1 x2 x3 : Int32), fX1_foeIsNear_2 n S x1 x2 x3 = some (r, S') → WN p l e { frames := 2, cells := 0, slots := 0, locals := 43 } s m args below meth c xL Z (XQ xL Z r S') S 2 4 [(0, .ref (Z.2.1 30)), (1, .int x1), (2, .int x2), (3, .int x3)] [] := by
  intro n
  induction n with
  | zero => intro S x1 x2 x3 h; exact absurd (show (none : O) = some _ from h) (by simp)
  | succ n ih => intro S x1 x2 x3 h; exact wX1_foeIsNear_2_b E (fX1_foeIsNear_2 n) ih S x1 x2 x3 h
set_option maxRecDepth 20000 in
theorem wX1_foeIsNear {p : Program} {l : Launch} {e : Env} {s : State} {m : MethodId} {args : Array Value} {below : List Frame} {meth : Method} {c : Code} {Z : XG} {r : Int32} {S' : Mem} (E : XE p s m args meth c cX1_foeIsNear 4 RX1 (some .boolean) xL Z) : ∀ (S : Mem) (x1 x2 : Int32), fX1_foeIsNear  S x1 x2 = some (r, S') → WN p l e { frames := 2, cells := 0, slots := 0, locals := 43 } s m args below meth c xL Z (XQ xL Z r S') S 0 4 [(0, .ref (Z.2.1 30)), (1, .int x1), (2, .int x2)] [] := by
  obtain ⟨hx, hb, -, -, -, -, -, -, -, hQ⟩ := id E
  intro S x1 x2 h H locs ls X hl
  unfold fX1_foeIsNear at h
  refine lv_iconst (v := (0 : Int32)) hx hb dX1_foeIsNear_0 (by decide) ?_
  refine lv_istore_n (lv' := [(3, .int (0 : Int32)), (0, .ref (Z.2.1 30)), (1, .int x1), (2, .int x2)]) hx hb dX1_foeIsNear_1 rfl hl (by decide) rfl (fun ls hl => ?_)
  exact wX1_foeIsNear_2 E   FU S x1 x2 (0 : Int32) h _ _ _ X (lv_sub hl [1, 2, 3, 0] rfl)
/-- SevenToAShadow$March.foeIsNear(II)Z -/
theorem mX1_foeIsNear (l : Launch) (Z : XG) (hQ : wQ (List.length xL) Z) {S S' : Mem} {r : Int32} (x1 x2 : Int32) (h : fX1_foeIsNear S x1 x2 = some (r, S')) : XM l yX1_foeIsNear cX1_foeIsNear 4 (some .boolean) { frames := 2, cells := 0, slots := 0, locals := 43 } xL Z [.ref (Z.2.1 30), .int x1, .int x2] S (XQ xL Z r S') := by
  refine XM.of (own := RX1) (by decide +kernel) rfl rfl hQ (fun p e s m args below meth c E ls hl X => ?_)
  exact wX1_foeIsNear E S x1 x2 h _ _ _ X hl
def fX1_flee_43 (k0 : Mem → Int32 → Int32 → Int32 → O) (S : Mem) (x1 x2 x3 : Int32) : O := k0 S x1 x2 (x3 + (1 : Int32))
def fX1_flee_22_b (k0 : Mem → Int32 → Int32 → Int32 → O) (S : Mem) (x1 x2 x3 : Int32) : O := (if (25 : Int32) ≤ x3 then bnd (fX1_goToNearest S x1 x2) fun _ S_3 => some ((0 : Int32), S_3) else bnd (fX1_foeIsNear S x1 x3) fun r_4 S_5 => (if r_4 = 0 then lti (x2 ||| ((1 : Int32) <<< (x3 &&& 31))) fun x2_7 => fX1_flee_43 k0 S_5 x1 x2_7 x3 else fX1_flee_43 k0 S_5 x1 x2 x3))
def fX1_flee_22 : Nat → Mem → Int32 → Int32 → Int32 → O
  | 0 => fun _ _ _ _ => none
  | n + 1 => fX1_flee_22_b (fX1_flee_22 n)
def fX1_flee (S : Mem) (x1 : Int32) : O := bnd (fX6_has S x1 (0 : Int32)) fun r_1 S_2 => bnd (fX1_foeIsNear S_2 x1 r_1) fun r_3 S_4 => (if r_3 = 0 then some ((0 : Int32), S_4) else fX1_flee_22  FU S_4 x1 (0 : Int32) (0 : Int32))
theorem dX1_flee_0 : decode cX1_flee 0 = .ok (.aload_n 0, 1) := by decide +kernel
theorem dX1_flee_1 : decode cX1_flee 1 = .ok (.iload_n 1, 1) := by decide +kernel
theorem dX1_flee_2 : decode cX1_flee 2 = .ok (.aload_n 0, 1) := by decide +kernel
theorem dX1_flee_3 : decode cX1_flee 3 = .ok (.getfield 15, 3) := by decide +kernel
theorem dX1_flee_6 : decode cX1_flee 6 = .ok (.iload_n 1, 1) := by decide +kernel
theorem dX1_flee_7 : decode cX1_flee 7 = .ok (.iconst 0, 1) := by decide +kernel
theorem dX1_flee_8 : decode cX1_flee 8 = .ok (.invokevirtual 86, 3) := by decide +kernel
theorem dX1_flee_11 : decode cX1_flee 11 = .ok (.invokevirtual 98, 3) := by decide +kernel
theorem dX1_flee_14 : decode cX1_flee 14 = .ok (.ifCond .ne 4, 3) := by decide +kernel
theorem dX1_flee_17 : decode cX1_flee 17 = .ok (.return_, 1) := by decide +kernel
theorem dX1_flee_18 : decode cX1_flee 18 = .ok (.iconst 0, 1) := by decide +kernel
theorem dX1_flee_19 : decode cX1_flee 19 = .ok (.istore_n 2, 1) := by decide +kernel
theorem dX1_flee_20 : decode cX1_flee 20 = .ok (.iconst 0, 1) := by decide +kernel
theorem dX1_flee_21 : decode cX1_flee 21 = .ok (.istore_n 3, 1) := by decide +kernel
theorem dX1_flee_22 : decode cX1_flee 22 = .ok (.iload_n 3, 1) := by decide +kernel
theorem dX1_flee_23 : decode cX1_flee 23 = .ok (.bipush 25, 2) := by decide +kernel
theorem dX1_flee_25 : decode cX1_flee 25 = .ok (.if_icmp .ge 24, 3) := by decide +kernel
theorem dX1_flee_28 : decode cX1_flee 28 = .ok (.aload_n 0, 1) := by decide +kernel
theorem dX1_flee_29 : decode cX1_flee 29 = .ok (.iload_n 1, 1) := by decide +kernel
theorem dX1_flee_30 : decode cX1_flee 30 = .ok (.iload_n 3, 1) := by decide +kernel
theorem dX1_flee_31 : decode cX1_flee 31 = .ok (.invokevirtual 98, 3) := by decide +kernel
theorem dX1_flee_34 : decode cX1_flee 34 = .ok (.ifCond .ne 9, 3) := by decide +kernel
theorem dX1_flee_37 : decode cX1_flee 37 = .ok (.iload_n 2, 1) := by decide +kernel
theorem dX1_flee_38 : decode cX1_flee 38 = .ok (.iconst 1, 1) := by decide +kernel
theorem dX1_flee_39 : decode cX1_flee 39 = .ok (.iload_n 3, 1) := by decide +kernel
theorem dX1_flee_40 : decode cX1_flee 40 = .ok (.ishl, 1) := by decide +kernel
theorem dX1_flee_41 : decode cX1_flee 41 = .ok (.ior, 1) := by decide +kernel
theorem dX1_flee_42 : decode cX1_flee 42 = .ok (.istore_n 2, 1) := by decide +kernel
theorem dX1_flee_43 : decode cX1_flee 43 = .ok (.iinc 3 1, 3) := by decide +kernel
theorem dX1_flee_46 : decode cX1_flee 46 = .ok (.goto (-24), 3) := by decide +kernel
theorem dX1_flee_49 : decode cX1_flee 49 = .ok (.aload_n 0, 1) := by decide +kernel
theorem dX1_flee_50 : decode cX1_flee 50 = .ok (.iload_n 1, 1) := by decide +kernel
theorem dX1_flee_51 : decode cX1_flee 51 = .ok (.iload_n 2, 1) := by decide +kernel
theorem dX1_flee_52 : decode cX1_flee 52 = .ok (.invokevirtual 79, 3) := by decide +kernel
theorem dX1_flee_55 : decode cX1_flee 55 = .ok (.return_, 1) := by decide +kernel
set_option maxRecDepth 20000 in
theorem wX1_flee_43 {p : Program} {l : Launch} {e : Env} {s : State} {m : MethodId} {args : Array Value} {below : List Frame} {meth : Method} {c : Code} {Z : XG} {r : Int32} {S' : Mem} (E : XE p s m args meth c cX1_flee 4 RX1 none xL Z) (k0 : Mem → Int32 → Int32 → Int32 → O)  (hk0 : ∀ (S : Mem) (x1 x2 x3 : Int32), k0 S x1 x2 x3 = some (r, S') → WN p l e { frames := 4, cells := 0, slots := 0, locals := 92 } s m args below meth c xL Z (XV xL Z S') S 22 4 [(0, .ref (Z.2.1 30)), (1, .int x1), (2, .int x2), (3, .int x3)] []) : ∀ (S : Mem) (x1 x2 x3 : Int32), fX1_flee_43 k0 S x1 x2 x3 = some (r, S') → WN p l e { frames := 4, cells := 0, slots := 0, locals := 92 } s m args below meth c xL Z (XV xL Z S') S 43 4 [(0, .ref (Z.2.1 30)), (1, .int x1), (2, .int x2), (3, .int x3)] [] := by
  obtain ⟨hx, hb, -, -, -, -, -, -, -, hQ⟩ := id E
  intro S x1 x2 x3 h H locs ls X hl
  unfold fX1_flee_43 at h
  refine lv_iinc (v := (x3 + (1 : Int32))) (lv' := [(3, .int (x3 + (1 : Int32))), (0, .ref (Z.2.1 30)), (1, .int x1), (2, .int x2)]) hx hb dX1_flee_43 hl (k := 3) rfl rfl (by decide) rfl (fun ls hl => ?_)
  refine lv_goto (tgt := 22) hx hb dX1_flee_46 (by decide) ?_
  exact hk0 S x1 x2 (x3 + (1 : Int32)) h _ _ _ X (lv_sub hl [1, 2, 3, 0] rfl)
set_option maxRecDepth 20000 in
theorem wX1_flee_22_b {p : Program} {l : Launch} {e : Env} {s : State} {m : MethodId} {args : Array Value} {below : List Frame} {meth : Method} {c : Code} {Z : XG} {r : Int32} {S' : Mem} (E : XE p s m args meth c cX1_flee 4 RX1 none xL Z) (k0 : Mem → Int32 → Int32 → Int32 → O)  (hk0 : ∀ (S : Mem) (x1 x2 x3 : Int32), k0 S x1 x2 x3 = some (r, S') → WN p l e { frames := 4, cells := 0, slots := 0, locals := 92 } s m args below meth c xL Z (XV xL Z S') S 22 4 [(0, .ref (Z.2.1 30)), (1, .int x1), (2, .int x2), (3, .int x3)] []) : ∀ (S : Mem) (x1 x2 x3 : Int32), fX1_flee_22_b k0 S x1 x2 x3 = some (r, S') → WN p l e { frames := 4, cells := 0, slots := 0, locals := 92 } s m args below meth c xL Z (XV xL Z S') S 22 4 [(0, .ref (Z.2.1 30)), (1, .int x1), (2, .int x2), (3, .int x3)] [] := by
  obtain ⟨hx, hb, -, -, -, -, -, -, -, hQ⟩ := id E
  intro S x1 x2 x3 h H locs ls X hl
  unfold fX1_flee_22_b at h
  refine lv_iload_n hx hb dX1_flee_22 rfl (lv_at hl 3 rfl) ?_
  refine lv_bipush (v := (25 : Int32)) hx hb dX1_flee_23 (by decide) ?_
  refine lv_icmp_ge (tgt := 49) hx hb dX1_flee_25 (by decide) (fun c_1 => ?_) (fun c_1 => ?_)
  · have h := if_t c_1 h
    refine lv_aload_n hx hb dX1_flee_49 rfl (lv_at hl 0 rfl) ?_
    refine lv_iload_n hx hb dX1_flee_50 rfl (lv_at hl 1 rfl) ?_
    refine lv_iload_n hx hb dX1_flee_51 rfl (lv_at hl 2 rfl) ?_
    obtain ⟨r_2, S_3, hr_2, h⟩ := bnd_s h
    refine x_callVv E X cwX1_79 (mX1_goToNearest l Z hQ  x1 x2 hr_2) rfl rfl rfl rfl hl.1 rfl dX1_flee_52 (fun H locs X => ?_)
    exact x_vret E X h dX1_flee_55
  · have h := if_f c_1 h
    refine lv_aload_n hx hb dX1_flee_28 rfl (lv_at hl 0 rfl) ?_
    refine lv_iload_n hx hb dX1_flee_29 rfl (lv_at hl 1 rfl) ?_
    refine lv_iload_n hx hb dX1_flee_30 rfl (lv_at hl 3 rfl) ?_
    obtain ⟨r_4, S_5, hr_4, h⟩ := bnd_s h
    refine x_callV E X cwX1_98 (mX1_foeIsNear l Z hQ  x1 x3 hr_4) rfl rfl rfl rfl hl.1 rfl dX1_flee_31 (fun H locs X => ?_)
    refine lv_if_ne (tgt := 43) hx hb dX1_flee_34 (by decide) (fun c_6 => ?_) (fun c_6 => ?_)
    · have h := if_f c_6 h
      exact wX1_flee_43 E k0 hk0 S_5 x1 x2 x3 h _ _ _ X hl
    · have h := if_t c_6 h
      refine lv_iload_n hx hb dX1_flee_37 rfl (lv_at hl 2 rfl) ?_
      refine lv_iconst (v := (1 : Int32)) hx hb dX1_flee_38 (by decide) ?_
      refine lv_iload_n hx hb dX1_flee_39 rfl (lv_at hl 3 rfl) ?_
      refine lv_ishl hx hb dX1_flee_40 ?_
      refine lv_ior hx hb dX1_flee_41 ?_
      obtain ⟨x2_7, ex2_7, h⟩ := lti_s h
      refine lv_nm ex2_7 ?_
      refine lv_istore_n (lv' := [(2, .int x2_7), (0, .ref (Z.2.1 30)), (1, .int x1), (3, .int x3)]) hx hb dX1_flee_42 rfl hl (by decide) rfl (fun ls hl => ?_)
      exact wX1_flee_43 E k0 hk0 S_5 x1 x2_7 x3 h _ _ _ X (lv_sub hl [1, 2, 0, 3] rfl)
theorem wX1_flee_22 {p : Program} {l : Launch} {e : Env} {s : State} {m : MethodId} {args : Array Value} {below : List Frame} {meth : Method} {c : Code} {Z : XG} {r : Int32} {S' : Mem} (E : XE p s m args meth c cX1_flee 4 RX1 none xL Z) : ∀ (n : Nat) (S : Mem) (x1 x2 x3 : Int32), fX1_flee_22 n S x1 x2 x3 = some (r, S') → WN p l e { frames := 4, cells := 0, slots := 0, locals := 92 } s m args below meth c xL Z (XV xL Z S') S 22 4 [(0, .ref (Z.2.1 30)), (1, .int x1), (2, .int x2), (3, .int x3)] [] := by
  intro n
  induction n with
  | zero => intro S x1 x2 x3 h; exact absurd (show (none : O) = some _ from h) (by simp)
  | succ n ih => intro S x1 x2 x3 h; exact wX1_flee_22_b E (fX1_flee_22 n) ih S x1 x2 x3 h
set_option maxRecDepth 20000 in
theorem wX1_flee {p : Program} {l : Launch} {e : Env} {s : State} {m : MethodId} {args : Array Value} {below : List Frame} {meth : Method} {c : Code} {Z : XG} {r : Int32} {S' : Mem} (E : XE p s m args meth c cX1_flee 4 RX1 none xL Z) : ∀ (S : Mem) (x1 : Int32), fX1_flee  S x1 = some (r, S') → WN p l e { frames := 4, cells := 0, slots := 0, locals := 92 } s m args below meth c xL Z (XV xL Z S') S 0 4 [(0, .ref (Z.2.1 30)), (1, .int x1)] [] := by
  obtain ⟨hx, hb, -, -, -, -, -, -, -, hQ⟩ := id E
  intro S x1 h H locs ls X hl
  unfold fX1_flee at h
  refine lv_aload_n hx hb dX1_flee_0 rfl (lv_at hl 0 rfl) ?_
  refine lv_iload_n hx hb dX1_flee_1 rfl (lv_at hl 1 rfl) ?_
  refine lv_aload_n hx hb dX1_flee_2 rfl (lv_at hl 0 rfl) ?_
  refine x_getr E X ffX1_15 rfl rfl dX1_flee_3 ?_
  refine lv_iload_n hx hb dX1_flee_6 rfl (lv_at hl 1 rfl) ?_
  refine lv_iconst (v := (0 : Int32)) hx hb dX1_flee_7 (by decide) ?_
  obtain ⟨r_1, S_2, hr_1, h⟩ := bnd_s h
  refine x_callV E X cwX1_86 (mX6_has l Z hQ  x1 (0 : Int32) hr_1) rfl rfl rfl rfl hl.1 rfl dX1_flee_8 (fun H locs X => ?_)
  obtain ⟨r_3, S_4, hr_3, h⟩ := bnd_s h
  refine x_callV E X cwX1_98 (mX1_foeIsNear l Z hQ  x1 r_1 hr_3) rfl rfl rfl rfl hl.1 rfl dX1_flee_11 (fun H locs X => ?_)
  refine lv_if_ne (tgt := 18) hx hb dX1_flee_14 (by decide) (fun c_5 => ?_) (fun c_5 => ?_)
  · have h := if_f c_5 h
    refine lv_iconst (v := (0 : Int32)) hx hb dX1_flee_18 (by decide) ?_
    refine lv_istore_n (lv' := [(2, .int (0 : Int32)), (0, .ref (Z.2.1 30)), (1, .int x1)]) hx hb dX1_flee_19 rfl hl (by decide) rfl (fun ls hl => ?_)
    refine lv_iconst (v := (0 : Int32)) hx hb dX1_flee_20 (by decide) ?_
    refine lv_istore_n (lv' := [(3, .int (0 : Int32)), (2, .int (0 : Int32)), (0, .ref (Z.2.1 30)), (1, .int x1)]) hx hb dX1_flee_21 rfl hl (by decide) rfl (fun ls hl => ?_)
    exact wX1_flee_22 E   FU S_4 x1 (0 : Int32) (0 : Int32) h _ _ _ X (lv_sub hl [2, 3, 1, 0] rfl)
  · have h := if_t c_5 h
    exact x_vret E X h dX1_flee_17
/-- SevenToAShadow$March.flee(I)V -/
theorem mX1_flee (l : Launch) (Z : XG) (hQ : wQ (List.length xL) Z) {S S' : Mem} {r : Int32} (x1 : Int32) (h : fX1_flee S x1 = some (r, S')) : XM l yX1_flee cX1_flee 4 none { frames := 4, cells := 0, slots := 0, locals := 92 } xL Z [.ref (Z.2.1 30), .int x1] S (XV xL Z S') := by
  refine XM.of (own := RX1) (by decide +kernel) rfl rfl hQ (fun p e s m args below meth c E ls hl X => ?_)
  exact wX1_flee E S x1 h _ _ _ X hl
def fX1_findSeller_115 (k0 : Mem → Int32 → Int32 → Int32 → Int32 → O) (S : Mem) (x2 x3 x4 x5 : Int32) : O := k0 S x2 x3 x4 (x5 + (1 : Int32))
def fX1_findSeller_63 (k0 : Mem → Int32 → Int32 → Int32 → Int32 → O) (S : Mem) (x2 x3 x4 x5 s0 : Int32) : O := (if s0 = 0 then bnd (fX6_isShaded S x5 x2) fun r_2 S_3 => (if r_2 = 0 then fX1_findSeller_115 k0 S_3 x2 x3 x4 x5 else bnd (fX6_has S_3 x5 (7 : Int32)) fun r_5 S_6 => (if x4 ≤ r_5 then fX1_findSeller_115 k0 S_6 x2 x3 x4 x5 else bnd (fX6_has S_6 x5 (7 : Int32)) fun r_8 S_9 => fX1_findSeller_115 k0 S_9 x2 x5 r_8 x5)) else fX1_findSeller_115 k0 S x2 x3 x4 x5)
def fX1_findSeller_58 (k0 : Mem → Int32 → Int32 → Int32 → Int32 → O) (S : Mem) (x2 x3 x4 x5 : Int32) : O := fX1_findSeller_63 k0 S x2 x3 x4 x5 (1 : Int32)
def fX1_findSeller_17_b (k0 : Mem → Int32 → Int32 → Int32 → Int32 → O) (S : Mem) (x2 x3 x4 x5 : Int32) : O := (if (S 1 9) ≤ x5 then some (x3, S) else bnd (fX6_has S x5 (5 : Int32)) fun r_2 S_3 => (if r_2 = (1 : Int32) then fX1_findSeller_58 k0 S_3 x2 x3 x4 x5 else bnd (fX6_has S_3 x5 (6 : Int32)) fun r_5 S_6 => (if r_5 = (1 : Int32) then fX1_findSeller_58 k0 S_6 x2 x3 x4 x5 else fX1_findSeller_63 k0 S_6 x2 x3 x4 x5 (0 : Int32))))
def fX1_findSeller_17 : Nat → Mem → Int32 → Int32 → Int32 → Int32 → O
  | 0 => fun _ _ _ _ _ => none
  | n + 1 => fX1_findSeller_17_b (fX1_findSeller_17 n)
def fX1_findSeller (S : Mem) (x1 x2 : Int32) : O := bnd (fX6_has S x1 (7 : Int32)) fun r_1 S_2 => fX1_findSeller_17  FU S_2 x2 (-1 : Int32) r_1 (0 : Int32)
theorem dX1_findSeller_0 : decode cX1_findSeller 0 = .ok (.iconst (-1), 1) := by decide +kernel
theorem dX1_findSeller_1 : decode cX1_findSeller 1 = .ok (.istore_n 3, 1) := by decide +kernel
theorem dX1_findSeller_2 : decode cX1_findSeller 2 = .ok (.aload_n 0, 1) := by decide +kernel
theorem dX1_findSeller_3 : decode cX1_findSeller 3 = .ok (.getfield 15, 3) := by decide +kernel
theorem dX1_findSeller_6 : decode cX1_findSeller 6 = .ok (.iload_n 1, 1) := by decide +kernel
theorem dX1_findSeller_7 : decode cX1_findSeller 7 = .ok (.bipush 7, 2) := by decide +kernel
theorem dX1_findSeller_9 : decode cX1_findSeller 9 = .ok (.invokevirtual 86, 3) := by decide +kernel
theorem dX1_findSeller_12 : decode cX1_findSeller 12 = .ok (.istore 4, 2) := by decide +kernel
theorem dX1_findSeller_14 : decode cX1_findSeller 14 = .ok (.iconst 0, 1) := by decide +kernel
theorem dX1_findSeller_15 : decode cX1_findSeller 15 = .ok (.istore 5, 2) := by decide +kernel
theorem dX1_findSeller_17 : decode cX1_findSeller 17 = .ok (.iload 5, 2) := by decide +kernel
theorem dX1_findSeller_19 : decode cX1_findSeller 19 = .ok (.aload_n 0, 1) := by decide +kernel
theorem dX1_findSeller_20 : decode cX1_findSeller 20 = .ok (.getfield 15, 3) := by decide +kernel
theorem dX1_findSeller_23 : decode cX1_findSeller 23 = .ok (.getfield 29, 3) := by decide +kernel
theorem dX1_findSeller_26 : decode cX1_findSeller 26 = .ok (.if_icmp .ge 95, 3) := by decide +kernel
theorem dX1_findSeller_29 : decode cX1_findSeller 29 = .ok (.aload_n 0, 1) := by decide +kernel
theorem dX1_findSeller_30 : decode cX1_findSeller 30 = .ok (.getfield 15, 3) := by decide +kernel
theorem dX1_findSeller_33 : decode cX1_findSeller 33 = .ok (.iload 5, 2) := by decide +kernel
theorem dX1_findSeller_35 : decode cX1_findSeller 35 = .ok (.iconst 5, 1) := by decide +kernel
theorem dX1_findSeller_36 : decode cX1_findSeller 36 = .ok (.invokevirtual 86, 3) := by decide +kernel
theorem dX1_findSeller_39 : decode cX1_findSeller 39 = .ok (.iconst 1, 1) := by decide +kernel
theorem dX1_findSeller_40 : decode cX1_findSeller 40 = .ok (.if_icmp .eq 18, 3) := by decide +kernel
theorem dX1_findSeller_43 : decode cX1_findSeller 43 = .ok (.aload_n 0, 1) := by decide +kernel
theorem dX1_findSeller_44 : decode cX1_findSeller 44 = .ok (.getfield 15, 3) := by decide +kernel
theorem dX1_findSeller_47 : decode cX1_findSeller 47 = .ok (.iload 5, 2) := by decide +kernel
theorem dX1_findSeller_49 : decode cX1_findSeller 49 = .ok (.bipush 6, 2) := by decide +kernel
theorem dX1_findSeller_51 : decode cX1_findSeller 51 = .ok (.invokevirtual 86, 3) := by decide +kernel
theorem dX1_findSeller_54 : decode cX1_findSeller 54 = .ok (.iconst 1, 1) := by decide +kernel
theorem dX1_findSeller_55 : decode cX1_findSeller 55 = .ok (.if_icmp .ne 7, 3) := by decide +kernel
theorem dX1_findSeller_58 : decode cX1_findSeller 58 = .ok (.iconst 1, 1) := by decide +kernel
theorem dX1_findSeller_59 : decode cX1_findSeller 59 = .ok (.goto 4, 3) := by decide +kernel
theorem dX1_findSeller_62 : decode cX1_findSeller 62 = .ok (.iconst 0, 1) := by decide +kernel
theorem dX1_findSeller_63 : decode cX1_findSeller 63 = .ok (.istore 6, 2) := by decide +kernel
theorem dX1_findSeller_65 : decode cX1_findSeller 65 = .ok (.iload 6, 2) := by decide +kernel
theorem dX1_findSeller_67 : decode cX1_findSeller 67 = .ok (.ifCond .ne 48, 3) := by decide +kernel
theorem dX1_findSeller_70 : decode cX1_findSeller 70 = .ok (.aload_n 0, 1) := by decide +kernel
theorem dX1_findSeller_71 : decode cX1_findSeller 71 = .ok (.getfield 15, 3) := by decide +kernel
theorem dX1_findSeller_74 : decode cX1_findSeller 74 = .ok (.iload 5, 2) := by decide +kernel
theorem dX1_findSeller_76 : decode cX1_findSeller 76 = .ok (.iload_n 2, 1) := by decide +kernel
theorem dX1_findSeller_77 : decode cX1_findSeller 77 = .ok (.invokevirtual 57, 3) := by decide +kernel
theorem dX1_findSeller_80 : decode cX1_findSeller 80 = .ok (.ifCond .eq 35, 3) := by decide +kernel
theorem dX1_findSeller_83 : decode cX1_findSeller 83 = .ok (.aload_n 0, 1) := by decide +kernel
theorem dX1_findSeller_84 : decode cX1_findSeller 84 = .ok (.getfield 15, 3) := by decide +kernel
theorem dX1_findSeller_87 : decode cX1_findSeller 87 = .ok (.iload 5, 2) := by decide +kernel
theorem dX1_findSeller_89 : decode cX1_findSeller 89 = .ok (.bipush 7, 2) := by decide +kernel
theorem dX1_findSeller_91 : decode cX1_findSeller 91 = .ok (.invokevirtual 86, 3) := by decide +kernel
theorem dX1_findSeller_94 : decode cX1_findSeller 94 = .ok (.iload 4, 2) := by decide +kernel
theorem dX1_findSeller_96 : decode cX1_findSeller 96 = .ok (.if_icmp .ge 19, 3) := by decide +kernel
theorem dX1_findSeller_99 : decode cX1_findSeller 99 = .ok (.iload 5, 2) := by decide +kernel
theorem dX1_findSeller_101 : decode cX1_findSeller 101 = .ok (.istore_n 3, 1) := by decide +kernel
theorem dX1_findSeller_102 : decode cX1_findSeller 102 = .ok (.aload_n 0, 1) := by decide +kernel
theorem dX1_findSeller_103 : decode cX1_findSeller 103 = .ok (.getfield 15, 3) := by decide +kernel
theorem dX1_findSeller_106 : decode cX1_findSeller 106 = .ok (.iload 5, 2) := by decide +kernel
theorem dX1_findSeller_108 : decode cX1_findSeller 108 = .ok (.bipush 7, 2) := by decide +kernel
theorem dX1_findSeller_110 : decode cX1_findSeller 110 = .ok (.invokevirtual 86, 3) := by decide +kernel
theorem dX1_findSeller_113 : decode cX1_findSeller 113 = .ok (.istore 4, 2) := by decide +kernel
theorem dX1_findSeller_115 : decode cX1_findSeller 115 = .ok (.iinc 5 1, 3) := by decide +kernel
theorem dX1_findSeller_118 : decode cX1_findSeller 118 = .ok (.goto (-101), 3) := by decide +kernel
theorem dX1_findSeller_121 : decode cX1_findSeller 121 = .ok (.iload_n 3, 1) := by decide +kernel
theorem dX1_findSeller_122 : decode cX1_findSeller 122 = .ok (.ireturn, 1) := by decide +kernel
set_option maxRecDepth 20000 in
theorem wX1_findSeller_115 {p : Program} {l : Launch} {e : Env} {s : State} {m : MethodId} {args : Array Value} {below : List Frame} {meth : Method} {c : Code} {Z : XG} {r : Int32} {S' : Mem} (E : XE p s m args meth c cX1_findSeller 7 RX1 (some .int) xL Z) (k0 : Mem → Int32 → Int32 → Int32 → Int32 → O)  (hk0 : ∀ (S : Mem) (x2 x3 x4 x5 : Int32), k0 S x2 x3 x4 x5 = some (r, S') → WN p l e { frames := 3, cells := 0, slots := 0, locals := 65 } s m args below meth c xL Z (XQ xL Z r S') S 17 7 [(0, .ref (Z.2.1 30)), (2, .int x2), (3, .int x3), (4, .int x4), (5, .int x5)] []) : ∀ (S : Mem) (x2 x3 x4 x5 : Int32), fX1_findSeller_115 k0 S x2 x3 x4 x5 = some (r, S') → WN p l e { frames := 3, cells := 0, slots := 0, locals := 65 } s m args below meth c xL Z (XQ xL Z r S') S 115 7 [(0, .ref (Z.2.1 30)), (2, .int x2), (3, .int x3), (4, .int x4), (5, .int x5)] [] := by
  obtain ⟨hx, hb, -, -, -, -, -, -, -, hQ⟩ := id E
  intro S x2 x3 x4 x5 h H locs ls X hl
  unfold fX1_findSeller_115 at h
  refine lv_iinc (v := (x5 + (1 : Int32))) (lv' := [(5, .int (x5 + (1 : Int32))), (0, .ref (Z.2.1 30)), (2, .int x2), (3, .int x3), (4, .int x4)]) hx hb dX1_findSeller_115 hl (k := 4) rfl rfl (by decide) rfl (fun ls hl => ?_)
  refine lv_goto (tgt := 17) hx hb dX1_findSeller_118 (by decide) ?_
  exact hk0 S x2 x3 x4 (x5 + (1 : Int32)) h _ _ _ X (lv_sub hl [1, 2, 3, 4, 0] rfl)
set_option maxRecDepth 20000 in
theorem wX1_findSeller_63 {p : Program} {l : Launch} {e : Env} {s : State} {m : MethodId} {args : Array Value} {below : List Frame} {meth : Method} {c : Code} {Z : XG} {r : Int32} {S' : Mem} (E : XE p s m args meth c cX1_findSeller 7 RX1 (some .int) xL Z) (k0 : Mem → Int32 → Int32 → Int32 → Int32 → O)  (hk0 : ∀ (S : Mem) (x2 x3 x4 x5 : Int32), k0 S x2 x3 x4 x5 = some (r, S') → WN p l e { frames := 3, cells := 0, slots := 0, locals := 65 } s m args below meth c xL Z (XQ xL Z r S') S 17 7 [(0, .ref (Z.2.1 30)), (2, .int x2), (3, .int x3), (4, .int x4), (5, .int x5)] []) : ∀ (S : Mem) (x2 x3 x4 x5 s0 : Int32), fX1_findSeller_63 k0 S x2 x3 x4 x5 s0 = some (r, S') → WN p l e { frames := 3, cells := 0, slots := 0, locals := 65 } s m args below meth c xL Z (XQ xL Z r S') S 63 7 [(0, .ref (Z.2.1 30)), (2, .int x2), (3, .int x3), (4, .int x4), (5, .int x5)] [.int s0] := by
  obtain ⟨hx, hb, -, -, -, -, -, -, -, hQ⟩ := id E
  intro S x2 x3 x4 x5 s0 h H locs ls X hl
  unfold fX1_findSeller_63 at h
  refine lv_istore (lv' := [(6, .int s0), (0, .ref (Z.2.1 30)), (2, .int x2), (3, .int x3), (4, .int x4), (5, .int x5)]) hx hb dX1_findSeller_63 hl (by decide) rfl (fun ls hl => ?_)
  refine lv_iload hx hb dX1_findSeller_65 (lv_at hl 0 rfl) ?_
  refine lv_if_ne (tgt := 115) hx hb dX1_findSeller_67 (by decide) (fun c_1 => ?_) (fun c_1 => ?_)
  · have h := if_f c_1 h
    exact wX1_findSeller_115 E k0 hk0 S x2 x3 x4 x5 h _ _ _ X (lv_sub hl [1, 2, 3, 4, 5] rfl)
  · have h := if_t c_1 h
    refine lv_aload_n hx hb dX1_findSeller_70 rfl (lv_at hl 1 rfl) ?_
    refine x_getr E X ffX1_15 rfl rfl dX1_findSeller_71 ?_
    refine lv_iload hx hb dX1_findSeller_74 (lv_at hl 5 rfl) ?_
    refine lv_iload_n hx hb dX1_findSeller_76 rfl (lv_at hl 2 rfl) ?_
    obtain ⟨r_2, S_3, hr_2, h⟩ := bnd_s h
    refine x_callV E X cwX1_57 (mX6_isShaded l Z hQ  x5 x2 hr_2) rfl rfl rfl rfl hl.1 rfl dX1_findSeller_77 (fun H locs X => ?_)
    refine lv_if_eq (tgt := 115) hx hb dX1_findSeller_80 (by decide) (fun c_4 => ?_) (fun c_4 => ?_)
    · have h := if_t c_4 h
      exact wX1_findSeller_115 E k0 hk0 S_3 x2 x3 x4 x5 h _ _ _ X (lv_sub hl [1, 2, 3, 4, 5] rfl)
    · have h := if_f c_4 h
      refine lv_aload_n hx hb dX1_findSeller_83 rfl (lv_at hl 1 rfl) ?_
      refine x_getr E X ffX1_15 rfl rfl dX1_findSeller_84 ?_
      refine lv_iload hx hb dX1_findSeller_87 (lv_at hl 5 rfl) ?_
      refine lv_bipush (v := (7 : Int32)) hx hb dX1_findSeller_89 (by decide) ?_
      obtain ⟨r_5, S_6, hr_5, h⟩ := bnd_s h
      refine x_callV E X cwX1_86 (mX6_has l Z hQ  x5 (7 : Int32) hr_5) rfl rfl rfl rfl hl.1 rfl dX1_findSeller_91 (fun H locs X => ?_)
      refine lv_iload hx hb dX1_findSeller_94 (lv_at hl 4 rfl) ?_
      refine lv_icmp_ge (tgt := 115) hx hb dX1_findSeller_96 (by decide) (fun c_7 => ?_) (fun c_7 => ?_)
      · have h := if_t c_7 h
        exact wX1_findSeller_115 E k0 hk0 S_6 x2 x3 x4 x5 h _ _ _ X (lv_sub hl [1, 2, 3, 4, 5] rfl)
      · have h := if_f c_7 h
        refine lv_iload hx hb dX1_findSeller_99 (lv_at hl 5 rfl) ?_
        refine lv_istore_n (lv' := [(3, .int x5), (6, .int s0), (0, .ref (Z.2.1 30)), (2, .int x2), (4, .int x4), (5, .int x5)]) hx hb dX1_findSeller_101 rfl hl (by decide) rfl (fun ls hl => ?_)
        refine lv_aload_n hx hb dX1_findSeller_102 rfl (lv_at hl 2 rfl) ?_
        refine x_getr E X ffX1_15 rfl rfl dX1_findSeller_103 ?_
        refine lv_iload hx hb dX1_findSeller_106 (lv_at hl 5 rfl) ?_
        refine lv_bipush (v := (7 : Int32)) hx hb dX1_findSeller_108 (by decide) ?_
        obtain ⟨r_8, S_9, hr_8, h⟩ := bnd_s h
        refine x_callV E X cwX1_86 (mX6_has l Z hQ  x5 (7 : Int32) hr_8) rfl rfl rfl rfl hl.1 rfl dX1_findSeller_110 (fun H locs X => ?_)
        refine lv_istore (lv' := [(4, .int r_8), (3, .int x5), (6, .int s0), (0, .ref (Z.2.1 30)), (2, .int x2), (5, .int x5)]) hx hb dX1_findSeller_113 hl (by decide) rfl (fun ls hl => ?_)
        exact wX1_findSeller_115 E k0 hk0 S_9 x2 x5 r_8 x5 h _ _ _ X (lv_sub hl [3, 4, 1, 0, 5] rfl)
set_option maxRecDepth 20000 in
theorem wX1_findSeller_58 {p : Program} {l : Launch} {e : Env} {s : State} {m : MethodId} {args : Array Value} {below : List Frame} {meth : Method} {c : Code} {Z : XG} {r : Int32} {S' : Mem} (E : XE p s m args meth c cX1_findSeller 7 RX1 (some .int) xL Z) (k0 : Mem → Int32 → Int32 → Int32 → Int32 → O)  (hk0 : ∀ (S : Mem) (x2 x3 x4 x5 : Int32), k0 S x2 x3 x4 x5 = some (r, S') → WN p l e { frames := 3, cells := 0, slots := 0, locals := 65 } s m args below meth c xL Z (XQ xL Z r S') S 17 7 [(0, .ref (Z.2.1 30)), (2, .int x2), (3, .int x3), (4, .int x4), (5, .int x5)] []) : ∀ (S : Mem) (x2 x3 x4 x5 : Int32), fX1_findSeller_58 k0 S x2 x3 x4 x5 = some (r, S') → WN p l e { frames := 3, cells := 0, slots := 0, locals := 65 } s m args below meth c xL Z (XQ xL Z r S') S 58 7 [(0, .ref (Z.2.1 30)), (2, .int x2), (3, .int x3), (4, .int x4), (5, .int x5)] [] := by
  obtain ⟨hx, hb, -, -, -, -, -, -, -, hQ⟩ := id E
  intro S x2 x3 x4 x5 h H locs ls X hl
  unfold fX1_findSeller_58 at h
  refine lv_iconst (v := (1 : Int32)) hx hb dX1_findSeller_58 (by decide) ?_
  refine lv_goto (tgt := 63) hx hb dX1_findSeller_59 (by decide) ?_
  exact wX1_findSeller_63 E k0 hk0 S x2 x3 x4 x5 (1 : Int32) h _ _ _ X hl
set_option maxRecDepth 20000 in
theorem wX1_findSeller_17_b {p : Program} {l : Launch} {e : Env} {s : State} {m : MethodId} {args : Array Value} {below : List Frame} {meth : Method} {c : Code} {Z : XG} {r : Int32} {S' : Mem} (E : XE p s m args meth c cX1_findSeller 7 RX1 (some .int) xL Z) (k0 : Mem → Int32 → Int32 → Int32 → Int32 → O)  (hk0 : ∀ (S : Mem) (x2 x3 x4 x5 : Int32), k0 S x2 x3 x4 x5 = some (r, S') → WN p l e { frames := 3, cells := 0, slots := 0, locals := 65 } s m args below meth c xL Z (XQ xL Z r S') S 17 7 [(0, .ref (Z.2.1 30)), (2, .int x2), (3, .int x3), (4, .int x4), (5, .int x5)] []) : ∀ (S : Mem) (x2 x3 x4 x5 : Int32), fX1_findSeller_17_b k0 S x2 x3 x4 x5 = some (r, S') → WN p l e { frames := 3, cells := 0, slots := 0, locals := 65 } s m args below meth c xL Z (XQ xL Z r S') S 17 7 [(0, .ref (Z.2.1 30)), (2, .int x2), (3, .int x3), (4, .int x4), (5, .int x5)] [] := by
  obtain ⟨hx, hb, -, -, -, -, -, -, -, hQ⟩ := id E
  intro S x2 x3 x4 x5 h H locs ls X hl
  unfold fX1_findSeller_17_b at h
  refine lv_iload hx hb dX1_findSeller_17 (lv_at hl 4 rfl) ?_
  refine lv_aload_n hx hb dX1_findSeller_19 rfl (lv_at hl 0 rfl) ?_
  refine x_getr E X ffX1_15 rfl rfl dX1_findSeller_20 ?_
  refine x_get E X ffX1_29 rfl rfl dX1_findSeller_23 ?_
  refine lv_icmp_ge (tgt := 121) hx hb dX1_findSeller_26 (by decide) (fun c_1 => ?_) (fun c_1 => ?_)
  · have h := if_t c_1 h
    refine lv_iload_n hx hb dX1_findSeller_121 rfl (lv_at hl 2 rfl) ?_
    exact x_iret E X h dX1_findSeller_122
  · have h := if_f c_1 h
    refine lv_aload_n hx hb dX1_findSeller_29 rfl (lv_at hl 0 rfl) ?_
    refine x_getr E X ffX1_15 rfl rfl dX1_findSeller_30 ?_
    refine lv_iload hx hb dX1_findSeller_33 (lv_at hl 4 rfl) ?_
    refine lv_iconst (v := (5 : Int32)) hx hb dX1_findSeller_35 (by decide) ?_
    obtain ⟨r_2, S_3, hr_2, h⟩ := bnd_s h
    refine x_callV E X cwX1_86 (mX6_has l Z hQ  x5 (5 : Int32) hr_2) rfl rfl rfl rfl hl.1 rfl dX1_findSeller_36 (fun H locs X => ?_)
    refine lv_iconst (v := (1 : Int32)) hx hb dX1_findSeller_39 (by decide) ?_
    refine lv_icmp_eq (tgt := 58) hx hb dX1_findSeller_40 (by decide) (fun c_4 => ?_) (fun c_4 => ?_)
    · have h := if_t c_4 h
      exact wX1_findSeller_58 E k0 hk0 S_3 x2 x3 x4 x5 h _ _ _ X hl
    · have h := if_f c_4 h
      refine lv_aload_n hx hb dX1_findSeller_43 rfl (lv_at hl 0 rfl) ?_
      refine x_getr E X ffX1_15 rfl rfl dX1_findSeller_44 ?_
      refine lv_iload hx hb dX1_findSeller_47 (lv_at hl 4 rfl) ?_
      refine lv_bipush (v := (6 : Int32)) hx hb dX1_findSeller_49 (by decide) ?_
      obtain ⟨r_5, S_6, hr_5, h⟩ := bnd_s h
      refine x_callV E X cwX1_86 (mX6_has l Z hQ  x5 (6 : Int32) hr_5) rfl rfl rfl rfl hl.1 rfl dX1_findSeller_51 (fun H locs X => ?_)
      refine lv_iconst (v := (1 : Int32)) hx hb dX1_findSeller_54 (by decide) ?_
      refine lv_icmp_ne (tgt := 62) hx hb dX1_findSeller_55 (by decide) (fun c_7 => ?_) (fun c_7 => ?_)
      · have h := if_f c_7 h
        refine lv_iconst (v := (0 : Int32)) hx hb dX1_findSeller_62 (by decide) ?_
        exact wX1_findSeller_63 E k0 hk0 S_6 x2 x3 x4 x5 (0 : Int32) h _ _ _ X hl
      · have h := if_t c_7 h
        exact wX1_findSeller_58 E k0 hk0 S_6 x2 x3 x4 x5 h _ _ _ X hl
theorem wX1_findSeller_17 {p : Program} {l : Launch} {e : Env} {s : State} {m : MethodId} {args : Array Value} {below : List Frame} {meth : Method} {c : Code} {Z : XG} {r : Int32} {S' : Mem} (E : XE p s m args meth c cX1_findSeller 7 RX1 (some .int) xL Z) : ∀ (n : Nat) (S : Mem) (x2 x3 x4 x5 : Int32), fX1_findSeller_17 n S x2 x3 x4 x5 = some (r, S') → WN p l e { frames := 3, cells := 0, slots := 0, locals := 65 } s m args below meth c xL Z (XQ xL Z r S') S 17 7 [(0, .ref (Z.2.1 30)), (2, .int x2), (3, .int x3), (4, .int x4), (5, .int x5)] [] := by
  intro n
  induction n with
  | zero => intro S x2 x3 x4 x5 h; exact absurd (show (none : O) = some _ from h) (by simp)
  | succ n ih => intro S x2 x3 x4 x5 h; exact wX1_findSeller_17_b E (fX1_findSeller_17 n) ih S x2 x3 x4 x5 h
set_option maxRecDepth 20000 in
theorem wX1_findSeller {p : Program} {l : Launch} {e : Env} {s : State} {m : MethodId} {args : Array Value} {below : List Frame} {meth : Method} {c : Code} {Z : XG} {r : Int32} {S' : Mem} (E : XE p s m args meth c cX1_findSeller 7 RX1 (some .int) xL Z) : ∀ (S : Mem) (x1 x2 : Int32), fX1_findSeller  S x1 x2 = some (r, S') → WN p l e { frames := 3, cells := 0, slots := 0, locals := 65 } s m args below meth c xL Z (XQ xL Z r S') S 0 7 [(0, .ref (Z.2.1 30)), (1, .int x1), (2, .int x2)] [] := by
  obtain ⟨hx, hb, -, -, -, -, -, -, -, hQ⟩ := id E
  intro S x1 x2 h H locs ls X hl
  unfold fX1_findSeller at h
  refine lv_iconst (v := (-1 : Int32)) hx hb dX1_findSeller_0 (by decide) ?_
  refine lv_istore_n (lv' := [(3, .int (-1 : Int32)), (0, .ref (Z.2.1 30)), (1, .int x1), (2, .int x2)]) hx hb dX1_findSeller_1 rfl hl (by decide) rfl (fun ls hl => ?_)
  refine lv_aload_n hx hb dX1_findSeller_2 rfl (lv_at hl 1 rfl) ?_
  refine x_getr E X ffX1_15 rfl rfl dX1_findSeller_3 ?_
  refine lv_iload_n hx hb dX1_findSeller_6 rfl (lv_at hl 2 rfl) ?_
  refine lv_bipush (v := (7 : Int32)) hx hb dX1_findSeller_7 (by decide) ?_
  obtain ⟨r_1, S_2, hr_1, h⟩ := bnd_s h
  refine x_callV E X cwX1_86 (mX6_has l Z hQ  x1 (7 : Int32) hr_1) rfl rfl rfl rfl hl.1 rfl dX1_findSeller_9 (fun H locs X => ?_)
  refine lv_istore (lv' := [(4, .int r_1), (3, .int (-1 : Int32)), (0, .ref (Z.2.1 30)), (1, .int x1), (2, .int x2)]) hx hb dX1_findSeller_12 hl (by decide) rfl (fun ls hl => ?_)
  refine lv_iconst (v := (0 : Int32)) hx hb dX1_findSeller_14 (by decide) ?_
  refine lv_istore (lv' := [(5, .int (0 : Int32)), (4, .int r_1), (3, .int (-1 : Int32)), (0, .ref (Z.2.1 30)), (1, .int x1), (2, .int x2)]) hx hb dX1_findSeller_15 hl (by decide) rfl (fun ls hl => ?_)
  exact wX1_findSeller_17 E   FU S_2 x2 (-1 : Int32) r_1 (0 : Int32) h _ _ _ X (lv_sub hl [3, 5, 2, 1, 0] rfl)
/-- SevenToAShadow$March.findSeller(II)I -/
theorem mX1_findSeller (l : Launch) (Z : XG) (hQ : wQ (List.length xL) Z) {S S' : Mem} {r : Int32} (x1 x2 : Int32) (h : fX1_findSeller S x1 x2 = some (r, S')) : XM l yX1_findSeller cX1_findSeller 7 (some .int) { frames := 3, cells := 0, slots := 0, locals := 65 } xL Z [.ref (Z.2.1 30), .int x1, .int x2] S (XQ xL Z r S') := by
  refine XM.of (own := RX1) (by decide +kernel) rfl rfl hQ (fun p e s m args below meth c E ls hl X => ?_)
  exact wX1_findSeller E S x1 x2 h _ _ _ X hl
def fX1_buyShade (S : Mem) (x1 x2 : Int32) : O := bnd (fX1_findSeller S x1 x2) fun r_1 S_2 => (if r_1 = (-1 : Int32) then some ((0 : Int32), S_2) else bnd (fX6_has S_2 x1 (4 : Int32)) fun r_4 S_5 => (if (S_5 1 11) ≤ r_4 then bnd (fX6_has S_5 x1 (0 : Int32)) fun r_7 S_8 => bnd (fX6_has S_8 r_1 (0 : Int32)) fun r_9 S_10 => bnd (fX6_put S_10 x1 (0 : Int32) r_9) fun _ S_12 => bnd (fX6_put S_12 r_1 (0 : Int32) r_7) fun _ S_14 => bnd (fX6_has S_14 x1 (4 : Int32)) fun r_15 S_16 => bnd (fX6_put S_16 x1 (4 : Int32) (r_15 - (S_16 1 11))) fun _ S_18 => bnd (fX6_has S_18 r_1 (4 : Int32)) fun r_19 S_20 => bnd (fX6_put S_20 r_1 (4 : Int32) (r_19 + (S_20 1 11))) fun _ S_22 => bnd (fX6_has S_22 x1 (9 : Int32)) fun r_23 S_24 => bnd (fX6_put S_24 x1 (9 : Int32) (r_23 + (1 : Int32))) fun _ S_26 => bnd (fX6_has S_26 r_1 (8 : Int32)) fun r_27 S_28 => bnd (fX6_put S_28 r_1 (8 : Int32) (r_27 + (1 : Int32))) fun _ S_30 => some ((0 : Int32), S_30) else some ((0 : Int32), S_5)))
theorem dX1_buyShade_0 : decode cX1_buyShade 0 = .ok (.aload_n 0, 1) := by decide +kernel
theorem dX1_buyShade_1 : decode cX1_buyShade 1 = .ok (.iload_n 1, 1) := by decide +kernel
theorem dX1_buyShade_2 : decode cX1_buyShade 2 = .ok (.iload_n 2, 1) := by decide +kernel
theorem dX1_buyShade_3 : decode cX1_buyShade 3 = .ok (.invokevirtual 104, 3) := by decide +kernel
theorem dX1_buyShade_6 : decode cX1_buyShade 6 = .ok (.istore_n 3, 1) := by decide +kernel
theorem dX1_buyShade_7 : decode cX1_buyShade 7 = .ok (.iload_n 3, 1) := by decide +kernel
theorem dX1_buyShade_8 : decode cX1_buyShade 8 = .ok (.iconst (-1), 1) := by decide +kernel
theorem dX1_buyShade_9 : decode cX1_buyShade 9 = .ok (.if_icmp .eq 22, 3) := by decide +kernel
theorem dX1_buyShade_12 : decode cX1_buyShade 12 = .ok (.aload_n 0, 1) := by decide +kernel
theorem dX1_buyShade_13 : decode cX1_buyShade 13 = .ok (.getfield 15, 3) := by decide +kernel
theorem dX1_buyShade_16 : decode cX1_buyShade 16 = .ok (.iload_n 1, 1) := by decide +kernel
theorem dX1_buyShade_17 : decode cX1_buyShade 17 = .ok (.iconst 4, 1) := by decide +kernel
theorem dX1_buyShade_18 : decode cX1_buyShade 18 = .ok (.invokevirtual 86, 3) := by decide +kernel
theorem dX1_buyShade_21 : decode cX1_buyShade 21 = .ok (.aload_n 0, 1) := by decide +kernel
theorem dX1_buyShade_22 : decode cX1_buyShade 22 = .ok (.getfield 15, 3) := by decide +kernel
theorem dX1_buyShade_25 : decode cX1_buyShade 25 = .ok (.getfield 107, 3) := by decide +kernel
theorem dX1_buyShade_28 : decode cX1_buyShade 28 = .ok (.if_icmp .ge 4, 3) := by decide +kernel
theorem dX1_buyShade_31 : decode cX1_buyShade 31 = .ok (.return_, 1) := by decide +kernel
theorem dX1_buyShade_32 : decode cX1_buyShade 32 = .ok (.aload_n 0, 1) := by decide +kernel
theorem dX1_buyShade_33 : decode cX1_buyShade 33 = .ok (.getfield 15, 3) := by decide +kernel
theorem dX1_buyShade_36 : decode cX1_buyShade 36 = .ok (.iload_n 1, 1) := by decide +kernel
theorem dX1_buyShade_37 : decode cX1_buyShade 37 = .ok (.iconst 0, 1) := by decide +kernel
theorem dX1_buyShade_38 : decode cX1_buyShade 38 = .ok (.invokevirtual 86, 3) := by decide +kernel
theorem dX1_buyShade_41 : decode cX1_buyShade 41 = .ok (.istore 4, 2) := by decide +kernel
theorem dX1_buyShade_43 : decode cX1_buyShade 43 = .ok (.aload_n 0, 1) := by decide +kernel
theorem dX1_buyShade_44 : decode cX1_buyShade 44 = .ok (.getfield 15, 3) := by decide +kernel
theorem dX1_buyShade_47 : decode cX1_buyShade 47 = .ok (.iload_n 1, 1) := by decide +kernel
theorem dX1_buyShade_48 : decode cX1_buyShade 48 = .ok (.iconst 0, 1) := by decide +kernel
theorem dX1_buyShade_49 : decode cX1_buyShade 49 = .ok (.aload_n 0, 1) := by decide +kernel
theorem dX1_buyShade_50 : decode cX1_buyShade 50 = .ok (.getfield 15, 3) := by decide +kernel
theorem dX1_buyShade_53 : decode cX1_buyShade 53 = .ok (.iload_n 3, 1) := by decide +kernel
theorem dX1_buyShade_54 : decode cX1_buyShade 54 = .ok (.iconst 0, 1) := by decide +kernel
theorem dX1_buyShade_55 : decode cX1_buyShade 55 = .ok (.invokevirtual 86, 3) := by decide +kernel
theorem dX1_buyShade_58 : decode cX1_buyShade 58 = .ok (.invokevirtual 95, 3) := by decide +kernel
theorem dX1_buyShade_61 : decode cX1_buyShade 61 = .ok (.aload_n 0, 1) := by decide +kernel
theorem dX1_buyShade_62 : decode cX1_buyShade 62 = .ok (.getfield 15, 3) := by decide +kernel
theorem dX1_buyShade_65 : decode cX1_buyShade 65 = .ok (.iload_n 3, 1) := by decide +kernel
theorem dX1_buyShade_66 : decode cX1_buyShade 66 = .ok (.iconst 0, 1) := by decide +kernel
theorem dX1_buyShade_67 : decode cX1_buyShade 67 = .ok (.iload 4, 2) := by decide +kernel
theorem dX1_buyShade_69 : decode cX1_buyShade 69 = .ok (.invokevirtual 95, 3) := by decide +kernel
theorem dX1_buyShade_72 : decode cX1_buyShade 72 = .ok (.aload_n 0, 1) := by decide +kernel
theorem dX1_buyShade_73 : decode cX1_buyShade 73 = .ok (.getfield 15, 3) := by decide +kernel
theorem dX1_buyShade_76 : decode cX1_buyShade 76 = .ok (.iload_n 1, 1) := by decide +kernel
theorem dX1_buyShade_77 : decode cX1_buyShade 77 = .ok (.iconst 4, 1) := by decide +kernel
theorem dX1_buyShade_78 : decode cX1_buyShade 78 = .ok (.aload_n 0, 1) := by decide +kernel
theorem dX1_buyShade_79 : decode cX1_buyShade 79 = .ok (.getfield 15, 3) := by decide +kernel
theorem dX1_buyShade_82 : decode cX1_buyShade 82 = .ok (.iload_n 1, 1) := by decide +kernel
theorem dX1_buyShade_83 : decode cX1_buyShade 83 = .ok (.iconst 4, 1) := by decide +kernel
theorem dX1_buyShade_84 : decode cX1_buyShade 84 = .ok (.invokevirtual 86, 3) := by decide +kernel
theorem dX1_buyShade_87 : decode cX1_buyShade 87 = .ok (.aload_n 0, 1) := by decide +kernel
theorem dX1_buyShade_88 : decode cX1_buyShade 88 = .ok (.getfield 15, 3) := by decide +kernel
theorem dX1_buyShade_91 : decode cX1_buyShade 91 = .ok (.getfield 107, 3) := by decide +kernel
theorem dX1_buyShade_94 : decode cX1_buyShade 94 = .ok (.isub, 1) := by decide +kernel
theorem dX1_buyShade_95 : decode cX1_buyShade 95 = .ok (.invokevirtual 95, 3) := by decide +kernel
theorem dX1_buyShade_98 : decode cX1_buyShade 98 = .ok (.aload_n 0, 1) := by decide +kernel
theorem dX1_buyShade_99 : decode cX1_buyShade 99 = .ok (.getfield 15, 3) := by decide +kernel
theorem dX1_buyShade_102 : decode cX1_buyShade 102 = .ok (.iload_n 3, 1) := by decide +kernel
theorem dX1_buyShade_103 : decode cX1_buyShade 103 = .ok (.iconst 4, 1) := by decide +kernel
theorem dX1_buyShade_104 : decode cX1_buyShade 104 = .ok (.aload_n 0, 1) := by decide +kernel
theorem dX1_buyShade_105 : decode cX1_buyShade 105 = .ok (.getfield 15, 3) := by decide +kernel
theorem dX1_buyShade_108 : decode cX1_buyShade 108 = .ok (.iload_n 3, 1) := by decide +kernel
theorem dX1_buyShade_109 : decode cX1_buyShade 109 = .ok (.iconst 4, 1) := by decide +kernel
theorem dX1_buyShade_110 : decode cX1_buyShade 110 = .ok (.invokevirtual 86, 3) := by decide +kernel
theorem dX1_buyShade_113 : decode cX1_buyShade 113 = .ok (.aload_n 0, 1) := by decide +kernel
theorem dX1_buyShade_114 : decode cX1_buyShade 114 = .ok (.getfield 15, 3) := by decide +kernel
theorem dX1_buyShade_117 : decode cX1_buyShade 117 = .ok (.getfield 107, 3) := by decide +kernel
theorem dX1_buyShade_120 : decode cX1_buyShade 120 = .ok (.iadd, 1) := by decide +kernel
theorem dX1_buyShade_121 : decode cX1_buyShade 121 = .ok (.invokevirtual 95, 3) := by decide +kernel
theorem dX1_buyShade_124 : decode cX1_buyShade 124 = .ok (.aload_n 0, 1) := by decide +kernel
theorem dX1_buyShade_125 : decode cX1_buyShade 125 = .ok (.getfield 15, 3) := by decide +kernel
theorem dX1_buyShade_128 : decode cX1_buyShade 128 = .ok (.iload_n 1, 1) := by decide +kernel
theorem dX1_buyShade_129 : decode cX1_buyShade 129 = .ok (.bipush 9, 2) := by decide +kernel
theorem dX1_buyShade_131 : decode cX1_buyShade 131 = .ok (.aload_n 0, 1) := by decide +kernel
theorem dX1_buyShade_132 : decode cX1_buyShade 132 = .ok (.getfield 15, 3) := by decide +kernel
theorem dX1_buyShade_135 : decode cX1_buyShade 135 = .ok (.iload_n 1, 1) := by decide +kernel
theorem dX1_buyShade_136 : decode cX1_buyShade 136 = .ok (.bipush 9, 2) := by decide +kernel
theorem dX1_buyShade_138 : decode cX1_buyShade 138 = .ok (.invokevirtual 86, 3) := by decide +kernel
theorem dX1_buyShade_141 : decode cX1_buyShade 141 = .ok (.iconst 1, 1) := by decide +kernel
theorem dX1_buyShade_142 : decode cX1_buyShade 142 = .ok (.iadd, 1) := by decide +kernel
theorem dX1_buyShade_143 : decode cX1_buyShade 143 = .ok (.invokevirtual 95, 3) := by decide +kernel
theorem dX1_buyShade_146 : decode cX1_buyShade 146 = .ok (.aload_n 0, 1) := by decide +kernel
theorem dX1_buyShade_147 : decode cX1_buyShade 147 = .ok (.getfield 15, 3) := by decide +kernel
theorem dX1_buyShade_150 : decode cX1_buyShade 150 = .ok (.iload_n 3, 1) := by decide +kernel
theorem dX1_buyShade_151 : decode cX1_buyShade 151 = .ok (.bipush 8, 2) := by decide +kernel
theorem dX1_buyShade_153 : decode cX1_buyShade 153 = .ok (.aload_n 0, 1) := by decide +kernel
theorem dX1_buyShade_154 : decode cX1_buyShade 154 = .ok (.getfield 15, 3) := by decide +kernel
theorem dX1_buyShade_157 : decode cX1_buyShade 157 = .ok (.iload_n 3, 1) := by decide +kernel
theorem dX1_buyShade_158 : decode cX1_buyShade 158 = .ok (.bipush 8, 2) := by decide +kernel
theorem dX1_buyShade_160 : decode cX1_buyShade 160 = .ok (.invokevirtual 86, 3) := by decide +kernel
theorem dX1_buyShade_163 : decode cX1_buyShade 163 = .ok (.iconst 1, 1) := by decide +kernel
theorem dX1_buyShade_164 : decode cX1_buyShade 164 = .ok (.iadd, 1) := by decide +kernel
theorem dX1_buyShade_165 : decode cX1_buyShade 165 = .ok (.invokevirtual 95, 3) := by decide +kernel
theorem dX1_buyShade_168 : decode cX1_buyShade 168 = .ok (.return_, 1) := by decide +kernel
set_option maxRecDepth 20000 in
theorem wX1_buyShade {p : Program} {l : Launch} {e : Env} {s : State} {m : MethodId} {args : Array Value} {below : List Frame} {meth : Method} {c : Code} {Z : XG} {r : Int32} {S' : Mem} (E : XE p s m args meth c cX1_buyShade 5 RX1 none xL Z) : ∀ (S : Mem) (x1 x2 : Int32), fX1_buyShade  S x1 x2 = some (r, S') → WN p l e { frames := 4, cells := 0, slots := 0, locals := 91 } s m args below meth c xL Z (XV xL Z S') S 0 5 [(0, .ref (Z.2.1 30)), (1, .int x1), (2, .int x2)] [] := by
  obtain ⟨hx, hb, -, -, -, -, -, -, -, hQ⟩ := id E
  intro S x1 x2 h H locs ls X hl
  unfold fX1_buyShade at h
  refine lv_aload_n hx hb dX1_buyShade_0 rfl (lv_at hl 0 rfl) ?_
  refine lv_iload_n hx hb dX1_buyShade_1 rfl (lv_at hl 1 rfl) ?_
  refine lv_iload_n hx hb dX1_buyShade_2 rfl (lv_at hl 2 rfl) ?_
  obtain ⟨r_1, S_2, hr_1, h⟩ := bnd_s h
  refine x_callV E X cwX1_104 (mX1_findSeller l Z hQ  x1 x2 hr_1) rfl rfl rfl rfl hl.1 rfl dX1_buyShade_3 (fun H locs X => ?_)
  refine lv_istore_n (lv' := [(3, .int r_1), (0, .ref (Z.2.1 30)), (1, .int x1), (2, .int x2)]) hx hb dX1_buyShade_6 rfl hl (by decide) rfl (fun ls hl => ?_)
  refine lv_iload_n hx hb dX1_buyShade_7 rfl (lv_at hl 0 rfl) ?_
  refine lv_iconst (v := (-1 : Int32)) hx hb dX1_buyShade_8 (by decide) ?_
  refine lv_icmp_eq (tgt := 31) hx hb dX1_buyShade_9 (by decide) (fun c_3 => ?_) (fun c_3 => ?_)
  · have h := if_t c_3 h
    exact x_vret E X h dX1_buyShade_31
  · have h := if_f c_3 h
    refine lv_aload_n hx hb dX1_buyShade_12 rfl (lv_at hl 1 rfl) ?_
    refine x_getr E X ffX1_15 rfl rfl dX1_buyShade_13 ?_
    refine lv_iload_n hx hb dX1_buyShade_16 rfl (lv_at hl 2 rfl) ?_
    refine lv_iconst (v := (4 : Int32)) hx hb dX1_buyShade_17 (by decide) ?_
    obtain ⟨r_4, S_5, hr_4, h⟩ := bnd_s h
    refine x_callV E X cwX1_86 (mX6_has l Z hQ  x1 (4 : Int32) hr_4) rfl rfl rfl rfl hl.1 rfl dX1_buyShade_18 (fun H locs X => ?_)
    refine lv_aload_n hx hb dX1_buyShade_21 rfl (lv_at hl 1 rfl) ?_
    refine x_getr E X ffX1_15 rfl rfl dX1_buyShade_22 ?_
    refine x_get E X ffX1_107 rfl rfl dX1_buyShade_25 ?_
    refine lv_icmp_ge (tgt := 32) hx hb dX1_buyShade_28 (by decide) (fun c_6 => ?_) (fun c_6 => ?_)
    · have h := if_t c_6 h
      refine lv_aload_n hx hb dX1_buyShade_32 rfl (lv_at hl 1 rfl) ?_
      refine x_getr E X ffX1_15 rfl rfl dX1_buyShade_33 ?_
      refine lv_iload_n hx hb dX1_buyShade_36 rfl (lv_at hl 2 rfl) ?_
      refine lv_iconst (v := (0 : Int32)) hx hb dX1_buyShade_37 (by decide) ?_
      obtain ⟨r_7, S_8, hr_7, h⟩ := bnd_s h
      refine x_callV E X cwX1_86 (mX6_has l Z hQ  x1 (0 : Int32) hr_7) rfl rfl rfl rfl hl.1 rfl dX1_buyShade_38 (fun H locs X => ?_)
      refine lv_istore (lv' := [(4, .int r_7), (3, .int r_1), (0, .ref (Z.2.1 30)), (1, .int x1), (2, .int x2)]) hx hb dX1_buyShade_41 hl (by decide) rfl (fun ls hl => ?_)
      refine lv_aload_n hx hb dX1_buyShade_43 rfl (lv_at hl 2 rfl) ?_
      refine x_getr E X ffX1_15 rfl rfl dX1_buyShade_44 ?_
      refine lv_iload_n hx hb dX1_buyShade_47 rfl (lv_at hl 3 rfl) ?_
      refine lv_iconst (v := (0 : Int32)) hx hb dX1_buyShade_48 (by decide) ?_
      refine lv_aload_n hx hb dX1_buyShade_49 rfl (lv_at hl 2 rfl) ?_
      refine x_getr E X ffX1_15 rfl rfl dX1_buyShade_50 ?_
      refine lv_iload_n hx hb dX1_buyShade_53 rfl (lv_at hl 1 rfl) ?_
      refine lv_iconst (v := (0 : Int32)) hx hb dX1_buyShade_54 (by decide) ?_
      obtain ⟨r_9, S_10, hr_9, h⟩ := bnd_s h
      refine x_callV E X cwX1_86 (mX6_has l Z hQ  r_1 (0 : Int32) hr_9) rfl rfl rfl rfl hl.1 rfl dX1_buyShade_55 (fun H locs X => ?_)
      obtain ⟨r_11, S_12, hr_11, h⟩ := bnd_s h
      refine x_callVv E X cwX1_95 (mX6_put l Z hQ  x1 (0 : Int32) r_9 hr_11) rfl rfl rfl rfl hl.1 rfl dX1_buyShade_58 (fun H locs X => ?_)
      refine lv_aload_n hx hb dX1_buyShade_61 rfl (lv_at hl 2 rfl) ?_
      refine x_getr E X ffX1_15 rfl rfl dX1_buyShade_62 ?_
      refine lv_iload_n hx hb dX1_buyShade_65 rfl (lv_at hl 1 rfl) ?_
      refine lv_iconst (v := (0 : Int32)) hx hb dX1_buyShade_66 (by decide) ?_
      refine lv_iload hx hb dX1_buyShade_67 (lv_at hl 0 rfl) ?_
      obtain ⟨r_13, S_14, hr_13, h⟩ := bnd_s h
      refine x_callVv E X cwX1_95 (mX6_put l Z hQ  r_1 (0 : Int32) r_7 hr_13) rfl rfl rfl rfl hl.1 rfl dX1_buyShade_69 (fun H locs X => ?_)
      refine lv_aload_n hx hb dX1_buyShade_72 rfl (lv_at hl 2 rfl) ?_
      refine x_getr E X ffX1_15 rfl rfl dX1_buyShade_73 ?_
      refine lv_iload_n hx hb dX1_buyShade_76 rfl (lv_at hl 3 rfl) ?_
      refine lv_iconst (v := (4 : Int32)) hx hb dX1_buyShade_77 (by decide) ?_
      refine lv_aload_n hx hb dX1_buyShade_78 rfl (lv_at hl 2 rfl) ?_
      refine x_getr E X ffX1_15 rfl rfl dX1_buyShade_79 ?_
      refine lv_iload_n hx hb dX1_buyShade_82 rfl (lv_at hl 3 rfl) ?_
      refine lv_iconst (v := (4 : Int32)) hx hb dX1_buyShade_83 (by decide) ?_
      obtain ⟨r_15, S_16, hr_15, h⟩ := bnd_s h
      refine x_callV E X cwX1_86 (mX6_has l Z hQ  x1 (4 : Int32) hr_15) rfl rfl rfl rfl hl.1 rfl dX1_buyShade_84 (fun H locs X => ?_)
      refine lv_aload_n hx hb dX1_buyShade_87 rfl (lv_at hl 2 rfl) ?_
      refine x_getr E X ffX1_15 rfl rfl dX1_buyShade_88 ?_
      refine x_get E X ffX1_107 rfl rfl dX1_buyShade_91 ?_
      refine lv_isub hx hb dX1_buyShade_94 ?_
      obtain ⟨r_17, S_18, hr_17, h⟩ := bnd_s h
      refine x_callVv E X cwX1_95 (mX6_put l Z hQ  x1 (4 : Int32) (r_15 - (S_16 1 11)) hr_17) rfl rfl rfl rfl hl.1 rfl dX1_buyShade_95 (fun H locs X => ?_)
      refine lv_aload_n hx hb dX1_buyShade_98 rfl (lv_at hl 2 rfl) ?_
      refine x_getr E X ffX1_15 rfl rfl dX1_buyShade_99 ?_
      refine lv_iload_n hx hb dX1_buyShade_102 rfl (lv_at hl 1 rfl) ?_
      refine lv_iconst (v := (4 : Int32)) hx hb dX1_buyShade_103 (by decide) ?_
      refine lv_aload_n hx hb dX1_buyShade_104 rfl (lv_at hl 2 rfl) ?_
      refine x_getr E X ffX1_15 rfl rfl dX1_buyShade_105 ?_
      refine lv_iload_n hx hb dX1_buyShade_108 rfl (lv_at hl 1 rfl) ?_
      refine lv_iconst (v := (4 : Int32)) hx hb dX1_buyShade_109 (by decide) ?_
      obtain ⟨r_19, S_20, hr_19, h⟩ := bnd_s h
      refine x_callV E X cwX1_86 (mX6_has l Z hQ  r_1 (4 : Int32) hr_19) rfl rfl rfl rfl hl.1 rfl dX1_buyShade_110 (fun H locs X => ?_)
      refine lv_aload_n hx hb dX1_buyShade_113 rfl (lv_at hl 2 rfl) ?_
      refine x_getr E X ffX1_15 rfl rfl dX1_buyShade_114 ?_
      refine x_get E X ffX1_107 rfl rfl dX1_buyShade_117 ?_
      refine lv_iadd hx hb dX1_buyShade_120 ?_
      obtain ⟨r_21, S_22, hr_21, h⟩ := bnd_s h
      refine x_callVv E X cwX1_95 (mX6_put l Z hQ  r_1 (4 : Int32) (r_19 + (S_20 1 11)) hr_21) rfl rfl rfl rfl hl.1 rfl dX1_buyShade_121 (fun H locs X => ?_)
      refine lv_aload_n hx hb dX1_buyShade_124 rfl (lv_at hl 2 rfl) ?_
      refine x_getr E X ffX1_15 rfl rfl dX1_buyShade_125 ?_
      refine lv_iload_n hx hb dX1_buyShade_128 rfl (lv_at hl 3 rfl) ?_
      refine lv_bipush (v := (9 : Int32)) hx hb dX1_buyShade_129 (by decide) ?_
      refine lv_aload_n hx hb dX1_buyShade_131 rfl (lv_at hl 2 rfl) ?_
      refine x_getr E X ffX1_15 rfl rfl dX1_buyShade_132 ?_
      refine lv_iload_n hx hb dX1_buyShade_135 rfl (lv_at hl 3 rfl) ?_
      refine lv_bipush (v := (9 : Int32)) hx hb dX1_buyShade_136 (by decide) ?_
      obtain ⟨r_23, S_24, hr_23, h⟩ := bnd_s h
      refine x_callV E X cwX1_86 (mX6_has l Z hQ  x1 (9 : Int32) hr_23) rfl rfl rfl rfl hl.1 rfl dX1_buyShade_138 (fun H locs X => ?_)
      refine lv_iconst (v := (1 : Int32)) hx hb dX1_buyShade_141 (by decide) ?_
      refine lv_iadd hx hb dX1_buyShade_142 ?_
      obtain ⟨r_25, S_26, hr_25, h⟩ := bnd_s h
      refine x_callVv E X cwX1_95 (mX6_put l Z hQ  x1 (9 : Int32) (r_23 + (1 : Int32)) hr_25) rfl rfl rfl rfl hl.1 rfl dX1_buyShade_143 (fun H locs X => ?_)
      refine lv_aload_n hx hb dX1_buyShade_146 rfl (lv_at hl 2 rfl) ?_
      refine x_getr E X ffX1_15 rfl rfl dX1_buyShade_147 ?_
      refine lv_iload_n hx hb dX1_buyShade_150 rfl (lv_at hl 1 rfl) ?_
      refine lv_bipush (v := (8 : Int32)) hx hb dX1_buyShade_151 (by decide) ?_
      refine lv_aload_n hx hb dX1_buyShade_153 rfl (lv_at hl 2 rfl) ?_
      refine x_getr E X ffX1_15 rfl rfl dX1_buyShade_154 ?_
      refine lv_iload_n hx hb dX1_buyShade_157 rfl (lv_at hl 1 rfl) ?_
      refine lv_bipush (v := (8 : Int32)) hx hb dX1_buyShade_158 (by decide) ?_
      obtain ⟨r_27, S_28, hr_27, h⟩ := bnd_s h
      refine x_callV E X cwX1_86 (mX6_has l Z hQ  r_1 (8 : Int32) hr_27) rfl rfl rfl rfl hl.1 rfl dX1_buyShade_160 (fun H locs X => ?_)
      refine lv_iconst (v := (1 : Int32)) hx hb dX1_buyShade_163 (by decide) ?_
      refine lv_iadd hx hb dX1_buyShade_164 ?_
      obtain ⟨r_29, S_30, hr_29, h⟩ := bnd_s h
      refine x_callVv E X cwX1_95 (mX6_put l Z hQ  r_1 (8 : Int32) (r_27 + (1 : Int32)) hr_29) rfl rfl rfl rfl hl.1 rfl dX1_buyShade_165 (fun H locs X => ?_)
      exact x_vret E X h dX1_buyShade_168
    · have h := if_f c_6 h
      exact x_vret E X h dX1_buyShade_31
/-- SevenToAShadow$March.buyShade(II)V -/
theorem mX1_buyShade (l : Launch) (Z : XG) (hQ : wQ (List.length xL) Z) {S S' : Mem} {r : Int32} (x1 x2 : Int32) (h : fX1_buyShade S x1 x2 = some (r, S')) : XM l yX1_buyShade cX1_buyShade 5 none { frames := 4, cells := 0, slots := 0, locals := 91 } xL Z [.ref (Z.2.1 30), .int x1, .int x2] S (XV xL Z S') := by
  refine XM.of (own := RX1) (by decide +kernel) rfl rfl hQ (fun p e s m args below meth c E ls hl X => ?_)
  exact wX1_buyShade E S x1 x2 h _ _ _ X hl
