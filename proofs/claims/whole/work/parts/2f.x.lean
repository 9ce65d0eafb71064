def fX5_greatestBurn_4_b (k0 : Mem → Int32 → Int32 → O) (S : Mem) (x1 x2 : Int32) : O := (if (S 1 9) ≤ x2 then some (x1, S) else bnd (fX5_seatBurn S x2) fun r_2 S_3 => lti (imax x1 r_2) fun x1_4 => k0 S_3 x1_4 (x2 + (1 : Int32)))
def fX5_greatestBurn_4 : Nat → Mem → Int32 → Int32 → O
  | 0 => fun _ _ _ => none
  | n + 1 => fX5_greatestBurn_4_b (fX5_greatestBurn_4 n)
def fX5_greatestBurn (S : Mem) : O := fX5_greatestBurn_4  FU S (0 : Int32) (0 : Int32)
theorem dX5_greatestBurn_0 : decode cX5_greatestBurn 0 = .ok (.iconst 0, 1) := by decide +kernel
theorem dX5_greatestBurn_1 : decode cX5_greatestBurn 1 = .ok (.istore_n 1, 1) := by decide +kernel
theorem dX5_greatestBurn_2 : decode cX5_greatestBurn 2 = .ok (.iconst 0, 1) := by decide +kernel
theorem dX5_greatestBurn_3 : decode cX5_greatestBurn 3 = .ok (.istore_n 2, 1) := by decide +kernel
theorem dX5_greatestBurn_4 : decode cX5_greatestBurn 4 = .ok (.iload_n 2, 1) := by decide +kernel
theorem dX5_greatestBurn_5 : decode cX5_greatestBurn 5 = .ok (.aload_n 0, 1) := by decide +kernel
theorem dX5_greatestBurn_6 : decode cX5_greatestBurn 6 = .ok (.getfield 27, 3) := by decide +kernel
theorem dX5_greatestBurn_9 : decode cX5_greatestBurn 9 = .ok (.getfield 35, 3) := by decide +kernel
theorem dX5_greatestBurn_12 : decode cX5_greatestBurn 12 = .ok (.if_icmp .ge 19, 3) := by decide +kernel
theorem dX5_greatestBurn_15 : decode cX5_greatestBurn 15 = .ok (.iload_n 1, 1) := by decide +kernel
theorem dX5_greatestBurn_16 : decode cX5_greatestBurn 16 = .ok (.aload_n 0, 1) := by decide +kernel
theorem dX5_greatestBurn_17 : decode cX5_greatestBurn 17 = .ok (.iload_n 2, 1) := by decide +kernel
theorem dX5_greatestBurn_18 : decode cX5_greatestBurn 18 = .ok (.invokevirtual 78, 3) := by decide +kernel
theorem dX5_greatestBurn_21 : decode cX5_greatestBurn 21 = .ok (.invokestatic 81, 3) := by decide +kernel
theorem dX5_greatestBurn_24 : decode cX5_greatestBurn 24 = .ok (.istore_n 1, 1) := by decide +kernel
theorem dX5_greatestBurn_25 : decode cX5_greatestBurn 25 = .ok (.iinc 2 1, 3) := by decide +kernel
theorem dX5_greatestBurn_28 : decode cX5_greatestBurn 28 = .ok (.goto (-24), 3) := by decide +kernel
theorem dX5_greatestBurn_31 : decode cX5_greatestBurn 31 = .ok (.iload_n 1, 1) := by decide +kernel
theorem dX5_greatestBurn_32 : decode cX5_greatestBurn 32 = .ok (.ireturn, 1) := by decide +kernel
set_option maxRecDepth 20000 in
theorem wX5_greatestBurn_4_b {p : Program} {l : Launch} {e : Env} {s : State} {m : MethodId} {args : Array Value} {below : List Frame} {meth : Method} {c : Code} {Z : XG} {r : Int32} {S' : Mem} (E : XE p s m args meth c cX5_greatestBurn 3 RX5 (some .int) xL Z) (k0 : Mem → Int32 → Int32 → O)  (hk0 : ∀ (S : Mem) (x1 x2 : Int32), k0 S x1 x2 = some (r, S') → WN p l e { frames := 3, cells := 0, slots := 0, locals := 65 } s m args below meth c xL Z (XQ xL Z r S') S 4 3 [(0, .ref (Z.2.1 32)), (1, .int x1), (2, .int x2)] []) : ∀ (S : Mem) (x1 x2 : Int32), fX5_greatestBurn_4_b k0 S x1 x2 = some (r, S') → WN p l e { frames := 3, cells := 0, slots := 0, locals := 65 } s m args below meth c xL Z (XQ xL Z r S') S 4 3 [(0, .ref (Z.2.1 32)), (1, .int x1), (2, .int x2)] [] := by
  obtain ⟨hx, hb, -, -, -, -, -, -, -, hQ⟩ := id E
  intro S x1 x2 h H locs ls X hl
  unfold fX5_greatestBurn_4_b at h
  refine lv_iload_n hx hb dX5_greatestBurn_4 rfl (lv_at hl 2 rfl) ?_
  refine lv_aload_n hx hb dX5_greatestBurn_5 rfl (lv_at hl 0 rfl) ?_
  refine x_getr E X ffX5_27 rfl rfl dX5_greatestBurn_6 ?_
  refine x_get E X ffX5_35 rfl rfl dX5_greatestBurn_9 ?_
  refine lv_icmp_ge (tgt := 31) hx hb dX5_greatestBurn_12 (by decide) (fun c_1 => ?_) (fun c_1 => ?_)
  · have h := if_t c_1 h
    refine lv_iload_n hx hb dX5_greatestBurn_31 rfl (lv_at hl 1 rfl) ?_
    exact x_iret E X h dX5_greatestBurn_32
  · have h := if_f c_1 h
    refine lv_iload_n hx hb dX5_greatestBurn_15 rfl (lv_at hl 1 rfl) ?_
    refine lv_aload_n hx hb dX5_greatestBurn_16 rfl (lv_at hl 0 rfl) ?_
    refine lv_iload_n hx hb dX5_greatestBurn_17 rfl (lv_at hl 2 rfl) ?_
    obtain ⟨r_2, S_3, hr_2, h⟩ := bnd_s h
    refine x_callV E X cwX5_78 (mX5_seatBurn l Z hQ  x2 hr_2) rfl rfl rfl rfl hl.1 rfl dX5_greatestBurn_18 (fun H locs X => ?_)
    refine x_mmax E cwX5_81 hl.1 rfl rfl rfl rfl dX5_greatestBurn_21 ?_
    refine lv_nm (y := (imax x1 r_2)) rfl ?_
    obtain ⟨x1_4, ex1_4, h⟩ := lti_s h
    refine lv_nm ex1_4 ?_
    refine lv_istore_n (lv' := [(1, .int x1_4), (0, .ref (Z.2.1 32)), (2, .int x2)]) hx hb dX5_greatestBurn_24 rfl hl (by decide) rfl (fun ls hl => ?_)
    refine lv_iinc (v := (x2 + (1 : Int32))) (lv' := [(2, .int (x2 + (1 : Int32))), (1, .int x1_4), (0, .ref (Z.2.1 32))]) hx hb dX5_greatestBurn_25 hl (k := 2) rfl rfl (by decide) rfl (fun ls hl => ?_)
    refine lv_goto (tgt := 4) hx hb dX5_greatestBurn_28 (by decide) ?_
    exact hk0 S_3 x1_4 (x2 + (1 : Int32)) h _ _ _ X (lv_sub hl [2, 1, 0] rfl)
theorem wX5_greatestBurn_4 {p : Program} {l : Launch} {e : Env} {s : State} {m : MethodId} {args : Array Value} {below : List Frame} {meth : Method} {c : Code} {Z : XG} {r : Int32} {S' : Mem} (E : XE p s m args meth c cX5_greatestBurn 3 RX5 (some .int) xL Z) : ∀ (n : Nat) (S : Mem) (x1 x2 : Int32), fX5_greatestBurn_4 n S x1 x2 = some (r, S') → WN p l e { frames := 3, cells := 0, slots := 0, locals := 65 } s m args below meth c xL Z (XQ xL Z r S') S 4 3 [(0, .ref (Z.2.1 32)), (1, .int x1), (2, .int x2)] [] := by
  intro n
  induction n with
  | zero => intro S x1 x2 h; exact absurd (show (none : O) = some _ from h) (by simp)
  | succ n ih => intro S x1 x2 h; exact wX5_greatestBurn_4_b E (fX5_greatestBurn_4 n) ih S x1 x2 h
set_option maxRecDepth 20000 in
theorem wX5_greatestBurn {p : Program} {l : Launch} {e : Env} {s : State} {m : MethodId} {args : Array Value} {below : List Frame} {meth : Method} {c : Code} {Z : XG} {r : Int32} {S' : Mem} (E : XE p s m args meth c cX5_greatestBurn 3 RX5 (some .int) xL Z) : ∀ (S : Mem), fX5_greatestBurn  S  = some (r, S') → WN p l e { frames := 3, cells := 0, slots := 0, locals := 65 } s m args below meth c xL Z (XQ xL Z r S') S 0 3 [(0, .ref (Z.2.1 32))] [] := by
  obtain ⟨hx, hb, -, -, -, -, -, -, -, hQ⟩ := id E
  intro S  h H locs ls X hl
  unfold fX5_greatestBurn at h
  refine lv_iconst (v := (0 : Int32)) hx hb dX5_greatestBurn_0 (by decide) ?_
  refine lv_istore_n (lv' := [(1, .int (0 : Int32)), (0, .ref (Z.2.1 32))]) hx hb dX5_greatestBurn_1 rfl hl (by decide) rfl (fun ls hl => ?_)
  refine lv_iconst (v := (0 : Int32)) hx hb dX5_greatestBurn_2 (by decide) ?_
  refine lv_istore_n (lv' := [(2, .int (0 : Int32)), (1, .int (0 : Int32)), (0, .ref (Z.2.1 32))]) hx hb dX5_greatestBurn_3 rfl hl (by decide) rfl (fun ls hl => ?_)
  exact wX5_greatestBurn_4 E   FU S (0 : Int32) (0 : Int32) h _ _ _ X (lv_sub hl [2, 1, 0] rfl)
/-- SevenToAShadow$Thought.greatestBurn()I -/
theorem mX5_greatestBurn (l : Launch) (Z : XG) (hQ : wQ (List.length xL) Z) {S S' : Mem} {r : Int32} (h : fX5_greatestBurn S  = some (r, S')) : XM l yX5_greatestBurn cX5_greatestBurn 3 (some .int) { frames := 3, cells := 0, slots := 0, locals := 65 } xL Z [.ref (Z.2.1 32)] S (XQ xL Z r S') := by
  refine XM.of (own := RX5) (by decide +kernel) rfl rfl hQ (fun p e s m args below meth c E ls hl X => ?_)
  exact wX5_greatestBurn E S  h _ _ _ X hl
def fX7_walk_37 (S : Mem) (x1 x2 x3 x4 : Int32) : O := bnd (fX5_seatAll S x1 x2) fun _ S_2 => (if x4 = 0 then (if x3 = 0 then bnd (fX5_greatestBurn S_2 ) fun r_7 S_8 => some (r_7, S_8) else bnd (fX5_sumOfBurns S_2 ) fun r_5 S_6 => some (r_5, S_6)) else bnd (fX5_seatOf S_2 (x3 - (10 : Int32))) fun r_9 S_10 => some (r_9, S_10))
def fX7_walk (S : Mem) (x1 x2 x3 : Int32) : O := bnd (fX6_isPilgrim S (x3 - (10 : Int32))) fun r_1 S_2 => bnd (fX7_areHours S_2 x1 x2) fun r_3 S_4 => (if r_3 = 0 then some ((-1 : Int32), S_4) else (if x3 = 0 then fX7_walk_37  S_4 x1 x2 x3 r_1 else (if x3 = (1 : Int32) then fX7_walk_37  S_4 x1 x2 x3 r_1 else (if r_1 = 0 then some ((-1 : Int32), S_4) else fX7_walk_37  S_4 x1 x2 x3 r_1))))
theorem dX7_walk_0 : decode cX7_walk 0 = .ok (.aload_n 0, 1) := by decide +kernel
theorem dX7_walk_1 : decode cX7_walk 1 = .ok (.getfield 12, 3) := by decide +kernel
theorem dX7_walk_4 : decode cX7_walk 4 = .ok (.iload_n 3, 1) := by decide +kernel
theorem dX7_walk_5 : decode cX7_walk 5 = .ok (.bipush 10, 2) := by decide +kernel
theorem dX7_walk_7 : decode cX7_walk 7 = .ok (.isub, 1) := by decide +kernel
theorem dX7_walk_8 : decode cX7_walk 8 = .ok (.invokevirtual 87, 3) := by decide +kernel
theorem dX7_walk_11 : decode cX7_walk 11 = .ok (.istore 4, 2) := by decide +kernel
theorem dX7_walk_13 : decode cX7_walk 13 = .ok (.iload_n 1, 1) := by decide +kernel
theorem dX7_walk_14 : decode cX7_walk 14 = .ok (.iload_n 2, 1) := by decide +kernel
theorem dX7_walk_15 : decode cX7_walk 15 = .ok (.invokestatic 164, 3) := by decide +kernel
theorem dX7_walk_18 : decode cX7_walk 18 = .ok (.ifCond .eq 17, 3) := by decide +kernel
theorem dX7_walk_21 : decode cX7_walk 21 = .ok (.iload_n 3, 1) := by decide +kernel
theorem dX7_walk_22 : decode cX7_walk 22 = .ok (.ifCond .eq 15, 3) := by decide +kernel
theorem dX7_walk_25 : decode cX7_walk 25 = .ok (.iload_n 3, 1) := by decide +kernel
theorem dX7_walk_26 : decode cX7_walk 26 = .ok (.iconst 1, 1) := by decide +kernel
theorem dX7_walk_27 : decode cX7_walk 27 = .ok (.if_icmp .eq 10, 3) := by decide +kernel
theorem dX7_walk_30 : decode cX7_walk 30 = .ok (.iload 4, 2) := by decide +kernel
theorem dX7_walk_32 : decode cX7_walk 32 = .ok (.ifCond .ne 5, 3) := by decide +kernel
theorem dX7_walk_35 : decode cX7_walk 35 = .ok (.iconst (-1), 1) := by decide +kernel
theorem dX7_walk_36 : decode cX7_walk 36 = .ok (.ireturn, 1) := by decide +kernel
theorem dX7_walk_37 : decode cX7_walk 37 = .ok (.aload_n 0, 1) := by decide +kernel
theorem dX7_walk_38 : decode cX7_walk 38 = .ok (.getfield 38, 3) := by decide +kernel
theorem dX7_walk_41 : decode cX7_walk 41 = .ok (.iload_n 1, 1) := by decide +kernel
theorem dX7_walk_42 : decode cX7_walk 42 = .ok (.iload_n 2, 1) := by decide +kernel
theorem dX7_walk_43 : decode cX7_walk 43 = .ok (.invokevirtual 167, 3) := by decide +kernel
theorem dX7_walk_46 : decode cX7_walk 46 = .ok (.iload 4, 2) := by decide +kernel
theorem dX7_walk_48 : decode cX7_walk 48 = .ok (.ifCond .eq 15, 3) := by decide +kernel
theorem dX7_walk_51 : decode cX7_walk 51 = .ok (.aload_n 0, 1) := by decide +kernel
theorem dX7_walk_52 : decode cX7_walk 52 = .ok (.getfield 38, 3) := by decide +kernel
theorem dX7_walk_55 : decode cX7_walk 55 = .ok (.iload_n 3, 1) := by decide +kernel
theorem dX7_walk_56 : decode cX7_walk 56 = .ok (.bipush 10, 2) := by decide +kernel
theorem dX7_walk_58 : decode cX7_walk 58 = .ok (.isub, 1) := by decide +kernel
theorem dX7_walk_59 : decode cX7_walk 59 = .ok (.invokevirtual 171, 3) := by decide +kernel
theorem dX7_walk_62 : decode cX7_walk 62 = .ok (.ireturn, 1) := by decide +kernel
theorem dX7_walk_63 : decode cX7_walk 63 = .ok (.iload_n 3, 1) := by decide +kernel
theorem dX7_walk_64 : decode cX7_walk 64 = .ok (.ifCond .ne 13, 3) := by decide +kernel
theorem dX7_walk_67 : decode cX7_walk 67 = .ok (.aload_n 0, 1) := by decide +kernel
theorem dX7_walk_68 : decode cX7_walk 68 = .ok (.getfield 38, 3) := by decide +kernel
theorem dX7_walk_71 : decode cX7_walk 71 = .ok (.invokevirtual 174, 3) := by decide +kernel
theorem dX7_walk_74 : decode cX7_walk 74 = .ok (.goto 10, 3) := by decide +kernel
theorem dX7_walk_77 : decode cX7_walk 77 = .ok (.aload_n 0, 1) := by decide +kernel
theorem dX7_walk_78 : decode cX7_walk 78 = .ok (.getfield 38, 3) := by decide +kernel
theorem dX7_walk_81 : decode cX7_walk 81 = .ok (.invokevirtual 177, 3) := by decide +kernel
theorem dX7_walk_84 : decode cX7_walk 84 = .ok (.ireturn, 1) := by decide +kernel
set_option maxRecDepth 20000 in
theorem wX7_walk_37 {p : Program} {l : Launch} {e : Env} {s : State} {m : MethodId} {args : Array Value} {below : List Frame} {meth : Method} {c : Code} {Z : XG} {r : Int32} {S' : Mem} (E : XE p s m args meth c cX7_walk 5 RX7 (some .int) xL Z) : ∀ (S : Mem) (x1 x2 x3 x4 : Int32), fX7_walk_37  S x1 x2 x3 x4 = some (r, S') → WN p l e { frames := 5, cells := 0, slots := 0, locals := 124 } s m args below meth c xL Z (XQ xL Z r S') S 37 5 [(0, .ref (Z.2.1 0)), (1, .int x1), (2, .int x2), (3, .int x3), (4, .int x4)] [] := by
  obtain ⟨hx, hb, -, -, -, -, -, -, -, hQ⟩ := id E
  intro S x1 x2 x3 x4 h H locs ls X hl
  unfold fX7_walk_37 at h
  refine lv_aload_n hx hb dX7_walk_37 rfl (lv_at hl 0 rfl) ?_
  refine x_getr E X ffX7_38 rfl rfl dX7_walk_38 ?_
  refine lv_iload_n hx hb dX7_walk_41 rfl (lv_at hl 1 rfl) ?_
  refine lv_iload_n hx hb dX7_walk_42 rfl (lv_at hl 2 rfl) ?_
  obtain ⟨r_1, S_2, hr_1, h⟩ := bnd_s h
  refine x_callVv E X cwX7_167 (mX5_seatAll l Z hQ  x1 x2 hr_1) rfl rfl rfl rfl hl.1 rfl dX7_walk_43 (fun H locs X => ?_)
  refine lv_iload hx hb dX7_walk_46 (lv_at hl 4 rfl) ?_
  refine lv_if_eq (tgt := 63) hx hb dX7_walk_48 (by decide) (fun c_3 => ?_) (fun c_3 => ?_)
  · have h := if_t c_3 h
    refine lv_iload_n hx hb dX7_walk_63 rfl (lv_at hl 3 rfl) ?_
    refine lv_if_ne (tgt := 77) hx hb dX7_walk_64 (by decide) (fun c_4 => ?_) (fun c_4 => ?_)
    · have h := if_f c_4 h
      refine lv_aload_n hx hb dX7_walk_77 rfl (lv_at hl 0 rfl) ?_
      refine x_getr E X ffX7_38 rfl rfl dX7_walk_78 ?_
      obtain ⟨r_5, S_6, hr_5, h⟩ := bnd_s h
      refine x_callV E X cwX7_177 (mX5_sumOfBurns l Z hQ   hr_5) rfl rfl rfl rfl hl.1 rfl dX7_walk_81 (fun H locs X => ?_)
      exact x_iret E X h dX7_walk_84
    · have h := if_t c_4 h
      refine lv_aload_n hx hb dX7_walk_67 rfl (lv_at hl 0 rfl) ?_
      refine x_getr E X ffX7_38 rfl rfl dX7_walk_68 ?_
      obtain ⟨r_7, S_8, hr_7, h⟩ := bnd_s h
      refine x_callV E X cwX7_174 (mX5_greatestBurn l Z hQ   hr_7) rfl rfl rfl rfl hl.1 rfl dX7_walk_71 (fun H locs X => ?_)
      refine lv_goto (tgt := 84) hx hb dX7_walk_74 (by decide) ?_
      exact x_iret E X h dX7_walk_84
  · have h := if_f c_3 h
    refine lv_aload_n hx hb dX7_walk_51 rfl (lv_at hl 0 rfl) ?_
    refine x_getr E X ffX7_38 rfl rfl dX7_walk_52 ?_
    refine lv_iload_n hx hb dX7_walk_55 rfl (lv_at hl 3 rfl) ?_
    refine lv_bipush (v := (10 : Int32)) hx hb dX7_walk_56 (by decide) ?_
    refine lv_isub hx hb dX7_walk_58 ?_
    obtain ⟨r_9, S_10, hr_9, h⟩ := bnd_s h
    refine x_callV E X cwX7_171 (mX5_seatOf l Z hQ  (x3 - (10 : Int32)) hr_9) rfl rfl rfl rfl hl.1 rfl dX7_walk_59 (fun H locs X => ?_)
    exact x_iret E X h dX7_walk_62
set_option maxRecDepth 20000 in
theorem wX7_walk {p : Program} {l : Launch} {e : Env} {s : State} {m : MethodId} {args : Array Value} {below : List Frame} {meth : Method} {c : Code} {Z : XG} {r : Int32} {S' : Mem} (E : XE p s m args meth c cX7_walk 5 RX7 (some .int) xL Z) : ∀ (S : Mem) (x1 x2 x3 : Int32), fX7_walk  S x1 x2 x3 = some (r, S') → WN p l e { frames := 5, cells := 0, slots := 0, locals := 124 } s m args below meth c xL Z (XQ xL Z r S') S 0 5 [(0, .ref (Z.2.1 0)), (1, .int x1), (2, .int x2), (3, .int x3)] [] := by
  obtain ⟨hx, hb, -, -, -, -, -, -, -, hQ⟩ := id E
  intro S x1 x2 x3 h H locs ls X hl
  unfold fX7_walk at h
  refine lv_aload_n hx hb dX7_walk_0 rfl (lv_at hl 0 rfl) ?_
  refine x_getr E X ffX7_12 rfl rfl dX7_walk_1 ?_
  refine lv_iload_n hx hb dX7_walk_4 rfl (lv_at hl 3 rfl) ?_
  refine lv_bipush (v := (10 : Int32)) hx hb dX7_walk_5 (by decide) ?_
  refine lv_isub hx hb dX7_walk_7 ?_
  obtain ⟨r_1, S_2, hr_1, h⟩ := bnd_s h
  refine x_callV E X cwX7_87 (mX6_isPilgrim l Z hQ  (x3 - (10 : Int32)) hr_1) rfl rfl rfl rfl hl.1 rfl dX7_walk_8 (fun H locs X => ?_)
  refine lv_istore (lv' := [(4, .int r_1), (0, .ref (Z.2.1 0)), (1, .int x1), (2, .int x2), (3, .int x3)]) hx hb dX7_walk_11 hl (by decide) rfl (fun ls hl => ?_)
  refine lv_iload_n hx hb dX7_walk_13 rfl (lv_at hl 2 rfl) ?_
  refine lv_iload_n hx hb dX7_walk_14 rfl (lv_at hl 3 rfl) ?_
  obtain ⟨r_3, S_4, hr_3, h⟩ := bnd_s h
  refine x_callS E X cwX7_164 (mX7_areHours l Z hQ  x1 x2 hr_3) rfl rfl hl.1 rfl dX7_walk_15 (fun H locs X => ?_)
  refine lv_if_eq (tgt := 35) hx hb dX7_walk_18 (by decide) (fun c_5 => ?_) (fun c_5 => ?_)
  · have h := if_t c_5 h
    refine lv_iconst (v := (-1 : Int32)) hx hb dX7_walk_35 (by decide) ?_
    exact x_iret E X h dX7_walk_36
  · have h := if_f c_5 h
    refine lv_iload_n hx hb dX7_walk_21 rfl (lv_at hl 4 rfl) ?_
    refine lv_if_eq (tgt := 37) hx hb dX7_walk_22 (by decide) (fun c_6 => ?_) (fun c_6 => ?_)
    · have h := if_t c_6 h
      exact wX7_walk_37 E   S_4 x1 x2 x3 r_1 h _ _ _ X (lv_sub hl [1, 2, 3, 4, 0] rfl)
    · have h := if_f c_6 h
      refine lv_iload_n hx hb dX7_walk_25 rfl (lv_at hl 4 rfl) ?_
      refine lv_iconst (v := (1 : Int32)) hx hb dX7_walk_26 (by decide) ?_
      refine lv_icmp_eq (tgt := 37) hx hb dX7_walk_27 (by decide) (fun c_7 => ?_) (fun c_7 => ?_)
      · have h := if_t c_7 h
        exact wX7_walk_37 E   S_4 x1 x2 x3 r_1 h _ _ _ X (lv_sub hl [1, 2, 3, 4, 0] rfl)
      · have h := if_f c_7 h
        refine lv_iload hx hb dX7_walk_30 (lv_at hl 0 rfl) ?_
        refine lv_if_ne (tgt := 37) hx hb dX7_walk_32 (by decide) (fun c_8 => ?_) (fun c_8 => ?_)
        · have h := if_f c_8 h
          exact wX7_walk_37 E   S_4 x1 x2 x3 r_1 h _ _ _ X (lv_sub hl [1, 2, 3, 4, 0] rfl)
        · have h := if_t c_8 h
          refine lv_iconst (v := (-1 : Int32)) hx hb dX7_walk_35 (by decide) ?_
          exact x_iret E X h dX7_walk_36
/-- SevenToAShadow.walk(III)I -/
theorem mX7_walk (l : Launch) (Z : XG) (hQ : wQ (List.length xL) Z) {S S' : Mem} {r : Int32} (x1 x2 x3 : Int32) (h : fX7_walk S x1 x2 x3 = some (r, S')) : XM l yX7_walk cX7_walk 5 (some .int) { frames := 5, cells := 0, slots := 0, locals := 124 } xL Z [.ref (Z.2.1 0), .int x1, .int x2, .int x3] S (XQ xL Z r S') := by
  refine XM.of (own := RX7) (by decide +kernel) rfl rfl hQ (fun p e s m args below meth c E ls hl X => ?_)
  exact wX7_walk E S x1 x2 x3 h _ _ _ X hl
def fX5_standingIn_38 (k0 : Mem → Int32 → Int32 → Int32 → O) (S : Mem) (x1 x2 x3 : Int32) : O := k0 S x1 x2 (x3 + (1 : Int32))
def fX5_standingIn_4_b (k0 : Mem → Int32 → Int32 → Int32 → O) (S : Mem) (x1 x2 x3 : Int32) : O := (if (S 1 9) ≤ x3 then some (x2, S) else bnd (fX6_has S x3 (0 : Int32)) fun r_2 S_3 => (if ((x1 >>> (r_2 &&& 31)) &&& (1 : Int32)) = (1 : Int32) then lti (x2 ||| ((1 : Int32) <<< (x3 &&& 31))) fun x2_5 => fX5_standingIn_38 k0 S_3 x1 x2_5 x3 else fX5_standingIn_38 k0 S_3 x1 x2 x3))
def fX5_standingIn_4 : Nat → Mem → Int32 → Int32 → Int32 → O
  | 0 => fun _ _ _ _ => none
  | n + 1 => fX5_standingIn_4_b (fX5_standingIn_4 n)
def fX5_standingIn (S : Mem) (x1 : Int32) : O := fX5_standingIn_4  FU S x1 (0 : Int32) (0 : Int32)
theorem dX5_standingIn_0 : decode cX5_standingIn 0 = .ok (.iconst 0, 1) := by decide +kernel
theorem dX5_standingIn_1 : decode cX5_standingIn 1 = .ok (.istore_n 2, 1) := by decide +kernel
theorem dX5_standingIn_2 : decode cX5_standingIn 2 = .ok (.iconst 0, 1) := by decide +kernel
theorem dX5_standingIn_3 : decode cX5_standingIn 3 = .ok (.istore_n 3, 1) := by decide +kernel
theorem dX5_standingIn_4 : decode cX5_standingIn 4 = .ok (.iload_n 3, 1) := by decide +kernel
theorem dX5_standingIn_5 : decode cX5_standingIn 5 = .ok (.aload_n 0, 1) := by decide +kernel
theorem dX5_standingIn_6 : decode cX5_standingIn 6 = .ok (.getfield 27, 3) := by decide +kernel
theorem dX5_standingIn_9 : decode cX5_standingIn 9 = .ok (.getfield 35, 3) := by decide +kernel
theorem dX5_standingIn_12 : decode cX5_standingIn 12 = .ok (.if_icmp .ge 32, 3) := by decide +kernel
theorem dX5_standingIn_15 : decode cX5_standingIn 15 = .ok (.iload_n 1, 1) := by decide +kernel
theorem dX5_standingIn_16 : decode cX5_standingIn 16 = .ok (.aload_n 0, 1) := by decide +kernel
theorem dX5_standingIn_17 : decode cX5_standingIn 17 = .ok (.getfield 27, 3) := by decide +kernel
theorem dX5_standingIn_20 : decode cX5_standingIn 20 = .ok (.iload_n 3, 1) := by decide +kernel
theorem dX5_standingIn_21 : decode cX5_standingIn 21 = .ok (.iconst 0, 1) := by decide +kernel
theorem dX5_standingIn_22 : decode cX5_standingIn 22 = .ok (.invokevirtual 41, 3) := by decide +kernel
theorem dX5_standingIn_25 : decode cX5_standingIn 25 = .ok (.ishr, 1) := by decide +kernel
theorem dX5_standingIn_26 : decode cX5_standingIn 26 = .ok (.iconst 1, 1) := by decide +kernel
theorem dX5_standingIn_27 : decode cX5_standingIn 27 = .ok (.iand, 1) := by decide +kernel
theorem dX5_standingIn_28 : decode cX5_standingIn 28 = .ok (.iconst 1, 1) := by decide +kernel
theorem dX5_standingIn_29 : decode cX5_standingIn 29 = .ok (.if_icmp .ne 9, 3) := by decide +kernel
theorem dX5_standingIn_32 : decode cX5_standingIn 32 = .ok (.iload_n 2, 1) := by decide +kernel
theorem dX5_standingIn_33 : decode cX5_standingIn 33 = .ok (.iconst 1, 1) := by decide +kernel
theorem dX5_standingIn_34 : decode cX5_standingIn 34 = .ok (.iload_n 3, 1) := by decide +kernel
theorem dX5_standingIn_35 : decode cX5_standingIn 35 = .ok (.ishl, 1) := by decide +kernel
theorem dX5_standingIn_36 : decode cX5_standingIn 36 = .ok (.ior, 1) := by decide +kernel
theorem dX5_standingIn_37 : decode cX5_standingIn 37 = .ok (.istore_n 2, 1) := by decide +kernel
theorem dX5_standingIn_38 : decode cX5_standingIn 38 = .ok (.iinc 3 1, 3) := by decide +kernel
theorem dX5_standingIn_41 : decode cX5_standingIn 41 = .ok (.goto (-37), 3) := by decide +kernel
theorem dX5_standingIn_44 : decode cX5_standingIn 44 = .ok (.iload_n 2, 1) := by decide +kernel
theorem dX5_standingIn_45 : decode cX5_standingIn 45 = .ok (.ireturn, 1) := by decide +kernel
set_option maxRecDepth 20000 in
theorem wX5_standingIn_38 {p : Program} {l : Launch} {e : Env} {s : State} {m : MethodId} {args : Array Value} {below : List Frame} {meth : Method} {c : Code} {Z : XG} {r : Int32} {S' : Mem} (E : XE p s m args meth c cX5_standingIn 4 RX5 (some .int) xL Z) (k0 : Mem → Int32 → Int32 → Int32 → O)  (hk0 : ∀ (S : Mem) (x1 x2 x3 : Int32), k0 S x1 x2 x3 = some (r, S') → WN p l e { frames := 2, cells := 0, slots := 0, locals := 43 } s m args below meth c xL Z (XQ xL Z r S') S 4 4 [(0, .ref (Z.2.1 32)), (1, .int x1), (2, .int x2), (3, .int x3)] []) : ∀ (S : Mem) (x1 x2 x3 : Int32), fX5_standingIn_38 k0 S x1 x2 x3 = some (r, S') → WN p l e { frames := 2, cells := 0, slots := 0, locals := 43 } s m args below meth c xL Z (XQ xL Z r S') S 38 4 [(0, .ref (Z.2.1 32)), (1, .int x1), (2, .int x2), (3, .int x3)] [] := by
  obtain ⟨hx, hb, -, -, -, -, -, -, -, hQ⟩ := id E
  intro S x1 x2 x3 h H locs ls X hl
  unfold fX5_standingIn_38 at h
  refine lv_iinc (v := (x3 + (1 : Int32))) (lv' := [(3, .int (x3 + (1 : Int32))), (0, .ref (Z.2.1 32)), (1, .int x1), (2, .int x2)]) hx hb dX5_standingIn_38 hl (k := 3) rfl rfl (by decide) rfl (fun ls hl => ?_)
  refine lv_goto (tgt := 4) hx hb dX5_standingIn_41 (by decide) ?_
  exact hk0 S x1 x2 (x3 + (1 : Int32)) h _ _ _ X (lv_sub hl [1, 2, 3, 0] rfl)
set_option maxRecDepth 20000 in
theorem wX5_standingIn_4_b {p : Program} {l : Launch} {e : Env} {s : State} {m : MethodId} {args : Array Value} {below : List Frame} {meth : Method} {c : Code} {Z : XG} {r : Int32} {S' : Mem} (E : XE p s m args meth c cX5_standingIn 4 RX5 (some .int) xL Z) (k0 : Mem → Int32 → Int32 → Int32 → O)  (hk0 : ∀ (S : Mem) (x1 x2 x3 : Int32), k0 S x1 x2 x3 = some (r, S') → WN p l e { frames := 2, cells := 0, slots := 0, locals := 43 } s m args below meth c xL Z (XQ xL Z r S') S 4 4 [(0, .ref (Z.2.1 32)), (1, .int x1), (2, .int x2), (3, .int x3)] []) : ∀ (S : Mem) (x1 x2 x3 : Int32), fX5_standingIn_4_b k0 S x1 x2 x3 = some (r, S') → WN p l e { frames := 2, cells := 0, slots := 0, locals := 43 } s m args below meth c xL Z (XQ xL Z r S') S 4 4 [(0, .ref (Z.2.1 32)), (1, .int x1), (2, .int x2), (3, .int x3)] [] := by
  obtain ⟨hx, hb, -, -, -, -, -, -, -, hQ⟩ := id E
  intro S x1 x2 x3 h H locs ls X hl
  unfold fX5_standingIn_4_b at h
  refine lv_iload_n hx hb dX5_standingIn_4 rfl (lv_at hl 3 rfl) ?_
  refine lv_aload_n hx hb dX5_standingIn_5 rfl (lv_at hl 0 rfl) ?_
  refine x_getr E X ffX5_27 rfl rfl dX5_standingIn_6 ?_
  refine x_get E X ffX5_35 rfl rfl dX5_standingIn_9 ?_
  refine lv_icmp_ge (tgt := 44) hx hb dX5_standingIn_12 (by decide) (fun c_1 => ?_) (fun c_1 => ?_)
  · have h := if_t c_1 h
    refine lv_iload_n hx hb dX5_standingIn_44 rfl (lv_at hl 2 rfl) ?_
    exact x_iret E X h dX5_standingIn_45
  · have h := if_f c_1 h
    refine lv_iload_n hx hb dX5_standingIn_15 rfl (lv_at hl 1 rfl) ?_
    refine lv_aload_n hx hb dX5_standingIn_16 rfl (lv_at hl 0 rfl) ?_
    refine x_getr E X ffX5_27 rfl rfl dX5_standingIn_17 ?_
    refine lv_iload_n hx hb dX5_standingIn_20 rfl (lv_at hl 3 rfl) ?_
    refine lv_iconst (v := (0 : Int32)) hx hb dX5_standingIn_21 (by decide) ?_
    obtain ⟨r_2, S_3, hr_2, h⟩ := bnd_s h
    refine x_callV E X cwX5_41 (mX6_has l Z hQ  x3 (0 : Int32) hr_2) rfl rfl rfl rfl hl.1 rfl dX5_standingIn_22 (fun H locs X => ?_)
    refine lv_ishr hx hb dX5_standingIn_25 ?_
    refine lv_iconst (v := (1 : Int32)) hx hb dX5_standingIn_26 (by decide) ?_
    refine lv_iand hx hb dX5_standingIn_27 ?_
    refine lv_iconst (v := (1 : Int32)) hx hb dX5_standingIn_28 (by decide) ?_
    refine lv_icmp_ne (tgt := 38) hx hb dX5_standingIn_29 (by decide) (fun c_4 => ?_) (fun c_4 => ?_)
    · have h := if_f c_4 h
      exact wX5_standingIn_38 E k0 hk0 S_3 x1 x2 x3 h _ _ _ X hl
    · have h := if_t c_4 h
      refine lv_iload_n hx hb dX5_standingIn_32 rfl (lv_at hl 2 rfl) ?_
      refine lv_iconst (v := (1 : Int32)) hx hb dX5_standingIn_33 (by decide) ?_
      refine lv_iload_n hx hb dX5_standingIn_34 rfl (lv_at hl 3 rfl) ?_
      refine lv_ishl hx hb dX5_standingIn_35 ?_
      refine lv_ior hx hb dX5_standingIn_36 ?_
      obtain ⟨x2_5, ex2_5, h⟩ := lti_s h
      refine lv_nm ex2_5 ?_
      refine lv_istore_n (lv' := [(2, .int x2_5), (0, .ref (Z.2.1 32)), (1, .int x1), (3, .int x3)]) hx hb dX5_standingIn_37 rfl hl (by decide) rfl (fun ls hl => ?_)
      exact wX5_standingIn_38 E k0 hk0 S_3 x1 x2_5 x3 h _ _ _ X (lv_sub hl [1, 2, 0, 3] rfl)
theorem wX5_standingIn_4 {p : Program} {l : Launch} {e : Env} {s : State} {m : MethodId} {args : Array Value} {below : List Frame} {meth : Method} {c : Code} {Z : XG} {r : Int32} {S' : Mem} (E : XE p s m args meth c cX5_standingIn 4 RX5 (some .int) xL Z) : ∀ (n : Nat) (S : Mem) (x1 x2 x3 : Int32), fX5_standingIn_4 n S x1 x2 x3 = some (r, S') → WN p l e { frames := 2, cells := 0, slots := 0, locals := 43 } s m args below meth c xL Z (XQ xL Z r S') S 4 4 [(0, .ref (Z.2.1 32)), (1, .int x1), (2, .int x2), (3, .int x3)] [] := by
  intro n
  induction n with
  | zero => intro S x1 x2 x3 h; exact absurd (show (none : O) = some _ from h) (by simp)
  | succ n ih => intro S x1 x2 x3 h; exact wX5_standingIn_4_b E (fX5_standingIn_4 n) ih S x1 x2 x3 h
set_option maxRecDepth 20000 in
theorem wX5_standingIn {p : Program} {l : Launch} {e : Env} {s : State} {m : MethodId} {args : Array Value} {below : List Frame} {meth : Method} {c : Code} {Z : XG} {r : Int32} {S' : Mem} (E : XE p s m args meth c cX5_standingIn 4 RX5 (some .int) xL Z) : ∀ (S : Mem) (x1 : Int32), fX5_standingIn  S x1 = some (r, S') → WN p l e { frames := 2, cells := 0, slots := 0, locals := 43 } s m args below meth c xL Z (XQ xL Z r S') S 0 4 [(0, .ref (Z.2.1 32)), (1, .int x1)] [] := by
  obtain ⟨hx, hb, -, -, -, -, -, -, -, hQ⟩ := id E
  intro S x1 h H locs ls X hl
  unfold fX5_standingIn at h
  refine lv_iconst (v := (0 : Int32)) hx hb dX5_standingIn_0 (by decide) ?_
  refine lv_istore_n (lv' := [(2, .int (0 : Int32)), (0, .ref (Z.2.1 32)), (1, .int x1)]) hx hb dX5_standingIn_1 rfl hl (by decide) rfl (fun ls hl => ?_)
  refine lv_iconst (v := (0 : Int32)) hx hb dX5_standingIn_2 (by decide) ?_
  refine lv_istore_n (lv' := [(3, .int (0 : Int32)), (2, .int (0 : Int32)), (0, .ref (Z.2.1 32)), (1, .int x1)]) hx hb dX5_standingIn_3 rfl hl (by decide) rfl (fun ls hl => ?_)
  exact wX5_standingIn_4 E   FU S x1 (0 : Int32) (0 : Int32) h _ _ _ X (lv_sub hl [2, 3, 1, 0] rfl)
/-- SevenToAShadow$Thought.standingIn(I)I -/
theorem mX5_standingIn (l : Launch) (Z : XG) (hQ : wQ (List.length xL) Z) {S S' : Mem} {r : Int32} (x1 : Int32) (h : fX5_standingIn S x1 = some (r, S')) : XM l yX5_standingIn cX5_standingIn 4 (some .int) { frames := 2, cells := 0, slots := 0, locals := 43 } xL Z [.ref (Z.2.1 32), .int x1] S (XQ xL Z r S') := by
  refine XM.of (own := RX5) (by decide +kernel) rfl rfl hQ (fun p e s m args below meth c E ls hl X => ?_)
  exact wX5_standingIn E S x1 h _ _ _ X hl
def fX5_findNeeds_138 (k0 : Mem → Int32 → Int32 → Int32 → O) (S : Mem) (x1 x3 x4 : Int32) : O := k0 S x1 x3 (x4 + (1 : Int32))
def fX5_findNeeds_100_b (k0 : Mem → Int32 → Int32 → Int32 → O) (S : Mem) (x1 x3 x4 : Int32) : O := (if (S 1 9) ≤ x4 then some ((0 : Int32), S) else bnd (fX6_isShaded S x4 x3) fun r_2 S_3 => (if r_2 = 0 then gd (inB x1 12) <| gd (inB x1 12) <| ltm (mset S_3 35 (x1).toNatClampNeg ((S_3 35 (x1).toNatClampNeg) ||| ((1 : Int32) <<< (x4 &&& 31)))) fun S_7 => fX5_findNeeds_138 k0 S_7 x1 x3 x4 else fX5_findNeeds_138 k0 S_3 x1 x3 x4))
def fX5_findNeeds_100 : Nat → Mem → Int32 → Int32 → Int32 → O
  | 0 => fun _ _ _ _ => none
  | n + 1 => fX5_findNeeds_100_b (fX5_findNeeds_100 n)
def fX5_findNeeds_31_b (k0 : Mem → Int32 → Int32 → Int32 → Int32 → O) (S : Mem) (x1 x2 x3 x4 : Int32) : O := (if (S 1 9) ≤ x4 then gd (inB x1 12) <| ltm (mset S 35 (x1).toNatClampNeg (0 : Int32)) fun S_3 => fX5_findNeeds_100  FU S_3 x1 x3 (0 : Int32) else bnd (fX6_bodyShade S x4 x1 x2) fun r_4 S_5 => lti (x3 ||| r_4) fun x3_6 => bnd (fX6_parasolShade S_5 x4 x1 x2) fun r_7 S_8 => bnd (fX5_standingIn S_8 r_7) fun r_9 S_10 => gd (inB ((x1 * (10 : Int32)) + x4) 120) <| ltm (mset S_10 36 (((x1 * (10 : Int32)) + x4)).toNatClampNeg r_9) fun S_12 => k0 S_12 x1 x2 x3_6 (x4 + (1 : Int32)))
def fX5_findNeeds_31 : Nat → Mem → Int32 → Int32 → Int32 → Int32 → O
  | 0 => fun _ _ _ _ _ => none
  | n + 1 => fX5_findNeeds_31_b (fX5_findNeeds_31 n)
def fX5_findNeeds (S : Mem) (x1 : Int32) : O := bnd (fX7_isHour S x1) fun r_1 S_2 => (if r_1 = 0 then some ((0 : Int32), S_2) else bnd (fX6_inHour S_2 x1 (3 : Int32)) fun r_4 S_5 => bnd (fX6_wayOfShade S_5 x1 r_4) fun r_6 S_7 => fX5_findNeeds_31  FU S_7 x1 r_6 (0 : Int32) (0 : Int32))
theorem dX5_findNeeds_0 : decode cX5_findNeeds 0 = .ok (.iload_n 1, 1) := by decide +kernel
theorem dX5_findNeeds_1 : decode cX5_findNeeds 1 = .ok (.invokestatic 99, 3) := by decide +kernel
theorem dX5_findNeeds_4 : decode cX5_findNeeds 4 = .ok (.ifCond .ne 4, 3) := by decide +kernel
theorem dX5_findNeeds_7 : decode cX5_findNeeds 7 = .ok (.return_, 1) := by decide +kernel
theorem dX5_findNeeds_8 : decode cX5_findNeeds 8 = .ok (.aload_n 0, 1) := by decide +kernel
theorem dX5_findNeeds_9 : decode cX5_findNeeds 9 = .ok (.getfield 27, 3) := by decide +kernel
theorem dX5_findNeeds_12 : decode cX5_findNeeds 12 = .ok (.iload_n 1, 1) := by decide +kernel
theorem dX5_findNeeds_13 : decode cX5_findNeeds 13 = .ok (.aload_n 0, 1) := by decide +kernel
theorem dX5_findNeeds_14 : decode cX5_findNeeds 14 = .ok (.getfield 27, 3) := by decide +kernel
theorem dX5_findNeeds_17 : decode cX5_findNeeds 17 = .ok (.iload_n 1, 1) := by decide +kernel
theorem dX5_findNeeds_18 : decode cX5_findNeeds 18 = .ok (.iconst 3, 1) := by decide +kernel
theorem dX5_findNeeds_19 : decode cX5_findNeeds 19 = .ok (.invokevirtual 58, 3) := by decide +kernel
theorem dX5_findNeeds_22 : decode cX5_findNeeds 22 = .ok (.invokevirtual 61, 3) := by decide +kernel
theorem dX5_findNeeds_25 : decode cX5_findNeeds 25 = .ok (.istore_n 2, 1) := by decide +kernel
theorem dX5_findNeeds_26 : decode cX5_findNeeds 26 = .ok (.iconst 0, 1) := by decide +kernel
theorem dX5_findNeeds_27 : decode cX5_findNeeds 27 = .ok (.istore_n 3, 1) := by decide +kernel
theorem dX5_findNeeds_28 : decode cX5_findNeeds 28 = .ok (.iconst 0, 1) := by decide +kernel
theorem dX5_findNeeds_29 : decode cX5_findNeeds 29 = .ok (.istore 4, 2) := by decide +kernel
theorem dX5_findNeeds_31 : decode cX5_findNeeds 31 = .ok (.iload 4, 2) := by decide +kernel
theorem dX5_findNeeds_33 : decode cX5_findNeeds 33 = .ok (.aload_n 0, 1) := by decide +kernel
theorem dX5_findNeeds_34 : decode cX5_findNeeds 34 = .ok (.getfield 27, 3) := by decide +kernel
theorem dX5_findNeeds_37 : decode cX5_findNeeds 37 = .ok (.getfield 35, 3) := by decide +kernel
theorem dX5_findNeeds_40 : decode cX5_findNeeds 40 = .ok (.if_icmp .ge 50, 3) := by decide +kernel
theorem dX5_findNeeds_43 : decode cX5_findNeeds 43 = .ok (.iload_n 3, 1) := by decide +kernel
theorem dX5_findNeeds_44 : decode cX5_findNeeds 44 = .ok (.aload_n 0, 1) := by decide +kernel
theorem dX5_findNeeds_45 : decode cX5_findNeeds 45 = .ok (.getfield 27, 3) := by decide +kernel
theorem dX5_findNeeds_48 : decode cX5_findNeeds 48 = .ok (.iload 4, 2) := by decide +kernel
theorem dX5_findNeeds_50 : decode cX5_findNeeds 50 = .ok (.iload_n 1, 1) := by decide +kernel
theorem dX5_findNeeds_51 : decode cX5_findNeeds 51 = .ok (.iload_n 2, 1) := by decide +kernel
theorem dX5_findNeeds_52 : decode cX5_findNeeds 52 = .ok (.invokevirtual 102, 3) := by decide +kernel
theorem dX5_findNeeds_55 : decode cX5_findNeeds 55 = .ok (.ior, 1) := by decide +kernel
theorem dX5_findNeeds_56 : decode cX5_findNeeds 56 = .ok (.istore_n 3, 1) := by decide +kernel
theorem dX5_findNeeds_57 : decode cX5_findNeeds 57 = .ok (.aload_n 0, 1) := by decide +kernel
theorem dX5_findNeeds_58 : decode cX5_findNeeds 58 = .ok (.getfield 21, 3) := by decide +kernel
theorem dX5_findNeeds_61 : decode cX5_findNeeds 61 = .ok (.iload_n 1, 1) := by decide +kernel
theorem dX5_findNeeds_62 : decode cX5_findNeeds 62 = .ok (.bipush 10, 2) := by decide +kernel
theorem dX5_findNeeds_64 : decode cX5_findNeeds 64 = .ok (.imul, 1) := by decide +kernel
theorem dX5_findNeeds_65 : decode cX5_findNeeds 65 = .ok (.iload 4, 2) := by decide +kernel
theorem dX5_findNeeds_67 : decode cX5_findNeeds 67 = .ok (.iadd, 1) := by decide +kernel
theorem dX5_findNeeds_68 : decode cX5_findNeeds 68 = .ok (.aload_n 0, 1) := by decide +kernel
theorem dX5_findNeeds_69 : decode cX5_findNeeds 69 = .ok (.aload_n 0, 1) := by decide +kernel
theorem dX5_findNeeds_70 : decode cX5_findNeeds 70 = .ok (.getfield 27, 3) := by decide +kernel
theorem dX5_findNeeds_73 : decode cX5_findNeeds 73 = .ok (.iload 4, 2) := by decide +kernel
theorem dX5_findNeeds_75 : decode cX5_findNeeds 75 = .ok (.iload_n 1, 1) := by decide +kernel
theorem dX5_findNeeds_76 : decode cX5_findNeeds 76 = .ok (.iload_n 2, 1) := by decide +kernel
theorem dX5_findNeeds_77 : decode cX5_findNeeds 77 = .ok (.invokevirtual 64, 3) := by decide +kernel
theorem dX5_findNeeds_80 : decode cX5_findNeeds 80 = .ok (.invokevirtual 105, 3) := by decide +kernel
theorem dX5_findNeeds_83 : decode cX5_findNeeds 83 = .ok (.iastore, 1) := by decide +kernel
theorem dX5_findNeeds_84 : decode cX5_findNeeds 84 = .ok (.iinc 4 1, 3) := by decide +kernel
theorem dX5_findNeeds_87 : decode cX5_findNeeds 87 = .ok (.goto (-56), 3) := by decide +kernel
theorem dX5_findNeeds_90 : decode cX5_findNeeds 90 = .ok (.aload_n 0, 1) := by decide +kernel
theorem dX5_findNeeds_91 : decode cX5_findNeeds 91 = .ok (.getfield 18, 3) := by decide +kernel
theorem dX5_findNeeds_94 : decode cX5_findNeeds 94 = .ok (.iload_n 1, 1) := by decide +kernel
theorem dX5_findNeeds_95 : decode cX5_findNeeds 95 = .ok (.iconst 0, 1) := by decide +kernel
theorem dX5_findNeeds_96 : decode cX5_findNeeds 96 = .ok (.iastore, 1) := by decide +kernel
theorem dX5_findNeeds_97 : decode cX5_findNeeds 97 = .ok (.iconst 0, 1) := by decide +kernel
theorem dX5_findNeeds_98 : decode cX5_findNeeds 98 = .ok (.istore 4, 2) := by decide +kernel
theorem dX5_findNeeds_100 : decode cX5_findNeeds 100 = .ok (.iload 4, 2) := by decide +kernel
theorem dX5_findNeeds_102 : decode cX5_findNeeds 102 = .ok (.aload_n 0, 1) := by decide +kernel
theorem dX5_findNeeds_103 : decode cX5_findNeeds 103 = .ok (.getfield 27, 3) := by decide +kernel
theorem dX5_findNeeds_106 : decode cX5_findNeeds 106 = .ok (.getfield 35, 3) := by decide +kernel
theorem dX5_findNeeds_109 : decode cX5_findNeeds 109 = .ok (.if_icmp .ge 35, 3) := by decide +kernel
theorem dX5_findNeeds_112 : decode cX5_findNeeds 112 = .ok (.aload_n 0, 1) := by decide +kernel
theorem dX5_findNeeds_113 : decode cX5_findNeeds 113 = .ok (.getfield 27, 3) := by decide +kernel
theorem dX5_findNeeds_116 : decode cX5_findNeeds 116 = .ok (.iload 4, 2) := by decide +kernel
theorem dX5_findNeeds_118 : decode cX5_findNeeds 118 = .ok (.iload_n 3, 1) := by decide +kernel
theorem dX5_findNeeds_119 : decode cX5_findNeeds 119 = .ok (.invokevirtual 108, 3) := by decide +kernel
theorem dX5_findNeeds_122 : decode cX5_findNeeds 122 = .ok (.ifCond .ne 16, 3) := by decide +kernel
theorem dX5_findNeeds_125 : decode cX5_findNeeds 125 = .ok (.aload_n 0, 1) := by decide +kernel
theorem dX5_findNeeds_126 : decode cX5_findNeeds 126 = .ok (.getfield 18, 3) := by decide +kernel
theorem dX5_findNeeds_129 : decode cX5_findNeeds 129 = .ok (.iload_n 1, 1) := by decide +kernel
theorem dX5_findNeeds_130 : decode cX5_findNeeds 130 = .ok (.dup2, 1) := by decide +kernel
theorem dX5_findNeeds_131 : decode cX5_findNeeds 131 = .ok (.iaload, 1) := by decide +kernel
theorem dX5_findNeeds_132 : decode cX5_findNeeds 132 = .ok (.iconst 1, 1) := by decide +kernel
theorem dX5_findNeeds_133 : decode cX5_findNeeds 133 = .ok (.iload 4, 2) := by decide +kernel
theorem dX5_findNeeds_135 : decode cX5_findNeeds 135 = .ok (.ishl, 1) := by decide +kernel
theorem dX5_findNeeds_136 : decode cX5_findNeeds 136 = .ok (.ior, 1) := by decide +kernel
theorem dX5_findNeeds_137 : decode cX5_findNeeds 137 = .ok (.iastore, 1) := by decide +kernel
theorem dX5_findNeeds_138 : decode cX5_findNeeds 138 = .ok (.iinc 4 1, 3) := by decide +kernel
theorem dX5_findNeeds_141 : decode cX5_findNeeds 141 = .ok (.goto (-41), 3) := by decide +kernel
theorem dX5_findNeeds_144 : decode cX5_findNeeds 144 = .ok (.return_, 1) := by decide +kernel
set_option maxRecDepth 20000 in
theorem wX5_findNeeds_138 {p : Program} {l : Launch} {e : Env} {s : State} {m : MethodId} {args : Array Value} {below : List Frame} {meth : Method} {c : Code} {Z : XG} {r : Int32} {S' : Mem} (E : XE p s m args meth c cX5_findNeeds 5 RX5 none xL Z) (k0 : Mem → Int32 → Int32 → Int32 → O)  (hk0 : ∀ (S : Mem) (x1 x3 x4 : Int32), k0 S x1 x3 x4 = some (r, S') → WN p l e { frames := 3, cells := 0, slots := 0, locals := 73 } s m args below meth c xL Z (XV xL Z S') S 100 5 [(0, .ref (Z.2.1 32)), (1, .int x1), (3, .int x3), (4, .int x4)] []) : ∀ (S : Mem) (x1 x3 x4 : Int32), fX5_findNeeds_138 k0 S x1 x3 x4 = some (r, S') → WN p l e { frames := 3, cells := 0, slots := 0, locals := 73 } s m args below meth c xL Z (XV xL Z S') S 138 5 [(0, .ref (Z.2.1 32)), (1, .int x1), (3, .int x3), (4, .int x4)] [] := by
  obtain ⟨hx, hb, -, -, -, -, -, -, -, hQ⟩ := id E
  intro S x1 x3 x4 h H locs ls X hl
  unfold fX5_findNeeds_138 at h
  refine lv_iinc (v := (x4 + (1 : Int32))) (lv' := [(4, .int (x4 + (1 : Int32))), (0, .ref (Z.2.1 32)), (1, .int x1), (3, .int x3)]) hx hb dX5_findNeeds_138 hl (k := 3) rfl rfl (by decide) rfl (fun ls hl => ?_)
  refine lv_goto (tgt := 100) hx hb dX5_findNeeds_141 (by decide) ?_
  exact hk0 S x1 x3 (x4 + (1 : Int32)) h _ _ _ X (lv_sub hl [1, 2, 3, 0] rfl)
set_option maxRecDepth 20000 in
theorem wX5_findNeeds_100_b {p : Program} {l : Launch} {e : Env} {s : State} {m : MethodId} {args : Array Value} {below : List Frame} {meth : Method} {c : Code} {Z : XG} {r : Int32} {S' : Mem} (E : XE p s m args meth c cX5_findNeeds 5 RX5 none xL Z) (k0 : Mem → Int32 → Int32 → Int32 → O)  (hk0 : ∀ (S : Mem) (x1 x3 x4 : Int32), k0 S x1 x3 x4 = some (r, S') → WN p l e { frames := 3, cells := 0, slots := 0, locals := 73 } s m args below meth c xL Z (XV xL Z S') S 100 5 [(0, .ref (Z.2.1 32)), (1, .int x1), (3, .int x3), (4, .int x4)] []) : ∀ (S : Mem) (x1 x3 x4 : Int32), fX5_findNeeds_100_b k0 S x1 x3 x4 = some (r, S') → WN p l e { frames := 3, cells := 0, slots := 0, locals := 73 } s m args below meth c xL Z (XV xL Z S') S 100 5 [(0, .ref (Z.2.1 32)), (1, .int x1), (3, .int x3), (4, .int x4)] [] := by
  obtain ⟨hx, hb, -, -, -, -, -, -, -, hQ⟩ := id E
  intro S x1 x3 x4 h H locs ls X hl
  unfold fX5_findNeeds_100_b at h
  refine lv_iload hx hb dX5_findNeeds_100 (lv_at hl 3 rfl) ?_
  refine lv_aload_n hx hb dX5_findNeeds_102 rfl (lv_at hl 0 rfl) ?_
  refine x_getr E X ffX5_27 rfl rfl dX5_findNeeds_103 ?_
  refine x_get E X ffX5_35 rfl rfl dX5_findNeeds_106 ?_
  refine lv_icmp_ge (tgt := 144) hx hb dX5_findNeeds_109 (by decide) (fun c_1 => ?_) (fun c_1 => ?_)
  · have h := if_t c_1 h
    exact x_vret E X h dX5_findNeeds_144
  · have h := if_f c_1 h
    refine lv_aload_n hx hb dX5_findNeeds_112 rfl (lv_at hl 0 rfl) ?_
    refine x_getr E X ffX5_27 rfl rfl dX5_findNeeds_113 ?_
    refine lv_iload hx hb dX5_findNeeds_116 (lv_at hl 3 rfl) ?_
    refine lv_iload_n hx hb dX5_findNeeds_118 rfl (lv_at hl 2 rfl) ?_
    obtain ⟨r_2, S_3, hr_2, h⟩ := bnd_s h
    refine x_callV E X cwX5_108 (mX6_isShaded l Z hQ  x4 x3 hr_2) rfl rfl rfl rfl hl.1 rfl dX5_findNeeds_119 (fun H locs X => ?_)
    refine lv_if_ne (tgt := 138) hx hb dX5_findNeeds_122 (by decide) (fun c_4 => ?_) (fun c_4 => ?_)
    · have h := if_f c_4 h
      exact wX5_findNeeds_138 E k0 hk0 S_3 x1 x3 x4 h _ _ _ X hl
    · have h := if_t c_4 h
      refine lv_aload_n hx hb dX5_findNeeds_125 rfl (lv_at hl 0 rfl) ?_
      refine x_getr E X ffX5_18 rfl rfl dX5_findNeeds_126 ?_
      refine lv_iload_n hx hb dX5_findNeeds_129 rfl (lv_at hl 1 rfl) ?_
      refine lv_dup2_11 hx hb dX5_findNeeds_130 rfl rfl ?_
      obtain ⟨g_5, h⟩ := gd_s h
      refine x_iald E X rfl g_5 dX5_findNeeds_131 ?_
      refine lv_iconst (v := (1 : Int32)) hx hb dX5_findNeeds_132 (by decide) ?_
      refine lv_iload hx hb dX5_findNeeds_133 (lv_at hl 3 rfl) ?_
      refine lv_ishl hx hb dX5_findNeeds_135 ?_
      refine lv_ior hx hb dX5_findNeeds_136 ?_
      obtain ⟨g_6, h⟩ := gd_s h
      obtain ⟨S_7, eS_7, h⟩ := ltm_s h
      refine x_iast E X rfl g_6 dX5_findNeeds_137 (fun H locs X => ?_)
      rw [← eS_7] at X
      exact wX5_findNeeds_138 E k0 hk0 S_7 x1 x3 x4 h _ _ _ X hl
theorem wX5_findNeeds_100 {p : Program} {l : Launch} {e : Env} {s : State} {m : MethodId} {args : Array Value} {below : List Frame} {meth : Method} {c : Code} {Z : XG} {r : Int32} {S' : Mem} (E : XE p s m args meth c cX5_findNeeds 5 RX5 none xL Z) : ∀ (n : Nat) (S : Mem) (x1 x3 x4 : Int32), fX5_findNeeds_100 n S x1 x3 x4 = some (r, S') → WN p l e { frames := 3, cells := 0, slots := 0, locals := 73 } s m args below meth c xL Z (XV xL Z S') S 100 5 [(0, .ref (Z.2.1 32)), (1, .int x1), (3, .int x3), (4, .int x4)] [] := by
  intro n
  induction n with
  | zero => intro S x1 x3 x4 h; exact absurd (show (none : O) = some _ from h) (by simp)
  | succ n ih => intro S x1 x3 x4 h; exact wX5_findNeeds_100_b E (fX5_findNeeds_100 n) ih S x1 x3 x4 h
set_option maxRecDepth 20000 in
theorem wX5_findNeeds_31_b {p : Program} {l : Launch} {e : Env} {s : State} {m : MethodId} {args : Array Value} {below : List Frame} {meth : Method} {c : Code} {Z : XG} {r : Int32} {S' : Mem} (E : XE p s m args meth c cX5_findNeeds 5 RX5 none xL Z) (k0 : Mem → Int32 → Int32 → Int32 → Int32 → O)  (hk0 : ∀ (S : Mem) (x1 x2 x3 x4 : Int32), k0 S x1 x2 x3 x4 = some (r, S') → WN p l e { frames := 3, cells := 0, slots := 0, locals := 73 } s m args below meth c xL Z (XV xL Z S') S 31 5 [(0, .ref (Z.2.1 32)), (1, .int x1), (2, .int x2), (3, .int x3), (4, .int x4)] []) : ∀ (S : Mem) (x1 x2 x3 x4 : Int32), fX5_findNeeds_31_b k0 S x1 x2 x3 x4 = some (r, S') → WN p l e { frames := 3, cells := 0, slots := 0, locals := 73 } s m args below meth c xL Z (XV xL Z S') S 31 5 [(0, .ref (Z.2.1 32)), (1, .int x1), (2, .int x2), (3, .int x3), (4, .int x4)] [] := by
  obtain ⟨hx, hb, -, -, -, -, -, -, -, hQ⟩ := id E
  intro S x1 x2 x3 x4 h H locs ls X hl
  unfold fX5_findNeeds_31_b at h
  refine lv_iload hx hb dX5_findNeeds_31 (lv_at hl 4 rfl) ?_
  refine lv_aload_n hx hb dX5_findNeeds_33 rfl (lv_at hl 0 rfl) ?_
  refine x_getr E X ffX5_27 rfl rfl dX5_findNeeds_34 ?_
  refine x_get E X ffX5_35 rfl rfl dX5_findNeeds_37 ?_
  refine lv_icmp_ge (tgt := 90) hx hb dX5_findNeeds_40 (by decide) (fun c_1 => ?_) (fun c_1 => ?_)
  · have h := if_t c_1 h
    refine lv_aload_n hx hb dX5_findNeeds_90 rfl (lv_at hl 0 rfl) ?_
    refine x_getr E X ffX5_18 rfl rfl dX5_findNeeds_91 ?_
    refine lv_iload_n hx hb dX5_findNeeds_94 rfl (lv_at hl 1 rfl) ?_
    refine lv_iconst (v := (0 : Int32)) hx hb dX5_findNeeds_95 (by decide) ?_
    obtain ⟨g_2, h⟩ := gd_s h
    obtain ⟨S_3, eS_3, h⟩ := ltm_s h
    refine x_iast E X rfl g_2 dX5_findNeeds_96 (fun H locs X => ?_)
    rw [← eS_3] at X
    refine lv_iconst (v := (0 : Int32)) hx hb dX5_findNeeds_97 (by decide) ?_
    refine lv_istore (lv' := [(4, .int (0 : Int32)), (0, .ref (Z.2.1 32)), (1, .int x1), (2, .int x2), (3, .int x3)]) hx hb dX5_findNeeds_98 hl (by decide) rfl (fun ls hl => ?_)
    exact wX5_findNeeds_100 E   FU S_3 x1 x3 (0 : Int32) h _ _ _ X (lv_sub hl [1, 2, 4, 0] rfl)
  · have h := if_f c_1 h
    refine lv_iload_n hx hb dX5_findNeeds_43 rfl (lv_at hl 3 rfl) ?_
    refine lv_aload_n hx hb dX5_findNeeds_44 rfl (lv_at hl 0 rfl) ?_
    refine x_getr E X ffX5_27 rfl rfl dX5_findNeeds_45 ?_
    refine lv_iload hx hb dX5_findNeeds_48 (lv_at hl 4 rfl) ?_
    refine lv_iload_n hx hb dX5_findNeeds_50 rfl (lv_at hl 1 rfl) ?_
    refine lv_iload_n hx hb dX5_findNeeds_51 rfl (lv_at hl 2 rfl) ?_
    obtain ⟨r_4, S_5, hr_4, h⟩ := bnd_s h
    refine x_callV E X cwX5_102 (mX6_bodyShade l Z hQ  x4 x1 x2 hr_4) rfl rfl rfl rfl hl.1 rfl dX5_findNeeds_52 (fun H locs X => ?_)
    refine lv_ior hx hb dX5_findNeeds_55 ?_
    obtain ⟨x3_6, ex3_6, h⟩ := lti_s h
    refine lv_nm ex3_6 ?_
    refine lv_istore_n (lv' := [(3, .int x3_6), (0, .ref (Z.2.1 32)), (1, .int x1), (2, .int x2), (4, .int x4)]) hx hb dX5_findNeeds_56 rfl hl (by decide) rfl (fun ls hl => ?_)
    refine lv_aload_n hx hb dX5_findNeeds_57 rfl (lv_at hl 1 rfl) ?_
    refine x_getr E X ffX5_21 rfl rfl dX5_findNeeds_58 ?_
    refine lv_iload_n hx hb dX5_findNeeds_61 rfl (lv_at hl 2 rfl) ?_
    refine lv_bipush (v := (10 : Int32)) hx hb dX5_findNeeds_62 (by decide) ?_
    refine lv_imul hx hb dX5_findNeeds_64 ?_
    refine lv_iload hx hb dX5_findNeeds_65 (lv_at hl 4 rfl) ?_
    refine lv_iadd hx hb dX5_findNeeds_67 ?_
    refine lv_aload_n hx hb dX5_findNeeds_68 rfl (lv_at hl 1 rfl) ?_
    refine lv_aload_n hx hb dX5_findNeeds_69 rfl (lv_at hl 1 rfl) ?_
    refine x_getr E X ffX5_27 rfl rfl dX5_findNeeds_70 ?_
    refine lv_iload hx hb dX5_findNeeds_73 (lv_at hl 4 rfl) ?_
    refine lv_iload_n hx hb dX5_findNeeds_75 rfl (lv_at hl 2 rfl) ?_
    refine lv_iload_n hx hb dX5_findNeeds_76 rfl (lv_at hl 3 rfl) ?_
    obtain ⟨r_7, S_8, hr_7, h⟩ := bnd_s h
    refine x_callV E X cwX5_64 (mX6_parasolShade l Z hQ  x4 x1 x2 hr_7) rfl rfl rfl rfl hl.1 rfl dX5_findNeeds_77 (fun H locs X => ?_)
    obtain ⟨r_9, S_10, hr_9, h⟩ := bnd_s h
    refine x_callV E X cwX5_105 (mX5_standingIn l Z hQ  r_7 hr_9) rfl rfl rfl rfl hl.1 rfl dX5_findNeeds_80 (fun H locs X => ?_)
    obtain ⟨g_11, h⟩ := gd_s h
    obtain ⟨S_12, eS_12, h⟩ := ltm_s h
    refine x_iast E X rfl g_11 dX5_findNeeds_83 (fun H locs X => ?_)
    rw [← eS_12] at X
    refine lv_iinc (v := (x4 + (1 : Int32))) (lv' := [(4, .int (x4 + (1 : Int32))), (3, .int x3_6), (0, .ref (Z.2.1 32)), (1, .int x1), (2, .int x2)]) hx hb dX5_findNeeds_84 hl (k := 4) rfl rfl (by decide) rfl (fun ls hl => ?_)
    refine lv_goto (tgt := 31) hx hb dX5_findNeeds_87 (by decide) ?_
    exact hk0 S_12 x1 x2 x3_6 (x4 + (1 : Int32)) h _ _ _ X (lv_sub hl [2, 3, 4, 1, 0] rfl)
theorem wX5_findNeeds_31 {p : Program} {l : Launch} {e : Env} {s : State} {m : MethodId} {args : Array Value} {below : List Frame} {meth : Method} {c : Code} {Z : XG} {r : Int32} {S' : Mem} (E : XE p s m args meth c cX5_findNeeds 5 RX5 none xL Z) : ∀ (n : Nat) (S : Mem) (x1 x2 x3 x4 : Int32), fX5_findNeeds_31 n S x1 x2 x3 x4 = some (r, S') → WN p l e { frames := 3, cells := 0, slots := 0, locals := 73 } s m args below meth c xL Z (XV xL Z S') S 31 5 [(0, .ref (Z.2.1 32)), (1, .int x1), (2, .int x2), (3, .int x3), (4, .int x4)] [] := by
  intro n
  induction n with
  | zero => intro S x1 x2 x3 x4 h; exact absurd (show (none : O) = some _ from h) (by simp)
  | succ n ih => intro S x1 x2 x3 x4 h; exact wX5_findNeeds_31_b E (fX5_findNeeds_31 n) ih S x1 x2 x3 x4 h
set_option maxRecDepth 20000 in
theorem wX5_findNeeds {p : Program} {l : Launch} {e : Env} {s : State} {m : MethodId} {args : Array Value} {below : List Frame} {meth : Method} {c : Code} {Z : XG} {r : Int32} {S' : Mem} (E : XE p s m args meth c cX5_findNeeds 5 RX5 none xL Z) : ∀ (S : Mem) (x1 : Int32), fX5_findNeeds  S x1 = some (r, S') → WN p l e { frames := 3, cells := 0, slots := 0, locals := 73 } s m args below meth c xL Z (XV xL Z S') S 0 5 [(0, .ref (Z.2.1 32)), (1, .int x1)] [] := by
  obtain ⟨hx, hb, -, -, -, -, -, -, -, hQ⟩ := id E
  intro S x1 h H locs ls X hl
  unfold fX5_findNeeds at h
  refine lv_iload_n hx hb dX5_findNeeds_0 rfl (lv_at hl 1 rfl) ?_
  obtain ⟨r_1, S_2, hr_1, h⟩ := bnd_s h
  refine x_callN E X cwX5_99 (mX7_isHour l Z hQ  x1 hr_1) rfl rfl hl.1 rfl dX5_findNeeds_1 (fun H locs X => ?_)
  refine lv_if_ne (tgt := 8) hx hb dX5_findNeeds_4 (by decide) (fun c_3 => ?_) (fun c_3 => ?_)
  · have h := if_f c_3 h
    refine lv_aload_n hx hb dX5_findNeeds_8 rfl (lv_at hl 0 rfl) ?_
    refine x_getr E X ffX5_27 rfl rfl dX5_findNeeds_9 ?_
    refine lv_iload_n hx hb dX5_findNeeds_12 rfl (lv_at hl 1 rfl) ?_
    refine lv_aload_n hx hb dX5_findNeeds_13 rfl (lv_at hl 0 rfl) ?_
    refine x_getr E X ffX5_27 rfl rfl dX5_findNeeds_14 ?_
    refine lv_iload_n hx hb dX5_findNeeds_17 rfl (lv_at hl 1 rfl) ?_
    refine lv_iconst (v := (3 : Int32)) hx hb dX5_findNeeds_18 (by decide) ?_
    obtain ⟨r_4, S_5, hr_4, h⟩ := bnd_s h
    refine x_callV E X cwX5_58 (mX6_inHour l Z hQ  x1 (3 : Int32) hr_4) rfl rfl rfl rfl hl.1 rfl dX5_findNeeds_19 (fun H locs X => ?_)
    obtain ⟨r_6, S_7, hr_6, h⟩ := bnd_s h
    refine x_callV E X cwX5_61 (mX6_wayOfShade l Z hQ  x1 r_4 hr_6) rfl rfl rfl rfl hl.1 rfl dX5_findNeeds_22 (fun H locs X => ?_)
    refine lv_istore_n (lv' := [(2, .int r_6), (0, .ref (Z.2.1 32)), (1, .int x1)]) hx hb dX5_findNeeds_25 rfl hl (by decide) rfl (fun ls hl => ?_)
    refine lv_iconst (v := (0 : Int32)) hx hb dX5_findNeeds_26 (by decide) ?_
    refine lv_istore_n (lv' := [(3, .int (0 : Int32)), (2, .int r_6), (0, .ref (Z.2.1 32)), (1, .int x1)]) hx hb dX5_findNeeds_27 rfl hl (by decide) rfl (fun ls hl => ?_)
    refine lv_iconst (v := (0 : Int32)) hx hb dX5_findNeeds_28 (by decide) ?_
    refine lv_istore (lv' := [(4, .int (0 : Int32)), (3, .int (0 : Int32)), (2, .int r_6), (0, .ref (Z.2.1 32)), (1, .int x1)]) hx hb dX5_findNeeds_29 hl (by decide) rfl (fun ls hl => ?_)
    exact wX5_findNeeds_31 E   FU S_7 x1 r_6 (0 : Int32) (0 : Int32) h _ _ _ X (lv_sub hl [3, 4, 2, 1, 0] rfl)
  · have h := if_t c_3 h
    exact x_vret E X h dX5_findNeeds_7
/-- SevenToAShadow$Thought.findNeeds(I)V -/
theorem mX5_findNeeds (l : Launch) (Z : XG) (hQ : wQ (List.length xL) Z) {S S' : Mem} {r : Int32} (x1 : Int32) (h : fX5_findNeeds S x1 = some (r, S')) : XM l yX5_findNeeds cX5_findNeeds 5 none { frames := 3, cells := 0, slots := 0, locals := 73 } xL Z [.ref (Z.2.1 32), .int x1] S (XV xL Z S') := by
  refine XM.of (own := RX5) (by decide +kernel) rfl rfl hQ (fun p e s m args below meth c E ls hl X => ?_)
  exact wX5_findNeeds E S x1 h _ _ _ X hl
def fJ6_bitCount (S : Mem) (x0 : Int32) : O := lti (x0 - ((ushr x0 (1 : Int32)) &&& (1431655765 : Int32))) fun x0_1 => lti ((x0_1 &&& (858993459 : Int32)) + ((ushr x0_1 (2 : Int32)) &&& (858993459 : Int32))) fun x0_2 => lti ((x0_2 + (ushr x0_2 (4 : Int32))) &&& (252645135 : Int32)) fun x0_3 => lti (x0_3 + (ushr x0_3 (8 : Int32))) fun x0_4 => lti (x0_4 + (ushr x0_4 (16 : Int32))) fun x0_5 => some ((x0_5 &&& (63 : Int32)), S)
theorem dJ6_bitCount_0f7a4_0 : decode cJ6_bitCount_0f7a4 0 = .ok (.iload_n 0, 1) := by decide +kernel
theorem dJ6_bitCount_0f7a4_1 : decode cJ6_bitCount_0f7a4 1 = .ok (.iload_n 0, 1) := by decide +kernel
theorem dJ6_bitCount_0f7a4_2 : decode cJ6_bitCount_0f7a4 2 = .ok (.iconst 1, 1) := by decide +kernel
theorem dJ6_bitCount_0f7a4_3 : decode cJ6_bitCount_0f7a4 3 = .ok (.iushr, 1) := by decide +kernel
theorem dJ6_bitCount_0f7a4_4 : decode cJ6_bitCount_0f7a4 4 = .ok (.ldc_w 265, 3) := by decide +kernel
theorem dJ6_bitCount_0f7a4_7 : decode cJ6_bitCount_0f7a4 7 = .ok (.iand, 1) := by decide +kernel
theorem dJ6_bitCount_0f7a4_8 : decode cJ6_bitCount_0f7a4 8 = .ok (.isub, 1) := by decide +kernel
theorem dJ6_bitCount_0f7a4_9 : decode cJ6_bitCount_0f7a4 9 = .ok (.istore_n 0, 1) := by decide +kernel
theorem dJ6_bitCount_0f7a4_10 : decode cJ6_bitCount_0f7a4 10 = .ok (.iload_n 0, 1) := by decide +kernel
theorem dJ6_bitCount_0f7a4_11 : decode cJ6_bitCount_0f7a4 11 = .ok (.ldc_w 266, 3) := by decide +kernel
theorem dJ6_bitCount_0f7a4_14 : decode cJ6_bitCount_0f7a4 14 = .ok (.iand, 1) := by decide +kernel
theorem dJ6_bitCount_0f7a4_15 : decode cJ6_bitCount_0f7a4 15 = .ok (.iload_n 0, 1) := by decide +kernel
theorem dJ6_bitCount_0f7a4_16 : decode cJ6_bitCount_0f7a4 16 = .ok (.iconst 2, 1) := by decide +kernel
theorem dJ6_bitCount_0f7a4_17 : decode cJ6_bitCount_0f7a4 17 = .ok (.iushr, 1) := by decide +kernel
theorem dJ6_bitCount_0f7a4_18 : decode cJ6_bitCount_0f7a4 18 = .ok (.ldc_w 266, 3) := by decide +kernel
theorem dJ6_bitCount_0f7a4_21 : decode cJ6_bitCount_0f7a4 21 = .ok (.iand, 1) := by decide +kernel
theorem dJ6_bitCount_0f7a4_22 : decode cJ6_bitCount_0f7a4 22 = .ok (.iadd, 1) := by decide +kernel
theorem dJ6_bitCount_0f7a4_23 : decode cJ6_bitCount_0f7a4 23 = .ok (.istore_n 0, 1) := by decide +kernel
theorem dJ6_bitCount_0f7a4_24 : decode cJ6_bitCount_0f7a4 24 = .ok (.iload_n 0, 1) := by decide +kernel
theorem dJ6_bitCount_0f7a4_25 : decode cJ6_bitCount_0f7a4 25 = .ok (.iload_n 0, 1) := by decide +kernel
theorem dJ6_bitCount_0f7a4_26 : decode cJ6_bitCount_0f7a4 26 = .ok (.iconst 4, 1) := by decide +kernel
theorem dJ6_bitCount_0f7a4_27 : decode cJ6_bitCount_0f7a4 27 = .ok (.iushr, 1) := by decide +kernel
theorem dJ6_bitCount_0f7a4_28 : decode cJ6_bitCount_0f7a4 28 = .ok (.iadd, 1) := by decide +kernel
theorem dJ6_bitCount_0f7a4_29 : decode cJ6_bitCount_0f7a4 29 = .ok (.ldc_w 267, 3) := by decide +kernel
theorem dJ6_bitCount_0f7a4_32 : decode cJ6_bitCount_0f7a4 32 = .ok (.iand, 1) := by decide +kernel
theorem dJ6_bitCount_0f7a4_33 : decode cJ6_bitCount_0f7a4 33 = .ok (.istore_n 0, 1) := by decide +kernel
theorem dJ6_bitCount_0f7a4_34 : decode cJ6_bitCount_0f7a4 34 = .ok (.iload_n 0, 1) := by decide +kernel
theorem dJ6_bitCount_0f7a4_35 : decode cJ6_bitCount_0f7a4 35 = .ok (.iload_n 0, 1) := by decide +kernel
theorem dJ6_bitCount_0f7a4_36 : decode cJ6_bitCount_0f7a4 36 = .ok (.bipush 8, 2) := by decide +kernel
theorem dJ6_bitCount_0f7a4_38 : decode cJ6_bitCount_0f7a4 38 = .ok (.iushr, 1) := by decide +kernel
theorem dJ6_bitCount_0f7a4_39 : decode cJ6_bitCount_0f7a4 39 = .ok (.iadd, 1) := by decide +kernel
theorem dJ6_bitCount_0f7a4_40 : decode cJ6_bitCount_0f7a4 40 = .ok (.istore_n 0, 1) := by decide +kernel
theorem dJ6_bitCount_0f7a4_41 : decode cJ6_bitCount_0f7a4 41 = .ok (.iload_n 0, 1) := by decide +kernel
theorem dJ6_bitCount_0f7a4_42 : decode cJ6_bitCount_0f7a4 42 = .ok (.iload_n 0, 1) := by decide +kernel
theorem dJ6_bitCount_0f7a4_43 : decode cJ6_bitCount_0f7a4 43 = .ok (.bipush 16, 2) := by decide +kernel
theorem dJ6_bitCount_0f7a4_45 : decode cJ6_bitCount_0f7a4 45 = .ok (.iushr, 1) := by decide +kernel
theorem dJ6_bitCount_0f7a4_46 : decode cJ6_bitCount_0f7a4 46 = .ok (.iadd, 1) := by decide +kernel
theorem dJ6_bitCount_0f7a4_47 : decode cJ6_bitCount_0f7a4 47 = .ok (.istore_n 0, 1) := by decide +kernel
theorem dJ6_bitCount_0f7a4_48 : decode cJ6_bitCount_0f7a4 48 = .ok (.iload_n 0, 1) := by decide +kernel
theorem dJ6_bitCount_0f7a4_49 : decode cJ6_bitCount_0f7a4 49 = .ok (.bipush 63, 2) := by decide +kernel
theorem dJ6_bitCount_0f7a4_51 : decode cJ6_bitCount_0f7a4 51 = .ok (.iand, 1) := by decide +kernel
theorem dJ6_bitCount_0f7a4_52 : decode cJ6_bitCount_0f7a4 52 = .ok (.ireturn, 1) := by decide +kernel
set_option maxRecDepth 20000 in
theorem wJ6_bitCount {p : Program} {l : Launch} {e : Env} {s : State} {m : MethodId} {args : Array Value} {below : List Frame} {meth : Method} {c : Code} {Z : XG} {r : Int32} {S' : Mem} (E : XE p s m args meth c cJ6_bitCount_0f7a4 1 RJ6 (some .int) xL Z) : ∀ (S : Mem) (x0 : Int32), fJ6_bitCount  S x0 = some (r, S') → WN p l e { frames := 0, cells := 0, slots := 0, locals := 0 } s m args below meth c xL Z (XQ xL Z r S') S 0 1 [(0, .int x0)] [] := by
  obtain ⟨hx, hb, -, -, -, -, -, -, -, hQ⟩ := id E
  intro S x0 h H locs ls X hl
  unfold fJ6_bitCount at h
  refine lv_iload_n hx hb dJ6_bitCount_0f7a4_0 rfl (lv_at hl 0 rfl) ?_
  refine lv_iload_n hx hb dJ6_bitCount_0f7a4_1 rfl (lv_at hl 0 rfl) ?_
  refine lv_iconst (v := (1 : Int32)) hx hb dJ6_bitCount_0f7a4_2 (by decide) ?_
  refine lv_iushr (v := (ushr x0 (1 : Int32))) hx hb dJ6_bitCount_0f7a4_3 rfl ?_
  refine x_ldcw E csJ6_265 dJ6_bitCount_0f7a4_4 ?_
  refine lv_iand hx hb dJ6_bitCount_0f7a4_7 ?_
  refine lv_isub hx hb dJ6_bitCount_0f7a4_8 ?_
  obtain ⟨x0_1, ex0_1, h⟩ := lti_s h
  refine lv_nm ex0_1 ?_
  refine lv_istore_n (lv' := [(0, .int x0_1)]) hx hb dJ6_bitCount_0f7a4_9 rfl hl (by decide) rfl (fun ls hl => ?_)
  refine lv_iload_n hx hb dJ6_bitCount_0f7a4_10 rfl (lv_at hl 0 rfl) ?_
  refine x_ldcw E csJ6_266 dJ6_bitCount_0f7a4_11 ?_
  refine lv_iand hx hb dJ6_bitCount_0f7a4_14 ?_
  refine lv_iload_n hx hb dJ6_bitCount_0f7a4_15 rfl (lv_at hl 0 rfl) ?_
  refine lv_iconst (v := (2 : Int32)) hx hb dJ6_bitCount_0f7a4_16 (by decide) ?_
  refine lv_iushr (v := (ushr x0_1 (2 : Int32))) hx hb dJ6_bitCount_0f7a4_17 rfl ?_
  refine x_ldcw E csJ6_266 dJ6_bitCount_0f7a4_18 ?_
  refine lv_iand hx hb dJ6_bitCount_0f7a4_21 ?_
  refine lv_iadd hx hb dJ6_bitCount_0f7a4_22 ?_
  obtain ⟨x0_2, ex0_2, h⟩ := lti_s h
  refine lv_nm ex0_2 ?_
  refine lv_istore_n (lv' := [(0, .int x0_2)]) hx hb dJ6_bitCount_0f7a4_23 rfl hl (by decide) rfl (fun ls hl => ?_)
  refine lv_iload_n hx hb dJ6_bitCount_0f7a4_24 rfl (lv_at hl 0 rfl) ?_
  refine lv_iload_n hx hb dJ6_bitCount_0f7a4_25 rfl (lv_at hl 0 rfl) ?_
  refine lv_iconst (v := (4 : Int32)) hx hb dJ6_bitCount_0f7a4_26 (by decide) ?_
  refine lv_iushr (v := (ushr x0_2 (4 : Int32))) hx hb dJ6_bitCount_0f7a4_27 rfl ?_
  refine lv_iadd hx hb dJ6_bitCount_0f7a4_28 ?_
  refine x_ldcw E csJ6_267 dJ6_bitCount_0f7a4_29 ?_
  refine lv_iand hx hb dJ6_bitCount_0f7a4_32 ?_
  obtain ⟨x0_3, ex0_3, h⟩ := lti_s h
  refine lv_nm ex0_3 ?_
  refine lv_istore_n (lv' := [(0, .int x0_3)]) hx hb dJ6_bitCount_0f7a4_33 rfl hl (by decide) rfl (fun ls hl => ?_)
  refine lv_iload_n hx hb dJ6_bitCount_0f7a4_34 rfl (lv_at hl 0 rfl) ?_
  refine lv_iload_n hx hb dJ6_bitCount_0f7a4_35 rfl (lv_at hl 0 rfl) ?_
  refine lv_bipush (v := (8 : Int32)) hx hb dJ6_bitCount_0f7a4_36 (by decide) ?_
  refine lv_iushr (v := (ushr x0_3 (8 : Int32))) hx hb dJ6_bitCount_0f7a4_38 rfl ?_
  refine lv_iadd hx hb dJ6_bitCount_0f7a4_39 ?_
  obtain ⟨x0_4, ex0_4, h⟩ := lti_s h
  refine lv_nm ex0_4 ?_
  refine lv_istore_n (lv' := [(0, .int x0_4)]) hx hb dJ6_bitCount_0f7a4_40 rfl hl (by decide) rfl (fun ls hl => ?_)
  refine lv_iload_n hx hb dJ6_bitCount_0f7a4_41 rfl (lv_at hl 0 rfl) ?_
  refine lv_iload_n hx hb dJ6_bitCount_0f7a4_42 rfl (lv_at hl 0 rfl) ?_
  refine lv_bipush (v := (16 : Int32)) hx hb dJ6_bitCount_0f7a4_43 (by decide) ?_
  refine lv_iushr (v := (ushr x0_4 (16 : Int32))) hx hb dJ6_bitCount_0f7a4_45 rfl ?_
  refine lv_iadd hx hb dJ6_bitCount_0f7a4_46 ?_
  obtain ⟨x0_5, ex0_5, h⟩ := lti_s h
  refine lv_nm ex0_5 ?_
  refine lv_istore_n (lv' := [(0, .int x0_5)]) hx hb dJ6_bitCount_0f7a4_47 rfl hl (by decide) rfl (fun ls hl => ?_)
  refine lv_iload_n hx hb dJ6_bitCount_0f7a4_48 rfl (lv_at hl 0 rfl) ?_
  refine lv_bipush (v := (63 : Int32)) hx hb dJ6_bitCount_0f7a4_49 (by decide) ?_
  refine lv_iand hx hb dJ6_bitCount_0f7a4_51 ?_
  exact x_iret E X h dJ6_bitCount_0f7a4_52
/-- java/lang/Integer.bitCount(I)I -/
theorem mJ6_bitCount (l : Launch) (Z : XG) (hQ : wQ (List.length xL) Z) {S S' : Mem} {r : Int32} (x0 : Int32) (h : fJ6_bitCount S x0 = some (r, S')) : XM l yJ6_bitCount_0f7a4 cJ6_bitCount_0f7a4 1 (some .int) { frames := 0, cells := 0, slots := 0, locals := 0 } xL Z [.int x0] S (XQ xL Z r S') := by
  refine XM.of (own := RJ6) (by decide +kernel) rfl rfl hQ (fun p e s m args below meth c E ls hl X => ?_)
  exact wJ6_bitCount E S x0 h _ _ _ X hl
def fX5_isEnough_85 (k0 : Mem → Int32 → Int32 → Int32 → O) (S : Mem) (x1 x3 x4 x5 : Int32) : O := (if x5 = 0 then k0 S x1 x3 (x4 + (1 : Int32)) else some ((0 : Int32), S))
def fX5_isEnough_79 (k0 : Mem → Int32 → Int32 → Int32 → O) (k1 : Mem → Int32 → Int32 → Int32 → Int32 → Int32 → O) (S : Mem) (x1 x3 x4 x5 x6 : Int32) : O := k1 S x1 x3 x4 x5 (x6 + (1 : Int32))
def fX5_isEnough_32_b (k0 : Mem → Int32 → Int32 → Int32 → O) (k1 : Mem → Int32 → Int32 → Int32 → Int32 → Int32 → O) (S : Mem) (x1 x3 x4 x5 x6 : Int32) : O := (if (S 1 9) ≤ x6 then fX5_isEnough_85 k0 S x1 x3 x4 x5 else (if x5 = 0 then fX5_isEnough_85 k0 S x1 x3 x4 x5 else (if ((x1 >>> (x6 &&& 31)) &&& (1 : Int32)) = (1 : Int32) then gd (inB ((x4 * (10 : Int32)) + x6) 120) <| lti (x5 &&& ((S 36 (((x4 * (10 : Int32)) + x6)).toNatClampNeg) ^^^ (-1 : Int32))) fun x5_5 => fX5_isEnough_79 k0 k1 S x1 x3 x4 x5_5 x6 else fX5_isEnough_79 k0 k1 S x1 x3 x4 x5 x6)))
def fX5_isEnough_32 (k0 : Mem → Int32 → Int32 → Int32 → O) : Nat → Mem → Int32 → Int32 → Int32 → Int32 → Int32 → O
  | 0 => fun _ _ _ _ _ _ => none
  | n + 1 => fX5_isEnough_32_b k0 (fX5_isEnough_32 k0 n)
def fX5_isEnough_7_b (k0 : Mem → Int32 → Int32 → Int32 → O) (S : Mem) (x1 x3 x4 : Int32) : O := (if x3 < x4 then some ((1 : Int32), S) else (if (12 : Int32) ≤ x4 then some ((1 : Int32), S) else gd (inB x4 12) <| lti (S 35 (x4).toNatClampNeg) fun x5_4 => fX5_isEnough_32 k0 FU S x1 x3 x4 x5_4 (0 : Int32)))
def fX5_isEnough_7 : Nat → Mem → Int32 → Int32 → Int32 → O
  | 0 => fun _ _ _ _ => none
  | n + 1 => fX5_isEnough_7_b (fX5_isEnough_7 n)
def fX5_isEnough (S : Mem) (x1 x2 x3 : Int32) : O := lti (imax (0 : Int32) x2) fun x4_1 => fX5_isEnough_7  FU S x1 x3 x4_1
theorem dX5_isEnough_0 : decode cX5_isEnough 0 = .ok (.iconst 0, 1) := by decide +kernel
theorem dX5_isEnough_1 : decode cX5_isEnough 1 = .ok (.iload_n 2, 1) := by decide +kernel
theorem dX5_isEnough_2 : decode cX5_isEnough 2 = .ok (.invokestatic 81, 3) := by decide +kernel
theorem dX5_isEnough_5 : decode cX5_isEnough 5 = .ok (.istore 4, 2) := by decide +kernel
theorem dX5_isEnough_7 : decode cX5_isEnough 7 = .ok (.iload 4, 2) := by decide +kernel
theorem dX5_isEnough_9 : decode cX5_isEnough 9 = .ok (.iload_n 3, 1) := by decide +kernel
theorem dX5_isEnough_10 : decode cX5_isEnough 10 = .ok (.if_icmp .gt 88, 3) := by decide +kernel
theorem dX5_isEnough_13 : decode cX5_isEnough 13 = .ok (.iload 4, 2) := by decide +kernel
theorem dX5_isEnough_15 : decode cX5_isEnough 15 = .ok (.bipush 12, 2) := by decide +kernel
theorem dX5_isEnough_17 : decode cX5_isEnough 17 = .ok (.if_icmp .ge 81, 3) := by decide +kernel
theorem dX5_isEnough_20 : decode cX5_isEnough 20 = .ok (.aload_n 0, 1) := by decide +kernel
theorem dX5_isEnough_21 : decode cX5_isEnough 21 = .ok (.getfield 18, 3) := by decide +kernel
theorem dX5_isEnough_24 : decode cX5_isEnough 24 = .ok (.iload 4, 2) := by decide +kernel
theorem dX5_isEnough_26 : decode cX5_isEnough 26 = .ok (.iaload, 1) := by decide +kernel
theorem dX5_isEnough_27 : decode cX5_isEnough 27 = .ok (.istore 5, 2) := by decide +kernel
theorem dX5_isEnough_29 : decode cX5_isEnough 29 = .ok (.iconst 0, 1) := by decide +kernel
theorem dX5_isEnough_30 : decode cX5_isEnough 30 = .ok (.istore 6, 2) := by decide +kernel
theorem dX5_isEnough_32 : decode cX5_isEnough 32 = .ok (.iload 6, 2) := by decide +kernel
theorem dX5_isEnough_34 : decode cX5_isEnough 34 = .ok (.aload_n 0, 1) := by decide +kernel
theorem dX5_isEnough_35 : decode cX5_isEnough 35 = .ok (.getfield 27, 3) := by decide +kernel
theorem dX5_isEnough_38 : decode cX5_isEnough 38 = .ok (.getfield 35, 3) := by decide +kernel
theorem dX5_isEnough_41 : decode cX5_isEnough 41 = .ok (.if_icmp .ge 44, 3) := by decide +kernel
theorem dX5_isEnough_44 : decode cX5_isEnough 44 = .ok (.iload 5, 2) := by decide +kernel
theorem dX5_isEnough_46 : decode cX5_isEnough 46 = .ok (.ifCond .eq 39, 3) := by decide +kernel
theorem dX5_isEnough_49 : decode cX5_isEnough 49 = .ok (.iload_n 1, 1) := by decide +kernel
theorem dX5_isEnough_50 : decode cX5_isEnough 50 = .ok (.iload 6, 2) := by decide +kernel
theorem dX5_isEnough_52 : decode cX5_isEnough 52 = .ok (.ishr, 1) := by decide +kernel
theorem dX5_isEnough_53 : decode cX5_isEnough 53 = .ok (.iconst 1, 1) := by decide +kernel
theorem dX5_isEnough_54 : decode cX5_isEnough 54 = .ok (.iand, 1) := by decide +kernel
theorem dX5_isEnough_55 : decode cX5_isEnough 55 = .ok (.iconst 1, 1) := by decide +kernel
theorem dX5_isEnough_56 : decode cX5_isEnough 56 = .ok (.if_icmp .ne 23, 3) := by decide +kernel
theorem dX5_isEnough_59 : decode cX5_isEnough 59 = .ok (.iload 5, 2) := by decide +kernel
theorem dX5_isEnough_61 : decode cX5_isEnough 61 = .ok (.aload_n 0, 1) := by decide +kernel
theorem dX5_isEnough_62 : decode cX5_isEnough 62 = .ok (.getfield 21, 3) := by decide +kernel
theorem dX5_isEnough_65 : decode cX5_isEnough 65 = .ok (.iload 4, 2) := by decide +kernel
theorem dX5_isEnough_67 : decode cX5_isEnough 67 = .ok (.bipush 10, 2) := by decide +kernel
theorem dX5_isEnough_69 : decode cX5_isEnough 69 = .ok (.imul, 1) := by decide +kernel
theorem dX5_isEnough_70 : decode cX5_isEnough 70 = .ok (.iload 6, 2) := by decide +kernel
theorem dX5_isEnough_72 : decode cX5_isEnough 72 = .ok (.iadd, 1) := by decide +kernel
theorem dX5_isEnough_73 : decode cX5_isEnough 73 = .ok (.iaload, 1) := by decide +kernel
theorem dX5_isEnough_74 : decode cX5_isEnough 74 = .ok (.iconst (-1), 1) := by decide +kernel
theorem dX5_isEnough_75 : decode cX5_isEnough 75 = .ok (.ixor, 1) := by decide +kernel
theorem dX5_isEnough_76 : decode cX5_isEnough 76 = .ok (.iand, 1) := by decide +kernel
theorem dX5_isEnough_77 : decode cX5_isEnough 77 = .ok (.istore 5, 2) := by decide +kernel
theorem dX5_isEnough_79 : decode cX5_isEnough 79 = .ok (.iinc 6 1, 3) := by decide +kernel
theorem dX5_isEnough_82 : decode cX5_isEnough 82 = .ok (.goto (-50), 3) := by decide +kernel
theorem dX5_isEnough_85 : decode cX5_isEnough 85 = .ok (.iload 5, 2) := by decide +kernel
theorem dX5_isEnough_87 : decode cX5_isEnough 87 = .ok (.ifCond .eq 5, 3) := by decide +kernel
theorem dX5_isEnough_90 : decode cX5_isEnough 90 = .ok (.iconst 0, 1) := by decide +kernel
theorem dX5_isEnough_91 : decode cX5_isEnough 91 = .ok (.ireturn, 1) := by decide +kernel
theorem dX5_isEnough_92 : decode cX5_isEnough 92 = .ok (.iinc 4 1, 3) := by decide +kernel
theorem dX5_isEnough_95 : decode cX5_isEnough 95 = .ok (.goto (-88), 3) := by decide +kernel
theorem dX5_isEnough_98 : decode cX5_isEnough 98 = .ok (.iconst 1, 1) := by decide +kernel
theorem dX5_isEnough_99 : decode cX5_isEnough 99 = .ok (.ireturn, 1) := by decide +kernel
set_option maxRecDepth 20000 in
theorem wX5_isEnough_85 {p : Program} {l : Launch} {e : Env} {s : State} {m : MethodId} {args : Array Value} {below : List Frame} {meth : Method} {c : Code} {Z : XG} {r : Int32} {S' : Mem} (E : XE p s m args meth c cX5_isEnough 7 RX5 (some .boolean) xL Z) (k0 : Mem → Int32 → Int32 → Int32 → O)  (hk0 : ∀ (S : Mem) (x1 x3 x4 : Int32), k0 S x1 x3 x4 = some (r, S') → WN p l e { frames := 1, cells := 0, slots := 0, locals := 13 } s m args below meth c xL Z (XQ xL Z r S') S 7 7 [(0, .ref (Z.2.1 32)), (1, .int x1), (3, .int x3), (4, .int x4)] []) : ∀ (S : Mem) (x1 x3 x4 x5 : Int32), fX5_isEnough_85 k0 S x1 x3 x4 x5 = some (r, S') → WN p l e { frames := 1, cells := 0, slots := 0, locals := 13 } s m args below meth c xL Z (XQ xL Z r S') S 85 7 [(0, .ref (Z.2.1 32)), (1, .int x1), (3, .int x3), (4, .int x4), (5, .int x5)] [] := by
  obtain ⟨hx, hb, -, -, -, -, -, -, -, hQ⟩ := id E
  intro S x1 x3 x4 x5 h H locs ls X hl
  unfold fX5_isEnough_85 at h
  refine lv_iload hx hb dX5_isEnough_85 (lv_at hl 4 rfl) ?_
  refine lv_if_eq (tgt := 92) hx hb dX5_isEnough_87 (by decide) (fun c_1 => ?_) (fun c_1 => ?_)
  · have h := if_t c_1 h
    refine lv_iinc (v := (x4 + (1 : Int32))) (lv' := [(4, .int (x4 + (1 : Int32))), (0, .ref (Z.2.1 32)), (1, .int x1), (3, .int x3), (5, .int x5)]) hx hb dX5_isEnough_92 hl (k := 3) rfl rfl (by decide) rfl (fun ls hl => ?_)
    refine lv_goto (tgt := 7) hx hb dX5_isEnough_95 (by decide) ?_
    exact hk0 S x1 x3 (x4 + (1 : Int32)) h _ _ _ X (lv_sub hl [1, 2, 3, 0] rfl)
  · have h := if_f c_1 h
    refine lv_iconst (v := (0 : Int32)) hx hb dX5_isEnough_90 (by decide) ?_
    exact x_zret E X rfl h dX5_isEnough_91
set_option maxRecDepth 20000 in
theorem wX5_isEnough_79 {p : Program} {l : Launch} {e : Env} {s : State} {m : MethodId} {args : Array Value} {below : List Frame} {meth : Method} {c : Code} {Z : XG} {r : Int32} {S' : Mem} (E : XE p s m args meth c cX5_isEnough 7 RX5 (some .boolean) xL Z) (k0 : Mem → Int32 → Int32 → Int32 → O)  (k1 : Mem → Int32 → Int32 → Int32 → Int32 → Int32 → O)  (hk0 : ∀ (S : Mem) (x1 x3 x4 : Int32), k0 S x1 x3 x4 = some (r, S') → WN p l e { frames := 1, cells := 0, slots := 0, locals := 13 } s m args below meth c xL Z (XQ xL Z r S') S 7 7 [(0, .ref (Z.2.1 32)), (1, .int x1), (3, .int x3), (4, .int x4)] []) (hk1 : ∀ (S : Mem) (x1 x3 x4 x5 x6 : Int32), k1 S x1 x3 x4 x5 x6 = some (r, S') → WN p l e { frames := 1, cells := 0, slots := 0, locals := 13 } s m args below meth c xL Z (XQ xL Z r S') S 32 7 [(0, .ref (Z.2.1 32)), (1, .int x1), (3, .int x3), (4, .int x4), (5, .int x5), (6, .int x6)] []) : ∀ (S : Mem) (x1 x3 x4 x5 x6 : Int32), fX5_isEnough_79 k0 k1 S x1 x3 x4 x5 x6 = some (r, S') → WN p l e { frames := 1, cells := 0, slots := 0, locals := 13 } s m args below meth c xL Z (XQ xL Z r S') S 79 7 [(0, .ref (Z.2.1 32)), (1, .int x1), (3, .int x3), (4, .int x4), (5, .int x5), (6, .int x6)] [] := by
  obtain ⟨hx, hb, -, -, -, -, -, -, -, hQ⟩ := id E
  intro S x1 x3 x4 x5 x6 h H locs ls X hl
  unfold fX5_isEnough_79 at h
  refine lv_iinc (v := (x6 + (1 : Int32))) (lv' := [(6, .int (x6 + (1 : Int32))), (0, .ref (Z.2.1 32)), (1, .int x1), (3, .int x3), (4, .int x4), (5, .int x5)]) hx hb dX5_isEnough_79 hl (k := 5) rfl rfl (by decide) rfl (fun ls hl => ?_)
  refine lv_goto (tgt := 32) hx hb dX5_isEnough_82 (by decide) ?_
  exact hk1 S x1 x3 x4 x5 (x6 + (1 : Int32)) h _ _ _ X (lv_sub hl [1, 2, 3, 4, 5, 0] rfl)
set_option maxRecDepth 20000 in
theorem wX5_isEnough_32_b {p : Program} {l : Launch} {e : Env} {s : State} {m : MethodId} {args : Array Value} {below : List Frame} {meth : Method} {c : Code} {Z : XG} {r : Int32} {S' : Mem} (E : XE p s m args meth c cX5_isEnough 7 RX5 (some .boolean) xL Z) (k0 : Mem → Int32 → Int32 → Int32 → O)  (k1 : Mem → Int32 → Int32 → Int32 → Int32 → Int32 → O)  (hk0 : ∀ (S : Mem) (x1 x3 x4 : Int32), k0 S x1 x3 x4 = some (r, S') → WN p l e { frames := 1, cells := 0, slots := 0, locals := 13 } s m args below meth c xL Z (XQ xL Z r S') S 7 7 [(0, .ref (Z.2.1 32)), (1, .int x1), (3, .int x3), (4, .int x4)] []) (hk1 : ∀ (S : Mem) (x1 x3 x4 x5 x6 : Int32), k1 S x1 x3 x4 x5 x6 = some (r, S') → WN p l e { frames := 1, cells := 0, slots := 0, locals := 13 } s m args below meth c xL Z (XQ xL Z r S') S 32 7 [(0, .ref (Z.2.1 32)), (1, .int x1), (3, .int x3), (4, .int x4), (5, .int x5), (6, .int x6)] []) : ∀ (S : Mem) (x1 x3 x4 x5 x6 : Int32), fX5_isEnough_32_b k0 k1 S x1 x3 x4 x5 x6 = some (r, S') → WN p l e { frames := 1, cells := 0, slots := 0, locals := 13 } s m args below meth c xL Z (XQ xL Z r S') S 32 7 [(0, .ref (Z.2.1 32)), (1, .int x1), (3, .int x3), (4, .int x4), (5, .int x5), (6, .int x6)] [] := by
  obtain ⟨hx, hb, -, -, -, -, -, -, -, hQ⟩ := id E
  intro S x1 x3 x4 x5 x6 h H locs ls X hl
  unfold fX5_isEnough_32_b at h
  refine lv_iload hx hb dX5_isEnough_32 (lv_at hl 5 rfl) ?_
  refine lv_aload_n hx hb dX5_isEnough_34 rfl (lv_at hl 0 rfl) ?_
  refine x_getr E X ffX5_27 rfl rfl dX5_isEnough_35 ?_
  refine x_get E X ffX5_35 rfl rfl dX5_isEnough_38 ?_
  refine lv_icmp_ge (tgt := 85) hx hb dX5_isEnough_41 (by decide) (fun c_1 => ?_) (fun c_1 => ?_)
  · have h := if_t c_1 h
    exact wX5_isEnough_85 E k0 hk0 S x1 x3 x4 x5 h _ _ _ X (lv_sub hl [0, 1, 2, 3, 4] rfl)
  · have h := if_f c_1 h
    refine lv_iload hx hb dX5_isEnough_44 (lv_at hl 4 rfl) ?_
    refine lv_if_eq (tgt := 85) hx hb dX5_isEnough_46 (by decide) (fun c_2 => ?_) (fun c_2 => ?_)
    · have h := if_t c_2 h
      exact wX5_isEnough_85 E k0 hk0 S x1 x3 x4 x5 h _ _ _ X (lv_sub hl [0, 1, 2, 3, 4] rfl)
    · have h := if_f c_2 h
      refine lv_iload_n hx hb dX5_isEnough_49 rfl (lv_at hl 1 rfl) ?_
      refine lv_iload hx hb dX5_isEnough_50 (lv_at hl 5 rfl) ?_
      refine lv_ishr hx hb dX5_isEnough_52 ?_
      refine lv_iconst (v := (1 : Int32)) hx hb dX5_isEnough_53 (by decide) ?_
      refine lv_iand hx hb dX5_isEnough_54 ?_
      refine lv_iconst (v := (1 : Int32)) hx hb dX5_isEnough_55 (by decide) ?_
      refine lv_icmp_ne (tgt := 79) hx hb dX5_isEnough_56 (by decide) (fun c_3 => ?_) (fun c_3 => ?_)
      · have h := if_f c_3 h
        exact wX5_isEnough_79 E k0 k1 hk0 hk1 S x1 x3 x4 x5 x6 h _ _ _ X hl
      · have h := if_t c_3 h
        refine lv_iload hx hb dX5_isEnough_59 (lv_at hl 4 rfl) ?_
        refine lv_aload_n hx hb dX5_isEnough_61 rfl (lv_at hl 0 rfl) ?_
        refine x_getr E X ffX5_21 rfl rfl dX5_isEnough_62 ?_
        refine lv_iload hx hb dX5_isEnough_65 (lv_at hl 3 rfl) ?_
        refine lv_bipush (v := (10 : Int32)) hx hb dX5_isEnough_67 (by decide) ?_
        refine lv_imul hx hb dX5_isEnough_69 ?_
        refine lv_iload hx hb dX5_isEnough_70 (lv_at hl 5 rfl) ?_
        refine lv_iadd hx hb dX5_isEnough_72 ?_
        obtain ⟨g_4, h⟩ := gd_s h
        refine x_iald E X rfl g_4 dX5_isEnough_73 ?_
        refine lv_iconst (v := (-1 : Int32)) hx hb dX5_isEnough_74 (by decide) ?_
        refine lv_ixor hx hb dX5_isEnough_75 ?_
        refine lv_iand hx hb dX5_isEnough_76 ?_
        obtain ⟨x5_5, ex5_5, h⟩ := lti_s h
        refine lv_nm ex5_5 ?_
        refine lv_istore (lv' := [(5, .int x5_5), (0, .ref (Z.2.1 32)), (1, .int x1), (3, .int x3), (4, .int x4), (6, .int x6)]) hx hb dX5_isEnough_77 hl (by decide) rfl (fun ls hl => ?_)
        exact wX5_isEnough_79 E k0 k1 hk0 hk1 S x1 x3 x4 x5_5 x6 h _ _ _ X (lv_sub hl [1, 2, 3, 4, 0, 5] rfl)
theorem wX5_isEnough_32 {p : Program} {l : Launch} {e : Env} {s : State} {m : MethodId} {args : Array Value} {below : List Frame} {meth : Method} {c : Code} {Z : XG} {r : Int32} {S' : Mem} (E : XE p s m args meth c cX5_isEnough 7 RX5 (some .boolean) xL Z) (k0 : Mem → Int32 → Int32 → Int32 → O)  (hk0 : ∀ (S : Mem) (x1 x3 x4 : Int32), k0 S x1 x3 x4 = some (r, S') → WN p l e { frames := 1, cells := 0, slots := 0, locals := 13 } s m args below meth c xL Z (XQ xL Z r S') S 7 7 [(0, .ref (Z.2.1 32)), (1, .int x1), (3, .int x3), (4, .int x4)] []) : ∀ (n : Nat) (S : Mem) (x1 x3 x4 x5 x6 : Int32), fX5_isEnough_32 k0 n S x1 x3 x4 x5 x6 = some (r, S') → WN p l e { frames := 1, cells := 0, slots := 0, locals := 13 } s m args below meth c xL Z (XQ xL Z r S') S 32 7 [(0, .ref (Z.2.1 32)), (1, .int x1), (3, .int x3), (4, .int x4), (5, .int x5), (6, .int x6)] [] := by
  intro n
  induction n with
  | zero => intro S x1 x3 x4 x5 x6 h; exact absurd (show (none : O) = some _ from h) (by simp)
  | succ n ih => intro S x1 x3 x4 x5 x6 h; exact wX5_isEnough_32_b E k0 (fX5_isEnough_32 k0 n) hk0 ih S x1 x3 x4 x5 x6 h
set_option maxRecDepth 20000 in
theorem wX5_isEnough_7_b {p : Program} {l : Launch} {e : Env} {s : State} {m : MethodId} {args : Array Value} {below : List Frame} {meth : Method} {c : Code} {Z : XG} {r : Int32} {S' : Mem} (E : XE p s m args meth c cX5_isEnough 7 RX5 (some .boolean) xL Z) (k0 : Mem → Int32 → Int32 → Int32 → O)  (hk0 : ∀ (S : Mem) (x1 x3 x4 : Int32), k0 S x1 x3 x4 = some (r, S') → WN p l e { frames := 1, cells := 0, slots := 0, locals := 13 } s m args below meth c xL Z (XQ xL Z r S') S 7 7 [(0, .ref (Z.2.1 32)), (1, .int x1), (3, .int x3), (4, .int x4)] []) : ∀ (S : Mem) (x1 x3 x4 : Int32), fX5_isEnough_7_b k0 S x1 x3 x4 = some (r, S') → WN p l e { frames := 1, cells := 0, slots := 0, locals := 13 } s m args below meth c xL Z (XQ xL Z r S') S 7 7 [(0, .ref (Z.2.1 32)), (1, .int x1), (3, .int x3), (4, .int x4)] [] := by
  obtain ⟨hx, hb, -, -, -, -, -, -, -, hQ⟩ := id E
  intro S x1 x3 x4 h H locs ls X hl
  unfold fX5_isEnough_7_b at h
  refine lv_iload hx hb dX5_isEnough_7 (lv_at hl 3 rfl) ?_
  refine lv_iload_n hx hb dX5_isEnough_9 rfl (lv_at hl 2 rfl) ?_
  refine lv_icmp_gt (tgt := 98) hx hb dX5_isEnough_10 (by decide) (fun c_1 => ?_) (fun c_1 => ?_)
  · have h := if_t c_1 h
    refine lv_iconst (v := (1 : Int32)) hx hb dX5_isEnough_98 (by decide) ?_
    exact x_zret E X rfl h dX5_isEnough_99
  · have h := if_f c_1 h
    refine lv_iload hx hb dX5_isEnough_13 (lv_at hl 3 rfl) ?_
    refine lv_bipush (v := (12 : Int32)) hx hb dX5_isEnough_15 (by decide) ?_
    refine lv_icmp_ge (tgt := 98) hx hb dX5_isEnough_17 (by decide) (fun c_2 => ?_) (fun c_2 => ?_)
    · have h := if_t c_2 h
      refine lv_iconst (v := (1 : Int32)) hx hb dX5_isEnough_98 (by decide) ?_
      exact x_zret E X rfl h dX5_isEnough_99
    · have h := if_f c_2 h
      refine lv_aload_n hx hb dX5_isEnough_20 rfl (lv_at hl 0 rfl) ?_
      refine x_getr E X ffX5_18 rfl rfl dX5_isEnough_21 ?_
      refine lv_iload hx hb dX5_isEnough_24 (lv_at hl 3 rfl) ?_
      obtain ⟨g_3, h⟩ := gd_s h
      refine x_iald E X rfl g_3 dX5_isEnough_26 ?_
      obtain ⟨x5_4, ex5_4, h⟩ := lti_s h
      refine lv_nm ex5_4 ?_
      refine lv_istore (lv' := [(5, .int x5_4), (0, .ref (Z.2.1 32)), (1, .int x1), (3, .int x3), (4, .int x4)]) hx hb dX5_isEnough_27 hl (by decide) rfl (fun ls hl => ?_)
      refine lv_iconst (v := (0 : Int32)) hx hb dX5_isEnough_29 (by decide) ?_
      refine lv_istore (lv' := [(6, .int (0 : Int32)), (5, .int x5_4), (0, .ref (Z.2.1 32)), (1, .int x1), (3, .int x3), (4, .int x4)]) hx hb dX5_isEnough_30 hl (by decide) rfl (fun ls hl => ?_)
      exact wX5_isEnough_32 E k0 hk0 FU S x1 x3 x4 x5_4 (0 : Int32) h _ _ _ X (lv_sub hl [2, 3, 4, 5, 1, 0] rfl)
theorem wX5_isEnough_7 {p : Program} {l : Launch} {e : Env} {s : State} {m : MethodId} {args : Array Value} {below : List Frame} {meth : Method} {c : Code} {Z : XG} {r : Int32} {S' : Mem} (E : XE p s m args meth c cX5_isEnough 7 RX5 (some .boolean) xL Z) : ∀ (n : Nat) (S : Mem) (x1 x3 x4 : Int32), fX5_isEnough_7 n S x1 x3 x4 = some (r, S') → WN p l e { frames := 1, cells := 0, slots := 0, locals := 13 } s m args below meth c xL Z (XQ xL Z r S') S 7 7 [(0, .ref (Z.2.1 32)), (1, .int x1), (3, .int x3), (4, .int x4)] [] := by
  intro n
  induction n with
  | zero => intro S x1 x3 x4 h; exact absurd (show (none : O) = some _ from h) (by simp)
  | succ n ih => intro S x1 x3 x4 h; exact wX5_isEnough_7_b E (fX5_isEnough_7 n) ih S x1 x3 x4 h
set_option maxRecDepth 20000 in
theorem wX5_isEnough {p : Program} {l : Launch} {e : Env} {s : State} {m : MethodId} {args : Array Value} {below : List Frame} {meth : Method} {c : Code} {Z : XG} {r : Int32} {S' : Mem} (E : XE p s m args meth c cX5_isEnough 7 RX5 (some .boolean) xL Z) : ∀ (S : Mem) (x1 x2 x3 : Int32), fX5_isEnough  S x1 x2 x3 = some (r, S') → WN p l e { frames := 1, cells := 0, slots := 0, locals := 13 } s m args below meth c xL Z (XQ xL Z r S') S 0 7 [(0, .ref (Z.2.1 32)), (1, .int x1), (2, .int x2), (3, .int x3)] [] := by
  obtain ⟨hx, hb, -, -, -, -, -, -, -, hQ⟩ := id E
  intro S x1 x2 x3 h H locs ls X hl
  unfold fX5_isEnough at h
  refine lv_iconst (v := (0 : Int32)) hx hb dX5_isEnough_0 (by decide) ?_
  refine lv_iload_n hx hb dX5_isEnough_1 rfl (lv_at hl 2 rfl) ?_
  refine x_mmax E cwX5_81 hl.1 rfl rfl rfl rfl dX5_isEnough_2 ?_
  refine lv_nm (y := (imax (0 : Int32) x2)) rfl ?_
  obtain ⟨x4_1, ex4_1, h⟩ := lti_s h
  refine lv_nm ex4_1 ?_
  refine lv_istore (lv' := [(4, .int x4_1), (0, .ref (Z.2.1 32)), (1, .int x1), (2, .int x2), (3, .int x3)]) hx hb dX5_isEnough_5 hl (by decide) rfl (fun ls hl => ?_)
  exact wX5_isEnough_7 E   FU S x1 x3 x4_1 h _ _ _ X (lv_sub hl [1, 2, 4, 0] rfl)
/-- SevenToAShadow$Thought.isEnough(III)Z -/
theorem mX5_isEnough (l : Launch) (Z : XG) (hQ : wQ (List.length xL) Z) {S S' : Mem} {r : Int32} (x1 x2 x3 : Int32) (h : fX5_isEnough S x1 x2 x3 = some (r, S')) : XM l yX5_isEnough cX5_isEnough 7 (some .boolean) { frames := 1, cells := 0, slots := 0, locals := 13 } xL Z [.ref (Z.2.1 32), .int x1, .int x2, .int x3] S (XQ xL Z r S') := by
  refine XM.of (own := RX5) (by decide +kernel) rfl rfl hQ (fun p e s m args below meth c E ls hl X => ?_)
  exact wX5_isEnough E S x1 x2 x3 h _ _ _ X hl
def fX5_fewestBearers_73 (k0 : Mem → Int32 → Int32 → Int32 → Int32 → O) (S : Mem) (x1 x2 x3 x4 : Int32) : O := k0 S x1 x2 x3 (x4 + (1 : Int32))
def fX5_fewestBearers_33_b (k0 : Mem → Int32 → Int32 → Int32 → Int32 → O) (S : Mem) (x1 x2 x3 x4 : Int32) : O := (if ((1 : Int32) <<< ((S 1 9) &&& 31)) ≤ x4 then some (x3, S) else bnd (fJ6_bitCount S x4) fun r_2 S_3 => bnd (fJ6_bitCount S_3 x3) fun r_4 S_5 => (if r_4 ≤ r_2 then fX5_fewestBearers_73 k0 S_5 x1 x2 x3 x4 else bnd (fX5_isEnough S_5 x4 x1 x2) fun r_7 S_8 => (if r_7 = 0 then fX5_fewestBearers_73 k0 S_8 x1 x2 x3 x4 else fX5_fewestBearers_73 k0 S_8 x1 x2 x4 x4)))
def fX5_fewestBearers_33 : Nat → Mem → Int32 → Int32 → Int32 → Int32 → O
  | 0 => fun _ _ _ _ _ => none
  | n + 1 => fX5_fewestBearers_33_b (fX5_fewestBearers_33 n)
def fX5_fewestBearers_2_b (k0 : Mem → Int32 → Int32 → Int32 → O) (S : Mem) (x1 x2 x3 : Int32) : O := (if x2 < x3 then lti (((1 : Int32) <<< ((S 1 9) &&& 31)) - (1 : Int32)) fun x3_2 => fX5_fewestBearers_33  FU S x1 x2 x3_2 (0 : Int32) else bnd (fX5_findNeeds S x3) fun _ S_4 => k0 S_4 x1 x2 (x3 + (1 : Int32)))
def fX5_fewestBearers_2 : Nat → Mem → Int32 → Int32 → Int32 → O
  | 0 => fun _ _ _ _ => none
  | n + 1 => fX5_fewestBearers_2_b (fX5_fewestBearers_2 n)
def fX5_fewestBearers (S : Mem) (x1 x2 : Int32) : O := fX5_fewestBearers_2  FU S x1 x2 x1
theorem dX5_fewestBearers_0 : decode cX5_fewestBearers 0 = .ok (.iload_n 1, 1) := by decide +kernel
theorem dX5_fewestBearers_1 : decode cX5_fewestBearers 1 = .ok (.istore_n 3, 1) := by decide +kernel
theorem dX5_fewestBearers_2 : decode cX5_fewestBearers 2 = .ok (.iload_n 3, 1) := by decide +kernel
theorem dX5_fewestBearers_3 : decode cX5_fewestBearers 3 = .ok (.iload_n 2, 1) := by decide +kernel
theorem dX5_fewestBearers_4 : decode cX5_fewestBearers 4 = .ok (.if_icmp .gt 14, 3) := by decide +kernel
theorem dX5_fewestBearers_7 : decode cX5_fewestBearers 7 = .ok (.aload_n 0, 1) := by decide +kernel
theorem dX5_fewestBearers_8 : decode cX5_fewestBearers 8 = .ok (.iload_n 3, 1) := by decide +kernel
theorem dX5_fewestBearers_9 : decode cX5_fewestBearers 9 = .ok (.invokevirtual 86, 3) := by decide +kernel
theorem dX5_fewestBearers_12 : decode cX5_fewestBearers 12 = .ok (.iinc 3 1, 3) := by decide +kernel
theorem dX5_fewestBearers_15 : decode cX5_fewestBearers 15 = .ok (.goto (-13), 3) := by decide +kernel
theorem dX5_fewestBearers_18 : decode cX5_fewestBearers 18 = .ok (.iconst 1, 1) := by decide +kernel
theorem dX5_fewestBearers_19 : decode cX5_fewestBearers 19 = .ok (.aload_n 0, 1) := by decide +kernel
theorem dX5_fewestBearers_20 : decode cX5_fewestBearers 20 = .ok (.getfield 27, 3) := by decide +kernel
theorem dX5_fewestBearers_23 : decode cX5_fewestBearers 23 = .ok (.getfield 35, 3) := by decide +kernel
theorem dX5_fewestBearers_26 : decode cX5_fewestBearers 26 = .ok (.ishl, 1) := by decide +kernel
theorem dX5_fewestBearers_27 : decode cX5_fewestBearers 27 = .ok (.iconst 1, 1) := by decide +kernel
theorem dX5_fewestBearers_28 : decode cX5_fewestBearers 28 = .ok (.isub, 1) := by decide +kernel
theorem dX5_fewestBearers_29 : decode cX5_fewestBearers 29 = .ok (.istore_n 3, 1) := by decide +kernel
theorem dX5_fewestBearers_30 : decode cX5_fewestBearers 30 = .ok (.iconst 0, 1) := by decide +kernel
theorem dX5_fewestBearers_31 : decode cX5_fewestBearers 31 = .ok (.istore 4, 2) := by decide +kernel
theorem dX5_fewestBearers_33 : decode cX5_fewestBearers 33 = .ok (.iload 4, 2) := by decide +kernel
theorem dX5_fewestBearers_35 : decode cX5_fewestBearers 35 = .ok (.iconst 1, 1) := by decide +kernel
theorem dX5_fewestBearers_36 : decode cX5_fewestBearers 36 = .ok (.aload_n 0, 1) := by decide +kernel
theorem dX5_fewestBearers_37 : decode cX5_fewestBearers 37 = .ok (.getfield 27, 3) := by decide +kernel
theorem dX5_fewestBearers_40 : decode cX5_fewestBearers 40 = .ok (.getfield 35, 3) := by decide +kernel
theorem dX5_fewestBearers_43 : decode cX5_fewestBearers 43 = .ok (.ishl, 1) := by decide +kernel
theorem dX5_fewestBearers_44 : decode cX5_fewestBearers 44 = .ok (.if_icmp .ge 35, 3) := by decide +kernel
theorem dX5_fewestBearers_47 : decode cX5_fewestBearers 47 = .ok (.iload 4, 2) := by decide +kernel
theorem dX5_fewestBearers_49 : decode cX5_fewestBearers 49 = .ok (.invokestatic 90, 3) := by decide +kernel
theorem dX5_fewestBearers_52 : decode cX5_fewestBearers 52 = .ok (.iload_n 3, 1) := by decide +kernel
theorem dX5_fewestBearers_53 : decode cX5_fewestBearers 53 = .ok (.invokestatic 90, 3) := by decide +kernel
theorem dX5_fewestBearers_56 : decode cX5_fewestBearers 56 = .ok (.if_icmp .ge 17, 3) := by decide +kernel
theorem dX5_fewestBearers_59 : decode cX5_fewestBearers 59 = .ok (.aload_n 0, 1) := by decide +kernel
theorem dX5_fewestBearers_60 : decode cX5_fewestBearers 60 = .ok (.iload 4, 2) := by decide +kernel
theorem dX5_fewestBearers_62 : decode cX5_fewestBearers 62 = .ok (.iload_n 1, 1) := by decide +kernel
theorem dX5_fewestBearers_63 : decode cX5_fewestBearers 63 = .ok (.iload_n 2, 1) := by decide +kernel
theorem dX5_fewestBearers_64 : decode cX5_fewestBearers 64 = .ok (.invokevirtual 95, 3) := by decide +kernel
theorem dX5_fewestBearers_67 : decode cX5_fewestBearers 67 = .ok (.ifCond .eq 6, 3) := by decide +kernel
theorem dX5_fewestBearers_70 : decode cX5_fewestBearers 70 = .ok (.iload 4, 2) := by decide +kernel
theorem dX5_fewestBearers_72 : decode cX5_fewestBearers 72 = .ok (.istore_n 3, 1) := by decide +kernel
theorem dX5_fewestBearers_73 : decode cX5_fewestBearers 73 = .ok (.iinc 4 1, 3) := by decide +kernel
theorem dX5_fewestBearers_76 : decode cX5_fewestBearers 76 = .ok (.goto (-43), 3) := by decide +kernel
theorem dX5_fewestBearers_79 : decode cX5_fewestBearers 79 = .ok (.iload_n 3, 1) := by decide +kernel
theorem dX5_fewestBearers_80 : decode cX5_fewestBearers 80 = .ok (.ireturn, 1) := by decide +kernel
set_option maxRecDepth 20000 in
theorem wX5_fewestBearers_73 {p : Program} {l : Launch} {e : Env} {s : State} {m : MethodId} {args : Array Value} {below : List Frame} {meth : Method} {c : Code} {Z : XG} {r : Int32} {S' : Mem} (E : XE p s m args meth c cX5_fewestBearers 5 RX5 (some .int) xL Z) (k0 : Mem → Int32 → Int32 → Int32 → Int32 → O)  (hk0 : ∀ (S : Mem) (x1 x2 x3 x4 : Int32), k0 S x1 x2 x3 x4 = some (r, S') → WN p l e { frames := 4, cells := 0, slots := 0, locals := 97 } s m args below meth c xL Z (XQ xL Z r S') S 33 5 [(0, .ref (Z.2.1 32)), (1, .int x1), (2, .int x2), (3, .int x3), (4, .int x4)] []) : ∀ (S : Mem) (x1 x2 x3 x4 : Int32), fX5_fewestBearers_73 k0 S x1 x2 x3 x4 = some (r, S') → WN p l e { frames := 4, cells := 0, slots := 0, locals := 97 } s m args below meth c xL Z (XQ xL Z r S') S 73 5 [(0, .ref (Z.2.1 32)), (1, .int x1), (2, .int x2), (3, .int x3), (4, .int x4)] [] := by
  obtain ⟨hx, hb, -, -, -, -, -, -, -, hQ⟩ := id E
  intro S x1 x2 x3 x4 h H locs ls X hl
  unfold fX5_fewestBearers_73 at h
  refine lv_iinc (v := (x4 + (1 : Int32))) (lv' := [(4, .int (x4 + (1 : Int32))), (0, .ref (Z.2.1 32)), (1, .int x1), (2, .int x2), (3, .int x3)]) hx hb dX5_fewestBearers_73 hl (k := 4) rfl rfl (by decide) rfl (fun ls hl => ?_)
  refine lv_goto (tgt := 33) hx hb dX5_fewestBearers_76 (by decide) ?_
  exact hk0 S x1 x2 x3 (x4 + (1 : Int32)) h _ _ _ X (lv_sub hl [1, 2, 3, 4, 0] rfl)
set_option maxRecDepth 20000 in
theorem wX5_fewestBearers_33_b {p : Program} {l : Launch} {e : Env} {s : State} {m : MethodId} {args : Array Value} {below : List Frame} {meth : Method} {c : Code} {Z : XG} {r : Int32} {S' : Mem} (E : XE p s m args meth c cX5_fewestBearers 5 RX5 (some .int) xL Z) (k0 : Mem → Int32 → Int32 → Int32 → Int32 → O)  (hk0 : ∀ (S : Mem) (x1 x2 x3 x4 : Int32), k0 S x1 x2 x3 x4 = some (r, S') → WN p l e { frames := 4, cells := 0, slots := 0, locals := 97 } s m args below meth c xL Z (XQ xL Z r S') S 33 5 [(0, .ref (Z.2.1 32)), (1, .int x1), (2, .int x2), (3, .int x3), (4, .int x4)] []) : ∀ (S : Mem) (x1 x2 x3 x4 : Int32), fX5_fewestBearers_33_b k0 S x1 x2 x3 x4 = some (r, S') → WN p l e { frames := 4, cells := 0, slots := 0, locals := 97 } s m args below meth c xL Z (XQ xL Z r S') S 33 5 [(0, .ref (Z.2.1 32)), (1, .int x1), (2, .int x2), (3, .int x3), (4, .int x4)] [] := by
  obtain ⟨hx, hb, -, -, -, -, -, -, -, hQ⟩ := id E
  intro S x1 x2 x3 x4 h H locs ls X hl
  unfold fX5_fewestBearers_33_b at h
  refine lv_iload hx hb dX5_fewestBearers_33 (lv_at hl 4 rfl) ?_
  refine lv_iconst (v := (1 : Int32)) hx hb dX5_fewestBearers_35 (by decide) ?_
  refine lv_aload_n hx hb dX5_fewestBearers_36 rfl (lv_at hl 0 rfl) ?_
  refine x_getr E X ffX5_27 rfl rfl dX5_fewestBearers_37 ?_
  refine x_get E X ffX5_35 rfl rfl dX5_fewestBearers_40 ?_
  refine lv_ishl hx hb dX5_fewestBearers_43 ?_
  refine lv_icmp_ge (tgt := 79) hx hb dX5_fewestBearers_44 (by decide) (fun c_1 => ?_) (fun c_1 => ?_)
  · have h := if_t c_1 h
    refine lv_iload_n hx hb dX5_fewestBearers_79 rfl (lv_at hl 3 rfl) ?_
    exact x_iret E X h dX5_fewestBearers_80
  · have h := if_f c_1 h
    refine lv_iload hx hb dX5_fewestBearers_47 (lv_at hl 4 rfl) ?_
    obtain ⟨r_2, S_3, hr_2, h⟩ := bnd_s h
    refine x_callS E X cwX5_90 (mJ6_bitCount l Z hQ  x4 hr_2) rfl rfl hl.1 rfl dX5_fewestBearers_49 (fun H locs X => ?_)
    refine lv_iload_n hx hb dX5_fewestBearers_52 rfl (lv_at hl 3 rfl) ?_
    obtain ⟨r_4, S_5, hr_4, h⟩ := bnd_s h
    refine x_callS E X cwX5_90 (mJ6_bitCount l Z hQ  x3 hr_4) rfl rfl hl.1 rfl dX5_fewestBearers_53 (fun H locs X => ?_)
    refine lv_icmp_ge (tgt := 73) hx hb dX5_fewestBearers_56 (by decide) (fun c_6 => ?_) (fun c_6 => ?_)
    · have h := if_t c_6 h
      exact wX5_fewestBearers_73 E k0 hk0 S_5 x1 x2 x3 x4 h _ _ _ X hl
    · have h := if_f c_6 h
      refine lv_aload_n hx hb dX5_fewestBearers_59 rfl (lv_at hl 0 rfl) ?_
      refine lv_iload hx hb dX5_fewestBearers_60 (lv_at hl 4 rfl) ?_
      refine lv_iload_n hx hb dX5_fewestBearers_62 rfl (lv_at hl 1 rfl) ?_
      refine lv_iload_n hx hb dX5_fewestBearers_63 rfl (lv_at hl 2 rfl) ?_
      obtain ⟨r_7, S_8, hr_7, h⟩ := bnd_s h
      refine x_callV E X cwX5_95 (mX5_isEnough l Z hQ  x4 x1 x2 hr_7) rfl rfl rfl rfl hl.1 rfl dX5_fewestBearers_64 (fun H locs X => ?_)
      refine lv_if_eq (tgt := 73) hx hb dX5_fewestBearers_67 (by decide) (fun c_9 => ?_) (fun c_9 => ?_)
      · have h := if_t c_9 h
        exact wX5_fewestBearers_73 E k0 hk0 S_8 x1 x2 x3 x4 h _ _ _ X hl
      · have h := if_f c_9 h
        refine lv_iload hx hb dX5_fewestBearers_70 (lv_at hl 4 rfl) ?_
        refine lv_istore_n (lv' := [(3, .int x4), (0, .ref (Z.2.1 32)), (1, .int x1), (2, .int x2), (4, .int x4)]) hx hb dX5_fewestBearers_72 rfl hl (by decide) rfl (fun ls hl => ?_)
        exact wX5_fewestBearers_73 E k0 hk0 S_8 x1 x2 x4 x4 h _ _ _ X (lv_sub hl [1, 2, 3, 0, 4] rfl)
theorem wX5_fewestBearers_33 {p : Program} {l : Launch} {e : Env} {s : State} {m : MethodId} {args : Array Value} {below : List Frame} {meth : Method} {c : Code} {Z : XG} {r : Int32} {S' : Mem} (E : XE p s m args meth c cX5_fewestBearers 5 RX5 (some .int) xL Z) : ∀ (n : Nat) (S : Mem) (x1 x2 x3 x4 : Int32), fX5_fewestBearers_33 n S x1 x2 x3 x4 = some (r, S') → WN p l e { frames := 4, cells := 0, slots := 0, locals := 97 } s m args below meth c xL Z (XQ xL Z r S') S 33 5 [(0, .ref (Z.2.1 32)), (1, .int x1), (2, .int x2), (3, .int x3), (4, .int x4)] [] := by
  intro n
  induction n with
  | zero => intro S x1 x2 x3 x4 h; exact absurd (show (none : O) = some _ from h) (by simp)
  | succ n ih => intro S x1 x2 x3 x4 h; exact wX5_fewestBearers_33_b E (fX5_fewestBearers_33 n) ih S x1 x2 x3 x4 h
set_option maxRecDepth 20000 in
theorem wX5_fewestBearers_2_b {p : Program} {l : Launch} {e : Env} {s : State} {m : MethodId} {args : Array Value} {below : List Frame} {meth : Method} {c : Code} {Z : XG} {r : Int32} {S' : Mem} (E : XE p s m args meth c cX5_fewestBearers 5 RX5 (some .int) xL Z) (k0 : Mem → Int32 → Int32 → Int32 → O)  (hk0 : ∀ (S : Mem) (x1 x2 x3 : Int32), k0 S x1 x2 x3 = some (r, S') → WN p l e { frames := 4, cells := 0, slots := 0, locals := 97 } s m args below meth c xL Z (XQ xL Z r S') S 2 5 [(0, .ref (Z.2.1 32)), (1, .int x1), (2, .int x2), (3, .int x3)] []) : ∀ (S : Mem) (x1 x2 x3 : Int32), fX5_fewestBearers_2_b k0 S x1 x2 x3 = some (r, S') → WN p l e { frames := 4, cells := 0, slots := 0, locals := 97 } s m args below meth c xL Z (XQ xL Z r S') S 2 5 [(0, .ref (Z.2.1 32)), (1, .int x1), (2, .int x2), (3, .int x3)] [] := by
  obtain ⟨hx, hb, -, -, -, -, -, -, -, hQ⟩ := id E
  intro S x1 x2 x3 h H locs ls X hl
  unfold fX5_fewestBearers_2_b at h
  refine lv_iload_n hx hb dX5_fewestBearers_2 rfl (lv_at hl 3 rfl) ?_
  refine lv_iload_n hx hb dX5_fewestBearers_3 rfl (lv_at hl 2 rfl) ?_
  refine lv_icmp_gt (tgt := 18) hx hb dX5_fewestBearers_4 (by decide) (fun c_1 => ?_) (fun c_1 => ?_)
  · have h := if_t c_1 h
    refine lv_iconst (v := (1 : Int32)) hx hb dX5_fewestBearers_18 (by decide) ?_
    refine lv_aload_n hx hb dX5_fewestBearers_19 rfl (lv_at hl 0 rfl) ?_
    refine x_getr E X ffX5_27 rfl rfl dX5_fewestBearers_20 ?_
    refine x_get E X ffX5_35 rfl rfl dX5_fewestBearers_23 ?_
    refine lv_ishl hx hb dX5_fewestBearers_26 ?_
    refine lv_iconst (v := (1 : Int32)) hx hb dX5_fewestBearers_27 (by decide) ?_
    refine lv_isub hx hb dX5_fewestBearers_28 ?_
    obtain ⟨x3_2, ex3_2, h⟩ := lti_s h
    refine lv_nm ex3_2 ?_
    refine lv_istore_n (lv' := [(3, .int x3_2), (0, .ref (Z.2.1 32)), (1, .int x1), (2, .int x2)]) hx hb dX5_fewestBearers_29 rfl hl (by decide) rfl (fun ls hl => ?_)
    refine lv_iconst (v := (0 : Int32)) hx hb dX5_fewestBearers_30 (by decide) ?_
    refine lv_istore (lv' := [(4, .int (0 : Int32)), (3, .int x3_2), (0, .ref (Z.2.1 32)), (1, .int x1), (2, .int x2)]) hx hb dX5_fewestBearers_31 hl (by decide) rfl (fun ls hl => ?_)
    exact wX5_fewestBearers_33 E   FU S x1 x2 x3_2 (0 : Int32) h _ _ _ X (lv_sub hl [2, 3, 4, 1, 0] rfl)
  · have h := if_f c_1 h
    refine lv_aload_n hx hb dX5_fewestBearers_7 rfl (lv_at hl 0 rfl) ?_
    refine lv_iload_n hx hb dX5_fewestBearers_8 rfl (lv_at hl 3 rfl) ?_
    obtain ⟨r_3, S_4, hr_3, h⟩ := bnd_s h
    refine x_callVv E X cwX5_86 (mX5_findNeeds l Z hQ  x3 hr_3) rfl rfl rfl rfl hl.1 rfl dX5_fewestBearers_9 (fun H locs X => ?_)
    refine lv_iinc (v := (x3 + (1 : Int32))) (lv' := [(3, .int (x3 + (1 : Int32))), (0, .ref (Z.2.1 32)), (1, .int x1), (2, .int x2)]) hx hb dX5_fewestBearers_12 hl (k := 3) rfl rfl (by decide) rfl (fun ls hl => ?_)
    refine lv_goto (tgt := 2) hx hb dX5_fewestBearers_15 (by decide) ?_
    exact hk0 S_4 x1 x2 (x3 + (1 : Int32)) h _ _ _ X (lv_sub hl [1, 2, 3, 0] rfl)
theorem wX5_fewestBearers_2 {p : Program} {l : Launch} {e : Env} {s : State} {m : MethodId} {args : Array Value} {below : List Frame} {meth : Method} {c : Code} {Z : XG} {r : Int32} {S' : Mem} (E : XE p s m args meth c cX5_fewestBearers 5 RX5 (some .int) xL Z) : ∀ (n : Nat) (S : Mem) (x1 x2 x3 : Int32), fX5_fewestBearers_2 n S x1 x2 x3 = some (r, S') → WN p l e { frames := 4, cells := 0, slots := 0, locals := 97 } s m args below meth c xL Z (XQ xL Z r S') S 2 5 [(0, .ref (Z.2.1 32)), (1, .int x1), (2, .int x2), (3, .int x3)] [] := by
  intro n
  induction n with
  | zero => intro S x1 x2 x3 h; exact absurd (show (none : O) = some _ from h) (by simp)
  | succ n ih => intro S x1 x2 x3 h; exact wX5_fewestBearers_2_b E (fX5_fewestBearers_2 n) ih S x1 x2 x3 h
set_option maxRecDepth 20000 in
theorem wX5_fewestBearers {p : Program} {l : Launch} {e : Env} {s : State} {m : MethodId} {args : Array Value} {below : List Frame} {meth : Method} {c : Code} {Z : XG} {r : Int32} {S' : Mem} (E : XE p s m args meth c cX5_fewestBearers 5 RX5 (some .int) xL Z) : ∀ (S : Mem) (x1 x2 : Int32), fX5_fewestBearers  S x1 x2 = some (r, S') → WN p l e { frames := 4, cells := 0, slots := 0, locals := 97 } s m args below meth c xL Z (XQ xL Z r S') S 0 5 [(0, .ref (Z.2.1 32)), (1, .int x1), (2, .int x2)] [] := by
  obtain ⟨hx, hb, -, -, -, -, -, -, -, hQ⟩ := id E
  intro S x1 x2 h H locs ls X hl
  unfold fX5_fewestBearers at h
  refine lv_iload_n hx hb dX5_fewestBearers_0 rfl (lv_at hl 1 rfl) ?_
  refine lv_istore_n (lv' := [(3, .int x1), (0, .ref (Z.2.1 32)), (1, .int x1), (2, .int x2)]) hx hb dX5_fewestBearers_1 rfl hl (by decide) rfl (fun ls hl => ?_)
  exact wX5_fewestBearers_2 E   FU S x1 x2 x1 h _ _ _ X (lv_sub hl [1, 2, 3, 0] rfl)
/-- SevenToAShadow$Thought.fewestBearers(II)I -/
theorem mX5_fewestBearers (l : Launch) (Z : XG) (hQ : wQ (List.length xL) Z) {S S' : Mem} {r : Int32} (x1 x2 : Int32) (h : fX5_fewestBearers S x1 x2 = some (r, S')) : XM l yX5_fewestBearers cX5_fewestBearers 5 (some .int) { frames := 4, cells := 0, slots := 0, locals := 97 } xL Z [.ref (Z.2.1 32), .int x1, .int x2] S (XQ xL Z r S') := by
  refine XM.of (own := RX5) (by decide +kernel) rfl rfl hQ (fun p e s m args below meth c E ls hl X => ?_)
  exact wX5_fewestBearers E S x1 x2 h _ _ _ X hl
def fX7_fewest (S : Mem) (x1 x2 : Int32) : O := bnd (fX7_areHours S x1 x2) fun r_1 S_2 => (if r_1 = 0 then some ((-1 : Int32), S_2) else bnd (fX5_fewestBearers S_2 x1 x2) fun r_4 S_5 => some (r_4, S_5))
theorem dX7_fewest_0 : decode cX7_fewest 0 = .ok (.iload_n 1, 1) := by decide +kernel
theorem dX7_fewest_1 : decode cX7_fewest 1 = .ok (.iload_n 2, 1) := by decide +kernel
theorem dX7_fewest_2 : decode cX7_fewest 2 = .ok (.invokestatic 164, 3) := by decide +kernel
theorem dX7_fewest_5 : decode cX7_fewest 5 = .ok (.ifCond .eq 15, 3) := by decide +kernel
theorem dX7_fewest_8 : decode cX7_fewest 8 = .ok (.aload_n 0, 1) := by decide +kernel
theorem dX7_fewest_9 : decode cX7_fewest 9 = .ok (.getfield 38, 3) := by decide +kernel
theorem dX7_fewest_12 : decode cX7_fewest 12 = .ok (.iload_n 1, 1) := by decide +kernel
theorem dX7_fewest_13 : decode cX7_fewest 13 = .ok (.iload_n 2, 1) := by decide +kernel
theorem dX7_fewest_14 : decode cX7_fewest 14 = .ok (.invokevirtual 180, 3) := by decide +kernel
theorem dX7_fewest_17 : decode cX7_fewest 17 = .ok (.goto 4, 3) := by decide +kernel
theorem dX7_fewest_20 : decode cX7_fewest 20 = .ok (.iconst (-1), 1) := by decide +kernel
theorem dX7_fewest_21 : decode cX7_fewest 21 = .ok (.ireturn, 1) := by decide +kernel
set_option maxRecDepth 20000 in
theorem wX7_fewest {p : Program} {l : Launch} {e : Env} {s : State} {m : MethodId} {args : Array Value} {below : List Frame} {meth : Method} {c : Code} {Z : XG} {r : Int32} {S' : Mem} (E : XE p s m args meth c cX7_fewest 3 RX7 (some .int) xL Z) : ∀ (S : Mem) (x1 x2 : Int32), fX7_fewest  S x1 x2 = some (r, S') → WN p l e { frames := 5, cells := 0, slots := 0, locals := 121 } s m args below meth c xL Z (XQ xL Z r S') S 0 3 [(0, .ref (Z.2.1 0)), (1, .int x1), (2, .int x2)] [] := by
  obtain ⟨hx, hb, -, -, -, -, -, -, -, hQ⟩ := id E
  intro S x1 x2 h H locs ls X hl
  unfold fX7_fewest at h
  refine lv_iload_n hx hb dX7_fewest_0 rfl (lv_at hl 1 rfl) ?_
  refine lv_iload_n hx hb dX7_fewest_1 rfl (lv_at hl 2 rfl) ?_
  obtain ⟨r_1, S_2, hr_1, h⟩ := bnd_s h
  refine x_callS E X cwX7_164 (mX7_areHours l Z hQ  x1 x2 hr_1) rfl rfl hl.1 rfl dX7_fewest_2 (fun H locs X => ?_)
  refine lv_if_eq (tgt := 20) hx hb dX7_fewest_5 (by decide) (fun c_3 => ?_) (fun c_3 => ?_)
  · have h := if_t c_3 h
    refine lv_iconst (v := (-1 : Int32)) hx hb dX7_fewest_20 (by decide) ?_
    exact x_iret E X h dX7_fewest_21
  · have h := if_f c_3 h
    refine lv_aload_n hx hb dX7_fewest_8 rfl (lv_at hl 0 rfl) ?_
    refine x_getr E X ffX7_38 rfl rfl dX7_fewest_9 ?_
    refine lv_iload_n hx hb dX7_fewest_12 rfl (lv_at hl 1 rfl) ?_
    refine lv_iload_n hx hb dX7_fewest_13 rfl (lv_at hl 2 rfl) ?_
    obtain ⟨r_4, S_5, hr_4, h⟩ := bnd_s h
    refine x_callV E X cwX7_180 (mX5_fewestBearers l Z hQ  x1 x2 hr_4) rfl rfl rfl rfl hl.1 rfl dX7_fewest_14 (fun H locs X => ?_)
    refine lv_goto (tgt := 21) hx hb dX7_fewest_17 (by decide) ?_
    exact x_iret E X h dX7_fewest_21
/-- SevenToAShadow.fewest(II)I -/
theorem mX7_fewest (l : Launch) (Z : XG) (hQ : wQ (List.length xL) Z) {S S' : Mem} {r : Int32} (x1 x2 : Int32) (h : fX7_fewest S x1 x2 = some (r, S')) : XM l yX7_fewest cX7_fewest 3 (some .int) { frames := 5, cells := 0, slots := 0, locals := 121 } xL Z [.ref (Z.2.1 0), .int x1, .int x2] S (XQ xL Z r S') := by
  refine XM.of (own := RX7) (by decide +kernel) rfl rfl hQ (fun p e s m args below meth c E ls hl X => ?_)
  exact wX7_fewest E S x1 x2 h _ _ _ X hl
def fX5_burnOf (S : Mem) (x1 x2 x3 : Int32) : O := bnd (fX6_isShaded S x1 x3) fun r_1 S_2 => (if r_1 = 0 then bnd (fX6_inHour S_2 x2 (2 : Int32)) fun r_4 S_5 => bnd (fX6_has S_5 x1 (3 : Int32)) fun r_6 S_7 => some ((r_4 * r_6), S_7) else some ((0 : Int32), S_2))
theorem dX5_burnOf_0 : decode cX5_burnOf 0 = .ok (.aload_n 0, 1) := by decide +kernel
theorem dX5_burnOf_1 : decode cX5_burnOf 1 = .ok (.getfield 27, 3) := by decide +kernel
theorem dX5_burnOf_4 : decode cX5_burnOf 4 = .ok (.iload_n 1, 1) := by decide +kernel
theorem dX5_burnOf_5 : decode cX5_burnOf 5 = .ok (.iload_n 3, 1) := by decide +kernel
theorem dX5_burnOf_6 : decode cX5_burnOf 6 = .ok (.invokevirtual 108, 3) := by decide +kernel
theorem dX5_burnOf_9 : decode cX5_burnOf 9 = .ok (.ifCond .eq 7, 3) := by decide +kernel
theorem dX5_burnOf_12 : decode cX5_burnOf 12 = .ok (.iconst 0, 1) := by decide +kernel
theorem dX5_burnOf_13 : decode cX5_burnOf 13 = .ok (.goto 22, 3) := by decide +kernel
theorem dX5_burnOf_16 : decode cX5_burnOf 16 = .ok (.aload_n 0, 1) := by decide +kernel
theorem dX5_burnOf_17 : decode cX5_burnOf 17 = .ok (.getfield 27, 3) := by decide +kernel
theorem dX5_burnOf_20 : decode cX5_burnOf 20 = .ok (.iload_n 2, 1) := by decide +kernel
theorem dX5_burnOf_21 : decode cX5_burnOf 21 = .ok (.iconst 2, 1) := by decide +kernel
theorem dX5_burnOf_22 : decode cX5_burnOf 22 = .ok (.invokevirtual 58, 3) := by decide +kernel
theorem dX5_burnOf_25 : decode cX5_burnOf 25 = .ok (.aload_n 0, 1) := by decide +kernel
theorem dX5_burnOf_26 : decode cX5_burnOf 26 = .ok (.getfield 27, 3) := by decide +kernel
theorem dX5_burnOf_29 : decode cX5_burnOf 29 = .ok (.iload_n 1, 1) := by decide +kernel
theorem dX5_burnOf_30 : decode cX5_burnOf 30 = .ok (.iconst 3, 1) := by decide +kernel
theorem dX5_burnOf_31 : decode cX5_burnOf 31 = .ok (.invokevirtual 41, 3) := by decide +kernel
theorem dX5_burnOf_34 : decode cX5_burnOf 34 = .ok (.imul, 1) := by decide +kernel
theorem dX5_burnOf_35 : decode cX5_burnOf 35 = .ok (.ireturn, 1) := by decide +kernel
set_option maxRecDepth 20000 in
theorem wX5_burnOf {p : Program} {l : Launch} {e : Env} {s : State} {m : MethodId} {args : Array Value} {below : List Frame} {meth : Method} {c : Code} {Z : XG} {r : Int32} {S' : Mem} (E : XE p s m args meth c cX5_burnOf 4 RX5 (some .int) xL Z) : ∀ (S : Mem) (x1 x2 x3 : Int32), fX5_burnOf  S x1 x2 x3 = some (r, S') → WN p l e { frames := 3, cells := 0, slots := 0, locals := 65 } s m args below meth c xL Z (XQ xL Z r S') S 0 4 [(0, .ref (Z.2.1 32)), (1, .int x1), (2, .int x2), (3, .int x3)] [] := by
  obtain ⟨hx, hb, -, -, -, -, -, -, -, hQ⟩ := id E
  intro S x1 x2 x3 h H locs ls X hl
  unfold fX5_burnOf at h
  refine lv_aload_n hx hb dX5_burnOf_0 rfl (lv_at hl 0 rfl) ?_
  refine x_getr E X ffX5_27 rfl rfl dX5_burnOf_1 ?_
  refine lv_iload_n hx hb dX5_burnOf_4 rfl (lv_at hl 1 rfl) ?_
  refine lv_iload_n hx hb dX5_burnOf_5 rfl (lv_at hl 3 rfl) ?_
  obtain ⟨r_1, S_2, hr_1, h⟩ := bnd_s h
  refine x_callV E X cwX5_108 (mX6_isShaded l Z hQ  x1 x3 hr_1) rfl rfl rfl rfl hl.1 rfl dX5_burnOf_6 (fun H locs X => ?_)
  refine lv_if_eq (tgt := 16) hx hb dX5_burnOf_9 (by decide) (fun c_3 => ?_) (fun c_3 => ?_)
  · have h := if_t c_3 h
    refine lv_aload_n hx hb dX5_burnOf_16 rfl (lv_at hl 0 rfl) ?_
    refine x_getr E X ffX5_27 rfl rfl dX5_burnOf_17 ?_
    refine lv_iload_n hx hb dX5_burnOf_20 rfl (lv_at hl 2 rfl) ?_
    refine lv_iconst (v := (2 : Int32)) hx hb dX5_burnOf_21 (by decide) ?_
    obtain ⟨r_4, S_5, hr_4, h⟩ := bnd_s h
    refine x_callV E X cwX5_58 (mX6_inHour l Z hQ  x2 (2 : Int32) hr_4) rfl rfl rfl rfl hl.1 rfl dX5_burnOf_22 (fun H locs X => ?_)
    refine lv_aload_n hx hb dX5_burnOf_25 rfl (lv_at hl 0 rfl) ?_
    refine x_getr E X ffX5_27 rfl rfl dX5_burnOf_26 ?_
    refine lv_iload_n hx hb dX5_burnOf_29 rfl (lv_at hl 1 rfl) ?_
    refine lv_iconst (v := (3 : Int32)) hx hb dX5_burnOf_30 (by decide) ?_
    obtain ⟨r_6, S_7, hr_6, h⟩ := bnd_s h
    refine x_callV E X cwX5_41 (mX6_has l Z hQ  x1 (3 : Int32) hr_6) rfl rfl rfl rfl hl.1 rfl dX5_burnOf_31 (fun H locs X => ?_)
    refine lv_imul hx hb dX5_burnOf_34 ?_
    exact x_iret E X h dX5_burnOf_35
  · have h := if_f c_3 h
    refine lv_iconst (v := (0 : Int32)) hx hb dX5_burnOf_12 (by decide) ?_
    refine lv_goto (tgt := 35) hx hb dX5_burnOf_13 (by decide) ?_
    exact x_iret E X h dX5_burnOf_35
/-- SevenToAShadow$Thought.burnOf(III)I -/
theorem mX5_burnOf (l : Launch) (Z : XG) (hQ : wQ (List.length xL) Z) {S S' : Mem} {r : Int32} (x1 x2 x3 : Int32) (h : fX5_burnOf S x1 x2 x3 = some (r, S')) : XM l yX5_burnOf cX5_burnOf 4 (some .int) { frames := 3, cells := 0, slots := 0, locals := 65 } xL Z [.ref (Z.2.1 32), .int x1, .int x2, .int x3] S (XQ xL Z r S') := by
  refine XM.of (own := RX5) (by decide +kernel) rfl rfl hQ (fun p e s m args below meth c E ls hl X => ?_)
  exact wX5_burnOf E S x1 x2 x3 h _ _ _ X hl
def fX5_gainersByTurn_78 (k0 : Mem → Int32 → Int32 → Int32 → Int32 → Int32 → O) (S : Mem) (x1 x3 x4 x5 x6 : Int32) : O := k0 S x1 x3 x4 x5 (x6 + (1 : Int32))
def fX5_gainersByTurn_37_b (k0 : Mem → Int32 → Int32 → Int32 → Int32 → Int32 → O) (S : Mem) (x1 x3 x4 x5 x6 : Int32) : O := (if (S 1 9) ≤ x6 then some (x5, S) else bnd (fX5_burnOf S x6 x1 x4) fun r_2 S_3 => bnd (fX5_burnOf S_3 x6 x1 x3) fun r_4 S_5 => (if r_4 ≤ r_2 then fX5_gainersByTurn_78 k0 S_5 x1 x3 x4 x5 x6 else lti (x5 ||| ((1 : Int32) <<< (x6 &&& 31))) fun x5_7 => fX5_gainersByTurn_78 k0 S_5 x1 x3 x4 x5_7 x6))
def fX5_gainersByTurn_37 : Nat → Mem → Int32 → Int32 → Int32 → Int32 → Int32 → O
  | 0 => fun _ _ _ _ _ _ => none
  | n + 1 => fX5_gainersByTurn_37_b (fX5_gainersByTurn_37 n)
def fX5_gainersByTurn (S : Mem) (x1 x2 : Int32) : O := bnd (fX6_inHour S x1 (3 : Int32)) fun r_1 S_2 => bnd (fX6_shadeIn S_2 x1 r_1 (-1 : Int32)) fun r_3 S_4 => bnd (fX6_shadeIn S_4 x1 x2 (-1 : Int32)) fun r_5 S_6 => fX5_gainersByTurn_37  FU S_6 x1 r_3 r_5 (0 : Int32) (0 : Int32)
theorem dX5_gainersByTurn_0 : decode cX5_gainersByTurn 0 = .ok (.aload_n 0, 1) := by decide +kernel
theorem dX5_gainersByTurn_1 : decode cX5_gainersByTurn 1 = .ok (.getfield 27, 3) := by decide +kernel
theorem dX5_gainersByTurn_4 : decode cX5_gainersByTurn 4 = .ok (.iload_n 1, 1) := by decide +kernel
theorem dX5_gainersByTurn_5 : decode cX5_gainersByTurn 5 = .ok (.aload_n 0, 1) := by decide +kernel
theorem dX5_gainersByTurn_6 : decode cX5_gainersByTurn 6 = .ok (.getfield 27, 3) := by decide +kernel
theorem dX5_gainersByTurn_9 : decode cX5_gainersByTurn 9 = .ok (.iload_n 1, 1) := by decide +kernel
theorem dX5_gainersByTurn_10 : decode cX5_gainersByTurn 10 = .ok (.iconst 3, 1) := by decide +kernel
theorem dX5_gainersByTurn_11 : decode cX5_gainersByTurn 11 = .ok (.invokevirtual 58, 3) := by decide +kernel
theorem dX5_gainersByTurn_14 : decode cX5_gainersByTurn 14 = .ok (.iconst (-1), 1) := by decide +kernel
theorem dX5_gainersByTurn_15 : decode cX5_gainersByTurn 15 = .ok (.invokevirtual 112, 3) := by decide +kernel
theorem dX5_gainersByTurn_18 : decode cX5_gainersByTurn 18 = .ok (.istore_n 3, 1) := by decide +kernel
theorem dX5_gainersByTurn_19 : decode cX5_gainersByTurn 19 = .ok (.aload_n 0, 1) := by decide +kernel
theorem dX5_gainersByTurn_20 : decode cX5_gainersByTurn 20 = .ok (.getfield 27, 3) := by decide +kernel
theorem dX5_gainersByTurn_23 : decode cX5_gainersByTurn 23 = .ok (.iload_n 1, 1) := by decide +kernel
theorem dX5_gainersByTurn_24 : decode cX5_gainersByTurn 24 = .ok (.iload_n 2, 1) := by decide +kernel
theorem dX5_gainersByTurn_25 : decode cX5_gainersByTurn 25 = .ok (.iconst (-1), 1) := by decide +kernel
theorem dX5_gainersByTurn_26 : decode cX5_gainersByTurn 26 = .ok (.invokevirtual 112, 3) := by decide +kernel
theorem dX5_gainersByTurn_29 : decode cX5_gainersByTurn 29 = .ok (.istore 4, 2) := by decide +kernel
theorem dX5_gainersByTurn_31 : decode cX5_gainersByTurn 31 = .ok (.iconst 0, 1) := by decide +kernel
theorem dX5_gainersByTurn_32 : decode cX5_gainersByTurn 32 = .ok (.istore 5, 2) := by decide +kernel
theorem dX5_gainersByTurn_34 : decode cX5_gainersByTurn 34 = .ok (.iconst 0, 1) := by decide +kernel
theorem dX5_gainersByTurn_35 : decode cX5_gainersByTurn 35 = .ok (.istore 6, 2) := by decide +kernel
theorem dX5_gainersByTurn_37 : decode cX5_gainersByTurn 37 = .ok (.iload 6, 2) := by decide +kernel
theorem dX5_gainersByTurn_39 : decode cX5_gainersByTurn 39 = .ok (.aload_n 0, 1) := by decide +kernel
theorem dX5_gainersByTurn_40 : decode cX5_gainersByTurn 40 = .ok (.getfield 27, 3) := by decide +kernel
theorem dX5_gainersByTurn_43 : decode cX5_gainersByTurn 43 = .ok (.getfield 35, 3) := by decide +kernel
theorem dX5_gainersByTurn_46 : decode cX5_gainersByTurn 46 = .ok (.if_icmp .ge 38, 3) := by decide +kernel
theorem dX5_gainersByTurn_49 : decode cX5_gainersByTurn 49 = .ok (.aload_n 0, 1) := by decide +kernel
theorem dX5_gainersByTurn_50 : decode cX5_gainersByTurn 50 = .ok (.iload 6, 2) := by decide +kernel
theorem dX5_gainersByTurn_52 : decode cX5_gainersByTurn 52 = .ok (.iload_n 1, 1) := by decide +kernel
theorem dX5_gainersByTurn_53 : decode cX5_gainersByTurn 53 = .ok (.iload 4, 2) := by decide +kernel
theorem dX5_gainersByTurn_55 : decode cX5_gainersByTurn 55 = .ok (.invokevirtual 115, 3) := by decide +kernel
theorem dX5_gainersByTurn_58 : decode cX5_gainersByTurn 58 = .ok (.aload_n 0, 1) := by decide +kernel
theorem dX5_gainersByTurn_59 : decode cX5_gainersByTurn 59 = .ok (.iload 6, 2) := by decide +kernel
theorem dX5_gainersByTurn_61 : decode cX5_gainersByTurn 61 = .ok (.iload_n 1, 1) := by decide +kernel
theorem dX5_gainersByTurn_62 : decode cX5_gainersByTurn 62 = .ok (.iload_n 3, 1) := by decide +kernel
theorem dX5_gainersByTurn_63 : decode cX5_gainersByTurn 63 = .ok (.invokevirtual 115, 3) := by decide +kernel
theorem dX5_gainersByTurn_66 : decode cX5_gainersByTurn 66 = .ok (.if_icmp .ge 12, 3) := by decide +kernel
theorem dX5_gainersByTurn_69 : decode cX5_gainersByTurn 69 = .ok (.iload 5, 2) := by decide +kernel
theorem dX5_gainersByTurn_71 : decode cX5_gainersByTurn 71 = .ok (.iconst 1, 1) := by decide +kernel
theorem dX5_gainersByTurn_72 : decode cX5_gainersByTurn 72 = .ok (.iload 6, 2) := by decide +kernel
theorem dX5_gainersByTurn_74 : decode cX5_gainersByTurn 74 = .ok (.ishl, 1) := by decide +kernel
theorem dX5_gainersByTurn_75 : decode cX5_gainersByTurn 75 = .ok (.ior, 1) := by decide +kernel
theorem dX5_gainersByTurn_76 : decode cX5_gainersByTurn 76 = .ok (.istore 5, 2) := by decide +kernel
theorem dX5_gainersByTurn_78 : decode cX5_gainersByTurn 78 = .ok (.iinc 6 1, 3) := by decide +kernel
theorem dX5_gainersByTurn_81 : decode cX5_gainersByTurn 81 = .ok (.goto (-44), 3) := by decide +kernel
theorem dX5_gainersByTurn_84 : decode cX5_gainersByTurn 84 = .ok (.iload 5, 2) := by decide +kernel
theorem dX5_gainersByTurn_86 : decode cX5_gainersByTurn 86 = .ok (.ireturn, 1) := by decide +kernel
set_option maxRecDepth 20000 in
theorem wX5_gainersByTurn_78 {p : Program} {l : Launch} {e : Env} {s : State} {m : MethodId} {args : Array Value} {below : List Frame} {meth : Method} {c : Code} {Z : XG} {r : Int32} {S' : Mem} (E : XE p s m args meth c cX5_gainersByTurn 7 RX5 (some .int) xL Z) (k0 : Mem → Int32 → Int32 → Int32 → Int32 → Int32 → O)  (hk0 : ∀ (S : Mem) (x1 x3 x4 x5 x6 : Int32), k0 S x1 x3 x4 x5 x6 = some (r, S') → WN p l e { frames := 4, cells := 0, slots := 0, locals := 99 } s m args below meth c xL Z (XQ xL Z r S') S 37 7 [(0, .ref (Z.2.1 32)), (1, .int x1), (3, .int x3), (4, .int x4), (5, .int x5), (6, .int x6)] []) : ∀ (S : Mem) (x1 x3 x4 x5 x6 : Int32), fX5_gainersByTurn_78 k0 S x1 x3 x4 x5 x6 = some (r, S') → WN p l e { frames := 4, cells := 0, slots := 0, locals := 99 } s m args below meth c xL Z (XQ xL Z r S') S 78 7 [(0, .ref (Z.2.1 32)), (1, .int x1), (3, .int x3), (4, .int x4), (5, .int x5), (6, .int x6)] [] := by
  obtain ⟨hx, hb, -, -, -, -, -, -, -, hQ⟩ := id E
  intro S x1 x3 x4 x5 x6 h H locs ls X hl
  unfold fX5_gainersByTurn_78 at h
  refine lv_iinc (v := (x6 + (1 : Int32))) (lv' := [(6, .int (x6 + (1 : Int32))), (0, .ref (Z.2.1 32)), (1, .int x1), (3, .int x3), (4, .int x4), (5, .int x5)]) hx hb dX5_gainersByTurn_78 hl (k := 5) rfl rfl (by decide) rfl (fun ls hl => ?_)
  refine lv_goto (tgt := 37) hx hb dX5_gainersByTurn_81 (by decide) ?_
  exact hk0 S x1 x3 x4 x5 (x6 + (1 : Int32)) h _ _ _ X (lv_sub hl [1, 2, 3, 4, 5, 0] rfl)
set_option maxRecDepth 20000 in
theorem wX5_gainersByTurn_37_b {p : Program} {l : Launch} {e : Env} {s : State} {m : MethodId} {args : Array Value} {below : List Frame} {meth : Method} {c : Code} {Z : XG} {r : Int32} {S' : Mem} (E : XE p s m args meth c cX5_gainersByTurn 7 RX5 (some .int) xL Z) (k0 : Mem → Int32 → Int32 → Int32 → Int32 → Int32 → O)  (hk0 : ∀ (S : Mem) (x1 x3 x4 x5 x6 : Int32), k0 S x1 x3 x4 x5 x6 = some (r, S') → WN p l e { frames := 4, cells := 0, slots := 0, locals := 99 } s m args below meth c xL Z (XQ xL Z r S') S 37 7 [(0, .ref (Z.2.1 32)), (1, .int x1), (3, .int x3), (4, .int x4), (5, .int x5), (6, .int x6)] []) : ∀ (S : Mem) (x1 x3 x4 x5 x6 : Int32), fX5_gainersByTurn_37_b k0 S x1 x3 x4 x5 x6 = some (r, S') → WN p l e { frames := 4, cells := 0, slots := 0, locals := 99 } s m args below meth c xL Z (XQ xL Z r S') S 37 7 [(0, .ref (Z.2.1 32)), (1, .int x1), (3, .int x3), (4, .int x4), (5, .int x5), (6, .int x6)] [] := by
  obtain ⟨hx, hb, -, -, -, -, -, -, -, hQ⟩ := id E
  intro S x1 x3 x4 x5 x6 h H locs ls X hl
  unfold fX5_gainersByTurn_37_b at h
  refine lv_iload hx hb dX5_gainersByTurn_37 (lv_at hl 5 rfl) ?_
  refine lv_aload_n hx hb dX5_gainersByTurn_39 rfl (lv_at hl 0 rfl) ?_
  refine x_getr E X ffX5_27 rfl rfl dX5_gainersByTurn_40 ?_
  refine x_get E X ffX5_35 rfl rfl dX5_gainersByTurn_43 ?_
  refine lv_icmp_ge (tgt := 84) hx hb dX5_gainersByTurn_46 (by decide) (fun c_1 => ?_) (fun c_1 => ?_)
  · have h := if_t c_1 h
    refine lv_iload hx hb dX5_gainersByTurn_84 (lv_at hl 4 rfl) ?_
    exact x_iret E X h dX5_gainersByTurn_86
  · have h := if_f c_1 h
    refine lv_aload_n hx hb dX5_gainersByTurn_49 rfl (lv_at hl 0 rfl) ?_
    refine lv_iload hx hb dX5_gainersByTurn_50 (lv_at hl 5 rfl) ?_
    refine lv_iload_n hx hb dX5_gainersByTurn_52 rfl (lv_at hl 1 rfl) ?_
    refine lv_iload hx hb dX5_gainersByTurn_53 (lv_at hl 3 rfl) ?_
    obtain ⟨r_2, S_3, hr_2, h⟩ := bnd_s h
    refine x_callV E X cwX5_115 (mX5_burnOf l Z hQ  x6 x1 x4 hr_2) rfl rfl rfl rfl hl.1 rfl dX5_gainersByTurn_55 (fun H locs X => ?_)
    refine lv_aload_n hx hb dX5_gainersByTurn_58 rfl (lv_at hl 0 rfl) ?_
    refine lv_iload hx hb dX5_gainersByTurn_59 (lv_at hl 5 rfl) ?_
    refine lv_iload_n hx hb dX5_gainersByTurn_61 rfl (lv_at hl 1 rfl) ?_
    refine lv_iload_n hx hb dX5_gainersByTurn_62 rfl (lv_at hl 2 rfl) ?_
    obtain ⟨r_4, S_5, hr_4, h⟩ := bnd_s h
    refine x_callV E X cwX5_115 (mX5_burnOf l Z hQ  x6 x1 x3 hr_4) rfl rfl rfl rfl hl.1 rfl dX5_gainersByTurn_63 (fun H locs X => ?_)
    refine lv_icmp_ge (tgt := 78) hx hb dX5_gainersByTurn_66 (by decide) (fun c_6 => ?_) (fun c_6 => ?_)
    · have h := if_t c_6 h
      exact wX5_gainersByTurn_78 E k0 hk0 S_5 x1 x3 x4 x5 x6 h _ _ _ X hl
    · have h := if_f c_6 h
      refine lv_iload hx hb dX5_gainersByTurn_69 (lv_at hl 4 rfl) ?_
      refine lv_iconst (v := (1 : Int32)) hx hb dX5_gainersByTurn_71 (by decide) ?_
      refine lv_iload hx hb dX5_gainersByTurn_72 (lv_at hl 5 rfl) ?_
      refine lv_ishl hx hb dX5_gainersByTurn_74 ?_
      refine lv_ior hx hb dX5_gainersByTurn_75 ?_
      obtain ⟨x5_7, ex5_7, h⟩ := lti_s h
      refine lv_nm ex5_7 ?_
      refine lv_istore (lv' := [(5, .int x5_7), (0, .ref (Z.2.1 32)), (1, .int x1), (3, .int x3), (4, .int x4), (6, .int x6)]) hx hb dX5_gainersByTurn_76 hl (by decide) rfl (fun ls hl => ?_)
      exact wX5_gainersByTurn_78 E k0 hk0 S_5 x1 x3 x4 x5_7 x6 h _ _ _ X (lv_sub hl [1, 2, 3, 4, 0, 5] rfl)
theorem wX5_gainersByTurn_37 {p : Program} {l : Launch} {e : Env} {s : State} {m : MethodId} {args : Array Value} {below : List Frame} {meth : Method} {c : Code} {Z : XG} {r : Int32} {S' : Mem} (E : XE p s m args meth c cX5_gainersByTurn 7 RX5 (some .int) xL Z) : ∀ (n : Nat) (S : Mem) (x1 x3 x4 x5 x6 : Int32), fX5_gainersByTurn_37 n S x1 x3 x4 x5 x6 = some (r, S') → WN p l e { frames := 4, cells := 0, slots := 0, locals := 99 } s m args below meth c xL Z (XQ xL Z r S') S 37 7 [(0, .ref (Z.2.1 32)), (1, .int x1), (3, .int x3), (4, .int x4), (5, .int x5), (6, .int x6)] [] := by
  intro n
  induction n with
  | zero => intro S x1 x3 x4 x5 x6 h; exact absurd (show (none : O) = some _ from h) (by simp)
  | succ n ih => intro S x1 x3 x4 x5 x6 h; exact wX5_gainersByTurn_37_b E (fX5_gainersByTurn_37 n) ih S x1 x3 x4 x5 x6 h
set_option maxRecDepth 20000 in
theorem wX5_gainersByTurn {p : Program} {l : Launch} {e : Env} {s : State} {m : MethodId} {args : Array Value} {below : List Frame} {meth : Method} {c : Code} {Z : XG} {r : Int32} {S' : Mem} (E : XE p s m args meth c cX5_gainersByTurn 7 RX5 (some .int) xL Z) : ∀ (S : Mem) (x1 x2 : Int32), fX5_gainersByTurn  S x1 x2 = some (r, S') → WN p l e { frames := 4, cells := 0, slots := 0, locals := 99 } s m args below meth c xL Z (XQ xL Z r S') S 0 7 [(0, .ref (Z.2.1 32)), (1, .int x1), (2, .int x2)] [] := by
  obtain ⟨hx, hb, -, -, -, -, -, -, -, hQ⟩ := id E
  intro S x1 x2 h H locs ls X hl
  unfold fX5_gainersByTurn at h
  refine lv_aload_n hx hb dX5_gainersByTurn_0 rfl (lv_at hl 0 rfl) ?_
  refine x_getr E X ffX5_27 rfl rfl dX5_gainersByTurn_1 ?_
  refine lv_iload_n hx hb dX5_gainersByTurn_4 rfl (lv_at hl 1 rfl) ?_
  refine lv_aload_n hx hb dX5_gainersByTurn_5 rfl (lv_at hl 0 rfl) ?_
  refine x_getr E X ffX5_27 rfl rfl dX5_gainersByTurn_6 ?_
  refine lv_iload_n hx hb dX5_gainersByTurn_9 rfl (lv_at hl 1 rfl) ?_
  refine lv_iconst (v := (3 : Int32)) hx hb dX5_gainersByTurn_10 (by decide) ?_
  obtain ⟨r_1, S_2, hr_1, h⟩ := bnd_s h
  refine x_callV E X cwX5_58 (mX6_inHour l Z hQ  x1 (3 : Int32) hr_1) rfl rfl rfl rfl hl.1 rfl dX5_gainersByTurn_11 (fun H locs X => ?_)
  refine lv_iconst (v := (-1 : Int32)) hx hb dX5_gainersByTurn_14 (by decide) ?_
  obtain ⟨r_3, S_4, hr_3, h⟩ := bnd_s h
  refine x_callV E X cwX5_112 (mX6_shadeIn l Z hQ  x1 r_1 (-1 : Int32) hr_3) rfl rfl rfl rfl hl.1 rfl dX5_gainersByTurn_15 (fun H locs X => ?_)
  refine lv_istore_n (lv' := [(3, .int r_3), (0, .ref (Z.2.1 32)), (1, .int x1), (2, .int x2)]) hx hb dX5_gainersByTurn_18 rfl hl (by decide) rfl (fun ls hl => ?_)
  refine lv_aload_n hx hb dX5_gainersByTurn_19 rfl (lv_at hl 1 rfl) ?_
  refine x_getr E X ffX5_27 rfl rfl dX5_gainersByTurn_20 ?_
  refine lv_iload_n hx hb dX5_gainersByTurn_23 rfl (lv_at hl 2 rfl) ?_
  refine lv_iload_n hx hb dX5_gainersByTurn_24 rfl (lv_at hl 3 rfl) ?_
  refine lv_iconst (v := (-1 : Int32)) hx hb dX5_gainersByTurn_25 (by decide) ?_
  obtain ⟨r_5, S_6, hr_5, h⟩ := bnd_s h
  refine x_callV E X cwX5_112 (mX6_shadeIn l Z hQ  x1 x2 (-1 : Int32) hr_5) rfl rfl rfl rfl hl.1 rfl dX5_gainersByTurn_26 (fun H locs X => ?_)
  refine lv_istore (lv' := [(4, .int r_5), (3, .int r_3), (0, .ref (Z.2.1 32)), (1, .int x1), (2, .int x2)]) hx hb dX5_gainersByTurn_29 hl (by decide) rfl (fun ls hl => ?_)
  refine lv_iconst (v := (0 : Int32)) hx hb dX5_gainersByTurn_31 (by decide) ?_
  refine lv_istore (lv' := [(5, .int (0 : Int32)), (4, .int r_5), (3, .int r_3), (0, .ref (Z.2.1 32)), (1, .int x1), (2, .int x2)]) hx hb dX5_gainersByTurn_32 hl (by decide) rfl (fun ls hl => ?_)
  refine lv_iconst (v := (0 : Int32)) hx hb dX5_gainersByTurn_34 (by decide) ?_
  refine lv_istore (lv' := [(6, .int (0 : Int32)), (5, .int (0 : Int32)), (4, .int r_5), (3, .int r_3), (0, .ref (Z.2.1 32)), (1, .int x1), (2, .int x2)]) hx hb dX5_gainersByTurn_35 hl (by decide) rfl (fun ls hl => ?_)
  exact wX5_gainersByTurn_37 E   FU S_6 x1 r_3 r_5 (0 : Int32) (0 : Int32) h _ _ _ X (lv_sub hl [4, 5, 3, 2, 1, 0] rfl)
/-- SevenToAShadow$Thought.gainersByTurn(II)I -/
theorem mX5_gainersByTurn (l : Launch) (Z : XG) (hQ : wQ (List.length xL) Z) {S S' : Mem} {r : Int32} (x1 x2 : Int32) (h : fX5_gainersByTurn S x1 x2 = some (r, S')) : XM l yX5_gainersByTurn cX5_gainersByTurn 7 (some .int) { frames := 4, cells := 0, slots := 0, locals := 99 } xL Z [.ref (Z.2.1 32), .int x1, .int x2] S (XQ xL Z r S') := by
  refine XM.of (own := RX5) (by decide +kernel) rfl rfl hQ (fun p e s m args below meth c E ls hl X => ?_)
  exact wX5_gainersByTurn E S x1 x2 h _ _ _ X hl
def fX5_savedByTurn_37_b (k0 : Mem → Int32 → Int32 → Int32 → Int32 → Int32 → O) (S : Mem) (x1 x3 x4 x5 x6 : Int32) : O := (if (S 1 9) ≤ x6 then some (x5, S) else bnd (fX5_burnOf S x6 x1 x3) fun r_2 S_3 => bnd (fX5_burnOf S_3 x6 x1 x4) fun r_4 S_5 => lti (x5 + (r_2 - r_4)) fun x5_6 => k0 S_5 x1 x3 x4 x5_6 (x6 + (1 : Int32)))
def fX5_savedByTurn_37 : Nat → Mem → Int32 → Int32 → Int32 → Int32 → Int32 → O
  | 0 => fun _ _ _ _ _ _ => none
  | n + 1 => fX5_savedByTurn_37_b (fX5_savedByTurn_37 n)
def fX5_savedByTurn (S : Mem) (x1 x2 : Int32) : O := bnd (fX6_inHour S x1 (3 : Int32)) fun r_1 S_2 => bnd (fX6_shadeIn S_2 x1 r_1 (-1 : Int32)) fun r_3 S_4 => bnd (fX6_shadeIn S_4 x1 x2 (-1 : Int32)) fun r_5 S_6 => fX5_savedByTurn_37  FU S_6 x1 r_3 r_5 (0 : Int32) (0 : Int32)
theorem dX5_savedByTurn_0 : decode cX5_savedByTurn 0 = .ok (.aload_n 0, 1) := by decide +kernel
theorem dX5_savedByTurn_1 : decode cX5_savedByTurn 1 = .ok (.getfield 27, 3) := by decide +kernel
theorem dX5_savedByTurn_4 : decode cX5_savedByTurn 4 = .ok (.iload_n 1, 1) := by decide +kernel
theorem dX5_savedByTurn_5 : decode cX5_savedByTurn 5 = .ok (.aload_n 0, 1) := by decide +kernel
theorem dX5_savedByTurn_6 : decode cX5_savedByTurn 6 = .ok (.getfield 27, 3) := by decide +kernel
theorem dX5_savedByTurn_9 : decode cX5_savedByTurn 9 = .ok (.iload_n 1, 1) := by decide +kernel
theorem dX5_savedByTurn_10 : decode cX5_savedByTurn 10 = .ok (.iconst 3, 1) := by decide +kernel
theorem dX5_savedByTurn_11 : decode cX5_savedByTurn 11 = .ok (.invokevirtual 58, 3) := by decide +kernel
theorem dX5_savedByTurn_14 : decode cX5_savedByTurn 14 = .ok (.iconst (-1), 1) := by decide +kernel
theorem dX5_savedByTurn_15 : decode cX5_savedByTurn 15 = .ok (.invokevirtual 112, 3) := by decide +kernel
theorem dX5_savedByTurn_18 : decode cX5_savedByTurn 18 = .ok (.istore_n 3, 1) := by decide +kernel
theorem dX5_savedByTurn_19 : decode cX5_savedByTurn 19 = .ok (.aload_n 0, 1) := by decide +kernel
theorem dX5_savedByTurn_20 : decode cX5_savedByTurn 20 = .ok (.getfield 27, 3) := by decide +kernel
theorem dX5_savedByTurn_23 : decode cX5_savedByTurn 23 = .ok (.iload_n 1, 1) := by decide +kernel
theorem dX5_savedByTurn_24 : decode cX5_savedByTurn 24 = .ok (.iload_n 2, 1) := by decide +kernel
theorem dX5_savedByTurn_25 : decode cX5_savedByTurn 25 = .ok (.iconst (-1), 1) := by decide +kernel
theorem dX5_savedByTurn_26 : decode cX5_savedByTurn 26 = .ok (.invokevirtual 112, 3) := by decide +kernel
theorem dX5_savedByTurn_29 : decode cX5_savedByTurn 29 = .ok (.istore 4, 2) := by decide +kernel
theorem dX5_savedByTurn_31 : decode cX5_savedByTurn 31 = .ok (.iconst 0, 1) := by decide +kernel
theorem dX5_savedByTurn_32 : decode cX5_savedByTurn 32 = .ok (.istore 5, 2) := by decide +kernel
theorem dX5_savedByTurn_34 : decode cX5_savedByTurn 34 = .ok (.iconst 0, 1) := by decide +kernel
theorem dX5_savedByTurn_35 : decode cX5_savedByTurn 35 = .ok (.istore 6, 2) := by decide +kernel
theorem dX5_savedByTurn_37 : decode cX5_savedByTurn 37 = .ok (.iload 6, 2) := by decide +kernel
theorem dX5_savedByTurn_39 : decode cX5_savedByTurn 39 = .ok (.aload_n 0, 1) := by decide +kernel
theorem dX5_savedByTurn_40 : decode cX5_savedByTurn 40 = .ok (.getfield 27, 3) := by decide +kernel
theorem dX5_savedByTurn_43 : decode cX5_savedByTurn 43 = .ok (.getfield 35, 3) := by decide +kernel
theorem dX5_savedByTurn_46 : decode cX5_savedByTurn 46 = .ok (.if_icmp .ge 32, 3) := by decide +kernel
theorem dX5_savedByTurn_49 : decode cX5_savedByTurn 49 = .ok (.iload 5, 2) := by decide +kernel
theorem dX5_savedByTurn_51 : decode cX5_savedByTurn 51 = .ok (.aload_n 0, 1) := by decide +kernel
theorem dX5_savedByTurn_52 : decode cX5_savedByTurn 52 = .ok (.iload 6, 2) := by decide +kernel
theorem dX5_savedByTurn_54 : decode cX5_savedByTurn 54 = .ok (.iload_n 1, 1) := by decide +kernel
theorem dX5_savedByTurn_55 : decode cX5_savedByTurn 55 = .ok (.iload_n 3, 1) := by decide +kernel
theorem dX5_savedByTurn_56 : decode cX5_savedByTurn 56 = .ok (.invokevirtual 115, 3) := by decide +kernel
theorem dX5_savedByTurn_59 : decode cX5_savedByTurn 59 = .ok (.aload_n 0, 1) := by decide +kernel
theorem dX5_savedByTurn_60 : decode cX5_savedByTurn 60 = .ok (.iload 6, 2) := by decide +kernel
theorem dX5_savedByTurn_62 : decode cX5_savedByTurn 62 = .ok (.iload_n 1, 1) := by decide +kernel
theorem dX5_savedByTurn_63 : decode cX5_savedByTurn 63 = .ok (.iload 4, 2) := by decide +kernel
theorem dX5_savedByTurn_65 : decode cX5_savedByTurn 65 = .ok (.invokevirtual 115, 3) := by decide +kernel
theorem dX5_savedByTurn_68 : decode cX5_savedByTurn 68 = .ok (.isub, 1) := by decide +kernel
theorem dX5_savedByTurn_69 : decode cX5_savedByTurn 69 = .ok (.iadd, 1) := by decide +kernel
theorem dX5_savedByTurn_70 : decode cX5_savedByTurn 70 = .ok (.istore 5, 2) := by decide +kernel
theorem dX5_savedByTurn_72 : decode cX5_savedByTurn 72 = .ok (.iinc 6 1, 3) := by decide +kernel
theorem dX5_savedByTurn_75 : decode cX5_savedByTurn 75 = .ok (.goto (-38), 3) := by decide +kernel
theorem dX5_savedByTurn_78 : decode cX5_savedByTurn 78 = .ok (.iload 5, 2) := by decide +kernel
theorem dX5_savedByTurn_80 : decode cX5_savedByTurn 80 = .ok (.ireturn, 1) := by decide +kernel
set_option maxRecDepth 20000 in
theorem wX5_savedByTurn_37_b {p : Program} {l : Launch} {e : Env} {s : State} {m : MethodId} {args : Array Value} {below : List Frame} {meth : Method} {c : Code} {Z : XG} {r : Int32} {S' : Mem} (E : XE p s m args meth c cX5_savedByTurn 7 RX5 (some .int) xL Z) (k0 : Mem → Int32 → Int32 → Int32 → Int32 → Int32 → O)  (hk0 : ∀ (S : Mem) (x1 x3 x4 x5 x6 : Int32), k0 S x1 x3 x4 x5 x6 = some (r, S') → WN p l e { frames := 4, cells := 0, slots := 0, locals := 99 } s m args below meth c xL Z (XQ xL Z r S') S 37 7 [(0, .ref (Z.2.1 32)), (1, .int x1), (3, .int x3), (4, .int x4), (5, .int x5), (6, .int x6)] []) : ∀ (S : Mem) (x1 x3 x4 x5 x6 : Int32), fX5_savedByTurn_37_b k0 S x1 x3 x4 x5 x6 = some (r, S') → WN p l e { frames := 4, cells := 0, slots := 0, locals := 99 } s m args below meth c xL Z (XQ xL Z r S') S 37 7 [(0, .ref (Z.2.1 32)), (1, .int x1), (3, .int x3), (4, .int x4), (5, .int x5), (6, .int x6)] [] := by
  obtain ⟨hx, hb, -, -, -, -, -, -, -, hQ⟩ := id E
  intro S x1 x3 x4 x5 x6 h H locs ls X hl
  unfold fX5_savedByTurn_37_b at h
  refine lv_iload hx hb dX5_savedByTurn_37 (lv_at hl 5 rfl) ?_
  refine lv_aload_n hx hb dX5_savedByTurn_39 rfl (lv_at hl 0 rfl) ?_
  refine x_getr E X ffX5_27 rfl rfl dX5_savedByTurn_40 ?_
  refine x_get E X ffX5_35 rfl rfl dX5_savedByTurn_43 ?_
  refine lv_icmp_ge (tgt := 78) hx hb dX5_savedByTurn_46 (by decide) (fun c_1 => ?_) (fun c_1 => ?_)
  · have h := if_t c_1 h
    refine lv_iload hx hb dX5_savedByTurn_78 (lv_at hl 4 rfl) ?_
    exact x_iret E X h dX5_savedByTurn_80
  · have h := if_f c_1 h
    refine lv_iload hx hb dX5_savedByTurn_49 (lv_at hl 4 rfl) ?_
    refine lv_aload_n hx hb dX5_savedByTurn_51 rfl (lv_at hl 0 rfl) ?_
    refine lv_iload hx hb dX5_savedByTurn_52 (lv_at hl 5 rfl) ?_
    refine lv_iload_n hx hb dX5_savedByTurn_54 rfl (lv_at hl 1 rfl) ?_
    refine lv_iload_n hx hb dX5_savedByTurn_55 rfl (lv_at hl 2 rfl) ?_
    obtain ⟨r_2, S_3, hr_2, h⟩ := bnd_s h
    refine x_callV E X cwX5_115 (mX5_burnOf l Z hQ  x6 x1 x3 hr_2) rfl rfl rfl rfl hl.1 rfl dX5_savedByTurn_56 (fun H locs X => ?_)
    refine lv_aload_n hx hb dX5_savedByTurn_59 rfl (lv_at hl 0 rfl) ?_
    refine lv_iload hx hb dX5_savedByTurn_60 (lv_at hl 5 rfl) ?_
    refine lv_iload_n hx hb dX5_savedByTurn_62 rfl (lv_at hl 1 rfl) ?_
    refine lv_iload hx hb dX5_savedByTurn_63 (lv_at hl 3 rfl) ?_
    obtain ⟨r_4, S_5, hr_4, h⟩ := bnd_s h
    refine x_callV E X cwX5_115 (mX5_burnOf l Z hQ  x6 x1 x4 hr_4) rfl rfl rfl rfl hl.1 rfl dX5_savedByTurn_65 (fun H locs X => ?_)
    refine lv_isub hx hb dX5_savedByTurn_68 ?_
    refine lv_iadd hx hb dX5_savedByTurn_69 ?_
    obtain ⟨x5_6, ex5_6, h⟩ := lti_s h
    refine lv_nm ex5_6 ?_
    refine lv_istore (lv' := [(5, .int x5_6), (0, .ref (Z.2.1 32)), (1, .int x1), (3, .int x3), (4, .int x4), (6, .int x6)]) hx hb dX5_savedByTurn_70 hl (by decide) rfl (fun ls hl => ?_)
    refine lv_iinc (v := (x6 + (1 : Int32))) (lv' := [(6, .int (x6 + (1 : Int32))), (5, .int x5_6), (0, .ref (Z.2.1 32)), (1, .int x1), (3, .int x3), (4, .int x4)]) hx hb dX5_savedByTurn_72 hl (k := 5) rfl rfl (by decide) rfl (fun ls hl => ?_)
    refine lv_goto (tgt := 37) hx hb dX5_savedByTurn_75 (by decide) ?_
    exact hk0 S_5 x1 x3 x4 x5_6 (x6 + (1 : Int32)) h _ _ _ X (lv_sub hl [2, 3, 4, 5, 1, 0] rfl)
theorem wX5_savedByTurn_37 {p : Program} {l : Launch} {e : Env} {s : State} {m : MethodId} {args : Array Value} {below : List Frame} {meth : Method} {c : Code} {Z : XG} {r : Int32} {S' : Mem} (E : XE p s m args meth c cX5_savedByTurn 7 RX5 (some .int) xL Z) : ∀ (n : Nat) (S : Mem) (x1 x3 x4 x5 x6 : Int32), fX5_savedByTurn_37 n S x1 x3 x4 x5 x6 = some (r, S') → WN p l e { frames := 4, cells := 0, slots := 0, locals := 99 } s m args below meth c xL Z (XQ xL Z r S') S 37 7 [(0, .ref (Z.2.1 32)), (1, .int x1), (3, .int x3), (4, .int x4), (5, .int x5), (6, .int x6)] [] := by
  intro n
  induction n with
  | zero => intro S x1 x3 x4 x5 x6 h; exact absurd (show (none : O) = some _ from h) (by simp)
  | succ n ih => intro S x1 x3 x4 x5 x6 h; exact wX5_savedByTurn_37_b E (fX5_savedByTurn_37 n) ih S x1 x3 x4 x5 x6 h
set_option maxRecDepth 20000 in
theorem wX5_savedByTurn {p : Program} {l : Launch} {e : Env} {s : State} {m : MethodId} {args : Array Value} {below : List Frame} {meth : Method} {c : Code} {Z : XG} {r : Int32} {S' : Mem} (E : XE p s m args meth c cX5_savedByTurn 7 RX5 (some .int) xL Z) : ∀ (S : Mem) (x1 x2 : Int32), fX5_savedByTurn  S x1 x2 = some (r, S') → WN p l e { frames := 4, cells := 0, slots := 0, locals := 99 } s m args below meth c xL Z (XQ xL Z r S') S 0 7 [(0, .ref (Z.2.1 32)), (1, .int x1), (2, .int x2)] [] := by
  obtain ⟨hx, hb, -, -, -, -, -, -, -, hQ⟩ := id E
  intro S x1 x2 h H locs ls X hl
  unfold fX5_savedByTurn at h
  refine lv_aload_n hx hb dX5_savedByTurn_0 rfl (lv_at hl 0 rfl) ?_
  refine x_getr E X ffX5_27 rfl rfl dX5_savedByTurn_1 ?_
  refine lv_iload_n hx hb dX5_savedByTurn_4 rfl (lv_at hl 1 rfl) ?_
  refine lv_aload_n hx hb dX5_savedByTurn_5 rfl (lv_at hl 0 rfl) ?_
  refine x_getr E X ffX5_27 rfl rfl dX5_savedByTurn_6 ?_
  refine lv_iload_n hx hb dX5_savedByTurn_9 rfl (lv_at hl 1 rfl) ?_
  refine lv_iconst (v := (3 : Int32)) hx hb dX5_savedByTurn_10 (by decide) ?_
  obtain ⟨r_1, S_2, hr_1, h⟩ := bnd_s h
  refine x_callV E X cwX5_58 (mX6_inHour l Z hQ  x1 (3 : Int32) hr_1) rfl rfl rfl rfl hl.1 rfl dX5_savedByTurn_11 (fun H locs X => ?_)
  refine lv_iconst (v := (-1 : Int32)) hx hb dX5_savedByTurn_14 (by decide) ?_
  obtain ⟨r_3, S_4, hr_3, h⟩ := bnd_s h
  refine x_callV E X cwX5_112 (mX6_shadeIn l Z hQ  x1 r_1 (-1 : Int32) hr_3) rfl rfl rfl rfl hl.1 rfl dX5_savedByTurn_15 (fun H locs X => ?_)
  refine lv_istore_n (lv' := [(3, .int r_3), (0, .ref (Z.2.1 32)), (1, .int x1), (2, .int x2)]) hx hb dX5_savedByTurn_18 rfl hl (by decide) rfl (fun ls hl => ?_)
  refine lv_aload_n hx hb dX5_savedByTurn_19 rfl (lv_at hl 1 rfl) ?_
  refine x_getr E X ffX5_27 rfl rfl dX5_savedByTurn_20 ?_
  refine lv_iload_n hx hb dX5_savedByTurn_23 rfl (lv_at hl 2 rfl) ?_
  refine lv_iload_n hx hb dX5_savedByTurn_24 rfl (lv_at hl 3 rfl) ?_
  refine lv_iconst (v := (-1 : Int32)) hx hb dX5_savedByTurn_25 (by decide) ?_
  obtain ⟨r_5, S_6, hr_5, h⟩ := bnd_s h
  refine x_callV E X cwX5_112 (mX6_shadeIn l Z hQ  x1 x2 (-1 : Int32) hr_5) rfl rfl rfl rfl hl.1 rfl dX5_savedByTurn_26 (fun H locs X => ?_)
  refine lv_istore (lv' := [(4, .int r_5), (3, .int r_3), (0, .ref (Z.2.1 32)), (1, .int x1), (2, .int x2)]) hx hb dX5_savedByTurn_29 hl (by decide) rfl (fun ls hl => ?_)
  refine lv_iconst (v := (0 : Int32)) hx hb dX5_savedByTurn_31 (by decide) ?_
  refine lv_istore (lv' := [(5, .int (0 : Int32)), (4, .int r_5), (3, .int r_3), (0, .ref (Z.2.1 32)), (1, .int x1), (2, .int x2)]) hx hb dX5_savedByTurn_32 hl (by decide) rfl (fun ls hl => ?_)
  refine lv_iconst (v := (0 : Int32)) hx hb dX5_savedByTurn_34 (by decide) ?_
  refine lv_istore (lv' := [(6, .int (0 : Int32)), (5, .int (0 : Int32)), (4, .int r_5), (3, .int r_3), (0, .ref (Z.2.1 32)), (1, .int x1), (2, .int x2)]) hx hb dX5_savedByTurn_35 hl (by decide) rfl (fun ls hl => ?_)
  exact wX5_savedByTurn_37 E   FU S_6 x1 r_3 r_5 (0 : Int32) (0 : Int32) h _ _ _ X (lv_sub hl [4, 5, 3, 2, 1, 0] rfl)
/-- SevenToAShadow$Thought.savedByTurn(II)I -/
theorem mX5_savedByTurn (l : Launch) (Z : XG) (hQ : wQ (List.length xL) Z) {S S' : Mem} {r : Int32} (x1 x2 : Int32) (h : fX5_savedByTurn S x1 x2 = some (r, S')) : XM l yX5_savedByTurn cX5_savedByTurn 7 (some .int) { frames := 4, cells := 0, slots := 0, locals := 99 } xL Z [.ref (Z.2.1 32), .int x1, .int x2] S (XQ xL Z r S') := by
  refine XM.of (own := RX5) (by decide +kernel) rfl rfl hQ (fun p e s m args below meth c E ls hl X => ?_)
  exact wX5_savedByTurn E S x1 x2 h _ _ _ X hl
def fX7_turn (S : Mem) (x1 x2 x3 : Int32) : O := bnd (fX7_isHour S x1) fun r_1 S_2 => (if r_1 = 0 then some ((-100000 : Int32), S_2) else (if x2 < 0 then some ((-100000 : Int32), S_2) else (if (7 : Int32) < x2 then some ((-100000 : Int32), S_2) else (if x3 < 0 then some ((-100000 : Int32), S_2) else (if x3 ≤ (1 : Int32) then (if x3 = 0 then bnd (fX5_savedByTurn S_2 x1 x2) fun r_11 S_12 => some (r_11, S_12) else bnd (fX5_gainersByTurn S_2 x1 x2) fun r_9 S_10 => some (r_9, S_10)) else some ((-100000 : Int32), S_2))))))
theorem dX7_turn_0 : decode cX7_turn 0 = .ok (.iload_n 1, 1) := by decide +kernel
theorem dX7_turn_1 : decode cX7_turn 1 = .ok (.invokestatic 53, 3) := by decide +kernel
theorem dX7_turn_4 : decode cX7_turn 4 = .ok (.ifCond .eq 22, 3) := by decide +kernel
theorem dX7_turn_7 : decode cX7_turn 7 = .ok (.iload_n 2, 1) := by decide +kernel
theorem dX7_turn_8 : decode cX7_turn 8 = .ok (.ifCond .lt 18, 3) := by decide +kernel
theorem dX7_turn_11 : decode cX7_turn 11 = .ok (.iload_n 2, 1) := by decide +kernel
theorem dX7_turn_12 : decode cX7_turn 12 = .ok (.bipush 7, 2) := by decide +kernel
theorem dX7_turn_14 : decode cX7_turn 14 = .ok (.if_icmp .gt 12, 3) := by decide +kernel
theorem dX7_turn_17 : decode cX7_turn 17 = .ok (.iload_n 3, 1) := by decide +kernel
theorem dX7_turn_18 : decode cX7_turn 18 = .ok (.ifCond .lt 8, 3) := by decide +kernel
theorem dX7_turn_21 : decode cX7_turn 21 = .ok (.iload_n 3, 1) := by decide +kernel
theorem dX7_turn_22 : decode cX7_turn 22 = .ok (.iconst 1, 1) := by decide +kernel
theorem dX7_turn_23 : decode cX7_turn 23 = .ok (.if_icmp .le 6, 3) := by decide +kernel
theorem dX7_turn_26 : decode cX7_turn 26 = .ok (.ldc 183, 2) := by decide +kernel
theorem dX7_turn_28 : decode cX7_turn 28 = .ok (.ireturn, 1) := by decide +kernel
theorem dX7_turn_29 : decode cX7_turn 29 = .ok (.iload_n 3, 1) := by decide +kernel
theorem dX7_turn_30 : decode cX7_turn 30 = .ok (.ifCond .ne 15, 3) := by decide +kernel
theorem dX7_turn_33 : decode cX7_turn 33 = .ok (.aload_n 0, 1) := by decide +kernel
theorem dX7_turn_34 : decode cX7_turn 34 = .ok (.getfield 38, 3) := by decide +kernel
theorem dX7_turn_37 : decode cX7_turn 37 = .ok (.iload_n 1, 1) := by decide +kernel
theorem dX7_turn_38 : decode cX7_turn 38 = .ok (.iload_n 2, 1) := by decide +kernel
theorem dX7_turn_39 : decode cX7_turn 39 = .ok (.invokevirtual 184, 3) := by decide +kernel
theorem dX7_turn_42 : decode cX7_turn 42 = .ok (.goto 12, 3) := by decide +kernel
theorem dX7_turn_45 : decode cX7_turn 45 = .ok (.aload_n 0, 1) := by decide +kernel
theorem dX7_turn_46 : decode cX7_turn 46 = .ok (.getfield 38, 3) := by decide +kernel
theorem dX7_turn_49 : decode cX7_turn 49 = .ok (.iload_n 1, 1) := by decide +kernel
theorem dX7_turn_50 : decode cX7_turn 50 = .ok (.iload_n 2, 1) := by decide +kernel
theorem dX7_turn_51 : decode cX7_turn 51 = .ok (.invokevirtual 187, 3) := by decide +kernel
theorem dX7_turn_54 : decode cX7_turn 54 = .ok (.ireturn, 1) := by decide +kernel
set_option maxRecDepth 20000 in
theorem wX7_turn {p : Program} {l : Launch} {e : Env} {s : State} {m : MethodId} {args : Array Value} {below : List Frame} {meth : Method} {c : Code} {Z : XG} {r : Int32} {S' : Mem} (E : XE p s m args meth c cX7_turn 4 RX7 (some .int) xL Z) : ∀ (S : Mem) (x1 x2 x3 : Int32), fX7_turn  S x1 x2 x3 = some (r, S') → WN p l e { frames := 5, cells := 0, slots := 0, locals := 125 } s m args below meth c xL Z (XQ xL Z r S') S 0 4 [(0, .ref (Z.2.1 0)), (1, .int x1), (2, .int x2), (3, .int x3)] [] := by
  obtain ⟨hx, hb, -, -, -, -, -, -, -, hQ⟩ := id E
  intro S x1 x2 x3 h H locs ls X hl
  unfold fX7_turn at h
  refine lv_iload_n hx hb dX7_turn_0 rfl (lv_at hl 1 rfl) ?_
  obtain ⟨r_1, S_2, hr_1, h⟩ := bnd_s h
  refine x_callS E X cwX7_53 (mX7_isHour l Z hQ  x1 hr_1) rfl rfl hl.1 rfl dX7_turn_1 (fun H locs X => ?_)
  refine lv_if_eq (tgt := 26) hx hb dX7_turn_4 (by decide) (fun c_3 => ?_) (fun c_3 => ?_)
  · have h := if_t c_3 h
    refine x_ldc E csX7_183 dX7_turn_26 ?_
    exact x_iret E X h dX7_turn_28
  · have h := if_f c_3 h
    refine lv_iload_n hx hb dX7_turn_7 rfl (lv_at hl 2 rfl) ?_
    refine lv_if_lt (tgt := 26) hx hb dX7_turn_8 (by decide) (fun c_4 => ?_) (fun c_4 => ?_)
    · have h := if_t c_4 h
      refine x_ldc E csX7_183 dX7_turn_26 ?_
      exact x_iret E X h dX7_turn_28
    · have h := if_f c_4 h
      refine lv_iload_n hx hb dX7_turn_11 rfl (lv_at hl 2 rfl) ?_
      refine lv_bipush (v := (7 : Int32)) hx hb dX7_turn_12 (by decide) ?_
      refine lv_icmp_gt (tgt := 26) hx hb dX7_turn_14 (by decide) (fun c_5 => ?_) (fun c_5 => ?_)
      · have h := if_t c_5 h
        refine x_ldc E csX7_183 dX7_turn_26 ?_
        exact x_iret E X h dX7_turn_28
      · have h := if_f c_5 h
        refine lv_iload_n hx hb dX7_turn_17 rfl (lv_at hl 3 rfl) ?_
        refine lv_if_lt (tgt := 26) hx hb dX7_turn_18 (by decide) (fun c_6 => ?_) (fun c_6 => ?_)
        · have h := if_t c_6 h
          refine x_ldc E csX7_183 dX7_turn_26 ?_
          exact x_iret E X h dX7_turn_28
        · have h := if_f c_6 h
          refine lv_iload_n hx hb dX7_turn_21 rfl (lv_at hl 3 rfl) ?_
          refine lv_iconst (v := (1 : Int32)) hx hb dX7_turn_22 (by decide) ?_
          refine lv_icmp_le (tgt := 29) hx hb dX7_turn_23 (by decide) (fun c_7 => ?_) (fun c_7 => ?_)
          · have h := if_t c_7 h
            refine lv_iload_n hx hb dX7_turn_29 rfl (lv_at hl 3 rfl) ?_
            refine lv_if_ne (tgt := 45) hx hb dX7_turn_30 (by decide) (fun c_8 => ?_) (fun c_8 => ?_)
            · have h := if_f c_8 h
              refine lv_aload_n hx hb dX7_turn_45 rfl (lv_at hl 0 rfl) ?_
              refine x_getr E X ffX7_38 rfl rfl dX7_turn_46 ?_
              refine lv_iload_n hx hb dX7_turn_49 rfl (lv_at hl 1 rfl) ?_
              refine lv_iload_n hx hb dX7_turn_50 rfl (lv_at hl 2 rfl) ?_
              obtain ⟨r_9, S_10, hr_9, h⟩ := bnd_s h
              refine x_callV E X cwX7_187 (mX5_gainersByTurn l Z hQ  x1 x2 hr_9) rfl rfl rfl rfl hl.1 rfl dX7_turn_51 (fun H locs X => ?_)
              exact x_iret E X h dX7_turn_54
            · have h := if_t c_8 h
              refine lv_aload_n hx hb dX7_turn_33 rfl (lv_at hl 0 rfl) ?_
              refine x_getr E X ffX7_38 rfl rfl dX7_turn_34 ?_
              refine lv_iload_n hx hb dX7_turn_37 rfl (lv_at hl 1 rfl) ?_
              refine lv_iload_n hx hb dX7_turn_38 rfl (lv_at hl 2 rfl) ?_
              obtain ⟨r_11, S_12, hr_11, h⟩ := bnd_s h
              refine x_callV E X cwX7_184 (mX5_savedByTurn l Z hQ  x1 x2 hr_11) rfl rfl rfl rfl hl.1 rfl dX7_turn_39 (fun H locs X => ?_)
              refine lv_goto (tgt := 54) hx hb dX7_turn_42 (by decide) ?_
              exact x_iret E X h dX7_turn_54
          · have h := if_f c_7 h
            refine x_ldc E csX7_183 dX7_turn_26 ?_
            exact x_iret E X h dX7_turn_28
/-- SevenToAShadow.turn(III)I -/
theorem mX7_turn (l : Launch) (Z : XG) (hQ : wQ (List.length xL) Z) {S S' : Mem} {r : Int32} (x1 x2 x3 : Int32) (h : fX7_turn S x1 x2 x3 = some (r, S')) : XM l yX7_turn cX7_turn 4 (some .int) { frames := 5, cells := 0, slots := 0, locals := 125 } xL Z [.ref (Z.2.1 0), .int x1, .int x2, .int x3] S (XQ xL Z r S') := by
  refine XM.of (own := RX7) (by decide +kernel) rfl rfl hQ (fun p e s m args below meth c E ls hl X => ?_)
  exact wX7_turn E S x1 x2 x3 h _ _ _ X hl
def fX5_hasRowAbove_4_b (k0 : Mem → Int32 → Int32 → Int32 → O) (S : Mem) (x1 x2 x3 : Int32) : O := (if x1 ≤ x3 then (if x2 = 0 then some ((0 : Int32), S) else some ((1 : Int32), S)) else lti (x2 &&& (x2 >>> ((1 : Int32) &&& 31))) fun x2_3 => k0 S x1 x2_3 (x3 + (1 : Int32)))
def fX5_hasRowAbove_4 : Nat → Mem → Int32 → Int32 → Int32 → O
  | 0 => fun _ _ _ _ => none
  | n + 1 => fX5_hasRowAbove_4_b (fX5_hasRowAbove_4 n)
def fX5_hasRowAbove (S : Mem) (x0 x1 : Int32) : O := fX5_hasRowAbove_4  FU S x1 x0 (0 : Int32)
theorem dX5_hasRowAbove_0 : decode cX5_hasRowAbove 0 = .ok (.iload_n 0, 1) := by decide +kernel
theorem dX5_hasRowAbove_1 : decode cX5_hasRowAbove 1 = .ok (.istore_n 2, 1) := by decide +kernel
theorem dX5_hasRowAbove_2 : decode cX5_hasRowAbove 2 = .ok (.iconst 0, 1) := by decide +kernel
theorem dX5_hasRowAbove_3 : decode cX5_hasRowAbove 3 = .ok (.istore_n 3, 1) := by decide +kernel
theorem dX5_hasRowAbove_4 : decode cX5_hasRowAbove 4 = .ok (.iload_n 3, 1) := by decide +kernel
theorem dX5_hasRowAbove_5 : decode cX5_hasRowAbove 5 = .ok (.iload_n 1, 1) := by decide +kernel
theorem dX5_hasRowAbove_6 : decode cX5_hasRowAbove 6 = .ok (.if_icmp .ge 15, 3) := by decide +kernel
theorem dX5_hasRowAbove_9 : decode cX5_hasRowAbove 9 = .ok (.iload_n 2, 1) := by decide +kernel
theorem dX5_hasRowAbove_10 : decode cX5_hasRowAbove 10 = .ok (.iload_n 2, 1) := by decide +kernel
theorem dX5_hasRowAbove_11 : decode cX5_hasRowAbove 11 = .ok (.iconst 1, 1) := by decide +kernel
theorem dX5_hasRowAbove_12 : decode cX5_hasRowAbove 12 = .ok (.ishr, 1) := by decide +kernel
theorem dX5_hasRowAbove_13 : decode cX5_hasRowAbove 13 = .ok (.iand, 1) := by decide +kernel
theorem dX5_hasRowAbove_14 : decode cX5_hasRowAbove 14 = .ok (.istore_n 2, 1) := by decide +kernel
theorem dX5_hasRowAbove_15 : decode cX5_hasRowAbove 15 = .ok (.iinc 3 1, 3) := by decide +kernel
theorem dX5_hasRowAbove_18 : decode cX5_hasRowAbove 18 = .ok (.goto (-14), 3) := by decide +kernel
theorem dX5_hasRowAbove_21 : decode cX5_hasRowAbove 21 = .ok (.iload_n 2, 1) := by decide +kernel
theorem dX5_hasRowAbove_22 : decode cX5_hasRowAbove 22 = .ok (.ifCond .eq 7, 3) := by decide +kernel
theorem dX5_hasRowAbove_25 : decode cX5_hasRowAbove 25 = .ok (.iconst 1, 1) := by decide +kernel
theorem dX5_hasRowAbove_26 : decode cX5_hasRowAbove 26 = .ok (.goto 4, 3) := by decide +kernel
theorem dX5_hasRowAbove_29 : decode cX5_hasRowAbove 29 = .ok (.iconst 0, 1) := by decide +kernel
theorem dX5_hasRowAbove_30 : decode cX5_hasRowAbove 30 = .ok (.ireturn, 1) := by decide +kernel
set_option maxRecDepth 20000 in
theorem wX5_hasRowAbove_4_b {p : Program} {l : Launch} {e : Env} {s : State} {m : MethodId} {args : Array Value} {below : List Frame} {meth : Method} {c : Code} {Z : XG} {r : Int32} {S' : Mem} (E : XE p s m args meth c cX5_hasRowAbove 4 RX5 (some .boolean) xL Z) (k0 : Mem → Int32 → Int32 → Int32 → O)  (hk0 : ∀ (S : Mem) (x1 x2 x3 : Int32), k0 S x1 x2 x3 = some (r, S') → WN p l e { frames := 0, cells := 0, slots := 0, locals := 0 } s m args below meth c xL Z (XQ xL Z r S') S 4 4 [(1, .int x1), (2, .int x2), (3, .int x3)] []) : ∀ (S : Mem) (x1 x2 x3 : Int32), fX5_hasRowAbove_4_b k0 S x1 x2 x3 = some (r, S') → WN p l e { frames := 0, cells := 0, slots := 0, locals := 0 } s m args below meth c xL Z (XQ xL Z r S') S 4 4 [(1, .int x1), (2, .int x2), (3, .int x3)] [] := by
  obtain ⟨hx, hb, -, -, -, -, -, -, -, hQ⟩ := id E
  intro S x1 x2 x3 h H locs ls X hl
  unfold fX5_hasRowAbove_4_b at h
  refine lv_iload_n hx hb dX5_hasRowAbove_4 rfl (lv_at hl 2 rfl) ?_
  refine lv_iload_n hx hb dX5_hasRowAbove_5 rfl (lv_at hl 0 rfl) ?_
  refine lv_icmp_ge (tgt := 21) hx hb dX5_hasRowAbove_6 (by decide) (fun c_1 => ?_) (fun c_1 => ?_)
  · have h := if_t c_1 h
    refine lv_iload_n hx hb dX5_hasRowAbove_21 rfl (lv_at hl 1 rfl) ?_
    refine lv_if_eq (tgt := 29) hx hb dX5_hasRowAbove_22 (by decide) (fun c_2 => ?_) (fun c_2 => ?_)
    · have h := if_t c_2 h
      refine lv_iconst (v := (0 : Int32)) hx hb dX5_hasRowAbove_29 (by decide) ?_
      exact x_zret E X rfl h dX5_hasRowAbove_30
    · have h := if_f c_2 h
      refine lv_iconst (v := (1 : Int32)) hx hb dX5_hasRowAbove_25 (by decide) ?_
      refine lv_goto (tgt := 30) hx hb dX5_hasRowAbove_26 (by decide) ?_
      exact x_zret E X rfl h dX5_hasRowAbove_30
  · have h := if_f c_1 h
    refine lv_iload_n hx hb dX5_hasRowAbove_9 rfl (lv_at hl 1 rfl) ?_
    refine lv_iload_n hx hb dX5_hasRowAbove_10 rfl (lv_at hl 1 rfl) ?_
    refine lv_iconst (v := (1 : Int32)) hx hb dX5_hasRowAbove_11 (by decide) ?_
    refine lv_ishr hx hb dX5_hasRowAbove_12 ?_
    refine lv_iand hx hb dX5_hasRowAbove_13 ?_
    obtain ⟨x2_3, ex2_3, h⟩ := lti_s h
    refine lv_nm ex2_3 ?_
    refine lv_istore_n (lv' := [(2, .int x2_3), (1, .int x1), (3, .int x3)]) hx hb dX5_hasRowAbove_14 rfl hl (by decide) rfl (fun ls hl => ?_)
    refine lv_iinc (v := (x3 + (1 : Int32))) (lv' := [(3, .int (x3 + (1 : Int32))), (2, .int x2_3), (1, .int x1)]) hx hb dX5_hasRowAbove_15 hl (k := 2) rfl rfl (by decide) rfl (fun ls hl => ?_)
    refine lv_goto (tgt := 4) hx hb dX5_hasRowAbove_18 (by decide) ?_
    exact hk0 S x1 x2_3 (x3 + (1 : Int32)) h _ _ _ X (lv_sub hl [2, 1, 0] rfl)
theorem wX5_hasRowAbove_4 {p : Program} {l : Launch} {e : Env} {s : State} {m : MethodId} {args : Array Value} {below : List Frame} {meth : Method} {c : Code} {Z : XG} {r : Int32} {S' : Mem} (E : XE p s m args meth c cX5_hasRowAbove 4 RX5 (some .boolean) xL Z) : ∀ (n : Nat) (S : Mem) (x1 x2 x3 : Int32), fX5_hasRowAbove_4 n S x1 x2 x3 = some (r, S') → WN p l e { frames := 0, cells := 0, slots := 0, locals := 0 } s m args below meth c xL Z (XQ xL Z r S') S 4 4 [(1, .int x1), (2, .int x2), (3, .int x3)] [] := by
  intro n
  induction n with
  | zero => intro S x1 x2 x3 h; exact absurd (show (none : O) = some _ from h) (by simp)
  | succ n ih => intro S x1 x2 x3 h; exact wX5_hasRowAbove_4_b E (fX5_hasRowAbove_4 n) ih S x1 x2 x3 h
set_option maxRecDepth 20000 in
theorem wX5_hasRowAbove {p : Program} {l : Launch} {e : Env} {s : State} {m : MethodId} {args : Array Value} {below : List Frame} {meth : Method} {c : Code} {Z : XG} {r : Int32} {S' : Mem} (E : XE p s m args meth c cX5_hasRowAbove 4 RX5 (some .boolean) xL Z) : ∀ (S : Mem) (x0 x1 : Int32), fX5_hasRowAbove  S x0 x1 = some (r, S') → WN p l e { frames := 0, cells := 0, slots := 0, locals := 0 } s m args below meth c xL Z (XQ xL Z r S') S 0 4 [(0, .int x0), (1, .int x1)] [] := by
  obtain ⟨hx, hb, -, -, -, -, -, -, -, hQ⟩ := id E
  intro S x0 x1 h H locs ls X hl
  unfold fX5_hasRowAbove at h
  refine lv_iload_n hx hb dX5_hasRowAbove_0 rfl (lv_at hl 0 rfl) ?_
  refine lv_istore_n (lv' := [(2, .int x0), (0, .int x0), (1, .int x1)]) hx hb dX5_hasRowAbove_1 rfl hl (by decide) rfl (fun ls hl => ?_)
  refine lv_iconst (v := (0 : Int32)) hx hb dX5_hasRowAbove_2 (by decide) ?_
  refine lv_istore_n (lv' := [(3, .int (0 : Int32)), (2, .int x0), (0, .int x0), (1, .int x1)]) hx hb dX5_hasRowAbove_3 rfl hl (by decide) rfl (fun ls hl => ?_)
  exact wX5_hasRowAbove_4 E   FU S x1 x0 (0 : Int32) h _ _ _ X (lv_sub hl [3, 1, 0] rfl)
/-- SevenToAShadow$Thought.hasRowAbove(II)Z -/
theorem mX5_hasRowAbove (l : Launch) (Z : XG) (hQ : wQ (List.length xL) Z) {S S' : Mem} {r : Int32} (x0 x1 : Int32) (h : fX5_hasRowAbove S x0 x1 = some (r, S')) : XM l yX5_hasRowAbove cX5_hasRowAbove 4 (some .boolean) { frames := 0, cells := 0, slots := 0, locals := 0 } xL Z [.int x0, .int x1] S (XQ xL Z r S') := by
  refine XM.of (own := RX5) (by decide +kernel) rfl rfl hQ (fun p e s m args below meth c E ls hl X => ?_)
  exact wX5_hasRowAbove E S x0 x1 h _ _ _ X hl
def fX5_hoursOf_28 (k0 : Mem → Int32 → Int32 → Int32 → O) (S : Mem) (x0 x1 x2 : Int32) : O := k0 S x0 x1 (x2 + (1 : Int32))
def fX5_hoursOf_4_b (k0 : Mem → Int32 → Int32 → Int32 → O) (S : Mem) (x0 x1 x2 : Int32) : O := (if (12 : Int32) ≤ x2 then some (x1, S) else (if ((x0 >>> (((11 : Int32) - x2) &&& 31)) &&& (1 : Int32)) = (1 : Int32) then lti (x1 ||| ((1 : Int32) <<< (x2 &&& 31))) fun x1_3 => fX5_hoursOf_28 k0 S x0 x1_3 x2 else fX5_hoursOf_28 k0 S x0 x1 x2))
def fX5_hoursOf_4 : Nat → Mem → Int32 → Int32 → Int32 → O
  | 0 => fun _ _ _ _ => none
  | n + 1 => fX5_hoursOf_4_b (fX5_hoursOf_4 n)
def fX5_hoursOf (S : Mem) (x0 : Int32) : O := fX5_hoursOf_4  FU S x0 (0 : Int32) (0 : Int32)
theorem dX5_hoursOf_0 : decode cX5_hoursOf 0 = .ok (.iconst 0, 1) := by decide +kernel
theorem dX5_hoursOf_1 : decode cX5_hoursOf 1 = .ok (.istore_n 1, 1) := by decide +kernel
theorem dX5_hoursOf_2 : decode cX5_hoursOf 2 = .ok (.iconst 0, 1) := by decide +kernel
theorem dX5_hoursOf_3 : decode cX5_hoursOf 3 = .ok (.istore_n 2, 1) := by decide +kernel
theorem dX5_hoursOf_4 : decode cX5_hoursOf 4 = .ok (.iload_n 2, 1) := by decide +kernel
theorem dX5_hoursOf_5 : decode cX5_hoursOf 5 = .ok (.bipush 12, 2) := by decide +kernel
theorem dX5_hoursOf_7 : decode cX5_hoursOf 7 = .ok (.if_icmp .ge 27, 3) := by decide +kernel
theorem dX5_hoursOf_10 : decode cX5_hoursOf 10 = .ok (.iload_n 0, 1) := by decide +kernel
theorem dX5_hoursOf_11 : decode cX5_hoursOf 11 = .ok (.bipush 11, 2) := by decide +kernel
theorem dX5_hoursOf_13 : decode cX5_hoursOf 13 = .ok (.iload_n 2, 1) := by decide +kernel
theorem dX5_hoursOf_14 : decode cX5_hoursOf 14 = .ok (.isub, 1) := by decide +kernel
theorem dX5_hoursOf_15 : decode cX5_hoursOf 15 = .ok (.ishr, 1) := by decide +kernel
theorem dX5_hoursOf_16 : decode cX5_hoursOf 16 = .ok (.iconst 1, 1) := by decide +kernel
theorem dX5_hoursOf_17 : decode cX5_hoursOf 17 = .ok (.iand, 1) := by decide +kernel
theorem dX5_hoursOf_18 : decode cX5_hoursOf 18 = .ok (.iconst 1, 1) := by decide +kernel
theorem dX5_hoursOf_19 : decode cX5_hoursOf 19 = .ok (.if_icmp .ne 9, 3) := by decide +kernel
theorem dX5_hoursOf_22 : decode cX5_hoursOf 22 = .ok (.iload_n 1, 1) := by decide +kernel
theorem dX5_hoursOf_23 : decode cX5_hoursOf 23 = .ok (.iconst 1, 1) := by decide +kernel
theorem dX5_hoursOf_24 : decode cX5_hoursOf 24 = .ok (.iload_n 2, 1) := by decide +kernel
theorem dX5_hoursOf_25 : decode cX5_hoursOf 25 = .ok (.ishl, 1) := by decide +kernel
theorem dX5_hoursOf_26 : decode cX5_hoursOf 26 = .ok (.ior, 1) := by decide +kernel
theorem dX5_hoursOf_27 : decode cX5_hoursOf 27 = .ok (.istore_n 1, 1) := by decide +kernel
theorem dX5_hoursOf_28 : decode cX5_hoursOf 28 = .ok (.iinc 2 1, 3) := by decide +kernel
theorem dX5_hoursOf_31 : decode cX5_hoursOf 31 = .ok (.goto (-27), 3) := by decide +kernel
theorem dX5_hoursOf_34 : decode cX5_hoursOf 34 = .ok (.iload_n 1, 1) := by decide +kernel
theorem dX5_hoursOf_35 : decode cX5_hoursOf 35 = .ok (.ireturn, 1) := by decide +kernel
set_option maxRecDepth 20000 in
theorem wX5_hoursOf_28 {p : Program} {l : Launch} {e : Env} {s : State} {m : MethodId} {args : Array Value} {below : List Frame} {meth : Method} {c : Code} {Z : XG} {r : Int32} {S' : Mem} (E : XE p s m args meth c cX5_hoursOf 3 RX5 (some .int) xL Z) (k0 : Mem → Int32 → Int32 → Int32 → O)  (hk0 : ∀ (S : Mem) (x0 x1 x2 : Int32), k0 S x0 x1 x2 = some (r, S') → WN p l e { frames := 0, cells := 0, slots := 0, locals := 0 } s m args below meth c xL Z (XQ xL Z r S') S 4 3 [(0, .int x0), (1, .int x1), (2, .int x2)] []) : ∀ (S : Mem) (x0 x1 x2 : Int32), fX5_hoursOf_28 k0 S x0 x1 x2 = some (r, S') → WN p l e { frames := 0, cells := 0, slots := 0, locals := 0 } s m args below meth c xL Z (XQ xL Z r S') S 28 3 [(0, .int x0), (1, .int x1), (2, .int x2)] [] := by
  obtain ⟨hx, hb, -, -, -, -, -, -, -, hQ⟩ := id E
  intro S x0 x1 x2 h H locs ls X hl
  unfold fX5_hoursOf_28 at h
  refine lv_iinc (v := (x2 + (1 : Int32))) (lv' := [(2, .int (x2 + (1 : Int32))), (0, .int x0), (1, .int x1)]) hx hb dX5_hoursOf_28 hl (k := 2) rfl rfl (by decide) rfl (fun ls hl => ?_)
  refine lv_goto (tgt := 4) hx hb dX5_hoursOf_31 (by decide) ?_
  exact hk0 S x0 x1 (x2 + (1 : Int32)) h _ _ _ X (lv_sub hl [1, 2, 0] rfl)
set_option maxRecDepth 20000 in
theorem wX5_hoursOf_4_b {p : Program} {l : Launch} {e : Env} {s : State} {m : MethodId} {args : Array Value} {below : List Frame} {meth : Method} {c : Code} {Z : XG} {r : Int32} {S' : Mem} (E : XE p s m args meth c cX5_hoursOf 3 RX5 (some .int) xL Z) (k0 : Mem → Int32 → Int32 → Int32 → O)  (hk0 : ∀ (S : Mem) (x0 x1 x2 : Int32), k0 S x0 x1 x2 = some (r, S') → WN p l e { frames := 0, cells := 0, slots := 0, locals := 0 } s m args below meth c xL Z (XQ xL Z r S') S 4 3 [(0, .int x0), (1, .int x1), (2, .int x2)] []) : ∀ (S : Mem) (x0 x1 x2 : Int32), fX5_hoursOf_4_b k0 S x0 x1 x2 = some (r, S') → WN p l e { frames := 0, cells := 0, slots := 0, locals := 0 } s m args below meth c xL Z (XQ xL Z r S') S 4 3 [(0, .int x0), (1, .int x1), (2, .int x2)] [] := by
  obtain ⟨hx, hb, -, -, -, -, -, -, -, hQ⟩ := id E
  intro S x0 x1 x2 h H locs ls X hl
  unfold fX5_hoursOf_4_b at h
  refine lv_iload_n hx hb dX5_hoursOf_4 rfl (lv_at hl 2 rfl) ?_
  refine lv_bipush (v := (12 : Int32)) hx hb dX5_hoursOf_5 (by decide) ?_
  refine lv_icmp_ge (tgt := 34) hx hb dX5_hoursOf_7 (by decide) (fun c_1 => ?_) (fun c_1 => ?_)
  · have h := if_t c_1 h
    refine lv_iload_n hx hb dX5_hoursOf_34 rfl (lv_at hl 1 rfl) ?_
    exact x_iret E X h dX5_hoursOf_35
  · have h := if_f c_1 h
    refine lv_iload_n hx hb dX5_hoursOf_10 rfl (lv_at hl 0 rfl) ?_
    refine lv_bipush (v := (11 : Int32)) hx hb dX5_hoursOf_11 (by decide) ?_
    refine lv_iload_n hx hb dX5_hoursOf_13 rfl (lv_at hl 2 rfl) ?_
    refine lv_isub hx hb dX5_hoursOf_14 ?_
    refine lv_ishr hx hb dX5_hoursOf_15 ?_
    refine lv_iconst (v := (1 : Int32)) hx hb dX5_hoursOf_16 (by decide) ?_
    refine lv_iand hx hb dX5_hoursOf_17 ?_
    refine lv_iconst (v := (1 : Int32)) hx hb dX5_hoursOf_18 (by decide) ?_
    refine lv_icmp_ne (tgt := 28) hx hb dX5_hoursOf_19 (by decide) (fun c_2 => ?_) (fun c_2 => ?_)
    · have h := if_f c_2 h
      exact wX5_hoursOf_28 E k0 hk0 S x0 x1 x2 h _ _ _ X hl
    · have h := if_t c_2 h
      refine lv_iload_n hx hb dX5_hoursOf_22 rfl (lv_at hl 1 rfl) ?_
      refine lv_iconst (v := (1 : Int32)) hx hb dX5_hoursOf_23 (by decide) ?_
      refine lv_iload_n hx hb dX5_hoursOf_24 rfl (lv_at hl 2 rfl) ?_
      refine lv_ishl hx hb dX5_hoursOf_25 ?_
      refine lv_ior hx hb dX5_hoursOf_26 ?_
      obtain ⟨x1_3, ex1_3, h⟩ := lti_s h
      refine lv_nm ex1_3 ?_
      refine lv_istore_n (lv' := [(1, .int x1_3), (0, .int x0), (2, .int x2)]) hx hb dX5_hoursOf_27 rfl hl (by decide) rfl (fun ls hl => ?_)
      exact wX5_hoursOf_28 E k0 hk0 S x0 x1_3 x2 h _ _ _ X (lv_sub hl [1, 0, 2] rfl)
theorem wX5_hoursOf_4 {p : Program} {l : Launch} {e : Env} {s : State} {m : MethodId} {args : Array Value} {below : List Frame} {meth : Method} {c : Code} {Z : XG} {r : Int32} {S' : Mem} (E : XE p s m args meth c cX5_hoursOf 3 RX5 (some .int) xL Z) : ∀ (n : Nat) (S : Mem) (x0 x1 x2 : Int32), fX5_hoursOf_4 n S x0 x1 x2 = some (r, S') → WN p l e { frames := 0, cells := 0, slots := 0, locals := 0 } s m args below meth c xL Z (XQ xL Z r S') S 4 3 [(0, .int x0), (1, .int x1), (2, .int x2)] [] := by
  intro n
  induction n with
  | zero => intro S x0 x1 x2 h; exact absurd (show (none : O) = some _ from h) (by simp)
  | succ n ih => intro S x0 x1 x2 h; exact wX5_hoursOf_4_b E (fX5_hoursOf_4 n) ih S x0 x1 x2 h
set_option maxRecDepth 20000 in
theorem wX5_hoursOf {p : Program} {l : Launch} {e : Env} {s : State} {m : MethodId} {args : Array Value} {below : List Frame} {meth : Method} {c : Code} {Z : XG} {r : Int32} {S' : Mem} (E : XE p s m args meth c cX5_hoursOf 3 RX5 (some .int) xL Z) : ∀ (S : Mem) (x0 : Int32), fX5_hoursOf  S x0 = some (r, S') → WN p l e { frames := 0, cells := 0, slots := 0, locals := 0 } s m args below meth c xL Z (XQ xL Z r S') S 0 3 [(0, .int x0)] [] := by
  obtain ⟨hx, hb, -, -, -, -, -, -, -, hQ⟩ := id E
  intro S x0 h H locs ls X hl
  unfold fX5_hoursOf at h
  refine lv_iconst (v := (0 : Int32)) hx hb dX5_hoursOf_0 (by decide) ?_
  refine lv_istore_n (lv' := [(1, .int (0 : Int32)), (0, .int x0)]) hx hb dX5_hoursOf_1 rfl hl (by decide) rfl (fun ls hl => ?_)
  refine lv_iconst (v := (0 : Int32)) hx hb dX5_hoursOf_2 (by decide) ?_
  refine lv_istore_n (lv' := [(2, .int (0 : Int32)), (1, .int (0 : Int32)), (0, .int x0)]) hx hb dX5_hoursOf_3 rfl hl (by decide) rfl (fun ls hl => ?_)
  exact wX5_hoursOf_4 E   FU S x0 (0 : Int32) (0 : Int32) h _ _ _ X (lv_sub hl [2, 1, 0] rfl)
/-- SevenToAShadow$Thought.hoursOf(I)I -/
theorem mX5_hoursOf (l : Launch) (Z : XG) (hQ : wQ (List.length xL) Z) {S S' : Mem} {r : Int32} (x0 : Int32) (h : fX5_hoursOf S x0 = some (r, S')) : XM l yX5_hoursOf cX5_hoursOf 3 (some .int) { frames := 0, cells := 0, slots := 0, locals := 0 } xL Z [.int x0] S (XQ xL Z r S') := by
  refine XM.of (own := RX5) (by decide +kernel) rfl rfl hQ (fun p e s m args below meth c E ls hl X => ?_)
  exact wX5_hoursOf E S x0 h _ _ _ X hl
def fX5_heatOf_31 (k0 : Mem → Int32 → Int32 → Int32 → O) (S : Mem) (x1 x2 x3 : Int32) : O := k0 S x1 x2 (x3 + (1 : Int32))
def fX5_heatOf_4_b (k0 : Mem → Int32 → Int32 → Int32 → O) (S : Mem) (x1 x2 x3 : Int32) : O := (if (12 : Int32) ≤ x3 then some (x2, S) else (if ((x1 >>> (x3 &&& 31)) &&& (1 : Int32)) = (1 : Int32) then bnd (fX6_inHour S x3 (2 : Int32)) fun r_3 S_4 => lti (x2 + r_3) fun x2_5 => fX5_heatOf_31 k0 S_4 x1 x2_5 x3 else fX5_heatOf_31 k0 S x1 x2 x3))
def fX5_heatOf_4 : Nat → Mem → Int32 → Int32 → Int32 → O
  | 0 => fun _ _ _ _ => none
  | n + 1 => fX5_heatOf_4_b (fX5_heatOf_4 n)
def fX5_heatOf (S : Mem) (x1 : Int32) : O := fX5_heatOf_4  FU S x1 (0 : Int32) (0 : Int32)
theorem dX5_heatOf_0 : decode cX5_heatOf 0 = .ok (.iconst 0, 1) := by decide +kernel
theorem dX5_heatOf_1 : decode cX5_heatOf 1 = .ok (.istore_n 2, 1) := by decide +kernel
theorem dX5_heatOf_2 : decode cX5_heatOf 2 = .ok (.iconst 0, 1) := by decide +kernel
theorem dX5_heatOf_3 : decode cX5_heatOf 3 = .ok (.istore_n 3, 1) := by decide +kernel
theorem dX5_heatOf_4 : decode cX5_heatOf 4 = .ok (.iload_n 3, 1) := by decide +kernel
theorem dX5_heatOf_5 : decode cX5_heatOf 5 = .ok (.bipush 12, 2) := by decide +kernel
theorem dX5_heatOf_7 : decode cX5_heatOf 7 = .ok (.if_icmp .ge 30, 3) := by decide +kernel
theorem dX5_heatOf_10 : decode cX5_heatOf 10 = .ok (.iload_n 1, 1) := by decide +kernel
theorem dX5_heatOf_11 : decode cX5_heatOf 11 = .ok (.iload_n 3, 1) := by decide +kernel
theorem dX5_heatOf_12 : decode cX5_heatOf 12 = .ok (.ishr, 1) := by decide +kernel
theorem dX5_heatOf_13 : decode cX5_heatOf 13 = .ok (.iconst 1, 1) := by decide +kernel
theorem dX5_heatOf_14 : decode cX5_heatOf 14 = .ok (.iand, 1) := by decide +kernel
theorem dX5_heatOf_15 : decode cX5_heatOf 15 = .ok (.iconst 1, 1) := by decide +kernel
theorem dX5_heatOf_16 : decode cX5_heatOf 16 = .ok (.if_icmp .ne 15, 3) := by decide +kernel
theorem dX5_heatOf_19 : decode cX5_heatOf 19 = .ok (.iload_n 2, 1) := by decide +kernel
theorem dX5_heatOf_20 : decode cX5_heatOf 20 = .ok (.aload_n 0, 1) := by decide +kernel
theorem dX5_heatOf_21 : decode cX5_heatOf 21 = .ok (.getfield 27, 3) := by decide +kernel
theorem dX5_heatOf_24 : decode cX5_heatOf 24 = .ok (.iload_n 3, 1) := by decide +kernel
theorem dX5_heatOf_25 : decode cX5_heatOf 25 = .ok (.iconst 2, 1) := by decide +kernel
theorem dX5_heatOf_26 : decode cX5_heatOf 26 = .ok (.invokevirtual 58, 3) := by decide +kernel
theorem dX5_heatOf_29 : decode cX5_heatOf 29 = .ok (.iadd, 1) := by decide +kernel
theorem dX5_heatOf_30 : decode cX5_heatOf 30 = .ok (.istore_n 2, 1) := by decide +kernel
theorem dX5_heatOf_31 : decode cX5_heatOf 31 = .ok (.iinc 3 1, 3) := by decide +kernel
theorem dX5_heatOf_34 : decode cX5_heatOf 34 = .ok (.goto (-30), 3) := by decide +kernel
theorem dX5_heatOf_37 : decode cX5_heatOf 37 = .ok (.iload_n 2, 1) := by decide +kernel
theorem dX5_heatOf_38 : decode cX5_heatOf 38 = .ok (.ireturn, 1) := by decide +kernel
set_option maxRecDepth 20000 in
theorem wX5_heatOf_31 {p : Program} {l : Launch} {e : Env} {s : State} {m : MethodId} {args : Array Value} {below : List Frame} {meth : Method} {c : Code} {Z : XG} {r : Int32} {S' : Mem} (E : XE p s m args meth c cX5_heatOf 4 RX5 (some .int) xL Z) (k0 : Mem → Int32 → Int32 → Int32 → O)  (hk0 : ∀ (S : Mem) (x1 x2 x3 : Int32), k0 S x1 x2 x3 = some (r, S') → WN p l e { frames := 1, cells := 0, slots := 0, locals := 22 } s m args below meth c xL Z (XQ xL Z r S') S 4 4 [(0, .ref (Z.2.1 32)), (1, .int x1), (2, .int x2), (3, .int x3)] []) : ∀ (S : Mem) (x1 x2 x3 : Int32), fX5_heatOf_31 k0 S x1 x2 x3 = some (r, S') → WN p l e { frames := 1, cells := 0, slots := 0, locals := 22 } s m args below meth c xL Z (XQ xL Z r S') S 31 4 [(0, .ref (Z.2.1 32)), (1, .int x1), (2, .int x2), (3, .int x3)] [] := by
  obtain ⟨hx, hb, -, -, -, -, -, -, -, hQ⟩ := id E
  intro S x1 x2 x3 h H locs ls X hl
  unfold fX5_heatOf_31 at h
  refine lv_iinc (v := (x3 + (1 : Int32))) (lv' := [(3, .int (x3 + (1 : Int32))), (0, .ref (Z.2.1 32)), (1, .int x1), (2, .int x2)]) hx hb dX5_heatOf_31 hl (k := 3) rfl rfl (by decide) rfl (fun ls hl => ?_)
  refine lv_goto (tgt := 4) hx hb dX5_heatOf_34 (by decide) ?_
  exact hk0 S x1 x2 (x3 + (1 : Int32)) h _ _ _ X (lv_sub hl [1, 2, 3, 0] rfl)
set_option maxRecDepth 20000 in
theorem wX5_heatOf_4_b {p : Program} {l : Launch} {e : Env} {s : State} {m : MethodId} {args : Array Value} {below : List Frame} {meth : Method} {c : Code} {Z : XG} {r : Int32} {S' : Mem} (E : XE p s m args meth c cX5_heatOf 4 RX5 (some .int) xL Z) (k0 : Mem → Int32 → Int32 → Int32 → O)  (hk0 : ∀ (S : Mem) (x1 x2 x3 : Int32), k0 S x1 x2 x3 = some (r, S') → WN p l e { frames := 1, cells := 0, slots := 0, locals := 22 } s m args below meth c xL Z (XQ xL Z r S') S 4 4 [(0, .ref (Z.2.1 32)), (1, .int x1), (2, .int x2), (3, .int x3)] []) : ∀ (S : Mem) (x1 x2 x3 : Int32), fX5_heatOf_4_b k0 S x1 x2 x3 = some (r, S') → WN p l e { frames := 1, cells := 0, slots := 0, locals := 22 } s m args below meth c xL Z (XQ xL Z r S') S 4 4 [(0, .ref (Z.2.1 32)), (1, .int x1), (2, .int x2), (3, .int x3)] [] := by
  obtain ⟨hx, hb, -, -, -, -, -, -, -, hQ⟩ := id E
  intro S x1 x2 x3 h H locs ls X hl
  unfold fX5_heatOf_4_b at h
  refine lv_iload_n hx hb dX5_heatOf_4 rfl (lv_at hl 3 rfl) ?_
  refine lv_bipush (v := (12 : Int32)) hx hb dX5_heatOf_5 (by decide) ?_
  refine lv_icmp_ge (tgt := 37) hx hb dX5_heatOf_7 (by decide) (fun c_1 => ?_) (fun c_1 => ?_)
  · have h := if_t c_1 h
    refine lv_iload_n hx hb dX5_heatOf_37 rfl (lv_at hl 2 rfl) ?_
    exact x_iret E X h dX5_heatOf_38
  · have h := if_f c_1 h
    refine lv_iload_n hx hb dX5_heatOf_10 rfl (lv_at hl 1 rfl) ?_
    refine lv_iload_n hx hb dX5_heatOf_11 rfl (lv_at hl 3 rfl) ?_
    refine lv_ishr hx hb dX5_heatOf_12 ?_
    refine lv_iconst (v := (1 : Int32)) hx hb dX5_heatOf_13 (by decide) ?_
    refine lv_iand hx hb dX5_heatOf_14 ?_
    refine lv_iconst (v := (1 : Int32)) hx hb dX5_heatOf_15 (by decide) ?_
    refine lv_icmp_ne (tgt := 31) hx hb dX5_heatOf_16 (by decide) (fun c_2 => ?_) (fun c_2 => ?_)
    · have h := if_f c_2 h
      exact wX5_heatOf_31 E k0 hk0 S x1 x2 x3 h _ _ _ X hl
    · have h := if_t c_2 h
      refine lv_iload_n hx hb dX5_heatOf_19 rfl (lv_at hl 2 rfl) ?_
      refine lv_aload_n hx hb dX5_heatOf_20 rfl (lv_at hl 0 rfl) ?_
      refine x_getr E X ffX5_27 rfl rfl dX5_heatOf_21 ?_
      refine lv_iload_n hx hb dX5_heatOf_24 rfl (lv_at hl 3 rfl) ?_
      refine lv_iconst (v := (2 : Int32)) hx hb dX5_heatOf_25 (by decide) ?_
      obtain ⟨r_3, S_4, hr_3, h⟩ := bnd_s h
      refine x_callV E X cwX5_58 (mX6_inHour l Z hQ  x3 (2 : Int32) hr_3) rfl rfl rfl rfl hl.1 rfl dX5_heatOf_26 (fun H locs X => ?_)
      refine lv_iadd hx hb dX5_heatOf_29 ?_
      obtain ⟨x2_5, ex2_5, h⟩ := lti_s h
      refine lv_nm ex2_5 ?_
      refine lv_istore_n (lv' := [(2, .int x2_5), (0, .ref (Z.2.1 32)), (1, .int x1), (3, .int x3)]) hx hb dX5_heatOf_30 rfl hl (by decide) rfl (fun ls hl => ?_)
      exact wX5_heatOf_31 E k0 hk0 S_4 x1 x2_5 x3 h _ _ _ X (lv_sub hl [1, 2, 0, 3] rfl)
theorem wX5_heatOf_4 {p : Program} {l : Launch} {e : Env} {s : State} {m : MethodId} {args : Array Value} {below : List Frame} {meth : Method} {c : Code} {Z : XG} {r : Int32} {S' : Mem} (E : XE p s m args meth c cX5_heatOf 4 RX5 (some .int) xL Z) : ∀ (n : Nat) (S : Mem) (x1 x2 x3 : Int32), fX5_heatOf_4 n S x1 x2 x3 = some (r, S') → WN p l e { frames := 1, cells := 0, slots := 0, locals := 22 } s m args below meth c xL Z (XQ xL Z r S') S 4 4 [(0, .ref (Z.2.1 32)), (1, .int x1), (2, .int x2), (3, .int x3)] [] := by
  intro n
  induction n with
  | zero => intro S x1 x2 x3 h; exact absurd (show (none : O) = some _ from h) (by simp)
  | succ n ih => intro S x1 x2 x3 h; exact wX5_heatOf_4_b E (fX5_heatOf_4 n) ih S x1 x2 x3 h
set_option maxRecDepth 20000 in
theorem wX5_heatOf {p : Program} {l : Launch} {e : Env} {s : State} {m : MethodId} {args : Array Value} {below : List Frame} {meth : Method} {c : Code} {Z : XG} {r : Int32} {S' : Mem} (E : XE p s m args meth c cX5_heatOf 4 RX5 (some .int) xL Z) : ∀ (S : Mem) (x1 : Int32), fX5_heatOf  S x1 = some (r, S') → WN p l e { frames := 1, cells := 0, slots := 0, locals := 22 } s m args below meth c xL Z (XQ xL Z r S') S 0 4 [(0, .ref (Z.2.1 32)), (1, .int x1)] [] := by
  obtain ⟨hx, hb, -, -, -, -, -, -, -, hQ⟩ := id E
  intro S x1 h H locs ls X hl
  unfold fX5_heatOf at h
  refine lv_iconst (v := (0 : Int32)) hx hb dX5_heatOf_0 (by decide) ?_
  refine lv_istore_n (lv' := [(2, .int (0 : Int32)), (0, .ref (Z.2.1 32)), (1, .int x1)]) hx hb dX5_heatOf_1 rfl hl (by decide) rfl (fun ls hl => ?_)
  refine lv_iconst (v := (0 : Int32)) hx hb dX5_heatOf_2 (by decide) ?_
  refine lv_istore_n (lv' := [(3, .int (0 : Int32)), (2, .int (0 : Int32)), (0, .ref (Z.2.1 32)), (1, .int x1)]) hx hb dX5_heatOf_3 rfl hl (by decide) rfl (fun ls hl => ?_)
  exact wX5_heatOf_4 E   FU S x1 (0 : Int32) (0 : Int32) h _ _ _ X (lv_sub hl [2, 3, 1, 0] rfl)
/-- SevenToAShadow$Thought.heatOf(I)I -/
theorem mX5_heatOf (l : Launch) (Z : XG) (hQ : wQ (List.length xL) Z) {S S' : Mem} {r : Int32} (x1 : Int32) (h : fX5_heatOf S x1 = some (r, S')) : XM l yX5_heatOf cX5_heatOf 4 (some .int) { frames := 1, cells := 0, slots := 0, locals := 22 } xL Z [.ref (Z.2.1 32), .int x1] S (XQ xL Z r S') := by
  refine XM.of (own := RX5) (by decide +kernel) rfl rfl hQ (fun p e s m args below meth c E ls hl X => ?_)
  exact wX5_heatOf E S x1 h _ _ _ X hl
