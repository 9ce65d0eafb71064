def fX5_coolestHours_70 (k0 : Mem → Int32 → Int32 → Int32 → Int32 → Int32 → O) (S : Mem) (x1 x2 x3 x4 x5 : Int32) : O := k0 S x1 x2 x3 x4 (x5 + (-1 : Int32))
def fX5_coolestHours_63 (k0 : Mem → Int32 → Int32 → Int32 → Int32 → Int32 → O) (S : Mem) (x1 x2 x5 x6 x7 : Int32) : O := fX5_coolestHours_70 k0 S x1 x2 x6 x7 x5
def fX5_coolestHours_10_b (k0 : Mem → Int32 → Int32 → Int32 → Int32 → Int32 → O) (S : Mem) (x1 x2 x3 x4 x5 : Int32) : O := (if x5 < 0 then some (x3, S) else bnd (fJ6_bitCount S x5) fun r_2 S_3 => (if r_2 = x1 then bnd (fX5_hasRowAbove S_3 x5 x2) fun r_5 S_6 => (if r_5 = 0 then bnd (fX5_hoursOf S_6 x5) fun r_8 S_9 => bnd (fX5_heatOf S_9 r_8) fun r_10 S_11 => (if x3 = (-1 : Int32) then fX5_coolestHours_63 k0 S_11 x1 x2 x5 r_8 r_10 else (if x4 ≤ r_10 then fX5_coolestHours_70 k0 S_11 x1 x2 x3 x4 x5 else fX5_coolestHours_63 k0 S_11 x1 x2 x5 r_8 r_10)) else fX5_coolestHours_70 k0 S_6 x1 x2 x3 x4 x5) else fX5_coolestHours_70 k0 S_3 x1 x2 x3 x4 x5))
def fX5_coolestHours_10 : Nat → Mem → Int32 → Int32 → Int32 → Int32 → Int32 → O
  | 0 => fun _ _ _ _ _ _ => none
  | n + 1 => fX5_coolestHours_10_b (fX5_coolestHours_10 n)
def fX5_coolestHours (S : Mem) (x1 x2 : Int32) : O := fX5_coolestHours_10  FU S x1 x2 (-1 : Int32) (0 : Int32) (4095 : Int32)
theorem dX5_coolestHours_0 : decode cX5_coolestHours 0 = .ok (.iconst (-1), 1) := by decide +kernel
theorem dX5_coolestHours_1 : decode cX5_coolestHours 1 = .ok (.istore_n 3, 1) := by decide +kernel
theorem dX5_coolestHours_2 : decode cX5_coolestHours 2 = .ok (.iconst 0, 1) := by decide +kernel
theorem dX5_coolestHours_3 : decode cX5_coolestHours 3 = .ok (.istore 4, 2) := by decide +kernel
theorem dX5_coolestHours_5 : decode cX5_coolestHours 5 = .ok (.sipush 4095, 3) := by decide +kernel
theorem dX5_coolestHours_8 : decode cX5_coolestHours 8 = .ok (.istore 5, 2) := by decide +kernel
theorem dX5_coolestHours_10 : decode cX5_coolestHours 10 = .ok (.iload 5, 2) := by decide +kernel
theorem dX5_coolestHours_12 : decode cX5_coolestHours 12 = .ok (.ifCond .lt 64, 3) := by decide +kernel
theorem dX5_coolestHours_15 : decode cX5_coolestHours 15 = .ok (.iload 5, 2) := by decide +kernel
theorem dX5_coolestHours_17 : decode cX5_coolestHours 17 = .ok (.invokestatic 90, 3) := by decide +kernel
theorem dX5_coolestHours_20 : decode cX5_coolestHours 20 = .ok (.iload_n 1, 1) := by decide +kernel
theorem dX5_coolestHours_21 : decode cX5_coolestHours 21 = .ok (.if_icmp .ne 49, 3) := by decide +kernel
theorem dX5_coolestHours_24 : decode cX5_coolestHours 24 = .ok (.iload 5, 2) := by decide +kernel
theorem dX5_coolestHours_26 : decode cX5_coolestHours 26 = .ok (.iload_n 2, 1) := by decide +kernel
theorem dX5_coolestHours_27 : decode cX5_coolestHours 27 = .ok (.invokestatic 118, 3) := by decide +kernel
theorem dX5_coolestHours_30 : decode cX5_coolestHours 30 = .ok (.ifCond .eq 6, 3) := by decide +kernel
theorem dX5_coolestHours_33 : decode cX5_coolestHours 33 = .ok (.goto 37, 3) := by decide +kernel
theorem dX5_coolestHours_36 : decode cX5_coolestHours 36 = .ok (.iload 5, 2) := by decide +kernel
theorem dX5_coolestHours_38 : decode cX5_coolestHours 38 = .ok (.invokestatic 121, 3) := by decide +kernel
theorem dX5_coolestHours_41 : decode cX5_coolestHours 41 = .ok (.istore 6, 2) := by decide +kernel
theorem dX5_coolestHours_43 : decode cX5_coolestHours 43 = .ok (.aload_n 0, 1) := by decide +kernel
theorem dX5_coolestHours_44 : decode cX5_coolestHours 44 = .ok (.iload 6, 2) := by decide +kernel
theorem dX5_coolestHours_46 : decode cX5_coolestHours 46 = .ok (.invokevirtual 124, 3) := by decide +kernel
theorem dX5_coolestHours_49 : decode cX5_coolestHours 49 = .ok (.istore 7, 2) := by decide +kernel
theorem dX5_coolestHours_51 : decode cX5_coolestHours 51 = .ok (.iload_n 3, 1) := by decide +kernel
theorem dX5_coolestHours_52 : decode cX5_coolestHours 52 = .ok (.iconst (-1), 1) := by decide +kernel
theorem dX5_coolestHours_53 : decode cX5_coolestHours 53 = .ok (.if_icmp .eq 10, 3) := by decide +kernel
theorem dX5_coolestHours_56 : decode cX5_coolestHours 56 = .ok (.iload 7, 2) := by decide +kernel
theorem dX5_coolestHours_58 : decode cX5_coolestHours 58 = .ok (.iload 4, 2) := by decide +kernel
theorem dX5_coolestHours_60 : decode cX5_coolestHours 60 = .ok (.if_icmp .ge 10, 3) := by decide +kernel
theorem dX5_coolestHours_63 : decode cX5_coolestHours 63 = .ok (.iload 6, 2) := by decide +kernel
theorem dX5_coolestHours_65 : decode cX5_coolestHours 65 = .ok (.istore_n 3, 1) := by decide +kernel
theorem dX5_coolestHours_66 : decode cX5_coolestHours 66 = .ok (.iload 7, 2) := by decide +kernel
theorem dX5_coolestHours_68 : decode cX5_coolestHours 68 = .ok (.istore 4, 2) := by decide +kernel
theorem dX5_coolestHours_70 : decode cX5_coolestHours 70 = .ok (.iinc 5 (-1), 3) := by decide +kernel
theorem dX5_coolestHours_73 : decode cX5_coolestHours 73 = .ok (.goto (-63), 3) := by decide +kernel
theorem dX5_coolestHours_76 : decode cX5_coolestHours 76 = .ok (.iload_n 3, 1) := by decide +kernel
theorem dX5_coolestHours_77 : decode cX5_coolestHours 77 = .ok (.ireturn, 1) := by decide +kernel
set_option maxRecDepth 20000 in
theorem wX5_coolestHours_70 {p : Program} {l : Launch} {e : Env} {s : State} {m : MethodId} {args : Array Value} {below : List Frame} {meth : Method} {c : Code} {Z : XG} {r : Int32} {S' : Mem} (E : XE p s m args meth c cX5_coolestHours 8 RX5 (some .int) xL Z) (k0 : Mem → Int32 → Int32 → Int32 → Int32 → Int32 → O)  (hk0 : ∀ (S : Mem) (x1 x2 x3 x4 x5 : Int32), k0 S x1 x2 x3 x4 x5 = some (r, S') → WN p l e { frames := 2, cells := 0, slots := 0, locals := 45 } s m args below meth c xL Z (XQ xL Z r S') S 10 8 [(0, .ref (Z.2.1 32)), (1, .int x1), (2, .int x2), (3, .int x3), (4, .int x4), (5, .int x5)] []) : ∀ (S : Mem) (x1 x2 x3 x4 x5 : Int32), fX5_coolestHours_70 k0 S x1 x2 x3 x4 x5 = some (r, S') → WN p l e { frames := 2, cells := 0, slots := 0, locals := 45 } s m args below meth c xL Z (XQ xL Z r S') S 70 8 [(0, .ref (Z.2.1 32)), (1, .int x1), (2, .int x2), (3, .int x3), (4, .int x4), (5, .int x5)] [] := by
  obtain ⟨hx, hb, -, -, -, -, -, -, -, hQ⟩ := id E
  intro S x1 x2 x3 x4 x5 h H locs ls X hl
  unfold fX5_coolestHours_70 at h
  refine lv_iinc (v := (x5 + (-1 : Int32))) (lv' := [(5, .int (x5 + (-1 : Int32))), (0, .ref (Z.2.1 32)), (1, .int x1), (2, .int x2), (3, .int x3), (4, .int x4)]) hx hb dX5_coolestHours_70 hl (k := 5) rfl rfl (by decide) rfl (fun ls hl => ?_)
  refine lv_goto (tgt := 10) hx hb dX5_coolestHours_73 (by decide) ?_
  exact hk0 S x1 x2 x3 x4 (x5 + (-1 : Int32)) h _ _ _ X (lv_sub hl [1, 2, 3, 4, 5, 0] rfl)
set_option maxRecDepth 20000 in
theorem wX5_coolestHours_63 {p : Program} {l : Launch} {e : Env} {s : State} {m : MethodId} {args : Array Value} {below : List Frame} {meth : Method} {c : Code} {Z : XG} {r : Int32} {S' : Mem} (E : XE p s m args meth c cX5_coolestHours 8 RX5 (some .int) xL Z) (k0 : Mem → Int32 → Int32 → Int32 → Int32 → Int32 → O)  (hk0 : ∀ (S : Mem) (x1 x2 x3 x4 x5 : Int32), k0 S x1 x2 x3 x4 x5 = some (r, S') → WN p l e { frames := 2, cells := 0, slots := 0, locals := 45 } s m args below meth c xL Z (XQ xL Z r S') S 10 8 [(0, .ref (Z.2.1 32)), (1, .int x1), (2, .int x2), (3, .int x3), (4, .int x4), (5, .int x5)] []) : ∀ (S : Mem) (x1 x2 x5 x6 x7 : Int32), fX5_coolestHours_63 k0 S x1 x2 x5 x6 x7 = some (r, S') → WN p l e { frames := 2, cells := 0, slots := 0, locals := 45 } s m args below meth c xL Z (XQ xL Z r S') S 63 8 [(0, .ref (Z.2.1 32)), (1, .int x1), (2, .int x2), (5, .int x5), (6, .int x6), (7, .int x7)] [] := by
  obtain ⟨hx, hb, -, -, -, -, -, -, -, hQ⟩ := id E
  intro S x1 x2 x5 x6 x7 h H locs ls X hl
  unfold fX5_coolestHours_63 at h
  refine lv_iload hx hb dX5_coolestHours_63 (lv_at hl 4 rfl) ?_
  refine lv_istore_n (lv' := [(3, .int x6), (0, .ref (Z.2.1 32)), (1, .int x1), (2, .int x2), (5, .int x5), (6, .int x6), (7, .int x7)]) hx hb dX5_coolestHours_65 rfl hl (by decide) rfl (fun ls hl => ?_)
  refine lv_iload hx hb dX5_coolestHours_66 (lv_at hl 6 rfl) ?_
  refine lv_istore (lv' := [(4, .int x7), (3, .int x6), (0, .ref (Z.2.1 32)), (1, .int x1), (2, .int x2), (5, .int x5), (6, .int x6), (7, .int x7)]) hx hb dX5_coolestHours_68 hl (by decide) rfl (fun ls hl => ?_)
  exact wX5_coolestHours_70 E k0 hk0 S x1 x2 x6 x7 x5 h _ _ _ X (lv_sub hl [2, 3, 4, 1, 0, 5] rfl)
set_option maxRecDepth 20000 in
theorem wX5_coolestHours_10_b {p : Program} {l : Launch} {e : Env} {s : State} {m : MethodId} {args : Array Value} {below : List Frame} {meth : Method} {c : Code} {Z : XG} {r : Int32} {S' : Mem} (E : XE p s m args meth c cX5_coolestHours 8 RX5 (some .int) xL Z) (k0 : Mem → Int32 → Int32 → Int32 → Int32 → Int32 → O)  (hk0 : ∀ (S : Mem) (x1 x2 x3 x4 x5 : Int32), k0 S x1 x2 x3 x4 x5 = some (r, S') → WN p l e { frames := 2, cells := 0, slots := 0, locals := 45 } s m args below meth c xL Z (XQ xL Z r S') S 10 8 [(0, .ref (Z.2.1 32)), (1, .int x1), (2, .int x2), (3, .int x3), (4, .int x4), (5, .int x5)] []) : ∀ (S : Mem) (x1 x2 x3 x4 x5 : Int32), fX5_coolestHours_10_b k0 S x1 x2 x3 x4 x5 = some (r, S') → WN p l e { frames := 2, cells := 0, slots := 0, locals := 45 } s m args below meth c xL Z (XQ xL Z r S') S 10 8 [(0, .ref (Z.2.1 32)), (1, .int x1), (2, .int x2), (3, .int x3), (4, .int x4), (5, .int x5)] [] := by
  obtain ⟨hx, hb, -, -, -, -, -, -, -, hQ⟩ := id E
  intro S x1 x2 x3 x4 x5 h H locs ls X hl
  unfold fX5_coolestHours_10_b at h
  refine lv_iload hx hb dX5_coolestHours_10 (lv_at hl 5 rfl) ?_
  refine lv_if_lt (tgt := 76) hx hb dX5_coolestHours_12 (by decide) (fun c_1 => ?_) (fun c_1 => ?_)
  · have h := if_t c_1 h
    refine lv_iload_n hx hb dX5_coolestHours_76 rfl (lv_at hl 3 rfl) ?_
    exact x_iret E X h dX5_coolestHours_77
  · have h := if_f c_1 h
    refine lv_iload hx hb dX5_coolestHours_15 (lv_at hl 5 rfl) ?_
    obtain ⟨r_2, S_3, hr_2, h⟩ := bnd_s h
    refine x_callS E X cwX5_90 (mJ6_bitCount l Z hQ  x5 hr_2) rfl rfl hl.1 rfl dX5_coolestHours_17 (fun H locs X => ?_)
    refine lv_iload_n hx hb dX5_coolestHours_20 rfl (lv_at hl 1 rfl) ?_
    refine lv_icmp_ne (tgt := 70) hx hb dX5_coolestHours_21 (by decide) (fun c_4 => ?_) (fun c_4 => ?_)
    · have h := if_f c_4 h
      exact wX5_coolestHours_70 E k0 hk0 S_3 x1 x2 x3 x4 x5 h _ _ _ X hl
    · have h := if_t c_4 h
      refine lv_iload hx hb dX5_coolestHours_24 (lv_at hl 5 rfl) ?_
      refine lv_iload_n hx hb dX5_coolestHours_26 rfl (lv_at hl 2 rfl) ?_
      obtain ⟨r_5, S_6, hr_5, h⟩ := bnd_s h
      refine x_callS E X cwX5_118 (mX5_hasRowAbove l Z hQ  x5 x2 hr_5) rfl rfl hl.1 rfl dX5_coolestHours_27 (fun H locs X => ?_)
      refine lv_if_eq (tgt := 36) hx hb dX5_coolestHours_30 (by decide) (fun c_7 => ?_) (fun c_7 => ?_)
      · have h := if_t c_7 h
        refine lv_iload hx hb dX5_coolestHours_36 (lv_at hl 5 rfl) ?_
        obtain ⟨r_8, S_9, hr_8, h⟩ := bnd_s h
        refine x_callS E X cwX5_121 (mX5_hoursOf l Z hQ  x5 hr_8) rfl rfl hl.1 rfl dX5_coolestHours_38 (fun H locs X => ?_)
        refine lv_istore (lv' := [(6, .int r_8), (0, .ref (Z.2.1 32)), (1, .int x1), (2, .int x2), (3, .int x3), (4, .int x4), (5, .int x5)]) hx hb dX5_coolestHours_41 hl (by decide) rfl (fun ls hl => ?_)
        refine lv_aload_n hx hb dX5_coolestHours_43 rfl (lv_at hl 1 rfl) ?_
        refine lv_iload hx hb dX5_coolestHours_44 (lv_at hl 0 rfl) ?_
        obtain ⟨r_10, S_11, hr_10, h⟩ := bnd_s h
        refine x_callV E X cwX5_124 (mX5_heatOf l Z hQ  r_8 hr_10) rfl rfl rfl rfl hl.1 rfl dX5_coolestHours_46 (fun H locs X => ?_)
        refine lv_istore (lv' := [(7, .int r_10), (6, .int r_8), (0, .ref (Z.2.1 32)), (1, .int x1), (2, .int x2), (3, .int x3), (4, .int x4), (5, .int x5)]) hx hb dX5_coolestHours_49 hl (by decide) rfl (fun ls hl => ?_)
        refine lv_iload_n hx hb dX5_coolestHours_51 rfl (lv_at hl 5 rfl) ?_
        refine lv_iconst (v := (-1 : Int32)) hx hb dX5_coolestHours_52 (by decide) ?_
        refine lv_icmp_eq (tgt := 63) hx hb dX5_coolestHours_53 (by decide) (fun c_12 => ?_) (fun c_12 => ?_)
        · have h := if_t c_12 h
          exact wX5_coolestHours_63 E k0 hk0 S_11 x1 x2 x5 r_8 r_10 h _ _ _ X (lv_sub hl [2, 3, 4, 7, 1, 0] rfl)
        · have h := if_f c_12 h
          refine lv_iload hx hb dX5_coolestHours_56 (lv_at hl 0 rfl) ?_
          refine lv_iload hx hb dX5_coolestHours_58 (lv_at hl 6 rfl) ?_
          refine lv_icmp_ge (tgt := 70) hx hb dX5_coolestHours_60 (by decide) (fun c_13 => ?_) (fun c_13 => ?_)
          · have h := if_t c_13 h
            exact wX5_coolestHours_70 E k0 hk0 S_11 x1 x2 x3 x4 x5 h _ _ _ X (lv_sub hl [2, 3, 4, 5, 6, 7] rfl)
          · have h := if_f c_13 h
            exact wX5_coolestHours_63 E k0 hk0 S_11 x1 x2 x5 r_8 r_10 h _ _ _ X (lv_sub hl [2, 3, 4, 7, 1, 0] rfl)
      · have h := if_f c_7 h
        refine lv_goto (tgt := 70) hx hb dX5_coolestHours_33 (by decide) ?_
        exact wX5_coolestHours_70 E k0 hk0 S_6 x1 x2 x3 x4 x5 h _ _ _ X hl
theorem wX5_coolestHours_10 {p : Program} {l : Launch} {e : Env} {s : State} {m : MethodId} {args : Array Value} {below : List Frame} {meth : Method} {c : Code} {Z : XG} {r : Int32} {S' : Mem} (E : XE p s m args meth c cX5_coolestHours 8 RX5 (some .int) xL Z) : ∀ (n : Nat) (S : Mem) (x1 x2 x3 x4 x5 : Int32), fX5_coolestHours_10 n S x1 x2 x3 x4 x5 = some (r, S') → WN p l e { frames := 2, cells := 0, slots := 0, locals := 45 } s m args below meth c xL Z (XQ xL Z r S') S 10 8 [(0, .ref (Z.2.1 32)), (1, .int x1), (2, .int x2), (3, .int x3), (4, .int x4), (5, .int x5)] [] := by
  intro n
  induction n with
  | zero => intro S x1 x2 x3 x4 x5 h; exact absurd (show (none : O) = some _ from h) (by simp)
  | succ n ih => intro S x1 x2 x3 x4 x5 h; exact wX5_coolestHours_10_b E (fX5_coolestHours_10 n) ih S x1 x2 x3 x4 x5 h
set_option maxRecDepth 20000 in
theorem wX5_coolestHours {p : Program} {l : Launch} {e : Env} {s : State} {m : MethodId} {args : Array Value} {below : List Frame} {meth : Method} {c : Code} {Z : XG} {r : Int32} {S' : Mem} (E : XE p s m args meth c cX5_coolestHours 8 RX5 (some .int) xL Z) : ∀ (S : Mem) (x1 x2 : Int32), fX5_coolestHours  S x1 x2 = some (r, S') → WN p l e { frames := 2, cells := 0, slots := 0, locals := 45 } s m args below meth c xL Z (XQ xL Z r S') S 0 8 [(0, .ref (Z.2.1 32)), (1, .int x1), (2, .int x2)] [] := by
  obtain ⟨hx, hb, -, -, -, -, -, -, -, hQ⟩ := id E
  intro S x1 x2 h H locs ls X hl
  unfold fX5_coolestHours at h
  refine lv_iconst (v := (-1 : Int32)) hx hb dX5_coolestHours_0 (by decide) ?_
  refine lv_istore_n (lv' := [(3, .int (-1 : Int32)), (0, .ref (Z.2.1 32)), (1, .int x1), (2, .int x2)]) hx hb dX5_coolestHours_1 rfl hl (by decide) rfl (fun ls hl => ?_)
  refine lv_iconst (v := (0 : Int32)) hx hb dX5_coolestHours_2 (by decide) ?_
  refine lv_istore (lv' := [(4, .int (0 : Int32)), (3, .int (-1 : Int32)), (0, .ref (Z.2.1 32)), (1, .int x1), (2, .int x2)]) hx hb dX5_coolestHours_3 hl (by decide) rfl (fun ls hl => ?_)
  refine lv_sipush (v := (4095 : Int32)) hx hb dX5_coolestHours_5 (by decide) ?_
  refine lv_istore (lv' := [(5, .int (4095 : Int32)), (4, .int (0 : Int32)), (3, .int (-1 : Int32)), (0, .ref (Z.2.1 32)), (1, .int x1), (2, .int x2)]) hx hb dX5_coolestHours_8 hl (by decide) rfl (fun ls hl => ?_)
  exact wX5_coolestHours_10 E   FU S x1 x2 (-1 : Int32) (0 : Int32) (4095 : Int32) h _ _ _ X (lv_sub hl [3, 4, 5, 2, 1, 0] rfl)
/-- SevenToAShadow$Thought.coolestHours(II)I -/
theorem mX5_coolestHours (l : Launch) (Z : XG) (hQ : wQ (List.length xL) Z) {S S' : Mem} {r : Int32} (x1 x2 : Int32) (h : fX5_coolestHours S x1 x2 = some (r, S')) : XM l yX5_coolestHours cX5_coolestHours 8 (some .int) { frames := 2, cells := 0, slots := 0, locals := 45 } xL Z [.ref (Z.2.1 32), .int x1, .int x2] S (XQ xL Z r S') := by
  refine XM.of (own := RX5) (by decide +kernel) rfl rfl hQ (fun p e s m args below meth c E ls hl X => ?_)
  exact wX5_coolestHours E S x1 x2 h _ _ _ X hl
def fX7_halts_54 (S : Mem) (x4 : Int32) : O := some (x4, S)
def fX7_halts (S : Mem) (x1 x2 x3 : Int32) : O := (if x1 < 0 then some ((-1 : Int32), S) else (if (12 : Int32) < x1 then some ((-1 : Int32), S) else (if x2 < (1 : Int32) then some ((-1 : Int32), S) else (if (12 : Int32) < x2 then some ((-1 : Int32), S) else (if x3 < 0 then some ((-1 : Int32), S) else (if x3 ≤ (1 : Int32) then bnd (fX5_coolestHours S x1 x2) fun r_7 S_8 => (if x3 = (1 : Int32) then fX7_halts_54  S_8 r_7 else (if r_7 = (-1 : Int32) then fX7_halts_54  S_8 r_7 else bnd (fX5_heatOf S_8 r_7) fun r_11 S_12 => some (r_11, S_12))) else some ((-1 : Int32), S)))))))
theorem dX7_halts_0 : decode cX7_halts 0 = .ok (.iload_n 1, 1) := by decide +kernel
theorem dX7_halts_1 : decode cX7_halts 1 = .ok (.ifCond .lt 29, 3) := by decide +kernel
theorem dX7_halts_4 : decode cX7_halts 4 = .ok (.iload_n 1, 1) := by decide +kernel
theorem dX7_halts_5 : decode cX7_halts 5 = .ok (.bipush 12, 2) := by decide +kernel
theorem dX7_halts_7 : decode cX7_halts 7 = .ok (.if_icmp .gt 23, 3) := by decide +kernel
theorem dX7_halts_10 : decode cX7_halts 10 = .ok (.iload_n 2, 1) := by decide +kernel
theorem dX7_halts_11 : decode cX7_halts 11 = .ok (.iconst 1, 1) := by decide +kernel
theorem dX7_halts_12 : decode cX7_halts 12 = .ok (.if_icmp .lt 18, 3) := by decide +kernel
theorem dX7_halts_15 : decode cX7_halts 15 = .ok (.iload_n 2, 1) := by decide +kernel
theorem dX7_halts_16 : decode cX7_halts 16 = .ok (.bipush 12, 2) := by decide +kernel
theorem dX7_halts_18 : decode cX7_halts 18 = .ok (.if_icmp .gt 12, 3) := by decide +kernel
theorem dX7_halts_21 : decode cX7_halts 21 = .ok (.iload_n 3, 1) := by decide +kernel
theorem dX7_halts_22 : decode cX7_halts 22 = .ok (.ifCond .lt 8, 3) := by decide +kernel
theorem dX7_halts_25 : decode cX7_halts 25 = .ok (.iload_n 3, 1) := by decide +kernel
theorem dX7_halts_26 : decode cX7_halts 26 = .ok (.iconst 1, 1) := by decide +kernel
theorem dX7_halts_27 : decode cX7_halts 27 = .ok (.if_icmp .le 5, 3) := by decide +kernel
theorem dX7_halts_30 : decode cX7_halts 30 = .ok (.iconst (-1), 1) := by decide +kernel
theorem dX7_halts_31 : decode cX7_halts 31 = .ok (.ireturn, 1) := by decide +kernel
theorem dX7_halts_32 : decode cX7_halts 32 = .ok (.aload_n 0, 1) := by decide +kernel
theorem dX7_halts_33 : decode cX7_halts 33 = .ok (.getfield 38, 3) := by decide +kernel
theorem dX7_halts_36 : decode cX7_halts 36 = .ok (.iload_n 1, 1) := by decide +kernel
theorem dX7_halts_37 : decode cX7_halts 37 = .ok (.iload_n 2, 1) := by decide +kernel
theorem dX7_halts_38 : decode cX7_halts 38 = .ok (.invokevirtual 190, 3) := by decide +kernel
theorem dX7_halts_41 : decode cX7_halts 41 = .ok (.istore 4, 2) := by decide +kernel
theorem dX7_halts_43 : decode cX7_halts 43 = .ok (.iload_n 3, 1) := by decide +kernel
theorem dX7_halts_44 : decode cX7_halts 44 = .ok (.iconst 1, 1) := by decide +kernel
theorem dX7_halts_45 : decode cX7_halts 45 = .ok (.if_icmp .eq 9, 3) := by decide +kernel
theorem dX7_halts_48 : decode cX7_halts 48 = .ok (.iload 4, 2) := by decide +kernel
theorem dX7_halts_50 : decode cX7_halts 50 = .ok (.iconst (-1), 1) := by decide +kernel
theorem dX7_halts_51 : decode cX7_halts 51 = .ok (.if_icmp .ne 8, 3) := by decide +kernel
theorem dX7_halts_54 : decode cX7_halts 54 = .ok (.iload 4, 2) := by decide +kernel
theorem dX7_halts_56 : decode cX7_halts 56 = .ok (.goto 12, 3) := by decide +kernel
theorem dX7_halts_59 : decode cX7_halts 59 = .ok (.aload_n 0, 1) := by decide +kernel
theorem dX7_halts_60 : decode cX7_halts 60 = .ok (.getfield 38, 3) := by decide +kernel
theorem dX7_halts_63 : decode cX7_halts 63 = .ok (.iload 4, 2) := by decide +kernel
theorem dX7_halts_65 : decode cX7_halts 65 = .ok (.invokevirtual 193, 3) := by decide +kernel
theorem dX7_halts_68 : decode cX7_halts 68 = .ok (.ireturn, 1) := by decide +kernel
set_option maxRecDepth 20000 in
theorem wX7_halts_54 {p : Program} {l : Launch} {e : Env} {s : State} {m : MethodId} {args : Array Value} {below : List Frame} {meth : Method} {c : Code} {Z : XG} {r : Int32} {S' : Mem} (E : XE p s m args meth c cX7_halts 5 RX7 (some .int) xL Z) : ∀ (S : Mem) (x4 : Int32), fX7_halts_54  S x4 = some (r, S') → WN p l e { frames := 3, cells := 0, slots := 0, locals := 72 } s m args below meth c xL Z (XQ xL Z r S') S 54 5 [(4, .int x4)] [] := by
  obtain ⟨hx, hb, -, -, -, -, -, -, -, hQ⟩ := id E
  intro S x4 h H locs ls X hl
  unfold fX7_halts_54 at h
  refine lv_iload hx hb dX7_halts_54 (lv_at hl 0 rfl) ?_
  refine lv_goto (tgt := 68) hx hb dX7_halts_56 (by decide) ?_
  exact x_iret E X h dX7_halts_68
set_option maxRecDepth 20000 in
theorem wX7_halts {p : Program} {l : Launch} {e : Env} {s : State} {m : MethodId} {args : Array Value} {below : List Frame} {meth : Method} {c : Code} {Z : XG} {r : Int32} {S' : Mem} (E : XE p s m args meth c cX7_halts 5 RX7 (some .int) xL Z) : ∀ (S : Mem) (x1 x2 x3 : Int32), fX7_halts  S x1 x2 x3 = some (r, S') → WN p l e { frames := 3, cells := 0, slots := 0, locals := 72 } s m args below meth c xL Z (XQ xL Z r S') S 0 5 [(0, .ref (Z.2.1 0)), (1, .int x1), (2, .int x2), (3, .int x3)] [] := by
  obtain ⟨hx, hb, -, -, -, -, -, -, -, hQ⟩ := id E
  intro S x1 x2 x3 h H locs ls X hl
  unfold fX7_halts at h
  refine lv_iload_n hx hb dX7_halts_0 rfl (lv_at hl 1 rfl) ?_
  refine lv_if_lt (tgt := 30) hx hb dX7_halts_1 (by decide) (fun c_1 => ?_) (fun c_1 => ?_)
  · have h := if_t c_1 h
    refine lv_iconst (v := (-1 : Int32)) hx hb dX7_halts_30 (by decide) ?_
    exact x_iret E X h dX7_halts_31
  · have h := if_f c_1 h
    refine lv_iload_n hx hb dX7_halts_4 rfl (lv_at hl 1 rfl) ?_
    refine lv_bipush (v := (12 : Int32)) hx hb dX7_halts_5 (by decide) ?_
    refine lv_icmp_gt (tgt := 30) hx hb dX7_halts_7 (by decide) (fun c_2 => ?_) (fun c_2 => ?_)
    · have h := if_t c_2 h
      refine lv_iconst (v := (-1 : Int32)) hx hb dX7_halts_30 (by decide) ?_
      exact x_iret E X h dX7_halts_31
    · have h := if_f c_2 h
      refine lv_iload_n hx hb dX7_halts_10 rfl (lv_at hl 2 rfl) ?_
      refine lv_iconst (v := (1 : Int32)) hx hb dX7_halts_11 (by decide) ?_
      refine lv_icmp_lt (tgt := 30) hx hb dX7_halts_12 (by decide) (fun c_3 => ?_) (fun c_3 => ?_)
      · have h := if_t c_3 h
        refine lv_iconst (v := (-1 : Int32)) hx hb dX7_halts_30 (by decide) ?_
        exact x_iret E X h dX7_halts_31
      · have h := if_f c_3 h
        refine lv_iload_n hx hb dX7_halts_15 rfl (lv_at hl 2 rfl) ?_
        refine lv_bipush (v := (12 : Int32)) hx hb dX7_halts_16 (by decide) ?_
        refine lv_icmp_gt (tgt := 30) hx hb dX7_halts_18 (by decide) (fun c_4 => ?_) (fun c_4 => ?_)
        · have h := if_t c_4 h
          refine lv_iconst (v := (-1 : Int32)) hx hb dX7_halts_30 (by decide) ?_
          exact x_iret E X h dX7_halts_31
        · have h := if_f c_4 h
          refine lv_iload_n hx hb dX7_halts_21 rfl (lv_at hl 3 rfl) ?_
          refine lv_if_lt (tgt := 30) hx hb dX7_halts_22 (by decide) (fun c_5 => ?_) (fun c_5 => ?_)
          · have h := if_t c_5 h
            refine lv_iconst (v := (-1 : Int32)) hx hb dX7_halts_30 (by decide) ?_
            exact x_iret E X h dX7_halts_31
          · have h := if_f c_5 h
            refine lv_iload_n hx hb dX7_halts_25 rfl (lv_at hl 3 rfl) ?_
            refine lv_iconst (v := (1 : Int32)) hx hb dX7_halts_26 (by decide) ?_
            refine lv_icmp_le (tgt := 32) hx hb dX7_halts_27 (by decide) (fun c_6 => ?_) (fun c_6 => ?_)
            · have h := if_t c_6 h
              refine lv_aload_n hx hb dX7_halts_32 rfl (lv_at hl 0 rfl) ?_
              refine x_getr E X ffX7_38 rfl rfl dX7_halts_33 ?_
              refine lv_iload_n hx hb dX7_halts_36 rfl (lv_at hl 1 rfl) ?_
              refine lv_iload_n hx hb dX7_halts_37 rfl (lv_at hl 2 rfl) ?_
              obtain ⟨r_7, S_8, hr_7, h⟩ := bnd_s h
              refine x_callV E X cwX7_190 (mX5_coolestHours l Z hQ  x1 x2 hr_7) rfl rfl rfl rfl hl.1 rfl dX7_halts_38 (fun H locs X => ?_)
              refine lv_istore (lv' := [(4, .int r_7), (0, .ref (Z.2.1 0)), (1, .int x1), (2, .int x2), (3, .int x3)]) hx hb dX7_halts_41 hl (by decide) rfl (fun ls hl => ?_)
              refine lv_iload_n hx hb dX7_halts_43 rfl (lv_at hl 4 rfl) ?_
              refine lv_iconst (v := (1 : Int32)) hx hb dX7_halts_44 (by decide) ?_
              refine lv_icmp_eq (tgt := 54) hx hb dX7_halts_45 (by decide) (fun c_9 => ?_) (fun c_9 => ?_)
              · have h := if_t c_9 h
                exact wX7_halts_54 E   S_8 r_7 h _ _ _ X (lv_sub hl [0] rfl)
              · have h := if_f c_9 h
                refine lv_iload hx hb dX7_halts_48 (lv_at hl 0 rfl) ?_
                refine lv_iconst (v := (-1 : Int32)) hx hb dX7_halts_50 (by decide) ?_
                refine lv_icmp_ne (tgt := 59) hx hb dX7_halts_51 (by decide) (fun c_10 => ?_) (fun c_10 => ?_)
                · have h := if_f c_10 h
                  refine lv_aload_n hx hb dX7_halts_59 rfl (lv_at hl 1 rfl) ?_
                  refine x_getr E X ffX7_38 rfl rfl dX7_halts_60 ?_
                  refine lv_iload hx hb dX7_halts_63 (lv_at hl 0 rfl) ?_
                  obtain ⟨r_11, S_12, hr_11, h⟩ := bnd_s h
                  refine x_callV E X cwX7_193 (mX5_heatOf l Z hQ  r_7 hr_11) rfl rfl rfl rfl hl.1 rfl dX7_halts_65 (fun H locs X => ?_)
                  exact x_iret E X h dX7_halts_68
                · have h := if_t c_10 h
                  exact wX7_halts_54 E   S_8 r_7 h _ _ _ X (lv_sub hl [0] rfl)
            · have h := if_f c_6 h
              refine lv_iconst (v := (-1 : Int32)) hx hb dX7_halts_30 (by decide) ?_
              exact x_iret E X h dX7_halts_31
/-- SevenToAShadow.halts(III)I -/
theorem mX7_halts (l : Launch) (Z : XG) (hQ : wQ (List.length xL) Z) {S S' : Mem} {r : Int32} (x1 x2 x3 : Int32) (h : fX7_halts S x1 x2 x3 = some (r, S')) : XM l yX7_halts cX7_halts 5 (some .int) { frames := 3, cells := 0, slots := 0, locals := 72 } xL Z [.ref (Z.2.1 0), .int x1, .int x2, .int x3] S (XQ xL Z r S') := by
  refine XM.of (own := RX7) (by decide +kernel) rfl rfl hQ (fun p e s m args below meth c E ls hl X => ?_)
  exact wX7_halts E S x1 x2 x3 h _ _ _ X hl
def fX7_told (S : Mem) (x1 x2 : Int32) : O := bnd (fX6_isPilgrim S x1) fun r_1 S_2 => (if r_1 = 0 then some ((0 : Int32), S_2) else (if x2 < (-1 : Int32) then some ((0 : Int32), S_2) else (if x2 ≤ (9999 : Int32) then gd (inB x1 10) <| ltm (mset S_2 5 (x1).toNatClampNeg x2) fun S_7 => some ((1 : Int32), S_7) else some ((0 : Int32), S_2))))
theorem dX7_told_0 : decode cX7_told 0 = .ok (.aload_n 0, 1) := by decide +kernel
theorem dX7_told_1 : decode cX7_told 1 = .ok (.getfield 12, 3) := by decide +kernel
theorem dX7_told_4 : decode cX7_told 4 = .ok (.iload_n 1, 1) := by decide +kernel
theorem dX7_told_5 : decode cX7_told 5 = .ok (.invokevirtual 87, 3) := by decide +kernel
theorem dX7_told_8 : decode cX7_told 8 = .ok (.ifCond .eq 15, 3) := by decide +kernel
theorem dX7_told_11 : decode cX7_told 11 = .ok (.iload_n 2, 1) := by decide +kernel
theorem dX7_told_12 : decode cX7_told 12 = .ok (.iconst (-1), 1) := by decide +kernel
theorem dX7_told_13 : decode cX7_told 13 = .ok (.if_icmp .lt 10, 3) := by decide +kernel
theorem dX7_told_16 : decode cX7_told 16 = .ok (.iload_n 2, 1) := by decide +kernel
theorem dX7_told_17 : decode cX7_told 17 = .ok (.sipush 9999, 3) := by decide +kernel
theorem dX7_told_20 : decode cX7_told 20 = .ok (.if_icmp .le 5, 3) := by decide +kernel
theorem dX7_told_23 : decode cX7_told 23 = .ok (.iconst 0, 1) := by decide +kernel
theorem dX7_told_24 : decode cX7_told 24 = .ok (.ireturn, 1) := by decide +kernel
theorem dX7_told_25 : decode cX7_told 25 = .ok (.aload_n 0, 1) := by decide +kernel
theorem dX7_told_26 : decode cX7_told 26 = .ok (.getfield 12, 3) := by decide +kernel
theorem dX7_told_29 : decode cX7_told 29 = .ok (.getfield 196, 3) := by decide +kernel
theorem dX7_told_32 : decode cX7_told 32 = .ok (.iload_n 1, 1) := by decide +kernel
theorem dX7_told_33 : decode cX7_told 33 = .ok (.iload_n 2, 1) := by decide +kernel
theorem dX7_told_34 : decode cX7_told 34 = .ok (.iastore, 1) := by decide +kernel
theorem dX7_told_35 : decode cX7_told 35 = .ok (.iconst 1, 1) := by decide +kernel
theorem dX7_told_36 : decode cX7_told 36 = .ok (.ireturn, 1) := by decide +kernel
set_option maxRecDepth 20000 in
theorem wX7_told {p : Program} {l : Launch} {e : Env} {s : State} {m : MethodId} {args : Array Value} {below : List Frame} {meth : Method} {c : Code} {Z : XG} {r : Int32} {S' : Mem} (E : XE p s m args meth c cX7_told 3 RX7 (some .boolean) xL Z) : ∀ (S : Mem) (x1 x2 : Int32), fX7_told  S x1 x2 = some (r, S') → WN p l e { frames := 1, cells := 0, slots := 0, locals := 21 } s m args below meth c xL Z (XQ xL Z r S') S 0 3 [(0, .ref (Z.2.1 0)), (1, .int x1), (2, .int x2)] [] := by
  obtain ⟨hx, hb, -, -, -, -, -, -, -, hQ⟩ := id E
  intro S x1 x2 h H locs ls X hl
  unfold fX7_told at h
  refine lv_aload_n hx hb dX7_told_0 rfl (lv_at hl 0 rfl) ?_
  refine x_getr E X ffX7_12 rfl rfl dX7_told_1 ?_
  refine lv_iload_n hx hb dX7_told_4 rfl (lv_at hl 1 rfl) ?_
  obtain ⟨r_1, S_2, hr_1, h⟩ := bnd_s h
  refine x_callV E X cwX7_87 (mX6_isPilgrim l Z hQ  x1 hr_1) rfl rfl rfl rfl hl.1 rfl dX7_told_5 (fun H locs X => ?_)
  refine lv_if_eq (tgt := 23) hx hb dX7_told_8 (by decide) (fun c_3 => ?_) (fun c_3 => ?_)
  · have h := if_t c_3 h
    refine lv_iconst (v := (0 : Int32)) hx hb dX7_told_23 (by decide) ?_
    exact x_zret E X rfl h dX7_told_24
  · have h := if_f c_3 h
    refine lv_iload_n hx hb dX7_told_11 rfl (lv_at hl 2 rfl) ?_
    refine lv_iconst (v := (-1 : Int32)) hx hb dX7_told_12 (by decide) ?_
    refine lv_icmp_lt (tgt := 23) hx hb dX7_told_13 (by decide) (fun c_4 => ?_) (fun c_4 => ?_)
    · have h := if_t c_4 h
      refine lv_iconst (v := (0 : Int32)) hx hb dX7_told_23 (by decide) ?_
      exact x_zret E X rfl h dX7_told_24
    · have h := if_f c_4 h
      refine lv_iload_n hx hb dX7_told_16 rfl (lv_at hl 2 rfl) ?_
      refine lv_sipush (v := (9999 : Int32)) hx hb dX7_told_17 (by decide) ?_
      refine lv_icmp_le (tgt := 25) hx hb dX7_told_20 (by decide) (fun c_5 => ?_) (fun c_5 => ?_)
      · have h := if_t c_5 h
        refine lv_aload_n hx hb dX7_told_25 rfl (lv_at hl 0 rfl) ?_
        refine x_getr E X ffX7_12 rfl rfl dX7_told_26 ?_
        refine x_getr E X ffX7_196 rfl rfl dX7_told_29 ?_
        refine lv_iload_n hx hb dX7_told_32 rfl (lv_at hl 1 rfl) ?_
        refine lv_iload_n hx hb dX7_told_33 rfl (lv_at hl 2 rfl) ?_
        obtain ⟨g_6, h⟩ := gd_s h
        obtain ⟨S_7, eS_7, h⟩ := ltm_s h
        refine x_iast E X rfl g_6 dX7_told_34 (fun H locs X => ?_)
        rw [← eS_7] at X
        refine lv_iconst (v := (1 : Int32)) hx hb dX7_told_35 (by decide) ?_
        exact x_zret E X rfl h dX7_told_36
      · have h := if_f c_5 h
        refine lv_iconst (v := (0 : Int32)) hx hb dX7_told_23 (by decide) ?_
        exact x_zret E X rfl h dX7_told_24
/-- SevenToAShadow.told(II)Z -/
theorem mX7_told (l : Launch) (Z : XG) (hQ : wQ (List.length xL) Z) {S S' : Mem} {r : Int32} (x1 x2 : Int32) (h : fX7_told S x1 x2 = some (r, S')) : XM l yX7_told cX7_told 3 (some .boolean) { frames := 1, cells := 0, slots := 0, locals := 21 } xL Z [.ref (Z.2.1 0), .int x1, .int x2] S (XQ xL Z r S') := by
  refine XM.of (own := RX7) (by decide +kernel) rfl rfl hQ (fun p e s m args below meth c E ls hl X => ?_)
  exact wX7_told E S x1 x2 h _ _ _ X hl
def fJ7_fill_37_5_b (k0 : Mem → Int32 → Int32 → Int32 → O) (S : Mem) (x1 x2 x3 : Int32) : O := (if x3 ≤ x2 then some ((0 : Int32), S) else gd (inB x2 10) <| ltm (mset S 37 (x2).toNatClampNeg x1) fun S_3 => k0 S_3 x1 (x2 + (1 : Int32)) x3)
def fJ7_fill_37_5 : Nat → Mem → Int32 → Int32 → Int32 → O
  | 0 => fun _ _ _ _ => none
  | n + 1 => fJ7_fill_37_5_b (fJ7_fill_37_5 n)
def fJ7_fill_37 (S : Mem) (x1 : Int32) : O := fJ7_fill_37_5  FU S x1 (0 : Int32) (10 : Int32)
set_option maxRecDepth 20000 in
theorem wJ7_fill_37_5_b {p : Program} {l : Launch} {e : Env} {s : State} {m : MethodId} {args : Array Value} {below : List Frame} {meth : Method} {c : Code} {Z : XG} {r : Int32} {S' : Mem} (E : XE p s m args meth c cJ7_fill_53178 4 RJ7 none xL Z) (k0 : Mem → Int32 → Int32 → Int32 → O)  (hk0 : ∀ (S : Mem) (x1 x2 x3 : Int32), k0 S x1 x2 x3 = some (r, S') → WN p l e { frames := 0, cells := 0, slots := 0, locals := 0 } s m args below meth c xL Z (XV xL Z S') S 5 4 [(0, .ref (Z.2.1 37)), (1, .int x1), (2, .int x2), (3, .int x3)] []) : ∀ (S : Mem) (x1 x2 x3 : Int32), fJ7_fill_37_5_b k0 S x1 x2 x3 = some (r, S') → WN p l e { frames := 0, cells := 0, slots := 0, locals := 0 } s m args below meth c xL Z (XV xL Z S') S 5 4 [(0, .ref (Z.2.1 37)), (1, .int x1), (2, .int x2), (3, .int x3)] [] := by
  obtain ⟨hx, hb, -, -, -, -, -, -, -, hQ⟩ := id E
  intro S x1 x2 x3 h H locs ls X hl
  unfold fJ7_fill_37_5_b at h
  refine lv_iload_n hx hb dJ7_fill_53178_5 rfl (lv_at hl 2 rfl) ?_
  refine lv_iload_n hx hb dJ7_fill_53178_6 rfl (lv_at hl 3 rfl) ?_
  refine lv_icmp_ge (tgt := 20) hx hb dJ7_fill_53178_7 (by decide) (fun c_1 => ?_) (fun c_1 => ?_)
  · have h := if_t c_1 h
    exact x_vret E X h dJ7_fill_53178_20
  · have h := if_f c_1 h
    refine lv_aload_n hx hb dJ7_fill_53178_10 rfl (lv_at hl 0 rfl) ?_
    refine lv_iload_n hx hb dJ7_fill_53178_11 rfl (lv_at hl 2 rfl) ?_
    refine lv_iload_n hx hb dJ7_fill_53178_12 rfl (lv_at hl 1 rfl) ?_
    obtain ⟨g_2, h⟩ := gd_s h
    obtain ⟨S_3, eS_3, h⟩ := ltm_s h
    refine x_iast E X rfl g_2 dJ7_fill_53178_13 (fun H locs X => ?_)
    rw [← eS_3] at X
    refine lv_iinc (v := (x2 + (1 : Int32))) (lv' := [(2, .int (x2 + (1 : Int32))), (0, .ref (Z.2.1 37)), (1, .int x1), (3, .int x3)]) hx hb dJ7_fill_53178_14 hl (k := 2) rfl rfl (by decide) rfl (fun ls hl => ?_)
    refine lv_goto (tgt := 5) hx hb dJ7_fill_53178_17 (by decide) ?_
    exact hk0 S_3 x1 (x2 + (1 : Int32)) x3 h _ _ _ X (lv_sub hl [1, 2, 0, 3] rfl)
theorem wJ7_fill_37_5 {p : Program} {l : Launch} {e : Env} {s : State} {m : MethodId} {args : Array Value} {below : List Frame} {meth : Method} {c : Code} {Z : XG} {r : Int32} {S' : Mem} (E : XE p s m args meth c cJ7_fill_53178 4 RJ7 none xL Z) : ∀ (n : Nat) (S : Mem) (x1 x2 x3 : Int32), fJ7_fill_37_5 n S x1 x2 x3 = some (r, S') → WN p l e { frames := 0, cells := 0, slots := 0, locals := 0 } s m args below meth c xL Z (XV xL Z S') S 5 4 [(0, .ref (Z.2.1 37)), (1, .int x1), (2, .int x2), (3, .int x3)] [] := by
  intro n
  induction n with
  | zero => intro S x1 x2 x3 h; exact absurd (show (none : O) = some _ from h) (by simp)
  | succ n ih => intro S x1 x2 x3 h; exact wJ7_fill_37_5_b E (fJ7_fill_37_5 n) ih S x1 x2 x3 h
set_option maxRecDepth 20000 in
theorem wJ7_fill_37 {p : Program} {l : Launch} {e : Env} {s : State} {m : MethodId} {args : Array Value} {below : List Frame} {meth : Method} {c : Code} {Z : XG} {r : Int32} {S' : Mem} (E : XE p s m args meth c cJ7_fill_53178 4 RJ7 none xL Z) : ∀ (S : Mem) (x1 : Int32), fJ7_fill_37  S x1 = some (r, S') → WN p l e { frames := 0, cells := 0, slots := 0, locals := 0 } s m args below meth c xL Z (XV xL Z S') S 0 4 [(0, .ref (Z.2.1 37)), (1, .int x1)] [] := by
  obtain ⟨hx, hb, -, -, -, -, -, -, -, hQ⟩ := id E
  intro S x1 h H locs ls X hl
  unfold fJ7_fill_37 at h
  refine lv_iconst (v := (0 : Int32)) hx hb dJ7_fill_53178_0 (by decide) ?_
  refine lv_istore_n (lv' := [(2, .int (0 : Int32)), (0, .ref (Z.2.1 37)), (1, .int x1)]) hx hb dJ7_fill_53178_1 rfl hl (by decide) rfl (fun ls hl => ?_)
  refine lv_aload_n hx hb dJ7_fill_53178_2 rfl (lv_at hl 1 rfl) ?_
  refine x_alen E X (v := (10 : Int32)) rfl (by decide) dJ7_fill_53178_3 ?_
  refine lv_istore_n (lv' := [(3, .int (10 : Int32)), (2, .int (0 : Int32)), (0, .ref (Z.2.1 37)), (1, .int x1)]) hx hb dJ7_fill_53178_4 rfl hl (by decide) rfl (fun ls hl => ?_)
  exact wJ7_fill_37_5 E   FU S x1 (0 : Int32) (10 : Int32) h _ _ _ X (lv_sub hl [2, 3, 1, 0] rfl)
/-- java/util/Arrays.fill([II)V -/
theorem mJ7_fill_37 (l : Launch) (Z : XG) (hQ : wQ (List.length xL) Z) {S S' : Mem} {r : Int32} (x1 : Int32) (h : fJ7_fill_37 S x1 = some (r, S')) : XM l yJ7_fill_53178 cJ7_fill_53178 4 none { frames := 0, cells := 0, slots := 0, locals := 0 } xL Z [.ref (Z.2.1 37), .int x1] S (XV xL Z S') := by
  refine XM.of (own := RJ7) (by decide +kernel) rfl rfl hQ (fun p e s m args below meth c E ls hl X => ?_)
  exact wJ7_fill_37 E S x1 h _ _ _ X hl
def fX5_isAsTold_46 (k0 : Mem → Int32 → O) (S : Mem) (x1 : Int32) : O := k0 S (x1 + (1 : Int32))
def fX5_isAsTold_2_b (k0 : Mem → Int32 → O) (S : Mem) (x1 : Int32) : O := (if (S 1 9) ≤ x1 then some ((1 : Int32), S) else gd (inB x1 10) <| (if (S 5 (x1).toNatClampNeg) = (-1 : Int32) then fX5_isAsTold_46 k0 S x1 else gd (inB x1 10) <| gd (inB x1 10) <| (if (S 5 (x1).toNatClampNeg) = (S 37 (x1).toNatClampNeg) then fX5_isAsTold_46 k0 S x1 else some ((0 : Int32), S))))
def fX5_isAsTold_2 : Nat → Mem → Int32 → O
  | 0 => fun _ _ => none
  | n + 1 => fX5_isAsTold_2_b (fX5_isAsTold_2 n)
def fX5_isAsTold (S : Mem) : O := fX5_isAsTold_2  FU S (0 : Int32)
theorem dX5_isAsTold_0 : decode cX5_isAsTold 0 = .ok (.iconst 0, 1) := by decide +kernel
theorem dX5_isAsTold_1 : decode cX5_isAsTold 1 = .ok (.istore_n 1, 1) := by decide +kernel
theorem dX5_isAsTold_2 : decode cX5_isAsTold 2 = .ok (.iload_n 1, 1) := by decide +kernel
theorem dX5_isAsTold_3 : decode cX5_isAsTold 3 = .ok (.aload_n 0, 1) := by decide +kernel
theorem dX5_isAsTold_4 : decode cX5_isAsTold 4 = .ok (.getfield 27, 3) := by decide +kernel
theorem dX5_isAsTold_7 : decode cX5_isAsTold 7 = .ok (.getfield 35, 3) := by decide +kernel
theorem dX5_isAsTold_10 : decode cX5_isAsTold 10 = .ok (.if_icmp .ge 42, 3) := by decide +kernel
theorem dX5_isAsTold_13 : decode cX5_isAsTold 13 = .ok (.aload_n 0, 1) := by decide +kernel
theorem dX5_isAsTold_14 : decode cX5_isAsTold 14 = .ok (.getfield 27, 3) := by decide +kernel
theorem dX5_isAsTold_17 : decode cX5_isAsTold 17 = .ok (.getfield 151, 3) := by decide +kernel
theorem dX5_isAsTold_20 : decode cX5_isAsTold 20 = .ok (.iload_n 1, 1) := by decide +kernel
theorem dX5_isAsTold_21 : decode cX5_isAsTold 21 = .ok (.iaload, 1) := by decide +kernel
theorem dX5_isAsTold_22 : decode cX5_isAsTold 22 = .ok (.iconst (-1), 1) := by decide +kernel
theorem dX5_isAsTold_23 : decode cX5_isAsTold 23 = .ok (.if_icmp .eq 23, 3) := by decide +kernel
theorem dX5_isAsTold_26 : decode cX5_isAsTold 26 = .ok (.aload_n 0, 1) := by decide +kernel
theorem dX5_isAsTold_27 : decode cX5_isAsTold 27 = .ok (.getfield 27, 3) := by decide +kernel
theorem dX5_isAsTold_30 : decode cX5_isAsTold 30 = .ok (.getfield 151, 3) := by decide +kernel
theorem dX5_isAsTold_33 : decode cX5_isAsTold 33 = .ok (.iload_n 1, 1) := by decide +kernel
theorem dX5_isAsTold_34 : decode cX5_isAsTold 34 = .ok (.iaload, 1) := by decide +kernel
theorem dX5_isAsTold_35 : decode cX5_isAsTold 35 = .ok (.aload_n 0, 1) := by decide +kernel
theorem dX5_isAsTold_36 : decode cX5_isAsTold 36 = .ok (.getfield 24, 3) := by decide +kernel
theorem dX5_isAsTold_39 : decode cX5_isAsTold 39 = .ok (.iload_n 1, 1) := by decide +kernel
theorem dX5_isAsTold_40 : decode cX5_isAsTold 40 = .ok (.iaload, 1) := by decide +kernel
theorem dX5_isAsTold_41 : decode cX5_isAsTold 41 = .ok (.if_icmp .eq 5, 3) := by decide +kernel
theorem dX5_isAsTold_44 : decode cX5_isAsTold 44 = .ok (.iconst 0, 1) := by decide +kernel
theorem dX5_isAsTold_45 : decode cX5_isAsTold 45 = .ok (.ireturn, 1) := by decide +kernel
theorem dX5_isAsTold_46 : decode cX5_isAsTold 46 = .ok (.iinc 1 1, 3) := by decide +kernel
theorem dX5_isAsTold_49 : decode cX5_isAsTold 49 = .ok (.goto (-47), 3) := by decide +kernel
theorem dX5_isAsTold_52 : decode cX5_isAsTold 52 = .ok (.iconst 1, 1) := by decide +kernel
theorem dX5_isAsTold_53 : decode cX5_isAsTold 53 = .ok (.ireturn, 1) := by decide +kernel
set_option maxRecDepth 20000 in
theorem wX5_isAsTold_46 {p : Program} {l : Launch} {e : Env} {s : State} {m : MethodId} {args : Array Value} {below : List Frame} {meth : Method} {c : Code} {Z : XG} {r : Int32} {S' : Mem} (E : XE p s m args meth c cX5_isAsTold 2 RX5 (some .boolean) xL Z) (k0 : Mem → Int32 → O)  (hk0 : ∀ (S : Mem) (x1 : Int32), k0 S x1 = some (r, S') → WN p l e { frames := 0, cells := 0, slots := 0, locals := 0 } s m args below meth c xL Z (XQ xL Z r S') S 2 2 [(0, .ref (Z.2.1 32)), (1, .int x1)] []) : ∀ (S : Mem) (x1 : Int32), fX5_isAsTold_46 k0 S x1 = some (r, S') → WN p l e { frames := 0, cells := 0, slots := 0, locals := 0 } s m args below meth c xL Z (XQ xL Z r S') S 46 2 [(0, .ref (Z.2.1 32)), (1, .int x1)] [] := by
  obtain ⟨hx, hb, -, -, -, -, -, -, -, hQ⟩ := id E
  intro S x1 h H locs ls X hl
  unfold fX5_isAsTold_46 at h
  refine lv_iinc (v := (x1 + (1 : Int32))) (lv' := [(1, .int (x1 + (1 : Int32))), (0, .ref (Z.2.1 32))]) hx hb dX5_isAsTold_46 hl (k := 1) rfl rfl (by decide) rfl (fun ls hl => ?_)
  refine lv_goto (tgt := 2) hx hb dX5_isAsTold_49 (by decide) ?_
  exact hk0 S (x1 + (1 : Int32)) h _ _ _ X (lv_sub hl [1, 0] rfl)
set_option maxRecDepth 20000 in
theorem wX5_isAsTold_2_b {p : Program} {l : Launch} {e : Env} {s : State} {m : MethodId} {args : Array Value} {below : List Frame} {meth : Method} {c : Code} {Z : XG} {r : Int32} {S' : Mem} (E : XE p s m args meth c cX5_isAsTold 2 RX5 (some .boolean) xL Z) (k0 : Mem → Int32 → O)  (hk0 : ∀ (S : Mem) (x1 : Int32), k0 S x1 = some (r, S') → WN p l e { frames := 0, cells := 0, slots := 0, locals := 0 } s m args below meth c xL Z (XQ xL Z r S') S 2 2 [(0, .ref (Z.2.1 32)), (1, .int x1)] []) : ∀ (S : Mem) (x1 : Int32), fX5_isAsTold_2_b k0 S x1 = some (r, S') → WN p l e { frames := 0, cells := 0, slots := 0, locals := 0 } s m args below meth c xL Z (XQ xL Z r S') S 2 2 [(0, .ref (Z.2.1 32)), (1, .int x1)] [] := by
  obtain ⟨hx, hb, -, -, -, -, -, -, -, hQ⟩ := id E
  intro S x1 h H locs ls X hl
  unfold fX5_isAsTold_2_b at h
  refine lv_iload_n hx hb dX5_isAsTold_2 rfl (lv_at hl 1 rfl) ?_
  refine lv_aload_n hx hb dX5_isAsTold_3 rfl (lv_at hl 0 rfl) ?_
  refine x_getr E X ffX5_27 rfl rfl dX5_isAsTold_4 ?_
  refine x_get E X ffX5_35 rfl rfl dX5_isAsTold_7 ?_
  refine lv_icmp_ge (tgt := 52) hx hb dX5_isAsTold_10 (by decide) (fun c_1 => ?_) (fun c_1 => ?_)
  · have h := if_t c_1 h
    refine lv_iconst (v := (1 : Int32)) hx hb dX5_isAsTold_52 (by decide) ?_
    exact x_zret E X rfl h dX5_isAsTold_53
  · have h := if_f c_1 h
    refine lv_aload_n hx hb dX5_isAsTold_13 rfl (lv_at hl 0 rfl) ?_
    refine x_getr E X ffX5_27 rfl rfl dX5_isAsTold_14 ?_
    refine x_getr E X ffX5_151 rfl rfl dX5_isAsTold_17 ?_
    refine lv_iload_n hx hb dX5_isAsTold_20 rfl (lv_at hl 1 rfl) ?_
    obtain ⟨g_2, h⟩ := gd_s h
    refine x_iald E X rfl g_2 dX5_isAsTold_21 ?_
    refine lv_iconst (v := (-1 : Int32)) hx hb dX5_isAsTold_22 (by decide) ?_
    refine lv_icmp_eq (tgt := 46) hx hb dX5_isAsTold_23 (by decide) (fun c_3 => ?_) (fun c_3 => ?_)
    · have h := if_t c_3 h
      exact wX5_isAsTold_46 E k0 hk0 S x1 h _ _ _ X hl
    · have h := if_f c_3 h
      refine lv_aload_n hx hb dX5_isAsTold_26 rfl (lv_at hl 0 rfl) ?_
      refine x_getr E X ffX5_27 rfl rfl dX5_isAsTold_27 ?_
      refine x_getr E X ffX5_151 rfl rfl dX5_isAsTold_30 ?_
      refine lv_iload_n hx hb dX5_isAsTold_33 rfl (lv_at hl 1 rfl) ?_
      obtain ⟨g_4, h⟩ := gd_s h
      refine x_iald E X rfl g_4 dX5_isAsTold_34 ?_
      refine lv_aload_n hx hb dX5_isAsTold_35 rfl (lv_at hl 0 rfl) ?_
      refine x_getr E X ffX5_24 rfl rfl dX5_isAsTold_36 ?_
      refine lv_iload_n hx hb dX5_isAsTold_39 rfl (lv_at hl 1 rfl) ?_
      obtain ⟨g_5, h⟩ := gd_s h
      refine x_iald E X rfl g_5 dX5_isAsTold_40 ?_
      refine lv_icmp_eq (tgt := 46) hx hb dX5_isAsTold_41 (by decide) (fun c_6 => ?_) (fun c_6 => ?_)
      · have h := if_t c_6 h
        exact wX5_isAsTold_46 E k0 hk0 S x1 h _ _ _ X hl
      · have h := if_f c_6 h
        refine lv_iconst (v := (0 : Int32)) hx hb dX5_isAsTold_44 (by decide) ?_
        exact x_zret E X rfl h dX5_isAsTold_45
theorem wX5_isAsTold_2 {p : Program} {l : Launch} {e : Env} {s : State} {m : MethodId} {args : Array Value} {below : List Frame} {meth : Method} {c : Code} {Z : XG} {r : Int32} {S' : Mem} (E : XE p s m args meth c cX5_isAsTold 2 RX5 (some .boolean) xL Z) : ∀ (n : Nat) (S : Mem) (x1 : Int32), fX5_isAsTold_2 n S x1 = some (r, S') → WN p l e { frames := 0, cells := 0, slots := 0, locals := 0 } s m args below meth c xL Z (XQ xL Z r S') S 2 2 [(0, .ref (Z.2.1 32)), (1, .int x1)] [] := by
  intro n
  induction n with
  | zero => intro S x1 h; exact absurd (show (none : O) = some _ from h) (by simp)
  | succ n ih => intro S x1 h; exact wX5_isAsTold_2_b E (fX5_isAsTold_2 n) ih S x1 h
set_option maxRecDepth 20000 in
theorem wX5_isAsTold {p : Program} {l : Launch} {e : Env} {s : State} {m : MethodId} {args : Array Value} {below : List Frame} {meth : Method} {c : Code} {Z : XG} {r : Int32} {S' : Mem} (E : XE p s m args meth c cX5_isAsTold 2 RX5 (some .boolean) xL Z) : ∀ (S : Mem), fX5_isAsTold  S  = some (r, S') → WN p l e { frames := 0, cells := 0, slots := 0, locals := 0 } s m args below meth c xL Z (XQ xL Z r S') S 0 2 [(0, .ref (Z.2.1 32))] [] := by
  obtain ⟨hx, hb, -, -, -, -, -, -, -, hQ⟩ := id E
  intro S  h H locs ls X hl
  unfold fX5_isAsTold at h
  refine lv_iconst (v := (0 : Int32)) hx hb dX5_isAsTold_0 (by decide) ?_
  refine lv_istore_n (lv' := [(1, .int (0 : Int32)), (0, .ref (Z.2.1 32))]) hx hb dX5_isAsTold_1 rfl hl (by decide) rfl (fun ls hl => ?_)
  exact wX5_isAsTold_2 E   FU S (0 : Int32) h _ _ _ X (lv_sub hl [1, 0] rfl)
/-- SevenToAShadow$Thought.isAsTold()Z -/
theorem mX5_isAsTold (l : Launch) (Z : XG) (hQ : wQ (List.length xL) Z) {S S' : Mem} {r : Int32} (h : fX5_isAsTold S  = some (r, S')) : XM l yX5_isAsTold cX5_isAsTold 2 (some .boolean) { frames := 0, cells := 0, slots := 0, locals := 0 } xL Z [.ref (Z.2.1 32)] S (XQ xL Z r S') := by
  refine XM.of (own := RX5) (by decide +kernel) rfl rfl hQ (fun p e s m args below meth c E ls hl X => ?_)
  exact wX5_isAsTold E S  h _ _ _ X hl
def fX5_addBurns_15_b (k0 : Mem → Int32 → Int32 → Int32 → Int32 → O) (S : Mem) (x1 x3 x4 x5 : Int32) : O := (if (S 1 9) ≤ x5 then some ((0 : Int32), S) else gd (inB x5 10) <| bnd (fX5_burnOf S x5 x1 x4) fun r_3 S_4 => gd (inB x5 10) <| ltm (mset S_4 37 (x5).toNatClampNeg ((S 37 (x5).toNatClampNeg) + (x3 * r_3))) fun S_6 => k0 S_6 x1 x3 x4 (x5 + (1 : Int32)))
def fX5_addBurns_15 : Nat → Mem → Int32 → Int32 → Int32 → Int32 → O
  | 0 => fun _ _ _ _ _ => none
  | n + 1 => fX5_addBurns_15_b (fX5_addBurns_15 n)
def fX5_addBurns (S : Mem) (x1 x2 x3 : Int32) : O := bnd (fX6_shadeIn S x1 x2 (-1 : Int32)) fun r_1 S_2 => fX5_addBurns_15  FU S_2 x1 x3 r_1 (0 : Int32)
theorem dX5_addBurns_0 : decode cX5_addBurns 0 = .ok (.aload_n 0, 1) := by decide +kernel
theorem dX5_addBurns_1 : decode cX5_addBurns 1 = .ok (.getfield 27, 3) := by decide +kernel
theorem dX5_addBurns_4 : decode cX5_addBurns 4 = .ok (.iload_n 1, 1) := by decide +kernel
theorem dX5_addBurns_5 : decode cX5_addBurns 5 = .ok (.iload_n 2, 1) := by decide +kernel
theorem dX5_addBurns_6 : decode cX5_addBurns 6 = .ok (.iconst (-1), 1) := by decide +kernel
theorem dX5_addBurns_7 : decode cX5_addBurns 7 = .ok (.invokevirtual 112, 3) := by decide +kernel
theorem dX5_addBurns_10 : decode cX5_addBurns 10 = .ok (.istore 4, 2) := by decide +kernel
theorem dX5_addBurns_12 : decode cX5_addBurns 12 = .ok (.iconst 0, 1) := by decide +kernel
theorem dX5_addBurns_13 : decode cX5_addBurns 13 = .ok (.istore 5, 2) := by decide +kernel
theorem dX5_addBurns_15 : decode cX5_addBurns 15 = .ok (.iload 5, 2) := by decide +kernel
theorem dX5_addBurns_17 : decode cX5_addBurns 17 = .ok (.aload_n 0, 1) := by decide +kernel
theorem dX5_addBurns_18 : decode cX5_addBurns 18 = .ok (.getfield 27, 3) := by decide +kernel
theorem dX5_addBurns_21 : decode cX5_addBurns 21 = .ok (.getfield 35, 3) := by decide +kernel
theorem dX5_addBurns_24 : decode cX5_addBurns 24 = .ok (.if_icmp .ge 30, 3) := by decide +kernel
theorem dX5_addBurns_27 : decode cX5_addBurns 27 = .ok (.aload_n 0, 1) := by decide +kernel
theorem dX5_addBurns_28 : decode cX5_addBurns 28 = .ok (.getfield 24, 3) := by decide +kernel
theorem dX5_addBurns_31 : decode cX5_addBurns 31 = .ok (.iload 5, 2) := by decide +kernel
theorem dX5_addBurns_33 : decode cX5_addBurns 33 = .ok (.dup2, 1) := by decide +kernel
theorem dX5_addBurns_34 : decode cX5_addBurns 34 = .ok (.iaload, 1) := by decide +kernel
theorem dX5_addBurns_35 : decode cX5_addBurns 35 = .ok (.iload_n 3, 1) := by decide +kernel
theorem dX5_addBurns_36 : decode cX5_addBurns 36 = .ok (.aload_n 0, 1) := by decide +kernel
theorem dX5_addBurns_37 : decode cX5_addBurns 37 = .ok (.iload 5, 2) := by decide +kernel
theorem dX5_addBurns_39 : decode cX5_addBurns 39 = .ok (.iload_n 1, 1) := by decide +kernel
theorem dX5_addBurns_40 : decode cX5_addBurns 40 = .ok (.iload 4, 2) := by decide +kernel
theorem dX5_addBurns_42 : decode cX5_addBurns 42 = .ok (.invokevirtual 115, 3) := by decide +kernel
theorem dX5_addBurns_45 : decode cX5_addBurns 45 = .ok (.imul, 1) := by decide +kernel
theorem dX5_addBurns_46 : decode cX5_addBurns 46 = .ok (.iadd, 1) := by decide +kernel
theorem dX5_addBurns_47 : decode cX5_addBurns 47 = .ok (.iastore, 1) := by decide +kernel
theorem dX5_addBurns_48 : decode cX5_addBurns 48 = .ok (.iinc 5 1, 3) := by decide +kernel
theorem dX5_addBurns_51 : decode cX5_addBurns 51 = .ok (.goto (-36), 3) := by decide +kernel
theorem dX5_addBurns_54 : decode cX5_addBurns 54 = .ok (.return_, 1) := by decide +kernel
set_option maxRecDepth 20000 in
theorem wX5_addBurns_15_b {p : Program} {l : Launch} {e : Env} {s : State} {m : MethodId} {args : Array Value} {below : List Frame} {meth : Method} {c : Code} {Z : XG} {r : Int32} {S' : Mem} (E : XE p s m args meth c cX5_addBurns 6 RX5 none xL Z) (k0 : Mem → Int32 → Int32 → Int32 → Int32 → O)  (hk0 : ∀ (S : Mem) (x1 x3 x4 x5 : Int32), k0 S x1 x3 x4 x5 = some (r, S') → WN p l e { frames := 4, cells := 0, slots := 0, locals := 99 } s m args below meth c xL Z (XV xL Z S') S 15 6 [(0, .ref (Z.2.1 32)), (1, .int x1), (3, .int x3), (4, .int x4), (5, .int x5)] []) : ∀ (S : Mem) (x1 x3 x4 x5 : Int32), fX5_addBurns_15_b k0 S x1 x3 x4 x5 = some (r, S') → WN p l e { frames := 4, cells := 0, slots := 0, locals := 99 } s m args below meth c xL Z (XV xL Z S') S 15 6 [(0, .ref (Z.2.1 32)), (1, .int x1), (3, .int x3), (4, .int x4), (5, .int x5)] [] := by
  obtain ⟨hx, hb, -, -, -, -, -, -, -, hQ⟩ := id E
  intro S x1 x3 x4 x5 h H locs ls X hl
  unfold fX5_addBurns_15_b at h
  refine lv_iload hx hb dX5_addBurns_15 (lv_at hl 4 rfl) ?_
  refine lv_aload_n hx hb dX5_addBurns_17 rfl (lv_at hl 0 rfl) ?_
  refine x_getr E X ffX5_27 rfl rfl dX5_addBurns_18 ?_
  refine x_get E X ffX5_35 rfl rfl dX5_addBurns_21 ?_
  refine lv_icmp_ge (tgt := 54) hx hb dX5_addBurns_24 (by decide) (fun c_1 => ?_) (fun c_1 => ?_)
  · have h := if_t c_1 h
    exact x_vret E X h dX5_addBurns_54
  · have h := if_f c_1 h
    refine lv_aload_n hx hb dX5_addBurns_27 rfl (lv_at hl 0 rfl) ?_
    refine x_getr E X ffX5_24 rfl rfl dX5_addBurns_28 ?_
    refine lv_iload hx hb dX5_addBurns_31 (lv_at hl 4 rfl) ?_
    refine lv_dup2_11 hx hb dX5_addBurns_33 rfl rfl ?_
    obtain ⟨g_2, h⟩ := gd_s h
    refine x_iald E X rfl g_2 dX5_addBurns_34 ?_
    refine lv_iload_n hx hb dX5_addBurns_35 rfl (lv_at hl 2 rfl) ?_
    refine lv_aload_n hx hb dX5_addBurns_36 rfl (lv_at hl 0 rfl) ?_
    refine lv_iload hx hb dX5_addBurns_37 (lv_at hl 4 rfl) ?_
    refine lv_iload_n hx hb dX5_addBurns_39 rfl (lv_at hl 1 rfl) ?_
    refine lv_iload hx hb dX5_addBurns_40 (lv_at hl 3 rfl) ?_
    obtain ⟨r_3, S_4, hr_3, h⟩ := bnd_s h
    refine x_callV E X cwX5_115 (mX5_burnOf l Z hQ  x5 x1 x4 hr_3) rfl rfl rfl rfl hl.1 rfl dX5_addBurns_42 (fun H locs X => ?_)
    refine lv_imul hx hb dX5_addBurns_45 ?_
    refine lv_iadd hx hb dX5_addBurns_46 ?_
    obtain ⟨g_5, h⟩ := gd_s h
    obtain ⟨S_6, eS_6, h⟩ := ltm_s h
    refine x_iast E X rfl g_5 dX5_addBurns_47 (fun H locs X => ?_)
    rw [← eS_6] at X
    refine lv_iinc (v := (x5 + (1 : Int32))) (lv' := [(5, .int (x5 + (1 : Int32))), (0, .ref (Z.2.1 32)), (1, .int x1), (3, .int x3), (4, .int x4)]) hx hb dX5_addBurns_48 hl (k := 4) rfl rfl (by decide) rfl (fun ls hl => ?_)
    refine lv_goto (tgt := 15) hx hb dX5_addBurns_51 (by decide) ?_
    exact hk0 S_6 x1 x3 x4 (x5 + (1 : Int32)) h _ _ _ X (lv_sub hl [1, 2, 3, 4, 0] rfl)
theorem wX5_addBurns_15 {p : Program} {l : Launch} {e : Env} {s : State} {m : MethodId} {args : Array Value} {below : List Frame} {meth : Method} {c : Code} {Z : XG} {r : Int32} {S' : Mem} (E : XE p s m args meth c cX5_addBurns 6 RX5 none xL Z) : ∀ (n : Nat) (S : Mem) (x1 x3 x4 x5 : Int32), fX5_addBurns_15 n S x1 x3 x4 x5 = some (r, S') → WN p l e { frames := 4, cells := 0, slots := 0, locals := 99 } s m args below meth c xL Z (XV xL Z S') S 15 6 [(0, .ref (Z.2.1 32)), (1, .int x1), (3, .int x3), (4, .int x4), (5, .int x5)] [] := by
  intro n
  induction n with
  | zero => intro S x1 x3 x4 x5 h; exact absurd (show (none : O) = some _ from h) (by simp)
  | succ n ih => intro S x1 x3 x4 x5 h; exact wX5_addBurns_15_b E (fX5_addBurns_15 n) ih S x1 x3 x4 x5 h
set_option maxRecDepth 20000 in
theorem wX5_addBurns {p : Program} {l : Launch} {e : Env} {s : State} {m : MethodId} {args : Array Value} {below : List Frame} {meth : Method} {c : Code} {Z : XG} {r : Int32} {S' : Mem} (E : XE p s m args meth c cX5_addBurns 6 RX5 none xL Z) : ∀ (S : Mem) (x1 x2 x3 : Int32), fX5_addBurns  S x1 x2 x3 = some (r, S') → WN p l e { frames := 4, cells := 0, slots := 0, locals := 99 } s m args below meth c xL Z (XV xL Z S') S 0 6 [(0, .ref (Z.2.1 32)), (1, .int x1), (2, .int x2), (3, .int x3)] [] := by
  obtain ⟨hx, hb, -, -, -, -, -, -, -, hQ⟩ := id E
  intro S x1 x2 x3 h H locs ls X hl
  unfold fX5_addBurns at h
  refine lv_aload_n hx hb dX5_addBurns_0 rfl (lv_at hl 0 rfl) ?_
  refine x_getr E X ffX5_27 rfl rfl dX5_addBurns_1 ?_
  refine lv_iload_n hx hb dX5_addBurns_4 rfl (lv_at hl 1 rfl) ?_
  refine lv_iload_n hx hb dX5_addBurns_5 rfl (lv_at hl 2 rfl) ?_
  refine lv_iconst (v := (-1 : Int32)) hx hb dX5_addBurns_6 (by decide) ?_
  obtain ⟨r_1, S_2, hr_1, h⟩ := bnd_s h
  refine x_callV E X cwX5_112 (mX6_shadeIn l Z hQ  x1 x2 (-1 : Int32) hr_1) rfl rfl rfl rfl hl.1 rfl dX5_addBurns_7 (fun H locs X => ?_)
  refine lv_istore (lv' := [(4, .int r_1), (0, .ref (Z.2.1 32)), (1, .int x1), (2, .int x2), (3, .int x3)]) hx hb dX5_addBurns_10 hl (by decide) rfl (fun ls hl => ?_)
  refine lv_iconst (v := (0 : Int32)) hx hb dX5_addBurns_12 (by decide) ?_
  refine lv_istore (lv' := [(5, .int (0 : Int32)), (4, .int r_1), (0, .ref (Z.2.1 32)), (1, .int x1), (2, .int x2), (3, .int x3)]) hx hb dX5_addBurns_13 hl (by decide) rfl (fun ls hl => ?_)
  exact wX5_addBurns_15 E   FU S_2 x1 x3 r_1 (0 : Int32) h _ _ _ X (lv_sub hl [2, 3, 5, 1, 0] rfl)
/-- SevenToAShadow$Thought.addBurns(III)V -/
theorem mX5_addBurns (l : Launch) (Z : XG) (hQ : wQ (List.length xL) Z) {S S' : Mem} {r : Int32} (x1 x2 x3 : Int32) (h : fX5_addBurns S x1 x2 x3 = some (r, S')) : XM l yX5_addBurns cX5_addBurns 6 none { frames := 4, cells := 0, slots := 0, locals := 99 } xL Z [.ref (Z.2.1 32), .int x1, .int x2, .int x3] S (XV xL Z S') := by
  refine XM.of (own := RX5) (by decide +kernel) rfl rfl hQ (fun p e s m args below meth c E ls hl X => ?_)
  exact wX5_addBurns E S x1 x2 x3 h _ _ _ X hl
def fX5_tryTurning_41 (S : Mem) (x1 x2 : Int32) : O := bnd (fX5_addBurns S x1 x2 (-1 : Int32)) fun _ S_2 => some ((0 : Int32), S_2)
def fX5_tryTurning_31 (S : Mem) (x1 x2 : Int32) : O := ltm (mset S 32 6 ((S 32 6) + (1 : Int32))) fun S_1 => fX5_tryTurning_41  S_1 x1 x2
def fX5_tryTurning (S : Mem) (x1 x2 : Int32) : O := bnd (fX5_addBurns S x1 x2 (1 : Int32)) fun _ S_2 => bnd (fX5_isAsTold S_2 ) fun r_3 S_4 => (if r_3 = 0 then fX5_tryTurning_41  S_4 x1 x2 else (if (S_4 32 6) = 0 then ltm (mset S_4 32 7 x1) fun S_7 => ltm (mset S_7 32 8 x2) fun S_8 => fX5_tryTurning_31  S_8 x1 x2 else fX5_tryTurning_31  S_4 x1 x2))
theorem dX5_tryTurning_0 : decode cX5_tryTurning 0 = .ok (.aload_n 0, 1) := by decide +kernel
theorem dX5_tryTurning_1 : decode cX5_tryTurning 1 = .ok (.iload_n 1, 1) := by decide +kernel
theorem dX5_tryTurning_2 : decode cX5_tryTurning 2 = .ok (.iload_n 2, 1) := by decide +kernel
theorem dX5_tryTurning_3 : decode cX5_tryTurning 3 = .ok (.iconst 1, 1) := by decide +kernel
theorem dX5_tryTurning_4 : decode cX5_tryTurning 4 = .ok (.invokevirtual 136, 3) := by decide +kernel
theorem dX5_tryTurning_7 : decode cX5_tryTurning 7 = .ok (.aload_n 0, 1) := by decide +kernel
theorem dX5_tryTurning_8 : decode cX5_tryTurning 8 = .ok (.invokevirtual 140, 3) := by decide +kernel
theorem dX5_tryTurning_11 : decode cX5_tryTurning 11 = .ok (.ifCond .eq 30, 3) := by decide +kernel
theorem dX5_tryTurning_14 : decode cX5_tryTurning 14 = .ok (.aload_n 0, 1) := by decide +kernel
theorem dX5_tryTurning_15 : decode cX5_tryTurning 15 = .ok (.getfield 127, 3) := by decide +kernel
theorem dX5_tryTurning_18 : decode cX5_tryTurning 18 = .ok (.ifCond .ne 13, 3) := by decide +kernel
theorem dX5_tryTurning_21 : decode cX5_tryTurning 21 = .ok (.aload_n 0, 1) := by decide +kernel
theorem dX5_tryTurning_22 : decode cX5_tryTurning 22 = .ok (.iload_n 1, 1) := by decide +kernel
theorem dX5_tryTurning_23 : decode cX5_tryTurning 23 = .ok (.putfield 130, 3) := by decide +kernel
theorem dX5_tryTurning_26 : decode cX5_tryTurning 26 = .ok (.aload_n 0, 1) := by decide +kernel
theorem dX5_tryTurning_27 : decode cX5_tryTurning 27 = .ok (.iload_n 2, 1) := by decide +kernel
theorem dX5_tryTurning_28 : decode cX5_tryTurning 28 = .ok (.putfield 133, 3) := by decide +kernel
theorem dX5_tryTurning_31 : decode cX5_tryTurning 31 = .ok (.aload_n 0, 1) := by decide +kernel
theorem dX5_tryTurning_32 : decode cX5_tryTurning 32 = .ok (.dup, 1) := by decide +kernel
theorem dX5_tryTurning_33 : decode cX5_tryTurning 33 = .ok (.getfield 127, 3) := by decide +kernel
theorem dX5_tryTurning_36 : decode cX5_tryTurning 36 = .ok (.iconst 1, 1) := by decide +kernel
theorem dX5_tryTurning_37 : decode cX5_tryTurning 37 = .ok (.iadd, 1) := by decide +kernel
theorem dX5_tryTurning_38 : decode cX5_tryTurning 38 = .ok (.putfield 127, 3) := by decide +kernel
theorem dX5_tryTurning_41 : decode cX5_tryTurning 41 = .ok (.aload_n 0, 1) := by decide +kernel
theorem dX5_tryTurning_42 : decode cX5_tryTurning 42 = .ok (.iload_n 1, 1) := by decide +kernel
theorem dX5_tryTurning_43 : decode cX5_tryTurning 43 = .ok (.iload_n 2, 1) := by decide +kernel
theorem dX5_tryTurning_44 : decode cX5_tryTurning 44 = .ok (.iconst (-1), 1) := by decide +kernel
theorem dX5_tryTurning_45 : decode cX5_tryTurning 45 = .ok (.invokevirtual 136, 3) := by decide +kernel
theorem dX5_tryTurning_48 : decode cX5_tryTurning 48 = .ok (.return_, 1) := by decide +kernel
set_option maxRecDepth 20000 in
theorem wX5_tryTurning_41 {p : Program} {l : Launch} {e : Env} {s : State} {m : MethodId} {args : Array Value} {below : List Frame} {meth : Method} {c : Code} {Z : XG} {r : Int32} {S' : Mem} (E : XE p s m args meth c cX5_tryTurning 3 RX5 none xL Z) : ∀ (S : Mem) (x1 x2 : Int32), fX5_tryTurning_41  S x1 x2 = some (r, S') → WN p l e { frames := 5, cells := 0, slots := 0, locals := 124 } s m args below meth c xL Z (XV xL Z S') S 41 3 [(0, .ref (Z.2.1 32)), (1, .int x1), (2, .int x2)] [] := by
  obtain ⟨hx, hb, -, -, -, -, -, -, -, hQ⟩ := id E
  intro S x1 x2 h H locs ls X hl
  unfold fX5_tryTurning_41 at h
  refine lv_aload_n hx hb dX5_tryTurning_41 rfl (lv_at hl 0 rfl) ?_
  refine lv_iload_n hx hb dX5_tryTurning_42 rfl (lv_at hl 1 rfl) ?_
  refine lv_iload_n hx hb dX5_tryTurning_43 rfl (lv_at hl 2 rfl) ?_
  refine lv_iconst (v := (-1 : Int32)) hx hb dX5_tryTurning_44 (by decide) ?_
  obtain ⟨r_1, S_2, hr_1, h⟩ := bnd_s h
  refine x_callVv E X cwX5_136 (mX5_addBurns l Z hQ  x1 x2 (-1 : Int32) hr_1) rfl rfl rfl rfl hl.1 rfl dX5_tryTurning_45 (fun H locs X => ?_)
  exact x_vret E X h dX5_tryTurning_48
set_option maxRecDepth 20000 in
theorem wX5_tryTurning_31 {p : Program} {l : Launch} {e : Env} {s : State} {m : MethodId} {args : Array Value} {below : List Frame} {meth : Method} {c : Code} {Z : XG} {r : Int32} {S' : Mem} (E : XE p s m args meth c cX5_tryTurning 3 RX5 none xL Z) : ∀ (S : Mem) (x1 x2 : Int32), fX5_tryTurning_31  S x1 x2 = some (r, S') → WN p l e { frames := 5, cells := 0, slots := 0, locals := 124 } s m args below meth c xL Z (XV xL Z S') S 31 3 [(0, .ref (Z.2.1 32)), (1, .int x1), (2, .int x2)] [] := by
  obtain ⟨hx, hb, -, -, -, -, -, -, -, hQ⟩ := id E
  intro S x1 x2 h H locs ls X hl
  unfold fX5_tryTurning_31 at h
  refine lv_aload_n hx hb dX5_tryTurning_31 rfl (lv_at hl 0 rfl) ?_
  refine lv_dup hx hb dX5_tryTurning_32 rfl ?_
  refine x_get E X ffX5_127 rfl rfl dX5_tryTurning_33 ?_
  refine lv_iconst (v := (1 : Int32)) hx hb dX5_tryTurning_36 (by decide) ?_
  refine lv_iadd hx hb dX5_tryTurning_37 ?_
  obtain ⟨S_1, eS_1, h⟩ := ltm_s h
  refine x_put E X fpX5_127 rfl rfl dX5_tryTurning_38 (fun H locs X => ?_)
  rw [← eS_1] at X
  exact wX5_tryTurning_41 E   S_1 x1 x2 h _ _ _ X hl
set_option maxRecDepth 20000 in
theorem wX5_tryTurning {p : Program} {l : Launch} {e : Env} {s : State} {m : MethodId} {args : Array Value} {below : List Frame} {meth : Method} {c : Code} {Z : XG} {r : Int32} {S' : Mem} (E : XE p s m args meth c cX5_tryTurning 3 RX5 none xL Z) : ∀ (S : Mem) (x1 x2 : Int32), fX5_tryTurning  S x1 x2 = some (r, S') → WN p l e { frames := 5, cells := 0, slots := 0, locals := 124 } s m args below meth c xL Z (XV xL Z S') S 0 3 [(0, .ref (Z.2.1 32)), (1, .int x1), (2, .int x2)] [] := by
  obtain ⟨hx, hb, -, -, -, -, -, -, -, hQ⟩ := id E
  intro S x1 x2 h H locs ls X hl
  unfold fX5_tryTurning at h
  refine lv_aload_n hx hb dX5_tryTurning_0 rfl (lv_at hl 0 rfl) ?_
  refine lv_iload_n hx hb dX5_tryTurning_1 rfl (lv_at hl 1 rfl) ?_
  refine lv_iload_n hx hb dX5_tryTurning_2 rfl (lv_at hl 2 rfl) ?_
  refine lv_iconst (v := (1 : Int32)) hx hb dX5_tryTurning_3 (by decide) ?_
  obtain ⟨r_1, S_2, hr_1, h⟩ := bnd_s h
  refine x_callVv E X cwX5_136 (mX5_addBurns l Z hQ  x1 x2 (1 : Int32) hr_1) rfl rfl rfl rfl hl.1 rfl dX5_tryTurning_4 (fun H locs X => ?_)
  refine lv_aload_n hx hb dX5_tryTurning_7 rfl (lv_at hl 0 rfl) ?_
  obtain ⟨r_3, S_4, hr_3, h⟩ := bnd_s h
  refine x_callV E X cwX5_140 (mX5_isAsTold l Z hQ   hr_3) rfl rfl rfl rfl hl.1 rfl dX5_tryTurning_8 (fun H locs X => ?_)
  refine lv_if_eq (tgt := 41) hx hb dX5_tryTurning_11 (by decide) (fun c_5 => ?_) (fun c_5 => ?_)
  · have h := if_t c_5 h
    exact wX5_tryTurning_41 E   S_4 x1 x2 h _ _ _ X hl
  · have h := if_f c_5 h
    refine lv_aload_n hx hb dX5_tryTurning_14 rfl (lv_at hl 0 rfl) ?_
    refine x_get E X ffX5_127 rfl rfl dX5_tryTurning_15 ?_
    refine lv_if_ne (tgt := 31) hx hb dX5_tryTurning_18 (by decide) (fun c_6 => ?_) (fun c_6 => ?_)
    · have h := if_f c_6 h
      exact wX5_tryTurning_31 E   S_4 x1 x2 h _ _ _ X hl
    · have h := if_t c_6 h
      refine lv_aload_n hx hb dX5_tryTurning_21 rfl (lv_at hl 0 rfl) ?_
      refine lv_iload_n hx hb dX5_tryTurning_22 rfl (lv_at hl 1 rfl) ?_
      obtain ⟨S_7, eS_7, h⟩ := ltm_s h
      refine x_put E X fpX5_130 rfl rfl dX5_tryTurning_23 (fun H locs X => ?_)
      rw [← eS_7] at X
      refine lv_aload_n hx hb dX5_tryTurning_26 rfl (lv_at hl 0 rfl) ?_
      refine lv_iload_n hx hb dX5_tryTurning_27 rfl (lv_at hl 2 rfl) ?_
      obtain ⟨S_8, eS_8, h⟩ := ltm_s h
      refine x_put E X fpX5_133 rfl rfl dX5_tryTurning_28 (fun H locs X => ?_)
      rw [← eS_8] at X
      exact wX5_tryTurning_31 E   S_8 x1 x2 h _ _ _ X hl
/-- SevenToAShadow$Thought.tryTurning(II)V -/
theorem mX5_tryTurning (l : Launch) (Z : XG) (hQ : wQ (List.length xL) Z) {S S' : Mem} {r : Int32} (x1 x2 : Int32) (h : fX5_tryTurning S x1 x2 = some (r, S')) : XM l yX5_tryTurning cX5_tryTurning 3 none { frames := 5, cells := 0, slots := 0, locals := 124 } xL Z [.ref (Z.2.1 32), .int x1, .int x2] S (XV xL Z S') := by
  refine XM.of (own := RX5) (by decide +kernel) rfl rfl hQ (fun p e s m args below meth c E ls hl X => ?_)
  exact wX5_tryTurning E S x1 x2 h _ _ _ X hl
def fX5_findThieves_110 (k0 : Mem → Int32 → O) (k1 : Mem → Int32 → Int32 → O) (S : Mem) (x1 x2 : Int32) : O := k1 S x1 (x2 + (1 : Int32))
def fX5_findThieves_85_b (k0 : Mem → Int32 → O) (k1 : Mem → Int32 → Int32 → O) (S : Mem) (x1 x2 : Int32) : O := (if (7 : Int32) < x2 then bnd (fX6_inHour S x1 (3 : Int32)) fun r_2 S_3 => bnd (fX5_addBurns S_3 x1 r_2 (1 : Int32)) fun _ S_5 => k0 S_5 (x1 + (1 : Int32)) else bnd (fX6_inHour S x1 (3 : Int32)) fun r_6 S_7 => (if x2 = r_6 then fX5_findThieves_110 k0 k1 S_7 x1 x2 else bnd (fX5_tryTurning S_7 x1 x2) fun _ S_10 => fX5_findThieves_110 k0 k1 S_10 x1 x2))
def fX5_findThieves_85 (k0 : Mem → Int32 → O) : Nat → Mem → Int32 → Int32 → O
  | 0 => fun _ _ _ => none
  | n + 1 => fX5_findThieves_85_b k0 (fX5_findThieves_85 k0 n)
def fX5_findThieves_62_b (k0 : Mem → Int32 → O) (S : Mem) (x1 : Int32) : O := (if (12 : Int32) ≤ x1 then some ((0 : Int32), S) else bnd (fX6_inHour S x1 (3 : Int32)) fun r_2 S_3 => bnd (fX5_addBurns S_3 x1 r_2 (-1 : Int32)) fun _ S_5 => fX5_findThieves_85 k0 FU S_5 x1 (0 : Int32))
def fX5_findThieves_62 : Nat → Mem → Int32 → O
  | 0 => fun _ _ => none
  | n + 1 => fX5_findThieves_62_b (fX5_findThieves_62 n)
def fX5_findThieves_25_b (k0 : Mem → Int32 → O) (S : Mem) (x1 : Int32) : O := (if (12 : Int32) ≤ x1 then bnd (fX5_isAsTold S ) fun r_2 S_3 => gd (isB r_2) <| ltm (mset S_3 32 9 r_2) fun S_5 => fX5_findThieves_62  FU S_5 (0 : Int32) else bnd (fX6_inHour S x1 (3 : Int32)) fun r_6 S_7 => bnd (fX5_addBurns S_7 x1 r_6 (1 : Int32)) fun _ S_9 => k0 S_9 (x1 + (1 : Int32)))
def fX5_findThieves_25 : Nat → Mem → Int32 → O
  | 0 => fun _ _ => none
  | n + 1 => fX5_findThieves_25_b (fX5_findThieves_25 n)
def fX5_findThieves (S : Mem) : O := ltm (mset S 32 6 (0 : Int32)) fun S_1 => ltm (mset S_1 32 7 (-1 : Int32)) fun S_2 => ltm (mset S_2 32 8 (-1 : Int32)) fun S_3 => bnd (fJ7_fill_37 S_3 (0 : Int32)) fun _ S_5 => fX5_findThieves_25  FU S_5 (0 : Int32)
theorem dX5_findThieves_0 : decode cX5_findThieves 0 = .ok (.aload_n 0, 1) := by decide +kernel
theorem dX5_findThieves_1 : decode cX5_findThieves 1 = .ok (.iconst 0, 1) := by decide +kernel
theorem dX5_findThieves_2 : decode cX5_findThieves 2 = .ok (.putfield 127, 3) := by decide +kernel
theorem dX5_findThieves_5 : decode cX5_findThieves 5 = .ok (.aload_n 0, 1) := by decide +kernel
theorem dX5_findThieves_6 : decode cX5_findThieves 6 = .ok (.iconst (-1), 1) := by decide +kernel
theorem dX5_findThieves_7 : decode cX5_findThieves 7 = .ok (.putfield 130, 3) := by decide +kernel
theorem dX5_findThieves_10 : decode cX5_findThieves 10 = .ok (.aload_n 0, 1) := by decide +kernel
theorem dX5_findThieves_11 : decode cX5_findThieves 11 = .ok (.iconst (-1), 1) := by decide +kernel
theorem dX5_findThieves_12 : decode cX5_findThieves 12 = .ok (.putfield 133, 3) := by decide +kernel
theorem dX5_findThieves_15 : decode cX5_findThieves 15 = .ok (.aload_n 0, 1) := by decide +kernel
theorem dX5_findThieves_16 : decode cX5_findThieves 16 = .ok (.getfield 24, 3) := by decide +kernel
theorem dX5_findThieves_19 : decode cX5_findThieves 19 = .ok (.iconst 0, 1) := by decide +kernel
theorem dX5_findThieves_20 : decode cX5_findThieves 20 = .ok (.invokestatic 52, 3) := by decide +kernel
theorem dX5_findThieves_23 : decode cX5_findThieves 23 = .ok (.iconst 0, 1) := by decide +kernel
theorem dX5_findThieves_24 : decode cX5_findThieves 24 = .ok (.istore_n 1, 1) := by decide +kernel
theorem dX5_findThieves_25 : decode cX5_findThieves 25 = .ok (.iload_n 1, 1) := by decide +kernel
theorem dX5_findThieves_26 : decode cX5_findThieves 26 = .ok (.bipush 12, 2) := by decide +kernel
theorem dX5_findThieves_28 : decode cX5_findThieves 28 = .ok (.if_icmp .ge 24, 3) := by decide +kernel
theorem dX5_findThieves_31 : decode cX5_findThieves 31 = .ok (.aload_n 0, 1) := by decide +kernel
theorem dX5_findThieves_32 : decode cX5_findThieves 32 = .ok (.iload_n 1, 1) := by decide +kernel
theorem dX5_findThieves_33 : decode cX5_findThieves 33 = .ok (.aload_n 0, 1) := by decide +kernel
theorem dX5_findThieves_34 : decode cX5_findThieves 34 = .ok (.getfield 27, 3) := by decide +kernel
theorem dX5_findThieves_37 : decode cX5_findThieves 37 = .ok (.iload_n 1, 1) := by decide +kernel
theorem dX5_findThieves_38 : decode cX5_findThieves 38 = .ok (.iconst 3, 1) := by decide +kernel
theorem dX5_findThieves_39 : decode cX5_findThieves 39 = .ok (.invokevirtual 58, 3) := by decide +kernel
theorem dX5_findThieves_42 : decode cX5_findThieves 42 = .ok (.iconst 1, 1) := by decide +kernel
theorem dX5_findThieves_43 : decode cX5_findThieves 43 = .ok (.invokevirtual 136, 3) := by decide +kernel
theorem dX5_findThieves_46 : decode cX5_findThieves 46 = .ok (.iinc 1 1, 3) := by decide +kernel
theorem dX5_findThieves_49 : decode cX5_findThieves 49 = .ok (.goto (-24), 3) := by decide +kernel
theorem dX5_findThieves_52 : decode cX5_findThieves 52 = .ok (.aload_n 0, 1) := by decide +kernel
theorem dX5_findThieves_53 : decode cX5_findThieves 53 = .ok (.aload_n 0, 1) := by decide +kernel
theorem dX5_findThieves_54 : decode cX5_findThieves 54 = .ok (.invokevirtual 140, 3) := by decide +kernel
theorem dX5_findThieves_57 : decode cX5_findThieves 57 = .ok (.putfield 144, 3) := by decide +kernel
theorem dX5_findThieves_60 : decode cX5_findThieves 60 = .ok (.iconst 0, 1) := by decide +kernel
theorem dX5_findThieves_61 : decode cX5_findThieves 61 = .ok (.istore_n 1, 1) := by decide +kernel
theorem dX5_findThieves_62 : decode cX5_findThieves 62 = .ok (.iload_n 1, 1) := by decide +kernel
theorem dX5_findThieves_63 : decode cX5_findThieves 63 = .ok (.bipush 12, 2) := by decide +kernel
theorem dX5_findThieves_65 : decode cX5_findThieves 65 = .ok (.if_icmp .ge 72, 3) := by decide +kernel
theorem dX5_findThieves_68 : decode cX5_findThieves 68 = .ok (.aload_n 0, 1) := by decide +kernel
theorem dX5_findThieves_69 : decode cX5_findThieves 69 = .ok (.iload_n 1, 1) := by decide +kernel
theorem dX5_findThieves_70 : decode cX5_findThieves 70 = .ok (.aload_n 0, 1) := by decide +kernel
theorem dX5_findThieves_71 : decode cX5_findThieves 71 = .ok (.getfield 27, 3) := by decide +kernel
theorem dX5_findThieves_74 : decode cX5_findThieves 74 = .ok (.iload_n 1, 1) := by decide +kernel
theorem dX5_findThieves_75 : decode cX5_findThieves 75 = .ok (.iconst 3, 1) := by decide +kernel
theorem dX5_findThieves_76 : decode cX5_findThieves 76 = .ok (.invokevirtual 58, 3) := by decide +kernel
theorem dX5_findThieves_79 : decode cX5_findThieves 79 = .ok (.iconst (-1), 1) := by decide +kernel
theorem dX5_findThieves_80 : decode cX5_findThieves 80 = .ok (.invokevirtual 136, 3) := by decide +kernel
theorem dX5_findThieves_83 : decode cX5_findThieves 83 = .ok (.iconst 0, 1) := by decide +kernel
theorem dX5_findThieves_84 : decode cX5_findThieves 84 = .ok (.istore_n 2, 1) := by decide +kernel
theorem dX5_findThieves_85 : decode cX5_findThieves 85 = .ok (.iload_n 2, 1) := by decide +kernel
theorem dX5_findThieves_86 : decode cX5_findThieves 86 = .ok (.bipush 7, 2) := by decide +kernel
theorem dX5_findThieves_88 : decode cX5_findThieves 88 = .ok (.if_icmp .gt 28, 3) := by decide +kernel
theorem dX5_findThieves_91 : decode cX5_findThieves 91 = .ok (.iload_n 2, 1) := by decide +kernel
theorem dX5_findThieves_92 : decode cX5_findThieves 92 = .ok (.aload_n 0, 1) := by decide +kernel
theorem dX5_findThieves_93 : decode cX5_findThieves 93 = .ok (.getfield 27, 3) := by decide +kernel
theorem dX5_findThieves_96 : decode cX5_findThieves 96 = .ok (.iload_n 1, 1) := by decide +kernel
theorem dX5_findThieves_97 : decode cX5_findThieves 97 = .ok (.iconst 3, 1) := by decide +kernel
theorem dX5_findThieves_98 : decode cX5_findThieves 98 = .ok (.invokevirtual 58, 3) := by decide +kernel
theorem dX5_findThieves_101 : decode cX5_findThieves 101 = .ok (.if_icmp .eq 9, 3) := by decide +kernel
theorem dX5_findThieves_104 : decode cX5_findThieves 104 = .ok (.aload_n 0, 1) := by decide +kernel
theorem dX5_findThieves_105 : decode cX5_findThieves 105 = .ok (.iload_n 1, 1) := by decide +kernel
theorem dX5_findThieves_106 : decode cX5_findThieves 106 = .ok (.iload_n 2, 1) := by decide +kernel
theorem dX5_findThieves_107 : decode cX5_findThieves 107 = .ok (.invokevirtual 148, 3) := by decide +kernel
theorem dX5_findThieves_110 : decode cX5_findThieves 110 = .ok (.iinc 2 1, 3) := by decide +kernel
theorem dX5_findThieves_113 : decode cX5_findThieves 113 = .ok (.goto (-28), 3) := by decide +kernel
theorem dX5_findThieves_116 : decode cX5_findThieves 116 = .ok (.aload_n 0, 1) := by decide +kernel
theorem dX5_findThieves_117 : decode cX5_findThieves 117 = .ok (.iload_n 1, 1) := by decide +kernel
theorem dX5_findThieves_118 : decode cX5_findThieves 118 = .ok (.aload_n 0, 1) := by decide +kernel
theorem dX5_findThieves_119 : decode cX5_findThieves 119 = .ok (.getfield 27, 3) := by decide +kernel
theorem dX5_findThieves_122 : decode cX5_findThieves 122 = .ok (.iload_n 1, 1) := by decide +kernel
theorem dX5_findThieves_123 : decode cX5_findThieves 123 = .ok (.iconst 3, 1) := by decide +kernel
theorem dX5_findThieves_124 : decode cX5_findThieves 124 = .ok (.invokevirtual 58, 3) := by decide +kernel
theorem dX5_findThieves_127 : decode cX5_findThieves 127 = .ok (.iconst 1, 1) := by decide +kernel
theorem dX5_findThieves_128 : decode cX5_findThieves 128 = .ok (.invokevirtual 136, 3) := by decide +kernel
theorem dX5_findThieves_131 : decode cX5_findThieves 131 = .ok (.iinc 1 1, 3) := by decide +kernel
theorem dX5_findThieves_134 : decode cX5_findThieves 134 = .ok (.goto (-72), 3) := by decide +kernel
theorem dX5_findThieves_137 : decode cX5_findThieves 137 = .ok (.return_, 1) := by decide +kernel
set_option maxRecDepth 20000 in
theorem wX5_findThieves_110 {p : Program} {l : Launch} {e : Env} {s : State} {m : MethodId} {args : Array Value} {below : List Frame} {meth : Method} {c : Code} {Z : XG} {r : Int32} {S' : Mem} (E : XE p s m args meth c cX5_findThieves 3 RX5 none xL Z) (k0 : Mem → Int32 → O)  (k1 : Mem → Int32 → Int32 → O)  (hk0 : ∀ (S : Mem) (x1 : Int32), k0 S x1 = some (r, S') → WN p l e { frames := 6, cells := 0, slots := 0, locals := 146 } s m args below meth c xL Z (XV xL Z S') S 62 3 [(0, .ref (Z.2.1 32)), (1, .int x1)] []) (hk1 : ∀ (S : Mem) (x1 x2 : Int32), k1 S x1 x2 = some (r, S') → WN p l e { frames := 6, cells := 0, slots := 0, locals := 146 } s m args below meth c xL Z (XV xL Z S') S 85 3 [(0, .ref (Z.2.1 32)), (1, .int x1), (2, .int x2)] []) : ∀ (S : Mem) (x1 x2 : Int32), fX5_findThieves_110 k0 k1 S x1 x2 = some (r, S') → WN p l e { frames := 6, cells := 0, slots := 0, locals := 146 } s m args below meth c xL Z (XV xL Z S') S 110 3 [(0, .ref (Z.2.1 32)), (1, .int x1), (2, .int x2)] [] := by
  obtain ⟨hx, hb, -, -, -, -, -, -, -, hQ⟩ := id E
  intro S x1 x2 h H locs ls X hl
  unfold fX5_findThieves_110 at h
  refine lv_iinc (v := (x2 + (1 : Int32))) (lv' := [(2, .int (x2 + (1 : Int32))), (0, .ref (Z.2.1 32)), (1, .int x1)]) hx hb dX5_findThieves_110 hl (k := 2) rfl rfl (by decide) rfl (fun ls hl => ?_)
  refine lv_goto (tgt := 85) hx hb dX5_findThieves_113 (by decide) ?_
  exact hk1 S x1 (x2 + (1 : Int32)) h _ _ _ X (lv_sub hl [1, 2, 0] rfl)
set_option maxRecDepth 20000 in
theorem wX5_findThieves_85_b {p : Program} {l : Launch} {e : Env} {s : State} {m : MethodId} {args : Array Value} {below : List Frame} {meth : Method} {c : Code} {Z : XG} {r : Int32} {S' : Mem} (E : XE p s m args meth c cX5_findThieves 3 RX5 none xL Z) (k0 : Mem → Int32 → O)  (k1 : Mem → Int32 → Int32 → O)  (hk0 : ∀ (S : Mem) (x1 : Int32), k0 S x1 = some (r, S') → WN p l e { frames := 6, cells := 0, slots := 0, locals := 146 } s m args below meth c xL Z (XV xL Z S') S 62 3 [(0, .ref (Z.2.1 32)), (1, .int x1)] []) (hk1 : ∀ (S : Mem) (x1 x2 : Int32), k1 S x1 x2 = some (r, S') → WN p l e { frames := 6, cells := 0, slots := 0, locals := 146 } s m args below meth c xL Z (XV xL Z S') S 85 3 [(0, .ref (Z.2.1 32)), (1, .int x1), (2, .int x2)] []) : ∀ (S : Mem) (x1 x2 : Int32), fX5_findThieves_85_b k0 k1 S x1 x2 = some (r, S') → WN p l e { frames := 6, cells := 0, slots := 0, locals := 146 } s m args below meth c xL Z (XV xL Z S') S 85 3 [(0, .ref (Z.2.1 32)), (1, .int x1), (2, .int x2)] [] := by
  obtain ⟨hx, hb, -, -, -, -, -, -, -, hQ⟩ := id E
  intro S x1 x2 h H locs ls X hl
  unfold fX5_findThieves_85_b at h
  refine lv_iload_n hx hb dX5_findThieves_85 rfl (lv_at hl 2 rfl) ?_
  refine lv_bipush (v := (7 : Int32)) hx hb dX5_findThieves_86 (by decide) ?_
  refine lv_icmp_gt (tgt := 116) hx hb dX5_findThieves_88 (by decide) (fun c_1 => ?_) (fun c_1 => ?_)
  · have h := if_t c_1 h
    refine lv_aload_n hx hb dX5_findThieves_116 rfl (lv_at hl 0 rfl) ?_
    refine lv_iload_n hx hb dX5_findThieves_117 rfl (lv_at hl 1 rfl) ?_
    refine lv_aload_n hx hb dX5_findThieves_118 rfl (lv_at hl 0 rfl) ?_
    refine x_getr E X ffX5_27 rfl rfl dX5_findThieves_119 ?_
    refine lv_iload_n hx hb dX5_findThieves_122 rfl (lv_at hl 1 rfl) ?_
    refine lv_iconst (v := (3 : Int32)) hx hb dX5_findThieves_123 (by decide) ?_
    obtain ⟨r_2, S_3, hr_2, h⟩ := bnd_s h
    refine x_callV E X cwX5_58 (mX6_inHour l Z hQ  x1 (3 : Int32) hr_2) rfl rfl rfl rfl hl.1 rfl dX5_findThieves_124 (fun H locs X => ?_)
    refine lv_iconst (v := (1 : Int32)) hx hb dX5_findThieves_127 (by decide) ?_
    obtain ⟨r_4, S_5, hr_4, h⟩ := bnd_s h
    refine x_callVv E X cwX5_136 (mX5_addBurns l Z hQ  x1 r_2 (1 : Int32) hr_4) rfl rfl rfl rfl hl.1 rfl dX5_findThieves_128 (fun H locs X => ?_)
    refine lv_iinc (v := (x1 + (1 : Int32))) (lv' := [(1, .int (x1 + (1 : Int32))), (0, .ref (Z.2.1 32)), (2, .int x2)]) hx hb dX5_findThieves_131 hl (k := 1) rfl rfl (by decide) rfl (fun ls hl => ?_)
    refine lv_goto (tgt := 62) hx hb dX5_findThieves_134 (by decide) ?_
    exact hk0 S_5 (x1 + (1 : Int32)) h _ _ _ X (lv_sub hl [1, 0] rfl)
  · have h := if_f c_1 h
    refine lv_iload_n hx hb dX5_findThieves_91 rfl (lv_at hl 2 rfl) ?_
    refine lv_aload_n hx hb dX5_findThieves_92 rfl (lv_at hl 0 rfl) ?_
    refine x_getr E X ffX5_27 rfl rfl dX5_findThieves_93 ?_
    refine lv_iload_n hx hb dX5_findThieves_96 rfl (lv_at hl 1 rfl) ?_
    refine lv_iconst (v := (3 : Int32)) hx hb dX5_findThieves_97 (by decide) ?_
    obtain ⟨r_6, S_7, hr_6, h⟩ := bnd_s h
    refine x_callV E X cwX5_58 (mX6_inHour l Z hQ  x1 (3 : Int32) hr_6) rfl rfl rfl rfl hl.1 rfl dX5_findThieves_98 (fun H locs X => ?_)
    refine lv_icmp_eq (tgt := 110) hx hb dX5_findThieves_101 (by decide) (fun c_8 => ?_) (fun c_8 => ?_)
    · have h := if_t c_8 h
      exact wX5_findThieves_110 E k0 k1 hk0 hk1 S_7 x1 x2 h _ _ _ X hl
    · have h := if_f c_8 h
      refine lv_aload_n hx hb dX5_findThieves_104 rfl (lv_at hl 0 rfl) ?_
      refine lv_iload_n hx hb dX5_findThieves_105 rfl (lv_at hl 1 rfl) ?_
      refine lv_iload_n hx hb dX5_findThieves_106 rfl (lv_at hl 2 rfl) ?_
      obtain ⟨r_9, S_10, hr_9, h⟩ := bnd_s h
      refine x_callVv E X cwX5_148 (mX5_tryTurning l Z hQ  x1 x2 hr_9) rfl rfl rfl rfl hl.1 rfl dX5_findThieves_107 (fun H locs X => ?_)
      exact wX5_findThieves_110 E k0 k1 hk0 hk1 S_10 x1 x2 h _ _ _ X hl
theorem wX5_findThieves_85 {p : Program} {l : Launch} {e : Env} {s : State} {m : MethodId} {args : Array Value} {below : List Frame} {meth : Method} {c : Code} {Z : XG} {r : Int32} {S' : Mem} (E : XE p s m args meth c cX5_findThieves 3 RX5 none xL Z) (k0 : Mem → Int32 → O)  (hk0 : ∀ (S : Mem) (x1 : Int32), k0 S x1 = some (r, S') → WN p l e { frames := 6, cells := 0, slots := 0, locals := 146 } s m args below meth c xL Z (XV xL Z S') S 62 3 [(0, .ref (Z.2.1 32)), (1, .int x1)] []) : ∀ (n : Nat) (S : Mem) (x1 x2 : Int32), fX5_findThieves_85 k0 n S x1 x2 = some (r, S') → WN p l e { frames := 6, cells := 0, slots := 0, locals := 146 } s m args below meth c xL Z (XV xL Z S') S 85 3 [(0, .ref (Z.2.1 32)), (1, .int x1), (2, .int x2)] [] := by
  intro n
  induction n with
  | zero => intro S x1 x2 h; exact absurd (show (none : O) = some _ from h) (by simp)
  | succ n ih => intro S x1 x2 h; exact wX5_findThieves_85_b E k0 (fX5_findThieves_85 k0 n) hk0 ih S x1 x2 h
set_option maxRecDepth 20000 in
theorem wX5_findThieves_62_b {p : Program} {l : Launch} {e : Env} {s : State} {m : MethodId} {args : Array Value} {below : List Frame} {meth : Method} {c : Code} {Z : XG} {r : Int32} {S' : Mem} (E : XE p s m args meth c cX5_findThieves 3 RX5 none xL Z) (k0 : Mem → Int32 → O)  (hk0 : ∀ (S : Mem) (x1 : Int32), k0 S x1 = some (r, S') → WN p l e { frames := 6, cells := 0, slots := 0, locals := 146 } s m args below meth c xL Z (XV xL Z S') S 62 3 [(0, .ref (Z.2.1 32)), (1, .int x1)] []) : ∀ (S : Mem) (x1 : Int32), fX5_findThieves_62_b k0 S x1 = some (r, S') → WN p l e { frames := 6, cells := 0, slots := 0, locals := 146 } s m args below meth c xL Z (XV xL Z S') S 62 3 [(0, .ref (Z.2.1 32)), (1, .int x1)] [] := by
  obtain ⟨hx, hb, -, -, -, -, -, -, -, hQ⟩ := id E
  intro S x1 h H locs ls X hl
  unfold fX5_findThieves_62_b at h
  refine lv_iload_n hx hb dX5_findThieves_62 rfl (lv_at hl 1 rfl) ?_
  refine lv_bipush (v := (12 : Int32)) hx hb dX5_findThieves_63 (by decide) ?_
  refine lv_icmp_ge (tgt := 137) hx hb dX5_findThieves_65 (by decide) (fun c_1 => ?_) (fun c_1 => ?_)
  · have h := if_t c_1 h
    exact x_vret E X h dX5_findThieves_137
  · have h := if_f c_1 h
    refine lv_aload_n hx hb dX5_findThieves_68 rfl (lv_at hl 0 rfl) ?_
    refine lv_iload_n hx hb dX5_findThieves_69 rfl (lv_at hl 1 rfl) ?_
    refine lv_aload_n hx hb dX5_findThieves_70 rfl (lv_at hl 0 rfl) ?_
    refine x_getr E X ffX5_27 rfl rfl dX5_findThieves_71 ?_
    refine lv_iload_n hx hb dX5_findThieves_74 rfl (lv_at hl 1 rfl) ?_
    refine lv_iconst (v := (3 : Int32)) hx hb dX5_findThieves_75 (by decide) ?_
    obtain ⟨r_2, S_3, hr_2, h⟩ := bnd_s h
    refine x_callV E X cwX5_58 (mX6_inHour l Z hQ  x1 (3 : Int32) hr_2) rfl rfl rfl rfl hl.1 rfl dX5_findThieves_76 (fun H locs X => ?_)
    refine lv_iconst (v := (-1 : Int32)) hx hb dX5_findThieves_79 (by decide) ?_
    obtain ⟨r_4, S_5, hr_4, h⟩ := bnd_s h
    refine x_callVv E X cwX5_136 (mX5_addBurns l Z hQ  x1 r_2 (-1 : Int32) hr_4) rfl rfl rfl rfl hl.1 rfl dX5_findThieves_80 (fun H locs X => ?_)
    refine lv_iconst (v := (0 : Int32)) hx hb dX5_findThieves_83 (by decide) ?_
    refine lv_istore_n (lv' := [(2, .int (0 : Int32)), (0, .ref (Z.2.1 32)), (1, .int x1)]) hx hb dX5_findThieves_84 rfl hl (by decide) rfl (fun ls hl => ?_)
    exact wX5_findThieves_85 E k0 hk0 FU S_5 x1 (0 : Int32) h _ _ _ X (lv_sub hl [1, 2, 0] rfl)
theorem wX5_findThieves_62 {p : Program} {l : Launch} {e : Env} {s : State} {m : MethodId} {args : Array Value} {below : List Frame} {meth : Method} {c : Code} {Z : XG} {r : Int32} {S' : Mem} (E : XE p s m args meth c cX5_findThieves 3 RX5 none xL Z) : ∀ (n : Nat) (S : Mem) (x1 : Int32), fX5_findThieves_62 n S x1 = some (r, S') → WN p l e { frames := 6, cells := 0, slots := 0, locals := 146 } s m args below meth c xL Z (XV xL Z S') S 62 3 [(0, .ref (Z.2.1 32)), (1, .int x1)] [] := by
  intro n
  induction n with
  | zero => intro S x1 h; exact absurd (show (none : O) = some _ from h) (by simp)
  | succ n ih => intro S x1 h; exact wX5_findThieves_62_b E (fX5_findThieves_62 n) ih S x1 h
set_option maxRecDepth 20000 in
theorem wX5_findThieves_25_b {p : Program} {l : Launch} {e : Env} {s : State} {m : MethodId} {args : Array Value} {below : List Frame} {meth : Method} {c : Code} {Z : XG} {r : Int32} {S' : Mem} (E : XE p s m args meth c cX5_findThieves 3 RX5 none xL Z) (k0 : Mem → Int32 → O)  (hk0 : ∀ (S : Mem) (x1 : Int32), k0 S x1 = some (r, S') → WN p l e { frames := 6, cells := 0, slots := 0, locals := 146 } s m args below meth c xL Z (XV xL Z S') S 25 3 [(0, .ref (Z.2.1 32)), (1, .int x1)] []) : ∀ (S : Mem) (x1 : Int32), fX5_findThieves_25_b k0 S x1 = some (r, S') → WN p l e { frames := 6, cells := 0, slots := 0, locals := 146 } s m args below meth c xL Z (XV xL Z S') S 25 3 [(0, .ref (Z.2.1 32)), (1, .int x1)] [] := by
  obtain ⟨hx, hb, -, -, -, -, -, -, -, hQ⟩ := id E
  intro S x1 h H locs ls X hl
  unfold fX5_findThieves_25_b at h
  refine lv_iload_n hx hb dX5_findThieves_25 rfl (lv_at hl 1 rfl) ?_
  refine lv_bipush (v := (12 : Int32)) hx hb dX5_findThieves_26 (by decide) ?_
  refine lv_icmp_ge (tgt := 52) hx hb dX5_findThieves_28 (by decide) (fun c_1 => ?_) (fun c_1 => ?_)
  · have h := if_t c_1 h
    refine lv_aload_n hx hb dX5_findThieves_52 rfl (lv_at hl 0 rfl) ?_
    refine lv_aload_n hx hb dX5_findThieves_53 rfl (lv_at hl 0 rfl) ?_
    obtain ⟨r_2, S_3, hr_2, h⟩ := bnd_s h
    refine x_callV E X cwX5_140 (mX5_isAsTold l Z hQ   hr_2) rfl rfl rfl rfl hl.1 rfl dX5_findThieves_54 (fun H locs X => ?_)
    obtain ⟨g_4, h⟩ := gd_s h
    obtain ⟨S_5, eS_5, h⟩ := ltm_s h
    refine x_putB E X fpX5_144 rfl rfl g_4 dX5_findThieves_57 (fun H locs X => ?_)
    rw [← eS_5] at X
    refine lv_iconst (v := (0 : Int32)) hx hb dX5_findThieves_60 (by decide) ?_
    refine lv_istore_n (lv' := [(1, .int (0 : Int32)), (0, .ref (Z.2.1 32))]) hx hb dX5_findThieves_61 rfl hl (by decide) rfl (fun ls hl => ?_)
    exact wX5_findThieves_62 E   FU S_5 (0 : Int32) h _ _ _ X (lv_sub hl [1, 0] rfl)
  · have h := if_f c_1 h
    refine lv_aload_n hx hb dX5_findThieves_31 rfl (lv_at hl 0 rfl) ?_
    refine lv_iload_n hx hb dX5_findThieves_32 rfl (lv_at hl 1 rfl) ?_
    refine lv_aload_n hx hb dX5_findThieves_33 rfl (lv_at hl 0 rfl) ?_
    refine x_getr E X ffX5_27 rfl rfl dX5_findThieves_34 ?_
    refine lv_iload_n hx hb dX5_findThieves_37 rfl (lv_at hl 1 rfl) ?_
    refine lv_iconst (v := (3 : Int32)) hx hb dX5_findThieves_38 (by decide) ?_
    obtain ⟨r_6, S_7, hr_6, h⟩ := bnd_s h
    refine x_callV E X cwX5_58 (mX6_inHour l Z hQ  x1 (3 : Int32) hr_6) rfl rfl rfl rfl hl.1 rfl dX5_findThieves_39 (fun H locs X => ?_)
    refine lv_iconst (v := (1 : Int32)) hx hb dX5_findThieves_42 (by decide) ?_
    obtain ⟨r_8, S_9, hr_8, h⟩ := bnd_s h
    refine x_callVv E X cwX5_136 (mX5_addBurns l Z hQ  x1 r_6 (1 : Int32) hr_8) rfl rfl rfl rfl hl.1 rfl dX5_findThieves_43 (fun H locs X => ?_)
    refine lv_iinc (v := (x1 + (1 : Int32))) (lv' := [(1, .int (x1 + (1 : Int32))), (0, .ref (Z.2.1 32))]) hx hb dX5_findThieves_46 hl (k := 1) rfl rfl (by decide) rfl (fun ls hl => ?_)
    refine lv_goto (tgt := 25) hx hb dX5_findThieves_49 (by decide) ?_
    exact hk0 S_9 (x1 + (1 : Int32)) h _ _ _ X (lv_sub hl [1, 0] rfl)
theorem wX5_findThieves_25 {p : Program} {l : Launch} {e : Env} {s : State} {m : MethodId} {args : Array Value} {below : List Frame} {meth : Method} {c : Code} {Z : XG} {r : Int32} {S' : Mem} (E : XE p s m args meth c cX5_findThieves 3 RX5 none xL Z) : ∀ (n : Nat) (S : Mem) (x1 : Int32), fX5_findThieves_25 n S x1 = some (r, S') → WN p l e { frames := 6, cells := 0, slots := 0, locals := 146 } s m args below meth c xL Z (XV xL Z S') S 25 3 [(0, .ref (Z.2.1 32)), (1, .int x1)] [] := by
  intro n
  induction n with
  | zero => intro S x1 h; exact absurd (show (none : O) = some _ from h) (by simp)
  | succ n ih => intro S x1 h; exact wX5_findThieves_25_b E (fX5_findThieves_25 n) ih S x1 h
set_option maxRecDepth 20000 in
theorem wX5_findThieves {p : Program} {l : Launch} {e : Env} {s : State} {m : MethodId} {args : Array Value} {below : List Frame} {meth : Method} {c : Code} {Z : XG} {r : Int32} {S' : Mem} (E : XE p s m args meth c cX5_findThieves 3 RX5 none xL Z) : ∀ (S : Mem), fX5_findThieves  S  = some (r, S') → WN p l e { frames := 6, cells := 0, slots := 0, locals := 146 } s m args below meth c xL Z (XV xL Z S') S 0 3 [(0, .ref (Z.2.1 32))] [] := by
  obtain ⟨hx, hb, -, -, -, -, -, -, -, hQ⟩ := id E
  intro S  h H locs ls X hl
  unfold fX5_findThieves at h
  refine lv_aload_n hx hb dX5_findThieves_0 rfl (lv_at hl 0 rfl) ?_
  refine lv_iconst (v := (0 : Int32)) hx hb dX5_findThieves_1 (by decide) ?_
  obtain ⟨S_1, eS_1, h⟩ := ltm_s h
  refine x_put E X fpX5_127 rfl rfl dX5_findThieves_2 (fun H locs X => ?_)
  rw [← eS_1] at X
  refine lv_aload_n hx hb dX5_findThieves_5 rfl (lv_at hl 0 rfl) ?_
  refine lv_iconst (v := (-1 : Int32)) hx hb dX5_findThieves_6 (by decide) ?_
  obtain ⟨S_2, eS_2, h⟩ := ltm_s h
  refine x_put E X fpX5_130 rfl rfl dX5_findThieves_7 (fun H locs X => ?_)
  rw [← eS_2] at X
  refine lv_aload_n hx hb dX5_findThieves_10 rfl (lv_at hl 0 rfl) ?_
  refine lv_iconst (v := (-1 : Int32)) hx hb dX5_findThieves_11 (by decide) ?_
  obtain ⟨S_3, eS_3, h⟩ := ltm_s h
  refine x_put E X fpX5_133 rfl rfl dX5_findThieves_12 (fun H locs X => ?_)
  rw [← eS_3] at X
  refine lv_aload_n hx hb dX5_findThieves_15 rfl (lv_at hl 0 rfl) ?_
  refine x_getr E X ffX5_24 rfl rfl dX5_findThieves_16 ?_
  refine lv_iconst (v := (0 : Int32)) hx hb dX5_findThieves_19 (by decide) ?_
  obtain ⟨r_4, S_5, hr_4, h⟩ := bnd_s h
  refine x_callSv E X cwX5_52 (mJ7_fill_37 l Z hQ  (0 : Int32) hr_4) rfl rfl hl.1 rfl dX5_findThieves_20 (fun H locs X => ?_)
  refine lv_iconst (v := (0 : Int32)) hx hb dX5_findThieves_23 (by decide) ?_
  refine lv_istore_n (lv' := [(1, .int (0 : Int32)), (0, .ref (Z.2.1 32))]) hx hb dX5_findThieves_24 rfl hl (by decide) rfl (fun ls hl => ?_)
  exact wX5_findThieves_25 E   FU S_5 (0 : Int32) h _ _ _ X (lv_sub hl [1, 0] rfl)
/-- SevenToAShadow$Thought.findThieves()V -/
theorem mX5_findThieves (l : Launch) (Z : XG) (hQ : wQ (List.length xL) Z) {S S' : Mem} {r : Int32} (h : fX5_findThieves S  = some (r, S')) : XM l yX5_findThieves cX5_findThieves 3 none { frames := 6, cells := 0, slots := 0, locals := 146 } xL Z [.ref (Z.2.1 32)] S (XV xL Z S') := by
  refine XM.of (own := RX5) (by decide +kernel) rfl rfl hQ (fun p e s m args below meth c E ls hl X => ?_)
  exact wX5_findThieves E S  h _ _ _ X hl
def fX7_thief (S : Mem) (x1 : Int32) : O := (if x1 < 0 then some ((-1 : Int32), S) else (if x1 ≤ (3 : Int32) then bnd (fX5_findThieves S ) fun _ S_4 => (if x1 = (0 : Int32) then some ((S_4 32 6), S_4) else if x1 = (1 : Int32) then some ((S_4 32 7), S_4) else if x1 = (2 : Int32) then some ((S_4 32 8), S_4) else (if (S_4 32 9) = 0 then some ((0 : Int32), S_4) else some ((1 : Int32), S_4))) else some ((-1 : Int32), S)))
theorem dX7_thief_0 : decode cX7_thief 0 = .ok (.iload_n 1, 1) := by decide +kernel
theorem dX7_thief_1 : decode cX7_thief 1 = .ok (.ifCond .lt 8, 3) := by decide +kernel
theorem dX7_thief_4 : decode cX7_thief 4 = .ok (.iload_n 1, 1) := by decide +kernel
theorem dX7_thief_5 : decode cX7_thief 5 = .ok (.iconst 3, 1) := by decide +kernel
theorem dX7_thief_6 : decode cX7_thief 6 = .ok (.if_icmp .le 5, 3) := by decide +kernel
theorem dX7_thief_9 : decode cX7_thief 9 = .ok (.iconst (-1), 1) := by decide +kernel
theorem dX7_thief_10 : decode cX7_thief 10 = .ok (.ireturn, 1) := by decide +kernel
theorem dX7_thief_11 : decode cX7_thief 11 = .ok (.aload_n 0, 1) := by decide +kernel
theorem dX7_thief_12 : decode cX7_thief 12 = .ok (.getfield 38, 3) := by decide +kernel
theorem dX7_thief_15 : decode cX7_thief 15 = .ok (.invokevirtual 199, 3) := by decide +kernel
theorem dX7_thief_18 : decode cX7_thief 18 = .ok (.iload_n 1, 1) := by decide +kernel
theorem dX7_thief_19 : decode cX7_thief 19 = .ok (.tableswitch 49 0 2 #[25, 33, 41], 25) := by decide +kernel
theorem dX7_thief_44 : decode cX7_thief 44 = .ok (.aload_n 0, 1) := by decide +kernel
theorem dX7_thief_45 : decode cX7_thief 45 = .ok (.getfield 38, 3) := by decide +kernel
theorem dX7_thief_48 : decode cX7_thief 48 = .ok (.getfield 202, 3) := by decide +kernel
theorem dX7_thief_51 : decode cX7_thief 51 = .ok (.ireturn, 1) := by decide +kernel
theorem dX7_thief_52 : decode cX7_thief 52 = .ok (.aload_n 0, 1) := by decide +kernel
theorem dX7_thief_53 : decode cX7_thief 53 = .ok (.getfield 38, 3) := by decide +kernel
theorem dX7_thief_56 : decode cX7_thief 56 = .ok (.getfield 205, 3) := by decide +kernel
theorem dX7_thief_59 : decode cX7_thief 59 = .ok (.ireturn, 1) := by decide +kernel
theorem dX7_thief_60 : decode cX7_thief 60 = .ok (.aload_n 0, 1) := by decide +kernel
theorem dX7_thief_61 : decode cX7_thief 61 = .ok (.getfield 38, 3) := by decide +kernel
theorem dX7_thief_64 : decode cX7_thief 64 = .ok (.getfield 208, 3) := by decide +kernel
theorem dX7_thief_67 : decode cX7_thief 67 = .ok (.ireturn, 1) := by decide +kernel
theorem dX7_thief_68 : decode cX7_thief 68 = .ok (.aload_n 0, 1) := by decide +kernel
theorem dX7_thief_69 : decode cX7_thief 69 = .ok (.getfield 38, 3) := by decide +kernel
theorem dX7_thief_72 : decode cX7_thief 72 = .ok (.getfield 211, 3) := by decide +kernel
theorem dX7_thief_75 : decode cX7_thief 75 = .ok (.ifCond .eq 7, 3) := by decide +kernel
theorem dX7_thief_78 : decode cX7_thief 78 = .ok (.iconst 1, 1) := by decide +kernel
theorem dX7_thief_79 : decode cX7_thief 79 = .ok (.goto 4, 3) := by decide +kernel
theorem dX7_thief_82 : decode cX7_thief 82 = .ok (.iconst 0, 1) := by decide +kernel
theorem dX7_thief_83 : decode cX7_thief 83 = .ok (.ireturn, 1) := by decide +kernel
set_option maxRecDepth 20000 in
theorem wX7_thief {p : Program} {l : Launch} {e : Env} {s : State} {m : MethodId} {args : Array Value} {below : List Frame} {meth : Method} {c : Code} {Z : XG} {r : Int32} {S' : Mem} (E : XE p s m args meth c cX7_thief 2 RX7 (some .int) xL Z) : ∀ (S : Mem) (x1 : Int32), fX7_thief  S x1 = some (r, S') → WN p l e { frames := 7, cells := 0, slots := 0, locals := 168 } s m args below meth c xL Z (XQ xL Z r S') S 0 2 [(0, .ref (Z.2.1 0)), (1, .int x1)] [] := by
  obtain ⟨hx, hb, -, -, -, -, -, -, -, hQ⟩ := id E
  intro S x1 h H locs ls X hl
  unfold fX7_thief at h
  refine lv_iload_n hx hb dX7_thief_0 rfl (lv_at hl 1 rfl) ?_
  refine lv_if_lt (tgt := 9) hx hb dX7_thief_1 (by decide) (fun c_1 => ?_) (fun c_1 => ?_)
  · have h := if_t c_1 h
    refine lv_iconst (v := (-1 : Int32)) hx hb dX7_thief_9 (by decide) ?_
    exact x_iret E X h dX7_thief_10
  · have h := if_f c_1 h
    refine lv_iload_n hx hb dX7_thief_4 rfl (lv_at hl 1 rfl) ?_
    refine lv_iconst (v := (3 : Int32)) hx hb dX7_thief_5 (by decide) ?_
    refine lv_icmp_le (tgt := 11) hx hb dX7_thief_6 (by decide) (fun c_2 => ?_) (fun c_2 => ?_)
    · have h := if_t c_2 h
      refine lv_aload_n hx hb dX7_thief_11 rfl (lv_at hl 0 rfl) ?_
      refine x_getr E X ffX7_38 rfl rfl dX7_thief_12 ?_
      obtain ⟨r_3, S_4, hr_3, h⟩ := bnd_s h
      refine x_callVv E X cwX7_199 (mX5_findThieves l Z hQ   hr_3) rfl rfl rfl rfl hl.1 rfl dX7_thief_15 (fun H locs X => ?_)
      refine lv_iload_n hx hb dX7_thief_18 rfl (lv_at hl 1 rfl) ?_
      by_cases c_5 : x1 = (0 : Int32)
      · have h := if_t c_5 h
        refine lv_tableIn (off := 25) (tgt := 44) hx hb dX7_thief_19 (by rw [c_5]; decide) (by rw [c_5]; decide) (by rw [c_5]; decide) (by decide) ?_
        refine lv_aload_n hx hb dX7_thief_44 rfl (lv_at hl 0 rfl) ?_
        refine x_getr E X ffX7_38 rfl rfl dX7_thief_45 ?_
        refine x_get E X ffX7_202 rfl rfl dX7_thief_48 ?_
        exact x_iret E X h dX7_thief_51
      replace h := if_f c_5 h
      by_cases c_6 : x1 = (1 : Int32)
      · have h := if_t c_6 h
        refine lv_tableIn (off := 33) (tgt := 52) hx hb dX7_thief_19 (by rw [c_6]; decide) (by rw [c_6]; decide) (by rw [c_6]; decide) (by decide) ?_
        refine lv_aload_n hx hb dX7_thief_52 rfl (lv_at hl 0 rfl) ?_
        refine x_getr E X ffX7_38 rfl rfl dX7_thief_53 ?_
        refine x_get E X ffX7_205 rfl rfl dX7_thief_56 ?_
        exact x_iret E X h dX7_thief_59
      replace h := if_f c_6 h
      by_cases c_7 : x1 = (2 : Int32)
      · have h := if_t c_7 h
        refine lv_tableIn (off := 41) (tgt := 60) hx hb dX7_thief_19 (by rw [c_7]; decide) (by rw [c_7]; decide) (by rw [c_7]; decide) (by decide) ?_
        refine lv_aload_n hx hb dX7_thief_60 rfl (lv_at hl 0 rfl) ?_
        refine x_getr E X ffX7_38 rfl rfl dX7_thief_61 ?_
        refine x_get E X ffX7_208 rfl rfl dX7_thief_64 ?_
        exact x_iret E X h dX7_thief_67
      replace h := if_f c_7 h
      refine lv_tableD (tgt := 68) hx hb dX7_thief_19 (by decide +kernel) (fun i hi q_8 => ?_) ?_
      · match i, hi, q_8 with
        | 0, _, q_8 => exact absurd (tbl_eq q_8 (by decide)) c_5
        | 1, _, q_8 => exact absurd (tbl_eq q_8 (by decide)) c_6
        | 2, _, q_8 => exact absurd (tbl_eq q_8 (by decide)) c_7
        | i + 3, hi, _ => exact absurd hi (by simp)
      refine lv_aload_n hx hb dX7_thief_68 rfl (lv_at hl 0 rfl) ?_
      refine x_getr E X ffX7_38 rfl rfl dX7_thief_69 ?_
      refine x_get E X ffX7_211 rfl rfl dX7_thief_72 ?_
      refine lv_if_eq (tgt := 82) hx hb dX7_thief_75 (by decide) (fun c_9 => ?_) (fun c_9 => ?_)
      · have h := if_t c_9 h
        refine lv_iconst (v := (0 : Int32)) hx hb dX7_thief_82 (by decide) ?_
        exact x_iret E X h dX7_thief_83
      · have h := if_f c_9 h
        refine lv_iconst (v := (1 : Int32)) hx hb dX7_thief_78 (by decide) ?_
        refine lv_goto (tgt := 83) hx hb dX7_thief_79 (by decide) ?_
        exact x_iret E X h dX7_thief_83
    · have h := if_f c_2 h
      refine lv_iconst (v := (-1 : Int32)) hx hb dX7_thief_9 (by decide) ?_
      exact x_iret E X h dX7_thief_10
/-- SevenToAShadow.thief(I)I -/
theorem mX7_thief (l : Launch) (Z : XG) (hQ : wQ (List.length xL) Z) {S S' : Mem} {r : Int32} (x1 : Int32) (h : fX7_thief S x1 = some (r, S')) : XM l yX7_thief cX7_thief 2 (some .int) { frames := 7, cells := 0, slots := 0, locals := 168 } xL Z [.ref (Z.2.1 0), .int x1] S (XQ xL Z r S') := by
  refine XM.of (own := RX7) (by decide +kernel) rfl rfl hQ (fun p e s m args below meth c E ls hl X => ?_)
  exact wX7_thief E S x1 h _ _ _ X hl
def fX2_goBack_25_1 (S : Mem) : O := (if 0 < (S 25 4) then ltm (mset S 25 4 ((S 25 4) - (1 : Int32))) fun S_2 => gd (cpG (((S_2 25 4) * (10 : Int32)) * (10 : Int32)) (0 : Int32) (100 : Int32) 1200 100) <| ltm (mput S_2 3 (va_cpy (S_2 26) (S_2 3) ((((S_2 25 4) * (10 : Int32)) * (10 : Int32))).toNatClampNeg ((0 : Int32)).toNatClampNeg ((100 : Int32)).toNatClampNeg)) fun S_4 => gd (inB (S_4 25 4) 12) <| ltm (mset S_4 1 6 (S_4 27 ((S_4 25 4)).toNatClampNeg)) fun S_6 => gd (inB (S_6 25 4) 12) <| ltm (mset S_6 1 10 (S_6 28 ((S_6 25 4)).toNatClampNeg)) fun S_8 => gd (inB (S_8 25 4) 12) <| ltm (mset S_8 6 1 (S_8 29 ((S_8 25 4)).toNatClampNeg)) fun S_10 => ltm (mset S_10 1 8 ((S_10 1 8) - (1 : Int32))) fun S_11 => some ((1 : Int32), S_11) else some ((0 : Int32), S))
theorem dX2_goBack_0 : decode cX2_goBack 0 = .ok (.aload_n 0, 1) := by decide +kernel
theorem dX2_goBack_1 : decode cX2_goBack 1 = .ok (.getfield 24, 3) := by decide +kernel
theorem dX2_goBack_4 : decode cX2_goBack 4 = .ok (.ifCond .gt 5, 3) := by decide +kernel
theorem dX2_goBack_7 : decode cX2_goBack 7 = .ok (.iconst 0, 1) := by decide +kernel
theorem dX2_goBack_8 : decode cX2_goBack 8 = .ok (.ireturn, 1) := by decide +kernel
theorem dX2_goBack_9 : decode cX2_goBack 9 = .ok (.aload_n 0, 1) := by decide +kernel
theorem dX2_goBack_10 : decode cX2_goBack 10 = .ok (.dup, 1) := by decide +kernel
theorem dX2_goBack_11 : decode cX2_goBack 11 = .ok (.getfield 24, 3) := by decide +kernel
theorem dX2_goBack_14 : decode cX2_goBack 14 = .ok (.iconst 1, 1) := by decide +kernel
theorem dX2_goBack_15 : decode cX2_goBack 15 = .ok (.isub, 1) := by decide +kernel
theorem dX2_goBack_16 : decode cX2_goBack 16 = .ok (.putfield 24, 3) := by decide +kernel
theorem dX2_goBack_19 : decode cX2_goBack 19 = .ok (.aload_n 0, 1) := by decide +kernel
theorem dX2_goBack_20 : decode cX2_goBack 20 = .ok (.getfield 9, 3) := by decide +kernel
theorem dX2_goBack_23 : decode cX2_goBack 23 = .ok (.aload_n 0, 1) := by decide +kernel
theorem dX2_goBack_24 : decode cX2_goBack 24 = .ok (.getfield 24, 3) := by decide +kernel
theorem dX2_goBack_27 : decode cX2_goBack 27 = .ok (.bipush 10, 2) := by decide +kernel
theorem dX2_goBack_29 : decode cX2_goBack 29 = .ok (.imul, 1) := by decide +kernel
theorem dX2_goBack_30 : decode cX2_goBack 30 = .ok (.bipush 10, 2) := by decide +kernel
theorem dX2_goBack_32 : decode cX2_goBack 32 = .ok (.imul, 1) := by decide +kernel
theorem dX2_goBack_33 : decode cX2_goBack 33 = .ok (.aload_n 1, 1) := by decide +kernel
theorem dX2_goBack_34 : decode cX2_goBack 34 = .ok (.getfield 28, 3) := by decide +kernel
theorem dX2_goBack_37 : decode cX2_goBack 37 = .ok (.iconst 0, 1) := by decide +kernel
theorem dX2_goBack_38 : decode cX2_goBack 38 = .ok (.bipush 100, 2) := by decide +kernel
theorem dX2_goBack_40 : decode cX2_goBack 40 = .ok (.invokestatic 31, 3) := by decide +kernel
theorem dX2_goBack_43 : decode cX2_goBack 43 = .ok (.aload_n 1, 1) := by decide +kernel
theorem dX2_goBack_44 : decode cX2_goBack 44 = .ok (.aload_n 0, 1) := by decide +kernel
theorem dX2_goBack_45 : decode cX2_goBack 45 = .ok (.getfield 15, 3) := by decide +kernel
theorem dX2_goBack_48 : decode cX2_goBack 48 = .ok (.aload_n 0, 1) := by decide +kernel
theorem dX2_goBack_49 : decode cX2_goBack 49 = .ok (.getfield 24, 3) := by decide +kernel
theorem dX2_goBack_52 : decode cX2_goBack 52 = .ok (.iaload, 1) := by decide +kernel
theorem dX2_goBack_53 : decode cX2_goBack 53 = .ok (.putfield 37, 3) := by decide +kernel
theorem dX2_goBack_56 : decode cX2_goBack 56 = .ok (.aload_n 1, 1) := by decide +kernel
theorem dX2_goBack_57 : decode cX2_goBack 57 = .ok (.aload_n 0, 1) := by decide +kernel
theorem dX2_goBack_58 : decode cX2_goBack 58 = .ok (.getfield 18, 3) := by decide +kernel
theorem dX2_goBack_61 : decode cX2_goBack 61 = .ok (.aload_n 0, 1) := by decide +kernel
theorem dX2_goBack_62 : decode cX2_goBack 62 = .ok (.getfield 24, 3) := by decide +kernel
theorem dX2_goBack_65 : decode cX2_goBack 65 = .ok (.iaload, 1) := by decide +kernel
theorem dX2_goBack_66 : decode cX2_goBack 66 = .ok (.putfield 39, 3) := by decide +kernel
theorem dX2_goBack_69 : decode cX2_goBack 69 = .ok (.aload_n 1, 1) := by decide +kernel
theorem dX2_goBack_70 : decode cX2_goBack 70 = .ok (.getfield 41, 3) := by decide +kernel
theorem dX2_goBack_73 : decode cX2_goBack 73 = .ok (.aload_n 0, 1) := by decide +kernel
theorem dX2_goBack_74 : decode cX2_goBack 74 = .ok (.getfield 21, 3) := by decide +kernel
theorem dX2_goBack_77 : decode cX2_goBack 77 = .ok (.aload_n 0, 1) := by decide +kernel
theorem dX2_goBack_78 : decode cX2_goBack 78 = .ok (.getfield 24, 3) := by decide +kernel
theorem dX2_goBack_81 : decode cX2_goBack 81 = .ok (.iaload, 1) := by decide +kernel
theorem dX2_goBack_82 : decode cX2_goBack 82 = .ok (.putfield 45, 3) := by decide +kernel
theorem dX2_goBack_85 : decode cX2_goBack 85 = .ok (.aload_n 1, 1) := by decide +kernel
theorem dX2_goBack_86 : decode cX2_goBack 86 = .ok (.dup, 1) := by decide +kernel
theorem dX2_goBack_87 : decode cX2_goBack 87 = .ok (.getfield 50, 3) := by decide +kernel
theorem dX2_goBack_90 : decode cX2_goBack 90 = .ok (.iconst 1, 1) := by decide +kernel
theorem dX2_goBack_91 : decode cX2_goBack 91 = .ok (.isub, 1) := by decide +kernel
theorem dX2_goBack_92 : decode cX2_goBack 92 = .ok (.putfield 50, 3) := by decide +kernel
theorem dX2_goBack_95 : decode cX2_goBack 95 = .ok (.iconst 1, 1) := by decide +kernel
theorem dX2_goBack_96 : decode cX2_goBack 96 = .ok (.ireturn, 1) := by decide +kernel
set_option maxRecDepth 20000 in
theorem wX2_goBack_25_1 {p : Program} {l : Launch} {e : Env} {s : State} {m : MethodId} {args : Array Value} {below : List Frame} {meth : Method} {c : Code} {Z : XG} {r : Int32} {S' : Mem} (E : XE p s m args meth c cX2_goBack 2 RX2 (some .boolean) xL Z) : ∀ (S : Mem), fX2_goBack_25_1  S  = some (r, S') → WN p l e { frames := 1, cells := 0, slots := 0, locals := 30 } s m args below meth c xL Z (XQ xL Z r S') S 0 2 [(0, .ref (Z.2.1 25)), (1, .ref (Z.2.1 1))] [] := by
  obtain ⟨hx, hb, -, -, -, -, -, -, -, hQ⟩ := id E
  intro S  h H locs ls X hl
  unfold fX2_goBack_25_1 at h
  refine lv_aload_n hx hb dX2_goBack_0 rfl (lv_at hl 0 rfl) ?_
  refine x_get E X ffX2_24 rfl rfl dX2_goBack_1 ?_
  refine lv_if_gt (tgt := 9) hx hb dX2_goBack_4 (by decide) (fun c_1 => ?_) (fun c_1 => ?_)
  · have h := if_t c_1 h
    refine lv_aload_n hx hb dX2_goBack_9 rfl (lv_at hl 0 rfl) ?_
    refine lv_dup hx hb dX2_goBack_10 rfl ?_
    refine x_get E X ffX2_24 rfl rfl dX2_goBack_11 ?_
    refine lv_iconst (v := (1 : Int32)) hx hb dX2_goBack_14 (by decide) ?_
    refine lv_isub hx hb dX2_goBack_15 ?_
    obtain ⟨S_2, eS_2, h⟩ := ltm_s h
    refine x_put E X fpX2_24 rfl rfl dX2_goBack_16 (fun H locs X => ?_)
    rw [← eS_2] at X
    refine lv_aload_n hx hb dX2_goBack_19 rfl (lv_at hl 0 rfl) ?_
    refine x_getr E X ffX2_9 rfl rfl dX2_goBack_20 ?_
    refine lv_aload_n hx hb dX2_goBack_23 rfl (lv_at hl 0 rfl) ?_
    refine x_get E X ffX2_24 rfl rfl dX2_goBack_24 ?_
    refine lv_bipush (v := (10 : Int32)) hx hb dX2_goBack_27 (by decide) ?_
    refine lv_imul hx hb dX2_goBack_29 ?_
    refine lv_bipush (v := (10 : Int32)) hx hb dX2_goBack_30 (by decide) ?_
    refine lv_imul hx hb dX2_goBack_32 ?_
    refine lv_aload_n hx hb dX2_goBack_33 rfl (lv_at hl 1 rfl) ?_
    refine x_getr E X ffX2_28 rfl rfl dX2_goBack_34 ?_
    refine lv_iconst (v := (0 : Int32)) hx hb dX2_goBack_37 (by decide) ?_
    refine lv_bipush (v := (100 : Int32)) hx hb dX2_goBack_38 (by decide) ?_
    obtain ⟨g_3, h⟩ := gd_s h
    obtain ⟨S_4, eS_4, h⟩ := ltm_s h
    refine x_copy E X cwX2_31 rfl rfl g_3 hl.1 rfl rfl dX2_goBack_40 (fun H locs X => ?_)
    rw [← eS_4] at X
    refine lv_aload_n hx hb dX2_goBack_43 rfl (lv_at hl 1 rfl) ?_
    refine lv_aload_n hx hb dX2_goBack_44 rfl (lv_at hl 0 rfl) ?_
    refine x_getr E X ffX2_15 rfl rfl dX2_goBack_45 ?_
    refine lv_aload_n hx hb dX2_goBack_48 rfl (lv_at hl 0 rfl) ?_
    refine x_get E X ffX2_24 rfl rfl dX2_goBack_49 ?_
    obtain ⟨g_5, h⟩ := gd_s h
    refine x_iald E X rfl g_5 dX2_goBack_52 ?_
    obtain ⟨S_6, eS_6, h⟩ := ltm_s h
    refine x_put E X fpX2_37 rfl rfl dX2_goBack_53 (fun H locs X => ?_)
    rw [← eS_6] at X
    refine lv_aload_n hx hb dX2_goBack_56 rfl (lv_at hl 1 rfl) ?_
    refine lv_aload_n hx hb dX2_goBack_57 rfl (lv_at hl 0 rfl) ?_
    refine x_getr E X ffX2_18 rfl rfl dX2_goBack_58 ?_
    refine lv_aload_n hx hb dX2_goBack_61 rfl (lv_at hl 0 rfl) ?_
    refine x_get E X ffX2_24 rfl rfl dX2_goBack_62 ?_
    obtain ⟨g_7, h⟩ := gd_s h
    refine x_iald E X rfl g_7 dX2_goBack_65 ?_
    obtain ⟨S_8, eS_8, h⟩ := ltm_s h
    refine x_put E X fpX2_39 rfl rfl dX2_goBack_66 (fun H locs X => ?_)
    rw [← eS_8] at X
    refine lv_aload_n hx hb dX2_goBack_69 rfl (lv_at hl 1 rfl) ?_
    refine x_getr E X ffX2_41 rfl rfl dX2_goBack_70 ?_
    refine lv_aload_n hx hb dX2_goBack_73 rfl (lv_at hl 0 rfl) ?_
    refine x_getr E X ffX2_21 rfl rfl dX2_goBack_74 ?_
    refine lv_aload_n hx hb dX2_goBack_77 rfl (lv_at hl 0 rfl) ?_
    refine x_get E X ffX2_24 rfl rfl dX2_goBack_78 ?_
    obtain ⟨g_9, h⟩ := gd_s h
    refine x_iald E X rfl g_9 dX2_goBack_81 ?_
    obtain ⟨S_10, eS_10, h⟩ := ltm_s h
    refine x_put E X fpX2_45 rfl rfl dX2_goBack_82 (fun H locs X => ?_)
    rw [← eS_10] at X
    refine lv_aload_n hx hb dX2_goBack_85 rfl (lv_at hl 1 rfl) ?_
    refine lv_dup hx hb dX2_goBack_86 rfl ?_
    refine x_get E X ffX2_50 rfl rfl dX2_goBack_87 ?_
    refine lv_iconst (v := (1 : Int32)) hx hb dX2_goBack_90 (by decide) ?_
    refine lv_isub hx hb dX2_goBack_91 ?_
    obtain ⟨S_11, eS_11, h⟩ := ltm_s h
    refine x_put E X fpX2_50 rfl rfl dX2_goBack_92 (fun H locs X => ?_)
    rw [← eS_11] at X
    refine lv_iconst (v := (1 : Int32)) hx hb dX2_goBack_95 (by decide) ?_
    exact x_zret E X rfl h dX2_goBack_96
  · have h := if_f c_1 h
    refine lv_iconst (v := (0 : Int32)) hx hb dX2_goBack_7 (by decide) ?_
    exact x_zret E X rfl h dX2_goBack_8
/-- SevenToAShadow$Past.goBack(LSevenToAShadow$World;)Z -/
theorem mX2_goBack_25_1 (l : Launch) (Z : XG) (hQ : wQ (List.length xL) Z) {S S' : Mem} {r : Int32} (h : fX2_goBack_25_1 S  = some (r, S')) : XM l yX2_goBack cX2_goBack 2 (some .boolean) { frames := 1, cells := 0, slots := 0, locals := 30 } xL Z [.ref (Z.2.1 25), .ref (Z.2.1 1)] S (XQ xL Z r S') := by
  refine XM.of (own := RX2) (by decide +kernel) rfl rfl hQ (fun p e s m args below meth c E ls hl X => ?_)
  exact wX2_goBack_25_1 E S  h _ _ _ X hl
def fX7_undo (S : Mem) : O := bnd (fX2_goBack_25_1 S ) fun r_1 S_2 => gd (isB r_1) <| some (r_1, S_2)
theorem dX7_undo_0 : decode cX7_undo 0 = .ok (.aload_n 0, 1) := by decide +kernel
theorem dX7_undo_1 : decode cX7_undo 1 = .ok (.getfield 22, 3) := by decide +kernel
theorem dX7_undo_4 : decode cX7_undo 4 = .ok (.aload_n 0, 1) := by decide +kernel
theorem dX7_undo_5 : decode cX7_undo 5 = .ok (.getfield 12, 3) := by decide +kernel
theorem dX7_undo_8 : decode cX7_undo 8 = .ok (.invokevirtual 215, 3) := by decide +kernel
theorem dX7_undo_11 : decode cX7_undo 11 = .ok (.ireturn, 1) := by decide +kernel
set_option maxRecDepth 20000 in
theorem wX7_undo {p : Program} {l : Launch} {e : Env} {s : State} {m : MethodId} {args : Array Value} {below : List Frame} {meth : Method} {c : Code} {Z : XG} {r : Int32} {S' : Mem} (E : XE p s m args meth c cX7_undo 1 RX7 (some .boolean) xL Z) : ∀ (S : Mem), fX7_undo  S  = some (r, S') → WN p l e { frames := 2, cells := 0, slots := 0, locals := 51 } s m args below meth c xL Z (XQ xL Z r S') S 0 1 [(0, .ref (Z.2.1 0))] [] := by
  obtain ⟨hx, hb, -, -, -, -, -, -, -, hQ⟩ := id E
  intro S  h H locs ls X hl
  unfold fX7_undo at h
  refine lv_aload_n hx hb dX7_undo_0 rfl (lv_at hl 0 rfl) ?_
  refine x_getr E X ffX7_22 rfl rfl dX7_undo_1 ?_
  refine lv_aload_n hx hb dX7_undo_4 rfl (lv_at hl 0 rfl) ?_
  refine x_getr E X ffX7_12 rfl rfl dX7_undo_5 ?_
  obtain ⟨r_1, S_2, hr_1, h⟩ := bnd_s h
  refine x_callV E X cwX7_215 (mX2_goBack_25_1 l Z hQ   hr_1) rfl rfl rfl rfl hl.1 rfl dX7_undo_8 (fun H locs X => ?_)
  obtain ⟨g_3, h⟩ := gd_s h
  exact x_zret E X g_3 h dX7_undo_11
/-- SevenToAShadow.undo()Z -/
theorem mX7_undo (l : Launch) (Z : XG) (hQ : wQ (List.length xL) Z) {S S' : Mem} {r : Int32} (h : fX7_undo S  = some (r, S')) : XM l yX7_undo cX7_undo 1 (some .boolean) { frames := 2, cells := 0, slots := 0, locals := 51 } xL Z [.ref (Z.2.1 0)] S (XQ xL Z r S') := by
  refine XM.of (own := RX7) (by decide +kernel) rfl rfl hQ (fun p e s m args below meth c E ls hl X => ?_)
  exact wX7_undo E S  h _ _ _ X hl
def fX0_become_6_18 (S : Mem) : O := ltm (mput S 7 (va_cpy (S 19) (S 7) ((0 : Int32)).toNatClampNeg ((0 : Int32)).toNatClampNeg ((800 : Int32)).toNatClampNeg)) fun S_1 => ltm (mset S_1 6 1 (S_1 18 1)) fun S_2 => some ((0 : Int32), S_2)
theorem dX0_become_0 : decode cX0_become 0 = .ok (.aload_n 1, 1) := by decide +kernel
theorem dX0_become_1 : decode cX0_become 1 = .ok (.getfield 9, 3) := by decide +kernel
theorem dX0_become_4 : decode cX0_become 4 = .ok (.iconst 0, 1) := by decide +kernel
theorem dX0_become_5 : decode cX0_become 5 = .ok (.aload_n 0, 1) := by decide +kernel
theorem dX0_become_6 : decode cX0_become 6 = .ok (.getfield 9, 3) := by decide +kernel
theorem dX0_become_9 : decode cX0_become 9 = .ok (.iconst 0, 1) := by decide +kernel
theorem dX0_become_10 : decode cX0_become 10 = .ok (.aload_n 0, 1) := by decide +kernel
theorem dX0_become_11 : decode cX0_become 11 = .ok (.getfield 9, 3) := by decide +kernel
theorem dX0_become_14 : decode cX0_become 14 = .ok (.arraylength, 1) := by decide +kernel
theorem dX0_become_15 : decode cX0_become 15 = .ok (.invokestatic 19, 3) := by decide +kernel
theorem dX0_become_18 : decode cX0_become 18 = .ok (.aload_n 0, 1) := by decide +kernel
theorem dX0_become_19 : decode cX0_become 19 = .ok (.aload_n 1, 1) := by decide +kernel
theorem dX0_become_20 : decode cX0_become 20 = .ok (.getfield 15, 3) := by decide +kernel
theorem dX0_become_23 : decode cX0_become 23 = .ok (.putfield 15, 3) := by decide +kernel
theorem dX0_become_26 : decode cX0_become 26 = .ok (.return_, 1) := by decide +kernel
set_option maxRecDepth 20000 in
theorem wX0_become_6_18 {p : Program} {l : Launch} {e : Env} {s : State} {m : MethodId} {args : Array Value} {below : List Frame} {meth : Method} {c : Code} {Z : XG} {r : Int32} {S' : Mem} (E : XE p s m args meth c cX0_become 2 RX0 none xL Z) : ∀ (S : Mem), fX0_become_6_18  S  = some (r, S') → WN p l e { frames := 1, cells := 0, slots := 0, locals := 30 } s m args below meth c xL Z (XV xL Z S') S 0 2 [(0, .ref (Z.2.1 6)), (1, .ref (Z.2.1 18))] [] := by
  obtain ⟨hx, hb, -, -, -, -, -, -, -, hQ⟩ := id E
  intro S  h H locs ls X hl
  unfold fX0_become_6_18 at h
  refine lv_aload_n hx hb dX0_become_0 rfl (lv_at hl 1 rfl) ?_
  refine x_getr E X ffX0_9 rfl rfl dX0_become_1 ?_
  refine lv_iconst (v := (0 : Int32)) hx hb dX0_become_4 (by decide) ?_
  refine lv_aload_n hx hb dX0_become_5 rfl (lv_at hl 0 rfl) ?_
  refine x_getr E X ffX0_9 rfl rfl dX0_become_6 ?_
  refine lv_iconst (v := (0 : Int32)) hx hb dX0_become_9 (by decide) ?_
  refine lv_aload_n hx hb dX0_become_10 rfl (lv_at hl 0 rfl) ?_
  refine x_getr E X ffX0_9 rfl rfl dX0_become_11 ?_
  refine x_alen E X (v := (800 : Int32)) rfl (by decide) dX0_become_14 ?_
  obtain ⟨S_1, eS_1, h⟩ := ltm_s h
  refine x_copy E X cwX0_19 rfl rfl (by decide) hl.1 rfl rfl dX0_become_15 (fun H locs X => ?_)
  rw [← eS_1] at X
  refine lv_aload_n hx hb dX0_become_18 rfl (lv_at hl 0 rfl) ?_
  refine lv_aload_n hx hb dX0_become_19 rfl (lv_at hl 1 rfl) ?_
  refine x_get E X ffX0_15 rfl rfl dX0_become_20 ?_
  obtain ⟨S_2, eS_2, h⟩ := ltm_s h
  refine x_put E X fpX0_15 rfl rfl dX0_become_23 (fun H locs X => ?_)
  rw [← eS_2] at X
  exact x_vret E X h dX0_become_26
/-- SevenToAShadow$Book.become(LSevenToAShadow$Book;)V -/
theorem mX0_become_6_18 (l : Launch) (Z : XG) (hQ : wQ (List.length xL) Z) {S S' : Mem} {r : Int32} (h : fX0_become_6_18 S  = some (r, S')) : XM l yX0_become cX0_become 2 none { frames := 1, cells := 0, slots := 0, locals := 30 } xL Z [.ref (Z.2.1 6), .ref (Z.2.1 18)] S (XV xL Z S') := by
  refine XM.of (own := RX0) (by decide +kernel) rfl rfl hQ (fun p e s m args below meth c E ls hl X => ?_)
  exact wX0_become_6_18 E S  h _ _ _ X hl
def fX4_become_8_20 (S : Mem) : O := ltm (mput S 9 (va_cpy (S 21) (S 9) ((0 : Int32)).toNatClampNeg ((0 : Int32)).toNatClampNeg ((16 : Int32)).toNatClampNeg)) fun S_1 => ltm (mput S_1 10 (va_cpy (S_1 22) (S_1 10) ((0 : Int32)).toNatClampNeg ((0 : Int32)).toNatClampNeg ((16 : Int32)).toNatClampNeg)) fun S_2 => ltm (mput S_2 11 (va_cpy (S_2 23) (S_2 11) ((0 : Int32)).toNatClampNeg ((0 : Int32)).toNatClampNeg ((400 : Int32)).toNatClampNeg)) fun S_3 => ltm (mset S_3 8 4 (S_3 20 4)) fun S_4 => ltm (mset S_4 8 5 (S_4 20 5)) fun S_5 => some ((0 : Int32), S_5)
theorem dX4_become_0 : decode cX4_become 0 = .ok (.aload_n 1, 1) := by decide +kernel
theorem dX4_become_1 : decode cX4_become 1 = .ok (.getfield 9, 3) := by decide +kernel
theorem dX4_become_4 : decode cX4_become 4 = .ok (.iconst 0, 1) := by decide +kernel
theorem dX4_become_5 : decode cX4_become 5 = .ok (.aload_n 0, 1) := by decide +kernel
theorem dX4_become_6 : decode cX4_become 6 = .ok (.getfield 9, 3) := by decide +kernel
theorem dX4_become_9 : decode cX4_become 9 = .ok (.iconst 0, 1) := by decide +kernel
theorem dX4_become_10 : decode cX4_become 10 = .ok (.aload_n 0, 1) := by decide +kernel
theorem dX4_become_11 : decode cX4_become 11 = .ok (.getfield 9, 3) := by decide +kernel
theorem dX4_become_14 : decode cX4_become 14 = .ok (.arraylength, 1) := by decide +kernel
theorem dX4_become_15 : decode cX4_become 15 = .ok (.invokestatic 31, 3) := by decide +kernel
theorem dX4_become_18 : decode cX4_become 18 = .ok (.aload_n 1, 1) := by decide +kernel
theorem dX4_become_19 : decode cX4_become 19 = .ok (.getfield 15, 3) := by decide +kernel
theorem dX4_become_22 : decode cX4_become 22 = .ok (.iconst 0, 1) := by decide +kernel
theorem dX4_become_23 : decode cX4_become 23 = .ok (.aload_n 0, 1) := by decide +kernel
theorem dX4_become_24 : decode cX4_become 24 = .ok (.getfield 15, 3) := by decide +kernel
theorem dX4_become_27 : decode cX4_become 27 = .ok (.iconst 0, 1) := by decide +kernel
theorem dX4_become_28 : decode cX4_become 28 = .ok (.aload_n 0, 1) := by decide +kernel
theorem dX4_become_29 : decode cX4_become 29 = .ok (.getfield 15, 3) := by decide +kernel
theorem dX4_become_32 : decode cX4_become 32 = .ok (.arraylength, 1) := by decide +kernel
theorem dX4_become_33 : decode cX4_become 33 = .ok (.invokestatic 31, 3) := by decide +kernel
theorem dX4_become_36 : decode cX4_become 36 = .ok (.aload_n 1, 1) := by decide +kernel
theorem dX4_become_37 : decode cX4_become 37 = .ok (.getfield 18, 3) := by decide +kernel
theorem dX4_become_40 : decode cX4_become 40 = .ok (.iconst 0, 1) := by decide +kernel
theorem dX4_become_41 : decode cX4_become 41 = .ok (.aload_n 0, 1) := by decide +kernel
theorem dX4_become_42 : decode cX4_become 42 = .ok (.getfield 18, 3) := by decide +kernel
theorem dX4_become_45 : decode cX4_become 45 = .ok (.iconst 0, 1) := by decide +kernel
theorem dX4_become_46 : decode cX4_become 46 = .ok (.aload_n 0, 1) := by decide +kernel
theorem dX4_become_47 : decode cX4_become 47 = .ok (.getfield 18, 3) := by decide +kernel
theorem dX4_become_50 : decode cX4_become 50 = .ok (.arraylength, 1) := by decide +kernel
theorem dX4_become_51 : decode cX4_become 51 = .ok (.invokestatic 31, 3) := by decide +kernel
theorem dX4_become_54 : decode cX4_become 54 = .ok (.aload_n 0, 1) := by decide +kernel
theorem dX4_become_55 : decode cX4_become 55 = .ok (.aload_n 1, 1) := by decide +kernel
theorem dX4_become_56 : decode cX4_become 56 = .ok (.getfield 24, 3) := by decide +kernel
theorem dX4_become_59 : decode cX4_become 59 = .ok (.putfield 24, 3) := by decide +kernel
theorem dX4_become_62 : decode cX4_become 62 = .ok (.aload_n 0, 1) := by decide +kernel
theorem dX4_become_63 : decode cX4_become 63 = .ok (.aload_n 1, 1) := by decide +kernel
theorem dX4_become_64 : decode cX4_become 64 = .ok (.getfield 28, 3) := by decide +kernel
theorem dX4_become_67 : decode cX4_become 67 = .ok (.putfield 28, 3) := by decide +kernel
theorem dX4_become_70 : decode cX4_become 70 = .ok (.return_, 1) := by decide +kernel
set_option maxRecDepth 20000 in
theorem wX4_become_8_20 {p : Program} {l : Launch} {e : Env} {s : State} {m : MethodId} {args : Array Value} {below : List Frame} {meth : Method} {c : Code} {Z : XG} {r : Int32} {S' : Mem} (E : XE p s m args meth c cX4_become 2 RX4 none xL Z) : ∀ (S : Mem), fX4_become_8_20  S  = some (r, S') → WN p l e { frames := 1, cells := 0, slots := 0, locals := 30 } s m args below meth c xL Z (XV xL Z S') S 0 2 [(0, .ref (Z.2.1 8)), (1, .ref (Z.2.1 20))] [] := by
  obtain ⟨hx, hb, -, -, -, -, -, -, -, hQ⟩ := id E
  intro S  h H locs ls X hl
  unfold fX4_become_8_20 at h
  refine lv_aload_n hx hb dX4_become_0 rfl (lv_at hl 1 rfl) ?_
  refine x_getr E X ffX4_9 rfl rfl dX4_become_1 ?_
  refine lv_iconst (v := (0 : Int32)) hx hb dX4_become_4 (by decide) ?_
  refine lv_aload_n hx hb dX4_become_5 rfl (lv_at hl 0 rfl) ?_
  refine x_getr E X ffX4_9 rfl rfl dX4_become_6 ?_
  refine lv_iconst (v := (0 : Int32)) hx hb dX4_become_9 (by decide) ?_
  refine lv_aload_n hx hb dX4_become_10 rfl (lv_at hl 0 rfl) ?_
  refine x_getr E X ffX4_9 rfl rfl dX4_become_11 ?_
  refine x_alen E X (v := (16 : Int32)) rfl (by decide) dX4_become_14 ?_
  obtain ⟨S_1, eS_1, h⟩ := ltm_s h
  refine x_copy E X cwX4_31 rfl rfl (by decide) hl.1 rfl rfl dX4_become_15 (fun H locs X => ?_)
  rw [← eS_1] at X
  refine lv_aload_n hx hb dX4_become_18 rfl (lv_at hl 1 rfl) ?_
  refine x_getr E X ffX4_15 rfl rfl dX4_become_19 ?_
  refine lv_iconst (v := (0 : Int32)) hx hb dX4_become_22 (by decide) ?_
  refine lv_aload_n hx hb dX4_become_23 rfl (lv_at hl 0 rfl) ?_
  refine x_getr E X ffX4_15 rfl rfl dX4_become_24 ?_
  refine lv_iconst (v := (0 : Int32)) hx hb dX4_become_27 (by decide) ?_
  refine lv_aload_n hx hb dX4_become_28 rfl (lv_at hl 0 rfl) ?_
  refine x_getr E X ffX4_15 rfl rfl dX4_become_29 ?_
  refine x_alen E X (v := (16 : Int32)) rfl (by decide) dX4_become_32 ?_
  obtain ⟨S_2, eS_2, h⟩ := ltm_s h
  refine x_copy E X cwX4_31 rfl rfl (by decide) hl.1 rfl rfl dX4_become_33 (fun H locs X => ?_)
  rw [← eS_2] at X
  refine lv_aload_n hx hb dX4_become_36 rfl (lv_at hl 1 rfl) ?_
  refine x_getr E X ffX4_18 rfl rfl dX4_become_37 ?_
  refine lv_iconst (v := (0 : Int32)) hx hb dX4_become_40 (by decide) ?_
  refine lv_aload_n hx hb dX4_become_41 rfl (lv_at hl 0 rfl) ?_
  refine x_getr E X ffX4_18 rfl rfl dX4_become_42 ?_
  refine lv_iconst (v := (0 : Int32)) hx hb dX4_become_45 (by decide) ?_
  refine lv_aload_n hx hb dX4_become_46 rfl (lv_at hl 0 rfl) ?_
  refine x_getr E X ffX4_18 rfl rfl dX4_become_47 ?_
  refine x_alen E X (v := (400 : Int32)) rfl (by decide) dX4_become_50 ?_
  obtain ⟨S_3, eS_3, h⟩ := ltm_s h
  refine x_copy E X cwX4_31 rfl rfl (by decide) hl.1 rfl rfl dX4_become_51 (fun H locs X => ?_)
  rw [← eS_3] at X
  refine lv_aload_n hx hb dX4_become_54 rfl (lv_at hl 0 rfl) ?_
  refine lv_aload_n hx hb dX4_become_55 rfl (lv_at hl 1 rfl) ?_
  refine x_get E X ffX4_24 rfl rfl dX4_become_56 ?_
  obtain ⟨S_4, eS_4, h⟩ := ltm_s h
  refine x_put E X fpX4_24 rfl rfl dX4_become_59 (fun H locs X => ?_)
  rw [← eS_4] at X
  refine lv_aload_n hx hb dX4_become_62 rfl (lv_at hl 0 rfl) ?_
  refine lv_aload_n hx hb dX4_become_63 rfl (lv_at hl 1 rfl) ?_
  refine x_get E X ffX4_28 rfl rfl dX4_become_64 ?_
  obtain ⟨S_5, eS_5, h⟩ := ltm_s h
  refine x_put E X fpX4_28 rfl rfl dX4_become_67 (fun H locs X => ?_)
  rw [← eS_5] at X
  exact x_vret E X h dX4_become_70
/-- SevenToAShadow$Rules.become(LSevenToAShadow$Rules;)V -/
theorem mX4_become_8_20 (l : Launch) (Z : XG) (hQ : wQ (List.length xL) Z) {S S' : Mem} {r : Int32} (h : fX4_become_8_20 S  = some (r, S')) : XM l yX4_become cX4_become 2 none { frames := 1, cells := 0, slots := 0, locals := 30 } xL Z [.ref (Z.2.1 8), .ref (Z.2.1 20)] S (XV xL Z S') := by
  refine XM.of (own := RX4) (by decide +kernel) rfl rfl hQ (fun p e s m args below meth c E ls hl X => ?_)
  exact wX4_become_8_20 E S  h _ _ _ X hl
def fX6_become_1_13 (S : Mem) : O := ltm (mput S 2 (va_cpy (S 14) (S 2) ((0 : Int32)).toNatClampNeg ((0 : Int32)).toNatClampNeg ((60 : Int32)).toNatClampNeg)) fun S_1 => ltm (mput S_1 3 (va_cpy (S_1 15) (S_1 3) ((0 : Int32)).toNatClampNeg ((0 : Int32)).toNatClampNeg ((100 : Int32)).toNatClampNeg)) fun S_2 => ltm (mput S_2 4 (va_cpy (S_2 16) (S_2 4) ((0 : Int32)).toNatClampNeg ((0 : Int32)).toNatClampNeg ((10 : Int32)).toNatClampNeg)) fun S_3 => ltm (mput S_3 5 (va_cpy (S_3 17) (S_3 5) ((0 : Int32)).toNatClampNeg ((0 : Int32)).toNatClampNeg ((10 : Int32)).toNatClampNeg)) fun S_4 => bnd (fX0_become_6_18 S_4 ) fun _ S_6 => bnd (fX4_become_8_20 S_6 ) fun _ S_8 => ltm (mset S_8 1 6 (S_8 13 6)) fun S_9 => ltm (mset S_9 1 7 (S_9 13 7)) fun S_10 => ltm (mset S_10 1 8 (S_10 13 8)) fun S_11 => ltm (mset S_11 1 9 (S_11 13 9)) fun S_12 => ltm (mset S_12 1 10 (S_12 13 10)) fun S_13 => ltm (mset S_13 1 11 (S_13 13 11)) fun S_14 => ltm (mset S_14 1 12 (S_14 13 12)) fun S_15 => some ((0 : Int32), S_15)
theorem dX6_become_0 : decode cX6_become 0 = .ok (.aload_n 1, 1) := by decide +kernel
theorem dX6_become_1 : decode cX6_become 1 = .ok (.getfield 9, 3) := by decide +kernel
theorem dX6_become_4 : decode cX6_become 4 = .ok (.iconst 0, 1) := by decide +kernel
theorem dX6_become_5 : decode cX6_become 5 = .ok (.aload_n 0, 1) := by decide +kernel
theorem dX6_become_6 : decode cX6_become 6 = .ok (.getfield 9, 3) := by decide +kernel
theorem dX6_become_9 : decode cX6_become 9 = .ok (.iconst 0, 1) := by decide +kernel
theorem dX6_become_10 : decode cX6_become 10 = .ok (.aload_n 0, 1) := by decide +kernel
theorem dX6_become_11 : decode cX6_become 11 = .ok (.getfield 9, 3) := by decide +kernel
theorem dX6_become_14 : decode cX6_become 14 = .ok (.arraylength, 1) := by decide +kernel
theorem dX6_become_15 : decode cX6_become 15 = .ok (.invokestatic 54, 3) := by decide +kernel
theorem dX6_become_18 : decode cX6_become 18 = .ok (.aload_n 1, 1) := by decide +kernel
theorem dX6_become_19 : decode cX6_become 19 = .ok (.getfield 15, 3) := by decide +kernel
theorem dX6_become_22 : decode cX6_become 22 = .ok (.iconst 0, 1) := by decide +kernel
theorem dX6_become_23 : decode cX6_become 23 = .ok (.aload_n 0, 1) := by decide +kernel
theorem dX6_become_24 : decode cX6_become 24 = .ok (.getfield 15, 3) := by decide +kernel
theorem dX6_become_27 : decode cX6_become 27 = .ok (.iconst 0, 1) := by decide +kernel
theorem dX6_become_28 : decode cX6_become 28 = .ok (.aload_n 0, 1) := by decide +kernel
theorem dX6_become_29 : decode cX6_become 29 = .ok (.getfield 15, 3) := by decide +kernel
theorem dX6_become_32 : decode cX6_become 32 = .ok (.arraylength, 1) := by decide +kernel
theorem dX6_become_33 : decode cX6_become 33 = .ok (.invokestatic 54, 3) := by decide +kernel
theorem dX6_become_36 : decode cX6_become 36 = .ok (.aload_n 1, 1) := by decide +kernel
theorem dX6_become_37 : decode cX6_become 37 = .ok (.getfield 18, 3) := by decide +kernel
theorem dX6_become_40 : decode cX6_become 40 = .ok (.iconst 0, 1) := by decide +kernel
theorem dX6_become_41 : decode cX6_become 41 = .ok (.aload_n 0, 1) := by decide +kernel
theorem dX6_become_42 : decode cX6_become 42 = .ok (.getfield 18, 3) := by decide +kernel
theorem dX6_become_45 : decode cX6_become 45 = .ok (.iconst 0, 1) := by decide +kernel
theorem dX6_become_46 : decode cX6_become 46 = .ok (.aload_n 0, 1) := by decide +kernel
theorem dX6_become_47 : decode cX6_become 47 = .ok (.getfield 18, 3) := by decide +kernel
theorem dX6_become_50 : decode cX6_become 50 = .ok (.arraylength, 1) := by decide +kernel
theorem dX6_become_51 : decode cX6_become 51 = .ok (.invokestatic 54, 3) := by decide +kernel
theorem dX6_become_54 : decode cX6_become 54 = .ok (.aload_n 1, 1) := by decide +kernel
theorem dX6_become_55 : decode cX6_become 55 = .ok (.getfield 21, 3) := by decide +kernel
theorem dX6_become_58 : decode cX6_become 58 = .ok (.iconst 0, 1) := by decide +kernel
theorem dX6_become_59 : decode cX6_become 59 = .ok (.aload_n 0, 1) := by decide +kernel
theorem dX6_become_60 : decode cX6_become 60 = .ok (.getfield 21, 3) := by decide +kernel
theorem dX6_become_63 : decode cX6_become 63 = .ok (.iconst 0, 1) := by decide +kernel
theorem dX6_become_64 : decode cX6_become 64 = .ok (.aload_n 0, 1) := by decide +kernel
theorem dX6_become_65 : decode cX6_become 65 = .ok (.getfield 21, 3) := by decide +kernel
theorem dX6_become_68 : decode cX6_become 68 = .ok (.arraylength, 1) := by decide +kernel
theorem dX6_become_69 : decode cX6_become 69 = .ok (.invokestatic 54, 3) := by decide +kernel
theorem dX6_become_72 : decode cX6_become 72 = .ok (.aload_n 0, 1) := by decide +kernel
theorem dX6_become_73 : decode cX6_become 73 = .ok (.getfield 27, 3) := by decide +kernel
theorem dX6_become_76 : decode cX6_become 76 = .ok (.aload_n 1, 1) := by decide +kernel
theorem dX6_become_77 : decode cX6_become 77 = .ok (.getfield 27, 3) := by decide +kernel
theorem dX6_become_80 : decode cX6_become 80 = .ok (.invokevirtual 60, 3) := by decide +kernel
theorem dX6_become_83 : decode cX6_become 83 = .ok (.aload_n 0, 1) := by decide +kernel
theorem dX6_become_84 : decode cX6_become 84 = .ok (.getfield 34, 3) := by decide +kernel
theorem dX6_become_87 : decode cX6_become 87 = .ok (.aload_n 1, 1) := by decide +kernel
theorem dX6_become_88 : decode cX6_become 88 = .ok (.getfield 34, 3) := by decide +kernel
theorem dX6_become_91 : decode cX6_become 91 = .ok (.invokevirtual 64, 3) := by decide +kernel
theorem dX6_become_94 : decode cX6_become 94 = .ok (.aload_n 0, 1) := by decide +kernel
theorem dX6_become_95 : decode cX6_become 95 = .ok (.aload_n 1, 1) := by decide +kernel
theorem dX6_become_96 : decode cX6_become 96 = .ok (.getfield 67, 3) := by decide +kernel
theorem dX6_become_99 : decode cX6_become 99 = .ok (.putfield 67, 3) := by decide +kernel
theorem dX6_become_102 : decode cX6_become 102 = .ok (.aload_n 0, 1) := by decide +kernel
theorem dX6_become_103 : decode cX6_become 103 = .ok (.aload_n 1, 1) := by decide +kernel
theorem dX6_become_104 : decode cX6_become 104 = .ok (.getfield 70, 3) := by decide +kernel
theorem dX6_become_107 : decode cX6_become 107 = .ok (.putfield 70, 3) := by decide +kernel
theorem dX6_become_110 : decode cX6_become 110 = .ok (.aload_n 0, 1) := by decide +kernel
theorem dX6_become_111 : decode cX6_become 111 = .ok (.aload_n 1, 1) := by decide +kernel
theorem dX6_become_112 : decode cX6_become 112 = .ok (.getfield 73, 3) := by decide +kernel
theorem dX6_become_115 : decode cX6_become 115 = .ok (.putfield 73, 3) := by decide +kernel
theorem dX6_become_118 : decode cX6_become 118 = .ok (.aload_n 0, 1) := by decide +kernel
theorem dX6_become_119 : decode cX6_become 119 = .ok (.aload_n 1, 1) := by decide +kernel
theorem dX6_become_120 : decode cX6_become 120 = .ok (.getfield 76, 3) := by decide +kernel
theorem dX6_become_123 : decode cX6_become 123 = .ok (.putfield 76, 3) := by decide +kernel
theorem dX6_become_126 : decode cX6_become 126 = .ok (.aload_n 0, 1) := by decide +kernel
theorem dX6_become_127 : decode cX6_become 127 = .ok (.aload_n 1, 1) := by decide +kernel
theorem dX6_become_128 : decode cX6_become 128 = .ok (.getfield 79, 3) := by decide +kernel
theorem dX6_become_131 : decode cX6_become 131 = .ok (.putfield 79, 3) := by decide +kernel
theorem dX6_become_134 : decode cX6_become 134 = .ok (.aload_n 0, 1) := by decide +kernel
theorem dX6_become_135 : decode cX6_become 135 = .ok (.aload_n 1, 1) := by decide +kernel
theorem dX6_become_136 : decode cX6_become 136 = .ok (.getfield 38, 3) := by decide +kernel
theorem dX6_become_139 : decode cX6_become 139 = .ok (.putfield 38, 3) := by decide +kernel
theorem dX6_become_142 : decode cX6_become 142 = .ok (.aload_n 0, 1) := by decide +kernel
theorem dX6_become_143 : decode cX6_become 143 = .ok (.aload_n 1, 1) := by decide +kernel
theorem dX6_become_144 : decode cX6_become 144 = .ok (.getfield 82, 3) := by decide +kernel
theorem dX6_become_147 : decode cX6_become 147 = .ok (.putfield 82, 3) := by decide +kernel
theorem dX6_become_150 : decode cX6_become 150 = .ok (.return_, 1) := by decide +kernel
set_option maxRecDepth 20000 in
theorem wX6_become_1_13 {p : Program} {l : Launch} {e : Env} {s : State} {m : MethodId} {args : Array Value} {below : List Frame} {meth : Method} {c : Code} {Z : XG} {r : Int32} {S' : Mem} (E : XE p s m args meth c cX6_become 2 RX6 none xL Z) : ∀ (S : Mem), fX6_become_1_13  S  = some (r, S') → WN p l e { frames := 2, cells := 0, slots := 0, locals := 51 } s m args below meth c xL Z (XV xL Z S') S 0 2 [(0, .ref (Z.2.1 1)), (1, .ref (Z.2.1 13))] [] := by
  obtain ⟨hx, hb, -, -, -, -, -, -, -, hQ⟩ := id E
  intro S  h H locs ls X hl
  unfold fX6_become_1_13 at h
  refine lv_aload_n hx hb dX6_become_0 rfl (lv_at hl 1 rfl) ?_
  refine x_getr E X ffX6_9 rfl rfl dX6_become_1 ?_
  refine lv_iconst (v := (0 : Int32)) hx hb dX6_become_4 (by decide) ?_
  refine lv_aload_n hx hb dX6_become_5 rfl (lv_at hl 0 rfl) ?_
  refine x_getr E X ffX6_9 rfl rfl dX6_become_6 ?_
  refine lv_iconst (v := (0 : Int32)) hx hb dX6_become_9 (by decide) ?_
  refine lv_aload_n hx hb dX6_become_10 rfl (lv_at hl 0 rfl) ?_
  refine x_getr E X ffX6_9 rfl rfl dX6_become_11 ?_
  refine x_alen E X (v := (60 : Int32)) rfl (by decide) dX6_become_14 ?_
  obtain ⟨S_1, eS_1, h⟩ := ltm_s h
  refine x_copy E X cwX6_54 rfl rfl (by decide) hl.1 rfl rfl dX6_become_15 (fun H locs X => ?_)
  rw [← eS_1] at X
  refine lv_aload_n hx hb dX6_become_18 rfl (lv_at hl 1 rfl) ?_
  refine x_getr E X ffX6_15 rfl rfl dX6_become_19 ?_
  refine lv_iconst (v := (0 : Int32)) hx hb dX6_become_22 (by decide) ?_
  refine lv_aload_n hx hb dX6_become_23 rfl (lv_at hl 0 rfl) ?_
  refine x_getr E X ffX6_15 rfl rfl dX6_become_24 ?_
  refine lv_iconst (v := (0 : Int32)) hx hb dX6_become_27 (by decide) ?_
  refine lv_aload_n hx hb dX6_become_28 rfl (lv_at hl 0 rfl) ?_
  refine x_getr E X ffX6_15 rfl rfl dX6_become_29 ?_
  refine x_alen E X (v := (100 : Int32)) rfl (by decide) dX6_become_32 ?_
  obtain ⟨S_2, eS_2, h⟩ := ltm_s h
  refine x_copy E X cwX6_54 rfl rfl (by decide) hl.1 rfl rfl dX6_become_33 (fun H locs X => ?_)
  rw [← eS_2] at X
  refine lv_aload_n hx hb dX6_become_36 rfl (lv_at hl 1 rfl) ?_
  refine x_getr E X ffX6_18 rfl rfl dX6_become_37 ?_
  refine lv_iconst (v := (0 : Int32)) hx hb dX6_become_40 (by decide) ?_
  refine lv_aload_n hx hb dX6_become_41 rfl (lv_at hl 0 rfl) ?_
  refine x_getr E X ffX6_18 rfl rfl dX6_become_42 ?_
  refine lv_iconst (v := (0 : Int32)) hx hb dX6_become_45 (by decide) ?_
  refine lv_aload_n hx hb dX6_become_46 rfl (lv_at hl 0 rfl) ?_
  refine x_getr E X ffX6_18 rfl rfl dX6_become_47 ?_
  refine x_alen E X (v := (10 : Int32)) rfl (by decide) dX6_become_50 ?_
  obtain ⟨S_3, eS_3, h⟩ := ltm_s h
  refine x_copy E X cwX6_54 rfl rfl (by decide) hl.1 rfl rfl dX6_become_51 (fun H locs X => ?_)
  rw [← eS_3] at X
  refine lv_aload_n hx hb dX6_become_54 rfl (lv_at hl 1 rfl) ?_
  refine x_getr E X ffX6_21 rfl rfl dX6_become_55 ?_
  refine lv_iconst (v := (0 : Int32)) hx hb dX6_become_58 (by decide) ?_
  refine lv_aload_n hx hb dX6_become_59 rfl (lv_at hl 0 rfl) ?_
  refine x_getr E X ffX6_21 rfl rfl dX6_become_60 ?_
  refine lv_iconst (v := (0 : Int32)) hx hb dX6_become_63 (by decide) ?_
  refine lv_aload_n hx hb dX6_become_64 rfl (lv_at hl 0 rfl) ?_
  refine x_getr E X ffX6_21 rfl rfl dX6_become_65 ?_
  refine x_alen E X (v := (10 : Int32)) rfl (by decide) dX6_become_68 ?_
  obtain ⟨S_4, eS_4, h⟩ := ltm_s h
  refine x_copy E X cwX6_54 rfl rfl (by decide) hl.1 rfl rfl dX6_become_69 (fun H locs X => ?_)
  rw [← eS_4] at X
  refine lv_aload_n hx hb dX6_become_72 rfl (lv_at hl 0 rfl) ?_
  refine x_getr E X ffX6_27 rfl rfl dX6_become_73 ?_
  refine lv_aload_n hx hb dX6_become_76 rfl (lv_at hl 1 rfl) ?_
  refine x_getr E X ffX6_27 rfl rfl dX6_become_77 ?_
  obtain ⟨r_5, S_6, hr_5, h⟩ := bnd_s h
  refine x_callVv E X cwX6_60 (mX0_become_6_18 l Z hQ   hr_5) rfl rfl rfl rfl hl.1 rfl dX6_become_80 (fun H locs X => ?_)
  refine lv_aload_n hx hb dX6_become_83 rfl (lv_at hl 0 rfl) ?_
  refine x_getr E X ffX6_34 rfl rfl dX6_become_84 ?_
  refine lv_aload_n hx hb dX6_become_87 rfl (lv_at hl 1 rfl) ?_
  refine x_getr E X ffX6_34 rfl rfl dX6_become_88 ?_
  obtain ⟨r_7, S_8, hr_7, h⟩ := bnd_s h
  refine x_callVv E X cwX6_64 (mX4_become_8_20 l Z hQ   hr_7) rfl rfl rfl rfl hl.1 rfl dX6_become_91 (fun H locs X => ?_)
  refine lv_aload_n hx hb dX6_become_94 rfl (lv_at hl 0 rfl) ?_
  refine lv_aload_n hx hb dX6_become_95 rfl (lv_at hl 1 rfl) ?_
  refine x_get E X ffX6_67 rfl rfl dX6_become_96 ?_
  obtain ⟨S_9, eS_9, h⟩ := ltm_s h
  refine x_put E X fpX6_67 rfl rfl dX6_become_99 (fun H locs X => ?_)
  rw [← eS_9] at X
  refine lv_aload_n hx hb dX6_become_102 rfl (lv_at hl 0 rfl) ?_
  refine lv_aload_n hx hb dX6_become_103 rfl (lv_at hl 1 rfl) ?_
  refine x_get E X ffX6_70 rfl rfl dX6_become_104 ?_
  obtain ⟨S_10, eS_10, h⟩ := ltm_s h
  refine x_put E X fpX6_70 rfl rfl dX6_become_107 (fun H locs X => ?_)
  rw [← eS_10] at X
  refine lv_aload_n hx hb dX6_become_110 rfl (lv_at hl 0 rfl) ?_
  refine lv_aload_n hx hb dX6_become_111 rfl (lv_at hl 1 rfl) ?_
  refine x_get E X ffX6_73 rfl rfl dX6_become_112 ?_
  obtain ⟨S_11, eS_11, h⟩ := ltm_s h
  refine x_put E X fpX6_73 rfl rfl dX6_become_115 (fun H locs X => ?_)
  rw [← eS_11] at X
  refine lv_aload_n hx hb dX6_become_118 rfl (lv_at hl 0 rfl) ?_
  refine lv_aload_n hx hb dX6_become_119 rfl (lv_at hl 1 rfl) ?_
  refine x_get E X ffX6_76 rfl rfl dX6_become_120 ?_
  obtain ⟨S_12, eS_12, h⟩ := ltm_s h
  refine x_put E X fpX6_76 rfl rfl dX6_become_123 (fun H locs X => ?_)
  rw [← eS_12] at X
  refine lv_aload_n hx hb dX6_become_126 rfl (lv_at hl 0 rfl) ?_
  refine lv_aload_n hx hb dX6_become_127 rfl (lv_at hl 1 rfl) ?_
  refine x_get E X ffX6_79 rfl rfl dX6_become_128 ?_
  obtain ⟨S_13, eS_13, h⟩ := ltm_s h
  refine x_put E X fpX6_79 rfl rfl dX6_become_131 (fun H locs X => ?_)
  rw [← eS_13] at X
  refine lv_aload_n hx hb dX6_become_134 rfl (lv_at hl 0 rfl) ?_
  refine lv_aload_n hx hb dX6_become_135 rfl (lv_at hl 1 rfl) ?_
  refine x_get E X ffX6_38 rfl rfl dX6_become_136 ?_
  obtain ⟨S_14, eS_14, h⟩ := ltm_s h
  refine x_put E X fpX6_38 rfl rfl dX6_become_139 (fun H locs X => ?_)
  rw [← eS_14] at X
  refine lv_aload_n hx hb dX6_become_142 rfl (lv_at hl 0 rfl) ?_
  refine lv_aload_n hx hb dX6_become_143 rfl (lv_at hl 1 rfl) ?_
  refine x_get E X ffX6_82 rfl rfl dX6_become_144 ?_
  obtain ⟨S_15, eS_15, h⟩ := ltm_s h
  refine x_put E X fpX6_82 rfl rfl dX6_become_147 (fun H locs X => ?_)
  rw [← eS_15] at X
  exact x_vret E X h dX6_become_150
/-- SevenToAShadow$World.become(LSevenToAShadow$World;)V -/
theorem mX6_become_1_13 (l : Launch) (Z : XG) (hQ : wQ (List.length xL) Z) {S S' : Mem} {r : Int32} (h : fX6_become_1_13 S  = some (r, S')) : XM l yX6_become cX6_become 2 none { frames := 2, cells := 0, slots := 0, locals := 51 } xL Z [.ref (Z.2.1 1), .ref (Z.2.1 13)] S (XV xL Z S') := by
  refine XM.of (own := RX6) (by decide +kernel) rfl rfl hQ (fun p e s m args below meth c E ls hl X => ?_)
  exact wX6_become_1_13 E S  h _ _ _ X hl
def fX0_become_18_6 (S : Mem) : O := ltm (mput S 19 (va_cpy (S 7) (S 19) ((0 : Int32)).toNatClampNeg ((0 : Int32)).toNatClampNeg ((800 : Int32)).toNatClampNeg)) fun S_1 => ltm (mset S_1 18 1 (S_1 6 1)) fun S_2 => some ((0 : Int32), S_2)
set_option maxRecDepth 20000 in
theorem wX0_become_18_6 {p : Program} {l : Launch} {e : Env} {s : State} {m : MethodId} {args : Array Value} {below : List Frame} {meth : Method} {c : Code} {Z : XG} {r : Int32} {S' : Mem} (E : XE p s m args meth c cX0_become 2 RX0 none xL Z) : ∀ (S : Mem), fX0_become_18_6  S  = some (r, S') → WN p l e { frames := 1, cells := 0, slots := 0, locals := 30 } s m args below meth c xL Z (XV xL Z S') S 0 2 [(0, .ref (Z.2.1 18)), (1, .ref (Z.2.1 6))] [] := by
  obtain ⟨hx, hb, -, -, -, -, -, -, -, hQ⟩ := id E
  intro S  h H locs ls X hl
  unfold fX0_become_18_6 at h
  refine lv_aload_n hx hb dX0_become_0 rfl (lv_at hl 1 rfl) ?_
  refine x_getr E X ffX0_9 rfl rfl dX0_become_1 ?_
  refine lv_iconst (v := (0 : Int32)) hx hb dX0_become_4 (by decide) ?_
  refine lv_aload_n hx hb dX0_become_5 rfl (lv_at hl 0 rfl) ?_
  refine x_getr E X ffX0_9 rfl rfl dX0_become_6 ?_
  refine lv_iconst (v := (0 : Int32)) hx hb dX0_become_9 (by decide) ?_
  refine lv_aload_n hx hb dX0_become_10 rfl (lv_at hl 0 rfl) ?_
  refine x_getr E X ffX0_9 rfl rfl dX0_become_11 ?_
  refine x_alen E X (v := (800 : Int32)) rfl (by decide) dX0_become_14 ?_
  obtain ⟨S_1, eS_1, h⟩ := ltm_s h
  refine x_copy E X cwX0_19 rfl rfl (by decide) hl.1 rfl rfl dX0_become_15 (fun H locs X => ?_)
  rw [← eS_1] at X
  refine lv_aload_n hx hb dX0_become_18 rfl (lv_at hl 0 rfl) ?_
  refine lv_aload_n hx hb dX0_become_19 rfl (lv_at hl 1 rfl) ?_
  refine x_get E X ffX0_15 rfl rfl dX0_become_20 ?_
  obtain ⟨S_2, eS_2, h⟩ := ltm_s h
  refine x_put E X fpX0_15 rfl rfl dX0_become_23 (fun H locs X => ?_)
  rw [← eS_2] at X
  exact x_vret E X h dX0_become_26
/-- SevenToAShadow$Book.become(LSevenToAShadow$Book;)V -/
theorem mX0_become_18_6 (l : Launch) (Z : XG) (hQ : wQ (List.length xL) Z) {S S' : Mem} {r : Int32} (h : fX0_become_18_6 S  = some (r, S')) : XM l yX0_become cX0_become 2 none { frames := 1, cells := 0, slots := 0, locals := 30 } xL Z [.ref (Z.2.1 18), .ref (Z.2.1 6)] S (XV xL Z S') := by
  refine XM.of (own := RX0) (by decide +kernel) rfl rfl hQ (fun p e s m args below meth c E ls hl X => ?_)
  exact wX0_become_18_6 E S  h _ _ _ X hl
def fX4_become_20_8 (S : Mem) : O := ltm (mput S 21 (va_cpy (S 9) (S 21) ((0 : Int32)).toNatClampNeg ((0 : Int32)).toNatClampNeg ((16 : Int32)).toNatClampNeg)) fun S_1 => ltm (mput S_1 22 (va_cpy (S_1 10) (S_1 22) ((0 : Int32)).toNatClampNeg ((0 : Int32)).toNatClampNeg ((16 : Int32)).toNatClampNeg)) fun S_2 => ltm (mput S_2 23 (va_cpy (S_2 11) (S_2 23) ((0 : Int32)).toNatClampNeg ((0 : Int32)).toNatClampNeg ((400 : Int32)).toNatClampNeg)) fun S_3 => ltm (mset S_3 20 4 (S_3 8 4)) fun S_4 => ltm (mset S_4 20 5 (S_4 8 5)) fun S_5 => some ((0 : Int32), S_5)
set_option maxRecDepth 20000 in
theorem wX4_become_20_8 {p : Program} {l : Launch} {e : Env} {s : State} {m : MethodId} {args : Array Value} {below : List Frame} {meth : Method} {c : Code} {Z : XG} {r : Int32} {S' : Mem} (E : XE p s m args meth c cX4_become 2 RX4 none xL Z) : ∀ (S : Mem), fX4_become_20_8  S  = some (r, S') → WN p l e { frames := 1, cells := 0, slots := 0, locals := 30 } s m args below meth c xL Z (XV xL Z S') S 0 2 [(0, .ref (Z.2.1 20)), (1, .ref (Z.2.1 8))] [] := by
  obtain ⟨hx, hb, -, -, -, -, -, -, -, hQ⟩ := id E
  intro S  h H locs ls X hl
  unfold fX4_become_20_8 at h
  refine lv_aload_n hx hb dX4_become_0 rfl (lv_at hl 1 rfl) ?_
  refine x_getr E X ffX4_9 rfl rfl dX4_become_1 ?_
  refine lv_iconst (v := (0 : Int32)) hx hb dX4_become_4 (by decide) ?_
  refine lv_aload_n hx hb dX4_become_5 rfl (lv_at hl 0 rfl) ?_
  refine x_getr E X ffX4_9 rfl rfl dX4_become_6 ?_
  refine lv_iconst (v := (0 : Int32)) hx hb dX4_become_9 (by decide) ?_
  refine lv_aload_n hx hb dX4_become_10 rfl (lv_at hl 0 rfl) ?_
  refine x_getr E X ffX4_9 rfl rfl dX4_become_11 ?_
  refine x_alen E X (v := (16 : Int32)) rfl (by decide) dX4_become_14 ?_
  obtain ⟨S_1, eS_1, h⟩ := ltm_s h
  refine x_copy E X cwX4_31 rfl rfl (by decide) hl.1 rfl rfl dX4_become_15 (fun H locs X => ?_)
  rw [← eS_1] at X
  refine lv_aload_n hx hb dX4_become_18 rfl (lv_at hl 1 rfl) ?_
  refine x_getr E X ffX4_15 rfl rfl dX4_become_19 ?_
  refine lv_iconst (v := (0 : Int32)) hx hb dX4_become_22 (by decide) ?_
  refine lv_aload_n hx hb dX4_become_23 rfl (lv_at hl 0 rfl) ?_
  refine x_getr E X ffX4_15 rfl rfl dX4_become_24 ?_
  refine lv_iconst (v := (0 : Int32)) hx hb dX4_become_27 (by decide) ?_
  refine lv_aload_n hx hb dX4_become_28 rfl (lv_at hl 0 rfl) ?_
  refine x_getr E X ffX4_15 rfl rfl dX4_become_29 ?_
  refine x_alen E X (v := (16 : Int32)) rfl (by decide) dX4_become_32 ?_
  obtain ⟨S_2, eS_2, h⟩ := ltm_s h
  refine x_copy E X cwX4_31 rfl rfl (by decide) hl.1 rfl rfl dX4_become_33 (fun H locs X => ?_)
  rw [← eS_2] at X
  refine lv_aload_n hx hb dX4_become_36 rfl (lv_at hl 1 rfl) ?_
  refine x_getr E X ffX4_18 rfl rfl dX4_become_37 ?_
  refine lv_iconst (v := (0 : Int32)) hx hb dX4_become_40 (by decide) ?_
  refine lv_aload_n hx hb dX4_become_41 rfl (lv_at hl 0 rfl) ?_
  refine x_getr E X ffX4_18 rfl rfl dX4_become_42 ?_
  refine lv_iconst (v := (0 : Int32)) hx hb dX4_become_45 (by decide) ?_
  refine lv_aload_n hx hb dX4_become_46 rfl (lv_at hl 0 rfl) ?_
  refine x_getr E X ffX4_18 rfl rfl dX4_become_47 ?_
  refine x_alen E X (v := (400 : Int32)) rfl (by decide) dX4_become_50 ?_
  obtain ⟨S_3, eS_3, h⟩ := ltm_s h
  refine x_copy E X cwX4_31 rfl rfl (by decide) hl.1 rfl rfl dX4_become_51 (fun H locs X => ?_)
  rw [← eS_3] at X
  refine lv_aload_n hx hb dX4_become_54 rfl (lv_at hl 0 rfl) ?_
  refine lv_aload_n hx hb dX4_become_55 rfl (lv_at hl 1 rfl) ?_
  refine x_get E X ffX4_24 rfl rfl dX4_become_56 ?_
  obtain ⟨S_4, eS_4, h⟩ := ltm_s h
  refine x_put E X fpX4_24 rfl rfl dX4_become_59 (fun H locs X => ?_)
  rw [← eS_4] at X
  refine lv_aload_n hx hb dX4_become_62 rfl (lv_at hl 0 rfl) ?_
  refine lv_aload_n hx hb dX4_become_63 rfl (lv_at hl 1 rfl) ?_
  refine x_get E X ffX4_28 rfl rfl dX4_become_64 ?_
  obtain ⟨S_5, eS_5, h⟩ := ltm_s h
  refine x_put E X fpX4_28 rfl rfl dX4_become_67 (fun H locs X => ?_)
  rw [← eS_5] at X
  exact x_vret E X h dX4_become_70
/-- SevenToAShadow$Rules.become(LSevenToAShadow$Rules;)V -/
theorem mX4_become_20_8 (l : Launch) (Z : XG) (hQ : wQ (List.length xL) Z) {S S' : Mem} {r : Int32} (h : fX4_become_20_8 S  = some (r, S')) : XM l yX4_become cX4_become 2 none { frames := 1, cells := 0, slots := 0, locals := 30 } xL Z [.ref (Z.2.1 20), .ref (Z.2.1 8)] S (XV xL Z S') := by
  refine XM.of (own := RX4) (by decide +kernel) rfl rfl hQ (fun p e s m args below meth c E ls hl X => ?_)
  exact wX4_become_20_8 E S  h _ _ _ X hl
def fX6_become_13_1 (S : Mem) : O := ltm (mput S 14 (va_cpy (S 2) (S 14) ((0 : Int32)).toNatClampNeg ((0 : Int32)).toNatClampNeg ((60 : Int32)).toNatClampNeg)) fun S_1 => ltm (mput S_1 15 (va_cpy (S_1 3) (S_1 15) ((0 : Int32)).toNatClampNeg ((0 : Int32)).toNatClampNeg ((100 : Int32)).toNatClampNeg)) fun S_2 => ltm (mput S_2 16 (va_cpy (S_2 4) (S_2 16) ((0 : Int32)).toNatClampNeg ((0 : Int32)).toNatClampNeg ((10 : Int32)).toNatClampNeg)) fun S_3 => ltm (mput S_3 17 (va_cpy (S_3 5) (S_3 17) ((0 : Int32)).toNatClampNeg ((0 : Int32)).toNatClampNeg ((10 : Int32)).toNatClampNeg)) fun S_4 => bnd (fX0_become_18_6 S_4 ) fun _ S_6 => bnd (fX4_become_20_8 S_6 ) fun _ S_8 => ltm (mset S_8 13 6 (S_8 1 6)) fun S_9 => ltm (mset S_9 13 7 (S_9 1 7)) fun S_10 => ltm (mset S_10 13 8 (S_10 1 8)) fun S_11 => ltm (mset S_11 13 9 (S_11 1 9)) fun S_12 => ltm (mset S_12 13 10 (S_12 1 10)) fun S_13 => ltm (mset S_13 13 11 (S_13 1 11)) fun S_14 => ltm (mset S_14 13 12 (S_14 1 12)) fun S_15 => some ((0 : Int32), S_15)
set_option maxRecDepth 20000 in
theorem wX6_become_13_1 {p : Program} {l : Launch} {e : Env} {s : State} {m : MethodId} {args : Array Value} {below : List Frame} {meth : Method} {c : Code} {Z : XG} {r : Int32} {S' : Mem} (E : XE p s m args meth c cX6_become 2 RX6 none xL Z) : ∀ (S : Mem), fX6_become_13_1  S  = some (r, S') → WN p l e { frames := 2, cells := 0, slots := 0, locals := 51 } s m args below meth c xL Z (XV xL Z S') S 0 2 [(0, .ref (Z.2.1 13)), (1, .ref (Z.2.1 1))] [] := by
  obtain ⟨hx, hb, -, -, -, -, -, -, -, hQ⟩ := id E
  intro S  h H locs ls X hl
  unfold fX6_become_13_1 at h
  refine lv_aload_n hx hb dX6_become_0 rfl (lv_at hl 1 rfl) ?_
  refine x_getr E X ffX6_9 rfl rfl dX6_become_1 ?_
  refine lv_iconst (v := (0 : Int32)) hx hb dX6_become_4 (by decide) ?_
  refine lv_aload_n hx hb dX6_become_5 rfl (lv_at hl 0 rfl) ?_
  refine x_getr E X ffX6_9 rfl rfl dX6_become_6 ?_
  refine lv_iconst (v := (0 : Int32)) hx hb dX6_become_9 (by decide) ?_
  refine lv_aload_n hx hb dX6_become_10 rfl (lv_at hl 0 rfl) ?_
  refine x_getr E X ffX6_9 rfl rfl dX6_become_11 ?_
  refine x_alen E X (v := (60 : Int32)) rfl (by decide) dX6_become_14 ?_
  obtain ⟨S_1, eS_1, h⟩ := ltm_s h
  refine x_copy E X cwX6_54 rfl rfl (by decide) hl.1 rfl rfl dX6_become_15 (fun H locs X => ?_)
  rw [← eS_1] at X
  refine lv_aload_n hx hb dX6_become_18 rfl (lv_at hl 1 rfl) ?_
  refine x_getr E X ffX6_15 rfl rfl dX6_become_19 ?_
  refine lv_iconst (v := (0 : Int32)) hx hb dX6_become_22 (by decide) ?_
  refine lv_aload_n hx hb dX6_become_23 rfl (lv_at hl 0 rfl) ?_
  refine x_getr E X ffX6_15 rfl rfl dX6_become_24 ?_
  refine lv_iconst (v := (0 : Int32)) hx hb dX6_become_27 (by decide) ?_
  refine lv_aload_n hx hb dX6_become_28 rfl (lv_at hl 0 rfl) ?_
  refine x_getr E X ffX6_15 rfl rfl dX6_become_29 ?_
  refine x_alen E X (v := (100 : Int32)) rfl (by decide) dX6_become_32 ?_
  obtain ⟨S_2, eS_2, h⟩ := ltm_s h
  refine x_copy E X cwX6_54 rfl rfl (by decide) hl.1 rfl rfl dX6_become_33 (fun H locs X => ?_)
  rw [← eS_2] at X
  refine lv_aload_n hx hb dX6_become_36 rfl (lv_at hl 1 rfl) ?_
  refine x_getr E X ffX6_18 rfl rfl dX6_become_37 ?_
  refine lv_iconst (v := (0 : Int32)) hx hb dX6_become_40 (by decide) ?_
  refine lv_aload_n hx hb dX6_become_41 rfl (lv_at hl 0 rfl) ?_
  refine x_getr E X ffX6_18 rfl rfl dX6_become_42 ?_
  refine lv_iconst (v := (0 : Int32)) hx hb dX6_become_45 (by decide) ?_
  refine lv_aload_n hx hb dX6_become_46 rfl (lv_at hl 0 rfl) ?_
  refine x_getr E X ffX6_18 rfl rfl dX6_become_47 ?_
  refine x_alen E X (v := (10 : Int32)) rfl (by decide) dX6_become_50 ?_
  obtain ⟨S_3, eS_3, h⟩ := ltm_s h
  refine x_copy E X cwX6_54 rfl rfl (by decide) hl.1 rfl rfl dX6_become_51 (fun H locs X => ?_)
  rw [← eS_3] at X
  refine lv_aload_n hx hb dX6_become_54 rfl (lv_at hl 1 rfl) ?_
  refine x_getr E X ffX6_21 rfl rfl dX6_become_55 ?_
  refine lv_iconst (v := (0 : Int32)) hx hb dX6_become_58 (by decide) ?_
  refine lv_aload_n hx hb dX6_become_59 rfl (lv_at hl 0 rfl) ?_
  refine x_getr E X ffX6_21 rfl rfl dX6_become_60 ?_
  refine lv_iconst (v := (0 : Int32)) hx hb dX6_become_63 (by decide) ?_
  refine lv_aload_n hx hb dX6_become_64 rfl (lv_at hl 0 rfl) ?_
  refine x_getr E X ffX6_21 rfl rfl dX6_become_65 ?_
  refine x_alen E X (v := (10 : Int32)) rfl (by decide) dX6_become_68 ?_
  obtain ⟨S_4, eS_4, h⟩ := ltm_s h
  refine x_copy E X cwX6_54 rfl rfl (by decide) hl.1 rfl rfl dX6_become_69 (fun H locs X => ?_)
  rw [← eS_4] at X
  refine lv_aload_n hx hb dX6_become_72 rfl (lv_at hl 0 rfl) ?_
  refine x_getr E X ffX6_27 rfl rfl dX6_become_73 ?_
  refine lv_aload_n hx hb dX6_become_76 rfl (lv_at hl 1 rfl) ?_
  refine x_getr E X ffX6_27 rfl rfl dX6_become_77 ?_
  obtain ⟨r_5, S_6, hr_5, h⟩ := bnd_s h
  refine x_callVv E X cwX6_60 (mX0_become_18_6 l Z hQ   hr_5) rfl rfl rfl rfl hl.1 rfl dX6_become_80 (fun H locs X => ?_)
  refine lv_aload_n hx hb dX6_become_83 rfl (lv_at hl 0 rfl) ?_
  refine x_getr E X ffX6_34 rfl rfl dX6_become_84 ?_
  refine lv_aload_n hx hb dX6_become_87 rfl (lv_at hl 1 rfl) ?_
  refine x_getr E X ffX6_34 rfl rfl dX6_become_88 ?_
  obtain ⟨r_7, S_8, hr_7, h⟩ := bnd_s h
  refine x_callVv E X cwX6_64 (mX4_become_20_8 l Z hQ   hr_7) rfl rfl rfl rfl hl.1 rfl dX6_become_91 (fun H locs X => ?_)
  refine lv_aload_n hx hb dX6_become_94 rfl (lv_at hl 0 rfl) ?_
  refine lv_aload_n hx hb dX6_become_95 rfl (lv_at hl 1 rfl) ?_
  refine x_get E X ffX6_67 rfl rfl dX6_become_96 ?_
  obtain ⟨S_9, eS_9, h⟩ := ltm_s h
  refine x_put E X fpX6_67 rfl rfl dX6_become_99 (fun H locs X => ?_)
  rw [← eS_9] at X
  refine lv_aload_n hx hb dX6_become_102 rfl (lv_at hl 0 rfl) ?_
  refine lv_aload_n hx hb dX6_become_103 rfl (lv_at hl 1 rfl) ?_
  refine x_get E X ffX6_70 rfl rfl dX6_become_104 ?_
  obtain ⟨S_10, eS_10, h⟩ := ltm_s h
  refine x_put E X fpX6_70 rfl rfl dX6_become_107 (fun H locs X => ?_)
  rw [← eS_10] at X
  refine lv_aload_n hx hb dX6_become_110 rfl (lv_at hl 0 rfl) ?_
  refine lv_aload_n hx hb dX6_become_111 rfl (lv_at hl 1 rfl) ?_
  refine x_get E X ffX6_73 rfl rfl dX6_become_112 ?_
  obtain ⟨S_11, eS_11, h⟩ := ltm_s h
  refine x_put E X fpX6_73 rfl rfl dX6_become_115 (fun H locs X => ?_)
  rw [← eS_11] at X
  refine lv_aload_n hx hb dX6_become_118 rfl (lv_at hl 0 rfl) ?_
  refine lv_aload_n hx hb dX6_become_119 rfl (lv_at hl 1 rfl) ?_
  refine x_get E X ffX6_76 rfl rfl dX6_become_120 ?_
  obtain ⟨S_12, eS_12, h⟩ := ltm_s h
  refine x_put E X fpX6_76 rfl rfl dX6_become_123 (fun H locs X => ?_)
  rw [← eS_12] at X
  refine lv_aload_n hx hb dX6_become_126 rfl (lv_at hl 0 rfl) ?_
  refine lv_aload_n hx hb dX6_become_127 rfl (lv_at hl 1 rfl) ?_
  refine x_get E X ffX6_79 rfl rfl dX6_become_128 ?_
  obtain ⟨S_13, eS_13, h⟩ := ltm_s h
  refine x_put E X fpX6_79 rfl rfl dX6_become_131 (fun H locs X => ?_)
  rw [← eS_13] at X
  refine lv_aload_n hx hb dX6_become_134 rfl (lv_at hl 0 rfl) ?_
  refine lv_aload_n hx hb dX6_become_135 rfl (lv_at hl 1 rfl) ?_
  refine x_get E X ffX6_38 rfl rfl dX6_become_136 ?_
  obtain ⟨S_14, eS_14, h⟩ := ltm_s h
  refine x_put E X fpX6_38 rfl rfl dX6_become_139 (fun H locs X => ?_)
  rw [← eS_14] at X
  refine lv_aload_n hx hb dX6_become_142 rfl (lv_at hl 0 rfl) ?_
  refine lv_aload_n hx hb dX6_become_143 rfl (lv_at hl 1 rfl) ?_
  refine x_get E X ffX6_82 rfl rfl dX6_become_144 ?_
  obtain ⟨S_15, eS_15, h⟩ := ltm_s h
  refine x_put E X fpX6_82 rfl rfl dX6_become_147 (fun H locs X => ?_)
  rw [← eS_15] at X
  exact x_vret E X h dX6_become_150
/-- SevenToAShadow$World.become(LSevenToAShadow$World;)V -/
theorem mX6_become_13_1 (l : Launch) (Z : XG) (hQ : wQ (List.length xL) Z) {S S' : Mem} {r : Int32} (h : fX6_become_13_1 S  = some (r, S')) : XM l yX6_become cX6_become 2 none { frames := 2, cells := 0, slots := 0, locals := 51 } xL Z [.ref (Z.2.1 13), .ref (Z.2.1 1)] S (XV xL Z S') := by
  refine XM.of (own := RX6) (by decide +kernel) rfl rfl hQ (fun p e s m args below meth c E ls hl X => ?_)
  exact wX6_become_13_1 E S  h _ _ _ X hl
def fX7_image (S : Mem) (x1 : Int32) : O := (if x1 = 0 then (if (S 0 2) = 0 then some ((0 : Int32), S) else bnd (fX6_become_1_13 S ) fun _ S_4 => bnd (fX2_forget S_4 ) fun _ S_6 => some ((1 : Int32), S_6)) else bnd (fX6_become_13_1 S ) fun _ S_8 => ltm (mset S_8 0 2 (1 : Int32)) fun S_9 => some ((1 : Int32), S_9))
theorem dX7_image_0 : decode cX7_image 0 = .ok (.iload_n 1, 1) := by decide +kernel
theorem dX7_image_1 : decode cX7_image 1 = .ok (.ifCond .eq 21, 3) := by decide +kernel
theorem dX7_image_4 : decode cX7_image 4 = .ok (.aload_n 0, 1) := by decide +kernel
theorem dX7_image_5 : decode cX7_image 5 = .ok (.getfield 16, 3) := by decide +kernel
theorem dX7_image_8 : decode cX7_image 8 = .ok (.aload_n 0, 1) := by decide +kernel
theorem dX7_image_9 : decode cX7_image 9 = .ok (.getfield 12, 3) := by decide +kernel
theorem dX7_image_12 : decode cX7_image 12 = .ok (.invokevirtual 219, 3) := by decide +kernel
theorem dX7_image_15 : decode cX7_image 15 = .ok (.aload_n 0, 1) := by decide +kernel
theorem dX7_image_16 : decode cX7_image 16 = .ok (.iconst 1, 1) := by decide +kernel
theorem dX7_image_17 : decode cX7_image 17 = .ok (.putfield 222, 3) := by decide +kernel
theorem dX7_image_20 : decode cX7_image 20 = .ok (.iconst 1, 1) := by decide +kernel
theorem dX7_image_21 : decode cX7_image 21 = .ok (.ireturn, 1) := by decide +kernel
theorem dX7_image_22 : decode cX7_image 22 = .ok (.aload_n 0, 1) := by decide +kernel
theorem dX7_image_23 : decode cX7_image 23 = .ok (.getfield 222, 3) := by decide +kernel
theorem dX7_image_26 : decode cX7_image 26 = .ok (.ifCond .ne 5, 3) := by decide +kernel
theorem dX7_image_29 : decode cX7_image 29 = .ok (.iconst 0, 1) := by decide +kernel
theorem dX7_image_30 : decode cX7_image 30 = .ok (.ireturn, 1) := by decide +kernel
theorem dX7_image_31 : decode cX7_image 31 = .ok (.aload_n 0, 1) := by decide +kernel
theorem dX7_image_32 : decode cX7_image 32 = .ok (.getfield 12, 3) := by decide +kernel
theorem dX7_image_35 : decode cX7_image 35 = .ok (.aload_n 0, 1) := by decide +kernel
theorem dX7_image_36 : decode cX7_image 36 = .ok (.getfield 16, 3) := by decide +kernel
theorem dX7_image_39 : decode cX7_image 39 = .ok (.invokevirtual 219, 3) := by decide +kernel
theorem dX7_image_42 : decode cX7_image 42 = .ok (.aload_n 0, 1) := by decide +kernel
theorem dX7_image_43 : decode cX7_image 43 = .ok (.getfield 22, 3) := by decide +kernel
theorem dX7_image_46 : decode cX7_image 46 = .ok (.invokevirtual 64, 3) := by decide +kernel
theorem dX7_image_49 : decode cX7_image 49 = .ok (.iconst 1, 1) := by decide +kernel
theorem dX7_image_50 : decode cX7_image 50 = .ok (.ireturn, 1) := by decide +kernel
set_option maxRecDepth 20000 in
theorem wX7_image {p : Program} {l : Launch} {e : Env} {s : State} {m : MethodId} {args : Array Value} {below : List Frame} {meth : Method} {c : Code} {Z : XG} {r : Int32} {S' : Mem} (E : XE p s m args meth c cX7_image 2 RX7 (some .boolean) xL Z) : ∀ (S : Mem) (x1 : Int32), fX7_image  S x1 = some (r, S') → WN p l e { frames := 3, cells := 0, slots := 0, locals := 72 } s m args below meth c xL Z (XQ xL Z r S') S 0 2 [(0, .ref (Z.2.1 0)), (1, .int x1)] [] := by
  obtain ⟨hx, hb, -, -, -, -, -, -, -, hQ⟩ := id E
  intro S x1 h H locs ls X hl
  unfold fX7_image at h
  refine lv_iload_n hx hb dX7_image_0 rfl (lv_at hl 1 rfl) ?_
  refine lv_if_eq (tgt := 22) hx hb dX7_image_1 (by decide) (fun c_1 => ?_) (fun c_1 => ?_)
  · have h := if_t c_1 h
    refine lv_aload_n hx hb dX7_image_22 rfl (lv_at hl 0 rfl) ?_
    refine x_get E X ffX7_222 rfl rfl dX7_image_23 ?_
    refine lv_if_ne (tgt := 31) hx hb dX7_image_26 (by decide) (fun c_2 => ?_) (fun c_2 => ?_)
    · have h := if_f c_2 h
      refine lv_aload_n hx hb dX7_image_31 rfl (lv_at hl 0 rfl) ?_
      refine x_getr E X ffX7_12 rfl rfl dX7_image_32 ?_
      refine lv_aload_n hx hb dX7_image_35 rfl (lv_at hl 0 rfl) ?_
      refine x_getr E X ffX7_16 rfl rfl dX7_image_36 ?_
      obtain ⟨r_3, S_4, hr_3, h⟩ := bnd_s h
      refine x_callVv E X cwX7_219 (mX6_become_1_13 l Z hQ   hr_3) rfl rfl rfl rfl hl.1 rfl dX7_image_39 (fun H locs X => ?_)
      refine lv_aload_n hx hb dX7_image_42 rfl (lv_at hl 0 rfl) ?_
      refine x_getr E X ffX7_22 rfl rfl dX7_image_43 ?_
      obtain ⟨r_5, S_6, hr_5, h⟩ := bnd_s h
      refine x_callVv E X cwX7_64 (mX2_forget l Z hQ   hr_5) rfl rfl rfl rfl hl.1 rfl dX7_image_46 (fun H locs X => ?_)
      refine lv_iconst (v := (1 : Int32)) hx hb dX7_image_49 (by decide) ?_
      exact x_zret E X rfl h dX7_image_50
    · have h := if_t c_2 h
      refine lv_iconst (v := (0 : Int32)) hx hb dX7_image_29 (by decide) ?_
      exact x_zret E X rfl h dX7_image_30
  · have h := if_f c_1 h
    refine lv_aload_n hx hb dX7_image_4 rfl (lv_at hl 0 rfl) ?_
    refine x_getr E X ffX7_16 rfl rfl dX7_image_5 ?_
    refine lv_aload_n hx hb dX7_image_8 rfl (lv_at hl 0 rfl) ?_
    refine x_getr E X ffX7_12 rfl rfl dX7_image_9 ?_
    obtain ⟨r_7, S_8, hr_7, h⟩ := bnd_s h
    refine x_callVv E X cwX7_219 (mX6_become_13_1 l Z hQ   hr_7) rfl rfl rfl rfl hl.1 rfl dX7_image_12 (fun H locs X => ?_)
    refine lv_aload_n hx hb dX7_image_15 rfl (lv_at hl 0 rfl) ?_
    refine lv_iconst (v := (1 : Int32)) hx hb dX7_image_16 (by decide) ?_
    obtain ⟨S_9, eS_9, h⟩ := ltm_s h
    refine x_putB E X fpX7_222 rfl rfl rfl dX7_image_17 (fun H locs X => ?_)
    rw [← eS_9] at X
    refine lv_iconst (v := (1 : Int32)) hx hb dX7_image_20 (by decide) ?_
    exact x_zret E X rfl h dX7_image_21
/-- SevenToAShadow.image(Z)Z -/
theorem mX7_image (l : Launch) (Z : XG) (hQ : wQ (List.length xL) Z) {S S' : Mem} {r : Int32} (x1 : Int32) (h : fX7_image S x1 = some (r, S')) : XM l yX7_image cX7_image 2 (some .boolean) { frames := 3, cells := 0, slots := 0, locals := 72 } xL Z [.ref (Z.2.1 0), .int x1] S (XQ xL Z r S') := by
  refine XM.of (own := RX7) (by decide +kernel) rfl rfl hQ (fun p e s m args below meth c E ls hl X => ?_)
  exact wX7_image E S x1 h _ _ _ X hl
def fX7_look_58 (S : Mem) (x1 : Int32) : O := (if x1 = (0 : Int32) then some ((S 1 7), S) else if x1 = (1 : Int32) then some ((S 1 8), S) else if x1 = (2 : Int32) then some ((S 1 9), S) else if x1 = (3 : Int32) then some ((S 1 10), S) else if x1 = (4 : Int32) then some ((S 6 1), S) else if x1 = (5 : Int32) then some ((S 1 6), S) else if x1 = (6 : Int32) then some ((S 1 11), S) else if x1 = (7 : Int32) then some ((S 1 12), S) else if x1 = (8 : Int32) then some ((S 8 4), S) else if x1 = (9 : Int32) then some ((S 25 4), S) else some ((-2 : Int32), S))
def fX7_look_33 (S : Mem) (x1 : Int32) : O := (if x1 < (10 : Int32) then fX7_look_58  S x1 else (if (70 : Int32) ≤ x1 then fX7_look_58  S x1 else gd (inB (x1 - (10 : Int32)) 60) <| some ((S 2 ((x1 - (10 : Int32))).toNatClampNeg), S)))
def fX7_look (S : Mem) (x1 : Int32) : O := (if x1 < (80 : Int32) then fX7_look_33  S x1 else (if ((80 : Int32) + (S 1 9)) ≤ x1 then fX7_look_33  S x1 else gd (inB (x1 - (80 : Int32)) 10) <| some ((S 5 ((x1 - (80 : Int32))).toNatClampNeg), S)))
theorem dX7_look_0 : decode cX7_look 0 = .ok (.iload_n 1, 1) := by decide +kernel
theorem dX7_look_1 : decode cX7_look 1 = .ok (.bipush 80, 2) := by decide +kernel
theorem dX7_look_3 : decode cX7_look 3 = .ok (.if_icmp .lt 30, 3) := by decide +kernel
theorem dX7_look_6 : decode cX7_look 6 = .ok (.iload_n 1, 1) := by decide +kernel
theorem dX7_look_7 : decode cX7_look 7 = .ok (.bipush 80, 2) := by decide +kernel
theorem dX7_look_9 : decode cX7_look 9 = .ok (.aload_n 0, 1) := by decide +kernel
theorem dX7_look_10 : decode cX7_look 10 = .ok (.getfield 12, 3) := by decide +kernel
theorem dX7_look_13 : decode cX7_look 13 = .ok (.getfield 73, 3) := by decide +kernel
theorem dX7_look_16 : decode cX7_look 16 = .ok (.iadd, 1) := by decide +kernel
theorem dX7_look_17 : decode cX7_look 17 = .ok (.if_icmp .ge 16, 3) := by decide +kernel
theorem dX7_look_20 : decode cX7_look 20 = .ok (.aload_n 0, 1) := by decide +kernel
theorem dX7_look_21 : decode cX7_look 21 = .ok (.getfield 12, 3) := by decide +kernel
theorem dX7_look_24 : decode cX7_look 24 = .ok (.getfield 196, 3) := by decide +kernel
theorem dX7_look_27 : decode cX7_look 27 = .ok (.iload_n 1, 1) := by decide +kernel
theorem dX7_look_28 : decode cX7_look 28 = .ok (.bipush 80, 2) := by decide +kernel
theorem dX7_look_30 : decode cX7_look 30 = .ok (.isub, 1) := by decide +kernel
theorem dX7_look_31 : decode cX7_look 31 = .ok (.iaload, 1) := by decide +kernel
theorem dX7_look_32 : decode cX7_look 32 = .ok (.ireturn, 1) := by decide +kernel
theorem dX7_look_33 : decode cX7_look 33 = .ok (.iload_n 1, 1) := by decide +kernel
theorem dX7_look_34 : decode cX7_look 34 = .ok (.bipush 10, 2) := by decide +kernel
theorem dX7_look_36 : decode cX7_look 36 = .ok (.if_icmp .lt 22, 3) := by decide +kernel
theorem dX7_look_39 : decode cX7_look 39 = .ok (.iload_n 1, 1) := by decide +kernel
theorem dX7_look_40 : decode cX7_look 40 = .ok (.bipush 70, 2) := by decide +kernel
theorem dX7_look_42 : decode cX7_look 42 = .ok (.if_icmp .ge 16, 3) := by decide +kernel
theorem dX7_look_45 : decode cX7_look 45 = .ok (.aload_n 0, 1) := by decide +kernel
theorem dX7_look_46 : decode cX7_look 46 = .ok (.getfield 12, 3) := by decide +kernel
theorem dX7_look_49 : decode cX7_look 49 = .ok (.getfield 61, 3) := by decide +kernel
theorem dX7_look_52 : decode cX7_look 52 = .ok (.iload_n 1, 1) := by decide +kernel
theorem dX7_look_53 : decode cX7_look 53 = .ok (.bipush 10, 2) := by decide +kernel
theorem dX7_look_55 : decode cX7_look 55 = .ok (.isub, 1) := by decide +kernel
theorem dX7_look_56 : decode cX7_look 56 = .ok (.iaload, 1) := by decide +kernel
theorem dX7_look_57 : decode cX7_look 57 = .ok (.ireturn, 1) := by decide +kernel
theorem dX7_look_58 : decode cX7_look 58 = .ok (.iload_n 1, 1) := by decide +kernel
theorem dX7_look_59 : decode cX7_look 59 = .ok (.tableswitch 139 0 9 #[53, 61, 69, 77, 85, 96, 104, 112, 120, 131], 53) := by decide +kernel
theorem dX7_look_112 : decode cX7_look 112 = .ok (.aload_n 0, 1) := by decide +kernel
theorem dX7_look_113 : decode cX7_look 113 = .ok (.getfield 12, 3) := by decide +kernel
theorem dX7_look_116 : decode cX7_look 116 = .ok (.getfield 133, 3) := by decide +kernel
theorem dX7_look_119 : decode cX7_look 119 = .ok (.ireturn, 1) := by decide +kernel
theorem dX7_look_120 : decode cX7_look 120 = .ok (.aload_n 0, 1) := by decide +kernel
theorem dX7_look_121 : decode cX7_look 121 = .ok (.getfield 12, 3) := by decide +kernel
theorem dX7_look_124 : decode cX7_look 124 = .ok (.getfield 123, 3) := by decide +kernel
theorem dX7_look_127 : decode cX7_look 127 = .ok (.ireturn, 1) := by decide +kernel
theorem dX7_look_128 : decode cX7_look 128 = .ok (.aload_n 0, 1) := by decide +kernel
theorem dX7_look_129 : decode cX7_look 129 = .ok (.getfield 12, 3) := by decide +kernel
theorem dX7_look_132 : decode cX7_look 132 = .ok (.getfield 73, 3) := by decide +kernel
theorem dX7_look_135 : decode cX7_look 135 = .ok (.ireturn, 1) := by decide +kernel
theorem dX7_look_136 : decode cX7_look 136 = .ok (.aload_n 0, 1) := by decide +kernel
theorem dX7_look_137 : decode cX7_look 137 = .ok (.getfield 12, 3) := by decide +kernel
theorem dX7_look_140 : decode cX7_look 140 = .ok (.getfield 225, 3) := by decide +kernel
theorem dX7_look_143 : decode cX7_look 143 = .ok (.ireturn, 1) := by decide +kernel
theorem dX7_look_144 : decode cX7_look 144 = .ok (.aload_n 0, 1) := by decide +kernel
theorem dX7_look_145 : decode cX7_look 145 = .ok (.getfield 12, 3) := by decide +kernel
theorem dX7_look_148 : decode cX7_look 148 = .ok (.getfield 156, 3) := by decide +kernel
theorem dX7_look_151 : decode cX7_look 151 = .ok (.getfield 228, 3) := by decide +kernel
theorem dX7_look_154 : decode cX7_look 154 = .ok (.ireturn, 1) := by decide +kernel
theorem dX7_look_155 : decode cX7_look 155 = .ok (.aload_n 0, 1) := by decide +kernel
theorem dX7_look_156 : decode cX7_look 156 = .ok (.getfield 12, 3) := by decide +kernel
theorem dX7_look_159 : decode cX7_look 159 = .ok (.getfield 49, 3) := by decide +kernel
theorem dX7_look_162 : decode cX7_look 162 = .ok (.ireturn, 1) := by decide +kernel
theorem dX7_look_163 : decode cX7_look 163 = .ok (.aload_n 0, 1) := by decide +kernel
theorem dX7_look_164 : decode cX7_look 164 = .ok (.getfield 12, 3) := by decide +kernel
theorem dX7_look_167 : decode cX7_look 167 = .ok (.getfield 67, 3) := by decide +kernel
theorem dX7_look_170 : decode cX7_look 170 = .ok (.ireturn, 1) := by decide +kernel
theorem dX7_look_171 : decode cX7_look 171 = .ok (.aload_n 0, 1) := by decide +kernel
theorem dX7_look_172 : decode cX7_look 172 = .ok (.getfield 12, 3) := by decide +kernel
theorem dX7_look_175 : decode cX7_look 175 = .ok (.getfield 70, 3) := by decide +kernel
theorem dX7_look_178 : decode cX7_look 178 = .ok (.ireturn, 1) := by decide +kernel
theorem dX7_look_179 : decode cX7_look 179 = .ok (.aload_n 0, 1) := by decide +kernel
theorem dX7_look_180 : decode cX7_look 180 = .ok (.getfield 12, 3) := by decide +kernel
theorem dX7_look_183 : decode cX7_look 183 = .ok (.getfield 110, 3) := by decide +kernel
theorem dX7_look_186 : decode cX7_look 186 = .ok (.getfield 115, 3) := by decide +kernel
theorem dX7_look_189 : decode cX7_look 189 = .ok (.ireturn, 1) := by decide +kernel
theorem dX7_look_190 : decode cX7_look 190 = .ok (.aload_n 0, 1) := by decide +kernel
theorem dX7_look_191 : decode cX7_look 191 = .ok (.getfield 22, 3) := by decide +kernel
theorem dX7_look_194 : decode cX7_look 194 = .ok (.getfield 229, 3) := by decide +kernel
theorem dX7_look_197 : decode cX7_look 197 = .ok (.ireturn, 1) := by decide +kernel
theorem dX7_look_198 : decode cX7_look 198 = .ok (.bipush (-2), 2) := by decide +kernel
theorem dX7_look_200 : decode cX7_look 200 = .ok (.ireturn, 1) := by decide +kernel
set_option maxRecDepth 20000 in
theorem wX7_look_58 {p : Program} {l : Launch} {e : Env} {s : State} {m : MethodId} {args : Array Value} {below : List Frame} {meth : Method} {c : Code} {Z : XG} {r : Int32} {S' : Mem} (E : XE p s m args meth c cX7_look 2 RX7 (some .int) xL Z) : ∀ (S : Mem) (x1 : Int32), fX7_look_58  S x1 = some (r, S') → WN p l e { frames := 0, cells := 0, slots := 0, locals := 0 } s m args below meth c xL Z (XQ xL Z r S') S 58 2 [(0, .ref (Z.2.1 0)), (1, .int x1)] [] := by
  obtain ⟨hx, hb, -, -, -, -, -, -, -, hQ⟩ := id E
  intro S x1 h H locs ls X hl
  unfold fX7_look_58 at h
  refine lv_iload_n hx hb dX7_look_58 rfl (lv_at hl 1 rfl) ?_
  by_cases c_1 : x1 = (0 : Int32)
  · have h := if_t c_1 h
    refine lv_tableIn (off := 53) (tgt := 112) hx hb dX7_look_59 (by rw [c_1]; decide) (by rw [c_1]; decide) (by rw [c_1]; decide) (by decide) ?_
    refine lv_aload_n hx hb dX7_look_112 rfl (lv_at hl 0 rfl) ?_
    refine x_getr E X ffX7_12 rfl rfl dX7_look_113 ?_
    refine x_get E X ffX7_133 rfl rfl dX7_look_116 ?_
    exact x_iret E X h dX7_look_119
  replace h := if_f c_1 h
  by_cases c_2 : x1 = (1 : Int32)
  · have h := if_t c_2 h
    refine lv_tableIn (off := 61) (tgt := 120) hx hb dX7_look_59 (by rw [c_2]; decide) (by rw [c_2]; decide) (by rw [c_2]; decide) (by decide) ?_
    refine lv_aload_n hx hb dX7_look_120 rfl (lv_at hl 0 rfl) ?_
    refine x_getr E X ffX7_12 rfl rfl dX7_look_121 ?_
    refine x_get E X ffX7_123 rfl rfl dX7_look_124 ?_
    exact x_iret E X h dX7_look_127
  replace h := if_f c_2 h
  by_cases c_3 : x1 = (2 : Int32)
  · have h := if_t c_3 h
    refine lv_tableIn (off := 69) (tgt := 128) hx hb dX7_look_59 (by rw [c_3]; decide) (by rw [c_3]; decide) (by rw [c_3]; decide) (by decide) ?_
    refine lv_aload_n hx hb dX7_look_128 rfl (lv_at hl 0 rfl) ?_
    refine x_getr E X ffX7_12 rfl rfl dX7_look_129 ?_
    refine x_get E X ffX7_73 rfl rfl dX7_look_132 ?_
    exact x_iret E X h dX7_look_135
  replace h := if_f c_3 h
  by_cases c_4 : x1 = (3 : Int32)
  · have h := if_t c_4 h
    refine lv_tableIn (off := 77) (tgt := 136) hx hb dX7_look_59 (by rw [c_4]; decide) (by rw [c_4]; decide) (by rw [c_4]; decide) (by decide) ?_
    refine lv_aload_n hx hb dX7_look_136 rfl (lv_at hl 0 rfl) ?_
    refine x_getr E X ffX7_12 rfl rfl dX7_look_137 ?_
    refine x_get E X ffX7_225 rfl rfl dX7_look_140 ?_
    exact x_iret E X h dX7_look_143
  replace h := if_f c_4 h
  by_cases c_5 : x1 = (4 : Int32)
  · have h := if_t c_5 h
    refine lv_tableIn (off := 85) (tgt := 144) hx hb dX7_look_59 (by rw [c_5]; decide) (by rw [c_5]; decide) (by rw [c_5]; decide) (by decide) ?_
    refine lv_aload_n hx hb dX7_look_144 rfl (lv_at hl 0 rfl) ?_
    refine x_getr E X ffX7_12 rfl rfl dX7_look_145 ?_
    refine x_getr E X ffX7_156 rfl rfl dX7_look_148 ?_
    refine x_get E X ffX7_228 rfl rfl dX7_look_151 ?_
    exact x_iret E X h dX7_look_154
  replace h := if_f c_5 h
  by_cases c_6 : x1 = (5 : Int32)
  · have h := if_t c_6 h
    refine lv_tableIn (off := 96) (tgt := 155) hx hb dX7_look_59 (by rw [c_6]; decide) (by rw [c_6]; decide) (by rw [c_6]; decide) (by decide) ?_
    refine lv_aload_n hx hb dX7_look_155 rfl (lv_at hl 0 rfl) ?_
    refine x_getr E X ffX7_12 rfl rfl dX7_look_156 ?_
    refine x_get E X ffX7_49 rfl rfl dX7_look_159 ?_
    exact x_iret E X h dX7_look_162
  replace h := if_f c_6 h
  by_cases c_7 : x1 = (6 : Int32)
  · have h := if_t c_7 h
    refine lv_tableIn (off := 104) (tgt := 163) hx hb dX7_look_59 (by rw [c_7]; decide) (by rw [c_7]; decide) (by rw [c_7]; decide) (by decide) ?_
    refine lv_aload_n hx hb dX7_look_163 rfl (lv_at hl 0 rfl) ?_
    refine x_getr E X ffX7_12 rfl rfl dX7_look_164 ?_
    refine x_get E X ffX7_67 rfl rfl dX7_look_167 ?_
    exact x_iret E X h dX7_look_170
  replace h := if_f c_7 h
  by_cases c_8 : x1 = (7 : Int32)
  · have h := if_t c_8 h
    refine lv_tableIn (off := 112) (tgt := 171) hx hb dX7_look_59 (by rw [c_8]; decide) (by rw [c_8]; decide) (by rw [c_8]; decide) (by decide) ?_
    refine lv_aload_n hx hb dX7_look_171 rfl (lv_at hl 0 rfl) ?_
    refine x_getr E X ffX7_12 rfl rfl dX7_look_172 ?_
    refine x_get E X ffX7_70 rfl rfl dX7_look_175 ?_
    exact x_iret E X h dX7_look_178
  replace h := if_f c_8 h
  by_cases c_9 : x1 = (8 : Int32)
  · have h := if_t c_9 h
    refine lv_tableIn (off := 120) (tgt := 179) hx hb dX7_look_59 (by rw [c_9]; decide) (by rw [c_9]; decide) (by rw [c_9]; decide) (by decide) ?_
    refine lv_aload_n hx hb dX7_look_179 rfl (lv_at hl 0 rfl) ?_
    refine x_getr E X ffX7_12 rfl rfl dX7_look_180 ?_
    refine x_getr E X ffX7_110 rfl rfl dX7_look_183 ?_
    refine x_get E X ffX7_115 rfl rfl dX7_look_186 ?_
    exact x_iret E X h dX7_look_189
  replace h := if_f c_9 h
  by_cases c_10 : x1 = (9 : Int32)
  · have h := if_t c_10 h
    refine lv_tableIn (off := 131) (tgt := 190) hx hb dX7_look_59 (by rw [c_10]; decide) (by rw [c_10]; decide) (by rw [c_10]; decide) (by decide) ?_
    refine lv_aload_n hx hb dX7_look_190 rfl (lv_at hl 0 rfl) ?_
    refine x_getr E X ffX7_22 rfl rfl dX7_look_191 ?_
    refine x_get E X ffX7_229 rfl rfl dX7_look_194 ?_
    exact x_iret E X h dX7_look_197
  replace h := if_f c_10 h
  refine lv_tableD (tgt := 198) hx hb dX7_look_59 (by decide +kernel) (fun i hi q_11 => ?_) ?_
  · match i, hi, q_11 with
    | 0, _, q_11 => exact absurd (tbl_eq q_11 (by decide)) c_1
    | 1, _, q_11 => exact absurd (tbl_eq q_11 (by decide)) c_2
    | 2, _, q_11 => exact absurd (tbl_eq q_11 (by decide)) c_3
    | 3, _, q_11 => exact absurd (tbl_eq q_11 (by decide)) c_4
    | 4, _, q_11 => exact absurd (tbl_eq q_11 (by decide)) c_5
    | 5, _, q_11 => exact absurd (tbl_eq q_11 (by decide)) c_6
    | 6, _, q_11 => exact absurd (tbl_eq q_11 (by decide)) c_7
    | 7, _, q_11 => exact absurd (tbl_eq q_11 (by decide)) c_8
    | 8, _, q_11 => exact absurd (tbl_eq q_11 (by decide)) c_9
    | 9, _, q_11 => exact absurd (tbl_eq q_11 (by decide)) c_10
    | i + 10, hi, _ => exact absurd hi (by simp)
  refine lv_bipush (v := (-2 : Int32)) hx hb dX7_look_198 (by decide) ?_
  exact x_iret E X h dX7_look_200
set_option maxRecDepth 20000 in
theorem wX7_look_33 {p : Program} {l : Launch} {e : Env} {s : State} {m : MethodId} {args : Array Value} {below : List Frame} {meth : Method} {c : Code} {Z : XG} {r : Int32} {S' : Mem} (E : XE p s m args meth c cX7_look 2 RX7 (some .int) xL Z) : ∀ (S : Mem) (x1 : Int32), fX7_look_33  S x1 = some (r, S') → WN p l e { frames := 0, cells := 0, slots := 0, locals := 0 } s m args below meth c xL Z (XQ xL Z r S') S 33 2 [(0, .ref (Z.2.1 0)), (1, .int x1)] [] := by
  obtain ⟨hx, hb, -, -, -, -, -, -, -, hQ⟩ := id E
  intro S x1 h H locs ls X hl
  unfold fX7_look_33 at h
  refine lv_iload_n hx hb dX7_look_33 rfl (lv_at hl 1 rfl) ?_
  refine lv_bipush (v := (10 : Int32)) hx hb dX7_look_34 (by decide) ?_
  refine lv_icmp_lt (tgt := 58) hx hb dX7_look_36 (by decide) (fun c_1 => ?_) (fun c_1 => ?_)
  · have h := if_t c_1 h
    exact wX7_look_58 E   S x1 h _ _ _ X hl
  · have h := if_f c_1 h
    refine lv_iload_n hx hb dX7_look_39 rfl (lv_at hl 1 rfl) ?_
    refine lv_bipush (v := (70 : Int32)) hx hb dX7_look_40 (by decide) ?_
    refine lv_icmp_ge (tgt := 58) hx hb dX7_look_42 (by decide) (fun c_2 => ?_) (fun c_2 => ?_)
    · have h := if_t c_2 h
      exact wX7_look_58 E   S x1 h _ _ _ X hl
    · have h := if_f c_2 h
      refine lv_aload_n hx hb dX7_look_45 rfl (lv_at hl 0 rfl) ?_
      refine x_getr E X ffX7_12 rfl rfl dX7_look_46 ?_
      refine x_getr E X ffX7_61 rfl rfl dX7_look_49 ?_
      refine lv_iload_n hx hb dX7_look_52 rfl (lv_at hl 1 rfl) ?_
      refine lv_bipush (v := (10 : Int32)) hx hb dX7_look_53 (by decide) ?_
      refine lv_isub hx hb dX7_look_55 ?_
      obtain ⟨g_3, h⟩ := gd_s h
      refine x_iald E X rfl g_3 dX7_look_56 ?_
      exact x_iret E X h dX7_look_57
set_option maxRecDepth 20000 in
theorem wX7_look {p : Program} {l : Launch} {e : Env} {s : State} {m : MethodId} {args : Array Value} {below : List Frame} {meth : Method} {c : Code} {Z : XG} {r : Int32} {S' : Mem} (E : XE p s m args meth c cX7_look 2 RX7 (some .int) xL Z) : ∀ (S : Mem) (x1 : Int32), fX7_look  S x1 = some (r, S') → WN p l e { frames := 0, cells := 0, slots := 0, locals := 0 } s m args below meth c xL Z (XQ xL Z r S') S 0 2 [(0, .ref (Z.2.1 0)), (1, .int x1)] [] := by
  obtain ⟨hx, hb, -, -, -, -, -, -, -, hQ⟩ := id E
  intro S x1 h H locs ls X hl
  unfold fX7_look at h
  refine lv_iload_n hx hb dX7_look_0 rfl (lv_at hl 1 rfl) ?_
  refine lv_bipush (v := (80 : Int32)) hx hb dX7_look_1 (by decide) ?_
  refine lv_icmp_lt (tgt := 33) hx hb dX7_look_3 (by decide) (fun c_1 => ?_) (fun c_1 => ?_)
  · have h := if_t c_1 h
    exact wX7_look_33 E   S x1 h _ _ _ X hl
  · have h := if_f c_1 h
    refine lv_iload_n hx hb dX7_look_6 rfl (lv_at hl 1 rfl) ?_
    refine lv_bipush (v := (80 : Int32)) hx hb dX7_look_7 (by decide) ?_
    refine lv_aload_n hx hb dX7_look_9 rfl (lv_at hl 0 rfl) ?_
    refine x_getr E X ffX7_12 rfl rfl dX7_look_10 ?_
    refine x_get E X ffX7_73 rfl rfl dX7_look_13 ?_
    refine lv_iadd hx hb dX7_look_16 ?_
    refine lv_icmp_ge (tgt := 33) hx hb dX7_look_17 (by decide) (fun c_2 => ?_) (fun c_2 => ?_)
    · have h := if_t c_2 h
      exact wX7_look_33 E   S x1 h _ _ _ X hl
    · have h := if_f c_2 h
      refine lv_aload_n hx hb dX7_look_20 rfl (lv_at hl 0 rfl) ?_
      refine x_getr E X ffX7_12 rfl rfl dX7_look_21 ?_
      refine x_getr E X ffX7_196 rfl rfl dX7_look_24 ?_
      refine lv_iload_n hx hb dX7_look_27 rfl (lv_at hl 1 rfl) ?_
      refine lv_bipush (v := (80 : Int32)) hx hb dX7_look_28 (by decide) ?_
      refine lv_isub hx hb dX7_look_30 ?_
      obtain ⟨g_3, h⟩ := gd_s h
      refine x_iald E X rfl g_3 dX7_look_31 ?_
      exact x_iret E X h dX7_look_32
/-- SevenToAShadow.look(I)I -/
theorem mX7_look (l : Launch) (Z : XG) (hQ : wQ (List.length xL) Z) {S S' : Mem} {r : Int32} (x1 : Int32) (h : fX7_look S x1 = some (r, S')) : XM l yX7_look cX7_look 2 (some .int) { frames := 0, cells := 0, slots := 0, locals := 0 } xL Z [.ref (Z.2.1 0), .int x1] S (XQ xL Z r S') := by
  refine XM.of (own := RX7) (by decide +kernel) rfl rfl hQ (fun p e s m args below meth c E ls hl X => ?_)
  exact wX7_look E S x1 h _ _ _ X hl
