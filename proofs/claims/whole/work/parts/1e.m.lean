def fX8_hours_35_b (k0 : Mem → Int32 → Int32 → Int32 → O) (S : Mem) (x1 x2 x3 : Int32) : O := (if x1 ≤ x3 then some (x2, S) else bnd (fX8_keepsAhead S ) fun _ S_3 => bnd (fX8_goesBy S_3 ) fun r_4 S_5 => lti (x2 + r_4) fun x2_6 => k0 S_5 x1 x2_6 (x3 + (1 : Int32)))
def fX8_hours_35 : Nat → Mem → Int32 → Int32 → Int32 → O
  | 0 => fun _ _ _ _ => none
  | n + 1 => fX8_hours_35_b (fX8_hours_35 n)
def fX8_hours (S : Mem) (x1 : Int32) : O := ltm (mset S 0 0 (0 : Int32)) fun S_1 => bnd (fX8_isIn S_1 x1 (1 : Int32) (12 : Int32)) fun r_2 S_3 => (if r_2 = 0 then some ((-1 : Int32), S_3) else (if ((S_3 1 ((1 : Int32)).toNatClampNeg) + x1) ≤ (12 : Int32) then fX8_hours_35  FU S_3 x1 (0 : Int32) (0 : Int32) else some ((-1 : Int32), S_3)))
theorem dX8_hours_0 : decode cX8_hours 0 = .ok (.aload_n 0, 1) := by decide +kernel
theorem dX8_hours_1 : decode cX8_hours 1 = .ok (.iconst 0, 1) := by decide +kernel
theorem dX8_hours_2 : decode cX8_hours 2 = .ok (.putfield 92, 3) := by decide +kernel
theorem dX8_hours_5 : decode cX8_hours 5 = .ok (.aload_n 0, 1) := by decide +kernel
theorem dX8_hours_6 : decode cX8_hours 6 = .ok (.iload_n 1, 1) := by decide +kernel
theorem dX8_hours_7 : decode cX8_hours 7 = .ok (.iconst 1, 1) := by decide +kernel
theorem dX8_hours_8 : decode cX8_hours 8 = .ok (.bipush 12, 2) := by decide +kernel
theorem dX8_hours_10 : decode cX8_hours 10 = .ok (.invokevirtual 107, 3) := by decide +kernel
theorem dX8_hours_13 : decode cX8_hours 13 = .ok (.ifCond .eq 16, 3) := by decide +kernel
theorem dX8_hours_16 : decode cX8_hours 16 = .ok (.aload_n 0, 1) := by decide +kernel
theorem dX8_hours_17 : decode cX8_hours 17 = .ok (.getfield 7, 3) := by decide +kernel
theorem dX8_hours_20 : decode cX8_hours 20 = .ok (.iconst 1, 1) := by decide +kernel
theorem dX8_hours_21 : decode cX8_hours 21 = .ok (.iaload, 1) := by decide +kernel
theorem dX8_hours_22 : decode cX8_hours 22 = .ok (.iload_n 1, 1) := by decide +kernel
theorem dX8_hours_23 : decode cX8_hours 23 = .ok (.iadd, 1) := by decide +kernel
theorem dX8_hours_24 : decode cX8_hours 24 = .ok (.bipush 12, 2) := by decide +kernel
theorem dX8_hours_26 : decode cX8_hours 26 = .ok (.if_icmp .le 5, 3) := by decide +kernel
theorem dX8_hours_29 : decode cX8_hours 29 = .ok (.iconst (-1), 1) := by decide +kernel
theorem dX8_hours_30 : decode cX8_hours 30 = .ok (.ireturn, 1) := by decide +kernel
theorem dX8_hours_31 : decode cX8_hours 31 = .ok (.iconst 0, 1) := by decide +kernel
theorem dX8_hours_32 : decode cX8_hours 32 = .ok (.istore_n 2, 1) := by decide +kernel
theorem dX8_hours_33 : decode cX8_hours 33 = .ok (.iconst 0, 1) := by decide +kernel
theorem dX8_hours_34 : decode cX8_hours 34 = .ok (.istore_n 3, 1) := by decide +kernel
theorem dX8_hours_35 : decode cX8_hours 35 = .ok (.iload_n 3, 1) := by decide +kernel
theorem dX8_hours_36 : decode cX8_hours 36 = .ok (.iload_n 1, 1) := by decide +kernel
theorem dX8_hours_37 : decode cX8_hours 37 = .ok (.if_icmp .ge 20, 3) := by decide +kernel
theorem dX8_hours_40 : decode cX8_hours 40 = .ok (.aload_n 0, 1) := by decide +kernel
theorem dX8_hours_41 : decode cX8_hours 41 = .ok (.invokevirtual 300, 3) := by decide +kernel
theorem dX8_hours_44 : decode cX8_hours 44 = .ok (.iload_n 2, 1) := by decide +kernel
theorem dX8_hours_45 : decode cX8_hours 45 = .ok (.aload_n 0, 1) := by decide +kernel
theorem dX8_hours_46 : decode cX8_hours 46 = .ok (.invokevirtual 303, 3) := by decide +kernel
theorem dX8_hours_49 : decode cX8_hours 49 = .ok (.iadd, 1) := by decide +kernel
theorem dX8_hours_50 : decode cX8_hours 50 = .ok (.istore_n 2, 1) := by decide +kernel
theorem dX8_hours_51 : decode cX8_hours 51 = .ok (.iinc 3 1, 3) := by decide +kernel
theorem dX8_hours_54 : decode cX8_hours 54 = .ok (.goto (-19), 3) := by decide +kernel
theorem dX8_hours_57 : decode cX8_hours 57 = .ok (.iload_n 2, 1) := by decide +kernel
theorem dX8_hours_58 : decode cX8_hours 58 = .ok (.ireturn, 1) := by decide +kernel
set_option maxRecDepth 20000 in
theorem wX8_hours_35_b {p : Program} {l : Launch} {e : Env} {s : State} {m : MethodId} {args : Array Value} {below : List Frame} {meth : Method} {c : Code} {Z : XG} {r : Int32} {S' : Mem} (E : XE p s m args meth c cX8_hours 4 RX8 (some .int) mL Z) (k0 : Mem → Int32 → Int32 → Int32 → O)  (hk0 : ∀ (S : Mem) (x1 x2 x3 : Int32), k0 S x1 x2 x3 = some (r, S') → WN p l e { frames := 7, cells := 0, slots := 0, locals := 169 } s m args below meth c mL Z (XQ mL Z r S') S 35 4 [(0, .ref (Z.2.1 0)), (1, .int x1), (2, .int x2), (3, .int x3)] []) : ∀ (S : Mem) (x1 x2 x3 : Int32), fX8_hours_35_b k0 S x1 x2 x3 = some (r, S') → WN p l e { frames := 7, cells := 0, slots := 0, locals := 169 } s m args below meth c mL Z (XQ mL Z r S') S 35 4 [(0, .ref (Z.2.1 0)), (1, .int x1), (2, .int x2), (3, .int x3)] [] := by
  obtain ⟨hx, hb, -, -, -, -, -, -, -, hQ⟩ := id E
  intro S x1 x2 x3 h H locs ls X hl
  unfold fX8_hours_35_b at h
  refine lv_iload_n hx hb dX8_hours_35 rfl (lv_at hl 3 rfl) ?_
  refine lv_iload_n hx hb dX8_hours_36 rfl (lv_at hl 1 rfl) ?_
  refine lv_icmp_ge (tgt := 57) hx hb dX8_hours_37 (by decide) (fun c_1 => ?_) (fun c_1 => ?_)
  · have h := if_t c_1 h
    refine lv_iload_n hx hb dX8_hours_57 rfl (lv_at hl 2 rfl) ?_
    exact x_iret E X h dX8_hours_58
  · have h := if_f c_1 h
    refine lv_aload_n hx hb dX8_hours_40 rfl (lv_at hl 0 rfl) ?_
    obtain ⟨r_2, S_3, hr_2, h⟩ := bnd_s h
    refine x_callVv E X cwX8_300 (mX8_keepsAhead l Z hQ   hr_2) rfl rfl rfl rfl hl.1 rfl dX8_hours_41 (fun H locs X => ?_)
    refine lv_iload_n hx hb dX8_hours_44 rfl (lv_at hl 2 rfl) ?_
    refine lv_aload_n hx hb dX8_hours_45 rfl (lv_at hl 0 rfl) ?_
    obtain ⟨r_4, S_5, hr_4, h⟩ := bnd_s h
    refine x_callV E X cwX8_303 (mX8_goesBy l Z hQ   hr_4) rfl rfl rfl rfl hl.1 rfl dX8_hours_46 (fun H locs X => ?_)
    refine lv_iadd hx hb dX8_hours_49 ?_
    obtain ⟨x2_6, ex2_6, h⟩ := lti_s h
    refine lv_nm ex2_6 ?_
    refine lv_istore_n (lv' := [(2, .int x2_6), (0, .ref (Z.2.1 0)), (1, .int x1), (3, .int x3)]) hx hb dX8_hours_50 rfl hl (by decide) rfl (fun ls hl => ?_)
    refine lv_iinc (v := (x3 + (1 : Int32))) (lv' := [(3, .int (x3 + (1 : Int32))), (2, .int x2_6), (0, .ref (Z.2.1 0)), (1, .int x1)]) hx hb dX8_hours_51 hl (k := 3) rfl rfl (by decide) rfl (fun ls hl => ?_)
    refine lv_goto (tgt := 35) hx hb dX8_hours_54 (by decide) ?_
    exact hk0 S_5 x1 x2_6 (x3 + (1 : Int32)) h _ _ _ X (lv_sub hl [2, 3, 1, 0] rfl)
theorem wX8_hours_35 {p : Program} {l : Launch} {e : Env} {s : State} {m : MethodId} {args : Array Value} {below : List Frame} {meth : Method} {c : Code} {Z : XG} {r : Int32} {S' : Mem} (E : XE p s m args meth c cX8_hours 4 RX8 (some .int) mL Z) : ∀ (n : Nat) (S : Mem) (x1 x2 x3 : Int32), fX8_hours_35 n S x1 x2 x3 = some (r, S') → WN p l e { frames := 7, cells := 0, slots := 0, locals := 169 } s m args below meth c mL Z (XQ mL Z r S') S 35 4 [(0, .ref (Z.2.1 0)), (1, .int x1), (2, .int x2), (3, .int x3)] [] := by
  intro n
  induction n with
  | zero => intro S x1 x2 x3 h; exact absurd (show (none : O) = some _ from h) (by simp)
  | succ n ih => intro S x1 x2 x3 h; exact wX8_hours_35_b E (fX8_hours_35 n) ih S x1 x2 x3 h
set_option maxRecDepth 20000 in
theorem wX8_hours {p : Program} {l : Launch} {e : Env} {s : State} {m : MethodId} {args : Array Value} {below : List Frame} {meth : Method} {c : Code} {Z : XG} {r : Int32} {S' : Mem} (E : XE p s m args meth c cX8_hours 4 RX8 (some .int) mL Z) : ∀ (S : Mem) (x1 : Int32), fX8_hours  S x1 = some (r, S') → WN p l e { frames := 7, cells := 0, slots := 0, locals := 169 } s m args below meth c mL Z (XQ mL Z r S') S 0 4 [(0, .ref (Z.2.1 0)), (1, .int x1)] [] := by
  obtain ⟨hx, hb, -, -, -, -, -, -, -, hQ⟩ := id E
  intro S x1 h H locs ls X hl
  unfold fX8_hours at h
  refine lv_aload_n hx hb dX8_hours_0 rfl (lv_at hl 0 rfl) ?_
  refine lv_iconst (v := (0 : Int32)) hx hb dX8_hours_1 (by decide) ?_
  obtain ⟨S_1, eS_1, h⟩ := ltm_s h
  refine x_put E X fpX8_92 rfl rfl dX8_hours_2 (fun H locs X => ?_)
  rw [← eS_1] at X
  refine lv_aload_n hx hb dX8_hours_5 rfl (lv_at hl 0 rfl) ?_
  refine lv_iload_n hx hb dX8_hours_6 rfl (lv_at hl 1 rfl) ?_
  refine lv_iconst (v := (1 : Int32)) hx hb dX8_hours_7 (by decide) ?_
  refine lv_bipush (v := (12 : Int32)) hx hb dX8_hours_8 (by decide) ?_
  obtain ⟨r_2, S_3, hr_2, h⟩ := bnd_s h
  refine x_callV E X cwX8_107 (mX8_isIn l Z hQ  x1 (1 : Int32) (12 : Int32) hr_2) rfl rfl rfl rfl hl.1 rfl dX8_hours_10 (fun H locs X => ?_)
  refine lv_if_eq (tgt := 29) hx hb dX8_hours_13 (by decide) (fun c_4 => ?_) (fun c_4 => ?_)
  · have h := if_t c_4 h
    refine lv_iconst (v := (-1 : Int32)) hx hb dX8_hours_29 (by decide) ?_
    exact x_iret E X h dX8_hours_30
  · have h := if_f c_4 h
    refine lv_aload_n hx hb dX8_hours_16 rfl (lv_at hl 0 rfl) ?_
    refine x_getr E X ffX8_7 rfl rfl dX8_hours_17 ?_
    refine lv_iconst (v := (1 : Int32)) hx hb dX8_hours_20 (by decide) ?_
    refine x_iald E X rfl (by decide) dX8_hours_21 ?_
    refine lv_iload_n hx hb dX8_hours_22 rfl (lv_at hl 1 rfl) ?_
    refine lv_iadd hx hb dX8_hours_23 ?_
    refine lv_bipush (v := (12 : Int32)) hx hb dX8_hours_24 (by decide) ?_
    refine lv_icmp_le (tgt := 31) hx hb dX8_hours_26 (by decide) (fun c_5 => ?_) (fun c_5 => ?_)
    · have h := if_t c_5 h
      refine lv_iconst (v := (0 : Int32)) hx hb dX8_hours_31 (by decide) ?_
      refine lv_istore_n (lv' := [(2, .int (0 : Int32)), (0, .ref (Z.2.1 0)), (1, .int x1)]) hx hb dX8_hours_32 rfl hl (by decide) rfl (fun ls hl => ?_)
      refine lv_iconst (v := (0 : Int32)) hx hb dX8_hours_33 (by decide) ?_
      refine lv_istore_n (lv' := [(3, .int (0 : Int32)), (2, .int (0 : Int32)), (0, .ref (Z.2.1 0)), (1, .int x1)]) hx hb dX8_hours_34 rfl hl (by decide) rfl (fun ls hl => ?_)
      exact wX8_hours_35 E   FU S_3 x1 (0 : Int32) (0 : Int32) h _ _ _ X (lv_sub hl [2, 3, 1, 0] rfl)
    · have h := if_f c_5 h
      refine lv_iconst (v := (-1 : Int32)) hx hb dX8_hours_29 (by decide) ?_
      exact x_iret E X h dX8_hours_30
/-- SevenToAShadowModel.hours(I)I -/
theorem mX8_hours (l : Launch) (Z : XG) (hQ : wQ (List.length mL) Z) {S S' : Mem} {r : Int32} (x1 : Int32) (h : fX8_hours S x1 = some (r, S')) : XM l yX8_hours cX8_hours 4 (some .int) { frames := 7, cells := 0, slots := 0, locals := 169 } mL Z [.ref (Z.2.1 0), .int x1] S (XQ mL Z r S') := by
  refine XM.of (own := RX8) (by decide +kernel) rfl rfl hQ (fun p e s m args below meth c E ls hl X => ?_)
  exact wX8_hours E S x1 h _ _ _ X hl
def fX8_evening_107 (k0 : Mem → Int32 → O) (S : Mem) (x1 s1 s2 : Int32) : O := gd (inB s1 55) <| ltm (mset S 1 (s1).toNatClampNeg s2) fun S_2 => k0 S_2 (x1 + (1 : Int32))
def fX8_evening_53_b (k0 : Mem → Int32 → O) (S : Mem) (x1 : Int32) : O := (if (S 0 6) ≤ x1 then ltm (mset S 0 3 (0 : Int32)) fun S_2 => some ((S_2 1 ((0 : Int32)).toNatClampNeg), S_2) else gd (inB ((25 : Int32) + x1) 55) <| (if (S 1 (((25 : Int32) + x1)).toNatClampNeg) ≤ (S 4 ((1 : Int32)).toNatClampNeg) then fX8_evening_107 k0 S x1 ((25 : Int32) + x1) (0 : Int32) else gd (inB ((25 : Int32) + x1) 55) <| fX8_evening_107 k0 S x1 ((25 : Int32) + x1) ((S 1 (((25 : Int32) + x1)).toNatClampNeg) - (S 4 ((1 : Int32)).toNatClampNeg))))
def fX8_evening_53 : Nat → Mem → Int32 → O
  | 0 => fun _ _ => none
  | n + 1 => fX8_evening_53_b (fX8_evening_53 n)
def fX8_evening (S : Mem) : O := ltm (mset S 0 0 (0 : Int32)) fun S_1 => (if (S_1 1 ((1 : Int32)).toNatClampNeg) = (12 : Int32) then (if (S_1 1 ((0 : Int32)).toNatClampNeg) = (999 : Int32) then some ((-1 : Int32), S_1) else ltm (mset S_1 1 ((0 : Int32)).toNatClampNeg ((S_1 1 ((0 : Int32)).toNatClampNeg) + (1 : Int32))) fun S_4 => ltm (mset S_4 1 ((1 : Int32)).toNatClampNeg (0 : Int32)) fun S_5 => fX8_evening_53  FU S_5 (0 : Int32)) else some ((-1 : Int32), S_1))
theorem dX8_evening_0 : decode cX8_evening 0 = .ok (.aload_n 0, 1) := by decide +kernel
theorem dX8_evening_1 : decode cX8_evening 1 = .ok (.iconst 0, 1) := by decide +kernel
theorem dX8_evening_2 : decode cX8_evening 2 = .ok (.putfield 92, 3) := by decide +kernel
theorem dX8_evening_5 : decode cX8_evening 5 = .ok (.aload_n 0, 1) := by decide +kernel
theorem dX8_evening_6 : decode cX8_evening 6 = .ok (.getfield 7, 3) := by decide +kernel
theorem dX8_evening_9 : decode cX8_evening 9 = .ok (.iconst 1, 1) := by decide +kernel
theorem dX8_evening_10 : decode cX8_evening 10 = .ok (.iaload, 1) := by decide +kernel
theorem dX8_evening_11 : decode cX8_evening 11 = .ok (.bipush 12, 2) := by decide +kernel
theorem dX8_evening_13 : decode cX8_evening 13 = .ok (.if_icmp .ne 15, 3) := by decide +kernel
theorem dX8_evening_16 : decode cX8_evening 16 = .ok (.aload_n 0, 1) := by decide +kernel
theorem dX8_evening_17 : decode cX8_evening 17 = .ok (.getfield 7, 3) := by decide +kernel
theorem dX8_evening_20 : decode cX8_evening 20 = .ok (.iconst 0, 1) := by decide +kernel
theorem dX8_evening_21 : decode cX8_evening 21 = .ok (.iaload, 1) := by decide +kernel
theorem dX8_evening_22 : decode cX8_evening 22 = .ok (.sipush 999, 3) := by decide +kernel
theorem dX8_evening_25 : decode cX8_evening 25 = .ok (.if_icmp .ne 5, 3) := by decide +kernel
theorem dX8_evening_28 : decode cX8_evening 28 = .ok (.iconst (-1), 1) := by decide +kernel
theorem dX8_evening_29 : decode cX8_evening 29 = .ok (.ireturn, 1) := by decide +kernel
theorem dX8_evening_30 : decode cX8_evening 30 = .ok (.aload_n 0, 1) := by decide +kernel
theorem dX8_evening_31 : decode cX8_evening 31 = .ok (.getfield 7, 3) := by decide +kernel
theorem dX8_evening_34 : decode cX8_evening 34 = .ok (.iconst 0, 1) := by decide +kernel
theorem dX8_evening_35 : decode cX8_evening 35 = .ok (.aload_n 0, 1) := by decide +kernel
theorem dX8_evening_36 : decode cX8_evening 36 = .ok (.getfield 7, 3) := by decide +kernel
theorem dX8_evening_39 : decode cX8_evening 39 = .ok (.iconst 0, 1) := by decide +kernel
theorem dX8_evening_40 : decode cX8_evening 40 = .ok (.iaload, 1) := by decide +kernel
theorem dX8_evening_41 : decode cX8_evening 41 = .ok (.iconst 1, 1) := by decide +kernel
theorem dX8_evening_42 : decode cX8_evening 42 = .ok (.iadd, 1) := by decide +kernel
theorem dX8_evening_43 : decode cX8_evening 43 = .ok (.iastore, 1) := by decide +kernel
theorem dX8_evening_44 : decode cX8_evening 44 = .ok (.aload_n 0, 1) := by decide +kernel
theorem dX8_evening_45 : decode cX8_evening 45 = .ok (.getfield 7, 3) := by decide +kernel
theorem dX8_evening_48 : decode cX8_evening 48 = .ok (.iconst 1, 1) := by decide +kernel
theorem dX8_evening_49 : decode cX8_evening 49 = .ok (.iconst 0, 1) := by decide +kernel
theorem dX8_evening_50 : decode cX8_evening 50 = .ok (.iastore, 1) := by decide +kernel
theorem dX8_evening_51 : decode cX8_evening 51 = .ok (.iconst 0, 1) := by decide +kernel
theorem dX8_evening_52 : decode cX8_evening 52 = .ok (.istore_n 1, 1) := by decide +kernel
theorem dX8_evening_53 : decode cX8_evening 53 = .ok (.iload_n 1, 1) := by decide +kernel
theorem dX8_evening_54 : decode cX8_evening 54 = .ok (.aload_n 0, 1) := by decide +kernel
theorem dX8_evening_55 : decode cX8_evening 55 = .ok (.getfield 100, 3) := by decide +kernel
theorem dX8_evening_58 : decode cX8_evening 58 = .ok (.if_icmp .ge 56, 3) := by decide +kernel
theorem dX8_evening_61 : decode cX8_evening 61 = .ok (.aload_n 0, 1) := by decide +kernel
theorem dX8_evening_62 : decode cX8_evening 62 = .ok (.getfield 7, 3) := by decide +kernel
theorem dX8_evening_65 : decode cX8_evening 65 = .ok (.bipush 25, 2) := by decide +kernel
theorem dX8_evening_67 : decode cX8_evening 67 = .ok (.iload_n 1, 1) := by decide +kernel
theorem dX8_evening_68 : decode cX8_evening 68 = .ok (.iadd, 1) := by decide +kernel
theorem dX8_evening_69 : decode cX8_evening 69 = .ok (.aload_n 0, 1) := by decide +kernel
theorem dX8_evening_70 : decode cX8_evening 70 = .ok (.getfield 7, 3) := by decide +kernel
theorem dX8_evening_73 : decode cX8_evening 73 = .ok (.bipush 25, 2) := by decide +kernel
theorem dX8_evening_75 : decode cX8_evening 75 = .ok (.iload_n 1, 1) := by decide +kernel
theorem dX8_evening_76 : decode cX8_evening 76 = .ok (.iadd, 1) := by decide +kernel
theorem dX8_evening_77 : decode cX8_evening 77 = .ok (.iaload, 1) := by decide +kernel
theorem dX8_evening_78 : decode cX8_evening 78 = .ok (.aload_n 0, 1) := by decide +kernel
theorem dX8_evening_79 : decode cX8_evening 79 = .ok (.getfield 19, 3) := by decide +kernel
theorem dX8_evening_82 : decode cX8_evening 82 = .ok (.iconst 1, 1) := by decide +kernel
theorem dX8_evening_83 : decode cX8_evening 83 = .ok (.iaload, 1) := by decide +kernel
theorem dX8_evening_84 : decode cX8_evening 84 = .ok (.if_icmp .le 22, 3) := by decide +kernel
theorem dX8_evening_87 : decode cX8_evening 87 = .ok (.aload_n 0, 1) := by decide +kernel
theorem dX8_evening_88 : decode cX8_evening 88 = .ok (.getfield 7, 3) := by decide +kernel
theorem dX8_evening_91 : decode cX8_evening 91 = .ok (.bipush 25, 2) := by decide +kernel
theorem dX8_evening_93 : decode cX8_evening 93 = .ok (.iload_n 1, 1) := by decide +kernel
theorem dX8_evening_94 : decode cX8_evening 94 = .ok (.iadd, 1) := by decide +kernel
theorem dX8_evening_95 : decode cX8_evening 95 = .ok (.iaload, 1) := by decide +kernel
theorem dX8_evening_96 : decode cX8_evening 96 = .ok (.aload_n 0, 1) := by decide +kernel
theorem dX8_evening_97 : decode cX8_evening 97 = .ok (.getfield 19, 3) := by decide +kernel
theorem dX8_evening_100 : decode cX8_evening 100 = .ok (.iconst 1, 1) := by decide +kernel
theorem dX8_evening_101 : decode cX8_evening 101 = .ok (.iaload, 1) := by decide +kernel
theorem dX8_evening_102 : decode cX8_evening 102 = .ok (.isub, 1) := by decide +kernel
theorem dX8_evening_103 : decode cX8_evening 103 = .ok (.goto 4, 3) := by decide +kernel
theorem dX8_evening_106 : decode cX8_evening 106 = .ok (.iconst 0, 1) := by decide +kernel
theorem dX8_evening_107 : decode cX8_evening 107 = .ok (.iastore, 1) := by decide +kernel
theorem dX8_evening_108 : decode cX8_evening 108 = .ok (.iinc 1 1, 3) := by decide +kernel
theorem dX8_evening_111 : decode cX8_evening 111 = .ok (.goto (-58), 3) := by decide +kernel
theorem dX8_evening_114 : decode cX8_evening 114 = .ok (.aload_n 0, 1) := by decide +kernel
theorem dX8_evening_115 : decode cX8_evening 115 = .ok (.iconst 0, 1) := by decide +kernel
theorem dX8_evening_116 : decode cX8_evening 116 = .ok (.putfield 95, 3) := by decide +kernel
theorem dX8_evening_119 : decode cX8_evening 119 = .ok (.aload_n 0, 1) := by decide +kernel
theorem dX8_evening_120 : decode cX8_evening 120 = .ok (.getfield 7, 3) := by decide +kernel
theorem dX8_evening_123 : decode cX8_evening 123 = .ok (.iconst 0, 1) := by decide +kernel
theorem dX8_evening_124 : decode cX8_evening 124 = .ok (.iaload, 1) := by decide +kernel
theorem dX8_evening_125 : decode cX8_evening 125 = .ok (.ireturn, 1) := by decide +kernel
set_option maxRecDepth 20000 in
theorem wX8_evening_107 {p : Program} {l : Launch} {e : Env} {s : State} {m : MethodId} {args : Array Value} {below : List Frame} {meth : Method} {c : Code} {Z : XG} {r : Int32} {S' : Mem} (E : XE p s m args meth c cX8_evening 2 RX8 (some .int) mL Z) (k0 : Mem → Int32 → O)  (hk0 : ∀ (S : Mem) (x1 : Int32), k0 S x1 = some (r, S') → WN p l e { frames := 0, cells := 0, slots := 0, locals := 0 } s m args below meth c mL Z (XQ mL Z r S') S 53 2 [(0, .ref (Z.2.1 0)), (1, .int x1)] []) : ∀ (S : Mem) (x1 s1 s2 : Int32), fX8_evening_107 k0 S x1 s1 s2 = some (r, S') → WN p l e { frames := 0, cells := 0, slots := 0, locals := 0 } s m args below meth c mL Z (XQ mL Z r S') S 107 2 [(0, .ref (Z.2.1 0)), (1, .int x1)] [.int s2, .int s1, .ref (Z.2.1 1)] := by
  obtain ⟨hx, hb, -, -, -, -, -, -, -, hQ⟩ := id E
  intro S x1 s1 s2 h H locs ls X hl
  unfold fX8_evening_107 at h
  obtain ⟨g_1, h⟩ := gd_s h
  obtain ⟨S_2, eS_2, h⟩ := ltm_s h
  refine x_iast E X rfl g_1 dX8_evening_107 (fun H locs X => ?_)
  rw [← eS_2] at X
  refine lv_iinc (v := (x1 + (1 : Int32))) (lv' := [(1, .int (x1 + (1 : Int32))), (0, .ref (Z.2.1 0))]) hx hb dX8_evening_108 hl (k := 1) rfl rfl (by decide) rfl (fun ls hl => ?_)
  refine lv_goto (tgt := 53) hx hb dX8_evening_111 (by decide) ?_
  exact hk0 S_2 (x1 + (1 : Int32)) h _ _ _ X (lv_sub hl [1, 0] rfl)
set_option maxRecDepth 20000 in
theorem wX8_evening_53_b {p : Program} {l : Launch} {e : Env} {s : State} {m : MethodId} {args : Array Value} {below : List Frame} {meth : Method} {c : Code} {Z : XG} {r : Int32} {S' : Mem} (E : XE p s m args meth c cX8_evening 2 RX8 (some .int) mL Z) (k0 : Mem → Int32 → O)  (hk0 : ∀ (S : Mem) (x1 : Int32), k0 S x1 = some (r, S') → WN p l e { frames := 0, cells := 0, slots := 0, locals := 0 } s m args below meth c mL Z (XQ mL Z r S') S 53 2 [(0, .ref (Z.2.1 0)), (1, .int x1)] []) : ∀ (S : Mem) (x1 : Int32), fX8_evening_53_b k0 S x1 = some (r, S') → WN p l e { frames := 0, cells := 0, slots := 0, locals := 0 } s m args below meth c mL Z (XQ mL Z r S') S 53 2 [(0, .ref (Z.2.1 0)), (1, .int x1)] [] := by
  obtain ⟨hx, hb, -, -, -, -, -, -, -, hQ⟩ := id E
  intro S x1 h H locs ls X hl
  unfold fX8_evening_53_b at h
  refine lv_iload_n hx hb dX8_evening_53 rfl (lv_at hl 1 rfl) ?_
  refine lv_aload_n hx hb dX8_evening_54 rfl (lv_at hl 0 rfl) ?_
  refine x_get E X ffX8_100 rfl rfl dX8_evening_55 ?_
  refine lv_icmp_ge (tgt := 114) hx hb dX8_evening_58 (by decide) (fun c_1 => ?_) (fun c_1 => ?_)
  · have h := if_t c_1 h
    refine lv_aload_n hx hb dX8_evening_114 rfl (lv_at hl 0 rfl) ?_
    refine lv_iconst (v := (0 : Int32)) hx hb dX8_evening_115 (by decide) ?_
    obtain ⟨S_2, eS_2, h⟩ := ltm_s h
    refine x_put E X fpX8_95 rfl rfl dX8_evening_116 (fun H locs X => ?_)
    rw [← eS_2] at X
    refine lv_aload_n hx hb dX8_evening_119 rfl (lv_at hl 0 rfl) ?_
    refine x_getr E X ffX8_7 rfl rfl dX8_evening_120 ?_
    refine lv_iconst (v := (0 : Int32)) hx hb dX8_evening_123 (by decide) ?_
    refine x_iald E X rfl (by decide) dX8_evening_124 ?_
    exact x_iret E X h dX8_evening_125
  · have h := if_f c_1 h
    refine lv_aload_n hx hb dX8_evening_61 rfl (lv_at hl 0 rfl) ?_
    refine x_getr E X ffX8_7 rfl rfl dX8_evening_62 ?_
    refine lv_bipush (v := (25 : Int32)) hx hb dX8_evening_65 (by decide) ?_
    refine lv_iload_n hx hb dX8_evening_67 rfl (lv_at hl 1 rfl) ?_
    refine lv_iadd hx hb dX8_evening_68 ?_
    refine lv_aload_n hx hb dX8_evening_69 rfl (lv_at hl 0 rfl) ?_
    refine x_getr E X ffX8_7 rfl rfl dX8_evening_70 ?_
    refine lv_bipush (v := (25 : Int32)) hx hb dX8_evening_73 (by decide) ?_
    refine lv_iload_n hx hb dX8_evening_75 rfl (lv_at hl 1 rfl) ?_
    refine lv_iadd hx hb dX8_evening_76 ?_
    obtain ⟨g_3, h⟩ := gd_s h
    refine x_iald E X rfl g_3 dX8_evening_77 ?_
    refine lv_aload_n hx hb dX8_evening_78 rfl (lv_at hl 0 rfl) ?_
    refine x_getr E X ffX8_19 rfl rfl dX8_evening_79 ?_
    refine lv_iconst (v := (1 : Int32)) hx hb dX8_evening_82 (by decide) ?_
    refine x_iald E X rfl (by decide) dX8_evening_83 ?_
    refine lv_icmp_le (tgt := 106) hx hb dX8_evening_84 (by decide) (fun c_4 => ?_) (fun c_4 => ?_)
    · have h := if_t c_4 h
      refine lv_iconst (v := (0 : Int32)) hx hb dX8_evening_106 (by decide) ?_
      exact wX8_evening_107 E k0 hk0 S x1 ((25 : Int32) + x1) (0 : Int32) h _ _ _ X hl
    · have h := if_f c_4 h
      refine lv_aload_n hx hb dX8_evening_87 rfl (lv_at hl 0 rfl) ?_
      refine x_getr E X ffX8_7 rfl rfl dX8_evening_88 ?_
      refine lv_bipush (v := (25 : Int32)) hx hb dX8_evening_91 (by decide) ?_
      refine lv_iload_n hx hb dX8_evening_93 rfl (lv_at hl 1 rfl) ?_
      refine lv_iadd hx hb dX8_evening_94 ?_
      obtain ⟨g_5, h⟩ := gd_s h
      refine x_iald E X rfl g_5 dX8_evening_95 ?_
      refine lv_aload_n hx hb dX8_evening_96 rfl (lv_at hl 0 rfl) ?_
      refine x_getr E X ffX8_19 rfl rfl dX8_evening_97 ?_
      refine lv_iconst (v := (1 : Int32)) hx hb dX8_evening_100 (by decide) ?_
      refine x_iald E X rfl (by decide) dX8_evening_101 ?_
      refine lv_isub hx hb dX8_evening_102 ?_
      refine lv_goto (tgt := 107) hx hb dX8_evening_103 (by decide) ?_
      exact wX8_evening_107 E k0 hk0 S x1 ((25 : Int32) + x1) ((S 1 (((25 : Int32) + x1)).toNatClampNeg) - (S 4 ((1 : Int32)).toNatClampNeg)) h _ _ _ X hl
theorem wX8_evening_53 {p : Program} {l : Launch} {e : Env} {s : State} {m : MethodId} {args : Array Value} {below : List Frame} {meth : Method} {c : Code} {Z : XG} {r : Int32} {S' : Mem} (E : XE p s m args meth c cX8_evening 2 RX8 (some .int) mL Z) : ∀ (n : Nat) (S : Mem) (x1 : Int32), fX8_evening_53 n S x1 = some (r, S') → WN p l e { frames := 0, cells := 0, slots := 0, locals := 0 } s m args below meth c mL Z (XQ mL Z r S') S 53 2 [(0, .ref (Z.2.1 0)), (1, .int x1)] [] := by
  intro n
  induction n with
  | zero => intro S x1 h; exact absurd (show (none : O) = some _ from h) (by simp)
  | succ n ih => intro S x1 h; exact wX8_evening_53_b E (fX8_evening_53 n) ih S x1 h
set_option maxRecDepth 20000 in
theorem wX8_evening {p : Program} {l : Launch} {e : Env} {s : State} {m : MethodId} {args : Array Value} {below : List Frame} {meth : Method} {c : Code} {Z : XG} {r : Int32} {S' : Mem} (E : XE p s m args meth c cX8_evening 2 RX8 (some .int) mL Z) : ∀ (S : Mem), fX8_evening  S  = some (r, S') → WN p l e { frames := 0, cells := 0, slots := 0, locals := 0 } s m args below meth c mL Z (XQ mL Z r S') S 0 2 [(0, .ref (Z.2.1 0))] [] := by
  obtain ⟨hx, hb, -, -, -, -, -, -, -, hQ⟩ := id E
  intro S  h H locs ls X hl
  unfold fX8_evening at h
  refine lv_aload_n hx hb dX8_evening_0 rfl (lv_at hl 0 rfl) ?_
  refine lv_iconst (v := (0 : Int32)) hx hb dX8_evening_1 (by decide) ?_
  obtain ⟨S_1, eS_1, h⟩ := ltm_s h
  refine x_put E X fpX8_92 rfl rfl dX8_evening_2 (fun H locs X => ?_)
  rw [← eS_1] at X
  refine lv_aload_n hx hb dX8_evening_5 rfl (lv_at hl 0 rfl) ?_
  refine x_getr E X ffX8_7 rfl rfl dX8_evening_6 ?_
  refine lv_iconst (v := (1 : Int32)) hx hb dX8_evening_9 (by decide) ?_
  refine x_iald E X rfl (by decide) dX8_evening_10 ?_
  refine lv_bipush (v := (12 : Int32)) hx hb dX8_evening_11 (by decide) ?_
  refine lv_icmp_ne (tgt := 28) hx hb dX8_evening_13 (by decide) (fun c_2 => ?_) (fun c_2 => ?_)
  · have h := if_f c_2 h
    refine lv_iconst (v := (-1 : Int32)) hx hb dX8_evening_28 (by decide) ?_
    exact x_iret E X h dX8_evening_29
  · have h := if_t c_2 h
    refine lv_aload_n hx hb dX8_evening_16 rfl (lv_at hl 0 rfl) ?_
    refine x_getr E X ffX8_7 rfl rfl dX8_evening_17 ?_
    refine lv_iconst (v := (0 : Int32)) hx hb dX8_evening_20 (by decide) ?_
    refine x_iald E X rfl (by decide) dX8_evening_21 ?_
    refine lv_sipush (v := (999 : Int32)) hx hb dX8_evening_22 (by decide) ?_
    refine lv_icmp_ne (tgt := 30) hx hb dX8_evening_25 (by decide) (fun c_3 => ?_) (fun c_3 => ?_)
    · have h := if_f c_3 h
      refine lv_aload_n hx hb dX8_evening_30 rfl (lv_at hl 0 rfl) ?_
      refine x_getr E X ffX8_7 rfl rfl dX8_evening_31 ?_
      refine lv_iconst (v := (0 : Int32)) hx hb dX8_evening_34 (by decide) ?_
      refine lv_aload_n hx hb dX8_evening_35 rfl (lv_at hl 0 rfl) ?_
      refine x_getr E X ffX8_7 rfl rfl dX8_evening_36 ?_
      refine lv_iconst (v := (0 : Int32)) hx hb dX8_evening_39 (by decide) ?_
      refine x_iald E X rfl (by decide) dX8_evening_40 ?_
      refine lv_iconst (v := (1 : Int32)) hx hb dX8_evening_41 (by decide) ?_
      refine lv_iadd hx hb dX8_evening_42 ?_
      obtain ⟨S_4, eS_4, h⟩ := ltm_s h
      refine x_iast E X rfl (by decide) dX8_evening_43 (fun H locs X => ?_)
      rw [← eS_4] at X
      refine lv_aload_n hx hb dX8_evening_44 rfl (lv_at hl 0 rfl) ?_
      refine x_getr E X ffX8_7 rfl rfl dX8_evening_45 ?_
      refine lv_iconst (v := (1 : Int32)) hx hb dX8_evening_48 (by decide) ?_
      refine lv_iconst (v := (0 : Int32)) hx hb dX8_evening_49 (by decide) ?_
      obtain ⟨S_5, eS_5, h⟩ := ltm_s h
      refine x_iast E X rfl (by decide) dX8_evening_50 (fun H locs X => ?_)
      rw [← eS_5] at X
      refine lv_iconst (v := (0 : Int32)) hx hb dX8_evening_51 (by decide) ?_
      refine lv_istore_n (lv' := [(1, .int (0 : Int32)), (0, .ref (Z.2.1 0))]) hx hb dX8_evening_52 rfl hl (by decide) rfl (fun ls hl => ?_)
      exact wX8_evening_53 E   FU S_5 (0 : Int32) h _ _ _ X (lv_sub hl [1, 0] rfl)
    · have h := if_t c_3 h
      refine lv_iconst (v := (-1 : Int32)) hx hb dX8_evening_28 (by decide) ?_
      exact x_iret E X h dX8_evening_29
/-- SevenToAShadowModel.evening()I -/
theorem mX8_evening (l : Launch) (Z : XG) (hQ : wQ (List.length mL) Z) {S S' : Mem} {r : Int32} (h : fX8_evening S  = some (r, S')) : XM l yX8_evening cX8_evening 2 (some .int) { frames := 0, cells := 0, slots := 0, locals := 0 } mL Z [.ref (Z.2.1 0)] S (XQ mL Z r S') := by
  refine XM.of (own := RX8) (by decide +kernel) rfl rfl hQ (fun p e s m args below meth c E ls hl X => ?_)
  exact wX8_evening E S  h _ _ _ X hl
def fX8_of (S : Mem) (x1 x2 : Int32) : O := ltm (mset S 0 0 (0 : Int32)) fun S_1 => bnd (fX8_isPilgrim S_1 x1) fun r_2 S_3 => (if r_2 = 0 then some ((-1 : Int32), S_3) else (if x2 = 0 then gd (inB ((5 : Int32) + x1) 55) <| some ((S_3 1 (((5 : Int32) + x1)).toNatClampNeg), S_3) else (if x2 = (1 : Int32) then gd (inB x1 10) <| some ((S_3 5 (x1).toNatClampNeg), S_3) else (if x2 = (2 : Int32) then gd (inB x1 10) <| some ((S_3 6 (x1).toNatClampNeg), S_3) else (if x2 = (3 : Int32) then gd (inB x1 10) <| some ((S_3 7 (x1).toNatClampNeg), S_3) else (if x2 = (4 : Int32) then gd (inB ((15 : Int32) + x1) 55) <| some ((S_3 1 (((15 : Int32) + x1)).toNatClampNeg), S_3) else (if x2 = (5 : Int32) then some ((((S_3 0 10) >>> (x1 &&& 31)) &&& (1 : Int32)), S_3) else (if x2 = (6 : Int32) then some ((((S_3 0 11) >>> (x1 &&& 31)) &&& (1 : Int32)), S_3) else (if x2 = (7 : Int32) then gd (inB ((25 : Int32) + x1) 55) <| some ((S_3 1 (((25 : Int32) + x1)).toNatClampNeg), S_3) else (if x2 = (8 : Int32) then gd (inB ((35 : Int32) + x1) 55) <| some ((S_3 1 (((35 : Int32) + x1)).toNatClampNeg), S_3) else (if x2 = (9 : Int32) then gd (inB ((45 : Int32) + x1) 55) <| some ((S_3 1 (((45 : Int32) + x1)).toNatClampNeg), S_3) else (if x2 = (10 : Int32) then (if (S_3 1 ((1 : Int32)).toNatClampNeg) = (12 : Int32) then some ((0 : Int32), S_3) else bnd (fX8_findsShadeNow S_3 (S_3 1 ((1 : Int32)).toNatClampNeg)) fun _ S_18 => bnd (fX8_isShaded S_18 x1) fun r_19 S_20 => (if r_19 = 0 then some ((0 : Int32), S_20) else some ((1 : Int32), S_20))) else some ((-1 : Int32), S_3)))))))))))))
theorem dX8_of_0 : decode cX8_of 0 = .ok (.aload_n 0, 1) := by decide +kernel
theorem dX8_of_1 : decode cX8_of 1 = .ok (.iconst 0, 1) := by decide +kernel
theorem dX8_of_2 : decode cX8_of 2 = .ok (.putfield 92, 3) := by decide +kernel
theorem dX8_of_5 : decode cX8_of 5 = .ok (.aload_n 0, 1) := by decide +kernel
theorem dX8_of_6 : decode cX8_of 6 = .ok (.iload_n 1, 1) := by decide +kernel
theorem dX8_of_7 : decode cX8_of 7 = .ok (.invokevirtual 118, 3) := by decide +kernel
theorem dX8_of_10 : decode cX8_of 10 = .ok (.ifCond .ne 5, 3) := by decide +kernel
theorem dX8_of_13 : decode cX8_of 13 = .ok (.iconst (-1), 1) := by decide +kernel
theorem dX8_of_14 : decode cX8_of 14 = .ok (.ireturn, 1) := by decide +kernel
theorem dX8_of_15 : decode cX8_of 15 = .ok (.iload_n 2, 1) := by decide +kernel
theorem dX8_of_16 : decode cX8_of 16 = .ok (.ifCond .ne 12, 3) := by decide +kernel
theorem dX8_of_19 : decode cX8_of 19 = .ok (.aload_n 0, 1) := by decide +kernel
theorem dX8_of_20 : decode cX8_of 20 = .ok (.getfield 7, 3) := by decide +kernel
theorem dX8_of_23 : decode cX8_of 23 = .ok (.iconst 5, 1) := by decide +kernel
theorem dX8_of_24 : decode cX8_of 24 = .ok (.iload_n 1, 1) := by decide +kernel
theorem dX8_of_25 : decode cX8_of 25 = .ok (.iadd, 1) := by decide +kernel
theorem dX8_of_26 : decode cX8_of 26 = .ok (.iaload, 1) := by decide +kernel
theorem dX8_of_27 : decode cX8_of 27 = .ok (.ireturn, 1) := by decide +kernel
theorem dX8_of_28 : decode cX8_of 28 = .ok (.iload_n 2, 1) := by decide +kernel
theorem dX8_of_29 : decode cX8_of 29 = .ok (.iconst 1, 1) := by decide +kernel
theorem dX8_of_30 : decode cX8_of 30 = .ok (.if_icmp .ne 10, 3) := by decide +kernel
theorem dX8_of_33 : decode cX8_of 33 = .ok (.aload_n 0, 1) := by decide +kernel
theorem dX8_of_34 : decode cX8_of 34 = .ok (.getfield 22, 3) := by decide +kernel
theorem dX8_of_37 : decode cX8_of 37 = .ok (.iload_n 1, 1) := by decide +kernel
theorem dX8_of_38 : decode cX8_of 38 = .ok (.iaload, 1) := by decide +kernel
theorem dX8_of_39 : decode cX8_of 39 = .ok (.ireturn, 1) := by decide +kernel
theorem dX8_of_40 : decode cX8_of 40 = .ok (.iload_n 2, 1) := by decide +kernel
theorem dX8_of_41 : decode cX8_of 41 = .ok (.iconst 2, 1) := by decide +kernel
theorem dX8_of_42 : decode cX8_of 42 = .ok (.if_icmp .ne 10, 3) := by decide +kernel
theorem dX8_of_45 : decode cX8_of 45 = .ok (.aload_n 0, 1) := by decide +kernel
theorem dX8_of_46 : decode cX8_of 46 = .ok (.getfield 25, 3) := by decide +kernel
theorem dX8_of_49 : decode cX8_of 49 = .ok (.iload_n 1, 1) := by decide +kernel
theorem dX8_of_50 : decode cX8_of 50 = .ok (.iaload, 1) := by decide +kernel
theorem dX8_of_51 : decode cX8_of 51 = .ok (.ireturn, 1) := by decide +kernel
theorem dX8_of_52 : decode cX8_of 52 = .ok (.iload_n 2, 1) := by decide +kernel
theorem dX8_of_53 : decode cX8_of 53 = .ok (.iconst 3, 1) := by decide +kernel
theorem dX8_of_54 : decode cX8_of 54 = .ok (.if_icmp .ne 10, 3) := by decide +kernel
theorem dX8_of_57 : decode cX8_of 57 = .ok (.aload_n 0, 1) := by decide +kernel
theorem dX8_of_58 : decode cX8_of 58 = .ok (.getfield 28, 3) := by decide +kernel
theorem dX8_of_61 : decode cX8_of 61 = .ok (.iload_n 1, 1) := by decide +kernel
theorem dX8_of_62 : decode cX8_of 62 = .ok (.iaload, 1) := by decide +kernel
theorem dX8_of_63 : decode cX8_of 63 = .ok (.ireturn, 1) := by decide +kernel
theorem dX8_of_64 : decode cX8_of 64 = .ok (.iload_n 2, 1) := by decide +kernel
theorem dX8_of_65 : decode cX8_of 65 = .ok (.iconst 4, 1) := by decide +kernel
theorem dX8_of_66 : decode cX8_of 66 = .ok (.if_icmp .ne 13, 3) := by decide +kernel
theorem dX8_of_69 : decode cX8_of 69 = .ok (.aload_n 0, 1) := by decide +kernel
theorem dX8_of_70 : decode cX8_of 70 = .ok (.getfield 7, 3) := by decide +kernel
theorem dX8_of_73 : decode cX8_of 73 = .ok (.bipush 15, 2) := by decide +kernel
theorem dX8_of_75 : decode cX8_of 75 = .ok (.iload_n 1, 1) := by decide +kernel
theorem dX8_of_76 : decode cX8_of 76 = .ok (.iadd, 1) := by decide +kernel
theorem dX8_of_77 : decode cX8_of 77 = .ok (.iaload, 1) := by decide +kernel
theorem dX8_of_78 : decode cX8_of 78 = .ok (.ireturn, 1) := by decide +kernel
theorem dX8_of_79 : decode cX8_of 79 = .ok (.iload_n 2, 1) := by decide +kernel
theorem dX8_of_80 : decode cX8_of 80 = .ok (.iconst 5, 1) := by decide +kernel
theorem dX8_of_81 : decode cX8_of 81 = .ok (.if_icmp .ne 12, 3) := by decide +kernel
theorem dX8_of_84 : decode cX8_of 84 = .ok (.aload_n 0, 1) := by decide +kernel
theorem dX8_of_85 : decode cX8_of 85 = .ok (.getfield 124, 3) := by decide +kernel
theorem dX8_of_88 : decode cX8_of 88 = .ok (.iload_n 1, 1) := by decide +kernel
theorem dX8_of_89 : decode cX8_of 89 = .ok (.ishr, 1) := by decide +kernel
theorem dX8_of_90 : decode cX8_of 90 = .ok (.iconst 1, 1) := by decide +kernel
theorem dX8_of_91 : decode cX8_of 91 = .ok (.iand, 1) := by decide +kernel
theorem dX8_of_92 : decode cX8_of 92 = .ok (.ireturn, 1) := by decide +kernel
theorem dX8_of_93 : decode cX8_of 93 = .ok (.iload_n 2, 1) := by decide +kernel
theorem dX8_of_94 : decode cX8_of 94 = .ok (.bipush 6, 2) := by decide +kernel
theorem dX8_of_96 : decode cX8_of 96 = .ok (.if_icmp .ne 12, 3) := by decide +kernel
theorem dX8_of_99 : decode cX8_of 99 = .ok (.aload_n 0, 1) := by decide +kernel
theorem dX8_of_100 : decode cX8_of 100 = .ok (.getfield 127, 3) := by decide +kernel
theorem dX8_of_103 : decode cX8_of 103 = .ok (.iload_n 1, 1) := by decide +kernel
theorem dX8_of_104 : decode cX8_of 104 = .ok (.ishr, 1) := by decide +kernel
theorem dX8_of_105 : decode cX8_of 105 = .ok (.iconst 1, 1) := by decide +kernel
theorem dX8_of_106 : decode cX8_of 106 = .ok (.iand, 1) := by decide +kernel
theorem dX8_of_107 : decode cX8_of 107 = .ok (.ireturn, 1) := by decide +kernel
theorem dX8_of_108 : decode cX8_of 108 = .ok (.iload_n 2, 1) := by decide +kernel
theorem dX8_of_109 : decode cX8_of 109 = .ok (.bipush 7, 2) := by decide +kernel
theorem dX8_of_111 : decode cX8_of 111 = .ok (.if_icmp .ne 13, 3) := by decide +kernel
theorem dX8_of_114 : decode cX8_of 114 = .ok (.aload_n 0, 1) := by decide +kernel
theorem dX8_of_115 : decode cX8_of 115 = .ok (.getfield 7, 3) := by decide +kernel
theorem dX8_of_118 : decode cX8_of 118 = .ok (.bipush 25, 2) := by decide +kernel
theorem dX8_of_120 : decode cX8_of 120 = .ok (.iload_n 1, 1) := by decide +kernel
theorem dX8_of_121 : decode cX8_of 121 = .ok (.iadd, 1) := by decide +kernel
theorem dX8_of_122 : decode cX8_of 122 = .ok (.iaload, 1) := by decide +kernel
theorem dX8_of_123 : decode cX8_of 123 = .ok (.ireturn, 1) := by decide +kernel
theorem dX8_of_124 : decode cX8_of 124 = .ok (.iload_n 2, 1) := by decide +kernel
theorem dX8_of_125 : decode cX8_of 125 = .ok (.bipush 8, 2) := by decide +kernel
theorem dX8_of_127 : decode cX8_of 127 = .ok (.if_icmp .ne 13, 3) := by decide +kernel
theorem dX8_of_130 : decode cX8_of 130 = .ok (.aload_n 0, 1) := by decide +kernel
theorem dX8_of_131 : decode cX8_of 131 = .ok (.getfield 7, 3) := by decide +kernel
theorem dX8_of_134 : decode cX8_of 134 = .ok (.bipush 35, 2) := by decide +kernel
theorem dX8_of_136 : decode cX8_of 136 = .ok (.iload_n 1, 1) := by decide +kernel
theorem dX8_of_137 : decode cX8_of 137 = .ok (.iadd, 1) := by decide +kernel
theorem dX8_of_138 : decode cX8_of 138 = .ok (.iaload, 1) := by decide +kernel
theorem dX8_of_139 : decode cX8_of 139 = .ok (.ireturn, 1) := by decide +kernel
theorem dX8_of_140 : decode cX8_of 140 = .ok (.iload_n 2, 1) := by decide +kernel
theorem dX8_of_141 : decode cX8_of 141 = .ok (.bipush 9, 2) := by decide +kernel
theorem dX8_of_143 : decode cX8_of 143 = .ok (.if_icmp .ne 13, 3) := by decide +kernel
theorem dX8_of_146 : decode cX8_of 146 = .ok (.aload_n 0, 1) := by decide +kernel
theorem dX8_of_147 : decode cX8_of 147 = .ok (.getfield 7, 3) := by decide +kernel
theorem dX8_of_150 : decode cX8_of 150 = .ok (.bipush 45, 2) := by decide +kernel
theorem dX8_of_152 : decode cX8_of 152 = .ok (.iload_n 1, 1) := by decide +kernel
theorem dX8_of_153 : decode cX8_of 153 = .ok (.iadd, 1) := by decide +kernel
theorem dX8_of_154 : decode cX8_of 154 = .ok (.iaload, 1) := by decide +kernel
theorem dX8_of_155 : decode cX8_of 155 = .ok (.ireturn, 1) := by decide +kernel
theorem dX8_of_156 : decode cX8_of 156 = .ok (.iload_n 2, 1) := by decide +kernel
theorem dX8_of_157 : decode cX8_of 157 = .ok (.bipush 10, 2) := by decide +kernel
theorem dX8_of_159 : decode cX8_of 159 = .ok (.if_icmp .eq 5, 3) := by decide +kernel
theorem dX8_of_162 : decode cX8_of 162 = .ok (.iconst (-1), 1) := by decide +kernel
theorem dX8_of_163 : decode cX8_of 163 = .ok (.ireturn, 1) := by decide +kernel
theorem dX8_of_164 : decode cX8_of 164 = .ok (.aload_n 0, 1) := by decide +kernel
theorem dX8_of_165 : decode cX8_of 165 = .ok (.getfield 7, 3) := by decide +kernel
theorem dX8_of_168 : decode cX8_of 168 = .ok (.iconst 1, 1) := by decide +kernel
theorem dX8_of_169 : decode cX8_of 169 = .ok (.iaload, 1) := by decide +kernel
theorem dX8_of_170 : decode cX8_of 170 = .ok (.bipush 12, 2) := by decide +kernel
theorem dX8_of_172 : decode cX8_of 172 = .ok (.if_icmp .ne 5, 3) := by decide +kernel
theorem dX8_of_175 : decode cX8_of 175 = .ok (.iconst 0, 1) := by decide +kernel
theorem dX8_of_176 : decode cX8_of 176 = .ok (.ireturn, 1) := by decide +kernel
theorem dX8_of_177 : decode cX8_of 177 = .ok (.aload_n 0, 1) := by decide +kernel
theorem dX8_of_178 : decode cX8_of 178 = .ok (.aload_n 0, 1) := by decide +kernel
theorem dX8_of_179 : decode cX8_of 179 = .ok (.getfield 7, 3) := by decide +kernel
theorem dX8_of_182 : decode cX8_of 182 = .ok (.iconst 1, 1) := by decide +kernel
theorem dX8_of_183 : decode cX8_of 183 = .ok (.iaload, 1) := by decide +kernel
theorem dX8_of_184 : decode cX8_of 184 = .ok (.invokevirtual 273, 3) := by decide +kernel
theorem dX8_of_187 : decode cX8_of 187 = .ok (.aload_n 0, 1) := by decide +kernel
theorem dX8_of_188 : decode cX8_of 188 = .ok (.iload_n 1, 1) := by decide +kernel
theorem dX8_of_189 : decode cX8_of 189 = .ok (.invokevirtual 260, 3) := by decide +kernel
theorem dX8_of_192 : decode cX8_of 192 = .ok (.ifCond .eq 7, 3) := by decide +kernel
theorem dX8_of_195 : decode cX8_of 195 = .ok (.iconst 1, 1) := by decide +kernel
theorem dX8_of_196 : decode cX8_of 196 = .ok (.goto 4, 3) := by decide +kernel
theorem dX8_of_199 : decode cX8_of 199 = .ok (.iconst 0, 1) := by decide +kernel
theorem dX8_of_200 : decode cX8_of 200 = .ok (.ireturn, 1) := by decide +kernel
set_option maxRecDepth 20000 in
theorem wX8_of {p : Program} {l : Launch} {e : Env} {s : State} {m : MethodId} {args : Array Value} {below : List Frame} {meth : Method} {c : Code} {Z : XG} {r : Int32} {S' : Mem} (E : XE p s m args meth c cX8_of 3 RX8 (some .int) mL Z) : ∀ (S : Mem) (x1 x2 : Int32), fX8_of  S x1 x2 = some (r, S') → WN p l e { frames := 5, cells := 0, slots := 0, locals := 120 } s m args below meth c mL Z (XQ mL Z r S') S 0 3 [(0, .ref (Z.2.1 0)), (1, .int x1), (2, .int x2)] [] := by
  obtain ⟨hx, hb, -, -, -, -, -, -, -, hQ⟩ := id E
  intro S x1 x2 h H locs ls X hl
  unfold fX8_of at h
  refine lv_aload_n hx hb dX8_of_0 rfl (lv_at hl 0 rfl) ?_
  refine lv_iconst (v := (0 : Int32)) hx hb dX8_of_1 (by decide) ?_
  obtain ⟨S_1, eS_1, h⟩ := ltm_s h
  refine x_put E X fpX8_92 rfl rfl dX8_of_2 (fun H locs X => ?_)
  rw [← eS_1] at X
  refine lv_aload_n hx hb dX8_of_5 rfl (lv_at hl 0 rfl) ?_
  refine lv_iload_n hx hb dX8_of_6 rfl (lv_at hl 1 rfl) ?_
  obtain ⟨r_2, S_3, hr_2, h⟩ := bnd_s h
  refine x_callV E X cwX8_118 (mX8_isPilgrim l Z hQ  x1 hr_2) rfl rfl rfl rfl hl.1 rfl dX8_of_7 (fun H locs X => ?_)
  refine lv_if_ne (tgt := 15) hx hb dX8_of_10 (by decide) (fun c_4 => ?_) (fun c_4 => ?_)
  · have h := if_f c_4 h
    refine lv_iload_n hx hb dX8_of_15 rfl (lv_at hl 2 rfl) ?_
    refine lv_if_ne (tgt := 28) hx hb dX8_of_16 (by decide) (fun c_5 => ?_) (fun c_5 => ?_)
    · have h := if_f c_5 h
      refine lv_iload_n hx hb dX8_of_28 rfl (lv_at hl 2 rfl) ?_
      refine lv_iconst (v := (1 : Int32)) hx hb dX8_of_29 (by decide) ?_
      refine lv_icmp_ne (tgt := 40) hx hb dX8_of_30 (by decide) (fun c_6 => ?_) (fun c_6 => ?_)
      · have h := if_f c_6 h
        refine lv_iload_n hx hb dX8_of_40 rfl (lv_at hl 2 rfl) ?_
        refine lv_iconst (v := (2 : Int32)) hx hb dX8_of_41 (by decide) ?_
        refine lv_icmp_ne (tgt := 52) hx hb dX8_of_42 (by decide) (fun c_7 => ?_) (fun c_7 => ?_)
        · have h := if_f c_7 h
          refine lv_iload_n hx hb dX8_of_52 rfl (lv_at hl 2 rfl) ?_
          refine lv_iconst (v := (3 : Int32)) hx hb dX8_of_53 (by decide) ?_
          refine lv_icmp_ne (tgt := 64) hx hb dX8_of_54 (by decide) (fun c_8 => ?_) (fun c_8 => ?_)
          · have h := if_f c_8 h
            refine lv_iload_n hx hb dX8_of_64 rfl (lv_at hl 2 rfl) ?_
            refine lv_iconst (v := (4 : Int32)) hx hb dX8_of_65 (by decide) ?_
            refine lv_icmp_ne (tgt := 79) hx hb dX8_of_66 (by decide) (fun c_9 => ?_) (fun c_9 => ?_)
            · have h := if_f c_9 h
              refine lv_iload_n hx hb dX8_of_79 rfl (lv_at hl 2 rfl) ?_
              refine lv_iconst (v := (5 : Int32)) hx hb dX8_of_80 (by decide) ?_
              refine lv_icmp_ne (tgt := 93) hx hb dX8_of_81 (by decide) (fun c_10 => ?_) (fun c_10 => ?_)
              · have h := if_f c_10 h
                refine lv_iload_n hx hb dX8_of_93 rfl (lv_at hl 2 rfl) ?_
                refine lv_bipush (v := (6 : Int32)) hx hb dX8_of_94 (by decide) ?_
                refine lv_icmp_ne (tgt := 108) hx hb dX8_of_96 (by decide) (fun c_11 => ?_) (fun c_11 => ?_)
                · have h := if_f c_11 h
                  refine lv_iload_n hx hb dX8_of_108 rfl (lv_at hl 2 rfl) ?_
                  refine lv_bipush (v := (7 : Int32)) hx hb dX8_of_109 (by decide) ?_
                  refine lv_icmp_ne (tgt := 124) hx hb dX8_of_111 (by decide) (fun c_12 => ?_) (fun c_12 => ?_)
                  · have h := if_f c_12 h
                    refine lv_iload_n hx hb dX8_of_124 rfl (lv_at hl 2 rfl) ?_
                    refine lv_bipush (v := (8 : Int32)) hx hb dX8_of_125 (by decide) ?_
                    refine lv_icmp_ne (tgt := 140) hx hb dX8_of_127 (by decide) (fun c_13 => ?_) (fun c_13 => ?_)
                    · have h := if_f c_13 h
                      refine lv_iload_n hx hb dX8_of_140 rfl (lv_at hl 2 rfl) ?_
                      refine lv_bipush (v := (9 : Int32)) hx hb dX8_of_141 (by decide) ?_
                      refine lv_icmp_ne (tgt := 156) hx hb dX8_of_143 (by decide) (fun c_14 => ?_) (fun c_14 => ?_)
                      · have h := if_f c_14 h
                        refine lv_iload_n hx hb dX8_of_156 rfl (lv_at hl 2 rfl) ?_
                        refine lv_bipush (v := (10 : Int32)) hx hb dX8_of_157 (by decide) ?_
                        refine lv_icmp_eq (tgt := 164) hx hb dX8_of_159 (by decide) (fun c_15 => ?_) (fun c_15 => ?_)
                        · have h := if_t c_15 h
                          refine lv_aload_n hx hb dX8_of_164 rfl (lv_at hl 0 rfl) ?_
                          refine x_getr E X ffX8_7 rfl rfl dX8_of_165 ?_
                          refine lv_iconst (v := (1 : Int32)) hx hb dX8_of_168 (by decide) ?_
                          refine x_iald E X rfl (by decide) dX8_of_169 ?_
                          refine lv_bipush (v := (12 : Int32)) hx hb dX8_of_170 (by decide) ?_
                          refine lv_icmp_ne (tgt := 177) hx hb dX8_of_172 (by decide) (fun c_16 => ?_) (fun c_16 => ?_)
                          · have h := if_f c_16 h
                            refine lv_aload_n hx hb dX8_of_177 rfl (lv_at hl 0 rfl) ?_
                            refine lv_aload_n hx hb dX8_of_178 rfl (lv_at hl 0 rfl) ?_
                            refine x_getr E X ffX8_7 rfl rfl dX8_of_179 ?_
                            refine lv_iconst (v := (1 : Int32)) hx hb dX8_of_182 (by decide) ?_
                            refine x_iald E X rfl (by decide) dX8_of_183 ?_
                            obtain ⟨r_17, S_18, hr_17, h⟩ := bnd_s h
                            refine x_callVv E X cwX8_273 (mX8_findsShadeNow l Z hQ  (S_3 1 ((1 : Int32)).toNatClampNeg) hr_17) rfl rfl rfl rfl hl.1 rfl dX8_of_184 (fun H locs X => ?_)
                            refine lv_aload_n hx hb dX8_of_187 rfl (lv_at hl 0 rfl) ?_
                            refine lv_iload_n hx hb dX8_of_188 rfl (lv_at hl 1 rfl) ?_
                            obtain ⟨r_19, S_20, hr_19, h⟩ := bnd_s h
                            refine x_callV E X cwX8_260 (mX8_isShaded l Z hQ  x1 hr_19) rfl rfl rfl rfl hl.1 rfl dX8_of_189 (fun H locs X => ?_)
                            refine lv_if_eq (tgt := 199) hx hb dX8_of_192 (by decide) (fun c_21 => ?_) (fun c_21 => ?_)
                            · have h := if_t c_21 h
                              refine lv_iconst (v := (0 : Int32)) hx hb dX8_of_199 (by decide) ?_
                              exact x_iret E X h dX8_of_200
                            · have h := if_f c_21 h
                              refine lv_iconst (v := (1 : Int32)) hx hb dX8_of_195 (by decide) ?_
                              refine lv_goto (tgt := 200) hx hb dX8_of_196 (by decide) ?_
                              exact x_iret E X h dX8_of_200
                          · have h := if_t c_16 h
                            refine lv_iconst (v := (0 : Int32)) hx hb dX8_of_175 (by decide) ?_
                            exact x_iret E X h dX8_of_176
                        · have h := if_f c_15 h
                          refine lv_iconst (v := (-1 : Int32)) hx hb dX8_of_162 (by decide) ?_
                          exact x_iret E X h dX8_of_163
                      · have h := if_t c_14 h
                        refine lv_aload_n hx hb dX8_of_146 rfl (lv_at hl 0 rfl) ?_
                        refine x_getr E X ffX8_7 rfl rfl dX8_of_147 ?_
                        refine lv_bipush (v := (45 : Int32)) hx hb dX8_of_150 (by decide) ?_
                        refine lv_iload_n hx hb dX8_of_152 rfl (lv_at hl 1 rfl) ?_
                        refine lv_iadd hx hb dX8_of_153 ?_
                        obtain ⟨g_22, h⟩ := gd_s h
                        refine x_iald E X rfl g_22 dX8_of_154 ?_
                        exact x_iret E X h dX8_of_155
                    · have h := if_t c_13 h
                      refine lv_aload_n hx hb dX8_of_130 rfl (lv_at hl 0 rfl) ?_
                      refine x_getr E X ffX8_7 rfl rfl dX8_of_131 ?_
                      refine lv_bipush (v := (35 : Int32)) hx hb dX8_of_134 (by decide) ?_
                      refine lv_iload_n hx hb dX8_of_136 rfl (lv_at hl 1 rfl) ?_
                      refine lv_iadd hx hb dX8_of_137 ?_
                      obtain ⟨g_23, h⟩ := gd_s h
                      refine x_iald E X rfl g_23 dX8_of_138 ?_
                      exact x_iret E X h dX8_of_139
                  · have h := if_t c_12 h
                    refine lv_aload_n hx hb dX8_of_114 rfl (lv_at hl 0 rfl) ?_
                    refine x_getr E X ffX8_7 rfl rfl dX8_of_115 ?_
                    refine lv_bipush (v := (25 : Int32)) hx hb dX8_of_118 (by decide) ?_
                    refine lv_iload_n hx hb dX8_of_120 rfl (lv_at hl 1 rfl) ?_
                    refine lv_iadd hx hb dX8_of_121 ?_
                    obtain ⟨g_24, h⟩ := gd_s h
                    refine x_iald E X rfl g_24 dX8_of_122 ?_
                    exact x_iret E X h dX8_of_123
                · have h := if_t c_11 h
                  refine lv_aload_n hx hb dX8_of_99 rfl (lv_at hl 0 rfl) ?_
                  refine x_get E X ffX8_127 rfl rfl dX8_of_100 ?_
                  refine lv_iload_n hx hb dX8_of_103 rfl (lv_at hl 1 rfl) ?_
                  refine lv_ishr hx hb dX8_of_104 ?_
                  refine lv_iconst (v := (1 : Int32)) hx hb dX8_of_105 (by decide) ?_
                  refine lv_iand hx hb dX8_of_106 ?_
                  exact x_iret E X h dX8_of_107
              · have h := if_t c_10 h
                refine lv_aload_n hx hb dX8_of_84 rfl (lv_at hl 0 rfl) ?_
                refine x_get E X ffX8_124 rfl rfl dX8_of_85 ?_
                refine lv_iload_n hx hb dX8_of_88 rfl (lv_at hl 1 rfl) ?_
                refine lv_ishr hx hb dX8_of_89 ?_
                refine lv_iconst (v := (1 : Int32)) hx hb dX8_of_90 (by decide) ?_
                refine lv_iand hx hb dX8_of_91 ?_
                exact x_iret E X h dX8_of_92
            · have h := if_t c_9 h
              refine lv_aload_n hx hb dX8_of_69 rfl (lv_at hl 0 rfl) ?_
              refine x_getr E X ffX8_7 rfl rfl dX8_of_70 ?_
              refine lv_bipush (v := (15 : Int32)) hx hb dX8_of_73 (by decide) ?_
              refine lv_iload_n hx hb dX8_of_75 rfl (lv_at hl 1 rfl) ?_
              refine lv_iadd hx hb dX8_of_76 ?_
              obtain ⟨g_25, h⟩ := gd_s h
              refine x_iald E X rfl g_25 dX8_of_77 ?_
              exact x_iret E X h dX8_of_78
          · have h := if_t c_8 h
            refine lv_aload_n hx hb dX8_of_57 rfl (lv_at hl 0 rfl) ?_
            refine x_getr E X ffX8_28 rfl rfl dX8_of_58 ?_
            refine lv_iload_n hx hb dX8_of_61 rfl (lv_at hl 1 rfl) ?_
            obtain ⟨g_26, h⟩ := gd_s h
            refine x_iald E X rfl g_26 dX8_of_62 ?_
            exact x_iret E X h dX8_of_63
        · have h := if_t c_7 h
          refine lv_aload_n hx hb dX8_of_45 rfl (lv_at hl 0 rfl) ?_
          refine x_getr E X ffX8_25 rfl rfl dX8_of_46 ?_
          refine lv_iload_n hx hb dX8_of_49 rfl (lv_at hl 1 rfl) ?_
          obtain ⟨g_27, h⟩ := gd_s h
          refine x_iald E X rfl g_27 dX8_of_50 ?_
          exact x_iret E X h dX8_of_51
      · have h := if_t c_6 h
        refine lv_aload_n hx hb dX8_of_33 rfl (lv_at hl 0 rfl) ?_
        refine x_getr E X ffX8_22 rfl rfl dX8_of_34 ?_
        refine lv_iload_n hx hb dX8_of_37 rfl (lv_at hl 1 rfl) ?_
        obtain ⟨g_28, h⟩ := gd_s h
        refine x_iald E X rfl g_28 dX8_of_38 ?_
        exact x_iret E X h dX8_of_39
    · have h := if_t c_5 h
      refine lv_aload_n hx hb dX8_of_19 rfl (lv_at hl 0 rfl) ?_
      refine x_getr E X ffX8_7 rfl rfl dX8_of_20 ?_
      refine lv_iconst (v := (5 : Int32)) hx hb dX8_of_23 (by decide) ?_
      refine lv_iload_n hx hb dX8_of_24 rfl (lv_at hl 1 rfl) ?_
      refine lv_iadd hx hb dX8_of_25 ?_
      obtain ⟨g_29, h⟩ := gd_s h
      refine x_iald E X rfl g_29 dX8_of_26 ?_
      exact x_iret E X h dX8_of_27
  · have h := if_t c_4 h
    refine lv_iconst (v := (-1 : Int32)) hx hb dX8_of_13 (by decide) ?_
    exact x_iret E X h dX8_of_14
/-- SevenToAShadowModel.of(II)I -/
theorem mX8_of (l : Launch) (Z : XG) (hQ : wQ (List.length mL) Z) {S S' : Mem} {r : Int32} (x1 x2 : Int32) (h : fX8_of S x1 x2 = some (r, S')) : XM l yX8_of cX8_of 3 (some .int) { frames := 5, cells := 0, slots := 0, locals := 120 } mL Z [.ref (Z.2.1 0), .int x1, .int x2] S (XQ mL Z r S') := by
  refine XM.of (own := RX8) (by decide +kernel) rfl rfl hQ (fun p e s m args below meth c E ls hl X => ?_)
  exact wX8_of E S x1 x2 h _ _ _ X hl
def fX8_shade (S : Mem) (x1 x2 : Int32) : O := ltm (mset S 0 0 (0 : Int32)) fun S_1 => bnd (fX8_isIn S_1 x1 (0 : Int32) (24 : Int32)) fun r_2 S_3 => (if r_2 = 0 then some ((-1 : Int32), S_3) else bnd (fX8_isHour S_3 x2) fun r_5 S_6 => (if r_5 = 0 then some ((-1 : Int32), S_6) else bnd (fX8_findsShadeNow S_6 x2) fun _ S_9 => gd (inB x1 25) <| (if (S_9 21 (x1).toNatClampNeg) = 0 then some ((0 : Int32), S_9) else some ((1 : Int32), S_9))))
theorem dX8_shade_0 : decode cX8_shade 0 = .ok (.aload_n 0, 1) := by decide +kernel
theorem dX8_shade_1 : decode cX8_shade 1 = .ok (.iconst 0, 1) := by decide +kernel
theorem dX8_shade_2 : decode cX8_shade 2 = .ok (.putfield 92, 3) := by decide +kernel
theorem dX8_shade_5 : decode cX8_shade 5 = .ok (.aload_n 0, 1) := by decide +kernel
theorem dX8_shade_6 : decode cX8_shade 6 = .ok (.iload_n 1, 1) := by decide +kernel
theorem dX8_shade_7 : decode cX8_shade 7 = .ok (.iconst 0, 1) := by decide +kernel
theorem dX8_shade_8 : decode cX8_shade 8 = .ok (.bipush 24, 2) := by decide +kernel
theorem dX8_shade_10 : decode cX8_shade 10 = .ok (.invokevirtual 107, 3) := by decide +kernel
theorem dX8_shade_13 : decode cX8_shade 13 = .ok (.ifCond .eq 11, 3) := by decide +kernel
theorem dX8_shade_16 : decode cX8_shade 16 = .ok (.aload_n 0, 1) := by decide +kernel
theorem dX8_shade_17 : decode cX8_shade 17 = .ok (.iload_n 2, 1) := by decide +kernel
theorem dX8_shade_18 : decode cX8_shade 18 = .ok (.invokevirtual 103, 3) := by decide +kernel
theorem dX8_shade_21 : decode cX8_shade 21 = .ok (.ifCond .ne 5, 3) := by decide +kernel
theorem dX8_shade_24 : decode cX8_shade 24 = .ok (.iconst (-1), 1) := by decide +kernel
theorem dX8_shade_25 : decode cX8_shade 25 = .ok (.ireturn, 1) := by decide +kernel
theorem dX8_shade_26 : decode cX8_shade 26 = .ok (.aload_n 0, 1) := by decide +kernel
theorem dX8_shade_27 : decode cX8_shade 27 = .ok (.iload_n 2, 1) := by decide +kernel
theorem dX8_shade_28 : decode cX8_shade 28 = .ok (.invokevirtual 273, 3) := by decide +kernel
theorem dX8_shade_31 : decode cX8_shade 31 = .ok (.aload_n 0, 1) := by decide +kernel
theorem dX8_shade_32 : decode cX8_shade 32 = .ok (.getfield 74, 3) := by decide +kernel
theorem dX8_shade_35 : decode cX8_shade 35 = .ok (.iload_n 1, 1) := by decide +kernel
theorem dX8_shade_36 : decode cX8_shade 36 = .ok (.iaload, 1) := by decide +kernel
theorem dX8_shade_37 : decode cX8_shade 37 = .ok (.ifCond .eq 7, 3) := by decide +kernel
theorem dX8_shade_40 : decode cX8_shade 40 = .ok (.iconst 1, 1) := by decide +kernel
theorem dX8_shade_41 : decode cX8_shade 41 = .ok (.goto 4, 3) := by decide +kernel
theorem dX8_shade_44 : decode cX8_shade 44 = .ok (.iconst 0, 1) := by decide +kernel
theorem dX8_shade_45 : decode cX8_shade 45 = .ok (.ireturn, 1) := by decide +kernel
set_option maxRecDepth 20000 in
theorem wX8_shade {p : Program} {l : Launch} {e : Env} {s : State} {m : MethodId} {args : Array Value} {below : List Frame} {meth : Method} {c : Code} {Z : XG} {r : Int32} {S' : Mem} (E : XE p s m args meth c cX8_shade 3 RX8 (some .int) mL Z) : ∀ (S : Mem) (x1 x2 : Int32), fX8_shade  S x1 x2 = some (r, S') → WN p l e { frames := 5, cells := 0, slots := 0, locals := 120 } s m args below meth c mL Z (XQ mL Z r S') S 0 3 [(0, .ref (Z.2.1 0)), (1, .int x1), (2, .int x2)] [] := by
  obtain ⟨hx, hb, -, -, -, -, -, -, -, hQ⟩ := id E
  intro S x1 x2 h H locs ls X hl
  unfold fX8_shade at h
  refine lv_aload_n hx hb dX8_shade_0 rfl (lv_at hl 0 rfl) ?_
  refine lv_iconst (v := (0 : Int32)) hx hb dX8_shade_1 (by decide) ?_
  obtain ⟨S_1, eS_1, h⟩ := ltm_s h
  refine x_put E X fpX8_92 rfl rfl dX8_shade_2 (fun H locs X => ?_)
  rw [← eS_1] at X
  refine lv_aload_n hx hb dX8_shade_5 rfl (lv_at hl 0 rfl) ?_
  refine lv_iload_n hx hb dX8_shade_6 rfl (lv_at hl 1 rfl) ?_
  refine lv_iconst (v := (0 : Int32)) hx hb dX8_shade_7 (by decide) ?_
  refine lv_bipush (v := (24 : Int32)) hx hb dX8_shade_8 (by decide) ?_
  obtain ⟨r_2, S_3, hr_2, h⟩ := bnd_s h
  refine x_callV E X cwX8_107 (mX8_isIn l Z hQ  x1 (0 : Int32) (24 : Int32) hr_2) rfl rfl rfl rfl hl.1 rfl dX8_shade_10 (fun H locs X => ?_)
  refine lv_if_eq (tgt := 24) hx hb dX8_shade_13 (by decide) (fun c_4 => ?_) (fun c_4 => ?_)
  · have h := if_t c_4 h
    refine lv_iconst (v := (-1 : Int32)) hx hb dX8_shade_24 (by decide) ?_
    exact x_iret E X h dX8_shade_25
  · have h := if_f c_4 h
    refine lv_aload_n hx hb dX8_shade_16 rfl (lv_at hl 0 rfl) ?_
    refine lv_iload_n hx hb dX8_shade_17 rfl (lv_at hl 2 rfl) ?_
    obtain ⟨r_5, S_6, hr_5, h⟩ := bnd_s h
    refine x_callV E X cwX8_103 (mX8_isHour l Z hQ  x2 hr_5) rfl rfl rfl rfl hl.1 rfl dX8_shade_18 (fun H locs X => ?_)
    refine lv_if_ne (tgt := 26) hx hb dX8_shade_21 (by decide) (fun c_7 => ?_) (fun c_7 => ?_)
    · have h := if_f c_7 h
      refine lv_aload_n hx hb dX8_shade_26 rfl (lv_at hl 0 rfl) ?_
      refine lv_iload_n hx hb dX8_shade_27 rfl (lv_at hl 2 rfl) ?_
      obtain ⟨r_8, S_9, hr_8, h⟩ := bnd_s h
      refine x_callVv E X cwX8_273 (mX8_findsShadeNow l Z hQ  x2 hr_8) rfl rfl rfl rfl hl.1 rfl dX8_shade_28 (fun H locs X => ?_)
      refine lv_aload_n hx hb dX8_shade_31 rfl (lv_at hl 0 rfl) ?_
      refine x_getr E X ffX8_74 rfl rfl dX8_shade_32 ?_
      refine lv_iload_n hx hb dX8_shade_35 rfl (lv_at hl 1 rfl) ?_
      obtain ⟨g_10, h⟩ := gd_s h
      refine x_iald E X rfl g_10 dX8_shade_36 ?_
      refine lv_if_eq (tgt := 44) hx hb dX8_shade_37 (by decide) (fun c_11 => ?_) (fun c_11 => ?_)
      · have h := if_t c_11 h
        refine lv_iconst (v := (0 : Int32)) hx hb dX8_shade_44 (by decide) ?_
        exact x_iret E X h dX8_shade_45
      · have h := if_f c_11 h
        refine lv_iconst (v := (1 : Int32)) hx hb dX8_shade_40 (by decide) ?_
        refine lv_goto (tgt := 45) hx hb dX8_shade_41 (by decide) ?_
        exact x_iret E X h dX8_shade_45
    · have h := if_t c_7 h
      refine lv_iconst (v := (-1 : Int32)) hx hb dX8_shade_24 (by decide) ?_
      exact x_iret E X h dX8_shade_25
/-- SevenToAShadowModel.shade(II)I -/
theorem mX8_shade (l : Launch) (Z : XG) (hQ : wQ (List.length mL) Z) {S S' : Mem} {r : Int32} (x1 x2 : Int32) (h : fX8_shade S x1 x2 = some (r, S')) : XM l yX8_shade cX8_shade 3 (some .int) { frames := 5, cells := 0, slots := 0, locals := 120 } mL Z [.ref (Z.2.1 0), .int x1, .int x2] S (XQ mL Z r S') := by
  refine XM.of (own := RX8) (by decide +kernel) rfl rfl hQ (fun p e s m args below meth c E ls hl X => ?_)
  exact wX8_shade E S x1 x2 h _ _ _ X hl
def fX8_book (S : Mem) (x1 x2 : Int32) : O := ltm (mset S 0 0 (0 : Int32)) fun S_1 => bnd (fX8_isIn S_1 x1 (0 : Int32) ((S_1 1 ((4 : Int32)).toNatClampNeg) - (1 : Int32))) fun r_2 S_3 => (if r_2 = 0 then some ((-1 : Int32), S_3) else bnd (fX8_isIn S_3 x2 (0 : Int32) (3 : Int32)) fun r_5 S_6 => (if r_5 = 0 then some ((-1 : Int32), S_6) else gd (inB (((4 : Int32) * x1) + x2) 800) <| some ((S_6 9 ((((4 : Int32) * x1) + x2)).toNatClampNeg), S_6)))
theorem dX8_book_0 : decode cX8_book 0 = .ok (.aload_n 0, 1) := by decide +kernel
theorem dX8_book_1 : decode cX8_book 1 = .ok (.iconst 0, 1) := by decide +kernel
theorem dX8_book_2 : decode cX8_book 2 = .ok (.putfield 92, 3) := by decide +kernel
theorem dX8_book_5 : decode cX8_book 5 = .ok (.aload_n 0, 1) := by decide +kernel
theorem dX8_book_6 : decode cX8_book 6 = .ok (.iload_n 1, 1) := by decide +kernel
theorem dX8_book_7 : decode cX8_book 7 = .ok (.iconst 0, 1) := by decide +kernel
theorem dX8_book_8 : decode cX8_book 8 = .ok (.aload_n 0, 1) := by decide +kernel
theorem dX8_book_9 : decode cX8_book 9 = .ok (.getfield 7, 3) := by decide +kernel
theorem dX8_book_12 : decode cX8_book 12 = .ok (.iconst 4, 1) := by decide +kernel
theorem dX8_book_13 : decode cX8_book 13 = .ok (.iaload, 1) := by decide +kernel
theorem dX8_book_14 : decode cX8_book 14 = .ok (.iconst 1, 1) := by decide +kernel
theorem dX8_book_15 : decode cX8_book 15 = .ok (.isub, 1) := by decide +kernel
theorem dX8_book_16 : decode cX8_book 16 = .ok (.invokevirtual 107, 3) := by decide +kernel
theorem dX8_book_19 : decode cX8_book 19 = .ok (.ifCond .eq 26, 3) := by decide +kernel
theorem dX8_book_22 : decode cX8_book 22 = .ok (.aload_n 0, 1) := by decide +kernel
theorem dX8_book_23 : decode cX8_book 23 = .ok (.iload_n 2, 1) := by decide +kernel
theorem dX8_book_24 : decode cX8_book 24 = .ok (.iconst 0, 1) := by decide +kernel
theorem dX8_book_25 : decode cX8_book 25 = .ok (.iconst 3, 1) := by decide +kernel
theorem dX8_book_26 : decode cX8_book 26 = .ok (.invokevirtual 107, 3) := by decide +kernel
theorem dX8_book_29 : decode cX8_book 29 = .ok (.ifCond .eq 16, 3) := by decide +kernel
theorem dX8_book_32 : decode cX8_book 32 = .ok (.aload_n 0, 1) := by decide +kernel
theorem dX8_book_33 : decode cX8_book 33 = .ok (.getfield 34, 3) := by decide +kernel
theorem dX8_book_36 : decode cX8_book 36 = .ok (.iconst 4, 1) := by decide +kernel
theorem dX8_book_37 : decode cX8_book 37 = .ok (.iload_n 1, 1) := by decide +kernel
theorem dX8_book_38 : decode cX8_book 38 = .ok (.imul, 1) := by decide +kernel
theorem dX8_book_39 : decode cX8_book 39 = .ok (.iload_n 2, 1) := by decide +kernel
theorem dX8_book_40 : decode cX8_book 40 = .ok (.iadd, 1) := by decide +kernel
theorem dX8_book_41 : decode cX8_book 41 = .ok (.iaload, 1) := by decide +kernel
theorem dX8_book_42 : decode cX8_book 42 = .ok (.goto 4, 3) := by decide +kernel
theorem dX8_book_45 : decode cX8_book 45 = .ok (.iconst (-1), 1) := by decide +kernel
theorem dX8_book_46 : decode cX8_book 46 = .ok (.ireturn, 1) := by decide +kernel
set_option maxRecDepth 20000 in
theorem wX8_book {p : Program} {l : Launch} {e : Env} {s : State} {m : MethodId} {args : Array Value} {below : List Frame} {meth : Method} {c : Code} {Z : XG} {r : Int32} {S' : Mem} (E : XE p s m args meth c cX8_book 3 RX8 (some .int) mL Z) : ∀ (S : Mem) (x1 x2 : Int32), fX8_book  S x1 x2 = some (r, S') → WN p l e { frames := 1, cells := 0, slots := 0, locals := 23 } s m args below meth c mL Z (XQ mL Z r S') S 0 3 [(0, .ref (Z.2.1 0)), (1, .int x1), (2, .int x2)] [] := by
  obtain ⟨hx, hb, -, -, -, -, -, -, -, hQ⟩ := id E
  intro S x1 x2 h H locs ls X hl
  unfold fX8_book at h
  refine lv_aload_n hx hb dX8_book_0 rfl (lv_at hl 0 rfl) ?_
  refine lv_iconst (v := (0 : Int32)) hx hb dX8_book_1 (by decide) ?_
  obtain ⟨S_1, eS_1, h⟩ := ltm_s h
  refine x_put E X fpX8_92 rfl rfl dX8_book_2 (fun H locs X => ?_)
  rw [← eS_1] at X
  refine lv_aload_n hx hb dX8_book_5 rfl (lv_at hl 0 rfl) ?_
  refine lv_iload_n hx hb dX8_book_6 rfl (lv_at hl 1 rfl) ?_
  refine lv_iconst (v := (0 : Int32)) hx hb dX8_book_7 (by decide) ?_
  refine lv_aload_n hx hb dX8_book_8 rfl (lv_at hl 0 rfl) ?_
  refine x_getr E X ffX8_7 rfl rfl dX8_book_9 ?_
  refine lv_iconst (v := (4 : Int32)) hx hb dX8_book_12 (by decide) ?_
  refine x_iald E X rfl (by decide) dX8_book_13 ?_
  refine lv_iconst (v := (1 : Int32)) hx hb dX8_book_14 (by decide) ?_
  refine lv_isub hx hb dX8_book_15 ?_
  obtain ⟨r_2, S_3, hr_2, h⟩ := bnd_s h
  refine x_callV E X cwX8_107 (mX8_isIn l Z hQ  x1 (0 : Int32) ((S_1 1 ((4 : Int32)).toNatClampNeg) - (1 : Int32)) hr_2) rfl rfl rfl rfl hl.1 rfl dX8_book_16 (fun H locs X => ?_)
  refine lv_if_eq (tgt := 45) hx hb dX8_book_19 (by decide) (fun c_4 => ?_) (fun c_4 => ?_)
  · have h := if_t c_4 h
    refine lv_iconst (v := (-1 : Int32)) hx hb dX8_book_45 (by decide) ?_
    exact x_iret E X h dX8_book_46
  · have h := if_f c_4 h
    refine lv_aload_n hx hb dX8_book_22 rfl (lv_at hl 0 rfl) ?_
    refine lv_iload_n hx hb dX8_book_23 rfl (lv_at hl 2 rfl) ?_
    refine lv_iconst (v := (0 : Int32)) hx hb dX8_book_24 (by decide) ?_
    refine lv_iconst (v := (3 : Int32)) hx hb dX8_book_25 (by decide) ?_
    obtain ⟨r_5, S_6, hr_5, h⟩ := bnd_s h
    refine x_callV E X cwX8_107 (mX8_isIn l Z hQ  x2 (0 : Int32) (3 : Int32) hr_5) rfl rfl rfl rfl hl.1 rfl dX8_book_26 (fun H locs X => ?_)
    refine lv_if_eq (tgt := 45) hx hb dX8_book_29 (by decide) (fun c_7 => ?_) (fun c_7 => ?_)
    · have h := if_t c_7 h
      refine lv_iconst (v := (-1 : Int32)) hx hb dX8_book_45 (by decide) ?_
      exact x_iret E X h dX8_book_46
    · have h := if_f c_7 h
      refine lv_aload_n hx hb dX8_book_32 rfl (lv_at hl 0 rfl) ?_
      refine x_getr E X ffX8_34 rfl rfl dX8_book_33 ?_
      refine lv_iconst (v := (4 : Int32)) hx hb dX8_book_36 (by decide) ?_
      refine lv_iload_n hx hb dX8_book_37 rfl (lv_at hl 1 rfl) ?_
      refine lv_imul hx hb dX8_book_38 ?_
      refine lv_iload_n hx hb dX8_book_39 rfl (lv_at hl 2 rfl) ?_
      refine lv_iadd hx hb dX8_book_40 ?_
      obtain ⟨g_8, h⟩ := gd_s h
      refine x_iald E X rfl g_8 dX8_book_41 ?_
      refine lv_goto (tgt := 46) hx hb dX8_book_42 (by decide) ?_
      exact x_iret E X h dX8_book_46
/-- SevenToAShadowModel.book(II)I -/
theorem mX8_book (l : Launch) (Z : XG) (hQ : wQ (List.length mL) Z) {S S' : Mem} {r : Int32} (x1 x2 : Int32) (h : fX8_book S x1 x2 = some (r, S')) : XM l yX8_book cX8_book 3 (some .int) { frames := 1, cells := 0, slots := 0, locals := 23 } mL Z [.ref (Z.2.1 0), .int x1, .int x2] S (XQ mL Z r S') := by
  refine XM.of (own := RX8) (by decide +kernel) rfl rfl hQ (fun p e s m args below meth c E ls hl X => ?_)
  exact wX8_book E S x1 x2 h _ _ _ X hl
def fX8_areHours (S : Mem) (x1 x2 : Int32) : O := bnd (fX8_isHour S x1) fun r_1 S_2 => (if r_1 = 0 then some ((0 : Int32), S_2) else bnd (fX8_isIn S_2 x2 x1 (11 : Int32)) fun r_4 S_5 => (if r_4 = 0 then some ((0 : Int32), S_5) else some ((1 : Int32), S_5)))
theorem dX8_areHours_0 : decode cX8_areHours 0 = .ok (.aload_n 0, 1) := by decide +kernel
theorem dX8_areHours_1 : decode cX8_areHours 1 = .ok (.iload_n 1, 1) := by decide +kernel
theorem dX8_areHours_2 : decode cX8_areHours 2 = .ok (.invokevirtual 103, 3) := by decide +kernel
theorem dX8_areHours_5 : decode cX8_areHours 5 = .ok (.ifCond .eq 18, 3) := by decide +kernel
theorem dX8_areHours_8 : decode cX8_areHours 8 = .ok (.aload_n 0, 1) := by decide +kernel
theorem dX8_areHours_9 : decode cX8_areHours 9 = .ok (.iload_n 2, 1) := by decide +kernel
theorem dX8_areHours_10 : decode cX8_areHours 10 = .ok (.iload_n 1, 1) := by decide +kernel
theorem dX8_areHours_11 : decode cX8_areHours 11 = .ok (.bipush 11, 2) := by decide +kernel
theorem dX8_areHours_13 : decode cX8_areHours 13 = .ok (.invokevirtual 107, 3) := by decide +kernel
theorem dX8_areHours_16 : decode cX8_areHours 16 = .ok (.ifCond .eq 7, 3) := by decide +kernel
theorem dX8_areHours_19 : decode cX8_areHours 19 = .ok (.iconst 1, 1) := by decide +kernel
theorem dX8_areHours_20 : decode cX8_areHours 20 = .ok (.goto 4, 3) := by decide +kernel
theorem dX8_areHours_23 : decode cX8_areHours 23 = .ok (.iconst 0, 1) := by decide +kernel
theorem dX8_areHours_24 : decode cX8_areHours 24 = .ok (.ireturn, 1) := by decide +kernel
set_option maxRecDepth 20000 in
theorem wX8_areHours {p : Program} {l : Launch} {e : Env} {s : State} {m : MethodId} {args : Array Value} {below : List Frame} {meth : Method} {c : Code} {Z : XG} {r : Int32} {S' : Mem} (E : XE p s m args meth c cX8_areHours 3 RX8 (some .boolean) mL Z) : ∀ (S : Mem) (x1 x2 : Int32), fX8_areHours  S x1 x2 = some (r, S') → WN p l e { frames := 1, cells := 0, slots := 0, locals := 23 } s m args below meth c mL Z (XQ mL Z r S') S 0 3 [(0, .ref (Z.2.1 0)), (1, .int x1), (2, .int x2)] [] := by
  obtain ⟨hx, hb, -, -, -, -, -, -, -, hQ⟩ := id E
  intro S x1 x2 h H locs ls X hl
  unfold fX8_areHours at h
  refine lv_aload_n hx hb dX8_areHours_0 rfl (lv_at hl 0 rfl) ?_
  refine lv_iload_n hx hb dX8_areHours_1 rfl (lv_at hl 1 rfl) ?_
  obtain ⟨r_1, S_2, hr_1, h⟩ := bnd_s h
  refine x_callV E X cwX8_103 (mX8_isHour l Z hQ  x1 hr_1) rfl rfl rfl rfl hl.1 rfl dX8_areHours_2 (fun H locs X => ?_)
  refine lv_if_eq (tgt := 23) hx hb dX8_areHours_5 (by decide) (fun c_3 => ?_) (fun c_3 => ?_)
  · have h := if_t c_3 h
    refine lv_iconst (v := (0 : Int32)) hx hb dX8_areHours_23 (by decide) ?_
    exact x_zret E X rfl h dX8_areHours_24
  · have h := if_f c_3 h
    refine lv_aload_n hx hb dX8_areHours_8 rfl (lv_at hl 0 rfl) ?_
    refine lv_iload_n hx hb dX8_areHours_9 rfl (lv_at hl 2 rfl) ?_
    refine lv_iload_n hx hb dX8_areHours_10 rfl (lv_at hl 1 rfl) ?_
    refine lv_bipush (v := (11 : Int32)) hx hb dX8_areHours_11 (by decide) ?_
    obtain ⟨r_4, S_5, hr_4, h⟩ := bnd_s h
    refine x_callV E X cwX8_107 (mX8_isIn l Z hQ  x2 x1 (11 : Int32) hr_4) rfl rfl rfl rfl hl.1 rfl dX8_areHours_13 (fun H locs X => ?_)
    refine lv_if_eq (tgt := 23) hx hb dX8_areHours_16 (by decide) (fun c_6 => ?_) (fun c_6 => ?_)
    · have h := if_t c_6 h
      refine lv_iconst (v := (0 : Int32)) hx hb dX8_areHours_23 (by decide) ?_
      exact x_zret E X rfl h dX8_areHours_24
    · have h := if_f c_6 h
      refine lv_iconst (v := (1 : Int32)) hx hb dX8_areHours_19 (by decide) ?_
      refine lv_goto (tgt := 24) hx hb dX8_areHours_20 (by decide) ?_
      exact x_zret E X rfl h dX8_areHours_24
/-- SevenToAShadowModel.areHours(II)Z -/
theorem mX8_areHours (l : Launch) (Z : XG) (hQ : wQ (List.length mL) Z) {S S' : Mem} {r : Int32} (x1 x2 : Int32) (h : fX8_areHours S x1 x2 = some (r, S')) : XM l yX8_areHours cX8_areHours 3 (some .boolean) { frames := 1, cells := 0, slots := 0, locals := 23 } mL Z [.ref (Z.2.1 0), .int x1, .int x2] S (XQ mL Z r S') := by
  refine XM.of (own := RX8) (by decide +kernel) rfl rfl hQ (fun p e s m args below meth c E ls hl X => ?_)
  exact wX8_areHours E S x1 x2 h _ _ _ X hl
def fX8_findsSuns_93 (k0 : Mem → Int32 → Int32 → O) (k1 : Mem → Int32 → Int32 → Int32 → O) (S : Mem) (x2 x3 x4 : Int32) : O := k1 S x2 x3 (x4 + (1 : Int32))
def fX8_findsSuns_51_b (k0 : Mem → Int32 → Int32 → O) (k1 : Mem → Int32 → Int32 → Int32 → O) (S : Mem) (x2 x3 x4 : Int32) : O := (if (25 : Int32) ≤ x4 then k0 S x2 (x3 + (1 : Int32)) else gd (inB x4 25) <| (if (S 21 (x4).toNatClampNeg) = 0 then gd (inB x4 25) <| gd (inB (((5 : Int32) * x3) + (2 : Int32)) 60) <| gd (inB x4 25) <| ltm (mset S 22 (x4).toNatClampNeg ((S 22 (x4).toNatClampNeg) + (S 3 ((((5 : Int32) * x3) + (2 : Int32))).toNatClampNeg))) fun S_7 => fX8_findsSuns_93 k0 k1 S_7 x2 x3 x4 else fX8_findsSuns_93 k0 k1 S x2 x3 x4))
def fX8_findsSuns_51 (k0 : Mem → Int32 → Int32 → O) : Nat → Mem → Int32 → Int32 → Int32 → O
  | 0 => fun _ _ _ _ => none
  | n + 1 => fX8_findsSuns_51_b k0 (fX8_findsSuns_51 k0 n)
def fX8_findsSuns_23_b (k0 : Mem → Int32 → Int32 → O) (S : Mem) (x2 x3 : Int32) : O := (if x2 < x3 then some ((0 : Int32), S) else gd (inB (((5 : Int32) * x3) + (3 : Int32)) 60) <| bnd (fX8_findsShade S x3 (S 3 ((((5 : Int32) * x3) + (3 : Int32))).toNatClampNeg) (S 0 10) (0 : Int32)) fun _ S_4 => fX8_findsSuns_51 k0 FU S_4 x2 x3 (0 : Int32))
def fX8_findsSuns_23 : Nat → Mem → Int32 → Int32 → O
  | 0 => fun _ _ _ => none
  | n + 1 => fX8_findsSuns_23_b (fX8_findsSuns_23 n)
def fX8_findsSuns_2_b (k0 : Mem → Int32 → Int32 → Int32 → O) (S : Mem) (x1 x2 x3 : Int32) : O := (if (25 : Int32) ≤ x3 then fX8_findsSuns_23  FU S x2 x1 else gd (inB x3 25) <| ltm (mset S 22 (x3).toNatClampNeg (0 : Int32)) fun S_3 => k0 S_3 x1 x2 (x3 + (1 : Int32)))
def fX8_findsSuns_2 : Nat → Mem → Int32 → Int32 → Int32 → O
  | 0 => fun _ _ _ _ => none
  | n + 1 => fX8_findsSuns_2_b (fX8_findsSuns_2 n)
def fX8_findsSuns (S : Mem) (x1 x2 : Int32) : O := fX8_findsSuns_2  FU S x1 x2 (0 : Int32)
theorem dX8_findsSuns_0 : decode cX8_findsSuns 0 = .ok (.iconst 0, 1) := by decide +kernel
theorem dX8_findsSuns_1 : decode cX8_findsSuns 1 = .ok (.istore_n 3, 1) := by decide +kernel
theorem dX8_findsSuns_2 : decode cX8_findsSuns 2 = .ok (.iload_n 3, 1) := by decide +kernel
theorem dX8_findsSuns_3 : decode cX8_findsSuns 3 = .ok (.bipush 25, 2) := by decide +kernel
theorem dX8_findsSuns_5 : decode cX8_findsSuns 5 = .ok (.if_icmp .ge 16, 3) := by decide +kernel
theorem dX8_findsSuns_8 : decode cX8_findsSuns 8 = .ok (.aload_n 0, 1) := by decide +kernel
theorem dX8_findsSuns_9 : decode cX8_findsSuns 9 = .ok (.getfield 77, 3) := by decide +kernel
theorem dX8_findsSuns_12 : decode cX8_findsSuns 12 = .ok (.iload_n 3, 1) := by decide +kernel
theorem dX8_findsSuns_13 : decode cX8_findsSuns 13 = .ok (.iconst 0, 1) := by decide +kernel
theorem dX8_findsSuns_14 : decode cX8_findsSuns 14 = .ok (.iastore, 1) := by decide +kernel
theorem dX8_findsSuns_15 : decode cX8_findsSuns 15 = .ok (.iinc 3 1, 3) := by decide +kernel
theorem dX8_findsSuns_18 : decode cX8_findsSuns 18 = .ok (.goto (-16), 3) := by decide +kernel
theorem dX8_findsSuns_21 : decode cX8_findsSuns 21 = .ok (.iload_n 1, 1) := by decide +kernel
theorem dX8_findsSuns_22 : decode cX8_findsSuns 22 = .ok (.istore_n 3, 1) := by decide +kernel
theorem dX8_findsSuns_23 : decode cX8_findsSuns 23 = .ok (.iload_n 3, 1) := by decide +kernel
theorem dX8_findsSuns_24 : decode cX8_findsSuns 24 = .ok (.iload_n 2, 1) := by decide +kernel
theorem dX8_findsSuns_25 : decode cX8_findsSuns 25 = .ok (.if_icmp .gt 80, 3) := by decide +kernel
theorem dX8_findsSuns_28 : decode cX8_findsSuns 28 = .ok (.aload_n 0, 1) := by decide +kernel
theorem dX8_findsSuns_29 : decode cX8_findsSuns 29 = .ok (.iload_n 3, 1) := by decide +kernel
theorem dX8_findsSuns_30 : decode cX8_findsSuns 30 = .ok (.aload_n 0, 1) := by decide +kernel
theorem dX8_findsSuns_31 : decode cX8_findsSuns 31 = .ok (.getfield 16, 3) := by decide +kernel
theorem dX8_findsSuns_34 : decode cX8_findsSuns 34 = .ok (.iconst 5, 1) := by decide +kernel
theorem dX8_findsSuns_35 : decode cX8_findsSuns 35 = .ok (.iload_n 3, 1) := by decide +kernel
theorem dX8_findsSuns_36 : decode cX8_findsSuns 36 = .ok (.imul, 1) := by decide +kernel
theorem dX8_findsSuns_37 : decode cX8_findsSuns 37 = .ok (.iconst 3, 1) := by decide +kernel
theorem dX8_findsSuns_38 : decode cX8_findsSuns 38 = .ok (.iadd, 1) := by decide +kernel
theorem dX8_findsSuns_39 : decode cX8_findsSuns 39 = .ok (.iaload, 1) := by decide +kernel
theorem dX8_findsSuns_40 : decode cX8_findsSuns 40 = .ok (.aload_n 0, 1) := by decide +kernel
theorem dX8_findsSuns_41 : decode cX8_findsSuns 41 = .ok (.getfield 124, 3) := by decide +kernel
theorem dX8_findsSuns_44 : decode cX8_findsSuns 44 = .ok (.iconst 0, 1) := by decide +kernel
theorem dX8_findsSuns_45 : decode cX8_findsSuns 45 = .ok (.invokevirtual 253, 3) := by decide +kernel
theorem dX8_findsSuns_48 : decode cX8_findsSuns 48 = .ok (.iconst 0, 1) := by decide +kernel
theorem dX8_findsSuns_49 : decode cX8_findsSuns 49 = .ok (.istore 4, 2) := by decide +kernel
theorem dX8_findsSuns_51 : decode cX8_findsSuns 51 = .ok (.iload 4, 2) := by decide +kernel
theorem dX8_findsSuns_53 : decode cX8_findsSuns 53 = .ok (.bipush 25, 2) := by decide +kernel
theorem dX8_findsSuns_55 : decode cX8_findsSuns 55 = .ok (.if_icmp .ge 44, 3) := by decide +kernel
theorem dX8_findsSuns_58 : decode cX8_findsSuns 58 = .ok (.aload_n 0, 1) := by decide +kernel
theorem dX8_findsSuns_59 : decode cX8_findsSuns 59 = .ok (.getfield 74, 3) := by decide +kernel
theorem dX8_findsSuns_62 : decode cX8_findsSuns 62 = .ok (.iload 4, 2) := by decide +kernel
theorem dX8_findsSuns_64 : decode cX8_findsSuns 64 = .ok (.iaload, 1) := by decide +kernel
theorem dX8_findsSuns_65 : decode cX8_findsSuns 65 = .ok (.ifCond .ne 28, 3) := by decide +kernel
theorem dX8_findsSuns_68 : decode cX8_findsSuns 68 = .ok (.aload_n 0, 1) := by decide +kernel
theorem dX8_findsSuns_69 : decode cX8_findsSuns 69 = .ok (.getfield 77, 3) := by decide +kernel
theorem dX8_findsSuns_72 : decode cX8_findsSuns 72 = .ok (.iload 4, 2) := by decide +kernel
theorem dX8_findsSuns_74 : decode cX8_findsSuns 74 = .ok (.aload_n 0, 1) := by decide +kernel
theorem dX8_findsSuns_75 : decode cX8_findsSuns 75 = .ok (.getfield 77, 3) := by decide +kernel
theorem dX8_findsSuns_78 : decode cX8_findsSuns 78 = .ok (.iload 4, 2) := by decide +kernel
theorem dX8_findsSuns_80 : decode cX8_findsSuns 80 = .ok (.iaload, 1) := by decide +kernel
theorem dX8_findsSuns_81 : decode cX8_findsSuns 81 = .ok (.aload_n 0, 1) := by decide +kernel
theorem dX8_findsSuns_82 : decode cX8_findsSuns 82 = .ok (.getfield 16, 3) := by decide +kernel
theorem dX8_findsSuns_85 : decode cX8_findsSuns 85 = .ok (.iconst 5, 1) := by decide +kernel
theorem dX8_findsSuns_86 : decode cX8_findsSuns 86 = .ok (.iload_n 3, 1) := by decide +kernel
theorem dX8_findsSuns_87 : decode cX8_findsSuns 87 = .ok (.imul, 1) := by decide +kernel
theorem dX8_findsSuns_88 : decode cX8_findsSuns 88 = .ok (.iconst 2, 1) := by decide +kernel
theorem dX8_findsSuns_89 : decode cX8_findsSuns 89 = .ok (.iadd, 1) := by decide +kernel
theorem dX8_findsSuns_90 : decode cX8_findsSuns 90 = .ok (.iaload, 1) := by decide +kernel
theorem dX8_findsSuns_91 : decode cX8_findsSuns 91 = .ok (.iadd, 1) := by decide +kernel
theorem dX8_findsSuns_92 : decode cX8_findsSuns 92 = .ok (.iastore, 1) := by decide +kernel
theorem dX8_findsSuns_93 : decode cX8_findsSuns 93 = .ok (.iinc 4 1, 3) := by decide +kernel
theorem dX8_findsSuns_96 : decode cX8_findsSuns 96 = .ok (.goto (-45), 3) := by decide +kernel
theorem dX8_findsSuns_99 : decode cX8_findsSuns 99 = .ok (.iinc 3 1, 3) := by decide +kernel
theorem dX8_findsSuns_102 : decode cX8_findsSuns 102 = .ok (.goto (-79), 3) := by decide +kernel
theorem dX8_findsSuns_105 : decode cX8_findsSuns 105 = .ok (.return_, 1) := by decide +kernel
set_option maxRecDepth 20000 in
theorem wX8_findsSuns_93 {p : Program} {l : Launch} {e : Env} {s : State} {m : MethodId} {args : Array Value} {below : List Frame} {meth : Method} {c : Code} {Z : XG} {r : Int32} {S' : Mem} (E : XE p s m args meth c cX8_findsSuns 5 RX8 none mL Z) (k0 : Mem → Int32 → Int32 → O)  (k1 : Mem → Int32 → Int32 → Int32 → O)  (hk0 : ∀ (S : Mem) (x2 x3 : Int32), k0 S x2 x3 = some (r, S') → WN p l e { frames := 4, cells := 0, slots := 0, locals := 99 } s m args below meth c mL Z (XV mL Z S') S 23 5 [(0, .ref (Z.2.1 0)), (2, .int x2), (3, .int x3)] []) (hk1 : ∀ (S : Mem) (x2 x3 x4 : Int32), k1 S x2 x3 x4 = some (r, S') → WN p l e { frames := 4, cells := 0, slots := 0, locals := 99 } s m args below meth c mL Z (XV mL Z S') S 51 5 [(0, .ref (Z.2.1 0)), (2, .int x2), (3, .int x3), (4, .int x4)] []) : ∀ (S : Mem) (x2 x3 x4 : Int32), fX8_findsSuns_93 k0 k1 S x2 x3 x4 = some (r, S') → WN p l e { frames := 4, cells := 0, slots := 0, locals := 99 } s m args below meth c mL Z (XV mL Z S') S 93 5 [(0, .ref (Z.2.1 0)), (2, .int x2), (3, .int x3), (4, .int x4)] [] := by
  obtain ⟨hx, hb, -, -, -, -, -, -, -, hQ⟩ := id E
  intro S x2 x3 x4 h H locs ls X hl
  unfold fX8_findsSuns_93 at h
  refine lv_iinc (v := (x4 + (1 : Int32))) (lv' := [(4, .int (x4 + (1 : Int32))), (0, .ref (Z.2.1 0)), (2, .int x2), (3, .int x3)]) hx hb dX8_findsSuns_93 hl (k := 3) rfl rfl (by decide) rfl (fun ls hl => ?_)
  refine lv_goto (tgt := 51) hx hb dX8_findsSuns_96 (by decide) ?_
  exact hk1 S x2 x3 (x4 + (1 : Int32)) h _ _ _ X (lv_sub hl [1, 2, 3, 0] rfl)
set_option maxRecDepth 20000 in
theorem wX8_findsSuns_51_b {p : Program} {l : Launch} {e : Env} {s : State} {m : MethodId} {args : Array Value} {below : List Frame} {meth : Method} {c : Code} {Z : XG} {r : Int32} {S' : Mem} (E : XE p s m args meth c cX8_findsSuns 5 RX8 none mL Z) (k0 : Mem → Int32 → Int32 → O)  (k1 : Mem → Int32 → Int32 → Int32 → O)  (hk0 : ∀ (S : Mem) (x2 x3 : Int32), k0 S x2 x3 = some (r, S') → WN p l e { frames := 4, cells := 0, slots := 0, locals := 99 } s m args below meth c mL Z (XV mL Z S') S 23 5 [(0, .ref (Z.2.1 0)), (2, .int x2), (3, .int x3)] []) (hk1 : ∀ (S : Mem) (x2 x3 x4 : Int32), k1 S x2 x3 x4 = some (r, S') → WN p l e { frames := 4, cells := 0, slots := 0, locals := 99 } s m args below meth c mL Z (XV mL Z S') S 51 5 [(0, .ref (Z.2.1 0)), (2, .int x2), (3, .int x3), (4, .int x4)] []) : ∀ (S : Mem) (x2 x3 x4 : Int32), fX8_findsSuns_51_b k0 k1 S x2 x3 x4 = some (r, S') → WN p l e { frames := 4, cells := 0, slots := 0, locals := 99 } s m args below meth c mL Z (XV mL Z S') S 51 5 [(0, .ref (Z.2.1 0)), (2, .int x2), (3, .int x3), (4, .int x4)] [] := by
  obtain ⟨hx, hb, -, -, -, -, -, -, -, hQ⟩ := id E
  intro S x2 x3 x4 h H locs ls X hl
  unfold fX8_findsSuns_51_b at h
  refine lv_iload hx hb dX8_findsSuns_51 (lv_at hl 3 rfl) ?_
  refine lv_bipush (v := (25 : Int32)) hx hb dX8_findsSuns_53 (by decide) ?_
  refine lv_icmp_ge (tgt := 99) hx hb dX8_findsSuns_55 (by decide) (fun c_1 => ?_) (fun c_1 => ?_)
  · have h := if_t c_1 h
    refine lv_iinc (v := (x3 + (1 : Int32))) (lv' := [(3, .int (x3 + (1 : Int32))), (0, .ref (Z.2.1 0)), (2, .int x2), (4, .int x4)]) hx hb dX8_findsSuns_99 hl (k := 2) rfl rfl (by decide) rfl (fun ls hl => ?_)
    refine lv_goto (tgt := 23) hx hb dX8_findsSuns_102 (by decide) ?_
    exact hk0 S x2 (x3 + (1 : Int32)) h _ _ _ X (lv_sub hl [1, 2, 0] rfl)
  · have h := if_f c_1 h
    refine lv_aload_n hx hb dX8_findsSuns_58 rfl (lv_at hl 0 rfl) ?_
    refine x_getr E X ffX8_74 rfl rfl dX8_findsSuns_59 ?_
    refine lv_iload hx hb dX8_findsSuns_62 (lv_at hl 3 rfl) ?_
    obtain ⟨g_2, h⟩ := gd_s h
    refine x_iald E X rfl g_2 dX8_findsSuns_64 ?_
    refine lv_if_ne (tgt := 93) hx hb dX8_findsSuns_65 (by decide) (fun c_3 => ?_) (fun c_3 => ?_)
    · have h := if_f c_3 h
      exact wX8_findsSuns_93 E k0 k1 hk0 hk1 S x2 x3 x4 h _ _ _ X hl
    · have h := if_t c_3 h
      refine lv_aload_n hx hb dX8_findsSuns_68 rfl (lv_at hl 0 rfl) ?_
      refine x_getr E X ffX8_77 rfl rfl dX8_findsSuns_69 ?_
      refine lv_iload hx hb dX8_findsSuns_72 (lv_at hl 3 rfl) ?_
      refine lv_aload_n hx hb dX8_findsSuns_74 rfl (lv_at hl 0 rfl) ?_
      refine x_getr E X ffX8_77 rfl rfl dX8_findsSuns_75 ?_
      refine lv_iload hx hb dX8_findsSuns_78 (lv_at hl 3 rfl) ?_
      obtain ⟨g_4, h⟩ := gd_s h
      refine x_iald E X rfl g_4 dX8_findsSuns_80 ?_
      refine lv_aload_n hx hb dX8_findsSuns_81 rfl (lv_at hl 0 rfl) ?_
      refine x_getr E X ffX8_16 rfl rfl dX8_findsSuns_82 ?_
      refine lv_iconst (v := (5 : Int32)) hx hb dX8_findsSuns_85 (by decide) ?_
      refine lv_iload_n hx hb dX8_findsSuns_86 rfl (lv_at hl 2 rfl) ?_
      refine lv_imul hx hb dX8_findsSuns_87 ?_
      refine lv_iconst (v := (2 : Int32)) hx hb dX8_findsSuns_88 (by decide) ?_
      refine lv_iadd hx hb dX8_findsSuns_89 ?_
      obtain ⟨g_5, h⟩ := gd_s h
      refine x_iald E X rfl g_5 dX8_findsSuns_90 ?_
      refine lv_iadd hx hb dX8_findsSuns_91 ?_
      obtain ⟨g_6, h⟩ := gd_s h
      obtain ⟨S_7, eS_7, h⟩ := ltm_s h
      refine x_iast E X rfl g_6 dX8_findsSuns_92 (fun H locs X => ?_)
      rw [← eS_7] at X
      exact wX8_findsSuns_93 E k0 k1 hk0 hk1 S_7 x2 x3 x4 h _ _ _ X hl
theorem wX8_findsSuns_51 {p : Program} {l : Launch} {e : Env} {s : State} {m : MethodId} {args : Array Value} {below : List Frame} {meth : Method} {c : Code} {Z : XG} {r : Int32} {S' : Mem} (E : XE p s m args meth c cX8_findsSuns 5 RX8 none mL Z) (k0 : Mem → Int32 → Int32 → O)  (hk0 : ∀ (S : Mem) (x2 x3 : Int32), k0 S x2 x3 = some (r, S') → WN p l e { frames := 4, cells := 0, slots := 0, locals := 99 } s m args below meth c mL Z (XV mL Z S') S 23 5 [(0, .ref (Z.2.1 0)), (2, .int x2), (3, .int x3)] []) : ∀ (n : Nat) (S : Mem) (x2 x3 x4 : Int32), fX8_findsSuns_51 k0 n S x2 x3 x4 = some (r, S') → WN p l e { frames := 4, cells := 0, slots := 0, locals := 99 } s m args below meth c mL Z (XV mL Z S') S 51 5 [(0, .ref (Z.2.1 0)), (2, .int x2), (3, .int x3), (4, .int x4)] [] := by
  intro n
  induction n with
  | zero => intro S x2 x3 x4 h; exact absurd (show (none : O) = some _ from h) (by simp)
  | succ n ih => intro S x2 x3 x4 h; exact wX8_findsSuns_51_b E k0 (fX8_findsSuns_51 k0 n) hk0 ih S x2 x3 x4 h
set_option maxRecDepth 20000 in
theorem wX8_findsSuns_23_b {p : Program} {l : Launch} {e : Env} {s : State} {m : MethodId} {args : Array Value} {below : List Frame} {meth : Method} {c : Code} {Z : XG} {r : Int32} {S' : Mem} (E : XE p s m args meth c cX8_findsSuns 5 RX8 none mL Z) (k0 : Mem → Int32 → Int32 → O)  (hk0 : ∀ (S : Mem) (x2 x3 : Int32), k0 S x2 x3 = some (r, S') → WN p l e { frames := 4, cells := 0, slots := 0, locals := 99 } s m args below meth c mL Z (XV mL Z S') S 23 5 [(0, .ref (Z.2.1 0)), (2, .int x2), (3, .int x3)] []) : ∀ (S : Mem) (x2 x3 : Int32), fX8_findsSuns_23_b k0 S x2 x3 = some (r, S') → WN p l e { frames := 4, cells := 0, slots := 0, locals := 99 } s m args below meth c mL Z (XV mL Z S') S 23 5 [(0, .ref (Z.2.1 0)), (2, .int x2), (3, .int x3)] [] := by
  obtain ⟨hx, hb, -, -, -, -, -, -, -, hQ⟩ := id E
  intro S x2 x3 h H locs ls X hl
  unfold fX8_findsSuns_23_b at h
  refine lv_iload_n hx hb dX8_findsSuns_23 rfl (lv_at hl 2 rfl) ?_
  refine lv_iload_n hx hb dX8_findsSuns_24 rfl (lv_at hl 1 rfl) ?_
  refine lv_icmp_gt (tgt := 105) hx hb dX8_findsSuns_25 (by decide) (fun c_1 => ?_) (fun c_1 => ?_)
  · have h := if_t c_1 h
    exact x_vret E X h dX8_findsSuns_105
  · have h := if_f c_1 h
    refine lv_aload_n hx hb dX8_findsSuns_28 rfl (lv_at hl 0 rfl) ?_
    refine lv_iload_n hx hb dX8_findsSuns_29 rfl (lv_at hl 2 rfl) ?_
    refine lv_aload_n hx hb dX8_findsSuns_30 rfl (lv_at hl 0 rfl) ?_
    refine x_getr E X ffX8_16 rfl rfl dX8_findsSuns_31 ?_
    refine lv_iconst (v := (5 : Int32)) hx hb dX8_findsSuns_34 (by decide) ?_
    refine lv_iload_n hx hb dX8_findsSuns_35 rfl (lv_at hl 2 rfl) ?_
    refine lv_imul hx hb dX8_findsSuns_36 ?_
    refine lv_iconst (v := (3 : Int32)) hx hb dX8_findsSuns_37 (by decide) ?_
    refine lv_iadd hx hb dX8_findsSuns_38 ?_
    obtain ⟨g_2, h⟩ := gd_s h
    refine x_iald E X rfl g_2 dX8_findsSuns_39 ?_
    refine lv_aload_n hx hb dX8_findsSuns_40 rfl (lv_at hl 0 rfl) ?_
    refine x_get E X ffX8_124 rfl rfl dX8_findsSuns_41 ?_
    refine lv_iconst (v := (0 : Int32)) hx hb dX8_findsSuns_44 (by decide) ?_
    obtain ⟨r_3, S_4, hr_3, h⟩ := bnd_s h
    refine x_callVv E X cwX8_253 (mX8_findsShade l Z hQ  x3 (S 3 ((((5 : Int32) * x3) + (3 : Int32))).toNatClampNeg) (S 0 10) (0 : Int32) hr_3) rfl rfl rfl rfl hl.1 rfl dX8_findsSuns_45 (fun H locs X => ?_)
    refine lv_iconst (v := (0 : Int32)) hx hb dX8_findsSuns_48 (by decide) ?_
    refine lv_istore (lv' := [(4, .int (0 : Int32)), (0, .ref (Z.2.1 0)), (2, .int x2), (3, .int x3)]) hx hb dX8_findsSuns_49 hl (by decide) rfl (fun ls hl => ?_)
    exact wX8_findsSuns_51 E k0 hk0 FU S_4 x2 x3 (0 : Int32) h _ _ _ X (lv_sub hl [1, 2, 3, 0] rfl)
theorem wX8_findsSuns_23 {p : Program} {l : Launch} {e : Env} {s : State} {m : MethodId} {args : Array Value} {below : List Frame} {meth : Method} {c : Code} {Z : XG} {r : Int32} {S' : Mem} (E : XE p s m args meth c cX8_findsSuns 5 RX8 none mL Z) : ∀ (n : Nat) (S : Mem) (x2 x3 : Int32), fX8_findsSuns_23 n S x2 x3 = some (r, S') → WN p l e { frames := 4, cells := 0, slots := 0, locals := 99 } s m args below meth c mL Z (XV mL Z S') S 23 5 [(0, .ref (Z.2.1 0)), (2, .int x2), (3, .int x3)] [] := by
  intro n
  induction n with
  | zero => intro S x2 x3 h; exact absurd (show (none : O) = some _ from h) (by simp)
  | succ n ih => intro S x2 x3 h; exact wX8_findsSuns_23_b E (fX8_findsSuns_23 n) ih S x2 x3 h
set_option maxRecDepth 20000 in
theorem wX8_findsSuns_2_b {p : Program} {l : Launch} {e : Env} {s : State} {m : MethodId} {args : Array Value} {below : List Frame} {meth : Method} {c : Code} {Z : XG} {r : Int32} {S' : Mem} (E : XE p s m args meth c cX8_findsSuns 5 RX8 none mL Z) (k0 : Mem → Int32 → Int32 → Int32 → O)  (hk0 : ∀ (S : Mem) (x1 x2 x3 : Int32), k0 S x1 x2 x3 = some (r, S') → WN p l e { frames := 4, cells := 0, slots := 0, locals := 99 } s m args below meth c mL Z (XV mL Z S') S 2 5 [(0, .ref (Z.2.1 0)), (1, .int x1), (2, .int x2), (3, .int x3)] []) : ∀ (S : Mem) (x1 x2 x3 : Int32), fX8_findsSuns_2_b k0 S x1 x2 x3 = some (r, S') → WN p l e { frames := 4, cells := 0, slots := 0, locals := 99 } s m args below meth c mL Z (XV mL Z S') S 2 5 [(0, .ref (Z.2.1 0)), (1, .int x1), (2, .int x2), (3, .int x3)] [] := by
  obtain ⟨hx, hb, -, -, -, -, -, -, -, hQ⟩ := id E
  intro S x1 x2 x3 h H locs ls X hl
  unfold fX8_findsSuns_2_b at h
  refine lv_iload_n hx hb dX8_findsSuns_2 rfl (lv_at hl 3 rfl) ?_
  refine lv_bipush (v := (25 : Int32)) hx hb dX8_findsSuns_3 (by decide) ?_
  refine lv_icmp_ge (tgt := 21) hx hb dX8_findsSuns_5 (by decide) (fun c_1 => ?_) (fun c_1 => ?_)
  · have h := if_t c_1 h
    refine lv_iload_n hx hb dX8_findsSuns_21 rfl (lv_at hl 1 rfl) ?_
    refine lv_istore_n (lv' := [(3, .int x1), (0, .ref (Z.2.1 0)), (1, .int x1), (2, .int x2)]) hx hb dX8_findsSuns_22 rfl hl (by decide) rfl (fun ls hl => ?_)
    exact wX8_findsSuns_23 E   FU S x2 x1 h _ _ _ X (lv_sub hl [1, 3, 0] rfl)
  · have h := if_f c_1 h
    refine lv_aload_n hx hb dX8_findsSuns_8 rfl (lv_at hl 0 rfl) ?_
    refine x_getr E X ffX8_77 rfl rfl dX8_findsSuns_9 ?_
    refine lv_iload_n hx hb dX8_findsSuns_12 rfl (lv_at hl 3 rfl) ?_
    refine lv_iconst (v := (0 : Int32)) hx hb dX8_findsSuns_13 (by decide) ?_
    obtain ⟨g_2, h⟩ := gd_s h
    obtain ⟨S_3, eS_3, h⟩ := ltm_s h
    refine x_iast E X rfl g_2 dX8_findsSuns_14 (fun H locs X => ?_)
    rw [← eS_3] at X
    refine lv_iinc (v := (x3 + (1 : Int32))) (lv' := [(3, .int (x3 + (1 : Int32))), (0, .ref (Z.2.1 0)), (1, .int x1), (2, .int x2)]) hx hb dX8_findsSuns_15 hl (k := 3) rfl rfl (by decide) rfl (fun ls hl => ?_)
    refine lv_goto (tgt := 2) hx hb dX8_findsSuns_18 (by decide) ?_
    exact hk0 S_3 x1 x2 (x3 + (1 : Int32)) h _ _ _ X (lv_sub hl [1, 2, 3, 0] rfl)
theorem wX8_findsSuns_2 {p : Program} {l : Launch} {e : Env} {s : State} {m : MethodId} {args : Array Value} {below : List Frame} {meth : Method} {c : Code} {Z : XG} {r : Int32} {S' : Mem} (E : XE p s m args meth c cX8_findsSuns 5 RX8 none mL Z) : ∀ (n : Nat) (S : Mem) (x1 x2 x3 : Int32), fX8_findsSuns_2 n S x1 x2 x3 = some (r, S') → WN p l e { frames := 4, cells := 0, slots := 0, locals := 99 } s m args below meth c mL Z (XV mL Z S') S 2 5 [(0, .ref (Z.2.1 0)), (1, .int x1), (2, .int x2), (3, .int x3)] [] := by
  intro n
  induction n with
  | zero => intro S x1 x2 x3 h; exact absurd (show (none : O) = some _ from h) (by simp)
  | succ n ih => intro S x1 x2 x3 h; exact wX8_findsSuns_2_b E (fX8_findsSuns_2 n) ih S x1 x2 x3 h
set_option maxRecDepth 20000 in
theorem wX8_findsSuns {p : Program} {l : Launch} {e : Env} {s : State} {m : MethodId} {args : Array Value} {below : List Frame} {meth : Method} {c : Code} {Z : XG} {r : Int32} {S' : Mem} (E : XE p s m args meth c cX8_findsSuns 5 RX8 none mL Z) : ∀ (S : Mem) (x1 x2 : Int32), fX8_findsSuns  S x1 x2 = some (r, S') → WN p l e { frames := 4, cells := 0, slots := 0, locals := 99 } s m args below meth c mL Z (XV mL Z S') S 0 5 [(0, .ref (Z.2.1 0)), (1, .int x1), (2, .int x2)] [] := by
  obtain ⟨hx, hb, -, -, -, -, -, -, -, hQ⟩ := id E
  intro S x1 x2 h H locs ls X hl
  unfold fX8_findsSuns at h
  refine lv_iconst (v := (0 : Int32)) hx hb dX8_findsSuns_0 (by decide) ?_
  refine lv_istore_n (lv' := [(3, .int (0 : Int32)), (0, .ref (Z.2.1 0)), (1, .int x1), (2, .int x2)]) hx hb dX8_findsSuns_1 rfl hl (by decide) rfl (fun ls hl => ?_)
  exact wX8_findsSuns_2 E   FU S x1 x2 (0 : Int32) h _ _ _ X (lv_sub hl [1, 2, 3, 0] rfl)
/-- SevenToAShadowModel.findsSuns(II)V -/
theorem mX8_findsSuns (l : Launch) (Z : XG) (hQ : wQ (List.length mL) Z) {S S' : Mem} {r : Int32} (x1 x2 : Int32) (h : fX8_findsSuns S x1 x2 = some (r, S')) : XM l yX8_findsSuns cX8_findsSuns 5 none { frames := 4, cells := 0, slots := 0, locals := 99 } mL Z [.ref (Z.2.1 0), .int x1, .int x2] S (XV mL Z S') := by
  refine XM.of (own := RX8) (by decide +kernel) rfl rfl hQ (fun p e s m args below meth c E ls hl X => ?_)
  exact wX8_findsSuns E S x1 x2 h _ _ _ X hl
def fX8_nextBySkin_47 (k0 : Mem → Int32 → Int32 → Int32 → O) (S : Mem) (x1 x2 x3 : Int32) : O := k0 S x1 x2 (x3 + (1 : Int32))
def fX8_nextBySkin_45 (k0 : Mem → Int32 → Int32 → Int32 → O) (S : Mem) (x1 x3 : Int32) : O := fX8_nextBySkin_47 k0 S x1 x3 x3
def fX8_nextBySkin_4_b (k0 : Mem → Int32 → Int32 → Int32 → O) (S : Mem) (x1 x2 x3 : Int32) : O := (if (S 0 6) ≤ x3 then some (x2, S) else (if ((((S 0 10) ||| x1) >>> (x3 &&& 31)) &&& (1 : Int32)) = 0 then (if x2 = (-1 : Int32) then fX8_nextBySkin_45 k0 S x1 x3 else gd (inB x3 10) <| gd (inB x2 10) <| (if (S 7 (x3).toNatClampNeg) ≤ (S 7 (x2).toNatClampNeg) then fX8_nextBySkin_47 k0 S x1 x2 x3 else fX8_nextBySkin_45 k0 S x1 x3)) else fX8_nextBySkin_47 k0 S x1 x2 x3))
def fX8_nextBySkin_4 : Nat → Mem → Int32 → Int32 → Int32 → O
  | 0 => fun _ _ _ _ => none
  | n + 1 => fX8_nextBySkin_4_b (fX8_nextBySkin_4 n)
def fX8_nextBySkin (S : Mem) (x1 : Int32) : O := fX8_nextBySkin_4  FU S x1 (-1 : Int32) (0 : Int32)
theorem dX8_nextBySkin_0 : decode cX8_nextBySkin 0 = .ok (.iconst (-1), 1) := by decide +kernel
theorem dX8_nextBySkin_1 : decode cX8_nextBySkin 1 = .ok (.istore_n 2, 1) := by decide +kernel
theorem dX8_nextBySkin_2 : decode cX8_nextBySkin 2 = .ok (.iconst 0, 1) := by decide +kernel
theorem dX8_nextBySkin_3 : decode cX8_nextBySkin 3 = .ok (.istore_n 3, 1) := by decide +kernel
theorem dX8_nextBySkin_4 : decode cX8_nextBySkin 4 = .ok (.iload_n 3, 1) := by decide +kernel
theorem dX8_nextBySkin_5 : decode cX8_nextBySkin 5 = .ok (.aload_n 0, 1) := by decide +kernel
theorem dX8_nextBySkin_6 : decode cX8_nextBySkin 6 = .ok (.getfield 100, 3) := by decide +kernel
theorem dX8_nextBySkin_9 : decode cX8_nextBySkin 9 = .ok (.if_icmp .ge 44, 3) := by decide +kernel
theorem dX8_nextBySkin_12 : decode cX8_nextBySkin 12 = .ok (.aload_n 0, 1) := by decide +kernel
theorem dX8_nextBySkin_13 : decode cX8_nextBySkin 13 = .ok (.getfield 124, 3) := by decide +kernel
theorem dX8_nextBySkin_16 : decode cX8_nextBySkin 16 = .ok (.iload_n 1, 1) := by decide +kernel
theorem dX8_nextBySkin_17 : decode cX8_nextBySkin 17 = .ok (.ior, 1) := by decide +kernel
theorem dX8_nextBySkin_18 : decode cX8_nextBySkin 18 = .ok (.iload_n 3, 1) := by decide +kernel
theorem dX8_nextBySkin_19 : decode cX8_nextBySkin 19 = .ok (.ishr, 1) := by decide +kernel
theorem dX8_nextBySkin_20 : decode cX8_nextBySkin 20 = .ok (.iconst 1, 1) := by decide +kernel
theorem dX8_nextBySkin_21 : decode cX8_nextBySkin 21 = .ok (.iand, 1) := by decide +kernel
theorem dX8_nextBySkin_22 : decode cX8_nextBySkin 22 = .ok (.ifCond .ne 25, 3) := by decide +kernel
theorem dX8_nextBySkin_25 : decode cX8_nextBySkin 25 = .ok (.iload_n 2, 1) := by decide +kernel
theorem dX8_nextBySkin_26 : decode cX8_nextBySkin 26 = .ok (.iconst (-1), 1) := by decide +kernel
theorem dX8_nextBySkin_27 : decode cX8_nextBySkin 27 = .ok (.if_icmp .eq 18, 3) := by decide +kernel
theorem dX8_nextBySkin_30 : decode cX8_nextBySkin 30 = .ok (.aload_n 0, 1) := by decide +kernel
theorem dX8_nextBySkin_31 : decode cX8_nextBySkin 31 = .ok (.getfield 28, 3) := by decide +kernel
theorem dX8_nextBySkin_34 : decode cX8_nextBySkin 34 = .ok (.iload_n 3, 1) := by decide +kernel
theorem dX8_nextBySkin_35 : decode cX8_nextBySkin 35 = .ok (.iaload, 1) := by decide +kernel
theorem dX8_nextBySkin_36 : decode cX8_nextBySkin 36 = .ok (.aload_n 0, 1) := by decide +kernel
theorem dX8_nextBySkin_37 : decode cX8_nextBySkin 37 = .ok (.getfield 28, 3) := by decide +kernel
theorem dX8_nextBySkin_40 : decode cX8_nextBySkin 40 = .ok (.iload_n 2, 1) := by decide +kernel
theorem dX8_nextBySkin_41 : decode cX8_nextBySkin 41 = .ok (.iaload, 1) := by decide +kernel
theorem dX8_nextBySkin_42 : decode cX8_nextBySkin 42 = .ok (.if_icmp .le 5, 3) := by decide +kernel
theorem dX8_nextBySkin_45 : decode cX8_nextBySkin 45 = .ok (.iload_n 3, 1) := by decide +kernel
theorem dX8_nextBySkin_46 : decode cX8_nextBySkin 46 = .ok (.istore_n 2, 1) := by decide +kernel
theorem dX8_nextBySkin_47 : decode cX8_nextBySkin 47 = .ok (.iinc 3 1, 3) := by decide +kernel
theorem dX8_nextBySkin_50 : decode cX8_nextBySkin 50 = .ok (.goto (-46), 3) := by decide +kernel
theorem dX8_nextBySkin_53 : decode cX8_nextBySkin 53 = .ok (.iload_n 2, 1) := by decide +kernel
theorem dX8_nextBySkin_54 : decode cX8_nextBySkin 54 = .ok (.ireturn, 1) := by decide +kernel
set_option maxRecDepth 20000 in
theorem wX8_nextBySkin_47 {p : Program} {l : Launch} {e : Env} {s : State} {m : MethodId} {args : Array Value} {below : List Frame} {meth : Method} {c : Code} {Z : XG} {r : Int32} {S' : Mem} (E : XE p s m args meth c cX8_nextBySkin 4 RX8 (some .int) mL Z) (k0 : Mem → Int32 → Int32 → Int32 → O)  (hk0 : ∀ (S : Mem) (x1 x2 x3 : Int32), k0 S x1 x2 x3 = some (r, S') → WN p l e { frames := 0, cells := 0, slots := 0, locals := 0 } s m args below meth c mL Z (XQ mL Z r S') S 4 4 [(0, .ref (Z.2.1 0)), (1, .int x1), (2, .int x2), (3, .int x3)] []) : ∀ (S : Mem) (x1 x2 x3 : Int32), fX8_nextBySkin_47 k0 S x1 x2 x3 = some (r, S') → WN p l e { frames := 0, cells := 0, slots := 0, locals := 0 } s m args below meth c mL Z (XQ mL Z r S') S 47 4 [(0, .ref (Z.2.1 0)), (1, .int x1), (2, .int x2), (3, .int x3)] [] := by
  obtain ⟨hx, hb, -, -, -, -, -, -, -, hQ⟩ := id E
  intro S x1 x2 x3 h H locs ls X hl
  unfold fX8_nextBySkin_47 at h
  refine lv_iinc (v := (x3 + (1 : Int32))) (lv' := [(3, .int (x3 + (1 : Int32))), (0, .ref (Z.2.1 0)), (1, .int x1), (2, .int x2)]) hx hb dX8_nextBySkin_47 hl (k := 3) rfl rfl (by decide) rfl (fun ls hl => ?_)
  refine lv_goto (tgt := 4) hx hb dX8_nextBySkin_50 (by decide) ?_
  exact hk0 S x1 x2 (x3 + (1 : Int32)) h _ _ _ X (lv_sub hl [1, 2, 3, 0] rfl)
set_option maxRecDepth 20000 in
theorem wX8_nextBySkin_45 {p : Program} {l : Launch} {e : Env} {s : State} {m : MethodId} {args : Array Value} {below : List Frame} {meth : Method} {c : Code} {Z : XG} {r : Int32} {S' : Mem} (E : XE p s m args meth c cX8_nextBySkin 4 RX8 (some .int) mL Z) (k0 : Mem → Int32 → Int32 → Int32 → O)  (hk0 : ∀ (S : Mem) (x1 x2 x3 : Int32), k0 S x1 x2 x3 = some (r, S') → WN p l e { frames := 0, cells := 0, slots := 0, locals := 0 } s m args below meth c mL Z (XQ mL Z r S') S 4 4 [(0, .ref (Z.2.1 0)), (1, .int x1), (2, .int x2), (3, .int x3)] []) : ∀ (S : Mem) (x1 x3 : Int32), fX8_nextBySkin_45 k0 S x1 x3 = some (r, S') → WN p l e { frames := 0, cells := 0, slots := 0, locals := 0 } s m args below meth c mL Z (XQ mL Z r S') S 45 4 [(0, .ref (Z.2.1 0)), (1, .int x1), (3, .int x3)] [] := by
  obtain ⟨hx, hb, -, -, -, -, -, -, -, hQ⟩ := id E
  intro S x1 x3 h H locs ls X hl
  unfold fX8_nextBySkin_45 at h
  refine lv_iload_n hx hb dX8_nextBySkin_45 rfl (lv_at hl 2 rfl) ?_
  refine lv_istore_n (lv' := [(2, .int x3), (0, .ref (Z.2.1 0)), (1, .int x1), (3, .int x3)]) hx hb dX8_nextBySkin_46 rfl hl (by decide) rfl (fun ls hl => ?_)
  exact wX8_nextBySkin_47 E k0 hk0 S x1 x3 x3 h _ _ _ X (lv_sub hl [1, 2, 0, 3] rfl)
set_option maxRecDepth 20000 in
theorem wX8_nextBySkin_4_b {p : Program} {l : Launch} {e : Env} {s : State} {m : MethodId} {args : Array Value} {below : List Frame} {meth : Method} {c : Code} {Z : XG} {r : Int32} {S' : Mem} (E : XE p s m args meth c cX8_nextBySkin 4 RX8 (some .int) mL Z) (k0 : Mem → Int32 → Int32 → Int32 → O)  (hk0 : ∀ (S : Mem) (x1 x2 x3 : Int32), k0 S x1 x2 x3 = some (r, S') → WN p l e { frames := 0, cells := 0, slots := 0, locals := 0 } s m args below meth c mL Z (XQ mL Z r S') S 4 4 [(0, .ref (Z.2.1 0)), (1, .int x1), (2, .int x2), (3, .int x3)] []) : ∀ (S : Mem) (x1 x2 x3 : Int32), fX8_nextBySkin_4_b k0 S x1 x2 x3 = some (r, S') → WN p l e { frames := 0, cells := 0, slots := 0, locals := 0 } s m args below meth c mL Z (XQ mL Z r S') S 4 4 [(0, .ref (Z.2.1 0)), (1, .int x1), (2, .int x2), (3, .int x3)] [] := by
  obtain ⟨hx, hb, -, -, -, -, -, -, -, hQ⟩ := id E
  intro S x1 x2 x3 h H locs ls X hl
  unfold fX8_nextBySkin_4_b at h
  refine lv_iload_n hx hb dX8_nextBySkin_4 rfl (lv_at hl 3 rfl) ?_
  refine lv_aload_n hx hb dX8_nextBySkin_5 rfl (lv_at hl 0 rfl) ?_
  refine x_get E X ffX8_100 rfl rfl dX8_nextBySkin_6 ?_
  refine lv_icmp_ge (tgt := 53) hx hb dX8_nextBySkin_9 (by decide) (fun c_1 => ?_) (fun c_1 => ?_)
  · have h := if_t c_1 h
    refine lv_iload_n hx hb dX8_nextBySkin_53 rfl (lv_at hl 2 rfl) ?_
    exact x_iret E X h dX8_nextBySkin_54
  · have h := if_f c_1 h
    refine lv_aload_n hx hb dX8_nextBySkin_12 rfl (lv_at hl 0 rfl) ?_
    refine x_get E X ffX8_124 rfl rfl dX8_nextBySkin_13 ?_
    refine lv_iload_n hx hb dX8_nextBySkin_16 rfl (lv_at hl 1 rfl) ?_
    refine lv_ior hx hb dX8_nextBySkin_17 ?_
    refine lv_iload_n hx hb dX8_nextBySkin_18 rfl (lv_at hl 3 rfl) ?_
    refine lv_ishr hx hb dX8_nextBySkin_19 ?_
    refine lv_iconst (v := (1 : Int32)) hx hb dX8_nextBySkin_20 (by decide) ?_
    refine lv_iand hx hb dX8_nextBySkin_21 ?_
    refine lv_if_ne (tgt := 47) hx hb dX8_nextBySkin_22 (by decide) (fun c_2 => ?_) (fun c_2 => ?_)
    · have h := if_f c_2 h
      exact wX8_nextBySkin_47 E k0 hk0 S x1 x2 x3 h _ _ _ X hl
    · have h := if_t c_2 h
      refine lv_iload_n hx hb dX8_nextBySkin_25 rfl (lv_at hl 2 rfl) ?_
      refine lv_iconst (v := (-1 : Int32)) hx hb dX8_nextBySkin_26 (by decide) ?_
      refine lv_icmp_eq (tgt := 45) hx hb dX8_nextBySkin_27 (by decide) (fun c_3 => ?_) (fun c_3 => ?_)
      · have h := if_t c_3 h
        exact wX8_nextBySkin_45 E k0 hk0 S x1 x3 h _ _ _ X (lv_sub hl [0, 1, 3] rfl)
      · have h := if_f c_3 h
        refine lv_aload_n hx hb dX8_nextBySkin_30 rfl (lv_at hl 0 rfl) ?_
        refine x_getr E X ffX8_28 rfl rfl dX8_nextBySkin_31 ?_
        refine lv_iload_n hx hb dX8_nextBySkin_34 rfl (lv_at hl 3 rfl) ?_
        obtain ⟨g_4, h⟩ := gd_s h
        refine x_iald E X rfl g_4 dX8_nextBySkin_35 ?_
        refine lv_aload_n hx hb dX8_nextBySkin_36 rfl (lv_at hl 0 rfl) ?_
        refine x_getr E X ffX8_28 rfl rfl dX8_nextBySkin_37 ?_
        refine lv_iload_n hx hb dX8_nextBySkin_40 rfl (lv_at hl 2 rfl) ?_
        obtain ⟨g_5, h⟩ := gd_s h
        refine x_iald E X rfl g_5 dX8_nextBySkin_41 ?_
        refine lv_icmp_le (tgt := 47) hx hb dX8_nextBySkin_42 (by decide) (fun c_6 => ?_) (fun c_6 => ?_)
        · have h := if_t c_6 h
          exact wX8_nextBySkin_47 E k0 hk0 S x1 x2 x3 h _ _ _ X hl
        · have h := if_f c_6 h
          exact wX8_nextBySkin_45 E k0 hk0 S x1 x3 h _ _ _ X (lv_sub hl [0, 1, 3] rfl)
theorem wX8_nextBySkin_4 {p : Program} {l : Launch} {e : Env} {s : State} {m : MethodId} {args : Array Value} {below : List Frame} {meth : Method} {c : Code} {Z : XG} {r : Int32} {S' : Mem} (E : XE p s m args meth c cX8_nextBySkin 4 RX8 (some .int) mL Z) : ∀ (n : Nat) (S : Mem) (x1 x2 x3 : Int32), fX8_nextBySkin_4 n S x1 x2 x3 = some (r, S') → WN p l e { frames := 0, cells := 0, slots := 0, locals := 0 } s m args below meth c mL Z (XQ mL Z r S') S 4 4 [(0, .ref (Z.2.1 0)), (1, .int x1), (2, .int x2), (3, .int x3)] [] := by
  intro n
  induction n with
  | zero => intro S x1 x2 x3 h; exact absurd (show (none : O) = some _ from h) (by simp)
  | succ n ih => intro S x1 x2 x3 h; exact wX8_nextBySkin_4_b E (fX8_nextBySkin_4 n) ih S x1 x2 x3 h
set_option maxRecDepth 20000 in
theorem wX8_nextBySkin {p : Program} {l : Launch} {e : Env} {s : State} {m : MethodId} {args : Array Value} {below : List Frame} {meth : Method} {c : Code} {Z : XG} {r : Int32} {S' : Mem} (E : XE p s m args meth c cX8_nextBySkin 4 RX8 (some .int) mL Z) : ∀ (S : Mem) (x1 : Int32), fX8_nextBySkin  S x1 = some (r, S') → WN p l e { frames := 0, cells := 0, slots := 0, locals := 0 } s m args below meth c mL Z (XQ mL Z r S') S 0 4 [(0, .ref (Z.2.1 0)), (1, .int x1)] [] := by
  obtain ⟨hx, hb, -, -, -, -, -, -, -, hQ⟩ := id E
  intro S x1 h H locs ls X hl
  unfold fX8_nextBySkin at h
  refine lv_iconst (v := (-1 : Int32)) hx hb dX8_nextBySkin_0 (by decide) ?_
  refine lv_istore_n (lv' := [(2, .int (-1 : Int32)), (0, .ref (Z.2.1 0)), (1, .int x1)]) hx hb dX8_nextBySkin_1 rfl hl (by decide) rfl (fun ls hl => ?_)
  refine lv_iconst (v := (0 : Int32)) hx hb dX8_nextBySkin_2 (by decide) ?_
  refine lv_istore_n (lv' := [(3, .int (0 : Int32)), (2, .int (-1 : Int32)), (0, .ref (Z.2.1 0)), (1, .int x1)]) hx hb dX8_nextBySkin_3 rfl hl (by decide) rfl (fun ls hl => ?_)
  exact wX8_nextBySkin_4 E   FU S x1 (-1 : Int32) (0 : Int32) h _ _ _ X (lv_sub hl [2, 3, 1, 0] rfl)
/-- SevenToAShadowModel.nextBySkin(I)I -/
theorem mX8_nextBySkin (l : Launch) (Z : XG) (hQ : wQ (List.length mL) Z) {S S' : Mem} {r : Int32} (x1 : Int32) (h : fX8_nextBySkin S x1 = some (r, S')) : XM l yX8_nextBySkin cX8_nextBySkin 4 (some .int) { frames := 0, cells := 0, slots := 0, locals := 0 } mL Z [.ref (Z.2.1 0), .int x1] S (XQ mL Z r S') := by
  refine XM.of (own := RX8) (by decide +kernel) rfl rfl hQ (fun p e s m args below meth c E ls hl X => ?_)
  exact wX8_nextBySkin E S x1 h _ _ _ X hl
def fX8_nextBySuns_40 (k0 : Mem → Int32 → Int32 → Int32 → O) (S : Mem) (x1 x2 x3 : Int32) : O := k0 S x1 x2 (x3 + (1 : Int32))
def fX8_nextBySuns_38 (k0 : Mem → Int32 → Int32 → Int32 → O) (S : Mem) (x1 x3 : Int32) : O := fX8_nextBySuns_40 k0 S x1 x3 x3
def fX8_nextBySuns_4_b (k0 : Mem → Int32 → Int32 → Int32 → O) (S : Mem) (x1 x2 x3 : Int32) : O := (if (25 : Int32) ≤ x3 then some (x2, S) else (if ((x1 >>> (x3 &&& 31)) &&& (1 : Int32)) = 0 then (if x2 = (-1 : Int32) then fX8_nextBySuns_38 k0 S x1 x3 else gd (inB x3 25) <| gd (inB x2 25) <| (if (S 22 (x2).toNatClampNeg) ≤ (S 22 (x3).toNatClampNeg) then fX8_nextBySuns_40 k0 S x1 x2 x3 else fX8_nextBySuns_38 k0 S x1 x3)) else fX8_nextBySuns_40 k0 S x1 x2 x3))
def fX8_nextBySuns_4 : Nat → Mem → Int32 → Int32 → Int32 → O
  | 0 => fun _ _ _ _ => none
  | n + 1 => fX8_nextBySuns_4_b (fX8_nextBySuns_4 n)
def fX8_nextBySuns (S : Mem) (x1 : Int32) : O := fX8_nextBySuns_4  FU S x1 (-1 : Int32) (0 : Int32)
theorem dX8_nextBySuns_0 : decode cX8_nextBySuns 0 = .ok (.iconst (-1), 1) := by decide +kernel
theorem dX8_nextBySuns_1 : decode cX8_nextBySuns 1 = .ok (.istore_n 2, 1) := by decide +kernel
theorem dX8_nextBySuns_2 : decode cX8_nextBySuns 2 = .ok (.iconst 0, 1) := by decide +kernel
theorem dX8_nextBySuns_3 : decode cX8_nextBySuns 3 = .ok (.istore_n 3, 1) := by decide +kernel
theorem dX8_nextBySuns_4 : decode cX8_nextBySuns 4 = .ok (.iload_n 3, 1) := by decide +kernel
theorem dX8_nextBySuns_5 : decode cX8_nextBySuns 5 = .ok (.bipush 25, 2) := by decide +kernel
theorem dX8_nextBySuns_7 : decode cX8_nextBySuns 7 = .ok (.if_icmp .ge 39, 3) := by decide +kernel
theorem dX8_nextBySuns_10 : decode cX8_nextBySuns 10 = .ok (.iload_n 1, 1) := by decide +kernel
theorem dX8_nextBySuns_11 : decode cX8_nextBySuns 11 = .ok (.iload_n 3, 1) := by decide +kernel
theorem dX8_nextBySuns_12 : decode cX8_nextBySuns 12 = .ok (.ishr, 1) := by decide +kernel
theorem dX8_nextBySuns_13 : decode cX8_nextBySuns 13 = .ok (.iconst 1, 1) := by decide +kernel
theorem dX8_nextBySuns_14 : decode cX8_nextBySuns 14 = .ok (.iand, 1) := by decide +kernel
theorem dX8_nextBySuns_15 : decode cX8_nextBySuns 15 = .ok (.ifCond .ne 25, 3) := by decide +kernel
theorem dX8_nextBySuns_18 : decode cX8_nextBySuns 18 = .ok (.iload_n 2, 1) := by decide +kernel
theorem dX8_nextBySuns_19 : decode cX8_nextBySuns 19 = .ok (.iconst (-1), 1) := by decide +kernel
theorem dX8_nextBySuns_20 : decode cX8_nextBySuns 20 = .ok (.if_icmp .eq 18, 3) := by decide +kernel
theorem dX8_nextBySuns_23 : decode cX8_nextBySuns 23 = .ok (.aload_n 0, 1) := by decide +kernel
theorem dX8_nextBySuns_24 : decode cX8_nextBySuns 24 = .ok (.getfield 77, 3) := by decide +kernel
theorem dX8_nextBySuns_27 : decode cX8_nextBySuns 27 = .ok (.iload_n 3, 1) := by decide +kernel
theorem dX8_nextBySuns_28 : decode cX8_nextBySuns 28 = .ok (.iaload, 1) := by decide +kernel
theorem dX8_nextBySuns_29 : decode cX8_nextBySuns 29 = .ok (.aload_n 0, 1) := by decide +kernel
theorem dX8_nextBySuns_30 : decode cX8_nextBySuns 30 = .ok (.getfield 77, 3) := by decide +kernel
theorem dX8_nextBySuns_33 : decode cX8_nextBySuns 33 = .ok (.iload_n 2, 1) := by decide +kernel
theorem dX8_nextBySuns_34 : decode cX8_nextBySuns 34 = .ok (.iaload, 1) := by decide +kernel
theorem dX8_nextBySuns_35 : decode cX8_nextBySuns 35 = .ok (.if_icmp .ge 5, 3) := by decide +kernel
theorem dX8_nextBySuns_38 : decode cX8_nextBySuns 38 = .ok (.iload_n 3, 1) := by decide +kernel
theorem dX8_nextBySuns_39 : decode cX8_nextBySuns 39 = .ok (.istore_n 2, 1) := by decide +kernel
theorem dX8_nextBySuns_40 : decode cX8_nextBySuns 40 = .ok (.iinc 3 1, 3) := by decide +kernel
theorem dX8_nextBySuns_43 : decode cX8_nextBySuns 43 = .ok (.goto (-39), 3) := by decide +kernel
theorem dX8_nextBySuns_46 : decode cX8_nextBySuns 46 = .ok (.iload_n 2, 1) := by decide +kernel
theorem dX8_nextBySuns_47 : decode cX8_nextBySuns 47 = .ok (.ireturn, 1) := by decide +kernel
set_option maxRecDepth 20000 in
theorem wX8_nextBySuns_40 {p : Program} {l : Launch} {e : Env} {s : State} {m : MethodId} {args : Array Value} {below : List Frame} {meth : Method} {c : Code} {Z : XG} {r : Int32} {S' : Mem} (E : XE p s m args meth c cX8_nextBySuns 4 RX8 (some .int) mL Z) (k0 : Mem → Int32 → Int32 → Int32 → O)  (hk0 : ∀ (S : Mem) (x1 x2 x3 : Int32), k0 S x1 x2 x3 = some (r, S') → WN p l e { frames := 0, cells := 0, slots := 0, locals := 0 } s m args below meth c mL Z (XQ mL Z r S') S 4 4 [(0, .ref (Z.2.1 0)), (1, .int x1), (2, .int x2), (3, .int x3)] []) : ∀ (S : Mem) (x1 x2 x3 : Int32), fX8_nextBySuns_40 k0 S x1 x2 x3 = some (r, S') → WN p l e { frames := 0, cells := 0, slots := 0, locals := 0 } s m args below meth c mL Z (XQ mL Z r S') S 40 4 [(0, .ref (Z.2.1 0)), (1, .int x1), (2, .int x2), (3, .int x3)] [] := by
  obtain ⟨hx, hb, -, -, -, -, -, -, -, hQ⟩ := id E
  intro S x1 x2 x3 h H locs ls X hl
  unfold fX8_nextBySuns_40 at h
  refine lv_iinc (v := (x3 + (1 : Int32))) (lv' := [(3, .int (x3 + (1 : Int32))), (0, .ref (Z.2.1 0)), (1, .int x1), (2, .int x2)]) hx hb dX8_nextBySuns_40 hl (k := 3) rfl rfl (by decide) rfl (fun ls hl => ?_)
  refine lv_goto (tgt := 4) hx hb dX8_nextBySuns_43 (by decide) ?_
  exact hk0 S x1 x2 (x3 + (1 : Int32)) h _ _ _ X (lv_sub hl [1, 2, 3, 0] rfl)
set_option maxRecDepth 20000 in
theorem wX8_nextBySuns_38 {p : Program} {l : Launch} {e : Env} {s : State} {m : MethodId} {args : Array Value} {below : List Frame} {meth : Method} {c : Code} {Z : XG} {r : Int32} {S' : Mem} (E : XE p s m args meth c cX8_nextBySuns 4 RX8 (some .int) mL Z) (k0 : Mem → Int32 → Int32 → Int32 → O)  (hk0 : ∀ (S : Mem) (x1 x2 x3 : Int32), k0 S x1 x2 x3 = some (r, S') → WN p l e { frames := 0, cells := 0, slots := 0, locals := 0 } s m args below meth c mL Z (XQ mL Z r S') S 4 4 [(0, .ref (Z.2.1 0)), (1, .int x1), (2, .int x2), (3, .int x3)] []) : ∀ (S : Mem) (x1 x3 : Int32), fX8_nextBySuns_38 k0 S x1 x3 = some (r, S') → WN p l e { frames := 0, cells := 0, slots := 0, locals := 0 } s m args below meth c mL Z (XQ mL Z r S') S 38 4 [(0, .ref (Z.2.1 0)), (1, .int x1), (3, .int x3)] [] := by
  obtain ⟨hx, hb, -, -, -, -, -, -, -, hQ⟩ := id E
  intro S x1 x3 h H locs ls X hl
  unfold fX8_nextBySuns_38 at h
  refine lv_iload_n hx hb dX8_nextBySuns_38 rfl (lv_at hl 2 rfl) ?_
  refine lv_istore_n (lv' := [(2, .int x3), (0, .ref (Z.2.1 0)), (1, .int x1), (3, .int x3)]) hx hb dX8_nextBySuns_39 rfl hl (by decide) rfl (fun ls hl => ?_)
  exact wX8_nextBySuns_40 E k0 hk0 S x1 x3 x3 h _ _ _ X (lv_sub hl [1, 2, 0, 3] rfl)
set_option maxRecDepth 20000 in
theorem wX8_nextBySuns_4_b {p : Program} {l : Launch} {e : Env} {s : State} {m : MethodId} {args : Array Value} {below : List Frame} {meth : Method} {c : Code} {Z : XG} {r : Int32} {S' : Mem} (E : XE p s m args meth c cX8_nextBySuns 4 RX8 (some .int) mL Z) (k0 : Mem → Int32 → Int32 → Int32 → O)  (hk0 : ∀ (S : Mem) (x1 x2 x3 : Int32), k0 S x1 x2 x3 = some (r, S') → WN p l e { frames := 0, cells := 0, slots := 0, locals := 0 } s m args below meth c mL Z (XQ mL Z r S') S 4 4 [(0, .ref (Z.2.1 0)), (1, .int x1), (2, .int x2), (3, .int x3)] []) : ∀ (S : Mem) (x1 x2 x3 : Int32), fX8_nextBySuns_4_b k0 S x1 x2 x3 = some (r, S') → WN p l e { frames := 0, cells := 0, slots := 0, locals := 0 } s m args below meth c mL Z (XQ mL Z r S') S 4 4 [(0, .ref (Z.2.1 0)), (1, .int x1), (2, .int x2), (3, .int x3)] [] := by
  obtain ⟨hx, hb, -, -, -, -, -, -, -, hQ⟩ := id E
  intro S x1 x2 x3 h H locs ls X hl
  unfold fX8_nextBySuns_4_b at h
  refine lv_iload_n hx hb dX8_nextBySuns_4 rfl (lv_at hl 3 rfl) ?_
  refine lv_bipush (v := (25 : Int32)) hx hb dX8_nextBySuns_5 (by decide) ?_
  refine lv_icmp_ge (tgt := 46) hx hb dX8_nextBySuns_7 (by decide) (fun c_1 => ?_) (fun c_1 => ?_)
  · have h := if_t c_1 h
    refine lv_iload_n hx hb dX8_nextBySuns_46 rfl (lv_at hl 2 rfl) ?_
    exact x_iret E X h dX8_nextBySuns_47
  · have h := if_f c_1 h
    refine lv_iload_n hx hb dX8_nextBySuns_10 rfl (lv_at hl 1 rfl) ?_
    refine lv_iload_n hx hb dX8_nextBySuns_11 rfl (lv_at hl 3 rfl) ?_
    refine lv_ishr hx hb dX8_nextBySuns_12 ?_
    refine lv_iconst (v := (1 : Int32)) hx hb dX8_nextBySuns_13 (by decide) ?_
    refine lv_iand hx hb dX8_nextBySuns_14 ?_
    refine lv_if_ne (tgt := 40) hx hb dX8_nextBySuns_15 (by decide) (fun c_2 => ?_) (fun c_2 => ?_)
    · have h := if_f c_2 h
      exact wX8_nextBySuns_40 E k0 hk0 S x1 x2 x3 h _ _ _ X hl
    · have h := if_t c_2 h
      refine lv_iload_n hx hb dX8_nextBySuns_18 rfl (lv_at hl 2 rfl) ?_
      refine lv_iconst (v := (-1 : Int32)) hx hb dX8_nextBySuns_19 (by decide) ?_
      refine lv_icmp_eq (tgt := 38) hx hb dX8_nextBySuns_20 (by decide) (fun c_3 => ?_) (fun c_3 => ?_)
      · have h := if_t c_3 h
        exact wX8_nextBySuns_38 E k0 hk0 S x1 x3 h _ _ _ X (lv_sub hl [0, 1, 3] rfl)
      · have h := if_f c_3 h
        refine lv_aload_n hx hb dX8_nextBySuns_23 rfl (lv_at hl 0 rfl) ?_
        refine x_getr E X ffX8_77 rfl rfl dX8_nextBySuns_24 ?_
        refine lv_iload_n hx hb dX8_nextBySuns_27 rfl (lv_at hl 3 rfl) ?_
        obtain ⟨g_4, h⟩ := gd_s h
        refine x_iald E X rfl g_4 dX8_nextBySuns_28 ?_
        refine lv_aload_n hx hb dX8_nextBySuns_29 rfl (lv_at hl 0 rfl) ?_
        refine x_getr E X ffX8_77 rfl rfl dX8_nextBySuns_30 ?_
        refine lv_iload_n hx hb dX8_nextBySuns_33 rfl (lv_at hl 2 rfl) ?_
        obtain ⟨g_5, h⟩ := gd_s h
        refine x_iald E X rfl g_5 dX8_nextBySuns_34 ?_
        refine lv_icmp_ge (tgt := 40) hx hb dX8_nextBySuns_35 (by decide) (fun c_6 => ?_) (fun c_6 => ?_)
        · have h := if_t c_6 h
          exact wX8_nextBySuns_40 E k0 hk0 S x1 x2 x3 h _ _ _ X hl
        · have h := if_f c_6 h
          exact wX8_nextBySuns_38 E k0 hk0 S x1 x3 h _ _ _ X (lv_sub hl [0, 1, 3] rfl)
theorem wX8_nextBySuns_4 {p : Program} {l : Launch} {e : Env} {s : State} {m : MethodId} {args : Array Value} {below : List Frame} {meth : Method} {c : Code} {Z : XG} {r : Int32} {S' : Mem} (E : XE p s m args meth c cX8_nextBySuns 4 RX8 (some .int) mL Z) : ∀ (n : Nat) (S : Mem) (x1 x2 x3 : Int32), fX8_nextBySuns_4 n S x1 x2 x3 = some (r, S') → WN p l e { frames := 0, cells := 0, slots := 0, locals := 0 } s m args below meth c mL Z (XQ mL Z r S') S 4 4 [(0, .ref (Z.2.1 0)), (1, .int x1), (2, .int x2), (3, .int x3)] [] := by
  intro n
  induction n with
  | zero => intro S x1 x2 x3 h; exact absurd (show (none : O) = some _ from h) (by simp)
  | succ n ih => intro S x1 x2 x3 h; exact wX8_nextBySuns_4_b E (fX8_nextBySuns_4 n) ih S x1 x2 x3 h
set_option maxRecDepth 20000 in
theorem wX8_nextBySuns {p : Program} {l : Launch} {e : Env} {s : State} {m : MethodId} {args : Array Value} {below : List Frame} {meth : Method} {c : Code} {Z : XG} {r : Int32} {S' : Mem} (E : XE p s m args meth c cX8_nextBySuns 4 RX8 (some .int) mL Z) : ∀ (S : Mem) (x1 : Int32), fX8_nextBySuns  S x1 = some (r, S') → WN p l e { frames := 0, cells := 0, slots := 0, locals := 0 } s m args below meth c mL Z (XQ mL Z r S') S 0 4 [(0, .ref (Z.2.1 0)), (1, .int x1)] [] := by
  obtain ⟨hx, hb, -, -, -, -, -, -, -, hQ⟩ := id E
  intro S x1 h H locs ls X hl
  unfold fX8_nextBySuns at h
  refine lv_iconst (v := (-1 : Int32)) hx hb dX8_nextBySuns_0 (by decide) ?_
  refine lv_istore_n (lv' := [(2, .int (-1 : Int32)), (0, .ref (Z.2.1 0)), (1, .int x1)]) hx hb dX8_nextBySuns_1 rfl hl (by decide) rfl (fun ls hl => ?_)
  refine lv_iconst (v := (0 : Int32)) hx hb dX8_nextBySuns_2 (by decide) ?_
  refine lv_istore_n (lv' := [(3, .int (0 : Int32)), (2, .int (-1 : Int32)), (0, .ref (Z.2.1 0)), (1, .int x1)]) hx hb dX8_nextBySuns_3 rfl hl (by decide) rfl (fun ls hl => ?_)
  exact wX8_nextBySuns_4 E   FU S x1 (-1 : Int32) (0 : Int32) h _ _ _ X (lv_sub hl [2, 3, 1, 0] rfl)
/-- SevenToAShadowModel.nextBySuns(I)I -/
theorem mX8_nextBySuns (l : Launch) (Z : XG) (hQ : wQ (List.length mL) Z) {S S' : Mem} {r : Int32} (x1 : Int32) (h : fX8_nextBySuns S x1 = some (r, S')) : XM l yX8_nextBySuns cX8_nextBySuns 4 (some .int) { frames := 0, cells := 0, slots := 0, locals := 0 } mL Z [.ref (Z.2.1 0), .int x1] S (XQ mL Z r S') := by
  refine XM.of (own := RX8) (by decide +kernel) rfl rfl hQ (fun p e s m args below meth c E ls hl X => ?_)
  exact wX8_nextBySuns E S x1 h _ _ _ X hl
def fX8_findsWalk_148 (k0 : Mem → Int32 → Int32 → Int32 → O) (S : Mem) (x3 x4 x5 x6 x7 s1 : Int32) : O := ltm (mset S 0 41 s1) fun S_1 => ltm (mset S_1 0 42 ((S_1 0 42) + x7)) fun S_2 => lti (x3 ||| ((1 : Int32) <<< (x6 &&& 31))) fun x3_3 => lti (x4 ||| ((1 : Int32) <<< (x5 &&& 31))) fun x4_4 => bnd (fX8_nextBySkin S_2 x4_4) fun r_5 S_6 => k0 S_6 x3_3 x4_4 r_5
def fX8_findsWalk_90_b (k0 : Mem → Int32 → Int32 → Int32 → O) (S : Mem) (x3 x4 x5 : Int32) : O := (if x5 = (-1 : Int32) then some ((0 : Int32), S) else bnd (fX8_nextBySuns S x3) fun r_2 S_3 => gd (inB x5 10) <| ltm (mset S_3 23 (x5).toNatClampNeg r_2) fun S_5 => gd (inB r_2 25) <| gd (inB x5 10) <| lti ((S_5 22 (r_2).toNatClampNeg) * (S_5 7 (x5).toNatClampNeg)) fun x7_8 => (if x7_8 ≤ (S_5 0 41) then fX8_findsWalk_148 k0 S_5 x3 x4 x5 r_2 x7_8 (S_5 0 41) else fX8_findsWalk_148 k0 S_5 x3 x4 x5 r_2 x7_8 x7_8))
def fX8_findsWalk_90 : Nat → Mem → Int32 → Int32 → Int32 → O
  | 0 => fun _ _ _ _ => none
  | n + 1 => fX8_findsWalk_90_b (fX8_findsWalk_90 n)
def fX8_findsWalk_63 (k0 : Mem → Int32 → Int32 → O) (S : Mem) (x3 x4 : Int32) : O := k0 S x3 (x4 + (1 : Int32))
def fX8_findsWalk_11_b (k0 : Mem → Int32 → Int32 → O) (S : Mem) (x3 x4 : Int32) : O := (if (S 0 6) ≤ x4 then ltm (mset S 0 41 (0 : Int32)) fun S_2 => ltm (mset S_2 0 42 (0 : Int32)) fun S_3 => bnd (fX8_nextBySkin S_3 (0 : Int32)) fun r_4 S_5 => fX8_findsWalk_90  FU S_5 x3 (0 : Int32) r_4 else gd (inB ((5 : Int32) + x4) 55) <| gd (inB x4 10) <| ltm (mset S 23 (x4).toNatClampNeg (S 1 (((5 : Int32) + x4)).toNatClampNeg)) fun S_8 => (if (((S_8 0 10) >>> (x4 &&& 31)) &&& (1 : Int32)) = (1 : Int32) then gd (inB ((5 : Int32) + x4) 55) <| lti (x3 ||| ((1 : Int32) <<< ((S_8 1 (((5 : Int32) + x4)).toNatClampNeg) &&& 31))) fun x3_11 => fX8_findsWalk_63 k0 S_8 x3_11 x4 else fX8_findsWalk_63 k0 S_8 x3 x4))
def fX8_findsWalk_11 : Nat → Mem → Int32 → Int32 → O
  | 0 => fun _ _ _ => none
  | n + 1 => fX8_findsWalk_11_b (fX8_findsWalk_11 n)
def fX8_findsWalk (S : Mem) (x1 x2 : Int32) : O := bnd (fX8_findsSuns S x1 x2) fun _ S_2 => fX8_findsWalk_11  FU S_2 (0 : Int32) (0 : Int32)
theorem dX8_findsWalk_0 : decode cX8_findsWalk 0 = .ok (.aload_n 0, 1) := by decide +kernel
theorem dX8_findsWalk_1 : decode cX8_findsWalk 1 = .ok (.iload_n 1, 1) := by decide +kernel
theorem dX8_findsWalk_2 : decode cX8_findsWalk 2 = .ok (.iload_n 2, 1) := by decide +kernel
theorem dX8_findsWalk_3 : decode cX8_findsWalk 3 = .ok (.invokevirtual 306, 3) := by decide +kernel
theorem dX8_findsWalk_6 : decode cX8_findsWalk 6 = .ok (.iconst 0, 1) := by decide +kernel
theorem dX8_findsWalk_7 : decode cX8_findsWalk 7 = .ok (.istore_n 3, 1) := by decide +kernel
theorem dX8_findsWalk_8 : decode cX8_findsWalk 8 = .ok (.iconst 0, 1) := by decide +kernel
theorem dX8_findsWalk_9 : decode cX8_findsWalk 9 = .ok (.istore 4, 2) := by decide +kernel
theorem dX8_findsWalk_11 : decode cX8_findsWalk 11 = .ok (.iload 4, 2) := by decide +kernel
theorem dX8_findsWalk_13 : decode cX8_findsWalk 13 = .ok (.aload_n 0, 1) := by decide +kernel
theorem dX8_findsWalk_14 : decode cX8_findsWalk 14 = .ok (.getfield 100, 3) := by decide +kernel
theorem dX8_findsWalk_17 : decode cX8_findsWalk 17 = .ok (.if_icmp .ge 52, 3) := by decide +kernel
theorem dX8_findsWalk_20 : decode cX8_findsWalk 20 = .ok (.aload_n 0, 1) := by decide +kernel
theorem dX8_findsWalk_21 : decode cX8_findsWalk 21 = .ok (.getfield 80, 3) := by decide +kernel
theorem dX8_findsWalk_24 : decode cX8_findsWalk 24 = .ok (.iload 4, 2) := by decide +kernel
theorem dX8_findsWalk_26 : decode cX8_findsWalk 26 = .ok (.aload_n 0, 1) := by decide +kernel
theorem dX8_findsWalk_27 : decode cX8_findsWalk 27 = .ok (.getfield 7, 3) := by decide +kernel
theorem dX8_findsWalk_30 : decode cX8_findsWalk 30 = .ok (.iconst 5, 1) := by decide +kernel
theorem dX8_findsWalk_31 : decode cX8_findsWalk 31 = .ok (.iload 4, 2) := by decide +kernel
theorem dX8_findsWalk_33 : decode cX8_findsWalk 33 = .ok (.iadd, 1) := by decide +kernel
theorem dX8_findsWalk_34 : decode cX8_findsWalk 34 = .ok (.iaload, 1) := by decide +kernel
theorem dX8_findsWalk_35 : decode cX8_findsWalk 35 = .ok (.iastore, 1) := by decide +kernel
theorem dX8_findsWalk_36 : decode cX8_findsWalk 36 = .ok (.aload_n 0, 1) := by decide +kernel
theorem dX8_findsWalk_37 : decode cX8_findsWalk 37 = .ok (.getfield 124, 3) := by decide +kernel
theorem dX8_findsWalk_40 : decode cX8_findsWalk 40 = .ok (.iload 4, 2) := by decide +kernel
theorem dX8_findsWalk_42 : decode cX8_findsWalk 42 = .ok (.ishr, 1) := by decide +kernel
theorem dX8_findsWalk_43 : decode cX8_findsWalk 43 = .ok (.iconst 1, 1) := by decide +kernel
theorem dX8_findsWalk_44 : decode cX8_findsWalk 44 = .ok (.iand, 1) := by decide +kernel
theorem dX8_findsWalk_45 : decode cX8_findsWalk 45 = .ok (.iconst 1, 1) := by decide +kernel
theorem dX8_findsWalk_46 : decode cX8_findsWalk 46 = .ok (.if_icmp .ne 17, 3) := by decide +kernel
theorem dX8_findsWalk_49 : decode cX8_findsWalk 49 = .ok (.iload_n 3, 1) := by decide +kernel
theorem dX8_findsWalk_50 : decode cX8_findsWalk 50 = .ok (.iconst 1, 1) := by decide +kernel
theorem dX8_findsWalk_51 : decode cX8_findsWalk 51 = .ok (.aload_n 0, 1) := by decide +kernel
theorem dX8_findsWalk_52 : decode cX8_findsWalk 52 = .ok (.getfield 7, 3) := by decide +kernel
theorem dX8_findsWalk_55 : decode cX8_findsWalk 55 = .ok (.iconst 5, 1) := by decide +kernel
theorem dX8_findsWalk_56 : decode cX8_findsWalk 56 = .ok (.iload 4, 2) := by decide +kernel
theorem dX8_findsWalk_58 : decode cX8_findsWalk 58 = .ok (.iadd, 1) := by decide +kernel
theorem dX8_findsWalk_59 : decode cX8_findsWalk 59 = .ok (.iaload, 1) := by decide +kernel
theorem dX8_findsWalk_60 : decode cX8_findsWalk 60 = .ok (.ishl, 1) := by decide +kernel
theorem dX8_findsWalk_61 : decode cX8_findsWalk 61 = .ok (.ior, 1) := by decide +kernel
theorem dX8_findsWalk_62 : decode cX8_findsWalk 62 = .ok (.istore_n 3, 1) := by decide +kernel
theorem dX8_findsWalk_63 : decode cX8_findsWalk 63 = .ok (.iinc 4 1, 3) := by decide +kernel
theorem dX8_findsWalk_66 : decode cX8_findsWalk 66 = .ok (.goto (-55), 3) := by decide +kernel
theorem dX8_findsWalk_69 : decode cX8_findsWalk 69 = .ok (.aload_n 0, 1) := by decide +kernel
theorem dX8_findsWalk_70 : decode cX8_findsWalk 70 = .ok (.iconst 0, 1) := by decide +kernel
theorem dX8_findsWalk_71 : decode cX8_findsWalk 71 = .ok (.putfield 309, 3) := by decide +kernel
theorem dX8_findsWalk_74 : decode cX8_findsWalk 74 = .ok (.aload_n 0, 1) := by decide +kernel
theorem dX8_findsWalk_75 : decode cX8_findsWalk 75 = .ok (.iconst 0, 1) := by decide +kernel
theorem dX8_findsWalk_76 : decode cX8_findsWalk 76 = .ok (.putfield 312, 3) := by decide +kernel
theorem dX8_findsWalk_79 : decode cX8_findsWalk 79 = .ok (.iconst 0, 1) := by decide +kernel
theorem dX8_findsWalk_80 : decode cX8_findsWalk 80 = .ok (.istore 4, 2) := by decide +kernel
theorem dX8_findsWalk_82 : decode cX8_findsWalk 82 = .ok (.aload_n 0, 1) := by decide +kernel
theorem dX8_findsWalk_83 : decode cX8_findsWalk 83 = .ok (.iload 4, 2) := by decide +kernel
theorem dX8_findsWalk_85 : decode cX8_findsWalk 85 = .ok (.invokevirtual 315, 3) := by decide +kernel
theorem dX8_findsWalk_88 : decode cX8_findsWalk 88 = .ok (.istore 5, 2) := by decide +kernel
theorem dX8_findsWalk_90 : decode cX8_findsWalk 90 = .ok (.iload 5, 2) := by decide +kernel
theorem dX8_findsWalk_92 : decode cX8_findsWalk 92 = .ok (.iconst (-1), 1) := by decide +kernel
theorem dX8_findsWalk_93 : decode cX8_findsWalk 93 = .ok (.if_icmp .eq 96, 3) := by decide +kernel
theorem dX8_findsWalk_96 : decode cX8_findsWalk 96 = .ok (.aload_n 0, 1) := by decide +kernel
theorem dX8_findsWalk_97 : decode cX8_findsWalk 97 = .ok (.iload_n 3, 1) := by decide +kernel
theorem dX8_findsWalk_98 : decode cX8_findsWalk 98 = .ok (.invokevirtual 318, 3) := by decide +kernel
theorem dX8_findsWalk_101 : decode cX8_findsWalk 101 = .ok (.istore 6, 2) := by decide +kernel
theorem dX8_findsWalk_103 : decode cX8_findsWalk 103 = .ok (.aload_n 0, 1) := by decide +kernel
theorem dX8_findsWalk_104 : decode cX8_findsWalk 104 = .ok (.getfield 80, 3) := by decide +kernel
theorem dX8_findsWalk_107 : decode cX8_findsWalk 107 = .ok (.iload 5, 2) := by decide +kernel
theorem dX8_findsWalk_109 : decode cX8_findsWalk 109 = .ok (.iload 6, 2) := by decide +kernel
theorem dX8_findsWalk_111 : decode cX8_findsWalk 111 = .ok (.iastore, 1) := by decide +kernel
theorem dX8_findsWalk_112 : decode cX8_findsWalk 112 = .ok (.aload_n 0, 1) := by decide +kernel
theorem dX8_findsWalk_113 : decode cX8_findsWalk 113 = .ok (.getfield 77, 3) := by decide +kernel
theorem dX8_findsWalk_116 : decode cX8_findsWalk 116 = .ok (.iload 6, 2) := by decide +kernel
theorem dX8_findsWalk_118 : decode cX8_findsWalk 118 = .ok (.iaload, 1) := by decide +kernel
theorem dX8_findsWalk_119 : decode cX8_findsWalk 119 = .ok (.aload_n 0, 1) := by decide +kernel
theorem dX8_findsWalk_120 : decode cX8_findsWalk 120 = .ok (.getfield 28, 3) := by decide +kernel
theorem dX8_findsWalk_123 : decode cX8_findsWalk 123 = .ok (.iload 5, 2) := by decide +kernel
theorem dX8_findsWalk_125 : decode cX8_findsWalk 125 = .ok (.iaload, 1) := by decide +kernel
theorem dX8_findsWalk_126 : decode cX8_findsWalk 126 = .ok (.imul, 1) := by decide +kernel
theorem dX8_findsWalk_127 : decode cX8_findsWalk 127 = .ok (.istore 7, 2) := by decide +kernel
theorem dX8_findsWalk_129 : decode cX8_findsWalk 129 = .ok (.aload_n 0, 1) := by decide +kernel
theorem dX8_findsWalk_130 : decode cX8_findsWalk 130 = .ok (.iload 7, 2) := by decide +kernel
theorem dX8_findsWalk_132 : decode cX8_findsWalk 132 = .ok (.aload_n 0, 1) := by decide +kernel
theorem dX8_findsWalk_133 : decode cX8_findsWalk 133 = .ok (.getfield 309, 3) := by decide +kernel
theorem dX8_findsWalk_136 : decode cX8_findsWalk 136 = .ok (.if_icmp .le 8, 3) := by decide +kernel
theorem dX8_findsWalk_139 : decode cX8_findsWalk 139 = .ok (.iload 7, 2) := by decide +kernel
theorem dX8_findsWalk_141 : decode cX8_findsWalk 141 = .ok (.goto 7, 3) := by decide +kernel
theorem dX8_findsWalk_144 : decode cX8_findsWalk 144 = .ok (.aload_n 0, 1) := by decide +kernel
theorem dX8_findsWalk_145 : decode cX8_findsWalk 145 = .ok (.getfield 309, 3) := by decide +kernel
theorem dX8_findsWalk_148 : decode cX8_findsWalk 148 = .ok (.putfield 309, 3) := by decide +kernel
theorem dX8_findsWalk_151 : decode cX8_findsWalk 151 = .ok (.aload_n 0, 1) := by decide +kernel
theorem dX8_findsWalk_152 : decode cX8_findsWalk 152 = .ok (.aload_n 0, 1) := by decide +kernel
theorem dX8_findsWalk_153 : decode cX8_findsWalk 153 = .ok (.getfield 312, 3) := by decide +kernel
theorem dX8_findsWalk_156 : decode cX8_findsWalk 156 = .ok (.iload 7, 2) := by decide +kernel
theorem dX8_findsWalk_158 : decode cX8_findsWalk 158 = .ok (.iadd, 1) := by decide +kernel
theorem dX8_findsWalk_159 : decode cX8_findsWalk 159 = .ok (.putfield 312, 3) := by decide +kernel
theorem dX8_findsWalk_162 : decode cX8_findsWalk 162 = .ok (.iload_n 3, 1) := by decide +kernel
theorem dX8_findsWalk_163 : decode cX8_findsWalk 163 = .ok (.iconst 1, 1) := by decide +kernel
theorem dX8_findsWalk_164 : decode cX8_findsWalk 164 = .ok (.iload 6, 2) := by decide +kernel
theorem dX8_findsWalk_166 : decode cX8_findsWalk 166 = .ok (.ishl, 1) := by decide +kernel
theorem dX8_findsWalk_167 : decode cX8_findsWalk 167 = .ok (.ior, 1) := by decide +kernel
theorem dX8_findsWalk_168 : decode cX8_findsWalk 168 = .ok (.istore_n 3, 1) := by decide +kernel
theorem dX8_findsWalk_169 : decode cX8_findsWalk 169 = .ok (.iload 4, 2) := by decide +kernel
theorem dX8_findsWalk_171 : decode cX8_findsWalk 171 = .ok (.iconst 1, 1) := by decide +kernel
theorem dX8_findsWalk_172 : decode cX8_findsWalk 172 = .ok (.iload 5, 2) := by decide +kernel
theorem dX8_findsWalk_174 : decode cX8_findsWalk 174 = .ok (.ishl, 1) := by decide +kernel
theorem dX8_findsWalk_175 : decode cX8_findsWalk 175 = .ok (.ior, 1) := by decide +kernel
theorem dX8_findsWalk_176 : decode cX8_findsWalk 176 = .ok (.istore 4, 2) := by decide +kernel
theorem dX8_findsWalk_178 : decode cX8_findsWalk 178 = .ok (.aload_n 0, 1) := by decide +kernel
theorem dX8_findsWalk_179 : decode cX8_findsWalk 179 = .ok (.iload 4, 2) := by decide +kernel
theorem dX8_findsWalk_181 : decode cX8_findsWalk 181 = .ok (.invokevirtual 315, 3) := by decide +kernel
theorem dX8_findsWalk_184 : decode cX8_findsWalk 184 = .ok (.istore 5, 2) := by decide +kernel
theorem dX8_findsWalk_186 : decode cX8_findsWalk 186 = .ok (.goto (-96), 3) := by decide +kernel
theorem dX8_findsWalk_189 : decode cX8_findsWalk 189 = .ok (.return_, 1) := by decide +kernel
set_option maxRecDepth 20000 in
theorem wX8_findsWalk_148 {p : Program} {l : Launch} {e : Env} {s : State} {m : MethodId} {args : Array Value} {below : List Frame} {meth : Method} {c : Code} {Z : XG} {r : Int32} {S' : Mem} (E : XE p s m args meth c cX8_findsWalk 8 RX8 none mL Z) (k0 : Mem → Int32 → Int32 → Int32 → O)  (hk0 : ∀ (S : Mem) (x3 x4 x5 : Int32), k0 S x3 x4 x5 = some (r, S') → WN p l e { frames := 5, cells := 0, slots := 0, locals := 123 } s m args below meth c mL Z (XV mL Z S') S 90 8 [(0, .ref (Z.2.1 0)), (3, .int x3), (4, .int x4), (5, .int x5)] []) : ∀ (S : Mem) (x3 x4 x5 x6 x7 s1 : Int32), fX8_findsWalk_148 k0 S x3 x4 x5 x6 x7 s1 = some (r, S') → WN p l e { frames := 5, cells := 0, slots := 0, locals := 123 } s m args below meth c mL Z (XV mL Z S') S 148 8 [(0, .ref (Z.2.1 0)), (3, .int x3), (4, .int x4), (5, .int x5), (6, .int x6), (7, .int x7)] [.int s1, .ref (Z.2.1 0)] := by
  obtain ⟨hx, hb, -, -, -, -, -, -, -, hQ⟩ := id E
  intro S x3 x4 x5 x6 x7 s1 h H locs ls X hl
  unfold fX8_findsWalk_148 at h
  obtain ⟨S_1, eS_1, h⟩ := ltm_s h
  refine x_put E X fpX8_309 rfl rfl dX8_findsWalk_148 (fun H locs X => ?_)
  rw [← eS_1] at X
  refine lv_aload_n hx hb dX8_findsWalk_151 rfl (lv_at hl 0 rfl) ?_
  refine lv_aload_n hx hb dX8_findsWalk_152 rfl (lv_at hl 0 rfl) ?_
  refine x_get E X ffX8_312 rfl rfl dX8_findsWalk_153 ?_
  refine lv_iload hx hb dX8_findsWalk_156 (lv_at hl 5 rfl) ?_
  refine lv_iadd hx hb dX8_findsWalk_158 ?_
  obtain ⟨S_2, eS_2, h⟩ := ltm_s h
  refine x_put E X fpX8_312 rfl rfl dX8_findsWalk_159 (fun H locs X => ?_)
  rw [← eS_2] at X
  refine lv_iload_n hx hb dX8_findsWalk_162 rfl (lv_at hl 1 rfl) ?_
  refine lv_iconst (v := (1 : Int32)) hx hb dX8_findsWalk_163 (by decide) ?_
  refine lv_iload hx hb dX8_findsWalk_164 (lv_at hl 4 rfl) ?_
  refine lv_ishl hx hb dX8_findsWalk_166 ?_
  refine lv_ior hx hb dX8_findsWalk_167 ?_
  obtain ⟨x3_3, ex3_3, h⟩ := lti_s h
  refine lv_nm ex3_3 ?_
  refine lv_istore_n (lv' := [(3, .int x3_3), (0, .ref (Z.2.1 0)), (4, .int x4), (5, .int x5), (6, .int x6), (7, .int x7)]) hx hb dX8_findsWalk_168 rfl hl (by decide) rfl (fun ls hl => ?_)
  refine lv_iload hx hb dX8_findsWalk_169 (lv_at hl 2 rfl) ?_
  refine lv_iconst (v := (1 : Int32)) hx hb dX8_findsWalk_171 (by decide) ?_
  refine lv_iload hx hb dX8_findsWalk_172 (lv_at hl 3 rfl) ?_
  refine lv_ishl hx hb dX8_findsWalk_174 ?_
  refine lv_ior hx hb dX8_findsWalk_175 ?_
  obtain ⟨x4_4, ex4_4, h⟩ := lti_s h
  refine lv_nm ex4_4 ?_
  refine lv_istore (lv' := [(4, .int x4_4), (3, .int x3_3), (0, .ref (Z.2.1 0)), (5, .int x5), (6, .int x6), (7, .int x7)]) hx hb dX8_findsWalk_176 hl (by decide) rfl (fun ls hl => ?_)
  refine lv_aload_n hx hb dX8_findsWalk_178 rfl (lv_at hl 2 rfl) ?_
  refine lv_iload hx hb dX8_findsWalk_179 (lv_at hl 0 rfl) ?_
  obtain ⟨r_5, S_6, hr_5, h⟩ := bnd_s h
  refine x_callV E X cwX8_315 (mX8_nextBySkin l Z hQ  x4_4 hr_5) rfl rfl rfl rfl hl.1 rfl dX8_findsWalk_181 (fun H locs X => ?_)
  refine lv_istore (lv' := [(5, .int r_5), (4, .int x4_4), (3, .int x3_3), (0, .ref (Z.2.1 0)), (6, .int x6), (7, .int x7)]) hx hb dX8_findsWalk_184 hl (by decide) rfl (fun ls hl => ?_)
  refine lv_goto (tgt := 90) hx hb dX8_findsWalk_186 (by decide) ?_
  exact hk0 S_6 x3_3 x4_4 r_5 h _ _ _ X (lv_sub hl [3, 2, 1, 0] rfl)
set_option maxRecDepth 20000 in
theorem wX8_findsWalk_90_b {p : Program} {l : Launch} {e : Env} {s : State} {m : MethodId} {args : Array Value} {below : List Frame} {meth : Method} {c : Code} {Z : XG} {r : Int32} {S' : Mem} (E : XE p s m args meth c cX8_findsWalk 8 RX8 none mL Z) (k0 : Mem → Int32 → Int32 → Int32 → O)  (hk0 : ∀ (S : Mem) (x3 x4 x5 : Int32), k0 S x3 x4 x5 = some (r, S') → WN p l e { frames := 5, cells := 0, slots := 0, locals := 123 } s m args below meth c mL Z (XV mL Z S') S 90 8 [(0, .ref (Z.2.1 0)), (3, .int x3), (4, .int x4), (5, .int x5)] []) : ∀ (S : Mem) (x3 x4 x5 : Int32), fX8_findsWalk_90_b k0 S x3 x4 x5 = some (r, S') → WN p l e { frames := 5, cells := 0, slots := 0, locals := 123 } s m args below meth c mL Z (XV mL Z S') S 90 8 [(0, .ref (Z.2.1 0)), (3, .int x3), (4, .int x4), (5, .int x5)] [] := by
  obtain ⟨hx, hb, -, -, -, -, -, -, -, hQ⟩ := id E
  intro S x3 x4 x5 h H locs ls X hl
  unfold fX8_findsWalk_90_b at h
  refine lv_iload hx hb dX8_findsWalk_90 (lv_at hl 3 rfl) ?_
  refine lv_iconst (v := (-1 : Int32)) hx hb dX8_findsWalk_92 (by decide) ?_
  refine lv_icmp_eq (tgt := 189) hx hb dX8_findsWalk_93 (by decide) (fun c_1 => ?_) (fun c_1 => ?_)
  · have h := if_t c_1 h
    exact x_vret E X h dX8_findsWalk_189
  · have h := if_f c_1 h
    refine lv_aload_n hx hb dX8_findsWalk_96 rfl (lv_at hl 0 rfl) ?_
    refine lv_iload_n hx hb dX8_findsWalk_97 rfl (lv_at hl 1 rfl) ?_
    obtain ⟨r_2, S_3, hr_2, h⟩ := bnd_s h
    refine x_callV E X cwX8_318 (mX8_nextBySuns l Z hQ  x3 hr_2) rfl rfl rfl rfl hl.1 rfl dX8_findsWalk_98 (fun H locs X => ?_)
    refine lv_istore (lv' := [(6, .int r_2), (0, .ref (Z.2.1 0)), (3, .int x3), (4, .int x4), (5, .int x5)]) hx hb dX8_findsWalk_101 hl (by decide) rfl (fun ls hl => ?_)
    refine lv_aload_n hx hb dX8_findsWalk_103 rfl (lv_at hl 1 rfl) ?_
    refine x_getr E X ffX8_80 rfl rfl dX8_findsWalk_104 ?_
    refine lv_iload hx hb dX8_findsWalk_107 (lv_at hl 4 rfl) ?_
    refine lv_iload hx hb dX8_findsWalk_109 (lv_at hl 0 rfl) ?_
    obtain ⟨g_4, h⟩ := gd_s h
    obtain ⟨S_5, eS_5, h⟩ := ltm_s h
    refine x_iast E X rfl g_4 dX8_findsWalk_111 (fun H locs X => ?_)
    rw [← eS_5] at X
    refine lv_aload_n hx hb dX8_findsWalk_112 rfl (lv_at hl 1 rfl) ?_
    refine x_getr E X ffX8_77 rfl rfl dX8_findsWalk_113 ?_
    refine lv_iload hx hb dX8_findsWalk_116 (lv_at hl 0 rfl) ?_
    obtain ⟨g_6, h⟩ := gd_s h
    refine x_iald E X rfl g_6 dX8_findsWalk_118 ?_
    refine lv_aload_n hx hb dX8_findsWalk_119 rfl (lv_at hl 1 rfl) ?_
    refine x_getr E X ffX8_28 rfl rfl dX8_findsWalk_120 ?_
    refine lv_iload hx hb dX8_findsWalk_123 (lv_at hl 4 rfl) ?_
    obtain ⟨g_7, h⟩ := gd_s h
    refine x_iald E X rfl g_7 dX8_findsWalk_125 ?_
    refine lv_imul hx hb dX8_findsWalk_126 ?_
    obtain ⟨x7_8, ex7_8, h⟩ := lti_s h
    refine lv_nm ex7_8 ?_
    refine lv_istore (lv' := [(7, .int x7_8), (6, .int r_2), (0, .ref (Z.2.1 0)), (3, .int x3), (4, .int x4), (5, .int x5)]) hx hb dX8_findsWalk_127 hl (by decide) rfl (fun ls hl => ?_)
    refine lv_aload_n hx hb dX8_findsWalk_129 rfl (lv_at hl 2 rfl) ?_
    refine lv_iload hx hb dX8_findsWalk_130 (lv_at hl 0 rfl) ?_
    refine lv_aload_n hx hb dX8_findsWalk_132 rfl (lv_at hl 2 rfl) ?_
    refine x_get E X ffX8_309 rfl rfl dX8_findsWalk_133 ?_
    refine lv_icmp_le (tgt := 144) hx hb dX8_findsWalk_136 (by decide) (fun c_9 => ?_) (fun c_9 => ?_)
    · have h := if_t c_9 h
      refine lv_aload_n hx hb dX8_findsWalk_144 rfl (lv_at hl 2 rfl) ?_
      refine x_get E X ffX8_309 rfl rfl dX8_findsWalk_145 ?_
      exact wX8_findsWalk_148 E k0 hk0 S_5 x3 x4 x5 r_2 x7_8 (S_5 0 41) h _ _ _ X (lv_sub hl [2, 3, 4, 5, 1, 0] rfl)
    · have h := if_f c_9 h
      refine lv_iload hx hb dX8_findsWalk_139 (lv_at hl 0 rfl) ?_
      refine lv_goto (tgt := 148) hx hb dX8_findsWalk_141 (by decide) ?_
      exact wX8_findsWalk_148 E k0 hk0 S_5 x3 x4 x5 r_2 x7_8 x7_8 h _ _ _ X (lv_sub hl [2, 3, 4, 5, 1, 0] rfl)
theorem wX8_findsWalk_90 {p : Program} {l : Launch} {e : Env} {s : State} {m : MethodId} {args : Array Value} {below : List Frame} {meth : Method} {c : Code} {Z : XG} {r : Int32} {S' : Mem} (E : XE p s m args meth c cX8_findsWalk 8 RX8 none mL Z) : ∀ (n : Nat) (S : Mem) (x3 x4 x5 : Int32), fX8_findsWalk_90 n S x3 x4 x5 = some (r, S') → WN p l e { frames := 5, cells := 0, slots := 0, locals := 123 } s m args below meth c mL Z (XV mL Z S') S 90 8 [(0, .ref (Z.2.1 0)), (3, .int x3), (4, .int x4), (5, .int x5)] [] := by
  intro n
  induction n with
  | zero => intro S x3 x4 x5 h; exact absurd (show (none : O) = some _ from h) (by simp)
  | succ n ih => intro S x3 x4 x5 h; exact wX8_findsWalk_90_b E (fX8_findsWalk_90 n) ih S x3 x4 x5 h
set_option maxRecDepth 20000 in
theorem wX8_findsWalk_63 {p : Program} {l : Launch} {e : Env} {s : State} {m : MethodId} {args : Array Value} {below : List Frame} {meth : Method} {c : Code} {Z : XG} {r : Int32} {S' : Mem} (E : XE p s m args meth c cX8_findsWalk 8 RX8 none mL Z) (k0 : Mem → Int32 → Int32 → O)  (hk0 : ∀ (S : Mem) (x3 x4 : Int32), k0 S x3 x4 = some (r, S') → WN p l e { frames := 5, cells := 0, slots := 0, locals := 123 } s m args below meth c mL Z (XV mL Z S') S 11 8 [(0, .ref (Z.2.1 0)), (3, .int x3), (4, .int x4)] []) : ∀ (S : Mem) (x3 x4 : Int32), fX8_findsWalk_63 k0 S x3 x4 = some (r, S') → WN p l e { frames := 5, cells := 0, slots := 0, locals := 123 } s m args below meth c mL Z (XV mL Z S') S 63 8 [(0, .ref (Z.2.1 0)), (3, .int x3), (4, .int x4)] [] := by
  obtain ⟨hx, hb, -, -, -, -, -, -, -, hQ⟩ := id E
  intro S x3 x4 h H locs ls X hl
  unfold fX8_findsWalk_63 at h
  refine lv_iinc (v := (x4 + (1 : Int32))) (lv' := [(4, .int (x4 + (1 : Int32))), (0, .ref (Z.2.1 0)), (3, .int x3)]) hx hb dX8_findsWalk_63 hl (k := 2) rfl rfl (by decide) rfl (fun ls hl => ?_)
  refine lv_goto (tgt := 11) hx hb dX8_findsWalk_66 (by decide) ?_
  exact hk0 S x3 (x4 + (1 : Int32)) h _ _ _ X (lv_sub hl [1, 2, 0] rfl)
set_option maxRecDepth 20000 in
theorem wX8_findsWalk_11_b {p : Program} {l : Launch} {e : Env} {s : State} {m : MethodId} {args : Array Value} {below : List Frame} {meth : Method} {c : Code} {Z : XG} {r : Int32} {S' : Mem} (E : XE p s m args meth c cX8_findsWalk 8 RX8 none mL Z) (k0 : Mem → Int32 → Int32 → O)  (hk0 : ∀ (S : Mem) (x3 x4 : Int32), k0 S x3 x4 = some (r, S') → WN p l e { frames := 5, cells := 0, slots := 0, locals := 123 } s m args below meth c mL Z (XV mL Z S') S 11 8 [(0, .ref (Z.2.1 0)), (3, .int x3), (4, .int x4)] []) : ∀ (S : Mem) (x3 x4 : Int32), fX8_findsWalk_11_b k0 S x3 x4 = some (r, S') → WN p l e { frames := 5, cells := 0, slots := 0, locals := 123 } s m args below meth c mL Z (XV mL Z S') S 11 8 [(0, .ref (Z.2.1 0)), (3, .int x3), (4, .int x4)] [] := by
  obtain ⟨hx, hb, -, -, -, -, -, -, -, hQ⟩ := id E
  intro S x3 x4 h H locs ls X hl
  unfold fX8_findsWalk_11_b at h
  refine lv_iload hx hb dX8_findsWalk_11 (lv_at hl 2 rfl) ?_
  refine lv_aload_n hx hb dX8_findsWalk_13 rfl (lv_at hl 0 rfl) ?_
  refine x_get E X ffX8_100 rfl rfl dX8_findsWalk_14 ?_
  refine lv_icmp_ge (tgt := 69) hx hb dX8_findsWalk_17 (by decide) (fun c_1 => ?_) (fun c_1 => ?_)
  · have h := if_t c_1 h
    refine lv_aload_n hx hb dX8_findsWalk_69 rfl (lv_at hl 0 rfl) ?_
    refine lv_iconst (v := (0 : Int32)) hx hb dX8_findsWalk_70 (by decide) ?_
    obtain ⟨S_2, eS_2, h⟩ := ltm_s h
    refine x_put E X fpX8_309 rfl rfl dX8_findsWalk_71 (fun H locs X => ?_)
    rw [← eS_2] at X
    refine lv_aload_n hx hb dX8_findsWalk_74 rfl (lv_at hl 0 rfl) ?_
    refine lv_iconst (v := (0 : Int32)) hx hb dX8_findsWalk_75 (by decide) ?_
    obtain ⟨S_3, eS_3, h⟩ := ltm_s h
    refine x_put E X fpX8_312 rfl rfl dX8_findsWalk_76 (fun H locs X => ?_)
    rw [← eS_3] at X
    refine lv_iconst (v := (0 : Int32)) hx hb dX8_findsWalk_79 (by decide) ?_
    refine lv_istore (lv' := [(4, .int (0 : Int32)), (0, .ref (Z.2.1 0)), (3, .int x3)]) hx hb dX8_findsWalk_80 hl (by decide) rfl (fun ls hl => ?_)
    refine lv_aload_n hx hb dX8_findsWalk_82 rfl (lv_at hl 1 rfl) ?_
    refine lv_iload hx hb dX8_findsWalk_83 (lv_at hl 0 rfl) ?_
    obtain ⟨r_4, S_5, hr_4, h⟩ := bnd_s h
    refine x_callV E X cwX8_315 (mX8_nextBySkin l Z hQ  (0 : Int32) hr_4) rfl rfl rfl rfl hl.1 rfl dX8_findsWalk_85 (fun H locs X => ?_)
    refine lv_istore (lv' := [(5, .int r_4), (4, .int (0 : Int32)), (0, .ref (Z.2.1 0)), (3, .int x3)]) hx hb dX8_findsWalk_88 hl (by decide) rfl (fun ls hl => ?_)
    exact wX8_findsWalk_90 E   FU S_5 x3 (0 : Int32) r_4 h _ _ _ X (lv_sub hl [2, 3, 1, 0] rfl)
  · have h := if_f c_1 h
    refine lv_aload_n hx hb dX8_findsWalk_20 rfl (lv_at hl 0 rfl) ?_
    refine x_getr E X ffX8_80 rfl rfl dX8_findsWalk_21 ?_
    refine lv_iload hx hb dX8_findsWalk_24 (lv_at hl 2 rfl) ?_
    refine lv_aload_n hx hb dX8_findsWalk_26 rfl (lv_at hl 0 rfl) ?_
    refine x_getr E X ffX8_7 rfl rfl dX8_findsWalk_27 ?_
    refine lv_iconst (v := (5 : Int32)) hx hb dX8_findsWalk_30 (by decide) ?_
    refine lv_iload hx hb dX8_findsWalk_31 (lv_at hl 2 rfl) ?_
    refine lv_iadd hx hb dX8_findsWalk_33 ?_
    obtain ⟨g_6, h⟩ := gd_s h
    refine x_iald E X rfl g_6 dX8_findsWalk_34 ?_
    obtain ⟨g_7, h⟩ := gd_s h
    obtain ⟨S_8, eS_8, h⟩ := ltm_s h
    refine x_iast E X rfl g_7 dX8_findsWalk_35 (fun H locs X => ?_)
    rw [← eS_8] at X
    refine lv_aload_n hx hb dX8_findsWalk_36 rfl (lv_at hl 0 rfl) ?_
    refine x_get E X ffX8_124 rfl rfl dX8_findsWalk_37 ?_
    refine lv_iload hx hb dX8_findsWalk_40 (lv_at hl 2 rfl) ?_
    refine lv_ishr hx hb dX8_findsWalk_42 ?_
    refine lv_iconst (v := (1 : Int32)) hx hb dX8_findsWalk_43 (by decide) ?_
    refine lv_iand hx hb dX8_findsWalk_44 ?_
    refine lv_iconst (v := (1 : Int32)) hx hb dX8_findsWalk_45 (by decide) ?_
    refine lv_icmp_ne (tgt := 63) hx hb dX8_findsWalk_46 (by decide) (fun c_9 => ?_) (fun c_9 => ?_)
    · have h := if_f c_9 h
      exact wX8_findsWalk_63 E k0 hk0 S_8 x3 x4 h _ _ _ X hl
    · have h := if_t c_9 h
      refine lv_iload_n hx hb dX8_findsWalk_49 rfl (lv_at hl 1 rfl) ?_
      refine lv_iconst (v := (1 : Int32)) hx hb dX8_findsWalk_50 (by decide) ?_
      refine lv_aload_n hx hb dX8_findsWalk_51 rfl (lv_at hl 0 rfl) ?_
      refine x_getr E X ffX8_7 rfl rfl dX8_findsWalk_52 ?_
      refine lv_iconst (v := (5 : Int32)) hx hb dX8_findsWalk_55 (by decide) ?_
      refine lv_iload hx hb dX8_findsWalk_56 (lv_at hl 2 rfl) ?_
      refine lv_iadd hx hb dX8_findsWalk_58 ?_
      obtain ⟨g_10, h⟩ := gd_s h
      refine x_iald E X rfl g_10 dX8_findsWalk_59 ?_
      refine lv_ishl hx hb dX8_findsWalk_60 ?_
      refine lv_ior hx hb dX8_findsWalk_61 ?_
      obtain ⟨x3_11, ex3_11, h⟩ := lti_s h
      refine lv_nm ex3_11 ?_
      refine lv_istore_n (lv' := [(3, .int x3_11), (0, .ref (Z.2.1 0)), (4, .int x4)]) hx hb dX8_findsWalk_62 rfl hl (by decide) rfl (fun ls hl => ?_)
      exact wX8_findsWalk_63 E k0 hk0 S_8 x3_11 x4 h _ _ _ X (lv_sub hl [1, 0, 2] rfl)
theorem wX8_findsWalk_11 {p : Program} {l : Launch} {e : Env} {s : State} {m : MethodId} {args : Array Value} {below : List Frame} {meth : Method} {c : Code} {Z : XG} {r : Int32} {S' : Mem} (E : XE p s m args meth c cX8_findsWalk 8 RX8 none mL Z) : ∀ (n : Nat) (S : Mem) (x3 x4 : Int32), fX8_findsWalk_11 n S x3 x4 = some (r, S') → WN p l e { frames := 5, cells := 0, slots := 0, locals := 123 } s m args below meth c mL Z (XV mL Z S') S 11 8 [(0, .ref (Z.2.1 0)), (3, .int x3), (4, .int x4)] [] := by
  intro n
  induction n with
  | zero => intro S x3 x4 h; exact absurd (show (none : O) = some _ from h) (by simp)
  | succ n ih => intro S x3 x4 h; exact wX8_findsWalk_11_b E (fX8_findsWalk_11 n) ih S x3 x4 h
set_option maxRecDepth 20000 in
theorem wX8_findsWalk {p : Program} {l : Launch} {e : Env} {s : State} {m : MethodId} {args : Array Value} {below : List Frame} {meth : Method} {c : Code} {Z : XG} {r : Int32} {S' : Mem} (E : XE p s m args meth c cX8_findsWalk 8 RX8 none mL Z) : ∀ (S : Mem) (x1 x2 : Int32), fX8_findsWalk  S x1 x2 = some (r, S') → WN p l e { frames := 5, cells := 0, slots := 0, locals := 123 } s m args below meth c mL Z (XV mL Z S') S 0 8 [(0, .ref (Z.2.1 0)), (1, .int x1), (2, .int x2)] [] := by
  obtain ⟨hx, hb, -, -, -, -, -, -, -, hQ⟩ := id E
  intro S x1 x2 h H locs ls X hl
  unfold fX8_findsWalk at h
  refine lv_aload_n hx hb dX8_findsWalk_0 rfl (lv_at hl 0 rfl) ?_
  refine lv_iload_n hx hb dX8_findsWalk_1 rfl (lv_at hl 1 rfl) ?_
  refine lv_iload_n hx hb dX8_findsWalk_2 rfl (lv_at hl 2 rfl) ?_
  obtain ⟨r_1, S_2, hr_1, h⟩ := bnd_s h
  refine x_callVv E X cwX8_306 (mX8_findsSuns l Z hQ  x1 x2 hr_1) rfl rfl rfl rfl hl.1 rfl dX8_findsWalk_3 (fun H locs X => ?_)
  refine lv_iconst (v := (0 : Int32)) hx hb dX8_findsWalk_6 (by decide) ?_
  refine lv_istore_n (lv' := [(3, .int (0 : Int32)), (0, .ref (Z.2.1 0)), (1, .int x1), (2, .int x2)]) hx hb dX8_findsWalk_7 rfl hl (by decide) rfl (fun ls hl => ?_)
  refine lv_iconst (v := (0 : Int32)) hx hb dX8_findsWalk_8 (by decide) ?_
  refine lv_istore (lv' := [(4, .int (0 : Int32)), (3, .int (0 : Int32)), (0, .ref (Z.2.1 0)), (1, .int x1), (2, .int x2)]) hx hb dX8_findsWalk_9 hl (by decide) rfl (fun ls hl => ?_)
  exact wX8_findsWalk_11 E   FU S_2 (0 : Int32) (0 : Int32) h _ _ _ X (lv_sub hl [2, 1, 0] rfl)
/-- SevenToAShadowModel.findsWalk(II)V -/
theorem mX8_findsWalk (l : Launch) (Z : XG) (hQ : wQ (List.length mL) Z) {S S' : Mem} {r : Int32} (x1 x2 : Int32) (h : fX8_findsWalk S x1 x2 = some (r, S')) : XM l yX8_findsWalk cX8_findsWalk 8 none { frames := 5, cells := 0, slots := 0, locals := 123 } mL Z [.ref (Z.2.1 0), .int x1, .int x2] S (XV mL Z S') := by
  refine XM.of (own := RX8) (by decide +kernel) rfl rfl hQ (fun p e s m args below meth c E ls hl X => ?_)
  exact wX8_findsWalk E S x1 x2 h _ _ _ X hl
def fX8_walk_43 (S : Mem) (x1 x2 x3 : Int32) : O := bnd (fX8_findsWalk S x1 x2) fun _ S_2 => (if x3 = 0 then some ((S_2 0 41), S_2) else (if x3 = (1 : Int32) then some ((S_2 0 42), S_2) else gd (inB (x3 - (10 : Int32)) 10) <| some ((S_2 23 ((x3 - (10 : Int32))).toNatClampNeg), S_2)))
def fX8_walk (S : Mem) (x1 x2 x3 : Int32) : O := ltm (mset S 0 0 (0 : Int32)) fun S_1 => bnd (fX8_areHours S_1 x1 x2) fun r_2 S_3 => (if r_2 = 0 then some ((-1 : Int32), S_3) else bnd (fX8_isIn S_3 x3 (0 : Int32) (1 : Int32)) fun r_5 S_6 => (if r_5 = 0 then bnd (fX8_isIn S_6 x3 (10 : Int32) ((9 : Int32) + (S_6 0 6))) fun r_8 S_9 => (if r_8 = 0 then some ((-1 : Int32), S_9) else fX8_walk_43  S_9 x1 x2 x3) else fX8_walk_43  S_6 x1 x2 x3))
theorem dX8_walk_0 : decode cX8_walk 0 = .ok (.aload_n 0, 1) := by decide +kernel
theorem dX8_walk_1 : decode cX8_walk 1 = .ok (.iconst 0, 1) := by decide +kernel
theorem dX8_walk_2 : decode cX8_walk 2 = .ok (.putfield 92, 3) := by decide +kernel
theorem dX8_walk_5 : decode cX8_walk 5 = .ok (.aload_n 0, 1) := by decide +kernel
theorem dX8_walk_6 : decode cX8_walk 6 = .ok (.iload_n 1, 1) := by decide +kernel
theorem dX8_walk_7 : decode cX8_walk 7 = .ok (.iload_n 2, 1) := by decide +kernel
theorem dX8_walk_8 : decode cX8_walk 8 = .ok (.invokevirtual 321, 3) := by decide +kernel
theorem dX8_walk_11 : decode cX8_walk 11 = .ok (.ifCond .eq 30, 3) := by decide +kernel
theorem dX8_walk_14 : decode cX8_walk 14 = .ok (.aload_n 0, 1) := by decide +kernel
theorem dX8_walk_15 : decode cX8_walk 15 = .ok (.iload_n 3, 1) := by decide +kernel
theorem dX8_walk_16 : decode cX8_walk 16 = .ok (.iconst 0, 1) := by decide +kernel
theorem dX8_walk_17 : decode cX8_walk 17 = .ok (.iconst 1, 1) := by decide +kernel
theorem dX8_walk_18 : decode cX8_walk 18 = .ok (.invokevirtual 107, 3) := by decide +kernel
theorem dX8_walk_21 : decode cX8_walk 21 = .ok (.ifCond .ne 22, 3) := by decide +kernel
theorem dX8_walk_24 : decode cX8_walk 24 = .ok (.aload_n 0, 1) := by decide +kernel
theorem dX8_walk_25 : decode cX8_walk 25 = .ok (.iload_n 3, 1) := by decide +kernel
theorem dX8_walk_26 : decode cX8_walk 26 = .ok (.bipush 10, 2) := by decide +kernel
theorem dX8_walk_28 : decode cX8_walk 28 = .ok (.bipush 9, 2) := by decide +kernel
theorem dX8_walk_30 : decode cX8_walk 30 = .ok (.aload_n 0, 1) := by decide +kernel
theorem dX8_walk_31 : decode cX8_walk 31 = .ok (.getfield 100, 3) := by decide +kernel
theorem dX8_walk_34 : decode cX8_walk 34 = .ok (.iadd, 1) := by decide +kernel
theorem dX8_walk_35 : decode cX8_walk 35 = .ok (.invokevirtual 107, 3) := by decide +kernel
theorem dX8_walk_38 : decode cX8_walk 38 = .ok (.ifCond .ne 5, 3) := by decide +kernel
theorem dX8_walk_41 : decode cX8_walk 41 = .ok (.iconst (-1), 1) := by decide +kernel
theorem dX8_walk_42 : decode cX8_walk 42 = .ok (.ireturn, 1) := by decide +kernel
theorem dX8_walk_43 : decode cX8_walk 43 = .ok (.aload_n 0, 1) := by decide +kernel
theorem dX8_walk_44 : decode cX8_walk 44 = .ok (.iload_n 1, 1) := by decide +kernel
theorem dX8_walk_45 : decode cX8_walk 45 = .ok (.iload_n 2, 1) := by decide +kernel
theorem dX8_walk_46 : decode cX8_walk 46 = .ok (.invokevirtual 324, 3) := by decide +kernel
theorem dX8_walk_49 : decode cX8_walk 49 = .ok (.iload_n 3, 1) := by decide +kernel
theorem dX8_walk_50 : decode cX8_walk 50 = .ok (.ifCond .ne 10, 3) := by decide +kernel
theorem dX8_walk_53 : decode cX8_walk 53 = .ok (.aload_n 0, 1) := by decide +kernel
theorem dX8_walk_54 : decode cX8_walk 54 = .ok (.getfield 309, 3) := by decide +kernel
theorem dX8_walk_57 : decode cX8_walk 57 = .ok (.goto 24, 3) := by decide +kernel
theorem dX8_walk_60 : decode cX8_walk 60 = .ok (.iload_n 3, 1) := by decide +kernel
theorem dX8_walk_61 : decode cX8_walk 61 = .ok (.iconst 1, 1) := by decide +kernel
theorem dX8_walk_62 : decode cX8_walk 62 = .ok (.if_icmp .ne 10, 3) := by decide +kernel
theorem dX8_walk_65 : decode cX8_walk 65 = .ok (.aload_n 0, 1) := by decide +kernel
theorem dX8_walk_66 : decode cX8_walk 66 = .ok (.getfield 312, 3) := by decide +kernel
theorem dX8_walk_69 : decode cX8_walk 69 = .ok (.goto 12, 3) := by decide +kernel
theorem dX8_walk_72 : decode cX8_walk 72 = .ok (.aload_n 0, 1) := by decide +kernel
theorem dX8_walk_73 : decode cX8_walk 73 = .ok (.getfield 80, 3) := by decide +kernel
theorem dX8_walk_76 : decode cX8_walk 76 = .ok (.iload_n 3, 1) := by decide +kernel
theorem dX8_walk_77 : decode cX8_walk 77 = .ok (.bipush 10, 2) := by decide +kernel
theorem dX8_walk_79 : decode cX8_walk 79 = .ok (.isub, 1) := by decide +kernel
theorem dX8_walk_80 : decode cX8_walk 80 = .ok (.iaload, 1) := by decide +kernel
theorem dX8_walk_81 : decode cX8_walk 81 = .ok (.ireturn, 1) := by decide +kernel
set_option maxRecDepth 20000 in
theorem wX8_walk_43 {p : Program} {l : Launch} {e : Env} {s : State} {m : MethodId} {args : Array Value} {below : List Frame} {meth : Method} {c : Code} {Z : XG} {r : Int32} {S' : Mem} (E : XE p s m args meth c cX8_walk 4 RX8 (some .int) mL Z) : ∀ (S : Mem) (x1 x2 x3 : Int32), fX8_walk_43  S x1 x2 x3 = some (r, S') → WN p l e { frames := 6, cells := 0, slots := 0, locals := 150 } s m args below meth c mL Z (XQ mL Z r S') S 43 4 [(0, .ref (Z.2.1 0)), (1, .int x1), (2, .int x2), (3, .int x3)] [] := by
  obtain ⟨hx, hb, -, -, -, -, -, -, -, hQ⟩ := id E
  intro S x1 x2 x3 h H locs ls X hl
  unfold fX8_walk_43 at h
  refine lv_aload_n hx hb dX8_walk_43 rfl (lv_at hl 0 rfl) ?_
  refine lv_iload_n hx hb dX8_walk_44 rfl (lv_at hl 1 rfl) ?_
  refine lv_iload_n hx hb dX8_walk_45 rfl (lv_at hl 2 rfl) ?_
  obtain ⟨r_1, S_2, hr_1, h⟩ := bnd_s h
  refine x_callVv E X cwX8_324 (mX8_findsWalk l Z hQ  x1 x2 hr_1) rfl rfl rfl rfl hl.1 rfl dX8_walk_46 (fun H locs X => ?_)
  refine lv_iload_n hx hb dX8_walk_49 rfl (lv_at hl 3 rfl) ?_
  refine lv_if_ne (tgt := 60) hx hb dX8_walk_50 (by decide) (fun c_3 => ?_) (fun c_3 => ?_)
  · have h := if_f c_3 h
    refine lv_iload_n hx hb dX8_walk_60 rfl (lv_at hl 3 rfl) ?_
    refine lv_iconst (v := (1 : Int32)) hx hb dX8_walk_61 (by decide) ?_
    refine lv_icmp_ne (tgt := 72) hx hb dX8_walk_62 (by decide) (fun c_4 => ?_) (fun c_4 => ?_)
    · have h := if_f c_4 h
      refine lv_aload_n hx hb dX8_walk_72 rfl (lv_at hl 0 rfl) ?_
      refine x_getr E X ffX8_80 rfl rfl dX8_walk_73 ?_
      refine lv_iload_n hx hb dX8_walk_76 rfl (lv_at hl 3 rfl) ?_
      refine lv_bipush (v := (10 : Int32)) hx hb dX8_walk_77 (by decide) ?_
      refine lv_isub hx hb dX8_walk_79 ?_
      obtain ⟨g_5, h⟩ := gd_s h
      refine x_iald E X rfl g_5 dX8_walk_80 ?_
      exact x_iret E X h dX8_walk_81
    · have h := if_t c_4 h
      refine lv_aload_n hx hb dX8_walk_65 rfl (lv_at hl 0 rfl) ?_
      refine x_get E X ffX8_312 rfl rfl dX8_walk_66 ?_
      refine lv_goto (tgt := 81) hx hb dX8_walk_69 (by decide) ?_
      exact x_iret E X h dX8_walk_81
  · have h := if_t c_3 h
    refine lv_aload_n hx hb dX8_walk_53 rfl (lv_at hl 0 rfl) ?_
    refine x_get E X ffX8_309 rfl rfl dX8_walk_54 ?_
    refine lv_goto (tgt := 81) hx hb dX8_walk_57 (by decide) ?_
    exact x_iret E X h dX8_walk_81
set_option maxRecDepth 20000 in
theorem wX8_walk {p : Program} {l : Launch} {e : Env} {s : State} {m : MethodId} {args : Array Value} {below : List Frame} {meth : Method} {c : Code} {Z : XG} {r : Int32} {S' : Mem} (E : XE p s m args meth c cX8_walk 4 RX8 (some .int) mL Z) : ∀ (S : Mem) (x1 x2 x3 : Int32), fX8_walk  S x1 x2 x3 = some (r, S') → WN p l e { frames := 6, cells := 0, slots := 0, locals := 150 } s m args below meth c mL Z (XQ mL Z r S') S 0 4 [(0, .ref (Z.2.1 0)), (1, .int x1), (2, .int x2), (3, .int x3)] [] := by
  obtain ⟨hx, hb, -, -, -, -, -, -, -, hQ⟩ := id E
  intro S x1 x2 x3 h H locs ls X hl
  unfold fX8_walk at h
  refine lv_aload_n hx hb dX8_walk_0 rfl (lv_at hl 0 rfl) ?_
  refine lv_iconst (v := (0 : Int32)) hx hb dX8_walk_1 (by decide) ?_
  obtain ⟨S_1, eS_1, h⟩ := ltm_s h
  refine x_put E X fpX8_92 rfl rfl dX8_walk_2 (fun H locs X => ?_)
  rw [← eS_1] at X
  refine lv_aload_n hx hb dX8_walk_5 rfl (lv_at hl 0 rfl) ?_
  refine lv_iload_n hx hb dX8_walk_6 rfl (lv_at hl 1 rfl) ?_
  refine lv_iload_n hx hb dX8_walk_7 rfl (lv_at hl 2 rfl) ?_
  obtain ⟨r_2, S_3, hr_2, h⟩ := bnd_s h
  refine x_callV E X cwX8_321 (mX8_areHours l Z hQ  x1 x2 hr_2) rfl rfl rfl rfl hl.1 rfl dX8_walk_8 (fun H locs X => ?_)
  refine lv_if_eq (tgt := 41) hx hb dX8_walk_11 (by decide) (fun c_4 => ?_) (fun c_4 => ?_)
  · have h := if_t c_4 h
    refine lv_iconst (v := (-1 : Int32)) hx hb dX8_walk_41 (by decide) ?_
    exact x_iret E X h dX8_walk_42
  · have h := if_f c_4 h
    refine lv_aload_n hx hb dX8_walk_14 rfl (lv_at hl 0 rfl) ?_
    refine lv_iload_n hx hb dX8_walk_15 rfl (lv_at hl 3 rfl) ?_
    refine lv_iconst (v := (0 : Int32)) hx hb dX8_walk_16 (by decide) ?_
    refine lv_iconst (v := (1 : Int32)) hx hb dX8_walk_17 (by decide) ?_
    obtain ⟨r_5, S_6, hr_5, h⟩ := bnd_s h
    refine x_callV E X cwX8_107 (mX8_isIn l Z hQ  x3 (0 : Int32) (1 : Int32) hr_5) rfl rfl rfl rfl hl.1 rfl dX8_walk_18 (fun H locs X => ?_)
    refine lv_if_ne (tgt := 43) hx hb dX8_walk_21 (by decide) (fun c_7 => ?_) (fun c_7 => ?_)
    · have h := if_f c_7 h
      exact wX8_walk_43 E   S_6 x1 x2 x3 h _ _ _ X hl
    · have h := if_t c_7 h
      refine lv_aload_n hx hb dX8_walk_24 rfl (lv_at hl 0 rfl) ?_
      refine lv_iload_n hx hb dX8_walk_25 rfl (lv_at hl 3 rfl) ?_
      refine lv_bipush (v := (10 : Int32)) hx hb dX8_walk_26 (by decide) ?_
      refine lv_bipush (v := (9 : Int32)) hx hb dX8_walk_28 (by decide) ?_
      refine lv_aload_n hx hb dX8_walk_30 rfl (lv_at hl 0 rfl) ?_
      refine x_get E X ffX8_100 rfl rfl dX8_walk_31 ?_
      refine lv_iadd hx hb dX8_walk_34 ?_
      obtain ⟨r_8, S_9, hr_8, h⟩ := bnd_s h
      refine x_callV E X cwX8_107 (mX8_isIn l Z hQ  x3 (10 : Int32) ((9 : Int32) + (S_6 0 6)) hr_8) rfl rfl rfl rfl hl.1 rfl dX8_walk_35 (fun H locs X => ?_)
      refine lv_if_ne (tgt := 43) hx hb dX8_walk_38 (by decide) (fun c_10 => ?_) (fun c_10 => ?_)
      · have h := if_f c_10 h
        exact wX8_walk_43 E   S_9 x1 x2 x3 h _ _ _ X hl
      · have h := if_t c_10 h
        refine lv_iconst (v := (-1 : Int32)) hx hb dX8_walk_41 (by decide) ?_
        exact x_iret E X h dX8_walk_42
/-- SevenToAShadowModel.walk(III)I -/
theorem mX8_walk (l : Launch) (Z : XG) (hQ : wQ (List.length mL) Z) {S S' : Mem} {r : Int32} (x1 x2 x3 : Int32) (h : fX8_walk S x1 x2 x3 = some (r, S')) : XM l yX8_walk cX8_walk 4 (some .int) { frames := 6, cells := 0, slots := 0, locals := 150 } mL Z [.ref (Z.2.1 0), .int x1, .int x2, .int x3] S (XQ mL Z r S') := by
  refine XM.of (own := RX8) (by decide +kernel) rfl rfl hQ (fun p e s m args below meth c E ls hl X => ?_)
  exact wX8_walk E S x1 x2 x3 h _ _ _ X hl
def fX8_ones_4_b (k0 : Mem → Int32 → Int32 → O) (S : Mem) (x2 x3 : Int32) : O := (if x3 = 0 then some (x2, S) else lti (x2 + (1 : Int32)) fun x2_2 => lti (x3 &&& (x3 - (1 : Int32))) fun x3_3 => k0 S x2_2 x3_3)
def fX8_ones_4 : Nat → Mem → Int32 → Int32 → O
  | 0 => fun _ _ _ => none
  | n + 1 => fX8_ones_4_b (fX8_ones_4 n)
def fX8_ones (S : Mem) (x1 : Int32) : O := fX8_ones_4  FU S (0 : Int32) x1
theorem dX8_ones_0 : decode cX8_ones 0 = .ok (.iconst 0, 1) := by decide +kernel
theorem dX8_ones_1 : decode cX8_ones 1 = .ok (.istore_n 2, 1) := by decide +kernel
theorem dX8_ones_2 : decode cX8_ones 2 = .ok (.iload_n 1, 1) := by decide +kernel
theorem dX8_ones_3 : decode cX8_ones 3 = .ok (.istore_n 3, 1) := by decide +kernel
theorem dX8_ones_4 : decode cX8_ones 4 = .ok (.iload_n 3, 1) := by decide +kernel
theorem dX8_ones_5 : decode cX8_ones 5 = .ok (.ifCond .eq 16, 3) := by decide +kernel
theorem dX8_ones_8 : decode cX8_ones 8 = .ok (.iload_n 2, 1) := by decide +kernel
theorem dX8_ones_9 : decode cX8_ones 9 = .ok (.iconst 1, 1) := by decide +kernel
theorem dX8_ones_10 : decode cX8_ones 10 = .ok (.iadd, 1) := by decide +kernel
theorem dX8_ones_11 : decode cX8_ones 11 = .ok (.istore_n 2, 1) := by decide +kernel
theorem dX8_ones_12 : decode cX8_ones 12 = .ok (.iload_n 3, 1) := by decide +kernel
theorem dX8_ones_13 : decode cX8_ones 13 = .ok (.iload_n 3, 1) := by decide +kernel
theorem dX8_ones_14 : decode cX8_ones 14 = .ok (.iconst 1, 1) := by decide +kernel
theorem dX8_ones_15 : decode cX8_ones 15 = .ok (.isub, 1) := by decide +kernel
theorem dX8_ones_16 : decode cX8_ones 16 = .ok (.iand, 1) := by decide +kernel
theorem dX8_ones_17 : decode cX8_ones 17 = .ok (.istore_n 3, 1) := by decide +kernel
theorem dX8_ones_18 : decode cX8_ones 18 = .ok (.goto (-14), 3) := by decide +kernel
theorem dX8_ones_21 : decode cX8_ones 21 = .ok (.iload_n 2, 1) := by decide +kernel
theorem dX8_ones_22 : decode cX8_ones 22 = .ok (.ireturn, 1) := by decide +kernel
set_option maxRecDepth 20000 in
theorem wX8_ones_4_b {p : Program} {l : Launch} {e : Env} {s : State} {m : MethodId} {args : Array Value} {below : List Frame} {meth : Method} {c : Code} {Z : XG} {r : Int32} {S' : Mem} (E : XE p s m args meth c cX8_ones 4 RX8 (some .int) mL Z) (k0 : Mem → Int32 → Int32 → O)  (hk0 : ∀ (S : Mem) (x2 x3 : Int32), k0 S x2 x3 = some (r, S') → WN p l e { frames := 0, cells := 0, slots := 0, locals := 0 } s m args below meth c mL Z (XQ mL Z r S') S 4 4 [(2, .int x2), (3, .int x3)] []) : ∀ (S : Mem) (x2 x3 : Int32), fX8_ones_4_b k0 S x2 x3 = some (r, S') → WN p l e { frames := 0, cells := 0, slots := 0, locals := 0 } s m args below meth c mL Z (XQ mL Z r S') S 4 4 [(2, .int x2), (3, .int x3)] [] := by
  obtain ⟨hx, hb, -, -, -, -, -, -, -, hQ⟩ := id E
  intro S x2 x3 h H locs ls X hl
  unfold fX8_ones_4_b at h
  refine lv_iload_n hx hb dX8_ones_4 rfl (lv_at hl 1 rfl) ?_
  refine lv_if_eq (tgt := 21) hx hb dX8_ones_5 (by decide) (fun c_1 => ?_) (fun c_1 => ?_)
  · have h := if_t c_1 h
    refine lv_iload_n hx hb dX8_ones_21 rfl (lv_at hl 0 rfl) ?_
    exact x_iret E X h dX8_ones_22
  · have h := if_f c_1 h
    refine lv_iload_n hx hb dX8_ones_8 rfl (lv_at hl 0 rfl) ?_
    refine lv_iconst (v := (1 : Int32)) hx hb dX8_ones_9 (by decide) ?_
    refine lv_iadd hx hb dX8_ones_10 ?_
    obtain ⟨x2_2, ex2_2, h⟩ := lti_s h
    refine lv_nm ex2_2 ?_
    refine lv_istore_n (lv' := [(2, .int x2_2), (3, .int x3)]) hx hb dX8_ones_11 rfl hl (by decide) rfl (fun ls hl => ?_)
    refine lv_iload_n hx hb dX8_ones_12 rfl (lv_at hl 1 rfl) ?_
    refine lv_iload_n hx hb dX8_ones_13 rfl (lv_at hl 1 rfl) ?_
    refine lv_iconst (v := (1 : Int32)) hx hb dX8_ones_14 (by decide) ?_
    refine lv_isub hx hb dX8_ones_15 ?_
    refine lv_iand hx hb dX8_ones_16 ?_
    obtain ⟨x3_3, ex3_3, h⟩ := lti_s h
    refine lv_nm ex3_3 ?_
    refine lv_istore_n (lv' := [(3, .int x3_3), (2, .int x2_2)]) hx hb dX8_ones_17 rfl hl (by decide) rfl (fun ls hl => ?_)
    refine lv_goto (tgt := 4) hx hb dX8_ones_18 (by decide) ?_
    exact hk0 S x2_2 x3_3 h _ _ _ X (lv_sub hl [1, 0] rfl)
theorem wX8_ones_4 {p : Program} {l : Launch} {e : Env} {s : State} {m : MethodId} {args : Array Value} {below : List Frame} {meth : Method} {c : Code} {Z : XG} {r : Int32} {S' : Mem} (E : XE p s m args meth c cX8_ones 4 RX8 (some .int) mL Z) : ∀ (n : Nat) (S : Mem) (x2 x3 : Int32), fX8_ones_4 n S x2 x3 = some (r, S') → WN p l e { frames := 0, cells := 0, slots := 0, locals := 0 } s m args below meth c mL Z (XQ mL Z r S') S 4 4 [(2, .int x2), (3, .int x3)] [] := by
  intro n
  induction n with
  | zero => intro S x2 x3 h; exact absurd (show (none : O) = some _ from h) (by simp)
  | succ n ih => intro S x2 x3 h; exact wX8_ones_4_b E (fX8_ones_4 n) ih S x2 x3 h
set_option maxRecDepth 20000 in
theorem wX8_ones {p : Program} {l : Launch} {e : Env} {s : State} {m : MethodId} {args : Array Value} {below : List Frame} {meth : Method} {c : Code} {Z : XG} {r : Int32} {S' : Mem} (E : XE p s m args meth c cX8_ones 4 RX8 (some .int) mL Z) : ∀ (S : Mem) (x1 : Int32), fX8_ones  S x1 = some (r, S') → WN p l e { frames := 0, cells := 0, slots := 0, locals := 0 } s m args below meth c mL Z (XQ mL Z r S') S 0 4 [(1, .int x1)] [] := by
  obtain ⟨hx, hb, -, -, -, -, -, -, -, hQ⟩ := id E
  intro S x1 h H locs ls X hl
  unfold fX8_ones at h
  refine lv_iconst (v := (0 : Int32)) hx hb dX8_ones_0 (by decide) ?_
  refine lv_istore_n (lv' := [(2, .int (0 : Int32)), (1, .int x1)]) hx hb dX8_ones_1 rfl hl (by decide) rfl (fun ls hl => ?_)
  refine lv_iload_n hx hb dX8_ones_2 rfl (lv_at hl 1 rfl) ?_
  refine lv_istore_n (lv' := [(3, .int x1), (2, .int (0 : Int32)), (1, .int x1)]) hx hb dX8_ones_3 rfl hl (by decide) rfl (fun ls hl => ?_)
  exact wX8_ones_4 E   FU S (0 : Int32) x1 h _ _ _ X (lv_sub hl [1, 0] rfl)
/-- SevenToAShadowModel.ones(I)I -/
theorem mX8_ones (l : Launch) (Z : XG) (hQ : wQ (List.length mL) Z) {S S' : Mem} {r : Int32} (x1 : Int32) (h : fX8_ones S x1 = some (r, S')) : XM l yX8_ones cX8_ones 4 (some .int) { frames := 0, cells := 0, slots := 0, locals := 0 } mL Z [.ref (Z.2.1 0), .int x1] S (XQ mL Z r S') := by
  refine XM.of (own := RX8) (by decide +kernel) rfl rfl hQ (fun p e s m args below meth c E ls hl X => ?_)
  exact wX8_ones E S x1 h _ _ _ X (lv_sub hl [1] rfl)
def fX8_areEnough_31_b (k0 : Mem → Int32 → Int32 → Int32 → O) (k1 : Mem → Int32 → Int32 → Int32 → Int32 → O) (S : Mem) (x1 x3 x4 x5 : Int32) : O := (if (S 0 6) ≤ x5 then k0 S x1 x3 (x4 + (1 : Int32)) else gd (inB ((5 : Int32) + x5) 55) <| bnd (fX8_isShadedAt S x5 (S 1 (((5 : Int32) + x5)).toNatClampNeg) x1) fun r_3 S_4 => (if r_3 = 0 then some ((0 : Int32), S_4) else k1 S_4 x1 x3 x4 (x5 + (1 : Int32))))
def fX8_areEnough_31 (k0 : Mem → Int32 → Int32 → Int32 → O) : Nat → Mem → Int32 → Int32 → Int32 → Int32 → O
  | 0 => fun _ _ _ _ _ => none
  | n + 1 => fX8_areEnough_31_b k0 (fX8_areEnough_31 k0 n)
def fX8_areEnough_3_b (k0 : Mem → Int32 → Int32 → Int32 → O) (S : Mem) (x1 x3 x4 : Int32) : O := (if x3 < x4 then some ((1 : Int32), S) else gd (inB (((5 : Int32) * x4) + (3 : Int32)) 60) <| bnd (fX8_findsShade S x4 (S 3 ((((5 : Int32) * x4) + (3 : Int32))).toNatClampNeg) x1 (1 : Int32)) fun _ S_4 => fX8_areEnough_31 k0 FU S_4 x1 x3 x4 (0 : Int32))
def fX8_areEnough_3 : Nat → Mem → Int32 → Int32 → Int32 → O
  | 0 => fun _ _ _ _ => none
  | n + 1 => fX8_areEnough_3_b (fX8_areEnough_3 n)
def fX8_areEnough (S : Mem) (x1 x2 x3 : Int32) : O := fX8_areEnough_3  FU S x1 x3 x2
theorem dX8_areEnough_0 : decode cX8_areEnough 0 = .ok (.iload_n 2, 1) := by decide +kernel
theorem dX8_areEnough_1 : decode cX8_areEnough 1 = .ok (.istore 4, 2) := by decide +kernel
theorem dX8_areEnough_3 : decode cX8_areEnough 3 = .ok (.iload 4, 2) := by decide +kernel
theorem dX8_areEnough_5 : decode cX8_areEnough 5 = .ok (.iload_n 3, 1) := by decide +kernel
theorem dX8_areEnough_6 : decode cX8_areEnough 6 = .ok (.if_icmp .gt 67, 3) := by decide +kernel
theorem dX8_areEnough_9 : decode cX8_areEnough 9 = .ok (.aload_n 0, 1) := by decide +kernel
theorem dX8_areEnough_10 : decode cX8_areEnough 10 = .ok (.iload 4, 2) := by decide +kernel
theorem dX8_areEnough_12 : decode cX8_areEnough 12 = .ok (.aload_n 0, 1) := by decide +kernel
theorem dX8_areEnough_13 : decode cX8_areEnough 13 = .ok (.getfield 16, 3) := by decide +kernel
theorem dX8_areEnough_16 : decode cX8_areEnough 16 = .ok (.iconst 5, 1) := by decide +kernel
theorem dX8_areEnough_17 : decode cX8_areEnough 17 = .ok (.iload 4, 2) := by decide +kernel
theorem dX8_areEnough_19 : decode cX8_areEnough 19 = .ok (.imul, 1) := by decide +kernel
theorem dX8_areEnough_20 : decode cX8_areEnough 20 = .ok (.iconst 3, 1) := by decide +kernel
theorem dX8_areEnough_21 : decode cX8_areEnough 21 = .ok (.iadd, 1) := by decide +kernel
theorem dX8_areEnough_22 : decode cX8_areEnough 22 = .ok (.iaload, 1) := by decide +kernel
theorem dX8_areEnough_23 : decode cX8_areEnough 23 = .ok (.iload_n 1, 1) := by decide +kernel
theorem dX8_areEnough_24 : decode cX8_areEnough 24 = .ok (.iconst 1, 1) := by decide +kernel
theorem dX8_areEnough_25 : decode cX8_areEnough 25 = .ok (.invokevirtual 253, 3) := by decide +kernel
theorem dX8_areEnough_28 : decode cX8_areEnough 28 = .ok (.iconst 0, 1) := by decide +kernel
theorem dX8_areEnough_29 : decode cX8_areEnough 29 = .ok (.istore 5, 2) := by decide +kernel
theorem dX8_areEnough_31 : decode cX8_areEnough 31 = .ok (.iload 5, 2) := by decide +kernel
theorem dX8_areEnough_33 : decode cX8_areEnough 33 = .ok (.aload_n 0, 1) := by decide +kernel
theorem dX8_areEnough_34 : decode cX8_areEnough 34 = .ok (.getfield 100, 3) := by decide +kernel
theorem dX8_areEnough_37 : decode cX8_areEnough 37 = .ok (.if_icmp .ge 30, 3) := by decide +kernel
theorem dX8_areEnough_40 : decode cX8_areEnough 40 = .ok (.aload_n 0, 1) := by decide +kernel
theorem dX8_areEnough_41 : decode cX8_areEnough 41 = .ok (.iload 5, 2) := by decide +kernel
theorem dX8_areEnough_43 : decode cX8_areEnough 43 = .ok (.aload_n 0, 1) := by decide +kernel
theorem dX8_areEnough_44 : decode cX8_areEnough 44 = .ok (.getfield 7, 3) := by decide +kernel
theorem dX8_areEnough_47 : decode cX8_areEnough 47 = .ok (.iconst 5, 1) := by decide +kernel
theorem dX8_areEnough_48 : decode cX8_areEnough 48 = .ok (.iload 5, 2) := by decide +kernel
theorem dX8_areEnough_50 : decode cX8_areEnough 50 = .ok (.iadd, 1) := by decide +kernel
theorem dX8_areEnough_51 : decode cX8_areEnough 51 = .ok (.iaload, 1) := by decide +kernel
theorem dX8_areEnough_52 : decode cX8_areEnough 52 = .ok (.iload_n 1, 1) := by decide +kernel
theorem dX8_areEnough_53 : decode cX8_areEnough 53 = .ok (.invokevirtual 257, 3) := by decide +kernel
theorem dX8_areEnough_56 : decode cX8_areEnough 56 = .ok (.ifCond .ne 5, 3) := by decide +kernel
theorem dX8_areEnough_59 : decode cX8_areEnough 59 = .ok (.iconst 0, 1) := by decide +kernel
theorem dX8_areEnough_60 : decode cX8_areEnough 60 = .ok (.ireturn, 1) := by decide +kernel
theorem dX8_areEnough_61 : decode cX8_areEnough 61 = .ok (.iinc 5 1, 3) := by decide +kernel
theorem dX8_areEnough_64 : decode cX8_areEnough 64 = .ok (.goto (-33), 3) := by decide +kernel
theorem dX8_areEnough_67 : decode cX8_areEnough 67 = .ok (.iinc 4 1, 3) := by decide +kernel
theorem dX8_areEnough_70 : decode cX8_areEnough 70 = .ok (.goto (-67), 3) := by decide +kernel
theorem dX8_areEnough_73 : decode cX8_areEnough 73 = .ok (.iconst 1, 1) := by decide +kernel
theorem dX8_areEnough_74 : decode cX8_areEnough 74 = .ok (.ireturn, 1) := by decide +kernel
set_option maxRecDepth 20000 in
theorem wX8_areEnough_31_b {p : Program} {l : Launch} {e : Env} {s : State} {m : MethodId} {args : Array Value} {below : List Frame} {meth : Method} {c : Code} {Z : XG} {r : Int32} {S' : Mem} (E : XE p s m args meth c cX8_areEnough 6 RX8 (some .boolean) mL Z) (k0 : Mem → Int32 → Int32 → Int32 → O)  (k1 : Mem → Int32 → Int32 → Int32 → Int32 → O)  (hk0 : ∀ (S : Mem) (x1 x3 x4 : Int32), k0 S x1 x3 x4 = some (r, S') → WN p l e { frames := 4, cells := 0, slots := 0, locals := 99 } s m args below meth c mL Z (XQ mL Z r S') S 3 6 [(0, .ref (Z.2.1 0)), (1, .int x1), (3, .int x3), (4, .int x4)] []) (hk1 : ∀ (S : Mem) (x1 x3 x4 x5 : Int32), k1 S x1 x3 x4 x5 = some (r, S') → WN p l e { frames := 4, cells := 0, slots := 0, locals := 99 } s m args below meth c mL Z (XQ mL Z r S') S 31 6 [(0, .ref (Z.2.1 0)), (1, .int x1), (3, .int x3), (4, .int x4), (5, .int x5)] []) : ∀ (S : Mem) (x1 x3 x4 x5 : Int32), fX8_areEnough_31_b k0 k1 S x1 x3 x4 x5 = some (r, S') → WN p l e { frames := 4, cells := 0, slots := 0, locals := 99 } s m args below meth c mL Z (XQ mL Z r S') S 31 6 [(0, .ref (Z.2.1 0)), (1, .int x1), (3, .int x3), (4, .int x4), (5, .int x5)] [] := by
  obtain ⟨hx, hb, -, -, -, -, -, -, -, hQ⟩ := id E
  intro S x1 x3 x4 x5 h H locs ls X hl
  unfold fX8_areEnough_31_b at h
  refine lv_iload hx hb dX8_areEnough_31 (lv_at hl 4 rfl) ?_
  refine lv_aload_n hx hb dX8_areEnough_33 rfl (lv_at hl 0 rfl) ?_
  refine x_get E X ffX8_100 rfl rfl dX8_areEnough_34 ?_
  refine lv_icmp_ge (tgt := 67) hx hb dX8_areEnough_37 (by decide) (fun c_1 => ?_) (fun c_1 => ?_)
  · have h := if_t c_1 h
    refine lv_iinc (v := (x4 + (1 : Int32))) (lv' := [(4, .int (x4 + (1 : Int32))), (0, .ref (Z.2.1 0)), (1, .int x1), (3, .int x3), (5, .int x5)]) hx hb dX8_areEnough_67 hl (k := 3) rfl rfl (by decide) rfl (fun ls hl => ?_)
    refine lv_goto (tgt := 3) hx hb dX8_areEnough_70 (by decide) ?_
    exact hk0 S x1 x3 (x4 + (1 : Int32)) h _ _ _ X (lv_sub hl [1, 2, 3, 0] rfl)
  · have h := if_f c_1 h
    refine lv_aload_n hx hb dX8_areEnough_40 rfl (lv_at hl 0 rfl) ?_
    refine lv_iload hx hb dX8_areEnough_41 (lv_at hl 4 rfl) ?_
    refine lv_aload_n hx hb dX8_areEnough_43 rfl (lv_at hl 0 rfl) ?_
    refine x_getr E X ffX8_7 rfl rfl dX8_areEnough_44 ?_
    refine lv_iconst (v := (5 : Int32)) hx hb dX8_areEnough_47 (by decide) ?_
    refine lv_iload hx hb dX8_areEnough_48 (lv_at hl 4 rfl) ?_
    refine lv_iadd hx hb dX8_areEnough_50 ?_
    obtain ⟨g_2, h⟩ := gd_s h
    refine x_iald E X rfl g_2 dX8_areEnough_51 ?_
    refine lv_iload_n hx hb dX8_areEnough_52 rfl (lv_at hl 1 rfl) ?_
    obtain ⟨r_3, S_4, hr_3, h⟩ := bnd_s h
    refine x_callV E X cwX8_257 (mX8_isShadedAt l Z hQ  x5 (S 1 (((5 : Int32) + x5)).toNatClampNeg) x1 hr_3) rfl rfl rfl rfl hl.1 rfl dX8_areEnough_53 (fun H locs X => ?_)
    refine lv_if_ne (tgt := 61) hx hb dX8_areEnough_56 (by decide) (fun c_5 => ?_) (fun c_5 => ?_)
    · have h := if_f c_5 h
      refine lv_iinc (v := (x5 + (1 : Int32))) (lv' := [(5, .int (x5 + (1 : Int32))), (0, .ref (Z.2.1 0)), (1, .int x1), (3, .int x3), (4, .int x4)]) hx hb dX8_areEnough_61 hl (k := 4) rfl rfl (by decide) rfl (fun ls hl => ?_)
      refine lv_goto (tgt := 31) hx hb dX8_areEnough_64 (by decide) ?_
      exact hk1 S_4 x1 x3 x4 (x5 + (1 : Int32)) h _ _ _ X (lv_sub hl [1, 2, 3, 4, 0] rfl)
    · have h := if_t c_5 h
      refine lv_iconst (v := (0 : Int32)) hx hb dX8_areEnough_59 (by decide) ?_
      exact x_zret E X rfl h dX8_areEnough_60
theorem wX8_areEnough_31 {p : Program} {l : Launch} {e : Env} {s : State} {m : MethodId} {args : Array Value} {below : List Frame} {meth : Method} {c : Code} {Z : XG} {r : Int32} {S' : Mem} (E : XE p s m args meth c cX8_areEnough 6 RX8 (some .boolean) mL Z) (k0 : Mem → Int32 → Int32 → Int32 → O)  (hk0 : ∀ (S : Mem) (x1 x3 x4 : Int32), k0 S x1 x3 x4 = some (r, S') → WN p l e { frames := 4, cells := 0, slots := 0, locals := 99 } s m args below meth c mL Z (XQ mL Z r S') S 3 6 [(0, .ref (Z.2.1 0)), (1, .int x1), (3, .int x3), (4, .int x4)] []) : ∀ (n : Nat) (S : Mem) (x1 x3 x4 x5 : Int32), fX8_areEnough_31 k0 n S x1 x3 x4 x5 = some (r, S') → WN p l e { frames := 4, cells := 0, slots := 0, locals := 99 } s m args below meth c mL Z (XQ mL Z r S') S 31 6 [(0, .ref (Z.2.1 0)), (1, .int x1), (3, .int x3), (4, .int x4), (5, .int x5)] [] := by
  intro n
  induction n with
  | zero => intro S x1 x3 x4 x5 h; exact absurd (show (none : O) = some _ from h) (by simp)
  | succ n ih => intro S x1 x3 x4 x5 h; exact wX8_areEnough_31_b E k0 (fX8_areEnough_31 k0 n) hk0 ih S x1 x3 x4 x5 h
set_option maxRecDepth 20000 in
theorem wX8_areEnough_3_b {p : Program} {l : Launch} {e : Env} {s : State} {m : MethodId} {args : Array Value} {below : List Frame} {meth : Method} {c : Code} {Z : XG} {r : Int32} {S' : Mem} (E : XE p s m args meth c cX8_areEnough 6 RX8 (some .boolean) mL Z) (k0 : Mem → Int32 → Int32 → Int32 → O)  (hk0 : ∀ (S : Mem) (x1 x3 x4 : Int32), k0 S x1 x3 x4 = some (r, S') → WN p l e { frames := 4, cells := 0, slots := 0, locals := 99 } s m args below meth c mL Z (XQ mL Z r S') S 3 6 [(0, .ref (Z.2.1 0)), (1, .int x1), (3, .int x3), (4, .int x4)] []) : ∀ (S : Mem) (x1 x3 x4 : Int32), fX8_areEnough_3_b k0 S x1 x3 x4 = some (r, S') → WN p l e { frames := 4, cells := 0, slots := 0, locals := 99 } s m args below meth c mL Z (XQ mL Z r S') S 3 6 [(0, .ref (Z.2.1 0)), (1, .int x1), (3, .int x3), (4, .int x4)] [] := by
  obtain ⟨hx, hb, -, -, -, -, -, -, -, hQ⟩ := id E
  intro S x1 x3 x4 h H locs ls X hl
  unfold fX8_areEnough_3_b at h
  refine lv_iload hx hb dX8_areEnough_3 (lv_at hl 3 rfl) ?_
  refine lv_iload_n hx hb dX8_areEnough_5 rfl (lv_at hl 2 rfl) ?_
  refine lv_icmp_gt (tgt := 73) hx hb dX8_areEnough_6 (by decide) (fun c_1 => ?_) (fun c_1 => ?_)
  · have h := if_t c_1 h
    refine lv_iconst (v := (1 : Int32)) hx hb dX8_areEnough_73 (by decide) ?_
    exact x_zret E X rfl h dX8_areEnough_74
  · have h := if_f c_1 h
    refine lv_aload_n hx hb dX8_areEnough_9 rfl (lv_at hl 0 rfl) ?_
    refine lv_iload hx hb dX8_areEnough_10 (lv_at hl 3 rfl) ?_
    refine lv_aload_n hx hb dX8_areEnough_12 rfl (lv_at hl 0 rfl) ?_
    refine x_getr E X ffX8_16 rfl rfl dX8_areEnough_13 ?_
    refine lv_iconst (v := (5 : Int32)) hx hb dX8_areEnough_16 (by decide) ?_
    refine lv_iload hx hb dX8_areEnough_17 (lv_at hl 3 rfl) ?_
    refine lv_imul hx hb dX8_areEnough_19 ?_
    refine lv_iconst (v := (3 : Int32)) hx hb dX8_areEnough_20 (by decide) ?_
    refine lv_iadd hx hb dX8_areEnough_21 ?_
    obtain ⟨g_2, h⟩ := gd_s h
    refine x_iald E X rfl g_2 dX8_areEnough_22 ?_
    refine lv_iload_n hx hb dX8_areEnough_23 rfl (lv_at hl 1 rfl) ?_
    refine lv_iconst (v := (1 : Int32)) hx hb dX8_areEnough_24 (by decide) ?_
    obtain ⟨r_3, S_4, hr_3, h⟩ := bnd_s h
    refine x_callVv E X cwX8_253 (mX8_findsShade l Z hQ  x4 (S 3 ((((5 : Int32) * x4) + (3 : Int32))).toNatClampNeg) x1 (1 : Int32) hr_3) rfl rfl rfl rfl hl.1 rfl dX8_areEnough_25 (fun H locs X => ?_)
    refine lv_iconst (v := (0 : Int32)) hx hb dX8_areEnough_28 (by decide) ?_
    refine lv_istore (lv' := [(5, .int (0 : Int32)), (0, .ref (Z.2.1 0)), (1, .int x1), (3, .int x3), (4, .int x4)]) hx hb dX8_areEnough_29 hl (by decide) rfl (fun ls hl => ?_)
    exact wX8_areEnough_31 E k0 hk0 FU S_4 x1 x3 x4 (0 : Int32) h _ _ _ X (lv_sub hl [1, 2, 3, 4, 0] rfl)
theorem wX8_areEnough_3 {p : Program} {l : Launch} {e : Env} {s : State} {m : MethodId} {args : Array Value} {below : List Frame} {meth : Method} {c : Code} {Z : XG} {r : Int32} {S' : Mem} (E : XE p s m args meth c cX8_areEnough 6 RX8 (some .boolean) mL Z) : ∀ (n : Nat) (S : Mem) (x1 x3 x4 : Int32), fX8_areEnough_3 n S x1 x3 x4 = some (r, S') → WN p l e { frames := 4, cells := 0, slots := 0, locals := 99 } s m args below meth c mL Z (XQ mL Z r S') S 3 6 [(0, .ref (Z.2.1 0)), (1, .int x1), (3, .int x3), (4, .int x4)] [] := by
  intro n
  induction n with
  | zero => intro S x1 x3 x4 h; exact absurd (show (none : O) = some _ from h) (by simp)
  | succ n ih => intro S x1 x3 x4 h; exact wX8_areEnough_3_b E (fX8_areEnough_3 n) ih S x1 x3 x4 h
set_option maxRecDepth 20000 in
theorem wX8_areEnough {p : Program} {l : Launch} {e : Env} {s : State} {m : MethodId} {args : Array Value} {below : List Frame} {meth : Method} {c : Code} {Z : XG} {r : Int32} {S' : Mem} (E : XE p s m args meth c cX8_areEnough 6 RX8 (some .boolean) mL Z) : ∀ (S : Mem) (x1 x2 x3 : Int32), fX8_areEnough  S x1 x2 x3 = some (r, S') → WN p l e { frames := 4, cells := 0, slots := 0, locals := 99 } s m args below meth c mL Z (XQ mL Z r S') S 0 6 [(0, .ref (Z.2.1 0)), (1, .int x1), (2, .int x2), (3, .int x3)] [] := by
  obtain ⟨hx, hb, -, -, -, -, -, -, -, hQ⟩ := id E
  intro S x1 x2 x3 h H locs ls X hl
  unfold fX8_areEnough at h
  refine lv_iload_n hx hb dX8_areEnough_0 rfl (lv_at hl 2 rfl) ?_
  refine lv_istore (lv' := [(4, .int x2), (0, .ref (Z.2.1 0)), (1, .int x1), (2, .int x2), (3, .int x3)]) hx hb dX8_areEnough_1 hl (by decide) rfl (fun ls hl => ?_)
  exact wX8_areEnough_3 E   FU S x1 x3 x2 h _ _ _ X (lv_sub hl [1, 2, 4, 0] rfl)
/-- SevenToAShadowModel.areEnough(III)Z -/
theorem mX8_areEnough (l : Launch) (Z : XG) (hQ : wQ (List.length mL) Z) {S S' : Mem} {r : Int32} (x1 x2 x3 : Int32) (h : fX8_areEnough S x1 x2 x3 = some (r, S')) : XM l yX8_areEnough cX8_areEnough 6 (some .boolean) { frames := 4, cells := 0, slots := 0, locals := 99 } mL Z [.ref (Z.2.1 0), .int x1, .int x2, .int x3] S (XQ mL Z r S') := by
  refine XM.of (own := RX8) (by decide +kernel) rfl rfl hQ (fun p e s m args below meth c E ls hl X => ?_)
  exact wX8_areEnough E S x1 x2 x3 h _ _ _ X hl
