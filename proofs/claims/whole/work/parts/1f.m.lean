def fX8_fewest_67 (k0 : Mem → Int32 → Int32 → Int32 → Int32 → O) (S : Mem) (x1 x2 x3 x4 : Int32) : O := k0 S x1 x2 x3 (x4 + (1 : Int32))
def fX8_fewest_28_b (k0 : Mem → Int32 → Int32 → Int32 → Int32 → O) (S : Mem) (x1 x2 x3 x4 : Int32) : O := (if ((1 : Int32) <<< ((S 0 6) &&& 31)) ≤ x4 then some (x3, S) else bnd (fX8_ones S x4) fun r_2 S_3 => bnd (fX8_ones S_3 x3) fun r_4 S_5 => (if r_4 ≤ r_2 then fX8_fewest_67 k0 S_5 x1 x2 x3 x4 else bnd (fX8_areEnough S_5 x4 x1 x2) fun r_7 S_8 => (if r_7 = 0 then fX8_fewest_67 k0 S_8 x1 x2 x3 x4 else fX8_fewest_67 k0 S_8 x1 x2 x4 x4)))
def fX8_fewest_28 : Nat → Mem → Int32 → Int32 → Int32 → Int32 → O
  | 0 => fun _ _ _ _ _ => none
  | n + 1 => fX8_fewest_28_b (fX8_fewest_28 n)
def fX8_fewest (S : Mem) (x1 x2 : Int32) : O := ltm (mset S 0 0 (0 : Int32)) fun S_1 => bnd (fX8_areHours S_1 x1 x2) fun r_2 S_3 => (if r_2 = 0 then some ((-1 : Int32), S_3) else lti (((1 : Int32) <<< ((S_3 0 6) &&& 31)) - (1 : Int32)) fun x3_5 => fX8_fewest_28  FU S_3 x1 x2 x3_5 (0 : Int32))
theorem dX8_fewest_0 : decode cX8_fewest 0 = .ok (.aload_n 0, 1) := by decide +kernel
theorem dX8_fewest_1 : decode cX8_fewest 1 = .ok (.iconst 0, 1) := by decide +kernel
theorem dX8_fewest_2 : decode cX8_fewest 2 = .ok (.putfield 92, 3) := by decide +kernel
theorem dX8_fewest_5 : decode cX8_fewest 5 = .ok (.aload_n 0, 1) := by decide +kernel
theorem dX8_fewest_6 : decode cX8_fewest 6 = .ok (.iload_n 1, 1) := by decide +kernel
theorem dX8_fewest_7 : decode cX8_fewest 7 = .ok (.iload_n 2, 1) := by decide +kernel
theorem dX8_fewest_8 : decode cX8_fewest 8 = .ok (.invokevirtual 321, 3) := by decide +kernel
theorem dX8_fewest_11 : decode cX8_fewest 11 = .ok (.ifCond .ne 5, 3) := by decide +kernel
theorem dX8_fewest_14 : decode cX8_fewest 14 = .ok (.iconst (-1), 1) := by decide +kernel
theorem dX8_fewest_15 : decode cX8_fewest 15 = .ok (.ireturn, 1) := by decide +kernel
theorem dX8_fewest_16 : decode cX8_fewest 16 = .ok (.iconst 1, 1) := by decide +kernel
theorem dX8_fewest_17 : decode cX8_fewest 17 = .ok (.aload_n 0, 1) := by decide +kernel
theorem dX8_fewest_18 : decode cX8_fewest 18 = .ok (.getfield 100, 3) := by decide +kernel
theorem dX8_fewest_21 : decode cX8_fewest 21 = .ok (.ishl, 1) := by decide +kernel
theorem dX8_fewest_22 : decode cX8_fewest 22 = .ok (.iconst 1, 1) := by decide +kernel
theorem dX8_fewest_23 : decode cX8_fewest 23 = .ok (.isub, 1) := by decide +kernel
theorem dX8_fewest_24 : decode cX8_fewest 24 = .ok (.istore_n 3, 1) := by decide +kernel
theorem dX8_fewest_25 : decode cX8_fewest 25 = .ok (.iconst 0, 1) := by decide +kernel
theorem dX8_fewest_26 : decode cX8_fewest 26 = .ok (.istore 4, 2) := by decide +kernel
theorem dX8_fewest_28 : decode cX8_fewest 28 = .ok (.iload 4, 2) := by decide +kernel
theorem dX8_fewest_30 : decode cX8_fewest 30 = .ok (.iconst 1, 1) := by decide +kernel
theorem dX8_fewest_31 : decode cX8_fewest 31 = .ok (.aload_n 0, 1) := by decide +kernel
theorem dX8_fewest_32 : decode cX8_fewest 32 = .ok (.getfield 100, 3) := by decide +kernel
theorem dX8_fewest_35 : decode cX8_fewest 35 = .ok (.ishl, 1) := by decide +kernel
theorem dX8_fewest_36 : decode cX8_fewest 36 = .ok (.if_icmp .ge 37, 3) := by decide +kernel
theorem dX8_fewest_39 : decode cX8_fewest 39 = .ok (.aload_n 0, 1) := by decide +kernel
theorem dX8_fewest_40 : decode cX8_fewest 40 = .ok (.iload 4, 2) := by decide +kernel
theorem dX8_fewest_42 : decode cX8_fewest 42 = .ok (.invokevirtual 327, 3) := by decide +kernel
theorem dX8_fewest_45 : decode cX8_fewest 45 = .ok (.aload_n 0, 1) := by decide +kernel
theorem dX8_fewest_46 : decode cX8_fewest 46 = .ok (.iload_n 3, 1) := by decide +kernel
theorem dX8_fewest_47 : decode cX8_fewest 47 = .ok (.invokevirtual 327, 3) := by decide +kernel
theorem dX8_fewest_50 : decode cX8_fewest 50 = .ok (.if_icmp .ge 17, 3) := by decide +kernel
theorem dX8_fewest_53 : decode cX8_fewest 53 = .ok (.aload_n 0, 1) := by decide +kernel
theorem dX8_fewest_54 : decode cX8_fewest 54 = .ok (.iload 4, 2) := by decide +kernel
theorem dX8_fewest_56 : decode cX8_fewest 56 = .ok (.iload_n 1, 1) := by decide +kernel
theorem dX8_fewest_57 : decode cX8_fewest 57 = .ok (.iload_n 2, 1) := by decide +kernel
theorem dX8_fewest_58 : decode cX8_fewest 58 = .ok (.invokevirtual 330, 3) := by decide +kernel
theorem dX8_fewest_61 : decode cX8_fewest 61 = .ok (.ifCond .eq 6, 3) := by decide +kernel
theorem dX8_fewest_64 : decode cX8_fewest 64 = .ok (.iload 4, 2) := by decide +kernel
theorem dX8_fewest_66 : decode cX8_fewest 66 = .ok (.istore_n 3, 1) := by decide +kernel
theorem dX8_fewest_67 : decode cX8_fewest 67 = .ok (.iinc 4 1, 3) := by decide +kernel
theorem dX8_fewest_70 : decode cX8_fewest 70 = .ok (.goto (-42), 3) := by decide +kernel
theorem dX8_fewest_73 : decode cX8_fewest 73 = .ok (.iload_n 3, 1) := by decide +kernel
theorem dX8_fewest_74 : decode cX8_fewest 74 = .ok (.ireturn, 1) := by decide +kernel
set_option maxRecDepth 20000 in
theorem wX8_fewest_67 {p : Program} {l : Launch} {e : Env} {s : State} {m : MethodId} {args : Array Value} {below : List Frame} {meth : Method} {c : Code} {Z : XG} {r : Int32} {S' : Mem} (E : XE p s m args meth c cX8_fewest 5 RX8 (some .int) mL Z) (k0 : Mem → Int32 → Int32 → Int32 → Int32 → O)  (hk0 : ∀ (S : Mem) (x1 x2 x3 x4 : Int32), k0 S x1 x2 x3 x4 = some (r, S') → WN p l e { frames := 5, cells := 0, slots := 0, locals := 124 } s m args below meth c mL Z (XQ mL Z r S') S 28 5 [(0, .ref (Z.2.1 0)), (1, .int x1), (2, .int x2), (3, .int x3), (4, .int x4)] []) : ∀ (S : Mem) (x1 x2 x3 x4 : Int32), fX8_fewest_67 k0 S x1 x2 x3 x4 = some (r, S') → WN p l e { frames := 5, cells := 0, slots := 0, locals := 124 } s m args below meth c mL Z (XQ mL Z r S') S 67 5 [(0, .ref (Z.2.1 0)), (1, .int x1), (2, .int x2), (3, .int x3), (4, .int x4)] [] := by
  obtain ⟨hx, hb, -, -, -, -, -, -, -, hQ⟩ := id E
  intro S x1 x2 x3 x4 h H locs ls X hl
  unfold fX8_fewest_67 at h
  refine lv_iinc (v := (x4 + (1 : Int32))) (lv' := [(4, .int (x4 + (1 : Int32))), (0, .ref (Z.2.1 0)), (1, .int x1), (2, .int x2), (3, .int x3)]) hx hb dX8_fewest_67 hl (k := 4) rfl rfl (by decide) rfl (fun ls hl => ?_)
  refine lv_goto (tgt := 28) hx hb dX8_fewest_70 (by decide) ?_
  exact hk0 S x1 x2 x3 (x4 + (1 : Int32)) h _ _ _ X (lv_sub hl [1, 2, 3, 4, 0] rfl)
set_option maxRecDepth 20000 in
theorem wX8_fewest_28_b {p : Program} {l : Launch} {e : Env} {s : State} {m : MethodId} {args : Array Value} {below : List Frame} {meth : Method} {c : Code} {Z : XG} {r : Int32} {S' : Mem} (E : XE p s m args meth c cX8_fewest 5 RX8 (some .int) mL Z) (k0 : Mem → Int32 → Int32 → Int32 → Int32 → O)  (hk0 : ∀ (S : Mem) (x1 x2 x3 x4 : Int32), k0 S x1 x2 x3 x4 = some (r, S') → WN p l e { frames := 5, cells := 0, slots := 0, locals := 124 } s m args below meth c mL Z (XQ mL Z r S') S 28 5 [(0, .ref (Z.2.1 0)), (1, .int x1), (2, .int x2), (3, .int x3), (4, .int x4)] []) : ∀ (S : Mem) (x1 x2 x3 x4 : Int32), fX8_fewest_28_b k0 S x1 x2 x3 x4 = some (r, S') → WN p l e { frames := 5, cells := 0, slots := 0, locals := 124 } s m args below meth c mL Z (XQ mL Z r S') S 28 5 [(0, .ref (Z.2.1 0)), (1, .int x1), (2, .int x2), (3, .int x3), (4, .int x4)] [] := by
  obtain ⟨hx, hb, -, -, -, -, -, -, -, hQ⟩ := id E
  intro S x1 x2 x3 x4 h H locs ls X hl
  unfold fX8_fewest_28_b at h
  refine lv_iload hx hb dX8_fewest_28 (lv_at hl 4 rfl) ?_
  refine lv_iconst (v := (1 : Int32)) hx hb dX8_fewest_30 (by decide) ?_
  refine lv_aload_n hx hb dX8_fewest_31 rfl (lv_at hl 0 rfl) ?_
  refine x_get E X ffX8_100 rfl rfl dX8_fewest_32 ?_
  refine lv_ishl hx hb dX8_fewest_35 ?_
  refine lv_icmp_ge (tgt := 73) hx hb dX8_fewest_36 (by decide) (fun c_1 => ?_) (fun c_1 => ?_)
  · have h := if_t c_1 h
    refine lv_iload_n hx hb dX8_fewest_73 rfl (lv_at hl 3 rfl) ?_
    exact x_iret E X h dX8_fewest_74
  · have h := if_f c_1 h
    refine lv_aload_n hx hb dX8_fewest_39 rfl (lv_at hl 0 rfl) ?_
    refine lv_iload hx hb dX8_fewest_40 (lv_at hl 4 rfl) ?_
    obtain ⟨r_2, S_3, hr_2, h⟩ := bnd_s h
    refine x_callV E X cwX8_327 (mX8_ones l Z hQ  x4 hr_2) rfl rfl rfl rfl hl.1 rfl dX8_fewest_42 (fun H locs X => ?_)
    refine lv_aload_n hx hb dX8_fewest_45 rfl (lv_at hl 0 rfl) ?_
    refine lv_iload_n hx hb dX8_fewest_46 rfl (lv_at hl 3 rfl) ?_
    obtain ⟨r_4, S_5, hr_4, h⟩ := bnd_s h
    refine x_callV E X cwX8_327 (mX8_ones l Z hQ  x3 hr_4) rfl rfl rfl rfl hl.1 rfl dX8_fewest_47 (fun H locs X => ?_)
    refine lv_icmp_ge (tgt := 67) hx hb dX8_fewest_50 (by decide) (fun c_6 => ?_) (fun c_6 => ?_)
    · have h := if_t c_6 h
      exact wX8_fewest_67 E k0 hk0 S_5 x1 x2 x3 x4 h _ _ _ X hl
    · have h := if_f c_6 h
      refine lv_aload_n hx hb dX8_fewest_53 rfl (lv_at hl 0 rfl) ?_
      refine lv_iload hx hb dX8_fewest_54 (lv_at hl 4 rfl) ?_
      refine lv_iload_n hx hb dX8_fewest_56 rfl (lv_at hl 1 rfl) ?_
      refine lv_iload_n hx hb dX8_fewest_57 rfl (lv_at hl 2 rfl) ?_
      obtain ⟨r_7, S_8, hr_7, h⟩ := bnd_s h
      refine x_callV E X cwX8_330 (mX8_areEnough l Z hQ  x4 x1 x2 hr_7) rfl rfl rfl rfl hl.1 rfl dX8_fewest_58 (fun H locs X => ?_)
      refine lv_if_eq (tgt := 67) hx hb dX8_fewest_61 (by decide) (fun c_9 => ?_) (fun c_9 => ?_)
      · have h := if_t c_9 h
        exact wX8_fewest_67 E k0 hk0 S_8 x1 x2 x3 x4 h _ _ _ X hl
      · have h := if_f c_9 h
        refine lv_iload hx hb dX8_fewest_64 (lv_at hl 4 rfl) ?_
        refine lv_istore_n (lv' := [(3, .int x4), (0, .ref (Z.2.1 0)), (1, .int x1), (2, .int x2), (4, .int x4)]) hx hb dX8_fewest_66 rfl hl (by decide) rfl (fun ls hl => ?_)
        exact wX8_fewest_67 E k0 hk0 S_8 x1 x2 x4 x4 h _ _ _ X (lv_sub hl [1, 2, 3, 0, 4] rfl)
theorem wX8_fewest_28 {p : Program} {l : Launch} {e : Env} {s : State} {m : MethodId} {args : Array Value} {below : List Frame} {meth : Method} {c : Code} {Z : XG} {r : Int32} {S' : Mem} (E : XE p s m args meth c cX8_fewest 5 RX8 (some .int) mL Z) : ∀ (n : Nat) (S : Mem) (x1 x2 x3 x4 : Int32), fX8_fewest_28 n S x1 x2 x3 x4 = some (r, S') → WN p l e { frames := 5, cells := 0, slots := 0, locals := 124 } s m args below meth c mL Z (XQ mL Z r S') S 28 5 [(0, .ref (Z.2.1 0)), (1, .int x1), (2, .int x2), (3, .int x3), (4, .int x4)] [] := by
  intro n
  induction n with
  | zero => intro S x1 x2 x3 x4 h; exact absurd (show (none : O) = some _ from h) (by simp)
  | succ n ih => intro S x1 x2 x3 x4 h; exact wX8_fewest_28_b E (fX8_fewest_28 n) ih S x1 x2 x3 x4 h
set_option maxRecDepth 20000 in
theorem wX8_fewest {p : Program} {l : Launch} {e : Env} {s : State} {m : MethodId} {args : Array Value} {below : List Frame} {meth : Method} {c : Code} {Z : XG} {r : Int32} {S' : Mem} (E : XE p s m args meth c cX8_fewest 5 RX8 (some .int) mL Z) : ∀ (S : Mem) (x1 x2 : Int32), fX8_fewest  S x1 x2 = some (r, S') → WN p l e { frames := 5, cells := 0, slots := 0, locals := 124 } s m args below meth c mL Z (XQ mL Z r S') S 0 5 [(0, .ref (Z.2.1 0)), (1, .int x1), (2, .int x2)] [] := by
  obtain ⟨hx, hb, -, -, -, -, -, -, -, hQ⟩ := id E
  intro S x1 x2 h H locs ls X hl
  unfold fX8_fewest at h
  refine lv_aload_n hx hb dX8_fewest_0 rfl (lv_at hl 0 rfl) ?_
  refine lv_iconst (v := (0 : Int32)) hx hb dX8_fewest_1 (by decide) ?_
  obtain ⟨S_1, eS_1, h⟩ := ltm_s h
  refine x_put E X fpX8_92 rfl rfl dX8_fewest_2 (fun H locs X => ?_)
  rw [← eS_1] at X
  refine lv_aload_n hx hb dX8_fewest_5 rfl (lv_at hl 0 rfl) ?_
  refine lv_iload_n hx hb dX8_fewest_6 rfl (lv_at hl 1 rfl) ?_
  refine lv_iload_n hx hb dX8_fewest_7 rfl (lv_at hl 2 rfl) ?_
  obtain ⟨r_2, S_3, hr_2, h⟩ := bnd_s h
  refine x_callV E X cwX8_321 (mX8_areHours l Z hQ  x1 x2 hr_2) rfl rfl rfl rfl hl.1 rfl dX8_fewest_8 (fun H locs X => ?_)
  refine lv_if_ne (tgt := 16) hx hb dX8_fewest_11 (by decide) (fun c_4 => ?_) (fun c_4 => ?_)
  · have h := if_f c_4 h
    refine lv_iconst (v := (1 : Int32)) hx hb dX8_fewest_16 (by decide) ?_
    refine lv_aload_n hx hb dX8_fewest_17 rfl (lv_at hl 0 rfl) ?_
    refine x_get E X ffX8_100 rfl rfl dX8_fewest_18 ?_
    refine lv_ishl hx hb dX8_fewest_21 ?_
    refine lv_iconst (v := (1 : Int32)) hx hb dX8_fewest_22 (by decide) ?_
    refine lv_isub hx hb dX8_fewest_23 ?_
    obtain ⟨x3_5, ex3_5, h⟩ := lti_s h
    refine lv_nm ex3_5 ?_
    refine lv_istore_n (lv' := [(3, .int x3_5), (0, .ref (Z.2.1 0)), (1, .int x1), (2, .int x2)]) hx hb dX8_fewest_24 rfl hl (by decide) rfl (fun ls hl => ?_)
    refine lv_iconst (v := (0 : Int32)) hx hb dX8_fewest_25 (by decide) ?_
    refine lv_istore (lv' := [(4, .int (0 : Int32)), (3, .int x3_5), (0, .ref (Z.2.1 0)), (1, .int x1), (2, .int x2)]) hx hb dX8_fewest_26 hl (by decide) rfl (fun ls hl => ?_)
    exact wX8_fewest_28 E   FU S_3 x1 x2 x3_5 (0 : Int32) h _ _ _ X (lv_sub hl [2, 3, 4, 1, 0] rfl)
  · have h := if_t c_4 h
    refine lv_iconst (v := (-1 : Int32)) hx hb dX8_fewest_14 (by decide) ?_
    exact x_iret E X h dX8_fewest_15
/-- SevenToAShadowModel.fewest(II)I -/
theorem mX8_fewest (l : Launch) (Z : XG) (hQ : wQ (List.length mL) Z) {S S' : Mem} {r : Int32} (x1 x2 : Int32) (h : fX8_fewest S x1 x2 = some (r, S')) : XM l yX8_fewest cX8_fewest 5 (some .int) { frames := 5, cells := 0, slots := 0, locals := 124 } mL Z [.ref (Z.2.1 0), .int x1, .int x2] S (XQ mL Z r S') := by
  refine XM.of (own := RX8) (by decide +kernel) rfl rfl hQ (fun p e s m args below meth c E ls hl X => ?_)
  exact wX8_fewest E S x1 x2 h _ _ _ X hl
def fX8_burnIn (S : Mem) (x1 x2 : Int32) : O := bnd (fX8_isShaded S x1) fun r_1 S_2 => (if r_1 = 0 then gd (inB (((5 : Int32) * x2) + (2 : Int32)) 60) <| gd (inB x1 10) <| some (((S_2 3 ((((5 : Int32) * x2) + (2 : Int32))).toNatClampNeg) * (S_2 7 (x1).toNatClampNeg)), S_2) else some ((0 : Int32), S_2))
theorem dX8_burnIn_0 : decode cX8_burnIn 0 = .ok (.aload_n 0, 1) := by decide +kernel
theorem dX8_burnIn_1 : decode cX8_burnIn 1 = .ok (.iload_n 1, 1) := by decide +kernel
theorem dX8_burnIn_2 : decode cX8_burnIn 2 = .ok (.invokevirtual 260, 3) := by decide +kernel
theorem dX8_burnIn_5 : decode cX8_burnIn 5 = .ok (.ifCond .eq 7, 3) := by decide +kernel
theorem dX8_burnIn_8 : decode cX8_burnIn 8 = .ok (.iconst 0, 1) := by decide +kernel
theorem dX8_burnIn_9 : decode cX8_burnIn 9 = .ok (.goto 20, 3) := by decide +kernel
theorem dX8_burnIn_12 : decode cX8_burnIn 12 = .ok (.aload_n 0, 1) := by decide +kernel
theorem dX8_burnIn_13 : decode cX8_burnIn 13 = .ok (.getfield 16, 3) := by decide +kernel
theorem dX8_burnIn_16 : decode cX8_burnIn 16 = .ok (.iconst 5, 1) := by decide +kernel
theorem dX8_burnIn_17 : decode cX8_burnIn 17 = .ok (.iload_n 2, 1) := by decide +kernel
theorem dX8_burnIn_18 : decode cX8_burnIn 18 = .ok (.imul, 1) := by decide +kernel
theorem dX8_burnIn_19 : decode cX8_burnIn 19 = .ok (.iconst 2, 1) := by decide +kernel
theorem dX8_burnIn_20 : decode cX8_burnIn 20 = .ok (.iadd, 1) := by decide +kernel
theorem dX8_burnIn_21 : decode cX8_burnIn 21 = .ok (.iaload, 1) := by decide +kernel
theorem dX8_burnIn_22 : decode cX8_burnIn 22 = .ok (.aload_n 0, 1) := by decide +kernel
theorem dX8_burnIn_23 : decode cX8_burnIn 23 = .ok (.getfield 28, 3) := by decide +kernel
theorem dX8_burnIn_26 : decode cX8_burnIn 26 = .ok (.iload_n 1, 1) := by decide +kernel
theorem dX8_burnIn_27 : decode cX8_burnIn 27 = .ok (.iaload, 1) := by decide +kernel
theorem dX8_burnIn_28 : decode cX8_burnIn 28 = .ok (.imul, 1) := by decide +kernel
theorem dX8_burnIn_29 : decode cX8_burnIn 29 = .ok (.ireturn, 1) := by decide +kernel
set_option maxRecDepth 20000 in
theorem wX8_burnIn {p : Program} {l : Launch} {e : Env} {s : State} {m : MethodId} {args : Array Value} {below : List Frame} {meth : Method} {c : Code} {Z : XG} {r : Int32} {S' : Mem} (E : XE p s m args meth c cX8_burnIn 3 RX8 (some .int) mL Z) : ∀ (S : Mem) (x1 x2 : Int32), fX8_burnIn  S x1 x2 = some (r, S') → WN p l e { frames := 2, cells := 0, slots := 0, locals := 44 } s m args below meth c mL Z (XQ mL Z r S') S 0 3 [(0, .ref (Z.2.1 0)), (1, .int x1), (2, .int x2)] [] := by
  obtain ⟨hx, hb, -, -, -, -, -, -, -, hQ⟩ := id E
  intro S x1 x2 h H locs ls X hl
  unfold fX8_burnIn at h
  refine lv_aload_n hx hb dX8_burnIn_0 rfl (lv_at hl 0 rfl) ?_
  refine lv_iload_n hx hb dX8_burnIn_1 rfl (lv_at hl 1 rfl) ?_
  obtain ⟨r_1, S_2, hr_1, h⟩ := bnd_s h
  refine x_callV E X cwX8_260 (mX8_isShaded l Z hQ  x1 hr_1) rfl rfl rfl rfl hl.1 rfl dX8_burnIn_2 (fun H locs X => ?_)
  refine lv_if_eq (tgt := 12) hx hb dX8_burnIn_5 (by decide) (fun c_3 => ?_) (fun c_3 => ?_)
  · have h := if_t c_3 h
    refine lv_aload_n hx hb dX8_burnIn_12 rfl (lv_at hl 0 rfl) ?_
    refine x_getr E X ffX8_16 rfl rfl dX8_burnIn_13 ?_
    refine lv_iconst (v := (5 : Int32)) hx hb dX8_burnIn_16 (by decide) ?_
    refine lv_iload_n hx hb dX8_burnIn_17 rfl (lv_at hl 2 rfl) ?_
    refine lv_imul hx hb dX8_burnIn_18 ?_
    refine lv_iconst (v := (2 : Int32)) hx hb dX8_burnIn_19 (by decide) ?_
    refine lv_iadd hx hb dX8_burnIn_20 ?_
    obtain ⟨g_4, h⟩ := gd_s h
    refine x_iald E X rfl g_4 dX8_burnIn_21 ?_
    refine lv_aload_n hx hb dX8_burnIn_22 rfl (lv_at hl 0 rfl) ?_
    refine x_getr E X ffX8_28 rfl rfl dX8_burnIn_23 ?_
    refine lv_iload_n hx hb dX8_burnIn_26 rfl (lv_at hl 1 rfl) ?_
    obtain ⟨g_5, h⟩ := gd_s h
    refine x_iald E X rfl g_5 dX8_burnIn_27 ?_
    refine lv_imul hx hb dX8_burnIn_28 ?_
    exact x_iret E X h dX8_burnIn_29
  · have h := if_f c_3 h
    refine lv_iconst (v := (0 : Int32)) hx hb dX8_burnIn_8 (by decide) ?_
    refine lv_goto (tgt := 29) hx hb dX8_burnIn_9 (by decide) ?_
    exact x_iret E X h dX8_burnIn_29
/-- SevenToAShadowModel.burnIn(II)I -/
theorem mX8_burnIn (l : Launch) (Z : XG) (hQ : wQ (List.length mL) Z) {S S' : Mem} {r : Int32} (x1 x2 : Int32) (h : fX8_burnIn S x1 x2 = some (r, S')) : XM l yX8_burnIn cX8_burnIn 3 (some .int) { frames := 2, cells := 0, slots := 0, locals := 44 } mL Z [.ref (Z.2.1 0), .int x1, .int x2] S (XQ mL Z r S') := by
  refine XM.of (own := RX8) (by decide +kernel) rfl rfl hQ (fun p e s m args below meth c E ls hl X => ?_)
  exact wX8_burnIn E S x1 x2 h _ _ _ X hl
def fX8_turn_166 (k0 : Mem → Int32 → Int32 → Int32 → Int32 → Int32 → Int32 → O) (S : Mem) (x1 x3 x4 x5 x6 x7 : Int32) : O := k0 S x1 x3 x4 x5 x6 (x7 + (1 : Int32))
def fX8_turn_115_b (k0 : Mem → Int32 → Int32 → Int32 → Int32 → Int32 → Int32 → O) (S : Mem) (x1 x3 x4 x5 x6 x7 : Int32) : O := (if (S 0 6) ≤ x7 then (if x3 = 0 then some (x4, S) else some (x5, S)) else bnd (fX8_burnIn S x7 x1) fun r_3 S_4 => lti (x4 - r_3) fun x4_5 => (if ((x6 >>> (x7 &&& 31)) &&& (1 : Int32)) = (1 : Int32) then bnd (fX8_burnIn S_4 x7 x1) fun r_7 S_8 => (if r_7 = 0 then lti (x5 ||| ((1 : Int32) <<< (x7 &&& 31))) fun x5_10 => fX8_turn_166 k0 S_8 x1 x3 x4_5 x5_10 x6 x7 else fX8_turn_166 k0 S_8 x1 x3 x4_5 x5 x6 x7) else fX8_turn_166 k0 S_4 x1 x3 x4_5 x5 x6 x7))
def fX8_turn_115 : Nat → Mem → Int32 → Int32 → Int32 → Int32 → Int32 → Int32 → O
  | 0 => fun _ _ _ _ _ _ _ => none
  | n + 1 => fX8_turn_115_b (fX8_turn_115 n)
def fX8_turn_83 (k0 : Mem → Int32 → Int32 → Int32 → Int32 → Int32 → Int32 → Int32 → O) (S : Mem) (x1 x2 x3 x4 x5 x6 x7 : Int32) : O := bnd (fX8_burnIn S x7 x1) fun r_1 S_2 => lti (x4 + r_1) fun x4_3 => k0 S_2 x1 x2 x3 x4_3 x5 x6 (x7 + (1 : Int32))
def fX8_turn_55_b (k0 : Mem → Int32 → Int32 → Int32 → Int32 → Int32 → Int32 → Int32 → O) (S : Mem) (x1 x2 x3 x4 x5 x6 x7 : Int32) : O := (if (S 0 6) ≤ x7 then bnd (fX8_findsShade S x1 x2 (S 0 10) (1 : Int32)) fun _ S_3 => fX8_turn_115  FU S_3 x1 x3 x4 x5 x6 (0 : Int32) else bnd (fX8_burnIn S x7 x1) fun r_4 S_5 => (if r_4 ≤ 0 then fX8_turn_83 k0 S_5 x1 x2 x3 x4 x5 x6 x7 else lti (x6 ||| ((1 : Int32) <<< (x7 &&& 31))) fun x6_7 => fX8_turn_83 k0 S_5 x1 x2 x3 x4 x5 x6_7 x7))
def fX8_turn_55 : Nat → Mem → Int32 → Int32 → Int32 → Int32 → Int32 → Int32 → Int32 → O
  | 0 => fun _ _ _ _ _ _ _ _ => none
  | n + 1 => fX8_turn_55_b (fX8_turn_55 n)
def fX8_turn (S : Mem) (x1 x2 x3 : Int32) : O := ltm (mset S 0 0 (0 : Int32)) fun S_1 => bnd (fX8_isHour S_1 x1) fun r_2 S_3 => (if r_2 = 0 then some ((-100000 : Int32), S_3) else bnd (fX8_isIn S_3 x2 (0 : Int32) (7 : Int32)) fun r_5 S_6 => (if r_5 = 0 then some ((-100000 : Int32), S_6) else bnd (fX8_isIn S_6 x3 (0 : Int32) (1 : Int32)) fun r_8 S_9 => (if r_8 = 0 then some ((-100000 : Int32), S_9) else bnd (fX8_findsShadeNow S_9 x1) fun _ S_12 => fX8_turn_55  FU S_12 x1 x2 x3 (0 : Int32) (0 : Int32) (0 : Int32) (0 : Int32))))
theorem dX8_turn_0 : decode cX8_turn 0 = .ok (.aload_n 0, 1) := by decide +kernel
theorem dX8_turn_1 : decode cX8_turn 1 = .ok (.iconst 0, 1) := by decide +kernel
theorem dX8_turn_2 : decode cX8_turn 2 = .ok (.putfield 92, 3) := by decide +kernel
theorem dX8_turn_5 : decode cX8_turn 5 = .ok (.aload_n 0, 1) := by decide +kernel
theorem dX8_turn_6 : decode cX8_turn 6 = .ok (.iload_n 1, 1) := by decide +kernel
theorem dX8_turn_7 : decode cX8_turn 7 = .ok (.invokevirtual 103, 3) := by decide +kernel
theorem dX8_turn_10 : decode cX8_turn 10 = .ok (.ifCond .eq 24, 3) := by decide +kernel
theorem dX8_turn_13 : decode cX8_turn 13 = .ok (.aload_n 0, 1) := by decide +kernel
theorem dX8_turn_14 : decode cX8_turn 14 = .ok (.iload_n 2, 1) := by decide +kernel
theorem dX8_turn_15 : decode cX8_turn 15 = .ok (.iconst 0, 1) := by decide +kernel
theorem dX8_turn_16 : decode cX8_turn 16 = .ok (.bipush 7, 2) := by decide +kernel
theorem dX8_turn_18 : decode cX8_turn 18 = .ok (.invokevirtual 107, 3) := by decide +kernel
theorem dX8_turn_21 : decode cX8_turn 21 = .ok (.ifCond .eq 13, 3) := by decide +kernel
theorem dX8_turn_24 : decode cX8_turn 24 = .ok (.aload_n 0, 1) := by decide +kernel
theorem dX8_turn_25 : decode cX8_turn 25 = .ok (.iload_n 3, 1) := by decide +kernel
theorem dX8_turn_26 : decode cX8_turn 26 = .ok (.iconst 0, 1) := by decide +kernel
theorem dX8_turn_27 : decode cX8_turn 27 = .ok (.iconst 1, 1) := by decide +kernel
theorem dX8_turn_28 : decode cX8_turn 28 = .ok (.invokevirtual 107, 3) := by decide +kernel
theorem dX8_turn_31 : decode cX8_turn 31 = .ok (.ifCond .ne 7, 3) := by decide +kernel
theorem dX8_turn_34 : decode cX8_turn 34 = .ok (.ldc_w 333, 3) := by decide +kernel
theorem dX8_turn_37 : decode cX8_turn 37 = .ok (.ireturn, 1) := by decide +kernel
theorem dX8_turn_38 : decode cX8_turn 38 = .ok (.iconst 0, 1) := by decide +kernel
theorem dX8_turn_39 : decode cX8_turn 39 = .ok (.istore 4, 2) := by decide +kernel
theorem dX8_turn_41 : decode cX8_turn 41 = .ok (.iconst 0, 1) := by decide +kernel
theorem dX8_turn_42 : decode cX8_turn 42 = .ok (.istore 5, 2) := by decide +kernel
theorem dX8_turn_44 : decode cX8_turn 44 = .ok (.iconst 0, 1) := by decide +kernel
theorem dX8_turn_45 : decode cX8_turn 45 = .ok (.istore 6, 2) := by decide +kernel
theorem dX8_turn_47 : decode cX8_turn 47 = .ok (.aload_n 0, 1) := by decide +kernel
theorem dX8_turn_48 : decode cX8_turn 48 = .ok (.iload_n 1, 1) := by decide +kernel
theorem dX8_turn_49 : decode cX8_turn 49 = .ok (.invokevirtual 273, 3) := by decide +kernel
theorem dX8_turn_52 : decode cX8_turn 52 = .ok (.iconst 0, 1) := by decide +kernel
theorem dX8_turn_53 : decode cX8_turn 53 = .ok (.istore 7, 2) := by decide +kernel
theorem dX8_turn_55 : decode cX8_turn 55 = .ok (.iload 7, 2) := by decide +kernel
theorem dX8_turn_57 : decode cX8_turn 57 = .ok (.aload_n 0, 1) := by decide +kernel
theorem dX8_turn_58 : decode cX8_turn 58 = .ok (.getfield 100, 3) := by decide +kernel
theorem dX8_turn_61 : decode cX8_turn 61 = .ok (.if_icmp .ge 40, 3) := by decide +kernel
theorem dX8_turn_64 : decode cX8_turn 64 = .ok (.aload_n 0, 1) := by decide +kernel
theorem dX8_turn_65 : decode cX8_turn 65 = .ok (.iload 7, 2) := by decide +kernel
theorem dX8_turn_67 : decode cX8_turn 67 = .ok (.iload_n 1, 1) := by decide +kernel
theorem dX8_turn_68 : decode cX8_turn 68 = .ok (.invokevirtual 334, 3) := by decide +kernel
theorem dX8_turn_71 : decode cX8_turn 71 = .ok (.ifCond .le 12, 3) := by decide +kernel
theorem dX8_turn_74 : decode cX8_turn 74 = .ok (.iload 6, 2) := by decide +kernel
theorem dX8_turn_76 : decode cX8_turn 76 = .ok (.iconst 1, 1) := by decide +kernel
theorem dX8_turn_77 : decode cX8_turn 77 = .ok (.iload 7, 2) := by decide +kernel
theorem dX8_turn_79 : decode cX8_turn 79 = .ok (.ishl, 1) := by decide +kernel
theorem dX8_turn_80 : decode cX8_turn 80 = .ok (.ior, 1) := by decide +kernel
theorem dX8_turn_81 : decode cX8_turn 81 = .ok (.istore 6, 2) := by decide +kernel
theorem dX8_turn_83 : decode cX8_turn 83 = .ok (.iload 4, 2) := by decide +kernel
theorem dX8_turn_85 : decode cX8_turn 85 = .ok (.aload_n 0, 1) := by decide +kernel
theorem dX8_turn_86 : decode cX8_turn 86 = .ok (.iload 7, 2) := by decide +kernel
theorem dX8_turn_88 : decode cX8_turn 88 = .ok (.iload_n 1, 1) := by decide +kernel
theorem dX8_turn_89 : decode cX8_turn 89 = .ok (.invokevirtual 334, 3) := by decide +kernel
theorem dX8_turn_92 : decode cX8_turn 92 = .ok (.iadd, 1) := by decide +kernel
theorem dX8_turn_93 : decode cX8_turn 93 = .ok (.istore 4, 2) := by decide +kernel
theorem dX8_turn_95 : decode cX8_turn 95 = .ok (.iinc 7 1, 3) := by decide +kernel
theorem dX8_turn_98 : decode cX8_turn 98 = .ok (.goto (-43), 3) := by decide +kernel
theorem dX8_turn_101 : decode cX8_turn 101 = .ok (.aload_n 0, 1) := by decide +kernel
theorem dX8_turn_102 : decode cX8_turn 102 = .ok (.iload_n 1, 1) := by decide +kernel
theorem dX8_turn_103 : decode cX8_turn 103 = .ok (.iload_n 2, 1) := by decide +kernel
theorem dX8_turn_104 : decode cX8_turn 104 = .ok (.aload_n 0, 1) := by decide +kernel
theorem dX8_turn_105 : decode cX8_turn 105 = .ok (.getfield 124, 3) := by decide +kernel
theorem dX8_turn_108 : decode cX8_turn 108 = .ok (.iconst 1, 1) := by decide +kernel
theorem dX8_turn_109 : decode cX8_turn 109 = .ok (.invokevirtual 253, 3) := by decide +kernel
theorem dX8_turn_112 : decode cX8_turn 112 = .ok (.iconst 0, 1) := by decide +kernel
theorem dX8_turn_113 : decode cX8_turn 113 = .ok (.istore 7, 2) := by decide +kernel
theorem dX8_turn_115 : decode cX8_turn 115 = .ok (.iload 7, 2) := by decide +kernel
theorem dX8_turn_117 : decode cX8_turn 117 = .ok (.aload_n 0, 1) := by decide +kernel
theorem dX8_turn_118 : decode cX8_turn 118 = .ok (.getfield 100, 3) := by decide +kernel
theorem dX8_turn_121 : decode cX8_turn 121 = .ok (.if_icmp .ge 51, 3) := by decide +kernel
theorem dX8_turn_124 : decode cX8_turn 124 = .ok (.iload 4, 2) := by decide +kernel
theorem dX8_turn_126 : decode cX8_turn 126 = .ok (.aload_n 0, 1) := by decide +kernel
theorem dX8_turn_127 : decode cX8_turn 127 = .ok (.iload 7, 2) := by decide +kernel
theorem dX8_turn_129 : decode cX8_turn 129 = .ok (.iload_n 1, 1) := by decide +kernel
theorem dX8_turn_130 : decode cX8_turn 130 = .ok (.invokevirtual 334, 3) := by decide +kernel
theorem dX8_turn_133 : decode cX8_turn 133 = .ok (.isub, 1) := by decide +kernel
theorem dX8_turn_134 : decode cX8_turn 134 = .ok (.istore 4, 2) := by decide +kernel
theorem dX8_turn_136 : decode cX8_turn 136 = .ok (.iload 6, 2) := by decide +kernel
theorem dX8_turn_138 : decode cX8_turn 138 = .ok (.iload 7, 2) := by decide +kernel
theorem dX8_turn_140 : decode cX8_turn 140 = .ok (.ishr, 1) := by decide +kernel
theorem dX8_turn_141 : decode cX8_turn 141 = .ok (.iconst 1, 1) := by decide +kernel
theorem dX8_turn_142 : decode cX8_turn 142 = .ok (.iand, 1) := by decide +kernel
theorem dX8_turn_143 : decode cX8_turn 143 = .ok (.iconst 1, 1) := by decide +kernel
theorem dX8_turn_144 : decode cX8_turn 144 = .ok (.if_icmp .ne 22, 3) := by decide +kernel
theorem dX8_turn_147 : decode cX8_turn 147 = .ok (.aload_n 0, 1) := by decide +kernel
theorem dX8_turn_148 : decode cX8_turn 148 = .ok (.iload 7, 2) := by decide +kernel
theorem dX8_turn_150 : decode cX8_turn 150 = .ok (.iload_n 1, 1) := by decide +kernel
theorem dX8_turn_151 : decode cX8_turn 151 = .ok (.invokevirtual 334, 3) := by decide +kernel
theorem dX8_turn_154 : decode cX8_turn 154 = .ok (.ifCond .ne 12, 3) := by decide +kernel
theorem dX8_turn_157 : decode cX8_turn 157 = .ok (.iload 5, 2) := by decide +kernel
theorem dX8_turn_159 : decode cX8_turn 159 = .ok (.iconst 1, 1) := by decide +kernel
theorem dX8_turn_160 : decode cX8_turn 160 = .ok (.iload 7, 2) := by decide +kernel
theorem dX8_turn_162 : decode cX8_turn 162 = .ok (.ishl, 1) := by decide +kernel
theorem dX8_turn_163 : decode cX8_turn 163 = .ok (.ior, 1) := by decide +kernel
theorem dX8_turn_164 : decode cX8_turn 164 = .ok (.istore 5, 2) := by decide +kernel
theorem dX8_turn_166 : decode cX8_turn 166 = .ok (.iinc 7 1, 3) := by decide +kernel
theorem dX8_turn_169 : decode cX8_turn 169 = .ok (.goto (-54), 3) := by decide +kernel
theorem dX8_turn_172 : decode cX8_turn 172 = .ok (.iload_n 3, 1) := by decide +kernel
theorem dX8_turn_173 : decode cX8_turn 173 = .ok (.ifCond .ne 8, 3) := by decide +kernel
theorem dX8_turn_176 : decode cX8_turn 176 = .ok (.iload 4, 2) := by decide +kernel
theorem dX8_turn_178 : decode cX8_turn 178 = .ok (.goto 5, 3) := by decide +kernel
theorem dX8_turn_181 : decode cX8_turn 181 = .ok (.iload 5, 2) := by decide +kernel
theorem dX8_turn_183 : decode cX8_turn 183 = .ok (.ireturn, 1) := by decide +kernel
set_option maxRecDepth 20000 in
theorem wX8_turn_166 {p : Program} {l : Launch} {e : Env} {s : State} {m : MethodId} {args : Array Value} {below : List Frame} {meth : Method} {c : Code} {Z : XG} {r : Int32} {S' : Mem} (E : XE p s m args meth c cX8_turn 8 RX8 (some .int) mL Z) (k0 : Mem → Int32 → Int32 → Int32 → Int32 → Int32 → Int32 → O)  (hk0 : ∀ (S : Mem) (x1 x3 x4 x5 x6 x7 : Int32), k0 S x1 x3 x4 x5 x6 x7 = some (r, S') → WN p l e { frames := 5, cells := 0, slots := 0, locals := 120 } s m args below meth c mL Z (XQ mL Z r S') S 115 8 [(0, .ref (Z.2.1 0)), (1, .int x1), (3, .int x3), (4, .int x4), (5, .int x5), (6, .int x6), (7, .int x7)] []) : ∀ (S : Mem) (x1 x3 x4 x5 x6 x7 : Int32), fX8_turn_166 k0 S x1 x3 x4 x5 x6 x7 = some (r, S') → WN p l e { frames := 5, cells := 0, slots := 0, locals := 120 } s m args below meth c mL Z (XQ mL Z r S') S 166 8 [(0, .ref (Z.2.1 0)), (1, .int x1), (3, .int x3), (4, .int x4), (5, .int x5), (6, .int x6), (7, .int x7)] [] := by
  obtain ⟨hx, hb, -, -, -, -, -, -, -, hQ⟩ := id E
  intro S x1 x3 x4 x5 x6 x7 h H locs ls X hl
  unfold fX8_turn_166 at h
  refine lv_iinc (v := (x7 + (1 : Int32))) (lv' := [(7, .int (x7 + (1 : Int32))), (0, .ref (Z.2.1 0)), (1, .int x1), (3, .int x3), (4, .int x4), (5, .int x5), (6, .int x6)]) hx hb dX8_turn_166 hl (k := 6) rfl rfl (by decide) rfl (fun ls hl => ?_)
  refine lv_goto (tgt := 115) hx hb dX8_turn_169 (by decide) ?_
  exact hk0 S x1 x3 x4 x5 x6 (x7 + (1 : Int32)) h _ _ _ X (lv_sub hl [1, 2, 3, 4, 5, 6, 0] rfl)
set_option maxRecDepth 20000 in
theorem wX8_turn_115_b {p : Program} {l : Launch} {e : Env} {s : State} {m : MethodId} {args : Array Value} {below : List Frame} {meth : Method} {c : Code} {Z : XG} {r : Int32} {S' : Mem} (E : XE p s m args meth c cX8_turn 8 RX8 (some .int) mL Z) (k0 : Mem → Int32 → Int32 → Int32 → Int32 → Int32 → Int32 → O)  (hk0 : ∀ (S : Mem) (x1 x3 x4 x5 x6 x7 : Int32), k0 S x1 x3 x4 x5 x6 x7 = some (r, S') → WN p l e { frames := 5, cells := 0, slots := 0, locals := 120 } s m args below meth c mL Z (XQ mL Z r S') S 115 8 [(0, .ref (Z.2.1 0)), (1, .int x1), (3, .int x3), (4, .int x4), (5, .int x5), (6, .int x6), (7, .int x7)] []) : ∀ (S : Mem) (x1 x3 x4 x5 x6 x7 : Int32), fX8_turn_115_b k0 S x1 x3 x4 x5 x6 x7 = some (r, S') → WN p l e { frames := 5, cells := 0, slots := 0, locals := 120 } s m args below meth c mL Z (XQ mL Z r S') S 115 8 [(0, .ref (Z.2.1 0)), (1, .int x1), (3, .int x3), (4, .int x4), (5, .int x5), (6, .int x6), (7, .int x7)] [] := by
  obtain ⟨hx, hb, -, -, -, -, -, -, -, hQ⟩ := id E
  intro S x1 x3 x4 x5 x6 x7 h H locs ls X hl
  unfold fX8_turn_115_b at h
  refine lv_iload hx hb dX8_turn_115 (lv_at hl 6 rfl) ?_
  refine lv_aload_n hx hb dX8_turn_117 rfl (lv_at hl 0 rfl) ?_
  refine x_get E X ffX8_100 rfl rfl dX8_turn_118 ?_
  refine lv_icmp_ge (tgt := 172) hx hb dX8_turn_121 (by decide) (fun c_1 => ?_) (fun c_1 => ?_)
  · have h := if_t c_1 h
    refine lv_iload_n hx hb dX8_turn_172 rfl (lv_at hl 2 rfl) ?_
    refine lv_if_ne (tgt := 181) hx hb dX8_turn_173 (by decide) (fun c_2 => ?_) (fun c_2 => ?_)
    · have h := if_f c_2 h
      refine lv_iload hx hb dX8_turn_181 (lv_at hl 4 rfl) ?_
      exact x_iret E X h dX8_turn_183
    · have h := if_t c_2 h
      refine lv_iload hx hb dX8_turn_176 (lv_at hl 3 rfl) ?_
      refine lv_goto (tgt := 183) hx hb dX8_turn_178 (by decide) ?_
      exact x_iret E X h dX8_turn_183
  · have h := if_f c_1 h
    refine lv_iload hx hb dX8_turn_124 (lv_at hl 3 rfl) ?_
    refine lv_aload_n hx hb dX8_turn_126 rfl (lv_at hl 0 rfl) ?_
    refine lv_iload hx hb dX8_turn_127 (lv_at hl 6 rfl) ?_
    refine lv_iload_n hx hb dX8_turn_129 rfl (lv_at hl 1 rfl) ?_
    obtain ⟨r_3, S_4, hr_3, h⟩ := bnd_s h
    refine x_callV E X cwX8_334 (mX8_burnIn l Z hQ  x7 x1 hr_3) rfl rfl rfl rfl hl.1 rfl dX8_turn_130 (fun H locs X => ?_)
    refine lv_isub hx hb dX8_turn_133 ?_
    obtain ⟨x4_5, ex4_5, h⟩ := lti_s h
    refine lv_nm ex4_5 ?_
    refine lv_istore (lv' := [(4, .int x4_5), (0, .ref (Z.2.1 0)), (1, .int x1), (3, .int x3), (5, .int x5), (6, .int x6), (7, .int x7)]) hx hb dX8_turn_134 hl (by decide) rfl (fun ls hl => ?_)
    refine lv_iload hx hb dX8_turn_136 (lv_at hl 5 rfl) ?_
    refine lv_iload hx hb dX8_turn_138 (lv_at hl 6 rfl) ?_
    refine lv_ishr hx hb dX8_turn_140 ?_
    refine lv_iconst (v := (1 : Int32)) hx hb dX8_turn_141 (by decide) ?_
    refine lv_iand hx hb dX8_turn_142 ?_
    refine lv_iconst (v := (1 : Int32)) hx hb dX8_turn_143 (by decide) ?_
    refine lv_icmp_ne (tgt := 166) hx hb dX8_turn_144 (by decide) (fun c_6 => ?_) (fun c_6 => ?_)
    · have h := if_f c_6 h
      exact wX8_turn_166 E k0 hk0 S_4 x1 x3 x4_5 x5 x6 x7 h _ _ _ X (lv_sub hl [1, 2, 3, 0, 4, 5, 6] rfl)
    · have h := if_t c_6 h
      refine lv_aload_n hx hb dX8_turn_147 rfl (lv_at hl 1 rfl) ?_
      refine lv_iload hx hb dX8_turn_148 (lv_at hl 6 rfl) ?_
      refine lv_iload_n hx hb dX8_turn_150 rfl (lv_at hl 2 rfl) ?_
      obtain ⟨r_7, S_8, hr_7, h⟩ := bnd_s h
      refine x_callV E X cwX8_334 (mX8_burnIn l Z hQ  x7 x1 hr_7) rfl rfl rfl rfl hl.1 rfl dX8_turn_151 (fun H locs X => ?_)
      refine lv_if_ne (tgt := 166) hx hb dX8_turn_154 (by decide) (fun c_9 => ?_) (fun c_9 => ?_)
      · have h := if_f c_9 h
        exact wX8_turn_166 E k0 hk0 S_8 x1 x3 x4_5 x5 x6 x7 h _ _ _ X (lv_sub hl [1, 2, 3, 0, 4, 5, 6] rfl)
      · have h := if_t c_9 h
        refine lv_iload hx hb dX8_turn_157 (lv_at hl 4 rfl) ?_
        refine lv_iconst (v := (1 : Int32)) hx hb dX8_turn_159 (by decide) ?_
        refine lv_iload hx hb dX8_turn_160 (lv_at hl 6 rfl) ?_
        refine lv_ishl hx hb dX8_turn_162 ?_
        refine lv_ior hx hb dX8_turn_163 ?_
        obtain ⟨x5_10, ex5_10, h⟩ := lti_s h
        refine lv_nm ex5_10 ?_
        refine lv_istore (lv' := [(5, .int x5_10), (4, .int x4_5), (0, .ref (Z.2.1 0)), (1, .int x1), (3, .int x3), (6, .int x6), (7, .int x7)]) hx hb dX8_turn_164 hl (by decide) rfl (fun ls hl => ?_)
        exact wX8_turn_166 E k0 hk0 S_8 x1 x3 x4_5 x5_10 x6 x7 h _ _ _ X (lv_sub hl [2, 3, 4, 1, 0, 5, 6] rfl)
theorem wX8_turn_115 {p : Program} {l : Launch} {e : Env} {s : State} {m : MethodId} {args : Array Value} {below : List Frame} {meth : Method} {c : Code} {Z : XG} {r : Int32} {S' : Mem} (E : XE p s m args meth c cX8_turn 8 RX8 (some .int) mL Z) : ∀ (n : Nat) (S : Mem) (x1 x3 x4 x5 x6 x7 : Int32), fX8_turn_115 n S x1 x3 x4 x5 x6 x7 = some (r, S') → WN p l e { frames := 5, cells := 0, slots := 0, locals := 120 } s m args below meth c mL Z (XQ mL Z r S') S 115 8 [(0, .ref (Z.2.1 0)), (1, .int x1), (3, .int x3), (4, .int x4), (5, .int x5), (6, .int x6), (7, .int x7)] [] := by
  intro n
  induction n with
  | zero => intro S x1 x3 x4 x5 x6 x7 h; exact absurd (show (none : O) = some _ from h) (by simp)
  | succ n ih => intro S x1 x3 x4 x5 x6 x7 h; exact wX8_turn_115_b E (fX8_turn_115 n) ih S x1 x3 x4 x5 x6 x7 h
set_option maxRecDepth 20000 in
theorem wX8_turn_83 {p : Program} {l : Launch} {e : Env} {s : State} {m : MethodId} {args : Array Value} {below : List Frame} {meth : Method} {c : Code} {Z : XG} {r : Int32} {S' : Mem} (E : XE p s m args meth c cX8_turn 8 RX8 (some .int) mL Z) (k0 : Mem → Int32 → Int32 → Int32 → Int32 → Int32 → Int32 → Int32 → O)  (hk0 : ∀ (S : Mem) (x1 x2 x3 x4 x5 x6 x7 : Int32), k0 S x1 x2 x3 x4 x5 x6 x7 = some (r, S') → WN p l e { frames := 5, cells := 0, slots := 0, locals := 120 } s m args below meth c mL Z (XQ mL Z r S') S 55 8 [(0, .ref (Z.2.1 0)), (1, .int x1), (2, .int x2), (3, .int x3), (4, .int x4), (5, .int x5), (6, .int x6), (7, .int x7)] []) : ∀ (S : Mem) (x1 x2 x3 x4 x5 x6 x7 : Int32), fX8_turn_83 k0 S x1 x2 x3 x4 x5 x6 x7 = some (r, S') → WN p l e { frames := 5, cells := 0, slots := 0, locals := 120 } s m args below meth c mL Z (XQ mL Z r S') S 83 8 [(0, .ref (Z.2.1 0)), (1, .int x1), (2, .int x2), (3, .int x3), (4, .int x4), (5, .int x5), (6, .int x6), (7, .int x7)] [] := by
  obtain ⟨hx, hb, -, -, -, -, -, -, -, hQ⟩ := id E
  intro S x1 x2 x3 x4 x5 x6 x7 h H locs ls X hl
  unfold fX8_turn_83 at h
  refine lv_iload hx hb dX8_turn_83 (lv_at hl 4 rfl) ?_
  refine lv_aload_n hx hb dX8_turn_85 rfl (lv_at hl 0 rfl) ?_
  refine lv_iload hx hb dX8_turn_86 (lv_at hl 7 rfl) ?_
  refine lv_iload_n hx hb dX8_turn_88 rfl (lv_at hl 1 rfl) ?_
  obtain ⟨r_1, S_2, hr_1, h⟩ := bnd_s h
  refine x_callV E X cwX8_334 (mX8_burnIn l Z hQ  x7 x1 hr_1) rfl rfl rfl rfl hl.1 rfl dX8_turn_89 (fun H locs X => ?_)
  refine lv_iadd hx hb dX8_turn_92 ?_
  obtain ⟨x4_3, ex4_3, h⟩ := lti_s h
  refine lv_nm ex4_3 ?_
  refine lv_istore (lv' := [(4, .int x4_3), (0, .ref (Z.2.1 0)), (1, .int x1), (2, .int x2), (3, .int x3), (5, .int x5), (6, .int x6), (7, .int x7)]) hx hb dX8_turn_93 hl (by decide) rfl (fun ls hl => ?_)
  refine lv_iinc (v := (x7 + (1 : Int32))) (lv' := [(7, .int (x7 + (1 : Int32))), (4, .int x4_3), (0, .ref (Z.2.1 0)), (1, .int x1), (2, .int x2), (3, .int x3), (5, .int x5), (6, .int x6)]) hx hb dX8_turn_95 hl (k := 7) rfl rfl (by decide) rfl (fun ls hl => ?_)
  refine lv_goto (tgt := 55) hx hb dX8_turn_98 (by decide) ?_
  exact hk0 S_2 x1 x2 x3 x4_3 x5 x6 (x7 + (1 : Int32)) h _ _ _ X (lv_sub hl [2, 3, 4, 5, 1, 6, 7, 0] rfl)
set_option maxRecDepth 20000 in
theorem wX8_turn_55_b {p : Program} {l : Launch} {e : Env} {s : State} {m : MethodId} {args : Array Value} {below : List Frame} {meth : Method} {c : Code} {Z : XG} {r : Int32} {S' : Mem} (E : XE p s m args meth c cX8_turn 8 RX8 (some .int) mL Z) (k0 : Mem → Int32 → Int32 → Int32 → Int32 → Int32 → Int32 → Int32 → O)  (hk0 : ∀ (S : Mem) (x1 x2 x3 x4 x5 x6 x7 : Int32), k0 S x1 x2 x3 x4 x5 x6 x7 = some (r, S') → WN p l e { frames := 5, cells := 0, slots := 0, locals := 120 } s m args below meth c mL Z (XQ mL Z r S') S 55 8 [(0, .ref (Z.2.1 0)), (1, .int x1), (2, .int x2), (3, .int x3), (4, .int x4), (5, .int x5), (6, .int x6), (7, .int x7)] []) : ∀ (S : Mem) (x1 x2 x3 x4 x5 x6 x7 : Int32), fX8_turn_55_b k0 S x1 x2 x3 x4 x5 x6 x7 = some (r, S') → WN p l e { frames := 5, cells := 0, slots := 0, locals := 120 } s m args below meth c mL Z (XQ mL Z r S') S 55 8 [(0, .ref (Z.2.1 0)), (1, .int x1), (2, .int x2), (3, .int x3), (4, .int x4), (5, .int x5), (6, .int x6), (7, .int x7)] [] := by
  obtain ⟨hx, hb, -, -, -, -, -, -, -, hQ⟩ := id E
  intro S x1 x2 x3 x4 x5 x6 x7 h H locs ls X hl
  unfold fX8_turn_55_b at h
  refine lv_iload hx hb dX8_turn_55 (lv_at hl 7 rfl) ?_
  refine lv_aload_n hx hb dX8_turn_57 rfl (lv_at hl 0 rfl) ?_
  refine x_get E X ffX8_100 rfl rfl dX8_turn_58 ?_
  refine lv_icmp_ge (tgt := 101) hx hb dX8_turn_61 (by decide) (fun c_1 => ?_) (fun c_1 => ?_)
  · have h := if_t c_1 h
    refine lv_aload_n hx hb dX8_turn_101 rfl (lv_at hl 0 rfl) ?_
    refine lv_iload_n hx hb dX8_turn_102 rfl (lv_at hl 1 rfl) ?_
    refine lv_iload_n hx hb dX8_turn_103 rfl (lv_at hl 2 rfl) ?_
    refine lv_aload_n hx hb dX8_turn_104 rfl (lv_at hl 0 rfl) ?_
    refine x_get E X ffX8_124 rfl rfl dX8_turn_105 ?_
    refine lv_iconst (v := (1 : Int32)) hx hb dX8_turn_108 (by decide) ?_
    obtain ⟨r_2, S_3, hr_2, h⟩ := bnd_s h
    refine x_callVv E X cwX8_253 (mX8_findsShade l Z hQ  x1 x2 (S 0 10) (1 : Int32) hr_2) rfl rfl rfl rfl hl.1 rfl dX8_turn_109 (fun H locs X => ?_)
    refine lv_iconst (v := (0 : Int32)) hx hb dX8_turn_112 (by decide) ?_
    refine lv_istore (lv' := [(7, .int (0 : Int32)), (0, .ref (Z.2.1 0)), (1, .int x1), (2, .int x2), (3, .int x3), (4, .int x4), (5, .int x5), (6, .int x6)]) hx hb dX8_turn_113 hl (by decide) rfl (fun ls hl => ?_)
    exact wX8_turn_115 E   FU S_3 x1 x3 x4 x5 x6 (0 : Int32) h _ _ _ X (lv_sub hl [1, 2, 4, 5, 6, 7, 0] rfl)
  · have h := if_f c_1 h
    refine lv_aload_n hx hb dX8_turn_64 rfl (lv_at hl 0 rfl) ?_
    refine lv_iload hx hb dX8_turn_65 (lv_at hl 7 rfl) ?_
    refine lv_iload_n hx hb dX8_turn_67 rfl (lv_at hl 1 rfl) ?_
    obtain ⟨r_4, S_5, hr_4, h⟩ := bnd_s h
    refine x_callV E X cwX8_334 (mX8_burnIn l Z hQ  x7 x1 hr_4) rfl rfl rfl rfl hl.1 rfl dX8_turn_68 (fun H locs X => ?_)
    refine lv_if_le (tgt := 83) hx hb dX8_turn_71 (by decide) (fun c_6 => ?_) (fun c_6 => ?_)
    · have h := if_t c_6 h
      exact wX8_turn_83 E k0 hk0 S_5 x1 x2 x3 x4 x5 x6 x7 h _ _ _ X hl
    · have h := if_f c_6 h
      refine lv_iload hx hb dX8_turn_74 (lv_at hl 6 rfl) ?_
      refine lv_iconst (v := (1 : Int32)) hx hb dX8_turn_76 (by decide) ?_
      refine lv_iload hx hb dX8_turn_77 (lv_at hl 7 rfl) ?_
      refine lv_ishl hx hb dX8_turn_79 ?_
      refine lv_ior hx hb dX8_turn_80 ?_
      obtain ⟨x6_7, ex6_7, h⟩ := lti_s h
      refine lv_nm ex6_7 ?_
      refine lv_istore (lv' := [(6, .int x6_7), (0, .ref (Z.2.1 0)), (1, .int x1), (2, .int x2), (3, .int x3), (4, .int x4), (5, .int x5), (7, .int x7)]) hx hb dX8_turn_81 hl (by decide) rfl (fun ls hl => ?_)
      exact wX8_turn_83 E k0 hk0 S_5 x1 x2 x3 x4 x5 x6_7 x7 h _ _ _ X (lv_sub hl [1, 2, 3, 4, 5, 6, 0, 7] rfl)
theorem wX8_turn_55 {p : Program} {l : Launch} {e : Env} {s : State} {m : MethodId} {args : Array Value} {below : List Frame} {meth : Method} {c : Code} {Z : XG} {r : Int32} {S' : Mem} (E : XE p s m args meth c cX8_turn 8 RX8 (some .int) mL Z) : ∀ (n : Nat) (S : Mem) (x1 x2 x3 x4 x5 x6 x7 : Int32), fX8_turn_55 n S x1 x2 x3 x4 x5 x6 x7 = some (r, S') → WN p l e { frames := 5, cells := 0, slots := 0, locals := 120 } s m args below meth c mL Z (XQ mL Z r S') S 55 8 [(0, .ref (Z.2.1 0)), (1, .int x1), (2, .int x2), (3, .int x3), (4, .int x4), (5, .int x5), (6, .int x6), (7, .int x7)] [] := by
  intro n
  induction n with
  | zero => intro S x1 x2 x3 x4 x5 x6 x7 h; exact absurd (show (none : O) = some _ from h) (by simp)
  | succ n ih => intro S x1 x2 x3 x4 x5 x6 x7 h; exact wX8_turn_55_b E (fX8_turn_55 n) ih S x1 x2 x3 x4 x5 x6 x7 h
set_option maxRecDepth 20000 in
theorem wX8_turn {p : Program} {l : Launch} {e : Env} {s : State} {m : MethodId} {args : Array Value} {below : List Frame} {meth : Method} {c : Code} {Z : XG} {r : Int32} {S' : Mem} (E : XE p s m args meth c cX8_turn 8 RX8 (some .int) mL Z) : ∀ (S : Mem) (x1 x2 x3 : Int32), fX8_turn  S x1 x2 x3 = some (r, S') → WN p l e { frames := 5, cells := 0, slots := 0, locals := 120 } s m args below meth c mL Z (XQ mL Z r S') S 0 8 [(0, .ref (Z.2.1 0)), (1, .int x1), (2, .int x2), (3, .int x3)] [] := by
  obtain ⟨hx, hb, -, -, -, -, -, -, -, hQ⟩ := id E
  intro S x1 x2 x3 h H locs ls X hl
  unfold fX8_turn at h
  refine lv_aload_n hx hb dX8_turn_0 rfl (lv_at hl 0 rfl) ?_
  refine lv_iconst (v := (0 : Int32)) hx hb dX8_turn_1 (by decide) ?_
  obtain ⟨S_1, eS_1, h⟩ := ltm_s h
  refine x_put E X fpX8_92 rfl rfl dX8_turn_2 (fun H locs X => ?_)
  rw [← eS_1] at X
  refine lv_aload_n hx hb dX8_turn_5 rfl (lv_at hl 0 rfl) ?_
  refine lv_iload_n hx hb dX8_turn_6 rfl (lv_at hl 1 rfl) ?_
  obtain ⟨r_2, S_3, hr_2, h⟩ := bnd_s h
  refine x_callV E X cwX8_103 (mX8_isHour l Z hQ  x1 hr_2) rfl rfl rfl rfl hl.1 rfl dX8_turn_7 (fun H locs X => ?_)
  refine lv_if_eq (tgt := 34) hx hb dX8_turn_10 (by decide) (fun c_4 => ?_) (fun c_4 => ?_)
  · have h := if_t c_4 h
    refine x_ldcw E csX8_333 dX8_turn_34 ?_
    exact x_iret E X h dX8_turn_37
  · have h := if_f c_4 h
    refine lv_aload_n hx hb dX8_turn_13 rfl (lv_at hl 0 rfl) ?_
    refine lv_iload_n hx hb dX8_turn_14 rfl (lv_at hl 2 rfl) ?_
    refine lv_iconst (v := (0 : Int32)) hx hb dX8_turn_15 (by decide) ?_
    refine lv_bipush (v := (7 : Int32)) hx hb dX8_turn_16 (by decide) ?_
    obtain ⟨r_5, S_6, hr_5, h⟩ := bnd_s h
    refine x_callV E X cwX8_107 (mX8_isIn l Z hQ  x2 (0 : Int32) (7 : Int32) hr_5) rfl rfl rfl rfl hl.1 rfl dX8_turn_18 (fun H locs X => ?_)
    refine lv_if_eq (tgt := 34) hx hb dX8_turn_21 (by decide) (fun c_7 => ?_) (fun c_7 => ?_)
    · have h := if_t c_7 h
      refine x_ldcw E csX8_333 dX8_turn_34 ?_
      exact x_iret E X h dX8_turn_37
    · have h := if_f c_7 h
      refine lv_aload_n hx hb dX8_turn_24 rfl (lv_at hl 0 rfl) ?_
      refine lv_iload_n hx hb dX8_turn_25 rfl (lv_at hl 3 rfl) ?_
      refine lv_iconst (v := (0 : Int32)) hx hb dX8_turn_26 (by decide) ?_
      refine lv_iconst (v := (1 : Int32)) hx hb dX8_turn_27 (by decide) ?_
      obtain ⟨r_8, S_9, hr_8, h⟩ := bnd_s h
      refine x_callV E X cwX8_107 (mX8_isIn l Z hQ  x3 (0 : Int32) (1 : Int32) hr_8) rfl rfl rfl rfl hl.1 rfl dX8_turn_28 (fun H locs X => ?_)
      refine lv_if_ne (tgt := 38) hx hb dX8_turn_31 (by decide) (fun c_10 => ?_) (fun c_10 => ?_)
      · have h := if_f c_10 h
        refine lv_iconst (v := (0 : Int32)) hx hb dX8_turn_38 (by decide) ?_
        refine lv_istore (lv' := [(4, .int (0 : Int32)), (0, .ref (Z.2.1 0)), (1, .int x1), (2, .int x2), (3, .int x3)]) hx hb dX8_turn_39 hl (by decide) rfl (fun ls hl => ?_)
        refine lv_iconst (v := (0 : Int32)) hx hb dX8_turn_41 (by decide) ?_
        refine lv_istore (lv' := [(5, .int (0 : Int32)), (4, .int (0 : Int32)), (0, .ref (Z.2.1 0)), (1, .int x1), (2, .int x2), (3, .int x3)]) hx hb dX8_turn_42 hl (by decide) rfl (fun ls hl => ?_)
        refine lv_iconst (v := (0 : Int32)) hx hb dX8_turn_44 (by decide) ?_
        refine lv_istore (lv' := [(6, .int (0 : Int32)), (5, .int (0 : Int32)), (4, .int (0 : Int32)), (0, .ref (Z.2.1 0)), (1, .int x1), (2, .int x2), (3, .int x3)]) hx hb dX8_turn_45 hl (by decide) rfl (fun ls hl => ?_)
        refine lv_aload_n hx hb dX8_turn_47 rfl (lv_at hl 3 rfl) ?_
        refine lv_iload_n hx hb dX8_turn_48 rfl (lv_at hl 4 rfl) ?_
        obtain ⟨r_11, S_12, hr_11, h⟩ := bnd_s h
        refine x_callVv E X cwX8_273 (mX8_findsShadeNow l Z hQ  x1 hr_11) rfl rfl rfl rfl hl.1 rfl dX8_turn_49 (fun H locs X => ?_)
        refine lv_iconst (v := (0 : Int32)) hx hb dX8_turn_52 (by decide) ?_
        refine lv_istore (lv' := [(7, .int (0 : Int32)), (6, .int (0 : Int32)), (5, .int (0 : Int32)), (4, .int (0 : Int32)), (0, .ref (Z.2.1 0)), (1, .int x1), (2, .int x2), (3, .int x3)]) hx hb dX8_turn_53 hl (by decide) rfl (fun ls hl => ?_)
        exact wX8_turn_55 E   FU S_12 x1 x2 x3 (0 : Int32) (0 : Int32) (0 : Int32) (0 : Int32) h _ _ _ X (lv_sub hl [4, 5, 6, 7, 3, 2, 1, 0] rfl)
      · have h := if_t c_10 h
        refine x_ldcw E csX8_333 dX8_turn_34 ?_
        exact x_iret E X h dX8_turn_37
/-- SevenToAShadowModel.turn(III)I -/
theorem mX8_turn (l : Launch) (Z : XG) (hQ : wQ (List.length mL) Z) {S S' : Mem} {r : Int32} (x1 x2 x3 : Int32) (h : fX8_turn S x1 x2 x3 = some (r, S')) : XM l yX8_turn cX8_turn 8 (some .int) { frames := 5, cells := 0, slots := 0, locals := 120 } mL Z [.ref (Z.2.1 0), .int x1, .int x2, .int x3] S (XQ mL Z r S') := by
  refine XM.of (own := RX8) (by decide +kernel) rfl rfl hQ (fun p e s m args below meth c E ls hl X => ?_)
  exact wX8_turn E S x1 x2 x3 h _ _ _ X hl
def fX8_heatAt (S : Mem) (x1 x2 x3 : Int32) : O := gd (inB ((((169 : Int32) * x1) + ((13 : Int32) * x2)) + x3) 2197) <| some ((S 24 (((((169 : Int32) * x1) + ((13 : Int32) * x2)) + x3)).toNatClampNeg), S)
theorem dX8_heatAt_0 : decode cX8_heatAt 0 = .ok (.aload_n 0, 1) := by decide +kernel
theorem dX8_heatAt_1 : decode cX8_heatAt 1 = .ok (.getfield 83, 3) := by decide +kernel
theorem dX8_heatAt_4 : decode cX8_heatAt 4 = .ok (.sipush 169, 3) := by decide +kernel
theorem dX8_heatAt_7 : decode cX8_heatAt 7 = .ok (.iload_n 1, 1) := by decide +kernel
theorem dX8_heatAt_8 : decode cX8_heatAt 8 = .ok (.imul, 1) := by decide +kernel
theorem dX8_heatAt_9 : decode cX8_heatAt 9 = .ok (.bipush 13, 2) := by decide +kernel
theorem dX8_heatAt_11 : decode cX8_heatAt 11 = .ok (.iload_n 2, 1) := by decide +kernel
theorem dX8_heatAt_12 : decode cX8_heatAt 12 = .ok (.imul, 1) := by decide +kernel
theorem dX8_heatAt_13 : decode cX8_heatAt 13 = .ok (.iadd, 1) := by decide +kernel
theorem dX8_heatAt_14 : decode cX8_heatAt 14 = .ok (.iload_n 3, 1) := by decide +kernel
theorem dX8_heatAt_15 : decode cX8_heatAt 15 = .ok (.iadd, 1) := by decide +kernel
theorem dX8_heatAt_16 : decode cX8_heatAt 16 = .ok (.iaload, 1) := by decide +kernel
theorem dX8_heatAt_17 : decode cX8_heatAt 17 = .ok (.ireturn, 1) := by decide +kernel
set_option maxRecDepth 20000 in
theorem wX8_heatAt {p : Program} {l : Launch} {e : Env} {s : State} {m : MethodId} {args : Array Value} {below : List Frame} {meth : Method} {c : Code} {Z : XG} {r : Int32} {S' : Mem} (E : XE p s m args meth c cX8_heatAt 4 RX8 (some .int) mL Z) : ∀ (S : Mem) (x1 x2 x3 : Int32), fX8_heatAt  S x1 x2 x3 = some (r, S') → WN p l e { frames := 0, cells := 0, slots := 0, locals := 0 } s m args below meth c mL Z (XQ mL Z r S') S 0 4 [(0, .ref (Z.2.1 0)), (1, .int x1), (2, .int x2), (3, .int x3)] [] := by
  obtain ⟨hx, hb, -, -, -, -, -, -, -, hQ⟩ := id E
  intro S x1 x2 x3 h H locs ls X hl
  unfold fX8_heatAt at h
  refine lv_aload_n hx hb dX8_heatAt_0 rfl (lv_at hl 0 rfl) ?_
  refine x_getr E X ffX8_83 rfl rfl dX8_heatAt_1 ?_
  refine lv_sipush (v := (169 : Int32)) hx hb dX8_heatAt_4 (by decide) ?_
  refine lv_iload_n hx hb dX8_heatAt_7 rfl (lv_at hl 1 rfl) ?_
  refine lv_imul hx hb dX8_heatAt_8 ?_
  refine lv_bipush (v := (13 : Int32)) hx hb dX8_heatAt_9 (by decide) ?_
  refine lv_iload_n hx hb dX8_heatAt_11 rfl (lv_at hl 2 rfl) ?_
  refine lv_imul hx hb dX8_heatAt_12 ?_
  refine lv_iadd hx hb dX8_heatAt_13 ?_
  refine lv_iload_n hx hb dX8_heatAt_14 rfl (lv_at hl 3 rfl) ?_
  refine lv_iadd hx hb dX8_heatAt_15 ?_
  obtain ⟨g_1, h⟩ := gd_s h
  refine x_iald E X rfl g_1 dX8_heatAt_16 ?_
  exact x_iret E X h dX8_heatAt_17
/-- SevenToAShadowModel.heatAt(III)I -/
theorem mX8_heatAt (l : Launch) (Z : XG) (hQ : wQ (List.length mL) Z) {S S' : Mem} {r : Int32} (x1 x2 x3 : Int32) (h : fX8_heatAt S x1 x2 x3 = some (r, S')) : XM l yX8_heatAt cX8_heatAt 4 (some .int) { frames := 0, cells := 0, slots := 0, locals := 0 } mL Z [.ref (Z.2.1 0), .int x1, .int x2, .int x3] S (XQ mL Z r S') := by
  refine XM.of (own := RX8) (by decide +kernel) rfl rfl hQ (fun p e s m args below meth c E ls hl X => ?_)
  exact wX8_heatAt E S x1 x2 x3 h _ _ _ X hl
def fX8_walked_10 (S : Mem) : O := some ((100000 : Int32), S)
def fX8_walked (S : Mem) (x1 x2 x3 x4 : Int32) : O := (if x2 = 0 then fX8_walked_10  S  else (if x3 = x4 then fX8_walked_10  S  else gd (inB (((5 : Int32) * x1) + (2 : Int32)) 60) <| bnd (fX8_heatAt S (x1 + (1 : Int32)) (x2 - (1 : Int32)) (x3 + (1 : Int32))) fun r_4 S_5 => some (((S 3 ((((5 : Int32) * x1) + (2 : Int32))).toNatClampNeg) + r_4), S_5)))
theorem dX8_walked_0 : decode cX8_walked 0 = .ok (.iload_n 2, 1) := by decide +kernel
theorem dX8_walked_1 : decode cX8_walked 1 = .ok (.ifCond .eq 9, 3) := by decide +kernel
theorem dX8_walked_4 : decode cX8_walked 4 = .ok (.iload_n 3, 1) := by decide +kernel
theorem dX8_walked_5 : decode cX8_walked 5 = .ok (.iload 4, 2) := by decide +kernel
theorem dX8_walked_7 : decode cX8_walked 7 = .ok (.if_icmp .ne 9, 3) := by decide +kernel
theorem dX8_walked_10 : decode cX8_walked 10 = .ok (.ldc_w 337, 3) := by decide +kernel
theorem dX8_walked_13 : decode cX8_walked 13 = .ok (.goto 27, 3) := by decide +kernel
theorem dX8_walked_16 : decode cX8_walked 16 = .ok (.aload_n 0, 1) := by decide +kernel
theorem dX8_walked_17 : decode cX8_walked 17 = .ok (.getfield 16, 3) := by decide +kernel
theorem dX8_walked_20 : decode cX8_walked 20 = .ok (.iconst 5, 1) := by decide +kernel
theorem dX8_walked_21 : decode cX8_walked 21 = .ok (.iload_n 1, 1) := by decide +kernel
theorem dX8_walked_22 : decode cX8_walked 22 = .ok (.imul, 1) := by decide +kernel
theorem dX8_walked_23 : decode cX8_walked 23 = .ok (.iconst 2, 1) := by decide +kernel
theorem dX8_walked_24 : decode cX8_walked 24 = .ok (.iadd, 1) := by decide +kernel
theorem dX8_walked_25 : decode cX8_walked 25 = .ok (.iaload, 1) := by decide +kernel
theorem dX8_walked_26 : decode cX8_walked 26 = .ok (.aload_n 0, 1) := by decide +kernel
theorem dX8_walked_27 : decode cX8_walked 27 = .ok (.iload_n 1, 1) := by decide +kernel
theorem dX8_walked_28 : decode cX8_walked 28 = .ok (.iconst 1, 1) := by decide +kernel
theorem dX8_walked_29 : decode cX8_walked 29 = .ok (.iadd, 1) := by decide +kernel
theorem dX8_walked_30 : decode cX8_walked 30 = .ok (.iload_n 2, 1) := by decide +kernel
theorem dX8_walked_31 : decode cX8_walked 31 = .ok (.iconst 1, 1) := by decide +kernel
theorem dX8_walked_32 : decode cX8_walked 32 = .ok (.isub, 1) := by decide +kernel
theorem dX8_walked_33 : decode cX8_walked 33 = .ok (.iload_n 3, 1) := by decide +kernel
theorem dX8_walked_34 : decode cX8_walked 34 = .ok (.iconst 1, 1) := by decide +kernel
theorem dX8_walked_35 : decode cX8_walked 35 = .ok (.iadd, 1) := by decide +kernel
theorem dX8_walked_36 : decode cX8_walked 36 = .ok (.invokevirtual 338, 3) := by decide +kernel
theorem dX8_walked_39 : decode cX8_walked 39 = .ok (.iadd, 1) := by decide +kernel
theorem dX8_walked_40 : decode cX8_walked 40 = .ok (.ireturn, 1) := by decide +kernel
set_option maxRecDepth 20000 in
theorem wX8_walked_10 {p : Program} {l : Launch} {e : Env} {s : State} {m : MethodId} {args : Array Value} {below : List Frame} {meth : Method} {c : Code} {Z : XG} {r : Int32} {S' : Mem} (E : XE p s m args meth c cX8_walked 5 RX8 (some .int) mL Z) : ∀ (S : Mem), fX8_walked_10  S  = some (r, S') → WN p l e { frames := 1, cells := 0, slots := 0, locals := 23 } s m args below meth c mL Z (XQ mL Z r S') S 10 5 [] [] := by
  obtain ⟨hx, hb, -, -, -, -, -, -, -, hQ⟩ := id E
  intro S  h H locs ls X hl
  unfold fX8_walked_10 at h
  refine x_ldcw E csX8_337 dX8_walked_10 ?_
  refine lv_goto (tgt := 40) hx hb dX8_walked_13 (by decide) ?_
  exact x_iret E X h dX8_walked_40
set_option maxRecDepth 20000 in
theorem wX8_walked {p : Program} {l : Launch} {e : Env} {s : State} {m : MethodId} {args : Array Value} {below : List Frame} {meth : Method} {c : Code} {Z : XG} {r : Int32} {S' : Mem} (E : XE p s m args meth c cX8_walked 5 RX8 (some .int) mL Z) : ∀ (S : Mem) (x1 x2 x3 x4 : Int32), fX8_walked  S x1 x2 x3 x4 = some (r, S') → WN p l e { frames := 1, cells := 0, slots := 0, locals := 23 } s m args below meth c mL Z (XQ mL Z r S') S 0 5 [(0, .ref (Z.2.1 0)), (1, .int x1), (2, .int x2), (3, .int x3), (4, .int x4)] [] := by
  obtain ⟨hx, hb, -, -, -, -, -, -, -, hQ⟩ := id E
  intro S x1 x2 x3 x4 h H locs ls X hl
  unfold fX8_walked at h
  refine lv_iload_n hx hb dX8_walked_0 rfl (lv_at hl 2 rfl) ?_
  refine lv_if_eq (tgt := 10) hx hb dX8_walked_1 (by decide) (fun c_1 => ?_) (fun c_1 => ?_)
  · have h := if_t c_1 h
    exact wX8_walked_10 E   S  h _ _ _ X (lv_sub hl [] rfl)
  · have h := if_f c_1 h
    refine lv_iload_n hx hb dX8_walked_4 rfl (lv_at hl 3 rfl) ?_
    refine lv_iload hx hb dX8_walked_5 (lv_at hl 4 rfl) ?_
    refine lv_icmp_ne (tgt := 16) hx hb dX8_walked_7 (by decide) (fun c_2 => ?_) (fun c_2 => ?_)
    · have h := if_f c_2 h
      refine lv_aload_n hx hb dX8_walked_16 rfl (lv_at hl 0 rfl) ?_
      refine x_getr E X ffX8_16 rfl rfl dX8_walked_17 ?_
      refine lv_iconst (v := (5 : Int32)) hx hb dX8_walked_20 (by decide) ?_
      refine lv_iload_n hx hb dX8_walked_21 rfl (lv_at hl 1 rfl) ?_
      refine lv_imul hx hb dX8_walked_22 ?_
      refine lv_iconst (v := (2 : Int32)) hx hb dX8_walked_23 (by decide) ?_
      refine lv_iadd hx hb dX8_walked_24 ?_
      obtain ⟨g_3, h⟩ := gd_s h
      refine x_iald E X rfl g_3 dX8_walked_25 ?_
      refine lv_aload_n hx hb dX8_walked_26 rfl (lv_at hl 0 rfl) ?_
      refine lv_iload_n hx hb dX8_walked_27 rfl (lv_at hl 1 rfl) ?_
      refine lv_iconst (v := (1 : Int32)) hx hb dX8_walked_28 (by decide) ?_
      refine lv_iadd hx hb dX8_walked_29 ?_
      refine lv_iload_n hx hb dX8_walked_30 rfl (lv_at hl 2 rfl) ?_
      refine lv_iconst (v := (1 : Int32)) hx hb dX8_walked_31 (by decide) ?_
      refine lv_isub hx hb dX8_walked_32 ?_
      refine lv_iload_n hx hb dX8_walked_33 rfl (lv_at hl 3 rfl) ?_
      refine lv_iconst (v := (1 : Int32)) hx hb dX8_walked_34 (by decide) ?_
      refine lv_iadd hx hb dX8_walked_35 ?_
      obtain ⟨r_4, S_5, hr_4, h⟩ := bnd_s h
      refine x_callV E X cwX8_338 (mX8_heatAt l Z hQ  (x1 + (1 : Int32)) (x2 - (1 : Int32)) (x3 + (1 : Int32)) hr_4) rfl rfl rfl rfl hl.1 rfl dX8_walked_36 (fun H locs X => ?_)
      refine lv_iadd hx hb dX8_walked_39 ?_
      exact x_iret E X h dX8_walked_40
    · have h := if_t c_2 h
      exact wX8_walked_10 E   S  h _ _ _ X (lv_sub hl [] rfl)
/-- SevenToAShadowModel.walked(IIII)I -/
theorem mX8_walked (l : Launch) (Z : XG) (hQ : wQ (List.length mL) Z) {S S' : Mem} {r : Int32} (x1 x2 x3 x4 : Int32) (h : fX8_walked S x1 x2 x3 x4 = some (r, S')) : XM l yX8_walked cX8_walked 5 (some .int) { frames := 1, cells := 0, slots := 0, locals := 23 } mL Z [.ref (Z.2.1 0), .int x1, .int x2, .int x3, .int x4] S (XQ mL Z r S') := by
  refine XM.of (own := RX8) (by decide +kernel) rfl rfl hQ (fun p e s m args below meth c E ls hl X => ?_)
  exact wX8_walked E S x1 x2 x3 x4 h _ _ _ X hl
def fX8_findsHalts_131 (k0 : Mem → Int32 → Int32 → O) (k1 : Mem → Int32 → Int32 → Int32 → O) (k2 : Mem → Int32 → Int32 → Int32 → Int32 → O) (S : Mem) (x1 x2 x3 x4 s1 s2 : Int32) : O := gd (inB s1 2197) <| ltm (mset S 24 (s1).toNatClampNeg s2) fun S_2 => k2 S_2 x1 x2 x3 (x4 + (1 : Int32))
def fX8_findsHalts_72_b (k0 : Mem → Int32 → Int32 → O) (k1 : Mem → Int32 → Int32 → Int32 → O) (k2 : Mem → Int32 → Int32 → Int32 → Int32 → O) (S : Mem) (x1 x2 x3 x4 : Int32) : O := (if x1 < x4 then k1 S x1 x2 (x3 + (1 : Int32)) else bnd (fX8_walked S x2 x3 x4 x1) fun r_2 S_3 => bnd (fX8_heatAt S_3 (x2 + (1 : Int32)) x3 (0 : Int32)) fun r_4 S_5 => (if r_4 ≤ r_2 then fX8_findsHalts_131 k0 k1 k2 S_5 x1 x2 x3 x4 ((((169 : Int32) * x2) + ((13 : Int32) * x3)) + x4) r_4 else fX8_findsHalts_131 k0 k1 k2 S_5 x1 x2 x3 x4 ((((169 : Int32) * x2) + ((13 : Int32) * x3)) + x4) r_2))
def fX8_findsHalts_72 (k0 : Mem → Int32 → Int32 → O) (k1 : Mem → Int32 → Int32 → Int32 → O) : Nat → Mem → Int32 → Int32 → Int32 → Int32 → O
  | 0 => fun _ _ _ _ _ => none
  | n + 1 => fX8_findsHalts_72_b k0 k1 (fX8_findsHalts_72 k0 k1 n)
def fX8_findsHalts_63_b (k0 : Mem → Int32 → Int32 → O) (k1 : Mem → Int32 → Int32 → Int32 → O) (S : Mem) (x1 x2 x3 : Int32) : O := (if (12 : Int32) < x3 then k0 S x1 (x2 + (-1 : Int32)) else fX8_findsHalts_72 k0 k1 FU S x1 x2 x3 (0 : Int32))
def fX8_findsHalts_63 (k0 : Mem → Int32 → Int32 → O) : Nat → Mem → Int32 → Int32 → Int32 → O
  | 0 => fun _ _ _ _ => none
  | n + 1 => fX8_findsHalts_63_b k0 (fX8_findsHalts_63 k0 n)
def fX8_findsHalts_57_b (k0 : Mem → Int32 → Int32 → O) (S : Mem) (x1 x2 : Int32) : O := (if x2 < 0 then some ((0 : Int32), S) else fX8_findsHalts_63 k0 FU S x1 x2 (0 : Int32))
def fX8_findsHalts_57 : Nat → Mem → Int32 → Int32 → O
  | 0 => fun _ _ _ => none
  | n + 1 => fX8_findsHalts_57_b (fX8_findsHalts_57 n)
def fX8_findsHalts_41 (k0 : Mem → Int32 → Int32 → O) (k1 : Mem → Int32 → Int32 → Int32 → O) (S : Mem) (x1 x2 x3 s1 s2 : Int32) : O := gd (inB s1 2197) <| ltm (mset S 24 (s1).toNatClampNeg s2) fun S_2 => k1 S_2 x1 x2 (x3 + (1 : Int32))
def fX8_findsHalts_10_b (k0 : Mem → Int32 → Int32 → O) (k1 : Mem → Int32 → Int32 → Int32 → O) (S : Mem) (x1 x2 x3 : Int32) : O := (if (12 : Int32) < x3 then k0 S x1 (x2 + (1 : Int32)) else (if x2 = 0 then fX8_findsHalts_41 k0 k1 S x1 x2 x3 (((2028 : Int32) + ((13 : Int32) * x2)) + x3) (0 : Int32) else fX8_findsHalts_41 k0 k1 S x1 x2 x3 (((2028 : Int32) + ((13 : Int32) * x2)) + x3) (100000 : Int32)))
def fX8_findsHalts_10 (k0 : Mem → Int32 → Int32 → O) : Nat → Mem → Int32 → Int32 → Int32 → O
  | 0 => fun _ _ _ _ => none
  | n + 1 => fX8_findsHalts_10_b k0 (fX8_findsHalts_10 k0 n)
def fX8_findsHalts_2_b (k0 : Mem → Int32 → Int32 → O) (S : Mem) (x1 x2 : Int32) : O := (if (12 : Int32) < x2 then fX8_findsHalts_57  FU S x1 (11 : Int32) else fX8_findsHalts_10 k0 FU S x1 x2 (0 : Int32))
def fX8_findsHalts_2 : Nat → Mem → Int32 → Int32 → O
  | 0 => fun _ _ _ => none
  | n + 1 => fX8_findsHalts_2_b (fX8_findsHalts_2 n)
def fX8_findsHalts (S : Mem) (x1 : Int32) : O := fX8_findsHalts_2  FU S x1 (0 : Int32)
theorem dX8_findsHalts_0 : decode cX8_findsHalts 0 = .ok (.iconst 0, 1) := by decide +kernel
theorem dX8_findsHalts_1 : decode cX8_findsHalts 1 = .ok (.istore_n 2, 1) := by decide +kernel
theorem dX8_findsHalts_2 : decode cX8_findsHalts 2 = .ok (.iload_n 2, 1) := by decide +kernel
theorem dX8_findsHalts_3 : decode cX8_findsHalts 3 = .ok (.bipush 12, 2) := by decide +kernel
theorem dX8_findsHalts_5 : decode cX8_findsHalts 5 = .ok (.if_icmp .gt 49, 3) := by decide +kernel
theorem dX8_findsHalts_8 : decode cX8_findsHalts 8 = .ok (.iconst 0, 1) := by decide +kernel
theorem dX8_findsHalts_9 : decode cX8_findsHalts 9 = .ok (.istore_n 3, 1) := by decide +kernel
theorem dX8_findsHalts_10 : decode cX8_findsHalts 10 = .ok (.iload_n 3, 1) := by decide +kernel
theorem dX8_findsHalts_11 : decode cX8_findsHalts 11 = .ok (.bipush 12, 2) := by decide +kernel
theorem dX8_findsHalts_13 : decode cX8_findsHalts 13 = .ok (.if_icmp .gt 35, 3) := by decide +kernel
theorem dX8_findsHalts_16 : decode cX8_findsHalts 16 = .ok (.aload_n 0, 1) := by decide +kernel
theorem dX8_findsHalts_17 : decode cX8_findsHalts 17 = .ok (.getfield 83, 3) := by decide +kernel
theorem dX8_findsHalts_20 : decode cX8_findsHalts 20 = .ok (.sipush 2028, 3) := by decide +kernel
theorem dX8_findsHalts_23 : decode cX8_findsHalts 23 = .ok (.bipush 13, 2) := by decide +kernel
theorem dX8_findsHalts_25 : decode cX8_findsHalts 25 = .ok (.iload_n 2, 1) := by decide +kernel
theorem dX8_findsHalts_26 : decode cX8_findsHalts 26 = .ok (.imul, 1) := by decide +kernel
theorem dX8_findsHalts_27 : decode cX8_findsHalts 27 = .ok (.iadd, 1) := by decide +kernel
theorem dX8_findsHalts_28 : decode cX8_findsHalts 28 = .ok (.iload_n 3, 1) := by decide +kernel
theorem dX8_findsHalts_29 : decode cX8_findsHalts 29 = .ok (.iadd, 1) := by decide +kernel
theorem dX8_findsHalts_30 : decode cX8_findsHalts 30 = .ok (.iload_n 2, 1) := by decide +kernel
theorem dX8_findsHalts_31 : decode cX8_findsHalts 31 = .ok (.ifCond .ne 7, 3) := by decide +kernel
theorem dX8_findsHalts_34 : decode cX8_findsHalts 34 = .ok (.iconst 0, 1) := by decide +kernel
theorem dX8_findsHalts_35 : decode cX8_findsHalts 35 = .ok (.goto 6, 3) := by decide +kernel
theorem dX8_findsHalts_38 : decode cX8_findsHalts 38 = .ok (.ldc_w 337, 3) := by decide +kernel
theorem dX8_findsHalts_41 : decode cX8_findsHalts 41 = .ok (.iastore, 1) := by decide +kernel
theorem dX8_findsHalts_42 : decode cX8_findsHalts 42 = .ok (.iinc 3 1, 3) := by decide +kernel
theorem dX8_findsHalts_45 : decode cX8_findsHalts 45 = .ok (.goto (-35), 3) := by decide +kernel
theorem dX8_findsHalts_48 : decode cX8_findsHalts 48 = .ok (.iinc 2 1, 3) := by decide +kernel
theorem dX8_findsHalts_51 : decode cX8_findsHalts 51 = .ok (.goto (-49), 3) := by decide +kernel
theorem dX8_findsHalts_54 : decode cX8_findsHalts 54 = .ok (.bipush 11, 2) := by decide +kernel
theorem dX8_findsHalts_56 : decode cX8_findsHalts 56 = .ok (.istore_n 2, 1) := by decide +kernel
theorem dX8_findsHalts_57 : decode cX8_findsHalts 57 = .ok (.iload_n 2, 1) := by decide +kernel
theorem dX8_findsHalts_58 : decode cX8_findsHalts 58 = .ok (.ifCond .lt 92, 3) := by decide +kernel
theorem dX8_findsHalts_61 : decode cX8_findsHalts 61 = .ok (.iconst 0, 1) := by decide +kernel
theorem dX8_findsHalts_62 : decode cX8_findsHalts 62 = .ok (.istore_n 3, 1) := by decide +kernel
theorem dX8_findsHalts_63 : decode cX8_findsHalts 63 = .ok (.iload_n 3, 1) := by decide +kernel
theorem dX8_findsHalts_64 : decode cX8_findsHalts 64 = .ok (.bipush 12, 2) := by decide +kernel
theorem dX8_findsHalts_66 : decode cX8_findsHalts 66 = .ok (.if_icmp .gt 78, 3) := by decide +kernel
theorem dX8_findsHalts_69 : decode cX8_findsHalts 69 = .ok (.iconst 0, 1) := by decide +kernel
theorem dX8_findsHalts_70 : decode cX8_findsHalts 70 = .ok (.istore 4, 2) := by decide +kernel
theorem dX8_findsHalts_72 : decode cX8_findsHalts 72 = .ok (.iload 4, 2) := by decide +kernel
theorem dX8_findsHalts_74 : decode cX8_findsHalts 74 = .ok (.iload_n 1, 1) := by decide +kernel
theorem dX8_findsHalts_75 : decode cX8_findsHalts 75 = .ok (.if_icmp .gt 63, 3) := by decide +kernel
theorem dX8_findsHalts_78 : decode cX8_findsHalts 78 = .ok (.aload_n 0, 1) := by decide +kernel
theorem dX8_findsHalts_79 : decode cX8_findsHalts 79 = .ok (.iload_n 2, 1) := by decide +kernel
theorem dX8_findsHalts_80 : decode cX8_findsHalts 80 = .ok (.iload_n 3, 1) := by decide +kernel
theorem dX8_findsHalts_81 : decode cX8_findsHalts 81 = .ok (.iload 4, 2) := by decide +kernel
theorem dX8_findsHalts_83 : decode cX8_findsHalts 83 = .ok (.iload_n 1, 1) := by decide +kernel
theorem dX8_findsHalts_84 : decode cX8_findsHalts 84 = .ok (.invokevirtual 341, 3) := by decide +kernel
theorem dX8_findsHalts_87 : decode cX8_findsHalts 87 = .ok (.istore 5, 2) := by decide +kernel
theorem dX8_findsHalts_89 : decode cX8_findsHalts 89 = .ok (.aload_n 0, 1) := by decide +kernel
theorem dX8_findsHalts_90 : decode cX8_findsHalts 90 = .ok (.iload_n 2, 1) := by decide +kernel
theorem dX8_findsHalts_91 : decode cX8_findsHalts 91 = .ok (.iconst 1, 1) := by decide +kernel
theorem dX8_findsHalts_92 : decode cX8_findsHalts 92 = .ok (.iadd, 1) := by decide +kernel
theorem dX8_findsHalts_93 : decode cX8_findsHalts 93 = .ok (.iload_n 3, 1) := by decide +kernel
theorem dX8_findsHalts_94 : decode cX8_findsHalts 94 = .ok (.iconst 0, 1) := by decide +kernel
theorem dX8_findsHalts_95 : decode cX8_findsHalts 95 = .ok (.invokevirtual 338, 3) := by decide +kernel
theorem dX8_findsHalts_98 : decode cX8_findsHalts 98 = .ok (.istore 6, 2) := by decide +kernel
theorem dX8_findsHalts_100 : decode cX8_findsHalts 100 = .ok (.aload_n 0, 1) := by decide +kernel
theorem dX8_findsHalts_101 : decode cX8_findsHalts 101 = .ok (.getfield 83, 3) := by decide +kernel
theorem dX8_findsHalts_104 : decode cX8_findsHalts 104 = .ok (.sipush 169, 3) := by decide +kernel
theorem dX8_findsHalts_107 : decode cX8_findsHalts 107 = .ok (.iload_n 2, 1) := by decide +kernel
theorem dX8_findsHalts_108 : decode cX8_findsHalts 108 = .ok (.imul, 1) := by decide +kernel
theorem dX8_findsHalts_109 : decode cX8_findsHalts 109 = .ok (.bipush 13, 2) := by decide +kernel
theorem dX8_findsHalts_111 : decode cX8_findsHalts 111 = .ok (.iload_n 3, 1) := by decide +kernel
theorem dX8_findsHalts_112 : decode cX8_findsHalts 112 = .ok (.imul, 1) := by decide +kernel
theorem dX8_findsHalts_113 : decode cX8_findsHalts 113 = .ok (.iadd, 1) := by decide +kernel
theorem dX8_findsHalts_114 : decode cX8_findsHalts 114 = .ok (.iload 4, 2) := by decide +kernel
theorem dX8_findsHalts_116 : decode cX8_findsHalts 116 = .ok (.iadd, 1) := by decide +kernel
theorem dX8_findsHalts_117 : decode cX8_findsHalts 117 = .ok (.iload 5, 2) := by decide +kernel
theorem dX8_findsHalts_119 : decode cX8_findsHalts 119 = .ok (.iload 6, 2) := by decide +kernel
theorem dX8_findsHalts_121 : decode cX8_findsHalts 121 = .ok (.if_icmp .ge 8, 3) := by decide +kernel
theorem dX8_findsHalts_124 : decode cX8_findsHalts 124 = .ok (.iload 5, 2) := by decide +kernel
theorem dX8_findsHalts_126 : decode cX8_findsHalts 126 = .ok (.goto 5, 3) := by decide +kernel
theorem dX8_findsHalts_129 : decode cX8_findsHalts 129 = .ok (.iload 6, 2) := by decide +kernel
theorem dX8_findsHalts_131 : decode cX8_findsHalts 131 = .ok (.iastore, 1) := by decide +kernel
theorem dX8_findsHalts_132 : decode cX8_findsHalts 132 = .ok (.iinc 4 1, 3) := by decide +kernel
theorem dX8_findsHalts_135 : decode cX8_findsHalts 135 = .ok (.goto (-63), 3) := by decide +kernel
theorem dX8_findsHalts_138 : decode cX8_findsHalts 138 = .ok (.iinc 3 1, 3) := by decide +kernel
theorem dX8_findsHalts_141 : decode cX8_findsHalts 141 = .ok (.goto (-78), 3) := by decide +kernel
theorem dX8_findsHalts_144 : decode cX8_findsHalts 144 = .ok (.iinc 2 (-1), 3) := by decide +kernel
theorem dX8_findsHalts_147 : decode cX8_findsHalts 147 = .ok (.goto (-90), 3) := by decide +kernel
theorem dX8_findsHalts_150 : decode cX8_findsHalts 150 = .ok (.return_, 1) := by decide +kernel
set_option maxRecDepth 20000 in
theorem wX8_findsHalts_131 {p : Program} {l : Launch} {e : Env} {s : State} {m : MethodId} {args : Array Value} {below : List Frame} {meth : Method} {c : Code} {Z : XG} {r : Int32} {S' : Mem} (E : XE p s m args meth c cX8_findsHalts 7 RX8 none mL Z) (k0 : Mem → Int32 → Int32 → O)  (k1 : Mem → Int32 → Int32 → Int32 → O)  (k2 : Mem → Int32 → Int32 → Int32 → Int32 → O)  (hk0 : ∀ (S : Mem) (x1 x2 : Int32), k0 S x1 x2 = some (r, S') → WN p l e { frames := 2, cells := 0, slots := 0, locals := 47 } s m args below meth c mL Z (XV mL Z S') S 57 7 [(0, .ref (Z.2.1 0)), (1, .int x1), (2, .int x2)] []) (hk1 : ∀ (S : Mem) (x1 x2 x3 : Int32), k1 S x1 x2 x3 = some (r, S') → WN p l e { frames := 2, cells := 0, slots := 0, locals := 47 } s m args below meth c mL Z (XV mL Z S') S 63 7 [(0, .ref (Z.2.1 0)), (1, .int x1), (2, .int x2), (3, .int x3)] []) (hk2 : ∀ (S : Mem) (x1 x2 x3 x4 : Int32), k2 S x1 x2 x3 x4 = some (r, S') → WN p l e { frames := 2, cells := 0, slots := 0, locals := 47 } s m args below meth c mL Z (XV mL Z S') S 72 7 [(0, .ref (Z.2.1 0)), (1, .int x1), (2, .int x2), (3, .int x3), (4, .int x4)] []) : ∀ (S : Mem) (x1 x2 x3 x4 s1 s2 : Int32), fX8_findsHalts_131 k0 k1 k2 S x1 x2 x3 x4 s1 s2 = some (r, S') → WN p l e { frames := 2, cells := 0, slots := 0, locals := 47 } s m args below meth c mL Z (XV mL Z S') S 131 7 [(0, .ref (Z.2.1 0)), (1, .int x1), (2, .int x2), (3, .int x3), (4, .int x4)] [.int s2, .int s1, .ref (Z.2.1 24)] := by
  obtain ⟨hx, hb, -, -, -, -, -, -, -, hQ⟩ := id E
  intro S x1 x2 x3 x4 s1 s2 h H locs ls X hl
  unfold fX8_findsHalts_131 at h
  obtain ⟨g_1, h⟩ := gd_s h
  obtain ⟨S_2, eS_2, h⟩ := ltm_s h
  refine x_iast E X rfl g_1 dX8_findsHalts_131 (fun H locs X => ?_)
  rw [← eS_2] at X
  refine lv_iinc (v := (x4 + (1 : Int32))) (lv' := [(4, .int (x4 + (1 : Int32))), (0, .ref (Z.2.1 0)), (1, .int x1), (2, .int x2), (3, .int x3)]) hx hb dX8_findsHalts_132 hl (k := 4) rfl rfl (by decide) rfl (fun ls hl => ?_)
  refine lv_goto (tgt := 72) hx hb dX8_findsHalts_135 (by decide) ?_
  exact hk2 S_2 x1 x2 x3 (x4 + (1 : Int32)) h _ _ _ X (lv_sub hl [1, 2, 3, 4, 0] rfl)
set_option maxRecDepth 20000 in
theorem wX8_findsHalts_72_b {p : Program} {l : Launch} {e : Env} {s : State} {m : MethodId} {args : Array Value} {below : List Frame} {meth : Method} {c : Code} {Z : XG} {r : Int32} {S' : Mem} (E : XE p s m args meth c cX8_findsHalts 7 RX8 none mL Z) (k0 : Mem → Int32 → Int32 → O)  (k1 : Mem → Int32 → Int32 → Int32 → O)  (k2 : Mem → Int32 → Int32 → Int32 → Int32 → O)  (hk0 : ∀ (S : Mem) (x1 x2 : Int32), k0 S x1 x2 = some (r, S') → WN p l e { frames := 2, cells := 0, slots := 0, locals := 47 } s m args below meth c mL Z (XV mL Z S') S 57 7 [(0, .ref (Z.2.1 0)), (1, .int x1), (2, .int x2)] []) (hk1 : ∀ (S : Mem) (x1 x2 x3 : Int32), k1 S x1 x2 x3 = some (r, S') → WN p l e { frames := 2, cells := 0, slots := 0, locals := 47 } s m args below meth c mL Z (XV mL Z S') S 63 7 [(0, .ref (Z.2.1 0)), (1, .int x1), (2, .int x2), (3, .int x3)] []) (hk2 : ∀ (S : Mem) (x1 x2 x3 x4 : Int32), k2 S x1 x2 x3 x4 = some (r, S') → WN p l e { frames := 2, cells := 0, slots := 0, locals := 47 } s m args below meth c mL Z (XV mL Z S') S 72 7 [(0, .ref (Z.2.1 0)), (1, .int x1), (2, .int x2), (3, .int x3), (4, .int x4)] []) : ∀ (S : Mem) (x1 x2 x3 x4 : Int32), fX8_findsHalts_72_b k0 k1 k2 S x1 x2 x3 x4 = some (r, S') → WN p l e { frames := 2, cells := 0, slots := 0, locals := 47 } s m args below meth c mL Z (XV mL Z S') S 72 7 [(0, .ref (Z.2.1 0)), (1, .int x1), (2, .int x2), (3, .int x3), (4, .int x4)] [] := by
  obtain ⟨hx, hb, -, -, -, -, -, -, -, hQ⟩ := id E
  intro S x1 x2 x3 x4 h H locs ls X hl
  unfold fX8_findsHalts_72_b at h
  refine lv_iload hx hb dX8_findsHalts_72 (lv_at hl 4 rfl) ?_
  refine lv_iload_n hx hb dX8_findsHalts_74 rfl (lv_at hl 1 rfl) ?_
  refine lv_icmp_gt (tgt := 138) hx hb dX8_findsHalts_75 (by decide) (fun c_1 => ?_) (fun c_1 => ?_)
  · have h := if_t c_1 h
    refine lv_iinc (v := (x3 + (1 : Int32))) (lv' := [(3, .int (x3 + (1 : Int32))), (0, .ref (Z.2.1 0)), (1, .int x1), (2, .int x2), (4, .int x4)]) hx hb dX8_findsHalts_138 hl (k := 3) rfl rfl (by decide) rfl (fun ls hl => ?_)
    refine lv_goto (tgt := 63) hx hb dX8_findsHalts_141 (by decide) ?_
    exact hk1 S x1 x2 (x3 + (1 : Int32)) h _ _ _ X (lv_sub hl [1, 2, 3, 0] rfl)
  · have h := if_f c_1 h
    refine lv_aload_n hx hb dX8_findsHalts_78 rfl (lv_at hl 0 rfl) ?_
    refine lv_iload_n hx hb dX8_findsHalts_79 rfl (lv_at hl 2 rfl) ?_
    refine lv_iload_n hx hb dX8_findsHalts_80 rfl (lv_at hl 3 rfl) ?_
    refine lv_iload hx hb dX8_findsHalts_81 (lv_at hl 4 rfl) ?_
    refine lv_iload_n hx hb dX8_findsHalts_83 rfl (lv_at hl 1 rfl) ?_
    obtain ⟨r_2, S_3, hr_2, h⟩ := bnd_s h
    refine x_callV E X cwX8_341 (mX8_walked l Z hQ  x2 x3 x4 x1 hr_2) rfl rfl rfl rfl hl.1 rfl dX8_findsHalts_84 (fun H locs X => ?_)
    refine lv_istore (lv' := [(5, .int r_2), (0, .ref (Z.2.1 0)), (1, .int x1), (2, .int x2), (3, .int x3), (4, .int x4)]) hx hb dX8_findsHalts_87 hl (by decide) rfl (fun ls hl => ?_)
    refine lv_aload_n hx hb dX8_findsHalts_89 rfl (lv_at hl 1 rfl) ?_
    refine lv_iload_n hx hb dX8_findsHalts_90 rfl (lv_at hl 3 rfl) ?_
    refine lv_iconst (v := (1 : Int32)) hx hb dX8_findsHalts_91 (by decide) ?_
    refine lv_iadd hx hb dX8_findsHalts_92 ?_
    refine lv_iload_n hx hb dX8_findsHalts_93 rfl (lv_at hl 4 rfl) ?_
    refine lv_iconst (v := (0 : Int32)) hx hb dX8_findsHalts_94 (by decide) ?_
    obtain ⟨r_4, S_5, hr_4, h⟩ := bnd_s h
    refine x_callV E X cwX8_338 (mX8_heatAt l Z hQ  (x2 + (1 : Int32)) x3 (0 : Int32) hr_4) rfl rfl rfl rfl hl.1 rfl dX8_findsHalts_95 (fun H locs X => ?_)
    refine lv_istore (lv' := [(6, .int r_4), (5, .int r_2), (0, .ref (Z.2.1 0)), (1, .int x1), (2, .int x2), (3, .int x3), (4, .int x4)]) hx hb dX8_findsHalts_98 hl (by decide) rfl (fun ls hl => ?_)
    refine lv_aload_n hx hb dX8_findsHalts_100 rfl (lv_at hl 2 rfl) ?_
    refine x_getr E X ffX8_83 rfl rfl dX8_findsHalts_101 ?_
    refine lv_sipush (v := (169 : Int32)) hx hb dX8_findsHalts_104 (by decide) ?_
    refine lv_iload_n hx hb dX8_findsHalts_107 rfl (lv_at hl 4 rfl) ?_
    refine lv_imul hx hb dX8_findsHalts_108 ?_
    refine lv_bipush (v := (13 : Int32)) hx hb dX8_findsHalts_109 (by decide) ?_
    refine lv_iload_n hx hb dX8_findsHalts_111 rfl (lv_at hl 5 rfl) ?_
    refine lv_imul hx hb dX8_findsHalts_112 ?_
    refine lv_iadd hx hb dX8_findsHalts_113 ?_
    refine lv_iload hx hb dX8_findsHalts_114 (lv_at hl 6 rfl) ?_
    refine lv_iadd hx hb dX8_findsHalts_116 ?_
    refine lv_iload hx hb dX8_findsHalts_117 (lv_at hl 1 rfl) ?_
    refine lv_iload hx hb dX8_findsHalts_119 (lv_at hl 0 rfl) ?_
    refine lv_icmp_ge (tgt := 129) hx hb dX8_findsHalts_121 (by decide) (fun c_6 => ?_) (fun c_6 => ?_)
    · have h := if_t c_6 h
      refine lv_iload hx hb dX8_findsHalts_129 (lv_at hl 0 rfl) ?_
      exact wX8_findsHalts_131 E k0 k1 k2 hk0 hk1 hk2 S_5 x1 x2 x3 x4 ((((169 : Int32) * x2) + ((13 : Int32) * x3)) + x4) r_4 h _ _ _ X (lv_sub hl [2, 3, 4, 5, 6] rfl)
    · have h := if_f c_6 h
      refine lv_iload hx hb dX8_findsHalts_124 (lv_at hl 1 rfl) ?_
      refine lv_goto (tgt := 131) hx hb dX8_findsHalts_126 (by decide) ?_
      exact wX8_findsHalts_131 E k0 k1 k2 hk0 hk1 hk2 S_5 x1 x2 x3 x4 ((((169 : Int32) * x2) + ((13 : Int32) * x3)) + x4) r_2 h _ _ _ X (lv_sub hl [2, 3, 4, 5, 6] rfl)
theorem wX8_findsHalts_72 {p : Program} {l : Launch} {e : Env} {s : State} {m : MethodId} {args : Array Value} {below : List Frame} {meth : Method} {c : Code} {Z : XG} {r : Int32} {S' : Mem} (E : XE p s m args meth c cX8_findsHalts 7 RX8 none mL Z) (k0 : Mem → Int32 → Int32 → O)  (k1 : Mem → Int32 → Int32 → Int32 → O)  (hk0 : ∀ (S : Mem) (x1 x2 : Int32), k0 S x1 x2 = some (r, S') → WN p l e { frames := 2, cells := 0, slots := 0, locals := 47 } s m args below meth c mL Z (XV mL Z S') S 57 7 [(0, .ref (Z.2.1 0)), (1, .int x1), (2, .int x2)] []) (hk1 : ∀ (S : Mem) (x1 x2 x3 : Int32), k1 S x1 x2 x3 = some (r, S') → WN p l e { frames := 2, cells := 0, slots := 0, locals := 47 } s m args below meth c mL Z (XV mL Z S') S 63 7 [(0, .ref (Z.2.1 0)), (1, .int x1), (2, .int x2), (3, .int x3)] []) : ∀ (n : Nat) (S : Mem) (x1 x2 x3 x4 : Int32), fX8_findsHalts_72 k0 k1 n S x1 x2 x3 x4 = some (r, S') → WN p l e { frames := 2, cells := 0, slots := 0, locals := 47 } s m args below meth c mL Z (XV mL Z S') S 72 7 [(0, .ref (Z.2.1 0)), (1, .int x1), (2, .int x2), (3, .int x3), (4, .int x4)] [] := by
  intro n
  induction n with
  | zero => intro S x1 x2 x3 x4 h; exact absurd (show (none : O) = some _ from h) (by simp)
  | succ n ih => intro S x1 x2 x3 x4 h; exact wX8_findsHalts_72_b E k0 k1 (fX8_findsHalts_72 k0 k1 n) hk0 hk1 ih S x1 x2 x3 x4 h
set_option maxRecDepth 20000 in
theorem wX8_findsHalts_63_b {p : Program} {l : Launch} {e : Env} {s : State} {m : MethodId} {args : Array Value} {below : List Frame} {meth : Method} {c : Code} {Z : XG} {r : Int32} {S' : Mem} (E : XE p s m args meth c cX8_findsHalts 7 RX8 none mL Z) (k0 : Mem → Int32 → Int32 → O)  (k1 : Mem → Int32 → Int32 → Int32 → O)  (hk0 : ∀ (S : Mem) (x1 x2 : Int32), k0 S x1 x2 = some (r, S') → WN p l e { frames := 2, cells := 0, slots := 0, locals := 47 } s m args below meth c mL Z (XV mL Z S') S 57 7 [(0, .ref (Z.2.1 0)), (1, .int x1), (2, .int x2)] []) (hk1 : ∀ (S : Mem) (x1 x2 x3 : Int32), k1 S x1 x2 x3 = some (r, S') → WN p l e { frames := 2, cells := 0, slots := 0, locals := 47 } s m args below meth c mL Z (XV mL Z S') S 63 7 [(0, .ref (Z.2.1 0)), (1, .int x1), (2, .int x2), (3, .int x3)] []) : ∀ (S : Mem) (x1 x2 x3 : Int32), fX8_findsHalts_63_b k0 k1 S x1 x2 x3 = some (r, S') → WN p l e { frames := 2, cells := 0, slots := 0, locals := 47 } s m args below meth c mL Z (XV mL Z S') S 63 7 [(0, .ref (Z.2.1 0)), (1, .int x1), (2, .int x2), (3, .int x3)] [] := by
  obtain ⟨hx, hb, -, -, -, -, -, -, -, hQ⟩ := id E
  intro S x1 x2 x3 h H locs ls X hl
  unfold fX8_findsHalts_63_b at h
  refine lv_iload_n hx hb dX8_findsHalts_63 rfl (lv_at hl 3 rfl) ?_
  refine lv_bipush (v := (12 : Int32)) hx hb dX8_findsHalts_64 (by decide) ?_
  refine lv_icmp_gt (tgt := 144) hx hb dX8_findsHalts_66 (by decide) (fun c_1 => ?_) (fun c_1 => ?_)
  · have h := if_t c_1 h
    refine lv_iinc (v := (x2 + (-1 : Int32))) (lv' := [(2, .int (x2 + (-1 : Int32))), (0, .ref (Z.2.1 0)), (1, .int x1), (3, .int x3)]) hx hb dX8_findsHalts_144 hl (k := 2) rfl rfl (by decide) rfl (fun ls hl => ?_)
    refine lv_goto (tgt := 57) hx hb dX8_findsHalts_147 (by decide) ?_
    exact hk0 S x1 (x2 + (-1 : Int32)) h _ _ _ X (lv_sub hl [1, 2, 0] rfl)
  · have h := if_f c_1 h
    refine lv_iconst (v := (0 : Int32)) hx hb dX8_findsHalts_69 (by decide) ?_
    refine lv_istore (lv' := [(4, .int (0 : Int32)), (0, .ref (Z.2.1 0)), (1, .int x1), (2, .int x2), (3, .int x3)]) hx hb dX8_findsHalts_70 hl (by decide) rfl (fun ls hl => ?_)
    exact wX8_findsHalts_72 E k0 k1 hk0 hk1 FU S x1 x2 x3 (0 : Int32) h _ _ _ X (lv_sub hl [1, 2, 3, 4, 0] rfl)
theorem wX8_findsHalts_63 {p : Program} {l : Launch} {e : Env} {s : State} {m : MethodId} {args : Array Value} {below : List Frame} {meth : Method} {c : Code} {Z : XG} {r : Int32} {S' : Mem} (E : XE p s m args meth c cX8_findsHalts 7 RX8 none mL Z) (k0 : Mem → Int32 → Int32 → O)  (hk0 : ∀ (S : Mem) (x1 x2 : Int32), k0 S x1 x2 = some (r, S') → WN p l e { frames := 2, cells := 0, slots := 0, locals := 47 } s m args below meth c mL Z (XV mL Z S') S 57 7 [(0, .ref (Z.2.1 0)), (1, .int x1), (2, .int x2)] []) : ∀ (n : Nat) (S : Mem) (x1 x2 x3 : Int32), fX8_findsHalts_63 k0 n S x1 x2 x3 = some (r, S') → WN p l e { frames := 2, cells := 0, slots := 0, locals := 47 } s m args below meth c mL Z (XV mL Z S') S 63 7 [(0, .ref (Z.2.1 0)), (1, .int x1), (2, .int x2), (3, .int x3)] [] := by
  intro n
  induction n with
  | zero => intro S x1 x2 x3 h; exact absurd (show (none : O) = some _ from h) (by simp)
  | succ n ih => intro S x1 x2 x3 h; exact wX8_findsHalts_63_b E k0 (fX8_findsHalts_63 k0 n) hk0 ih S x1 x2 x3 h
set_option maxRecDepth 20000 in
theorem wX8_findsHalts_57_b {p : Program} {l : Launch} {e : Env} {s : State} {m : MethodId} {args : Array Value} {below : List Frame} {meth : Method} {c : Code} {Z : XG} {r : Int32} {S' : Mem} (E : XE p s m args meth c cX8_findsHalts 7 RX8 none mL Z) (k0 : Mem → Int32 → Int32 → O)  (hk0 : ∀ (S : Mem) (x1 x2 : Int32), k0 S x1 x2 = some (r, S') → WN p l e { frames := 2, cells := 0, slots := 0, locals := 47 } s m args below meth c mL Z (XV mL Z S') S 57 7 [(0, .ref (Z.2.1 0)), (1, .int x1), (2, .int x2)] []) : ∀ (S : Mem) (x1 x2 : Int32), fX8_findsHalts_57_b k0 S x1 x2 = some (r, S') → WN p l e { frames := 2, cells := 0, slots := 0, locals := 47 } s m args below meth c mL Z (XV mL Z S') S 57 7 [(0, .ref (Z.2.1 0)), (1, .int x1), (2, .int x2)] [] := by
  obtain ⟨hx, hb, -, -, -, -, -, -, -, hQ⟩ := id E
  intro S x1 x2 h H locs ls X hl
  unfold fX8_findsHalts_57_b at h
  refine lv_iload_n hx hb dX8_findsHalts_57 rfl (lv_at hl 2 rfl) ?_
  refine lv_if_lt (tgt := 150) hx hb dX8_findsHalts_58 (by decide) (fun c_1 => ?_) (fun c_1 => ?_)
  · have h := if_t c_1 h
    exact x_vret E X h dX8_findsHalts_150
  · have h := if_f c_1 h
    refine lv_iconst (v := (0 : Int32)) hx hb dX8_findsHalts_61 (by decide) ?_
    refine lv_istore_n (lv' := [(3, .int (0 : Int32)), (0, .ref (Z.2.1 0)), (1, .int x1), (2, .int x2)]) hx hb dX8_findsHalts_62 rfl hl (by decide) rfl (fun ls hl => ?_)
    exact wX8_findsHalts_63 E k0 hk0 FU S x1 x2 (0 : Int32) h _ _ _ X (lv_sub hl [1, 2, 3, 0] rfl)
theorem wX8_findsHalts_57 {p : Program} {l : Launch} {e : Env} {s : State} {m : MethodId} {args : Array Value} {below : List Frame} {meth : Method} {c : Code} {Z : XG} {r : Int32} {S' : Mem} (E : XE p s m args meth c cX8_findsHalts 7 RX8 none mL Z) : ∀ (n : Nat) (S : Mem) (x1 x2 : Int32), fX8_findsHalts_57 n S x1 x2 = some (r, S') → WN p l e { frames := 2, cells := 0, slots := 0, locals := 47 } s m args below meth c mL Z (XV mL Z S') S 57 7 [(0, .ref (Z.2.1 0)), (1, .int x1), (2, .int x2)] [] := by
  intro n
  induction n with
  | zero => intro S x1 x2 h; exact absurd (show (none : O) = some _ from h) (by simp)
  | succ n ih => intro S x1 x2 h; exact wX8_findsHalts_57_b E (fX8_findsHalts_57 n) ih S x1 x2 h
set_option maxRecDepth 20000 in
theorem wX8_findsHalts_41 {p : Program} {l : Launch} {e : Env} {s : State} {m : MethodId} {args : Array Value} {below : List Frame} {meth : Method} {c : Code} {Z : XG} {r : Int32} {S' : Mem} (E : XE p s m args meth c cX8_findsHalts 7 RX8 none mL Z) (k0 : Mem → Int32 → Int32 → O)  (k1 : Mem → Int32 → Int32 → Int32 → O)  (hk0 : ∀ (S : Mem) (x1 x2 : Int32), k0 S x1 x2 = some (r, S') → WN p l e { frames := 2, cells := 0, slots := 0, locals := 47 } s m args below meth c mL Z (XV mL Z S') S 2 7 [(0, .ref (Z.2.1 0)), (1, .int x1), (2, .int x2)] []) (hk1 : ∀ (S : Mem) (x1 x2 x3 : Int32), k1 S x1 x2 x3 = some (r, S') → WN p l e { frames := 2, cells := 0, slots := 0, locals := 47 } s m args below meth c mL Z (XV mL Z S') S 10 7 [(0, .ref (Z.2.1 0)), (1, .int x1), (2, .int x2), (3, .int x3)] []) : ∀ (S : Mem) (x1 x2 x3 s1 s2 : Int32), fX8_findsHalts_41 k0 k1 S x1 x2 x3 s1 s2 = some (r, S') → WN p l e { frames := 2, cells := 0, slots := 0, locals := 47 } s m args below meth c mL Z (XV mL Z S') S 41 7 [(0, .ref (Z.2.1 0)), (1, .int x1), (2, .int x2), (3, .int x3)] [.int s2, .int s1, .ref (Z.2.1 24)] := by
  obtain ⟨hx, hb, -, -, -, -, -, -, -, hQ⟩ := id E
  intro S x1 x2 x3 s1 s2 h H locs ls X hl
  unfold fX8_findsHalts_41 at h
  obtain ⟨g_1, h⟩ := gd_s h
  obtain ⟨S_2, eS_2, h⟩ := ltm_s h
  refine x_iast E X rfl g_1 dX8_findsHalts_41 (fun H locs X => ?_)
  rw [← eS_2] at X
  refine lv_iinc (v := (x3 + (1 : Int32))) (lv' := [(3, .int (x3 + (1 : Int32))), (0, .ref (Z.2.1 0)), (1, .int x1), (2, .int x2)]) hx hb dX8_findsHalts_42 hl (k := 3) rfl rfl (by decide) rfl (fun ls hl => ?_)
  refine lv_goto (tgt := 10) hx hb dX8_findsHalts_45 (by decide) ?_
  exact hk1 S_2 x1 x2 (x3 + (1 : Int32)) h _ _ _ X (lv_sub hl [1, 2, 3, 0] rfl)
set_option maxRecDepth 20000 in
theorem wX8_findsHalts_10_b {p : Program} {l : Launch} {e : Env} {s : State} {m : MethodId} {args : Array Value} {below : List Frame} {meth : Method} {c : Code} {Z : XG} {r : Int32} {S' : Mem} (E : XE p s m args meth c cX8_findsHalts 7 RX8 none mL Z) (k0 : Mem → Int32 → Int32 → O)  (k1 : Mem → Int32 → Int32 → Int32 → O)  (hk0 : ∀ (S : Mem) (x1 x2 : Int32), k0 S x1 x2 = some (r, S') → WN p l e { frames := 2, cells := 0, slots := 0, locals := 47 } s m args below meth c mL Z (XV mL Z S') S 2 7 [(0, .ref (Z.2.1 0)), (1, .int x1), (2, .int x2)] []) (hk1 : ∀ (S : Mem) (x1 x2 x3 : Int32), k1 S x1 x2 x3 = some (r, S') → WN p l e { frames := 2, cells := 0, slots := 0, locals := 47 } s m args below meth c mL Z (XV mL Z S') S 10 7 [(0, .ref (Z.2.1 0)), (1, .int x1), (2, .int x2), (3, .int x3)] []) : ∀ (S : Mem) (x1 x2 x3 : Int32), fX8_findsHalts_10_b k0 k1 S x1 x2 x3 = some (r, S') → WN p l e { frames := 2, cells := 0, slots := 0, locals := 47 } s m args below meth c mL Z (XV mL Z S') S 10 7 [(0, .ref (Z.2.1 0)), (1, .int x1), (2, .int x2), (3, .int x3)] [] := by
  obtain ⟨hx, hb, -, -, -, -, -, -, -, hQ⟩ := id E
  intro S x1 x2 x3 h H locs ls X hl
  unfold fX8_findsHalts_10_b at h
  refine lv_iload_n hx hb dX8_findsHalts_10 rfl (lv_at hl 3 rfl) ?_
  refine lv_bipush (v := (12 : Int32)) hx hb dX8_findsHalts_11 (by decide) ?_
  refine lv_icmp_gt (tgt := 48) hx hb dX8_findsHalts_13 (by decide) (fun c_1 => ?_) (fun c_1 => ?_)
  · have h := if_t c_1 h
    refine lv_iinc (v := (x2 + (1 : Int32))) (lv' := [(2, .int (x2 + (1 : Int32))), (0, .ref (Z.2.1 0)), (1, .int x1), (3, .int x3)]) hx hb dX8_findsHalts_48 hl (k := 2) rfl rfl (by decide) rfl (fun ls hl => ?_)
    refine lv_goto (tgt := 2) hx hb dX8_findsHalts_51 (by decide) ?_
    exact hk0 S x1 (x2 + (1 : Int32)) h _ _ _ X (lv_sub hl [1, 2, 0] rfl)
  · have h := if_f c_1 h
    refine lv_aload_n hx hb dX8_findsHalts_16 rfl (lv_at hl 0 rfl) ?_
    refine x_getr E X ffX8_83 rfl rfl dX8_findsHalts_17 ?_
    refine lv_sipush (v := (2028 : Int32)) hx hb dX8_findsHalts_20 (by decide) ?_
    refine lv_bipush (v := (13 : Int32)) hx hb dX8_findsHalts_23 (by decide) ?_
    refine lv_iload_n hx hb dX8_findsHalts_25 rfl (lv_at hl 2 rfl) ?_
    refine lv_imul hx hb dX8_findsHalts_26 ?_
    refine lv_iadd hx hb dX8_findsHalts_27 ?_
    refine lv_iload_n hx hb dX8_findsHalts_28 rfl (lv_at hl 3 rfl) ?_
    refine lv_iadd hx hb dX8_findsHalts_29 ?_
    refine lv_iload_n hx hb dX8_findsHalts_30 rfl (lv_at hl 2 rfl) ?_
    refine lv_if_ne (tgt := 38) hx hb dX8_findsHalts_31 (by decide) (fun c_2 => ?_) (fun c_2 => ?_)
    · have h := if_f c_2 h
      refine x_ldcw E csX8_337 dX8_findsHalts_38 ?_
      exact wX8_findsHalts_41 E k0 k1 hk0 hk1 S x1 x2 x3 (((2028 : Int32) + ((13 : Int32) * x2)) + x3) (100000 : Int32) h _ _ _ X hl
    · have h := if_t c_2 h
      refine lv_iconst (v := (0 : Int32)) hx hb dX8_findsHalts_34 (by decide) ?_
      refine lv_goto (tgt := 41) hx hb dX8_findsHalts_35 (by decide) ?_
      exact wX8_findsHalts_41 E k0 k1 hk0 hk1 S x1 x2 x3 (((2028 : Int32) + ((13 : Int32) * x2)) + x3) (0 : Int32) h _ _ _ X hl
theorem wX8_findsHalts_10 {p : Program} {l : Launch} {e : Env} {s : State} {m : MethodId} {args : Array Value} {below : List Frame} {meth : Method} {c : Code} {Z : XG} {r : Int32} {S' : Mem} (E : XE p s m args meth c cX8_findsHalts 7 RX8 none mL Z) (k0 : Mem → Int32 → Int32 → O)  (hk0 : ∀ (S : Mem) (x1 x2 : Int32), k0 S x1 x2 = some (r, S') → WN p l e { frames := 2, cells := 0, slots := 0, locals := 47 } s m args below meth c mL Z (XV mL Z S') S 2 7 [(0, .ref (Z.2.1 0)), (1, .int x1), (2, .int x2)] []) : ∀ (n : Nat) (S : Mem) (x1 x2 x3 : Int32), fX8_findsHalts_10 k0 n S x1 x2 x3 = some (r, S') → WN p l e { frames := 2, cells := 0, slots := 0, locals := 47 } s m args below meth c mL Z (XV mL Z S') S 10 7 [(0, .ref (Z.2.1 0)), (1, .int x1), (2, .int x2), (3, .int x3)] [] := by
  intro n
  induction n with
  | zero => intro S x1 x2 x3 h; exact absurd (show (none : O) = some _ from h) (by simp)
  | succ n ih => intro S x1 x2 x3 h; exact wX8_findsHalts_10_b E k0 (fX8_findsHalts_10 k0 n) hk0 ih S x1 x2 x3 h
set_option maxRecDepth 20000 in
theorem wX8_findsHalts_2_b {p : Program} {l : Launch} {e : Env} {s : State} {m : MethodId} {args : Array Value} {below : List Frame} {meth : Method} {c : Code} {Z : XG} {r : Int32} {S' : Mem} (E : XE p s m args meth c cX8_findsHalts 7 RX8 none mL Z) (k0 : Mem → Int32 → Int32 → O)  (hk0 : ∀ (S : Mem) (x1 x2 : Int32), k0 S x1 x2 = some (r, S') → WN p l e { frames := 2, cells := 0, slots := 0, locals := 47 } s m args below meth c mL Z (XV mL Z S') S 2 7 [(0, .ref (Z.2.1 0)), (1, .int x1), (2, .int x2)] []) : ∀ (S : Mem) (x1 x2 : Int32), fX8_findsHalts_2_b k0 S x1 x2 = some (r, S') → WN p l e { frames := 2, cells := 0, slots := 0, locals := 47 } s m args below meth c mL Z (XV mL Z S') S 2 7 [(0, .ref (Z.2.1 0)), (1, .int x1), (2, .int x2)] [] := by
  obtain ⟨hx, hb, -, -, -, -, -, -, -, hQ⟩ := id E
  intro S x1 x2 h H locs ls X hl
  unfold fX8_findsHalts_2_b at h
  refine lv_iload_n hx hb dX8_findsHalts_2 rfl (lv_at hl 2 rfl) ?_
  refine lv_bipush (v := (12 : Int32)) hx hb dX8_findsHalts_3 (by decide) ?_
  refine lv_icmp_gt (tgt := 54) hx hb dX8_findsHalts_5 (by decide) (fun c_1 => ?_) (fun c_1 => ?_)
  · have h := if_t c_1 h
    refine lv_bipush (v := (11 : Int32)) hx hb dX8_findsHalts_54 (by decide) ?_
    refine lv_istore_n (lv' := [(2, .int (11 : Int32)), (0, .ref (Z.2.1 0)), (1, .int x1)]) hx hb dX8_findsHalts_56 rfl hl (by decide) rfl (fun ls hl => ?_)
    exact wX8_findsHalts_57 E   FU S x1 (11 : Int32) h _ _ _ X (lv_sub hl [1, 2, 0] rfl)
  · have h := if_f c_1 h
    refine lv_iconst (v := (0 : Int32)) hx hb dX8_findsHalts_8 (by decide) ?_
    refine lv_istore_n (lv' := [(3, .int (0 : Int32)), (0, .ref (Z.2.1 0)), (1, .int x1), (2, .int x2)]) hx hb dX8_findsHalts_9 rfl hl (by decide) rfl (fun ls hl => ?_)
    exact wX8_findsHalts_10 E k0 hk0 FU S x1 x2 (0 : Int32) h _ _ _ X (lv_sub hl [1, 2, 3, 0] rfl)
theorem wX8_findsHalts_2 {p : Program} {l : Launch} {e : Env} {s : State} {m : MethodId} {args : Array Value} {below : List Frame} {meth : Method} {c : Code} {Z : XG} {r : Int32} {S' : Mem} (E : XE p s m args meth c cX8_findsHalts 7 RX8 none mL Z) : ∀ (n : Nat) (S : Mem) (x1 x2 : Int32), fX8_findsHalts_2 n S x1 x2 = some (r, S') → WN p l e { frames := 2, cells := 0, slots := 0, locals := 47 } s m args below meth c mL Z (XV mL Z S') S 2 7 [(0, .ref (Z.2.1 0)), (1, .int x1), (2, .int x2)] [] := by
  intro n
  induction n with
  | zero => intro S x1 x2 h; exact absurd (show (none : O) = some _ from h) (by simp)
  | succ n ih => intro S x1 x2 h; exact wX8_findsHalts_2_b E (fX8_findsHalts_2 n) ih S x1 x2 h
set_option maxRecDepth 20000 in
theorem wX8_findsHalts {p : Program} {l : Launch} {e : Env} {s : State} {m : MethodId} {args : Array Value} {below : List Frame} {meth : Method} {c : Code} {Z : XG} {r : Int32} {S' : Mem} (E : XE p s m args meth c cX8_findsHalts 7 RX8 none mL Z) : ∀ (S : Mem) (x1 : Int32), fX8_findsHalts  S x1 = some (r, S') → WN p l e { frames := 2, cells := 0, slots := 0, locals := 47 } s m args below meth c mL Z (XV mL Z S') S 0 7 [(0, .ref (Z.2.1 0)), (1, .int x1)] [] := by
  obtain ⟨hx, hb, -, -, -, -, -, -, -, hQ⟩ := id E
  intro S x1 h H locs ls X hl
  unfold fX8_findsHalts at h
  refine lv_iconst (v := (0 : Int32)) hx hb dX8_findsHalts_0 (by decide) ?_
  refine lv_istore_n (lv' := [(2, .int (0 : Int32)), (0, .ref (Z.2.1 0)), (1, .int x1)]) hx hb dX8_findsHalts_1 rfl hl (by decide) rfl (fun ls hl => ?_)
  exact wX8_findsHalts_2 E   FU S x1 (0 : Int32) h _ _ _ X (lv_sub hl [1, 2, 0] rfl)
/-- SevenToAShadowModel.findsHalts(I)V -/
theorem mX8_findsHalts (l : Launch) (Z : XG) (hQ : wQ (List.length mL) Z) {S S' : Mem} {r : Int32} (x1 : Int32) (h : fX8_findsHalts S x1 = some (r, S')) : XM l yX8_findsHalts cX8_findsHalts 7 none { frames := 2, cells := 0, slots := 0, locals := 47 } mL Z [.ref (Z.2.1 0), .int x1] S (XV mL Z S') := by
  refine XM.of (own := RX8) (by decide +kernel) rfl rfl hQ (fun p e s m args below meth c E ls hl X => ?_)
  exact wX8_findsHalts E S x1 h _ _ _ X hl
def fX8_halts_174 (k0 : Mem → Int32 → Int32 → Int32 → Int32 → Int32 → O) (S : Mem) (x2 x5 x6 x7 s0 : Int32) : O := k0 S x2 s0 x5 x6 (x7 + (1 : Int32))
def fX8_halts_155 (k0 : Mem → Int32 → Int32 → Int32 → Int32 → Int32 → O) (S : Mem) (x2 x4 x6 x7 x8 s0 : Int32) : O := (if x8 = 0 then fX8_halts_174 k0 S x2 s0 x6 x7 x4 else fX8_halts_174 k0 S x2 s0 x6 x7 (x4 ||| ((1 : Int32) <<< (x7 &&& 31))))
def fX8_halts_139 (k0 : Mem → Int32 → Int32 → Int32 → Int32 → Int32 → O) (S : Mem) (x2 x4 x5 x7 x8 s0 : Int32) : O := (if x8 = 0 then fX8_halts_155 k0 S x2 x4 s0 x7 x8 x5 else fX8_halts_155 k0 S x2 x4 s0 x7 x8 (x5 - (1 : Int32)))
def fX8_halts_124 (k0 : Mem → Int32 → Int32 → Int32 → Int32 → Int32 → O) (S : Mem) (x2 x4 x5 x6 x7 s0 : Int32) : O := (if s0 = 0 then fX8_halts_139 k0 S x2 x4 x5 x7 s0 (0 : Int32) else fX8_halts_139 k0 S x2 x4 x5 x7 s0 (x6 + (1 : Int32)))
def fX8_halts_123 (k0 : Mem → Int32 → Int32 → Int32 → Int32 → Int32 → O) (S : Mem) (x2 x4 x5 x6 x7 : Int32) : O := fX8_halts_124 k0 S x2 x4 x5 x6 x7 (0 : Int32)
def fX8_halts_83_b (k0 : Mem → Int32 → Int32 → Int32 → Int32 → Int32 → O) (S : Mem) (x2 x4 x5 x6 x7 : Int32) : O := (if (12 : Int32) ≤ x7 then some (x4, S) else (if x5 ≤ 0 then fX8_halts_123 k0 S x2 x4 x5 x6 x7 else bnd (fX8_walked S x7 x5 x6 x2) fun r_3 S_4 => bnd (fX8_heatAt S_4 x7 x5 x6) fun r_5 S_6 => (if r_3 = r_5 then fX8_halts_124 k0 S_6 x2 x4 x5 x6 x7 (1 : Int32) else fX8_halts_123 k0 S_6 x2 x4 x5 x6 x7)))
def fX8_halts_83 : Nat → Mem → Int32 → Int32 → Int32 → Int32 → Int32 → O
  | 0 => fun _ _ _ _ _ _ => none
  | n + 1 => fX8_halts_83_b (fX8_halts_83 n)
def fX8_halts (S : Mem) (x1 x2 x3 : Int32) : O := ltm (mset S 0 0 (0 : Int32)) fun S_1 => bnd (fX8_isIn S_1 x1 (0 : Int32) (12 : Int32)) fun r_2 S_3 => (if r_2 = 0 then some ((-1 : Int32), S_3) else bnd (fX8_isIn S_3 x2 (1 : Int32) (12 : Int32)) fun r_5 S_6 => (if r_5 = 0 then some ((-1 : Int32), S_6) else bnd (fX8_isIn S_6 x3 (0 : Int32) (1 : Int32)) fun r_8 S_9 => (if r_8 = 0 then some ((-1 : Int32), S_9) else bnd (fX8_findsHalts S_9 x2) fun _ S_12 => bnd (fX8_heatAt S_12 (0 : Int32) x1 (0 : Int32)) fun r_13 S_14 => (if r_13 < (100000 : Int32) then (if x3 = 0 then bnd (fX8_heatAt S_14 (0 : Int32) x1 (0 : Int32)) fun r_17 S_18 => some (r_17, S_18) else fX8_halts_83  FU S_14 x2 (0 : Int32) x1 (0 : Int32) (0 : Int32)) else some ((-1 : Int32), S_14)))))
theorem dX8_halts_0 : decode cX8_halts 0 = .ok (.aload_n 0, 1) := by decide +kernel
theorem dX8_halts_1 : decode cX8_halts 1 = .ok (.iconst 0, 1) := by decide +kernel
theorem dX8_halts_2 : decode cX8_halts 2 = .ok (.putfield 92, 3) := by decide +kernel
theorem dX8_halts_5 : decode cX8_halts 5 = .ok (.aload_n 0, 1) := by decide +kernel
theorem dX8_halts_6 : decode cX8_halts 6 = .ok (.iload_n 1, 1) := by decide +kernel
theorem dX8_halts_7 : decode cX8_halts 7 = .ok (.iconst 0, 1) := by decide +kernel
theorem dX8_halts_8 : decode cX8_halts 8 = .ok (.bipush 12, 2) := by decide +kernel
theorem dX8_halts_10 : decode cX8_halts 10 = .ok (.invokevirtual 107, 3) := by decide +kernel
theorem dX8_halts_13 : decode cX8_halts 13 = .ok (.ifCond .eq 24, 3) := by decide +kernel
theorem dX8_halts_16 : decode cX8_halts 16 = .ok (.aload_n 0, 1) := by decide +kernel
theorem dX8_halts_17 : decode cX8_halts 17 = .ok (.iload_n 2, 1) := by decide +kernel
theorem dX8_halts_18 : decode cX8_halts 18 = .ok (.iconst 1, 1) := by decide +kernel
theorem dX8_halts_19 : decode cX8_halts 19 = .ok (.bipush 12, 2) := by decide +kernel
theorem dX8_halts_21 : decode cX8_halts 21 = .ok (.invokevirtual 107, 3) := by decide +kernel
theorem dX8_halts_24 : decode cX8_halts 24 = .ok (.ifCond .eq 13, 3) := by decide +kernel
theorem dX8_halts_27 : decode cX8_halts 27 = .ok (.aload_n 0, 1) := by decide +kernel
theorem dX8_halts_28 : decode cX8_halts 28 = .ok (.iload_n 3, 1) := by decide +kernel
theorem dX8_halts_29 : decode cX8_halts 29 = .ok (.iconst 0, 1) := by decide +kernel
theorem dX8_halts_30 : decode cX8_halts 30 = .ok (.iconst 1, 1) := by decide +kernel
theorem dX8_halts_31 : decode cX8_halts 31 = .ok (.invokevirtual 107, 3) := by decide +kernel
theorem dX8_halts_34 : decode cX8_halts 34 = .ok (.ifCond .ne 5, 3) := by decide +kernel
theorem dX8_halts_37 : decode cX8_halts 37 = .ok (.iconst (-1), 1) := by decide +kernel
theorem dX8_halts_38 : decode cX8_halts 38 = .ok (.ireturn, 1) := by decide +kernel
theorem dX8_halts_39 : decode cX8_halts 39 = .ok (.aload_n 0, 1) := by decide +kernel
theorem dX8_halts_40 : decode cX8_halts 40 = .ok (.iload_n 2, 1) := by decide +kernel
theorem dX8_halts_41 : decode cX8_halts 41 = .ok (.invokevirtual 345, 3) := by decide +kernel
theorem dX8_halts_44 : decode cX8_halts 44 = .ok (.aload_n 0, 1) := by decide +kernel
theorem dX8_halts_45 : decode cX8_halts 45 = .ok (.iconst 0, 1) := by decide +kernel
theorem dX8_halts_46 : decode cX8_halts 46 = .ok (.iload_n 1, 1) := by decide +kernel
theorem dX8_halts_47 : decode cX8_halts 47 = .ok (.iconst 0, 1) := by decide +kernel
theorem dX8_halts_48 : decode cX8_halts 48 = .ok (.invokevirtual 338, 3) := by decide +kernel
theorem dX8_halts_51 : decode cX8_halts 51 = .ok (.ldc_w 337, 3) := by decide +kernel
theorem dX8_halts_54 : decode cX8_halts 54 = .ok (.if_icmp .lt 5, 3) := by decide +kernel
theorem dX8_halts_57 : decode cX8_halts 57 = .ok (.iconst (-1), 1) := by decide +kernel
theorem dX8_halts_58 : decode cX8_halts 58 = .ok (.ireturn, 1) := by decide +kernel
theorem dX8_halts_59 : decode cX8_halts 59 = .ok (.iload_n 3, 1) := by decide +kernel
theorem dX8_halts_60 : decode cX8_halts 60 = .ok (.ifCond .ne 11, 3) := by decide +kernel
theorem dX8_halts_63 : decode cX8_halts 63 = .ok (.aload_n 0, 1) := by decide +kernel
theorem dX8_halts_64 : decode cX8_halts 64 = .ok (.iconst 0, 1) := by decide +kernel
theorem dX8_halts_65 : decode cX8_halts 65 = .ok (.iload_n 1, 1) := by decide +kernel
theorem dX8_halts_66 : decode cX8_halts 66 = .ok (.iconst 0, 1) := by decide +kernel
theorem dX8_halts_67 : decode cX8_halts 67 = .ok (.invokevirtual 338, 3) := by decide +kernel
theorem dX8_halts_70 : decode cX8_halts 70 = .ok (.ireturn, 1) := by decide +kernel
theorem dX8_halts_71 : decode cX8_halts 71 = .ok (.iconst 0, 1) := by decide +kernel
theorem dX8_halts_72 : decode cX8_halts 72 = .ok (.istore 4, 2) := by decide +kernel
theorem dX8_halts_74 : decode cX8_halts 74 = .ok (.iload_n 1, 1) := by decide +kernel
theorem dX8_halts_75 : decode cX8_halts 75 = .ok (.istore 5, 2) := by decide +kernel
theorem dX8_halts_77 : decode cX8_halts 77 = .ok (.iconst 0, 1) := by decide +kernel
theorem dX8_halts_78 : decode cX8_halts 78 = .ok (.istore 6, 2) := by decide +kernel
theorem dX8_halts_80 : decode cX8_halts 80 = .ok (.iconst 0, 1) := by decide +kernel
theorem dX8_halts_81 : decode cX8_halts 81 = .ok (.istore 7, 2) := by decide +kernel
theorem dX8_halts_83 : decode cX8_halts 83 = .ok (.iload 7, 2) := by decide +kernel
theorem dX8_halts_85 : decode cX8_halts 85 = .ok (.bipush 12, 2) := by decide +kernel
theorem dX8_halts_87 : decode cX8_halts 87 = .ok (.if_icmp .ge 95, 3) := by decide +kernel
theorem dX8_halts_90 : decode cX8_halts 90 = .ok (.iload 5, 2) := by decide +kernel
theorem dX8_halts_92 : decode cX8_halts 92 = .ok (.ifCond .le 31, 3) := by decide +kernel
theorem dX8_halts_95 : decode cX8_halts 95 = .ok (.aload_n 0, 1) := by decide +kernel
theorem dX8_halts_96 : decode cX8_halts 96 = .ok (.iload 7, 2) := by decide +kernel
theorem dX8_halts_98 : decode cX8_halts 98 = .ok (.iload 5, 2) := by decide +kernel
theorem dX8_halts_100 : decode cX8_halts 100 = .ok (.iload 6, 2) := by decide +kernel
theorem dX8_halts_102 : decode cX8_halts 102 = .ok (.iload_n 2, 1) := by decide +kernel
theorem dX8_halts_103 : decode cX8_halts 103 = .ok (.invokevirtual 341, 3) := by decide +kernel
theorem dX8_halts_106 : decode cX8_halts 106 = .ok (.aload_n 0, 1) := by decide +kernel
theorem dX8_halts_107 : decode cX8_halts 107 = .ok (.iload 7, 2) := by decide +kernel
theorem dX8_halts_109 : decode cX8_halts 109 = .ok (.iload 5, 2) := by decide +kernel
theorem dX8_halts_111 : decode cX8_halts 111 = .ok (.iload 6, 2) := by decide +kernel
theorem dX8_halts_113 : decode cX8_halts 113 = .ok (.invokevirtual 338, 3) := by decide +kernel
theorem dX8_halts_116 : decode cX8_halts 116 = .ok (.if_icmp .ne 7, 3) := by decide +kernel
theorem dX8_halts_119 : decode cX8_halts 119 = .ok (.iconst 1, 1) := by decide +kernel
theorem dX8_halts_120 : decode cX8_halts 120 = .ok (.goto 4, 3) := by decide +kernel
theorem dX8_halts_123 : decode cX8_halts 123 = .ok (.iconst 0, 1) := by decide +kernel
theorem dX8_halts_124 : decode cX8_halts 124 = .ok (.istore 8, 2) := by decide +kernel
theorem dX8_halts_126 : decode cX8_halts 126 = .ok (.iload 8, 2) := by decide +kernel
theorem dX8_halts_128 : decode cX8_halts 128 = .ok (.ifCond .eq 10, 3) := by decide +kernel
theorem dX8_halts_131 : decode cX8_halts 131 = .ok (.iload 6, 2) := by decide +kernel
theorem dX8_halts_133 : decode cX8_halts 133 = .ok (.iconst 1, 1) := by decide +kernel
theorem dX8_halts_134 : decode cX8_halts 134 = .ok (.iadd, 1) := by decide +kernel
theorem dX8_halts_135 : decode cX8_halts 135 = .ok (.goto 4, 3) := by decide +kernel
theorem dX8_halts_138 : decode cX8_halts 138 = .ok (.iconst 0, 1) := by decide +kernel
theorem dX8_halts_139 : decode cX8_halts 139 = .ok (.istore 6, 2) := by decide +kernel
theorem dX8_halts_141 : decode cX8_halts 141 = .ok (.iload 8, 2) := by decide +kernel
theorem dX8_halts_143 : decode cX8_halts 143 = .ok (.ifCond .eq 10, 3) := by decide +kernel
theorem dX8_halts_146 : decode cX8_halts 146 = .ok (.iload 5, 2) := by decide +kernel
theorem dX8_halts_148 : decode cX8_halts 148 = .ok (.iconst 1, 1) := by decide +kernel
theorem dX8_halts_149 : decode cX8_halts 149 = .ok (.isub, 1) := by decide +kernel
theorem dX8_halts_150 : decode cX8_halts 150 = .ok (.goto 5, 3) := by decide +kernel
theorem dX8_halts_153 : decode cX8_halts 153 = .ok (.iload 5, 2) := by decide +kernel
theorem dX8_halts_155 : decode cX8_halts 155 = .ok (.istore 5, 2) := by decide +kernel
theorem dX8_halts_157 : decode cX8_halts 157 = .ok (.iload 8, 2) := by decide +kernel
theorem dX8_halts_159 : decode cX8_halts 159 = .ok (.ifCond .eq 13, 3) := by decide +kernel
theorem dX8_halts_162 : decode cX8_halts 162 = .ok (.iload 4, 2) := by decide +kernel
theorem dX8_halts_164 : decode cX8_halts 164 = .ok (.iconst 1, 1) := by decide +kernel
theorem dX8_halts_165 : decode cX8_halts 165 = .ok (.iload 7, 2) := by decide +kernel
theorem dX8_halts_167 : decode cX8_halts 167 = .ok (.ishl, 1) := by decide +kernel
theorem dX8_halts_168 : decode cX8_halts 168 = .ok (.ior, 1) := by decide +kernel
theorem dX8_halts_169 : decode cX8_halts 169 = .ok (.goto 5, 3) := by decide +kernel
theorem dX8_halts_172 : decode cX8_halts 172 = .ok (.iload 4, 2) := by decide +kernel
theorem dX8_halts_174 : decode cX8_halts 174 = .ok (.istore 4, 2) := by decide +kernel
theorem dX8_halts_176 : decode cX8_halts 176 = .ok (.iinc 7 1, 3) := by decide +kernel
theorem dX8_halts_179 : decode cX8_halts 179 = .ok (.goto (-96), 3) := by decide +kernel
theorem dX8_halts_182 : decode cX8_halts 182 = .ok (.iload 4, 2) := by decide +kernel
theorem dX8_halts_184 : decode cX8_halts 184 = .ok (.ireturn, 1) := by decide +kernel
set_option maxRecDepth 20000 in
theorem wX8_halts_174 {p : Program} {l : Launch} {e : Env} {s : State} {m : MethodId} {args : Array Value} {below : List Frame} {meth : Method} {c : Code} {Z : XG} {r : Int32} {S' : Mem} (E : XE p s m args meth c cX8_halts 9 RX8 (some .int) mL Z) (k0 : Mem → Int32 → Int32 → Int32 → Int32 → Int32 → O)  (hk0 : ∀ (S : Mem) (x2 x4 x5 x6 x7 : Int32), k0 S x2 x4 x5 x6 x7 = some (r, S') → WN p l e { frames := 3, cells := 0, slots := 0, locals := 73 } s m args below meth c mL Z (XQ mL Z r S') S 83 9 [(0, .ref (Z.2.1 0)), (2, .int x2), (4, .int x4), (5, .int x5), (6, .int x6), (7, .int x7)] []) : ∀ (S : Mem) (x2 x5 x6 x7 s0 : Int32), fX8_halts_174 k0 S x2 x5 x6 x7 s0 = some (r, S') → WN p l e { frames := 3, cells := 0, slots := 0, locals := 73 } s m args below meth c mL Z (XQ mL Z r S') S 174 9 [(0, .ref (Z.2.1 0)), (2, .int x2), (5, .int x5), (6, .int x6), (7, .int x7)] [.int s0] := by
  obtain ⟨hx, hb, -, -, -, -, -, -, -, hQ⟩ := id E
  intro S x2 x5 x6 x7 s0 h H locs ls X hl
  unfold fX8_halts_174 at h
  refine lv_istore (lv' := [(4, .int s0), (0, .ref (Z.2.1 0)), (2, .int x2), (5, .int x5), (6, .int x6), (7, .int x7)]) hx hb dX8_halts_174 hl (by decide) rfl (fun ls hl => ?_)
  refine lv_iinc (v := (x7 + (1 : Int32))) (lv' := [(7, .int (x7 + (1 : Int32))), (4, .int s0), (0, .ref (Z.2.1 0)), (2, .int x2), (5, .int x5), (6, .int x6)]) hx hb dX8_halts_176 hl (k := 5) rfl rfl (by decide) rfl (fun ls hl => ?_)
  refine lv_goto (tgt := 83) hx hb dX8_halts_179 (by decide) ?_
  exact hk0 S x2 s0 x5 x6 (x7 + (1 : Int32)) h _ _ _ X (lv_sub hl [2, 3, 1, 4, 5, 0] rfl)
set_option maxRecDepth 20000 in
theorem wX8_halts_155 {p : Program} {l : Launch} {e : Env} {s : State} {m : MethodId} {args : Array Value} {below : List Frame} {meth : Method} {c : Code} {Z : XG} {r : Int32} {S' : Mem} (E : XE p s m args meth c cX8_halts 9 RX8 (some .int) mL Z) (k0 : Mem → Int32 → Int32 → Int32 → Int32 → Int32 → O)  (hk0 : ∀ (S : Mem) (x2 x4 x5 x6 x7 : Int32), k0 S x2 x4 x5 x6 x7 = some (r, S') → WN p l e { frames := 3, cells := 0, slots := 0, locals := 73 } s m args below meth c mL Z (XQ mL Z r S') S 83 9 [(0, .ref (Z.2.1 0)), (2, .int x2), (4, .int x4), (5, .int x5), (6, .int x6), (7, .int x7)] []) : ∀ (S : Mem) (x2 x4 x6 x7 x8 s0 : Int32), fX8_halts_155 k0 S x2 x4 x6 x7 x8 s0 = some (r, S') → WN p l e { frames := 3, cells := 0, slots := 0, locals := 73 } s m args below meth c mL Z (XQ mL Z r S') S 155 9 [(0, .ref (Z.2.1 0)), (2, .int x2), (4, .int x4), (6, .int x6), (7, .int x7), (8, .int x8)] [.int s0] := by
  obtain ⟨hx, hb, -, -, -, -, -, -, -, hQ⟩ := id E
  intro S x2 x4 x6 x7 x8 s0 h H locs ls X hl
  unfold fX8_halts_155 at h
  refine lv_istore (lv' := [(5, .int s0), (0, .ref (Z.2.1 0)), (2, .int x2), (4, .int x4), (6, .int x6), (7, .int x7), (8, .int x8)]) hx hb dX8_halts_155 hl (by decide) rfl (fun ls hl => ?_)
  refine lv_iload hx hb dX8_halts_157 (lv_at hl 6 rfl) ?_
  refine lv_if_eq (tgt := 172) hx hb dX8_halts_159 (by decide) (fun c_1 => ?_) (fun c_1 => ?_)
  · have h := if_t c_1 h
    refine lv_iload hx hb dX8_halts_172 (lv_at hl 3 rfl) ?_
    exact wX8_halts_174 E k0 hk0 S x2 s0 x6 x7 x4 h _ _ _ X (lv_sub hl [1, 2, 0, 4, 5] rfl)
  · have h := if_f c_1 h
    refine lv_iload hx hb dX8_halts_162 (lv_at hl 3 rfl) ?_
    refine lv_iconst (v := (1 : Int32)) hx hb dX8_halts_164 (by decide) ?_
    refine lv_iload hx hb dX8_halts_165 (lv_at hl 5 rfl) ?_
    refine lv_ishl hx hb dX8_halts_167 ?_
    refine lv_ior hx hb dX8_halts_168 ?_
    refine lv_goto (tgt := 174) hx hb dX8_halts_169 (by decide) ?_
    exact wX8_halts_174 E k0 hk0 S x2 s0 x6 x7 (x4 ||| ((1 : Int32) <<< (x7 &&& 31))) h _ _ _ X (lv_sub hl [1, 2, 0, 4, 5] rfl)
set_option maxRecDepth 20000 in
theorem wX8_halts_139 {p : Program} {l : Launch} {e : Env} {s : State} {m : MethodId} {args : Array Value} {below : List Frame} {meth : Method} {c : Code} {Z : XG} {r : Int32} {S' : Mem} (E : XE p s m args meth c cX8_halts 9 RX8 (some .int) mL Z) (k0 : Mem → Int32 → Int32 → Int32 → Int32 → Int32 → O)  (hk0 : ∀ (S : Mem) (x2 x4 x5 x6 x7 : Int32), k0 S x2 x4 x5 x6 x7 = some (r, S') → WN p l e { frames := 3, cells := 0, slots := 0, locals := 73 } s m args below meth c mL Z (XQ mL Z r S') S 83 9 [(0, .ref (Z.2.1 0)), (2, .int x2), (4, .int x4), (5, .int x5), (6, .int x6), (7, .int x7)] []) : ∀ (S : Mem) (x2 x4 x5 x7 x8 s0 : Int32), fX8_halts_139 k0 S x2 x4 x5 x7 x8 s0 = some (r, S') → WN p l e { frames := 3, cells := 0, slots := 0, locals := 73 } s m args below meth c mL Z (XQ mL Z r S') S 139 9 [(0, .ref (Z.2.1 0)), (2, .int x2), (4, .int x4), (5, .int x5), (7, .int x7), (8, .int x8)] [.int s0] := by
  obtain ⟨hx, hb, -, -, -, -, -, -, -, hQ⟩ := id E
  intro S x2 x4 x5 x7 x8 s0 h H locs ls X hl
  unfold fX8_halts_139 at h
  refine lv_istore (lv' := [(6, .int s0), (0, .ref (Z.2.1 0)), (2, .int x2), (4, .int x4), (5, .int x5), (7, .int x7), (8, .int x8)]) hx hb dX8_halts_139 hl (by decide) rfl (fun ls hl => ?_)
  refine lv_iload hx hb dX8_halts_141 (lv_at hl 6 rfl) ?_
  refine lv_if_eq (tgt := 153) hx hb dX8_halts_143 (by decide) (fun c_1 => ?_) (fun c_1 => ?_)
  · have h := if_t c_1 h
    refine lv_iload hx hb dX8_halts_153 (lv_at hl 4 rfl) ?_
    exact wX8_halts_155 E k0 hk0 S x2 x4 s0 x7 x8 x5 h _ _ _ X (lv_sub hl [1, 2, 3, 0, 5, 6] rfl)
  · have h := if_f c_1 h
    refine lv_iload hx hb dX8_halts_146 (lv_at hl 4 rfl) ?_
    refine lv_iconst (v := (1 : Int32)) hx hb dX8_halts_148 (by decide) ?_
    refine lv_isub hx hb dX8_halts_149 ?_
    refine lv_goto (tgt := 155) hx hb dX8_halts_150 (by decide) ?_
    exact wX8_halts_155 E k0 hk0 S x2 x4 s0 x7 x8 (x5 - (1 : Int32)) h _ _ _ X (lv_sub hl [1, 2, 3, 0, 5, 6] rfl)
set_option maxRecDepth 20000 in
theorem wX8_halts_124 {p : Program} {l : Launch} {e : Env} {s : State} {m : MethodId} {args : Array Value} {below : List Frame} {meth : Method} {c : Code} {Z : XG} {r : Int32} {S' : Mem} (E : XE p s m args meth c cX8_halts 9 RX8 (some .int) mL Z) (k0 : Mem → Int32 → Int32 → Int32 → Int32 → Int32 → O)  (hk0 : ∀ (S : Mem) (x2 x4 x5 x6 x7 : Int32), k0 S x2 x4 x5 x6 x7 = some (r, S') → WN p l e { frames := 3, cells := 0, slots := 0, locals := 73 } s m args below meth c mL Z (XQ mL Z r S') S 83 9 [(0, .ref (Z.2.1 0)), (2, .int x2), (4, .int x4), (5, .int x5), (6, .int x6), (7, .int x7)] []) : ∀ (S : Mem) (x2 x4 x5 x6 x7 s0 : Int32), fX8_halts_124 k0 S x2 x4 x5 x6 x7 s0 = some (r, S') → WN p l e { frames := 3, cells := 0, slots := 0, locals := 73 } s m args below meth c mL Z (XQ mL Z r S') S 124 9 [(0, .ref (Z.2.1 0)), (2, .int x2), (4, .int x4), (5, .int x5), (6, .int x6), (7, .int x7)] [.int s0] := by
  obtain ⟨hx, hb, -, -, -, -, -, -, -, hQ⟩ := id E
  intro S x2 x4 x5 x6 x7 s0 h H locs ls X hl
  unfold fX8_halts_124 at h
  refine lv_istore (lv' := [(8, .int s0), (0, .ref (Z.2.1 0)), (2, .int x2), (4, .int x4), (5, .int x5), (6, .int x6), (7, .int x7)]) hx hb dX8_halts_124 hl (by decide) rfl (fun ls hl => ?_)
  refine lv_iload hx hb dX8_halts_126 (lv_at hl 0 rfl) ?_
  refine lv_if_eq (tgt := 138) hx hb dX8_halts_128 (by decide) (fun c_1 => ?_) (fun c_1 => ?_)
  · have h := if_t c_1 h
    refine lv_iconst (v := (0 : Int32)) hx hb dX8_halts_138 (by decide) ?_
    exact wX8_halts_139 E k0 hk0 S x2 x4 x5 x7 s0 (0 : Int32) h _ _ _ X (lv_sub hl [1, 2, 3, 4, 6, 0] rfl)
  · have h := if_f c_1 h
    refine lv_iload hx hb dX8_halts_131 (lv_at hl 5 rfl) ?_
    refine lv_iconst (v := (1 : Int32)) hx hb dX8_halts_133 (by decide) ?_
    refine lv_iadd hx hb dX8_halts_134 ?_
    refine lv_goto (tgt := 139) hx hb dX8_halts_135 (by decide) ?_
    exact wX8_halts_139 E k0 hk0 S x2 x4 x5 x7 s0 (x6 + (1 : Int32)) h _ _ _ X (lv_sub hl [1, 2, 3, 4, 6, 0] rfl)
set_option maxRecDepth 20000 in
theorem wX8_halts_123 {p : Program} {l : Launch} {e : Env} {s : State} {m : MethodId} {args : Array Value} {below : List Frame} {meth : Method} {c : Code} {Z : XG} {r : Int32} {S' : Mem} (E : XE p s m args meth c cX8_halts 9 RX8 (some .int) mL Z) (k0 : Mem → Int32 → Int32 → Int32 → Int32 → Int32 → O)  (hk0 : ∀ (S : Mem) (x2 x4 x5 x6 x7 : Int32), k0 S x2 x4 x5 x6 x7 = some (r, S') → WN p l e { frames := 3, cells := 0, slots := 0, locals := 73 } s m args below meth c mL Z (XQ mL Z r S') S 83 9 [(0, .ref (Z.2.1 0)), (2, .int x2), (4, .int x4), (5, .int x5), (6, .int x6), (7, .int x7)] []) : ∀ (S : Mem) (x2 x4 x5 x6 x7 : Int32), fX8_halts_123 k0 S x2 x4 x5 x6 x7 = some (r, S') → WN p l e { frames := 3, cells := 0, slots := 0, locals := 73 } s m args below meth c mL Z (XQ mL Z r S') S 123 9 [(0, .ref (Z.2.1 0)), (2, .int x2), (4, .int x4), (5, .int x5), (6, .int x6), (7, .int x7)] [] := by
  obtain ⟨hx, hb, -, -, -, -, -, -, -, hQ⟩ := id E
  intro S x2 x4 x5 x6 x7 h H locs ls X hl
  unfold fX8_halts_123 at h
  refine lv_iconst (v := (0 : Int32)) hx hb dX8_halts_123 (by decide) ?_
  exact wX8_halts_124 E k0 hk0 S x2 x4 x5 x6 x7 (0 : Int32) h _ _ _ X hl
set_option maxRecDepth 20000 in
theorem wX8_halts_83_b {p : Program} {l : Launch} {e : Env} {s : State} {m : MethodId} {args : Array Value} {below : List Frame} {meth : Method} {c : Code} {Z : XG} {r : Int32} {S' : Mem} (E : XE p s m args meth c cX8_halts 9 RX8 (some .int) mL Z) (k0 : Mem → Int32 → Int32 → Int32 → Int32 → Int32 → O)  (hk0 : ∀ (S : Mem) (x2 x4 x5 x6 x7 : Int32), k0 S x2 x4 x5 x6 x7 = some (r, S') → WN p l e { frames := 3, cells := 0, slots := 0, locals := 73 } s m args below meth c mL Z (XQ mL Z r S') S 83 9 [(0, .ref (Z.2.1 0)), (2, .int x2), (4, .int x4), (5, .int x5), (6, .int x6), (7, .int x7)] []) : ∀ (S : Mem) (x2 x4 x5 x6 x7 : Int32), fX8_halts_83_b k0 S x2 x4 x5 x6 x7 = some (r, S') → WN p l e { frames := 3, cells := 0, slots := 0, locals := 73 } s m args below meth c mL Z (XQ mL Z r S') S 83 9 [(0, .ref (Z.2.1 0)), (2, .int x2), (4, .int x4), (5, .int x5), (6, .int x6), (7, .int x7)] [] := by
  obtain ⟨hx, hb, -, -, -, -, -, -, -, hQ⟩ := id E
  intro S x2 x4 x5 x6 x7 h H locs ls X hl
  unfold fX8_halts_83_b at h
  refine lv_iload hx hb dX8_halts_83 (lv_at hl 5 rfl) ?_
  refine lv_bipush (v := (12 : Int32)) hx hb dX8_halts_85 (by decide) ?_
  refine lv_icmp_ge (tgt := 182) hx hb dX8_halts_87 (by decide) (fun c_1 => ?_) (fun c_1 => ?_)
  · have h := if_t c_1 h
    refine lv_iload hx hb dX8_halts_182 (lv_at hl 2 rfl) ?_
    exact x_iret E X h dX8_halts_184
  · have h := if_f c_1 h
    refine lv_iload hx hb dX8_halts_90 (lv_at hl 3 rfl) ?_
    refine lv_if_le (tgt := 123) hx hb dX8_halts_92 (by decide) (fun c_2 => ?_) (fun c_2 => ?_)
    · have h := if_t c_2 h
      exact wX8_halts_123 E k0 hk0 S x2 x4 x5 x6 x7 h _ _ _ X hl
    · have h := if_f c_2 h
      refine lv_aload_n hx hb dX8_halts_95 rfl (lv_at hl 0 rfl) ?_
      refine lv_iload hx hb dX8_halts_96 (lv_at hl 5 rfl) ?_
      refine lv_iload hx hb dX8_halts_98 (lv_at hl 3 rfl) ?_
      refine lv_iload hx hb dX8_halts_100 (lv_at hl 4 rfl) ?_
      refine lv_iload_n hx hb dX8_halts_102 rfl (lv_at hl 1 rfl) ?_
      obtain ⟨r_3, S_4, hr_3, h⟩ := bnd_s h
      refine x_callV E X cwX8_341 (mX8_walked l Z hQ  x7 x5 x6 x2 hr_3) rfl rfl rfl rfl hl.1 rfl dX8_halts_103 (fun H locs X => ?_)
      refine lv_aload_n hx hb dX8_halts_106 rfl (lv_at hl 0 rfl) ?_
      refine lv_iload hx hb dX8_halts_107 (lv_at hl 5 rfl) ?_
      refine lv_iload hx hb dX8_halts_109 (lv_at hl 3 rfl) ?_
      refine lv_iload hx hb dX8_halts_111 (lv_at hl 4 rfl) ?_
      obtain ⟨r_5, S_6, hr_5, h⟩ := bnd_s h
      refine x_callV E X cwX8_338 (mX8_heatAt l Z hQ  x7 x5 x6 hr_5) rfl rfl rfl rfl hl.1 rfl dX8_halts_113 (fun H locs X => ?_)
      refine lv_icmp_ne (tgt := 123) hx hb dX8_halts_116 (by decide) (fun c_7 => ?_) (fun c_7 => ?_)
      · have h := if_f c_7 h
        exact wX8_halts_123 E k0 hk0 S_6 x2 x4 x5 x6 x7 h _ _ _ X hl
      · have h := if_t c_7 h
        refine lv_iconst (v := (1 : Int32)) hx hb dX8_halts_119 (by decide) ?_
        refine lv_goto (tgt := 124) hx hb dX8_halts_120 (by decide) ?_
        exact wX8_halts_124 E k0 hk0 S_6 x2 x4 x5 x6 x7 (1 : Int32) h _ _ _ X hl
theorem wX8_halts_83 {p : Program} {l : Launch} {e : Env} {s : State} {m : MethodId} {args : Array Value} {below : List Frame} {meth : Method} {c : Code} {Z : XG} {r : Int32} {S' : Mem} (E : XE p s m args meth c cX8_halts 9 RX8 (some .int) mL Z) : ∀ (n : Nat) (S : Mem) (x2 x4 x5 x6 x7 : Int32), fX8_halts_83 n S x2 x4 x5 x6 x7 = some (r, S') → WN p l e { frames := 3, cells := 0, slots := 0, locals := 73 } s m args below meth c mL Z (XQ mL Z r S') S 83 9 [(0, .ref (Z.2.1 0)), (2, .int x2), (4, .int x4), (5, .int x5), (6, .int x6), (7, .int x7)] [] := by
  intro n
  induction n with
  | zero => intro S x2 x4 x5 x6 x7 h; exact absurd (show (none : O) = some _ from h) (by simp)
  | succ n ih => intro S x2 x4 x5 x6 x7 h; exact wX8_halts_83_b E (fX8_halts_83 n) ih S x2 x4 x5 x6 x7 h
set_option maxRecDepth 20000 in
theorem wX8_halts {p : Program} {l : Launch} {e : Env} {s : State} {m : MethodId} {args : Array Value} {below : List Frame} {meth : Method} {c : Code} {Z : XG} {r : Int32} {S' : Mem} (E : XE p s m args meth c cX8_halts 9 RX8 (some .int) mL Z) : ∀ (S : Mem) (x1 x2 x3 : Int32), fX8_halts  S x1 x2 x3 = some (r, S') → WN p l e { frames := 3, cells := 0, slots := 0, locals := 73 } s m args below meth c mL Z (XQ mL Z r S') S 0 9 [(0, .ref (Z.2.1 0)), (1, .int x1), (2, .int x2), (3, .int x3)] [] := by
  obtain ⟨hx, hb, -, -, -, -, -, -, -, hQ⟩ := id E
  intro S x1 x2 x3 h H locs ls X hl
  unfold fX8_halts at h
  refine lv_aload_n hx hb dX8_halts_0 rfl (lv_at hl 0 rfl) ?_
  refine lv_iconst (v := (0 : Int32)) hx hb dX8_halts_1 (by decide) ?_
  obtain ⟨S_1, eS_1, h⟩ := ltm_s h
  refine x_put E X fpX8_92 rfl rfl dX8_halts_2 (fun H locs X => ?_)
  rw [← eS_1] at X
  refine lv_aload_n hx hb dX8_halts_5 rfl (lv_at hl 0 rfl) ?_
  refine lv_iload_n hx hb dX8_halts_6 rfl (lv_at hl 1 rfl) ?_
  refine lv_iconst (v := (0 : Int32)) hx hb dX8_halts_7 (by decide) ?_
  refine lv_bipush (v := (12 : Int32)) hx hb dX8_halts_8 (by decide) ?_
  obtain ⟨r_2, S_3, hr_2, h⟩ := bnd_s h
  refine x_callV E X cwX8_107 (mX8_isIn l Z hQ  x1 (0 : Int32) (12 : Int32) hr_2) rfl rfl rfl rfl hl.1 rfl dX8_halts_10 (fun H locs X => ?_)
  refine lv_if_eq (tgt := 37) hx hb dX8_halts_13 (by decide) (fun c_4 => ?_) (fun c_4 => ?_)
  · have h := if_t c_4 h
    refine lv_iconst (v := (-1 : Int32)) hx hb dX8_halts_37 (by decide) ?_
    exact x_iret E X h dX8_halts_38
  · have h := if_f c_4 h
    refine lv_aload_n hx hb dX8_halts_16 rfl (lv_at hl 0 rfl) ?_
    refine lv_iload_n hx hb dX8_halts_17 rfl (lv_at hl 2 rfl) ?_
    refine lv_iconst (v := (1 : Int32)) hx hb dX8_halts_18 (by decide) ?_
    refine lv_bipush (v := (12 : Int32)) hx hb dX8_halts_19 (by decide) ?_
    obtain ⟨r_5, S_6, hr_5, h⟩ := bnd_s h
    refine x_callV E X cwX8_107 (mX8_isIn l Z hQ  x2 (1 : Int32) (12 : Int32) hr_5) rfl rfl rfl rfl hl.1 rfl dX8_halts_21 (fun H locs X => ?_)
    refine lv_if_eq (tgt := 37) hx hb dX8_halts_24 (by decide) (fun c_7 => ?_) (fun c_7 => ?_)
    · have h := if_t c_7 h
      refine lv_iconst (v := (-1 : Int32)) hx hb dX8_halts_37 (by decide) ?_
      exact x_iret E X h dX8_halts_38
    · have h := if_f c_7 h
      refine lv_aload_n hx hb dX8_halts_27 rfl (lv_at hl 0 rfl) ?_
      refine lv_iload_n hx hb dX8_halts_28 rfl (lv_at hl 3 rfl) ?_
      refine lv_iconst (v := (0 : Int32)) hx hb dX8_halts_29 (by decide) ?_
      refine lv_iconst (v := (1 : Int32)) hx hb dX8_halts_30 (by decide) ?_
      obtain ⟨r_8, S_9, hr_8, h⟩ := bnd_s h
      refine x_callV E X cwX8_107 (mX8_isIn l Z hQ  x3 (0 : Int32) (1 : Int32) hr_8) rfl rfl rfl rfl hl.1 rfl dX8_halts_31 (fun H locs X => ?_)
      refine lv_if_ne (tgt := 39) hx hb dX8_halts_34 (by decide) (fun c_10 => ?_) (fun c_10 => ?_)
      · have h := if_f c_10 h
        refine lv_aload_n hx hb dX8_halts_39 rfl (lv_at hl 0 rfl) ?_
        refine lv_iload_n hx hb dX8_halts_40 rfl (lv_at hl 2 rfl) ?_
        obtain ⟨r_11, S_12, hr_11, h⟩ := bnd_s h
        refine x_callVv E X cwX8_345 (mX8_findsHalts l Z hQ  x2 hr_11) rfl rfl rfl rfl hl.1 rfl dX8_halts_41 (fun H locs X => ?_)
        refine lv_aload_n hx hb dX8_halts_44 rfl (lv_at hl 0 rfl) ?_
        refine lv_iconst (v := (0 : Int32)) hx hb dX8_halts_45 (by decide) ?_
        refine lv_iload_n hx hb dX8_halts_46 rfl (lv_at hl 1 rfl) ?_
        refine lv_iconst (v := (0 : Int32)) hx hb dX8_halts_47 (by decide) ?_
        obtain ⟨r_13, S_14, hr_13, h⟩ := bnd_s h
        refine x_callV E X cwX8_338 (mX8_heatAt l Z hQ  (0 : Int32) x1 (0 : Int32) hr_13) rfl rfl rfl rfl hl.1 rfl dX8_halts_48 (fun H locs X => ?_)
        refine x_ldcw E csX8_337 dX8_halts_51 ?_
        refine lv_icmp_lt (tgt := 59) hx hb dX8_halts_54 (by decide) (fun c_15 => ?_) (fun c_15 => ?_)
        · have h := if_t c_15 h
          refine lv_iload_n hx hb dX8_halts_59 rfl (lv_at hl 3 rfl) ?_
          refine lv_if_ne (tgt := 71) hx hb dX8_halts_60 (by decide) (fun c_16 => ?_) (fun c_16 => ?_)
          · have h := if_f c_16 h
            refine lv_iconst (v := (0 : Int32)) hx hb dX8_halts_71 (by decide) ?_
            refine lv_istore (lv' := [(4, .int (0 : Int32)), (0, .ref (Z.2.1 0)), (1, .int x1), (2, .int x2), (3, .int x3)]) hx hb dX8_halts_72 hl (by decide) rfl (fun ls hl => ?_)
            refine lv_iload_n hx hb dX8_halts_74 rfl (lv_at hl 2 rfl) ?_
            refine lv_istore (lv' := [(5, .int x1), (4, .int (0 : Int32)), (0, .ref (Z.2.1 0)), (1, .int x1), (2, .int x2), (3, .int x3)]) hx hb dX8_halts_75 hl (by decide) rfl (fun ls hl => ?_)
            refine lv_iconst (v := (0 : Int32)) hx hb dX8_halts_77 (by decide) ?_
            refine lv_istore (lv' := [(6, .int (0 : Int32)), (5, .int x1), (4, .int (0 : Int32)), (0, .ref (Z.2.1 0)), (1, .int x1), (2, .int x2), (3, .int x3)]) hx hb dX8_halts_78 hl (by decide) rfl (fun ls hl => ?_)
            refine lv_iconst (v := (0 : Int32)) hx hb dX8_halts_80 (by decide) ?_
            refine lv_istore (lv' := [(7, .int (0 : Int32)), (6, .int (0 : Int32)), (5, .int x1), (4, .int (0 : Int32)), (0, .ref (Z.2.1 0)), (1, .int x1), (2, .int x2), (3, .int x3)]) hx hb dX8_halts_81 hl (by decide) rfl (fun ls hl => ?_)
            exact wX8_halts_83 E   FU S_14 x2 (0 : Int32) x1 (0 : Int32) (0 : Int32) h _ _ _ X (lv_sub hl [4, 6, 3, 2, 1, 0] rfl)
          · have h := if_t c_16 h
            refine lv_aload_n hx hb dX8_halts_63 rfl (lv_at hl 0 rfl) ?_
            refine lv_iconst (v := (0 : Int32)) hx hb dX8_halts_64 (by decide) ?_
            refine lv_iload_n hx hb dX8_halts_65 rfl (lv_at hl 1 rfl) ?_
            refine lv_iconst (v := (0 : Int32)) hx hb dX8_halts_66 (by decide) ?_
            obtain ⟨r_17, S_18, hr_17, h⟩ := bnd_s h
            refine x_callV E X cwX8_338 (mX8_heatAt l Z hQ  (0 : Int32) x1 (0 : Int32) hr_17) rfl rfl rfl rfl hl.1 rfl dX8_halts_67 (fun H locs X => ?_)
            exact x_iret E X h dX8_halts_70
        · have h := if_f c_15 h
          refine lv_iconst (v := (-1 : Int32)) hx hb dX8_halts_57 (by decide) ?_
          exact x_iret E X h dX8_halts_58
      · have h := if_t c_10 h
        refine lv_iconst (v := (-1 : Int32)) hx hb dX8_halts_37 (by decide) ?_
        exact x_iret E X h dX8_halts_38
/-- SevenToAShadowModel.halts(III)I -/
theorem mX8_halts (l : Launch) (Z : XG) (hQ : wQ (List.length mL) Z) {S S' : Mem} {r : Int32} (x1 x2 x3 : Int32) (h : fX8_halts S x1 x2 x3 = some (r, S')) : XM l yX8_halts cX8_halts 9 (some .int) { frames := 3, cells := 0, slots := 0, locals := 73 } mL Z [.ref (Z.2.1 0), .int x1, .int x2, .int x3] S (XQ mL Z r S') := by
  refine XM.of (own := RX8) (by decide +kernel) rfl rfl hQ (fun p e s m args below meth c E ls hl X => ?_)
  exact wX8_halts E S x1 x2 x3 h _ _ _ X hl
def fX8_told (S : Mem) (x1 x2 : Int32) : O := ltm (mset S 0 0 (0 : Int32)) fun S_1 => bnd (fX8_isPilgrim S_1 x1) fun r_2 S_3 => (if r_2 = 0 then some ((0 : Int32), S_3) else bnd (fX8_isIn S_3 x2 (-1 : Int32) (9999 : Int32)) fun r_5 S_6 => (if r_5 = 0 then some ((0 : Int32), S_6) else gd (inB x1 10) <| ltm (mset S_6 10 (x1).toNatClampNeg (x2 + (1 : Int32))) fun S_9 => some ((1 : Int32), S_9)))
theorem dX8_told_0 : decode cX8_told 0 = .ok (.aload_n 0, 1) := by decide +kernel
theorem dX8_told_1 : decode cX8_told 1 = .ok (.iconst 0, 1) := by decide +kernel
theorem dX8_told_2 : decode cX8_told 2 = .ok (.putfield 92, 3) := by decide +kernel
theorem dX8_told_5 : decode cX8_told 5 = .ok (.aload_n 0, 1) := by decide +kernel
theorem dX8_told_6 : decode cX8_told 6 = .ok (.iload_n 1, 1) := by decide +kernel
theorem dX8_told_7 : decode cX8_told 7 = .ok (.invokevirtual 118, 3) := by decide +kernel
theorem dX8_told_10 : decode cX8_told 10 = .ok (.ifCond .eq 15, 3) := by decide +kernel
theorem dX8_told_13 : decode cX8_told 13 = .ok (.aload_n 0, 1) := by decide +kernel
theorem dX8_told_14 : decode cX8_told 14 = .ok (.iload_n 2, 1) := by decide +kernel
theorem dX8_told_15 : decode cX8_told 15 = .ok (.iconst (-1), 1) := by decide +kernel
theorem dX8_told_16 : decode cX8_told 16 = .ok (.sipush 9999, 3) := by decide +kernel
theorem dX8_told_19 : decode cX8_told 19 = .ok (.invokevirtual 107, 3) := by decide +kernel
theorem dX8_told_22 : decode cX8_told 22 = .ok (.ifCond .ne 5, 3) := by decide +kernel
theorem dX8_told_25 : decode cX8_told 25 = .ok (.iconst 0, 1) := by decide +kernel
theorem dX8_told_26 : decode cX8_told 26 = .ok (.ireturn, 1) := by decide +kernel
theorem dX8_told_27 : decode cX8_told 27 = .ok (.aload_n 0, 1) := by decide +kernel
theorem dX8_told_28 : decode cX8_told 28 = .ok (.getfield 37, 3) := by decide +kernel
theorem dX8_told_31 : decode cX8_told 31 = .ok (.iload_n 1, 1) := by decide +kernel
theorem dX8_told_32 : decode cX8_told 32 = .ok (.iload_n 2, 1) := by decide +kernel
theorem dX8_told_33 : decode cX8_told 33 = .ok (.iconst 1, 1) := by decide +kernel
theorem dX8_told_34 : decode cX8_told 34 = .ok (.iadd, 1) := by decide +kernel
theorem dX8_told_35 : decode cX8_told 35 = .ok (.iastore, 1) := by decide +kernel
theorem dX8_told_36 : decode cX8_told 36 = .ok (.iconst 1, 1) := by decide +kernel
theorem dX8_told_37 : decode cX8_told 37 = .ok (.ireturn, 1) := by decide +kernel
set_option maxRecDepth 20000 in
theorem wX8_told {p : Program} {l : Launch} {e : Env} {s : State} {m : MethodId} {args : Array Value} {below : List Frame} {meth : Method} {c : Code} {Z : XG} {r : Int32} {S' : Mem} (E : XE p s m args meth c cX8_told 3 RX8 (some .boolean) mL Z) : ∀ (S : Mem) (x1 x2 : Int32), fX8_told  S x1 x2 = some (r, S') → WN p l e { frames := 1, cells := 0, slots := 0, locals := 23 } s m args below meth c mL Z (XQ mL Z r S') S 0 3 [(0, .ref (Z.2.1 0)), (1, .int x1), (2, .int x2)] [] := by
  obtain ⟨hx, hb, -, -, -, -, -, -, -, hQ⟩ := id E
  intro S x1 x2 h H locs ls X hl
  unfold fX8_told at h
  refine lv_aload_n hx hb dX8_told_0 rfl (lv_at hl 0 rfl) ?_
  refine lv_iconst (v := (0 : Int32)) hx hb dX8_told_1 (by decide) ?_
  obtain ⟨S_1, eS_1, h⟩ := ltm_s h
  refine x_put E X fpX8_92 rfl rfl dX8_told_2 (fun H locs X => ?_)
  rw [← eS_1] at X
  refine lv_aload_n hx hb dX8_told_5 rfl (lv_at hl 0 rfl) ?_
  refine lv_iload_n hx hb dX8_told_6 rfl (lv_at hl 1 rfl) ?_
  obtain ⟨r_2, S_3, hr_2, h⟩ := bnd_s h
  refine x_callV E X cwX8_118 (mX8_isPilgrim l Z hQ  x1 hr_2) rfl rfl rfl rfl hl.1 rfl dX8_told_7 (fun H locs X => ?_)
  refine lv_if_eq (tgt := 25) hx hb dX8_told_10 (by decide) (fun c_4 => ?_) (fun c_4 => ?_)
  · have h := if_t c_4 h
    refine lv_iconst (v := (0 : Int32)) hx hb dX8_told_25 (by decide) ?_
    exact x_zret E X rfl h dX8_told_26
  · have h := if_f c_4 h
    refine lv_aload_n hx hb dX8_told_13 rfl (lv_at hl 0 rfl) ?_
    refine lv_iload_n hx hb dX8_told_14 rfl (lv_at hl 2 rfl) ?_
    refine lv_iconst (v := (-1 : Int32)) hx hb dX8_told_15 (by decide) ?_
    refine lv_sipush (v := (9999 : Int32)) hx hb dX8_told_16 (by decide) ?_
    obtain ⟨r_5, S_6, hr_5, h⟩ := bnd_s h
    refine x_callV E X cwX8_107 (mX8_isIn l Z hQ  x2 (-1 : Int32) (9999 : Int32) hr_5) rfl rfl rfl rfl hl.1 rfl dX8_told_19 (fun H locs X => ?_)
    refine lv_if_ne (tgt := 27) hx hb dX8_told_22 (by decide) (fun c_7 => ?_) (fun c_7 => ?_)
    · have h := if_f c_7 h
      refine lv_aload_n hx hb dX8_told_27 rfl (lv_at hl 0 rfl) ?_
      refine x_getr E X ffX8_37 rfl rfl dX8_told_28 ?_
      refine lv_iload_n hx hb dX8_told_31 rfl (lv_at hl 1 rfl) ?_
      refine lv_iload_n hx hb dX8_told_32 rfl (lv_at hl 2 rfl) ?_
      refine lv_iconst (v := (1 : Int32)) hx hb dX8_told_33 (by decide) ?_
      refine lv_iadd hx hb dX8_told_34 ?_
      obtain ⟨g_8, h⟩ := gd_s h
      obtain ⟨S_9, eS_9, h⟩ := ltm_s h
      refine x_iast E X rfl g_8 dX8_told_35 (fun H locs X => ?_)
      rw [← eS_9] at X
      refine lv_iconst (v := (1 : Int32)) hx hb dX8_told_36 (by decide) ?_
      exact x_zret E X rfl h dX8_told_37
    · have h := if_t c_7 h
      refine lv_iconst (v := (0 : Int32)) hx hb dX8_told_25 (by decide) ?_
      exact x_zret E X rfl h dX8_told_26
/-- SevenToAShadowModel.told(II)Z -/
theorem mX8_told (l : Launch) (Z : XG) (hQ : wQ (List.length mL) Z) {S S' : Mem} {r : Int32} (x1 x2 : Int32) (h : fX8_told S x1 x2 = some (r, S')) : XM l yX8_told cX8_told 3 (some .boolean) { frames := 1, cells := 0, slots := 0, locals := 23 } mL Z [.ref (Z.2.1 0), .int x1, .int x2] S (XQ mL Z r S') := by
  refine XM.of (own := RX8) (by decide +kernel) rfl rfl hQ (fun p e s m args below meth c E ls hl X => ?_)
  exact wX8_told E S x1 x2 h _ _ _ X hl
def fX8_areAsTold_38 (k0 : Mem → Int32 → O) (S : Mem) (x1 : Int32) : O := k0 S (x1 + (1 : Int32))
def fX8_areAsTold_2_b (k0 : Mem → Int32 → O) (S : Mem) (x1 : Int32) : O := (if (S 0 6) ≤ x1 then some ((1 : Int32), S) else gd (inB x1 10) <| (if (S 10 (x1).toNatClampNeg) ≤ 0 then fX8_areAsTold_38 k0 S x1 else gd (inB x1 10) <| gd (inB x1 10) <| (if ((S 10 (x1).toNatClampNeg) - (1 : Int32)) = (S 25 (x1).toNatClampNeg) then fX8_areAsTold_38 k0 S x1 else some ((0 : Int32), S))))
def fX8_areAsTold_2 : Nat → Mem → Int32 → O
  | 0 => fun _ _ => none
  | n + 1 => fX8_areAsTold_2_b (fX8_areAsTold_2 n)
def fX8_areAsTold (S : Mem) : O := fX8_areAsTold_2  FU S (0 : Int32)
theorem dX8_areAsTold_0 : decode cX8_areAsTold 0 = .ok (.iconst 0, 1) := by decide +kernel
theorem dX8_areAsTold_1 : decode cX8_areAsTold 1 = .ok (.istore_n 1, 1) := by decide +kernel
theorem dX8_areAsTold_2 : decode cX8_areAsTold 2 = .ok (.iload_n 1, 1) := by decide +kernel
theorem dX8_areAsTold_3 : decode cX8_areAsTold 3 = .ok (.aload_n 0, 1) := by decide +kernel
theorem dX8_areAsTold_4 : decode cX8_areAsTold 4 = .ok (.getfield 100, 3) := by decide +kernel
theorem dX8_areAsTold_7 : decode cX8_areAsTold 7 = .ok (.if_icmp .ge 37, 3) := by decide +kernel
theorem dX8_areAsTold_10 : decode cX8_areAsTold 10 = .ok (.aload_n 0, 1) := by decide +kernel
theorem dX8_areAsTold_11 : decode cX8_areAsTold 11 = .ok (.getfield 37, 3) := by decide +kernel
theorem dX8_areAsTold_14 : decode cX8_areAsTold 14 = .ok (.iload_n 1, 1) := by decide +kernel
theorem dX8_areAsTold_15 : decode cX8_areAsTold 15 = .ok (.iaload, 1) := by decide +kernel
theorem dX8_areAsTold_16 : decode cX8_areAsTold 16 = .ok (.ifCond .le 22, 3) := by decide +kernel
theorem dX8_areAsTold_19 : decode cX8_areAsTold 19 = .ok (.aload_n 0, 1) := by decide +kernel
theorem dX8_areAsTold_20 : decode cX8_areAsTold 20 = .ok (.getfield 37, 3) := by decide +kernel
theorem dX8_areAsTold_23 : decode cX8_areAsTold 23 = .ok (.iload_n 1, 1) := by decide +kernel
theorem dX8_areAsTold_24 : decode cX8_areAsTold 24 = .ok (.iaload, 1) := by decide +kernel
theorem dX8_areAsTold_25 : decode cX8_areAsTold 25 = .ok (.iconst 1, 1) := by decide +kernel
theorem dX8_areAsTold_26 : decode cX8_areAsTold 26 = .ok (.isub, 1) := by decide +kernel
theorem dX8_areAsTold_27 : decode cX8_areAsTold 27 = .ok (.aload_n 0, 1) := by decide +kernel
theorem dX8_areAsTold_28 : decode cX8_areAsTold 28 = .ok (.getfield 86, 3) := by decide +kernel
theorem dX8_areAsTold_31 : decode cX8_areAsTold 31 = .ok (.iload_n 1, 1) := by decide +kernel
theorem dX8_areAsTold_32 : decode cX8_areAsTold 32 = .ok (.iaload, 1) := by decide +kernel
theorem dX8_areAsTold_33 : decode cX8_areAsTold 33 = .ok (.if_icmp .eq 5, 3) := by decide +kernel
theorem dX8_areAsTold_36 : decode cX8_areAsTold 36 = .ok (.iconst 0, 1) := by decide +kernel
theorem dX8_areAsTold_37 : decode cX8_areAsTold 37 = .ok (.ireturn, 1) := by decide +kernel
theorem dX8_areAsTold_38 : decode cX8_areAsTold 38 = .ok (.iinc 1 1, 3) := by decide +kernel
theorem dX8_areAsTold_41 : decode cX8_areAsTold 41 = .ok (.goto (-39), 3) := by decide +kernel
theorem dX8_areAsTold_44 : decode cX8_areAsTold 44 = .ok (.iconst 1, 1) := by decide +kernel
theorem dX8_areAsTold_45 : decode cX8_areAsTold 45 = .ok (.ireturn, 1) := by decide +kernel
set_option maxRecDepth 20000 in
theorem wX8_areAsTold_38 {p : Program} {l : Launch} {e : Env} {s : State} {m : MethodId} {args : Array Value} {below : List Frame} {meth : Method} {c : Code} {Z : XG} {r : Int32} {S' : Mem} (E : XE p s m args meth c cX8_areAsTold 2 RX8 (some .boolean) mL Z) (k0 : Mem → Int32 → O)  (hk0 : ∀ (S : Mem) (x1 : Int32), k0 S x1 = some (r, S') → WN p l e { frames := 0, cells := 0, slots := 0, locals := 0 } s m args below meth c mL Z (XQ mL Z r S') S 2 2 [(0, .ref (Z.2.1 0)), (1, .int x1)] []) : ∀ (S : Mem) (x1 : Int32), fX8_areAsTold_38 k0 S x1 = some (r, S') → WN p l e { frames := 0, cells := 0, slots := 0, locals := 0 } s m args below meth c mL Z (XQ mL Z r S') S 38 2 [(0, .ref (Z.2.1 0)), (1, .int x1)] [] := by
  obtain ⟨hx, hb, -, -, -, -, -, -, -, hQ⟩ := id E
  intro S x1 h H locs ls X hl
  unfold fX8_areAsTold_38 at h
  refine lv_iinc (v := (x1 + (1 : Int32))) (lv' := [(1, .int (x1 + (1 : Int32))), (0, .ref (Z.2.1 0))]) hx hb dX8_areAsTold_38 hl (k := 1) rfl rfl (by decide) rfl (fun ls hl => ?_)
  refine lv_goto (tgt := 2) hx hb dX8_areAsTold_41 (by decide) ?_
  exact hk0 S (x1 + (1 : Int32)) h _ _ _ X (lv_sub hl [1, 0] rfl)
set_option maxRecDepth 20000 in
theorem wX8_areAsTold_2_b {p : Program} {l : Launch} {e : Env} {s : State} {m : MethodId} {args : Array Value} {below : List Frame} {meth : Method} {c : Code} {Z : XG} {r : Int32} {S' : Mem} (E : XE p s m args meth c cX8_areAsTold 2 RX8 (some .boolean) mL Z) (k0 : Mem → Int32 → O)  (hk0 : ∀ (S : Mem) (x1 : Int32), k0 S x1 = some (r, S') → WN p l e { frames := 0, cells := 0, slots := 0, locals := 0 } s m args below meth c mL Z (XQ mL Z r S') S 2 2 [(0, .ref (Z.2.1 0)), (1, .int x1)] []) : ∀ (S : Mem) (x1 : Int32), fX8_areAsTold_2_b k0 S x1 = some (r, S') → WN p l e { frames := 0, cells := 0, slots := 0, locals := 0 } s m args below meth c mL Z (XQ mL Z r S') S 2 2 [(0, .ref (Z.2.1 0)), (1, .int x1)] [] := by
  obtain ⟨hx, hb, -, -, -, -, -, -, -, hQ⟩ := id E
  intro S x1 h H locs ls X hl
  unfold fX8_areAsTold_2_b at h
  refine lv_iload_n hx hb dX8_areAsTold_2 rfl (lv_at hl 1 rfl) ?_
  refine lv_aload_n hx hb dX8_areAsTold_3 rfl (lv_at hl 0 rfl) ?_
  refine x_get E X ffX8_100 rfl rfl dX8_areAsTold_4 ?_
  refine lv_icmp_ge (tgt := 44) hx hb dX8_areAsTold_7 (by decide) (fun c_1 => ?_) (fun c_1 => ?_)
  · have h := if_t c_1 h
    refine lv_iconst (v := (1 : Int32)) hx hb dX8_areAsTold_44 (by decide) ?_
    exact x_zret E X rfl h dX8_areAsTold_45
  · have h := if_f c_1 h
    refine lv_aload_n hx hb dX8_areAsTold_10 rfl (lv_at hl 0 rfl) ?_
    refine x_getr E X ffX8_37 rfl rfl dX8_areAsTold_11 ?_
    refine lv_iload_n hx hb dX8_areAsTold_14 rfl (lv_at hl 1 rfl) ?_
    obtain ⟨g_2, h⟩ := gd_s h
    refine x_iald E X rfl g_2 dX8_areAsTold_15 ?_
    refine lv_if_le (tgt := 38) hx hb dX8_areAsTold_16 (by decide) (fun c_3 => ?_) (fun c_3 => ?_)
    · have h := if_t c_3 h
      exact wX8_areAsTold_38 E k0 hk0 S x1 h _ _ _ X hl
    · have h := if_f c_3 h
      refine lv_aload_n hx hb dX8_areAsTold_19 rfl (lv_at hl 0 rfl) ?_
      refine x_getr E X ffX8_37 rfl rfl dX8_areAsTold_20 ?_
      refine lv_iload_n hx hb dX8_areAsTold_23 rfl (lv_at hl 1 rfl) ?_
      obtain ⟨g_4, h⟩ := gd_s h
      refine x_iald E X rfl g_4 dX8_areAsTold_24 ?_
      refine lv_iconst (v := (1 : Int32)) hx hb dX8_areAsTold_25 (by decide) ?_
      refine lv_isub hx hb dX8_areAsTold_26 ?_
      refine lv_aload_n hx hb dX8_areAsTold_27 rfl (lv_at hl 0 rfl) ?_
      refine x_getr E X ffX8_86 rfl rfl dX8_areAsTold_28 ?_
      refine lv_iload_n hx hb dX8_areAsTold_31 rfl (lv_at hl 1 rfl) ?_
      obtain ⟨g_5, h⟩ := gd_s h
      refine x_iald E X rfl g_5 dX8_areAsTold_32 ?_
      refine lv_icmp_eq (tgt := 38) hx hb dX8_areAsTold_33 (by decide) (fun c_6 => ?_) (fun c_6 => ?_)
      · have h := if_t c_6 h
        exact wX8_areAsTold_38 E k0 hk0 S x1 h _ _ _ X hl
      · have h := if_f c_6 h
        refine lv_iconst (v := (0 : Int32)) hx hb dX8_areAsTold_36 (by decide) ?_
        exact x_zret E X rfl h dX8_areAsTold_37
theorem wX8_areAsTold_2 {p : Program} {l : Launch} {e : Env} {s : State} {m : MethodId} {args : Array Value} {below : List Frame} {meth : Method} {c : Code} {Z : XG} {r : Int32} {S' : Mem} (E : XE p s m args meth c cX8_areAsTold 2 RX8 (some .boolean) mL Z) : ∀ (n : Nat) (S : Mem) (x1 : Int32), fX8_areAsTold_2 n S x1 = some (r, S') → WN p l e { frames := 0, cells := 0, slots := 0, locals := 0 } s m args below meth c mL Z (XQ mL Z r S') S 2 2 [(0, .ref (Z.2.1 0)), (1, .int x1)] [] := by
  intro n
  induction n with
  | zero => intro S x1 h; exact absurd (show (none : O) = some _ from h) (by simp)
  | succ n ih => intro S x1 h; exact wX8_areAsTold_2_b E (fX8_areAsTold_2 n) ih S x1 h
set_option maxRecDepth 20000 in
theorem wX8_areAsTold {p : Program} {l : Launch} {e : Env} {s : State} {m : MethodId} {args : Array Value} {below : List Frame} {meth : Method} {c : Code} {Z : XG} {r : Int32} {S' : Mem} (E : XE p s m args meth c cX8_areAsTold 2 RX8 (some .boolean) mL Z) : ∀ (S : Mem), fX8_areAsTold  S  = some (r, S') → WN p l e { frames := 0, cells := 0, slots := 0, locals := 0 } s m args below meth c mL Z (XQ mL Z r S') S 0 2 [(0, .ref (Z.2.1 0))] [] := by
  obtain ⟨hx, hb, -, -, -, -, -, -, -, hQ⟩ := id E
  intro S  h H locs ls X hl
  unfold fX8_areAsTold at h
  refine lv_iconst (v := (0 : Int32)) hx hb dX8_areAsTold_0 (by decide) ?_
  refine lv_istore_n (lv' := [(1, .int (0 : Int32)), (0, .ref (Z.2.1 0))]) hx hb dX8_areAsTold_1 rfl hl (by decide) rfl (fun ls hl => ?_)
  exact wX8_areAsTold_2 E   FU S (0 : Int32) h _ _ _ X (lv_sub hl [1, 0] rfl)
/-- SevenToAShadowModel.areAsTold()Z -/
theorem mX8_areAsTold (l : Launch) (Z : XG) (hQ : wQ (List.length mL) Z) {S S' : Mem} {r : Int32} (h : fX8_areAsTold S  = some (r, S')) : XM l yX8_areAsTold cX8_areAsTold 2 (some .boolean) { frames := 0, cells := 0, slots := 0, locals := 0 } mL Z [.ref (Z.2.1 0)] S (XQ mL Z r S') := by
  refine XM.of (own := RX8) (by decide +kernel) rfl rfl hQ (fun p e s m args below meth c E ls hl X => ?_)
  exact wX8_areAsTold E S  h _ _ _ X hl
def fX8_addsBurns_14_b (k0 : Mem → Int32 → Int32 → Int32 → O) (S : Mem) (x1 x3 x4 : Int32) : O := (if (S 0 6) ≤ x4 then some ((0 : Int32), S) else gd (inB x4 10) <| bnd (fX8_burnIn S x4 x1) fun r_3 S_4 => gd (inB x4 10) <| ltm (mset S_4 25 (x4).toNatClampNeg ((S 25 (x4).toNatClampNeg) + (x3 * r_3))) fun S_6 => k0 S_6 x1 x3 (x4 + (1 : Int32)))
def fX8_addsBurns_14 : Nat → Mem → Int32 → Int32 → Int32 → O
  | 0 => fun _ _ _ _ => none
  | n + 1 => fX8_addsBurns_14_b (fX8_addsBurns_14 n)
def fX8_addsBurns (S : Mem) (x1 x2 x3 : Int32) : O := bnd (fX8_findsShade S x1 x2 (S 0 10) (1 : Int32)) fun _ S_2 => fX8_addsBurns_14  FU S_2 x1 x3 (0 : Int32)
theorem dX8_addsBurns_0 : decode cX8_addsBurns 0 = .ok (.aload_n 0, 1) := by decide +kernel
theorem dX8_addsBurns_1 : decode cX8_addsBurns 1 = .ok (.iload_n 1, 1) := by decide +kernel
theorem dX8_addsBurns_2 : decode cX8_addsBurns 2 = .ok (.iload_n 2, 1) := by decide +kernel
theorem dX8_addsBurns_3 : decode cX8_addsBurns 3 = .ok (.aload_n 0, 1) := by decide +kernel
theorem dX8_addsBurns_4 : decode cX8_addsBurns 4 = .ok (.getfield 124, 3) := by decide +kernel
theorem dX8_addsBurns_7 : decode cX8_addsBurns 7 = .ok (.iconst 1, 1) := by decide +kernel
theorem dX8_addsBurns_8 : decode cX8_addsBurns 8 = .ok (.invokevirtual 253, 3) := by decide +kernel
theorem dX8_addsBurns_11 : decode cX8_addsBurns 11 = .ok (.iconst 0, 1) := by decide +kernel
theorem dX8_addsBurns_12 : decode cX8_addsBurns 12 = .ok (.istore 4, 2) := by decide +kernel
theorem dX8_addsBurns_14 : decode cX8_addsBurns 14 = .ok (.iload 4, 2) := by decide +kernel
theorem dX8_addsBurns_16 : decode cX8_addsBurns 16 = .ok (.aload_n 0, 1) := by decide +kernel
theorem dX8_addsBurns_17 : decode cX8_addsBurns 17 = .ok (.getfield 100, 3) := by decide +kernel
theorem dX8_addsBurns_20 : decode cX8_addsBurns 20 = .ok (.if_icmp .ge 33, 3) := by decide +kernel
theorem dX8_addsBurns_23 : decode cX8_addsBurns 23 = .ok (.aload_n 0, 1) := by decide +kernel
theorem dX8_addsBurns_24 : decode cX8_addsBurns 24 = .ok (.getfield 86, 3) := by decide +kernel
theorem dX8_addsBurns_27 : decode cX8_addsBurns 27 = .ok (.iload 4, 2) := by decide +kernel
theorem dX8_addsBurns_29 : decode cX8_addsBurns 29 = .ok (.aload_n 0, 1) := by decide +kernel
theorem dX8_addsBurns_30 : decode cX8_addsBurns 30 = .ok (.getfield 86, 3) := by decide +kernel
theorem dX8_addsBurns_33 : decode cX8_addsBurns 33 = .ok (.iload 4, 2) := by decide +kernel
theorem dX8_addsBurns_35 : decode cX8_addsBurns 35 = .ok (.iaload, 1) := by decide +kernel
theorem dX8_addsBurns_36 : decode cX8_addsBurns 36 = .ok (.iload_n 3, 1) := by decide +kernel
theorem dX8_addsBurns_37 : decode cX8_addsBurns 37 = .ok (.aload_n 0, 1) := by decide +kernel
theorem dX8_addsBurns_38 : decode cX8_addsBurns 38 = .ok (.iload 4, 2) := by decide +kernel
theorem dX8_addsBurns_40 : decode cX8_addsBurns 40 = .ok (.iload_n 1, 1) := by decide +kernel
theorem dX8_addsBurns_41 : decode cX8_addsBurns 41 = .ok (.invokevirtual 334, 3) := by decide +kernel
theorem dX8_addsBurns_44 : decode cX8_addsBurns 44 = .ok (.imul, 1) := by decide +kernel
theorem dX8_addsBurns_45 : decode cX8_addsBurns 45 = .ok (.iadd, 1) := by decide +kernel
theorem dX8_addsBurns_46 : decode cX8_addsBurns 46 = .ok (.iastore, 1) := by decide +kernel
theorem dX8_addsBurns_47 : decode cX8_addsBurns 47 = .ok (.iinc 4 1, 3) := by decide +kernel
theorem dX8_addsBurns_50 : decode cX8_addsBurns 50 = .ok (.goto (-36), 3) := by decide +kernel
theorem dX8_addsBurns_53 : decode cX8_addsBurns 53 = .ok (.return_, 1) := by decide +kernel
set_option maxRecDepth 20000 in
theorem wX8_addsBurns_14_b {p : Program} {l : Launch} {e : Env} {s : State} {m : MethodId} {args : Array Value} {below : List Frame} {meth : Method} {c : Code} {Z : XG} {r : Int32} {S' : Mem} (E : XE p s m args meth c cX8_addsBurns 5 RX8 none mL Z) (k0 : Mem → Int32 → Int32 → Int32 → O)  (hk0 : ∀ (S : Mem) (x1 x3 x4 : Int32), k0 S x1 x3 x4 = some (r, S') → WN p l e { frames := 4, cells := 0, slots := 0, locals := 99 } s m args below meth c mL Z (XV mL Z S') S 14 5 [(0, .ref (Z.2.1 0)), (1, .int x1), (3, .int x3), (4, .int x4)] []) : ∀ (S : Mem) (x1 x3 x4 : Int32), fX8_addsBurns_14_b k0 S x1 x3 x4 = some (r, S') → WN p l e { frames := 4, cells := 0, slots := 0, locals := 99 } s m args below meth c mL Z (XV mL Z S') S 14 5 [(0, .ref (Z.2.1 0)), (1, .int x1), (3, .int x3), (4, .int x4)] [] := by
  obtain ⟨hx, hb, -, -, -, -, -, -, -, hQ⟩ := id E
  intro S x1 x3 x4 h H locs ls X hl
  unfold fX8_addsBurns_14_b at h
  refine lv_iload hx hb dX8_addsBurns_14 (lv_at hl 3 rfl) ?_
  refine lv_aload_n hx hb dX8_addsBurns_16 rfl (lv_at hl 0 rfl) ?_
  refine x_get E X ffX8_100 rfl rfl dX8_addsBurns_17 ?_
  refine lv_icmp_ge (tgt := 53) hx hb dX8_addsBurns_20 (by decide) (fun c_1 => ?_) (fun c_1 => ?_)
  · have h := if_t c_1 h
    exact x_vret E X h dX8_addsBurns_53
  · have h := if_f c_1 h
    refine lv_aload_n hx hb dX8_addsBurns_23 rfl (lv_at hl 0 rfl) ?_
    refine x_getr E X ffX8_86 rfl rfl dX8_addsBurns_24 ?_
    refine lv_iload hx hb dX8_addsBurns_27 (lv_at hl 3 rfl) ?_
    refine lv_aload_n hx hb dX8_addsBurns_29 rfl (lv_at hl 0 rfl) ?_
    refine x_getr E X ffX8_86 rfl rfl dX8_addsBurns_30 ?_
    refine lv_iload hx hb dX8_addsBurns_33 (lv_at hl 3 rfl) ?_
    obtain ⟨g_2, h⟩ := gd_s h
    refine x_iald E X rfl g_2 dX8_addsBurns_35 ?_
    refine lv_iload_n hx hb dX8_addsBurns_36 rfl (lv_at hl 2 rfl) ?_
    refine lv_aload_n hx hb dX8_addsBurns_37 rfl (lv_at hl 0 rfl) ?_
    refine lv_iload hx hb dX8_addsBurns_38 (lv_at hl 3 rfl) ?_
    refine lv_iload_n hx hb dX8_addsBurns_40 rfl (lv_at hl 1 rfl) ?_
    obtain ⟨r_3, S_4, hr_3, h⟩ := bnd_s h
    refine x_callV E X cwX8_334 (mX8_burnIn l Z hQ  x4 x1 hr_3) rfl rfl rfl rfl hl.1 rfl dX8_addsBurns_41 (fun H locs X => ?_)
    refine lv_imul hx hb dX8_addsBurns_44 ?_
    refine lv_iadd hx hb dX8_addsBurns_45 ?_
    obtain ⟨g_5, h⟩ := gd_s h
    obtain ⟨S_6, eS_6, h⟩ := ltm_s h
    refine x_iast E X rfl g_5 dX8_addsBurns_46 (fun H locs X => ?_)
    rw [← eS_6] at X
    refine lv_iinc (v := (x4 + (1 : Int32))) (lv' := [(4, .int (x4 + (1 : Int32))), (0, .ref (Z.2.1 0)), (1, .int x1), (3, .int x3)]) hx hb dX8_addsBurns_47 hl (k := 3) rfl rfl (by decide) rfl (fun ls hl => ?_)
    refine lv_goto (tgt := 14) hx hb dX8_addsBurns_50 (by decide) ?_
    exact hk0 S_6 x1 x3 (x4 + (1 : Int32)) h _ _ _ X (lv_sub hl [1, 2, 3, 0] rfl)
theorem wX8_addsBurns_14 {p : Program} {l : Launch} {e : Env} {s : State} {m : MethodId} {args : Array Value} {below : List Frame} {meth : Method} {c : Code} {Z : XG} {r : Int32} {S' : Mem} (E : XE p s m args meth c cX8_addsBurns 5 RX8 none mL Z) : ∀ (n : Nat) (S : Mem) (x1 x3 x4 : Int32), fX8_addsBurns_14 n S x1 x3 x4 = some (r, S') → WN p l e { frames := 4, cells := 0, slots := 0, locals := 99 } s m args below meth c mL Z (XV mL Z S') S 14 5 [(0, .ref (Z.2.1 0)), (1, .int x1), (3, .int x3), (4, .int x4)] [] := by
  intro n
  induction n with
  | zero => intro S x1 x3 x4 h; exact absurd (show (none : O) = some _ from h) (by simp)
  | succ n ih => intro S x1 x3 x4 h; exact wX8_addsBurns_14_b E (fX8_addsBurns_14 n) ih S x1 x3 x4 h
set_option maxRecDepth 20000 in
theorem wX8_addsBurns {p : Program} {l : Launch} {e : Env} {s : State} {m : MethodId} {args : Array Value} {below : List Frame} {meth : Method} {c : Code} {Z : XG} {r : Int32} {S' : Mem} (E : XE p s m args meth c cX8_addsBurns 5 RX8 none mL Z) : ∀ (S : Mem) (x1 x2 x3 : Int32), fX8_addsBurns  S x1 x2 x3 = some (r, S') → WN p l e { frames := 4, cells := 0, slots := 0, locals := 99 } s m args below meth c mL Z (XV mL Z S') S 0 5 [(0, .ref (Z.2.1 0)), (1, .int x1), (2, .int x2), (3, .int x3)] [] := by
  obtain ⟨hx, hb, -, -, -, -, -, -, -, hQ⟩ := id E
  intro S x1 x2 x3 h H locs ls X hl
  unfold fX8_addsBurns at h
  refine lv_aload_n hx hb dX8_addsBurns_0 rfl (lv_at hl 0 rfl) ?_
  refine lv_iload_n hx hb dX8_addsBurns_1 rfl (lv_at hl 1 rfl) ?_
  refine lv_iload_n hx hb dX8_addsBurns_2 rfl (lv_at hl 2 rfl) ?_
  refine lv_aload_n hx hb dX8_addsBurns_3 rfl (lv_at hl 0 rfl) ?_
  refine x_get E X ffX8_124 rfl rfl dX8_addsBurns_4 ?_
  refine lv_iconst (v := (1 : Int32)) hx hb dX8_addsBurns_7 (by decide) ?_
  obtain ⟨r_1, S_2, hr_1, h⟩ := bnd_s h
  refine x_callVv E X cwX8_253 (mX8_findsShade l Z hQ  x1 x2 (S 0 10) (1 : Int32) hr_1) rfl rfl rfl rfl hl.1 rfl dX8_addsBurns_8 (fun H locs X => ?_)
  refine lv_iconst (v := (0 : Int32)) hx hb dX8_addsBurns_11 (by decide) ?_
  refine lv_istore (lv' := [(4, .int (0 : Int32)), (0, .ref (Z.2.1 0)), (1, .int x1), (2, .int x2), (3, .int x3)]) hx hb dX8_addsBurns_12 hl (by decide) rfl (fun ls hl => ?_)
  exact wX8_addsBurns_14 E   FU S_2 x1 x3 (0 : Int32) h _ _ _ X (lv_sub hl [1, 2, 4, 0] rfl)
/-- SevenToAShadowModel.addsBurns(III)V -/
theorem mX8_addsBurns (l : Launch) (Z : XG) (hQ : wQ (List.length mL) Z) {S S' : Mem} {r : Int32} (x1 x2 x3 : Int32) (h : fX8_addsBurns S x1 x2 x3 = some (r, S')) : XM l yX8_addsBurns cX8_addsBurns 5 none { frames := 4, cells := 0, slots := 0, locals := 99 } mL Z [.ref (Z.2.1 0), .int x1, .int x2, .int x3] S (XV mL Z S') := by
  refine XM.of (own := RX8) (by decide +kernel) rfl rfl hQ (fun p e s m args below meth c E ls hl X => ?_)
  exact wX8_addsBurns E S x1 x2 x3 h _ _ _ X hl
