def fX3_scanNumber_87 (S : Mem) (s1 : Int32) : O := ltm (mset S 38 6 s1) fun S_1 => some ((0 : Int32), S_1)
def fX3_scanNumber_66 (S : Mem) : O := (if (4 : Int32) < ((S 38 5) - (S 38 7)) then fX3_scanNumber_87  S (30 : Int32) else fX3_scanNumber_87  S (28 : Int32))
def fX3_scanNumber_5_b (k0 : Mem → O) (S : Mem) : O := (if (S 38 1) ≤ (S 38 5) then fX3_scanNumber_66  S  else bnd (fX3_byteAt S (S 38 5)) fun r_2 S_3 => bnd (fX3_isDigit S_3 r_2) fun r_4 S_5 => (if r_4 = 0 then fX3_scanNumber_66  S_5  else bnd (fX3_byteAt S_5 (S_5 38 5)) fun r_7 S_8 => ltm (mset S_8 38 8 ((((S_5 38 8) * (10 : Int32)) + r_7) - (48 : Int32))) fun S_9 => ltm (mset S_9 38 5 ((S_9 38 5) + (1 : Int32))) fun S_10 => k0 S_10 ))
def fX3_scanNumber_5 : Nat → Mem → O
  | 0 => fun _ => none
  | n + 1 => fX3_scanNumber_5_b (fX3_scanNumber_5 n)
def fX3_scanNumber (S : Mem) : O := ltm (mset S 38 8 (0 : Int32)) fun S_1 => fX3_scanNumber_5  FU S_1 
theorem dX3_scanNumber_0 : decode cX3_scanNumber 0 = .ok (.aload_n 0, 1) := by decide +kernel
theorem dX3_scanNumber_1 : decode cX3_scanNumber 1 = .ok (.iconst 0, 1) := by decide +kernel
theorem dX3_scanNumber_2 : decode cX3_scanNumber 2 = .ok (.putfield 91, 3) := by decide +kernel
theorem dX3_scanNumber_5 : decode cX3_scanNumber 5 = .ok (.aload_n 0, 1) := by decide +kernel
theorem dX3_scanNumber_6 : decode cX3_scanNumber 6 = .ok (.getfield 39, 3) := by decide +kernel
theorem dX3_scanNumber_9 : decode cX3_scanNumber 9 = .ok (.aload_n 0, 1) := by decide +kernel
theorem dX3_scanNumber_10 : decode cX3_scanNumber 10 = .ok (.getfield 30, 3) := by decide +kernel
theorem dX3_scanNumber_13 : decode cX3_scanNumber 13 = .ok (.if_icmp .ge 53, 3) := by decide +kernel
theorem dX3_scanNumber_16 : decode cX3_scanNumber 16 = .ok (.aload_n 0, 1) := by decide +kernel
theorem dX3_scanNumber_17 : decode cX3_scanNumber 17 = .ok (.aload_n 0, 1) := by decide +kernel
theorem dX3_scanNumber_18 : decode cX3_scanNumber 18 = .ok (.getfield 39, 3) := by decide +kernel
theorem dX3_scanNumber_21 : decode cX3_scanNumber 21 = .ok (.invokevirtual 67, 3) := by decide +kernel
theorem dX3_scanNumber_24 : decode cX3_scanNumber 24 = .ok (.invokestatic 78, 3) := by decide +kernel
theorem dX3_scanNumber_27 : decode cX3_scanNumber 27 = .ok (.ifCond .eq 39, 3) := by decide +kernel
theorem dX3_scanNumber_30 : decode cX3_scanNumber 30 = .ok (.aload_n 0, 1) := by decide +kernel
theorem dX3_scanNumber_31 : decode cX3_scanNumber 31 = .ok (.aload_n 0, 1) := by decide +kernel
theorem dX3_scanNumber_32 : decode cX3_scanNumber 32 = .ok (.getfield 91, 3) := by decide +kernel
theorem dX3_scanNumber_35 : decode cX3_scanNumber 35 = .ok (.bipush 10, 2) := by decide +kernel
theorem dX3_scanNumber_37 : decode cX3_scanNumber 37 = .ok (.imul, 1) := by decide +kernel
theorem dX3_scanNumber_38 : decode cX3_scanNumber 38 = .ok (.aload_n 0, 1) := by decide +kernel
theorem dX3_scanNumber_39 : decode cX3_scanNumber 39 = .ok (.aload_n 0, 1) := by decide +kernel
theorem dX3_scanNumber_40 : decode cX3_scanNumber 40 = .ok (.getfield 39, 3) := by decide +kernel
theorem dX3_scanNumber_43 : decode cX3_scanNumber 43 = .ok (.invokevirtual 67, 3) := by decide +kernel
theorem dX3_scanNumber_46 : decode cX3_scanNumber 46 = .ok (.iadd, 1) := by decide +kernel
theorem dX3_scanNumber_47 : decode cX3_scanNumber 47 = .ok (.bipush 48, 2) := by decide +kernel
theorem dX3_scanNumber_49 : decode cX3_scanNumber 49 = .ok (.isub, 1) := by decide +kernel
theorem dX3_scanNumber_50 : decode cX3_scanNumber 50 = .ok (.putfield 91, 3) := by decide +kernel
theorem dX3_scanNumber_53 : decode cX3_scanNumber 53 = .ok (.aload_n 0, 1) := by decide +kernel
theorem dX3_scanNumber_54 : decode cX3_scanNumber 54 = .ok (.dup, 1) := by decide +kernel
theorem dX3_scanNumber_55 : decode cX3_scanNumber 55 = .ok (.getfield 39, 3) := by decide +kernel
theorem dX3_scanNumber_58 : decode cX3_scanNumber 58 = .ok (.iconst 1, 1) := by decide +kernel
theorem dX3_scanNumber_59 : decode cX3_scanNumber 59 = .ok (.iadd, 1) := by decide +kernel
theorem dX3_scanNumber_60 : decode cX3_scanNumber 60 = .ok (.putfield 39, 3) := by decide +kernel
theorem dX3_scanNumber_63 : decode cX3_scanNumber 63 = .ok (.goto (-58), 3) := by decide +kernel
theorem dX3_scanNumber_66 : decode cX3_scanNumber 66 = .ok (.aload_n 0, 1) := by decide +kernel
theorem dX3_scanNumber_67 : decode cX3_scanNumber 67 = .ok (.aload_n 0, 1) := by decide +kernel
theorem dX3_scanNumber_68 : decode cX3_scanNumber 68 = .ok (.getfield 39, 3) := by decide +kernel
theorem dX3_scanNumber_71 : decode cX3_scanNumber 71 = .ok (.aload_n 0, 1) := by decide +kernel
theorem dX3_scanNumber_72 : decode cX3_scanNumber 72 = .ok (.getfield 64, 3) := by decide +kernel
theorem dX3_scanNumber_75 : decode cX3_scanNumber 75 = .ok (.isub, 1) := by decide +kernel
theorem dX3_scanNumber_76 : decode cX3_scanNumber 76 = .ok (.iconst 4, 1) := by decide +kernel
theorem dX3_scanNumber_77 : decode cX3_scanNumber 77 = .ok (.if_icmp .gt 8, 3) := by decide +kernel
theorem dX3_scanNumber_80 : decode cX3_scanNumber 80 = .ok (.bipush 28, 2) := by decide +kernel
theorem dX3_scanNumber_82 : decode cX3_scanNumber 82 = .ok (.goto 5, 3) := by decide +kernel
theorem dX3_scanNumber_85 : decode cX3_scanNumber 85 = .ok (.bipush 30, 2) := by decide +kernel
theorem dX3_scanNumber_87 : decode cX3_scanNumber 87 = .ok (.putfield 61, 3) := by decide +kernel
theorem dX3_scanNumber_90 : decode cX3_scanNumber 90 = .ok (.return_, 1) := by decide +kernel
set_option maxRecDepth 20000 in
theorem wX3_scanNumber_87 {p : Program} {l : Launch} {e : Env} {s : State} {m : MethodId} {args : Array Value} {below : List Frame} {meth : Method} {c : Code} {Z : XG} {r : Int32} {S' : Mem} (E : XE p s m args meth c cX3_scanNumber 1 RX3 none xL Z) : ∀ (S : Mem) (s1 : Int32), fX3_scanNumber_87  S s1 = some (r, S') → WN p l e { frames := 1, cells := 0, slots := 0, locals := 21 } s m args below meth c xL Z (XV xL Z S') S 87 1 [] [.int s1, .ref (Z.2.1 38)] := by
  obtain ⟨hx, hb, -, -, -, -, -, -, -, hQ⟩ := id E
  intro S s1 h H locs ls X hl
  unfold fX3_scanNumber_87 at h
  obtain ⟨S_1, eS_1, h⟩ := ltm_s h
  refine x_put E X fpX3_61 rfl rfl dX3_scanNumber_87 (fun H locs X => ?_)
  rw [← eS_1] at X
  exact x_vret E X h dX3_scanNumber_90
set_option maxRecDepth 20000 in
theorem wX3_scanNumber_66 {p : Program} {l : Launch} {e : Env} {s : State} {m : MethodId} {args : Array Value} {below : List Frame} {meth : Method} {c : Code} {Z : XG} {r : Int32} {S' : Mem} (E : XE p s m args meth c cX3_scanNumber 1 RX3 none xL Z) : ∀ (S : Mem), fX3_scanNumber_66  S  = some (r, S') → WN p l e { frames := 1, cells := 0, slots := 0, locals := 21 } s m args below meth c xL Z (XV xL Z S') S 66 1 [(0, .ref (Z.2.1 38))] [] := by
  obtain ⟨hx, hb, -, -, -, -, -, -, -, hQ⟩ := id E
  intro S  h H locs ls X hl
  unfold fX3_scanNumber_66 at h
  refine lv_aload_n hx hb dX3_scanNumber_66 rfl (lv_at hl 0 rfl) ?_
  refine lv_aload_n hx hb dX3_scanNumber_67 rfl (lv_at hl 0 rfl) ?_
  refine x_get E X ffX3_39 rfl rfl dX3_scanNumber_68 ?_
  refine lv_aload_n hx hb dX3_scanNumber_71 rfl (lv_at hl 0 rfl) ?_
  refine x_get E X ffX3_64 rfl rfl dX3_scanNumber_72 ?_
  refine lv_isub hx hb dX3_scanNumber_75 ?_
  refine lv_iconst (v := (4 : Int32)) hx hb dX3_scanNumber_76 (by decide) ?_
  refine lv_icmp_gt (tgt := 85) hx hb dX3_scanNumber_77 (by decide) (fun c_1 => ?_) (fun c_1 => ?_)
  · have h := if_t c_1 h
    refine lv_bipush (v := (30 : Int32)) hx hb dX3_scanNumber_85 (by decide) ?_
    exact wX3_scanNumber_87 E   S (30 : Int32) h _ _ _ X (lv_sub hl [] rfl)
  · have h := if_f c_1 h
    refine lv_bipush (v := (28 : Int32)) hx hb dX3_scanNumber_80 (by decide) ?_
    refine lv_goto (tgt := 87) hx hb dX3_scanNumber_82 (by decide) ?_
    exact wX3_scanNumber_87 E   S (28 : Int32) h _ _ _ X (lv_sub hl [] rfl)
set_option maxRecDepth 20000 in
theorem wX3_scanNumber_5_b {p : Program} {l : Launch} {e : Env} {s : State} {m : MethodId} {args : Array Value} {below : List Frame} {meth : Method} {c : Code} {Z : XG} {r : Int32} {S' : Mem} (E : XE p s m args meth c cX3_scanNumber 1 RX3 none xL Z) (k0 : Mem → O)  (hk0 : ∀ (S : Mem), k0 S  = some (r, S') → WN p l e { frames := 1, cells := 0, slots := 0, locals := 21 } s m args below meth c xL Z (XV xL Z S') S 5 1 [(0, .ref (Z.2.1 38))] []) : ∀ (S : Mem), fX3_scanNumber_5_b k0 S  = some (r, S') → WN p l e { frames := 1, cells := 0, slots := 0, locals := 21 } s m args below meth c xL Z (XV xL Z S') S 5 1 [(0, .ref (Z.2.1 38))] [] := by
  obtain ⟨hx, hb, -, -, -, -, -, -, -, hQ⟩ := id E
  intro S  h H locs ls X hl
  unfold fX3_scanNumber_5_b at h
  refine lv_aload_n hx hb dX3_scanNumber_5 rfl (lv_at hl 0 rfl) ?_
  refine x_get E X ffX3_39 rfl rfl dX3_scanNumber_6 ?_
  refine lv_aload_n hx hb dX3_scanNumber_9 rfl (lv_at hl 0 rfl) ?_
  refine x_get E X ffX3_30 rfl rfl dX3_scanNumber_10 ?_
  refine lv_icmp_ge (tgt := 66) hx hb dX3_scanNumber_13 (by decide) (fun c_1 => ?_) (fun c_1 => ?_)
  · have h := if_t c_1 h
    exact wX3_scanNumber_66 E   S  h _ _ _ X hl
  · have h := if_f c_1 h
    refine lv_aload_n hx hb dX3_scanNumber_16 rfl (lv_at hl 0 rfl) ?_
    refine lv_aload_n hx hb dX3_scanNumber_17 rfl (lv_at hl 0 rfl) ?_
    refine x_get E X ffX3_39 rfl rfl dX3_scanNumber_18 ?_
    obtain ⟨r_2, S_3, hr_2, h⟩ := bnd_s h
    refine x_callV E X cwX3_67 (mX3_byteAt l Z hQ  (S 38 5) hr_2) rfl rfl rfl rfl hl.1 rfl dX3_scanNumber_21 (fun H locs X => ?_)
    obtain ⟨r_4, S_5, hr_4, h⟩ := bnd_s h
    refine x_callS E X cwX3_78 (mX3_isDigit l Z hQ  r_2 hr_4) rfl rfl hl.1 rfl dX3_scanNumber_24 (fun H locs X => ?_)
    refine lv_if_eq (tgt := 66) hx hb dX3_scanNumber_27 (by decide) (fun c_6 => ?_) (fun c_6 => ?_)
    · have h := if_t c_6 h
      exact wX3_scanNumber_66 E   S_5  h _ _ _ X hl
    · have h := if_f c_6 h
      refine lv_aload_n hx hb dX3_scanNumber_30 rfl (lv_at hl 0 rfl) ?_
      refine lv_aload_n hx hb dX3_scanNumber_31 rfl (lv_at hl 0 rfl) ?_
      refine x_get E X ffX3_91 rfl rfl dX3_scanNumber_32 ?_
      refine lv_bipush (v := (10 : Int32)) hx hb dX3_scanNumber_35 (by decide) ?_
      refine lv_imul hx hb dX3_scanNumber_37 ?_
      refine lv_aload_n hx hb dX3_scanNumber_38 rfl (lv_at hl 0 rfl) ?_
      refine lv_aload_n hx hb dX3_scanNumber_39 rfl (lv_at hl 0 rfl) ?_
      refine x_get E X ffX3_39 rfl rfl dX3_scanNumber_40 ?_
      obtain ⟨r_7, S_8, hr_7, h⟩ := bnd_s h
      refine x_callV E X cwX3_67 (mX3_byteAt l Z hQ  (S_5 38 5) hr_7) rfl rfl rfl rfl hl.1 rfl dX3_scanNumber_43 (fun H locs X => ?_)
      refine lv_iadd hx hb dX3_scanNumber_46 ?_
      refine lv_bipush (v := (48 : Int32)) hx hb dX3_scanNumber_47 (by decide) ?_
      refine lv_isub hx hb dX3_scanNumber_49 ?_
      obtain ⟨S_9, eS_9, h⟩ := ltm_s h
      refine x_put E X fpX3_91 rfl rfl dX3_scanNumber_50 (fun H locs X => ?_)
      rw [← eS_9] at X
      refine lv_aload_n hx hb dX3_scanNumber_53 rfl (lv_at hl 0 rfl) ?_
      refine lv_dup hx hb dX3_scanNumber_54 rfl ?_
      refine x_get E X ffX3_39 rfl rfl dX3_scanNumber_55 ?_
      refine lv_iconst (v := (1 : Int32)) hx hb dX3_scanNumber_58 (by decide) ?_
      refine lv_iadd hx hb dX3_scanNumber_59 ?_
      obtain ⟨S_10, eS_10, h⟩ := ltm_s h
      refine x_put E X fpX3_39 rfl rfl dX3_scanNumber_60 (fun H locs X => ?_)
      rw [← eS_10] at X
      refine lv_goto (tgt := 5) hx hb dX3_scanNumber_63 (by decide) ?_
      exact hk0 S_10  h _ _ _ X hl
theorem wX3_scanNumber_5 {p : Program} {l : Launch} {e : Env} {s : State} {m : MethodId} {args : Array Value} {below : List Frame} {meth : Method} {c : Code} {Z : XG} {r : Int32} {S' : Mem} (E : XE p s m args meth c cX3_scanNumber 1 RX3 none xL Z) : ∀ (n : Nat) (S : Mem), fX3_scanNumber_5 n S  = some (r, S') → WN p l e { frames := 1, cells := 0, slots := 0, locals := 21 } s m args below meth c xL Z (XV xL Z S') S 5 1 [(0, .ref (Z.2.1 38))] [] := by
  intro n
  induction n with
  | zero => intro S  h; exact absurd (show (none : O) = some _ from h) (by simp)
  | succ n ih => intro S  h; exact wX3_scanNumber_5_b E (fX3_scanNumber_5 n) ih S  h
set_option maxRecDepth 20000 in
theorem wX3_scanNumber {p : Program} {l : Launch} {e : Env} {s : State} {m : MethodId} {args : Array Value} {below : List Frame} {meth : Method} {c : Code} {Z : XG} {r : Int32} {S' : Mem} (E : XE p s m args meth c cX3_scanNumber 1 RX3 none xL Z) : ∀ (S : Mem), fX3_scanNumber  S  = some (r, S') → WN p l e { frames := 1, cells := 0, slots := 0, locals := 21 } s m args below meth c xL Z (XV xL Z S') S 0 1 [(0, .ref (Z.2.1 38))] [] := by
  obtain ⟨hx, hb, -, -, -, -, -, -, -, hQ⟩ := id E
  intro S  h H locs ls X hl
  unfold fX3_scanNumber at h
  refine lv_aload_n hx hb dX3_scanNumber_0 rfl (lv_at hl 0 rfl) ?_
  refine lv_iconst (v := (0 : Int32)) hx hb dX3_scanNumber_1 (by decide) ?_
  obtain ⟨S_1, eS_1, h⟩ := ltm_s h
  refine x_put E X fpX3_91 rfl rfl dX3_scanNumber_2 (fun H locs X => ?_)
  rw [← eS_1] at X
  exact wX3_scanNumber_5 E   FU S_1  h _ _ _ X hl
/-- SevenToAShadow$Reader.scanNumber()V -/
theorem mX3_scanNumber (l : Launch) (Z : XG) (hQ : wQ (List.length xL) Z) {S S' : Mem} {r : Int32} (h : fX3_scanNumber S  = some (r, S')) : XM l yX3_scanNumber cX3_scanNumber 1 none { frames := 1, cells := 0, slots := 0, locals := 21 } xL Z [.ref (Z.2.1 38)] S (XV xL Z S') := by
  refine XM.of (own := RX3) (by decide +kernel) rfl rfl hQ (fun p e s m args below meth c E ls hl X => ?_)
  exact wX3_scanNumber E S  h _ _ _ X hl
def fJ0_coder_s0 (S : Mem) : O := some ((0 : Int32), S)
set_option maxRecDepth 20000 in
theorem wJ0_coder_s0 {p : Program} {l : Launch} {e : Env} {s : State} {m : MethodId} {args : Array Value} {below : List Frame} {meth : Method} {c : Code} {Z : XG} {r : Int32} {S' : Mem} (E : XE p s m args meth c cJ0_coder_7d493 1 RJ0 (some .byte) xL Z) : ∀ (S : Mem), fJ0_coder_s0  S  = some (r, S') → WN p l e { frames := 0, cells := 0, slots := 0, locals := 0 } s m args below meth c xL Z (XQ xL Z r S') S 0 1 [(0, .ref (Z.2.2.2.2.1 0))] [] := by
  obtain ⟨hx, hb, -, -, -, -, -, -, -, hQ⟩ := id E
  intro S  h H locs ls X hl
  unfold fJ0_coder_s0 at h
  refine x_compact E X (gt_at 523 (by decide +kernel) (by decide +kernel)) dJ0_coder_7d493_0 ?_
  refine lv_if_eq (tgt := 13) hx hb dJ0_coder_7d493_3 (by decide) (fun c_2 => ?_) (fun c_2 => ?_)
  · exact absurd c_2 (by decide)
  · refine lv_aload_n hx hb dJ0_coder_7d493_6 rfl (lv_at hl 0 rfl) ?_
    refine x_scod E X (by decide) (gt_at 1540 (by decide +kernel) (by decide +kernel)) dJ0_coder_7d493_7 ?_
    refine lv_goto (tgt := 14) hx hb dJ0_coder_7d493_10 (by decide) ?_
    exact x_bret0 E X h dJ0_coder_7d493_14
/-- java/lang/String.coder()B -/
theorem mJ0_coder_s0 (l : Launch) (Z : XG) (hQ : wQ (List.length xL) Z) {S S' : Mem} {r : Int32} (h : fJ0_coder_s0 S  = some (r, S')) : XM l yJ0_coder_7d493 cJ0_coder_7d493 1 (some .byte) { frames := 0, cells := 0, slots := 0, locals := 0 } xL Z [.ref (Z.2.2.2.2.1 0)] S (XQ xL Z r S') := by
  refine XM.of (own := RJ0) (by decide +kernel) rfl rfl hQ (fun p e s m args below meth c E ls hl X => ?_)
  exact wJ0_coder_s0 E S  h _ _ _ X hl
def fJ0_length_s0 (S : Mem) : O := some (((93 : Int32) >>> ((0 : Int32) &&& 31)), S)
set_option maxRecDepth 20000 in
theorem wJ0_length_s0 {p : Program} {l : Launch} {e : Env} {s : State} {m : MethodId} {args : Array Value} {below : List Frame} {meth : Method} {c : Code} {Z : XG} {r : Int32} {S' : Mem} (E : XE p s m args meth c cJ0_length_8abf5 1 RJ0 (some .int) xL Z) : ∀ (S : Mem), fJ0_length_s0  S  = some (r, S') → WN p l e { frames := 1, cells := 0, slots := 0, locals := 20 } s m args below meth c xL Z (XQ xL Z r S') S 0 1 [(0, .ref (Z.2.2.2.2.1 0))] [] := by
  obtain ⟨hx, hb, -, -, -, -, -, -, -, hQ⟩ := id E
  intro S  h H locs ls X hl
  unfold fJ0_length_s0 at h
  refine lv_aload_n hx hb dJ0_length_8abf5_0 rfl (lv_at hl 0 rfl) ?_
  refine x_sval E X (by decide) (gt_at 1539 (by decide +kernel) (by decide +kernel)) dJ0_length_8abf5_1 ?_
  refine x_slen E X (v := (93 : Int32)) (by decide) (by decide) dJ0_length_8abf5_4 ?_
  refine lv_aload_n hx hb dJ0_length_8abf5_5 rfl (lv_at hl 0 rfl) ?_
  refine x_callVs E X cwJ0_335 (mJ0_coder_s0 l Z hQ (S := S) (r := (0 : Int32)) (S' := S) rfl) (by decide) rfl rfl hl.1 rfl dJ0_length_8abf5_6 (fun H locs X => ?_)
  refine lv_ishr hx hb dJ0_length_8abf5_9 ?_
  exact x_iret E X h dJ0_length_8abf5_10
/-- java/lang/String.length()I -/
theorem mJ0_length_s0 (l : Launch) (Z : XG) (hQ : wQ (List.length xL) Z) {S S' : Mem} {r : Int32} (h : fJ0_length_s0 S  = some (r, S')) : XM l yJ0_length_8abf5 cJ0_length_8abf5 1 (some .int) { frames := 1, cells := 0, slots := 0, locals := 20 } xL Z [.ref (Z.2.2.2.2.1 0)] S (XQ xL Z r S') := by
  refine XM.of (own := RJ0) (by decide +kernel) rfl rfl hQ (fun p e s m args below meth c E ls hl X => ?_)
  exact wJ0_length_s0 E S  h _ _ _ X hl
def fJ0_isLatin1_s0 (S : Mem) : O := some ((1 : Int32), S)
set_option maxRecDepth 20000 in
theorem wJ0_isLatin1_s0 {p : Program} {l : Launch} {e : Env} {s : State} {m : MethodId} {args : Array Value} {below : List Frame} {meth : Method} {c : Code} {Z : XG} {r : Int32} {S' : Mem} (E : XE p s m args meth c cJ0_isLatin1_aae02 1 RJ0 (some .boolean) xL Z) : ∀ (S : Mem), fJ0_isLatin1_s0  S  = some (r, S') → WN p l e { frames := 0, cells := 0, slots := 0, locals := 0 } s m args below meth c xL Z (XQ xL Z r S') S 0 1 [(0, .ref (Z.2.2.2.2.1 0))] [] := by
  obtain ⟨hx, hb, -, -, -, -, -, -, -, hQ⟩ := id E
  intro S  h H locs ls X hl
  unfold fJ0_isLatin1_s0 at h
  refine x_compact E X (gt_at 523 (by decide +kernel) (by decide +kernel)) dJ0_isLatin1_aae02_0 ?_
  refine lv_if_eq (tgt := 17) hx hb dJ0_isLatin1_aae02_3 (by decide) (fun c_2 => ?_) (fun c_2 => ?_)
  · exact absurd c_2 (by decide)
  · refine lv_aload_n hx hb dJ0_isLatin1_aae02_6 rfl (lv_at hl 0 rfl) ?_
    refine x_scod E X (by decide) (gt_at 1540 (by decide +kernel) (by decide +kernel)) dJ0_isLatin1_aae02_7 ?_
    refine lv_if_ne (tgt := 17) hx hb dJ0_isLatin1_aae02_10 (by decide) (fun c_3 => ?_) (fun c_3 => ?_)
    · exact absurd c_3 (by decide)
    · refine lv_iconst (v := (1 : Int32)) hx hb dJ0_isLatin1_aae02_13 (by decide) ?_
      refine lv_goto (tgt := 18) hx hb dJ0_isLatin1_aae02_14 (by decide) ?_
      exact x_zret E X rfl h dJ0_isLatin1_aae02_18
/-- java/lang/String.isLatin1()Z -/
theorem mJ0_isLatin1_s0 (l : Launch) (Z : XG) (hQ : wQ (List.length xL) Z) {S S' : Mem} {r : Int32} (h : fJ0_isLatin1_s0 S  = some (r, S')) : XM l yJ0_isLatin1_aae02 cJ0_isLatin1_aae02 1 (some .boolean) { frames := 0, cells := 0, slots := 0, locals := 0 } xL Z [.ref (Z.2.2.2.2.1 0)] S (XQ xL Z r S') := by
  refine XM.of (own := RJ0) (by decide +kernel) rfl rfl hQ (fun p e s m args below meth c E ls hl X => ?_)
  exact wJ0_isLatin1_s0 E S  h _ _ _ X hl
def fJ3_checkIndex_f_9 (S : Mem) (x0 x1 : Int32) : O := (none : O)
def fJ3_checkIndex_f (S : Mem) (x0 x1 : Int32) : O := (if x0 < 0 then fJ3_checkIndex_f_9  S x0 x1 else (if x0 < x1 then some (x0, S) else fJ3_checkIndex_f_9  S x0 x1))
theorem dJ3_checkIndex_8e157_0 : decode cJ3_checkIndex_8e157 0 = .ok (.iload_n 0, 1) := by decide +kernel
theorem dJ3_checkIndex_8e157_1 : decode cJ3_checkIndex_8e157 1 = .ok (.ifCond .lt 8, 3) := by decide +kernel
theorem dJ3_checkIndex_8e157_4 : decode cJ3_checkIndex_8e157 4 = .ok (.iload_n 0, 1) := by decide +kernel
theorem dJ3_checkIndex_8e157_5 : decode cJ3_checkIndex_8e157 5 = .ok (.iload_n 1, 1) := by decide +kernel
theorem dJ3_checkIndex_8e157_6 : decode cJ3_checkIndex_8e157 6 = .ok (.if_icmp .lt 10, 3) := by decide +kernel
theorem dJ3_checkIndex_8e157_9 : decode cJ3_checkIndex_8e157 9 = .ok (.aload_n 2, 1) := by decide +kernel
theorem dJ3_checkIndex_8e157_10 : decode cJ3_checkIndex_8e157 10 = .ok (.iload_n 0, 1) := by decide +kernel
theorem dJ3_checkIndex_8e157_11 : decode cJ3_checkIndex_8e157 11 = .ok (.iload_n 1, 1) := by decide +kernel
theorem dJ3_checkIndex_8e157_12 : decode cJ3_checkIndex_8e157 12 = .ok (.invokestatic 95, 3) := by decide +kernel
theorem dJ3_checkIndex_8e157_15 : decode cJ3_checkIndex_8e157 15 = .ok (.athrow, 1) := by decide +kernel
theorem dJ3_checkIndex_8e157_16 : decode cJ3_checkIndex_8e157 16 = .ok (.iload_n 0, 1) := by decide +kernel
theorem dJ3_checkIndex_8e157_17 : decode cJ3_checkIndex_8e157 17 = .ok (.ireturn, 1) := by decide +kernel
set_option maxRecDepth 20000 in
theorem wJ3_checkIndex_f_9 {p : Program} {l : Launch} {e : Env} {s : State} {m : MethodId} {args : Array Value} {below : List Frame} {meth : Method} {c : Code} {Z : XG} {r : Int32} {S' : Mem} (E : XE p s m args meth c cJ3_checkIndex_8e157 3 RJ3 (some .int) xL Z) : ∀ (S : Mem) (x0 x1 : Int32), fJ3_checkIndex_f_9  S x0 x1 = some (r, S') → WN p l e { frames := 0, cells := 0, slots := 0, locals := 0 } s m args below meth c xL Z (XQ xL Z r S') S 9 3 [(0, .int x0), (1, .int x1)] [] := by
  obtain ⟨hx, hb, -, -, -, -, -, -, -, hQ⟩ := id E
  intro S x0 x1 h H locs ls X hl
  unfold fJ3_checkIndex_f_9 at h
  exact absurd h (by simp)
set_option maxRecDepth 20000 in
theorem wJ3_checkIndex_f {p : Program} {l : Launch} {e : Env} {s : State} {m : MethodId} {args : Array Value} {below : List Frame} {meth : Method} {c : Code} {Z : XG} {r : Int32} {S' : Mem} (E : XE p s m args meth c cJ3_checkIndex_8e157 3 RJ3 (some .int) xL Z) : ∀ (S : Mem) (x0 x1 : Int32), fJ3_checkIndex_f  S x0 x1 = some (r, S') → WN p l e { frames := 0, cells := 0, slots := 0, locals := 0 } s m args below meth c xL Z (XQ xL Z r S') S 0 3 [(0, .int x0), (1, .int x1)] [] := by
  obtain ⟨hx, hb, -, -, -, -, -, -, -, hQ⟩ := id E
  intro S x0 x1 h H locs ls X hl
  unfold fJ3_checkIndex_f at h
  refine lv_iload_n hx hb dJ3_checkIndex_8e157_0 rfl (lv_at hl 0 rfl) ?_
  refine lv_if_lt (tgt := 9) hx hb dJ3_checkIndex_8e157_1 (by decide) (fun c_1 => ?_) (fun c_1 => ?_)
  · have h := if_t c_1 h
    exact wJ3_checkIndex_f_9 E   S x0 x1 h _ _ _ X hl
  · have h := if_f c_1 h
    refine lv_iload_n hx hb dJ3_checkIndex_8e157_4 rfl (lv_at hl 0 rfl) ?_
    refine lv_iload_n hx hb dJ3_checkIndex_8e157_5 rfl (lv_at hl 1 rfl) ?_
    refine lv_icmp_lt (tgt := 16) hx hb dJ3_checkIndex_8e157_6 (by decide) (fun c_2 => ?_) (fun c_2 => ?_)
    · have h := if_t c_2 h
      refine lv_iload_n hx hb dJ3_checkIndex_8e157_16 rfl (lv_at hl 0 rfl) ?_
      exact x_iret E X h dJ3_checkIndex_8e157_17
    · have h := if_f c_2 h
      exact wJ3_checkIndex_f_9 E   S x0 x1 h _ _ _ X hl
/-- jdk/internal/util/Preconditions.checkIndex(IILjava/util/function/BiFunction;)I -/
theorem mJ3_checkIndex_f (l : Launch) (Z : XG) (hQ : wQ (List.length xL) Z) {S S' : Mem} {r : Int32} (v : Value) (hv : v = .null ∨ ∃ t, v = .ref t) (x0 x1 : Int32) (h : fJ3_checkIndex_f S x0 x1 = some (r, S')) : XM l yJ3_checkIndex_8e157 cJ3_checkIndex_8e157 3 (some .int) { frames := 0, cells := 0, slots := 0, locals := 0 } xL Z [.int x0, .int x1, v] S (XQ xL Z r S') := by
  rcases hv with rfl | ⟨t, rfl⟩
  all_goals refine XM.of (own := RJ3) (by decide +kernel) rfl rfl hQ (fun p e s m args below meth c E ls hl X => ?_)
  all_goals exact wJ3_checkIndex_f E S x0 x1 h _ _ _ X (lv_sub hl [0, 1] rfl)
def fJ0_checkIndex (S : Mem) (x0 x1 : Int32) : O := bnd (fJ3_checkIndex_f S x0 x1) fun r_3 S_4 => some ((0 : Int32), S_4)
theorem dJ0_checkIndex_df160_0 : decode cJ0_checkIndex_df160 0 = .ok (.iload_n 0, 1) := by decide +kernel
theorem dJ0_checkIndex_df160_1 : decode cJ0_checkIndex_df160 1 = .ok (.iload_n 1, 1) := by decide +kernel
theorem dJ0_checkIndex_df160_2 : decode cJ0_checkIndex_df160 2 = .ok (.getstatic 1053, 3) := by decide +kernel
theorem dJ0_checkIndex_df160_5 : decode cJ0_checkIndex_df160 5 = .ok (.invokestatic 1059, 3) := by decide +kernel
theorem dJ0_checkIndex_df160_8 : decode cJ0_checkIndex_df160 8 = .ok (.pop, 1) := by decide +kernel
theorem dJ0_checkIndex_df160_9 : decode cJ0_checkIndex_df160 9 = .ok (.return_, 1) := by decide +kernel
set_option maxRecDepth 20000 in
theorem wJ0_checkIndex {p : Program} {l : Launch} {e : Env} {s : State} {m : MethodId} {args : Array Value} {below : List Frame} {meth : Method} {c : Code} {Z : XG} {r : Int32} {S' : Mem} (E : XE p s m args meth c cJ0_checkIndex_df160 2 RJ0 none xL Z) : ∀ (S : Mem) (x0 x1 : Int32), fJ0_checkIndex  S x0 x1 = some (r, S') → WN p l e { frames := 1, cells := 0, slots := 0, locals := 22 } s m args below meth c xL Z (XV xL Z S') S 0 2 [(0, .int x0), (1, .int x1)] [] := by
  obtain ⟨hx, hb, -, -, -, -, -, -, -, hQ⟩ := id E
  intro S x0 x1 h H locs ls X hl
  unfold fJ0_checkIndex at h
  refine lv_iload_n hx hb dJ0_checkIndex_df160_0 rfl (lv_at hl 0 rfl) ?_
  refine lv_iload_n hx hb dJ0_checkIndex_df160_1 rfl (lv_at hl 1 rfl) ?_
  refine x_form E X (gt_at 539 (by decide +kernel) (by decide +kernel)) dJ0_checkIndex_df160_2 (fun v_2 hv_2 => ?_)
  obtain ⟨r_3, S_4, hr_3, h⟩ := bnd_s h
  refine x_callS E X cwJ0_1059 (mJ3_checkIndex_f l Z hQ v_2 hv_2 x0 x1 hr_3) rfl rfl hl.1 rfl dJ0_checkIndex_df160_5 (fun H locs X => ?_)
  refine lv_pop hx hb dJ0_checkIndex_df160_8 rfl ?_
  exact x_vret E X h dJ0_checkIndex_df160_9
/-- java/lang/String.checkIndex(II)V -/
theorem mJ0_checkIndex (l : Launch) (Z : XG) (hQ : wQ (List.length xL) Z) {S S' : Mem} {r : Int32} (x0 x1 : Int32) (h : fJ0_checkIndex S x0 x1 = some (r, S')) : XM l yJ0_checkIndex_df160 cJ0_checkIndex_df160 2 none { frames := 1, cells := 0, slots := 0, locals := 22 } xL Z [.int x0, .int x1] S (XV xL Z S') := by
  refine XM.of (own := RJ0) (by decide +kernel) rfl rfl hQ (fun p e s m args below meth c E ls hl X => ?_)
  exact wJ0_checkIndex E S x0 x1 h _ _ _ X hl
def fJ1_charAt_v0 (S : Mem) (x1 : Int32) : O := bnd (fJ0_checkIndex S x1 (93 : Int32)) fun _ S_2 => gd (inB x1 93) <| gd (isC (i2c (((byS 0).getD (x1).toNatClampNeg 0) &&& (255 : Int32)))) <| some ((i2c (((byS 0).getD (x1).toNatClampNeg 0) &&& (255 : Int32))), S_2)
theorem dJ1_charAt_3b067_0 : decode cJ1_charAt_3b067 0 = .ok (.iload_n 1, 1) := by decide +kernel
theorem dJ1_charAt_3b067_1 : decode cJ1_charAt_3b067 1 = .ok (.aload_n 0, 1) := by decide +kernel
theorem dJ1_charAt_3b067_2 : decode cJ1_charAt_3b067 2 = .ok (.arraylength, 1) := by decide +kernel
theorem dJ1_charAt_3b067_3 : decode cJ1_charAt_3b067 3 = .ok (.invokestatic 9, 3) := by decide +kernel
theorem dJ1_charAt_3b067_6 : decode cJ1_charAt_3b067 6 = .ok (.aload_n 0, 1) := by decide +kernel
theorem dJ1_charAt_3b067_7 : decode cJ1_charAt_3b067 7 = .ok (.iload_n 1, 1) := by decide +kernel
theorem dJ1_charAt_3b067_8 : decode cJ1_charAt_3b067 8 = .ok (.baload, 1) := by decide +kernel
theorem dJ1_charAt_3b067_9 : decode cJ1_charAt_3b067 9 = .ok (.sipush 255, 3) := by decide +kernel
theorem dJ1_charAt_3b067_12 : decode cJ1_charAt_3b067 12 = .ok (.iand, 1) := by decide +kernel
theorem dJ1_charAt_3b067_13 : decode cJ1_charAt_3b067 13 = .ok (.i2c, 1) := by decide +kernel
theorem dJ1_charAt_3b067_14 : decode cJ1_charAt_3b067 14 = .ok (.ireturn, 1) := by decide +kernel
set_option maxRecDepth 20000 in
theorem wJ1_charAt_v0 {p : Program} {l : Launch} {e : Env} {s : State} {m : MethodId} {args : Array Value} {below : List Frame} {meth : Method} {c : Code} {Z : XG} {r : Int32} {S' : Mem} (E : XE p s m args meth c cJ1_charAt_3b067 2 RJ1 (some .char) xL Z) : ∀ (S : Mem) (x1 : Int32), fJ1_charAt_v0  S x1 = some (r, S') → WN p l e { frames := 2, cells := 0, slots := 0, locals := 43 } s m args below meth c xL Z (XQ xL Z r S') S 0 2 [(0, .ref (Z.2.2.2.2.2 0)), (1, .int x1)] [] := by
  obtain ⟨hx, hb, -, -, -, -, -, -, -, hQ⟩ := id E
  intro S x1 h H locs ls X hl
  unfold fJ1_charAt_v0 at h
  refine lv_iload_n hx hb dJ1_charAt_3b067_0 rfl (lv_at hl 1 rfl) ?_
  refine lv_aload_n hx hb dJ1_charAt_3b067_1 rfl (lv_at hl 0 rfl) ?_
  refine x_slen E X (v := (93 : Int32)) (by decide) (by decide) dJ1_charAt_3b067_2 ?_
  obtain ⟨r_1, S_2, hr_1, h⟩ := bnd_s h
  refine x_callSv E X cwJ1_9 (mJ0_checkIndex l Z hQ  x1 (93 : Int32) hr_1) rfl rfl hl.1 rfl dJ1_charAt_3b067_3 (fun H locs X => ?_)
  refine lv_aload_n hx hb dJ1_charAt_3b067_6 rfl (lv_at hl 0 rfl) ?_
  refine lv_iload_n hx hb dJ1_charAt_3b067_7 rfl (lv_at hl 1 rfl) ?_
  obtain ⟨g_3, h⟩ := gd_s h
  refine x_sbld E X (by decide) (n := 93) rfl g_3 dJ1_charAt_3b067_8 ?_
  refine lv_sipush (v := (255 : Int32)) hx hb dJ1_charAt_3b067_9 (by decide) ?_
  refine lv_iand hx hb dJ1_charAt_3b067_12 ?_
  refine lv_i2c (v := (i2c (((byS 0).getD (x1).toNatClampNeg 0) &&& (255 : Int32)))) hx hb dJ1_charAt_3b067_13 rfl ?_
  obtain ⟨g_4, h⟩ := gd_s h
  exact x_cret E X g_4 h dJ1_charAt_3b067_14
/-- java/lang/StringLatin1.charAt([BI)C -/
theorem mJ1_charAt_v0 (l : Launch) (Z : XG) (hQ : wQ (List.length xL) Z) {S S' : Mem} {r : Int32} (x1 : Int32) (h : fJ1_charAt_v0 S x1 = some (r, S')) : XM l yJ1_charAt_3b067 cJ1_charAt_3b067 2 (some .char) { frames := 2, cells := 0, slots := 0, locals := 43 } xL Z [.ref (Z.2.2.2.2.2 0), .int x1] S (XQ xL Z r S') := by
  refine XM.of (own := RJ1) (by decide +kernel) rfl rfl hQ (fun p e s m args below meth c E ls hl X => ?_)
  exact wJ1_charAt_v0 E S x1 h _ _ _ X hl
def fJ0_charAt_s0 (S : Mem) (x1 : Int32) : O := bnd (fJ1_charAt_v0 S x1) fun r_2 S_3 => gd (isC r_2) <| some (r_2, S_3)
theorem dJ0_charAt_5068e_0 : decode cJ0_charAt_5068e 0 = .ok (.aload_n 0, 1) := by decide +kernel
theorem dJ0_charAt_5068e_1 : decode cJ0_charAt_5068e 1 = .ok (.invokevirtual 492, 3) := by decide +kernel
theorem dJ0_charAt_5068e_4 : decode cJ0_charAt_5068e 4 = .ok (.ifCond .eq 12, 3) := by decide +kernel
theorem dJ0_charAt_5068e_7 : decode cJ0_charAt_5068e 7 = .ok (.aload_n 0, 1) := by decide +kernel
theorem dJ0_charAt_5068e_8 : decode cJ0_charAt_5068e 8 = .ok (.getfield 9, 3) := by decide +kernel
theorem dJ0_charAt_5068e_11 : decode cJ0_charAt_5068e 11 = .ok (.iload_n 1, 1) := by decide +kernel
theorem dJ0_charAt_5068e_12 : decode cJ0_charAt_5068e 12 = .ok (.invokestatic 495, 3) := by decide +kernel
theorem dJ0_charAt_5068e_15 : decode cJ0_charAt_5068e 15 = .ok (.ireturn, 1) := by decide +kernel
theorem dJ0_charAt_5068e_16 : decode cJ0_charAt_5068e 16 = .ok (.aload_n 0, 1) := by decide +kernel
theorem dJ0_charAt_5068e_17 : decode cJ0_charAt_5068e 17 = .ok (.getfield 9, 3) := by decide +kernel
theorem dJ0_charAt_5068e_20 : decode cJ0_charAt_5068e 20 = .ok (.iload_n 1, 1) := by decide +kernel
theorem dJ0_charAt_5068e_21 : decode cJ0_charAt_5068e 21 = .ok (.invokestatic 498, 3) := by decide +kernel
theorem dJ0_charAt_5068e_24 : decode cJ0_charAt_5068e 24 = .ok (.ireturn, 1) := by decide +kernel
set_option maxRecDepth 20000 in
theorem wJ0_charAt_s0 {p : Program} {l : Launch} {e : Env} {s : State} {m : MethodId} {args : Array Value} {below : List Frame} {meth : Method} {c : Code} {Z : XG} {r : Int32} {S' : Mem} (E : XE p s m args meth c cJ0_charAt_5068e 2 RJ0 (some .char) xL Z) : ∀ (S : Mem) (x1 : Int32), fJ0_charAt_s0  S x1 = some (r, S') → WN p l e { frames := 3, cells := 0, slots := 0, locals := 64 } s m args below meth c xL Z (XQ xL Z r S') S 0 2 [(0, .ref (Z.2.2.2.2.1 0)), (1, .int x1)] [] := by
  obtain ⟨hx, hb, -, -, -, -, -, -, -, hQ⟩ := id E
  intro S x1 h H locs ls X hl
  unfold fJ0_charAt_s0 at h
  refine lv_aload_n hx hb dJ0_charAt_5068e_0 rfl (lv_at hl 0 rfl) ?_
  refine x_callVs E X cwJ0_492 (mJ0_isLatin1_s0 l Z hQ (S := S) (r := (1 : Int32)) (S' := S) rfl) (by decide) rfl rfl hl.1 rfl dJ0_charAt_5068e_1 (fun H locs X => ?_)
  refine lv_if_eq (tgt := 16) hx hb dJ0_charAt_5068e_4 (by decide) (fun c_1 => ?_) (fun c_1 => ?_)
  · exact absurd c_1 (by decide)
  · refine lv_aload_n hx hb dJ0_charAt_5068e_7 rfl (lv_at hl 0 rfl) ?_
    refine x_sval E X (by decide) (gt_at 1539 (by decide +kernel) (by decide +kernel)) dJ0_charAt_5068e_8 ?_
    refine lv_iload_n hx hb dJ0_charAt_5068e_11 rfl (lv_at hl 1 rfl) ?_
    obtain ⟨r_2, S_3, hr_2, h⟩ := bnd_s h
    refine x_callS E X cwJ0_495 (mJ1_charAt_v0 l Z hQ  x1 hr_2) rfl rfl hl.1 rfl dJ0_charAt_5068e_12 (fun H locs X => ?_)
    obtain ⟨g_4, h⟩ := gd_s h
    exact x_cret E X g_4 h dJ0_charAt_5068e_15
/-- java/lang/String.charAt(I)C -/
theorem mJ0_charAt_s0 (l : Launch) (Z : XG) (hQ : wQ (List.length xL) Z) {S S' : Mem} {r : Int32} (x1 : Int32) (h : fJ0_charAt_s0 S x1 = some (r, S')) : XM l yJ0_charAt_5068e cJ0_charAt_5068e 2 (some .char) { frames := 3, cells := 0, slots := 0, locals := 64 } xL Z [.ref (Z.2.2.2.2.1 0), .int x1] S (XQ xL Z r S') := by
  refine XM.of (own := RJ0) (by decide +kernel) rfl rfl hQ (fun p e s m args below meth c E ls hl X => ?_)
  exact wJ0_charAt_s0 E S x1 h _ _ _ X hl
def fX3_isWord_19_b (k0 : Mem → Int32 → Int32 → Int32 → O) (S : Mem) (x1 x2 x3 : Int32) : O := (if x2 ≤ x3 then some ((1 : Int32), S) else (if (93 : Int32) ≤ x3 then some ((1 : Int32), S) else bnd (fJ0_charAt_s0 S x3) fun r_3 S_4 => bnd (fX3_byteAt S_4 (((S_4 38 7) + x3) - x1)) fun r_5 S_6 => (if r_3 = r_5 then k0 S_6 x1 x2 (x3 + (1 : Int32)) else some ((0 : Int32), S_6))))
def fX3_isWord_19 : Nat → Mem → Int32 → Int32 → Int32 → O
  | 0 => fun _ _ _ _ => none
  | n + 1 => fX3_isWord_19_b (fX3_isWord_19 n)
def fX3_isWord (S : Mem) (x1 x2 : Int32) : O := (if (x2 - x1) = ((S 38 5) - (S 38 7)) then fX3_isWord_19  FU S x1 x2 x1 else some ((0 : Int32), S))
theorem dX3_isWord_0 : decode cX3_isWord 0 = .ok (.iload_n 2, 1) := by decide +kernel
theorem dX3_isWord_1 : decode cX3_isWord 1 = .ok (.iload_n 1, 1) := by decide +kernel
theorem dX3_isWord_2 : decode cX3_isWord 2 = .ok (.isub, 1) := by decide +kernel
theorem dX3_isWord_3 : decode cX3_isWord 3 = .ok (.aload_n 0, 1) := by decide +kernel
theorem dX3_isWord_4 : decode cX3_isWord 4 = .ok (.getfield 39, 3) := by decide +kernel
theorem dX3_isWord_7 : decode cX3_isWord 7 = .ok (.aload_n 0, 1) := by decide +kernel
theorem dX3_isWord_8 : decode cX3_isWord 8 = .ok (.getfield 64, 3) := by decide +kernel
theorem dX3_isWord_11 : decode cX3_isWord 11 = .ok (.isub, 1) := by decide +kernel
theorem dX3_isWord_12 : decode cX3_isWord 12 = .ok (.if_icmp .eq 5, 3) := by decide +kernel
theorem dX3_isWord_15 : decode cX3_isWord 15 = .ok (.iconst 0, 1) := by decide +kernel
theorem dX3_isWord_16 : decode cX3_isWord 16 = .ok (.ireturn, 1) := by decide +kernel
theorem dX3_isWord_17 : decode cX3_isWord 17 = .ok (.iload_n 1, 1) := by decide +kernel
theorem dX3_isWord_18 : decode cX3_isWord 18 = .ok (.istore_n 3, 1) := by decide +kernel
theorem dX3_isWord_19 : decode cX3_isWord 19 = .ok (.iload_n 3, 1) := by decide +kernel
theorem dX3_isWord_20 : decode cX3_isWord 20 = .ok (.iload_n 2, 1) := by decide +kernel
theorem dX3_isWord_21 : decode cX3_isWord 21 = .ok (.if_icmp .ge 41, 3) := by decide +kernel
theorem dX3_isWord_24 : decode cX3_isWord 24 = .ok (.iload_n 3, 1) := by decide +kernel
theorem dX3_isWord_25 : decode cX3_isWord 25 = .ok (.ldc 94, 2) := by decide +kernel
theorem dX3_isWord_27 : decode cX3_isWord 27 = .ok (.invokevirtual 96, 3) := by decide +kernel
theorem dX3_isWord_30 : decode cX3_isWord 30 = .ok (.if_icmp .ge 32, 3) := by decide +kernel
theorem dX3_isWord_33 : decode cX3_isWord 33 = .ok (.ldc 94, 2) := by decide +kernel
theorem dX3_isWord_35 : decode cX3_isWord 35 = .ok (.iload_n 3, 1) := by decide +kernel
theorem dX3_isWord_36 : decode cX3_isWord 36 = .ok (.invokevirtual 98, 3) := by decide +kernel
theorem dX3_isWord_39 : decode cX3_isWord 39 = .ok (.aload_n 0, 1) := by decide +kernel
theorem dX3_isWord_40 : decode cX3_isWord 40 = .ok (.aload_n 0, 1) := by decide +kernel
theorem dX3_isWord_41 : decode cX3_isWord 41 = .ok (.getfield 64, 3) := by decide +kernel
theorem dX3_isWord_44 : decode cX3_isWord 44 = .ok (.iload_n 3, 1) := by decide +kernel
theorem dX3_isWord_45 : decode cX3_isWord 45 = .ok (.iadd, 1) := by decide +kernel
theorem dX3_isWord_46 : decode cX3_isWord 46 = .ok (.iload_n 1, 1) := by decide +kernel
theorem dX3_isWord_47 : decode cX3_isWord 47 = .ok (.isub, 1) := by decide +kernel
theorem dX3_isWord_48 : decode cX3_isWord 48 = .ok (.invokevirtual 67, 3) := by decide +kernel
theorem dX3_isWord_51 : decode cX3_isWord 51 = .ok (.if_icmp .eq 5, 3) := by decide +kernel
theorem dX3_isWord_54 : decode cX3_isWord 54 = .ok (.iconst 0, 1) := by decide +kernel
theorem dX3_isWord_55 : decode cX3_isWord 55 = .ok (.ireturn, 1) := by decide +kernel
theorem dX3_isWord_56 : decode cX3_isWord 56 = .ok (.iinc 3 1, 3) := by decide +kernel
theorem dX3_isWord_59 : decode cX3_isWord 59 = .ok (.goto (-40), 3) := by decide +kernel
theorem dX3_isWord_62 : decode cX3_isWord 62 = .ok (.iconst 1, 1) := by decide +kernel
theorem dX3_isWord_63 : decode cX3_isWord 63 = .ok (.ireturn, 1) := by decide +kernel
set_option maxRecDepth 20000 in
theorem wX3_isWord_19_b {p : Program} {l : Launch} {e : Env} {s : State} {m : MethodId} {args : Array Value} {below : List Frame} {meth : Method} {c : Code} {Z : XG} {r : Int32} {S' : Mem} (E : XE p s m args meth c cX3_isWord 4 RX3 (some .boolean) xL Z) (k0 : Mem → Int32 → Int32 → Int32 → O)  (hk0 : ∀ (S : Mem) (x1 x2 x3 : Int32), k0 S x1 x2 x3 = some (r, S') → WN p l e { frames := 4, cells := 0, slots := 0, locals := 85 } s m args below meth c xL Z (XQ xL Z r S') S 19 4 [(0, .ref (Z.2.1 38)), (1, .int x1), (2, .int x2), (3, .int x3)] []) : ∀ (S : Mem) (x1 x2 x3 : Int32), fX3_isWord_19_b k0 S x1 x2 x3 = some (r, S') → WN p l e { frames := 4, cells := 0, slots := 0, locals := 85 } s m args below meth c xL Z (XQ xL Z r S') S 19 4 [(0, .ref (Z.2.1 38)), (1, .int x1), (2, .int x2), (3, .int x3)] [] := by
  obtain ⟨hx, hb, -, -, -, -, -, -, -, hQ⟩ := id E
  intro S x1 x2 x3 h H locs ls X hl
  unfold fX3_isWord_19_b at h
  refine lv_iload_n hx hb dX3_isWord_19 rfl (lv_at hl 3 rfl) ?_
  refine lv_iload_n hx hb dX3_isWord_20 rfl (lv_at hl 2 rfl) ?_
  refine lv_icmp_ge (tgt := 62) hx hb dX3_isWord_21 (by decide) (fun c_1 => ?_) (fun c_1 => ?_)
  · have h := if_t c_1 h
    refine lv_iconst (v := (1 : Int32)) hx hb dX3_isWord_62 (by decide) ?_
    exact x_zret E X rfl h dX3_isWord_63
  · have h := if_f c_1 h
    refine lv_iload_n hx hb dX3_isWord_24 rfl (lv_at hl 3 rfl) ?_
    refine x_ldS0 E dX3_isWord_25 ?_
    refine x_callVs E X cwX3_96 (mJ0_length_s0 l Z hQ (S := S) (r := (93 : Int32)) (S' := S) (congrArg (fun v => some (v, S)) (by decide : ((93 : Int32) >>> ((0 : Int32) &&& 31)) = (93 : Int32)))) (by decide) rfl rfl hl.1 rfl dX3_isWord_27 (fun H locs X => ?_)
    refine lv_icmp_ge (tgt := 62) hx hb dX3_isWord_30 (by decide) (fun c_2 => ?_) (fun c_2 => ?_)
    · have h := if_t c_2 h
      refine lv_iconst (v := (1 : Int32)) hx hb dX3_isWord_62 (by decide) ?_
      exact x_zret E X rfl h dX3_isWord_63
    · have h := if_f c_2 h
      refine x_ldS0 E dX3_isWord_33 ?_
      refine lv_iload_n hx hb dX3_isWord_35 rfl (lv_at hl 3 rfl) ?_
      obtain ⟨r_3, S_4, hr_3, h⟩ := bnd_s h
      refine x_callVs E X cwX3_98 (mJ0_charAt_s0 l Z hQ  x3 hr_3) (by decide) rfl rfl hl.1 rfl dX3_isWord_36 (fun H locs X => ?_)
      refine lv_aload_n hx hb dX3_isWord_39 rfl (lv_at hl 0 rfl) ?_
      refine lv_aload_n hx hb dX3_isWord_40 rfl (lv_at hl 0 rfl) ?_
      refine x_get E X ffX3_64 rfl rfl dX3_isWord_41 ?_
      refine lv_iload_n hx hb dX3_isWord_44 rfl (lv_at hl 3 rfl) ?_
      refine lv_iadd hx hb dX3_isWord_45 ?_
      refine lv_iload_n hx hb dX3_isWord_46 rfl (lv_at hl 1 rfl) ?_
      refine lv_isub hx hb dX3_isWord_47 ?_
      obtain ⟨r_5, S_6, hr_5, h⟩ := bnd_s h
      refine x_callV E X cwX3_67 (mX3_byteAt l Z hQ  (((S_4 38 7) + x3) - x1) hr_5) rfl rfl rfl rfl hl.1 rfl dX3_isWord_48 (fun H locs X => ?_)
      refine lv_icmp_eq (tgt := 56) hx hb dX3_isWord_51 (by decide) (fun c_7 => ?_) (fun c_7 => ?_)
      · have h := if_t c_7 h
        refine lv_iinc (v := (x3 + (1 : Int32))) (lv' := [(3, .int (x3 + (1 : Int32))), (0, .ref (Z.2.1 38)), (1, .int x1), (2, .int x2)]) hx hb dX3_isWord_56 hl (k := 3) rfl rfl (by decide) rfl (fun ls hl => ?_)
        refine lv_goto (tgt := 19) hx hb dX3_isWord_59 (by decide) ?_
        exact hk0 S_6 x1 x2 (x3 + (1 : Int32)) h _ _ _ X (lv_sub hl [1, 2, 3, 0] rfl)
      · have h := if_f c_7 h
        refine lv_iconst (v := (0 : Int32)) hx hb dX3_isWord_54 (by decide) ?_
        exact x_zret E X rfl h dX3_isWord_55
theorem wX3_isWord_19 {p : Program} {l : Launch} {e : Env} {s : State} {m : MethodId} {args : Array Value} {below : List Frame} {meth : Method} {c : Code} {Z : XG} {r : Int32} {S' : Mem} (E : XE p s m args meth c cX3_isWord 4 RX3 (some .boolean) xL Z) : ∀ (n : Nat) (S : Mem) (x1 x2 x3 : Int32), fX3_isWord_19 n S x1 x2 x3 = some (r, S') → WN p l e { frames := 4, cells := 0, slots := 0, locals := 85 } s m args below meth c xL Z (XQ xL Z r S') S 19 4 [(0, .ref (Z.2.1 38)), (1, .int x1), (2, .int x2), (3, .int x3)] [] := by
  intro n
  induction n with
  | zero => intro S x1 x2 x3 h; exact absurd (show (none : O) = some _ from h) (by simp)
  | succ n ih => intro S x1 x2 x3 h; exact wX3_isWord_19_b E (fX3_isWord_19 n) ih S x1 x2 x3 h
set_option maxRecDepth 20000 in
theorem wX3_isWord {p : Program} {l : Launch} {e : Env} {s : State} {m : MethodId} {args : Array Value} {below : List Frame} {meth : Method} {c : Code} {Z : XG} {r : Int32} {S' : Mem} (E : XE p s m args meth c cX3_isWord 4 RX3 (some .boolean) xL Z) : ∀ (S : Mem) (x1 x2 : Int32), fX3_isWord  S x1 x2 = some (r, S') → WN p l e { frames := 4, cells := 0, slots := 0, locals := 85 } s m args below meth c xL Z (XQ xL Z r S') S 0 4 [(0, .ref (Z.2.1 38)), (1, .int x1), (2, .int x2)] [] := by
  obtain ⟨hx, hb, -, -, -, -, -, -, -, hQ⟩ := id E
  intro S x1 x2 h H locs ls X hl
  unfold fX3_isWord at h
  refine lv_iload_n hx hb dX3_isWord_0 rfl (lv_at hl 2 rfl) ?_
  refine lv_iload_n hx hb dX3_isWord_1 rfl (lv_at hl 1 rfl) ?_
  refine lv_isub hx hb dX3_isWord_2 ?_
  refine lv_aload_n hx hb dX3_isWord_3 rfl (lv_at hl 0 rfl) ?_
  refine x_get E X ffX3_39 rfl rfl dX3_isWord_4 ?_
  refine lv_aload_n hx hb dX3_isWord_7 rfl (lv_at hl 0 rfl) ?_
  refine x_get E X ffX3_64 rfl rfl dX3_isWord_8 ?_
  refine lv_isub hx hb dX3_isWord_11 ?_
  refine lv_icmp_eq (tgt := 17) hx hb dX3_isWord_12 (by decide) (fun c_1 => ?_) (fun c_1 => ?_)
  · have h := if_t c_1 h
    refine lv_iload_n hx hb dX3_isWord_17 rfl (lv_at hl 1 rfl) ?_
    refine lv_istore_n (lv' := [(3, .int x1), (0, .ref (Z.2.1 38)), (1, .int x1), (2, .int x2)]) hx hb dX3_isWord_18 rfl hl (by decide) rfl (fun ls hl => ?_)
    exact wX3_isWord_19 E   FU S x1 x2 x1 h _ _ _ X (lv_sub hl [1, 2, 3, 0] rfl)
  · have h := if_f c_1 h
    refine lv_iconst (v := (0 : Int32)) hx hb dX3_isWord_15 (by decide) ?_
    exact x_zret E X rfl h dX3_isWord_16
/-- SevenToAShadow$Reader.isWord(II)Z -/
theorem mX3_isWord (l : Launch) (Z : XG) (hQ : wQ (List.length xL) Z) {S S' : Mem} {r : Int32} (x1 x2 : Int32) (h : fX3_isWord S x1 x2 = some (r, S')) : XM l yX3_isWord cX3_isWord 4 (some .boolean) { frames := 4, cells := 0, slots := 0, locals := 85 } xL Z [.ref (Z.2.1 38), .int x1, .int x2] S (XQ xL Z r S') := by
  refine XM.of (own := RX3) (by decide +kernel) rfl rfl hQ (fun p e s m args below meth c E ls hl X => ?_)
  exact wX3_isWord E S x1 x2 h _ _ _ X hl
def fX3_scanWord_94 (k0 : Mem → Int32 → Int32 → Int32 → O) (S : Mem) (x1 x2 x3 : Int32) : O := k0 S x1 x2 (x3 + (1 : Int32))
def fX3_scanWord_87 (k0 : Mem → Int32 → Int32 → Int32 → O) (S : Mem) (x1 x3 : Int32) : O := lti (x3 + (1 : Int32)) fun x2_1 => fX3_scanWord_94 k0 S (x1 + (1 : Int32)) x2_1 x3
def fX3_scanWord_50_b (k0 : Mem → Int32 → Int32 → Int32 → O) (S : Mem) (x1 x2 x3 : Int32) : O := (if (93 : Int32) ≤ x3 then some ((0 : Int32), S) else bnd (fJ0_charAt_s0 S x3) fun r_2 S_3 => (if r_2 = (32 : Int32) then bnd (fX3_isWord S_3 x2 x3) fun r_5 S_6 => (if r_5 = 0 then fX3_scanWord_87 k0 S_6 x1 x3 else ltm (mset S_6 38 6 x1) fun S_8 => fX3_scanWord_87 k0 S_8 x1 x3) else fX3_scanWord_94 k0 S_3 x1 x2 x3))
def fX3_scanWord_50 : Nat → Mem → Int32 → Int32 → Int32 → O
  | 0 => fun _ _ _ _ => none
  | n + 1 => fX3_scanWord_50_b (fX3_scanWord_50 n)
def fX3_scanWord_38 (S : Mem) : O := ltm (mset S 38 6 (30 : Int32)) fun S_1 => fX3_scanWord_50  FU S_1 (0 : Int32) (0 : Int32) (0 : Int32)
def fX3_scanWord_0_b (k0 : Mem → O) (S : Mem) : O := (if (S 38 1) ≤ (S 38 5) then fX3_scanWord_38  S  else bnd (fX3_byteAt S (S 38 5)) fun r_2 S_3 => bnd (fX3_isLetter S_3 r_2) fun r_4 S_5 => (if r_4 = 0 then fX3_scanWord_38  S_5  else ltm (mset S_5 38 5 ((S_5 38 5) + (1 : Int32))) fun S_7 => k0 S_7 ))
def fX3_scanWord_0 : Nat → Mem → O
  | 0 => fun _ => none
  | n + 1 => fX3_scanWord_0_b (fX3_scanWord_0 n)
def fX3_scanWord (S : Mem) : O := fX3_scanWord_0 FU S 
theorem dX3_scanWord_0 : decode cX3_scanWord 0 = .ok (.aload_n 0, 1) := by decide +kernel
theorem dX3_scanWord_1 : decode cX3_scanWord 1 = .ok (.getfield 39, 3) := by decide +kernel
theorem dX3_scanWord_4 : decode cX3_scanWord 4 = .ok (.aload_n 0, 1) := by decide +kernel
theorem dX3_scanWord_5 : decode cX3_scanWord 5 = .ok (.getfield 30, 3) := by decide +kernel
theorem dX3_scanWord_8 : decode cX3_scanWord 8 = .ok (.if_icmp .ge 30, 3) := by decide +kernel
theorem dX3_scanWord_11 : decode cX3_scanWord 11 = .ok (.aload_n 0, 1) := by decide +kernel
theorem dX3_scanWord_12 : decode cX3_scanWord 12 = .ok (.aload_n 0, 1) := by decide +kernel
theorem dX3_scanWord_13 : decode cX3_scanWord 13 = .ok (.getfield 39, 3) := by decide +kernel
theorem dX3_scanWord_16 : decode cX3_scanWord 16 = .ok (.invokevirtual 67, 3) := by decide +kernel
theorem dX3_scanWord_19 : decode cX3_scanWord 19 = .ok (.invokestatic 71, 3) := by decide +kernel
theorem dX3_scanWord_22 : decode cX3_scanWord 22 = .ok (.ifCond .eq 16, 3) := by decide +kernel
theorem dX3_scanWord_25 : decode cX3_scanWord 25 = .ok (.aload_n 0, 1) := by decide +kernel
theorem dX3_scanWord_26 : decode cX3_scanWord 26 = .ok (.dup, 1) := by decide +kernel
theorem dX3_scanWord_27 : decode cX3_scanWord 27 = .ok (.getfield 39, 3) := by decide +kernel
theorem dX3_scanWord_30 : decode cX3_scanWord 30 = .ok (.iconst 1, 1) := by decide +kernel
theorem dX3_scanWord_31 : decode cX3_scanWord 31 = .ok (.iadd, 1) := by decide +kernel
theorem dX3_scanWord_32 : decode cX3_scanWord 32 = .ok (.putfield 39, 3) := by decide +kernel
theorem dX3_scanWord_35 : decode cX3_scanWord 35 = .ok (.goto (-35), 3) := by decide +kernel
theorem dX3_scanWord_38 : decode cX3_scanWord 38 = .ok (.aload_n 0, 1) := by decide +kernel
theorem dX3_scanWord_39 : decode cX3_scanWord 39 = .ok (.bipush 30, 2) := by decide +kernel
theorem dX3_scanWord_41 : decode cX3_scanWord 41 = .ok (.putfield 61, 3) := by decide +kernel
theorem dX3_scanWord_44 : decode cX3_scanWord 44 = .ok (.iconst 0, 1) := by decide +kernel
theorem dX3_scanWord_45 : decode cX3_scanWord 45 = .ok (.istore_n 1, 1) := by decide +kernel
theorem dX3_scanWord_46 : decode cX3_scanWord 46 = .ok (.iconst 0, 1) := by decide +kernel
theorem dX3_scanWord_47 : decode cX3_scanWord 47 = .ok (.istore_n 2, 1) := by decide +kernel
theorem dX3_scanWord_48 : decode cX3_scanWord 48 = .ok (.iconst 0, 1) := by decide +kernel
theorem dX3_scanWord_49 : decode cX3_scanWord 49 = .ok (.istore_n 3, 1) := by decide +kernel
theorem dX3_scanWord_50 : decode cX3_scanWord 50 = .ok (.iload_n 3, 1) := by decide +kernel
theorem dX3_scanWord_51 : decode cX3_scanWord 51 = .ok (.ldc 94, 2) := by decide +kernel
theorem dX3_scanWord_53 : decode cX3_scanWord 53 = .ok (.invokevirtual 96, 3) := by decide +kernel
theorem dX3_scanWord_56 : decode cX3_scanWord 56 = .ok (.if_icmp .ge 44, 3) := by decide +kernel
theorem dX3_scanWord_59 : decode cX3_scanWord 59 = .ok (.ldc 94, 2) := by decide +kernel
theorem dX3_scanWord_61 : decode cX3_scanWord 61 = .ok (.iload_n 3, 1) := by decide +kernel
theorem dX3_scanWord_62 : decode cX3_scanWord 62 = .ok (.invokevirtual 98, 3) := by decide +kernel
theorem dX3_scanWord_65 : decode cX3_scanWord 65 = .ok (.bipush 32, 2) := by decide +kernel
theorem dX3_scanWord_67 : decode cX3_scanWord 67 = .ok (.if_icmp .eq 6, 3) := by decide +kernel
theorem dX3_scanWord_70 : decode cX3_scanWord 70 = .ok (.goto 24, 3) := by decide +kernel
theorem dX3_scanWord_73 : decode cX3_scanWord 73 = .ok (.aload_n 0, 1) := by decide +kernel
theorem dX3_scanWord_74 : decode cX3_scanWord 74 = .ok (.iload_n 2, 1) := by decide +kernel
theorem dX3_scanWord_75 : decode cX3_scanWord 75 = .ok (.iload_n 3, 1) := by decide +kernel
theorem dX3_scanWord_76 : decode cX3_scanWord 76 = .ok (.invokevirtual 102, 3) := by decide +kernel
theorem dX3_scanWord_79 : decode cX3_scanWord 79 = .ok (.ifCond .eq 8, 3) := by decide +kernel
theorem dX3_scanWord_82 : decode cX3_scanWord 82 = .ok (.aload_n 0, 1) := by decide +kernel
theorem dX3_scanWord_83 : decode cX3_scanWord 83 = .ok (.iload_n 1, 1) := by decide +kernel
theorem dX3_scanWord_84 : decode cX3_scanWord 84 = .ok (.putfield 61, 3) := by decide +kernel
theorem dX3_scanWord_87 : decode cX3_scanWord 87 = .ok (.iinc 1 1, 3) := by decide +kernel
theorem dX3_scanWord_90 : decode cX3_scanWord 90 = .ok (.iload_n 3, 1) := by decide +kernel
theorem dX3_scanWord_91 : decode cX3_scanWord 91 = .ok (.iconst 1, 1) := by decide +kernel
theorem dX3_scanWord_92 : decode cX3_scanWord 92 = .ok (.iadd, 1) := by decide +kernel
theorem dX3_scanWord_93 : decode cX3_scanWord 93 = .ok (.istore_n 2, 1) := by decide +kernel
theorem dX3_scanWord_94 : decode cX3_scanWord 94 = .ok (.iinc 3 1, 3) := by decide +kernel
theorem dX3_scanWord_97 : decode cX3_scanWord 97 = .ok (.goto (-47), 3) := by decide +kernel
theorem dX3_scanWord_100 : decode cX3_scanWord 100 = .ok (.return_, 1) := by decide +kernel
set_option maxRecDepth 20000 in
theorem wX3_scanWord_94 {p : Program} {l : Launch} {e : Env} {s : State} {m : MethodId} {args : Array Value} {below : List Frame} {meth : Method} {c : Code} {Z : XG} {r : Int32} {S' : Mem} (E : XE p s m args meth c cX3_scanWord 4 RX3 none xL Z) (k0 : Mem → Int32 → Int32 → Int32 → O)  (hk0 : ∀ (S : Mem) (x1 x2 x3 : Int32), k0 S x1 x2 x3 = some (r, S') → WN p l e { frames := 5, cells := 0, slots := 0, locals := 108 } s m args below meth c xL Z (XV xL Z S') S 50 4 [(0, .ref (Z.2.1 38)), (1, .int x1), (2, .int x2), (3, .int x3)] []) : ∀ (S : Mem) (x1 x2 x3 : Int32), fX3_scanWord_94 k0 S x1 x2 x3 = some (r, S') → WN p l e { frames := 5, cells := 0, slots := 0, locals := 108 } s m args below meth c xL Z (XV xL Z S') S 94 4 [(0, .ref (Z.2.1 38)), (1, .int x1), (2, .int x2), (3, .int x3)] [] := by
  obtain ⟨hx, hb, -, -, -, -, -, -, -, hQ⟩ := id E
  intro S x1 x2 x3 h H locs ls X hl
  unfold fX3_scanWord_94 at h
  refine lv_iinc (v := (x3 + (1 : Int32))) (lv' := [(3, .int (x3 + (1 : Int32))), (0, .ref (Z.2.1 38)), (1, .int x1), (2, .int x2)]) hx hb dX3_scanWord_94 hl (k := 3) rfl rfl (by decide) rfl (fun ls hl => ?_)
  refine lv_goto (tgt := 50) hx hb dX3_scanWord_97 (by decide) ?_
  exact hk0 S x1 x2 (x3 + (1 : Int32)) h _ _ _ X (lv_sub hl [1, 2, 3, 0] rfl)
set_option maxRecDepth 20000 in
theorem wX3_scanWord_87 {p : Program} {l : Launch} {e : Env} {s : State} {m : MethodId} {args : Array Value} {below : List Frame} {meth : Method} {c : Code} {Z : XG} {r : Int32} {S' : Mem} (E : XE p s m args meth c cX3_scanWord 4 RX3 none xL Z) (k0 : Mem → Int32 → Int32 → Int32 → O)  (hk0 : ∀ (S : Mem) (x1 x2 x3 : Int32), k0 S x1 x2 x3 = some (r, S') → WN p l e { frames := 5, cells := 0, slots := 0, locals := 108 } s m args below meth c xL Z (XV xL Z S') S 50 4 [(0, .ref (Z.2.1 38)), (1, .int x1), (2, .int x2), (3, .int x3)] []) : ∀ (S : Mem) (x1 x3 : Int32), fX3_scanWord_87 k0 S x1 x3 = some (r, S') → WN p l e { frames := 5, cells := 0, slots := 0, locals := 108 } s m args below meth c xL Z (XV xL Z S') S 87 4 [(0, .ref (Z.2.1 38)), (1, .int x1), (3, .int x3)] [] := by
  obtain ⟨hx, hb, -, -, -, -, -, -, -, hQ⟩ := id E
  intro S x1 x3 h H locs ls X hl
  unfold fX3_scanWord_87 at h
  refine lv_iinc (v := (x1 + (1 : Int32))) (lv' := [(1, .int (x1 + (1 : Int32))), (0, .ref (Z.2.1 38)), (3, .int x3)]) hx hb dX3_scanWord_87 hl (k := 1) rfl rfl (by decide) rfl (fun ls hl => ?_)
  refine lv_iload_n hx hb dX3_scanWord_90 rfl (lv_at hl 2 rfl) ?_
  refine lv_iconst (v := (1 : Int32)) hx hb dX3_scanWord_91 (by decide) ?_
  refine lv_iadd hx hb dX3_scanWord_92 ?_
  obtain ⟨x2_1, ex2_1, h⟩ := lti_s h
  refine lv_nm ex2_1 ?_
  refine lv_istore_n (lv' := [(2, .int x2_1), (1, .int (x1 + (1 : Int32))), (0, .ref (Z.2.1 38)), (3, .int x3)]) hx hb dX3_scanWord_93 rfl hl (by decide) rfl (fun ls hl => ?_)
  exact wX3_scanWord_94 E k0 hk0 S (x1 + (1 : Int32)) x2_1 x3 h _ _ _ X (lv_sub hl [2, 1, 0, 3] rfl)
set_option maxRecDepth 20000 in
theorem wX3_scanWord_50_b {p : Program} {l : Launch} {e : Env} {s : State} {m : MethodId} {args : Array Value} {below : List Frame} {meth : Method} {c : Code} {Z : XG} {r : Int32} {S' : Mem} (E : XE p s m args meth c cX3_scanWord 4 RX3 none xL Z) (k0 : Mem → Int32 → Int32 → Int32 → O)  (hk0 : ∀ (S : Mem) (x1 x2 x3 : Int32), k0 S x1 x2 x3 = some (r, S') → WN p l e { frames := 5, cells := 0, slots := 0, locals := 108 } s m args below meth c xL Z (XV xL Z S') S 50 4 [(0, .ref (Z.2.1 38)), (1, .int x1), (2, .int x2), (3, .int x3)] []) : ∀ (S : Mem) (x1 x2 x3 : Int32), fX3_scanWord_50_b k0 S x1 x2 x3 = some (r, S') → WN p l e { frames := 5, cells := 0, slots := 0, locals := 108 } s m args below meth c xL Z (XV xL Z S') S 50 4 [(0, .ref (Z.2.1 38)), (1, .int x1), (2, .int x2), (3, .int x3)] [] := by
  obtain ⟨hx, hb, -, -, -, -, -, -, -, hQ⟩ := id E
  intro S x1 x2 x3 h H locs ls X hl
  unfold fX3_scanWord_50_b at h
  refine lv_iload_n hx hb dX3_scanWord_50 rfl (lv_at hl 3 rfl) ?_
  refine x_ldS0 E dX3_scanWord_51 ?_
  refine x_callVs E X cwX3_96 (mJ0_length_s0 l Z hQ (S := S) (r := (93 : Int32)) (S' := S) (congrArg (fun v => some (v, S)) (by decide : ((93 : Int32) >>> ((0 : Int32) &&& 31)) = (93 : Int32)))) (by decide) rfl rfl hl.1 rfl dX3_scanWord_53 (fun H locs X => ?_)
  refine lv_icmp_ge (tgt := 100) hx hb dX3_scanWord_56 (by decide) (fun c_1 => ?_) (fun c_1 => ?_)
  · have h := if_t c_1 h
    exact x_vret E X h dX3_scanWord_100
  · have h := if_f c_1 h
    refine x_ldS0 E dX3_scanWord_59 ?_
    refine lv_iload_n hx hb dX3_scanWord_61 rfl (lv_at hl 3 rfl) ?_
    obtain ⟨r_2, S_3, hr_2, h⟩ := bnd_s h
    refine x_callVs E X cwX3_98 (mJ0_charAt_s0 l Z hQ  x3 hr_2) (by decide) rfl rfl hl.1 rfl dX3_scanWord_62 (fun H locs X => ?_)
    refine lv_bipush (v := (32 : Int32)) hx hb dX3_scanWord_65 (by decide) ?_
    refine lv_icmp_eq (tgt := 73) hx hb dX3_scanWord_67 (by decide) (fun c_4 => ?_) (fun c_4 => ?_)
    · have h := if_t c_4 h
      refine lv_aload_n hx hb dX3_scanWord_73 rfl (lv_at hl 0 rfl) ?_
      refine lv_iload_n hx hb dX3_scanWord_74 rfl (lv_at hl 2 rfl) ?_
      refine lv_iload_n hx hb dX3_scanWord_75 rfl (lv_at hl 3 rfl) ?_
      obtain ⟨r_5, S_6, hr_5, h⟩ := bnd_s h
      refine x_callV E X cwX3_102 (mX3_isWord l Z hQ  x2 x3 hr_5) rfl rfl rfl rfl hl.1 rfl dX3_scanWord_76 (fun H locs X => ?_)
      refine lv_if_eq (tgt := 87) hx hb dX3_scanWord_79 (by decide) (fun c_7 => ?_) (fun c_7 => ?_)
      · have h := if_t c_7 h
        exact wX3_scanWord_87 E k0 hk0 S_6 x1 x3 h _ _ _ X (lv_sub hl [0, 1, 3] rfl)
      · have h := if_f c_7 h
        refine lv_aload_n hx hb dX3_scanWord_82 rfl (lv_at hl 0 rfl) ?_
        refine lv_iload_n hx hb dX3_scanWord_83 rfl (lv_at hl 1 rfl) ?_
        obtain ⟨S_8, eS_8, h⟩ := ltm_s h
        refine x_put E X fpX3_61 rfl rfl dX3_scanWord_84 (fun H locs X => ?_)
        rw [← eS_8] at X
        exact wX3_scanWord_87 E k0 hk0 S_8 x1 x3 h _ _ _ X (lv_sub hl [0, 1, 3] rfl)
    · have h := if_f c_4 h
      refine lv_goto (tgt := 94) hx hb dX3_scanWord_70 (by decide) ?_
      exact wX3_scanWord_94 E k0 hk0 S_3 x1 x2 x3 h _ _ _ X hl
theorem wX3_scanWord_50 {p : Program} {l : Launch} {e : Env} {s : State} {m : MethodId} {args : Array Value} {below : List Frame} {meth : Method} {c : Code} {Z : XG} {r : Int32} {S' : Mem} (E : XE p s m args meth c cX3_scanWord 4 RX3 none xL Z) : ∀ (n : Nat) (S : Mem) (x1 x2 x3 : Int32), fX3_scanWord_50 n S x1 x2 x3 = some (r, S') → WN p l e { frames := 5, cells := 0, slots := 0, locals := 108 } s m args below meth c xL Z (XV xL Z S') S 50 4 [(0, .ref (Z.2.1 38)), (1, .int x1), (2, .int x2), (3, .int x3)] [] := by
  intro n
  induction n with
  | zero => intro S x1 x2 x3 h; exact absurd (show (none : O) = some _ from h) (by simp)
  | succ n ih => intro S x1 x2 x3 h; exact wX3_scanWord_50_b E (fX3_scanWord_50 n) ih S x1 x2 x3 h
set_option maxRecDepth 20000 in
theorem wX3_scanWord_38 {p : Program} {l : Launch} {e : Env} {s : State} {m : MethodId} {args : Array Value} {below : List Frame} {meth : Method} {c : Code} {Z : XG} {r : Int32} {S' : Mem} (E : XE p s m args meth c cX3_scanWord 4 RX3 none xL Z) : ∀ (S : Mem), fX3_scanWord_38  S  = some (r, S') → WN p l e { frames := 5, cells := 0, slots := 0, locals := 108 } s m args below meth c xL Z (XV xL Z S') S 38 4 [(0, .ref (Z.2.1 38))] [] := by
  obtain ⟨hx, hb, -, -, -, -, -, -, -, hQ⟩ := id E
  intro S  h H locs ls X hl
  unfold fX3_scanWord_38 at h
  refine lv_aload_n hx hb dX3_scanWord_38 rfl (lv_at hl 0 rfl) ?_
  refine lv_bipush (v := (30 : Int32)) hx hb dX3_scanWord_39 (by decide) ?_
  obtain ⟨S_1, eS_1, h⟩ := ltm_s h
  refine x_put E X fpX3_61 rfl rfl dX3_scanWord_41 (fun H locs X => ?_)
  rw [← eS_1] at X
  refine lv_iconst (v := (0 : Int32)) hx hb dX3_scanWord_44 (by decide) ?_
  refine lv_istore_n (lv' := [(1, .int (0 : Int32)), (0, .ref (Z.2.1 38))]) hx hb dX3_scanWord_45 rfl hl (by decide) rfl (fun ls hl => ?_)
  refine lv_iconst (v := (0 : Int32)) hx hb dX3_scanWord_46 (by decide) ?_
  refine lv_istore_n (lv' := [(2, .int (0 : Int32)), (1, .int (0 : Int32)), (0, .ref (Z.2.1 38))]) hx hb dX3_scanWord_47 rfl hl (by decide) rfl (fun ls hl => ?_)
  refine lv_iconst (v := (0 : Int32)) hx hb dX3_scanWord_48 (by decide) ?_
  refine lv_istore_n (lv' := [(3, .int (0 : Int32)), (2, .int (0 : Int32)), (1, .int (0 : Int32)), (0, .ref (Z.2.1 38))]) hx hb dX3_scanWord_49 rfl hl (by decide) rfl (fun ls hl => ?_)
  exact wX3_scanWord_50 E   FU S_1 (0 : Int32) (0 : Int32) (0 : Int32) h _ _ _ X (lv_sub hl [3, 2, 1, 0] rfl)
set_option maxRecDepth 20000 in
theorem wX3_scanWord_0_b {p : Program} {l : Launch} {e : Env} {s : State} {m : MethodId} {args : Array Value} {below : List Frame} {meth : Method} {c : Code} {Z : XG} {r : Int32} {S' : Mem} (E : XE p s m args meth c cX3_scanWord 4 RX3 none xL Z) (k0 : Mem → O)  (hk0 : ∀ (S : Mem), k0 S  = some (r, S') → WN p l e { frames := 5, cells := 0, slots := 0, locals := 108 } s m args below meth c xL Z (XV xL Z S') S 0 4 [(0, .ref (Z.2.1 38))] []) : ∀ (S : Mem), fX3_scanWord_0_b k0 S  = some (r, S') → WN p l e { frames := 5, cells := 0, slots := 0, locals := 108 } s m args below meth c xL Z (XV xL Z S') S 0 4 [(0, .ref (Z.2.1 38))] [] := by
  obtain ⟨hx, hb, -, -, -, -, -, -, -, hQ⟩ := id E
  intro S  h H locs ls X hl
  unfold fX3_scanWord_0_b at h
  refine lv_aload_n hx hb dX3_scanWord_0 rfl (lv_at hl 0 rfl) ?_
  refine x_get E X ffX3_39 rfl rfl dX3_scanWord_1 ?_
  refine lv_aload_n hx hb dX3_scanWord_4 rfl (lv_at hl 0 rfl) ?_
  refine x_get E X ffX3_30 rfl rfl dX3_scanWord_5 ?_
  refine lv_icmp_ge (tgt := 38) hx hb dX3_scanWord_8 (by decide) (fun c_1 => ?_) (fun c_1 => ?_)
  · have h := if_t c_1 h
    exact wX3_scanWord_38 E   S  h _ _ _ X hl
  · have h := if_f c_1 h
    refine lv_aload_n hx hb dX3_scanWord_11 rfl (lv_at hl 0 rfl) ?_
    refine lv_aload_n hx hb dX3_scanWord_12 rfl (lv_at hl 0 rfl) ?_
    refine x_get E X ffX3_39 rfl rfl dX3_scanWord_13 ?_
    obtain ⟨r_2, S_3, hr_2, h⟩ := bnd_s h
    refine x_callV E X cwX3_67 (mX3_byteAt l Z hQ  (S 38 5) hr_2) rfl rfl rfl rfl hl.1 rfl dX3_scanWord_16 (fun H locs X => ?_)
    obtain ⟨r_4, S_5, hr_4, h⟩ := bnd_s h
    refine x_callS E X cwX3_71 (mX3_isLetter l Z hQ  r_2 hr_4) rfl rfl hl.1 rfl dX3_scanWord_19 (fun H locs X => ?_)
    refine lv_if_eq (tgt := 38) hx hb dX3_scanWord_22 (by decide) (fun c_6 => ?_) (fun c_6 => ?_)
    · have h := if_t c_6 h
      exact wX3_scanWord_38 E   S_5  h _ _ _ X hl
    · have h := if_f c_6 h
      refine lv_aload_n hx hb dX3_scanWord_25 rfl (lv_at hl 0 rfl) ?_
      refine lv_dup hx hb dX3_scanWord_26 rfl ?_
      refine x_get E X ffX3_39 rfl rfl dX3_scanWord_27 ?_
      refine lv_iconst (v := (1 : Int32)) hx hb dX3_scanWord_30 (by decide) ?_
      refine lv_iadd hx hb dX3_scanWord_31 ?_
      obtain ⟨S_7, eS_7, h⟩ := ltm_s h
      refine x_put E X fpX3_39 rfl rfl dX3_scanWord_32 (fun H locs X => ?_)
      rw [← eS_7] at X
      refine lv_goto (tgt := 0) hx hb dX3_scanWord_35 (by decide) ?_
      exact hk0 S_7  h _ _ _ X hl
theorem wX3_scanWord_0 {p : Program} {l : Launch} {e : Env} {s : State} {m : MethodId} {args : Array Value} {below : List Frame} {meth : Method} {c : Code} {Z : XG} {r : Int32} {S' : Mem} (E : XE p s m args meth c cX3_scanWord 4 RX3 none xL Z) : ∀ (n : Nat) (S : Mem), fX3_scanWord_0 n S  = some (r, S') → WN p l e { frames := 5, cells := 0, slots := 0, locals := 108 } s m args below meth c xL Z (XV xL Z S') S 0 4 [(0, .ref (Z.2.1 38))] [] := by
  intro n
  induction n with
  | zero => intro S  h; exact absurd (show (none : O) = some _ from h) (by simp)
  | succ n ih => intro S  h; exact wX3_scanWord_0_b E (fX3_scanWord_0 n) ih S  h
/-- SevenToAShadow$Reader.scanWord()V -/
theorem mX3_scanWord (l : Launch) (Z : XG) (hQ : wQ (List.length xL) Z) {S S' : Mem} {r : Int32} (h : fX3_scanWord S  = some (r, S')) : XM l yX3_scanWord cX3_scanWord 4 none { frames := 5, cells := 0, slots := 0, locals := 108 } xL Z [.ref (Z.2.1 38)] S (XV xL Z S') := by
  refine XM.of (own := RX3) (by decide +kernel) rfl rfl hQ (fun p e s m args below meth c E ls hl X => ?_)
  exact wX3_scanWord_0 E FU S  h _ _ _ X hl
def fX3_scan_149 (S : Mem) (s1 : Int32) : O := ltm (mset S 38 6 s1) fun S_1 => ltm (mset S_1 38 5 ((S_1 38 5) + (1 : Int32))) fun S_2 => some ((0 : Int32), S_2)
def fX3_scan_50 (S : Mem) : O := ltm (mset S 38 7 (S 38 5)) fun S_1 => (if (S_1 38 5) < (S_1 38 1) then bnd (fX3_byteAt S_1 (S_1 38 5)) fun r_3 S_4 => bnd (fX3_isLetter S_4 r_3) fun r_5 S_6 => (if r_5 = 0 then bnd (fX3_byteAt S_6 (S_6 38 5)) fun r_8 S_9 => bnd (fX3_isDigit S_9 r_8) fun r_10 S_11 => (if r_10 = 0 then bnd (fX3_byteAt S_11 (S_11 38 5)) fun r_13 S_14 => bnd (fJ0_indexOf1_s1 S_14 (i2c r_13)) fun r_15 S_16 => (if 0 ≤ r_15 then fX3_scan_149  S_16 ((18 : Int32) + r_15) else fX3_scan_149  S_16 (30 : Int32)) else bnd (fX3_scanNumber S_11 ) fun _ S_19 => some ((0 : Int32), S_19)) else bnd (fX3_scanWord S_6 ) fun _ S_21 => some ((0 : Int32), S_21)) else ltm (mset S_1 38 6 (29 : Int32)) fun S_22 => some ((0 : Int32), S_22))
def fX3_scan_37 (k0 : Mem → O) (S : Mem) : O := ltm (mset S 38 5 ((S 38 5) + (1 : Int32))) fun S_1 => k0 S_1 
def fX3_scan_0_b (k0 : Mem → O) (S : Mem) : O := (if (S 38 1) ≤ (S 38 5) then fX3_scan_50  S  else bnd (fX3_byteAt S (S 38 5)) fun r_2 S_3 => (if r_2 = (32 : Int32) then fX3_scan_37 k0 S_3  else bnd (fX3_byteAt S_3 (S_3 38 5)) fun r_5 S_6 => (if r_5 = (10 : Int32) then fX3_scan_37 k0 S_6  else fX3_scan_50  S_6 )))
def fX3_scan_0 : Nat → Mem → O
  | 0 => fun _ => none
  | n + 1 => fX3_scan_0_b (fX3_scan_0 n)
def fX3_scan (S : Mem) : O := fX3_scan_0 FU S 
theorem dX3_scan_0 : decode cX3_scan 0 = .ok (.aload_n 0, 1) := by decide +kernel
theorem dX3_scan_1 : decode cX3_scan 1 = .ok (.getfield 39, 3) := by decide +kernel
theorem dX3_scan_4 : decode cX3_scan 4 = .ok (.aload_n 0, 1) := by decide +kernel
theorem dX3_scan_5 : decode cX3_scan 5 = .ok (.getfield 30, 3) := by decide +kernel
theorem dX3_scan_8 : decode cX3_scan 8 = .ok (.if_icmp .ge 42, 3) := by decide +kernel
theorem dX3_scan_11 : decode cX3_scan 11 = .ok (.aload_n 0, 1) := by decide +kernel
theorem dX3_scan_12 : decode cX3_scan 12 = .ok (.aload_n 0, 1) := by decide +kernel
theorem dX3_scan_13 : decode cX3_scan 13 = .ok (.getfield 39, 3) := by decide +kernel
theorem dX3_scan_16 : decode cX3_scan 16 = .ok (.invokevirtual 67, 3) := by decide +kernel
theorem dX3_scan_19 : decode cX3_scan 19 = .ok (.bipush 32, 2) := by decide +kernel
theorem dX3_scan_21 : decode cX3_scan 21 = .ok (.if_icmp .eq 16, 3) := by decide +kernel
theorem dX3_scan_24 : decode cX3_scan 24 = .ok (.aload_n 0, 1) := by decide +kernel
theorem dX3_scan_25 : decode cX3_scan 25 = .ok (.aload_n 0, 1) := by decide +kernel
theorem dX3_scan_26 : decode cX3_scan 26 = .ok (.getfield 39, 3) := by decide +kernel
theorem dX3_scan_29 : decode cX3_scan 29 = .ok (.invokevirtual 67, 3) := by decide +kernel
theorem dX3_scan_32 : decode cX3_scan 32 = .ok (.bipush 10, 2) := by decide +kernel
theorem dX3_scan_34 : decode cX3_scan 34 = .ok (.if_icmp .ne 16, 3) := by decide +kernel
theorem dX3_scan_37 : decode cX3_scan 37 = .ok (.aload_n 0, 1) := by decide +kernel
theorem dX3_scan_38 : decode cX3_scan 38 = .ok (.dup, 1) := by decide +kernel
theorem dX3_scan_39 : decode cX3_scan 39 = .ok (.getfield 39, 3) := by decide +kernel
theorem dX3_scan_42 : decode cX3_scan 42 = .ok (.iconst 1, 1) := by decide +kernel
theorem dX3_scan_43 : decode cX3_scan 43 = .ok (.iadd, 1) := by decide +kernel
theorem dX3_scan_44 : decode cX3_scan 44 = .ok (.putfield 39, 3) := by decide +kernel
theorem dX3_scan_47 : decode cX3_scan 47 = .ok (.goto (-47), 3) := by decide +kernel
theorem dX3_scan_50 : decode cX3_scan 50 = .ok (.aload_n 0, 1) := by decide +kernel
theorem dX3_scan_51 : decode cX3_scan 51 = .ok (.aload_n 0, 1) := by decide +kernel
theorem dX3_scan_52 : decode cX3_scan 52 = .ok (.getfield 39, 3) := by decide +kernel
theorem dX3_scan_55 : decode cX3_scan 55 = .ok (.putfield 64, 3) := by decide +kernel
theorem dX3_scan_58 : decode cX3_scan 58 = .ok (.aload_n 0, 1) := by decide +kernel
theorem dX3_scan_59 : decode cX3_scan 59 = .ok (.getfield 39, 3) := by decide +kernel
theorem dX3_scan_62 : decode cX3_scan 62 = .ok (.aload_n 0, 1) := by decide +kernel
theorem dX3_scan_63 : decode cX3_scan 63 = .ok (.getfield 30, 3) := by decide +kernel
theorem dX3_scan_66 : decode cX3_scan 66 = .ok (.if_icmp .lt 12, 3) := by decide +kernel
theorem dX3_scan_69 : decode cX3_scan 69 = .ok (.aload_n 0, 1) := by decide +kernel
theorem dX3_scan_70 : decode cX3_scan 70 = .ok (.bipush 29, 2) := by decide +kernel
theorem dX3_scan_72 : decode cX3_scan 72 = .ok (.putfield 61, 3) := by decide +kernel
theorem dX3_scan_75 : decode cX3_scan 75 = .ok (.goto 87, 3) := by decide +kernel
theorem dX3_scan_78 : decode cX3_scan 78 = .ok (.aload_n 0, 1) := by decide +kernel
theorem dX3_scan_79 : decode cX3_scan 79 = .ok (.aload_n 0, 1) := by decide +kernel
theorem dX3_scan_80 : decode cX3_scan 80 = .ok (.getfield 39, 3) := by decide +kernel
theorem dX3_scan_83 : decode cX3_scan 83 = .ok (.invokevirtual 67, 3) := by decide +kernel
theorem dX3_scan_86 : decode cX3_scan 86 = .ok (.invokestatic 71, 3) := by decide +kernel
theorem dX3_scan_89 : decode cX3_scan 89 = .ok (.ifCond .eq 10, 3) := by decide +kernel
theorem dX3_scan_92 : decode cX3_scan 92 = .ok (.aload_n 0, 1) := by decide +kernel
theorem dX3_scan_93 : decode cX3_scan 93 = .ok (.invokevirtual 75, 3) := by decide +kernel
theorem dX3_scan_96 : decode cX3_scan 96 = .ok (.goto 66, 3) := by decide +kernel
theorem dX3_scan_99 : decode cX3_scan 99 = .ok (.aload_n 0, 1) := by decide +kernel
theorem dX3_scan_100 : decode cX3_scan 100 = .ok (.aload_n 0, 1) := by decide +kernel
theorem dX3_scan_101 : decode cX3_scan 101 = .ok (.getfield 39, 3) := by decide +kernel
theorem dX3_scan_104 : decode cX3_scan 104 = .ok (.invokevirtual 67, 3) := by decide +kernel
theorem dX3_scan_107 : decode cX3_scan 107 = .ok (.invokestatic 78, 3) := by decide +kernel
theorem dX3_scan_110 : decode cX3_scan 110 = .ok (.ifCond .eq 10, 3) := by decide +kernel
theorem dX3_scan_113 : decode cX3_scan 113 = .ok (.aload_n 0, 1) := by decide +kernel
theorem dX3_scan_114 : decode cX3_scan 114 = .ok (.invokevirtual 81, 3) := by decide +kernel
theorem dX3_scan_117 : decode cX3_scan 117 = .ok (.goto 45, 3) := by decide +kernel
theorem dX3_scan_120 : decode cX3_scan 120 = .ok (.ldc 84, 2) := by decide +kernel
theorem dX3_scan_122 : decode cX3_scan 122 = .ok (.aload_n 0, 1) := by decide +kernel
theorem dX3_scan_123 : decode cX3_scan 123 = .ok (.aload_n 0, 1) := by decide +kernel
theorem dX3_scan_124 : decode cX3_scan 124 = .ok (.getfield 39, 3) := by decide +kernel
theorem dX3_scan_127 : decode cX3_scan 127 = .ok (.invokevirtual 67, 3) := by decide +kernel
theorem dX3_scan_130 : decode cX3_scan 130 = .ok (.i2c, 1) := by decide +kernel
theorem dX3_scan_131 : decode cX3_scan 131 = .ok (.invokevirtual 86, 3) := by decide +kernel
theorem dX3_scan_134 : decode cX3_scan 134 = .ok (.istore_n 1, 1) := by decide +kernel
theorem dX3_scan_135 : decode cX3_scan 135 = .ok (.aload_n 0, 1) := by decide +kernel
theorem dX3_scan_136 : decode cX3_scan 136 = .ok (.iload_n 1, 1) := by decide +kernel
theorem dX3_scan_137 : decode cX3_scan 137 = .ok (.ifCond .ge 8, 3) := by decide +kernel
theorem dX3_scan_140 : decode cX3_scan 140 = .ok (.bipush 30, 2) := by decide +kernel
theorem dX3_scan_142 : decode cX3_scan 142 = .ok (.goto 7, 3) := by decide +kernel
theorem dX3_scan_145 : decode cX3_scan 145 = .ok (.bipush 18, 2) := by decide +kernel
theorem dX3_scan_147 : decode cX3_scan 147 = .ok (.iload_n 1, 1) := by decide +kernel
theorem dX3_scan_148 : decode cX3_scan 148 = .ok (.iadd, 1) := by decide +kernel
theorem dX3_scan_149 : decode cX3_scan 149 = .ok (.putfield 61, 3) := by decide +kernel
theorem dX3_scan_152 : decode cX3_scan 152 = .ok (.aload_n 0, 1) := by decide +kernel
theorem dX3_scan_153 : decode cX3_scan 153 = .ok (.dup, 1) := by decide +kernel
theorem dX3_scan_154 : decode cX3_scan 154 = .ok (.getfield 39, 3) := by decide +kernel
theorem dX3_scan_157 : decode cX3_scan 157 = .ok (.iconst 1, 1) := by decide +kernel
theorem dX3_scan_158 : decode cX3_scan 158 = .ok (.iadd, 1) := by decide +kernel
theorem dX3_scan_159 : decode cX3_scan 159 = .ok (.putfield 39, 3) := by decide +kernel
theorem dX3_scan_162 : decode cX3_scan 162 = .ok (.return_, 1) := by decide +kernel
set_option maxRecDepth 20000 in
theorem wX3_scan_149 {p : Program} {l : Launch} {e : Env} {s : State} {m : MethodId} {args : Array Value} {below : List Frame} {meth : Method} {c : Code} {Z : XG} {r : Int32} {S' : Mem} (E : XE p s m args meth c cX3_scan 2 RX3 none xL Z) : ∀ (S : Mem) (s1 : Int32), fX3_scan_149  S s1 = some (r, S') → WN p l e { frames := 6, cells := 0, slots := 0, locals := 131 } s m args below meth c xL Z (XV xL Z S') S 149 2 [(0, .ref (Z.2.1 38))] [.int s1, .ref (Z.2.1 38)] := by
  obtain ⟨hx, hb, -, -, -, -, -, -, -, hQ⟩ := id E
  intro S s1 h H locs ls X hl
  unfold fX3_scan_149 at h
  obtain ⟨S_1, eS_1, h⟩ := ltm_s h
  refine x_put E X fpX3_61 rfl rfl dX3_scan_149 (fun H locs X => ?_)
  rw [← eS_1] at X
  refine lv_aload_n hx hb dX3_scan_152 rfl (lv_at hl 0 rfl) ?_
  refine lv_dup hx hb dX3_scan_153 rfl ?_
  refine x_get E X ffX3_39 rfl rfl dX3_scan_154 ?_
  refine lv_iconst (v := (1 : Int32)) hx hb dX3_scan_157 (by decide) ?_
  refine lv_iadd hx hb dX3_scan_158 ?_
  obtain ⟨S_2, eS_2, h⟩ := ltm_s h
  refine x_put E X fpX3_39 rfl rfl dX3_scan_159 (fun H locs X => ?_)
  rw [← eS_2] at X
  exact x_vret E X h dX3_scan_162
set_option maxRecDepth 20000 in
theorem wX3_scan_50 {p : Program} {l : Launch} {e : Env} {s : State} {m : MethodId} {args : Array Value} {below : List Frame} {meth : Method} {c : Code} {Z : XG} {r : Int32} {S' : Mem} (E : XE p s m args meth c cX3_scan 2 RX3 none xL Z) : ∀ (S : Mem), fX3_scan_50  S  = some (r, S') → WN p l e { frames := 6, cells := 0, slots := 0, locals := 131 } s m args below meth c xL Z (XV xL Z S') S 50 2 [(0, .ref (Z.2.1 38))] [] := by
  obtain ⟨hx, hb, -, -, -, -, -, -, -, hQ⟩ := id E
  intro S  h H locs ls X hl
  unfold fX3_scan_50 at h
  refine lv_aload_n hx hb dX3_scan_50 rfl (lv_at hl 0 rfl) ?_
  refine lv_aload_n hx hb dX3_scan_51 rfl (lv_at hl 0 rfl) ?_
  refine x_get E X ffX3_39 rfl rfl dX3_scan_52 ?_
  obtain ⟨S_1, eS_1, h⟩ := ltm_s h
  refine x_put E X fpX3_64 rfl rfl dX3_scan_55 (fun H locs X => ?_)
  rw [← eS_1] at X
  refine lv_aload_n hx hb dX3_scan_58 rfl (lv_at hl 0 rfl) ?_
  refine x_get E X ffX3_39 rfl rfl dX3_scan_59 ?_
  refine lv_aload_n hx hb dX3_scan_62 rfl (lv_at hl 0 rfl) ?_
  refine x_get E X ffX3_30 rfl rfl dX3_scan_63 ?_
  refine lv_icmp_lt (tgt := 78) hx hb dX3_scan_66 (by decide) (fun c_2 => ?_) (fun c_2 => ?_)
  · have h := if_t c_2 h
    refine lv_aload_n hx hb dX3_scan_78 rfl (lv_at hl 0 rfl) ?_
    refine lv_aload_n hx hb dX3_scan_79 rfl (lv_at hl 0 rfl) ?_
    refine x_get E X ffX3_39 rfl rfl dX3_scan_80 ?_
    obtain ⟨r_3, S_4, hr_3, h⟩ := bnd_s h
    refine x_callV E X cwX3_67 (mX3_byteAt l Z hQ  (S_1 38 5) hr_3) rfl rfl rfl rfl hl.1 rfl dX3_scan_83 (fun H locs X => ?_)
    obtain ⟨r_5, S_6, hr_5, h⟩ := bnd_s h
    refine x_callS E X cwX3_71 (mX3_isLetter l Z hQ  r_3 hr_5) rfl rfl hl.1 rfl dX3_scan_86 (fun H locs X => ?_)
    refine lv_if_eq (tgt := 99) hx hb dX3_scan_89 (by decide) (fun c_7 => ?_) (fun c_7 => ?_)
    · have h := if_t c_7 h
      refine lv_aload_n hx hb dX3_scan_99 rfl (lv_at hl 0 rfl) ?_
      refine lv_aload_n hx hb dX3_scan_100 rfl (lv_at hl 0 rfl) ?_
      refine x_get E X ffX3_39 rfl rfl dX3_scan_101 ?_
      obtain ⟨r_8, S_9, hr_8, h⟩ := bnd_s h
      refine x_callV E X cwX3_67 (mX3_byteAt l Z hQ  (S_6 38 5) hr_8) rfl rfl rfl rfl hl.1 rfl dX3_scan_104 (fun H locs X => ?_)
      obtain ⟨r_10, S_11, hr_10, h⟩ := bnd_s h
      refine x_callS E X cwX3_78 (mX3_isDigit l Z hQ  r_8 hr_10) rfl rfl hl.1 rfl dX3_scan_107 (fun H locs X => ?_)
      refine lv_if_eq (tgt := 120) hx hb dX3_scan_110 (by decide) (fun c_12 => ?_) (fun c_12 => ?_)
      · have h := if_t c_12 h
        refine x_ldS1 E dX3_scan_120 ?_
        refine lv_aload_n hx hb dX3_scan_122 rfl (lv_at hl 0 rfl) ?_
        refine lv_aload_n hx hb dX3_scan_123 rfl (lv_at hl 0 rfl) ?_
        refine x_get E X ffX3_39 rfl rfl dX3_scan_124 ?_
        obtain ⟨r_13, S_14, hr_13, h⟩ := bnd_s h
        refine x_callV E X cwX3_67 (mX3_byteAt l Z hQ  (S_11 38 5) hr_13) rfl rfl rfl rfl hl.1 rfl dX3_scan_127 (fun H locs X => ?_)
        refine lv_i2c (v := (i2c r_13)) hx hb dX3_scan_130 rfl ?_
        obtain ⟨r_15, S_16, hr_15, h⟩ := bnd_s h
        refine x_callVs E X cwX3_86 (mJ0_indexOf1_s1 l Z hQ  (i2c r_13) hr_15) (by decide) rfl rfl hl.1 rfl dX3_scan_131 (fun H locs X => ?_)
        refine lv_istore_n (lv' := [(1, .int r_15), (0, .ref (Z.2.1 38))]) hx hb dX3_scan_134 rfl hl (by decide) rfl (fun ls hl => ?_)
        refine lv_aload_n hx hb dX3_scan_135 rfl (lv_at hl 1 rfl) ?_
        refine lv_iload_n hx hb dX3_scan_136 rfl (lv_at hl 0 rfl) ?_
        refine lv_if_ge (tgt := 145) hx hb dX3_scan_137 (by decide) (fun c_17 => ?_) (fun c_17 => ?_)
        · have h := if_t c_17 h
          refine lv_bipush (v := (18 : Int32)) hx hb dX3_scan_145 (by decide) ?_
          refine lv_iload_n hx hb dX3_scan_147 rfl (lv_at hl 0 rfl) ?_
          refine lv_iadd hx hb dX3_scan_148 ?_
          exact wX3_scan_149 E   S_16 ((18 : Int32) + r_15) h _ _ _ X (lv_sub hl [1] rfl)
        · have h := if_f c_17 h
          refine lv_bipush (v := (30 : Int32)) hx hb dX3_scan_140 (by decide) ?_
          refine lv_goto (tgt := 149) hx hb dX3_scan_142 (by decide) ?_
          exact wX3_scan_149 E   S_16 (30 : Int32) h _ _ _ X (lv_sub hl [1] rfl)
      · have h := if_f c_12 h
        refine lv_aload_n hx hb dX3_scan_113 rfl (lv_at hl 0 rfl) ?_
        obtain ⟨r_18, S_19, hr_18, h⟩ := bnd_s h
        refine x_callVv E X cwX3_81 (mX3_scanNumber l Z hQ   hr_18) rfl rfl rfl rfl hl.1 rfl dX3_scan_114 (fun H locs X => ?_)
        refine lv_goto (tgt := 162) hx hb dX3_scan_117 (by decide) ?_
        exact x_vret E X h dX3_scan_162
    · have h := if_f c_7 h
      refine lv_aload_n hx hb dX3_scan_92 rfl (lv_at hl 0 rfl) ?_
      obtain ⟨r_20, S_21, hr_20, h⟩ := bnd_s h
      refine x_callVv E X cwX3_75 (mX3_scanWord l Z hQ   hr_20) rfl rfl rfl rfl hl.1 rfl dX3_scan_93 (fun H locs X => ?_)
      refine lv_goto (tgt := 162) hx hb dX3_scan_96 (by decide) ?_
      exact x_vret E X h dX3_scan_162
  · have h := if_f c_2 h
    refine lv_aload_n hx hb dX3_scan_69 rfl (lv_at hl 0 rfl) ?_
    refine lv_bipush (v := (29 : Int32)) hx hb dX3_scan_70 (by decide) ?_
    obtain ⟨S_22, eS_22, h⟩ := ltm_s h
    refine x_put E X fpX3_61 rfl rfl dX3_scan_72 (fun H locs X => ?_)
    rw [← eS_22] at X
    refine lv_goto (tgt := 162) hx hb dX3_scan_75 (by decide) ?_
    exact x_vret E X h dX3_scan_162
set_option maxRecDepth 20000 in
theorem wX3_scan_37 {p : Program} {l : Launch} {e : Env} {s : State} {m : MethodId} {args : Array Value} {below : List Frame} {meth : Method} {c : Code} {Z : XG} {r : Int32} {S' : Mem} (E : XE p s m args meth c cX3_scan 2 RX3 none xL Z) (k0 : Mem → O)  (hk0 : ∀ (S : Mem), k0 S  = some (r, S') → WN p l e { frames := 6, cells := 0, slots := 0, locals := 131 } s m args below meth c xL Z (XV xL Z S') S 0 2 [(0, .ref (Z.2.1 38))] []) : ∀ (S : Mem), fX3_scan_37 k0 S  = some (r, S') → WN p l e { frames := 6, cells := 0, slots := 0, locals := 131 } s m args below meth c xL Z (XV xL Z S') S 37 2 [(0, .ref (Z.2.1 38))] [] := by
  obtain ⟨hx, hb, -, -, -, -, -, -, -, hQ⟩ := id E
  intro S  h H locs ls X hl
  unfold fX3_scan_37 at h
  refine lv_aload_n hx hb dX3_scan_37 rfl (lv_at hl 0 rfl) ?_
  refine lv_dup hx hb dX3_scan_38 rfl ?_
  refine x_get E X ffX3_39 rfl rfl dX3_scan_39 ?_
  refine lv_iconst (v := (1 : Int32)) hx hb dX3_scan_42 (by decide) ?_
  refine lv_iadd hx hb dX3_scan_43 ?_
  obtain ⟨S_1, eS_1, h⟩ := ltm_s h
  refine x_put E X fpX3_39 rfl rfl dX3_scan_44 (fun H locs X => ?_)
  rw [← eS_1] at X
  refine lv_goto (tgt := 0) hx hb dX3_scan_47 (by decide) ?_
  exact hk0 S_1  h _ _ _ X hl
set_option maxRecDepth 20000 in
theorem wX3_scan_0_b {p : Program} {l : Launch} {e : Env} {s : State} {m : MethodId} {args : Array Value} {below : List Frame} {meth : Method} {c : Code} {Z : XG} {r : Int32} {S' : Mem} (E : XE p s m args meth c cX3_scan 2 RX3 none xL Z) (k0 : Mem → O)  (hk0 : ∀ (S : Mem), k0 S  = some (r, S') → WN p l e { frames := 6, cells := 0, slots := 0, locals := 131 } s m args below meth c xL Z (XV xL Z S') S 0 2 [(0, .ref (Z.2.1 38))] []) : ∀ (S : Mem), fX3_scan_0_b k0 S  = some (r, S') → WN p l e { frames := 6, cells := 0, slots := 0, locals := 131 } s m args below meth c xL Z (XV xL Z S') S 0 2 [(0, .ref (Z.2.1 38))] [] := by
  obtain ⟨hx, hb, -, -, -, -, -, -, -, hQ⟩ := id E
  intro S  h H locs ls X hl
  unfold fX3_scan_0_b at h
  refine lv_aload_n hx hb dX3_scan_0 rfl (lv_at hl 0 rfl) ?_
  refine x_get E X ffX3_39 rfl rfl dX3_scan_1 ?_
  refine lv_aload_n hx hb dX3_scan_4 rfl (lv_at hl 0 rfl) ?_
  refine x_get E X ffX3_30 rfl rfl dX3_scan_5 ?_
  refine lv_icmp_ge (tgt := 50) hx hb dX3_scan_8 (by decide) (fun c_1 => ?_) (fun c_1 => ?_)
  · have h := if_t c_1 h
    exact wX3_scan_50 E   S  h _ _ _ X hl
  · have h := if_f c_1 h
    refine lv_aload_n hx hb dX3_scan_11 rfl (lv_at hl 0 rfl) ?_
    refine lv_aload_n hx hb dX3_scan_12 rfl (lv_at hl 0 rfl) ?_
    refine x_get E X ffX3_39 rfl rfl dX3_scan_13 ?_
    obtain ⟨r_2, S_3, hr_2, h⟩ := bnd_s h
    refine x_callV E X cwX3_67 (mX3_byteAt l Z hQ  (S 38 5) hr_2) rfl rfl rfl rfl hl.1 rfl dX3_scan_16 (fun H locs X => ?_)
    refine lv_bipush (v := (32 : Int32)) hx hb dX3_scan_19 (by decide) ?_
    refine lv_icmp_eq (tgt := 37) hx hb dX3_scan_21 (by decide) (fun c_4 => ?_) (fun c_4 => ?_)
    · have h := if_t c_4 h
      exact wX3_scan_37 E k0 hk0 S_3  h _ _ _ X hl
    · have h := if_f c_4 h
      refine lv_aload_n hx hb dX3_scan_24 rfl (lv_at hl 0 rfl) ?_
      refine lv_aload_n hx hb dX3_scan_25 rfl (lv_at hl 0 rfl) ?_
      refine x_get E X ffX3_39 rfl rfl dX3_scan_26 ?_
      obtain ⟨r_5, S_6, hr_5, h⟩ := bnd_s h
      refine x_callV E X cwX3_67 (mX3_byteAt l Z hQ  (S_3 38 5) hr_5) rfl rfl rfl rfl hl.1 rfl dX3_scan_29 (fun H locs X => ?_)
      refine lv_bipush (v := (10 : Int32)) hx hb dX3_scan_32 (by decide) ?_
      refine lv_icmp_ne (tgt := 50) hx hb dX3_scan_34 (by decide) (fun c_7 => ?_) (fun c_7 => ?_)
      · have h := if_f c_7 h
        exact wX3_scan_50 E   S_6  h _ _ _ X hl
      · have h := if_t c_7 h
        exact wX3_scan_37 E k0 hk0 S_6  h _ _ _ X hl
theorem wX3_scan_0 {p : Program} {l : Launch} {e : Env} {s : State} {m : MethodId} {args : Array Value} {below : List Frame} {meth : Method} {c : Code} {Z : XG} {r : Int32} {S' : Mem} (E : XE p s m args meth c cX3_scan 2 RX3 none xL Z) : ∀ (n : Nat) (S : Mem), fX3_scan_0 n S  = some (r, S') → WN p l e { frames := 6, cells := 0, slots := 0, locals := 131 } s m args below meth c xL Z (XV xL Z S') S 0 2 [(0, .ref (Z.2.1 38))] [] := by
  intro n
  induction n with
  | zero => intro S  h; exact absurd (show (none : O) = some _ from h) (by simp)
  | succ n ih => intro S  h; exact wX3_scan_0_b E (fX3_scan_0 n) ih S  h
/-- SevenToAShadow$Reader.scan()V -/
theorem mX3_scan (l : Launch) (Z : XG) (hQ : wQ (List.length xL) Z) {S S' : Mem} {r : Int32} (h : fX3_scan S  = some (r, S')) : XM l yX3_scan cX3_scan 2 none { frames := 6, cells := 0, slots := 0, locals := 131 } xL Z [.ref (Z.2.1 38)] S (XV xL Z S') := by
  refine XM.of (own := RX3) (by decide +kernel) rfl rfl hQ (fun p e s m args below meth c E ls hl X => ?_)
  exact wX3_scan_0 E FU S  h _ _ _ X hl
def fX3_takeLine (S : Mem) : O := (if (S 38 6) = (29 : Int32) then some ((0 : Int32), S) else (if (S 38 6) ≤ (3 : Int32) then (if (S 40 4) < (16 : Int32) then ltm (mset S 38 10 (S 38 6)) fun S_4 => ltm (mset S_4 38 9 (1 : Int32)) fun S_5 => some ((0 : Int32), S_5) else some ((3 : Int32), S)) else some ((1 : Int32), S)))
theorem dX3_takeLine_0 : decode cX3_takeLine 0 = .ok (.aload_n 0, 1) := by decide +kernel
theorem dX3_takeLine_1 : decode cX3_takeLine 1 = .ok (.getfield 61, 3) := by decide +kernel
theorem dX3_takeLine_4 : decode cX3_takeLine 4 = .ok (.bipush 29, 2) := by decide +kernel
theorem dX3_takeLine_6 : decode cX3_takeLine 6 = .ok (.if_icmp .ne 5, 3) := by decide +kernel
theorem dX3_takeLine_9 : decode cX3_takeLine 9 = .ok (.iconst 0, 1) := by decide +kernel
theorem dX3_takeLine_10 : decode cX3_takeLine 10 = .ok (.ireturn, 1) := by decide +kernel
theorem dX3_takeLine_11 : decode cX3_takeLine 11 = .ok (.aload_n 0, 1) := by decide +kernel
theorem dX3_takeLine_12 : decode cX3_takeLine 12 = .ok (.getfield 61, 3) := by decide +kernel
theorem dX3_takeLine_15 : decode cX3_takeLine 15 = .ok (.iconst 3, 1) := by decide +kernel
theorem dX3_takeLine_16 : decode cX3_takeLine 16 = .ok (.if_icmp .le 5, 3) := by decide +kernel
theorem dX3_takeLine_19 : decode cX3_takeLine 19 = .ok (.iconst 1, 1) := by decide +kernel
theorem dX3_takeLine_20 : decode cX3_takeLine 20 = .ok (.ireturn, 1) := by decide +kernel
theorem dX3_takeLine_21 : decode cX3_takeLine 21 = .ok (.aload_n 0, 1) := by decide +kernel
theorem dX3_takeLine_22 : decode cX3_takeLine 22 = .ok (.getfield 22, 3) := by decide +kernel
theorem dX3_takeLine_25 : decode cX3_takeLine 25 = .ok (.getfield 127, 3) := by decide +kernel
theorem dX3_takeLine_28 : decode cX3_takeLine 28 = .ok (.bipush 16, 2) := by decide +kernel
theorem dX3_takeLine_30 : decode cX3_takeLine 30 = .ok (.if_icmp .lt 5, 3) := by decide +kernel
theorem dX3_takeLine_33 : decode cX3_takeLine 33 = .ok (.iconst 3, 1) := by decide +kernel
theorem dX3_takeLine_34 : decode cX3_takeLine 34 = .ok (.ireturn, 1) := by decide +kernel
theorem dX3_takeLine_35 : decode cX3_takeLine 35 = .ok (.aload_n 0, 1) := by decide +kernel
theorem dX3_takeLine_36 : decode cX3_takeLine 36 = .ok (.aload_n 0, 1) := by decide +kernel
theorem dX3_takeLine_37 : decode cX3_takeLine 37 = .ok (.getfield 61, 3) := by decide +kernel
theorem dX3_takeLine_40 : decode cX3_takeLine 40 = .ok (.putfield 130, 3) := by decide +kernel
theorem dX3_takeLine_43 : decode cX3_takeLine 43 = .ok (.aload_n 0, 1) := by decide +kernel
theorem dX3_takeLine_44 : decode cX3_takeLine 44 = .ok (.iconst 1, 1) := by decide +kernel
theorem dX3_takeLine_45 : decode cX3_takeLine 45 = .ok (.putfield 42, 3) := by decide +kernel
theorem dX3_takeLine_48 : decode cX3_takeLine 48 = .ok (.iconst 0, 1) := by decide +kernel
theorem dX3_takeLine_49 : decode cX3_takeLine 49 = .ok (.ireturn, 1) := by decide +kernel
set_option maxRecDepth 20000 in
theorem wX3_takeLine {p : Program} {l : Launch} {e : Env} {s : State} {m : MethodId} {args : Array Value} {below : List Frame} {meth : Method} {c : Code} {Z : XG} {r : Int32} {S' : Mem} (E : XE p s m args meth c cX3_takeLine 1 RX3 (some .int) xL Z) : ∀ (S : Mem), fX3_takeLine  S  = some (r, S') → WN p l e { frames := 0, cells := 0, slots := 0, locals := 0 } s m args below meth c xL Z (XQ xL Z r S') S 0 1 [(0, .ref (Z.2.1 38))] [] := by
  obtain ⟨hx, hb, -, -, -, -, -, -, -, hQ⟩ := id E
  intro S  h H locs ls X hl
  unfold fX3_takeLine at h
  refine lv_aload_n hx hb dX3_takeLine_0 rfl (lv_at hl 0 rfl) ?_
  refine x_get E X ffX3_61 rfl rfl dX3_takeLine_1 ?_
  refine lv_bipush (v := (29 : Int32)) hx hb dX3_takeLine_4 (by decide) ?_
  refine lv_icmp_ne (tgt := 11) hx hb dX3_takeLine_6 (by decide) (fun c_1 => ?_) (fun c_1 => ?_)
  · have h := if_f c_1 h
    refine lv_aload_n hx hb dX3_takeLine_11 rfl (lv_at hl 0 rfl) ?_
    refine x_get E X ffX3_61 rfl rfl dX3_takeLine_12 ?_
    refine lv_iconst (v := (3 : Int32)) hx hb dX3_takeLine_15 (by decide) ?_
    refine lv_icmp_le (tgt := 21) hx hb dX3_takeLine_16 (by decide) (fun c_2 => ?_) (fun c_2 => ?_)
    · have h := if_t c_2 h
      refine lv_aload_n hx hb dX3_takeLine_21 rfl (lv_at hl 0 rfl) ?_
      refine x_getr E X ffX3_22 rfl rfl dX3_takeLine_22 ?_
      refine x_get E X ffX3_127 rfl rfl dX3_takeLine_25 ?_
      refine lv_bipush (v := (16 : Int32)) hx hb dX3_takeLine_28 (by decide) ?_
      refine lv_icmp_lt (tgt := 35) hx hb dX3_takeLine_30 (by decide) (fun c_3 => ?_) (fun c_3 => ?_)
      · have h := if_t c_3 h
        refine lv_aload_n hx hb dX3_takeLine_35 rfl (lv_at hl 0 rfl) ?_
        refine lv_aload_n hx hb dX3_takeLine_36 rfl (lv_at hl 0 rfl) ?_
        refine x_get E X ffX3_61 rfl rfl dX3_takeLine_37 ?_
        obtain ⟨S_4, eS_4, h⟩ := ltm_s h
        refine x_put E X fpX3_130 rfl rfl dX3_takeLine_40 (fun H locs X => ?_)
        rw [← eS_4] at X
        refine lv_aload_n hx hb dX3_takeLine_43 rfl (lv_at hl 0 rfl) ?_
        refine lv_iconst (v := (1 : Int32)) hx hb dX3_takeLine_44 (by decide) ?_
        obtain ⟨S_5, eS_5, h⟩ := ltm_s h
        refine x_put E X fpX3_42 rfl rfl dX3_takeLine_45 (fun H locs X => ?_)
        rw [← eS_5] at X
        refine lv_iconst (v := (0 : Int32)) hx hb dX3_takeLine_48 (by decide) ?_
        exact x_iret E X h dX3_takeLine_49
      · have h := if_f c_3 h
        refine lv_iconst (v := (3 : Int32)) hx hb dX3_takeLine_33 (by decide) ?_
        exact x_iret E X h dX3_takeLine_34
    · have h := if_f c_2 h
      refine lv_iconst (v := (1 : Int32)) hx hb dX3_takeLine_19 (by decide) ?_
      exact x_iret E X h dX3_takeLine_20
  · have h := if_t c_1 h
    refine lv_iconst (v := (0 : Int32)) hx hb dX3_takeLine_9 (by decide) ?_
    exact x_iret E X h dX3_takeLine_10
/-- SevenToAShadow$Reader.takeLine()I -/
theorem mX3_takeLine (l : Launch) (Z : XG) (hQ : wQ (List.length xL) Z) {S S' : Mem} {r : Int32} (h : fX3_takeLine S  = some (r, S')) : XM l yX3_takeLine cX3_takeLine 1 (some .int) { frames := 0, cells := 0, slots := 0, locals := 0 } xL Z [.ref (Z.2.1 38)] S (XQ xL Z r S') := by
  refine XM.of (own := RX3) (by decide +kernel) rfl rfl hQ (fun p e s m args below meth c E ls hl X => ?_)
  exact wX3_takeLine E S  h _ _ _ X hl
def fX4_addLine_40 (S : Mem) (x1 : Int32) : O := (if (16 : Int32) ≤ (S 40 4) then some ((0 : Int32), S) else gd (inB (S 40 4) 16) <| ltm (mset S 41 ((S 40 4)).toNatClampNeg x1) fun S_3 => gd (inB (S_3 40 4) 16) <| ltm (mset S_3 42 ((S_3 40 4)).toNatClampNeg (S_3 40 5)) fun S_5 => ltm (mset S_5 40 4 ((S_5 40 4) + (1 : Int32))) fun S_6 => some ((0 : Int32), S_6))
theorem dX4_addLine_0 : decode cX4_addLine 0 = .ok (.aload_n 0, 1) := by decide +kernel
theorem dX4_addLine_1 : decode cX4_addLine 1 = .ok (.getfield 24, 3) := by decide +kernel
theorem dX4_addLine_4 : decode cX4_addLine 4 = .ok (.bipush 16, 2) := by decide +kernel
theorem dX4_addLine_6 : decode cX4_addLine 6 = .ok (.if_icmp .ge 36, 3) := by decide +kernel
theorem dX4_addLine_9 : decode cX4_addLine 9 = .ok (.aload_n 0, 1) := by decide +kernel
theorem dX4_addLine_10 : decode cX4_addLine 10 = .ok (.getfield 9, 3) := by decide +kernel
theorem dX4_addLine_13 : decode cX4_addLine 13 = .ok (.aload_n 0, 1) := by decide +kernel
theorem dX4_addLine_14 : decode cX4_addLine 14 = .ok (.getfield 24, 3) := by decide +kernel
theorem dX4_addLine_17 : decode cX4_addLine 17 = .ok (.iload_n 1, 1) := by decide +kernel
theorem dX4_addLine_18 : decode cX4_addLine 18 = .ok (.iastore, 1) := by decide +kernel
theorem dX4_addLine_19 : decode cX4_addLine 19 = .ok (.aload_n 0, 1) := by decide +kernel
theorem dX4_addLine_20 : decode cX4_addLine 20 = .ok (.getfield 15, 3) := by decide +kernel
theorem dX4_addLine_23 : decode cX4_addLine 23 = .ok (.aload_n 0, 1) := by decide +kernel
theorem dX4_addLine_24 : decode cX4_addLine 24 = .ok (.getfield 24, 3) := by decide +kernel
theorem dX4_addLine_27 : decode cX4_addLine 27 = .ok (.aload_n 0, 1) := by decide +kernel
theorem dX4_addLine_28 : decode cX4_addLine 28 = .ok (.getfield 28, 3) := by decide +kernel
theorem dX4_addLine_31 : decode cX4_addLine 31 = .ok (.iastore, 1) := by decide +kernel
theorem dX4_addLine_32 : decode cX4_addLine 32 = .ok (.aload_n 0, 1) := by decide +kernel
theorem dX4_addLine_33 : decode cX4_addLine 33 = .ok (.dup, 1) := by decide +kernel
theorem dX4_addLine_34 : decode cX4_addLine 34 = .ok (.getfield 24, 3) := by decide +kernel
theorem dX4_addLine_37 : decode cX4_addLine 37 = .ok (.iconst 1, 1) := by decide +kernel
theorem dX4_addLine_38 : decode cX4_addLine 38 = .ok (.iadd, 1) := by decide +kernel
theorem dX4_addLine_39 : decode cX4_addLine 39 = .ok (.putfield 24, 3) := by decide +kernel
theorem dX4_addLine_42 : decode cX4_addLine 42 = .ok (.return_, 1) := by decide +kernel
set_option maxRecDepth 20000 in
theorem wX4_addLine_40 {p : Program} {l : Launch} {e : Env} {s : State} {m : MethodId} {args : Array Value} {below : List Frame} {meth : Method} {c : Code} {Z : XG} {r : Int32} {S' : Mem} (E : XE p s m args meth c cX4_addLine 2 RX4 none xL Z) : ∀ (S : Mem) (x1 : Int32), fX4_addLine_40  S x1 = some (r, S') → WN p l e { frames := 0, cells := 0, slots := 0, locals := 0 } s m args below meth c xL Z (XV xL Z S') S 0 2 [(0, .ref (Z.2.1 40)), (1, .int x1)] [] := by
  obtain ⟨hx, hb, -, -, -, -, -, -, -, hQ⟩ := id E
  intro S x1 h H locs ls X hl
  unfold fX4_addLine_40 at h
  refine lv_aload_n hx hb dX4_addLine_0 rfl (lv_at hl 0 rfl) ?_
  refine x_get E X ffX4_24 rfl rfl dX4_addLine_1 ?_
  refine lv_bipush (v := (16 : Int32)) hx hb dX4_addLine_4 (by decide) ?_
  refine lv_icmp_ge (tgt := 42) hx hb dX4_addLine_6 (by decide) (fun c_1 => ?_) (fun c_1 => ?_)
  · have h := if_t c_1 h
    exact x_vret E X h dX4_addLine_42
  · have h := if_f c_1 h
    refine lv_aload_n hx hb dX4_addLine_9 rfl (lv_at hl 0 rfl) ?_
    refine x_getr E X ffX4_9 rfl rfl dX4_addLine_10 ?_
    refine lv_aload_n hx hb dX4_addLine_13 rfl (lv_at hl 0 rfl) ?_
    refine x_get E X ffX4_24 rfl rfl dX4_addLine_14 ?_
    refine lv_iload_n hx hb dX4_addLine_17 rfl (lv_at hl 1 rfl) ?_
    obtain ⟨g_2, h⟩ := gd_s h
    obtain ⟨S_3, eS_3, h⟩ := ltm_s h
    refine x_iast E X rfl g_2 dX4_addLine_18 (fun H locs X => ?_)
    rw [← eS_3] at X
    refine lv_aload_n hx hb dX4_addLine_19 rfl (lv_at hl 0 rfl) ?_
    refine x_getr E X ffX4_15 rfl rfl dX4_addLine_20 ?_
    refine lv_aload_n hx hb dX4_addLine_23 rfl (lv_at hl 0 rfl) ?_
    refine x_get E X ffX4_24 rfl rfl dX4_addLine_24 ?_
    refine lv_aload_n hx hb dX4_addLine_27 rfl (lv_at hl 0 rfl) ?_
    refine x_get E X ffX4_28 rfl rfl dX4_addLine_28 ?_
    obtain ⟨g_4, h⟩ := gd_s h
    obtain ⟨S_5, eS_5, h⟩ := ltm_s h
    refine x_iast E X rfl g_4 dX4_addLine_31 (fun H locs X => ?_)
    rw [← eS_5] at X
    refine lv_aload_n hx hb dX4_addLine_32 rfl (lv_at hl 0 rfl) ?_
    refine lv_dup hx hb dX4_addLine_33 rfl ?_
    refine x_get E X ffX4_24 rfl rfl dX4_addLine_34 ?_
    refine lv_iconst (v := (1 : Int32)) hx hb dX4_addLine_37 (by decide) ?_
    refine lv_iadd hx hb dX4_addLine_38 ?_
    obtain ⟨S_6, eS_6, h⟩ := ltm_s h
    refine x_put E X fpX4_24 rfl rfl dX4_addLine_39 (fun H locs X => ?_)
    rw [← eS_6] at X
    exact x_vret E X h dX4_addLine_42
/-- SevenToAShadow$Rules.addLine(I)V -/
theorem mX4_addLine_40 (l : Launch) (Z : XG) (hQ : wQ (List.length xL) Z) {S S' : Mem} {r : Int32} (x1 : Int32) (h : fX4_addLine_40 S x1 = some (r, S')) : XM l yX4_addLine cX4_addLine 2 none { frames := 0, cells := 0, slots := 0, locals := 0 } xL Z [.ref (Z.2.1 40), .int x1] S (XV xL Z S') := by
  refine XM.of (own := RX4) (by decide +kernel) rfl rfl hQ (fun p e s m args below meth c E ls hl X => ?_)
  exact wX4_addLine_40 E S x1 h _ _ _ X hl
def fX3_closeLine (S : Mem) : O := bnd (fX4_addLine_40 S (S 38 10)) fun _ S_2 => ltm (mset S_2 38 9 (0 : Int32)) fun S_3 => some ((0 : Int32), S_3)
theorem dX3_closeLine_0 : decode cX3_closeLine 0 = .ok (.aload_n 0, 1) := by decide +kernel
theorem dX3_closeLine_1 : decode cX3_closeLine 1 = .ok (.getfield 22, 3) := by decide +kernel
theorem dX3_closeLine_4 : decode cX3_closeLine 4 = .ok (.aload_n 0, 1) := by decide +kernel
theorem dX3_closeLine_5 : decode cX3_closeLine 5 = .ok (.getfield 130, 3) := by decide +kernel
theorem dX3_closeLine_8 : decode cX3_closeLine 8 = .ok (.invokevirtual 140, 3) := by decide +kernel
theorem dX3_closeLine_11 : decode cX3_closeLine 11 = .ok (.aload_n 0, 1) := by decide +kernel
theorem dX3_closeLine_12 : decode cX3_closeLine 12 = .ok (.iconst 0, 1) := by decide +kernel
theorem dX3_closeLine_13 : decode cX3_closeLine 13 = .ok (.putfield 42, 3) := by decide +kernel
theorem dX3_closeLine_16 : decode cX3_closeLine 16 = .ok (.return_, 1) := by decide +kernel
set_option maxRecDepth 20000 in
theorem wX3_closeLine {p : Program} {l : Launch} {e : Env} {s : State} {m : MethodId} {args : Array Value} {below : List Frame} {meth : Method} {c : Code} {Z : XG} {r : Int32} {S' : Mem} (E : XE p s m args meth c cX3_closeLine 1 RX3 none xL Z) : ∀ (S : Mem), fX3_closeLine  S  = some (r, S') → WN p l e { frames := 1, cells := 0, slots := 0, locals := 21 } s m args below meth c xL Z (XV xL Z S') S 0 1 [(0, .ref (Z.2.1 38))] [] := by
  obtain ⟨hx, hb, -, -, -, -, -, -, -, hQ⟩ := id E
  intro S  h H locs ls X hl
  unfold fX3_closeLine at h
  refine lv_aload_n hx hb dX3_closeLine_0 rfl (lv_at hl 0 rfl) ?_
  refine x_getr E X ffX3_22 rfl rfl dX3_closeLine_1 ?_
  refine lv_aload_n hx hb dX3_closeLine_4 rfl (lv_at hl 0 rfl) ?_
  refine x_get E X ffX3_130 rfl rfl dX3_closeLine_5 ?_
  obtain ⟨r_1, S_2, hr_1, h⟩ := bnd_s h
  refine x_callVv E X cwX3_140 (mX4_addLine_40 l Z hQ  (S 38 10) hr_1) rfl rfl rfl rfl hl.1 rfl dX3_closeLine_8 (fun H locs X => ?_)
  refine lv_aload_n hx hb dX3_closeLine_11 rfl (lv_at hl 0 rfl) ?_
  refine lv_iconst (v := (0 : Int32)) hx hb dX3_closeLine_12 (by decide) ?_
  obtain ⟨S_3, eS_3, h⟩ := ltm_s h
  refine x_put E X fpX3_42 rfl rfl dX3_closeLine_13 (fun H locs X => ?_)
  rw [← eS_3] at X
  exact x_vret E X h dX3_closeLine_16
/-- SevenToAShadow$Reader.closeLine()V -/
theorem mX3_closeLine (l : Launch) (Z : XG) (hQ : wQ (List.length xL) Z) {S S' : Mem} {r : Int32} (h : fX3_closeLine S  = some (r, S')) : XM l yX3_closeLine cX3_closeLine 1 none { frames := 1, cells := 0, slots := 0, locals := 21 } xL Z [.ref (Z.2.1 38)] S (XV xL Z S') := by
  refine XM.of (own := RX3) (by decide +kernel) rfl rfl hQ (fun p e s m args below meth c E ls hl X => ?_)
  exact wX3_closeLine E S  h _ _ _ X hl
def fX3_takeLineRest (S : Mem) : O := (if (S 38 6) = (4 : Int32) then ltm (mset S 38 9 (2 : Int32)) fun S_5 => ltm (mset S_5 38 11 (0 : Int32)) fun S_6 => some ((0 : Int32), S_6) else (if (S 38 6) = (18 : Int32) then bnd (fX3_closeLine S ) fun _ S_4 => some ((0 : Int32), S_4) else some ((1 : Int32), S)))
theorem dX3_takeLineRest_0 : decode cX3_takeLineRest 0 = .ok (.aload_n 0, 1) := by decide +kernel
theorem dX3_takeLineRest_1 : decode cX3_takeLineRest 1 = .ok (.getfield 61, 3) := by decide +kernel
theorem dX3_takeLineRest_4 : decode cX3_takeLineRest 4 = .ok (.iconst 4, 1) := by decide +kernel
theorem dX3_takeLineRest_5 : decode cX3_takeLineRest 5 = .ok (.if_icmp .ne 15, 3) := by decide +kernel
theorem dX3_takeLineRest_8 : decode cX3_takeLineRest 8 = .ok (.aload_n 0, 1) := by decide +kernel
theorem dX3_takeLineRest_9 : decode cX3_takeLineRest 9 = .ok (.iconst 2, 1) := by decide +kernel
theorem dX3_takeLineRest_10 : decode cX3_takeLineRest 10 = .ok (.putfield 42, 3) := by decide +kernel
theorem dX3_takeLineRest_13 : decode cX3_takeLineRest 13 = .ok (.aload_n 0, 1) := by decide +kernel
theorem dX3_takeLineRest_14 : decode cX3_takeLineRest 14 = .ok (.iconst 0, 1) := by decide +kernel
theorem dX3_takeLineRest_15 : decode cX3_takeLineRest 15 = .ok (.putfield 133, 3) := by decide +kernel
theorem dX3_takeLineRest_18 : decode cX3_takeLineRest 18 = .ok (.iconst 0, 1) := by decide +kernel
theorem dX3_takeLineRest_19 : decode cX3_takeLineRest 19 = .ok (.ireturn, 1) := by decide +kernel
theorem dX3_takeLineRest_20 : decode cX3_takeLineRest 20 = .ok (.aload_n 0, 1) := by decide +kernel
theorem dX3_takeLineRest_21 : decode cX3_takeLineRest 21 = .ok (.getfield 61, 3) := by decide +kernel
theorem dX3_takeLineRest_24 : decode cX3_takeLineRest 24 = .ok (.bipush 18, 2) := by decide +kernel
theorem dX3_takeLineRest_26 : decode cX3_takeLineRest 26 = .ok (.if_icmp .eq 5, 3) := by decide +kernel
theorem dX3_takeLineRest_29 : decode cX3_takeLineRest 29 = .ok (.iconst 1, 1) := by decide +kernel
theorem dX3_takeLineRest_30 : decode cX3_takeLineRest 30 = .ok (.ireturn, 1) := by decide +kernel
theorem dX3_takeLineRest_31 : decode cX3_takeLineRest 31 = .ok (.aload_n 0, 1) := by decide +kernel
theorem dX3_takeLineRest_32 : decode cX3_takeLineRest 32 = .ok (.invokevirtual 137, 3) := by decide +kernel
theorem dX3_takeLineRest_35 : decode cX3_takeLineRest 35 = .ok (.iconst 0, 1) := by decide +kernel
theorem dX3_takeLineRest_36 : decode cX3_takeLineRest 36 = .ok (.ireturn, 1) := by decide +kernel
set_option maxRecDepth 20000 in
theorem wX3_takeLineRest {p : Program} {l : Launch} {e : Env} {s : State} {m : MethodId} {args : Array Value} {below : List Frame} {meth : Method} {c : Code} {Z : XG} {r : Int32} {S' : Mem} (E : XE p s m args meth c cX3_takeLineRest 1 RX3 (some .int) xL Z) : ∀ (S : Mem), fX3_takeLineRest  S  = some (r, S') → WN p l e { frames := 2, cells := 0, slots := 0, locals := 41 } s m args below meth c xL Z (XQ xL Z r S') S 0 1 [(0, .ref (Z.2.1 38))] [] := by
  obtain ⟨hx, hb, -, -, -, -, -, -, -, hQ⟩ := id E
  intro S  h H locs ls X hl
  unfold fX3_takeLineRest at h
  refine lv_aload_n hx hb dX3_takeLineRest_0 rfl (lv_at hl 0 rfl) ?_
  refine x_get E X ffX3_61 rfl rfl dX3_takeLineRest_1 ?_
  refine lv_iconst (v := (4 : Int32)) hx hb dX3_takeLineRest_4 (by decide) ?_
  refine lv_icmp_ne (tgt := 20) hx hb dX3_takeLineRest_5 (by decide) (fun c_1 => ?_) (fun c_1 => ?_)
  · have h := if_f c_1 h
    refine lv_aload_n hx hb dX3_takeLineRest_20 rfl (lv_at hl 0 rfl) ?_
    refine x_get E X ffX3_61 rfl rfl dX3_takeLineRest_21 ?_
    refine lv_bipush (v := (18 : Int32)) hx hb dX3_takeLineRest_24 (by decide) ?_
    refine lv_icmp_eq (tgt := 31) hx hb dX3_takeLineRest_26 (by decide) (fun c_2 => ?_) (fun c_2 => ?_)
    · have h := if_t c_2 h
      refine lv_aload_n hx hb dX3_takeLineRest_31 rfl (lv_at hl 0 rfl) ?_
      obtain ⟨r_3, S_4, hr_3, h⟩ := bnd_s h
      refine x_callVv E X cwX3_137 (mX3_closeLine l Z hQ   hr_3) rfl rfl rfl rfl hl.1 rfl dX3_takeLineRest_32 (fun H locs X => ?_)
      refine lv_iconst (v := (0 : Int32)) hx hb dX3_takeLineRest_35 (by decide) ?_
      exact x_iret E X h dX3_takeLineRest_36
    · have h := if_f c_2 h
      refine lv_iconst (v := (1 : Int32)) hx hb dX3_takeLineRest_29 (by decide) ?_
      exact x_iret E X h dX3_takeLineRest_30
  · have h := if_t c_1 h
    refine lv_aload_n hx hb dX3_takeLineRest_8 rfl (lv_at hl 0 rfl) ?_
    refine lv_iconst (v := (2 : Int32)) hx hb dX3_takeLineRest_9 (by decide) ?_
    obtain ⟨S_5, eS_5, h⟩ := ltm_s h
    refine x_put E X fpX3_42 rfl rfl dX3_takeLineRest_10 (fun H locs X => ?_)
    rw [← eS_5] at X
    refine lv_aload_n hx hb dX3_takeLineRest_13 rfl (lv_at hl 0 rfl) ?_
    refine lv_iconst (v := (0 : Int32)) hx hb dX3_takeLineRest_14 (by decide) ?_
    obtain ⟨S_6, eS_6, h⟩ := ltm_s h
    refine x_putB E X fpX3_133 rfl rfl rfl dX3_takeLineRest_15 (fun H locs X => ?_)
    rw [← eS_6] at X
    refine lv_iconst (v := (0 : Int32)) hx hb dX3_takeLineRest_18 (by decide) ?_
    exact x_iret E X h dX3_takeLineRest_19
/-- SevenToAShadow$Reader.takeLineRest()I -/
theorem mX3_takeLineRest (l : Launch) (Z : XG) (hQ : wQ (List.length xL) Z) {S S' : Mem} {r : Int32} (h : fX3_takeLineRest S  = some (r, S')) : XM l yX3_takeLineRest cX3_takeLineRest 1 (some .int) { frames := 2, cells := 0, slots := 0, locals := 41 } xL Z [.ref (Z.2.1 38)] S (XQ xL Z r S') := by
  refine XM.of (own := RX3) (by decide +kernel) rfl rfl hQ (fun p e s m args below meth c E ls hl X => ?_)
  exact wX3_takeLineRest E S  h _ _ _ X hl
def fX4_addCode_40 (S : Mem) (x1 : Int32) : O := (if (400 : Int32) ≤ (S 40 5) then some ((0 : Int32), S) else gd (inB (S 40 5) 400) <| ltm (mset S 43 ((S 40 5)).toNatClampNeg x1) fun S_3 => ltm (mset S_3 40 5 ((S_3 40 5) + (1 : Int32))) fun S_4 => some ((0 : Int32), S_4))
theorem dX4_addCode_0 : decode cX4_addCode 0 = .ok (.aload_n 0, 1) := by decide +kernel
theorem dX4_addCode_1 : decode cX4_addCode 1 = .ok (.getfield 28, 3) := by decide +kernel
theorem dX4_addCode_4 : decode cX4_addCode 4 = .ok (.aload_n 0, 1) := by decide +kernel
theorem dX4_addCode_5 : decode cX4_addCode 5 = .ok (.getfield 18, 3) := by decide +kernel
theorem dX4_addCode_8 : decode cX4_addCode 8 = .ok (.arraylength, 1) := by decide +kernel
theorem dX4_addCode_9 : decode cX4_addCode 9 = .ok (.if_icmp .ge 23, 3) := by decide +kernel
theorem dX4_addCode_12 : decode cX4_addCode 12 = .ok (.aload_n 0, 1) := by decide +kernel
theorem dX4_addCode_13 : decode cX4_addCode 13 = .ok (.getfield 18, 3) := by decide +kernel
theorem dX4_addCode_16 : decode cX4_addCode 16 = .ok (.aload_n 0, 1) := by decide +kernel
theorem dX4_addCode_17 : decode cX4_addCode 17 = .ok (.getfield 28, 3) := by decide +kernel
theorem dX4_addCode_20 : decode cX4_addCode 20 = .ok (.iload_n 1, 1) := by decide +kernel
theorem dX4_addCode_21 : decode cX4_addCode 21 = .ok (.iastore, 1) := by decide +kernel
theorem dX4_addCode_22 : decode cX4_addCode 22 = .ok (.aload_n 0, 1) := by decide +kernel
theorem dX4_addCode_23 : decode cX4_addCode 23 = .ok (.dup, 1) := by decide +kernel
theorem dX4_addCode_24 : decode cX4_addCode 24 = .ok (.getfield 28, 3) := by decide +kernel
theorem dX4_addCode_27 : decode cX4_addCode 27 = .ok (.iconst 1, 1) := by decide +kernel
theorem dX4_addCode_28 : decode cX4_addCode 28 = .ok (.iadd, 1) := by decide +kernel
theorem dX4_addCode_29 : decode cX4_addCode 29 = .ok (.putfield 28, 3) := by decide +kernel
theorem dX4_addCode_32 : decode cX4_addCode 32 = .ok (.return_, 1) := by decide +kernel
set_option maxRecDepth 20000 in
theorem wX4_addCode_40 {p : Program} {l : Launch} {e : Env} {s : State} {m : MethodId} {args : Array Value} {below : List Frame} {meth : Method} {c : Code} {Z : XG} {r : Int32} {S' : Mem} (E : XE p s m args meth c cX4_addCode 2 RX4 none xL Z) : ∀ (S : Mem) (x1 : Int32), fX4_addCode_40  S x1 = some (r, S') → WN p l e { frames := 0, cells := 0, slots := 0, locals := 0 } s m args below meth c xL Z (XV xL Z S') S 0 2 [(0, .ref (Z.2.1 40)), (1, .int x1)] [] := by
  obtain ⟨hx, hb, -, -, -, -, -, -, -, hQ⟩ := id E
  intro S x1 h H locs ls X hl
  unfold fX4_addCode_40 at h
  refine lv_aload_n hx hb dX4_addCode_0 rfl (lv_at hl 0 rfl) ?_
  refine x_get E X ffX4_28 rfl rfl dX4_addCode_1 ?_
  refine lv_aload_n hx hb dX4_addCode_4 rfl (lv_at hl 0 rfl) ?_
  refine x_getr E X ffX4_18 rfl rfl dX4_addCode_5 ?_
  refine x_alen E X (v := (400 : Int32)) rfl (by decide) dX4_addCode_8 ?_
  refine lv_icmp_ge (tgt := 32) hx hb dX4_addCode_9 (by decide) (fun c_1 => ?_) (fun c_1 => ?_)
  · have h := if_t c_1 h
    exact x_vret E X h dX4_addCode_32
  · have h := if_f c_1 h
    refine lv_aload_n hx hb dX4_addCode_12 rfl (lv_at hl 0 rfl) ?_
    refine x_getr E X ffX4_18 rfl rfl dX4_addCode_13 ?_
    refine lv_aload_n hx hb dX4_addCode_16 rfl (lv_at hl 0 rfl) ?_
    refine x_get E X ffX4_28 rfl rfl dX4_addCode_17 ?_
    refine lv_iload_n hx hb dX4_addCode_20 rfl (lv_at hl 1 rfl) ?_
    obtain ⟨g_2, h⟩ := gd_s h
    obtain ⟨S_3, eS_3, h⟩ := ltm_s h
    refine x_iast E X rfl g_2 dX4_addCode_21 (fun H locs X => ?_)
    rw [← eS_3] at X
    refine lv_aload_n hx hb dX4_addCode_22 rfl (lv_at hl 0 rfl) ?_
    refine lv_dup hx hb dX4_addCode_23 rfl ?_
    refine x_get E X ffX4_28 rfl rfl dX4_addCode_24 ?_
    refine lv_iconst (v := (1 : Int32)) hx hb dX4_addCode_27 (by decide) ?_
    refine lv_iadd hx hb dX4_addCode_28 ?_
    obtain ⟨S_4, eS_4, h⟩ := ltm_s h
    refine x_put E X fpX4_28 rfl rfl dX4_addCode_29 (fun H locs X => ?_)
    rw [← eS_4] at X
    exact x_vret E X h dX4_addCode_32
/-- SevenToAShadow$Rules.addCode(I)V -/
theorem mX4_addCode_40 (l : Launch) (Z : XG) (hQ : wQ (List.length xL) Z) {S S' : Mem} {r : Int32} (x1 : Int32) (h : fX4_addCode_40 S x1 = some (r, S')) : XM l yX4_addCode cX4_addCode 2 none { frames := 0, cells := 0, slots := 0, locals := 0 } xL Z [.ref (Z.2.1 40), .int x1] S (XV xL Z S') := by
  refine XM.of (own := RX4) (by decide +kernel) rfl rfl hQ (fun p e s m args below meth c E ls hl X => ?_)
  exact wX4_addCode_40 E S x1 h _ _ _ X hl
def fX3_takeUnit_60 (S : Mem) : O := ltm (mset S 38 9 (5 : Int32)) fun S_1 => some ((0 : Int32), S_1)
def fX3_takeUnit (S : Mem) : O := (if (S 38 6) = (28 : Int32) then bnd (fX4_addCode_40 S ((100 : Int32) + (S 38 8))) fun _ S_7 => fX3_takeUnit_60  S_7  else (if (S 38 6) < (8 : Int32) then some ((1 : Int32), S) else (if (17 : Int32) < (S 38 6) then some ((1 : Int32), S) else bnd (fX4_addCode_40 S (S 38 6)) fun _ S_5 => fX3_takeUnit_60  S_5 )))
theorem dX3_takeUnit_0 : decode cX3_takeUnit 0 = .ok (.aload_n 0, 1) := by decide +kernel
theorem dX3_takeUnit_1 : decode cX3_takeUnit 1 = .ok (.getfield 61, 3) := by decide +kernel
theorem dX3_takeUnit_4 : decode cX3_takeUnit 4 = .ok (.bipush 28, 2) := by decide +kernel
theorem dX3_takeUnit_6 : decode cX3_takeUnit 6 = .ok (.if_icmp .ne 20, 3) := by decide +kernel
theorem dX3_takeUnit_9 : decode cX3_takeUnit 9 = .ok (.aload_n 0, 1) := by decide +kernel
theorem dX3_takeUnit_10 : decode cX3_takeUnit 10 = .ok (.getfield 22, 3) := by decide +kernel
theorem dX3_takeUnit_13 : decode cX3_takeUnit 13 = .ok (.bipush 100, 2) := by decide +kernel
theorem dX3_takeUnit_15 : decode cX3_takeUnit 15 = .ok (.aload_n 0, 1) := by decide +kernel
theorem dX3_takeUnit_16 : decode cX3_takeUnit 16 = .ok (.getfield 91, 3) := by decide +kernel
theorem dX3_takeUnit_19 : decode cX3_takeUnit 19 = .ok (.iadd, 1) := by decide +kernel
theorem dX3_takeUnit_20 : decode cX3_takeUnit 20 = .ok (.invokevirtual 147, 3) := by decide +kernel
theorem dX3_takeUnit_23 : decode cX3_takeUnit 23 = .ok (.goto 37, 3) := by decide +kernel
theorem dX3_takeUnit_26 : decode cX3_takeUnit 26 = .ok (.aload_n 0, 1) := by decide +kernel
theorem dX3_takeUnit_27 : decode cX3_takeUnit 27 = .ok (.getfield 61, 3) := by decide +kernel
theorem dX3_takeUnit_30 : decode cX3_takeUnit 30 = .ok (.bipush 8, 2) := by decide +kernel
theorem dX3_takeUnit_32 : decode cX3_takeUnit 32 = .ok (.if_icmp .lt 26, 3) := by decide +kernel
theorem dX3_takeUnit_35 : decode cX3_takeUnit 35 = .ok (.aload_n 0, 1) := by decide +kernel
theorem dX3_takeUnit_36 : decode cX3_takeUnit 36 = .ok (.getfield 61, 3) := by decide +kernel
theorem dX3_takeUnit_39 : decode cX3_takeUnit 39 = .ok (.bipush 17, 2) := by decide +kernel
theorem dX3_takeUnit_41 : decode cX3_takeUnit 41 = .ok (.if_icmp .gt 17, 3) := by decide +kernel
theorem dX3_takeUnit_44 : decode cX3_takeUnit 44 = .ok (.aload_n 0, 1) := by decide +kernel
theorem dX3_takeUnit_45 : decode cX3_takeUnit 45 = .ok (.getfield 22, 3) := by decide +kernel
theorem dX3_takeUnit_48 : decode cX3_takeUnit 48 = .ok (.aload_n 0, 1) := by decide +kernel
theorem dX3_takeUnit_49 : decode cX3_takeUnit 49 = .ok (.getfield 61, 3) := by decide +kernel
theorem dX3_takeUnit_52 : decode cX3_takeUnit 52 = .ok (.invokevirtual 147, 3) := by decide +kernel
theorem dX3_takeUnit_55 : decode cX3_takeUnit 55 = .ok (.goto 5, 3) := by decide +kernel
theorem dX3_takeUnit_58 : decode cX3_takeUnit 58 = .ok (.iconst 1, 1) := by decide +kernel
theorem dX3_takeUnit_59 : decode cX3_takeUnit 59 = .ok (.ireturn, 1) := by decide +kernel
theorem dX3_takeUnit_60 : decode cX3_takeUnit 60 = .ok (.aload_n 0, 1) := by decide +kernel
theorem dX3_takeUnit_61 : decode cX3_takeUnit 61 = .ok (.iconst 5, 1) := by decide +kernel
theorem dX3_takeUnit_62 : decode cX3_takeUnit 62 = .ok (.putfield 42, 3) := by decide +kernel
theorem dX3_takeUnit_65 : decode cX3_takeUnit 65 = .ok (.iconst 0, 1) := by decide +kernel
theorem dX3_takeUnit_66 : decode cX3_takeUnit 66 = .ok (.ireturn, 1) := by decide +kernel
set_option maxRecDepth 20000 in
theorem wX3_takeUnit_60 {p : Program} {l : Launch} {e : Env} {s : State} {m : MethodId} {args : Array Value} {below : List Frame} {meth : Method} {c : Code} {Z : XG} {r : Int32} {S' : Mem} (E : XE p s m args meth c cX3_takeUnit 1 RX3 (some .int) xL Z) : ∀ (S : Mem), fX3_takeUnit_60  S  = some (r, S') → WN p l e { frames := 1, cells := 0, slots := 0, locals := 21 } s m args below meth c xL Z (XQ xL Z r S') S 60 1 [(0, .ref (Z.2.1 38))] [] := by
  obtain ⟨hx, hb, -, -, -, -, -, -, -, hQ⟩ := id E
  intro S  h H locs ls X hl
  unfold fX3_takeUnit_60 at h
  refine lv_aload_n hx hb dX3_takeUnit_60 rfl (lv_at hl 0 rfl) ?_
  refine lv_iconst (v := (5 : Int32)) hx hb dX3_takeUnit_61 (by decide) ?_
  obtain ⟨S_1, eS_1, h⟩ := ltm_s h
  refine x_put E X fpX3_42 rfl rfl dX3_takeUnit_62 (fun H locs X => ?_)
  rw [← eS_1] at X
  refine lv_iconst (v := (0 : Int32)) hx hb dX3_takeUnit_65 (by decide) ?_
  exact x_iret E X h dX3_takeUnit_66
set_option maxRecDepth 20000 in
theorem wX3_takeUnit {p : Program} {l : Launch} {e : Env} {s : State} {m : MethodId} {args : Array Value} {below : List Frame} {meth : Method} {c : Code} {Z : XG} {r : Int32} {S' : Mem} (E : XE p s m args meth c cX3_takeUnit 1 RX3 (some .int) xL Z) : ∀ (S : Mem), fX3_takeUnit  S  = some (r, S') → WN p l e { frames := 1, cells := 0, slots := 0, locals := 21 } s m args below meth c xL Z (XQ xL Z r S') S 0 1 [(0, .ref (Z.2.1 38))] [] := by
  obtain ⟨hx, hb, -, -, -, -, -, -, -, hQ⟩ := id E
  intro S  h H locs ls X hl
  unfold fX3_takeUnit at h
  refine lv_aload_n hx hb dX3_takeUnit_0 rfl (lv_at hl 0 rfl) ?_
  refine x_get E X ffX3_61 rfl rfl dX3_takeUnit_1 ?_
  refine lv_bipush (v := (28 : Int32)) hx hb dX3_takeUnit_4 (by decide) ?_
  refine lv_icmp_ne (tgt := 26) hx hb dX3_takeUnit_6 (by decide) (fun c_1 => ?_) (fun c_1 => ?_)
  · have h := if_f c_1 h
    refine lv_aload_n hx hb dX3_takeUnit_26 rfl (lv_at hl 0 rfl) ?_
    refine x_get E X ffX3_61 rfl rfl dX3_takeUnit_27 ?_
    refine lv_bipush (v := (8 : Int32)) hx hb dX3_takeUnit_30 (by decide) ?_
    refine lv_icmp_lt (tgt := 58) hx hb dX3_takeUnit_32 (by decide) (fun c_2 => ?_) (fun c_2 => ?_)
    · have h := if_t c_2 h
      refine lv_iconst (v := (1 : Int32)) hx hb dX3_takeUnit_58 (by decide) ?_
      exact x_iret E X h dX3_takeUnit_59
    · have h := if_f c_2 h
      refine lv_aload_n hx hb dX3_takeUnit_35 rfl (lv_at hl 0 rfl) ?_
      refine x_get E X ffX3_61 rfl rfl dX3_takeUnit_36 ?_
      refine lv_bipush (v := (17 : Int32)) hx hb dX3_takeUnit_39 (by decide) ?_
      refine lv_icmp_gt (tgt := 58) hx hb dX3_takeUnit_41 (by decide) (fun c_3 => ?_) (fun c_3 => ?_)
      · have h := if_t c_3 h
        refine lv_iconst (v := (1 : Int32)) hx hb dX3_takeUnit_58 (by decide) ?_
        exact x_iret E X h dX3_takeUnit_59
      · have h := if_f c_3 h
        refine lv_aload_n hx hb dX3_takeUnit_44 rfl (lv_at hl 0 rfl) ?_
        refine x_getr E X ffX3_22 rfl rfl dX3_takeUnit_45 ?_
        refine lv_aload_n hx hb dX3_takeUnit_48 rfl (lv_at hl 0 rfl) ?_
        refine x_get E X ffX3_61 rfl rfl dX3_takeUnit_49 ?_
        obtain ⟨r_4, S_5, hr_4, h⟩ := bnd_s h
        refine x_callVv E X cwX3_147 (mX4_addCode_40 l Z hQ  (S 38 6) hr_4) rfl rfl rfl rfl hl.1 rfl dX3_takeUnit_52 (fun H locs X => ?_)
        refine lv_goto (tgt := 60) hx hb dX3_takeUnit_55 (by decide) ?_
        exact wX3_takeUnit_60 E   S_5  h _ _ _ X hl
  · have h := if_t c_1 h
    refine lv_aload_n hx hb dX3_takeUnit_9 rfl (lv_at hl 0 rfl) ?_
    refine x_getr E X ffX3_22 rfl rfl dX3_takeUnit_10 ?_
    refine lv_bipush (v := (100 : Int32)) hx hb dX3_takeUnit_13 (by decide) ?_
    refine lv_aload_n hx hb dX3_takeUnit_15 rfl (lv_at hl 0 rfl) ?_
    refine x_get E X ffX3_91 rfl rfl dX3_takeUnit_16 ?_
    refine lv_iadd hx hb dX3_takeUnit_19 ?_
    obtain ⟨r_6, S_7, hr_6, h⟩ := bnd_s h
    refine x_callVv E X cwX3_147 (mX4_addCode_40 l Z hQ  ((100 : Int32) + (S 38 8)) hr_6) rfl rfl rfl rfl hl.1 rfl dX3_takeUnit_20 (fun H locs X => ?_)
    refine lv_goto (tgt := 60) hx hb dX3_takeUnit_23 (by decide) ?_
    exact wX3_takeUnit_60 E   S_7  h _ _ _ X hl
/-- SevenToAShadow$Reader.takeUnit()I -/
theorem mX3_takeUnit (l : Launch) (Z : XG) (hQ : wQ (List.length xL) Z) {S S' : Mem} {r : Int32} (h : fX3_takeUnit S  = some (r, S')) : XM l yX3_takeUnit cX3_takeUnit 1 (some .int) { frames := 1, cells := 0, slots := 0, locals := 21 } xL Z [.ref (Z.2.1 38)] S (XQ xL Z r S') := by
  refine XM.of (own := RX3) (by decide +kernel) rfl rfl hQ (fun p e s m args below meth c E ls hl X => ?_)
  exact wX3_takeUnit E S  h _ _ _ X hl
def fX3_hold (S : Mem) (x1 : Int32) : O := (if (40 : Int32) ≤ (S 38 13) then some ((0 : Int32), S) else gd (inB (S 38 13) 40) <| ltm (mset S 45 ((S 38 13)).toNatClampNeg x1) fun S_3 => ltm (mset S_3 38 13 ((S_3 38 13) + (1 : Int32))) fun S_4 => some ((0 : Int32), S_4))
theorem dX3_hold_0 : decode cX3_hold 0 = .ok (.aload_n 0, 1) := by decide +kernel
theorem dX3_hold_1 : decode cX3_hold 1 = .ok (.getfield 45, 3) := by decide +kernel
theorem dX3_hold_4 : decode cX3_hold 4 = .ok (.aload_n 0, 1) := by decide +kernel
theorem dX3_hold_5 : decode cX3_hold 5 = .ok (.getfield 26, 3) := by decide +kernel
theorem dX3_hold_8 : decode cX3_hold 8 = .ok (.arraylength, 1) := by decide +kernel
theorem dX3_hold_9 : decode cX3_hold 9 = .ok (.if_icmp .ge 23, 3) := by decide +kernel
theorem dX3_hold_12 : decode cX3_hold 12 = .ok (.aload_n 0, 1) := by decide +kernel
theorem dX3_hold_13 : decode cX3_hold 13 = .ok (.getfield 26, 3) := by decide +kernel
theorem dX3_hold_16 : decode cX3_hold 16 = .ok (.aload_n 0, 1) := by decide +kernel
theorem dX3_hold_17 : decode cX3_hold 17 = .ok (.getfield 45, 3) := by decide +kernel
theorem dX3_hold_20 : decode cX3_hold 20 = .ok (.iload_n 1, 1) := by decide +kernel
theorem dX3_hold_21 : decode cX3_hold 21 = .ok (.iastore, 1) := by decide +kernel
theorem dX3_hold_22 : decode cX3_hold 22 = .ok (.aload_n 0, 1) := by decide +kernel
theorem dX3_hold_23 : decode cX3_hold 23 = .ok (.dup, 1) := by decide +kernel
theorem dX3_hold_24 : decode cX3_hold 24 = .ok (.getfield 45, 3) := by decide +kernel
theorem dX3_hold_27 : decode cX3_hold 27 = .ok (.iconst 1, 1) := by decide +kernel
theorem dX3_hold_28 : decode cX3_hold 28 = .ok (.iadd, 1) := by decide +kernel
theorem dX3_hold_29 : decode cX3_hold 29 = .ok (.putfield 45, 3) := by decide +kernel
theorem dX3_hold_32 : decode cX3_hold 32 = .ok (.return_, 1) := by decide +kernel
set_option maxRecDepth 20000 in
theorem wX3_hold {p : Program} {l : Launch} {e : Env} {s : State} {m : MethodId} {args : Array Value} {below : List Frame} {meth : Method} {c : Code} {Z : XG} {r : Int32} {S' : Mem} (E : XE p s m args meth c cX3_hold 2 RX3 none xL Z) : ∀ (S : Mem) (x1 : Int32), fX3_hold  S x1 = some (r, S') → WN p l e { frames := 0, cells := 0, slots := 0, locals := 0 } s m args below meth c xL Z (XV xL Z S') S 0 2 [(0, .ref (Z.2.1 38)), (1, .int x1)] [] := by
  obtain ⟨hx, hb, -, -, -, -, -, -, -, hQ⟩ := id E
  intro S x1 h H locs ls X hl
  unfold fX3_hold at h
  refine lv_aload_n hx hb dX3_hold_0 rfl (lv_at hl 0 rfl) ?_
  refine x_get E X ffX3_45 rfl rfl dX3_hold_1 ?_
  refine lv_aload_n hx hb dX3_hold_4 rfl (lv_at hl 0 rfl) ?_
  refine x_getr E X ffX3_26 rfl rfl dX3_hold_5 ?_
  refine x_alen E X (v := (40 : Int32)) rfl (by decide) dX3_hold_8 ?_
  refine lv_icmp_ge (tgt := 32) hx hb dX3_hold_9 (by decide) (fun c_1 => ?_) (fun c_1 => ?_)
  · have h := if_t c_1 h
    exact x_vret E X h dX3_hold_32
  · have h := if_f c_1 h
    refine lv_aload_n hx hb dX3_hold_12 rfl (lv_at hl 0 rfl) ?_
    refine x_getr E X ffX3_26 rfl rfl dX3_hold_13 ?_
    refine lv_aload_n hx hb dX3_hold_16 rfl (lv_at hl 0 rfl) ?_
    refine x_get E X ffX3_45 rfl rfl dX3_hold_17 ?_
    refine lv_iload_n hx hb dX3_hold_20 rfl (lv_at hl 1 rfl) ?_
    obtain ⟨g_2, h⟩ := gd_s h
    obtain ⟨S_3, eS_3, h⟩ := ltm_s h
    refine x_iast E X rfl g_2 dX3_hold_21 (fun H locs X => ?_)
    rw [← eS_3] at X
    refine lv_aload_n hx hb dX3_hold_22 rfl (lv_at hl 0 rfl) ?_
    refine lv_dup hx hb dX3_hold_23 rfl ?_
    refine x_get E X ffX3_45 rfl rfl dX3_hold_24 ?_
    refine lv_iconst (v := (1 : Int32)) hx hb dX3_hold_27 (by decide) ?_
    refine lv_iadd hx hb dX3_hold_28 ?_
    obtain ⟨S_4, eS_4, h⟩ := ltm_s h
    refine x_put E X fpX3_45 rfl rfl dX3_hold_29 (fun H locs X => ?_)
    rw [← eS_4] at X
    exact x_vret E X h dX3_hold_32
/-- SevenToAShadow$Reader.hold(I)V -/
theorem mX3_hold (l : Launch) (Z : XG) (hQ : wQ (List.length xL) Z) {S S' : Mem} {r : Int32} (x1 : Int32) (h : fX3_hold S x1 = some (r, S')) : XM l yX3_hold cX3_hold 2 none { frames := 0, cells := 0, slots := 0, locals := 0 } xL Z [.ref (Z.2.1 38), .int x1] S (XV xL Z S') := by
  refine XM.of (own := RX3) (by decide +kernel) rfl rfl hQ (fun p e s m args below meth c E ls hl X => ?_)
  exact wX3_hold E S x1 h _ _ _ X hl
def fX3_takeClaim_63 (S : Mem) : O := bnd (fX3_hold S (S 38 6)) fun _ S_2 => some ((0 : Int32), S_2)
def fX3_takeClaim_23 (S : Mem) : O := (if (S 38 14) < (8 : Int32) then ltm (mset S 38 14 ((S 38 14) + (1 : Int32))) fun S_2 => (if (S_2 38 6) = (23 : Int32) then ltm (mset S_2 38 15 ((S_2 38 15) + (1 : Int32))) fun S_4 => fX3_takeClaim_63  S_4  else fX3_takeClaim_63  S_2 ) else some ((3 : Int32), S))
def fX3_takeClaim (S : Mem) : O := (if (S 38 6) = (7 : Int32) then fX3_takeClaim_23  S  else (if (S 38 6) = (23 : Int32) then fX3_takeClaim_23  S  else bnd (fX3_takeUnit S ) fun r_3 S_4 => some (r_3, S_4)))
theorem dX3_takeClaim_0 : decode cX3_takeClaim 0 = .ok (.aload_n 0, 1) := by decide +kernel
theorem dX3_takeClaim_1 : decode cX3_takeClaim 1 = .ok (.getfield 61, 3) := by decide +kernel
theorem dX3_takeClaim_4 : decode cX3_takeClaim 4 = .ok (.bipush 7, 2) := by decide +kernel
theorem dX3_takeClaim_6 : decode cX3_takeClaim 6 = .ok (.if_icmp .eq 17, 3) := by decide +kernel
theorem dX3_takeClaim_9 : decode cX3_takeClaim 9 = .ok (.aload_n 0, 1) := by decide +kernel
theorem dX3_takeClaim_10 : decode cX3_takeClaim 10 = .ok (.getfield 61, 3) := by decide +kernel
theorem dX3_takeClaim_13 : decode cX3_takeClaim 13 = .ok (.bipush 23, 2) := by decide +kernel
theorem dX3_takeClaim_15 : decode cX3_takeClaim 15 = .ok (.if_icmp .eq 8, 3) := by decide +kernel
theorem dX3_takeClaim_18 : decode cX3_takeClaim 18 = .ok (.aload_n 0, 1) := by decide +kernel
theorem dX3_takeClaim_19 : decode cX3_takeClaim 19 = .ok (.invokevirtual 115, 3) := by decide +kernel
theorem dX3_takeClaim_22 : decode cX3_takeClaim 22 = .ok (.ireturn, 1) := by decide +kernel
theorem dX3_takeClaim_23 : decode cX3_takeClaim 23 = .ok (.aload_n 0, 1) := by decide +kernel
theorem dX3_takeClaim_24 : decode cX3_takeClaim 24 = .ok (.getfield 48, 3) := by decide +kernel
theorem dX3_takeClaim_27 : decode cX3_takeClaim 27 = .ok (.bipush 8, 2) := by decide +kernel
theorem dX3_takeClaim_29 : decode cX3_takeClaim 29 = .ok (.if_icmp .lt 5, 3) := by decide +kernel
theorem dX3_takeClaim_32 : decode cX3_takeClaim 32 = .ok (.iconst 3, 1) := by decide +kernel
theorem dX3_takeClaim_33 : decode cX3_takeClaim 33 = .ok (.ireturn, 1) := by decide +kernel
theorem dX3_takeClaim_34 : decode cX3_takeClaim 34 = .ok (.aload_n 0, 1) := by decide +kernel
theorem dX3_takeClaim_35 : decode cX3_takeClaim 35 = .ok (.dup, 1) := by decide +kernel
theorem dX3_takeClaim_36 : decode cX3_takeClaim 36 = .ok (.getfield 48, 3) := by decide +kernel
theorem dX3_takeClaim_39 : decode cX3_takeClaim 39 = .ok (.iconst 1, 1) := by decide +kernel
theorem dX3_takeClaim_40 : decode cX3_takeClaim 40 = .ok (.iadd, 1) := by decide +kernel
theorem dX3_takeClaim_41 : decode cX3_takeClaim 41 = .ok (.putfield 48, 3) := by decide +kernel
theorem dX3_takeClaim_44 : decode cX3_takeClaim 44 = .ok (.aload_n 0, 1) := by decide +kernel
theorem dX3_takeClaim_45 : decode cX3_takeClaim 45 = .ok (.getfield 61, 3) := by decide +kernel
theorem dX3_takeClaim_48 : decode cX3_takeClaim 48 = .ok (.bipush 23, 2) := by decide +kernel
theorem dX3_takeClaim_50 : decode cX3_takeClaim 50 = .ok (.if_icmp .ne 13, 3) := by decide +kernel
theorem dX3_takeClaim_53 : decode cX3_takeClaim 53 = .ok (.aload_n 0, 1) := by decide +kernel
theorem dX3_takeClaim_54 : decode cX3_takeClaim 54 = .ok (.dup, 1) := by decide +kernel
theorem dX3_takeClaim_55 : decode cX3_takeClaim 55 = .ok (.getfield 51, 3) := by decide +kernel
theorem dX3_takeClaim_58 : decode cX3_takeClaim 58 = .ok (.iconst 1, 1) := by decide +kernel
theorem dX3_takeClaim_59 : decode cX3_takeClaim 59 = .ok (.iadd, 1) := by decide +kernel
theorem dX3_takeClaim_60 : decode cX3_takeClaim 60 = .ok (.putfield 51, 3) := by decide +kernel
theorem dX3_takeClaim_63 : decode cX3_takeClaim 63 = .ok (.aload_n 0, 1) := by decide +kernel
theorem dX3_takeClaim_64 : decode cX3_takeClaim 64 = .ok (.aload_n 0, 1) := by decide +kernel
theorem dX3_takeClaim_65 : decode cX3_takeClaim 65 = .ok (.getfield 61, 3) := by decide +kernel
theorem dX3_takeClaim_68 : decode cX3_takeClaim 68 = .ok (.invokevirtual 144, 3) := by decide +kernel
theorem dX3_takeClaim_71 : decode cX3_takeClaim 71 = .ok (.iconst 0, 1) := by decide +kernel
theorem dX3_takeClaim_72 : decode cX3_takeClaim 72 = .ok (.ireturn, 1) := by decide +kernel
set_option maxRecDepth 20000 in
theorem wX3_takeClaim_63 {p : Program} {l : Launch} {e : Env} {s : State} {m : MethodId} {args : Array Value} {below : List Frame} {meth : Method} {c : Code} {Z : XG} {r : Int32} {S' : Mem} (E : XE p s m args meth c cX3_takeClaim 1 RX3 (some .int) xL Z) : ∀ (S : Mem), fX3_takeClaim_63  S  = some (r, S') → WN p l e { frames := 2, cells := 0, slots := 0, locals := 41 } s m args below meth c xL Z (XQ xL Z r S') S 63 1 [(0, .ref (Z.2.1 38))] [] := by
  obtain ⟨hx, hb, -, -, -, -, -, -, -, hQ⟩ := id E
  intro S  h H locs ls X hl
  unfold fX3_takeClaim_63 at h
  refine lv_aload_n hx hb dX3_takeClaim_63 rfl (lv_at hl 0 rfl) ?_
  refine lv_aload_n hx hb dX3_takeClaim_64 rfl (lv_at hl 0 rfl) ?_
  refine x_get E X ffX3_61 rfl rfl dX3_takeClaim_65 ?_
  obtain ⟨r_1, S_2, hr_1, h⟩ := bnd_s h
  refine x_callVv E X cwX3_144 (mX3_hold l Z hQ  (S 38 6) hr_1) rfl rfl rfl rfl hl.1 rfl dX3_takeClaim_68 (fun H locs X => ?_)
  refine lv_iconst (v := (0 : Int32)) hx hb dX3_takeClaim_71 (by decide) ?_
  exact x_iret E X h dX3_takeClaim_72
set_option maxRecDepth 20000 in
theorem wX3_takeClaim_23 {p : Program} {l : Launch} {e : Env} {s : State} {m : MethodId} {args : Array Value} {below : List Frame} {meth : Method} {c : Code} {Z : XG} {r : Int32} {S' : Mem} (E : XE p s m args meth c cX3_takeClaim 1 RX3 (some .int) xL Z) : ∀ (S : Mem), fX3_takeClaim_23  S  = some (r, S') → WN p l e { frames := 2, cells := 0, slots := 0, locals := 41 } s m args below meth c xL Z (XQ xL Z r S') S 23 1 [(0, .ref (Z.2.1 38))] [] := by
  obtain ⟨hx, hb, -, -, -, -, -, -, -, hQ⟩ := id E
  intro S  h H locs ls X hl
  unfold fX3_takeClaim_23 at h
  refine lv_aload_n hx hb dX3_takeClaim_23 rfl (lv_at hl 0 rfl) ?_
  refine x_get E X ffX3_48 rfl rfl dX3_takeClaim_24 ?_
  refine lv_bipush (v := (8 : Int32)) hx hb dX3_takeClaim_27 (by decide) ?_
  refine lv_icmp_lt (tgt := 34) hx hb dX3_takeClaim_29 (by decide) (fun c_1 => ?_) (fun c_1 => ?_)
  · have h := if_t c_1 h
    refine lv_aload_n hx hb dX3_takeClaim_34 rfl (lv_at hl 0 rfl) ?_
    refine lv_dup hx hb dX3_takeClaim_35 rfl ?_
    refine x_get E X ffX3_48 rfl rfl dX3_takeClaim_36 ?_
    refine lv_iconst (v := (1 : Int32)) hx hb dX3_takeClaim_39 (by decide) ?_
    refine lv_iadd hx hb dX3_takeClaim_40 ?_
    obtain ⟨S_2, eS_2, h⟩ := ltm_s h
    refine x_put E X fpX3_48 rfl rfl dX3_takeClaim_41 (fun H locs X => ?_)
    rw [← eS_2] at X
    refine lv_aload_n hx hb dX3_takeClaim_44 rfl (lv_at hl 0 rfl) ?_
    refine x_get E X ffX3_61 rfl rfl dX3_takeClaim_45 ?_
    refine lv_bipush (v := (23 : Int32)) hx hb dX3_takeClaim_48 (by decide) ?_
    refine lv_icmp_ne (tgt := 63) hx hb dX3_takeClaim_50 (by decide) (fun c_3 => ?_) (fun c_3 => ?_)
    · have h := if_f c_3 h
      exact wX3_takeClaim_63 E   S_2  h _ _ _ X hl
    · have h := if_t c_3 h
      refine lv_aload_n hx hb dX3_takeClaim_53 rfl (lv_at hl 0 rfl) ?_
      refine lv_dup hx hb dX3_takeClaim_54 rfl ?_
      refine x_get E X ffX3_51 rfl rfl dX3_takeClaim_55 ?_
      refine lv_iconst (v := (1 : Int32)) hx hb dX3_takeClaim_58 (by decide) ?_
      refine lv_iadd hx hb dX3_takeClaim_59 ?_
      obtain ⟨S_4, eS_4, h⟩ := ltm_s h
      refine x_put E X fpX3_51 rfl rfl dX3_takeClaim_60 (fun H locs X => ?_)
      rw [← eS_4] at X
      exact wX3_takeClaim_63 E   S_4  h _ _ _ X hl
  · have h := if_f c_1 h
    refine lv_iconst (v := (3 : Int32)) hx hb dX3_takeClaim_32 (by decide) ?_
    exact x_iret E X h dX3_takeClaim_33
set_option maxRecDepth 20000 in
theorem wX3_takeClaim {p : Program} {l : Launch} {e : Env} {s : State} {m : MethodId} {args : Array Value} {below : List Frame} {meth : Method} {c : Code} {Z : XG} {r : Int32} {S' : Mem} (E : XE p s m args meth c cX3_takeClaim 1 RX3 (some .int) xL Z) : ∀ (S : Mem), fX3_takeClaim  S  = some (r, S') → WN p l e { frames := 2, cells := 0, slots := 0, locals := 41 } s m args below meth c xL Z (XQ xL Z r S') S 0 1 [(0, .ref (Z.2.1 38))] [] := by
  obtain ⟨hx, hb, -, -, -, -, -, -, -, hQ⟩ := id E
  intro S  h H locs ls X hl
  unfold fX3_takeClaim at h
  refine lv_aload_n hx hb dX3_takeClaim_0 rfl (lv_at hl 0 rfl) ?_
  refine x_get E X ffX3_61 rfl rfl dX3_takeClaim_1 ?_
  refine lv_bipush (v := (7 : Int32)) hx hb dX3_takeClaim_4 (by decide) ?_
  refine lv_icmp_eq (tgt := 23) hx hb dX3_takeClaim_6 (by decide) (fun c_1 => ?_) (fun c_1 => ?_)
  · have h := if_t c_1 h
    exact wX3_takeClaim_23 E   S  h _ _ _ X hl
  · have h := if_f c_1 h
    refine lv_aload_n hx hb dX3_takeClaim_9 rfl (lv_at hl 0 rfl) ?_
    refine x_get E X ffX3_61 rfl rfl dX3_takeClaim_10 ?_
    refine lv_bipush (v := (23 : Int32)) hx hb dX3_takeClaim_13 (by decide) ?_
    refine lv_icmp_eq (tgt := 23) hx hb dX3_takeClaim_15 (by decide) (fun c_2 => ?_) (fun c_2 => ?_)
    · have h := if_t c_2 h
      exact wX3_takeClaim_23 E   S  h _ _ _ X hl
    · have h := if_f c_2 h
      refine lv_aload_n hx hb dX3_takeClaim_18 rfl (lv_at hl 0 rfl) ?_
      obtain ⟨r_3, S_4, hr_3, h⟩ := bnd_s h
      refine x_callV E X cwX3_115 (mX3_takeUnit l Z hQ   hr_3) rfl rfl rfl rfl hl.1 rfl dX3_takeClaim_19 (fun H locs X => ?_)
      exact x_iret E X h dX3_takeClaim_22
/-- SevenToAShadow$Reader.takeClaim()I -/
theorem mX3_takeClaim (l : Launch) (Z : XG) (hQ : wQ (List.length xL) Z) {S S' : Mem} {r : Int32} (h : fX3_takeClaim S  = some (r, S')) : XM l yX3_takeClaim cX3_takeClaim 1 (some .int) { frames := 2, cells := 0, slots := 0, locals := 41 } xL Z [.ref (Z.2.1 38)] S (XQ xL Z r S') := by
  refine XM.of (own := RX3) (by decide +kernel) rfl rfl hQ (fun p e s m args below meth c E ls hl X => ?_)
  exact wX3_takeClaim E S  h _ _ _ X hl
def fX3_takeDivisor (S : Mem) : O := (if (S 38 6) = (28 : Int32) then (if (S 38 8) = 0 then some ((2 : Int32), S) else bnd (fX3_takeUnit S ) fun r_3 S_4 => some (r_3, S_4)) else some ((1 : Int32), S))
theorem dX3_takeDivisor_0 : decode cX3_takeDivisor 0 = .ok (.aload_n 0, 1) := by decide +kernel
theorem dX3_takeDivisor_1 : decode cX3_takeDivisor 1 = .ok (.getfield 61, 3) := by decide +kernel
theorem dX3_takeDivisor_4 : decode cX3_takeDivisor 4 = .ok (.bipush 28, 2) := by decide +kernel
theorem dX3_takeDivisor_6 : decode cX3_takeDivisor 6 = .ok (.if_icmp .eq 5, 3) := by decide +kernel
theorem dX3_takeDivisor_9 : decode cX3_takeDivisor 9 = .ok (.iconst 1, 1) := by decide +kernel
theorem dX3_takeDivisor_10 : decode cX3_takeDivisor 10 = .ok (.ireturn, 1) := by decide +kernel
theorem dX3_takeDivisor_11 : decode cX3_takeDivisor 11 = .ok (.aload_n 0, 1) := by decide +kernel
theorem dX3_takeDivisor_12 : decode cX3_takeDivisor 12 = .ok (.getfield 91, 3) := by decide +kernel
theorem dX3_takeDivisor_15 : decode cX3_takeDivisor 15 = .ok (.ifCond .ne 7, 3) := by decide +kernel
theorem dX3_takeDivisor_18 : decode cX3_takeDivisor 18 = .ok (.iconst 2, 1) := by decide +kernel
theorem dX3_takeDivisor_19 : decode cX3_takeDivisor 19 = .ok (.goto 7, 3) := by decide +kernel
theorem dX3_takeDivisor_22 : decode cX3_takeDivisor 22 = .ok (.aload_n 0, 1) := by decide +kernel
theorem dX3_takeDivisor_23 : decode cX3_takeDivisor 23 = .ok (.invokevirtual 115, 3) := by decide +kernel
theorem dX3_takeDivisor_26 : decode cX3_takeDivisor 26 = .ok (.ireturn, 1) := by decide +kernel
set_option maxRecDepth 20000 in
theorem wX3_takeDivisor {p : Program} {l : Launch} {e : Env} {s : State} {m : MethodId} {args : Array Value} {below : List Frame} {meth : Method} {c : Code} {Z : XG} {r : Int32} {S' : Mem} (E : XE p s m args meth c cX3_takeDivisor 1 RX3 (some .int) xL Z) : ∀ (S : Mem), fX3_takeDivisor  S  = some (r, S') → WN p l e { frames := 2, cells := 0, slots := 0, locals := 41 } s m args below meth c xL Z (XQ xL Z r S') S 0 1 [(0, .ref (Z.2.1 38))] [] := by
  obtain ⟨hx, hb, -, -, -, -, -, -, -, hQ⟩ := id E
  intro S  h H locs ls X hl
  unfold fX3_takeDivisor at h
  refine lv_aload_n hx hb dX3_takeDivisor_0 rfl (lv_at hl 0 rfl) ?_
  refine x_get E X ffX3_61 rfl rfl dX3_takeDivisor_1 ?_
  refine lv_bipush (v := (28 : Int32)) hx hb dX3_takeDivisor_4 (by decide) ?_
  refine lv_icmp_eq (tgt := 11) hx hb dX3_takeDivisor_6 (by decide) (fun c_1 => ?_) (fun c_1 => ?_)
  · have h := if_t c_1 h
    refine lv_aload_n hx hb dX3_takeDivisor_11 rfl (lv_at hl 0 rfl) ?_
    refine x_get E X ffX3_91 rfl rfl dX3_takeDivisor_12 ?_
    refine lv_if_ne (tgt := 22) hx hb dX3_takeDivisor_15 (by decide) (fun c_2 => ?_) (fun c_2 => ?_)
    · have h := if_f c_2 h
      refine lv_aload_n hx hb dX3_takeDivisor_22 rfl (lv_at hl 0 rfl) ?_
      obtain ⟨r_3, S_4, hr_3, h⟩ := bnd_s h
      refine x_callV E X cwX3_115 (mX3_takeUnit l Z hQ   hr_3) rfl rfl rfl rfl hl.1 rfl dX3_takeDivisor_23 (fun H locs X => ?_)
      exact x_iret E X h dX3_takeDivisor_26
    · have h := if_t c_2 h
      refine lv_iconst (v := (2 : Int32)) hx hb dX3_takeDivisor_18 (by decide) ?_
      refine lv_goto (tgt := 26) hx hb dX3_takeDivisor_19 (by decide) ?_
      exact x_iret E X h dX3_takeDivisor_26
  · have h := if_f c_1 h
    refine lv_iconst (v := (1 : Int32)) hx hb dX3_takeDivisor_9 (by decide) ?_
    exact x_iret E X h dX3_takeDivisor_10
/-- SevenToAShadow$Reader.takeDivisor()I -/
theorem mX3_takeDivisor (l : Launch) (Z : XG) (hQ : wQ (List.length xL) Z) {S S' : Mem} {r : Int32} (h : fX3_takeDivisor S  = some (r, S')) : XM l yX3_takeDivisor cX3_takeDivisor 1 (some .int) { frames := 2, cells := 0, slots := 0, locals := 41 } xL Z [.ref (Z.2.1 38)] S (XQ xL Z r S') := by
  refine XM.of (own := RX3) (by decide +kernel) rfl rfl hQ (fun p e s m args below meth c E ls hl X => ?_)
  exact wX3_takeDivisor E S  h _ _ _ X hl
def fX3_rankOf (S : Mem) (x0 : Int32) : O := (if x0 = (5 : Int32) then some ((1 : Int32), S) else if x0 = (6 : Int32) then some ((2 : Int32), S) else if x0 = (7 : Int32) then some ((3 : Int32), S) else if x0 = (19 : Int32) then some ((5 : Int32), S) else if x0 = (20 : Int32) then some ((5 : Int32), S) else if x0 = (23 : Int32) then some ((0 : Int32), S) else if x0 = (25 : Int32) then some ((4 : Int32), S) else if x0 = (26 : Int32) then some ((4 : Int32), S) else if x0 = (27 : Int32) then some ((4 : Int32), S) else some ((6 : Int32), S))
theorem dX3_rankOf_0 : decode cX3_rankOf 0 = .ok (.iload_n 0, 1) := by decide +kernel
theorem dX3_rankOf_1 : decode cX3_rankOf 1 = .ok (.tableswitch 119 5 27 #[109, 111, 113, 119, 119, 119, 119, 119, 119, 119, 119, 119, 119, 119, 117, 117, 119, 119, 107, 119, 115, 115, 115], 107) := by decide +kernel
theorem dX3_rankOf_108 : decode cX3_rankOf 108 = .ok (.iconst 0, 1) := by decide +kernel
theorem dX3_rankOf_109 : decode cX3_rankOf 109 = .ok (.ireturn, 1) := by decide +kernel
theorem dX3_rankOf_110 : decode cX3_rankOf 110 = .ok (.iconst 1, 1) := by decide +kernel
theorem dX3_rankOf_111 : decode cX3_rankOf 111 = .ok (.ireturn, 1) := by decide +kernel
theorem dX3_rankOf_112 : decode cX3_rankOf 112 = .ok (.iconst 2, 1) := by decide +kernel
theorem dX3_rankOf_113 : decode cX3_rankOf 113 = .ok (.ireturn, 1) := by decide +kernel
theorem dX3_rankOf_114 : decode cX3_rankOf 114 = .ok (.iconst 3, 1) := by decide +kernel
theorem dX3_rankOf_115 : decode cX3_rankOf 115 = .ok (.ireturn, 1) := by decide +kernel
theorem dX3_rankOf_116 : decode cX3_rankOf 116 = .ok (.iconst 4, 1) := by decide +kernel
theorem dX3_rankOf_117 : decode cX3_rankOf 117 = .ok (.ireturn, 1) := by decide +kernel
theorem dX3_rankOf_118 : decode cX3_rankOf 118 = .ok (.iconst 5, 1) := by decide +kernel
theorem dX3_rankOf_119 : decode cX3_rankOf 119 = .ok (.ireturn, 1) := by decide +kernel
theorem dX3_rankOf_120 : decode cX3_rankOf 120 = .ok (.bipush 6, 2) := by decide +kernel
theorem dX3_rankOf_122 : decode cX3_rankOf 122 = .ok (.ireturn, 1) := by decide +kernel
set_option maxRecDepth 20000 in
theorem wX3_rankOf {p : Program} {l : Launch} {e : Env} {s : State} {m : MethodId} {args : Array Value} {below : List Frame} {meth : Method} {c : Code} {Z : XG} {r : Int32} {S' : Mem} (E : XE p s m args meth c cX3_rankOf 1 RX3 (some .int) xL Z) : ∀ (S : Mem) (x0 : Int32), fX3_rankOf  S x0 = some (r, S') → WN p l e { frames := 0, cells := 0, slots := 0, locals := 0 } s m args below meth c xL Z (XQ xL Z r S') S 0 1 [(0, .int x0)] [] := by
  obtain ⟨hx, hb, -, -, -, -, -, -, -, hQ⟩ := id E
  intro S x0 h H locs ls X hl
  unfold fX3_rankOf at h
  refine lv_iload_n hx hb dX3_rankOf_0 rfl (lv_at hl 0 rfl) ?_
  by_cases c_1 : x0 = (5 : Int32)
  · have h := if_t c_1 h
    refine lv_tableIn (off := 109) (tgt := 110) hx hb dX3_rankOf_1 (by rw [c_1]; decide) (by rw [c_1]; decide) (by rw [c_1]; decide) (by decide) ?_
    refine lv_iconst (v := (1 : Int32)) hx hb dX3_rankOf_110 (by decide) ?_
    exact x_iret E X h dX3_rankOf_111
  replace h := if_f c_1 h
  by_cases c_2 : x0 = (6 : Int32)
  · have h := if_t c_2 h
    refine lv_tableIn (off := 111) (tgt := 112) hx hb dX3_rankOf_1 (by rw [c_2]; decide) (by rw [c_2]; decide) (by rw [c_2]; decide) (by decide) ?_
    refine lv_iconst (v := (2 : Int32)) hx hb dX3_rankOf_112 (by decide) ?_
    exact x_iret E X h dX3_rankOf_113
  replace h := if_f c_2 h
  by_cases c_3 : x0 = (7 : Int32)
  · have h := if_t c_3 h
    refine lv_tableIn (off := 113) (tgt := 114) hx hb dX3_rankOf_1 (by rw [c_3]; decide) (by rw [c_3]; decide) (by rw [c_3]; decide) (by decide) ?_
    refine lv_iconst (v := (3 : Int32)) hx hb dX3_rankOf_114 (by decide) ?_
    exact x_iret E X h dX3_rankOf_115
  replace h := if_f c_3 h
  by_cases c_4 : x0 = (19 : Int32)
  · have h := if_t c_4 h
    refine lv_tableIn (off := 117) (tgt := 118) hx hb dX3_rankOf_1 (by rw [c_4]; decide) (by rw [c_4]; decide) (by rw [c_4]; decide) (by decide) ?_
    refine lv_iconst (v := (5 : Int32)) hx hb dX3_rankOf_118 (by decide) ?_
    exact x_iret E X h dX3_rankOf_119
  replace h := if_f c_4 h
  by_cases c_5 : x0 = (20 : Int32)
  · have h := if_t c_5 h
    refine lv_tableIn (off := 117) (tgt := 118) hx hb dX3_rankOf_1 (by rw [c_5]; decide) (by rw [c_5]; decide) (by rw [c_5]; decide) (by decide) ?_
    refine lv_iconst (v := (5 : Int32)) hx hb dX3_rankOf_118 (by decide) ?_
    exact x_iret E X h dX3_rankOf_119
  replace h := if_f c_5 h
  by_cases c_6 : x0 = (23 : Int32)
  · have h := if_t c_6 h
    refine lv_tableIn (off := 107) (tgt := 108) hx hb dX3_rankOf_1 (by rw [c_6]; decide) (by rw [c_6]; decide) (by rw [c_6]; decide) (by decide) ?_
    refine lv_iconst (v := (0 : Int32)) hx hb dX3_rankOf_108 (by decide) ?_
    exact x_iret E X h dX3_rankOf_109
  replace h := if_f c_6 h
  by_cases c_7 : x0 = (25 : Int32)
  · have h := if_t c_7 h
    refine lv_tableIn (off := 115) (tgt := 116) hx hb dX3_rankOf_1 (by rw [c_7]; decide) (by rw [c_7]; decide) (by rw [c_7]; decide) (by decide) ?_
    refine lv_iconst (v := (4 : Int32)) hx hb dX3_rankOf_116 (by decide) ?_
    exact x_iret E X h dX3_rankOf_117
  replace h := if_f c_7 h
  by_cases c_8 : x0 = (26 : Int32)
  · have h := if_t c_8 h
    refine lv_tableIn (off := 115) (tgt := 116) hx hb dX3_rankOf_1 (by rw [c_8]; decide) (by rw [c_8]; decide) (by rw [c_8]; decide) (by decide) ?_
    refine lv_iconst (v := (4 : Int32)) hx hb dX3_rankOf_116 (by decide) ?_
    exact x_iret E X h dX3_rankOf_117
  replace h := if_f c_8 h
  by_cases c_9 : x0 = (27 : Int32)
  · have h := if_t c_9 h
    refine lv_tableIn (off := 115) (tgt := 116) hx hb dX3_rankOf_1 (by rw [c_9]; decide) (by rw [c_9]; decide) (by rw [c_9]; decide) (by decide) ?_
    refine lv_iconst (v := (4 : Int32)) hx hb dX3_rankOf_116 (by decide) ?_
    exact x_iret E X h dX3_rankOf_117
  replace h := if_f c_9 h
  refine lv_tableD (tgt := 120) hx hb dX3_rankOf_1 (by decide +kernel) (fun i hi q_10 => ?_) ?_
  · match i, hi, q_10 with
    | 0, _, q_10 => exact absurd (tbl_eq q_10 (by decide)) c_1
    | 1, _, q_10 => exact absurd (tbl_eq q_10 (by decide)) c_2
    | 2, _, q_10 => exact absurd (tbl_eq q_10 (by decide)) c_3
    | 3, _, _ => rfl
    | 4, _, _ => rfl
    | 5, _, _ => rfl
    | 6, _, _ => rfl
    | 7, _, _ => rfl
    | 8, _, _ => rfl
    | 9, _, _ => rfl
    | 10, _, _ => rfl
    | 11, _, _ => rfl
    | 12, _, _ => rfl
    | 13, _, _ => rfl
    | 14, _, q_10 => exact absurd (tbl_eq q_10 (by decide)) c_4
    | 15, _, q_10 => exact absurd (tbl_eq q_10 (by decide)) c_5
    | 16, _, _ => rfl
    | 17, _, _ => rfl
    | 18, _, q_10 => exact absurd (tbl_eq q_10 (by decide)) c_6
    | 19, _, _ => rfl
    | 20, _, q_10 => exact absurd (tbl_eq q_10 (by decide)) c_7
    | 21, _, q_10 => exact absurd (tbl_eq q_10 (by decide)) c_8
    | 22, _, q_10 => exact absurd (tbl_eq q_10 (by decide)) c_9
    | i + 23, hi, _ => exact absurd hi (by simp)
  refine lv_bipush (v := (6 : Int32)) hx hb dX3_rankOf_120 (by decide) ?_
  exact x_iret E X h dX3_rankOf_122
/-- SevenToAShadow$Reader.rankOf(I)I -/
theorem mX3_rankOf (l : Launch) (Z : XG) (hQ : wQ (List.length xL) Z) {S S' : Mem} {r : Int32} (x0 : Int32) (h : fX3_rankOf S x0 = some (r, S')) : XM l yX3_rankOf cX3_rankOf 1 (some .int) { frames := 0, cells := 0, slots := 0, locals := 0 } xL Z [.int x0] S (XQ xL Z r S') := by
  refine XM.of (own := RX3) (by decide +kernel) rfl rfl hQ (fun p e s m args below meth c E ls hl X => ?_)
  exact wX3_rankOf E S x0 h _ _ _ X hl
def fX3_settleDownTo_67 (k0 : Mem → Int32 → Int32 → O) (S : Mem) (x1 x2 x3 : Int32) : O := bnd (fX4_addCode_40 S x3) fun _ S_2 => ltm (mset S_2 38 13 ((S_2 38 13) - (1 : Int32))) fun S_3 => k0 S_3 x1 (x2 + (1 : Int32))
def fX3_settleDownTo_2_b (k0 : Mem → Int32 → Int32 → O) (S : Mem) (x1 x2 : Int32) : O := (if (40 : Int32) ≤ x2 then some ((0 : Int32), S) else (if (S 38 13) ≤ 0 then some ((0 : Int32), S) else (if (40 : Int32) < (S 38 13) then some ((0 : Int32), S) else gd (inB ((S 38 13) - (1 : Int32)) 40) <| lti (S 45 (((S 38 13) - (1 : Int32))).toNatClampNeg) fun x3_5 => bnd (fX3_rankOf S x3_5) fun r_6 S_7 => (if x1 ≤ r_6 then (if x3_5 = (7 : Int32) then ltm (mset S_7 38 14 ((S_7 38 14) - (1 : Int32))) fun S_10 => fX3_settleDownTo_67 k0 S_10 x1 x2 x3_5 else fX3_settleDownTo_67 k0 S_7 x1 x2 x3_5) else some ((0 : Int32), S_7)))))
def fX3_settleDownTo_2 : Nat → Mem → Int32 → Int32 → O
  | 0 => fun _ _ _ => none
  | n + 1 => fX3_settleDownTo_2_b (fX3_settleDownTo_2 n)
def fX3_settleDownTo (S : Mem) (x1 : Int32) : O := fX3_settleDownTo_2  FU S x1 (0 : Int32)
theorem dX3_settleDownTo_0 : decode cX3_settleDownTo 0 = .ok (.iconst 0, 1) := by decide +kernel
theorem dX3_settleDownTo_1 : decode cX3_settleDownTo 1 = .ok (.istore_n 2, 1) := by decide +kernel
theorem dX3_settleDownTo_2 : decode cX3_settleDownTo 2 = .ok (.iload_n 2, 1) := by decide +kernel
theorem dX3_settleDownTo_3 : decode cX3_settleDownTo 3 = .ok (.aload_n 0, 1) := by decide +kernel
theorem dX3_settleDownTo_4 : decode cX3_settleDownTo 4 = .ok (.getfield 26, 3) := by decide +kernel
theorem dX3_settleDownTo_7 : decode cX3_settleDownTo 7 = .ok (.arraylength, 1) := by decide +kernel
theorem dX3_settleDownTo_8 : decode cX3_settleDownTo 8 = .ok (.if_icmp .ge 83, 3) := by decide +kernel
theorem dX3_settleDownTo_11 : decode cX3_settleDownTo 11 = .ok (.aload_n 0, 1) := by decide +kernel
theorem dX3_settleDownTo_12 : decode cX3_settleDownTo 12 = .ok (.getfield 45, 3) := by decide +kernel
theorem dX3_settleDownTo_15 : decode cX3_settleDownTo 15 = .ok (.ifCond .le 76, 3) := by decide +kernel
theorem dX3_settleDownTo_18 : decode cX3_settleDownTo 18 = .ok (.aload_n 0, 1) := by decide +kernel
theorem dX3_settleDownTo_19 : decode cX3_settleDownTo 19 = .ok (.getfield 45, 3) := by decide +kernel
theorem dX3_settleDownTo_22 : decode cX3_settleDownTo 22 = .ok (.aload_n 0, 1) := by decide +kernel
theorem dX3_settleDownTo_23 : decode cX3_settleDownTo 23 = .ok (.getfield 26, 3) := by decide +kernel
theorem dX3_settleDownTo_26 : decode cX3_settleDownTo 26 = .ok (.arraylength, 1) := by decide +kernel
theorem dX3_settleDownTo_27 : decode cX3_settleDownTo 27 = .ok (.if_icmp .gt 64, 3) := by decide +kernel
theorem dX3_settleDownTo_30 : decode cX3_settleDownTo 30 = .ok (.aload_n 0, 1) := by decide +kernel
theorem dX3_settleDownTo_31 : decode cX3_settleDownTo 31 = .ok (.getfield 26, 3) := by decide +kernel
theorem dX3_settleDownTo_34 : decode cX3_settleDownTo 34 = .ok (.aload_n 0, 1) := by decide +kernel
theorem dX3_settleDownTo_35 : decode cX3_settleDownTo 35 = .ok (.getfield 45, 3) := by decide +kernel
theorem dX3_settleDownTo_38 : decode cX3_settleDownTo 38 = .ok (.iconst 1, 1) := by decide +kernel
theorem dX3_settleDownTo_39 : decode cX3_settleDownTo 39 = .ok (.isub, 1) := by decide +kernel
theorem dX3_settleDownTo_40 : decode cX3_settleDownTo 40 = .ok (.iaload, 1) := by decide +kernel
theorem dX3_settleDownTo_41 : decode cX3_settleDownTo 41 = .ok (.istore_n 3, 1) := by decide +kernel
theorem dX3_settleDownTo_42 : decode cX3_settleDownTo 42 = .ok (.iload_n 3, 1) := by decide +kernel
theorem dX3_settleDownTo_43 : decode cX3_settleDownTo 43 = .ok (.invokestatic 159, 3) := by decide +kernel
theorem dX3_settleDownTo_46 : decode cX3_settleDownTo 46 = .ok (.iload_n 1, 1) := by decide +kernel
theorem dX3_settleDownTo_47 : decode cX3_settleDownTo 47 = .ok (.if_icmp .ge 4, 3) := by decide +kernel
theorem dX3_settleDownTo_50 : decode cX3_settleDownTo 50 = .ok (.return_, 1) := by decide +kernel
theorem dX3_settleDownTo_51 : decode cX3_settleDownTo 51 = .ok (.iload_n 3, 1) := by decide +kernel
theorem dX3_settleDownTo_52 : decode cX3_settleDownTo 52 = .ok (.bipush 7, 2) := by decide +kernel
theorem dX3_settleDownTo_54 : decode cX3_settleDownTo 54 = .ok (.if_icmp .ne 13, 3) := by decide +kernel
theorem dX3_settleDownTo_57 : decode cX3_settleDownTo 57 = .ok (.aload_n 0, 1) := by decide +kernel
theorem dX3_settleDownTo_58 : decode cX3_settleDownTo 58 = .ok (.dup, 1) := by decide +kernel
theorem dX3_settleDownTo_59 : decode cX3_settleDownTo 59 = .ok (.getfield 48, 3) := by decide +kernel
theorem dX3_settleDownTo_62 : decode cX3_settleDownTo 62 = .ok (.iconst 1, 1) := by decide +kernel
theorem dX3_settleDownTo_63 : decode cX3_settleDownTo 63 = .ok (.isub, 1) := by decide +kernel
theorem dX3_settleDownTo_64 : decode cX3_settleDownTo 64 = .ok (.putfield 48, 3) := by decide +kernel
theorem dX3_settleDownTo_67 : decode cX3_settleDownTo 67 = .ok (.aload_n 0, 1) := by decide +kernel
theorem dX3_settleDownTo_68 : decode cX3_settleDownTo 68 = .ok (.getfield 22, 3) := by decide +kernel
theorem dX3_settleDownTo_71 : decode cX3_settleDownTo 71 = .ok (.iload_n 3, 1) := by decide +kernel
theorem dX3_settleDownTo_72 : decode cX3_settleDownTo 72 = .ok (.invokevirtual 147, 3) := by decide +kernel
theorem dX3_settleDownTo_75 : decode cX3_settleDownTo 75 = .ok (.aload_n 0, 1) := by decide +kernel
theorem dX3_settleDownTo_76 : decode cX3_settleDownTo 76 = .ok (.dup, 1) := by decide +kernel
theorem dX3_settleDownTo_77 : decode cX3_settleDownTo 77 = .ok (.getfield 45, 3) := by decide +kernel
theorem dX3_settleDownTo_80 : decode cX3_settleDownTo 80 = .ok (.iconst 1, 1) := by decide +kernel
theorem dX3_settleDownTo_81 : decode cX3_settleDownTo 81 = .ok (.isub, 1) := by decide +kernel
theorem dX3_settleDownTo_82 : decode cX3_settleDownTo 82 = .ok (.putfield 45, 3) := by decide +kernel
theorem dX3_settleDownTo_85 : decode cX3_settleDownTo 85 = .ok (.iinc 2 1, 3) := by decide +kernel
theorem dX3_settleDownTo_88 : decode cX3_settleDownTo 88 = .ok (.goto (-86), 3) := by decide +kernel
theorem dX3_settleDownTo_91 : decode cX3_settleDownTo 91 = .ok (.return_, 1) := by decide +kernel
set_option maxRecDepth 20000 in
theorem wX3_settleDownTo_67 {p : Program} {l : Launch} {e : Env} {s : State} {m : MethodId} {args : Array Value} {below : List Frame} {meth : Method} {c : Code} {Z : XG} {r : Int32} {S' : Mem} (E : XE p s m args meth c cX3_settleDownTo 4 RX3 none xL Z) (k0 : Mem → Int32 → Int32 → O)  (hk0 : ∀ (S : Mem) (x1 x2 : Int32), k0 S x1 x2 = some (r, S') → WN p l e { frames := 1, cells := 0, slots := 0, locals := 21 } s m args below meth c xL Z (XV xL Z S') S 2 4 [(0, .ref (Z.2.1 38)), (1, .int x1), (2, .int x2)] []) : ∀ (S : Mem) (x1 x2 x3 : Int32), fX3_settleDownTo_67 k0 S x1 x2 x3 = some (r, S') → WN p l e { frames := 1, cells := 0, slots := 0, locals := 21 } s m args below meth c xL Z (XV xL Z S') S 67 4 [(0, .ref (Z.2.1 38)), (1, .int x1), (2, .int x2), (3, .int x3)] [] := by
  obtain ⟨hx, hb, -, -, -, -, -, -, -, hQ⟩ := id E
  intro S x1 x2 x3 h H locs ls X hl
  unfold fX3_settleDownTo_67 at h
  refine lv_aload_n hx hb dX3_settleDownTo_67 rfl (lv_at hl 0 rfl) ?_
  refine x_getr E X ffX3_22 rfl rfl dX3_settleDownTo_68 ?_
  refine lv_iload_n hx hb dX3_settleDownTo_71 rfl (lv_at hl 3 rfl) ?_
  obtain ⟨r_1, S_2, hr_1, h⟩ := bnd_s h
  refine x_callVv E X cwX3_147 (mX4_addCode_40 l Z hQ  x3 hr_1) rfl rfl rfl rfl hl.1 rfl dX3_settleDownTo_72 (fun H locs X => ?_)
  refine lv_aload_n hx hb dX3_settleDownTo_75 rfl (lv_at hl 0 rfl) ?_
  refine lv_dup hx hb dX3_settleDownTo_76 rfl ?_
  refine x_get E X ffX3_45 rfl rfl dX3_settleDownTo_77 ?_
  refine lv_iconst (v := (1 : Int32)) hx hb dX3_settleDownTo_80 (by decide) ?_
  refine lv_isub hx hb dX3_settleDownTo_81 ?_
  obtain ⟨S_3, eS_3, h⟩ := ltm_s h
  refine x_put E X fpX3_45 rfl rfl dX3_settleDownTo_82 (fun H locs X => ?_)
  rw [← eS_3] at X
  refine lv_iinc (v := (x2 + (1 : Int32))) (lv' := [(2, .int (x2 + (1 : Int32))), (0, .ref (Z.2.1 38)), (1, .int x1), (3, .int x3)]) hx hb dX3_settleDownTo_85 hl (k := 2) rfl rfl (by decide) rfl (fun ls hl => ?_)
  refine lv_goto (tgt := 2) hx hb dX3_settleDownTo_88 (by decide) ?_
  exact hk0 S_3 x1 (x2 + (1 : Int32)) h _ _ _ X (lv_sub hl [1, 2, 0] rfl)
set_option maxRecDepth 20000 in
theorem wX3_settleDownTo_2_b {p : Program} {l : Launch} {e : Env} {s : State} {m : MethodId} {args : Array Value} {below : List Frame} {meth : Method} {c : Code} {Z : XG} {r : Int32} {S' : Mem} (E : XE p s m args meth c cX3_settleDownTo 4 RX3 none xL Z) (k0 : Mem → Int32 → Int32 → O)  (hk0 : ∀ (S : Mem) (x1 x2 : Int32), k0 S x1 x2 = some (r, S') → WN p l e { frames := 1, cells := 0, slots := 0, locals := 21 } s m args below meth c xL Z (XV xL Z S') S 2 4 [(0, .ref (Z.2.1 38)), (1, .int x1), (2, .int x2)] []) : ∀ (S : Mem) (x1 x2 : Int32), fX3_settleDownTo_2_b k0 S x1 x2 = some (r, S') → WN p l e { frames := 1, cells := 0, slots := 0, locals := 21 } s m args below meth c xL Z (XV xL Z S') S 2 4 [(0, .ref (Z.2.1 38)), (1, .int x1), (2, .int x2)] [] := by
  obtain ⟨hx, hb, -, -, -, -, -, -, -, hQ⟩ := id E
  intro S x1 x2 h H locs ls X hl
  unfold fX3_settleDownTo_2_b at h
  refine lv_iload_n hx hb dX3_settleDownTo_2 rfl (lv_at hl 2 rfl) ?_
  refine lv_aload_n hx hb dX3_settleDownTo_3 rfl (lv_at hl 0 rfl) ?_
  refine x_getr E X ffX3_26 rfl rfl dX3_settleDownTo_4 ?_
  refine x_alen E X (v := (40 : Int32)) rfl (by decide) dX3_settleDownTo_7 ?_
  refine lv_icmp_ge (tgt := 91) hx hb dX3_settleDownTo_8 (by decide) (fun c_1 => ?_) (fun c_1 => ?_)
  · have h := if_t c_1 h
    exact x_vret E X h dX3_settleDownTo_91
  · have h := if_f c_1 h
    refine lv_aload_n hx hb dX3_settleDownTo_11 rfl (lv_at hl 0 rfl) ?_
    refine x_get E X ffX3_45 rfl rfl dX3_settleDownTo_12 ?_
    refine lv_if_le (tgt := 91) hx hb dX3_settleDownTo_15 (by decide) (fun c_2 => ?_) (fun c_2 => ?_)
    · have h := if_t c_2 h
      exact x_vret E X h dX3_settleDownTo_91
    · have h := if_f c_2 h
      refine lv_aload_n hx hb dX3_settleDownTo_18 rfl (lv_at hl 0 rfl) ?_
      refine x_get E X ffX3_45 rfl rfl dX3_settleDownTo_19 ?_
      refine lv_aload_n hx hb dX3_settleDownTo_22 rfl (lv_at hl 0 rfl) ?_
      refine x_getr E X ffX3_26 rfl rfl dX3_settleDownTo_23 ?_
      refine x_alen E X (v := (40 : Int32)) rfl (by decide) dX3_settleDownTo_26 ?_
      refine lv_icmp_gt (tgt := 91) hx hb dX3_settleDownTo_27 (by decide) (fun c_3 => ?_) (fun c_3 => ?_)
      · have h := if_t c_3 h
        exact x_vret E X h dX3_settleDownTo_91
      · have h := if_f c_3 h
        refine lv_aload_n hx hb dX3_settleDownTo_30 rfl (lv_at hl 0 rfl) ?_
        refine x_getr E X ffX3_26 rfl rfl dX3_settleDownTo_31 ?_
        refine lv_aload_n hx hb dX3_settleDownTo_34 rfl (lv_at hl 0 rfl) ?_
        refine x_get E X ffX3_45 rfl rfl dX3_settleDownTo_35 ?_
        refine lv_iconst (v := (1 : Int32)) hx hb dX3_settleDownTo_38 (by decide) ?_
        refine lv_isub hx hb dX3_settleDownTo_39 ?_
        obtain ⟨g_4, h⟩ := gd_s h
        refine x_iald E X rfl g_4 dX3_settleDownTo_40 ?_
        obtain ⟨x3_5, ex3_5, h⟩ := lti_s h
        refine lv_nm ex3_5 ?_
        refine lv_istore_n (lv' := [(3, .int x3_5), (0, .ref (Z.2.1 38)), (1, .int x1), (2, .int x2)]) hx hb dX3_settleDownTo_41 rfl hl (by decide) rfl (fun ls hl => ?_)
        refine lv_iload_n hx hb dX3_settleDownTo_42 rfl (lv_at hl 0 rfl) ?_
        obtain ⟨r_6, S_7, hr_6, h⟩ := bnd_s h
        refine x_callS E X cwX3_159 (mX3_rankOf l Z hQ  x3_5 hr_6) rfl rfl hl.1 rfl dX3_settleDownTo_43 (fun H locs X => ?_)
        refine lv_iload_n hx hb dX3_settleDownTo_46 rfl (lv_at hl 2 rfl) ?_
        refine lv_icmp_ge (tgt := 51) hx hb dX3_settleDownTo_47 (by decide) (fun c_8 => ?_) (fun c_8 => ?_)
        · have h := if_t c_8 h
          refine lv_iload_n hx hb dX3_settleDownTo_51 rfl (lv_at hl 0 rfl) ?_
          refine lv_bipush (v := (7 : Int32)) hx hb dX3_settleDownTo_52 (by decide) ?_
          refine lv_icmp_ne (tgt := 67) hx hb dX3_settleDownTo_54 (by decide) (fun c_9 => ?_) (fun c_9 => ?_)
          · have h := if_f c_9 h
            exact wX3_settleDownTo_67 E k0 hk0 S_7 x1 x2 x3_5 h _ _ _ X (lv_sub hl [1, 2, 3, 0] rfl)
          · have h := if_t c_9 h
            refine lv_aload_n hx hb dX3_settleDownTo_57 rfl (lv_at hl 1 rfl) ?_
            refine lv_dup hx hb dX3_settleDownTo_58 rfl ?_
            refine x_get E X ffX3_48 rfl rfl dX3_settleDownTo_59 ?_
            refine lv_iconst (v := (1 : Int32)) hx hb dX3_settleDownTo_62 (by decide) ?_
            refine lv_isub hx hb dX3_settleDownTo_63 ?_
            obtain ⟨S_10, eS_10, h⟩ := ltm_s h
            refine x_put E X fpX3_48 rfl rfl dX3_settleDownTo_64 (fun H locs X => ?_)
            rw [← eS_10] at X
            exact wX3_settleDownTo_67 E k0 hk0 S_10 x1 x2 x3_5 h _ _ _ X (lv_sub hl [1, 2, 3, 0] rfl)
        · have h := if_f c_8 h
          exact x_vret E X h dX3_settleDownTo_50
theorem wX3_settleDownTo_2 {p : Program} {l : Launch} {e : Env} {s : State} {m : MethodId} {args : Array Value} {below : List Frame} {meth : Method} {c : Code} {Z : XG} {r : Int32} {S' : Mem} (E : XE p s m args meth c cX3_settleDownTo 4 RX3 none xL Z) : ∀ (n : Nat) (S : Mem) (x1 x2 : Int32), fX3_settleDownTo_2 n S x1 x2 = some (r, S') → WN p l e { frames := 1, cells := 0, slots := 0, locals := 21 } s m args below meth c xL Z (XV xL Z S') S 2 4 [(0, .ref (Z.2.1 38)), (1, .int x1), (2, .int x2)] [] := by
  intro n
  induction n with
  | zero => intro S x1 x2 h; exact absurd (show (none : O) = some _ from h) (by simp)
  | succ n ih => intro S x1 x2 h; exact wX3_settleDownTo_2_b E (fX3_settleDownTo_2 n) ih S x1 x2 h
set_option maxRecDepth 20000 in
theorem wX3_settleDownTo {p : Program} {l : Launch} {e : Env} {s : State} {m : MethodId} {args : Array Value} {below : List Frame} {meth : Method} {c : Code} {Z : XG} {r : Int32} {S' : Mem} (E : XE p s m args meth c cX3_settleDownTo 4 RX3 none xL Z) : ∀ (S : Mem) (x1 : Int32), fX3_settleDownTo  S x1 = some (r, S') → WN p l e { frames := 1, cells := 0, slots := 0, locals := 21 } s m args below meth c xL Z (XV xL Z S') S 0 4 [(0, .ref (Z.2.1 38)), (1, .int x1)] [] := by
  obtain ⟨hx, hb, -, -, -, -, -, -, -, hQ⟩ := id E
  intro S x1 h H locs ls X hl
  unfold fX3_settleDownTo at h
  refine lv_iconst (v := (0 : Int32)) hx hb dX3_settleDownTo_0 (by decide) ?_
  refine lv_istore_n (lv' := [(2, .int (0 : Int32)), (0, .ref (Z.2.1 38)), (1, .int x1)]) hx hb dX3_settleDownTo_1 rfl hl (by decide) rfl (fun ls hl => ?_)
  exact wX3_settleDownTo_2 E   FU S x1 (0 : Int32) h _ _ _ X (lv_sub hl [1, 2, 0] rfl)
/-- SevenToAShadow$Reader.settleDownTo(I)V -/
theorem mX3_settleDownTo (l : Launch) (Z : XG) (hQ : wQ (List.length xL) Z) {S S' : Mem} {r : Int32} (x1 : Int32) (h : fX3_settleDownTo S x1 = some (r, S')) : XM l yX3_settleDownTo cX3_settleDownTo 4 none { frames := 1, cells := 0, slots := 0, locals := 21 } xL Z [.ref (Z.2.1 38), .int x1] S (XV xL Z S') := by
  refine XM.of (own := RX3) (by decide +kernel) rfl rfl hQ (fun p e s m args below meth c E ls hl X => ?_)
  exact wX3_settleDownTo E S x1 h _ _ _ X hl
def fX3_takeOperator (S : Mem) : O := bnd (fX3_rankOf S (S 38 6)) fun r_1 S_2 => bnd (fX3_settleDownTo S_2 r_1) fun _ S_4 => bnd (fX3_hold S_4 (S_4 38 6)) fun _ S_6 => some ((0 : Int32), S_6)
theorem dX3_takeOperator_0 : decode cX3_takeOperator 0 = .ok (.aload_n 0, 1) := by decide +kernel
theorem dX3_takeOperator_1 : decode cX3_takeOperator 1 = .ok (.aload_n 0, 1) := by decide +kernel
theorem dX3_takeOperator_2 : decode cX3_takeOperator 2 = .ok (.getfield 61, 3) := by decide +kernel
theorem dX3_takeOperator_5 : decode cX3_takeOperator 5 = .ok (.invokestatic 159, 3) := by decide +kernel
theorem dX3_takeOperator_8 : decode cX3_takeOperator 8 = .ok (.invokevirtual 153, 3) := by decide +kernel
theorem dX3_takeOperator_11 : decode cX3_takeOperator 11 = .ok (.aload_n 0, 1) := by decide +kernel
theorem dX3_takeOperator_12 : decode cX3_takeOperator 12 = .ok (.aload_n 0, 1) := by decide +kernel
theorem dX3_takeOperator_13 : decode cX3_takeOperator 13 = .ok (.getfield 61, 3) := by decide +kernel
theorem dX3_takeOperator_16 : decode cX3_takeOperator 16 = .ok (.invokevirtual 144, 3) := by decide +kernel
theorem dX3_takeOperator_19 : decode cX3_takeOperator 19 = .ok (.return_, 1) := by decide +kernel
set_option maxRecDepth 20000 in
theorem wX3_takeOperator {p : Program} {l : Launch} {e : Env} {s : State} {m : MethodId} {args : Array Value} {below : List Frame} {meth : Method} {c : Code} {Z : XG} {r : Int32} {S' : Mem} (E : XE p s m args meth c cX3_takeOperator 1 RX3 none xL Z) : ∀ (S : Mem), fX3_takeOperator  S  = some (r, S') → WN p l e { frames := 2, cells := 0, slots := 0, locals := 44 } s m args below meth c xL Z (XV xL Z S') S 0 1 [(0, .ref (Z.2.1 38))] [] := by
  obtain ⟨hx, hb, -, -, -, -, -, -, -, hQ⟩ := id E
  intro S  h H locs ls X hl
  unfold fX3_takeOperator at h
  refine lv_aload_n hx hb dX3_takeOperator_0 rfl (lv_at hl 0 rfl) ?_
  refine lv_aload_n hx hb dX3_takeOperator_1 rfl (lv_at hl 0 rfl) ?_
  refine x_get E X ffX3_61 rfl rfl dX3_takeOperator_2 ?_
  obtain ⟨r_1, S_2, hr_1, h⟩ := bnd_s h
  refine x_callS E X cwX3_159 (mX3_rankOf l Z hQ  (S 38 6) hr_1) rfl rfl hl.1 rfl dX3_takeOperator_5 (fun H locs X => ?_)
  obtain ⟨r_3, S_4, hr_3, h⟩ := bnd_s h
  refine x_callVv E X cwX3_153 (mX3_settleDownTo l Z hQ  r_1 hr_3) rfl rfl rfl rfl hl.1 rfl dX3_takeOperator_8 (fun H locs X => ?_)
  refine lv_aload_n hx hb dX3_takeOperator_11 rfl (lv_at hl 0 rfl) ?_
  refine lv_aload_n hx hb dX3_takeOperator_12 rfl (lv_at hl 0 rfl) ?_
  refine x_get E X ffX3_61 rfl rfl dX3_takeOperator_13 ?_
  obtain ⟨r_5, S_6, hr_5, h⟩ := bnd_s h
  refine x_callVv E X cwX3_144 (mX3_hold l Z hQ  (S_4 38 6) hr_5) rfl rfl rfl rfl hl.1 rfl dX3_takeOperator_16 (fun H locs X => ?_)
  exact x_vret E X h dX3_takeOperator_19
/-- SevenToAShadow$Reader.takeOperator()V -/
theorem mX3_takeOperator (l : Launch) (Z : XG) (hQ : wQ (List.length xL) Z) {S S' : Mem} {r : Int32} (h : fX3_takeOperator S  = some (r, S')) : XM l yX3_takeOperator cX3_takeOperator 1 none { frames := 2, cells := 0, slots := 0, locals := 44 } xL Z [.ref (Z.2.1 38)] S (XV xL Z S') := by
  refine XM.of (own := RX3) (by decide +kernel) rfl rfl hQ (fun p e s m args below meth c E ls hl X => ?_)
  exact wX3_takeOperator E S  h _ _ _ X hl
def fX3_closeBracket_17 (S : Mem) : O := ltm (mset S 38 15 ((S 38 15) - (1 : Int32))) fun S_1 => ltm (mset S_1 38 14 ((S_1 38 14) - (1 : Int32))) fun S_2 => some ((0 : Int32), S_2)
def fX3_closeBracket (S : Mem) : O := (if (S 38 13) ≤ 0 then fX3_closeBracket_17  S  else ltm (mset S 38 13 ((S 38 13) - (1 : Int32))) fun S_2 => fX3_closeBracket_17  S_2 )
theorem dX3_closeBracket_0 : decode cX3_closeBracket 0 = .ok (.aload_n 0, 1) := by decide +kernel
theorem dX3_closeBracket_1 : decode cX3_closeBracket 1 = .ok (.getfield 45, 3) := by decide +kernel
theorem dX3_closeBracket_4 : decode cX3_closeBracket 4 = .ok (.ifCond .le 13, 3) := by decide +kernel
theorem dX3_closeBracket_7 : decode cX3_closeBracket 7 = .ok (.aload_n 0, 1) := by decide +kernel
theorem dX3_closeBracket_8 : decode cX3_closeBracket 8 = .ok (.dup, 1) := by decide +kernel
theorem dX3_closeBracket_9 : decode cX3_closeBracket 9 = .ok (.getfield 45, 3) := by decide +kernel
theorem dX3_closeBracket_12 : decode cX3_closeBracket 12 = .ok (.iconst 1, 1) := by decide +kernel
theorem dX3_closeBracket_13 : decode cX3_closeBracket 13 = .ok (.isub, 1) := by decide +kernel
theorem dX3_closeBracket_14 : decode cX3_closeBracket 14 = .ok (.putfield 45, 3) := by decide +kernel
theorem dX3_closeBracket_17 : decode cX3_closeBracket 17 = .ok (.aload_n 0, 1) := by decide +kernel
theorem dX3_closeBracket_18 : decode cX3_closeBracket 18 = .ok (.dup, 1) := by decide +kernel
theorem dX3_closeBracket_19 : decode cX3_closeBracket 19 = .ok (.getfield 51, 3) := by decide +kernel
theorem dX3_closeBracket_22 : decode cX3_closeBracket 22 = .ok (.iconst 1, 1) := by decide +kernel
theorem dX3_closeBracket_23 : decode cX3_closeBracket 23 = .ok (.isub, 1) := by decide +kernel
theorem dX3_closeBracket_24 : decode cX3_closeBracket 24 = .ok (.putfield 51, 3) := by decide +kernel
theorem dX3_closeBracket_27 : decode cX3_closeBracket 27 = .ok (.aload_n 0, 1) := by decide +kernel
theorem dX3_closeBracket_28 : decode cX3_closeBracket 28 = .ok (.dup, 1) := by decide +kernel
theorem dX3_closeBracket_29 : decode cX3_closeBracket 29 = .ok (.getfield 48, 3) := by decide +kernel
theorem dX3_closeBracket_32 : decode cX3_closeBracket 32 = .ok (.iconst 1, 1) := by decide +kernel
theorem dX3_closeBracket_33 : decode cX3_closeBracket 33 = .ok (.isub, 1) := by decide +kernel
theorem dX3_closeBracket_34 : decode cX3_closeBracket 34 = .ok (.putfield 48, 3) := by decide +kernel
theorem dX3_closeBracket_37 : decode cX3_closeBracket 37 = .ok (.return_, 1) := by decide +kernel
set_option maxRecDepth 20000 in
theorem wX3_closeBracket_17 {p : Program} {l : Launch} {e : Env} {s : State} {m : MethodId} {args : Array Value} {below : List Frame} {meth : Method} {c : Code} {Z : XG} {r : Int32} {S' : Mem} (E : XE p s m args meth c cX3_closeBracket 1 RX3 none xL Z) : ∀ (S : Mem), fX3_closeBracket_17  S  = some (r, S') → WN p l e { frames := 0, cells := 0, slots := 0, locals := 0 } s m args below meth c xL Z (XV xL Z S') S 17 1 [(0, .ref (Z.2.1 38))] [] := by
  obtain ⟨hx, hb, -, -, -, -, -, -, -, hQ⟩ := id E
  intro S  h H locs ls X hl
  unfold fX3_closeBracket_17 at h
  refine lv_aload_n hx hb dX3_closeBracket_17 rfl (lv_at hl 0 rfl) ?_
  refine lv_dup hx hb dX3_closeBracket_18 rfl ?_
  refine x_get E X ffX3_51 rfl rfl dX3_closeBracket_19 ?_
  refine lv_iconst (v := (1 : Int32)) hx hb dX3_closeBracket_22 (by decide) ?_
  refine lv_isub hx hb dX3_closeBracket_23 ?_
  obtain ⟨S_1, eS_1, h⟩ := ltm_s h
  refine x_put E X fpX3_51 rfl rfl dX3_closeBracket_24 (fun H locs X => ?_)
  rw [← eS_1] at X
  refine lv_aload_n hx hb dX3_closeBracket_27 rfl (lv_at hl 0 rfl) ?_
  refine lv_dup hx hb dX3_closeBracket_28 rfl ?_
  refine x_get E X ffX3_48 rfl rfl dX3_closeBracket_29 ?_
  refine lv_iconst (v := (1 : Int32)) hx hb dX3_closeBracket_32 (by decide) ?_
  refine lv_isub hx hb dX3_closeBracket_33 ?_
  obtain ⟨S_2, eS_2, h⟩ := ltm_s h
  refine x_put E X fpX3_48 rfl rfl dX3_closeBracket_34 (fun H locs X => ?_)
  rw [← eS_2] at X
  exact x_vret E X h dX3_closeBracket_37
set_option maxRecDepth 20000 in
theorem wX3_closeBracket {p : Program} {l : Launch} {e : Env} {s : State} {m : MethodId} {args : Array Value} {below : List Frame} {meth : Method} {c : Code} {Z : XG} {r : Int32} {S' : Mem} (E : XE p s m args meth c cX3_closeBracket 1 RX3 none xL Z) : ∀ (S : Mem), fX3_closeBracket  S  = some (r, S') → WN p l e { frames := 0, cells := 0, slots := 0, locals := 0 } s m args below meth c xL Z (XV xL Z S') S 0 1 [(0, .ref (Z.2.1 38))] [] := by
  obtain ⟨hx, hb, -, -, -, -, -, -, -, hQ⟩ := id E
  intro S  h H locs ls X hl
  unfold fX3_closeBracket at h
  refine lv_aload_n hx hb dX3_closeBracket_0 rfl (lv_at hl 0 rfl) ?_
  refine x_get E X ffX3_45 rfl rfl dX3_closeBracket_1 ?_
  refine lv_if_le (tgt := 17) hx hb dX3_closeBracket_4 (by decide) (fun c_1 => ?_) (fun c_1 => ?_)
  · have h := if_t c_1 h
    exact wX3_closeBracket_17 E   S  h _ _ _ X hl
  · have h := if_f c_1 h
    refine lv_aload_n hx hb dX3_closeBracket_7 rfl (lv_at hl 0 rfl) ?_
    refine lv_dup hx hb dX3_closeBracket_8 rfl ?_
    refine x_get E X ffX3_45 rfl rfl dX3_closeBracket_9 ?_
    refine lv_iconst (v := (1 : Int32)) hx hb dX3_closeBracket_12 (by decide) ?_
    refine lv_isub hx hb dX3_closeBracket_13 ?_
    obtain ⟨S_2, eS_2, h⟩ := ltm_s h
    refine x_put E X fpX3_45 rfl rfl dX3_closeBracket_14 (fun H locs X => ?_)
    rw [← eS_2] at X
    exact wX3_closeBracket_17 E   S_2  h _ _ _ X hl
/-- SevenToAShadow$Reader.closeBracket()V -/
theorem mX3_closeBracket (l : Launch) (Z : XG) (hQ : wQ (List.length xL) Z) {S S' : Mem} {r : Int32} (h : fX3_closeBracket S  = some (r, S')) : XM l yX3_closeBracket cX3_closeBracket 1 none { frames := 0, cells := 0, slots := 0, locals := 0 } xL Z [.ref (Z.2.1 38)] S (XV xL Z S') := by
  refine XM.of (own := RX3) (by decide +kernel) rfl rfl hQ (fun p e s m args below meth c E ls hl X => ?_)
  exact wX3_closeBracket E S  h _ _ _ X hl
def fX3_takeAfterClaim_17 (S : Mem) : O := bnd (fX3_takeOperator S ) fun _ S_2 => ltm (mset S_2 38 11 (0 : Int32)) fun S_3 => ltm (mset S_3 38 9 (2 : Int32)) fun S_4 => some ((0 : Int32), S_4)
def fX3_takeAfterClaim_68 (S : Mem) : O := (if (S 38 6) = (18 : Int32) then (if (S 38 15) = 0 then bnd (fX3_settleDownTo S (1 : Int32)) fun _ S_4 => bnd (fX3_closeLine S_4 ) fun _ S_6 => some ((0 : Int32), S_6) else some ((1 : Int32), S)) else some ((1 : Int32), S))
def fX3_takeAfterClaim (S : Mem) : O := (if (S 38 6) = (6 : Int32) then fX3_takeAfterClaim_17  S  else (if (S 38 6) = (5 : Int32) then fX3_takeAfterClaim_17  S  else (if (S 38 6) = (24 : Int32) then (if (S 38 15) ≤ 0 then fX3_takeAfterClaim_68  S  else bnd (fX3_settleDownTo S (1 : Int32)) fun _ S_6 => bnd (fX3_closeBracket S_6 ) fun _ S_8 => ltm (mset S_8 38 9 (6 : Int32)) fun S_9 => some ((0 : Int32), S_9)) else fX3_takeAfterClaim_68  S )))
theorem dX3_takeAfterClaim_0 : decode cX3_takeAfterClaim 0 = .ok (.aload_n 0, 1) := by decide +kernel
theorem dX3_takeAfterClaim_1 : decode cX3_takeAfterClaim 1 = .ok (.getfield 61, 3) := by decide +kernel
theorem dX3_takeAfterClaim_4 : decode cX3_takeAfterClaim 4 = .ok (.bipush 6, 2) := by decide +kernel
theorem dX3_takeAfterClaim_6 : decode cX3_takeAfterClaim 6 = .ok (.if_icmp .eq 11, 3) := by decide +kernel
theorem dX3_takeAfterClaim_9 : decode cX3_takeAfterClaim 9 = .ok (.aload_n 0, 1) := by decide +kernel
theorem dX3_takeAfterClaim_10 : decode cX3_takeAfterClaim 10 = .ok (.getfield 61, 3) := by decide +kernel
theorem dX3_takeAfterClaim_13 : decode cX3_takeAfterClaim 13 = .ok (.iconst 5, 1) := by decide +kernel
theorem dX3_takeAfterClaim_14 : decode cX3_takeAfterClaim 14 = .ok (.if_icmp .ne 20, 3) := by decide +kernel
theorem dX3_takeAfterClaim_17 : decode cX3_takeAfterClaim 17 = .ok (.aload_n 0, 1) := by decide +kernel
theorem dX3_takeAfterClaim_18 : decode cX3_takeAfterClaim 18 = .ok (.invokevirtual 150, 3) := by decide +kernel
theorem dX3_takeAfterClaim_21 : decode cX3_takeAfterClaim 21 = .ok (.aload_n 0, 1) := by decide +kernel
theorem dX3_takeAfterClaim_22 : decode cX3_takeAfterClaim 22 = .ok (.iconst 0, 1) := by decide +kernel
theorem dX3_takeAfterClaim_23 : decode cX3_takeAfterClaim 23 = .ok (.putfield 133, 3) := by decide +kernel
theorem dX3_takeAfterClaim_26 : decode cX3_takeAfterClaim 26 = .ok (.aload_n 0, 1) := by decide +kernel
theorem dX3_takeAfterClaim_27 : decode cX3_takeAfterClaim 27 = .ok (.iconst 2, 1) := by decide +kernel
theorem dX3_takeAfterClaim_28 : decode cX3_takeAfterClaim 28 = .ok (.putfield 42, 3) := by decide +kernel
theorem dX3_takeAfterClaim_31 : decode cX3_takeAfterClaim 31 = .ok (.goto 67, 3) := by decide +kernel
theorem dX3_takeAfterClaim_34 : decode cX3_takeAfterClaim 34 = .ok (.aload_n 0, 1) := by decide +kernel
theorem dX3_takeAfterClaim_35 : decode cX3_takeAfterClaim 35 = .ok (.getfield 61, 3) := by decide +kernel
theorem dX3_takeAfterClaim_38 : decode cX3_takeAfterClaim 38 = .ok (.bipush 24, 2) := by decide +kernel
theorem dX3_takeAfterClaim_40 : decode cX3_takeAfterClaim 40 = .ok (.if_icmp .ne 28, 3) := by decide +kernel
theorem dX3_takeAfterClaim_43 : decode cX3_takeAfterClaim 43 = .ok (.aload_n 0, 1) := by decide +kernel
theorem dX3_takeAfterClaim_44 : decode cX3_takeAfterClaim 44 = .ok (.getfield 51, 3) := by decide +kernel
theorem dX3_takeAfterClaim_47 : decode cX3_takeAfterClaim 47 = .ok (.ifCond .le 21, 3) := by decide +kernel
theorem dX3_takeAfterClaim_50 : decode cX3_takeAfterClaim 50 = .ok (.aload_n 0, 1) := by decide +kernel
theorem dX3_takeAfterClaim_51 : decode cX3_takeAfterClaim 51 = .ok (.iconst 1, 1) := by decide +kernel
theorem dX3_takeAfterClaim_52 : decode cX3_takeAfterClaim 52 = .ok (.invokevirtual 153, 3) := by decide +kernel
theorem dX3_takeAfterClaim_55 : decode cX3_takeAfterClaim 55 = .ok (.aload_n 0, 1) := by decide +kernel
theorem dX3_takeAfterClaim_56 : decode cX3_takeAfterClaim 56 = .ok (.invokevirtual 156, 3) := by decide +kernel
theorem dX3_takeAfterClaim_59 : decode cX3_takeAfterClaim 59 = .ok (.aload_n 0, 1) := by decide +kernel
theorem dX3_takeAfterClaim_60 : decode cX3_takeAfterClaim 60 = .ok (.bipush 6, 2) := by decide +kernel
theorem dX3_takeAfterClaim_62 : decode cX3_takeAfterClaim 62 = .ok (.putfield 42, 3) := by decide +kernel
theorem dX3_takeAfterClaim_65 : decode cX3_takeAfterClaim 65 = .ok (.goto 33, 3) := by decide +kernel
theorem dX3_takeAfterClaim_68 : decode cX3_takeAfterClaim 68 = .ok (.aload_n 0, 1) := by decide +kernel
theorem dX3_takeAfterClaim_69 : decode cX3_takeAfterClaim 69 = .ok (.getfield 61, 3) := by decide +kernel
theorem dX3_takeAfterClaim_72 : decode cX3_takeAfterClaim 72 = .ok (.bipush 18, 2) := by decide +kernel
theorem dX3_takeAfterClaim_74 : decode cX3_takeAfterClaim 74 = .ok (.if_icmp .ne 22, 3) := by decide +kernel
theorem dX3_takeAfterClaim_77 : decode cX3_takeAfterClaim 77 = .ok (.aload_n 0, 1) := by decide +kernel
theorem dX3_takeAfterClaim_78 : decode cX3_takeAfterClaim 78 = .ok (.getfield 51, 3) := by decide +kernel
theorem dX3_takeAfterClaim_81 : decode cX3_takeAfterClaim 81 = .ok (.ifCond .ne 15, 3) := by decide +kernel
theorem dX3_takeAfterClaim_84 : decode cX3_takeAfterClaim 84 = .ok (.aload_n 0, 1) := by decide +kernel
theorem dX3_takeAfterClaim_85 : decode cX3_takeAfterClaim 85 = .ok (.iconst 1, 1) := by decide +kernel
theorem dX3_takeAfterClaim_86 : decode cX3_takeAfterClaim 86 = .ok (.invokevirtual 153, 3) := by decide +kernel
theorem dX3_takeAfterClaim_89 : decode cX3_takeAfterClaim 89 = .ok (.aload_n 0, 1) := by decide +kernel
theorem dX3_takeAfterClaim_90 : decode cX3_takeAfterClaim 90 = .ok (.invokevirtual 137, 3) := by decide +kernel
theorem dX3_takeAfterClaim_93 : decode cX3_takeAfterClaim 93 = .ok (.goto 5, 3) := by decide +kernel
theorem dX3_takeAfterClaim_96 : decode cX3_takeAfterClaim 96 = .ok (.iconst 1, 1) := by decide +kernel
theorem dX3_takeAfterClaim_97 : decode cX3_takeAfterClaim 97 = .ok (.ireturn, 1) := by decide +kernel
theorem dX3_takeAfterClaim_98 : decode cX3_takeAfterClaim 98 = .ok (.iconst 0, 1) := by decide +kernel
theorem dX3_takeAfterClaim_99 : decode cX3_takeAfterClaim 99 = .ok (.ireturn, 1) := by decide +kernel
set_option maxRecDepth 20000 in
theorem wX3_takeAfterClaim_17 {p : Program} {l : Launch} {e : Env} {s : State} {m : MethodId} {args : Array Value} {below : List Frame} {meth : Method} {c : Code} {Z : XG} {r : Int32} {S' : Mem} (E : XE p s m args meth c cX3_takeAfterClaim 1 RX3 (some .int) xL Z) : ∀ (S : Mem), fX3_takeAfterClaim_17  S  = some (r, S') → WN p l e { frames := 3, cells := 0, slots := 0, locals := 64 } s m args below meth c xL Z (XQ xL Z r S') S 17 1 [(0, .ref (Z.2.1 38))] [] := by
  obtain ⟨hx, hb, -, -, -, -, -, -, -, hQ⟩ := id E
  intro S  h H locs ls X hl
  unfold fX3_takeAfterClaim_17 at h
  refine lv_aload_n hx hb dX3_takeAfterClaim_17 rfl (lv_at hl 0 rfl) ?_
  obtain ⟨r_1, S_2, hr_1, h⟩ := bnd_s h
  refine x_callVv E X cwX3_150 (mX3_takeOperator l Z hQ   hr_1) rfl rfl rfl rfl hl.1 rfl dX3_takeAfterClaim_18 (fun H locs X => ?_)
  refine lv_aload_n hx hb dX3_takeAfterClaim_21 rfl (lv_at hl 0 rfl) ?_
  refine lv_iconst (v := (0 : Int32)) hx hb dX3_takeAfterClaim_22 (by decide) ?_
  obtain ⟨S_3, eS_3, h⟩ := ltm_s h
  refine x_putB E X fpX3_133 rfl rfl rfl dX3_takeAfterClaim_23 (fun H locs X => ?_)
  rw [← eS_3] at X
  refine lv_aload_n hx hb dX3_takeAfterClaim_26 rfl (lv_at hl 0 rfl) ?_
  refine lv_iconst (v := (2 : Int32)) hx hb dX3_takeAfterClaim_27 (by decide) ?_
  obtain ⟨S_4, eS_4, h⟩ := ltm_s h
  refine x_put E X fpX3_42 rfl rfl dX3_takeAfterClaim_28 (fun H locs X => ?_)
  rw [← eS_4] at X
  refine lv_goto (tgt := 98) hx hb dX3_takeAfterClaim_31 (by decide) ?_
  refine lv_iconst (v := (0 : Int32)) hx hb dX3_takeAfterClaim_98 (by decide) ?_
  exact x_iret E X h dX3_takeAfterClaim_99
set_option maxRecDepth 20000 in
theorem wX3_takeAfterClaim_68 {p : Program} {l : Launch} {e : Env} {s : State} {m : MethodId} {args : Array Value} {below : List Frame} {meth : Method} {c : Code} {Z : XG} {r : Int32} {S' : Mem} (E : XE p s m args meth c cX3_takeAfterClaim 1 RX3 (some .int) xL Z) : ∀ (S : Mem), fX3_takeAfterClaim_68  S  = some (r, S') → WN p l e { frames := 3, cells := 0, slots := 0, locals := 64 } s m args below meth c xL Z (XQ xL Z r S') S 68 1 [(0, .ref (Z.2.1 38))] [] := by
  obtain ⟨hx, hb, -, -, -, -, -, -, -, hQ⟩ := id E
  intro S  h H locs ls X hl
  unfold fX3_takeAfterClaim_68 at h
  refine lv_aload_n hx hb dX3_takeAfterClaim_68 rfl (lv_at hl 0 rfl) ?_
  refine x_get E X ffX3_61 rfl rfl dX3_takeAfterClaim_69 ?_
  refine lv_bipush (v := (18 : Int32)) hx hb dX3_takeAfterClaim_72 (by decide) ?_
  refine lv_icmp_ne (tgt := 96) hx hb dX3_takeAfterClaim_74 (by decide) (fun c_1 => ?_) (fun c_1 => ?_)
  · have h := if_f c_1 h
    refine lv_iconst (v := (1 : Int32)) hx hb dX3_takeAfterClaim_96 (by decide) ?_
    exact x_iret E X h dX3_takeAfterClaim_97
  · have h := if_t c_1 h
    refine lv_aload_n hx hb dX3_takeAfterClaim_77 rfl (lv_at hl 0 rfl) ?_
    refine x_get E X ffX3_51 rfl rfl dX3_takeAfterClaim_78 ?_
    refine lv_if_ne (tgt := 96) hx hb dX3_takeAfterClaim_81 (by decide) (fun c_2 => ?_) (fun c_2 => ?_)
    · have h := if_f c_2 h
      refine lv_iconst (v := (1 : Int32)) hx hb dX3_takeAfterClaim_96 (by decide) ?_
      exact x_iret E X h dX3_takeAfterClaim_97
    · have h := if_t c_2 h
      refine lv_aload_n hx hb dX3_takeAfterClaim_84 rfl (lv_at hl 0 rfl) ?_
      refine lv_iconst (v := (1 : Int32)) hx hb dX3_takeAfterClaim_85 (by decide) ?_
      obtain ⟨r_3, S_4, hr_3, h⟩ := bnd_s h
      refine x_callVv E X cwX3_153 (mX3_settleDownTo l Z hQ  (1 : Int32) hr_3) rfl rfl rfl rfl hl.1 rfl dX3_takeAfterClaim_86 (fun H locs X => ?_)
      refine lv_aload_n hx hb dX3_takeAfterClaim_89 rfl (lv_at hl 0 rfl) ?_
      obtain ⟨r_5, S_6, hr_5, h⟩ := bnd_s h
      refine x_callVv E X cwX3_137 (mX3_closeLine l Z hQ   hr_5) rfl rfl rfl rfl hl.1 rfl dX3_takeAfterClaim_90 (fun H locs X => ?_)
      refine lv_goto (tgt := 98) hx hb dX3_takeAfterClaim_93 (by decide) ?_
      refine lv_iconst (v := (0 : Int32)) hx hb dX3_takeAfterClaim_98 (by decide) ?_
      exact x_iret E X h dX3_takeAfterClaim_99
set_option maxRecDepth 20000 in
theorem wX3_takeAfterClaim {p : Program} {l : Launch} {e : Env} {s : State} {m : MethodId} {args : Array Value} {below : List Frame} {meth : Method} {c : Code} {Z : XG} {r : Int32} {S' : Mem} (E : XE p s m args meth c cX3_takeAfterClaim 1 RX3 (some .int) xL Z) : ∀ (S : Mem), fX3_takeAfterClaim  S  = some (r, S') → WN p l e { frames := 3, cells := 0, slots := 0, locals := 64 } s m args below meth c xL Z (XQ xL Z r S') S 0 1 [(0, .ref (Z.2.1 38))] [] := by
  obtain ⟨hx, hb, -, -, -, -, -, -, -, hQ⟩ := id E
  intro S  h H locs ls X hl
  unfold fX3_takeAfterClaim at h
  refine lv_aload_n hx hb dX3_takeAfterClaim_0 rfl (lv_at hl 0 rfl) ?_
  refine x_get E X ffX3_61 rfl rfl dX3_takeAfterClaim_1 ?_
  refine lv_bipush (v := (6 : Int32)) hx hb dX3_takeAfterClaim_4 (by decide) ?_
  refine lv_icmp_eq (tgt := 17) hx hb dX3_takeAfterClaim_6 (by decide) (fun c_1 => ?_) (fun c_1 => ?_)
  · have h := if_t c_1 h
    exact wX3_takeAfterClaim_17 E   S  h _ _ _ X hl
  · have h := if_f c_1 h
    refine lv_aload_n hx hb dX3_takeAfterClaim_9 rfl (lv_at hl 0 rfl) ?_
    refine x_get E X ffX3_61 rfl rfl dX3_takeAfterClaim_10 ?_
    refine lv_iconst (v := (5 : Int32)) hx hb dX3_takeAfterClaim_13 (by decide) ?_
    refine lv_icmp_ne (tgt := 34) hx hb dX3_takeAfterClaim_14 (by decide) (fun c_2 => ?_) (fun c_2 => ?_)
    · have h := if_f c_2 h
      refine lv_aload_n hx hb dX3_takeAfterClaim_34 rfl (lv_at hl 0 rfl) ?_
      refine x_get E X ffX3_61 rfl rfl dX3_takeAfterClaim_35 ?_
      refine lv_bipush (v := (24 : Int32)) hx hb dX3_takeAfterClaim_38 (by decide) ?_
      refine lv_icmp_ne (tgt := 68) hx hb dX3_takeAfterClaim_40 (by decide) (fun c_3 => ?_) (fun c_3 => ?_)
      · have h := if_f c_3 h
        exact wX3_takeAfterClaim_68 E   S  h _ _ _ X hl
      · have h := if_t c_3 h
        refine lv_aload_n hx hb dX3_takeAfterClaim_43 rfl (lv_at hl 0 rfl) ?_
        refine x_get E X ffX3_51 rfl rfl dX3_takeAfterClaim_44 ?_
        refine lv_if_le (tgt := 68) hx hb dX3_takeAfterClaim_47 (by decide) (fun c_4 => ?_) (fun c_4 => ?_)
        · have h := if_t c_4 h
          exact wX3_takeAfterClaim_68 E   S  h _ _ _ X hl
        · have h := if_f c_4 h
          refine lv_aload_n hx hb dX3_takeAfterClaim_50 rfl (lv_at hl 0 rfl) ?_
          refine lv_iconst (v := (1 : Int32)) hx hb dX3_takeAfterClaim_51 (by decide) ?_
          obtain ⟨r_5, S_6, hr_5, h⟩ := bnd_s h
          refine x_callVv E X cwX3_153 (mX3_settleDownTo l Z hQ  (1 : Int32) hr_5) rfl rfl rfl rfl hl.1 rfl dX3_takeAfterClaim_52 (fun H locs X => ?_)
          refine lv_aload_n hx hb dX3_takeAfterClaim_55 rfl (lv_at hl 0 rfl) ?_
          obtain ⟨r_7, S_8, hr_7, h⟩ := bnd_s h
          refine x_callVv E X cwX3_156 (mX3_closeBracket l Z hQ   hr_7) rfl rfl rfl rfl hl.1 rfl dX3_takeAfterClaim_56 (fun H locs X => ?_)
          refine lv_aload_n hx hb dX3_takeAfterClaim_59 rfl (lv_at hl 0 rfl) ?_
          refine lv_bipush (v := (6 : Int32)) hx hb dX3_takeAfterClaim_60 (by decide) ?_
          obtain ⟨S_9, eS_9, h⟩ := ltm_s h
          refine x_put E X fpX3_42 rfl rfl dX3_takeAfterClaim_62 (fun H locs X => ?_)
          rw [← eS_9] at X
          refine lv_goto (tgt := 98) hx hb dX3_takeAfterClaim_65 (by decide) ?_
          refine lv_iconst (v := (0 : Int32)) hx hb dX3_takeAfterClaim_98 (by decide) ?_
          exact x_iret E X h dX3_takeAfterClaim_99
    · have h := if_t c_2 h
      exact wX3_takeAfterClaim_17 E   S  h _ _ _ X hl
/-- SevenToAShadow$Reader.takeAfterClaim()I -/
theorem mX3_takeAfterClaim (l : Launch) (Z : XG) (hQ : wQ (List.length xL) Z) {S S' : Mem} {r : Int32} (h : fX3_takeAfterClaim S  = some (r, S')) : XM l yX3_takeAfterClaim cX3_takeAfterClaim 1 (some .int) { frames := 3, cells := 0, slots := 0, locals := 64 } xL Z [.ref (Z.2.1 38)] S (XQ xL Z r S') := by
  refine XM.of (own := RX3) (by decide +kernel) rfl rfl hQ (fun p e s m args below meth c E ls hl X => ?_)
  exact wX3_takeAfterClaim E S  h _ _ _ X hl
