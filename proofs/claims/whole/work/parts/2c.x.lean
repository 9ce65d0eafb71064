def fX3_takeAfterUnit_102 (S : Mem) (s1 : Int32) : O := ltm (mset S 38 9 s1) fun S_1 => some ((0 : Int32), S_1)
def fX3_takeAfterUnit_80 (S : Mem) (s1 : Int32) : O := gd (isB s1) <| ltm (mset S 38 11 s1) fun S_2 => bnd (fX3_takeOperator S_2 ) fun _ S_4 => (if (S_4 38 6) = (22 : Int32) then fX3_takeAfterUnit_102  S_4 (4 : Int32) else fX3_takeAfterUnit_102  S_4 (3 : Int32))
def fX3_takeAfterUnit_75 (S : Mem) : O := fX3_takeAfterUnit_80  S (1 : Int32)
def fX3_takeAfterUnit_63 (S : Mem) (x2 : Int32) : O := (if (S 38 11) = 0 then (if x2 = 0 then fX3_takeAfterUnit_80  S (0 : Int32) else fX3_takeAfterUnit_75  S ) else fX3_takeAfterUnit_75  S )
def fX3_takeAfterUnit_59 (S : Mem) (x1 x2 : Int32) : O := (if x1 = 0 then (if (S 38 11) = 0 then some ((1 : Int32), S) else bnd (fX3_takeAfterClaim S ) fun r_3 S_4 => some (r_3, S_4)) else fX3_takeAfterUnit_63  S x2)
def fX3_takeAfterUnit_47 (S : Mem) (x1 s0 : Int32) : O := (if s0 = 0 then fX3_takeAfterUnit_59  S x1 s0 else (if (S 38 11) = 0 then fX3_takeAfterUnit_63  S s0 else fX3_takeAfterUnit_59  S x1 s0))
def fX3_takeAfterUnit_46 (S : Mem) (x1 : Int32) : O := fX3_takeAfterUnit_47  S x1 (0 : Int32)
def fX3_takeAfterUnit_23 (S : Mem) (s0 : Int32) : O := (if (S 38 6) < (25 : Int32) then fX3_takeAfterUnit_46  S s0 else (if (27 : Int32) < (S 38 6) then fX3_takeAfterUnit_46  S s0 else fX3_takeAfterUnit_47  S s0 (1 : Int32)))
def fX3_takeAfterUnit_22 (S : Mem) : O := fX3_takeAfterUnit_23  S (0 : Int32)
def fX3_takeAfterUnit (S : Mem) : O := (if (S 38 6) < (19 : Int32) then fX3_takeAfterUnit_22  S  else (if (22 : Int32) < (S 38 6) then fX3_takeAfterUnit_22  S  else fX3_takeAfterUnit_23  S (1 : Int32)))
theorem dX3_takeAfterUnit_0 : decode cX3_takeAfterUnit 0 = .ok (.aload_n 0, 1) := by decide +kernel
theorem dX3_takeAfterUnit_1 : decode cX3_takeAfterUnit 1 = .ok (.getfield 61, 3) := by decide +kernel
theorem dX3_takeAfterUnit_4 : decode cX3_takeAfterUnit 4 = .ok (.bipush 19, 2) := by decide +kernel
theorem dX3_takeAfterUnit_6 : decode cX3_takeAfterUnit 6 = .ok (.if_icmp .lt 16, 3) := by decide +kernel
theorem dX3_takeAfterUnit_9 : decode cX3_takeAfterUnit 9 = .ok (.aload_n 0, 1) := by decide +kernel
theorem dX3_takeAfterUnit_10 : decode cX3_takeAfterUnit 10 = .ok (.getfield 61, 3) := by decide +kernel
theorem dX3_takeAfterUnit_13 : decode cX3_takeAfterUnit 13 = .ok (.bipush 22, 2) := by decide +kernel
theorem dX3_takeAfterUnit_15 : decode cX3_takeAfterUnit 15 = .ok (.if_icmp .gt 7, 3) := by decide +kernel
theorem dX3_takeAfterUnit_18 : decode cX3_takeAfterUnit 18 = .ok (.iconst 1, 1) := by decide +kernel
theorem dX3_takeAfterUnit_19 : decode cX3_takeAfterUnit 19 = .ok (.goto 4, 3) := by decide +kernel
theorem dX3_takeAfterUnit_22 : decode cX3_takeAfterUnit 22 = .ok (.iconst 0, 1) := by decide +kernel
theorem dX3_takeAfterUnit_23 : decode cX3_takeAfterUnit 23 = .ok (.istore_n 1, 1) := by decide +kernel
theorem dX3_takeAfterUnit_24 : decode cX3_takeAfterUnit 24 = .ok (.aload_n 0, 1) := by decide +kernel
theorem dX3_takeAfterUnit_25 : decode cX3_takeAfterUnit 25 = .ok (.getfield 61, 3) := by decide +kernel
theorem dX3_takeAfterUnit_28 : decode cX3_takeAfterUnit 28 = .ok (.bipush 25, 2) := by decide +kernel
theorem dX3_takeAfterUnit_30 : decode cX3_takeAfterUnit 30 = .ok (.if_icmp .lt 16, 3) := by decide +kernel
theorem dX3_takeAfterUnit_33 : decode cX3_takeAfterUnit 33 = .ok (.aload_n 0, 1) := by decide +kernel
theorem dX3_takeAfterUnit_34 : decode cX3_takeAfterUnit 34 = .ok (.getfield 61, 3) := by decide +kernel
theorem dX3_takeAfterUnit_37 : decode cX3_takeAfterUnit 37 = .ok (.bipush 27, 2) := by decide +kernel
theorem dX3_takeAfterUnit_39 : decode cX3_takeAfterUnit 39 = .ok (.if_icmp .gt 7, 3) := by decide +kernel
theorem dX3_takeAfterUnit_42 : decode cX3_takeAfterUnit 42 = .ok (.iconst 1, 1) := by decide +kernel
theorem dX3_takeAfterUnit_43 : decode cX3_takeAfterUnit 43 = .ok (.goto 4, 3) := by decide +kernel
theorem dX3_takeAfterUnit_46 : decode cX3_takeAfterUnit 46 = .ok (.iconst 0, 1) := by decide +kernel
theorem dX3_takeAfterUnit_47 : decode cX3_takeAfterUnit 47 = .ok (.istore_n 2, 1) := by decide +kernel
theorem dX3_takeAfterUnit_48 : decode cX3_takeAfterUnit 48 = .ok (.iload_n 2, 1) := by decide +kernel
theorem dX3_takeAfterUnit_49 : decode cX3_takeAfterUnit 49 = .ok (.ifCond .eq 10, 3) := by decide +kernel
theorem dX3_takeAfterUnit_52 : decode cX3_takeAfterUnit 52 = .ok (.aload_n 0, 1) := by decide +kernel
theorem dX3_takeAfterUnit_53 : decode cX3_takeAfterUnit 53 = .ok (.getfield 133, 3) := by decide +kernel
theorem dX3_takeAfterUnit_56 : decode cX3_takeAfterUnit 56 = .ok (.ifCond .eq 7, 3) := by decide +kernel
theorem dX3_takeAfterUnit_59 : decode cX3_takeAfterUnit 59 = .ok (.iload_n 1, 1) := by decide +kernel
theorem dX3_takeAfterUnit_60 : decode cX3_takeAfterUnit 60 = .ok (.ifCond .eq 47, 3) := by decide +kernel
theorem dX3_takeAfterUnit_63 : decode cX3_takeAfterUnit 63 = .ok (.aload_n 0, 1) := by decide +kernel
theorem dX3_takeAfterUnit_64 : decode cX3_takeAfterUnit 64 = .ok (.aload_n 0, 1) := by decide +kernel
theorem dX3_takeAfterUnit_65 : decode cX3_takeAfterUnit 65 = .ok (.getfield 133, 3) := by decide +kernel
theorem dX3_takeAfterUnit_68 : decode cX3_takeAfterUnit 68 = .ok (.ifCond .ne 7, 3) := by decide +kernel
theorem dX3_takeAfterUnit_71 : decode cX3_takeAfterUnit 71 = .ok (.iload_n 2, 1) := by decide +kernel
theorem dX3_takeAfterUnit_72 : decode cX3_takeAfterUnit 72 = .ok (.ifCond .eq 7, 3) := by decide +kernel
theorem dX3_takeAfterUnit_75 : decode cX3_takeAfterUnit 75 = .ok (.iconst 1, 1) := by decide +kernel
theorem dX3_takeAfterUnit_76 : decode cX3_takeAfterUnit 76 = .ok (.goto 4, 3) := by decide +kernel
theorem dX3_takeAfterUnit_79 : decode cX3_takeAfterUnit 79 = .ok (.iconst 0, 1) := by decide +kernel
theorem dX3_takeAfterUnit_80 : decode cX3_takeAfterUnit 80 = .ok (.putfield 133, 3) := by decide +kernel
theorem dX3_takeAfterUnit_83 : decode cX3_takeAfterUnit 83 = .ok (.aload_n 0, 1) := by decide +kernel
theorem dX3_takeAfterUnit_84 : decode cX3_takeAfterUnit 84 = .ok (.invokevirtual 150, 3) := by decide +kernel
theorem dX3_takeAfterUnit_87 : decode cX3_takeAfterUnit 87 = .ok (.aload_n 0, 1) := by decide +kernel
theorem dX3_takeAfterUnit_88 : decode cX3_takeAfterUnit 88 = .ok (.aload_n 0, 1) := by decide +kernel
theorem dX3_takeAfterUnit_89 : decode cX3_takeAfterUnit 89 = .ok (.getfield 61, 3) := by decide +kernel
theorem dX3_takeAfterUnit_92 : decode cX3_takeAfterUnit 92 = .ok (.bipush 22, 2) := by decide +kernel
theorem dX3_takeAfterUnit_94 : decode cX3_takeAfterUnit 94 = .ok (.if_icmp .ne 7, 3) := by decide +kernel
theorem dX3_takeAfterUnit_97 : decode cX3_takeAfterUnit 97 = .ok (.iconst 4, 1) := by decide +kernel
theorem dX3_takeAfterUnit_98 : decode cX3_takeAfterUnit 98 = .ok (.goto 4, 3) := by decide +kernel
theorem dX3_takeAfterUnit_101 : decode cX3_takeAfterUnit 101 = .ok (.iconst 3, 1) := by decide +kernel
theorem dX3_takeAfterUnit_102 : decode cX3_takeAfterUnit 102 = .ok (.putfield 42, 3) := by decide +kernel
theorem dX3_takeAfterUnit_105 : decode cX3_takeAfterUnit 105 = .ok (.iconst 0, 1) := by decide +kernel
theorem dX3_takeAfterUnit_106 : decode cX3_takeAfterUnit 106 = .ok (.ireturn, 1) := by decide +kernel
theorem dX3_takeAfterUnit_107 : decode cX3_takeAfterUnit 107 = .ok (.aload_n 0, 1) := by decide +kernel
theorem dX3_takeAfterUnit_108 : decode cX3_takeAfterUnit 108 = .ok (.getfield 133, 3) := by decide +kernel
theorem dX3_takeAfterUnit_111 : decode cX3_takeAfterUnit 111 = .ok (.ifCond .eq 10, 3) := by decide +kernel
theorem dX3_takeAfterUnit_114 : decode cX3_takeAfterUnit 114 = .ok (.aload_n 0, 1) := by decide +kernel
theorem dX3_takeAfterUnit_115 : decode cX3_takeAfterUnit 115 = .ok (.invokevirtual 124, 3) := by decide +kernel
theorem dX3_takeAfterUnit_118 : decode cX3_takeAfterUnit 118 = .ok (.goto 4, 3) := by decide +kernel
theorem dX3_takeAfterUnit_121 : decode cX3_takeAfterUnit 121 = .ok (.iconst 1, 1) := by decide +kernel
theorem dX3_takeAfterUnit_122 : decode cX3_takeAfterUnit 122 = .ok (.ireturn, 1) := by decide +kernel
set_option maxRecDepth 20000 in
theorem wX3_takeAfterUnit_102 {p : Program} {l : Launch} {e : Env} {s : State} {m : MethodId} {args : Array Value} {below : List Frame} {meth : Method} {c : Code} {Z : XG} {r : Int32} {S' : Mem} (E : XE p s m args meth c cX3_takeAfterUnit 3 RX3 (some .int) xL Z) : ∀ (S : Mem) (s1 : Int32), fX3_takeAfterUnit_102  S s1 = some (r, S') → WN p l e { frames := 4, cells := 0, slots := 0, locals := 84 } s m args below meth c xL Z (XQ xL Z r S') S 102 3 [] [.int s1, .ref (Z.2.1 38)] := by
  obtain ⟨hx, hb, -, -, -, -, -, -, -, hQ⟩ := id E
  intro S s1 h H locs ls X hl
  unfold fX3_takeAfterUnit_102 at h
  obtain ⟨S_1, eS_1, h⟩ := ltm_s h
  refine x_put E X fpX3_42 rfl rfl dX3_takeAfterUnit_102 (fun H locs X => ?_)
  rw [← eS_1] at X
  refine lv_iconst (v := (0 : Int32)) hx hb dX3_takeAfterUnit_105 (by decide) ?_
  exact x_iret E X h dX3_takeAfterUnit_106
set_option maxRecDepth 20000 in
theorem wX3_takeAfterUnit_80 {p : Program} {l : Launch} {e : Env} {s : State} {m : MethodId} {args : Array Value} {below : List Frame} {meth : Method} {c : Code} {Z : XG} {r : Int32} {S' : Mem} (E : XE p s m args meth c cX3_takeAfterUnit 3 RX3 (some .int) xL Z) : ∀ (S : Mem) (s1 : Int32), fX3_takeAfterUnit_80  S s1 = some (r, S') → WN p l e { frames := 4, cells := 0, slots := 0, locals := 84 } s m args below meth c xL Z (XQ xL Z r S') S 80 3 [(0, .ref (Z.2.1 38))] [.int s1, .ref (Z.2.1 38)] := by
  obtain ⟨hx, hb, -, -, -, -, -, -, -, hQ⟩ := id E
  intro S s1 h H locs ls X hl
  unfold fX3_takeAfterUnit_80 at h
  obtain ⟨g_1, h⟩ := gd_s h
  obtain ⟨S_2, eS_2, h⟩ := ltm_s h
  refine x_putB E X fpX3_133 rfl rfl g_1 dX3_takeAfterUnit_80 (fun H locs X => ?_)
  rw [← eS_2] at X
  refine lv_aload_n hx hb dX3_takeAfterUnit_83 rfl (lv_at hl 0 rfl) ?_
  obtain ⟨r_3, S_4, hr_3, h⟩ := bnd_s h
  refine x_callVv E X cwX3_150 (mX3_takeOperator l Z hQ   hr_3) rfl rfl rfl rfl hl.1 rfl dX3_takeAfterUnit_84 (fun H locs X => ?_)
  refine lv_aload_n hx hb dX3_takeAfterUnit_87 rfl (lv_at hl 0 rfl) ?_
  refine lv_aload_n hx hb dX3_takeAfterUnit_88 rfl (lv_at hl 0 rfl) ?_
  refine x_get E X ffX3_61 rfl rfl dX3_takeAfterUnit_89 ?_
  refine lv_bipush (v := (22 : Int32)) hx hb dX3_takeAfterUnit_92 (by decide) ?_
  refine lv_icmp_ne (tgt := 101) hx hb dX3_takeAfterUnit_94 (by decide) (fun c_5 => ?_) (fun c_5 => ?_)
  · have h := if_f c_5 h
    refine lv_iconst (v := (3 : Int32)) hx hb dX3_takeAfterUnit_101 (by decide) ?_
    exact wX3_takeAfterUnit_102 E   S_4 (3 : Int32) h _ _ _ X (lv_sub hl [] rfl)
  · have h := if_t c_5 h
    refine lv_iconst (v := (4 : Int32)) hx hb dX3_takeAfterUnit_97 (by decide) ?_
    refine lv_goto (tgt := 102) hx hb dX3_takeAfterUnit_98 (by decide) ?_
    exact wX3_takeAfterUnit_102 E   S_4 (4 : Int32) h _ _ _ X (lv_sub hl [] rfl)
set_option maxRecDepth 20000 in
theorem wX3_takeAfterUnit_75 {p : Program} {l : Launch} {e : Env} {s : State} {m : MethodId} {args : Array Value} {below : List Frame} {meth : Method} {c : Code} {Z : XG} {r : Int32} {S' : Mem} (E : XE p s m args meth c cX3_takeAfterUnit 3 RX3 (some .int) xL Z) : ∀ (S : Mem), fX3_takeAfterUnit_75  S  = some (r, S') → WN p l e { frames := 4, cells := 0, slots := 0, locals := 84 } s m args below meth c xL Z (XQ xL Z r S') S 75 3 [(0, .ref (Z.2.1 38))] [.ref (Z.2.1 38)] := by
  obtain ⟨hx, hb, -, -, -, -, -, -, -, hQ⟩ := id E
  intro S  h H locs ls X hl
  unfold fX3_takeAfterUnit_75 at h
  refine lv_iconst (v := (1 : Int32)) hx hb dX3_takeAfterUnit_75 (by decide) ?_
  refine lv_goto (tgt := 80) hx hb dX3_takeAfterUnit_76 (by decide) ?_
  exact wX3_takeAfterUnit_80 E   S (1 : Int32) h _ _ _ X hl
set_option maxRecDepth 20000 in
theorem wX3_takeAfterUnit_63 {p : Program} {l : Launch} {e : Env} {s : State} {m : MethodId} {args : Array Value} {below : List Frame} {meth : Method} {c : Code} {Z : XG} {r : Int32} {S' : Mem} (E : XE p s m args meth c cX3_takeAfterUnit 3 RX3 (some .int) xL Z) : ∀ (S : Mem) (x2 : Int32), fX3_takeAfterUnit_63  S x2 = some (r, S') → WN p l e { frames := 4, cells := 0, slots := 0, locals := 84 } s m args below meth c xL Z (XQ xL Z r S') S 63 3 [(0, .ref (Z.2.1 38)), (2, .int x2)] [] := by
  obtain ⟨hx, hb, -, -, -, -, -, -, -, hQ⟩ := id E
  intro S x2 h H locs ls X hl
  unfold fX3_takeAfterUnit_63 at h
  refine lv_aload_n hx hb dX3_takeAfterUnit_63 rfl (lv_at hl 0 rfl) ?_
  refine lv_aload_n hx hb dX3_takeAfterUnit_64 rfl (lv_at hl 0 rfl) ?_
  refine x_get E X ffX3_133 rfl rfl dX3_takeAfterUnit_65 ?_
  refine lv_if_ne (tgt := 75) hx hb dX3_takeAfterUnit_68 (by decide) (fun c_1 => ?_) (fun c_1 => ?_)
  · have h := if_f c_1 h
    exact wX3_takeAfterUnit_75 E   S  h _ _ _ X (lv_sub hl [0] rfl)
  · have h := if_t c_1 h
    refine lv_iload_n hx hb dX3_takeAfterUnit_71 rfl (lv_at hl 1 rfl) ?_
    refine lv_if_eq (tgt := 79) hx hb dX3_takeAfterUnit_72 (by decide) (fun c_2 => ?_) (fun c_2 => ?_)
    · have h := if_t c_2 h
      refine lv_iconst (v := (0 : Int32)) hx hb dX3_takeAfterUnit_79 (by decide) ?_
      exact wX3_takeAfterUnit_80 E   S (0 : Int32) h _ _ _ X (lv_sub hl [0] rfl)
    · have h := if_f c_2 h
      exact wX3_takeAfterUnit_75 E   S  h _ _ _ X (lv_sub hl [0] rfl)
set_option maxRecDepth 20000 in
theorem wX3_takeAfterUnit_59 {p : Program} {l : Launch} {e : Env} {s : State} {m : MethodId} {args : Array Value} {below : List Frame} {meth : Method} {c : Code} {Z : XG} {r : Int32} {S' : Mem} (E : XE p s m args meth c cX3_takeAfterUnit 3 RX3 (some .int) xL Z) : ∀ (S : Mem) (x1 x2 : Int32), fX3_takeAfterUnit_59  S x1 x2 = some (r, S') → WN p l e { frames := 4, cells := 0, slots := 0, locals := 84 } s m args below meth c xL Z (XQ xL Z r S') S 59 3 [(0, .ref (Z.2.1 38)), (1, .int x1), (2, .int x2)] [] := by
  obtain ⟨hx, hb, -, -, -, -, -, -, -, hQ⟩ := id E
  intro S x1 x2 h H locs ls X hl
  unfold fX3_takeAfterUnit_59 at h
  refine lv_iload_n hx hb dX3_takeAfterUnit_59 rfl (lv_at hl 1 rfl) ?_
  refine lv_if_eq (tgt := 107) hx hb dX3_takeAfterUnit_60 (by decide) (fun c_1 => ?_) (fun c_1 => ?_)
  · have h := if_t c_1 h
    refine lv_aload_n hx hb dX3_takeAfterUnit_107 rfl (lv_at hl 0 rfl) ?_
    refine x_get E X ffX3_133 rfl rfl dX3_takeAfterUnit_108 ?_
    refine lv_if_eq (tgt := 121) hx hb dX3_takeAfterUnit_111 (by decide) (fun c_2 => ?_) (fun c_2 => ?_)
    · have h := if_t c_2 h
      refine lv_iconst (v := (1 : Int32)) hx hb dX3_takeAfterUnit_121 (by decide) ?_
      exact x_iret E X h dX3_takeAfterUnit_122
    · have h := if_f c_2 h
      refine lv_aload_n hx hb dX3_takeAfterUnit_114 rfl (lv_at hl 0 rfl) ?_
      obtain ⟨r_3, S_4, hr_3, h⟩ := bnd_s h
      refine x_callV E X cwX3_124 (mX3_takeAfterClaim l Z hQ   hr_3) rfl rfl rfl rfl hl.1 rfl dX3_takeAfterUnit_115 (fun H locs X => ?_)
      refine lv_goto (tgt := 122) hx hb dX3_takeAfterUnit_118 (by decide) ?_
      exact x_iret E X h dX3_takeAfterUnit_122
  · have h := if_f c_1 h
    exact wX3_takeAfterUnit_63 E   S x2 h _ _ _ X (lv_sub hl [0, 2] rfl)
set_option maxRecDepth 20000 in
theorem wX3_takeAfterUnit_47 {p : Program} {l : Launch} {e : Env} {s : State} {m : MethodId} {args : Array Value} {below : List Frame} {meth : Method} {c : Code} {Z : XG} {r : Int32} {S' : Mem} (E : XE p s m args meth c cX3_takeAfterUnit 3 RX3 (some .int) xL Z) : ∀ (S : Mem) (x1 s0 : Int32), fX3_takeAfterUnit_47  S x1 s0 = some (r, S') → WN p l e { frames := 4, cells := 0, slots := 0, locals := 84 } s m args below meth c xL Z (XQ xL Z r S') S 47 3 [(0, .ref (Z.2.1 38)), (1, .int x1)] [.int s0] := by
  obtain ⟨hx, hb, -, -, -, -, -, -, -, hQ⟩ := id E
  intro S x1 s0 h H locs ls X hl
  unfold fX3_takeAfterUnit_47 at h
  refine lv_istore_n (lv' := [(2, .int s0), (0, .ref (Z.2.1 38)), (1, .int x1)]) hx hb dX3_takeAfterUnit_47 rfl hl (by decide) rfl (fun ls hl => ?_)
  refine lv_iload_n hx hb dX3_takeAfterUnit_48 rfl (lv_at hl 0 rfl) ?_
  refine lv_if_eq (tgt := 59) hx hb dX3_takeAfterUnit_49 (by decide) (fun c_1 => ?_) (fun c_1 => ?_)
  · have h := if_t c_1 h
    exact wX3_takeAfterUnit_59 E   S x1 s0 h _ _ _ X (lv_sub hl [1, 2, 0] rfl)
  · have h := if_f c_1 h
    refine lv_aload_n hx hb dX3_takeAfterUnit_52 rfl (lv_at hl 1 rfl) ?_
    refine x_get E X ffX3_133 rfl rfl dX3_takeAfterUnit_53 ?_
    refine lv_if_eq (tgt := 63) hx hb dX3_takeAfterUnit_56 (by decide) (fun c_2 => ?_) (fun c_2 => ?_)
    · have h := if_t c_2 h
      exact wX3_takeAfterUnit_63 E   S s0 h _ _ _ X (lv_sub hl [1, 0] rfl)
    · have h := if_f c_2 h
      exact wX3_takeAfterUnit_59 E   S x1 s0 h _ _ _ X (lv_sub hl [1, 2, 0] rfl)
set_option maxRecDepth 20000 in
theorem wX3_takeAfterUnit_46 {p : Program} {l : Launch} {e : Env} {s : State} {m : MethodId} {args : Array Value} {below : List Frame} {meth : Method} {c : Code} {Z : XG} {r : Int32} {S' : Mem} (E : XE p s m args meth c cX3_takeAfterUnit 3 RX3 (some .int) xL Z) : ∀ (S : Mem) (x1 : Int32), fX3_takeAfterUnit_46  S x1 = some (r, S') → WN p l e { frames := 4, cells := 0, slots := 0, locals := 84 } s m args below meth c xL Z (XQ xL Z r S') S 46 3 [(0, .ref (Z.2.1 38)), (1, .int x1)] [] := by
  obtain ⟨hx, hb, -, -, -, -, -, -, -, hQ⟩ := id E
  intro S x1 h H locs ls X hl
  unfold fX3_takeAfterUnit_46 at h
  refine lv_iconst (v := (0 : Int32)) hx hb dX3_takeAfterUnit_46 (by decide) ?_
  exact wX3_takeAfterUnit_47 E   S x1 (0 : Int32) h _ _ _ X hl
set_option maxRecDepth 20000 in
theorem wX3_takeAfterUnit_23 {p : Program} {l : Launch} {e : Env} {s : State} {m : MethodId} {args : Array Value} {below : List Frame} {meth : Method} {c : Code} {Z : XG} {r : Int32} {S' : Mem} (E : XE p s m args meth c cX3_takeAfterUnit 3 RX3 (some .int) xL Z) : ∀ (S : Mem) (s0 : Int32), fX3_takeAfterUnit_23  S s0 = some (r, S') → WN p l e { frames := 4, cells := 0, slots := 0, locals := 84 } s m args below meth c xL Z (XQ xL Z r S') S 23 3 [(0, .ref (Z.2.1 38))] [.int s0] := by
  obtain ⟨hx, hb, -, -, -, -, -, -, -, hQ⟩ := id E
  intro S s0 h H locs ls X hl
  unfold fX3_takeAfterUnit_23 at h
  refine lv_istore_n (lv' := [(1, .int s0), (0, .ref (Z.2.1 38))]) hx hb dX3_takeAfterUnit_23 rfl hl (by decide) rfl (fun ls hl => ?_)
  refine lv_aload_n hx hb dX3_takeAfterUnit_24 rfl (lv_at hl 1 rfl) ?_
  refine x_get E X ffX3_61 rfl rfl dX3_takeAfterUnit_25 ?_
  refine lv_bipush (v := (25 : Int32)) hx hb dX3_takeAfterUnit_28 (by decide) ?_
  refine lv_icmp_lt (tgt := 46) hx hb dX3_takeAfterUnit_30 (by decide) (fun c_1 => ?_) (fun c_1 => ?_)
  · have h := if_t c_1 h
    exact wX3_takeAfterUnit_46 E   S s0 h _ _ _ X (lv_sub hl [1, 0] rfl)
  · have h := if_f c_1 h
    refine lv_aload_n hx hb dX3_takeAfterUnit_33 rfl (lv_at hl 1 rfl) ?_
    refine x_get E X ffX3_61 rfl rfl dX3_takeAfterUnit_34 ?_
    refine lv_bipush (v := (27 : Int32)) hx hb dX3_takeAfterUnit_37 (by decide) ?_
    refine lv_icmp_gt (tgt := 46) hx hb dX3_takeAfterUnit_39 (by decide) (fun c_2 => ?_) (fun c_2 => ?_)
    · have h := if_t c_2 h
      exact wX3_takeAfterUnit_46 E   S s0 h _ _ _ X (lv_sub hl [1, 0] rfl)
    · have h := if_f c_2 h
      refine lv_iconst (v := (1 : Int32)) hx hb dX3_takeAfterUnit_42 (by decide) ?_
      refine lv_goto (tgt := 47) hx hb dX3_takeAfterUnit_43 (by decide) ?_
      exact wX3_takeAfterUnit_47 E   S s0 (1 : Int32) h _ _ _ X (lv_sub hl [1, 0] rfl)
set_option maxRecDepth 20000 in
theorem wX3_takeAfterUnit_22 {p : Program} {l : Launch} {e : Env} {s : State} {m : MethodId} {args : Array Value} {below : List Frame} {meth : Method} {c : Code} {Z : XG} {r : Int32} {S' : Mem} (E : XE p s m args meth c cX3_takeAfterUnit 3 RX3 (some .int) xL Z) : ∀ (S : Mem), fX3_takeAfterUnit_22  S  = some (r, S') → WN p l e { frames := 4, cells := 0, slots := 0, locals := 84 } s m args below meth c xL Z (XQ xL Z r S') S 22 3 [(0, .ref (Z.2.1 38))] [] := by
  obtain ⟨hx, hb, -, -, -, -, -, -, -, hQ⟩ := id E
  intro S  h H locs ls X hl
  unfold fX3_takeAfterUnit_22 at h
  refine lv_iconst (v := (0 : Int32)) hx hb dX3_takeAfterUnit_22 (by decide) ?_
  exact wX3_takeAfterUnit_23 E   S (0 : Int32) h _ _ _ X hl
set_option maxRecDepth 20000 in
theorem wX3_takeAfterUnit {p : Program} {l : Launch} {e : Env} {s : State} {m : MethodId} {args : Array Value} {below : List Frame} {meth : Method} {c : Code} {Z : XG} {r : Int32} {S' : Mem} (E : XE p s m args meth c cX3_takeAfterUnit 3 RX3 (some .int) xL Z) : ∀ (S : Mem), fX3_takeAfterUnit  S  = some (r, S') → WN p l e { frames := 4, cells := 0, slots := 0, locals := 84 } s m args below meth c xL Z (XQ xL Z r S') S 0 3 [(0, .ref (Z.2.1 38))] [] := by
  obtain ⟨hx, hb, -, -, -, -, -, -, -, hQ⟩ := id E
  intro S  h H locs ls X hl
  unfold fX3_takeAfterUnit at h
  refine lv_aload_n hx hb dX3_takeAfterUnit_0 rfl (lv_at hl 0 rfl) ?_
  refine x_get E X ffX3_61 rfl rfl dX3_takeAfterUnit_1 ?_
  refine lv_bipush (v := (19 : Int32)) hx hb dX3_takeAfterUnit_4 (by decide) ?_
  refine lv_icmp_lt (tgt := 22) hx hb dX3_takeAfterUnit_6 (by decide) (fun c_1 => ?_) (fun c_1 => ?_)
  · have h := if_t c_1 h
    exact wX3_takeAfterUnit_22 E   S  h _ _ _ X hl
  · have h := if_f c_1 h
    refine lv_aload_n hx hb dX3_takeAfterUnit_9 rfl (lv_at hl 0 rfl) ?_
    refine x_get E X ffX3_61 rfl rfl dX3_takeAfterUnit_10 ?_
    refine lv_bipush (v := (22 : Int32)) hx hb dX3_takeAfterUnit_13 (by decide) ?_
    refine lv_icmp_gt (tgt := 22) hx hb dX3_takeAfterUnit_15 (by decide) (fun c_2 => ?_) (fun c_2 => ?_)
    · have h := if_t c_2 h
      exact wX3_takeAfterUnit_22 E   S  h _ _ _ X hl
    · have h := if_f c_2 h
      refine lv_iconst (v := (1 : Int32)) hx hb dX3_takeAfterUnit_18 (by decide) ?_
      refine lv_goto (tgt := 23) hx hb dX3_takeAfterUnit_19 (by decide) ?_
      exact wX3_takeAfterUnit_23 E   S (1 : Int32) h _ _ _ X hl
/-- SevenToAShadow$Reader.takeAfterUnit()I -/
theorem mX3_takeAfterUnit (l : Launch) (Z : XG) (hQ : wQ (List.length xL) Z) {S S' : Mem} {r : Int32} (h : fX3_takeAfterUnit S  = some (r, S')) : XM l yX3_takeAfterUnit cX3_takeAfterUnit 3 (some .int) { frames := 4, cells := 0, slots := 0, locals := 84 } xL Z [.ref (Z.2.1 38)] S (XQ xL Z r S') := by
  refine XM.of (own := RX3) (by decide +kernel) rfl rfl hQ (fun p e s m args below meth c E ls hl X => ?_)
  exact wX3_takeAfterUnit E S  h _ _ _ X hl
def fX3_take (S : Mem) : O := (if (S 38 9) = (0 : Int32) then bnd (fX3_takeLine S ) fun r_2 S_3 => some (r_2, S_3) else if (S 38 9) = (1 : Int32) then bnd (fX3_takeLineRest S ) fun r_5 S_6 => some (r_5, S_6) else if (S 38 9) = (2 : Int32) then bnd (fX3_takeClaim S ) fun r_8 S_9 => some (r_8, S_9) else if (S 38 9) = (3 : Int32) then bnd (fX3_takeUnit S ) fun r_11 S_12 => some (r_11, S_12) else if (S 38 9) = (4 : Int32) then bnd (fX3_takeDivisor S ) fun r_14 S_15 => some (r_14, S_15) else if (S 38 9) = (5 : Int32) then bnd (fX3_takeAfterUnit S ) fun r_17 S_18 => some (r_17, S_18) else bnd (fX3_takeAfterClaim S ) fun r_20 S_21 => some (r_20, S_21))
theorem dX3_take_0 : decode cX3_take 0 = .ok (.aload_n 0, 1) := by decide +kernel
theorem dX3_take_1 : decode cX3_take 1 = .ok (.getfield 42, 3) := by decide +kernel
theorem dX3_take_4 : decode cX3_take 4 = .ok (.tableswitch 70 0 5 #[40, 45, 50, 55, 60, 65], 40) := by decide +kernel
theorem dX3_take_44 : decode cX3_take 44 = .ok (.aload_n 0, 1) := by decide +kernel
theorem dX3_take_45 : decode cX3_take 45 = .ok (.invokevirtual 106, 3) := by decide +kernel
theorem dX3_take_48 : decode cX3_take 48 = .ok (.ireturn, 1) := by decide +kernel
theorem dX3_take_49 : decode cX3_take 49 = .ok (.aload_n 0, 1) := by decide +kernel
theorem dX3_take_50 : decode cX3_take 50 = .ok (.invokevirtual 109, 3) := by decide +kernel
theorem dX3_take_53 : decode cX3_take 53 = .ok (.ireturn, 1) := by decide +kernel
theorem dX3_take_54 : decode cX3_take 54 = .ok (.aload_n 0, 1) := by decide +kernel
theorem dX3_take_55 : decode cX3_take 55 = .ok (.invokevirtual 112, 3) := by decide +kernel
theorem dX3_take_58 : decode cX3_take 58 = .ok (.ireturn, 1) := by decide +kernel
theorem dX3_take_59 : decode cX3_take 59 = .ok (.aload_n 0, 1) := by decide +kernel
theorem dX3_take_60 : decode cX3_take 60 = .ok (.invokevirtual 115, 3) := by decide +kernel
theorem dX3_take_63 : decode cX3_take 63 = .ok (.ireturn, 1) := by decide +kernel
theorem dX3_take_64 : decode cX3_take 64 = .ok (.aload_n 0, 1) := by decide +kernel
theorem dX3_take_65 : decode cX3_take 65 = .ok (.invokevirtual 118, 3) := by decide +kernel
theorem dX3_take_68 : decode cX3_take 68 = .ok (.ireturn, 1) := by decide +kernel
theorem dX3_take_69 : decode cX3_take 69 = .ok (.aload_n 0, 1) := by decide +kernel
theorem dX3_take_70 : decode cX3_take 70 = .ok (.invokevirtual 121, 3) := by decide +kernel
theorem dX3_take_73 : decode cX3_take 73 = .ok (.ireturn, 1) := by decide +kernel
theorem dX3_take_74 : decode cX3_take 74 = .ok (.aload_n 0, 1) := by decide +kernel
theorem dX3_take_75 : decode cX3_take 75 = .ok (.invokevirtual 124, 3) := by decide +kernel
theorem dX3_take_78 : decode cX3_take 78 = .ok (.ireturn, 1) := by decide +kernel
set_option maxRecDepth 20000 in
theorem wX3_take {p : Program} {l : Launch} {e : Env} {s : State} {m : MethodId} {args : Array Value} {below : List Frame} {meth : Method} {c : Code} {Z : XG} {r : Int32} {S' : Mem} (E : XE p s m args meth c cX3_take 1 RX3 (some .int) xL Z) : ∀ (S : Mem), fX3_take  S  = some (r, S') → WN p l e { frames := 5, cells := 0, slots := 0, locals := 106 } s m args below meth c xL Z (XQ xL Z r S') S 0 1 [(0, .ref (Z.2.1 38))] [] := by
  obtain ⟨hx, hb, -, -, -, -, -, -, -, hQ⟩ := id E
  intro S  h H locs ls X hl
  unfold fX3_take at h
  refine lv_aload_n hx hb dX3_take_0 rfl (lv_at hl 0 rfl) ?_
  refine x_get E X ffX3_42 rfl rfl dX3_take_1 ?_
  by_cases c_1 : (S 38 9) = (0 : Int32)
  · have h := if_t c_1 h
    refine lv_tableIn (off := 40) (tgt := 44) hx hb dX3_take_4 (by rw [c_1]; decide) (by rw [c_1]; decide) (by rw [c_1]; decide) (by decide) ?_
    refine lv_aload_n hx hb dX3_take_44 rfl (lv_at hl 0 rfl) ?_
    obtain ⟨r_2, S_3, hr_2, h⟩ := bnd_s h
    refine x_callV E X cwX3_106 (mX3_takeLine l Z hQ   hr_2) rfl rfl rfl rfl hl.1 rfl dX3_take_45 (fun H locs X => ?_)
    exact x_iret E X h dX3_take_48
  replace h := if_f c_1 h
  by_cases c_4 : (S 38 9) = (1 : Int32)
  · have h := if_t c_4 h
    refine lv_tableIn (off := 45) (tgt := 49) hx hb dX3_take_4 (by rw [c_4]; decide) (by rw [c_4]; decide) (by rw [c_4]; decide) (by decide) ?_
    refine lv_aload_n hx hb dX3_take_49 rfl (lv_at hl 0 rfl) ?_
    obtain ⟨r_5, S_6, hr_5, h⟩ := bnd_s h
    refine x_callV E X cwX3_109 (mX3_takeLineRest l Z hQ   hr_5) rfl rfl rfl rfl hl.1 rfl dX3_take_50 (fun H locs X => ?_)
    exact x_iret E X h dX3_take_53
  replace h := if_f c_4 h
  by_cases c_7 : (S 38 9) = (2 : Int32)
  · have h := if_t c_7 h
    refine lv_tableIn (off := 50) (tgt := 54) hx hb dX3_take_4 (by rw [c_7]; decide) (by rw [c_7]; decide) (by rw [c_7]; decide) (by decide) ?_
    refine lv_aload_n hx hb dX3_take_54 rfl (lv_at hl 0 rfl) ?_
    obtain ⟨r_8, S_9, hr_8, h⟩ := bnd_s h
    refine x_callV E X cwX3_112 (mX3_takeClaim l Z hQ   hr_8) rfl rfl rfl rfl hl.1 rfl dX3_take_55 (fun H locs X => ?_)
    exact x_iret E X h dX3_take_58
  replace h := if_f c_7 h
  by_cases c_10 : (S 38 9) = (3 : Int32)
  · have h := if_t c_10 h
    refine lv_tableIn (off := 55) (tgt := 59) hx hb dX3_take_4 (by rw [c_10]; decide) (by rw [c_10]; decide) (by rw [c_10]; decide) (by decide) ?_
    refine lv_aload_n hx hb dX3_take_59 rfl (lv_at hl 0 rfl) ?_
    obtain ⟨r_11, S_12, hr_11, h⟩ := bnd_s h
    refine x_callV E X cwX3_115 (mX3_takeUnit l Z hQ   hr_11) rfl rfl rfl rfl hl.1 rfl dX3_take_60 (fun H locs X => ?_)
    exact x_iret E X h dX3_take_63
  replace h := if_f c_10 h
  by_cases c_13 : (S 38 9) = (4 : Int32)
  · have h := if_t c_13 h
    refine lv_tableIn (off := 60) (tgt := 64) hx hb dX3_take_4 (by rw [c_13]; decide) (by rw [c_13]; decide) (by rw [c_13]; decide) (by decide) ?_
    refine lv_aload_n hx hb dX3_take_64 rfl (lv_at hl 0 rfl) ?_
    obtain ⟨r_14, S_15, hr_14, h⟩ := bnd_s h
    refine x_callV E X cwX3_118 (mX3_takeDivisor l Z hQ   hr_14) rfl rfl rfl rfl hl.1 rfl dX3_take_65 (fun H locs X => ?_)
    exact x_iret E X h dX3_take_68
  replace h := if_f c_13 h
  by_cases c_16 : (S 38 9) = (5 : Int32)
  · have h := if_t c_16 h
    refine lv_tableIn (off := 65) (tgt := 69) hx hb dX3_take_4 (by rw [c_16]; decide) (by rw [c_16]; decide) (by rw [c_16]; decide) (by decide) ?_
    refine lv_aload_n hx hb dX3_take_69 rfl (lv_at hl 0 rfl) ?_
    obtain ⟨r_17, S_18, hr_17, h⟩ := bnd_s h
    refine x_callV E X cwX3_121 (mX3_takeAfterUnit l Z hQ   hr_17) rfl rfl rfl rfl hl.1 rfl dX3_take_70 (fun H locs X => ?_)
    exact x_iret E X h dX3_take_73
  replace h := if_f c_16 h
  refine lv_tableD (tgt := 74) hx hb dX3_take_4 (by decide +kernel) (fun i hi q_19 => ?_) ?_
  · match i, hi, q_19 with
    | 0, _, q_19 => exact absurd (tbl_eq q_19 (by decide)) c_1
    | 1, _, q_19 => exact absurd (tbl_eq q_19 (by decide)) c_4
    | 2, _, q_19 => exact absurd (tbl_eq q_19 (by decide)) c_7
    | 3, _, q_19 => exact absurd (tbl_eq q_19 (by decide)) c_10
    | 4, _, q_19 => exact absurd (tbl_eq q_19 (by decide)) c_13
    | 5, _, q_19 => exact absurd (tbl_eq q_19 (by decide)) c_16
    | i + 6, hi, _ => exact absurd hi (by simp)
  refine lv_aload_n hx hb dX3_take_74 rfl (lv_at hl 0 rfl) ?_
  obtain ⟨r_20, S_21, hr_20, h⟩ := bnd_s h
  refine x_callV E X cwX3_124 (mX3_takeAfterClaim l Z hQ   hr_20) rfl rfl rfl rfl hl.1 rfl dX3_take_75 (fun H locs X => ?_)
  exact x_iret E X h dX3_take_78
/-- SevenToAShadow$Reader.take()I -/
theorem mX3_take (l : Launch) (Z : XG) (hQ : wQ (List.length xL) Z) {S S' : Mem} {r : Int32} (h : fX3_take S  = some (r, S')) : XM l yX3_take cX3_take 1 (some .int) { frames := 5, cells := 0, slots := 0, locals := 106 } xL Z [.ref (Z.2.1 38)] S (XQ xL Z r S') := by
  refine XM.of (own := RX3) (by decide +kernel) rfl rfl hQ (fun p e s m args below meth c E ls hl X => ?_)
  exact wX3_take E S  h _ _ _ X hl
def fX3_read_104 (S : Mem) : O := ltm (mset S 38 1 (0 : Int32)) fun S_1 => some ((0 : Int32), S_1)
def fX3_read_89 (S : Mem) : O := (if (S 38 2) = 0 then fX3_read_104  S  else ltm (mset S 38 3 (S 38 7)) fun S_2 => fX3_read_104  S_2 )
def fX3_read_44_b (k0 : Mem → Int32 → O) (S : Mem) (x1 : Int32) : O := (if (S 38 1) < x1 then fX3_read_89  S  else bnd (fX3_scan S ) fun _ S_3 => bnd (fX3_take S_3 ) fun r_4 S_5 => ltm (mset S_5 38 2 r_4) fun S_6 => (if (S_6 38 2) = 0 then (if (S_6 38 6) = (29 : Int32) then fX3_read_89  S_6  else k0 S_6 (x1 + (1 : Int32))) else fX3_read_89  S_6 ))
def fX3_read_44 : Nat → Mem → Int32 → O
  | 0 => fun _ _ => none
  | n + 1 => fX3_read_44_b (fX3_read_44 n)
def fX3_read (S : Mem) : O := bnd (fX4_clear_40 S ) fun _ S_2 => ltm (mset S_2 38 2 (0 : Int32)) fun S_3 => ltm (mset S_3 38 3 (-1 : Int32)) fun S_4 => ltm (mset S_4 38 5 (0 : Int32)) fun S_5 => ltm (mset S_5 38 9 (0 : Int32)) fun S_6 => ltm (mset S_6 38 13 (0 : Int32)) fun S_7 => ltm (mset S_7 38 14 (0 : Int32)) fun S_8 => ltm (mset S_8 38 15 (0 : Int32)) fun S_9 => fX3_read_44  FU S_9 (0 : Int32)
theorem dX3_read_0 : decode cX3_read 0 = .ok (.aload_n 0, 1) := by decide +kernel
theorem dX3_read_1 : decode cX3_read 1 = .ok (.getfield 22, 3) := by decide +kernel
theorem dX3_read_4 : decode cX3_read 4 = .ok (.invokevirtual 33, 3) := by decide +kernel
theorem dX3_read_7 : decode cX3_read 7 = .ok (.aload_n 0, 1) := by decide +kernel
theorem dX3_read_8 : decode cX3_read 8 = .ok (.iconst 0, 1) := by decide +kernel
theorem dX3_read_9 : decode cX3_read 9 = .ok (.putfield 36, 3) := by decide +kernel
theorem dX3_read_12 : decode cX3_read 12 = .ok (.aload_n 0, 1) := by decide +kernel
theorem dX3_read_13 : decode cX3_read 13 = .ok (.iconst (-1), 1) := by decide +kernel
theorem dX3_read_14 : decode cX3_read 14 = .ok (.putfield 15, 3) := by decide +kernel
theorem dX3_read_17 : decode cX3_read 17 = .ok (.aload_n 0, 1) := by decide +kernel
theorem dX3_read_18 : decode cX3_read 18 = .ok (.iconst 0, 1) := by decide +kernel
theorem dX3_read_19 : decode cX3_read 19 = .ok (.putfield 39, 3) := by decide +kernel
theorem dX3_read_22 : decode cX3_read 22 = .ok (.aload_n 0, 1) := by decide +kernel
theorem dX3_read_23 : decode cX3_read 23 = .ok (.iconst 0, 1) := by decide +kernel
theorem dX3_read_24 : decode cX3_read 24 = .ok (.putfield 42, 3) := by decide +kernel
theorem dX3_read_27 : decode cX3_read 27 = .ok (.aload_n 0, 1) := by decide +kernel
theorem dX3_read_28 : decode cX3_read 28 = .ok (.iconst 0, 1) := by decide +kernel
theorem dX3_read_29 : decode cX3_read 29 = .ok (.putfield 45, 3) := by decide +kernel
theorem dX3_read_32 : decode cX3_read 32 = .ok (.aload_n 0, 1) := by decide +kernel
theorem dX3_read_33 : decode cX3_read 33 = .ok (.iconst 0, 1) := by decide +kernel
theorem dX3_read_34 : decode cX3_read 34 = .ok (.putfield 48, 3) := by decide +kernel
theorem dX3_read_37 : decode cX3_read 37 = .ok (.aload_n 0, 1) := by decide +kernel
theorem dX3_read_38 : decode cX3_read 38 = .ok (.iconst 0, 1) := by decide +kernel
theorem dX3_read_39 : decode cX3_read 39 = .ok (.putfield 51, 3) := by decide +kernel
theorem dX3_read_42 : decode cX3_read 42 = .ok (.iconst 0, 1) := by decide +kernel
theorem dX3_read_43 : decode cX3_read 43 = .ok (.istore_n 1, 1) := by decide +kernel
theorem dX3_read_44 : decode cX3_read 44 = .ok (.iload_n 1, 1) := by decide +kernel
theorem dX3_read_45 : decode cX3_read 45 = .ok (.aload_n 0, 1) := by decide +kernel
theorem dX3_read_46 : decode cX3_read 46 = .ok (.getfield 30, 3) := by decide +kernel
theorem dX3_read_49 : decode cX3_read 49 = .ok (.if_icmp .gt 40, 3) := by decide +kernel
theorem dX3_read_52 : decode cX3_read 52 = .ok (.aload_n 0, 1) := by decide +kernel
theorem dX3_read_53 : decode cX3_read 53 = .ok (.invokevirtual 54, 3) := by decide +kernel
theorem dX3_read_56 : decode cX3_read 56 = .ok (.aload_n 0, 1) := by decide +kernel
theorem dX3_read_57 : decode cX3_read 57 = .ok (.aload_n 0, 1) := by decide +kernel
theorem dX3_read_58 : decode cX3_read 58 = .ok (.invokevirtual 57, 3) := by decide +kernel
theorem dX3_read_61 : decode cX3_read 61 = .ok (.putfield 36, 3) := by decide +kernel
theorem dX3_read_64 : decode cX3_read 64 = .ok (.aload_n 0, 1) := by decide +kernel
theorem dX3_read_65 : decode cX3_read 65 = .ok (.getfield 36, 3) := by decide +kernel
theorem dX3_read_68 : decode cX3_read 68 = .ok (.ifCond .ne 21, 3) := by decide +kernel
theorem dX3_read_71 : decode cX3_read 71 = .ok (.aload_n 0, 1) := by decide +kernel
theorem dX3_read_72 : decode cX3_read 72 = .ok (.getfield 61, 3) := by decide +kernel
theorem dX3_read_75 : decode cX3_read 75 = .ok (.bipush 29, 2) := by decide +kernel
theorem dX3_read_77 : decode cX3_read 77 = .ok (.if_icmp .ne 6, 3) := by decide +kernel
theorem dX3_read_80 : decode cX3_read 80 = .ok (.goto 9, 3) := by decide +kernel
theorem dX3_read_83 : decode cX3_read 83 = .ok (.iinc 1 1, 3) := by decide +kernel
theorem dX3_read_86 : decode cX3_read 86 = .ok (.goto (-42), 3) := by decide +kernel
theorem dX3_read_89 : decode cX3_read 89 = .ok (.aload_n 0, 1) := by decide +kernel
theorem dX3_read_90 : decode cX3_read 90 = .ok (.getfield 36, 3) := by decide +kernel
theorem dX3_read_93 : decode cX3_read 93 = .ok (.ifCond .eq 11, 3) := by decide +kernel
theorem dX3_read_96 : decode cX3_read 96 = .ok (.aload_n 0, 1) := by decide +kernel
theorem dX3_read_97 : decode cX3_read 97 = .ok (.aload_n 0, 1) := by decide +kernel
theorem dX3_read_98 : decode cX3_read 98 = .ok (.getfield 64, 3) := by decide +kernel
theorem dX3_read_101 : decode cX3_read 101 = .ok (.putfield 15, 3) := by decide +kernel
theorem dX3_read_104 : decode cX3_read 104 = .ok (.aload_n 0, 1) := by decide +kernel
theorem dX3_read_105 : decode cX3_read 105 = .ok (.iconst 0, 1) := by decide +kernel
theorem dX3_read_106 : decode cX3_read 106 = .ok (.putfield 30, 3) := by decide +kernel
theorem dX3_read_109 : decode cX3_read 109 = .ok (.return_, 1) := by decide +kernel
set_option maxRecDepth 20000 in
theorem wX3_read_104 {p : Program} {l : Launch} {e : Env} {s : State} {m : MethodId} {args : Array Value} {below : List Frame} {meth : Method} {c : Code} {Z : XG} {r : Int32} {S' : Mem} (E : XE p s m args meth c cX3_read 2 RX3 none xL Z) : ∀ (S : Mem), fX3_read_104  S  = some (r, S') → WN p l e { frames := 7, cells := 0, slots := 0, locals := 152 } s m args below meth c xL Z (XV xL Z S') S 104 2 [(0, .ref (Z.2.1 38))] [] := by
  obtain ⟨hx, hb, -, -, -, -, -, -, -, hQ⟩ := id E
  intro S  h H locs ls X hl
  unfold fX3_read_104 at h
  refine lv_aload_n hx hb dX3_read_104 rfl (lv_at hl 0 rfl) ?_
  refine lv_iconst (v := (0 : Int32)) hx hb dX3_read_105 (by decide) ?_
  obtain ⟨S_1, eS_1, h⟩ := ltm_s h
  refine x_put E X fpX3_30 rfl rfl dX3_read_106 (fun H locs X => ?_)
  rw [← eS_1] at X
  exact x_vret E X h dX3_read_109
set_option maxRecDepth 20000 in
theorem wX3_read_89 {p : Program} {l : Launch} {e : Env} {s : State} {m : MethodId} {args : Array Value} {below : List Frame} {meth : Method} {c : Code} {Z : XG} {r : Int32} {S' : Mem} (E : XE p s m args meth c cX3_read 2 RX3 none xL Z) : ∀ (S : Mem), fX3_read_89  S  = some (r, S') → WN p l e { frames := 7, cells := 0, slots := 0, locals := 152 } s m args below meth c xL Z (XV xL Z S') S 89 2 [(0, .ref (Z.2.1 38))] [] := by
  obtain ⟨hx, hb, -, -, -, -, -, -, -, hQ⟩ := id E
  intro S  h H locs ls X hl
  unfold fX3_read_89 at h
  refine lv_aload_n hx hb dX3_read_89 rfl (lv_at hl 0 rfl) ?_
  refine x_get E X ffX3_36 rfl rfl dX3_read_90 ?_
  refine lv_if_eq (tgt := 104) hx hb dX3_read_93 (by decide) (fun c_1 => ?_) (fun c_1 => ?_)
  · have h := if_t c_1 h
    exact wX3_read_104 E   S  h _ _ _ X hl
  · have h := if_f c_1 h
    refine lv_aload_n hx hb dX3_read_96 rfl (lv_at hl 0 rfl) ?_
    refine lv_aload_n hx hb dX3_read_97 rfl (lv_at hl 0 rfl) ?_
    refine x_get E X ffX3_64 rfl rfl dX3_read_98 ?_
    obtain ⟨S_2, eS_2, h⟩ := ltm_s h
    refine x_put E X fpX3_15 rfl rfl dX3_read_101 (fun H locs X => ?_)
    rw [← eS_2] at X
    exact wX3_read_104 E   S_2  h _ _ _ X hl
set_option maxRecDepth 20000 in
theorem wX3_read_44_b {p : Program} {l : Launch} {e : Env} {s : State} {m : MethodId} {args : Array Value} {below : List Frame} {meth : Method} {c : Code} {Z : XG} {r : Int32} {S' : Mem} (E : XE p s m args meth c cX3_read 2 RX3 none xL Z) (k0 : Mem → Int32 → O)  (hk0 : ∀ (S : Mem) (x1 : Int32), k0 S x1 = some (r, S') → WN p l e { frames := 7, cells := 0, slots := 0, locals := 152 } s m args below meth c xL Z (XV xL Z S') S 44 2 [(0, .ref (Z.2.1 38)), (1, .int x1)] []) : ∀ (S : Mem) (x1 : Int32), fX3_read_44_b k0 S x1 = some (r, S') → WN p l e { frames := 7, cells := 0, slots := 0, locals := 152 } s m args below meth c xL Z (XV xL Z S') S 44 2 [(0, .ref (Z.2.1 38)), (1, .int x1)] [] := by
  obtain ⟨hx, hb, -, -, -, -, -, -, -, hQ⟩ := id E
  intro S x1 h H locs ls X hl
  unfold fX3_read_44_b at h
  refine lv_iload_n hx hb dX3_read_44 rfl (lv_at hl 1 rfl) ?_
  refine lv_aload_n hx hb dX3_read_45 rfl (lv_at hl 0 rfl) ?_
  refine x_get E X ffX3_30 rfl rfl dX3_read_46 ?_
  refine lv_icmp_gt (tgt := 89) hx hb dX3_read_49 (by decide) (fun c_1 => ?_) (fun c_1 => ?_)
  · have h := if_t c_1 h
    exact wX3_read_89 E   S  h _ _ _ X (lv_sub hl [0] rfl)
  · have h := if_f c_1 h
    refine lv_aload_n hx hb dX3_read_52 rfl (lv_at hl 0 rfl) ?_
    obtain ⟨r_2, S_3, hr_2, h⟩ := bnd_s h
    refine x_callVv E X cwX3_54 (mX3_scan l Z hQ   hr_2) rfl rfl rfl rfl hl.1 rfl dX3_read_53 (fun H locs X => ?_)
    refine lv_aload_n hx hb dX3_read_56 rfl (lv_at hl 0 rfl) ?_
    refine lv_aload_n hx hb dX3_read_57 rfl (lv_at hl 0 rfl) ?_
    obtain ⟨r_4, S_5, hr_4, h⟩ := bnd_s h
    refine x_callV E X cwX3_57 (mX3_take l Z hQ   hr_4) rfl rfl rfl rfl hl.1 rfl dX3_read_58 (fun H locs X => ?_)
    obtain ⟨S_6, eS_6, h⟩ := ltm_s h
    refine x_put E X fpX3_36 rfl rfl dX3_read_61 (fun H locs X => ?_)
    rw [← eS_6] at X
    refine lv_aload_n hx hb dX3_read_64 rfl (lv_at hl 0 rfl) ?_
    refine x_get E X ffX3_36 rfl rfl dX3_read_65 ?_
    refine lv_if_ne (tgt := 89) hx hb dX3_read_68 (by decide) (fun c_7 => ?_) (fun c_7 => ?_)
    · have h := if_f c_7 h
      exact wX3_read_89 E   S_6  h _ _ _ X (lv_sub hl [0] rfl)
    · have h := if_t c_7 h
      refine lv_aload_n hx hb dX3_read_71 rfl (lv_at hl 0 rfl) ?_
      refine x_get E X ffX3_61 rfl rfl dX3_read_72 ?_
      refine lv_bipush (v := (29 : Int32)) hx hb dX3_read_75 (by decide) ?_
      refine lv_icmp_ne (tgt := 83) hx hb dX3_read_77 (by decide) (fun c_8 => ?_) (fun c_8 => ?_)
      · have h := if_f c_8 h
        refine lv_iinc (v := (x1 + (1 : Int32))) (lv' := [(1, .int (x1 + (1 : Int32))), (0, .ref (Z.2.1 38))]) hx hb dX3_read_83 hl (k := 1) rfl rfl (by decide) rfl (fun ls hl => ?_)
        refine lv_goto (tgt := 44) hx hb dX3_read_86 (by decide) ?_
        exact hk0 S_6 (x1 + (1 : Int32)) h _ _ _ X (lv_sub hl [1, 0] rfl)
      · have h := if_t c_8 h
        refine lv_goto (tgt := 89) hx hb dX3_read_80 (by decide) ?_
        exact wX3_read_89 E   S_6  h _ _ _ X (lv_sub hl [0] rfl)
theorem wX3_read_44 {p : Program} {l : Launch} {e : Env} {s : State} {m : MethodId} {args : Array Value} {below : List Frame} {meth : Method} {c : Code} {Z : XG} {r : Int32} {S' : Mem} (E : XE p s m args meth c cX3_read 2 RX3 none xL Z) : ∀ (n : Nat) (S : Mem) (x1 : Int32), fX3_read_44 n S x1 = some (r, S') → WN p l e { frames := 7, cells := 0, slots := 0, locals := 152 } s m args below meth c xL Z (XV xL Z S') S 44 2 [(0, .ref (Z.2.1 38)), (1, .int x1)] [] := by
  intro n
  induction n with
  | zero => intro S x1 h; exact absurd (show (none : O) = some _ from h) (by simp)
  | succ n ih => intro S x1 h; exact wX3_read_44_b E (fX3_read_44 n) ih S x1 h
set_option maxRecDepth 20000 in
theorem wX3_read {p : Program} {l : Launch} {e : Env} {s : State} {m : MethodId} {args : Array Value} {below : List Frame} {meth : Method} {c : Code} {Z : XG} {r : Int32} {S' : Mem} (E : XE p s m args meth c cX3_read 2 RX3 none xL Z) : ∀ (S : Mem), fX3_read  S  = some (r, S') → WN p l e { frames := 7, cells := 0, slots := 0, locals := 152 } s m args below meth c xL Z (XV xL Z S') S 0 2 [(0, .ref (Z.2.1 38))] [] := by
  obtain ⟨hx, hb, -, -, -, -, -, -, -, hQ⟩ := id E
  intro S  h H locs ls X hl
  unfold fX3_read at h
  refine lv_aload_n hx hb dX3_read_0 rfl (lv_at hl 0 rfl) ?_
  refine x_getr E X ffX3_22 rfl rfl dX3_read_1 ?_
  obtain ⟨r_1, S_2, hr_1, h⟩ := bnd_s h
  refine x_callVv E X cwX3_33 (mX4_clear_40 l Z hQ   hr_1) rfl rfl rfl rfl hl.1 rfl dX3_read_4 (fun H locs X => ?_)
  refine lv_aload_n hx hb dX3_read_7 rfl (lv_at hl 0 rfl) ?_
  refine lv_iconst (v := (0 : Int32)) hx hb dX3_read_8 (by decide) ?_
  obtain ⟨S_3, eS_3, h⟩ := ltm_s h
  refine x_put E X fpX3_36 rfl rfl dX3_read_9 (fun H locs X => ?_)
  rw [← eS_3] at X
  refine lv_aload_n hx hb dX3_read_12 rfl (lv_at hl 0 rfl) ?_
  refine lv_iconst (v := (-1 : Int32)) hx hb dX3_read_13 (by decide) ?_
  obtain ⟨S_4, eS_4, h⟩ := ltm_s h
  refine x_put E X fpX3_15 rfl rfl dX3_read_14 (fun H locs X => ?_)
  rw [← eS_4] at X
  refine lv_aload_n hx hb dX3_read_17 rfl (lv_at hl 0 rfl) ?_
  refine lv_iconst (v := (0 : Int32)) hx hb dX3_read_18 (by decide) ?_
  obtain ⟨S_5, eS_5, h⟩ := ltm_s h
  refine x_put E X fpX3_39 rfl rfl dX3_read_19 (fun H locs X => ?_)
  rw [← eS_5] at X
  refine lv_aload_n hx hb dX3_read_22 rfl (lv_at hl 0 rfl) ?_
  refine lv_iconst (v := (0 : Int32)) hx hb dX3_read_23 (by decide) ?_
  obtain ⟨S_6, eS_6, h⟩ := ltm_s h
  refine x_put E X fpX3_42 rfl rfl dX3_read_24 (fun H locs X => ?_)
  rw [← eS_6] at X
  refine lv_aload_n hx hb dX3_read_27 rfl (lv_at hl 0 rfl) ?_
  refine lv_iconst (v := (0 : Int32)) hx hb dX3_read_28 (by decide) ?_
  obtain ⟨S_7, eS_7, h⟩ := ltm_s h
  refine x_put E X fpX3_45 rfl rfl dX3_read_29 (fun H locs X => ?_)
  rw [← eS_7] at X
  refine lv_aload_n hx hb dX3_read_32 rfl (lv_at hl 0 rfl) ?_
  refine lv_iconst (v := (0 : Int32)) hx hb dX3_read_33 (by decide) ?_
  obtain ⟨S_8, eS_8, h⟩ := ltm_s h
  refine x_put E X fpX3_48 rfl rfl dX3_read_34 (fun H locs X => ?_)
  rw [← eS_8] at X
  refine lv_aload_n hx hb dX3_read_37 rfl (lv_at hl 0 rfl) ?_
  refine lv_iconst (v := (0 : Int32)) hx hb dX3_read_38 (by decide) ?_
  obtain ⟨S_9, eS_9, h⟩ := ltm_s h
  refine x_put E X fpX3_51 rfl rfl dX3_read_39 (fun H locs X => ?_)
  rw [← eS_9] at X
  refine lv_iconst (v := (0 : Int32)) hx hb dX3_read_42 (by decide) ?_
  refine lv_istore_n (lv' := [(1, .int (0 : Int32)), (0, .ref (Z.2.1 38))]) hx hb dX3_read_43 rfl hl (by decide) rfl (fun ls hl => ?_)
  exact wX3_read_44 E   FU S_9 (0 : Int32) h _ _ _ X (lv_sub hl [1, 0] rfl)
/-- SevenToAShadow$Reader.read()V -/
theorem mX3_read (l : Launch) (Z : XG) (hQ : wQ (List.length xL) Z) {S S' : Mem} {r : Int32} (h : fX3_read S  = some (r, S')) : XM l yX3_read cX3_read 2 none { frames := 7, cells := 0, slots := 0, locals := 152 } xL Z [.ref (Z.2.1 38)] S (XV xL Z S') := by
  refine XM.of (own := RX3) (by decide +kernel) rfl rfl hQ (fun p e s m args below meth c E ls hl X => ?_)
  exact wX3_read E S  h _ _ _ X hl
def fX7_fault (S : Mem) (x1 : Int32) : O := (if x1 = 0 then some ((S 38 2), S) else (if x1 = (1 : Int32) then some ((S 38 3), S) else some ((-1 : Int32), S)))
theorem dX7_fault_0 : decode cX7_fault 0 = .ok (.iload_n 1, 1) := by decide +kernel
theorem dX7_fault_1 : decode cX7_fault 1 = .ok (.ifCond .ne 11, 3) := by decide +kernel
theorem dX7_fault_4 : decode cX7_fault 4 = .ok (.aload_n 0, 1) := by decide +kernel
theorem dX7_fault_5 : decode cX7_fault 5 = .ok (.getfield 45, 3) := by decide +kernel
theorem dX7_fault_8 : decode cX7_fault 8 = .ok (.getfield 107, 3) := by decide +kernel
theorem dX7_fault_11 : decode cX7_fault 11 = .ok (.ireturn, 1) := by decide +kernel
theorem dX7_fault_12 : decode cX7_fault 12 = .ok (.iload_n 1, 1) := by decide +kernel
theorem dX7_fault_13 : decode cX7_fault 13 = .ok (.iconst 1, 1) := by decide +kernel
theorem dX7_fault_14 : decode cX7_fault 14 = .ok (.if_icmp .ne 13, 3) := by decide +kernel
theorem dX7_fault_17 : decode cX7_fault 17 = .ok (.aload_n 0, 1) := by decide +kernel
theorem dX7_fault_18 : decode cX7_fault 18 = .ok (.getfield 45, 3) := by decide +kernel
theorem dX7_fault_21 : decode cX7_fault 21 = .ok (.getfield 120, 3) := by decide +kernel
theorem dX7_fault_24 : decode cX7_fault 24 = .ok (.goto 4, 3) := by decide +kernel
theorem dX7_fault_27 : decode cX7_fault 27 = .ok (.iconst (-1), 1) := by decide +kernel
theorem dX7_fault_28 : decode cX7_fault 28 = .ok (.ireturn, 1) := by decide +kernel
set_option maxRecDepth 20000 in
theorem wX7_fault {p : Program} {l : Launch} {e : Env} {s : State} {m : MethodId} {args : Array Value} {below : List Frame} {meth : Method} {c : Code} {Z : XG} {r : Int32} {S' : Mem} (E : XE p s m args meth c cX7_fault 2 RX7 (some .int) xL Z) : ∀ (S : Mem) (x1 : Int32), fX7_fault  S x1 = some (r, S') → WN p l e { frames := 0, cells := 0, slots := 0, locals := 0 } s m args below meth c xL Z (XQ xL Z r S') S 0 2 [(0, .ref (Z.2.1 0)), (1, .int x1)] [] := by
  obtain ⟨hx, hb, -, -, -, -, -, -, -, hQ⟩ := id E
  intro S x1 h H locs ls X hl
  unfold fX7_fault at h
  refine lv_iload_n hx hb dX7_fault_0 rfl (lv_at hl 1 rfl) ?_
  refine lv_if_ne (tgt := 12) hx hb dX7_fault_1 (by decide) (fun c_1 => ?_) (fun c_1 => ?_)
  · have h := if_f c_1 h
    refine lv_iload_n hx hb dX7_fault_12 rfl (lv_at hl 1 rfl) ?_
    refine lv_iconst (v := (1 : Int32)) hx hb dX7_fault_13 (by decide) ?_
    refine lv_icmp_ne (tgt := 27) hx hb dX7_fault_14 (by decide) (fun c_2 => ?_) (fun c_2 => ?_)
    · have h := if_f c_2 h
      refine lv_iconst (v := (-1 : Int32)) hx hb dX7_fault_27 (by decide) ?_
      exact x_iret E X h dX7_fault_28
    · have h := if_t c_2 h
      refine lv_aload_n hx hb dX7_fault_17 rfl (lv_at hl 0 rfl) ?_
      refine x_getr E X ffX7_45 rfl rfl dX7_fault_18 ?_
      refine x_get E X ffX7_120 rfl rfl dX7_fault_21 ?_
      refine lv_goto (tgt := 28) hx hb dX7_fault_24 (by decide) ?_
      exact x_iret E X h dX7_fault_28
  · have h := if_t c_1 h
    refine lv_aload_n hx hb dX7_fault_4 rfl (lv_at hl 0 rfl) ?_
    refine x_getr E X ffX7_45 rfl rfl dX7_fault_5 ?_
    refine x_get E X ffX7_107 rfl rfl dX7_fault_8 ?_
    exact x_iret E X h dX7_fault_11
/-- SevenToAShadow.fault(I)I -/
theorem mX7_fault (l : Launch) (Z : XG) (hQ : wQ (List.length xL) Z) {S S' : Mem} {r : Int32} (x1 : Int32) (h : fX7_fault S x1 = some (r, S')) : XM l yX7_fault cX7_fault 2 (some .int) { frames := 0, cells := 0, slots := 0, locals := 0 } xL Z [.ref (Z.2.1 0), .int x1] S (XQ xL Z r S') := by
  refine XM.of (own := RX7) (by decide +kernel) rfl rfl hQ (fun p e s m args below meth c E ls hl X => ?_)
  exact wX7_fault E S x1 h _ _ _ X hl
def fX2_keep_25_1 (S : Mem) : O := (if (S 25 4) < (12 : Int32) then gd (cpG (0 : Int32) (((S 25 4) * (10 : Int32)) * (10 : Int32)) (100 : Int32) 100 1200) <| ltm (mput S 26 (va_cpy (S 3) (S 26) ((0 : Int32)).toNatClampNeg ((((S 25 4) * (10 : Int32)) * (10 : Int32))).toNatClampNeg ((100 : Int32)).toNatClampNeg)) fun S_3 => gd (inB (S_3 25 4) 12) <| ltm (mset S_3 27 ((S_3 25 4)).toNatClampNeg (S_3 1 6)) fun S_5 => gd (inB (S_5 25 4) 12) <| ltm (mset S_5 28 ((S_5 25 4)).toNatClampNeg (S_5 1 10)) fun S_7 => gd (inB (S_7 25 4) 12) <| ltm (mset S_7 29 ((S_7 25 4)).toNatClampNeg (S_7 6 1)) fun S_9 => ltm (mset S_9 25 4 ((S_9 25 4) + (1 : Int32))) fun S_10 => some ((0 : Int32), S_10) else some ((0 : Int32), S))
theorem dX2_keep_0 : decode cX2_keep 0 = .ok (.aload_n 0, 1) := by decide +kernel
theorem dX2_keep_1 : decode cX2_keep 1 = .ok (.getfield 24, 3) := by decide +kernel
theorem dX2_keep_4 : decode cX2_keep 4 = .ok (.bipush 12, 2) := by decide +kernel
theorem dX2_keep_6 : decode cX2_keep 6 = .ok (.if_icmp .lt 4, 3) := by decide +kernel
theorem dX2_keep_9 : decode cX2_keep 9 = .ok (.return_, 1) := by decide +kernel
theorem dX2_keep_10 : decode cX2_keep 10 = .ok (.aload_n 1, 1) := by decide +kernel
theorem dX2_keep_11 : decode cX2_keep 11 = .ok (.getfield 28, 3) := by decide +kernel
theorem dX2_keep_14 : decode cX2_keep 14 = .ok (.iconst 0, 1) := by decide +kernel
theorem dX2_keep_15 : decode cX2_keep 15 = .ok (.aload_n 0, 1) := by decide +kernel
theorem dX2_keep_16 : decode cX2_keep 16 = .ok (.getfield 9, 3) := by decide +kernel
theorem dX2_keep_19 : decode cX2_keep 19 = .ok (.aload_n 0, 1) := by decide +kernel
theorem dX2_keep_20 : decode cX2_keep 20 = .ok (.getfield 24, 3) := by decide +kernel
theorem dX2_keep_23 : decode cX2_keep 23 = .ok (.bipush 10, 2) := by decide +kernel
theorem dX2_keep_25 : decode cX2_keep 25 = .ok (.imul, 1) := by decide +kernel
theorem dX2_keep_26 : decode cX2_keep 26 = .ok (.bipush 10, 2) := by decide +kernel
theorem dX2_keep_28 : decode cX2_keep 28 = .ok (.imul, 1) := by decide +kernel
theorem dX2_keep_29 : decode cX2_keep 29 = .ok (.bipush 100, 2) := by decide +kernel
theorem dX2_keep_31 : decode cX2_keep 31 = .ok (.invokestatic 31, 3) := by decide +kernel
theorem dX2_keep_34 : decode cX2_keep 34 = .ok (.aload_n 0, 1) := by decide +kernel
theorem dX2_keep_35 : decode cX2_keep 35 = .ok (.getfield 15, 3) := by decide +kernel
theorem dX2_keep_38 : decode cX2_keep 38 = .ok (.aload_n 0, 1) := by decide +kernel
theorem dX2_keep_39 : decode cX2_keep 39 = .ok (.getfield 24, 3) := by decide +kernel
theorem dX2_keep_42 : decode cX2_keep 42 = .ok (.aload_n 1, 1) := by decide +kernel
theorem dX2_keep_43 : decode cX2_keep 43 = .ok (.getfield 37, 3) := by decide +kernel
theorem dX2_keep_46 : decode cX2_keep 46 = .ok (.iastore, 1) := by decide +kernel
theorem dX2_keep_47 : decode cX2_keep 47 = .ok (.aload_n 0, 1) := by decide +kernel
theorem dX2_keep_48 : decode cX2_keep 48 = .ok (.getfield 18, 3) := by decide +kernel
theorem dX2_keep_51 : decode cX2_keep 51 = .ok (.aload_n 0, 1) := by decide +kernel
theorem dX2_keep_52 : decode cX2_keep 52 = .ok (.getfield 24, 3) := by decide +kernel
theorem dX2_keep_55 : decode cX2_keep 55 = .ok (.aload_n 1, 1) := by decide +kernel
theorem dX2_keep_56 : decode cX2_keep 56 = .ok (.getfield 39, 3) := by decide +kernel
theorem dX2_keep_59 : decode cX2_keep 59 = .ok (.iastore, 1) := by decide +kernel
theorem dX2_keep_60 : decode cX2_keep 60 = .ok (.aload_n 0, 1) := by decide +kernel
theorem dX2_keep_61 : decode cX2_keep 61 = .ok (.getfield 21, 3) := by decide +kernel
theorem dX2_keep_64 : decode cX2_keep 64 = .ok (.aload_n 0, 1) := by decide +kernel
theorem dX2_keep_65 : decode cX2_keep 65 = .ok (.getfield 24, 3) := by decide +kernel
theorem dX2_keep_68 : decode cX2_keep 68 = .ok (.aload_n 1, 1) := by decide +kernel
theorem dX2_keep_69 : decode cX2_keep 69 = .ok (.getfield 41, 3) := by decide +kernel
theorem dX2_keep_72 : decode cX2_keep 72 = .ok (.getfield 45, 3) := by decide +kernel
theorem dX2_keep_75 : decode cX2_keep 75 = .ok (.iastore, 1) := by decide +kernel
theorem dX2_keep_76 : decode cX2_keep 76 = .ok (.aload_n 0, 1) := by decide +kernel
theorem dX2_keep_77 : decode cX2_keep 77 = .ok (.dup, 1) := by decide +kernel
theorem dX2_keep_78 : decode cX2_keep 78 = .ok (.getfield 24, 3) := by decide +kernel
theorem dX2_keep_81 : decode cX2_keep 81 = .ok (.iconst 1, 1) := by decide +kernel
theorem dX2_keep_82 : decode cX2_keep 82 = .ok (.iadd, 1) := by decide +kernel
theorem dX2_keep_83 : decode cX2_keep 83 = .ok (.putfield 24, 3) := by decide +kernel
theorem dX2_keep_86 : decode cX2_keep 86 = .ok (.return_, 1) := by decide +kernel
set_option maxRecDepth 20000 in
theorem wX2_keep_25_1 {p : Program} {l : Launch} {e : Env} {s : State} {m : MethodId} {args : Array Value} {below : List Frame} {meth : Method} {c : Code} {Z : XG} {r : Int32} {S' : Mem} (E : XE p s m args meth c cX2_keep 2 RX2 none xL Z) : ∀ (S : Mem), fX2_keep_25_1  S  = some (r, S') → WN p l e { frames := 1, cells := 0, slots := 0, locals := 30 } s m args below meth c xL Z (XV xL Z S') S 0 2 [(0, .ref (Z.2.1 25)), (1, .ref (Z.2.1 1))] [] := by
  obtain ⟨hx, hb, -, -, -, -, -, -, -, hQ⟩ := id E
  intro S  h H locs ls X hl
  unfold fX2_keep_25_1 at h
  refine lv_aload_n hx hb dX2_keep_0 rfl (lv_at hl 0 rfl) ?_
  refine x_get E X ffX2_24 rfl rfl dX2_keep_1 ?_
  refine lv_bipush (v := (12 : Int32)) hx hb dX2_keep_4 (by decide) ?_
  refine lv_icmp_lt (tgt := 10) hx hb dX2_keep_6 (by decide) (fun c_1 => ?_) (fun c_1 => ?_)
  · have h := if_t c_1 h
    refine lv_aload_n hx hb dX2_keep_10 rfl (lv_at hl 1 rfl) ?_
    refine x_getr E X ffX2_28 rfl rfl dX2_keep_11 ?_
    refine lv_iconst (v := (0 : Int32)) hx hb dX2_keep_14 (by decide) ?_
    refine lv_aload_n hx hb dX2_keep_15 rfl (lv_at hl 0 rfl) ?_
    refine x_getr E X ffX2_9 rfl rfl dX2_keep_16 ?_
    refine lv_aload_n hx hb dX2_keep_19 rfl (lv_at hl 0 rfl) ?_
    refine x_get E X ffX2_24 rfl rfl dX2_keep_20 ?_
    refine lv_bipush (v := (10 : Int32)) hx hb dX2_keep_23 (by decide) ?_
    refine lv_imul hx hb dX2_keep_25 ?_
    refine lv_bipush (v := (10 : Int32)) hx hb dX2_keep_26 (by decide) ?_
    refine lv_imul hx hb dX2_keep_28 ?_
    refine lv_bipush (v := (100 : Int32)) hx hb dX2_keep_29 (by decide) ?_
    obtain ⟨g_2, h⟩ := gd_s h
    obtain ⟨S_3, eS_3, h⟩ := ltm_s h
    refine x_copy E X cwX2_31 rfl rfl g_2 hl.1 rfl rfl dX2_keep_31 (fun H locs X => ?_)
    rw [← eS_3] at X
    refine lv_aload_n hx hb dX2_keep_34 rfl (lv_at hl 0 rfl) ?_
    refine x_getr E X ffX2_15 rfl rfl dX2_keep_35 ?_
    refine lv_aload_n hx hb dX2_keep_38 rfl (lv_at hl 0 rfl) ?_
    refine x_get E X ffX2_24 rfl rfl dX2_keep_39 ?_
    refine lv_aload_n hx hb dX2_keep_42 rfl (lv_at hl 1 rfl) ?_
    refine x_get E X ffX2_37 rfl rfl dX2_keep_43 ?_
    obtain ⟨g_4, h⟩ := gd_s h
    obtain ⟨S_5, eS_5, h⟩ := ltm_s h
    refine x_iast E X rfl g_4 dX2_keep_46 (fun H locs X => ?_)
    rw [← eS_5] at X
    refine lv_aload_n hx hb dX2_keep_47 rfl (lv_at hl 0 rfl) ?_
    refine x_getr E X ffX2_18 rfl rfl dX2_keep_48 ?_
    refine lv_aload_n hx hb dX2_keep_51 rfl (lv_at hl 0 rfl) ?_
    refine x_get E X ffX2_24 rfl rfl dX2_keep_52 ?_
    refine lv_aload_n hx hb dX2_keep_55 rfl (lv_at hl 1 rfl) ?_
    refine x_get E X ffX2_39 rfl rfl dX2_keep_56 ?_
    obtain ⟨g_6, h⟩ := gd_s h
    obtain ⟨S_7, eS_7, h⟩ := ltm_s h
    refine x_iast E X rfl g_6 dX2_keep_59 (fun H locs X => ?_)
    rw [← eS_7] at X
    refine lv_aload_n hx hb dX2_keep_60 rfl (lv_at hl 0 rfl) ?_
    refine x_getr E X ffX2_21 rfl rfl dX2_keep_61 ?_
    refine lv_aload_n hx hb dX2_keep_64 rfl (lv_at hl 0 rfl) ?_
    refine x_get E X ffX2_24 rfl rfl dX2_keep_65 ?_
    refine lv_aload_n hx hb dX2_keep_68 rfl (lv_at hl 1 rfl) ?_
    refine x_getr E X ffX2_41 rfl rfl dX2_keep_69 ?_
    refine x_get E X ffX2_45 rfl rfl dX2_keep_72 ?_
    obtain ⟨g_8, h⟩ := gd_s h
    obtain ⟨S_9, eS_9, h⟩ := ltm_s h
    refine x_iast E X rfl g_8 dX2_keep_75 (fun H locs X => ?_)
    rw [← eS_9] at X
    refine lv_aload_n hx hb dX2_keep_76 rfl (lv_at hl 0 rfl) ?_
    refine lv_dup hx hb dX2_keep_77 rfl ?_
    refine x_get E X ffX2_24 rfl rfl dX2_keep_78 ?_
    refine lv_iconst (v := (1 : Int32)) hx hb dX2_keep_81 (by decide) ?_
    refine lv_iadd hx hb dX2_keep_82 ?_
    obtain ⟨S_10, eS_10, h⟩ := ltm_s h
    refine x_put E X fpX2_24 rfl rfl dX2_keep_83 (fun H locs X => ?_)
    rw [← eS_10] at X
    exact x_vret E X h dX2_keep_86
  · have h := if_f c_1 h
    exact x_vret E X h dX2_keep_9
/-- SevenToAShadow$Past.keep(LSevenToAShadow$World;)V -/
theorem mX2_keep_25_1 (l : Launch) (Z : XG) (hQ : wQ (List.length xL) Z) {S S' : Mem} {r : Int32} (h : fX2_keep_25_1 S  = some (r, S')) : XM l yX2_keep cX2_keep 2 none { frames := 1, cells := 0, slots := 0, locals := 30 } xL Z [.ref (Z.2.1 25), .ref (Z.2.1 1)] S (XV xL Z S') := by
  refine XM.of (own := RX2) (by decide +kernel) rfl rfl hQ (fun p e s m args below meth c E ls hl X => ?_)
  exact wX2_keep_25_1 E S  h _ _ _ X hl
def fX6_inHour (S : Mem) (x1 x2 : Int32) : O := (if x1 < 0 then some ((0 : Int32), S) else (if (12 : Int32) ≤ x1 then some ((0 : Int32), S) else (if x2 < 0 then some ((0 : Int32), S) else (if x2 < (5 : Int32) then gd (inB ((x1 * (5 : Int32)) + x2) 60) <| some ((S 2 (((x1 * (5 : Int32)) + x2)).toNatClampNeg), S) else some ((0 : Int32), S)))))
theorem dX6_inHour_0 : decode cX6_inHour 0 = .ok (.iload_n 1, 1) := by decide +kernel
theorem dX6_inHour_1 : decode cX6_inHour 1 = .ok (.ifCond .lt 18, 3) := by decide +kernel
theorem dX6_inHour_4 : decode cX6_inHour 4 = .ok (.iload_n 1, 1) := by decide +kernel
theorem dX6_inHour_5 : decode cX6_inHour 5 = .ok (.bipush 12, 2) := by decide +kernel
theorem dX6_inHour_7 : decode cX6_inHour 7 = .ok (.if_icmp .ge 12, 3) := by decide +kernel
theorem dX6_inHour_10 : decode cX6_inHour 10 = .ok (.iload_n 2, 1) := by decide +kernel
theorem dX6_inHour_11 : decode cX6_inHour 11 = .ok (.ifCond .lt 8, 3) := by decide +kernel
theorem dX6_inHour_14 : decode cX6_inHour 14 = .ok (.iload_n 2, 1) := by decide +kernel
theorem dX6_inHour_15 : decode cX6_inHour 15 = .ok (.iconst 5, 1) := by decide +kernel
theorem dX6_inHour_16 : decode cX6_inHour 16 = .ok (.if_icmp .lt 5, 3) := by decide +kernel
theorem dX6_inHour_19 : decode cX6_inHour 19 = .ok (.iconst 0, 1) := by decide +kernel
theorem dX6_inHour_20 : decode cX6_inHour 20 = .ok (.ireturn, 1) := by decide +kernel
theorem dX6_inHour_21 : decode cX6_inHour 21 = .ok (.aload_n 0, 1) := by decide +kernel
theorem dX6_inHour_22 : decode cX6_inHour 22 = .ok (.getfield 9, 3) := by decide +kernel
theorem dX6_inHour_25 : decode cX6_inHour 25 = .ok (.iload_n 1, 1) := by decide +kernel
theorem dX6_inHour_26 : decode cX6_inHour 26 = .ok (.iconst 5, 1) := by decide +kernel
theorem dX6_inHour_27 : decode cX6_inHour 27 = .ok (.imul, 1) := by decide +kernel
theorem dX6_inHour_28 : decode cX6_inHour 28 = .ok (.iload_n 2, 1) := by decide +kernel
theorem dX6_inHour_29 : decode cX6_inHour 29 = .ok (.iadd, 1) := by decide +kernel
theorem dX6_inHour_30 : decode cX6_inHour 30 = .ok (.iaload, 1) := by decide +kernel
theorem dX6_inHour_31 : decode cX6_inHour 31 = .ok (.ireturn, 1) := by decide +kernel
set_option maxRecDepth 20000 in
theorem wX6_inHour {p : Program} {l : Launch} {e : Env} {s : State} {m : MethodId} {args : Array Value} {below : List Frame} {meth : Method} {c : Code} {Z : XG} {r : Int32} {S' : Mem} (E : XE p s m args meth c cX6_inHour 3 RX6 (some .int) xL Z) : ∀ (S : Mem) (x1 x2 : Int32), fX6_inHour  S x1 x2 = some (r, S') → WN p l e { frames := 0, cells := 0, slots := 0, locals := 0 } s m args below meth c xL Z (XQ xL Z r S') S 0 3 [(0, .ref (Z.2.1 1)), (1, .int x1), (2, .int x2)] [] := by
  obtain ⟨hx, hb, -, -, -, -, -, -, -, hQ⟩ := id E
  intro S x1 x2 h H locs ls X hl
  unfold fX6_inHour at h
  refine lv_iload_n hx hb dX6_inHour_0 rfl (lv_at hl 1 rfl) ?_
  refine lv_if_lt (tgt := 19) hx hb dX6_inHour_1 (by decide) (fun c_1 => ?_) (fun c_1 => ?_)
  · have h := if_t c_1 h
    refine lv_iconst (v := (0 : Int32)) hx hb dX6_inHour_19 (by decide) ?_
    exact x_iret E X h dX6_inHour_20
  · have h := if_f c_1 h
    refine lv_iload_n hx hb dX6_inHour_4 rfl (lv_at hl 1 rfl) ?_
    refine lv_bipush (v := (12 : Int32)) hx hb dX6_inHour_5 (by decide) ?_
    refine lv_icmp_ge (tgt := 19) hx hb dX6_inHour_7 (by decide) (fun c_2 => ?_) (fun c_2 => ?_)
    · have h := if_t c_2 h
      refine lv_iconst (v := (0 : Int32)) hx hb dX6_inHour_19 (by decide) ?_
      exact x_iret E X h dX6_inHour_20
    · have h := if_f c_2 h
      refine lv_iload_n hx hb dX6_inHour_10 rfl (lv_at hl 2 rfl) ?_
      refine lv_if_lt (tgt := 19) hx hb dX6_inHour_11 (by decide) (fun c_3 => ?_) (fun c_3 => ?_)
      · have h := if_t c_3 h
        refine lv_iconst (v := (0 : Int32)) hx hb dX6_inHour_19 (by decide) ?_
        exact x_iret E X h dX6_inHour_20
      · have h := if_f c_3 h
        refine lv_iload_n hx hb dX6_inHour_14 rfl (lv_at hl 2 rfl) ?_
        refine lv_iconst (v := (5 : Int32)) hx hb dX6_inHour_15 (by decide) ?_
        refine lv_icmp_lt (tgt := 21) hx hb dX6_inHour_16 (by decide) (fun c_4 => ?_) (fun c_4 => ?_)
        · have h := if_t c_4 h
          refine lv_aload_n hx hb dX6_inHour_21 rfl (lv_at hl 0 rfl) ?_
          refine x_getr E X ffX6_9 rfl rfl dX6_inHour_22 ?_
          refine lv_iload_n hx hb dX6_inHour_25 rfl (lv_at hl 1 rfl) ?_
          refine lv_iconst (v := (5 : Int32)) hx hb dX6_inHour_26 (by decide) ?_
          refine lv_imul hx hb dX6_inHour_27 ?_
          refine lv_iload_n hx hb dX6_inHour_28 rfl (lv_at hl 2 rfl) ?_
          refine lv_iadd hx hb dX6_inHour_29 ?_
          obtain ⟨g_5, h⟩ := gd_s h
          refine x_iald E X rfl g_5 dX6_inHour_30 ?_
          exact x_iret E X h dX6_inHour_31
        · have h := if_f c_4 h
          refine lv_iconst (v := (0 : Int32)) hx hb dX6_inHour_19 (by decide) ?_
          exact x_iret E X h dX6_inHour_20
/-- SevenToAShadow$World.inHour(II)I -/
theorem mX6_inHour (l : Launch) (Z : XG) (hQ : wQ (List.length xL) Z) {S S' : Mem} {r : Int32} (x1 x2 : Int32) (h : fX6_inHour S x1 x2 = some (r, S')) : XM l yX6_inHour cX6_inHour 3 (some .int) { frames := 0, cells := 0, slots := 0, locals := 0 } xL Z [.ref (Z.2.1 1), .int x1, .int x2] S (XQ xL Z r S') := by
  refine XM.of (own := RX6) (by decide +kernel) rfl rfl hQ (fun p e s m args below meth c E ls hl X => ?_)
  exact wX6_inHour E S x1 x2 h _ _ _ X hl
def fX6_draw (S : Mem) (x1 : Int32) : O := ltm (mset S 1 6 (((1664525 : Int32) * (S 1 6)) + (1013904223 : Int32))) fun S_1 => (if x1 ≤ 0 then some ((0 : Int32), S_1) else gd (nz x1) <| some ((irem (ushr (S_1 1 6) (8 : Int32)) x1), S_1))
theorem dX6_draw_0 : decode cX6_draw 0 = .ok (.aload_n 0, 1) := by decide +kernel
theorem dX6_draw_1 : decode cX6_draw 1 = .ok (.ldc 93, 2) := by decide +kernel
theorem dX6_draw_3 : decode cX6_draw 3 = .ok (.aload_n 0, 1) := by decide +kernel
theorem dX6_draw_4 : decode cX6_draw 4 = .ok (.getfield 67, 3) := by decide +kernel
theorem dX6_draw_7 : decode cX6_draw 7 = .ok (.imul, 1) := by decide +kernel
theorem dX6_draw_8 : decode cX6_draw 8 = .ok (.ldc 94, 2) := by decide +kernel
theorem dX6_draw_10 : decode cX6_draw 10 = .ok (.iadd, 1) := by decide +kernel
theorem dX6_draw_11 : decode cX6_draw 11 = .ok (.putfield 67, 3) := by decide +kernel
theorem dX6_draw_14 : decode cX6_draw 14 = .ok (.iload_n 1, 1) := by decide +kernel
theorem dX6_draw_15 : decode cX6_draw 15 = .ok (.ifCond .le 15, 3) := by decide +kernel
theorem dX6_draw_18 : decode cX6_draw 18 = .ok (.aload_n 0, 1) := by decide +kernel
theorem dX6_draw_19 : decode cX6_draw 19 = .ok (.getfield 67, 3) := by decide +kernel
theorem dX6_draw_22 : decode cX6_draw 22 = .ok (.bipush 8, 2) := by decide +kernel
theorem dX6_draw_24 : decode cX6_draw 24 = .ok (.iushr, 1) := by decide +kernel
theorem dX6_draw_25 : decode cX6_draw 25 = .ok (.iload_n 1, 1) := by decide +kernel
theorem dX6_draw_26 : decode cX6_draw 26 = .ok (.irem, 1) := by decide +kernel
theorem dX6_draw_27 : decode cX6_draw 27 = .ok (.goto 4, 3) := by decide +kernel
theorem dX6_draw_30 : decode cX6_draw 30 = .ok (.iconst 0, 1) := by decide +kernel
theorem dX6_draw_31 : decode cX6_draw 31 = .ok (.ireturn, 1) := by decide +kernel
set_option maxRecDepth 20000 in
theorem wX6_draw {p : Program} {l : Launch} {e : Env} {s : State} {m : MethodId} {args : Array Value} {below : List Frame} {meth : Method} {c : Code} {Z : XG} {r : Int32} {S' : Mem} (E : XE p s m args meth c cX6_draw 2 RX6 (some .int) xL Z) : ∀ (S : Mem) (x1 : Int32), fX6_draw  S x1 = some (r, S') → WN p l e { frames := 0, cells := 0, slots := 0, locals := 0 } s m args below meth c xL Z (XQ xL Z r S') S 0 2 [(0, .ref (Z.2.1 1)), (1, .int x1)] [] := by
  obtain ⟨hx, hb, -, -, -, -, -, -, -, hQ⟩ := id E
  intro S x1 h H locs ls X hl
  unfold fX6_draw at h
  refine lv_aload_n hx hb dX6_draw_0 rfl (lv_at hl 0 rfl) ?_
  refine x_ldc E csX6_93 dX6_draw_1 ?_
  refine lv_aload_n hx hb dX6_draw_3 rfl (lv_at hl 0 rfl) ?_
  refine x_get E X ffX6_67 rfl rfl dX6_draw_4 ?_
  refine lv_imul hx hb dX6_draw_7 ?_
  refine x_ldc E csX6_94 dX6_draw_8 ?_
  refine lv_iadd hx hb dX6_draw_10 ?_
  obtain ⟨S_1, eS_1, h⟩ := ltm_s h
  refine x_put E X fpX6_67 rfl rfl dX6_draw_11 (fun H locs X => ?_)
  rw [← eS_1] at X
  refine lv_iload_n hx hb dX6_draw_14 rfl (lv_at hl 1 rfl) ?_
  refine lv_if_le (tgt := 30) hx hb dX6_draw_15 (by decide) (fun c_2 => ?_) (fun c_2 => ?_)
  · have h := if_t c_2 h
    refine lv_iconst (v := (0 : Int32)) hx hb dX6_draw_30 (by decide) ?_
    exact x_iret E X h dX6_draw_31
  · have h := if_f c_2 h
    refine lv_aload_n hx hb dX6_draw_18 rfl (lv_at hl 0 rfl) ?_
    refine x_get E X ffX6_67 rfl rfl dX6_draw_19 ?_
    refine lv_bipush (v := (8 : Int32)) hx hb dX6_draw_22 (by decide) ?_
    refine lv_iushr (v := (ushr (S_1 1 6) (8 : Int32))) hx hb dX6_draw_24 rfl ?_
    refine lv_iload_n hx hb dX6_draw_25 rfl (lv_at hl 1 rfl) ?_
    obtain ⟨g_3, h⟩ := gd_s h
    refine lv_irem hx hb dX6_draw_26 (of_decide_eq_true g_3) ?_
    refine lv_nm (y := (irem (ushr (S_1 1 6) (8 : Int32)) x1)) rfl ?_
    refine lv_goto (tgt := 31) hx hb dX6_draw_27 (by decide) ?_
    exact x_iret E X h dX6_draw_31
/-- SevenToAShadow$World.draw(I)I -/
theorem mX6_draw (l : Launch) (Z : XG) (hQ : wQ (List.length xL) Z) {S S' : Mem} {r : Int32} (x1 : Int32) (h : fX6_draw S x1 = some (r, S')) : XM l yX6_draw cX6_draw 2 (some .int) { frames := 0, cells := 0, slots := 0, locals := 0 } xL Z [.ref (Z.2.1 1), .int x1] S (XQ xL Z r S') := by
  refine XM.of (own := RX6) (by decide +kernel) rfl rfl hQ (fun p e s m args below meth c E ls hl X => ?_)
  exact wX6_draw E S x1 h _ _ _ X hl
def fX1_heatUnderClouds_29 (S : Mem) (x1 : Int32) : O := bnd (fX6_inHour S x1 (2 : Int32)) fun r_1 S_2 => some (r_1, S_2)
def fX1_heatUnderClouds (S : Mem) (x1 : Int32) : O := bnd (fX6_inHour S x1 (4 : Int32)) fun r_1 S_2 => (if r_1 ≤ 0 then fX1_heatUnderClouds_29  S_2 x1 else bnd (fX6_draw S_2 (10 : Int32)) fun r_4 S_5 => (if r_1 ≤ r_4 then fX1_heatUnderClouds_29  S_5 x1 else some ((0 : Int32), S_5)))
theorem dX1_heatUnderClouds_0 : decode cX1_heatUnderClouds 0 = .ok (.aload_n 0, 1) := by decide +kernel
theorem dX1_heatUnderClouds_1 : decode cX1_heatUnderClouds 1 = .ok (.getfield 15, 3) := by decide +kernel
theorem dX1_heatUnderClouds_4 : decode cX1_heatUnderClouds 4 = .ok (.iload_n 1, 1) := by decide +kernel
theorem dX1_heatUnderClouds_5 : decode cX1_heatUnderClouds 5 = .ok (.iconst 4, 1) := by decide +kernel
theorem dX1_heatUnderClouds_6 : decode cX1_heatUnderClouds 6 = .ok (.invokevirtual 47, 3) := by decide +kernel
theorem dX1_heatUnderClouds_9 : decode cX1_heatUnderClouds 9 = .ok (.istore_n 2, 1) := by decide +kernel
theorem dX1_heatUnderClouds_10 : decode cX1_heatUnderClouds 10 = .ok (.iload_n 2, 1) := by decide +kernel
theorem dX1_heatUnderClouds_11 : decode cX1_heatUnderClouds 11 = .ok (.ifCond .le 18, 3) := by decide +kernel
theorem dX1_heatUnderClouds_14 : decode cX1_heatUnderClouds 14 = .ok (.aload_n 0, 1) := by decide +kernel
theorem dX1_heatUnderClouds_15 : decode cX1_heatUnderClouds 15 = .ok (.getfield 15, 3) := by decide +kernel
theorem dX1_heatUnderClouds_18 : decode cX1_heatUnderClouds 18 = .ok (.bipush 10, 2) := by decide +kernel
theorem dX1_heatUnderClouds_20 : decode cX1_heatUnderClouds 20 = .ok (.invokevirtual 50, 3) := by decide +kernel
theorem dX1_heatUnderClouds_23 : decode cX1_heatUnderClouds 23 = .ok (.iload_n 2, 1) := by decide +kernel
theorem dX1_heatUnderClouds_24 : decode cX1_heatUnderClouds 24 = .ok (.if_icmp .ge 5, 3) := by decide +kernel
theorem dX1_heatUnderClouds_27 : decode cX1_heatUnderClouds 27 = .ok (.iconst 0, 1) := by decide +kernel
theorem dX1_heatUnderClouds_28 : decode cX1_heatUnderClouds 28 = .ok (.ireturn, 1) := by decide +kernel
theorem dX1_heatUnderClouds_29 : decode cX1_heatUnderClouds 29 = .ok (.aload_n 0, 1) := by decide +kernel
theorem dX1_heatUnderClouds_30 : decode cX1_heatUnderClouds 30 = .ok (.getfield 15, 3) := by decide +kernel
theorem dX1_heatUnderClouds_33 : decode cX1_heatUnderClouds 33 = .ok (.iload_n 1, 1) := by decide +kernel
theorem dX1_heatUnderClouds_34 : decode cX1_heatUnderClouds 34 = .ok (.iconst 2, 1) := by decide +kernel
theorem dX1_heatUnderClouds_35 : decode cX1_heatUnderClouds 35 = .ok (.invokevirtual 47, 3) := by decide +kernel
theorem dX1_heatUnderClouds_38 : decode cX1_heatUnderClouds 38 = .ok (.ireturn, 1) := by decide +kernel
set_option maxRecDepth 20000 in
theorem wX1_heatUnderClouds_29 {p : Program} {l : Launch} {e : Env} {s : State} {m : MethodId} {args : Array Value} {below : List Frame} {meth : Method} {c : Code} {Z : XG} {r : Int32} {S' : Mem} (E : XE p s m args meth c cX1_heatUnderClouds 3 RX1 (some .int) xL Z) : ∀ (S : Mem) (x1 : Int32), fX1_heatUnderClouds_29  S x1 = some (r, S') → WN p l e { frames := 1, cells := 0, slots := 0, locals := 22 } s m args below meth c xL Z (XQ xL Z r S') S 29 3 [(0, .ref (Z.2.1 30)), (1, .int x1)] [] := by
  obtain ⟨hx, hb, -, -, -, -, -, -, -, hQ⟩ := id E
  intro S x1 h H locs ls X hl
  unfold fX1_heatUnderClouds_29 at h
  refine lv_aload_n hx hb dX1_heatUnderClouds_29 rfl (lv_at hl 0 rfl) ?_
  refine x_getr E X ffX1_15 rfl rfl dX1_heatUnderClouds_30 ?_
  refine lv_iload_n hx hb dX1_heatUnderClouds_33 rfl (lv_at hl 1 rfl) ?_
  refine lv_iconst (v := (2 : Int32)) hx hb dX1_heatUnderClouds_34 (by decide) ?_
  obtain ⟨r_1, S_2, hr_1, h⟩ := bnd_s h
  refine x_callV E X cwX1_47 (mX6_inHour l Z hQ  x1 (2 : Int32) hr_1) rfl rfl rfl rfl hl.1 rfl dX1_heatUnderClouds_35 (fun H locs X => ?_)
  exact x_iret E X h dX1_heatUnderClouds_38
set_option maxRecDepth 20000 in
theorem wX1_heatUnderClouds {p : Program} {l : Launch} {e : Env} {s : State} {m : MethodId} {args : Array Value} {below : List Frame} {meth : Method} {c : Code} {Z : XG} {r : Int32} {S' : Mem} (E : XE p s m args meth c cX1_heatUnderClouds 3 RX1 (some .int) xL Z) : ∀ (S : Mem) (x1 : Int32), fX1_heatUnderClouds  S x1 = some (r, S') → WN p l e { frames := 1, cells := 0, slots := 0, locals := 22 } s m args below meth c xL Z (XQ xL Z r S') S 0 3 [(0, .ref (Z.2.1 30)), (1, .int x1)] [] := by
  obtain ⟨hx, hb, -, -, -, -, -, -, -, hQ⟩ := id E
  intro S x1 h H locs ls X hl
  unfold fX1_heatUnderClouds at h
  refine lv_aload_n hx hb dX1_heatUnderClouds_0 rfl (lv_at hl 0 rfl) ?_
  refine x_getr E X ffX1_15 rfl rfl dX1_heatUnderClouds_1 ?_
  refine lv_iload_n hx hb dX1_heatUnderClouds_4 rfl (lv_at hl 1 rfl) ?_
  refine lv_iconst (v := (4 : Int32)) hx hb dX1_heatUnderClouds_5 (by decide) ?_
  obtain ⟨r_1, S_2, hr_1, h⟩ := bnd_s h
  refine x_callV E X cwX1_47 (mX6_inHour l Z hQ  x1 (4 : Int32) hr_1) rfl rfl rfl rfl hl.1 rfl dX1_heatUnderClouds_6 (fun H locs X => ?_)
  refine lv_istore_n (lv' := [(2, .int r_1), (0, .ref (Z.2.1 30)), (1, .int x1)]) hx hb dX1_heatUnderClouds_9 rfl hl (by decide) rfl (fun ls hl => ?_)
  refine lv_iload_n hx hb dX1_heatUnderClouds_10 rfl (lv_at hl 0 rfl) ?_
  refine lv_if_le (tgt := 29) hx hb dX1_heatUnderClouds_11 (by decide) (fun c_3 => ?_) (fun c_3 => ?_)
  · have h := if_t c_3 h
    exact wX1_heatUnderClouds_29 E   S_2 x1 h _ _ _ X (lv_sub hl [1, 2] rfl)
  · have h := if_f c_3 h
    refine lv_aload_n hx hb dX1_heatUnderClouds_14 rfl (lv_at hl 1 rfl) ?_
    refine x_getr E X ffX1_15 rfl rfl dX1_heatUnderClouds_15 ?_
    refine lv_bipush (v := (10 : Int32)) hx hb dX1_heatUnderClouds_18 (by decide) ?_
    obtain ⟨r_4, S_5, hr_4, h⟩ := bnd_s h
    refine x_callV E X cwX1_50 (mX6_draw l Z hQ  (10 : Int32) hr_4) rfl rfl rfl rfl hl.1 rfl dX1_heatUnderClouds_20 (fun H locs X => ?_)
    refine lv_iload_n hx hb dX1_heatUnderClouds_23 rfl (lv_at hl 0 rfl) ?_
    refine lv_icmp_ge (tgt := 29) hx hb dX1_heatUnderClouds_24 (by decide) (fun c_6 => ?_) (fun c_6 => ?_)
    · have h := if_t c_6 h
      exact wX1_heatUnderClouds_29 E   S_5 x1 h _ _ _ X (lv_sub hl [1, 2] rfl)
    · have h := if_f c_6 h
      refine lv_iconst (v := (0 : Int32)) hx hb dX1_heatUnderClouds_27 (by decide) ?_
      exact x_iret E X h dX1_heatUnderClouds_28
/-- SevenToAShadow$March.heatUnderClouds(I)I -/
theorem mX1_heatUnderClouds (l : Launch) (Z : XG) (hQ : wQ (List.length xL) Z) {S S' : Mem} {r : Int32} (x1 : Int32) (h : fX1_heatUnderClouds S x1 = some (r, S')) : XM l yX1_heatUnderClouds cX1_heatUnderClouds 3 (some .int) { frames := 1, cells := 0, slots := 0, locals := 22 } xL Z [.ref (Z.2.1 30), .int x1] S (XQ xL Z r S') := by
  refine XM.of (own := RX1) (by decide +kernel) rfl rfl hQ (fun p e s m args below meth c E ls hl X => ?_)
  exact wX1_heatUnderClouds E S x1 h _ _ _ X hl
def fX6_wayOfShade (S : Mem) (x1 x2 : Int32) : O := bnd (fX6_inHour S x1 (0 : Int32)) fun r_1 S_2 => some ((((r_1 + (4 : Int32)) - x2) &&& (7 : Int32)), S_2)
theorem dX6_wayOfShade_0 : decode cX6_wayOfShade 0 = .ok (.aload_n 0, 1) := by decide +kernel
theorem dX6_wayOfShade_1 : decode cX6_wayOfShade 1 = .ok (.iload_n 1, 1) := by decide +kernel
theorem dX6_wayOfShade_2 : decode cX6_wayOfShade 2 = .ok (.iconst 0, 1) := by decide +kernel
theorem dX6_wayOfShade_3 : decode cX6_wayOfShade 3 = .ok (.invokevirtual 95, 3) := by decide +kernel
theorem dX6_wayOfShade_6 : decode cX6_wayOfShade 6 = .ok (.iconst 4, 1) := by decide +kernel
theorem dX6_wayOfShade_7 : decode cX6_wayOfShade 7 = .ok (.iadd, 1) := by decide +kernel
theorem dX6_wayOfShade_8 : decode cX6_wayOfShade 8 = .ok (.iload_n 2, 1) := by decide +kernel
theorem dX6_wayOfShade_9 : decode cX6_wayOfShade 9 = .ok (.isub, 1) := by decide +kernel
theorem dX6_wayOfShade_10 : decode cX6_wayOfShade 10 = .ok (.bipush 7, 2) := by decide +kernel
theorem dX6_wayOfShade_12 : decode cX6_wayOfShade 12 = .ok (.iand, 1) := by decide +kernel
theorem dX6_wayOfShade_13 : decode cX6_wayOfShade 13 = .ok (.ireturn, 1) := by decide +kernel
set_option maxRecDepth 20000 in
theorem wX6_wayOfShade {p : Program} {l : Launch} {e : Env} {s : State} {m : MethodId} {args : Array Value} {below : List Frame} {meth : Method} {c : Code} {Z : XG} {r : Int32} {S' : Mem} (E : XE p s m args meth c cX6_wayOfShade 3 RX6 (some .int) xL Z) : ∀ (S : Mem) (x1 x2 : Int32), fX6_wayOfShade  S x1 x2 = some (r, S') → WN p l e { frames := 1, cells := 0, slots := 0, locals := 22 } s m args below meth c xL Z (XQ xL Z r S') S 0 3 [(0, .ref (Z.2.1 1)), (1, .int x1), (2, .int x2)] [] := by
  obtain ⟨hx, hb, -, -, -, -, -, -, -, hQ⟩ := id E
  intro S x1 x2 h H locs ls X hl
  unfold fX6_wayOfShade at h
  refine lv_aload_n hx hb dX6_wayOfShade_0 rfl (lv_at hl 0 rfl) ?_
  refine lv_iload_n hx hb dX6_wayOfShade_1 rfl (lv_at hl 1 rfl) ?_
  refine lv_iconst (v := (0 : Int32)) hx hb dX6_wayOfShade_2 (by decide) ?_
  obtain ⟨r_1, S_2, hr_1, h⟩ := bnd_s h
  refine x_callV E X cwX6_95 (mX6_inHour l Z hQ  x1 (0 : Int32) hr_1) rfl rfl rfl rfl hl.1 rfl dX6_wayOfShade_3 (fun H locs X => ?_)
  refine lv_iconst (v := (4 : Int32)) hx hb dX6_wayOfShade_6 (by decide) ?_
  refine lv_iadd hx hb dX6_wayOfShade_7 ?_
  refine lv_iload_n hx hb dX6_wayOfShade_8 rfl (lv_at hl 2 rfl) ?_
  refine lv_isub hx hb dX6_wayOfShade_9 ?_
  refine lv_bipush (v := (7 : Int32)) hx hb dX6_wayOfShade_10 (by decide) ?_
  refine lv_iand hx hb dX6_wayOfShade_12 ?_
  exact x_iret E X h dX6_wayOfShade_13
/-- SevenToAShadow$World.wayOfShade(II)I -/
theorem mX6_wayOfShade (l : Launch) (Z : XG) (hQ : wQ (List.length xL) Z) {S S' : Mem} {r : Int32} (x1 x2 : Int32) (h : fX6_wayOfShade S x1 x2 = some (r, S')) : XM l yX6_wayOfShade cX6_wayOfShade 3 (some .int) { frames := 1, cells := 0, slots := 0, locals := 22 } xL Z [.ref (Z.2.1 1), .int x1, .int x2] S (XQ xL Z r S') := by
  refine XM.of (own := RX6) (by decide +kernel) rfl rfl hQ (fun p e s m args below meth c E ls hl X => ?_)
  exact wX6_wayOfShade E S x1 x2 h _ _ _ X hl
def fX7_bitAt (S : Mem) (x0 x1 : Int32) : O := (if x0 < 0 then some ((0 : Int32), S) else (if (5 : Int32) ≤ x0 then some ((0 : Int32), S) else (if x1 < 0 then some ((0 : Int32), S) else (if x1 < (5 : Int32) then some (((1 : Int32) <<< ((((5 : Int32) * x1) + x0) &&& 31)), S) else some ((0 : Int32), S)))))
theorem dX7_bitAt_0 : decode cX7_bitAt 0 = .ok (.iload_n 0, 1) := by decide +kernel
theorem dX7_bitAt_1 : decode cX7_bitAt 1 = .ok (.ifCond .lt 17, 3) := by decide +kernel
theorem dX7_bitAt_4 : decode cX7_bitAt 4 = .ok (.iload_n 0, 1) := by decide +kernel
theorem dX7_bitAt_5 : decode cX7_bitAt 5 = .ok (.iconst 5, 1) := by decide +kernel
theorem dX7_bitAt_6 : decode cX7_bitAt 6 = .ok (.if_icmp .ge 12, 3) := by decide +kernel
theorem dX7_bitAt_9 : decode cX7_bitAt 9 = .ok (.iload_n 1, 1) := by decide +kernel
theorem dX7_bitAt_10 : decode cX7_bitAt 10 = .ok (.ifCond .lt 8, 3) := by decide +kernel
theorem dX7_bitAt_13 : decode cX7_bitAt 13 = .ok (.iload_n 1, 1) := by decide +kernel
theorem dX7_bitAt_14 : decode cX7_bitAt 14 = .ok (.iconst 5, 1) := by decide +kernel
theorem dX7_bitAt_15 : decode cX7_bitAt 15 = .ok (.if_icmp .lt 5, 3) := by decide +kernel
theorem dX7_bitAt_18 : decode cX7_bitAt 18 = .ok (.iconst 0, 1) := by decide +kernel
theorem dX7_bitAt_19 : decode cX7_bitAt 19 = .ok (.ireturn, 1) := by decide +kernel
theorem dX7_bitAt_20 : decode cX7_bitAt 20 = .ok (.iconst 1, 1) := by decide +kernel
theorem dX7_bitAt_21 : decode cX7_bitAt 21 = .ok (.iconst 5, 1) := by decide +kernel
theorem dX7_bitAt_22 : decode cX7_bitAt 22 = .ok (.iload_n 1, 1) := by decide +kernel
theorem dX7_bitAt_23 : decode cX7_bitAt 23 = .ok (.imul, 1) := by decide +kernel
theorem dX7_bitAt_24 : decode cX7_bitAt 24 = .ok (.iload_n 0, 1) := by decide +kernel
theorem dX7_bitAt_25 : decode cX7_bitAt 25 = .ok (.iadd, 1) := by decide +kernel
theorem dX7_bitAt_26 : decode cX7_bitAt 26 = .ok (.ishl, 1) := by decide +kernel
theorem dX7_bitAt_27 : decode cX7_bitAt 27 = .ok (.ireturn, 1) := by decide +kernel
set_option maxRecDepth 20000 in
theorem wX7_bitAt {p : Program} {l : Launch} {e : Env} {s : State} {m : MethodId} {args : Array Value} {below : List Frame} {meth : Method} {c : Code} {Z : XG} {r : Int32} {S' : Mem} (E : XE p s m args meth c cX7_bitAt 2 RX7 (some .int) xL Z) : ∀ (S : Mem) (x0 x1 : Int32), fX7_bitAt  S x0 x1 = some (r, S') → WN p l e { frames := 0, cells := 0, slots := 0, locals := 0 } s m args below meth c xL Z (XQ xL Z r S') S 0 2 [(0, .int x0), (1, .int x1)] [] := by
  obtain ⟨hx, hb, -, -, -, -, -, -, -, hQ⟩ := id E
  intro S x0 x1 h H locs ls X hl
  unfold fX7_bitAt at h
  refine lv_iload_n hx hb dX7_bitAt_0 rfl (lv_at hl 0 rfl) ?_
  refine lv_if_lt (tgt := 18) hx hb dX7_bitAt_1 (by decide) (fun c_1 => ?_) (fun c_1 => ?_)
  · have h := if_t c_1 h
    refine lv_iconst (v := (0 : Int32)) hx hb dX7_bitAt_18 (by decide) ?_
    exact x_iret E X h dX7_bitAt_19
  · have h := if_f c_1 h
    refine lv_iload_n hx hb dX7_bitAt_4 rfl (lv_at hl 0 rfl) ?_
    refine lv_iconst (v := (5 : Int32)) hx hb dX7_bitAt_5 (by decide) ?_
    refine lv_icmp_ge (tgt := 18) hx hb dX7_bitAt_6 (by decide) (fun c_2 => ?_) (fun c_2 => ?_)
    · have h := if_t c_2 h
      refine lv_iconst (v := (0 : Int32)) hx hb dX7_bitAt_18 (by decide) ?_
      exact x_iret E X h dX7_bitAt_19
    · have h := if_f c_2 h
      refine lv_iload_n hx hb dX7_bitAt_9 rfl (lv_at hl 1 rfl) ?_
      refine lv_if_lt (tgt := 18) hx hb dX7_bitAt_10 (by decide) (fun c_3 => ?_) (fun c_3 => ?_)
      · have h := if_t c_3 h
        refine lv_iconst (v := (0 : Int32)) hx hb dX7_bitAt_18 (by decide) ?_
        exact x_iret E X h dX7_bitAt_19
      · have h := if_f c_3 h
        refine lv_iload_n hx hb dX7_bitAt_13 rfl (lv_at hl 1 rfl) ?_
        refine lv_iconst (v := (5 : Int32)) hx hb dX7_bitAt_14 (by decide) ?_
        refine lv_icmp_lt (tgt := 20) hx hb dX7_bitAt_15 (by decide) (fun c_4 => ?_) (fun c_4 => ?_)
        · have h := if_t c_4 h
          refine lv_iconst (v := (1 : Int32)) hx hb dX7_bitAt_20 (by decide) ?_
          refine lv_iconst (v := (5 : Int32)) hx hb dX7_bitAt_21 (by decide) ?_
          refine lv_iload_n hx hb dX7_bitAt_22 rfl (lv_at hl 1 rfl) ?_
          refine lv_imul hx hb dX7_bitAt_23 ?_
          refine lv_iload_n hx hb dX7_bitAt_24 rfl (lv_at hl 0 rfl) ?_
          refine lv_iadd hx hb dX7_bitAt_25 ?_
          refine lv_ishl hx hb dX7_bitAt_26 ?_
          exact x_iret E X h dX7_bitAt_27
        · have h := if_f c_4 h
          refine lv_iconst (v := (0 : Int32)) hx hb dX7_bitAt_18 (by decide) ?_
          exact x_iret E X h dX7_bitAt_19
/-- SevenToAShadow.bitAt(II)I -/
theorem mX7_bitAt (l : Launch) (Z : XG) (hQ : wQ (List.length xL) Z) {S S' : Mem} {r : Int32} (x0 x1 : Int32) (h : fX7_bitAt S x0 x1 = some (r, S')) : XM l yX7_bitAt cX7_bitAt 2 (some .int) { frames := 0, cells := 0, slots := 0, locals := 0 } xL Z [.int x0, .int x1] S (XQ xL Z r S') := by
  refine XM.of (own := RX7) (by decide +kernel) rfl rfl hQ (fun p e s m args below meth c E ls hl X => ?_)
  exact wX7_bitAt E S x0 x1 h _ _ _ X hl
def fX6_bodyShade_19 (S : Mem) (x1 x2 x3 x4 s0 : Int32) : O := (if x3 < 0 then some ((0 : Int32), S) else (if (7 : Int32) < x3 then some ((0 : Int32), S) else bnd (fX6_has S x1 (1 : Int32)) fun r_3 S_4 => (if r_3 < (5 : Int32) then some ((0 : Int32), S_4) else bnd (fX6_inHour S_4 x2 (1 : Int32)) fun r_6 S_7 => (if r_6 ≤ s0 then bnd (fX6_has S_7 x1 (0 : Int32)) fun r_9 S_10 => gd (inB x3 (List.length st_STEP_X)) <| lti ((irem r_9 (5 : Int32)) + (st_STEP_X.getD (x3).toNatClampNeg 0)) fun x6_13 => bnd (fX6_has S_10 x1 (0 : Int32)) fun r_14 S_15 => gd (inB x3 (List.length st_STEP_Y)) <| lti ((r_14 / (5 : Int32)) + (st_STEP_Y.getD (x3).toNatClampNeg 0)) fun x7_18 => bnd (fX7_bitAt S_15 x6_13 x7_18) fun r_19 S_20 => (if r_19 = 0 then some (r_19, S_20) else (if (2 : Int32) ≤ x4 then lti ((x3 + (2 : Int32)) &&& (7 : Int32)) fun x9_23 => lti ((x3 + (6 : Int32)) &&& (7 : Int32)) fun x10_24 => gd (inB x9_23 (List.length st_STEP_X)) <| gd (inB x9_23 (List.length st_STEP_Y)) <| bnd (fX7_bitAt S_20 (x6_13 + (st_STEP_X.getD (x9_23).toNatClampNeg 0)) (x7_18 + (st_STEP_Y.getD (x9_23).toNatClampNeg 0))) fun r_29 S_30 => gd (inB x10_24 (List.length st_STEP_X)) <| gd (inB x10_24 (List.length st_STEP_Y)) <| bnd (fX7_bitAt S_30 (x6_13 + (st_STEP_X.getD (x10_24).toNatClampNeg 0)) (x7_18 + (st_STEP_Y.getD (x10_24).toNatClampNeg 0))) fun r_35 S_36 => some (((r_19 ||| r_29) ||| r_35), S_36) else some (r_19, S_20))) else some ((0 : Int32), S_7)))))
def fX6_bodyShade (S : Mem) (x1 x2 x3 : Int32) : O := bnd (fX6_has S x1 (2 : Int32)) fun r_1 S_2 => (if r_1 = (3 : Int32) then fX6_bodyShade_19  S_2 x1 x2 x3 r_1 (3 : Int32) else fX6_bodyShade_19  S_2 x1 x2 x3 r_1 (2 : Int32))
theorem dX6_bodyShade_0 : decode cX6_bodyShade 0 = .ok (.aload_n 0, 1) := by decide +kernel
theorem dX6_bodyShade_1 : decode cX6_bodyShade 1 = .ok (.iload_n 1, 1) := by decide +kernel
theorem dX6_bodyShade_2 : decode cX6_bodyShade 2 = .ok (.iconst 2, 1) := by decide +kernel
theorem dX6_bodyShade_3 : decode cX6_bodyShade 3 = .ok (.invokevirtual 89, 3) := by decide +kernel
theorem dX6_bodyShade_6 : decode cX6_bodyShade 6 = .ok (.istore 4, 2) := by decide +kernel
theorem dX6_bodyShade_8 : decode cX6_bodyShade 8 = .ok (.iload 4, 2) := by decide +kernel
theorem dX6_bodyShade_10 : decode cX6_bodyShade 10 = .ok (.iconst 3, 1) := by decide +kernel
theorem dX6_bodyShade_11 : decode cX6_bodyShade 11 = .ok (.if_icmp .ne 7, 3) := by decide +kernel
theorem dX6_bodyShade_14 : decode cX6_bodyShade 14 = .ok (.iconst 3, 1) := by decide +kernel
theorem dX6_bodyShade_15 : decode cX6_bodyShade 15 = .ok (.goto 4, 3) := by decide +kernel
theorem dX6_bodyShade_18 : decode cX6_bodyShade 18 = .ok (.iconst 2, 1) := by decide +kernel
theorem dX6_bodyShade_19 : decode cX6_bodyShade 19 = .ok (.istore 5, 2) := by decide +kernel
theorem dX6_bodyShade_21 : decode cX6_bodyShade 21 = .ok (.iload_n 3, 1) := by decide +kernel
theorem dX6_bodyShade_22 : decode cX6_bodyShade 22 = .ok (.ifCond .lt 30, 3) := by decide +kernel
theorem dX6_bodyShade_25 : decode cX6_bodyShade 25 = .ok (.iload_n 3, 1) := by decide +kernel
theorem dX6_bodyShade_26 : decode cX6_bodyShade 26 = .ok (.bipush 7, 2) := by decide +kernel
theorem dX6_bodyShade_28 : decode cX6_bodyShade 28 = .ok (.if_icmp .gt 24, 3) := by decide +kernel
theorem dX6_bodyShade_31 : decode cX6_bodyShade 31 = .ok (.aload_n 0, 1) := by decide +kernel
theorem dX6_bodyShade_32 : decode cX6_bodyShade 32 = .ok (.iload_n 1, 1) := by decide +kernel
theorem dX6_bodyShade_33 : decode cX6_bodyShade 33 = .ok (.iconst 1, 1) := by decide +kernel
theorem dX6_bodyShade_34 : decode cX6_bodyShade 34 = .ok (.invokevirtual 89, 3) := by decide +kernel
theorem dX6_bodyShade_37 : decode cX6_bodyShade 37 = .ok (.iconst 5, 1) := by decide +kernel
theorem dX6_bodyShade_38 : decode cX6_bodyShade 38 = .ok (.if_icmp .lt 14, 3) := by decide +kernel
theorem dX6_bodyShade_41 : decode cX6_bodyShade 41 = .ok (.aload_n 0, 1) := by decide +kernel
theorem dX6_bodyShade_42 : decode cX6_bodyShade 42 = .ok (.iload_n 2, 1) := by decide +kernel
theorem dX6_bodyShade_43 : decode cX6_bodyShade 43 = .ok (.iconst 1, 1) := by decide +kernel
theorem dX6_bodyShade_44 : decode cX6_bodyShade 44 = .ok (.invokevirtual 95, 3) := by decide +kernel
theorem dX6_bodyShade_47 : decode cX6_bodyShade 47 = .ok (.iload 5, 2) := by decide +kernel
theorem dX6_bodyShade_49 : decode cX6_bodyShade 49 = .ok (.if_icmp .le 5, 3) := by decide +kernel
theorem dX6_bodyShade_52 : decode cX6_bodyShade 52 = .ok (.iconst 0, 1) := by decide +kernel
theorem dX6_bodyShade_53 : decode cX6_bodyShade 53 = .ok (.ireturn, 1) := by decide +kernel
theorem dX6_bodyShade_54 : decode cX6_bodyShade 54 = .ok (.aload_n 0, 1) := by decide +kernel
theorem dX6_bodyShade_55 : decode cX6_bodyShade 55 = .ok (.iload_n 1, 1) := by decide +kernel
theorem dX6_bodyShade_56 : decode cX6_bodyShade 56 = .ok (.iconst 0, 1) := by decide +kernel
theorem dX6_bodyShade_57 : decode cX6_bodyShade 57 = .ok (.invokevirtual 89, 3) := by decide +kernel
theorem dX6_bodyShade_60 : decode cX6_bodyShade 60 = .ok (.iconst 5, 1) := by decide +kernel
theorem dX6_bodyShade_61 : decode cX6_bodyShade 61 = .ok (.irem, 1) := by decide +kernel
theorem dX6_bodyShade_62 : decode cX6_bodyShade 62 = .ok (.getstatic 101, 3) := by decide +kernel
theorem dX6_bodyShade_65 : decode cX6_bodyShade 65 = .ok (.iload_n 3, 1) := by decide +kernel
theorem dX6_bodyShade_66 : decode cX6_bodyShade 66 = .ok (.iaload, 1) := by decide +kernel
theorem dX6_bodyShade_67 : decode cX6_bodyShade 67 = .ok (.iadd, 1) := by decide +kernel
theorem dX6_bodyShade_68 : decode cX6_bodyShade 68 = .ok (.istore 6, 2) := by decide +kernel
theorem dX6_bodyShade_70 : decode cX6_bodyShade 70 = .ok (.aload_n 0, 1) := by decide +kernel
theorem dX6_bodyShade_71 : decode cX6_bodyShade 71 = .ok (.iload_n 1, 1) := by decide +kernel
theorem dX6_bodyShade_72 : decode cX6_bodyShade 72 = .ok (.iconst 0, 1) := by decide +kernel
theorem dX6_bodyShade_73 : decode cX6_bodyShade 73 = .ok (.invokevirtual 89, 3) := by decide +kernel
theorem dX6_bodyShade_76 : decode cX6_bodyShade 76 = .ok (.iconst 5, 1) := by decide +kernel
theorem dX6_bodyShade_77 : decode cX6_bodyShade 77 = .ok (.idiv, 1) := by decide +kernel
theorem dX6_bodyShade_78 : decode cX6_bodyShade 78 = .ok (.getstatic 104, 3) := by decide +kernel
theorem dX6_bodyShade_81 : decode cX6_bodyShade 81 = .ok (.iload_n 3, 1) := by decide +kernel
theorem dX6_bodyShade_82 : decode cX6_bodyShade 82 = .ok (.iaload, 1) := by decide +kernel
theorem dX6_bodyShade_83 : decode cX6_bodyShade 83 = .ok (.iadd, 1) := by decide +kernel
theorem dX6_bodyShade_84 : decode cX6_bodyShade 84 = .ok (.istore 7, 2) := by decide +kernel
theorem dX6_bodyShade_86 : decode cX6_bodyShade 86 = .ok (.iload 6, 2) := by decide +kernel
theorem dX6_bodyShade_88 : decode cX6_bodyShade 88 = .ok (.iload 7, 2) := by decide +kernel
theorem dX6_bodyShade_90 : decode cX6_bodyShade 90 = .ok (.invokestatic 98, 3) := by decide +kernel
theorem dX6_bodyShade_93 : decode cX6_bodyShade 93 = .ok (.istore 8, 2) := by decide +kernel
theorem dX6_bodyShade_95 : decode cX6_bodyShade 95 = .ok (.iload 8, 2) := by decide +kernel
theorem dX6_bodyShade_97 : decode cX6_bodyShade 97 = .ok (.ifCond .eq 9, 3) := by decide +kernel
theorem dX6_bodyShade_100 : decode cX6_bodyShade 100 = .ok (.iload 4, 2) := by decide +kernel
theorem dX6_bodyShade_102 : decode cX6_bodyShade 102 = .ok (.iconst 2, 1) := by decide +kernel
theorem dX6_bodyShade_103 : decode cX6_bodyShade 103 = .ok (.if_icmp .ge 6, 3) := by decide +kernel
theorem dX6_bodyShade_106 : decode cX6_bodyShade 106 = .ok (.iload 8, 2) := by decide +kernel
theorem dX6_bodyShade_108 : decode cX6_bodyShade 108 = .ok (.ireturn, 1) := by decide +kernel
theorem dX6_bodyShade_109 : decode cX6_bodyShade 109 = .ok (.iload_n 3, 1) := by decide +kernel
theorem dX6_bodyShade_110 : decode cX6_bodyShade 110 = .ok (.iconst 2, 1) := by decide +kernel
theorem dX6_bodyShade_111 : decode cX6_bodyShade 111 = .ok (.iadd, 1) := by decide +kernel
theorem dX6_bodyShade_112 : decode cX6_bodyShade 112 = .ok (.bipush 7, 2) := by decide +kernel
theorem dX6_bodyShade_114 : decode cX6_bodyShade 114 = .ok (.iand, 1) := by decide +kernel
theorem dX6_bodyShade_115 : decode cX6_bodyShade 115 = .ok (.istore 9, 2) := by decide +kernel
theorem dX6_bodyShade_117 : decode cX6_bodyShade 117 = .ok (.iload_n 3, 1) := by decide +kernel
theorem dX6_bodyShade_118 : decode cX6_bodyShade 118 = .ok (.bipush 6, 2) := by decide +kernel
theorem dX6_bodyShade_120 : decode cX6_bodyShade 120 = .ok (.iadd, 1) := by decide +kernel
theorem dX6_bodyShade_121 : decode cX6_bodyShade 121 = .ok (.bipush 7, 2) := by decide +kernel
theorem dX6_bodyShade_123 : decode cX6_bodyShade 123 = .ok (.iand, 1) := by decide +kernel
theorem dX6_bodyShade_124 : decode cX6_bodyShade 124 = .ok (.istore 10, 2) := by decide +kernel
theorem dX6_bodyShade_126 : decode cX6_bodyShade 126 = .ok (.iload 8, 2) := by decide +kernel
theorem dX6_bodyShade_128 : decode cX6_bodyShade 128 = .ok (.iload 6, 2) := by decide +kernel
theorem dX6_bodyShade_130 : decode cX6_bodyShade 130 = .ok (.getstatic 101, 3) := by decide +kernel
theorem dX6_bodyShade_133 : decode cX6_bodyShade 133 = .ok (.iload 9, 2) := by decide +kernel
theorem dX6_bodyShade_135 : decode cX6_bodyShade 135 = .ok (.iaload, 1) := by decide +kernel
theorem dX6_bodyShade_136 : decode cX6_bodyShade 136 = .ok (.iadd, 1) := by decide +kernel
theorem dX6_bodyShade_137 : decode cX6_bodyShade 137 = .ok (.iload 7, 2) := by decide +kernel
theorem dX6_bodyShade_139 : decode cX6_bodyShade 139 = .ok (.getstatic 104, 3) := by decide +kernel
theorem dX6_bodyShade_142 : decode cX6_bodyShade 142 = .ok (.iload 9, 2) := by decide +kernel
theorem dX6_bodyShade_144 : decode cX6_bodyShade 144 = .ok (.iaload, 1) := by decide +kernel
theorem dX6_bodyShade_145 : decode cX6_bodyShade 145 = .ok (.iadd, 1) := by decide +kernel
theorem dX6_bodyShade_146 : decode cX6_bodyShade 146 = .ok (.invokestatic 98, 3) := by decide +kernel
theorem dX6_bodyShade_149 : decode cX6_bodyShade 149 = .ok (.ior, 1) := by decide +kernel
theorem dX6_bodyShade_150 : decode cX6_bodyShade 150 = .ok (.iload 6, 2) := by decide +kernel
theorem dX6_bodyShade_152 : decode cX6_bodyShade 152 = .ok (.getstatic 101, 3) := by decide +kernel
theorem dX6_bodyShade_155 : decode cX6_bodyShade 155 = .ok (.iload 10, 2) := by decide +kernel
theorem dX6_bodyShade_157 : decode cX6_bodyShade 157 = .ok (.iaload, 1) := by decide +kernel
theorem dX6_bodyShade_158 : decode cX6_bodyShade 158 = .ok (.iadd, 1) := by decide +kernel
theorem dX6_bodyShade_159 : decode cX6_bodyShade 159 = .ok (.iload 7, 2) := by decide +kernel
theorem dX6_bodyShade_161 : decode cX6_bodyShade 161 = .ok (.getstatic 104, 3) := by decide +kernel
theorem dX6_bodyShade_164 : decode cX6_bodyShade 164 = .ok (.iload 10, 2) := by decide +kernel
theorem dX6_bodyShade_166 : decode cX6_bodyShade 166 = .ok (.iaload, 1) := by decide +kernel
theorem dX6_bodyShade_167 : decode cX6_bodyShade 167 = .ok (.iadd, 1) := by decide +kernel
theorem dX6_bodyShade_168 : decode cX6_bodyShade 168 = .ok (.invokestatic 98, 3) := by decide +kernel
theorem dX6_bodyShade_171 : decode cX6_bodyShade 171 = .ok (.ior, 1) := by decide +kernel
theorem dX6_bodyShade_172 : decode cX6_bodyShade 172 = .ok (.ireturn, 1) := by decide +kernel
set_option maxRecDepth 20000 in
theorem wX6_bodyShade_19 {p : Program} {l : Launch} {e : Env} {s : State} {m : MethodId} {args : Array Value} {below : List Frame} {meth : Method} {c : Code} {Z : XG} {r : Int32} {S' : Mem} (E : XE p s m args meth c cX6_bodyShade 11 RX6 (some .int) xL Z) : ∀ (S : Mem) (x1 x2 x3 x4 s0 : Int32), fX6_bodyShade_19  S x1 x2 x3 x4 s0 = some (r, S') → WN p l e { frames := 2, cells := 0, slots := 0, locals := 43 } s m args below meth c xL Z (XQ xL Z r S') S 19 11 [(0, .ref (Z.2.1 1)), (1, .int x1), (2, .int x2), (3, .int x3), (4, .int x4)] [.int s0] := by
  obtain ⟨hx, hb, -, -, -, -, -, -, -, hQ⟩ := id E
  intro S x1 x2 x3 x4 s0 h H locs ls X hl
  unfold fX6_bodyShade_19 at h
  refine lv_istore (lv' := [(5, .int s0), (0, .ref (Z.2.1 1)), (1, .int x1), (2, .int x2), (3, .int x3), (4, .int x4)]) hx hb dX6_bodyShade_19 hl (by decide) rfl (fun ls hl => ?_)
  refine lv_iload_n hx hb dX6_bodyShade_21 rfl (lv_at hl 4 rfl) ?_
  refine lv_if_lt (tgt := 52) hx hb dX6_bodyShade_22 (by decide) (fun c_1 => ?_) (fun c_1 => ?_)
  · have h := if_t c_1 h
    refine lv_iconst (v := (0 : Int32)) hx hb dX6_bodyShade_52 (by decide) ?_
    exact x_iret E X h dX6_bodyShade_53
  · have h := if_f c_1 h
    refine lv_iload_n hx hb dX6_bodyShade_25 rfl (lv_at hl 4 rfl) ?_
    refine lv_bipush (v := (7 : Int32)) hx hb dX6_bodyShade_26 (by decide) ?_
    refine lv_icmp_gt (tgt := 52) hx hb dX6_bodyShade_28 (by decide) (fun c_2 => ?_) (fun c_2 => ?_)
    · have h := if_t c_2 h
      refine lv_iconst (v := (0 : Int32)) hx hb dX6_bodyShade_52 (by decide) ?_
      exact x_iret E X h dX6_bodyShade_53
    · have h := if_f c_2 h
      refine lv_aload_n hx hb dX6_bodyShade_31 rfl (lv_at hl 1 rfl) ?_
      refine lv_iload_n hx hb dX6_bodyShade_32 rfl (lv_at hl 2 rfl) ?_
      refine lv_iconst (v := (1 : Int32)) hx hb dX6_bodyShade_33 (by decide) ?_
      obtain ⟨r_3, S_4, hr_3, h⟩ := bnd_s h
      refine x_callV E X cwX6_89 (mX6_has l Z hQ  x1 (1 : Int32) hr_3) rfl rfl rfl rfl hl.1 rfl dX6_bodyShade_34 (fun H locs X => ?_)
      refine lv_iconst (v := (5 : Int32)) hx hb dX6_bodyShade_37 (by decide) ?_
      refine lv_icmp_lt (tgt := 52) hx hb dX6_bodyShade_38 (by decide) (fun c_5 => ?_) (fun c_5 => ?_)
      · have h := if_t c_5 h
        refine lv_iconst (v := (0 : Int32)) hx hb dX6_bodyShade_52 (by decide) ?_
        exact x_iret E X h dX6_bodyShade_53
      · have h := if_f c_5 h
        refine lv_aload_n hx hb dX6_bodyShade_41 rfl (lv_at hl 1 rfl) ?_
        refine lv_iload_n hx hb dX6_bodyShade_42 rfl (lv_at hl 3 rfl) ?_
        refine lv_iconst (v := (1 : Int32)) hx hb dX6_bodyShade_43 (by decide) ?_
        obtain ⟨r_6, S_7, hr_6, h⟩ := bnd_s h
        refine x_callV E X cwX6_95 (mX6_inHour l Z hQ  x2 (1 : Int32) hr_6) rfl rfl rfl rfl hl.1 rfl dX6_bodyShade_44 (fun H locs X => ?_)
        refine lv_iload hx hb dX6_bodyShade_47 (lv_at hl 0 rfl) ?_
        refine lv_icmp_le (tgt := 54) hx hb dX6_bodyShade_49 (by decide) (fun c_8 => ?_) (fun c_8 => ?_)
        · have h := if_t c_8 h
          refine lv_aload_n hx hb dX6_bodyShade_54 rfl (lv_at hl 1 rfl) ?_
          refine lv_iload_n hx hb dX6_bodyShade_55 rfl (lv_at hl 2 rfl) ?_
          refine lv_iconst (v := (0 : Int32)) hx hb dX6_bodyShade_56 (by decide) ?_
          obtain ⟨r_9, S_10, hr_9, h⟩ := bnd_s h
          refine x_callV E X cwX6_89 (mX6_has l Z hQ  x1 (0 : Int32) hr_9) rfl rfl rfl rfl hl.1 rfl dX6_bodyShade_57 (fun H locs X => ?_)
          refine lv_iconst (v := (5 : Int32)) hx hb dX6_bodyShade_60 (by decide) ?_
          refine lv_irem hx hb dX6_bodyShade_61 (by decide) ?_
          refine lv_nm (y := (irem r_9 (5 : Int32))) rfl ?_
          obtain ⟨t_11, hZt_11, hTt_11⟩ := E.2.2.2.2.2.2.2.2.1.2.2.2.1
          refine x_getsN E X (host := "SevenToAShadow") hZt_11 (by decide +kernel) dX6_bodyShade_62 ?_
          refine lv_iload_n hx hb dX6_bodyShade_65 rfl (lv_at hl 4 rfl) ?_
          obtain ⟨g_12, h⟩ := gd_s h
          refine x_ti E X hTt_11 g_12 dX6_bodyShade_66 ?_
          refine lv_iadd hx hb dX6_bodyShade_67 ?_
          obtain ⟨x6_13, ex6_13, h⟩ := lti_s h
          refine lv_nm ex6_13 ?_
          refine lv_istore (lv' := [(6, .int x6_13), (5, .int s0), (0, .ref (Z.2.1 1)), (1, .int x1), (2, .int x2), (3, .int x3), (4, .int x4)]) hx hb dX6_bodyShade_68 hl (by decide) rfl (fun ls hl => ?_)
          refine lv_aload_n hx hb dX6_bodyShade_70 rfl (lv_at hl 2 rfl) ?_
          refine lv_iload_n hx hb dX6_bodyShade_71 rfl (lv_at hl 3 rfl) ?_
          refine lv_iconst (v := (0 : Int32)) hx hb dX6_bodyShade_72 (by decide) ?_
          obtain ⟨r_14, S_15, hr_14, h⟩ := bnd_s h
          refine x_callV E X cwX6_89 (mX6_has l Z hQ  x1 (0 : Int32) hr_14) rfl rfl rfl rfl hl.1 rfl dX6_bodyShade_73 (fun H locs X => ?_)
          refine lv_iconst (v := (5 : Int32)) hx hb dX6_bodyShade_76 (by decide) ?_
          refine lv_idiv hx hb dX6_bodyShade_77 (by decide) ?_
          obtain ⟨t_16, hZt_16, hTt_16⟩ := E.2.2.2.2.2.2.2.2.1.2.2.2.2.1
          refine x_getsN E X (host := "SevenToAShadow") hZt_16 (by decide +kernel) dX6_bodyShade_78 ?_
          refine lv_iload_n hx hb dX6_bodyShade_81 rfl (lv_at hl 5 rfl) ?_
          obtain ⟨g_17, h⟩ := gd_s h
          refine x_ti E X hTt_16 g_17 dX6_bodyShade_82 ?_
          refine lv_iadd hx hb dX6_bodyShade_83 ?_
          obtain ⟨x7_18, ex7_18, h⟩ := lti_s h
          refine lv_nm ex7_18 ?_
          refine lv_istore (lv' := [(7, .int x7_18), (6, .int x6_13), (5, .int s0), (0, .ref (Z.2.1 1)), (1, .int x1), (2, .int x2), (3, .int x3), (4, .int x4)]) hx hb dX6_bodyShade_84 hl (by decide) rfl (fun ls hl => ?_)
          refine lv_iload hx hb dX6_bodyShade_86 (lv_at hl 1 rfl) ?_
          refine lv_iload hx hb dX6_bodyShade_88 (lv_at hl 0 rfl) ?_
          obtain ⟨r_19, S_20, hr_19, h⟩ := bnd_s h
          refine x_callN E X cwX6_98 (mX7_bitAt l Z hQ  x6_13 x7_18 hr_19) rfl rfl hl.1 rfl dX6_bodyShade_90 (fun H locs X => ?_)
          refine lv_istore (lv' := [(8, .int r_19), (7, .int x7_18), (6, .int x6_13), (5, .int s0), (0, .ref (Z.2.1 1)), (1, .int x1), (2, .int x2), (3, .int x3), (4, .int x4)]) hx hb dX6_bodyShade_93 hl (by decide) rfl (fun ls hl => ?_)
          refine lv_iload hx hb dX6_bodyShade_95 (lv_at hl 0 rfl) ?_
          refine lv_if_eq (tgt := 106) hx hb dX6_bodyShade_97 (by decide) (fun c_21 => ?_) (fun c_21 => ?_)
          · have h := if_t c_21 h
            refine lv_iload hx hb dX6_bodyShade_106 (lv_at hl 0 rfl) ?_
            exact x_iret E X h dX6_bodyShade_108
          · have h := if_f c_21 h
            refine lv_iload hx hb dX6_bodyShade_100 (lv_at hl 8 rfl) ?_
            refine lv_iconst (v := (2 : Int32)) hx hb dX6_bodyShade_102 (by decide) ?_
            refine lv_icmp_ge (tgt := 109) hx hb dX6_bodyShade_103 (by decide) (fun c_22 => ?_) (fun c_22 => ?_)
            · have h := if_t c_22 h
              refine lv_iload_n hx hb dX6_bodyShade_109 rfl (lv_at hl 7 rfl) ?_
              refine lv_iconst (v := (2 : Int32)) hx hb dX6_bodyShade_110 (by decide) ?_
              refine lv_iadd hx hb dX6_bodyShade_111 ?_
              refine lv_bipush (v := (7 : Int32)) hx hb dX6_bodyShade_112 (by decide) ?_
              refine lv_iand hx hb dX6_bodyShade_114 ?_
              obtain ⟨x9_23, ex9_23, h⟩ := lti_s h
              refine lv_nm ex9_23 ?_
              refine lv_istore (lv' := [(9, .int x9_23), (8, .int r_19), (7, .int x7_18), (6, .int x6_13), (5, .int s0), (0, .ref (Z.2.1 1)), (1, .int x1), (2, .int x2), (3, .int x3), (4, .int x4)]) hx hb dX6_bodyShade_115 hl (by decide) rfl (fun ls hl => ?_)
              refine lv_iload_n hx hb dX6_bodyShade_117 rfl (lv_at hl 8 rfl) ?_
              refine lv_bipush (v := (6 : Int32)) hx hb dX6_bodyShade_118 (by decide) ?_
              refine lv_iadd hx hb dX6_bodyShade_120 ?_
              refine lv_bipush (v := (7 : Int32)) hx hb dX6_bodyShade_121 (by decide) ?_
              refine lv_iand hx hb dX6_bodyShade_123 ?_
              obtain ⟨x10_24, ex10_24, h⟩ := lti_s h
              refine lv_nm ex10_24 ?_
              refine lv_istore (lv' := [(10, .int x10_24), (9, .int x9_23), (8, .int r_19), (7, .int x7_18), (6, .int x6_13), (5, .int s0), (0, .ref (Z.2.1 1)), (1, .int x1), (2, .int x2), (3, .int x3), (4, .int x4)]) hx hb dX6_bodyShade_124 hl (by decide) rfl (fun ls hl => ?_)
              refine lv_iload hx hb dX6_bodyShade_126 (lv_at hl 2 rfl) ?_
              refine lv_iload hx hb dX6_bodyShade_128 (lv_at hl 4 rfl) ?_
              obtain ⟨t_25, hZt_25, hTt_25⟩ := E.2.2.2.2.2.2.2.2.1.2.2.2.1
              refine x_getsN E X (host := "SevenToAShadow") hZt_25 (by decide +kernel) dX6_bodyShade_130 ?_
              refine lv_iload hx hb dX6_bodyShade_133 (lv_at hl 1 rfl) ?_
              obtain ⟨g_26, h⟩ := gd_s h
              refine x_ti E X hTt_25 g_26 dX6_bodyShade_135 ?_
              refine lv_iadd hx hb dX6_bodyShade_136 ?_
              refine lv_iload hx hb dX6_bodyShade_137 (lv_at hl 3 rfl) ?_
              obtain ⟨t_27, hZt_27, hTt_27⟩ := E.2.2.2.2.2.2.2.2.1.2.2.2.2.1
              refine x_getsN E X (host := "SevenToAShadow") hZt_27 (by decide +kernel) dX6_bodyShade_139 ?_
              refine lv_iload hx hb dX6_bodyShade_142 (lv_at hl 1 rfl) ?_
              obtain ⟨g_28, h⟩ := gd_s h
              refine x_ti E X hTt_27 g_28 dX6_bodyShade_144 ?_
              refine lv_iadd hx hb dX6_bodyShade_145 ?_
              obtain ⟨r_29, S_30, hr_29, h⟩ := bnd_s h
              refine x_callN E X cwX6_98 (mX7_bitAt l Z hQ  (x6_13 + (st_STEP_X.getD (x9_23).toNatClampNeg 0)) (x7_18 + (st_STEP_Y.getD (x9_23).toNatClampNeg 0)) hr_29) rfl rfl hl.1 rfl dX6_bodyShade_146 (fun H locs X => ?_)
              refine lv_ior hx hb dX6_bodyShade_149 ?_
              refine lv_iload hx hb dX6_bodyShade_150 (lv_at hl 4 rfl) ?_
              obtain ⟨t_31, hZt_31, hTt_31⟩ := E.2.2.2.2.2.2.2.2.1.2.2.2.1
              refine x_getsN E X (host := "SevenToAShadow") hZt_31 (by decide +kernel) dX6_bodyShade_152 ?_
              refine lv_iload hx hb dX6_bodyShade_155 (lv_at hl 0 rfl) ?_
              obtain ⟨g_32, h⟩ := gd_s h
              refine x_ti E X hTt_31 g_32 dX6_bodyShade_157 ?_
              refine lv_iadd hx hb dX6_bodyShade_158 ?_
              refine lv_iload hx hb dX6_bodyShade_159 (lv_at hl 3 rfl) ?_
              obtain ⟨t_33, hZt_33, hTt_33⟩ := E.2.2.2.2.2.2.2.2.1.2.2.2.2.1
              refine x_getsN E X (host := "SevenToAShadow") hZt_33 (by decide +kernel) dX6_bodyShade_161 ?_
              refine lv_iload hx hb dX6_bodyShade_164 (lv_at hl 0 rfl) ?_
              obtain ⟨g_34, h⟩ := gd_s h
              refine x_ti E X hTt_33 g_34 dX6_bodyShade_166 ?_
              refine lv_iadd hx hb dX6_bodyShade_167 ?_
              obtain ⟨r_35, S_36, hr_35, h⟩ := bnd_s h
              refine x_callN E X cwX6_98 (mX7_bitAt l Z hQ  (x6_13 + (st_STEP_X.getD (x10_24).toNatClampNeg 0)) (x7_18 + (st_STEP_Y.getD (x10_24).toNatClampNeg 0)) hr_35) rfl rfl hl.1 rfl dX6_bodyShade_168 (fun H locs X => ?_)
              refine lv_ior hx hb dX6_bodyShade_171 ?_
              exact x_iret E X h dX6_bodyShade_172
            · have h := if_f c_22 h
              refine lv_iload hx hb dX6_bodyShade_106 (lv_at hl 0 rfl) ?_
              exact x_iret E X h dX6_bodyShade_108
        · have h := if_f c_8 h
          refine lv_iconst (v := (0 : Int32)) hx hb dX6_bodyShade_52 (by decide) ?_
          exact x_iret E X h dX6_bodyShade_53
set_option maxRecDepth 20000 in
theorem wX6_bodyShade {p : Program} {l : Launch} {e : Env} {s : State} {m : MethodId} {args : Array Value} {below : List Frame} {meth : Method} {c : Code} {Z : XG} {r : Int32} {S' : Mem} (E : XE p s m args meth c cX6_bodyShade 11 RX6 (some .int) xL Z) : ∀ (S : Mem) (x1 x2 x3 : Int32), fX6_bodyShade  S x1 x2 x3 = some (r, S') → WN p l e { frames := 2, cells := 0, slots := 0, locals := 43 } s m args below meth c xL Z (XQ xL Z r S') S 0 11 [(0, .ref (Z.2.1 1)), (1, .int x1), (2, .int x2), (3, .int x3)] [] := by
  obtain ⟨hx, hb, -, -, -, -, -, -, -, hQ⟩ := id E
  intro S x1 x2 x3 h H locs ls X hl
  unfold fX6_bodyShade at h
  refine lv_aload_n hx hb dX6_bodyShade_0 rfl (lv_at hl 0 rfl) ?_
  refine lv_iload_n hx hb dX6_bodyShade_1 rfl (lv_at hl 1 rfl) ?_
  refine lv_iconst (v := (2 : Int32)) hx hb dX6_bodyShade_2 (by decide) ?_
  obtain ⟨r_1, S_2, hr_1, h⟩ := bnd_s h
  refine x_callV E X cwX6_89 (mX6_has l Z hQ  x1 (2 : Int32) hr_1) rfl rfl rfl rfl hl.1 rfl dX6_bodyShade_3 (fun H locs X => ?_)
  refine lv_istore (lv' := [(4, .int r_1), (0, .ref (Z.2.1 1)), (1, .int x1), (2, .int x2), (3, .int x3)]) hx hb dX6_bodyShade_6 hl (by decide) rfl (fun ls hl => ?_)
  refine lv_iload hx hb dX6_bodyShade_8 (lv_at hl 0 rfl) ?_
  refine lv_iconst (v := (3 : Int32)) hx hb dX6_bodyShade_10 (by decide) ?_
  refine lv_icmp_ne (tgt := 18) hx hb dX6_bodyShade_11 (by decide) (fun c_3 => ?_) (fun c_3 => ?_)
  · have h := if_f c_3 h
    refine lv_iconst (v := (2 : Int32)) hx hb dX6_bodyShade_18 (by decide) ?_
    exact wX6_bodyShade_19 E   S_2 x1 x2 x3 r_1 (2 : Int32) h _ _ _ X (lv_sub hl [1, 2, 3, 4, 0] rfl)
  · have h := if_t c_3 h
    refine lv_iconst (v := (3 : Int32)) hx hb dX6_bodyShade_14 (by decide) ?_
    refine lv_goto (tgt := 19) hx hb dX6_bodyShade_15 (by decide) ?_
    exact wX6_bodyShade_19 E   S_2 x1 x2 x3 r_1 (3 : Int32) h _ _ _ X (lv_sub hl [1, 2, 3, 4, 0] rfl)
/-- SevenToAShadow$World.bodyShade(III)I -/
theorem mX6_bodyShade (l : Launch) (Z : XG) (hQ : wQ (List.length xL) Z) {S S' : Mem} {r : Int32} (x1 x2 x3 : Int32) (h : fX6_bodyShade S x1 x2 x3 = some (r, S')) : XM l yX6_bodyShade cX6_bodyShade 11 (some .int) { frames := 2, cells := 0, slots := 0, locals := 43 } xL Z [.ref (Z.2.1 1), .int x1, .int x2, .int x3] S (XQ xL Z r S') := by
  refine XM.of (own := RX6) (by decide +kernel) rfl rfl hQ (fun p e s m args below meth c E ls hl X => ?_)
  exact wX6_bodyShade E S x1 x2 x3 h _ _ _ X hl
def fX6_parasolShade_54_b (k0 : Mem → Int32 → Int32 → Int32 → Int32 → Int32 → Int32 → O) (S : Mem) (x3 x4 x5 x6 x7 x8 : Int32) : O := (if x7 < x8 then some (x6, S) else gd (inB x3 (List.length st_STEP_X)) <| gd (inB x3 (List.length st_STEP_Y)) <| bnd (fX7_bitAt S (x4 + (x8 * (st_STEP_X.getD (x3).toNatClampNeg 0))) (x5 + (x8 * (st_STEP_Y.getD (x3).toNatClampNeg 0)))) fun r_6 S_7 => lti (x6 ||| r_6) fun x6_8 => k0 S_7 x3 x4 x5 x6_8 x7 (x8 + (1 : Int32)))
def fX6_parasolShade_54 : Nat → Mem → Int32 → Int32 → Int32 → Int32 → Int32 → Int32 → O
  | 0 => fun _ _ _ _ _ _ _ => none
  | n + 1 => fX6_parasolShade_54_b (fX6_parasolShade_54 n)
def fX6_parasolShade (S : Mem) (x1 x2 x3 : Int32) : O := (if x3 < 0 then some ((0 : Int32), S) else (if x3 ≤ (7 : Int32) then bnd (fX6_has S x1 (0 : Int32)) fun r_3 S_4 => lti (irem r_3 (5 : Int32)) fun x4_5 => bnd (fX6_has S_4 x1 (0 : Int32)) fun r_6 S_7 => lti (r_6 / (5 : Int32)) fun x5_8 => bnd (fX7_bitAt S_7 x4_5 x5_8) fun r_9 S_10 => bnd (fX6_inHour S_10 x2 (1 : Int32)) fun r_11 S_12 => lti ((4 : Int32) - r_11) fun x7_13 => fX6_parasolShade_54  FU S_12 x3 x4_5 x5_8 r_9 x7_13 (1 : Int32) else some ((0 : Int32), S)))
theorem dX6_parasolShade_0 : decode cX6_parasolShade 0 = .ok (.iload_n 3, 1) := by decide +kernel
theorem dX6_parasolShade_1 : decode cX6_parasolShade 1 = .ok (.ifCond .lt 9, 3) := by decide +kernel
theorem dX6_parasolShade_4 : decode cX6_parasolShade 4 = .ok (.iload_n 3, 1) := by decide +kernel
theorem dX6_parasolShade_5 : decode cX6_parasolShade 5 = .ok (.bipush 7, 2) := by decide +kernel
theorem dX6_parasolShade_7 : decode cX6_parasolShade 7 = .ok (.if_icmp .le 5, 3) := by decide +kernel
theorem dX6_parasolShade_10 : decode cX6_parasolShade 10 = .ok (.iconst 0, 1) := by decide +kernel
theorem dX6_parasolShade_11 : decode cX6_parasolShade 11 = .ok (.ireturn, 1) := by decide +kernel
theorem dX6_parasolShade_12 : decode cX6_parasolShade 12 = .ok (.aload_n 0, 1) := by decide +kernel
theorem dX6_parasolShade_13 : decode cX6_parasolShade 13 = .ok (.iload_n 1, 1) := by decide +kernel
theorem dX6_parasolShade_14 : decode cX6_parasolShade 14 = .ok (.iconst 0, 1) := by decide +kernel
theorem dX6_parasolShade_15 : decode cX6_parasolShade 15 = .ok (.invokevirtual 89, 3) := by decide +kernel
theorem dX6_parasolShade_18 : decode cX6_parasolShade 18 = .ok (.iconst 5, 1) := by decide +kernel
theorem dX6_parasolShade_19 : decode cX6_parasolShade 19 = .ok (.irem, 1) := by decide +kernel
theorem dX6_parasolShade_20 : decode cX6_parasolShade 20 = .ok (.istore 4, 2) := by decide +kernel
theorem dX6_parasolShade_22 : decode cX6_parasolShade 22 = .ok (.aload_n 0, 1) := by decide +kernel
theorem dX6_parasolShade_23 : decode cX6_parasolShade 23 = .ok (.iload_n 1, 1) := by decide +kernel
theorem dX6_parasolShade_24 : decode cX6_parasolShade 24 = .ok (.iconst 0, 1) := by decide +kernel
theorem dX6_parasolShade_25 : decode cX6_parasolShade 25 = .ok (.invokevirtual 89, 3) := by decide +kernel
theorem dX6_parasolShade_28 : decode cX6_parasolShade 28 = .ok (.iconst 5, 1) := by decide +kernel
theorem dX6_parasolShade_29 : decode cX6_parasolShade 29 = .ok (.idiv, 1) := by decide +kernel
theorem dX6_parasolShade_30 : decode cX6_parasolShade 30 = .ok (.istore 5, 2) := by decide +kernel
theorem dX6_parasolShade_32 : decode cX6_parasolShade 32 = .ok (.iload 4, 2) := by decide +kernel
theorem dX6_parasolShade_34 : decode cX6_parasolShade 34 = .ok (.iload 5, 2) := by decide +kernel
theorem dX6_parasolShade_36 : decode cX6_parasolShade 36 = .ok (.invokestatic 98, 3) := by decide +kernel
theorem dX6_parasolShade_39 : decode cX6_parasolShade 39 = .ok (.istore 6, 2) := by decide +kernel
theorem dX6_parasolShade_41 : decode cX6_parasolShade 41 = .ok (.iconst 4, 1) := by decide +kernel
theorem dX6_parasolShade_42 : decode cX6_parasolShade 42 = .ok (.aload_n 0, 1) := by decide +kernel
theorem dX6_parasolShade_43 : decode cX6_parasolShade 43 = .ok (.iload_n 2, 1) := by decide +kernel
theorem dX6_parasolShade_44 : decode cX6_parasolShade 44 = .ok (.iconst 1, 1) := by decide +kernel
theorem dX6_parasolShade_45 : decode cX6_parasolShade 45 = .ok (.invokevirtual 95, 3) := by decide +kernel
theorem dX6_parasolShade_48 : decode cX6_parasolShade 48 = .ok (.isub, 1) := by decide +kernel
theorem dX6_parasolShade_49 : decode cX6_parasolShade 49 = .ok (.istore 7, 2) := by decide +kernel
theorem dX6_parasolShade_51 : decode cX6_parasolShade 51 = .ok (.iconst 1, 1) := by decide +kernel
theorem dX6_parasolShade_52 : decode cX6_parasolShade 52 = .ok (.istore 8, 2) := by decide +kernel
theorem dX6_parasolShade_54 : decode cX6_parasolShade 54 = .ok (.iload 8, 2) := by decide +kernel
theorem dX6_parasolShade_56 : decode cX6_parasolShade 56 = .ok (.iload 7, 2) := by decide +kernel
theorem dX6_parasolShade_58 : decode cX6_parasolShade 58 = .ok (.if_icmp .gt 39, 3) := by decide +kernel
theorem dX6_parasolShade_61 : decode cX6_parasolShade 61 = .ok (.iload 6, 2) := by decide +kernel
theorem dX6_parasolShade_63 : decode cX6_parasolShade 63 = .ok (.iload 4, 2) := by decide +kernel
theorem dX6_parasolShade_65 : decode cX6_parasolShade 65 = .ok (.iload 8, 2) := by decide +kernel
theorem dX6_parasolShade_67 : decode cX6_parasolShade 67 = .ok (.getstatic 101, 3) := by decide +kernel
theorem dX6_parasolShade_70 : decode cX6_parasolShade 70 = .ok (.iload_n 3, 1) := by decide +kernel
theorem dX6_parasolShade_71 : decode cX6_parasolShade 71 = .ok (.iaload, 1) := by decide +kernel
theorem dX6_parasolShade_72 : decode cX6_parasolShade 72 = .ok (.imul, 1) := by decide +kernel
theorem dX6_parasolShade_73 : decode cX6_parasolShade 73 = .ok (.iadd, 1) := by decide +kernel
theorem dX6_parasolShade_74 : decode cX6_parasolShade 74 = .ok (.iload 5, 2) := by decide +kernel
theorem dX6_parasolShade_76 : decode cX6_parasolShade 76 = .ok (.iload 8, 2) := by decide +kernel
theorem dX6_parasolShade_78 : decode cX6_parasolShade 78 = .ok (.getstatic 104, 3) := by decide +kernel
theorem dX6_parasolShade_81 : decode cX6_parasolShade 81 = .ok (.iload_n 3, 1) := by decide +kernel
theorem dX6_parasolShade_82 : decode cX6_parasolShade 82 = .ok (.iaload, 1) := by decide +kernel
theorem dX6_parasolShade_83 : decode cX6_parasolShade 83 = .ok (.imul, 1) := by decide +kernel
theorem dX6_parasolShade_84 : decode cX6_parasolShade 84 = .ok (.iadd, 1) := by decide +kernel
theorem dX6_parasolShade_85 : decode cX6_parasolShade 85 = .ok (.invokestatic 98, 3) := by decide +kernel
theorem dX6_parasolShade_88 : decode cX6_parasolShade 88 = .ok (.ior, 1) := by decide +kernel
theorem dX6_parasolShade_89 : decode cX6_parasolShade 89 = .ok (.istore 6, 2) := by decide +kernel
theorem dX6_parasolShade_91 : decode cX6_parasolShade 91 = .ok (.iinc 8 1, 3) := by decide +kernel
theorem dX6_parasolShade_94 : decode cX6_parasolShade 94 = .ok (.goto (-40), 3) := by decide +kernel
theorem dX6_parasolShade_97 : decode cX6_parasolShade 97 = .ok (.iload 6, 2) := by decide +kernel
theorem dX6_parasolShade_99 : decode cX6_parasolShade 99 = .ok (.ireturn, 1) := by decide +kernel
set_option maxRecDepth 20000 in
theorem wX6_parasolShade_54_b {p : Program} {l : Launch} {e : Env} {s : State} {m : MethodId} {args : Array Value} {below : List Frame} {meth : Method} {c : Code} {Z : XG} {r : Int32} {S' : Mem} (E : XE p s m args meth c cX6_parasolShade 9 RX6 (some .int) xL Z) (k0 : Mem → Int32 → Int32 → Int32 → Int32 → Int32 → Int32 → O)  (hk0 : ∀ (S : Mem) (x3 x4 x5 x6 x7 x8 : Int32), k0 S x3 x4 x5 x6 x7 x8 = some (r, S') → WN p l e { frames := 2, cells := 0, slots := 0, locals := 43 } s m args below meth c xL Z (XQ xL Z r S') S 54 9 [(3, .int x3), (4, .int x4), (5, .int x5), (6, .int x6), (7, .int x7), (8, .int x8)] []) : ∀ (S : Mem) (x3 x4 x5 x6 x7 x8 : Int32), fX6_parasolShade_54_b k0 S x3 x4 x5 x6 x7 x8 = some (r, S') → WN p l e { frames := 2, cells := 0, slots := 0, locals := 43 } s m args below meth c xL Z (XQ xL Z r S') S 54 9 [(3, .int x3), (4, .int x4), (5, .int x5), (6, .int x6), (7, .int x7), (8, .int x8)] [] := by
  obtain ⟨hx, hb, -, -, -, -, -, -, -, hQ⟩ := id E
  intro S x3 x4 x5 x6 x7 x8 h H locs ls X hl
  unfold fX6_parasolShade_54_b at h
  refine lv_iload hx hb dX6_parasolShade_54 (lv_at hl 5 rfl) ?_
  refine lv_iload hx hb dX6_parasolShade_56 (lv_at hl 4 rfl) ?_
  refine lv_icmp_gt (tgt := 97) hx hb dX6_parasolShade_58 (by decide) (fun c_1 => ?_) (fun c_1 => ?_)
  · have h := if_t c_1 h
    refine lv_iload hx hb dX6_parasolShade_97 (lv_at hl 3 rfl) ?_
    exact x_iret E X h dX6_parasolShade_99
  · have h := if_f c_1 h
    refine lv_iload hx hb dX6_parasolShade_61 (lv_at hl 3 rfl) ?_
    refine lv_iload hx hb dX6_parasolShade_63 (lv_at hl 1 rfl) ?_
    refine lv_iload hx hb dX6_parasolShade_65 (lv_at hl 5 rfl) ?_
    obtain ⟨t_2, hZt_2, hTt_2⟩ := E.2.2.2.2.2.2.2.2.1.2.2.2.1
    refine x_getsN E X (host := "SevenToAShadow") hZt_2 (by decide +kernel) dX6_parasolShade_67 ?_
    refine lv_iload_n hx hb dX6_parasolShade_70 rfl (lv_at hl 0 rfl) ?_
    obtain ⟨g_3, h⟩ := gd_s h
    refine x_ti E X hTt_2 g_3 dX6_parasolShade_71 ?_
    refine lv_imul hx hb dX6_parasolShade_72 ?_
    refine lv_iadd hx hb dX6_parasolShade_73 ?_
    refine lv_iload hx hb dX6_parasolShade_74 (lv_at hl 2 rfl) ?_
    refine lv_iload hx hb dX6_parasolShade_76 (lv_at hl 5 rfl) ?_
    obtain ⟨t_4, hZt_4, hTt_4⟩ := E.2.2.2.2.2.2.2.2.1.2.2.2.2.1
    refine x_getsN E X (host := "SevenToAShadow") hZt_4 (by decide +kernel) dX6_parasolShade_78 ?_
    refine lv_iload_n hx hb dX6_parasolShade_81 rfl (lv_at hl 0 rfl) ?_
    obtain ⟨g_5, h⟩ := gd_s h
    refine x_ti E X hTt_4 g_5 dX6_parasolShade_82 ?_
    refine lv_imul hx hb dX6_parasolShade_83 ?_
    refine lv_iadd hx hb dX6_parasolShade_84 ?_
    obtain ⟨r_6, S_7, hr_6, h⟩ := bnd_s h
    refine x_callN E X cwX6_98 (mX7_bitAt l Z hQ  (x4 + (x8 * (st_STEP_X.getD (x3).toNatClampNeg 0))) (x5 + (x8 * (st_STEP_Y.getD (x3).toNatClampNeg 0))) hr_6) rfl rfl hl.1 rfl dX6_parasolShade_85 (fun H locs X => ?_)
    refine lv_ior hx hb dX6_parasolShade_88 ?_
    obtain ⟨x6_8, ex6_8, h⟩ := lti_s h
    refine lv_nm ex6_8 ?_
    refine lv_istore (lv' := [(6, .int x6_8), (3, .int x3), (4, .int x4), (5, .int x5), (7, .int x7), (8, .int x8)]) hx hb dX6_parasolShade_89 hl (by decide) rfl (fun ls hl => ?_)
    refine lv_iinc (v := (x8 + (1 : Int32))) (lv' := [(8, .int (x8 + (1 : Int32))), (6, .int x6_8), (3, .int x3), (4, .int x4), (5, .int x5), (7, .int x7)]) hx hb dX6_parasolShade_91 hl (k := 5) rfl rfl (by decide) rfl (fun ls hl => ?_)
    refine lv_goto (tgt := 54) hx hb dX6_parasolShade_94 (by decide) ?_
    exact hk0 S_7 x3 x4 x5 x6_8 x7 (x8 + (1 : Int32)) h _ _ _ X (lv_sub hl [2, 3, 4, 1, 5, 0] rfl)
theorem wX6_parasolShade_54 {p : Program} {l : Launch} {e : Env} {s : State} {m : MethodId} {args : Array Value} {below : List Frame} {meth : Method} {c : Code} {Z : XG} {r : Int32} {S' : Mem} (E : XE p s m args meth c cX6_parasolShade 9 RX6 (some .int) xL Z) : ∀ (n : Nat) (S : Mem) (x3 x4 x5 x6 x7 x8 : Int32), fX6_parasolShade_54 n S x3 x4 x5 x6 x7 x8 = some (r, S') → WN p l e { frames := 2, cells := 0, slots := 0, locals := 43 } s m args below meth c xL Z (XQ xL Z r S') S 54 9 [(3, .int x3), (4, .int x4), (5, .int x5), (6, .int x6), (7, .int x7), (8, .int x8)] [] := by
  intro n
  induction n with
  | zero => intro S x3 x4 x5 x6 x7 x8 h; exact absurd (show (none : O) = some _ from h) (by simp)
  | succ n ih => intro S x3 x4 x5 x6 x7 x8 h; exact wX6_parasolShade_54_b E (fX6_parasolShade_54 n) ih S x3 x4 x5 x6 x7 x8 h
set_option maxRecDepth 20000 in
theorem wX6_parasolShade {p : Program} {l : Launch} {e : Env} {s : State} {m : MethodId} {args : Array Value} {below : List Frame} {meth : Method} {c : Code} {Z : XG} {r : Int32} {S' : Mem} (E : XE p s m args meth c cX6_parasolShade 9 RX6 (some .int) xL Z) : ∀ (S : Mem) (x1 x2 x3 : Int32), fX6_parasolShade  S x1 x2 x3 = some (r, S') → WN p l e { frames := 2, cells := 0, slots := 0, locals := 43 } s m args below meth c xL Z (XQ xL Z r S') S 0 9 [(0, .ref (Z.2.1 1)), (1, .int x1), (2, .int x2), (3, .int x3)] [] := by
  obtain ⟨hx, hb, -, -, -, -, -, -, -, hQ⟩ := id E
  intro S x1 x2 x3 h H locs ls X hl
  unfold fX6_parasolShade at h
  refine lv_iload_n hx hb dX6_parasolShade_0 rfl (lv_at hl 3 rfl) ?_
  refine lv_if_lt (tgt := 10) hx hb dX6_parasolShade_1 (by decide) (fun c_1 => ?_) (fun c_1 => ?_)
  · have h := if_t c_1 h
    refine lv_iconst (v := (0 : Int32)) hx hb dX6_parasolShade_10 (by decide) ?_
    exact x_iret E X h dX6_parasolShade_11
  · have h := if_f c_1 h
    refine lv_iload_n hx hb dX6_parasolShade_4 rfl (lv_at hl 3 rfl) ?_
    refine lv_bipush (v := (7 : Int32)) hx hb dX6_parasolShade_5 (by decide) ?_
    refine lv_icmp_le (tgt := 12) hx hb dX6_parasolShade_7 (by decide) (fun c_2 => ?_) (fun c_2 => ?_)
    · have h := if_t c_2 h
      refine lv_aload_n hx hb dX6_parasolShade_12 rfl (lv_at hl 0 rfl) ?_
      refine lv_iload_n hx hb dX6_parasolShade_13 rfl (lv_at hl 1 rfl) ?_
      refine lv_iconst (v := (0 : Int32)) hx hb dX6_parasolShade_14 (by decide) ?_
      obtain ⟨r_3, S_4, hr_3, h⟩ := bnd_s h
      refine x_callV E X cwX6_89 (mX6_has l Z hQ  x1 (0 : Int32) hr_3) rfl rfl rfl rfl hl.1 rfl dX6_parasolShade_15 (fun H locs X => ?_)
      refine lv_iconst (v := (5 : Int32)) hx hb dX6_parasolShade_18 (by decide) ?_
      refine lv_irem hx hb dX6_parasolShade_19 (by decide) ?_
      refine lv_nm (y := (irem r_3 (5 : Int32))) rfl ?_
      obtain ⟨x4_5, ex4_5, h⟩ := lti_s h
      refine lv_nm ex4_5 ?_
      refine lv_istore (lv' := [(4, .int x4_5), (0, .ref (Z.2.1 1)), (1, .int x1), (2, .int x2), (3, .int x3)]) hx hb dX6_parasolShade_20 hl (by decide) rfl (fun ls hl => ?_)
      refine lv_aload_n hx hb dX6_parasolShade_22 rfl (lv_at hl 1 rfl) ?_
      refine lv_iload_n hx hb dX6_parasolShade_23 rfl (lv_at hl 2 rfl) ?_
      refine lv_iconst (v := (0 : Int32)) hx hb dX6_parasolShade_24 (by decide) ?_
      obtain ⟨r_6, S_7, hr_6, h⟩ := bnd_s h
      refine x_callV E X cwX6_89 (mX6_has l Z hQ  x1 (0 : Int32) hr_6) rfl rfl rfl rfl hl.1 rfl dX6_parasolShade_25 (fun H locs X => ?_)
      refine lv_iconst (v := (5 : Int32)) hx hb dX6_parasolShade_28 (by decide) ?_
      refine lv_idiv hx hb dX6_parasolShade_29 (by decide) ?_
      obtain ⟨x5_8, ex5_8, h⟩ := lti_s h
      refine lv_nm ex5_8 ?_
      refine lv_istore (lv' := [(5, .int x5_8), (4, .int x4_5), (0, .ref (Z.2.1 1)), (1, .int x1), (2, .int x2), (3, .int x3)]) hx hb dX6_parasolShade_30 hl (by decide) rfl (fun ls hl => ?_)
      refine lv_iload hx hb dX6_parasolShade_32 (lv_at hl 1 rfl) ?_
      refine lv_iload hx hb dX6_parasolShade_34 (lv_at hl 0 rfl) ?_
      obtain ⟨r_9, S_10, hr_9, h⟩ := bnd_s h
      refine x_callN E X cwX6_98 (mX7_bitAt l Z hQ  x4_5 x5_8 hr_9) rfl rfl hl.1 rfl dX6_parasolShade_36 (fun H locs X => ?_)
      refine lv_istore (lv' := [(6, .int r_9), (5, .int x5_8), (4, .int x4_5), (0, .ref (Z.2.1 1)), (1, .int x1), (2, .int x2), (3, .int x3)]) hx hb dX6_parasolShade_39 hl (by decide) rfl (fun ls hl => ?_)
      refine lv_iconst (v := (4 : Int32)) hx hb dX6_parasolShade_41 (by decide) ?_
      refine lv_aload_n hx hb dX6_parasolShade_42 rfl (lv_at hl 3 rfl) ?_
      refine lv_iload_n hx hb dX6_parasolShade_43 rfl (lv_at hl 5 rfl) ?_
      refine lv_iconst (v := (1 : Int32)) hx hb dX6_parasolShade_44 (by decide) ?_
      obtain ⟨r_11, S_12, hr_11, h⟩ := bnd_s h
      refine x_callV E X cwX6_95 (mX6_inHour l Z hQ  x2 (1 : Int32) hr_11) rfl rfl rfl rfl hl.1 rfl dX6_parasolShade_45 (fun H locs X => ?_)
      refine lv_isub hx hb dX6_parasolShade_48 ?_
      obtain ⟨x7_13, ex7_13, h⟩ := lti_s h
      refine lv_nm ex7_13 ?_
      refine lv_istore (lv' := [(7, .int x7_13), (6, .int r_9), (5, .int x5_8), (4, .int x4_5), (0, .ref (Z.2.1 1)), (1, .int x1), (2, .int x2), (3, .int x3)]) hx hb dX6_parasolShade_49 hl (by decide) rfl (fun ls hl => ?_)
      refine lv_iconst (v := (1 : Int32)) hx hb dX6_parasolShade_51 (by decide) ?_
      refine lv_istore (lv' := [(8, .int (1 : Int32)), (7, .int x7_13), (6, .int r_9), (5, .int x5_8), (4, .int x4_5), (0, .ref (Z.2.1 1)), (1, .int x1), (2, .int x2), (3, .int x3)]) hx hb dX6_parasolShade_52 hl (by decide) rfl (fun ls hl => ?_)
      exact wX6_parasolShade_54 E   FU S_12 x3 x4_5 x5_8 r_9 x7_13 (1 : Int32) h _ _ _ X (lv_sub hl [8, 4, 3, 2, 1, 0] rfl)
    · have h := if_f c_2 h
      refine lv_iconst (v := (0 : Int32)) hx hb dX6_parasolShade_10 (by decide) ?_
      exact x_iret E X h dX6_parasolShade_11
/-- SevenToAShadow$World.parasolShade(III)I -/
theorem mX6_parasolShade (l : Launch) (Z : XG) (hQ : wQ (List.length xL) Z) {S S' : Mem} {r : Int32} (x1 x2 x3 : Int32) (h : fX6_parasolShade S x1 x2 x3 = some (r, S')) : XM l yX6_parasolShade cX6_parasolShade 9 (some .int) { frames := 2, cells := 0, slots := 0, locals := 43 } xL Z [.ref (Z.2.1 1), .int x1, .int x2, .int x3] S (XQ xL Z r S') := by
  refine XM.of (own := RX6) (by decide +kernel) rfl rfl hQ (fun p e s m args below meth c E ls hl X => ?_)
  exact wX6_parasolShade E S x1 x2 x3 h _ _ _ X hl
def fX6_shadeIn_71 (k0 : Mem → Int32 → Int32 → Int32 → Int32 → Int32 → O) (S : Mem) (x1 x3 x4 x5 x6 : Int32) : O := k0 S x1 x3 x4 x5 (x6 + (1 : Int32))
def fX6_shadeIn_14_b (k0 : Mem → Int32 → Int32 → Int32 → Int32 → Int32 → O) (S : Mem) (x1 x3 x4 x5 x6 : Int32) : O := (if (S 1 9) ≤ x6 then some (x5, S) else (if x6 = x3 then fX6_shadeIn_71 k0 S x1 x3 x4 x5 x6 else bnd (fX6_bodyShade S x6 x1 x4) fun r_3 S_4 => lti (x5 ||| r_3) fun x5_5 => bnd (fX6_has S_4 x6 (5 : Int32)) fun r_6 S_7 => (if r_6 = (1 : Int32) then bnd (fX6_parasolShade S_7 x6 x1 x4) fun r_9 S_10 => lti (x5_5 ||| r_9) fun x5_11 => fX6_shadeIn_71 k0 S_10 x1 x3 x4 x5_11 x6 else fX6_shadeIn_71 k0 S_7 x1 x3 x4 x5_5 x6)))
def fX6_shadeIn_14 : Nat → Mem → Int32 → Int32 → Int32 → Int32 → Int32 → O
  | 0 => fun _ _ _ _ _ _ => none
  | n + 1 => fX6_shadeIn_14_b (fX6_shadeIn_14 n)
def fX6_shadeIn (S : Mem) (x1 x2 x3 : Int32) : O := bnd (fX6_wayOfShade S x1 x2) fun r_1 S_2 => fX6_shadeIn_14  FU S_2 x1 x3 r_1 (0 : Int32) (0 : Int32)
theorem dX6_shadeIn_0 : decode cX6_shadeIn 0 = .ok (.aload_n 0, 1) := by decide +kernel
theorem dX6_shadeIn_1 : decode cX6_shadeIn 1 = .ok (.iload_n 1, 1) := by decide +kernel
theorem dX6_shadeIn_2 : decode cX6_shadeIn 2 = .ok (.iload_n 2, 1) := by decide +kernel
theorem dX6_shadeIn_3 : decode cX6_shadeIn 3 = .ok (.invokevirtual 107, 3) := by decide +kernel
theorem dX6_shadeIn_6 : decode cX6_shadeIn 6 = .ok (.istore 4, 2) := by decide +kernel
theorem dX6_shadeIn_8 : decode cX6_shadeIn 8 = .ok (.iconst 0, 1) := by decide +kernel
theorem dX6_shadeIn_9 : decode cX6_shadeIn 9 = .ok (.istore 5, 2) := by decide +kernel
theorem dX6_shadeIn_11 : decode cX6_shadeIn 11 = .ok (.iconst 0, 1) := by decide +kernel
theorem dX6_shadeIn_12 : decode cX6_shadeIn 12 = .ok (.istore 6, 2) := by decide +kernel
theorem dX6_shadeIn_14 : decode cX6_shadeIn 14 = .ok (.iload 6, 2) := by decide +kernel
theorem dX6_shadeIn_16 : decode cX6_shadeIn 16 = .ok (.aload_n 0, 1) := by decide +kernel
theorem dX6_shadeIn_17 : decode cX6_shadeIn 17 = .ok (.getfield 76, 3) := by decide +kernel
theorem dX6_shadeIn_20 : decode cX6_shadeIn 20 = .ok (.if_icmp .ge 57, 3) := by decide +kernel
theorem dX6_shadeIn_23 : decode cX6_shadeIn 23 = .ok (.iload 6, 2) := by decide +kernel
theorem dX6_shadeIn_25 : decode cX6_shadeIn 25 = .ok (.iload_n 3, 1) := by decide +kernel
theorem dX6_shadeIn_26 : decode cX6_shadeIn 26 = .ok (.if_icmp .ne 6, 3) := by decide +kernel
theorem dX6_shadeIn_29 : decode cX6_shadeIn 29 = .ok (.goto 42, 3) := by decide +kernel
theorem dX6_shadeIn_32 : decode cX6_shadeIn 32 = .ok (.iload 5, 2) := by decide +kernel
theorem dX6_shadeIn_34 : decode cX6_shadeIn 34 = .ok (.aload_n 0, 1) := by decide +kernel
theorem dX6_shadeIn_35 : decode cX6_shadeIn 35 = .ok (.iload 6, 2) := by decide +kernel
theorem dX6_shadeIn_37 : decode cX6_shadeIn 37 = .ok (.iload_n 1, 1) := by decide +kernel
theorem dX6_shadeIn_38 : decode cX6_shadeIn 38 = .ok (.iload 4, 2) := by decide +kernel
theorem dX6_shadeIn_40 : decode cX6_shadeIn 40 = .ok (.invokevirtual 110, 3) := by decide +kernel
theorem dX6_shadeIn_43 : decode cX6_shadeIn 43 = .ok (.ior, 1) := by decide +kernel
theorem dX6_shadeIn_44 : decode cX6_shadeIn 44 = .ok (.istore 5, 2) := by decide +kernel
theorem dX6_shadeIn_46 : decode cX6_shadeIn 46 = .ok (.aload_n 0, 1) := by decide +kernel
theorem dX6_shadeIn_47 : decode cX6_shadeIn 47 = .ok (.iload 6, 2) := by decide +kernel
theorem dX6_shadeIn_49 : decode cX6_shadeIn 49 = .ok (.iconst 5, 1) := by decide +kernel
theorem dX6_shadeIn_50 : decode cX6_shadeIn 50 = .ok (.invokevirtual 89, 3) := by decide +kernel
theorem dX6_shadeIn_53 : decode cX6_shadeIn 53 = .ok (.iconst 1, 1) := by decide +kernel
theorem dX6_shadeIn_54 : decode cX6_shadeIn 54 = .ok (.if_icmp .ne 17, 3) := by decide +kernel
theorem dX6_shadeIn_57 : decode cX6_shadeIn 57 = .ok (.iload 5, 2) := by decide +kernel
theorem dX6_shadeIn_59 : decode cX6_shadeIn 59 = .ok (.aload_n 0, 1) := by decide +kernel
theorem dX6_shadeIn_60 : decode cX6_shadeIn 60 = .ok (.iload 6, 2) := by decide +kernel
theorem dX6_shadeIn_62 : decode cX6_shadeIn 62 = .ok (.iload_n 1, 1) := by decide +kernel
theorem dX6_shadeIn_63 : decode cX6_shadeIn 63 = .ok (.iload 4, 2) := by decide +kernel
theorem dX6_shadeIn_65 : decode cX6_shadeIn 65 = .ok (.invokevirtual 114, 3) := by decide +kernel
theorem dX6_shadeIn_68 : decode cX6_shadeIn 68 = .ok (.ior, 1) := by decide +kernel
theorem dX6_shadeIn_69 : decode cX6_shadeIn 69 = .ok (.istore 5, 2) := by decide +kernel
theorem dX6_shadeIn_71 : decode cX6_shadeIn 71 = .ok (.iinc 6 1, 3) := by decide +kernel
theorem dX6_shadeIn_74 : decode cX6_shadeIn 74 = .ok (.goto (-60), 3) := by decide +kernel
theorem dX6_shadeIn_77 : decode cX6_shadeIn 77 = .ok (.iload 5, 2) := by decide +kernel
theorem dX6_shadeIn_79 : decode cX6_shadeIn 79 = .ok (.ireturn, 1) := by decide +kernel
set_option maxRecDepth 20000 in
theorem wX6_shadeIn_71 {p : Program} {l : Launch} {e : Env} {s : State} {m : MethodId} {args : Array Value} {below : List Frame} {meth : Method} {c : Code} {Z : XG} {r : Int32} {S' : Mem} (E : XE p s m args meth c cX6_shadeIn 7 RX6 (some .int) xL Z) (k0 : Mem → Int32 → Int32 → Int32 → Int32 → Int32 → O)  (hk0 : ∀ (S : Mem) (x1 x3 x4 x5 x6 : Int32), k0 S x1 x3 x4 x5 x6 = some (r, S') → WN p l e { frames := 3, cells := 0, slots := 0, locals := 73 } s m args below meth c xL Z (XQ xL Z r S') S 14 7 [(0, .ref (Z.2.1 1)), (1, .int x1), (3, .int x3), (4, .int x4), (5, .int x5), (6, .int x6)] []) : ∀ (S : Mem) (x1 x3 x4 x5 x6 : Int32), fX6_shadeIn_71 k0 S x1 x3 x4 x5 x6 = some (r, S') → WN p l e { frames := 3, cells := 0, slots := 0, locals := 73 } s m args below meth c xL Z (XQ xL Z r S') S 71 7 [(0, .ref (Z.2.1 1)), (1, .int x1), (3, .int x3), (4, .int x4), (5, .int x5), (6, .int x6)] [] := by
  obtain ⟨hx, hb, -, -, -, -, -, -, -, hQ⟩ := id E
  intro S x1 x3 x4 x5 x6 h H locs ls X hl
  unfold fX6_shadeIn_71 at h
  refine lv_iinc (v := (x6 + (1 : Int32))) (lv' := [(6, .int (x6 + (1 : Int32))), (0, .ref (Z.2.1 1)), (1, .int x1), (3, .int x3), (4, .int x4), (5, .int x5)]) hx hb dX6_shadeIn_71 hl (k := 5) rfl rfl (by decide) rfl (fun ls hl => ?_)
  refine lv_goto (tgt := 14) hx hb dX6_shadeIn_74 (by decide) ?_
  exact hk0 S x1 x3 x4 x5 (x6 + (1 : Int32)) h _ _ _ X (lv_sub hl [1, 2, 3, 4, 5, 0] rfl)
set_option maxRecDepth 20000 in
theorem wX6_shadeIn_14_b {p : Program} {l : Launch} {e : Env} {s : State} {m : MethodId} {args : Array Value} {below : List Frame} {meth : Method} {c : Code} {Z : XG} {r : Int32} {S' : Mem} (E : XE p s m args meth c cX6_shadeIn 7 RX6 (some .int) xL Z) (k0 : Mem → Int32 → Int32 → Int32 → Int32 → Int32 → O)  (hk0 : ∀ (S : Mem) (x1 x3 x4 x5 x6 : Int32), k0 S x1 x3 x4 x5 x6 = some (r, S') → WN p l e { frames := 3, cells := 0, slots := 0, locals := 73 } s m args below meth c xL Z (XQ xL Z r S') S 14 7 [(0, .ref (Z.2.1 1)), (1, .int x1), (3, .int x3), (4, .int x4), (5, .int x5), (6, .int x6)] []) : ∀ (S : Mem) (x1 x3 x4 x5 x6 : Int32), fX6_shadeIn_14_b k0 S x1 x3 x4 x5 x6 = some (r, S') → WN p l e { frames := 3, cells := 0, slots := 0, locals := 73 } s m args below meth c xL Z (XQ xL Z r S') S 14 7 [(0, .ref (Z.2.1 1)), (1, .int x1), (3, .int x3), (4, .int x4), (5, .int x5), (6, .int x6)] [] := by
  obtain ⟨hx, hb, -, -, -, -, -, -, -, hQ⟩ := id E
  intro S x1 x3 x4 x5 x6 h H locs ls X hl
  unfold fX6_shadeIn_14_b at h
  refine lv_iload hx hb dX6_shadeIn_14 (lv_at hl 5 rfl) ?_
  refine lv_aload_n hx hb dX6_shadeIn_16 rfl (lv_at hl 0 rfl) ?_
  refine x_get E X ffX6_76 rfl rfl dX6_shadeIn_17 ?_
  refine lv_icmp_ge (tgt := 77) hx hb dX6_shadeIn_20 (by decide) (fun c_1 => ?_) (fun c_1 => ?_)
  · have h := if_t c_1 h
    refine lv_iload hx hb dX6_shadeIn_77 (lv_at hl 4 rfl) ?_
    exact x_iret E X h dX6_shadeIn_79
  · have h := if_f c_1 h
    refine lv_iload hx hb dX6_shadeIn_23 (lv_at hl 5 rfl) ?_
    refine lv_iload_n hx hb dX6_shadeIn_25 rfl (lv_at hl 2 rfl) ?_
    refine lv_icmp_ne (tgt := 32) hx hb dX6_shadeIn_26 (by decide) (fun c_2 => ?_) (fun c_2 => ?_)
    · have h := if_f c_2 h
      refine lv_iload hx hb dX6_shadeIn_32 (lv_at hl 4 rfl) ?_
      refine lv_aload_n hx hb dX6_shadeIn_34 rfl (lv_at hl 0 rfl) ?_
      refine lv_iload hx hb dX6_shadeIn_35 (lv_at hl 5 rfl) ?_
      refine lv_iload_n hx hb dX6_shadeIn_37 rfl (lv_at hl 1 rfl) ?_
      refine lv_iload hx hb dX6_shadeIn_38 (lv_at hl 3 rfl) ?_
      obtain ⟨r_3, S_4, hr_3, h⟩ := bnd_s h
      refine x_callV E X cwX6_110 (mX6_bodyShade l Z hQ  x6 x1 x4 hr_3) rfl rfl rfl rfl hl.1 rfl dX6_shadeIn_40 (fun H locs X => ?_)
      refine lv_ior hx hb dX6_shadeIn_43 ?_
      obtain ⟨x5_5, ex5_5, h⟩ := lti_s h
      refine lv_nm ex5_5 ?_
      refine lv_istore (lv' := [(5, .int x5_5), (0, .ref (Z.2.1 1)), (1, .int x1), (3, .int x3), (4, .int x4), (6, .int x6)]) hx hb dX6_shadeIn_44 hl (by decide) rfl (fun ls hl => ?_)
      refine lv_aload_n hx hb dX6_shadeIn_46 rfl (lv_at hl 1 rfl) ?_
      refine lv_iload hx hb dX6_shadeIn_47 (lv_at hl 5 rfl) ?_
      refine lv_iconst (v := (5 : Int32)) hx hb dX6_shadeIn_49 (by decide) ?_
      obtain ⟨r_6, S_7, hr_6, h⟩ := bnd_s h
      refine x_callV E X cwX6_89 (mX6_has l Z hQ  x6 (5 : Int32) hr_6) rfl rfl rfl rfl hl.1 rfl dX6_shadeIn_50 (fun H locs X => ?_)
      refine lv_iconst (v := (1 : Int32)) hx hb dX6_shadeIn_53 (by decide) ?_
      refine lv_icmp_ne (tgt := 71) hx hb dX6_shadeIn_54 (by decide) (fun c_8 => ?_) (fun c_8 => ?_)
      · have h := if_f c_8 h
        exact wX6_shadeIn_71 E k0 hk0 S_7 x1 x3 x4 x5_5 x6 h _ _ _ X (lv_sub hl [1, 2, 3, 4, 0, 5] rfl)
      · have h := if_t c_8 h
        refine lv_iload hx hb dX6_shadeIn_57 (lv_at hl 0 rfl) ?_
        refine lv_aload_n hx hb dX6_shadeIn_59 rfl (lv_at hl 1 rfl) ?_
        refine lv_iload hx hb dX6_shadeIn_60 (lv_at hl 5 rfl) ?_
        refine lv_iload_n hx hb dX6_shadeIn_62 rfl (lv_at hl 2 rfl) ?_
        refine lv_iload hx hb dX6_shadeIn_63 (lv_at hl 4 rfl) ?_
        obtain ⟨r_9, S_10, hr_9, h⟩ := bnd_s h
        refine x_callV E X cwX6_114 (mX6_parasolShade l Z hQ  x6 x1 x4 hr_9) rfl rfl rfl rfl hl.1 rfl dX6_shadeIn_65 (fun H locs X => ?_)
        refine lv_ior hx hb dX6_shadeIn_68 ?_
        obtain ⟨x5_11, ex5_11, h⟩ := lti_s h
        refine lv_nm ex5_11 ?_
        refine lv_istore (lv' := [(5, .int x5_11), (0, .ref (Z.2.1 1)), (1, .int x1), (3, .int x3), (4, .int x4), (6, .int x6)]) hx hb dX6_shadeIn_69 hl (by decide) rfl (fun ls hl => ?_)
        exact wX6_shadeIn_71 E k0 hk0 S_10 x1 x3 x4 x5_11 x6 h _ _ _ X (lv_sub hl [1, 2, 3, 4, 0, 5] rfl)
    · have h := if_t c_2 h
      refine lv_goto (tgt := 71) hx hb dX6_shadeIn_29 (by decide) ?_
      exact wX6_shadeIn_71 E k0 hk0 S x1 x3 x4 x5 x6 h _ _ _ X hl
theorem wX6_shadeIn_14 {p : Program} {l : Launch} {e : Env} {s : State} {m : MethodId} {args : Array Value} {below : List Frame} {meth : Method} {c : Code} {Z : XG} {r : Int32} {S' : Mem} (E : XE p s m args meth c cX6_shadeIn 7 RX6 (some .int) xL Z) : ∀ (n : Nat) (S : Mem) (x1 x3 x4 x5 x6 : Int32), fX6_shadeIn_14 n S x1 x3 x4 x5 x6 = some (r, S') → WN p l e { frames := 3, cells := 0, slots := 0, locals := 73 } s m args below meth c xL Z (XQ xL Z r S') S 14 7 [(0, .ref (Z.2.1 1)), (1, .int x1), (3, .int x3), (4, .int x4), (5, .int x5), (6, .int x6)] [] := by
  intro n
  induction n with
  | zero => intro S x1 x3 x4 x5 x6 h; exact absurd (show (none : O) = some _ from h) (by simp)
  | succ n ih => intro S x1 x3 x4 x5 x6 h; exact wX6_shadeIn_14_b E (fX6_shadeIn_14 n) ih S x1 x3 x4 x5 x6 h
set_option maxRecDepth 20000 in
theorem wX6_shadeIn {p : Program} {l : Launch} {e : Env} {s : State} {m : MethodId} {args : Array Value} {below : List Frame} {meth : Method} {c : Code} {Z : XG} {r : Int32} {S' : Mem} (E : XE p s m args meth c cX6_shadeIn 7 RX6 (some .int) xL Z) : ∀ (S : Mem) (x1 x2 x3 : Int32), fX6_shadeIn  S x1 x2 x3 = some (r, S') → WN p l e { frames := 3, cells := 0, slots := 0, locals := 73 } s m args below meth c xL Z (XQ xL Z r S') S 0 7 [(0, .ref (Z.2.1 1)), (1, .int x1), (2, .int x2), (3, .int x3)] [] := by
  obtain ⟨hx, hb, -, -, -, -, -, -, -, hQ⟩ := id E
  intro S x1 x2 x3 h H locs ls X hl
  unfold fX6_shadeIn at h
  refine lv_aload_n hx hb dX6_shadeIn_0 rfl (lv_at hl 0 rfl) ?_
  refine lv_iload_n hx hb dX6_shadeIn_1 rfl (lv_at hl 1 rfl) ?_
  refine lv_iload_n hx hb dX6_shadeIn_2 rfl (lv_at hl 2 rfl) ?_
  obtain ⟨r_1, S_2, hr_1, h⟩ := bnd_s h
  refine x_callV E X cwX6_107 (mX6_wayOfShade l Z hQ  x1 x2 hr_1) rfl rfl rfl rfl hl.1 rfl dX6_shadeIn_3 (fun H locs X => ?_)
  refine lv_istore (lv' := [(4, .int r_1), (0, .ref (Z.2.1 1)), (1, .int x1), (2, .int x2), (3, .int x3)]) hx hb dX6_shadeIn_6 hl (by decide) rfl (fun ls hl => ?_)
  refine lv_iconst (v := (0 : Int32)) hx hb dX6_shadeIn_8 (by decide) ?_
  refine lv_istore (lv' := [(5, .int (0 : Int32)), (4, .int r_1), (0, .ref (Z.2.1 1)), (1, .int x1), (2, .int x2), (3, .int x3)]) hx hb dX6_shadeIn_9 hl (by decide) rfl (fun ls hl => ?_)
  refine lv_iconst (v := (0 : Int32)) hx hb dX6_shadeIn_11 (by decide) ?_
  refine lv_istore (lv' := [(6, .int (0 : Int32)), (5, .int (0 : Int32)), (4, .int r_1), (0, .ref (Z.2.1 1)), (1, .int x1), (2, .int x2), (3, .int x3)]) hx hb dX6_shadeIn_12 hl (by decide) rfl (fun ls hl => ?_)
  exact wX6_shadeIn_14 E   FU S_2 x1 x3 r_1 (0 : Int32) (0 : Int32) h _ _ _ X (lv_sub hl [3, 4, 6, 2, 1, 0] rfl)
/-- SevenToAShadow$World.shadeIn(III)I -/
theorem mX6_shadeIn (l : Launch) (Z : XG) (hQ : wQ (List.length xL) Z) {S S' : Mem} {r : Int32} (x1 x2 x3 : Int32) (h : fX6_shadeIn S x1 x2 x3 = some (r, S')) : XM l yX6_shadeIn cX6_shadeIn 7 (some .int) { frames := 3, cells := 0, slots := 0, locals := 73 } xL Z [.ref (Z.2.1 1), .int x1, .int x2, .int x3] S (XQ xL Z r S') := by
  refine XM.of (own := RX6) (by decide +kernel) rfl rfl hQ (fun p e s m args below meth c E ls hl X => ?_)
  exact wX6_shadeIn E S x1 x2 x3 h _ _ _ X hl
def fX6_isShaded_35 (S : Mem) : O := some ((1 : Int32), S)
def fX6_isShaded (S : Mem) (x1 x2 : Int32) : O := bnd (fX6_isPilgrim S x1) fun r_1 S_2 => (if r_1 = 0 then some ((0 : Int32), S_2) else bnd (fX6_has S_2 x1 (6 : Int32)) fun r_4 S_5 => (if r_4 = (1 : Int32) then fX6_isShaded_35  S_5  else bnd (fX6_has S_5 x1 (0 : Int32)) fun r_7 S_8 => (if ((x2 >>> (r_7 &&& 31)) &&& (1 : Int32)) = (1 : Int32) then fX6_isShaded_35  S_8  else some ((0 : Int32), S_8))))
theorem dX6_isShaded_0 : decode cX6_isShaded 0 = .ok (.aload_n 0, 1) := by decide +kernel
theorem dX6_isShaded_1 : decode cX6_isShaded 1 = .ok (.iload_n 1, 1) := by decide +kernel
theorem dX6_isShaded_2 : decode cX6_isShaded 2 = .ok (.invokevirtual 85, 3) := by decide +kernel
theorem dX6_isShaded_5 : decode cX6_isShaded 5 = .ok (.ifCond .ne 5, 3) := by decide +kernel
theorem dX6_isShaded_8 : decode cX6_isShaded 8 = .ok (.iconst 0, 1) := by decide +kernel
theorem dX6_isShaded_9 : decode cX6_isShaded 9 = .ok (.ireturn, 1) := by decide +kernel
theorem dX6_isShaded_10 : decode cX6_isShaded 10 = .ok (.aload_n 0, 1) := by decide +kernel
theorem dX6_isShaded_11 : decode cX6_isShaded 11 = .ok (.iload_n 1, 1) := by decide +kernel
theorem dX6_isShaded_12 : decode cX6_isShaded 12 = .ok (.bipush 6, 2) := by decide +kernel
theorem dX6_isShaded_14 : decode cX6_isShaded 14 = .ok (.invokevirtual 89, 3) := by decide +kernel
theorem dX6_isShaded_17 : decode cX6_isShaded 17 = .ok (.iconst 1, 1) := by decide +kernel
theorem dX6_isShaded_18 : decode cX6_isShaded 18 = .ok (.if_icmp .eq 17, 3) := by decide +kernel
theorem dX6_isShaded_21 : decode cX6_isShaded 21 = .ok (.iload_n 2, 1) := by decide +kernel
theorem dX6_isShaded_22 : decode cX6_isShaded 22 = .ok (.aload_n 0, 1) := by decide +kernel
theorem dX6_isShaded_23 : decode cX6_isShaded 23 = .ok (.iload_n 1, 1) := by decide +kernel
theorem dX6_isShaded_24 : decode cX6_isShaded 24 = .ok (.iconst 0, 1) := by decide +kernel
theorem dX6_isShaded_25 : decode cX6_isShaded 25 = .ok (.invokevirtual 89, 3) := by decide +kernel
theorem dX6_isShaded_28 : decode cX6_isShaded 28 = .ok (.ishr, 1) := by decide +kernel
theorem dX6_isShaded_29 : decode cX6_isShaded 29 = .ok (.iconst 1, 1) := by decide +kernel
theorem dX6_isShaded_30 : decode cX6_isShaded 30 = .ok (.iand, 1) := by decide +kernel
theorem dX6_isShaded_31 : decode cX6_isShaded 31 = .ok (.iconst 1, 1) := by decide +kernel
theorem dX6_isShaded_32 : decode cX6_isShaded 32 = .ok (.if_icmp .ne 7, 3) := by decide +kernel
theorem dX6_isShaded_35 : decode cX6_isShaded 35 = .ok (.iconst 1, 1) := by decide +kernel
theorem dX6_isShaded_36 : decode cX6_isShaded 36 = .ok (.goto 4, 3) := by decide +kernel
theorem dX6_isShaded_39 : decode cX6_isShaded 39 = .ok (.iconst 0, 1) := by decide +kernel
theorem dX6_isShaded_40 : decode cX6_isShaded 40 = .ok (.ireturn, 1) := by decide +kernel
set_option maxRecDepth 20000 in
theorem wX6_isShaded_35 {p : Program} {l : Launch} {e : Env} {s : State} {m : MethodId} {args : Array Value} {below : List Frame} {meth : Method} {c : Code} {Z : XG} {r : Int32} {S' : Mem} (E : XE p s m args meth c cX6_isShaded 3 RX6 (some .boolean) xL Z) : ∀ (S : Mem), fX6_isShaded_35  S  = some (r, S') → WN p l e { frames := 2, cells := 0, slots := 0, locals := 43 } s m args below meth c xL Z (XQ xL Z r S') S 35 3 [] [] := by
  obtain ⟨hx, hb, -, -, -, -, -, -, -, hQ⟩ := id E
  intro S  h H locs ls X hl
  unfold fX6_isShaded_35 at h
  refine lv_iconst (v := (1 : Int32)) hx hb dX6_isShaded_35 (by decide) ?_
  refine lv_goto (tgt := 40) hx hb dX6_isShaded_36 (by decide) ?_
  exact x_zret E X rfl h dX6_isShaded_40
set_option maxRecDepth 20000 in
theorem wX6_isShaded {p : Program} {l : Launch} {e : Env} {s : State} {m : MethodId} {args : Array Value} {below : List Frame} {meth : Method} {c : Code} {Z : XG} {r : Int32} {S' : Mem} (E : XE p s m args meth c cX6_isShaded 3 RX6 (some .boolean) xL Z) : ∀ (S : Mem) (x1 x2 : Int32), fX6_isShaded  S x1 x2 = some (r, S') → WN p l e { frames := 2, cells := 0, slots := 0, locals := 43 } s m args below meth c xL Z (XQ xL Z r S') S 0 3 [(0, .ref (Z.2.1 1)), (1, .int x1), (2, .int x2)] [] := by
  obtain ⟨hx, hb, -, -, -, -, -, -, -, hQ⟩ := id E
  intro S x1 x2 h H locs ls X hl
  unfold fX6_isShaded at h
  refine lv_aload_n hx hb dX6_isShaded_0 rfl (lv_at hl 0 rfl) ?_
  refine lv_iload_n hx hb dX6_isShaded_1 rfl (lv_at hl 1 rfl) ?_
  obtain ⟨r_1, S_2, hr_1, h⟩ := bnd_s h
  refine x_callV E X cwX6_85 (mX6_isPilgrim l Z hQ  x1 hr_1) rfl rfl rfl rfl hl.1 rfl dX6_isShaded_2 (fun H locs X => ?_)
  refine lv_if_ne (tgt := 10) hx hb dX6_isShaded_5 (by decide) (fun c_3 => ?_) (fun c_3 => ?_)
  · have h := if_f c_3 h
    refine lv_aload_n hx hb dX6_isShaded_10 rfl (lv_at hl 0 rfl) ?_
    refine lv_iload_n hx hb dX6_isShaded_11 rfl (lv_at hl 1 rfl) ?_
    refine lv_bipush (v := (6 : Int32)) hx hb dX6_isShaded_12 (by decide) ?_
    obtain ⟨r_4, S_5, hr_4, h⟩ := bnd_s h
    refine x_callV E X cwX6_89 (mX6_has l Z hQ  x1 (6 : Int32) hr_4) rfl rfl rfl rfl hl.1 rfl dX6_isShaded_14 (fun H locs X => ?_)
    refine lv_iconst (v := (1 : Int32)) hx hb dX6_isShaded_17 (by decide) ?_
    refine lv_icmp_eq (tgt := 35) hx hb dX6_isShaded_18 (by decide) (fun c_6 => ?_) (fun c_6 => ?_)
    · have h := if_t c_6 h
      exact wX6_isShaded_35 E   S_5  h _ _ _ X (lv_sub hl [] rfl)
    · have h := if_f c_6 h
      refine lv_iload_n hx hb dX6_isShaded_21 rfl (lv_at hl 2 rfl) ?_
      refine lv_aload_n hx hb dX6_isShaded_22 rfl (lv_at hl 0 rfl) ?_
      refine lv_iload_n hx hb dX6_isShaded_23 rfl (lv_at hl 1 rfl) ?_
      refine lv_iconst (v := (0 : Int32)) hx hb dX6_isShaded_24 (by decide) ?_
      obtain ⟨r_7, S_8, hr_7, h⟩ := bnd_s h
      refine x_callV E X cwX6_89 (mX6_has l Z hQ  x1 (0 : Int32) hr_7) rfl rfl rfl rfl hl.1 rfl dX6_isShaded_25 (fun H locs X => ?_)
      refine lv_ishr hx hb dX6_isShaded_28 ?_
      refine lv_iconst (v := (1 : Int32)) hx hb dX6_isShaded_29 (by decide) ?_
      refine lv_iand hx hb dX6_isShaded_30 ?_
      refine lv_iconst (v := (1 : Int32)) hx hb dX6_isShaded_31 (by decide) ?_
      refine lv_icmp_ne (tgt := 39) hx hb dX6_isShaded_32 (by decide) (fun c_9 => ?_) (fun c_9 => ?_)
      · have h := if_f c_9 h
        refine lv_iconst (v := (0 : Int32)) hx hb dX6_isShaded_39 (by decide) ?_
        exact x_zret E X rfl h dX6_isShaded_40
      · have h := if_t c_9 h
        exact wX6_isShaded_35 E   S_8  h _ _ _ X (lv_sub hl [] rfl)
  · have h := if_t c_3 h
    refine lv_iconst (v := (0 : Int32)) hx hb dX6_isShaded_8 (by decide) ?_
    exact x_zret E X rfl h dX6_isShaded_9
/-- SevenToAShadow$World.isShaded(II)Z -/
theorem mX6_isShaded (l : Launch) (Z : XG) (hQ : wQ (List.length xL) Z) {S S' : Mem} {r : Int32} (x1 x2 : Int32) (h : fX6_isShaded S x1 x2 = some (r, S')) : XM l yX6_isShaded cX6_isShaded 3 (some .boolean) { frames := 2, cells := 0, slots := 0, locals := 43 } xL Z [.ref (Z.2.1 1), .int x1, .int x2] S (XQ xL Z r S') := by
  refine XM.of (own := RX6) (by decide +kernel) rfl rfl hQ (fun p e s m args below meth c E ls hl X => ?_)
  exact wX6_isShaded E S x1 x2 h _ _ _ X hl
def fX0_write (S : Mem) (x1 x2 x3 x4 : Int32) : O := (if (S 6 1) < (200 : Int32) then lti ((S 6 1) * (4 : Int32)) fun x5_2 => gd (inB x5_2 800) <| ltm (mset S 7 (x5_2).toNatClampNeg x1) fun S_4 => gd (inB (x5_2 + (1 : Int32)) 800) <| ltm (mset S_4 7 ((x5_2 + (1 : Int32))).toNatClampNeg x2) fun S_6 => gd (inB (x5_2 + (2 : Int32)) 800) <| ltm (mset S_6 7 ((x5_2 + (2 : Int32))).toNatClampNeg x3) fun S_8 => gd (inB (x5_2 + (3 : Int32)) 800) <| ltm (mset S_8 7 ((x5_2 + (3 : Int32))).toNatClampNeg x4) fun S_10 => ltm (mset S_10 6 1 ((S_10 6 1) + (1 : Int32))) fun S_11 => some ((0 : Int32), S_11) else some ((0 : Int32), S))
theorem dX0_write_0 : decode cX0_write 0 = .ok (.aload_n 0, 1) := by decide +kernel
theorem dX0_write_1 : decode cX0_write 1 = .ok (.getfield 15, 3) := by decide +kernel
theorem dX0_write_4 : decode cX0_write 4 = .ok (.sipush 200, 3) := by decide +kernel
theorem dX0_write_7 : decode cX0_write 7 = .ok (.if_icmp .lt 4, 3) := by decide +kernel
theorem dX0_write_10 : decode cX0_write 10 = .ok (.return_, 1) := by decide +kernel
theorem dX0_write_11 : decode cX0_write 11 = .ok (.aload_n 0, 1) := by decide +kernel
theorem dX0_write_12 : decode cX0_write 12 = .ok (.getfield 15, 3) := by decide +kernel
theorem dX0_write_15 : decode cX0_write 15 = .ok (.iconst 4, 1) := by decide +kernel
theorem dX0_write_16 : decode cX0_write 16 = .ok (.imul, 1) := by decide +kernel
theorem dX0_write_17 : decode cX0_write 17 = .ok (.istore 5, 2) := by decide +kernel
theorem dX0_write_19 : decode cX0_write 19 = .ok (.aload_n 0, 1) := by decide +kernel
theorem dX0_write_20 : decode cX0_write 20 = .ok (.getfield 9, 3) := by decide +kernel
theorem dX0_write_23 : decode cX0_write 23 = .ok (.iload 5, 2) := by decide +kernel
theorem dX0_write_25 : decode cX0_write 25 = .ok (.iload_n 1, 1) := by decide +kernel
theorem dX0_write_26 : decode cX0_write 26 = .ok (.iastore, 1) := by decide +kernel
theorem dX0_write_27 : decode cX0_write 27 = .ok (.aload_n 0, 1) := by decide +kernel
theorem dX0_write_28 : decode cX0_write 28 = .ok (.getfield 9, 3) := by decide +kernel
theorem dX0_write_31 : decode cX0_write 31 = .ok (.iload 5, 2) := by decide +kernel
theorem dX0_write_33 : decode cX0_write 33 = .ok (.iconst 1, 1) := by decide +kernel
theorem dX0_write_34 : decode cX0_write 34 = .ok (.iadd, 1) := by decide +kernel
theorem dX0_write_35 : decode cX0_write 35 = .ok (.iload_n 2, 1) := by decide +kernel
theorem dX0_write_36 : decode cX0_write 36 = .ok (.iastore, 1) := by decide +kernel
theorem dX0_write_37 : decode cX0_write 37 = .ok (.aload_n 0, 1) := by decide +kernel
theorem dX0_write_38 : decode cX0_write 38 = .ok (.getfield 9, 3) := by decide +kernel
theorem dX0_write_41 : decode cX0_write 41 = .ok (.iload 5, 2) := by decide +kernel
theorem dX0_write_43 : decode cX0_write 43 = .ok (.iconst 2, 1) := by decide +kernel
theorem dX0_write_44 : decode cX0_write 44 = .ok (.iadd, 1) := by decide +kernel
theorem dX0_write_45 : decode cX0_write 45 = .ok (.iload_n 3, 1) := by decide +kernel
theorem dX0_write_46 : decode cX0_write 46 = .ok (.iastore, 1) := by decide +kernel
theorem dX0_write_47 : decode cX0_write 47 = .ok (.aload_n 0, 1) := by decide +kernel
theorem dX0_write_48 : decode cX0_write 48 = .ok (.getfield 9, 3) := by decide +kernel
theorem dX0_write_51 : decode cX0_write 51 = .ok (.iload 5, 2) := by decide +kernel
theorem dX0_write_53 : decode cX0_write 53 = .ok (.iconst 3, 1) := by decide +kernel
theorem dX0_write_54 : decode cX0_write 54 = .ok (.iadd, 1) := by decide +kernel
theorem dX0_write_55 : decode cX0_write 55 = .ok (.iload 4, 2) := by decide +kernel
theorem dX0_write_57 : decode cX0_write 57 = .ok (.iastore, 1) := by decide +kernel
theorem dX0_write_58 : decode cX0_write 58 = .ok (.aload_n 0, 1) := by decide +kernel
theorem dX0_write_59 : decode cX0_write 59 = .ok (.dup, 1) := by decide +kernel
theorem dX0_write_60 : decode cX0_write 60 = .ok (.getfield 15, 3) := by decide +kernel
theorem dX0_write_63 : decode cX0_write 63 = .ok (.iconst 1, 1) := by decide +kernel
theorem dX0_write_64 : decode cX0_write 64 = .ok (.iadd, 1) := by decide +kernel
theorem dX0_write_65 : decode cX0_write 65 = .ok (.putfield 15, 3) := by decide +kernel
theorem dX0_write_68 : decode cX0_write 68 = .ok (.return_, 1) := by decide +kernel
set_option maxRecDepth 20000 in
theorem wX0_write {p : Program} {l : Launch} {e : Env} {s : State} {m : MethodId} {args : Array Value} {below : List Frame} {meth : Method} {c : Code} {Z : XG} {r : Int32} {S' : Mem} (E : XE p s m args meth c cX0_write 6 RX0 none xL Z) : ∀ (S : Mem) (x1 x2 x3 x4 : Int32), fX0_write  S x1 x2 x3 x4 = some (r, S') → WN p l e { frames := 0, cells := 0, slots := 0, locals := 0 } s m args below meth c xL Z (XV xL Z S') S 0 6 [(0, .ref (Z.2.1 6)), (1, .int x1), (2, .int x2), (3, .int x3), (4, .int x4)] [] := by
  obtain ⟨hx, hb, -, -, -, -, -, -, -, hQ⟩ := id E
  intro S x1 x2 x3 x4 h H locs ls X hl
  unfold fX0_write at h
  refine lv_aload_n hx hb dX0_write_0 rfl (lv_at hl 0 rfl) ?_
  refine x_get E X ffX0_15 rfl rfl dX0_write_1 ?_
  refine lv_sipush (v := (200 : Int32)) hx hb dX0_write_4 (by decide) ?_
  refine lv_icmp_lt (tgt := 11) hx hb dX0_write_7 (by decide) (fun c_1 => ?_) (fun c_1 => ?_)
  · have h := if_t c_1 h
    refine lv_aload_n hx hb dX0_write_11 rfl (lv_at hl 0 rfl) ?_
    refine x_get E X ffX0_15 rfl rfl dX0_write_12 ?_
    refine lv_iconst (v := (4 : Int32)) hx hb dX0_write_15 (by decide) ?_
    refine lv_imul hx hb dX0_write_16 ?_
    obtain ⟨x5_2, ex5_2, h⟩ := lti_s h
    refine lv_nm ex5_2 ?_
    refine lv_istore (lv' := [(5, .int x5_2), (0, .ref (Z.2.1 6)), (1, .int x1), (2, .int x2), (3, .int x3), (4, .int x4)]) hx hb dX0_write_17 hl (by decide) rfl (fun ls hl => ?_)
    refine lv_aload_n hx hb dX0_write_19 rfl (lv_at hl 1 rfl) ?_
    refine x_getr E X ffX0_9 rfl rfl dX0_write_20 ?_
    refine lv_iload hx hb dX0_write_23 (lv_at hl 0 rfl) ?_
    refine lv_iload_n hx hb dX0_write_25 rfl (lv_at hl 2 rfl) ?_
    obtain ⟨g_3, h⟩ := gd_s h
    obtain ⟨S_4, eS_4, h⟩ := ltm_s h
    refine x_iast E X rfl g_3 dX0_write_26 (fun H locs X => ?_)
    rw [← eS_4] at X
    refine lv_aload_n hx hb dX0_write_27 rfl (lv_at hl 1 rfl) ?_
    refine x_getr E X ffX0_9 rfl rfl dX0_write_28 ?_
    refine lv_iload hx hb dX0_write_31 (lv_at hl 0 rfl) ?_
    refine lv_iconst (v := (1 : Int32)) hx hb dX0_write_33 (by decide) ?_
    refine lv_iadd hx hb dX0_write_34 ?_
    refine lv_iload_n hx hb dX0_write_35 rfl (lv_at hl 3 rfl) ?_
    obtain ⟨g_5, h⟩ := gd_s h
    obtain ⟨S_6, eS_6, h⟩ := ltm_s h
    refine x_iast E X rfl g_5 dX0_write_36 (fun H locs X => ?_)
    rw [← eS_6] at X
    refine lv_aload_n hx hb dX0_write_37 rfl (lv_at hl 1 rfl) ?_
    refine x_getr E X ffX0_9 rfl rfl dX0_write_38 ?_
    refine lv_iload hx hb dX0_write_41 (lv_at hl 0 rfl) ?_
    refine lv_iconst (v := (2 : Int32)) hx hb dX0_write_43 (by decide) ?_
    refine lv_iadd hx hb dX0_write_44 ?_
    refine lv_iload_n hx hb dX0_write_45 rfl (lv_at hl 4 rfl) ?_
    obtain ⟨g_7, h⟩ := gd_s h
    obtain ⟨S_8, eS_8, h⟩ := ltm_s h
    refine x_iast E X rfl g_7 dX0_write_46 (fun H locs X => ?_)
    rw [← eS_8] at X
    refine lv_aload_n hx hb dX0_write_47 rfl (lv_at hl 1 rfl) ?_
    refine x_getr E X ffX0_9 rfl rfl dX0_write_48 ?_
    refine lv_iload hx hb dX0_write_51 (lv_at hl 0 rfl) ?_
    refine lv_iconst (v := (3 : Int32)) hx hb dX0_write_53 (by decide) ?_
    refine lv_iadd hx hb dX0_write_54 ?_
    refine lv_iload hx hb dX0_write_55 (lv_at hl 5 rfl) ?_
    obtain ⟨g_9, h⟩ := gd_s h
    obtain ⟨S_10, eS_10, h⟩ := ltm_s h
    refine x_iast E X rfl g_9 dX0_write_57 (fun H locs X => ?_)
    rw [← eS_10] at X
    refine lv_aload_n hx hb dX0_write_58 rfl (lv_at hl 1 rfl) ?_
    refine lv_dup hx hb dX0_write_59 rfl ?_
    refine x_get E X ffX0_15 rfl rfl dX0_write_60 ?_
    refine lv_iconst (v := (1 : Int32)) hx hb dX0_write_63 (by decide) ?_
    refine lv_iadd hx hb dX0_write_64 ?_
    obtain ⟨S_11, eS_11, h⟩ := ltm_s h
    refine x_put E X fpX0_15 rfl rfl dX0_write_65 (fun H locs X => ?_)
    rw [← eS_11] at X
    exact x_vret E X h dX0_write_68
  · have h := if_f c_1 h
    exact x_vret E X h dX0_write_10
/-- SevenToAShadow$Book.write(IIII)V -/
theorem mX0_write (l : Launch) (Z : XG) (hQ : wQ (List.length xL) Z) {S S' : Mem} {r : Int32} (x1 x2 x3 x4 : Int32) (h : fX0_write S x1 x2 x3 x4 = some (r, S')) : XM l yX0_write cX0_write 6 none { frames := 0, cells := 0, slots := 0, locals := 0 } xL Z [.ref (Z.2.1 6), .int x1, .int x2, .int x3, .int x4] S (XV xL Z S') := by
  refine XM.of (own := RX0) (by decide +kernel) rfl rfl hQ (fun p e s m args below meth c E ls hl X => ?_)
  exact wX0_write E S x1 x2 x3 x4 h _ _ _ X hl
def fX1_burnAll_127 (k0 : Mem → Int32 → Int32 → Int32 → Int32 → Int32 → O) (S : Mem) (x1 x2 x3 x4 x5 : Int32) : O := k0 S x1 x2 x3 x4 (x5 + (1 : Int32))
def fX1_burnAll_66 (k0 : Mem → Int32 → Int32 → Int32 → Int32 → Int32 → O) (S : Mem) (x1 x2 x3 x4 x5 s0 : Int32) : O := (if s0 ≤ 0 then fX1_burnAll_127 k0 S x1 x2 x3 x4 x5 else bnd (fX6_has S x5 (7 : Int32)) fun r_2 S_3 => bnd (fX6_put S_3 x5 (7 : Int32) (r_2 + s0)) fun _ S_5 => bnd (fX0_write S_5 x5 (S_5 1 7) x1 s0) fun _ S_7 => lti (x4 + s0) fun x4_8 => fX1_burnAll_127 k0 S_7 x1 x2 x3 x4_8 x5)
def fX1_burnAll_25_b (k0 : Mem → Int32 → Int32 → Int32 → Int32 → Int32 → O) (S : Mem) (x1 x2 x3 x4 x5 : Int32) : O := (if (S 1 9) ≤ x5 then some (x4, S) else bnd (fX6_isShaded S x5 x3) fun r_2 S_3 => (if r_2 = 0 then bnd (fX6_has S_3 x5 (3 : Int32)) fun r_5 S_6 => fX1_burnAll_66 k0 S_6 x1 x2 x3 x4 x5 (x2 * r_5) else fX1_burnAll_66 k0 S_3 x1 x2 x3 x4 x5 (0 : Int32)))
def fX1_burnAll_25 : Nat → Mem → Int32 → Int32 → Int32 → Int32 → Int32 → O
  | 0 => fun _ _ _ _ _ _ => none
  | n + 1 => fX1_burnAll_25_b (fX1_burnAll_25 n)
def fX1_burnAll (S : Mem) (x1 x2 : Int32) : O := bnd (fX6_inHour S x1 (3 : Int32)) fun r_1 S_2 => bnd (fX6_shadeIn S_2 x1 r_1 (-1 : Int32)) fun r_3 S_4 => fX1_burnAll_25  FU S_4 x1 x2 r_3 (0 : Int32) (0 : Int32)
theorem dX1_burnAll_0 : decode cX1_burnAll 0 = .ok (.aload_n 0, 1) := by decide +kernel
theorem dX1_burnAll_1 : decode cX1_burnAll 1 = .ok (.getfield 15, 3) := by decide +kernel
theorem dX1_burnAll_4 : decode cX1_burnAll 4 = .ok (.iload_n 1, 1) := by decide +kernel
theorem dX1_burnAll_5 : decode cX1_burnAll 5 = .ok (.aload_n 0, 1) := by decide +kernel
theorem dX1_burnAll_6 : decode cX1_burnAll 6 = .ok (.getfield 15, 3) := by decide +kernel
theorem dX1_burnAll_9 : decode cX1_burnAll 9 = .ok (.iload_n 1, 1) := by decide +kernel
theorem dX1_burnAll_10 : decode cX1_burnAll 10 = .ok (.iconst 3, 1) := by decide +kernel
theorem dX1_burnAll_11 : decode cX1_burnAll 11 = .ok (.invokevirtual 47, 3) := by decide +kernel
theorem dX1_burnAll_14 : decode cX1_burnAll 14 = .ok (.iconst (-1), 1) := by decide +kernel
theorem dX1_burnAll_15 : decode cX1_burnAll 15 = .ok (.invokevirtual 53, 3) := by decide +kernel
theorem dX1_burnAll_18 : decode cX1_burnAll 18 = .ok (.istore_n 3, 1) := by decide +kernel
theorem dX1_burnAll_19 : decode cX1_burnAll 19 = .ok (.iconst 0, 1) := by decide +kernel
theorem dX1_burnAll_20 : decode cX1_burnAll 20 = .ok (.istore 4, 2) := by decide +kernel
theorem dX1_burnAll_22 : decode cX1_burnAll 22 = .ok (.iconst 0, 1) := by decide +kernel
theorem dX1_burnAll_23 : decode cX1_burnAll 23 = .ok (.istore 5, 2) := by decide +kernel
theorem dX1_burnAll_25 : decode cX1_burnAll 25 = .ok (.iload 5, 2) := by decide +kernel
theorem dX1_burnAll_27 : decode cX1_burnAll 27 = .ok (.aload_n 0, 1) := by decide +kernel
theorem dX1_burnAll_28 : decode cX1_burnAll 28 = .ok (.getfield 15, 3) := by decide +kernel
theorem dX1_burnAll_31 : decode cX1_burnAll 31 = .ok (.getfield 29, 3) := by decide +kernel
theorem dX1_burnAll_34 : decode cX1_burnAll 34 = .ok (.if_icmp .ge 99, 3) := by decide +kernel
theorem dX1_burnAll_37 : decode cX1_burnAll 37 = .ok (.aload_n 0, 1) := by decide +kernel
theorem dX1_burnAll_38 : decode cX1_burnAll 38 = .ok (.getfield 15, 3) := by decide +kernel
theorem dX1_burnAll_41 : decode cX1_burnAll 41 = .ok (.iload 5, 2) := by decide +kernel
theorem dX1_burnAll_43 : decode cX1_burnAll 43 = .ok (.iload_n 3, 1) := by decide +kernel
theorem dX1_burnAll_44 : decode cX1_burnAll 44 = .ok (.invokevirtual 57, 3) := by decide +kernel
theorem dX1_burnAll_47 : decode cX1_burnAll 47 = .ok (.ifCond .eq 7, 3) := by decide +kernel
theorem dX1_burnAll_50 : decode cX1_burnAll 50 = .ok (.iconst 0, 1) := by decide +kernel
theorem dX1_burnAll_51 : decode cX1_burnAll 51 = .ok (.goto 15, 3) := by decide +kernel
theorem dX1_burnAll_54 : decode cX1_burnAll 54 = .ok (.iload_n 2, 1) := by decide +kernel
theorem dX1_burnAll_55 : decode cX1_burnAll 55 = .ok (.aload_n 0, 1) := by decide +kernel
theorem dX1_burnAll_56 : decode cX1_burnAll 56 = .ok (.getfield 15, 3) := by decide +kernel
theorem dX1_burnAll_59 : decode cX1_burnAll 59 = .ok (.iload 5, 2) := by decide +kernel
theorem dX1_burnAll_61 : decode cX1_burnAll 61 = .ok (.iconst 3, 1) := by decide +kernel
theorem dX1_burnAll_62 : decode cX1_burnAll 62 = .ok (.invokevirtual 86, 3) := by decide +kernel
theorem dX1_burnAll_65 : decode cX1_burnAll 65 = .ok (.imul, 1) := by decide +kernel
theorem dX1_burnAll_66 : decode cX1_burnAll 66 = .ok (.istore 6, 2) := by decide +kernel
theorem dX1_burnAll_68 : decode cX1_burnAll 68 = .ok (.iload 6, 2) := by decide +kernel
theorem dX1_burnAll_70 : decode cX1_burnAll 70 = .ok (.ifCond .le 57, 3) := by decide +kernel
theorem dX1_burnAll_73 : decode cX1_burnAll 73 = .ok (.aload_n 0, 1) := by decide +kernel
theorem dX1_burnAll_74 : decode cX1_burnAll 74 = .ok (.getfield 15, 3) := by decide +kernel
theorem dX1_burnAll_77 : decode cX1_burnAll 77 = .ok (.iload 5, 2) := by decide +kernel
theorem dX1_burnAll_79 : decode cX1_burnAll 79 = .ok (.bipush 7, 2) := by decide +kernel
theorem dX1_burnAll_81 : decode cX1_burnAll 81 = .ok (.aload_n 0, 1) := by decide +kernel
theorem dX1_burnAll_82 : decode cX1_burnAll 82 = .ok (.getfield 15, 3) := by decide +kernel
theorem dX1_burnAll_85 : decode cX1_burnAll 85 = .ok (.iload 5, 2) := by decide +kernel
theorem dX1_burnAll_87 : decode cX1_burnAll 87 = .ok (.bipush 7, 2) := by decide +kernel
theorem dX1_burnAll_89 : decode cX1_burnAll 89 = .ok (.invokevirtual 86, 3) := by decide +kernel
theorem dX1_burnAll_92 : decode cX1_burnAll 92 = .ok (.iload 6, 2) := by decide +kernel
theorem dX1_burnAll_94 : decode cX1_burnAll 94 = .ok (.iadd, 1) := by decide +kernel
theorem dX1_burnAll_95 : decode cX1_burnAll 95 = .ok (.invokevirtual 95, 3) := by decide +kernel
theorem dX1_burnAll_98 : decode cX1_burnAll 98 = .ok (.aload_n 0, 1) := by decide +kernel
theorem dX1_burnAll_99 : decode cX1_burnAll 99 = .ok (.getfield 15, 3) := by decide +kernel
theorem dX1_burnAll_102 : decode cX1_burnAll 102 = .ok (.getfield 110, 3) := by decide +kernel
theorem dX1_burnAll_105 : decode cX1_burnAll 105 = .ok (.iload 5, 2) := by decide +kernel
theorem dX1_burnAll_107 : decode cX1_burnAll 107 = .ok (.aload_n 0, 1) := by decide +kernel
theorem dX1_burnAll_108 : decode cX1_burnAll 108 = .ok (.getfield 15, 3) := by decide +kernel
theorem dX1_burnAll_111 : decode cX1_burnAll 111 = .ok (.getfield 114, 3) := by decide +kernel
theorem dX1_burnAll_114 : decode cX1_burnAll 114 = .ok (.iload_n 1, 1) := by decide +kernel
theorem dX1_burnAll_115 : decode cX1_burnAll 115 = .ok (.iload 6, 2) := by decide +kernel
theorem dX1_burnAll_117 : decode cX1_burnAll 117 = .ok (.invokevirtual 117, 3) := by decide +kernel
theorem dX1_burnAll_120 : decode cX1_burnAll 120 = .ok (.iload 4, 2) := by decide +kernel
theorem dX1_burnAll_122 : decode cX1_burnAll 122 = .ok (.iload 6, 2) := by decide +kernel
theorem dX1_burnAll_124 : decode cX1_burnAll 124 = .ok (.iadd, 1) := by decide +kernel
theorem dX1_burnAll_125 : decode cX1_burnAll 125 = .ok (.istore 4, 2) := by decide +kernel
theorem dX1_burnAll_127 : decode cX1_burnAll 127 = .ok (.iinc 5 1, 3) := by decide +kernel
theorem dX1_burnAll_130 : decode cX1_burnAll 130 = .ok (.goto (-105), 3) := by decide +kernel
theorem dX1_burnAll_133 : decode cX1_burnAll 133 = .ok (.iload 4, 2) := by decide +kernel
theorem dX1_burnAll_135 : decode cX1_burnAll 135 = .ok (.ireturn, 1) := by decide +kernel
set_option maxRecDepth 20000 in
theorem wX1_burnAll_127 {p : Program} {l : Launch} {e : Env} {s : State} {m : MethodId} {args : Array Value} {below : List Frame} {meth : Method} {c : Code} {Z : XG} {r : Int32} {S' : Mem} (E : XE p s m args meth c cX1_burnAll 7 RX1 (some .int) xL Z) (k0 : Mem → Int32 → Int32 → Int32 → Int32 → Int32 → O)  (hk0 : ∀ (S : Mem) (x1 x2 x3 x4 x5 : Int32), k0 S x1 x2 x3 x4 x5 = some (r, S') → WN p l e { frames := 4, cells := 0, slots := 0, locals := 99 } s m args below meth c xL Z (XQ xL Z r S') S 25 7 [(0, .ref (Z.2.1 30)), (1, .int x1), (2, .int x2), (3, .int x3), (4, .int x4), (5, .int x5)] []) : ∀ (S : Mem) (x1 x2 x3 x4 x5 : Int32), fX1_burnAll_127 k0 S x1 x2 x3 x4 x5 = some (r, S') → WN p l e { frames := 4, cells := 0, slots := 0, locals := 99 } s m args below meth c xL Z (XQ xL Z r S') S 127 7 [(0, .ref (Z.2.1 30)), (1, .int x1), (2, .int x2), (3, .int x3), (4, .int x4), (5, .int x5)] [] := by
  obtain ⟨hx, hb, -, -, -, -, -, -, -, hQ⟩ := id E
  intro S x1 x2 x3 x4 x5 h H locs ls X hl
  unfold fX1_burnAll_127 at h
  refine lv_iinc (v := (x5 + (1 : Int32))) (lv' := [(5, .int (x5 + (1 : Int32))), (0, .ref (Z.2.1 30)), (1, .int x1), (2, .int x2), (3, .int x3), (4, .int x4)]) hx hb dX1_burnAll_127 hl (k := 5) rfl rfl (by decide) rfl (fun ls hl => ?_)
  refine lv_goto (tgt := 25) hx hb dX1_burnAll_130 (by decide) ?_
  exact hk0 S x1 x2 x3 x4 (x5 + (1 : Int32)) h _ _ _ X (lv_sub hl [1, 2, 3, 4, 5, 0] rfl)
set_option maxRecDepth 20000 in
theorem wX1_burnAll_66 {p : Program} {l : Launch} {e : Env} {s : State} {m : MethodId} {args : Array Value} {below : List Frame} {meth : Method} {c : Code} {Z : XG} {r : Int32} {S' : Mem} (E : XE p s m args meth c cX1_burnAll 7 RX1 (some .int) xL Z) (k0 : Mem → Int32 → Int32 → Int32 → Int32 → Int32 → O)  (hk0 : ∀ (S : Mem) (x1 x2 x3 x4 x5 : Int32), k0 S x1 x2 x3 x4 x5 = some (r, S') → WN p l e { frames := 4, cells := 0, slots := 0, locals := 99 } s m args below meth c xL Z (XQ xL Z r S') S 25 7 [(0, .ref (Z.2.1 30)), (1, .int x1), (2, .int x2), (3, .int x3), (4, .int x4), (5, .int x5)] []) : ∀ (S : Mem) (x1 x2 x3 x4 x5 s0 : Int32), fX1_burnAll_66 k0 S x1 x2 x3 x4 x5 s0 = some (r, S') → WN p l e { frames := 4, cells := 0, slots := 0, locals := 99 } s m args below meth c xL Z (XQ xL Z r S') S 66 7 [(0, .ref (Z.2.1 30)), (1, .int x1), (2, .int x2), (3, .int x3), (4, .int x4), (5, .int x5)] [.int s0] := by
  obtain ⟨hx, hb, -, -, -, -, -, -, -, hQ⟩ := id E
  intro S x1 x2 x3 x4 x5 s0 h H locs ls X hl
  unfold fX1_burnAll_66 at h
  refine lv_istore (lv' := [(6, .int s0), (0, .ref (Z.2.1 30)), (1, .int x1), (2, .int x2), (3, .int x3), (4, .int x4), (5, .int x5)]) hx hb dX1_burnAll_66 hl (by decide) rfl (fun ls hl => ?_)
  refine lv_iload hx hb dX1_burnAll_68 (lv_at hl 0 rfl) ?_
  refine lv_if_le (tgt := 127) hx hb dX1_burnAll_70 (by decide) (fun c_1 => ?_) (fun c_1 => ?_)
  · have h := if_t c_1 h
    exact wX1_burnAll_127 E k0 hk0 S x1 x2 x3 x4 x5 h _ _ _ X (lv_sub hl [1, 2, 3, 4, 5, 6] rfl)
  · have h := if_f c_1 h
    refine lv_aload_n hx hb dX1_burnAll_73 rfl (lv_at hl 1 rfl) ?_
    refine x_getr E X ffX1_15 rfl rfl dX1_burnAll_74 ?_
    refine lv_iload hx hb dX1_burnAll_77 (lv_at hl 6 rfl) ?_
    refine lv_bipush (v := (7 : Int32)) hx hb dX1_burnAll_79 (by decide) ?_
    refine lv_aload_n hx hb dX1_burnAll_81 rfl (lv_at hl 1 rfl) ?_
    refine x_getr E X ffX1_15 rfl rfl dX1_burnAll_82 ?_
    refine lv_iload hx hb dX1_burnAll_85 (lv_at hl 6 rfl) ?_
    refine lv_bipush (v := (7 : Int32)) hx hb dX1_burnAll_87 (by decide) ?_
    obtain ⟨r_2, S_3, hr_2, h⟩ := bnd_s h
    refine x_callV E X cwX1_86 (mX6_has l Z hQ  x5 (7 : Int32) hr_2) rfl rfl rfl rfl hl.1 rfl dX1_burnAll_89 (fun H locs X => ?_)
    refine lv_iload hx hb dX1_burnAll_92 (lv_at hl 0 rfl) ?_
    refine lv_iadd hx hb dX1_burnAll_94 ?_
    obtain ⟨r_4, S_5, hr_4, h⟩ := bnd_s h
    refine x_callVv E X cwX1_95 (mX6_put l Z hQ  x5 (7 : Int32) (r_2 + s0) hr_4) rfl rfl rfl rfl hl.1 rfl dX1_burnAll_95 (fun H locs X => ?_)
    refine lv_aload_n hx hb dX1_burnAll_98 rfl (lv_at hl 1 rfl) ?_
    refine x_getr E X ffX1_15 rfl rfl dX1_burnAll_99 ?_
    refine x_getr E X ffX1_110 rfl rfl dX1_burnAll_102 ?_
    refine lv_iload hx hb dX1_burnAll_105 (lv_at hl 6 rfl) ?_
    refine lv_aload_n hx hb dX1_burnAll_107 rfl (lv_at hl 1 rfl) ?_
    refine x_getr E X ffX1_15 rfl rfl dX1_burnAll_108 ?_
    refine x_get E X ffX1_114 rfl rfl dX1_burnAll_111 ?_
    refine lv_iload_n hx hb dX1_burnAll_114 rfl (lv_at hl 2 rfl) ?_
    refine lv_iload hx hb dX1_burnAll_115 (lv_at hl 0 rfl) ?_
    obtain ⟨r_6, S_7, hr_6, h⟩ := bnd_s h
    refine x_callVv E X cwX1_117 (mX0_write l Z hQ  x5 (S_5 1 7) x1 s0 hr_6) rfl rfl rfl rfl hl.1 rfl dX1_burnAll_117 (fun H locs X => ?_)
    refine lv_iload hx hb dX1_burnAll_120 (lv_at hl 5 rfl) ?_
    refine lv_iload hx hb dX1_burnAll_122 (lv_at hl 0 rfl) ?_
    refine lv_iadd hx hb dX1_burnAll_124 ?_
    obtain ⟨x4_8, ex4_8, h⟩ := lti_s h
    refine lv_nm ex4_8 ?_
    refine lv_istore (lv' := [(4, .int x4_8), (6, .int s0), (0, .ref (Z.2.1 30)), (1, .int x1), (2, .int x2), (3, .int x3), (5, .int x5)]) hx hb dX1_burnAll_125 hl (by decide) rfl (fun ls hl => ?_)
    exact wX1_burnAll_127 E k0 hk0 S_7 x1 x2 x3 x4_8 x5 h _ _ _ X (lv_sub hl [2, 3, 4, 5, 0, 6] rfl)
set_option maxRecDepth 20000 in
theorem wX1_burnAll_25_b {p : Program} {l : Launch} {e : Env} {s : State} {m : MethodId} {args : Array Value} {below : List Frame} {meth : Method} {c : Code} {Z : XG} {r : Int32} {S' : Mem} (E : XE p s m args meth c cX1_burnAll 7 RX1 (some .int) xL Z) (k0 : Mem → Int32 → Int32 → Int32 → Int32 → Int32 → O)  (hk0 : ∀ (S : Mem) (x1 x2 x3 x4 x5 : Int32), k0 S x1 x2 x3 x4 x5 = some (r, S') → WN p l e { frames := 4, cells := 0, slots := 0, locals := 99 } s m args below meth c xL Z (XQ xL Z r S') S 25 7 [(0, .ref (Z.2.1 30)), (1, .int x1), (2, .int x2), (3, .int x3), (4, .int x4), (5, .int x5)] []) : ∀ (S : Mem) (x1 x2 x3 x4 x5 : Int32), fX1_burnAll_25_b k0 S x1 x2 x3 x4 x5 = some (r, S') → WN p l e { frames := 4, cells := 0, slots := 0, locals := 99 } s m args below meth c xL Z (XQ xL Z r S') S 25 7 [(0, .ref (Z.2.1 30)), (1, .int x1), (2, .int x2), (3, .int x3), (4, .int x4), (5, .int x5)] [] := by
  obtain ⟨hx, hb, -, -, -, -, -, -, -, hQ⟩ := id E
  intro S x1 x2 x3 x4 x5 h H locs ls X hl
  unfold fX1_burnAll_25_b at h
  refine lv_iload hx hb dX1_burnAll_25 (lv_at hl 5 rfl) ?_
  refine lv_aload_n hx hb dX1_burnAll_27 rfl (lv_at hl 0 rfl) ?_
  refine x_getr E X ffX1_15 rfl rfl dX1_burnAll_28 ?_
  refine x_get E X ffX1_29 rfl rfl dX1_burnAll_31 ?_
  refine lv_icmp_ge (tgt := 133) hx hb dX1_burnAll_34 (by decide) (fun c_1 => ?_) (fun c_1 => ?_)
  · have h := if_t c_1 h
    refine lv_iload hx hb dX1_burnAll_133 (lv_at hl 4 rfl) ?_
    exact x_iret E X h dX1_burnAll_135
  · have h := if_f c_1 h
    refine lv_aload_n hx hb dX1_burnAll_37 rfl (lv_at hl 0 rfl) ?_
    refine x_getr E X ffX1_15 rfl rfl dX1_burnAll_38 ?_
    refine lv_iload hx hb dX1_burnAll_41 (lv_at hl 5 rfl) ?_
    refine lv_iload_n hx hb dX1_burnAll_43 rfl (lv_at hl 3 rfl) ?_
    obtain ⟨r_2, S_3, hr_2, h⟩ := bnd_s h
    refine x_callV E X cwX1_57 (mX6_isShaded l Z hQ  x5 x3 hr_2) rfl rfl rfl rfl hl.1 rfl dX1_burnAll_44 (fun H locs X => ?_)
    refine lv_if_eq (tgt := 54) hx hb dX1_burnAll_47 (by decide) (fun c_4 => ?_) (fun c_4 => ?_)
    · have h := if_t c_4 h
      refine lv_iload_n hx hb dX1_burnAll_54 rfl (lv_at hl 2 rfl) ?_
      refine lv_aload_n hx hb dX1_burnAll_55 rfl (lv_at hl 0 rfl) ?_
      refine x_getr E X ffX1_15 rfl rfl dX1_burnAll_56 ?_
      refine lv_iload hx hb dX1_burnAll_59 (lv_at hl 5 rfl) ?_
      refine lv_iconst (v := (3 : Int32)) hx hb dX1_burnAll_61 (by decide) ?_
      obtain ⟨r_5, S_6, hr_5, h⟩ := bnd_s h
      refine x_callV E X cwX1_86 (mX6_has l Z hQ  x5 (3 : Int32) hr_5) rfl rfl rfl rfl hl.1 rfl dX1_burnAll_62 (fun H locs X => ?_)
      refine lv_imul hx hb dX1_burnAll_65 ?_
      exact wX1_burnAll_66 E k0 hk0 S_6 x1 x2 x3 x4 x5 (x2 * r_5) h _ _ _ X hl
    · have h := if_f c_4 h
      refine lv_iconst (v := (0 : Int32)) hx hb dX1_burnAll_50 (by decide) ?_
      refine lv_goto (tgt := 66) hx hb dX1_burnAll_51 (by decide) ?_
      exact wX1_burnAll_66 E k0 hk0 S_3 x1 x2 x3 x4 x5 (0 : Int32) h _ _ _ X hl
theorem wX1_burnAll_25 {p : Program} {l : Launch} {e : Env} {s : State} {m : MethodId} {args : Array Value} {below : List Frame} {meth : Method} {c : Code} {Z : XG} {r : Int32} {S' : Mem} (E : XE p s m args meth c cX1_burnAll 7 RX1 (some .int) xL Z) : ∀ (n : Nat) (S : Mem) (x1 x2 x3 x4 x5 : Int32), fX1_burnAll_25 n S x1 x2 x3 x4 x5 = some (r, S') → WN p l e { frames := 4, cells := 0, slots := 0, locals := 99 } s m args below meth c xL Z (XQ xL Z r S') S 25 7 [(0, .ref (Z.2.1 30)), (1, .int x1), (2, .int x2), (3, .int x3), (4, .int x4), (5, .int x5)] [] := by
  intro n
  induction n with
  | zero => intro S x1 x2 x3 x4 x5 h; exact absurd (show (none : O) = some _ from h) (by simp)
  | succ n ih => intro S x1 x2 x3 x4 x5 h; exact wX1_burnAll_25_b E (fX1_burnAll_25 n) ih S x1 x2 x3 x4 x5 h
set_option maxRecDepth 20000 in
theorem wX1_burnAll {p : Program} {l : Launch} {e : Env} {s : State} {m : MethodId} {args : Array Value} {below : List Frame} {meth : Method} {c : Code} {Z : XG} {r : Int32} {S' : Mem} (E : XE p s m args meth c cX1_burnAll 7 RX1 (some .int) xL Z) : ∀ (S : Mem) (x1 x2 : Int32), fX1_burnAll  S x1 x2 = some (r, S') → WN p l e { frames := 4, cells := 0, slots := 0, locals := 99 } s m args below meth c xL Z (XQ xL Z r S') S 0 7 [(0, .ref (Z.2.1 30)), (1, .int x1), (2, .int x2)] [] := by
  obtain ⟨hx, hb, -, -, -, -, -, -, -, hQ⟩ := id E
  intro S x1 x2 h H locs ls X hl
  unfold fX1_burnAll at h
  refine lv_aload_n hx hb dX1_burnAll_0 rfl (lv_at hl 0 rfl) ?_
  refine x_getr E X ffX1_15 rfl rfl dX1_burnAll_1 ?_
  refine lv_iload_n hx hb dX1_burnAll_4 rfl (lv_at hl 1 rfl) ?_
  refine lv_aload_n hx hb dX1_burnAll_5 rfl (lv_at hl 0 rfl) ?_
  refine x_getr E X ffX1_15 rfl rfl dX1_burnAll_6 ?_
  refine lv_iload_n hx hb dX1_burnAll_9 rfl (lv_at hl 1 rfl) ?_
  refine lv_iconst (v := (3 : Int32)) hx hb dX1_burnAll_10 (by decide) ?_
  obtain ⟨r_1, S_2, hr_1, h⟩ := bnd_s h
  refine x_callV E X cwX1_47 (mX6_inHour l Z hQ  x1 (3 : Int32) hr_1) rfl rfl rfl rfl hl.1 rfl dX1_burnAll_11 (fun H locs X => ?_)
  refine lv_iconst (v := (-1 : Int32)) hx hb dX1_burnAll_14 (by decide) ?_
  obtain ⟨r_3, S_4, hr_3, h⟩ := bnd_s h
  refine x_callV E X cwX1_53 (mX6_shadeIn l Z hQ  x1 r_1 (-1 : Int32) hr_3) rfl rfl rfl rfl hl.1 rfl dX1_burnAll_15 (fun H locs X => ?_)
  refine lv_istore_n (lv' := [(3, .int r_3), (0, .ref (Z.2.1 30)), (1, .int x1), (2, .int x2)]) hx hb dX1_burnAll_18 rfl hl (by decide) rfl (fun ls hl => ?_)
  refine lv_iconst (v := (0 : Int32)) hx hb dX1_burnAll_19 (by decide) ?_
  refine lv_istore (lv' := [(4, .int (0 : Int32)), (3, .int r_3), (0, .ref (Z.2.1 30)), (1, .int x1), (2, .int x2)]) hx hb dX1_burnAll_20 hl (by decide) rfl (fun ls hl => ?_)
  refine lv_iconst (v := (0 : Int32)) hx hb dX1_burnAll_22 (by decide) ?_
  refine lv_istore (lv' := [(5, .int (0 : Int32)), (4, .int (0 : Int32)), (3, .int r_3), (0, .ref (Z.2.1 30)), (1, .int x1), (2, .int x2)]) hx hb dX1_burnAll_23 hl (by decide) rfl (fun ls hl => ?_)
  exact wX1_burnAll_25 E   FU S_4 x1 x2 r_3 (0 : Int32) (0 : Int32) h _ _ _ X (lv_sub hl [3, 4, 5, 2, 1, 0] rfl)
/-- SevenToAShadow$March.burnAll(II)I -/
theorem mX1_burnAll (l : Launch) (Z : XG) (hQ : wQ (List.length xL) Z) {S S' : Mem} {r : Int32} (x1 x2 : Int32) (h : fX1_burnAll S x1 x2 = some (r, S')) : XM l yX1_burnAll cX1_burnAll 7 (some .int) { frames := 4, cells := 0, slots := 0, locals := 99 } xL Z [.ref (Z.2.1 30), .int x1, .int x2] S (XQ xL Z r S') := by
  refine XM.of (own := RX1) (by decide +kernel) rfl rfl hQ (fun p e s m args below meth c E ls hl X => ?_)
  exact wX1_burnAll E S x1 x2 h _ _ _ X hl
def fX6_doQuarrel (S : Mem) (x1 x2 : Int32) : O := bnd (fX6_isPilgrim S x1) fun r_1 S_2 => (if r_1 = 0 then some ((0 : Int32), S_2) else bnd (fX6_isPilgrim S_2 x2) fun r_4 S_5 => (if r_4 = 0 then some ((0 : Int32), S_5) else gd (inB x1 10) <| (if (((S_5 4 (x1).toNatClampNeg) >>> (x2 &&& 31)) &&& (1 : Int32)) = (1 : Int32) then some ((1 : Int32), S_5) else some ((0 : Int32), S_5))))
theorem dX6_doQuarrel_0 : decode cX6_doQuarrel 0 = .ok (.aload_n 0, 1) := by decide +kernel
theorem dX6_doQuarrel_1 : decode cX6_doQuarrel 1 = .ok (.iload_n 1, 1) := by decide +kernel
theorem dX6_doQuarrel_2 : decode cX6_doQuarrel 2 = .ok (.invokevirtual 85, 3) := by decide +kernel
theorem dX6_doQuarrel_5 : decode cX6_doQuarrel 5 = .ok (.ifCond .eq 29, 3) := by decide +kernel
theorem dX6_doQuarrel_8 : decode cX6_doQuarrel 8 = .ok (.aload_n 0, 1) := by decide +kernel
theorem dX6_doQuarrel_9 : decode cX6_doQuarrel 9 = .ok (.iload_n 2, 1) := by decide +kernel
theorem dX6_doQuarrel_10 : decode cX6_doQuarrel 10 = .ok (.invokevirtual 85, 3) := by decide +kernel
theorem dX6_doQuarrel_13 : decode cX6_doQuarrel 13 = .ok (.ifCond .eq 21, 3) := by decide +kernel
theorem dX6_doQuarrel_16 : decode cX6_doQuarrel 16 = .ok (.aload_n 0, 1) := by decide +kernel
theorem dX6_doQuarrel_17 : decode cX6_doQuarrel 17 = .ok (.getfield 18, 3) := by decide +kernel
theorem dX6_doQuarrel_20 : decode cX6_doQuarrel 20 = .ok (.iload_n 1, 1) := by decide +kernel
theorem dX6_doQuarrel_21 : decode cX6_doQuarrel 21 = .ok (.iaload, 1) := by decide +kernel
theorem dX6_doQuarrel_22 : decode cX6_doQuarrel 22 = .ok (.iload_n 2, 1) := by decide +kernel
theorem dX6_doQuarrel_23 : decode cX6_doQuarrel 23 = .ok (.ishr, 1) := by decide +kernel
theorem dX6_doQuarrel_24 : decode cX6_doQuarrel 24 = .ok (.iconst 1, 1) := by decide +kernel
theorem dX6_doQuarrel_25 : decode cX6_doQuarrel 25 = .ok (.iand, 1) := by decide +kernel
theorem dX6_doQuarrel_26 : decode cX6_doQuarrel 26 = .ok (.iconst 1, 1) := by decide +kernel
theorem dX6_doQuarrel_27 : decode cX6_doQuarrel 27 = .ok (.if_icmp .ne 7, 3) := by decide +kernel
theorem dX6_doQuarrel_30 : decode cX6_doQuarrel 30 = .ok (.iconst 1, 1) := by decide +kernel
theorem dX6_doQuarrel_31 : decode cX6_doQuarrel 31 = .ok (.goto 4, 3) := by decide +kernel
theorem dX6_doQuarrel_34 : decode cX6_doQuarrel 34 = .ok (.iconst 0, 1) := by decide +kernel
theorem dX6_doQuarrel_35 : decode cX6_doQuarrel 35 = .ok (.ireturn, 1) := by decide +kernel
set_option maxRecDepth 20000 in
theorem wX6_doQuarrel {p : Program} {l : Launch} {e : Env} {s : State} {m : MethodId} {args : Array Value} {below : List Frame} {meth : Method} {c : Code} {Z : XG} {r : Int32} {S' : Mem} (E : XE p s m args meth c cX6_doQuarrel 3 RX6 (some .boolean) xL Z) : ∀ (S : Mem) (x1 x2 : Int32), fX6_doQuarrel  S x1 x2 = some (r, S') → WN p l e { frames := 1, cells := 0, slots := 0, locals := 21 } s m args below meth c xL Z (XQ xL Z r S') S 0 3 [(0, .ref (Z.2.1 1)), (1, .int x1), (2, .int x2)] [] := by
  obtain ⟨hx, hb, -, -, -, -, -, -, -, hQ⟩ := id E
  intro S x1 x2 h H locs ls X hl
  unfold fX6_doQuarrel at h
  refine lv_aload_n hx hb dX6_doQuarrel_0 rfl (lv_at hl 0 rfl) ?_
  refine lv_iload_n hx hb dX6_doQuarrel_1 rfl (lv_at hl 1 rfl) ?_
  obtain ⟨r_1, S_2, hr_1, h⟩ := bnd_s h
  refine x_callV E X cwX6_85 (mX6_isPilgrim l Z hQ  x1 hr_1) rfl rfl rfl rfl hl.1 rfl dX6_doQuarrel_2 (fun H locs X => ?_)
  refine lv_if_eq (tgt := 34) hx hb dX6_doQuarrel_5 (by decide) (fun c_3 => ?_) (fun c_3 => ?_)
  · have h := if_t c_3 h
    refine lv_iconst (v := (0 : Int32)) hx hb dX6_doQuarrel_34 (by decide) ?_
    exact x_zret E X rfl h dX6_doQuarrel_35
  · have h := if_f c_3 h
    refine lv_aload_n hx hb dX6_doQuarrel_8 rfl (lv_at hl 0 rfl) ?_
    refine lv_iload_n hx hb dX6_doQuarrel_9 rfl (lv_at hl 2 rfl) ?_
    obtain ⟨r_4, S_5, hr_4, h⟩ := bnd_s h
    refine x_callV E X cwX6_85 (mX6_isPilgrim l Z hQ  x2 hr_4) rfl rfl rfl rfl hl.1 rfl dX6_doQuarrel_10 (fun H locs X => ?_)
    refine lv_if_eq (tgt := 34) hx hb dX6_doQuarrel_13 (by decide) (fun c_6 => ?_) (fun c_6 => ?_)
    · have h := if_t c_6 h
      refine lv_iconst (v := (0 : Int32)) hx hb dX6_doQuarrel_34 (by decide) ?_
      exact x_zret E X rfl h dX6_doQuarrel_35
    · have h := if_f c_6 h
      refine lv_aload_n hx hb dX6_doQuarrel_16 rfl (lv_at hl 0 rfl) ?_
      refine x_getr E X ffX6_18 rfl rfl dX6_doQuarrel_17 ?_
      refine lv_iload_n hx hb dX6_doQuarrel_20 rfl (lv_at hl 1 rfl) ?_
      obtain ⟨g_7, h⟩ := gd_s h
      refine x_iald E X rfl g_7 dX6_doQuarrel_21 ?_
      refine lv_iload_n hx hb dX6_doQuarrel_22 rfl (lv_at hl 2 rfl) ?_
      refine lv_ishr hx hb dX6_doQuarrel_23 ?_
      refine lv_iconst (v := (1 : Int32)) hx hb dX6_doQuarrel_24 (by decide) ?_
      refine lv_iand hx hb dX6_doQuarrel_25 ?_
      refine lv_iconst (v := (1 : Int32)) hx hb dX6_doQuarrel_26 (by decide) ?_
      refine lv_icmp_ne (tgt := 34) hx hb dX6_doQuarrel_27 (by decide) (fun c_8 => ?_) (fun c_8 => ?_)
      · have h := if_f c_8 h
        refine lv_iconst (v := (0 : Int32)) hx hb dX6_doQuarrel_34 (by decide) ?_
        exact x_zret E X rfl h dX6_doQuarrel_35
      · have h := if_t c_8 h
        refine lv_iconst (v := (1 : Int32)) hx hb dX6_doQuarrel_30 (by decide) ?_
        refine lv_goto (tgt := 35) hx hb dX6_doQuarrel_31 (by decide) ?_
        exact x_zret E X rfl h dX6_doQuarrel_35
/-- SevenToAShadow$World.doQuarrel(II)Z -/
theorem mX6_doQuarrel (l : Launch) (Z : XG) (hQ : wQ (List.length xL) Z) {S S' : Mem} {r : Int32} (x1 x2 : Int32) (h : fX6_doQuarrel S x1 x2 = some (r, S')) : XM l yX6_doQuarrel cX6_doQuarrel 3 (some .boolean) { frames := 1, cells := 0, slots := 0, locals := 21 } xL Z [.ref (Z.2.1 1), .int x1, .int x2] S (XQ xL Z r S') := by
  refine XM.of (own := RX6) (by decide +kernel) rfl rfl hQ (fun p e s m args below meth c E ls hl X => ?_)
  exact wX6_doQuarrel E S x1 x2 h _ _ _ X hl
