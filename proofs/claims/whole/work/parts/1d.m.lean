def fX8_ruleFor_129_b (k0 : Mem → Int32 → O) (S : Mem) (x4 : Int32) : O := (if (S 0 22) ≤ x4 then some ((0 : Int32), S) else bnd (fX8_isSo S (0 : Int32) x4) fun r_2 S_3 => (if r_2 = 0 then k0 S_3 (x4 + (1 : Int32)) else gd (inB x4 32) <| some ((S_3 13 (x4).toNatClampNeg), S_3)))
def fX8_ruleFor_129 : Nat → Mem → Int32 → O
  | 0 => fun _ _ => none
  | n + 1 => fX8_ruleFor_129_b (fX8_ruleFor_129 n)
def fX8_ruleFor_40 (S : Mem) (x1 x2 s1 s2 : Int32) : O := gd (inB s1 10) <| ltm (mset S 19 (s1).toNatClampNeg s2) fun S_2 => gd (inB ((15 : Int32) + x1) 55) <| ltm (mset S_2 19 ((3 : Int32)).toNatClampNeg (S_2 1 (((15 : Int32) + x1)).toNatClampNeg)) fun S_4 => gd (inB x1 10) <| ltm (mset S_4 19 ((4 : Int32)).toNatClampNeg (S_4 5 (x1).toNatClampNeg)) fun S_6 => gd (inB x1 10) <| ltm (mset S_6 19 ((5 : Int32)).toNatClampNeg (S_6 7 (x1).toNatClampNeg)) fun S_8 => ltm (mset S_8 19 ((6 : Int32)).toNatClampNeg x2) fun S_9 => gd (inB ((5 : Int32) + x1) 55) <| ltm (mset S_9 19 ((7 : Int32)).toNatClampNeg (S_9 1 (((5 : Int32) + x1)).toNatClampNeg)) fun S_11 => ltm (mset S_11 19 ((8 : Int32)).toNatClampNeg (((S_11 0 10) >>> (x1 &&& 31)) &&& (1 : Int32))) fun S_12 => ltm (mset S_12 19 ((9 : Int32)).toNatClampNeg x1) fun S_13 => fX8_ruleFor_129  FU S_13 (0 : Int32)
def fX8_ruleFor (S : Mem) (x1 x2 x3 : Int32) : O := gd (inB ((25 : Int32) + x1) 55) <| ltm (mset S 19 ((0 : Int32)).toNatClampNeg (S 1 (((25 : Int32) + x1)).toNatClampNeg)) fun S_2 => ltm (mset S_2 19 ((1 : Int32)).toNatClampNeg x3) fun S_3 => bnd (fX8_isShaded S_3 x1) fun r_4 S_5 => (if r_4 = 0 then fX8_ruleFor_40  S_5 x1 x2 (2 : Int32) (0 : Int32) else fX8_ruleFor_40  S_5 x1 x2 (2 : Int32) (1 : Int32))
theorem dX8_ruleFor_0 : decode cX8_ruleFor 0 = .ok (.aload_n 0, 1) := by decide +kernel
theorem dX8_ruleFor_1 : decode cX8_ruleFor 1 = .ok (.getfield 68, 3) := by decide +kernel
theorem dX8_ruleFor_4 : decode cX8_ruleFor 4 = .ok (.iconst 0, 1) := by decide +kernel
theorem dX8_ruleFor_5 : decode cX8_ruleFor 5 = .ok (.aload_n 0, 1) := by decide +kernel
theorem dX8_ruleFor_6 : decode cX8_ruleFor 6 = .ok (.getfield 7, 3) := by decide +kernel
theorem dX8_ruleFor_9 : decode cX8_ruleFor 9 = .ok (.bipush 25, 2) := by decide +kernel
theorem dX8_ruleFor_11 : decode cX8_ruleFor 11 = .ok (.iload_n 1, 1) := by decide +kernel
theorem dX8_ruleFor_12 : decode cX8_ruleFor 12 = .ok (.iadd, 1) := by decide +kernel
theorem dX8_ruleFor_13 : decode cX8_ruleFor 13 = .ok (.iaload, 1) := by decide +kernel
theorem dX8_ruleFor_14 : decode cX8_ruleFor 14 = .ok (.iastore, 1) := by decide +kernel
theorem dX8_ruleFor_15 : decode cX8_ruleFor 15 = .ok (.aload_n 0, 1) := by decide +kernel
theorem dX8_ruleFor_16 : decode cX8_ruleFor 16 = .ok (.getfield 68, 3) := by decide +kernel
theorem dX8_ruleFor_19 : decode cX8_ruleFor 19 = .ok (.iconst 1, 1) := by decide +kernel
theorem dX8_ruleFor_20 : decode cX8_ruleFor 20 = .ok (.iload_n 3, 1) := by decide +kernel
theorem dX8_ruleFor_21 : decode cX8_ruleFor 21 = .ok (.iastore, 1) := by decide +kernel
theorem dX8_ruleFor_22 : decode cX8_ruleFor 22 = .ok (.aload_n 0, 1) := by decide +kernel
theorem dX8_ruleFor_23 : decode cX8_ruleFor 23 = .ok (.getfield 68, 3) := by decide +kernel
theorem dX8_ruleFor_26 : decode cX8_ruleFor 26 = .ok (.iconst 2, 1) := by decide +kernel
theorem dX8_ruleFor_27 : decode cX8_ruleFor 27 = .ok (.aload_n 0, 1) := by decide +kernel
theorem dX8_ruleFor_28 : decode cX8_ruleFor 28 = .ok (.iload_n 1, 1) := by decide +kernel
theorem dX8_ruleFor_29 : decode cX8_ruleFor 29 = .ok (.invokevirtual 260, 3) := by decide +kernel
theorem dX8_ruleFor_32 : decode cX8_ruleFor 32 = .ok (.ifCond .eq 7, 3) := by decide +kernel
theorem dX8_ruleFor_35 : decode cX8_ruleFor 35 = .ok (.iconst 1, 1) := by decide +kernel
theorem dX8_ruleFor_36 : decode cX8_ruleFor 36 = .ok (.goto 4, 3) := by decide +kernel
theorem dX8_ruleFor_39 : decode cX8_ruleFor 39 = .ok (.iconst 0, 1) := by decide +kernel
theorem dX8_ruleFor_40 : decode cX8_ruleFor 40 = .ok (.iastore, 1) := by decide +kernel
theorem dX8_ruleFor_41 : decode cX8_ruleFor 41 = .ok (.aload_n 0, 1) := by decide +kernel
theorem dX8_ruleFor_42 : decode cX8_ruleFor 42 = .ok (.getfield 68, 3) := by decide +kernel
theorem dX8_ruleFor_45 : decode cX8_ruleFor 45 = .ok (.iconst 3, 1) := by decide +kernel
theorem dX8_ruleFor_46 : decode cX8_ruleFor 46 = .ok (.aload_n 0, 1) := by decide +kernel
theorem dX8_ruleFor_47 : decode cX8_ruleFor 47 = .ok (.getfield 7, 3) := by decide +kernel
theorem dX8_ruleFor_50 : decode cX8_ruleFor 50 = .ok (.bipush 15, 2) := by decide +kernel
theorem dX8_ruleFor_52 : decode cX8_ruleFor 52 = .ok (.iload_n 1, 1) := by decide +kernel
theorem dX8_ruleFor_53 : decode cX8_ruleFor 53 = .ok (.iadd, 1) := by decide +kernel
theorem dX8_ruleFor_54 : decode cX8_ruleFor 54 = .ok (.iaload, 1) := by decide +kernel
theorem dX8_ruleFor_55 : decode cX8_ruleFor 55 = .ok (.iastore, 1) := by decide +kernel
theorem dX8_ruleFor_56 : decode cX8_ruleFor 56 = .ok (.aload_n 0, 1) := by decide +kernel
theorem dX8_ruleFor_57 : decode cX8_ruleFor 57 = .ok (.getfield 68, 3) := by decide +kernel
theorem dX8_ruleFor_60 : decode cX8_ruleFor 60 = .ok (.iconst 4, 1) := by decide +kernel
theorem dX8_ruleFor_61 : decode cX8_ruleFor 61 = .ok (.aload_n 0, 1) := by decide +kernel
theorem dX8_ruleFor_62 : decode cX8_ruleFor 62 = .ok (.getfield 22, 3) := by decide +kernel
theorem dX8_ruleFor_65 : decode cX8_ruleFor 65 = .ok (.iload_n 1, 1) := by decide +kernel
theorem dX8_ruleFor_66 : decode cX8_ruleFor 66 = .ok (.iaload, 1) := by decide +kernel
theorem dX8_ruleFor_67 : decode cX8_ruleFor 67 = .ok (.iastore, 1) := by decide +kernel
theorem dX8_ruleFor_68 : decode cX8_ruleFor 68 = .ok (.aload_n 0, 1) := by decide +kernel
theorem dX8_ruleFor_69 : decode cX8_ruleFor 69 = .ok (.getfield 68, 3) := by decide +kernel
theorem dX8_ruleFor_72 : decode cX8_ruleFor 72 = .ok (.iconst 5, 1) := by decide +kernel
theorem dX8_ruleFor_73 : decode cX8_ruleFor 73 = .ok (.aload_n 0, 1) := by decide +kernel
theorem dX8_ruleFor_74 : decode cX8_ruleFor 74 = .ok (.getfield 28, 3) := by decide +kernel
theorem dX8_ruleFor_77 : decode cX8_ruleFor 77 = .ok (.iload_n 1, 1) := by decide +kernel
theorem dX8_ruleFor_78 : decode cX8_ruleFor 78 = .ok (.iaload, 1) := by decide +kernel
theorem dX8_ruleFor_79 : decode cX8_ruleFor 79 = .ok (.iastore, 1) := by decide +kernel
theorem dX8_ruleFor_80 : decode cX8_ruleFor 80 = .ok (.aload_n 0, 1) := by decide +kernel
theorem dX8_ruleFor_81 : decode cX8_ruleFor 81 = .ok (.getfield 68, 3) := by decide +kernel
theorem dX8_ruleFor_84 : decode cX8_ruleFor 84 = .ok (.bipush 6, 2) := by decide +kernel
theorem dX8_ruleFor_86 : decode cX8_ruleFor 86 = .ok (.iload_n 2, 1) := by decide +kernel
theorem dX8_ruleFor_87 : decode cX8_ruleFor 87 = .ok (.iastore, 1) := by decide +kernel
theorem dX8_ruleFor_88 : decode cX8_ruleFor 88 = .ok (.aload_n 0, 1) := by decide +kernel
theorem dX8_ruleFor_89 : decode cX8_ruleFor 89 = .ok (.getfield 68, 3) := by decide +kernel
theorem dX8_ruleFor_92 : decode cX8_ruleFor 92 = .ok (.bipush 7, 2) := by decide +kernel
theorem dX8_ruleFor_94 : decode cX8_ruleFor 94 = .ok (.aload_n 0, 1) := by decide +kernel
theorem dX8_ruleFor_95 : decode cX8_ruleFor 95 = .ok (.getfield 7, 3) := by decide +kernel
theorem dX8_ruleFor_98 : decode cX8_ruleFor 98 = .ok (.iconst 5, 1) := by decide +kernel
theorem dX8_ruleFor_99 : decode cX8_ruleFor 99 = .ok (.iload_n 1, 1) := by decide +kernel
theorem dX8_ruleFor_100 : decode cX8_ruleFor 100 = .ok (.iadd, 1) := by decide +kernel
theorem dX8_ruleFor_101 : decode cX8_ruleFor 101 = .ok (.iaload, 1) := by decide +kernel
theorem dX8_ruleFor_102 : decode cX8_ruleFor 102 = .ok (.iastore, 1) := by decide +kernel
theorem dX8_ruleFor_103 : decode cX8_ruleFor 103 = .ok (.aload_n 0, 1) := by decide +kernel
theorem dX8_ruleFor_104 : decode cX8_ruleFor 104 = .ok (.getfield 68, 3) := by decide +kernel
theorem dX8_ruleFor_107 : decode cX8_ruleFor 107 = .ok (.bipush 8, 2) := by decide +kernel
theorem dX8_ruleFor_109 : decode cX8_ruleFor 109 = .ok (.aload_n 0, 1) := by decide +kernel
theorem dX8_ruleFor_110 : decode cX8_ruleFor 110 = .ok (.getfield 124, 3) := by decide +kernel
theorem dX8_ruleFor_113 : decode cX8_ruleFor 113 = .ok (.iload_n 1, 1) := by decide +kernel
theorem dX8_ruleFor_114 : decode cX8_ruleFor 114 = .ok (.ishr, 1) := by decide +kernel
theorem dX8_ruleFor_115 : decode cX8_ruleFor 115 = .ok (.iconst 1, 1) := by decide +kernel
theorem dX8_ruleFor_116 : decode cX8_ruleFor 116 = .ok (.iand, 1) := by decide +kernel
theorem dX8_ruleFor_117 : decode cX8_ruleFor 117 = .ok (.iastore, 1) := by decide +kernel
theorem dX8_ruleFor_118 : decode cX8_ruleFor 118 = .ok (.aload_n 0, 1) := by decide +kernel
theorem dX8_ruleFor_119 : decode cX8_ruleFor 119 = .ok (.getfield 68, 3) := by decide +kernel
theorem dX8_ruleFor_122 : decode cX8_ruleFor 122 = .ok (.bipush 9, 2) := by decide +kernel
theorem dX8_ruleFor_124 : decode cX8_ruleFor 124 = .ok (.iload_n 1, 1) := by decide +kernel
theorem dX8_ruleFor_125 : decode cX8_ruleFor 125 = .ok (.iastore, 1) := by decide +kernel
theorem dX8_ruleFor_126 : decode cX8_ruleFor 126 = .ok (.iconst 0, 1) := by decide +kernel
theorem dX8_ruleFor_127 : decode cX8_ruleFor 127 = .ok (.istore 4, 2) := by decide +kernel
theorem dX8_ruleFor_129 : decode cX8_ruleFor 129 = .ok (.iload 4, 2) := by decide +kernel
theorem dX8_ruleFor_131 : decode cX8_ruleFor 131 = .ok (.aload_n 0, 1) := by decide +kernel
theorem dX8_ruleFor_132 : decode cX8_ruleFor 132 = .ok (.getfield 224, 3) := by decide +kernel
theorem dX8_ruleFor_135 : decode cX8_ruleFor 135 = .ok (.if_icmp .ge 27, 3) := by decide +kernel
theorem dX8_ruleFor_138 : decode cX8_ruleFor 138 = .ok (.aload_n 0, 1) := by decide +kernel
theorem dX8_ruleFor_139 : decode cX8_ruleFor 139 = .ok (.iconst 0, 1) := by decide +kernel
theorem dX8_ruleFor_140 : decode cX8_ruleFor 140 = .ok (.iload 4, 2) := by decide +kernel
theorem dX8_ruleFor_142 : decode cX8_ruleFor 142 = .ok (.invokevirtual 263, 3) := by decide +kernel
theorem dX8_ruleFor_145 : decode cX8_ruleFor 145 = .ok (.ifCond .eq 11, 3) := by decide +kernel
theorem dX8_ruleFor_148 : decode cX8_ruleFor 148 = .ok (.aload_n 0, 1) := by decide +kernel
theorem dX8_ruleFor_149 : decode cX8_ruleFor 149 = .ok (.getfield 46, 3) := by decide +kernel
theorem dX8_ruleFor_152 : decode cX8_ruleFor 152 = .ok (.iload 4, 2) := by decide +kernel
theorem dX8_ruleFor_154 : decode cX8_ruleFor 154 = .ok (.iaload, 1) := by decide +kernel
theorem dX8_ruleFor_155 : decode cX8_ruleFor 155 = .ok (.ireturn, 1) := by decide +kernel
theorem dX8_ruleFor_156 : decode cX8_ruleFor 156 = .ok (.iinc 4 1, 3) := by decide +kernel
theorem dX8_ruleFor_159 : decode cX8_ruleFor 159 = .ok (.goto (-30), 3) := by decide +kernel
theorem dX8_ruleFor_162 : decode cX8_ruleFor 162 = .ok (.iconst 0, 1) := by decide +kernel
theorem dX8_ruleFor_163 : decode cX8_ruleFor 163 = .ok (.ireturn, 1) := by decide +kernel
set_option maxRecDepth 20000 in
theorem wX8_ruleFor_129_b {p : Program} {l : Launch} {e : Env} {s : State} {m : MethodId} {args : Array Value} {below : List Frame} {meth : Method} {c : Code} {Z : XG} {r : Int32} {S' : Mem} (E : XE p s m args meth c cX8_ruleFor 5 RX8 (some .int) mL Z) (k0 : Mem → Int32 → O)  (hk0 : ∀ (S : Mem) (x4 : Int32), k0 S x4 = some (r, S') → WN p l e { frames := 2, cells := 0, slots := 0, locals := 47 } s m args below meth c mL Z (XQ mL Z r S') S 129 5 [(0, .ref (Z.2.1 0)), (4, .int x4)] []) : ∀ (S : Mem) (x4 : Int32), fX8_ruleFor_129_b k0 S x4 = some (r, S') → WN p l e { frames := 2, cells := 0, slots := 0, locals := 47 } s m args below meth c mL Z (XQ mL Z r S') S 129 5 [(0, .ref (Z.2.1 0)), (4, .int x4)] [] := by
  obtain ⟨hx, hb, -, -, -, -, -, -, -, hQ⟩ := id E
  intro S x4 h H locs ls X hl
  unfold fX8_ruleFor_129_b at h
  refine lv_iload hx hb dX8_ruleFor_129 (lv_at hl 1 rfl) ?_
  refine lv_aload_n hx hb dX8_ruleFor_131 rfl (lv_at hl 0 rfl) ?_
  refine x_get E X ffX8_224 rfl rfl dX8_ruleFor_132 ?_
  refine lv_icmp_ge (tgt := 162) hx hb dX8_ruleFor_135 (by decide) (fun c_1 => ?_) (fun c_1 => ?_)
  · have h := if_t c_1 h
    refine lv_iconst (v := (0 : Int32)) hx hb dX8_ruleFor_162 (by decide) ?_
    exact x_iret E X h dX8_ruleFor_163
  · have h := if_f c_1 h
    refine lv_aload_n hx hb dX8_ruleFor_138 rfl (lv_at hl 0 rfl) ?_
    refine lv_iconst (v := (0 : Int32)) hx hb dX8_ruleFor_139 (by decide) ?_
    refine lv_iload hx hb dX8_ruleFor_140 (lv_at hl 1 rfl) ?_
    obtain ⟨r_2, S_3, hr_2, h⟩ := bnd_s h
    refine x_callV E X cwX8_263 (mX8_isSo l Z hQ  (0 : Int32) x4 hr_2) rfl rfl rfl rfl hl.1 rfl dX8_ruleFor_142 (fun H locs X => ?_)
    refine lv_if_eq (tgt := 156) hx hb dX8_ruleFor_145 (by decide) (fun c_4 => ?_) (fun c_4 => ?_)
    · have h := if_t c_4 h
      refine lv_iinc (v := (x4 + (1 : Int32))) (lv' := [(4, .int (x4 + (1 : Int32))), (0, .ref (Z.2.1 0))]) hx hb dX8_ruleFor_156 hl (k := 1) rfl rfl (by decide) rfl (fun ls hl => ?_)
      refine lv_goto (tgt := 129) hx hb dX8_ruleFor_159 (by decide) ?_
      exact hk0 S_3 (x4 + (1 : Int32)) h _ _ _ X (lv_sub hl [1, 0] rfl)
    · have h := if_f c_4 h
      refine lv_aload_n hx hb dX8_ruleFor_148 rfl (lv_at hl 0 rfl) ?_
      refine x_getr E X ffX8_46 rfl rfl dX8_ruleFor_149 ?_
      refine lv_iload hx hb dX8_ruleFor_152 (lv_at hl 1 rfl) ?_
      obtain ⟨g_5, h⟩ := gd_s h
      refine x_iald E X rfl g_5 dX8_ruleFor_154 ?_
      exact x_iret E X h dX8_ruleFor_155
theorem wX8_ruleFor_129 {p : Program} {l : Launch} {e : Env} {s : State} {m : MethodId} {args : Array Value} {below : List Frame} {meth : Method} {c : Code} {Z : XG} {r : Int32} {S' : Mem} (E : XE p s m args meth c cX8_ruleFor 5 RX8 (some .int) mL Z) : ∀ (n : Nat) (S : Mem) (x4 : Int32), fX8_ruleFor_129 n S x4 = some (r, S') → WN p l e { frames := 2, cells := 0, slots := 0, locals := 47 } s m args below meth c mL Z (XQ mL Z r S') S 129 5 [(0, .ref (Z.2.1 0)), (4, .int x4)] [] := by
  intro n
  induction n with
  | zero => intro S x4 h; exact absurd (show (none : O) = some _ from h) (by simp)
  | succ n ih => intro S x4 h; exact wX8_ruleFor_129_b E (fX8_ruleFor_129 n) ih S x4 h
set_option maxRecDepth 20000 in
theorem wX8_ruleFor_40 {p : Program} {l : Launch} {e : Env} {s : State} {m : MethodId} {args : Array Value} {below : List Frame} {meth : Method} {c : Code} {Z : XG} {r : Int32} {S' : Mem} (E : XE p s m args meth c cX8_ruleFor 5 RX8 (some .int) mL Z) : ∀ (S : Mem) (x1 x2 s1 s2 : Int32), fX8_ruleFor_40  S x1 x2 s1 s2 = some (r, S') → WN p l e { frames := 2, cells := 0, slots := 0, locals := 47 } s m args below meth c mL Z (XQ mL Z r S') S 40 5 [(0, .ref (Z.2.1 0)), (1, .int x1), (2, .int x2)] [.int s2, .int s1, .ref (Z.2.1 19)] := by
  obtain ⟨hx, hb, -, -, -, -, -, -, -, hQ⟩ := id E
  intro S x1 x2 s1 s2 h H locs ls X hl
  unfold fX8_ruleFor_40 at h
  obtain ⟨g_1, h⟩ := gd_s h
  obtain ⟨S_2, eS_2, h⟩ := ltm_s h
  refine x_iast E X rfl g_1 dX8_ruleFor_40 (fun H locs X => ?_)
  rw [← eS_2] at X
  refine lv_aload_n hx hb dX8_ruleFor_41 rfl (lv_at hl 0 rfl) ?_
  refine x_getr E X ffX8_68 rfl rfl dX8_ruleFor_42 ?_
  refine lv_iconst (v := (3 : Int32)) hx hb dX8_ruleFor_45 (by decide) ?_
  refine lv_aload_n hx hb dX8_ruleFor_46 rfl (lv_at hl 0 rfl) ?_
  refine x_getr E X ffX8_7 rfl rfl dX8_ruleFor_47 ?_
  refine lv_bipush (v := (15 : Int32)) hx hb dX8_ruleFor_50 (by decide) ?_
  refine lv_iload_n hx hb dX8_ruleFor_52 rfl (lv_at hl 1 rfl) ?_
  refine lv_iadd hx hb dX8_ruleFor_53 ?_
  obtain ⟨g_3, h⟩ := gd_s h
  refine x_iald E X rfl g_3 dX8_ruleFor_54 ?_
  obtain ⟨S_4, eS_4, h⟩ := ltm_s h
  refine x_iast E X rfl (by decide) dX8_ruleFor_55 (fun H locs X => ?_)
  rw [← eS_4] at X
  refine lv_aload_n hx hb dX8_ruleFor_56 rfl (lv_at hl 0 rfl) ?_
  refine x_getr E X ffX8_68 rfl rfl dX8_ruleFor_57 ?_
  refine lv_iconst (v := (4 : Int32)) hx hb dX8_ruleFor_60 (by decide) ?_
  refine lv_aload_n hx hb dX8_ruleFor_61 rfl (lv_at hl 0 rfl) ?_
  refine x_getr E X ffX8_22 rfl rfl dX8_ruleFor_62 ?_
  refine lv_iload_n hx hb dX8_ruleFor_65 rfl (lv_at hl 1 rfl) ?_
  obtain ⟨g_5, h⟩ := gd_s h
  refine x_iald E X rfl g_5 dX8_ruleFor_66 ?_
  obtain ⟨S_6, eS_6, h⟩ := ltm_s h
  refine x_iast E X rfl (by decide) dX8_ruleFor_67 (fun H locs X => ?_)
  rw [← eS_6] at X
  refine lv_aload_n hx hb dX8_ruleFor_68 rfl (lv_at hl 0 rfl) ?_
  refine x_getr E X ffX8_68 rfl rfl dX8_ruleFor_69 ?_
  refine lv_iconst (v := (5 : Int32)) hx hb dX8_ruleFor_72 (by decide) ?_
  refine lv_aload_n hx hb dX8_ruleFor_73 rfl (lv_at hl 0 rfl) ?_
  refine x_getr E X ffX8_28 rfl rfl dX8_ruleFor_74 ?_
  refine lv_iload_n hx hb dX8_ruleFor_77 rfl (lv_at hl 1 rfl) ?_
  obtain ⟨g_7, h⟩ := gd_s h
  refine x_iald E X rfl g_7 dX8_ruleFor_78 ?_
  obtain ⟨S_8, eS_8, h⟩ := ltm_s h
  refine x_iast E X rfl (by decide) dX8_ruleFor_79 (fun H locs X => ?_)
  rw [← eS_8] at X
  refine lv_aload_n hx hb dX8_ruleFor_80 rfl (lv_at hl 0 rfl) ?_
  refine x_getr E X ffX8_68 rfl rfl dX8_ruleFor_81 ?_
  refine lv_bipush (v := (6 : Int32)) hx hb dX8_ruleFor_84 (by decide) ?_
  refine lv_iload_n hx hb dX8_ruleFor_86 rfl (lv_at hl 2 rfl) ?_
  obtain ⟨S_9, eS_9, h⟩ := ltm_s h
  refine x_iast E X rfl (by decide) dX8_ruleFor_87 (fun H locs X => ?_)
  rw [← eS_9] at X
  refine lv_aload_n hx hb dX8_ruleFor_88 rfl (lv_at hl 0 rfl) ?_
  refine x_getr E X ffX8_68 rfl rfl dX8_ruleFor_89 ?_
  refine lv_bipush (v := (7 : Int32)) hx hb dX8_ruleFor_92 (by decide) ?_
  refine lv_aload_n hx hb dX8_ruleFor_94 rfl (lv_at hl 0 rfl) ?_
  refine x_getr E X ffX8_7 rfl rfl dX8_ruleFor_95 ?_
  refine lv_iconst (v := (5 : Int32)) hx hb dX8_ruleFor_98 (by decide) ?_
  refine lv_iload_n hx hb dX8_ruleFor_99 rfl (lv_at hl 1 rfl) ?_
  refine lv_iadd hx hb dX8_ruleFor_100 ?_
  obtain ⟨g_10, h⟩ := gd_s h
  refine x_iald E X rfl g_10 dX8_ruleFor_101 ?_
  obtain ⟨S_11, eS_11, h⟩ := ltm_s h
  refine x_iast E X rfl (by decide) dX8_ruleFor_102 (fun H locs X => ?_)
  rw [← eS_11] at X
  refine lv_aload_n hx hb dX8_ruleFor_103 rfl (lv_at hl 0 rfl) ?_
  refine x_getr E X ffX8_68 rfl rfl dX8_ruleFor_104 ?_
  refine lv_bipush (v := (8 : Int32)) hx hb dX8_ruleFor_107 (by decide) ?_
  refine lv_aload_n hx hb dX8_ruleFor_109 rfl (lv_at hl 0 rfl) ?_
  refine x_get E X ffX8_124 rfl rfl dX8_ruleFor_110 ?_
  refine lv_iload_n hx hb dX8_ruleFor_113 rfl (lv_at hl 1 rfl) ?_
  refine lv_ishr hx hb dX8_ruleFor_114 ?_
  refine lv_iconst (v := (1 : Int32)) hx hb dX8_ruleFor_115 (by decide) ?_
  refine lv_iand hx hb dX8_ruleFor_116 ?_
  obtain ⟨S_12, eS_12, h⟩ := ltm_s h
  refine x_iast E X rfl (by decide) dX8_ruleFor_117 (fun H locs X => ?_)
  rw [← eS_12] at X
  refine lv_aload_n hx hb dX8_ruleFor_118 rfl (lv_at hl 0 rfl) ?_
  refine x_getr E X ffX8_68 rfl rfl dX8_ruleFor_119 ?_
  refine lv_bipush (v := (9 : Int32)) hx hb dX8_ruleFor_122 (by decide) ?_
  refine lv_iload_n hx hb dX8_ruleFor_124 rfl (lv_at hl 1 rfl) ?_
  obtain ⟨S_13, eS_13, h⟩ := ltm_s h
  refine x_iast E X rfl (by decide) dX8_ruleFor_125 (fun H locs X => ?_)
  rw [← eS_13] at X
  refine lv_iconst (v := (0 : Int32)) hx hb dX8_ruleFor_126 (by decide) ?_
  refine lv_istore (lv' := [(4, .int (0 : Int32)), (0, .ref (Z.2.1 0)), (1, .int x1), (2, .int x2)]) hx hb dX8_ruleFor_127 hl (by decide) rfl (fun ls hl => ?_)
  exact wX8_ruleFor_129 E   FU S_13 (0 : Int32) h _ _ _ X (lv_sub hl [1, 0] rfl)
set_option maxRecDepth 20000 in
theorem wX8_ruleFor {p : Program} {l : Launch} {e : Env} {s : State} {m : MethodId} {args : Array Value} {below : List Frame} {meth : Method} {c : Code} {Z : XG} {r : Int32} {S' : Mem} (E : XE p s m args meth c cX8_ruleFor 5 RX8 (some .int) mL Z) : ∀ (S : Mem) (x1 x2 x3 : Int32), fX8_ruleFor  S x1 x2 x3 = some (r, S') → WN p l e { frames := 2, cells := 0, slots := 0, locals := 47 } s m args below meth c mL Z (XQ mL Z r S') S 0 5 [(0, .ref (Z.2.1 0)), (1, .int x1), (2, .int x2), (3, .int x3)] [] := by
  obtain ⟨hx, hb, -, -, -, -, -, -, -, hQ⟩ := id E
  intro S x1 x2 x3 h H locs ls X hl
  unfold fX8_ruleFor at h
  refine lv_aload_n hx hb dX8_ruleFor_0 rfl (lv_at hl 0 rfl) ?_
  refine x_getr E X ffX8_68 rfl rfl dX8_ruleFor_1 ?_
  refine lv_iconst (v := (0 : Int32)) hx hb dX8_ruleFor_4 (by decide) ?_
  refine lv_aload_n hx hb dX8_ruleFor_5 rfl (lv_at hl 0 rfl) ?_
  refine x_getr E X ffX8_7 rfl rfl dX8_ruleFor_6 ?_
  refine lv_bipush (v := (25 : Int32)) hx hb dX8_ruleFor_9 (by decide) ?_
  refine lv_iload_n hx hb dX8_ruleFor_11 rfl (lv_at hl 1 rfl) ?_
  refine lv_iadd hx hb dX8_ruleFor_12 ?_
  obtain ⟨g_1, h⟩ := gd_s h
  refine x_iald E X rfl g_1 dX8_ruleFor_13 ?_
  obtain ⟨S_2, eS_2, h⟩ := ltm_s h
  refine x_iast E X rfl (by decide) dX8_ruleFor_14 (fun H locs X => ?_)
  rw [← eS_2] at X
  refine lv_aload_n hx hb dX8_ruleFor_15 rfl (lv_at hl 0 rfl) ?_
  refine x_getr E X ffX8_68 rfl rfl dX8_ruleFor_16 ?_
  refine lv_iconst (v := (1 : Int32)) hx hb dX8_ruleFor_19 (by decide) ?_
  refine lv_iload_n hx hb dX8_ruleFor_20 rfl (lv_at hl 3 rfl) ?_
  obtain ⟨S_3, eS_3, h⟩ := ltm_s h
  refine x_iast E X rfl (by decide) dX8_ruleFor_21 (fun H locs X => ?_)
  rw [← eS_3] at X
  refine lv_aload_n hx hb dX8_ruleFor_22 rfl (lv_at hl 0 rfl) ?_
  refine x_getr E X ffX8_68 rfl rfl dX8_ruleFor_23 ?_
  refine lv_iconst (v := (2 : Int32)) hx hb dX8_ruleFor_26 (by decide) ?_
  refine lv_aload_n hx hb dX8_ruleFor_27 rfl (lv_at hl 0 rfl) ?_
  refine lv_iload_n hx hb dX8_ruleFor_28 rfl (lv_at hl 1 rfl) ?_
  obtain ⟨r_4, S_5, hr_4, h⟩ := bnd_s h
  refine x_callV E X cwX8_260 (mX8_isShaded l Z hQ  x1 hr_4) rfl rfl rfl rfl hl.1 rfl dX8_ruleFor_29 (fun H locs X => ?_)
  refine lv_if_eq (tgt := 39) hx hb dX8_ruleFor_32 (by decide) (fun c_6 => ?_) (fun c_6 => ?_)
  · have h := if_t c_6 h
    refine lv_iconst (v := (0 : Int32)) hx hb dX8_ruleFor_39 (by decide) ?_
    exact wX8_ruleFor_40 E   S_5 x1 x2 (2 : Int32) (0 : Int32) h _ _ _ X (lv_sub hl [0, 1, 2] rfl)
  · have h := if_f c_6 h
    refine lv_iconst (v := (1 : Int32)) hx hb dX8_ruleFor_35 (by decide) ?_
    refine lv_goto (tgt := 40) hx hb dX8_ruleFor_36 (by decide) ?_
    exact wX8_ruleFor_40 E   S_5 x1 x2 (2 : Int32) (1 : Int32) h _ _ _ X (lv_sub hl [0, 1, 2] rfl)
/-- SevenToAShadowModel.ruleFor(III)I -/
theorem mX8_ruleFor (l : Launch) (Z : XG) (hQ : wQ (List.length mL) Z) {S S' : Mem} {r : Int32} (x1 x2 x3 : Int32) (h : fX8_ruleFor S x1 x2 x3 = some (r, S')) : XM l yX8_ruleFor cX8_ruleFor 5 (some .int) { frames := 2, cells := 0, slots := 0, locals := 47 } mL Z [.ref (Z.2.1 0), .int x1, .int x2, .int x3] S (XQ mL Z r S') := by
  refine XM.of (own := RX8) (by decide +kernel) rfl rfl hQ (fun p e s m args below meth c E ls hl X => ?_)
  exact wX8_ruleFor E S x1 x2 x3 h _ _ _ X hl
def fX8_without (S : Mem) (x1 : Int32) : O := (if 0 ≤ x1 then some (x1, S) else some ((-x1), S))
theorem dX8_without_0 : decode cX8_without 0 = .ok (.iload_n 1, 1) := by decide +kernel
theorem dX8_without_1 : decode cX8_without 1 = .ok (.ifCond .ge 8, 3) := by decide +kernel
theorem dX8_without_4 : decode cX8_without 4 = .ok (.iload_n 1, 1) := by decide +kernel
theorem dX8_without_5 : decode cX8_without 5 = .ok (.ineg, 1) := by decide +kernel
theorem dX8_without_6 : decode cX8_without 6 = .ok (.goto 4, 3) := by decide +kernel
theorem dX8_without_9 : decode cX8_without 9 = .ok (.iload_n 1, 1) := by decide +kernel
theorem dX8_without_10 : decode cX8_without 10 = .ok (.ireturn, 1) := by decide +kernel
set_option maxRecDepth 20000 in
theorem wX8_without {p : Program} {l : Launch} {e : Env} {s : State} {m : MethodId} {args : Array Value} {below : List Frame} {meth : Method} {c : Code} {Z : XG} {r : Int32} {S' : Mem} (E : XE p s m args meth c cX8_without 2 RX8 (some .int) mL Z) : ∀ (S : Mem) (x1 : Int32), fX8_without  S x1 = some (r, S') → WN p l e { frames := 0, cells := 0, slots := 0, locals := 0 } s m args below meth c mL Z (XQ mL Z r S') S 0 2 [(1, .int x1)] [] := by
  obtain ⟨hx, hb, -, -, -, -, -, -, -, hQ⟩ := id E
  intro S x1 h H locs ls X hl
  unfold fX8_without at h
  refine lv_iload_n hx hb dX8_without_0 rfl (lv_at hl 0 rfl) ?_
  refine lv_if_ge (tgt := 9) hx hb dX8_without_1 (by decide) (fun c_1 => ?_) (fun c_1 => ?_)
  · have h := if_t c_1 h
    refine lv_iload_n hx hb dX8_without_9 rfl (lv_at hl 0 rfl) ?_
    exact x_iret E X h dX8_without_10
  · have h := if_f c_1 h
    refine lv_iload_n hx hb dX8_without_4 rfl (lv_at hl 0 rfl) ?_
    refine lv_ineg hx hb dX8_without_5 ?_
    refine lv_goto (tgt := 10) hx hb dX8_without_6 (by decide) ?_
    exact x_iret E X h dX8_without_10
/-- SevenToAShadowModel.without(I)I -/
theorem mX8_without (l : Launch) (Z : XG) (hQ : wQ (List.length mL) Z) {S S' : Mem} {r : Int32} (x1 : Int32) (h : fX8_without S x1 = some (r, S')) : XM l yX8_without cX8_without 2 (some .int) { frames := 0, cells := 0, slots := 0, locals := 0 } mL Z [.ref (Z.2.1 0), .int x1] S (XQ mL Z r S') := by
  refine XM.of (own := RX8) (by decide +kernel) rfl rfl hQ (fun p e s m args below meth c E ls hl X => ?_)
  exact wX8_without E S x1 h _ _ _ X (lv_sub hl [1] rfl)
def fX8_far (S : Mem) (x1 x2 : Int32) : O := bnd (fX8_without S ((irem x1 (5 : Int32)) - (irem x2 (5 : Int32)))) fun r_1 S_2 => bnd (fX8_without S_2 ((x1 / (5 : Int32)) - (x2 / (5 : Int32)))) fun r_3 S_4 => (if r_1 ≤ r_3 then some (r_3, S_4) else some (r_1, S_4))
theorem dX8_far_0 : decode cX8_far 0 = .ok (.aload_n 0, 1) := by decide +kernel
theorem dX8_far_1 : decode cX8_far 1 = .ok (.iload_n 1, 1) := by decide +kernel
theorem dX8_far_2 : decode cX8_far 2 = .ok (.iconst 5, 1) := by decide +kernel
theorem dX8_far_3 : decode cX8_far 3 = .ok (.irem, 1) := by decide +kernel
theorem dX8_far_4 : decode cX8_far 4 = .ok (.iload_n 2, 1) := by decide +kernel
theorem dX8_far_5 : decode cX8_far 5 = .ok (.iconst 5, 1) := by decide +kernel
theorem dX8_far_6 : decode cX8_far 6 = .ok (.irem, 1) := by decide +kernel
theorem dX8_far_7 : decode cX8_far 7 = .ok (.isub, 1) := by decide +kernel
theorem dX8_far_8 : decode cX8_far 8 = .ok (.invokevirtual 237, 3) := by decide +kernel
theorem dX8_far_11 : decode cX8_far 11 = .ok (.istore_n 3, 1) := by decide +kernel
theorem dX8_far_12 : decode cX8_far 12 = .ok (.aload_n 0, 1) := by decide +kernel
theorem dX8_far_13 : decode cX8_far 13 = .ok (.iload_n 1, 1) := by decide +kernel
theorem dX8_far_14 : decode cX8_far 14 = .ok (.iconst 5, 1) := by decide +kernel
theorem dX8_far_15 : decode cX8_far 15 = .ok (.idiv, 1) := by decide +kernel
theorem dX8_far_16 : decode cX8_far 16 = .ok (.iload_n 2, 1) := by decide +kernel
theorem dX8_far_17 : decode cX8_far 17 = .ok (.iconst 5, 1) := by decide +kernel
theorem dX8_far_18 : decode cX8_far 18 = .ok (.idiv, 1) := by decide +kernel
theorem dX8_far_19 : decode cX8_far 19 = .ok (.isub, 1) := by decide +kernel
theorem dX8_far_20 : decode cX8_far 20 = .ok (.invokevirtual 237, 3) := by decide +kernel
theorem dX8_far_23 : decode cX8_far 23 = .ok (.istore 4, 2) := by decide +kernel
theorem dX8_far_25 : decode cX8_far 25 = .ok (.iload_n 3, 1) := by decide +kernel
theorem dX8_far_26 : decode cX8_far 26 = .ok (.iload 4, 2) := by decide +kernel
theorem dX8_far_28 : decode cX8_far 28 = .ok (.if_icmp .le 7, 3) := by decide +kernel
theorem dX8_far_31 : decode cX8_far 31 = .ok (.iload_n 3, 1) := by decide +kernel
theorem dX8_far_32 : decode cX8_far 32 = .ok (.goto 5, 3) := by decide +kernel
theorem dX8_far_35 : decode cX8_far 35 = .ok (.iload 4, 2) := by decide +kernel
theorem dX8_far_37 : decode cX8_far 37 = .ok (.ireturn, 1) := by decide +kernel
set_option maxRecDepth 20000 in
theorem wX8_far {p : Program} {l : Launch} {e : Env} {s : State} {m : MethodId} {args : Array Value} {below : List Frame} {meth : Method} {c : Code} {Z : XG} {r : Int32} {S' : Mem} (E : XE p s m args meth c cX8_far 5 RX8 (some .int) mL Z) : ∀ (S : Mem) (x1 x2 : Int32), fX8_far  S x1 x2 = some (r, S') → WN p l e { frames := 1, cells := 0, slots := 0, locals := 21 } s m args below meth c mL Z (XQ mL Z r S') S 0 5 [(0, .ref (Z.2.1 0)), (1, .int x1), (2, .int x2)] [] := by
  obtain ⟨hx, hb, -, -, -, -, -, -, -, hQ⟩ := id E
  intro S x1 x2 h H locs ls X hl
  unfold fX8_far at h
  refine lv_aload_n hx hb dX8_far_0 rfl (lv_at hl 0 rfl) ?_
  refine lv_iload_n hx hb dX8_far_1 rfl (lv_at hl 1 rfl) ?_
  refine lv_iconst (v := (5 : Int32)) hx hb dX8_far_2 (by decide) ?_
  refine lv_irem hx hb dX8_far_3 (by decide) ?_
  refine lv_nm (y := (irem x1 (5 : Int32))) rfl ?_
  refine lv_iload_n hx hb dX8_far_4 rfl (lv_at hl 2 rfl) ?_
  refine lv_iconst (v := (5 : Int32)) hx hb dX8_far_5 (by decide) ?_
  refine lv_irem hx hb dX8_far_6 (by decide) ?_
  refine lv_nm (y := (irem x2 (5 : Int32))) rfl ?_
  refine lv_isub hx hb dX8_far_7 ?_
  obtain ⟨r_1, S_2, hr_1, h⟩ := bnd_s h
  refine x_callV E X cwX8_237 (mX8_without l Z hQ  ((irem x1 (5 : Int32)) - (irem x2 (5 : Int32))) hr_1) rfl rfl rfl rfl hl.1 rfl dX8_far_8 (fun H locs X => ?_)
  refine lv_istore_n (lv' := [(3, .int r_1), (0, .ref (Z.2.1 0)), (1, .int x1), (2, .int x2)]) hx hb dX8_far_11 rfl hl (by decide) rfl (fun ls hl => ?_)
  refine lv_aload_n hx hb dX8_far_12 rfl (lv_at hl 1 rfl) ?_
  refine lv_iload_n hx hb dX8_far_13 rfl (lv_at hl 2 rfl) ?_
  refine lv_iconst (v := (5 : Int32)) hx hb dX8_far_14 (by decide) ?_
  refine lv_idiv hx hb dX8_far_15 (by decide) ?_
  refine lv_iload_n hx hb dX8_far_16 rfl (lv_at hl 3 rfl) ?_
  refine lv_iconst (v := (5 : Int32)) hx hb dX8_far_17 (by decide) ?_
  refine lv_idiv hx hb dX8_far_18 (by decide) ?_
  refine lv_isub hx hb dX8_far_19 ?_
  obtain ⟨r_3, S_4, hr_3, h⟩ := bnd_s h
  refine x_callV E X cwX8_237 (mX8_without l Z hQ  ((x1 / (5 : Int32)) - (x2 / (5 : Int32))) hr_3) rfl rfl rfl rfl hl.1 rfl dX8_far_20 (fun H locs X => ?_)
  refine lv_istore (lv' := [(4, .int r_3), (3, .int r_1), (0, .ref (Z.2.1 0)), (1, .int x1), (2, .int x2)]) hx hb dX8_far_23 hl (by decide) rfl (fun ls hl => ?_)
  refine lv_iload_n hx hb dX8_far_25 rfl (lv_at hl 1 rfl) ?_
  refine lv_iload hx hb dX8_far_26 (lv_at hl 0 rfl) ?_
  refine lv_icmp_le (tgt := 35) hx hb dX8_far_28 (by decide) (fun c_5 => ?_) (fun c_5 => ?_)
  · have h := if_t c_5 h
    refine lv_iload hx hb dX8_far_35 (lv_at hl 0 rfl) ?_
    exact x_iret E X h dX8_far_37
  · have h := if_f c_5 h
    refine lv_iload_n hx hb dX8_far_31 rfl (lv_at hl 1 rfl) ?_
    refine lv_goto (tgt := 37) hx hb dX8_far_32 (by decide) ?_
    exact x_iret E X h dX8_far_37
/-- SevenToAShadowModel.far(II)I -/
theorem mX8_far (l : Launch) (Z : XG) (hQ : wQ (List.length mL) Z) {S S' : Mem} {r : Int32} (x1 x2 : Int32) (h : fX8_far S x1 x2 = some (r, S')) : XM l yX8_far cX8_far 5 (some .int) { frames := 1, cells := 0, slots := 0, locals := 21 } mL Z [.ref (Z.2.1 0), .int x1, .int x2] S (XQ mL Z r S') := by
  refine XM.of (own := RX8) (by decide +kernel) rfl rfl hQ (fun p e s m args below meth c E ls hl X => ?_)
  exact wX8_far E S x1 x2 h _ _ _ X hl
def fX8_shadedFor_73 (k0 : Mem → Int32 → Int32 → Int32 → O) (S : Mem) (x1 x2 x3 : Int32) : O := k0 S x1 x2 (x3 + (1 : Int32))
def fX8_shadedFor_71 (k0 : Mem → Int32 → Int32 → Int32 → O) (S : Mem) (x1 x3 : Int32) : O := fX8_shadedFor_73 k0 S x1 x3 x3
def fX8_shadedFor_4_b (k0 : Mem → Int32 → Int32 → Int32 → O) (S : Mem) (x1 x2 x3 : Int32) : O := (if (25 : Int32) ≤ x3 then some (x2, S) else bnd (fX8_whoAt S x3) fun r_2 S_3 => (if r_2 = (-1 : Int32) then gd (inB x3 25) <| (if ((S_3 21 (x3).toNatClampNeg) &&& (((1 : Int32) <<< (x1 &&& 31)) ^^^ (-1 : Int32))) = 0 then fX8_shadedFor_73 k0 S_3 x1 x2 x3 else (if x2 = (-1 : Int32) then fX8_shadedFor_71 k0 S_3 x1 x3 else gd (inB ((5 : Int32) + x1) 55) <| bnd (fX8_far S_3 x3 (S_3 1 (((5 : Int32) + x1)).toNatClampNeg)) fun r_9 S_10 => gd (inB ((5 : Int32) + x1) 55) <| bnd (fX8_far S_10 x2 (S_10 1 (((5 : Int32) + x1)).toNatClampNeg)) fun r_12 S_13 => (if r_12 ≤ r_9 then fX8_shadedFor_73 k0 S_13 x1 x2 x3 else fX8_shadedFor_71 k0 S_13 x1 x3))) else fX8_shadedFor_73 k0 S_3 x1 x2 x3))
def fX8_shadedFor_4 : Nat → Mem → Int32 → Int32 → Int32 → O
  | 0 => fun _ _ _ _ => none
  | n + 1 => fX8_shadedFor_4_b (fX8_shadedFor_4 n)
def fX8_shadedFor (S : Mem) (x1 : Int32) : O := fX8_shadedFor_4  FU S x1 (-1 : Int32) (0 : Int32)
theorem dX8_shadedFor_0 : decode cX8_shadedFor 0 = .ok (.iconst (-1), 1) := by decide +kernel
theorem dX8_shadedFor_1 : decode cX8_shadedFor 1 = .ok (.istore_n 2, 1) := by decide +kernel
theorem dX8_shadedFor_2 : decode cX8_shadedFor 2 = .ok (.iconst 0, 1) := by decide +kernel
theorem dX8_shadedFor_3 : decode cX8_shadedFor 3 = .ok (.istore_n 3, 1) := by decide +kernel
theorem dX8_shadedFor_4 : decode cX8_shadedFor 4 = .ok (.iload_n 3, 1) := by decide +kernel
theorem dX8_shadedFor_5 : decode cX8_shadedFor 5 = .ok (.bipush 25, 2) := by decide +kernel
theorem dX8_shadedFor_7 : decode cX8_shadedFor 7 = .ok (.if_icmp .ge 72, 3) := by decide +kernel
theorem dX8_shadedFor_10 : decode cX8_shadedFor 10 = .ok (.aload_n 0, 1) := by decide +kernel
theorem dX8_shadedFor_11 : decode cX8_shadedFor 11 = .ok (.iload_n 3, 1) := by decide +kernel
theorem dX8_shadedFor_12 : decode cX8_shadedFor 12 = .ok (.invokevirtual 115, 3) := by decide +kernel
theorem dX8_shadedFor_15 : decode cX8_shadedFor 15 = .ok (.iconst (-1), 1) := by decide +kernel
theorem dX8_shadedFor_16 : decode cX8_shadedFor 16 = .ok (.if_icmp .ne 57, 3) := by decide +kernel
theorem dX8_shadedFor_19 : decode cX8_shadedFor 19 = .ok (.aload_n 0, 1) := by decide +kernel
theorem dX8_shadedFor_20 : decode cX8_shadedFor 20 = .ok (.getfield 74, 3) := by decide +kernel
theorem dX8_shadedFor_23 : decode cX8_shadedFor 23 = .ok (.iload_n 3, 1) := by decide +kernel
theorem dX8_shadedFor_24 : decode cX8_shadedFor 24 = .ok (.iaload, 1) := by decide +kernel
theorem dX8_shadedFor_25 : decode cX8_shadedFor 25 = .ok (.iconst 1, 1) := by decide +kernel
theorem dX8_shadedFor_26 : decode cX8_shadedFor 26 = .ok (.iload_n 1, 1) := by decide +kernel
theorem dX8_shadedFor_27 : decode cX8_shadedFor 27 = .ok (.ishl, 1) := by decide +kernel
theorem dX8_shadedFor_28 : decode cX8_shadedFor 28 = .ok (.iconst (-1), 1) := by decide +kernel
theorem dX8_shadedFor_29 : decode cX8_shadedFor 29 = .ok (.ixor, 1) := by decide +kernel
theorem dX8_shadedFor_30 : decode cX8_shadedFor 30 = .ok (.iand, 1) := by decide +kernel
theorem dX8_shadedFor_31 : decode cX8_shadedFor 31 = .ok (.ifCond .ne 6, 3) := by decide +kernel
theorem dX8_shadedFor_34 : decode cX8_shadedFor 34 = .ok (.goto 39, 3) := by decide +kernel
theorem dX8_shadedFor_37 : decode cX8_shadedFor 37 = .ok (.iload_n 2, 1) := by decide +kernel
theorem dX8_shadedFor_38 : decode cX8_shadedFor 38 = .ok (.iconst (-1), 1) := by decide +kernel
theorem dX8_shadedFor_39 : decode cX8_shadedFor 39 = .ok (.if_icmp .eq 32, 3) := by decide +kernel
theorem dX8_shadedFor_42 : decode cX8_shadedFor 42 = .ok (.aload_n 0, 1) := by decide +kernel
theorem dX8_shadedFor_43 : decode cX8_shadedFor 43 = .ok (.iload_n 3, 1) := by decide +kernel
theorem dX8_shadedFor_44 : decode cX8_shadedFor 44 = .ok (.aload_n 0, 1) := by decide +kernel
theorem dX8_shadedFor_45 : decode cX8_shadedFor 45 = .ok (.getfield 7, 3) := by decide +kernel
theorem dX8_shadedFor_48 : decode cX8_shadedFor 48 = .ok (.iconst 5, 1) := by decide +kernel
theorem dX8_shadedFor_49 : decode cX8_shadedFor 49 = .ok (.iload_n 1, 1) := by decide +kernel
theorem dX8_shadedFor_50 : decode cX8_shadedFor 50 = .ok (.iadd, 1) := by decide +kernel
theorem dX8_shadedFor_51 : decode cX8_shadedFor 51 = .ok (.iaload, 1) := by decide +kernel
theorem dX8_shadedFor_52 : decode cX8_shadedFor 52 = .ok (.invokevirtual 267, 3) := by decide +kernel
theorem dX8_shadedFor_55 : decode cX8_shadedFor 55 = .ok (.aload_n 0, 1) := by decide +kernel
theorem dX8_shadedFor_56 : decode cX8_shadedFor 56 = .ok (.iload_n 2, 1) := by decide +kernel
theorem dX8_shadedFor_57 : decode cX8_shadedFor 57 = .ok (.aload_n 0, 1) := by decide +kernel
theorem dX8_shadedFor_58 : decode cX8_shadedFor 58 = .ok (.getfield 7, 3) := by decide +kernel
theorem dX8_shadedFor_61 : decode cX8_shadedFor 61 = .ok (.iconst 5, 1) := by decide +kernel
theorem dX8_shadedFor_62 : decode cX8_shadedFor 62 = .ok (.iload_n 1, 1) := by decide +kernel
theorem dX8_shadedFor_63 : decode cX8_shadedFor 63 = .ok (.iadd, 1) := by decide +kernel
theorem dX8_shadedFor_64 : decode cX8_shadedFor 64 = .ok (.iaload, 1) := by decide +kernel
theorem dX8_shadedFor_65 : decode cX8_shadedFor 65 = .ok (.invokevirtual 267, 3) := by decide +kernel
theorem dX8_shadedFor_68 : decode cX8_shadedFor 68 = .ok (.if_icmp .ge 5, 3) := by decide +kernel
theorem dX8_shadedFor_71 : decode cX8_shadedFor 71 = .ok (.iload_n 3, 1) := by decide +kernel
theorem dX8_shadedFor_72 : decode cX8_shadedFor 72 = .ok (.istore_n 2, 1) := by decide +kernel
theorem dX8_shadedFor_73 : decode cX8_shadedFor 73 = .ok (.iinc 3 1, 3) := by decide +kernel
theorem dX8_shadedFor_76 : decode cX8_shadedFor 76 = .ok (.goto (-72), 3) := by decide +kernel
theorem dX8_shadedFor_79 : decode cX8_shadedFor 79 = .ok (.iload_n 2, 1) := by decide +kernel
theorem dX8_shadedFor_80 : decode cX8_shadedFor 80 = .ok (.ireturn, 1) := by decide +kernel
set_option maxRecDepth 20000 in
theorem wX8_shadedFor_73 {p : Program} {l : Launch} {e : Env} {s : State} {m : MethodId} {args : Array Value} {below : List Frame} {meth : Method} {c : Code} {Z : XG} {r : Int32} {S' : Mem} (E : XE p s m args meth c cX8_shadedFor 4 RX8 (some .int) mL Z) (k0 : Mem → Int32 → Int32 → Int32 → O)  (hk0 : ∀ (S : Mem) (x1 x2 x3 : Int32), k0 S x1 x2 x3 = some (r, S') → WN p l e { frames := 2, cells := 0, slots := 0, locals := 45 } s m args below meth c mL Z (XQ mL Z r S') S 4 4 [(0, .ref (Z.2.1 0)), (1, .int x1), (2, .int x2), (3, .int x3)] []) : ∀ (S : Mem) (x1 x2 x3 : Int32), fX8_shadedFor_73 k0 S x1 x2 x3 = some (r, S') → WN p l e { frames := 2, cells := 0, slots := 0, locals := 45 } s m args below meth c mL Z (XQ mL Z r S') S 73 4 [(0, .ref (Z.2.1 0)), (1, .int x1), (2, .int x2), (3, .int x3)] [] := by
  obtain ⟨hx, hb, -, -, -, -, -, -, -, hQ⟩ := id E
  intro S x1 x2 x3 h H locs ls X hl
  unfold fX8_shadedFor_73 at h
  refine lv_iinc (v := (x3 + (1 : Int32))) (lv' := [(3, .int (x3 + (1 : Int32))), (0, .ref (Z.2.1 0)), (1, .int x1), (2, .int x2)]) hx hb dX8_shadedFor_73 hl (k := 3) rfl rfl (by decide) rfl (fun ls hl => ?_)
  refine lv_goto (tgt := 4) hx hb dX8_shadedFor_76 (by decide) ?_
  exact hk0 S x1 x2 (x3 + (1 : Int32)) h _ _ _ X (lv_sub hl [1, 2, 3, 0] rfl)
set_option maxRecDepth 20000 in
theorem wX8_shadedFor_71 {p : Program} {l : Launch} {e : Env} {s : State} {m : MethodId} {args : Array Value} {below : List Frame} {meth : Method} {c : Code} {Z : XG} {r : Int32} {S' : Mem} (E : XE p s m args meth c cX8_shadedFor 4 RX8 (some .int) mL Z) (k0 : Mem → Int32 → Int32 → Int32 → O)  (hk0 : ∀ (S : Mem) (x1 x2 x3 : Int32), k0 S x1 x2 x3 = some (r, S') → WN p l e { frames := 2, cells := 0, slots := 0, locals := 45 } s m args below meth c mL Z (XQ mL Z r S') S 4 4 [(0, .ref (Z.2.1 0)), (1, .int x1), (2, .int x2), (3, .int x3)] []) : ∀ (S : Mem) (x1 x3 : Int32), fX8_shadedFor_71 k0 S x1 x3 = some (r, S') → WN p l e { frames := 2, cells := 0, slots := 0, locals := 45 } s m args below meth c mL Z (XQ mL Z r S') S 71 4 [(0, .ref (Z.2.1 0)), (1, .int x1), (3, .int x3)] [] := by
  obtain ⟨hx, hb, -, -, -, -, -, -, -, hQ⟩ := id E
  intro S x1 x3 h H locs ls X hl
  unfold fX8_shadedFor_71 at h
  refine lv_iload_n hx hb dX8_shadedFor_71 rfl (lv_at hl 2 rfl) ?_
  refine lv_istore_n (lv' := [(2, .int x3), (0, .ref (Z.2.1 0)), (1, .int x1), (3, .int x3)]) hx hb dX8_shadedFor_72 rfl hl (by decide) rfl (fun ls hl => ?_)
  exact wX8_shadedFor_73 E k0 hk0 S x1 x3 x3 h _ _ _ X (lv_sub hl [1, 2, 0, 3] rfl)
set_option maxRecDepth 20000 in
theorem wX8_shadedFor_4_b {p : Program} {l : Launch} {e : Env} {s : State} {m : MethodId} {args : Array Value} {below : List Frame} {meth : Method} {c : Code} {Z : XG} {r : Int32} {S' : Mem} (E : XE p s m args meth c cX8_shadedFor 4 RX8 (some .int) mL Z) (k0 : Mem → Int32 → Int32 → Int32 → O)  (hk0 : ∀ (S : Mem) (x1 x2 x3 : Int32), k0 S x1 x2 x3 = some (r, S') → WN p l e { frames := 2, cells := 0, slots := 0, locals := 45 } s m args below meth c mL Z (XQ mL Z r S') S 4 4 [(0, .ref (Z.2.1 0)), (1, .int x1), (2, .int x2), (3, .int x3)] []) : ∀ (S : Mem) (x1 x2 x3 : Int32), fX8_shadedFor_4_b k0 S x1 x2 x3 = some (r, S') → WN p l e { frames := 2, cells := 0, slots := 0, locals := 45 } s m args below meth c mL Z (XQ mL Z r S') S 4 4 [(0, .ref (Z.2.1 0)), (1, .int x1), (2, .int x2), (3, .int x3)] [] := by
  obtain ⟨hx, hb, -, -, -, -, -, -, -, hQ⟩ := id E
  intro S x1 x2 x3 h H locs ls X hl
  unfold fX8_shadedFor_4_b at h
  refine lv_iload_n hx hb dX8_shadedFor_4 rfl (lv_at hl 3 rfl) ?_
  refine lv_bipush (v := (25 : Int32)) hx hb dX8_shadedFor_5 (by decide) ?_
  refine lv_icmp_ge (tgt := 79) hx hb dX8_shadedFor_7 (by decide) (fun c_1 => ?_) (fun c_1 => ?_)
  · have h := if_t c_1 h
    refine lv_iload_n hx hb dX8_shadedFor_79 rfl (lv_at hl 2 rfl) ?_
    exact x_iret E X h dX8_shadedFor_80
  · have h := if_f c_1 h
    refine lv_aload_n hx hb dX8_shadedFor_10 rfl (lv_at hl 0 rfl) ?_
    refine lv_iload_n hx hb dX8_shadedFor_11 rfl (lv_at hl 3 rfl) ?_
    obtain ⟨r_2, S_3, hr_2, h⟩ := bnd_s h
    refine x_callV E X cwX8_115 (mX8_whoAt l Z hQ  x3 hr_2) rfl rfl rfl rfl hl.1 rfl dX8_shadedFor_12 (fun H locs X => ?_)
    refine lv_iconst (v := (-1 : Int32)) hx hb dX8_shadedFor_15 (by decide) ?_
    refine lv_icmp_ne (tgt := 73) hx hb dX8_shadedFor_16 (by decide) (fun c_4 => ?_) (fun c_4 => ?_)
    · have h := if_f c_4 h
      exact wX8_shadedFor_73 E k0 hk0 S_3 x1 x2 x3 h _ _ _ X hl
    · have h := if_t c_4 h
      refine lv_aload_n hx hb dX8_shadedFor_19 rfl (lv_at hl 0 rfl) ?_
      refine x_getr E X ffX8_74 rfl rfl dX8_shadedFor_20 ?_
      refine lv_iload_n hx hb dX8_shadedFor_23 rfl (lv_at hl 3 rfl) ?_
      obtain ⟨g_5, h⟩ := gd_s h
      refine x_iald E X rfl g_5 dX8_shadedFor_24 ?_
      refine lv_iconst (v := (1 : Int32)) hx hb dX8_shadedFor_25 (by decide) ?_
      refine lv_iload_n hx hb dX8_shadedFor_26 rfl (lv_at hl 1 rfl) ?_
      refine lv_ishl hx hb dX8_shadedFor_27 ?_
      refine lv_iconst (v := (-1 : Int32)) hx hb dX8_shadedFor_28 (by decide) ?_
      refine lv_ixor hx hb dX8_shadedFor_29 ?_
      refine lv_iand hx hb dX8_shadedFor_30 ?_
      refine lv_if_ne (tgt := 37) hx hb dX8_shadedFor_31 (by decide) (fun c_6 => ?_) (fun c_6 => ?_)
      · have h := if_f c_6 h
        refine lv_iload_n hx hb dX8_shadedFor_37 rfl (lv_at hl 2 rfl) ?_
        refine lv_iconst (v := (-1 : Int32)) hx hb dX8_shadedFor_38 (by decide) ?_
        refine lv_icmp_eq (tgt := 71) hx hb dX8_shadedFor_39 (by decide) (fun c_7 => ?_) (fun c_7 => ?_)
        · have h := if_t c_7 h
          exact wX8_shadedFor_71 E k0 hk0 S_3 x1 x3 h _ _ _ X (lv_sub hl [0, 1, 3] rfl)
        · have h := if_f c_7 h
          refine lv_aload_n hx hb dX8_shadedFor_42 rfl (lv_at hl 0 rfl) ?_
          refine lv_iload_n hx hb dX8_shadedFor_43 rfl (lv_at hl 3 rfl) ?_
          refine lv_aload_n hx hb dX8_shadedFor_44 rfl (lv_at hl 0 rfl) ?_
          refine x_getr E X ffX8_7 rfl rfl dX8_shadedFor_45 ?_
          refine lv_iconst (v := (5 : Int32)) hx hb dX8_shadedFor_48 (by decide) ?_
          refine lv_iload_n hx hb dX8_shadedFor_49 rfl (lv_at hl 1 rfl) ?_
          refine lv_iadd hx hb dX8_shadedFor_50 ?_
          obtain ⟨g_8, h⟩ := gd_s h
          refine x_iald E X rfl g_8 dX8_shadedFor_51 ?_
          obtain ⟨r_9, S_10, hr_9, h⟩ := bnd_s h
          refine x_callV E X cwX8_267 (mX8_far l Z hQ  x3 (S_3 1 (((5 : Int32) + x1)).toNatClampNeg) hr_9) rfl rfl rfl rfl hl.1 rfl dX8_shadedFor_52 (fun H locs X => ?_)
          refine lv_aload_n hx hb dX8_shadedFor_55 rfl (lv_at hl 0 rfl) ?_
          refine lv_iload_n hx hb dX8_shadedFor_56 rfl (lv_at hl 2 rfl) ?_
          refine lv_aload_n hx hb dX8_shadedFor_57 rfl (lv_at hl 0 rfl) ?_
          refine x_getr E X ffX8_7 rfl rfl dX8_shadedFor_58 ?_
          refine lv_iconst (v := (5 : Int32)) hx hb dX8_shadedFor_61 (by decide) ?_
          refine lv_iload_n hx hb dX8_shadedFor_62 rfl (lv_at hl 1 rfl) ?_
          refine lv_iadd hx hb dX8_shadedFor_63 ?_
          obtain ⟨g_11, h⟩ := gd_s h
          refine x_iald E X rfl g_11 dX8_shadedFor_64 ?_
          obtain ⟨r_12, S_13, hr_12, h⟩ := bnd_s h
          refine x_callV E X cwX8_267 (mX8_far l Z hQ  x2 (S_10 1 (((5 : Int32) + x1)).toNatClampNeg) hr_12) rfl rfl rfl rfl hl.1 rfl dX8_shadedFor_65 (fun H locs X => ?_)
          refine lv_icmp_ge (tgt := 73) hx hb dX8_shadedFor_68 (by decide) (fun c_14 => ?_) (fun c_14 => ?_)
          · have h := if_t c_14 h
            exact wX8_shadedFor_73 E k0 hk0 S_13 x1 x2 x3 h _ _ _ X hl
          · have h := if_f c_14 h
            exact wX8_shadedFor_71 E k0 hk0 S_13 x1 x3 h _ _ _ X (lv_sub hl [0, 1, 3] rfl)
      · have h := if_t c_6 h
        refine lv_goto (tgt := 73) hx hb dX8_shadedFor_34 (by decide) ?_
        exact wX8_shadedFor_73 E k0 hk0 S_3 x1 x2 x3 h _ _ _ X hl
theorem wX8_shadedFor_4 {p : Program} {l : Launch} {e : Env} {s : State} {m : MethodId} {args : Array Value} {below : List Frame} {meth : Method} {c : Code} {Z : XG} {r : Int32} {S' : Mem} (E : XE p s m args meth c cX8_shadedFor 4 RX8 (some .int) mL Z) : ∀ (n : Nat) (S : Mem) (x1 x2 x3 : Int32), fX8_shadedFor_4 n S x1 x2 x3 = some (r, S') → WN p l e { frames := 2, cells := 0, slots := 0, locals := 45 } s m args below meth c mL Z (XQ mL Z r S') S 4 4 [(0, .ref (Z.2.1 0)), (1, .int x1), (2, .int x2), (3, .int x3)] [] := by
  intro n
  induction n with
  | zero => intro S x1 x2 x3 h; exact absurd (show (none : O) = some _ from h) (by simp)
  | succ n ih => intro S x1 x2 x3 h; exact wX8_shadedFor_4_b E (fX8_shadedFor_4 n) ih S x1 x2 x3 h
set_option maxRecDepth 20000 in
theorem wX8_shadedFor {p : Program} {l : Launch} {e : Env} {s : State} {m : MethodId} {args : Array Value} {below : List Frame} {meth : Method} {c : Code} {Z : XG} {r : Int32} {S' : Mem} (E : XE p s m args meth c cX8_shadedFor 4 RX8 (some .int) mL Z) : ∀ (S : Mem) (x1 : Int32), fX8_shadedFor  S x1 = some (r, S') → WN p l e { frames := 2, cells := 0, slots := 0, locals := 45 } s m args below meth c mL Z (XQ mL Z r S') S 0 4 [(0, .ref (Z.2.1 0)), (1, .int x1)] [] := by
  obtain ⟨hx, hb, -, -, -, -, -, -, -, hQ⟩ := id E
  intro S x1 h H locs ls X hl
  unfold fX8_shadedFor at h
  refine lv_iconst (v := (-1 : Int32)) hx hb dX8_shadedFor_0 (by decide) ?_
  refine lv_istore_n (lv' := [(2, .int (-1 : Int32)), (0, .ref (Z.2.1 0)), (1, .int x1)]) hx hb dX8_shadedFor_1 rfl hl (by decide) rfl (fun ls hl => ?_)
  refine lv_iconst (v := (0 : Int32)) hx hb dX8_shadedFor_2 (by decide) ?_
  refine lv_istore_n (lv' := [(3, .int (0 : Int32)), (2, .int (-1 : Int32)), (0, .ref (Z.2.1 0)), (1, .int x1)]) hx hb dX8_shadedFor_3 rfl hl (by decide) rfl (fun ls hl => ?_)
  exact wX8_shadedFor_4 E   FU S x1 (-1 : Int32) (0 : Int32) h _ _ _ X (lv_sub hl [2, 3, 1, 0] rfl)
/-- SevenToAShadowModel.shadedFor(I)I -/
theorem mX8_shadedFor (l : Launch) (Z : XG) (hQ : wQ (List.length mL) Z) {S S' : Mem} {r : Int32} (x1 : Int32) (h : fX8_shadedFor S x1 = some (r, S')) : XM l yX8_shadedFor cX8_shadedFor 4 (some .int) { frames := 2, cells := 0, slots := 0, locals := 45 } mL Z [.ref (Z.2.1 0), .int x1] S (XQ mL Z r S') := by
  refine XM.of (own := RX8) (by decide +kernel) rfl rfl hQ (fun p e s m args below meth c E ls hl X => ?_)
  exact wX8_shadedFor E S x1 h _ _ _ X hl
def fX8_goesTo (S : Mem) (x1 x2 : Int32) : O := (if x2 = (-1 : Int32) then some ((0 : Int32), S) else gd (inB ((5 : Int32) + x1) 55) <| ltm (mset S 1 (((5 : Int32) + x1)).toNatClampNeg x2) fun S_3 => some ((0 : Int32), S_3))
theorem dX8_goesTo_0 : decode cX8_goesTo 0 = .ok (.iload_n 2, 1) := by decide +kernel
theorem dX8_goesTo_1 : decode cX8_goesTo 1 = .ok (.iconst (-1), 1) := by decide +kernel
theorem dX8_goesTo_2 : decode cX8_goesTo 2 = .ok (.if_icmp .eq 12, 3) := by decide +kernel
theorem dX8_goesTo_5 : decode cX8_goesTo 5 = .ok (.aload_n 0, 1) := by decide +kernel
theorem dX8_goesTo_6 : decode cX8_goesTo 6 = .ok (.getfield 7, 3) := by decide +kernel
theorem dX8_goesTo_9 : decode cX8_goesTo 9 = .ok (.iconst 5, 1) := by decide +kernel
theorem dX8_goesTo_10 : decode cX8_goesTo 10 = .ok (.iload_n 1, 1) := by decide +kernel
theorem dX8_goesTo_11 : decode cX8_goesTo 11 = .ok (.iadd, 1) := by decide +kernel
theorem dX8_goesTo_12 : decode cX8_goesTo 12 = .ok (.iload_n 2, 1) := by decide +kernel
theorem dX8_goesTo_13 : decode cX8_goesTo 13 = .ok (.iastore, 1) := by decide +kernel
theorem dX8_goesTo_14 : decode cX8_goesTo 14 = .ok (.return_, 1) := by decide +kernel
set_option maxRecDepth 20000 in
theorem wX8_goesTo {p : Program} {l : Launch} {e : Env} {s : State} {m : MethodId} {args : Array Value} {below : List Frame} {meth : Method} {c : Code} {Z : XG} {r : Int32} {S' : Mem} (E : XE p s m args meth c cX8_goesTo 3 RX8 none mL Z) : ∀ (S : Mem) (x1 x2 : Int32), fX8_goesTo  S x1 x2 = some (r, S') → WN p l e { frames := 0, cells := 0, slots := 0, locals := 0 } s m args below meth c mL Z (XV mL Z S') S 0 3 [(0, .ref (Z.2.1 0)), (1, .int x1), (2, .int x2)] [] := by
  obtain ⟨hx, hb, -, -, -, -, -, -, -, hQ⟩ := id E
  intro S x1 x2 h H locs ls X hl
  unfold fX8_goesTo at h
  refine lv_iload_n hx hb dX8_goesTo_0 rfl (lv_at hl 2 rfl) ?_
  refine lv_iconst (v := (-1 : Int32)) hx hb dX8_goesTo_1 (by decide) ?_
  refine lv_icmp_eq (tgt := 14) hx hb dX8_goesTo_2 (by decide) (fun c_1 => ?_) (fun c_1 => ?_)
  · have h := if_t c_1 h
    exact x_vret E X h dX8_goesTo_14
  · have h := if_f c_1 h
    refine lv_aload_n hx hb dX8_goesTo_5 rfl (lv_at hl 0 rfl) ?_
    refine x_getr E X ffX8_7 rfl rfl dX8_goesTo_6 ?_
    refine lv_iconst (v := (5 : Int32)) hx hb dX8_goesTo_9 (by decide) ?_
    refine lv_iload_n hx hb dX8_goesTo_10 rfl (lv_at hl 1 rfl) ?_
    refine lv_iadd hx hb dX8_goesTo_11 ?_
    refine lv_iload_n hx hb dX8_goesTo_12 rfl (lv_at hl 2 rfl) ?_
    obtain ⟨g_2, h⟩ := gd_s h
    obtain ⟨S_3, eS_3, h⟩ := ltm_s h
    refine x_iast E X rfl g_2 dX8_goesTo_13 (fun H locs X => ?_)
    rw [← eS_3] at X
    exact x_vret E X h dX8_goesTo_14
/-- SevenToAShadowModel.goesTo(II)V -/
theorem mX8_goesTo (l : Launch) (Z : XG) (hQ : wQ (List.length mL) Z) {S S' : Mem} {r : Int32} (x1 x2 : Int32) (h : fX8_goesTo S x1 x2 = some (r, S')) : XM l yX8_goesTo cX8_goesTo 3 none { frames := 0, cells := 0, slots := 0, locals := 0 } mL Z [.ref (Z.2.1 0), .int x1, .int x2] S (XV mL Z S') := by
  refine XM.of (own := RX8) (by decide +kernel) rfl rfl hQ (fun p e s m args below meth c E ls hl X => ?_)
  exact wX8_goesTo E S x1 x2 h _ _ _ X hl
def fX8_isNearFoe_43 (k0 : Mem → Int32 → Int32 → Int32 → O) (S : Mem) (x1 x2 x3 : Int32) : O := k0 S x1 x2 (x3 + (1 : Int32))
def fX8_isNearFoe_2_b (k0 : Mem → Int32 → Int32 → Int32 → O) (S : Mem) (x1 x2 x3 : Int32) : O := (if (S 0 6) ≤ x3 then some ((0 : Int32), S) else gd (inB x1 10) <| (if (((S 8 (x1).toNatClampNeg) >>> (x3 &&& 31)) &&& (1 : Int32)) = (1 : Int32) then gd (inB ((5 : Int32) + x3) 55) <| bnd (fX8_far S x2 (S 1 (((5 : Int32) + x3)).toNatClampNeg)) fun r_5 S_6 => (if (1 : Int32) < r_5 then fX8_isNearFoe_43 k0 S_6 x1 x2 x3 else some ((1 : Int32), S_6)) else fX8_isNearFoe_43 k0 S x1 x2 x3))
def fX8_isNearFoe_2 : Nat → Mem → Int32 → Int32 → Int32 → O
  | 0 => fun _ _ _ _ => none
  | n + 1 => fX8_isNearFoe_2_b (fX8_isNearFoe_2 n)
def fX8_isNearFoe (S : Mem) (x1 x2 : Int32) : O := fX8_isNearFoe_2  FU S x1 x2 (0 : Int32)
theorem dX8_isNearFoe_0 : decode cX8_isNearFoe 0 = .ok (.iconst 0, 1) := by decide +kernel
theorem dX8_isNearFoe_1 : decode cX8_isNearFoe 1 = .ok (.istore_n 3, 1) := by decide +kernel
theorem dX8_isNearFoe_2 : decode cX8_isNearFoe 2 = .ok (.iload_n 3, 1) := by decide +kernel
theorem dX8_isNearFoe_3 : decode cX8_isNearFoe 3 = .ok (.aload_n 0, 1) := by decide +kernel
theorem dX8_isNearFoe_4 : decode cX8_isNearFoe 4 = .ok (.getfield 100, 3) := by decide +kernel
theorem dX8_isNearFoe_7 : decode cX8_isNearFoe 7 = .ok (.if_icmp .ge 42, 3) := by decide +kernel
theorem dX8_isNearFoe_10 : decode cX8_isNearFoe 10 = .ok (.aload_n 0, 1) := by decide +kernel
theorem dX8_isNearFoe_11 : decode cX8_isNearFoe 11 = .ok (.getfield 31, 3) := by decide +kernel
theorem dX8_isNearFoe_14 : decode cX8_isNearFoe 14 = .ok (.iload_n 1, 1) := by decide +kernel
theorem dX8_isNearFoe_15 : decode cX8_isNearFoe 15 = .ok (.iaload, 1) := by decide +kernel
theorem dX8_isNearFoe_16 : decode cX8_isNearFoe 16 = .ok (.iload_n 3, 1) := by decide +kernel
theorem dX8_isNearFoe_17 : decode cX8_isNearFoe 17 = .ok (.ishr, 1) := by decide +kernel
theorem dX8_isNearFoe_18 : decode cX8_isNearFoe 18 = .ok (.iconst 1, 1) := by decide +kernel
theorem dX8_isNearFoe_19 : decode cX8_isNearFoe 19 = .ok (.iand, 1) := by decide +kernel
theorem dX8_isNearFoe_20 : decode cX8_isNearFoe 20 = .ok (.iconst 1, 1) := by decide +kernel
theorem dX8_isNearFoe_21 : decode cX8_isNearFoe 21 = .ok (.if_icmp .ne 22, 3) := by decide +kernel
theorem dX8_isNearFoe_24 : decode cX8_isNearFoe 24 = .ok (.aload_n 0, 1) := by decide +kernel
theorem dX8_isNearFoe_25 : decode cX8_isNearFoe 25 = .ok (.iload_n 2, 1) := by decide +kernel
theorem dX8_isNearFoe_26 : decode cX8_isNearFoe 26 = .ok (.aload_n 0, 1) := by decide +kernel
theorem dX8_isNearFoe_27 : decode cX8_isNearFoe 27 = .ok (.getfield 7, 3) := by decide +kernel
theorem dX8_isNearFoe_30 : decode cX8_isNearFoe 30 = .ok (.iconst 5, 1) := by decide +kernel
theorem dX8_isNearFoe_31 : decode cX8_isNearFoe 31 = .ok (.iload_n 3, 1) := by decide +kernel
theorem dX8_isNearFoe_32 : decode cX8_isNearFoe 32 = .ok (.iadd, 1) := by decide +kernel
theorem dX8_isNearFoe_33 : decode cX8_isNearFoe 33 = .ok (.iaload, 1) := by decide +kernel
theorem dX8_isNearFoe_34 : decode cX8_isNearFoe 34 = .ok (.invokevirtual 267, 3) := by decide +kernel
theorem dX8_isNearFoe_37 : decode cX8_isNearFoe 37 = .ok (.iconst 1, 1) := by decide +kernel
theorem dX8_isNearFoe_38 : decode cX8_isNearFoe 38 = .ok (.if_icmp .gt 5, 3) := by decide +kernel
theorem dX8_isNearFoe_41 : decode cX8_isNearFoe 41 = .ok (.iconst 1, 1) := by decide +kernel
theorem dX8_isNearFoe_42 : decode cX8_isNearFoe 42 = .ok (.ireturn, 1) := by decide +kernel
theorem dX8_isNearFoe_43 : decode cX8_isNearFoe 43 = .ok (.iinc 3 1, 3) := by decide +kernel
theorem dX8_isNearFoe_46 : decode cX8_isNearFoe 46 = .ok (.goto (-44), 3) := by decide +kernel
theorem dX8_isNearFoe_49 : decode cX8_isNearFoe 49 = .ok (.iconst 0, 1) := by decide +kernel
theorem dX8_isNearFoe_50 : decode cX8_isNearFoe 50 = .ok (.ireturn, 1) := by decide +kernel
set_option maxRecDepth 20000 in
theorem wX8_isNearFoe_43 {p : Program} {l : Launch} {e : Env} {s : State} {m : MethodId} {args : Array Value} {below : List Frame} {meth : Method} {c : Code} {Z : XG} {r : Int32} {S' : Mem} (E : XE p s m args meth c cX8_isNearFoe 4 RX8 (some .boolean) mL Z) (k0 : Mem → Int32 → Int32 → Int32 → O)  (hk0 : ∀ (S : Mem) (x1 x2 x3 : Int32), k0 S x1 x2 x3 = some (r, S') → WN p l e { frames := 2, cells := 0, slots := 0, locals := 45 } s m args below meth c mL Z (XQ mL Z r S') S 2 4 [(0, .ref (Z.2.1 0)), (1, .int x1), (2, .int x2), (3, .int x3)] []) : ∀ (S : Mem) (x1 x2 x3 : Int32), fX8_isNearFoe_43 k0 S x1 x2 x3 = some (r, S') → WN p l e { frames := 2, cells := 0, slots := 0, locals := 45 } s m args below meth c mL Z (XQ mL Z r S') S 43 4 [(0, .ref (Z.2.1 0)), (1, .int x1), (2, .int x2), (3, .int x3)] [] := by
  obtain ⟨hx, hb, -, -, -, -, -, -, -, hQ⟩ := id E
  intro S x1 x2 x3 h H locs ls X hl
  unfold fX8_isNearFoe_43 at h
  refine lv_iinc (v := (x3 + (1 : Int32))) (lv' := [(3, .int (x3 + (1 : Int32))), (0, .ref (Z.2.1 0)), (1, .int x1), (2, .int x2)]) hx hb dX8_isNearFoe_43 hl (k := 3) rfl rfl (by decide) rfl (fun ls hl => ?_)
  refine lv_goto (tgt := 2) hx hb dX8_isNearFoe_46 (by decide) ?_
  exact hk0 S x1 x2 (x3 + (1 : Int32)) h _ _ _ X (lv_sub hl [1, 2, 3, 0] rfl)
set_option maxRecDepth 20000 in
theorem wX8_isNearFoe_2_b {p : Program} {l : Launch} {e : Env} {s : State} {m : MethodId} {args : Array Value} {below : List Frame} {meth : Method} {c : Code} {Z : XG} {r : Int32} {S' : Mem} (E : XE p s m args meth c cX8_isNearFoe 4 RX8 (some .boolean) mL Z) (k0 : Mem → Int32 → Int32 → Int32 → O)  (hk0 : ∀ (S : Mem) (x1 x2 x3 : Int32), k0 S x1 x2 x3 = some (r, S') → WN p l e { frames := 2, cells := 0, slots := 0, locals := 45 } s m args below meth c mL Z (XQ mL Z r S') S 2 4 [(0, .ref (Z.2.1 0)), (1, .int x1), (2, .int x2), (3, .int x3)] []) : ∀ (S : Mem) (x1 x2 x3 : Int32), fX8_isNearFoe_2_b k0 S x1 x2 x3 = some (r, S') → WN p l e { frames := 2, cells := 0, slots := 0, locals := 45 } s m args below meth c mL Z (XQ mL Z r S') S 2 4 [(0, .ref (Z.2.1 0)), (1, .int x1), (2, .int x2), (3, .int x3)] [] := by
  obtain ⟨hx, hb, -, -, -, -, -, -, -, hQ⟩ := id E
  intro S x1 x2 x3 h H locs ls X hl
  unfold fX8_isNearFoe_2_b at h
  refine lv_iload_n hx hb dX8_isNearFoe_2 rfl (lv_at hl 3 rfl) ?_
  refine lv_aload_n hx hb dX8_isNearFoe_3 rfl (lv_at hl 0 rfl) ?_
  refine x_get E X ffX8_100 rfl rfl dX8_isNearFoe_4 ?_
  refine lv_icmp_ge (tgt := 49) hx hb dX8_isNearFoe_7 (by decide) (fun c_1 => ?_) (fun c_1 => ?_)
  · have h := if_t c_1 h
    refine lv_iconst (v := (0 : Int32)) hx hb dX8_isNearFoe_49 (by decide) ?_
    exact x_zret E X rfl h dX8_isNearFoe_50
  · have h := if_f c_1 h
    refine lv_aload_n hx hb dX8_isNearFoe_10 rfl (lv_at hl 0 rfl) ?_
    refine x_getr E X ffX8_31 rfl rfl dX8_isNearFoe_11 ?_
    refine lv_iload_n hx hb dX8_isNearFoe_14 rfl (lv_at hl 1 rfl) ?_
    obtain ⟨g_2, h⟩ := gd_s h
    refine x_iald E X rfl g_2 dX8_isNearFoe_15 ?_
    refine lv_iload_n hx hb dX8_isNearFoe_16 rfl (lv_at hl 3 rfl) ?_
    refine lv_ishr hx hb dX8_isNearFoe_17 ?_
    refine lv_iconst (v := (1 : Int32)) hx hb dX8_isNearFoe_18 (by decide) ?_
    refine lv_iand hx hb dX8_isNearFoe_19 ?_
    refine lv_iconst (v := (1 : Int32)) hx hb dX8_isNearFoe_20 (by decide) ?_
    refine lv_icmp_ne (tgt := 43) hx hb dX8_isNearFoe_21 (by decide) (fun c_3 => ?_) (fun c_3 => ?_)
    · have h := if_f c_3 h
      exact wX8_isNearFoe_43 E k0 hk0 S x1 x2 x3 h _ _ _ X hl
    · have h := if_t c_3 h
      refine lv_aload_n hx hb dX8_isNearFoe_24 rfl (lv_at hl 0 rfl) ?_
      refine lv_iload_n hx hb dX8_isNearFoe_25 rfl (lv_at hl 2 rfl) ?_
      refine lv_aload_n hx hb dX8_isNearFoe_26 rfl (lv_at hl 0 rfl) ?_
      refine x_getr E X ffX8_7 rfl rfl dX8_isNearFoe_27 ?_
      refine lv_iconst (v := (5 : Int32)) hx hb dX8_isNearFoe_30 (by decide) ?_
      refine lv_iload_n hx hb dX8_isNearFoe_31 rfl (lv_at hl 3 rfl) ?_
      refine lv_iadd hx hb dX8_isNearFoe_32 ?_
      obtain ⟨g_4, h⟩ := gd_s h
      refine x_iald E X rfl g_4 dX8_isNearFoe_33 ?_
      obtain ⟨r_5, S_6, hr_5, h⟩ := bnd_s h
      refine x_callV E X cwX8_267 (mX8_far l Z hQ  x2 (S 1 (((5 : Int32) + x3)).toNatClampNeg) hr_5) rfl rfl rfl rfl hl.1 rfl dX8_isNearFoe_34 (fun H locs X => ?_)
      refine lv_iconst (v := (1 : Int32)) hx hb dX8_isNearFoe_37 (by decide) ?_
      refine lv_icmp_gt (tgt := 43) hx hb dX8_isNearFoe_38 (by decide) (fun c_7 => ?_) (fun c_7 => ?_)
      · have h := if_t c_7 h
        exact wX8_isNearFoe_43 E k0 hk0 S_6 x1 x2 x3 h _ _ _ X hl
      · have h := if_f c_7 h
        refine lv_iconst (v := (1 : Int32)) hx hb dX8_isNearFoe_41 (by decide) ?_
        exact x_zret E X rfl h dX8_isNearFoe_42
theorem wX8_isNearFoe_2 {p : Program} {l : Launch} {e : Env} {s : State} {m : MethodId} {args : Array Value} {below : List Frame} {meth : Method} {c : Code} {Z : XG} {r : Int32} {S' : Mem} (E : XE p s m args meth c cX8_isNearFoe 4 RX8 (some .boolean) mL Z) : ∀ (n : Nat) (S : Mem) (x1 x2 x3 : Int32), fX8_isNearFoe_2 n S x1 x2 x3 = some (r, S') → WN p l e { frames := 2, cells := 0, slots := 0, locals := 45 } s m args below meth c mL Z (XQ mL Z r S') S 2 4 [(0, .ref (Z.2.1 0)), (1, .int x1), (2, .int x2), (3, .int x3)] [] := by
  intro n
  induction n with
  | zero => intro S x1 x2 x3 h; exact absurd (show (none : O) = some _ from h) (by simp)
  | succ n ih => intro S x1 x2 x3 h; exact wX8_isNearFoe_2_b E (fX8_isNearFoe_2 n) ih S x1 x2 x3 h
set_option maxRecDepth 20000 in
theorem wX8_isNearFoe {p : Program} {l : Launch} {e : Env} {s : State} {m : MethodId} {args : Array Value} {below : List Frame} {meth : Method} {c : Code} {Z : XG} {r : Int32} {S' : Mem} (E : XE p s m args meth c cX8_isNearFoe 4 RX8 (some .boolean) mL Z) : ∀ (S : Mem) (x1 x2 : Int32), fX8_isNearFoe  S x1 x2 = some (r, S') → WN p l e { frames := 2, cells := 0, slots := 0, locals := 45 } s m args below meth c mL Z (XQ mL Z r S') S 0 4 [(0, .ref (Z.2.1 0)), (1, .int x1), (2, .int x2)] [] := by
  obtain ⟨hx, hb, -, -, -, -, -, -, -, hQ⟩ := id E
  intro S x1 x2 h H locs ls X hl
  unfold fX8_isNearFoe at h
  refine lv_iconst (v := (0 : Int32)) hx hb dX8_isNearFoe_0 (by decide) ?_
  refine lv_istore_n (lv' := [(3, .int (0 : Int32)), (0, .ref (Z.2.1 0)), (1, .int x1), (2, .int x2)]) hx hb dX8_isNearFoe_1 rfl hl (by decide) rfl (fun ls hl => ?_)
  exact wX8_isNearFoe_2 E   FU S x1 x2 (0 : Int32) h _ _ _ X (lv_sub hl [1, 2, 3, 0] rfl)
/-- SevenToAShadowModel.isNearFoe(II)Z -/
theorem mX8_isNearFoe (l : Launch) (Z : XG) (hQ : wQ (List.length mL) Z) {S S' : Mem} {r : Int32} (x1 x2 : Int32) (h : fX8_isNearFoe S x1 x2 = some (r, S')) : XM l yX8_isNearFoe cX8_isNearFoe 4 (some .boolean) { frames := 2, cells := 0, slots := 0, locals := 45 } mL Z [.ref (Z.2.1 0), .int x1, .int x2] S (XQ mL Z r S') := by
  refine XM.of (own := RX8) (by decide +kernel) rfl rfl hQ (fun p e s m args below meth c E ls hl X => ?_)
  exact wX8_isNearFoe E S x1 x2 h _ _ _ X hl
def fX8_awayFor_67 (k0 : Mem → Int32 → Int32 → Int32 → O) (S : Mem) (x1 x2 x3 : Int32) : O := k0 S x1 x2 (x3 + (1 : Int32))
def fX8_awayFor_65 (k0 : Mem → Int32 → Int32 → Int32 → O) (S : Mem) (x1 x3 : Int32) : O := fX8_awayFor_67 k0 S x1 x3 x3
def fX8_awayFor_4_b (k0 : Mem → Int32 → Int32 → Int32 → O) (S : Mem) (x1 x2 x3 : Int32) : O := (if (25 : Int32) ≤ x3 then some (x2, S) else bnd (fX8_whoAt S x3) fun r_2 S_3 => (if r_2 = (-1 : Int32) then bnd (fX8_isNearFoe S_3 x1 x3) fun r_5 S_6 => (if r_5 = 0 then (if x2 = (-1 : Int32) then fX8_awayFor_65 k0 S_6 x1 x3 else gd (inB ((5 : Int32) + x1) 55) <| bnd (fX8_far S_6 x3 (S_6 1 (((5 : Int32) + x1)).toNatClampNeg)) fun r_10 S_11 => gd (inB ((5 : Int32) + x1) 55) <| bnd (fX8_far S_11 x2 (S_11 1 (((5 : Int32) + x1)).toNatClampNeg)) fun r_13 S_14 => (if r_13 ≤ r_10 then fX8_awayFor_67 k0 S_14 x1 x2 x3 else fX8_awayFor_65 k0 S_14 x1 x3)) else fX8_awayFor_67 k0 S_6 x1 x2 x3) else fX8_awayFor_67 k0 S_3 x1 x2 x3))
def fX8_awayFor_4 : Nat → Mem → Int32 → Int32 → Int32 → O
  | 0 => fun _ _ _ _ => none
  | n + 1 => fX8_awayFor_4_b (fX8_awayFor_4 n)
def fX8_awayFor (S : Mem) (x1 : Int32) : O := fX8_awayFor_4  FU S x1 (-1 : Int32) (0 : Int32)
theorem dX8_awayFor_0 : decode cX8_awayFor 0 = .ok (.iconst (-1), 1) := by decide +kernel
theorem dX8_awayFor_1 : decode cX8_awayFor 1 = .ok (.istore_n 2, 1) := by decide +kernel
theorem dX8_awayFor_2 : decode cX8_awayFor 2 = .ok (.iconst 0, 1) := by decide +kernel
theorem dX8_awayFor_3 : decode cX8_awayFor 3 = .ok (.istore_n 3, 1) := by decide +kernel
theorem dX8_awayFor_4 : decode cX8_awayFor 4 = .ok (.iload_n 3, 1) := by decide +kernel
theorem dX8_awayFor_5 : decode cX8_awayFor 5 = .ok (.bipush 25, 2) := by decide +kernel
theorem dX8_awayFor_7 : decode cX8_awayFor 7 = .ok (.if_icmp .ge 66, 3) := by decide +kernel
theorem dX8_awayFor_10 : decode cX8_awayFor 10 = .ok (.aload_n 0, 1) := by decide +kernel
theorem dX8_awayFor_11 : decode cX8_awayFor 11 = .ok (.iload_n 3, 1) := by decide +kernel
theorem dX8_awayFor_12 : decode cX8_awayFor 12 = .ok (.invokevirtual 115, 3) := by decide +kernel
theorem dX8_awayFor_15 : decode cX8_awayFor 15 = .ok (.iconst (-1), 1) := by decide +kernel
theorem dX8_awayFor_16 : decode cX8_awayFor 16 = .ok (.if_icmp .ne 51, 3) := by decide +kernel
theorem dX8_awayFor_19 : decode cX8_awayFor 19 = .ok (.aload_n 0, 1) := by decide +kernel
theorem dX8_awayFor_20 : decode cX8_awayFor 20 = .ok (.iload_n 1, 1) := by decide +kernel
theorem dX8_awayFor_21 : decode cX8_awayFor 21 = .ok (.iload_n 3, 1) := by decide +kernel
theorem dX8_awayFor_22 : decode cX8_awayFor 22 = .ok (.invokevirtual 270, 3) := by decide +kernel
theorem dX8_awayFor_25 : decode cX8_awayFor 25 = .ok (.ifCond .eq 6, 3) := by decide +kernel
theorem dX8_awayFor_28 : decode cX8_awayFor 28 = .ok (.goto 39, 3) := by decide +kernel
theorem dX8_awayFor_31 : decode cX8_awayFor 31 = .ok (.iload_n 2, 1) := by decide +kernel
theorem dX8_awayFor_32 : decode cX8_awayFor 32 = .ok (.iconst (-1), 1) := by decide +kernel
theorem dX8_awayFor_33 : decode cX8_awayFor 33 = .ok (.if_icmp .eq 32, 3) := by decide +kernel
theorem dX8_awayFor_36 : decode cX8_awayFor 36 = .ok (.aload_n 0, 1) := by decide +kernel
theorem dX8_awayFor_37 : decode cX8_awayFor 37 = .ok (.iload_n 3, 1) := by decide +kernel
theorem dX8_awayFor_38 : decode cX8_awayFor 38 = .ok (.aload_n 0, 1) := by decide +kernel
theorem dX8_awayFor_39 : decode cX8_awayFor 39 = .ok (.getfield 7, 3) := by decide +kernel
theorem dX8_awayFor_42 : decode cX8_awayFor 42 = .ok (.iconst 5, 1) := by decide +kernel
theorem dX8_awayFor_43 : decode cX8_awayFor 43 = .ok (.iload_n 1, 1) := by decide +kernel
theorem dX8_awayFor_44 : decode cX8_awayFor 44 = .ok (.iadd, 1) := by decide +kernel
theorem dX8_awayFor_45 : decode cX8_awayFor 45 = .ok (.iaload, 1) := by decide +kernel
theorem dX8_awayFor_46 : decode cX8_awayFor 46 = .ok (.invokevirtual 267, 3) := by decide +kernel
theorem dX8_awayFor_49 : decode cX8_awayFor 49 = .ok (.aload_n 0, 1) := by decide +kernel
theorem dX8_awayFor_50 : decode cX8_awayFor 50 = .ok (.iload_n 2, 1) := by decide +kernel
theorem dX8_awayFor_51 : decode cX8_awayFor 51 = .ok (.aload_n 0, 1) := by decide +kernel
theorem dX8_awayFor_52 : decode cX8_awayFor 52 = .ok (.getfield 7, 3) := by decide +kernel
theorem dX8_awayFor_55 : decode cX8_awayFor 55 = .ok (.iconst 5, 1) := by decide +kernel
theorem dX8_awayFor_56 : decode cX8_awayFor 56 = .ok (.iload_n 1, 1) := by decide +kernel
theorem dX8_awayFor_57 : decode cX8_awayFor 57 = .ok (.iadd, 1) := by decide +kernel
theorem dX8_awayFor_58 : decode cX8_awayFor 58 = .ok (.iaload, 1) := by decide +kernel
theorem dX8_awayFor_59 : decode cX8_awayFor 59 = .ok (.invokevirtual 267, 3) := by decide +kernel
theorem dX8_awayFor_62 : decode cX8_awayFor 62 = .ok (.if_icmp .ge 5, 3) := by decide +kernel
theorem dX8_awayFor_65 : decode cX8_awayFor 65 = .ok (.iload_n 3, 1) := by decide +kernel
theorem dX8_awayFor_66 : decode cX8_awayFor 66 = .ok (.istore_n 2, 1) := by decide +kernel
theorem dX8_awayFor_67 : decode cX8_awayFor 67 = .ok (.iinc 3 1, 3) := by decide +kernel
theorem dX8_awayFor_70 : decode cX8_awayFor 70 = .ok (.goto (-66), 3) := by decide +kernel
theorem dX8_awayFor_73 : decode cX8_awayFor 73 = .ok (.iload_n 2, 1) := by decide +kernel
theorem dX8_awayFor_74 : decode cX8_awayFor 74 = .ok (.ireturn, 1) := by decide +kernel
set_option maxRecDepth 20000 in
theorem wX8_awayFor_67 {p : Program} {l : Launch} {e : Env} {s : State} {m : MethodId} {args : Array Value} {below : List Frame} {meth : Method} {c : Code} {Z : XG} {r : Int32} {S' : Mem} (E : XE p s m args meth c cX8_awayFor 4 RX8 (some .int) mL Z) (k0 : Mem → Int32 → Int32 → Int32 → O)  (hk0 : ∀ (S : Mem) (x1 x2 x3 : Int32), k0 S x1 x2 x3 = some (r, S') → WN p l e { frames := 3, cells := 0, slots := 0, locals := 68 } s m args below meth c mL Z (XQ mL Z r S') S 4 4 [(0, .ref (Z.2.1 0)), (1, .int x1), (2, .int x2), (3, .int x3)] []) : ∀ (S : Mem) (x1 x2 x3 : Int32), fX8_awayFor_67 k0 S x1 x2 x3 = some (r, S') → WN p l e { frames := 3, cells := 0, slots := 0, locals := 68 } s m args below meth c mL Z (XQ mL Z r S') S 67 4 [(0, .ref (Z.2.1 0)), (1, .int x1), (2, .int x2), (3, .int x3)] [] := by
  obtain ⟨hx, hb, -, -, -, -, -, -, -, hQ⟩ := id E
  intro S x1 x2 x3 h H locs ls X hl
  unfold fX8_awayFor_67 at h
  refine lv_iinc (v := (x3 + (1 : Int32))) (lv' := [(3, .int (x3 + (1 : Int32))), (0, .ref (Z.2.1 0)), (1, .int x1), (2, .int x2)]) hx hb dX8_awayFor_67 hl (k := 3) rfl rfl (by decide) rfl (fun ls hl => ?_)
  refine lv_goto (tgt := 4) hx hb dX8_awayFor_70 (by decide) ?_
  exact hk0 S x1 x2 (x3 + (1 : Int32)) h _ _ _ X (lv_sub hl [1, 2, 3, 0] rfl)
set_option maxRecDepth 20000 in
theorem wX8_awayFor_65 {p : Program} {l : Launch} {e : Env} {s : State} {m : MethodId} {args : Array Value} {below : List Frame} {meth : Method} {c : Code} {Z : XG} {r : Int32} {S' : Mem} (E : XE p s m args meth c cX8_awayFor 4 RX8 (some .int) mL Z) (k0 : Mem → Int32 → Int32 → Int32 → O)  (hk0 : ∀ (S : Mem) (x1 x2 x3 : Int32), k0 S x1 x2 x3 = some (r, S') → WN p l e { frames := 3, cells := 0, slots := 0, locals := 68 } s m args below meth c mL Z (XQ mL Z r S') S 4 4 [(0, .ref (Z.2.1 0)), (1, .int x1), (2, .int x2), (3, .int x3)] []) : ∀ (S : Mem) (x1 x3 : Int32), fX8_awayFor_65 k0 S x1 x3 = some (r, S') → WN p l e { frames := 3, cells := 0, slots := 0, locals := 68 } s m args below meth c mL Z (XQ mL Z r S') S 65 4 [(0, .ref (Z.2.1 0)), (1, .int x1), (3, .int x3)] [] := by
  obtain ⟨hx, hb, -, -, -, -, -, -, -, hQ⟩ := id E
  intro S x1 x3 h H locs ls X hl
  unfold fX8_awayFor_65 at h
  refine lv_iload_n hx hb dX8_awayFor_65 rfl (lv_at hl 2 rfl) ?_
  refine lv_istore_n (lv' := [(2, .int x3), (0, .ref (Z.2.1 0)), (1, .int x1), (3, .int x3)]) hx hb dX8_awayFor_66 rfl hl (by decide) rfl (fun ls hl => ?_)
  exact wX8_awayFor_67 E k0 hk0 S x1 x3 x3 h _ _ _ X (lv_sub hl [1, 2, 0, 3] rfl)
set_option maxRecDepth 20000 in
theorem wX8_awayFor_4_b {p : Program} {l : Launch} {e : Env} {s : State} {m : MethodId} {args : Array Value} {below : List Frame} {meth : Method} {c : Code} {Z : XG} {r : Int32} {S' : Mem} (E : XE p s m args meth c cX8_awayFor 4 RX8 (some .int) mL Z) (k0 : Mem → Int32 → Int32 → Int32 → O)  (hk0 : ∀ (S : Mem) (x1 x2 x3 : Int32), k0 S x1 x2 x3 = some (r, S') → WN p l e { frames := 3, cells := 0, slots := 0, locals := 68 } s m args below meth c mL Z (XQ mL Z r S') S 4 4 [(0, .ref (Z.2.1 0)), (1, .int x1), (2, .int x2), (3, .int x3)] []) : ∀ (S : Mem) (x1 x2 x3 : Int32), fX8_awayFor_4_b k0 S x1 x2 x3 = some (r, S') → WN p l e { frames := 3, cells := 0, slots := 0, locals := 68 } s m args below meth c mL Z (XQ mL Z r S') S 4 4 [(0, .ref (Z.2.1 0)), (1, .int x1), (2, .int x2), (3, .int x3)] [] := by
  obtain ⟨hx, hb, -, -, -, -, -, -, -, hQ⟩ := id E
  intro S x1 x2 x3 h H locs ls X hl
  unfold fX8_awayFor_4_b at h
  refine lv_iload_n hx hb dX8_awayFor_4 rfl (lv_at hl 3 rfl) ?_
  refine lv_bipush (v := (25 : Int32)) hx hb dX8_awayFor_5 (by decide) ?_
  refine lv_icmp_ge (tgt := 73) hx hb dX8_awayFor_7 (by decide) (fun c_1 => ?_) (fun c_1 => ?_)
  · have h := if_t c_1 h
    refine lv_iload_n hx hb dX8_awayFor_73 rfl (lv_at hl 2 rfl) ?_
    exact x_iret E X h dX8_awayFor_74
  · have h := if_f c_1 h
    refine lv_aload_n hx hb dX8_awayFor_10 rfl (lv_at hl 0 rfl) ?_
    refine lv_iload_n hx hb dX8_awayFor_11 rfl (lv_at hl 3 rfl) ?_
    obtain ⟨r_2, S_3, hr_2, h⟩ := bnd_s h
    refine x_callV E X cwX8_115 (mX8_whoAt l Z hQ  x3 hr_2) rfl rfl rfl rfl hl.1 rfl dX8_awayFor_12 (fun H locs X => ?_)
    refine lv_iconst (v := (-1 : Int32)) hx hb dX8_awayFor_15 (by decide) ?_
    refine lv_icmp_ne (tgt := 67) hx hb dX8_awayFor_16 (by decide) (fun c_4 => ?_) (fun c_4 => ?_)
    · have h := if_f c_4 h
      exact wX8_awayFor_67 E k0 hk0 S_3 x1 x2 x3 h _ _ _ X hl
    · have h := if_t c_4 h
      refine lv_aload_n hx hb dX8_awayFor_19 rfl (lv_at hl 0 rfl) ?_
      refine lv_iload_n hx hb dX8_awayFor_20 rfl (lv_at hl 1 rfl) ?_
      refine lv_iload_n hx hb dX8_awayFor_21 rfl (lv_at hl 3 rfl) ?_
      obtain ⟨r_5, S_6, hr_5, h⟩ := bnd_s h
      refine x_callV E X cwX8_270 (mX8_isNearFoe l Z hQ  x1 x3 hr_5) rfl rfl rfl rfl hl.1 rfl dX8_awayFor_22 (fun H locs X => ?_)
      refine lv_if_eq (tgt := 31) hx hb dX8_awayFor_25 (by decide) (fun c_7 => ?_) (fun c_7 => ?_)
      · have h := if_t c_7 h
        refine lv_iload_n hx hb dX8_awayFor_31 rfl (lv_at hl 2 rfl) ?_
        refine lv_iconst (v := (-1 : Int32)) hx hb dX8_awayFor_32 (by decide) ?_
        refine lv_icmp_eq (tgt := 65) hx hb dX8_awayFor_33 (by decide) (fun c_8 => ?_) (fun c_8 => ?_)
        · have h := if_t c_8 h
          exact wX8_awayFor_65 E k0 hk0 S_6 x1 x3 h _ _ _ X (lv_sub hl [0, 1, 3] rfl)
        · have h := if_f c_8 h
          refine lv_aload_n hx hb dX8_awayFor_36 rfl (lv_at hl 0 rfl) ?_
          refine lv_iload_n hx hb dX8_awayFor_37 rfl (lv_at hl 3 rfl) ?_
          refine lv_aload_n hx hb dX8_awayFor_38 rfl (lv_at hl 0 rfl) ?_
          refine x_getr E X ffX8_7 rfl rfl dX8_awayFor_39 ?_
          refine lv_iconst (v := (5 : Int32)) hx hb dX8_awayFor_42 (by decide) ?_
          refine lv_iload_n hx hb dX8_awayFor_43 rfl (lv_at hl 1 rfl) ?_
          refine lv_iadd hx hb dX8_awayFor_44 ?_
          obtain ⟨g_9, h⟩ := gd_s h
          refine x_iald E X rfl g_9 dX8_awayFor_45 ?_
          obtain ⟨r_10, S_11, hr_10, h⟩ := bnd_s h
          refine x_callV E X cwX8_267 (mX8_far l Z hQ  x3 (S_6 1 (((5 : Int32) + x1)).toNatClampNeg) hr_10) rfl rfl rfl rfl hl.1 rfl dX8_awayFor_46 (fun H locs X => ?_)
          refine lv_aload_n hx hb dX8_awayFor_49 rfl (lv_at hl 0 rfl) ?_
          refine lv_iload_n hx hb dX8_awayFor_50 rfl (lv_at hl 2 rfl) ?_
          refine lv_aload_n hx hb dX8_awayFor_51 rfl (lv_at hl 0 rfl) ?_
          refine x_getr E X ffX8_7 rfl rfl dX8_awayFor_52 ?_
          refine lv_iconst (v := (5 : Int32)) hx hb dX8_awayFor_55 (by decide) ?_
          refine lv_iload_n hx hb dX8_awayFor_56 rfl (lv_at hl 1 rfl) ?_
          refine lv_iadd hx hb dX8_awayFor_57 ?_
          obtain ⟨g_12, h⟩ := gd_s h
          refine x_iald E X rfl g_12 dX8_awayFor_58 ?_
          obtain ⟨r_13, S_14, hr_13, h⟩ := bnd_s h
          refine x_callV E X cwX8_267 (mX8_far l Z hQ  x2 (S_11 1 (((5 : Int32) + x1)).toNatClampNeg) hr_13) rfl rfl rfl rfl hl.1 rfl dX8_awayFor_59 (fun H locs X => ?_)
          refine lv_icmp_ge (tgt := 67) hx hb dX8_awayFor_62 (by decide) (fun c_15 => ?_) (fun c_15 => ?_)
          · have h := if_t c_15 h
            exact wX8_awayFor_67 E k0 hk0 S_14 x1 x2 x3 h _ _ _ X hl
          · have h := if_f c_15 h
            exact wX8_awayFor_65 E k0 hk0 S_14 x1 x3 h _ _ _ X (lv_sub hl [0, 1, 3] rfl)
      · have h := if_f c_7 h
        refine lv_goto (tgt := 67) hx hb dX8_awayFor_28 (by decide) ?_
        exact wX8_awayFor_67 E k0 hk0 S_6 x1 x2 x3 h _ _ _ X hl
theorem wX8_awayFor_4 {p : Program} {l : Launch} {e : Env} {s : State} {m : MethodId} {args : Array Value} {below : List Frame} {meth : Method} {c : Code} {Z : XG} {r : Int32} {S' : Mem} (E : XE p s m args meth c cX8_awayFor 4 RX8 (some .int) mL Z) : ∀ (n : Nat) (S : Mem) (x1 x2 x3 : Int32), fX8_awayFor_4 n S x1 x2 x3 = some (r, S') → WN p l e { frames := 3, cells := 0, slots := 0, locals := 68 } s m args below meth c mL Z (XQ mL Z r S') S 4 4 [(0, .ref (Z.2.1 0)), (1, .int x1), (2, .int x2), (3, .int x3)] [] := by
  intro n
  induction n with
  | zero => intro S x1 x2 x3 h; exact absurd (show (none : O) = some _ from h) (by simp)
  | succ n ih => intro S x1 x2 x3 h; exact wX8_awayFor_4_b E (fX8_awayFor_4 n) ih S x1 x2 x3 h
set_option maxRecDepth 20000 in
theorem wX8_awayFor {p : Program} {l : Launch} {e : Env} {s : State} {m : MethodId} {args : Array Value} {below : List Frame} {meth : Method} {c : Code} {Z : XG} {r : Int32} {S' : Mem} (E : XE p s m args meth c cX8_awayFor 4 RX8 (some .int) mL Z) : ∀ (S : Mem) (x1 : Int32), fX8_awayFor  S x1 = some (r, S') → WN p l e { frames := 3, cells := 0, slots := 0, locals := 68 } s m args below meth c mL Z (XQ mL Z r S') S 0 4 [(0, .ref (Z.2.1 0)), (1, .int x1)] [] := by
  obtain ⟨hx, hb, -, -, -, -, -, -, -, hQ⟩ := id E
  intro S x1 h H locs ls X hl
  unfold fX8_awayFor at h
  refine lv_iconst (v := (-1 : Int32)) hx hb dX8_awayFor_0 (by decide) ?_
  refine lv_istore_n (lv' := [(2, .int (-1 : Int32)), (0, .ref (Z.2.1 0)), (1, .int x1)]) hx hb dX8_awayFor_1 rfl hl (by decide) rfl (fun ls hl => ?_)
  refine lv_iconst (v := (0 : Int32)) hx hb dX8_awayFor_2 (by decide) ?_
  refine lv_istore_n (lv' := [(3, .int (0 : Int32)), (2, .int (-1 : Int32)), (0, .ref (Z.2.1 0)), (1, .int x1)]) hx hb dX8_awayFor_3 rfl hl (by decide) rfl (fun ls hl => ?_)
  exact wX8_awayFor_4 E   FU S x1 (-1 : Int32) (0 : Int32) h _ _ _ X (lv_sub hl [2, 3, 1, 0] rfl)
/-- SevenToAShadowModel.awayFor(I)I -/
theorem mX8_awayFor (l : Launch) (Z : XG) (hQ : wQ (List.length mL) Z) {S S' : Mem} {r : Int32} (x1 : Int32) (h : fX8_awayFor S x1 = some (r, S')) : XM l yX8_awayFor cX8_awayFor 4 (some .int) { frames := 3, cells := 0, slots := 0, locals := 68 } mL Z [.ref (Z.2.1 0), .int x1] S (XQ mL Z r S') := by
  refine XM.of (own := RX8) (by decide +kernel) rfl rfl hQ (fun p e s m args below meth c E ls hl X => ?_)
  exact wX8_awayFor E S x1 h _ _ _ X hl
def fX8_buys_113 (k0 : Mem → Int32 → Int32 → Int32 → O) (S : Mem) (x1 x2 x3 : Int32) : O := k0 S x1 x2 (x3 + (1 : Int32))
def fX8_buys_111 (k0 : Mem → Int32 → Int32 → Int32 → O) (S : Mem) (x1 x3 : Int32) : O := fX8_buys_113 k0 S x1 x3 x3
def fX8_buys_23_b (k0 : Mem → Int32 → Int32 → Int32 → O) (S : Mem) (x1 x2 x3 : Int32) : O := (if (S 0 6) ≤ x3 then (if x2 = (-1 : Int32) then some ((0 : Int32), S) else gd (inB ((5 : Int32) + x1) 55) <| lti (S 1 (((5 : Int32) + x1)).toNatClampNeg) fun x3_4 => gd (inB ((5 : Int32) + x2) 55) <| gd (inB ((5 : Int32) + x1) 55) <| ltm (mset S 1 (((5 : Int32) + x1)).toNatClampNeg (S 1 (((5 : Int32) + x2)).toNatClampNeg)) fun S_7 => gd (inB ((5 : Int32) + x2) 55) <| ltm (mset S_7 1 (((5 : Int32) + x2)).toNatClampNeg x3_4) fun S_9 => gd (inB ((15 : Int32) + x1) 55) <| gd (inB ((15 : Int32) + x1) 55) <| ltm (mset S_9 1 (((15 : Int32) + x1)).toNatClampNeg ((S_9 1 (((15 : Int32) + x1)).toNatClampNeg) - (S_9 4 ((0 : Int32)).toNatClampNeg))) fun S_12 => gd (inB ((15 : Int32) + x2) 55) <| gd (inB ((15 : Int32) + x2) 55) <| ltm (mset S_12 1 (((15 : Int32) + x2)).toNatClampNeg ((S_12 1 (((15 : Int32) + x2)).toNatClampNeg) + (S_12 4 ((0 : Int32)).toNatClampNeg))) fun S_15 => gd (inB ((45 : Int32) + x1) 55) <| gd (inB ((45 : Int32) + x1) 55) <| ltm (mset S_15 1 (((45 : Int32) + x1)).toNatClampNeg ((S_15 1 (((45 : Int32) + x1)).toNatClampNeg) + (1 : Int32))) fun S_18 => gd (inB ((35 : Int32) + x2) 55) <| gd (inB ((35 : Int32) + x2) 55) <| ltm (mset S_18 1 (((35 : Int32) + x2)).toNatClampNeg ((S_18 1 (((35 : Int32) + x2)).toNatClampNeg) + (1 : Int32))) fun S_21 => some ((0 : Int32), S_21)) else (if x3 = x1 then fX8_buys_113 k0 S x1 x2 x3 else bnd (fX8_isShaded S x3) fun r_23 S_24 => (if r_23 = 0 then fX8_buys_113 k0 S_24 x1 x2 x3 else gd (inB ((25 : Int32) + x3) 55) <| gd (inB ((25 : Int32) + x1) 55) <| (if (S_24 1 (((25 : Int32) + x1)).toNatClampNeg) ≤ (S_24 1 (((25 : Int32) + x3)).toNatClampNeg) then fX8_buys_113 k0 S_24 x1 x2 x3 else (if ((((S_24 0 10) ||| (S_24 0 11)) >>> (x3 &&& 31)) &&& (1 : Int32)) = (1 : Int32) then fX8_buys_113 k0 S_24 x1 x2 x3 else (if x2 = (-1 : Int32) then fX8_buys_111 k0 S_24 x1 x3 else gd (inB ((25 : Int32) + x3) 55) <| gd (inB ((25 : Int32) + x2) 55) <| (if (S_24 1 (((25 : Int32) + x2)).toNatClampNeg) ≤ (S_24 1 (((25 : Int32) + x3)).toNatClampNeg) then fX8_buys_113 k0 S_24 x1 x2 x3 else fX8_buys_111 k0 S_24 x1 x3)))))))
def fX8_buys_23 : Nat → Mem → Int32 → Int32 → Int32 → O
  | 0 => fun _ _ _ _ => none
  | n + 1 => fX8_buys_23_b (fX8_buys_23 n)
def fX8_buys (S : Mem) (x1 : Int32) : O := gd (inB ((15 : Int32) + x1) 55) <| (if (S 4 ((0 : Int32)).toNatClampNeg) ≤ (S 1 (((15 : Int32) + x1)).toNatClampNeg) then fX8_buys_23  FU S x1 (-1 : Int32) (0 : Int32) else some ((0 : Int32), S))
theorem dX8_buys_0 : decode cX8_buys 0 = .ok (.aload_n 0, 1) := by decide +kernel
theorem dX8_buys_1 : decode cX8_buys 1 = .ok (.getfield 7, 3) := by decide +kernel
theorem dX8_buys_4 : decode cX8_buys 4 = .ok (.bipush 15, 2) := by decide +kernel
theorem dX8_buys_6 : decode cX8_buys 6 = .ok (.iload_n 1, 1) := by decide +kernel
theorem dX8_buys_7 : decode cX8_buys 7 = .ok (.iadd, 1) := by decide +kernel
theorem dX8_buys_8 : decode cX8_buys 8 = .ok (.iaload, 1) := by decide +kernel
theorem dX8_buys_9 : decode cX8_buys 9 = .ok (.aload_n 0, 1) := by decide +kernel
theorem dX8_buys_10 : decode cX8_buys 10 = .ok (.getfield 19, 3) := by decide +kernel
theorem dX8_buys_13 : decode cX8_buys 13 = .ok (.iconst 0, 1) := by decide +kernel
theorem dX8_buys_14 : decode cX8_buys 14 = .ok (.iaload, 1) := by decide +kernel
theorem dX8_buys_15 : decode cX8_buys 15 = .ok (.if_icmp .ge 4, 3) := by decide +kernel
theorem dX8_buys_18 : decode cX8_buys 18 = .ok (.return_, 1) := by decide +kernel
theorem dX8_buys_19 : decode cX8_buys 19 = .ok (.iconst (-1), 1) := by decide +kernel
theorem dX8_buys_20 : decode cX8_buys 20 = .ok (.istore_n 2, 1) := by decide +kernel
theorem dX8_buys_21 : decode cX8_buys 21 = .ok (.iconst 0, 1) := by decide +kernel
theorem dX8_buys_22 : decode cX8_buys 22 = .ok (.istore_n 3, 1) := by decide +kernel
theorem dX8_buys_23 : decode cX8_buys 23 = .ok (.iload_n 3, 1) := by decide +kernel
theorem dX8_buys_24 : decode cX8_buys 24 = .ok (.aload_n 0, 1) := by decide +kernel
theorem dX8_buys_25 : decode cX8_buys 25 = .ok (.getfield 100, 3) := by decide +kernel
theorem dX8_buys_28 : decode cX8_buys 28 = .ok (.if_icmp .ge 91, 3) := by decide +kernel
theorem dX8_buys_31 : decode cX8_buys 31 = .ok (.iload_n 3, 1) := by decide +kernel
theorem dX8_buys_32 : decode cX8_buys 32 = .ok (.iload_n 1, 1) := by decide +kernel
theorem dX8_buys_33 : decode cX8_buys 33 = .ok (.if_icmp .eq 80, 3) := by decide +kernel
theorem dX8_buys_36 : decode cX8_buys 36 = .ok (.aload_n 0, 1) := by decide +kernel
theorem dX8_buys_37 : decode cX8_buys 37 = .ok (.iload_n 3, 1) := by decide +kernel
theorem dX8_buys_38 : decode cX8_buys 38 = .ok (.invokevirtual 260, 3) := by decide +kernel
theorem dX8_buys_41 : decode cX8_buys 41 = .ok (.ifCond .eq 72, 3) := by decide +kernel
theorem dX8_buys_44 : decode cX8_buys 44 = .ok (.aload_n 0, 1) := by decide +kernel
theorem dX8_buys_45 : decode cX8_buys 45 = .ok (.getfield 7, 3) := by decide +kernel
theorem dX8_buys_48 : decode cX8_buys 48 = .ok (.bipush 25, 2) := by decide +kernel
theorem dX8_buys_50 : decode cX8_buys 50 = .ok (.iload_n 3, 1) := by decide +kernel
theorem dX8_buys_51 : decode cX8_buys 51 = .ok (.iadd, 1) := by decide +kernel
theorem dX8_buys_52 : decode cX8_buys 52 = .ok (.iaload, 1) := by decide +kernel
theorem dX8_buys_53 : decode cX8_buys 53 = .ok (.aload_n 0, 1) := by decide +kernel
theorem dX8_buys_54 : decode cX8_buys 54 = .ok (.getfield 7, 3) := by decide +kernel
theorem dX8_buys_57 : decode cX8_buys 57 = .ok (.bipush 25, 2) := by decide +kernel
theorem dX8_buys_59 : decode cX8_buys 59 = .ok (.iload_n 1, 1) := by decide +kernel
theorem dX8_buys_60 : decode cX8_buys 60 = .ok (.iadd, 1) := by decide +kernel
theorem dX8_buys_61 : decode cX8_buys 61 = .ok (.iaload, 1) := by decide +kernel
theorem dX8_buys_62 : decode cX8_buys 62 = .ok (.if_icmp .ge 51, 3) := by decide +kernel
theorem dX8_buys_65 : decode cX8_buys 65 = .ok (.aload_n 0, 1) := by decide +kernel
theorem dX8_buys_66 : decode cX8_buys 66 = .ok (.getfield 124, 3) := by decide +kernel
theorem dX8_buys_69 : decode cX8_buys 69 = .ok (.aload_n 0, 1) := by decide +kernel
theorem dX8_buys_70 : decode cX8_buys 70 = .ok (.getfield 127, 3) := by decide +kernel
theorem dX8_buys_73 : decode cX8_buys 73 = .ok (.ior, 1) := by decide +kernel
theorem dX8_buys_74 : decode cX8_buys 74 = .ok (.iload_n 3, 1) := by decide +kernel
theorem dX8_buys_75 : decode cX8_buys 75 = .ok (.ishr, 1) := by decide +kernel
theorem dX8_buys_76 : decode cX8_buys 76 = .ok (.iconst 1, 1) := by decide +kernel
theorem dX8_buys_77 : decode cX8_buys 77 = .ok (.iand, 1) := by decide +kernel
theorem dX8_buys_78 : decode cX8_buys 78 = .ok (.iconst 1, 1) := by decide +kernel
theorem dX8_buys_79 : decode cX8_buys 79 = .ok (.if_icmp .ne 6, 3) := by decide +kernel
theorem dX8_buys_82 : decode cX8_buys 82 = .ok (.goto 31, 3) := by decide +kernel
theorem dX8_buys_85 : decode cX8_buys 85 = .ok (.iload_n 2, 1) := by decide +kernel
theorem dX8_buys_86 : decode cX8_buys 86 = .ok (.iconst (-1), 1) := by decide +kernel
theorem dX8_buys_87 : decode cX8_buys 87 = .ok (.if_icmp .eq 24, 3) := by decide +kernel
theorem dX8_buys_90 : decode cX8_buys 90 = .ok (.aload_n 0, 1) := by decide +kernel
theorem dX8_buys_91 : decode cX8_buys 91 = .ok (.getfield 7, 3) := by decide +kernel
theorem dX8_buys_94 : decode cX8_buys 94 = .ok (.bipush 25, 2) := by decide +kernel
theorem dX8_buys_96 : decode cX8_buys 96 = .ok (.iload_n 3, 1) := by decide +kernel
theorem dX8_buys_97 : decode cX8_buys 97 = .ok (.iadd, 1) := by decide +kernel
theorem dX8_buys_98 : decode cX8_buys 98 = .ok (.iaload, 1) := by decide +kernel
theorem dX8_buys_99 : decode cX8_buys 99 = .ok (.aload_n 0, 1) := by decide +kernel
theorem dX8_buys_100 : decode cX8_buys 100 = .ok (.getfield 7, 3) := by decide +kernel
theorem dX8_buys_103 : decode cX8_buys 103 = .ok (.bipush 25, 2) := by decide +kernel
theorem dX8_buys_105 : decode cX8_buys 105 = .ok (.iload_n 2, 1) := by decide +kernel
theorem dX8_buys_106 : decode cX8_buys 106 = .ok (.iadd, 1) := by decide +kernel
theorem dX8_buys_107 : decode cX8_buys 107 = .ok (.iaload, 1) := by decide +kernel
theorem dX8_buys_108 : decode cX8_buys 108 = .ok (.if_icmp .ge 5, 3) := by decide +kernel
theorem dX8_buys_111 : decode cX8_buys 111 = .ok (.iload_n 3, 1) := by decide +kernel
theorem dX8_buys_112 : decode cX8_buys 112 = .ok (.istore_n 2, 1) := by decide +kernel
theorem dX8_buys_113 : decode cX8_buys 113 = .ok (.iinc 3 1, 3) := by decide +kernel
theorem dX8_buys_116 : decode cX8_buys 116 = .ok (.goto (-93), 3) := by decide +kernel
theorem dX8_buys_119 : decode cX8_buys 119 = .ok (.iload_n 2, 1) := by decide +kernel
theorem dX8_buys_120 : decode cX8_buys 120 = .ok (.iconst (-1), 1) := by decide +kernel
theorem dX8_buys_121 : decode cX8_buys 121 = .ok (.if_icmp .ne 4, 3) := by decide +kernel
theorem dX8_buys_124 : decode cX8_buys 124 = .ok (.return_, 1) := by decide +kernel
theorem dX8_buys_125 : decode cX8_buys 125 = .ok (.aload_n 0, 1) := by decide +kernel
theorem dX8_buys_126 : decode cX8_buys 126 = .ok (.getfield 7, 3) := by decide +kernel
theorem dX8_buys_129 : decode cX8_buys 129 = .ok (.iconst 5, 1) := by decide +kernel
theorem dX8_buys_130 : decode cX8_buys 130 = .ok (.iload_n 1, 1) := by decide +kernel
theorem dX8_buys_131 : decode cX8_buys 131 = .ok (.iadd, 1) := by decide +kernel
theorem dX8_buys_132 : decode cX8_buys 132 = .ok (.iaload, 1) := by decide +kernel
theorem dX8_buys_133 : decode cX8_buys 133 = .ok (.istore_n 3, 1) := by decide +kernel
theorem dX8_buys_134 : decode cX8_buys 134 = .ok (.aload_n 0, 1) := by decide +kernel
theorem dX8_buys_135 : decode cX8_buys 135 = .ok (.getfield 7, 3) := by decide +kernel
theorem dX8_buys_138 : decode cX8_buys 138 = .ok (.iconst 5, 1) := by decide +kernel
theorem dX8_buys_139 : decode cX8_buys 139 = .ok (.iload_n 1, 1) := by decide +kernel
theorem dX8_buys_140 : decode cX8_buys 140 = .ok (.iadd, 1) := by decide +kernel
theorem dX8_buys_141 : decode cX8_buys 141 = .ok (.aload_n 0, 1) := by decide +kernel
theorem dX8_buys_142 : decode cX8_buys 142 = .ok (.getfield 7, 3) := by decide +kernel
theorem dX8_buys_145 : decode cX8_buys 145 = .ok (.iconst 5, 1) := by decide +kernel
theorem dX8_buys_146 : decode cX8_buys 146 = .ok (.iload_n 2, 1) := by decide +kernel
theorem dX8_buys_147 : decode cX8_buys 147 = .ok (.iadd, 1) := by decide +kernel
theorem dX8_buys_148 : decode cX8_buys 148 = .ok (.iaload, 1) := by decide +kernel
theorem dX8_buys_149 : decode cX8_buys 149 = .ok (.iastore, 1) := by decide +kernel
theorem dX8_buys_150 : decode cX8_buys 150 = .ok (.aload_n 0, 1) := by decide +kernel
theorem dX8_buys_151 : decode cX8_buys 151 = .ok (.getfield 7, 3) := by decide +kernel
theorem dX8_buys_154 : decode cX8_buys 154 = .ok (.iconst 5, 1) := by decide +kernel
theorem dX8_buys_155 : decode cX8_buys 155 = .ok (.iload_n 2, 1) := by decide +kernel
theorem dX8_buys_156 : decode cX8_buys 156 = .ok (.iadd, 1) := by decide +kernel
theorem dX8_buys_157 : decode cX8_buys 157 = .ok (.iload_n 3, 1) := by decide +kernel
theorem dX8_buys_158 : decode cX8_buys 158 = .ok (.iastore, 1) := by decide +kernel
theorem dX8_buys_159 : decode cX8_buys 159 = .ok (.aload_n 0, 1) := by decide +kernel
theorem dX8_buys_160 : decode cX8_buys 160 = .ok (.getfield 7, 3) := by decide +kernel
theorem dX8_buys_163 : decode cX8_buys 163 = .ok (.bipush 15, 2) := by decide +kernel
theorem dX8_buys_165 : decode cX8_buys 165 = .ok (.iload_n 1, 1) := by decide +kernel
theorem dX8_buys_166 : decode cX8_buys 166 = .ok (.iadd, 1) := by decide +kernel
theorem dX8_buys_167 : decode cX8_buys 167 = .ok (.aload_n 0, 1) := by decide +kernel
theorem dX8_buys_168 : decode cX8_buys 168 = .ok (.getfield 7, 3) := by decide +kernel
theorem dX8_buys_171 : decode cX8_buys 171 = .ok (.bipush 15, 2) := by decide +kernel
theorem dX8_buys_173 : decode cX8_buys 173 = .ok (.iload_n 1, 1) := by decide +kernel
theorem dX8_buys_174 : decode cX8_buys 174 = .ok (.iadd, 1) := by decide +kernel
theorem dX8_buys_175 : decode cX8_buys 175 = .ok (.iaload, 1) := by decide +kernel
theorem dX8_buys_176 : decode cX8_buys 176 = .ok (.aload_n 0, 1) := by decide +kernel
theorem dX8_buys_177 : decode cX8_buys 177 = .ok (.getfield 19, 3) := by decide +kernel
theorem dX8_buys_180 : decode cX8_buys 180 = .ok (.iconst 0, 1) := by decide +kernel
theorem dX8_buys_181 : decode cX8_buys 181 = .ok (.iaload, 1) := by decide +kernel
theorem dX8_buys_182 : decode cX8_buys 182 = .ok (.isub, 1) := by decide +kernel
theorem dX8_buys_183 : decode cX8_buys 183 = .ok (.iastore, 1) := by decide +kernel
theorem dX8_buys_184 : decode cX8_buys 184 = .ok (.aload_n 0, 1) := by decide +kernel
theorem dX8_buys_185 : decode cX8_buys 185 = .ok (.getfield 7, 3) := by decide +kernel
theorem dX8_buys_188 : decode cX8_buys 188 = .ok (.bipush 15, 2) := by decide +kernel
theorem dX8_buys_190 : decode cX8_buys 190 = .ok (.iload_n 2, 1) := by decide +kernel
theorem dX8_buys_191 : decode cX8_buys 191 = .ok (.iadd, 1) := by decide +kernel
theorem dX8_buys_192 : decode cX8_buys 192 = .ok (.aload_n 0, 1) := by decide +kernel
theorem dX8_buys_193 : decode cX8_buys 193 = .ok (.getfield 7, 3) := by decide +kernel
theorem dX8_buys_196 : decode cX8_buys 196 = .ok (.bipush 15, 2) := by decide +kernel
theorem dX8_buys_198 : decode cX8_buys 198 = .ok (.iload_n 2, 1) := by decide +kernel
theorem dX8_buys_199 : decode cX8_buys 199 = .ok (.iadd, 1) := by decide +kernel
theorem dX8_buys_200 : decode cX8_buys 200 = .ok (.iaload, 1) := by decide +kernel
theorem dX8_buys_201 : decode cX8_buys 201 = .ok (.aload_n 0, 1) := by decide +kernel
theorem dX8_buys_202 : decode cX8_buys 202 = .ok (.getfield 19, 3) := by decide +kernel
theorem dX8_buys_205 : decode cX8_buys 205 = .ok (.iconst 0, 1) := by decide +kernel
theorem dX8_buys_206 : decode cX8_buys 206 = .ok (.iaload, 1) := by decide +kernel
theorem dX8_buys_207 : decode cX8_buys 207 = .ok (.iadd, 1) := by decide +kernel
theorem dX8_buys_208 : decode cX8_buys 208 = .ok (.iastore, 1) := by decide +kernel
theorem dX8_buys_209 : decode cX8_buys 209 = .ok (.aload_n 0, 1) := by decide +kernel
theorem dX8_buys_210 : decode cX8_buys 210 = .ok (.getfield 7, 3) := by decide +kernel
theorem dX8_buys_213 : decode cX8_buys 213 = .ok (.bipush 45, 2) := by decide +kernel
theorem dX8_buys_215 : decode cX8_buys 215 = .ok (.iload_n 1, 1) := by decide +kernel
theorem dX8_buys_216 : decode cX8_buys 216 = .ok (.iadd, 1) := by decide +kernel
theorem dX8_buys_217 : decode cX8_buys 217 = .ok (.aload_n 0, 1) := by decide +kernel
theorem dX8_buys_218 : decode cX8_buys 218 = .ok (.getfield 7, 3) := by decide +kernel
theorem dX8_buys_221 : decode cX8_buys 221 = .ok (.bipush 45, 2) := by decide +kernel
theorem dX8_buys_223 : decode cX8_buys 223 = .ok (.iload_n 1, 1) := by decide +kernel
theorem dX8_buys_224 : decode cX8_buys 224 = .ok (.iadd, 1) := by decide +kernel
theorem dX8_buys_225 : decode cX8_buys 225 = .ok (.iaload, 1) := by decide +kernel
theorem dX8_buys_226 : decode cX8_buys 226 = .ok (.iconst 1, 1) := by decide +kernel
theorem dX8_buys_227 : decode cX8_buys 227 = .ok (.iadd, 1) := by decide +kernel
theorem dX8_buys_228 : decode cX8_buys 228 = .ok (.iastore, 1) := by decide +kernel
theorem dX8_buys_229 : decode cX8_buys 229 = .ok (.aload_n 0, 1) := by decide +kernel
theorem dX8_buys_230 : decode cX8_buys 230 = .ok (.getfield 7, 3) := by decide +kernel
theorem dX8_buys_233 : decode cX8_buys 233 = .ok (.bipush 35, 2) := by decide +kernel
theorem dX8_buys_235 : decode cX8_buys 235 = .ok (.iload_n 2, 1) := by decide +kernel
theorem dX8_buys_236 : decode cX8_buys 236 = .ok (.iadd, 1) := by decide +kernel
theorem dX8_buys_237 : decode cX8_buys 237 = .ok (.aload_n 0, 1) := by decide +kernel
theorem dX8_buys_238 : decode cX8_buys 238 = .ok (.getfield 7, 3) := by decide +kernel
theorem dX8_buys_241 : decode cX8_buys 241 = .ok (.bipush 35, 2) := by decide +kernel
theorem dX8_buys_243 : decode cX8_buys 243 = .ok (.iload_n 2, 1) := by decide +kernel
theorem dX8_buys_244 : decode cX8_buys 244 = .ok (.iadd, 1) := by decide +kernel
theorem dX8_buys_245 : decode cX8_buys 245 = .ok (.iaload, 1) := by decide +kernel
theorem dX8_buys_246 : decode cX8_buys 246 = .ok (.iconst 1, 1) := by decide +kernel
theorem dX8_buys_247 : decode cX8_buys 247 = .ok (.iadd, 1) := by decide +kernel
theorem dX8_buys_248 : decode cX8_buys 248 = .ok (.iastore, 1) := by decide +kernel
theorem dX8_buys_249 : decode cX8_buys 249 = .ok (.return_, 1) := by decide +kernel
set_option maxRecDepth 20000 in
theorem wX8_buys_113 {p : Program} {l : Launch} {e : Env} {s : State} {m : MethodId} {args : Array Value} {below : List Frame} {meth : Method} {c : Code} {Z : XG} {r : Int32} {S' : Mem} (E : XE p s m args meth c cX8_buys 4 RX8 none mL Z) (k0 : Mem → Int32 → Int32 → Int32 → O)  (hk0 : ∀ (S : Mem) (x1 x2 x3 : Int32), k0 S x1 x2 x3 = some (r, S') → WN p l e { frames := 2, cells := 0, slots := 0, locals := 44 } s m args below meth c mL Z (XV mL Z S') S 23 4 [(0, .ref (Z.2.1 0)), (1, .int x1), (2, .int x2), (3, .int x3)] []) : ∀ (S : Mem) (x1 x2 x3 : Int32), fX8_buys_113 k0 S x1 x2 x3 = some (r, S') → WN p l e { frames := 2, cells := 0, slots := 0, locals := 44 } s m args below meth c mL Z (XV mL Z S') S 113 4 [(0, .ref (Z.2.1 0)), (1, .int x1), (2, .int x2), (3, .int x3)] [] := by
  obtain ⟨hx, hb, -, -, -, -, -, -, -, hQ⟩ := id E
  intro S x1 x2 x3 h H locs ls X hl
  unfold fX8_buys_113 at h
  refine lv_iinc (v := (x3 + (1 : Int32))) (lv' := [(3, .int (x3 + (1 : Int32))), (0, .ref (Z.2.1 0)), (1, .int x1), (2, .int x2)]) hx hb dX8_buys_113 hl (k := 3) rfl rfl (by decide) rfl (fun ls hl => ?_)
  refine lv_goto (tgt := 23) hx hb dX8_buys_116 (by decide) ?_
  exact hk0 S x1 x2 (x3 + (1 : Int32)) h _ _ _ X (lv_sub hl [1, 2, 3, 0] rfl)
set_option maxRecDepth 20000 in
theorem wX8_buys_111 {p : Program} {l : Launch} {e : Env} {s : State} {m : MethodId} {args : Array Value} {below : List Frame} {meth : Method} {c : Code} {Z : XG} {r : Int32} {S' : Mem} (E : XE p s m args meth c cX8_buys 4 RX8 none mL Z) (k0 : Mem → Int32 → Int32 → Int32 → O)  (hk0 : ∀ (S : Mem) (x1 x2 x3 : Int32), k0 S x1 x2 x3 = some (r, S') → WN p l e { frames := 2, cells := 0, slots := 0, locals := 44 } s m args below meth c mL Z (XV mL Z S') S 23 4 [(0, .ref (Z.2.1 0)), (1, .int x1), (2, .int x2), (3, .int x3)] []) : ∀ (S : Mem) (x1 x3 : Int32), fX8_buys_111 k0 S x1 x3 = some (r, S') → WN p l e { frames := 2, cells := 0, slots := 0, locals := 44 } s m args below meth c mL Z (XV mL Z S') S 111 4 [(0, .ref (Z.2.1 0)), (1, .int x1), (3, .int x3)] [] := by
  obtain ⟨hx, hb, -, -, -, -, -, -, -, hQ⟩ := id E
  intro S x1 x3 h H locs ls X hl
  unfold fX8_buys_111 at h
  refine lv_iload_n hx hb dX8_buys_111 rfl (lv_at hl 2 rfl) ?_
  refine lv_istore_n (lv' := [(2, .int x3), (0, .ref (Z.2.1 0)), (1, .int x1), (3, .int x3)]) hx hb dX8_buys_112 rfl hl (by decide) rfl (fun ls hl => ?_)
  exact wX8_buys_113 E k0 hk0 S x1 x3 x3 h _ _ _ X (lv_sub hl [1, 2, 0, 3] rfl)
set_option maxRecDepth 20000 in
theorem wX8_buys_23_b {p : Program} {l : Launch} {e : Env} {s : State} {m : MethodId} {args : Array Value} {below : List Frame} {meth : Method} {c : Code} {Z : XG} {r : Int32} {S' : Mem} (E : XE p s m args meth c cX8_buys 4 RX8 none mL Z) (k0 : Mem → Int32 → Int32 → Int32 → O)  (hk0 : ∀ (S : Mem) (x1 x2 x3 : Int32), k0 S x1 x2 x3 = some (r, S') → WN p l e { frames := 2, cells := 0, slots := 0, locals := 44 } s m args below meth c mL Z (XV mL Z S') S 23 4 [(0, .ref (Z.2.1 0)), (1, .int x1), (2, .int x2), (3, .int x3)] []) : ∀ (S : Mem) (x1 x2 x3 : Int32), fX8_buys_23_b k0 S x1 x2 x3 = some (r, S') → WN p l e { frames := 2, cells := 0, slots := 0, locals := 44 } s m args below meth c mL Z (XV mL Z S') S 23 4 [(0, .ref (Z.2.1 0)), (1, .int x1), (2, .int x2), (3, .int x3)] [] := by
  obtain ⟨hx, hb, -, -, -, -, -, -, -, hQ⟩ := id E
  intro S x1 x2 x3 h H locs ls X hl
  unfold fX8_buys_23_b at h
  refine lv_iload_n hx hb dX8_buys_23 rfl (lv_at hl 3 rfl) ?_
  refine lv_aload_n hx hb dX8_buys_24 rfl (lv_at hl 0 rfl) ?_
  refine x_get E X ffX8_100 rfl rfl dX8_buys_25 ?_
  refine lv_icmp_ge (tgt := 119) hx hb dX8_buys_28 (by decide) (fun c_1 => ?_) (fun c_1 => ?_)
  · have h := if_t c_1 h
    refine lv_iload_n hx hb dX8_buys_119 rfl (lv_at hl 2 rfl) ?_
    refine lv_iconst (v := (-1 : Int32)) hx hb dX8_buys_120 (by decide) ?_
    refine lv_icmp_ne (tgt := 125) hx hb dX8_buys_121 (by decide) (fun c_2 => ?_) (fun c_2 => ?_)
    · have h := if_f c_2 h
      refine lv_aload_n hx hb dX8_buys_125 rfl (lv_at hl 0 rfl) ?_
      refine x_getr E X ffX8_7 rfl rfl dX8_buys_126 ?_
      refine lv_iconst (v := (5 : Int32)) hx hb dX8_buys_129 (by decide) ?_
      refine lv_iload_n hx hb dX8_buys_130 rfl (lv_at hl 1 rfl) ?_
      refine lv_iadd hx hb dX8_buys_131 ?_
      obtain ⟨g_3, h⟩ := gd_s h
      refine x_iald E X rfl g_3 dX8_buys_132 ?_
      obtain ⟨x3_4, ex3_4, h⟩ := lti_s h
      refine lv_nm ex3_4 ?_
      refine lv_istore_n (lv' := [(3, .int x3_4), (0, .ref (Z.2.1 0)), (1, .int x1), (2, .int x2)]) hx hb dX8_buys_133 rfl hl (by decide) rfl (fun ls hl => ?_)
      refine lv_aload_n hx hb dX8_buys_134 rfl (lv_at hl 1 rfl) ?_
      refine x_getr E X ffX8_7 rfl rfl dX8_buys_135 ?_
      refine lv_iconst (v := (5 : Int32)) hx hb dX8_buys_138 (by decide) ?_
      refine lv_iload_n hx hb dX8_buys_139 rfl (lv_at hl 2 rfl) ?_
      refine lv_iadd hx hb dX8_buys_140 ?_
      refine lv_aload_n hx hb dX8_buys_141 rfl (lv_at hl 1 rfl) ?_
      refine x_getr E X ffX8_7 rfl rfl dX8_buys_142 ?_
      refine lv_iconst (v := (5 : Int32)) hx hb dX8_buys_145 (by decide) ?_
      refine lv_iload_n hx hb dX8_buys_146 rfl (lv_at hl 3 rfl) ?_
      refine lv_iadd hx hb dX8_buys_147 ?_
      obtain ⟨g_5, h⟩ := gd_s h
      refine x_iald E X rfl g_5 dX8_buys_148 ?_
      obtain ⟨g_6, h⟩ := gd_s h
      obtain ⟨S_7, eS_7, h⟩ := ltm_s h
      refine x_iast E X rfl g_6 dX8_buys_149 (fun H locs X => ?_)
      rw [← eS_7] at X
      refine lv_aload_n hx hb dX8_buys_150 rfl (lv_at hl 1 rfl) ?_
      refine x_getr E X ffX8_7 rfl rfl dX8_buys_151 ?_
      refine lv_iconst (v := (5 : Int32)) hx hb dX8_buys_154 (by decide) ?_
      refine lv_iload_n hx hb dX8_buys_155 rfl (lv_at hl 3 rfl) ?_
      refine lv_iadd hx hb dX8_buys_156 ?_
      refine lv_iload_n hx hb dX8_buys_157 rfl (lv_at hl 0 rfl) ?_
      obtain ⟨g_8, h⟩ := gd_s h
      obtain ⟨S_9, eS_9, h⟩ := ltm_s h
      refine x_iast E X rfl g_8 dX8_buys_158 (fun H locs X => ?_)
      rw [← eS_9] at X
      refine lv_aload_n hx hb dX8_buys_159 rfl (lv_at hl 1 rfl) ?_
      refine x_getr E X ffX8_7 rfl rfl dX8_buys_160 ?_
      refine lv_bipush (v := (15 : Int32)) hx hb dX8_buys_163 (by decide) ?_
      refine lv_iload_n hx hb dX8_buys_165 rfl (lv_at hl 2 rfl) ?_
      refine lv_iadd hx hb dX8_buys_166 ?_
      refine lv_aload_n hx hb dX8_buys_167 rfl (lv_at hl 1 rfl) ?_
      refine x_getr E X ffX8_7 rfl rfl dX8_buys_168 ?_
      refine lv_bipush (v := (15 : Int32)) hx hb dX8_buys_171 (by decide) ?_
      refine lv_iload_n hx hb dX8_buys_173 rfl (lv_at hl 2 rfl) ?_
      refine lv_iadd hx hb dX8_buys_174 ?_
      obtain ⟨g_10, h⟩ := gd_s h
      refine x_iald E X rfl g_10 dX8_buys_175 ?_
      refine lv_aload_n hx hb dX8_buys_176 rfl (lv_at hl 1 rfl) ?_
      refine x_getr E X ffX8_19 rfl rfl dX8_buys_177 ?_
      refine lv_iconst (v := (0 : Int32)) hx hb dX8_buys_180 (by decide) ?_
      refine x_iald E X rfl (by decide) dX8_buys_181 ?_
      refine lv_isub hx hb dX8_buys_182 ?_
      obtain ⟨g_11, h⟩ := gd_s h
      obtain ⟨S_12, eS_12, h⟩ := ltm_s h
      refine x_iast E X rfl g_11 dX8_buys_183 (fun H locs X => ?_)
      rw [← eS_12] at X
      refine lv_aload_n hx hb dX8_buys_184 rfl (lv_at hl 1 rfl) ?_
      refine x_getr E X ffX8_7 rfl rfl dX8_buys_185 ?_
      refine lv_bipush (v := (15 : Int32)) hx hb dX8_buys_188 (by decide) ?_
      refine lv_iload_n hx hb dX8_buys_190 rfl (lv_at hl 3 rfl) ?_
      refine lv_iadd hx hb dX8_buys_191 ?_
      refine lv_aload_n hx hb dX8_buys_192 rfl (lv_at hl 1 rfl) ?_
      refine x_getr E X ffX8_7 rfl rfl dX8_buys_193 ?_
      refine lv_bipush (v := (15 : Int32)) hx hb dX8_buys_196 (by decide) ?_
      refine lv_iload_n hx hb dX8_buys_198 rfl (lv_at hl 3 rfl) ?_
      refine lv_iadd hx hb dX8_buys_199 ?_
      obtain ⟨g_13, h⟩ := gd_s h
      refine x_iald E X rfl g_13 dX8_buys_200 ?_
      refine lv_aload_n hx hb dX8_buys_201 rfl (lv_at hl 1 rfl) ?_
      refine x_getr E X ffX8_19 rfl rfl dX8_buys_202 ?_
      refine lv_iconst (v := (0 : Int32)) hx hb dX8_buys_205 (by decide) ?_
      refine x_iald E X rfl (by decide) dX8_buys_206 ?_
      refine lv_iadd hx hb dX8_buys_207 ?_
      obtain ⟨g_14, h⟩ := gd_s h
      obtain ⟨S_15, eS_15, h⟩ := ltm_s h
      refine x_iast E X rfl g_14 dX8_buys_208 (fun H locs X => ?_)
      rw [← eS_15] at X
      refine lv_aload_n hx hb dX8_buys_209 rfl (lv_at hl 1 rfl) ?_
      refine x_getr E X ffX8_7 rfl rfl dX8_buys_210 ?_
      refine lv_bipush (v := (45 : Int32)) hx hb dX8_buys_213 (by decide) ?_
      refine lv_iload_n hx hb dX8_buys_215 rfl (lv_at hl 2 rfl) ?_
      refine lv_iadd hx hb dX8_buys_216 ?_
      refine lv_aload_n hx hb dX8_buys_217 rfl (lv_at hl 1 rfl) ?_
      refine x_getr E X ffX8_7 rfl rfl dX8_buys_218 ?_
      refine lv_bipush (v := (45 : Int32)) hx hb dX8_buys_221 (by decide) ?_
      refine lv_iload_n hx hb dX8_buys_223 rfl (lv_at hl 2 rfl) ?_
      refine lv_iadd hx hb dX8_buys_224 ?_
      obtain ⟨g_16, h⟩ := gd_s h
      refine x_iald E X rfl g_16 dX8_buys_225 ?_
      refine lv_iconst (v := (1 : Int32)) hx hb dX8_buys_226 (by decide) ?_
      refine lv_iadd hx hb dX8_buys_227 ?_
      obtain ⟨g_17, h⟩ := gd_s h
      obtain ⟨S_18, eS_18, h⟩ := ltm_s h
      refine x_iast E X rfl g_17 dX8_buys_228 (fun H locs X => ?_)
      rw [← eS_18] at X
      refine lv_aload_n hx hb dX8_buys_229 rfl (lv_at hl 1 rfl) ?_
      refine x_getr E X ffX8_7 rfl rfl dX8_buys_230 ?_
      refine lv_bipush (v := (35 : Int32)) hx hb dX8_buys_233 (by decide) ?_
      refine lv_iload_n hx hb dX8_buys_235 rfl (lv_at hl 3 rfl) ?_
      refine lv_iadd hx hb dX8_buys_236 ?_
      refine lv_aload_n hx hb dX8_buys_237 rfl (lv_at hl 1 rfl) ?_
      refine x_getr E X ffX8_7 rfl rfl dX8_buys_238 ?_
      refine lv_bipush (v := (35 : Int32)) hx hb dX8_buys_241 (by decide) ?_
      refine lv_iload_n hx hb dX8_buys_243 rfl (lv_at hl 3 rfl) ?_
      refine lv_iadd hx hb dX8_buys_244 ?_
      obtain ⟨g_19, h⟩ := gd_s h
      refine x_iald E X rfl g_19 dX8_buys_245 ?_
      refine lv_iconst (v := (1 : Int32)) hx hb dX8_buys_246 (by decide) ?_
      refine lv_iadd hx hb dX8_buys_247 ?_
      obtain ⟨g_20, h⟩ := gd_s h
      obtain ⟨S_21, eS_21, h⟩ := ltm_s h
      refine x_iast E X rfl g_20 dX8_buys_248 (fun H locs X => ?_)
      rw [← eS_21] at X
      exact x_vret E X h dX8_buys_249
    · have h := if_t c_2 h
      exact x_vret E X h dX8_buys_124
  · have h := if_f c_1 h
    refine lv_iload_n hx hb dX8_buys_31 rfl (lv_at hl 3 rfl) ?_
    refine lv_iload_n hx hb dX8_buys_32 rfl (lv_at hl 1 rfl) ?_
    refine lv_icmp_eq (tgt := 113) hx hb dX8_buys_33 (by decide) (fun c_22 => ?_) (fun c_22 => ?_)
    · have h := if_t c_22 h
      exact wX8_buys_113 E k0 hk0 S x1 x2 x3 h _ _ _ X hl
    · have h := if_f c_22 h
      refine lv_aload_n hx hb dX8_buys_36 rfl (lv_at hl 0 rfl) ?_
      refine lv_iload_n hx hb dX8_buys_37 rfl (lv_at hl 3 rfl) ?_
      obtain ⟨r_23, S_24, hr_23, h⟩ := bnd_s h
      refine x_callV E X cwX8_260 (mX8_isShaded l Z hQ  x3 hr_23) rfl rfl rfl rfl hl.1 rfl dX8_buys_38 (fun H locs X => ?_)
      refine lv_if_eq (tgt := 113) hx hb dX8_buys_41 (by decide) (fun c_25 => ?_) (fun c_25 => ?_)
      · have h := if_t c_25 h
        exact wX8_buys_113 E k0 hk0 S_24 x1 x2 x3 h _ _ _ X hl
      · have h := if_f c_25 h
        refine lv_aload_n hx hb dX8_buys_44 rfl (lv_at hl 0 rfl) ?_
        refine x_getr E X ffX8_7 rfl rfl dX8_buys_45 ?_
        refine lv_bipush (v := (25 : Int32)) hx hb dX8_buys_48 (by decide) ?_
        refine lv_iload_n hx hb dX8_buys_50 rfl (lv_at hl 3 rfl) ?_
        refine lv_iadd hx hb dX8_buys_51 ?_
        obtain ⟨g_26, h⟩ := gd_s h
        refine x_iald E X rfl g_26 dX8_buys_52 ?_
        refine lv_aload_n hx hb dX8_buys_53 rfl (lv_at hl 0 rfl) ?_
        refine x_getr E X ffX8_7 rfl rfl dX8_buys_54 ?_
        refine lv_bipush (v := (25 : Int32)) hx hb dX8_buys_57 (by decide) ?_
        refine lv_iload_n hx hb dX8_buys_59 rfl (lv_at hl 1 rfl) ?_
        refine lv_iadd hx hb dX8_buys_60 ?_
        obtain ⟨g_27, h⟩ := gd_s h
        refine x_iald E X rfl g_27 dX8_buys_61 ?_
        refine lv_icmp_ge (tgt := 113) hx hb dX8_buys_62 (by decide) (fun c_28 => ?_) (fun c_28 => ?_)
        · have h := if_t c_28 h
          exact wX8_buys_113 E k0 hk0 S_24 x1 x2 x3 h _ _ _ X hl
        · have h := if_f c_28 h
          refine lv_aload_n hx hb dX8_buys_65 rfl (lv_at hl 0 rfl) ?_
          refine x_get E X ffX8_124 rfl rfl dX8_buys_66 ?_
          refine lv_aload_n hx hb dX8_buys_69 rfl (lv_at hl 0 rfl) ?_
          refine x_get E X ffX8_127 rfl rfl dX8_buys_70 ?_
          refine lv_ior hx hb dX8_buys_73 ?_
          refine lv_iload_n hx hb dX8_buys_74 rfl (lv_at hl 3 rfl) ?_
          refine lv_ishr hx hb dX8_buys_75 ?_
          refine lv_iconst (v := (1 : Int32)) hx hb dX8_buys_76 (by decide) ?_
          refine lv_iand hx hb dX8_buys_77 ?_
          refine lv_iconst (v := (1 : Int32)) hx hb dX8_buys_78 (by decide) ?_
          refine lv_icmp_ne (tgt := 85) hx hb dX8_buys_79 (by decide) (fun c_29 => ?_) (fun c_29 => ?_)
          · have h := if_f c_29 h
            refine lv_iload_n hx hb dX8_buys_85 rfl (lv_at hl 2 rfl) ?_
            refine lv_iconst (v := (-1 : Int32)) hx hb dX8_buys_86 (by decide) ?_
            refine lv_icmp_eq (tgt := 111) hx hb dX8_buys_87 (by decide) (fun c_30 => ?_) (fun c_30 => ?_)
            · have h := if_t c_30 h
              exact wX8_buys_111 E k0 hk0 S_24 x1 x3 h _ _ _ X (lv_sub hl [0, 1, 3] rfl)
            · have h := if_f c_30 h
              refine lv_aload_n hx hb dX8_buys_90 rfl (lv_at hl 0 rfl) ?_
              refine x_getr E X ffX8_7 rfl rfl dX8_buys_91 ?_
              refine lv_bipush (v := (25 : Int32)) hx hb dX8_buys_94 (by decide) ?_
              refine lv_iload_n hx hb dX8_buys_96 rfl (lv_at hl 3 rfl) ?_
              refine lv_iadd hx hb dX8_buys_97 ?_
              obtain ⟨g_31, h⟩ := gd_s h
              refine x_iald E X rfl g_31 dX8_buys_98 ?_
              refine lv_aload_n hx hb dX8_buys_99 rfl (lv_at hl 0 rfl) ?_
              refine x_getr E X ffX8_7 rfl rfl dX8_buys_100 ?_
              refine lv_bipush (v := (25 : Int32)) hx hb dX8_buys_103 (by decide) ?_
              refine lv_iload_n hx hb dX8_buys_105 rfl (lv_at hl 2 rfl) ?_
              refine lv_iadd hx hb dX8_buys_106 ?_
              obtain ⟨g_32, h⟩ := gd_s h
              refine x_iald E X rfl g_32 dX8_buys_107 ?_
              refine lv_icmp_ge (tgt := 113) hx hb dX8_buys_108 (by decide) (fun c_33 => ?_) (fun c_33 => ?_)
              · have h := if_t c_33 h
                exact wX8_buys_113 E k0 hk0 S_24 x1 x2 x3 h _ _ _ X hl
              · have h := if_f c_33 h
                exact wX8_buys_111 E k0 hk0 S_24 x1 x3 h _ _ _ X (lv_sub hl [0, 1, 3] rfl)
          · have h := if_t c_29 h
            refine lv_goto (tgt := 113) hx hb dX8_buys_82 (by decide) ?_
            exact wX8_buys_113 E k0 hk0 S_24 x1 x2 x3 h _ _ _ X hl
theorem wX8_buys_23 {p : Program} {l : Launch} {e : Env} {s : State} {m : MethodId} {args : Array Value} {below : List Frame} {meth : Method} {c : Code} {Z : XG} {r : Int32} {S' : Mem} (E : XE p s m args meth c cX8_buys 4 RX8 none mL Z) : ∀ (n : Nat) (S : Mem) (x1 x2 x3 : Int32), fX8_buys_23 n S x1 x2 x3 = some (r, S') → WN p l e { frames := 2, cells := 0, slots := 0, locals := 44 } s m args below meth c mL Z (XV mL Z S') S 23 4 [(0, .ref (Z.2.1 0)), (1, .int x1), (2, .int x2), (3, .int x3)] [] := by
  intro n
  induction n with
  | zero => intro S x1 x2 x3 h; exact absurd (show (none : O) = some _ from h) (by simp)
  | succ n ih => intro S x1 x2 x3 h; exact wX8_buys_23_b E (fX8_buys_23 n) ih S x1 x2 x3 h
set_option maxRecDepth 20000 in
theorem wX8_buys {p : Program} {l : Launch} {e : Env} {s : State} {m : MethodId} {args : Array Value} {below : List Frame} {meth : Method} {c : Code} {Z : XG} {r : Int32} {S' : Mem} (E : XE p s m args meth c cX8_buys 4 RX8 none mL Z) : ∀ (S : Mem) (x1 : Int32), fX8_buys  S x1 = some (r, S') → WN p l e { frames := 2, cells := 0, slots := 0, locals := 44 } s m args below meth c mL Z (XV mL Z S') S 0 4 [(0, .ref (Z.2.1 0)), (1, .int x1)] [] := by
  obtain ⟨hx, hb, -, -, -, -, -, -, -, hQ⟩ := id E
  intro S x1 h H locs ls X hl
  unfold fX8_buys at h
  refine lv_aload_n hx hb dX8_buys_0 rfl (lv_at hl 0 rfl) ?_
  refine x_getr E X ffX8_7 rfl rfl dX8_buys_1 ?_
  refine lv_bipush (v := (15 : Int32)) hx hb dX8_buys_4 (by decide) ?_
  refine lv_iload_n hx hb dX8_buys_6 rfl (lv_at hl 1 rfl) ?_
  refine lv_iadd hx hb dX8_buys_7 ?_
  obtain ⟨g_1, h⟩ := gd_s h
  refine x_iald E X rfl g_1 dX8_buys_8 ?_
  refine lv_aload_n hx hb dX8_buys_9 rfl (lv_at hl 0 rfl) ?_
  refine x_getr E X ffX8_19 rfl rfl dX8_buys_10 ?_
  refine lv_iconst (v := (0 : Int32)) hx hb dX8_buys_13 (by decide) ?_
  refine x_iald E X rfl (by decide) dX8_buys_14 ?_
  refine lv_icmp_ge (tgt := 19) hx hb dX8_buys_15 (by decide) (fun c_2 => ?_) (fun c_2 => ?_)
  · have h := if_t c_2 h
    refine lv_iconst (v := (-1 : Int32)) hx hb dX8_buys_19 (by decide) ?_
    refine lv_istore_n (lv' := [(2, .int (-1 : Int32)), (0, .ref (Z.2.1 0)), (1, .int x1)]) hx hb dX8_buys_20 rfl hl (by decide) rfl (fun ls hl => ?_)
    refine lv_iconst (v := (0 : Int32)) hx hb dX8_buys_21 (by decide) ?_
    refine lv_istore_n (lv' := [(3, .int (0 : Int32)), (2, .int (-1 : Int32)), (0, .ref (Z.2.1 0)), (1, .int x1)]) hx hb dX8_buys_22 rfl hl (by decide) rfl (fun ls hl => ?_)
    exact wX8_buys_23 E   FU S x1 (-1 : Int32) (0 : Int32) h _ _ _ X (lv_sub hl [2, 3, 1, 0] rfl)
  · have h := if_f c_2 h
    exact x_vret E X h dX8_buys_18
/-- SevenToAShadowModel.buys(I)V -/
theorem mX8_buys (l : Launch) (Z : XG) (hQ : wQ (List.length mL) Z) {S S' : Mem} {r : Int32} (x1 : Int32) (h : fX8_buys S x1 = some (r, S')) : XM l yX8_buys cX8_buys 4 none { frames := 2, cells := 0, slots := 0, locals := 44 } mL Z [.ref (Z.2.1 0), .int x1] S (XV mL Z S') := by
  refine XM.of (own := RX8) (by decide +kernel) rfl rfl hQ (fun p e s m args below meth c E ls hl X => ?_)
  exact wX8_buys E S x1 h _ _ _ X hl
def fX8_acts_70 (S : Mem) (x1 x4 : Int32) : O := (if x4 = (2 : Int32) then bnd (fX8_isShaded S x1) fun r_2 S_3 => (if r_2 = 0 then bnd (fX8_buys S_3 x1) fun _ S_6 => some ((0 : Int32), S_6) else some ((0 : Int32), S_3)) else some ((0 : Int32), S))
def fX8_acts_38 (S : Mem) (x1 x4 : Int32) : O := (if x4 = (3 : Int32) then gd (inB ((5 : Int32) + x1) 55) <| bnd (fX8_isNearFoe S x1 (S 1 (((5 : Int32) + x1)).toNatClampNeg)) fun r_3 S_4 => (if r_3 = 0 then fX8_acts_70  S_4 x1 x4 else bnd (fX8_awayFor S_4 x1) fun r_6 S_7 => bnd (fX8_goesTo S_7 x1 r_6) fun _ S_9 => fX8_acts_70  S_9 x1 x4) else fX8_acts_70  S x1 x4)
def fX8_acts (S : Mem) (x1 x2 x3 : Int32) : O := bnd (fX8_findsShadeNow S x2) fun _ S_2 => bnd (fX8_ruleFor S_2 x1 x2 x3) fun r_3 S_4 => (if r_3 = (1 : Int32) then bnd (fX8_isShaded S_4 x1) fun r_6 S_7 => (if r_6 = 0 then bnd (fX8_shadedFor S_7 x1) fun r_9 S_10 => bnd (fX8_goesTo S_10 x1 r_9) fun _ S_12 => fX8_acts_38  S_12 x1 r_3 else fX8_acts_38  S_7 x1 r_3) else fX8_acts_38  S_4 x1 r_3)
theorem dX8_acts_0 : decode cX8_acts 0 = .ok (.aload_n 0, 1) := by decide +kernel
theorem dX8_acts_1 : decode cX8_acts 1 = .ok (.iload_n 2, 1) := by decide +kernel
theorem dX8_acts_2 : decode cX8_acts 2 = .ok (.invokevirtual 273, 3) := by decide +kernel
theorem dX8_acts_5 : decode cX8_acts 5 = .ok (.aload_n 0, 1) := by decide +kernel
theorem dX8_acts_6 : decode cX8_acts 6 = .ok (.iload_n 1, 1) := by decide +kernel
theorem dX8_acts_7 : decode cX8_acts 7 = .ok (.iload_n 2, 1) := by decide +kernel
theorem dX8_acts_8 : decode cX8_acts 8 = .ok (.iload_n 3, 1) := by decide +kernel
theorem dX8_acts_9 : decode cX8_acts 9 = .ok (.invokevirtual 276, 3) := by decide +kernel
theorem dX8_acts_12 : decode cX8_acts 12 = .ok (.istore 4, 2) := by decide +kernel
theorem dX8_acts_14 : decode cX8_acts 14 = .ok (.iload 4, 2) := by decide +kernel
theorem dX8_acts_16 : decode cX8_acts 16 = .ok (.iconst 1, 1) := by decide +kernel
theorem dX8_acts_17 : decode cX8_acts 17 = .ok (.if_icmp .ne 21, 3) := by decide +kernel
theorem dX8_acts_20 : decode cX8_acts 20 = .ok (.aload_n 0, 1) := by decide +kernel
theorem dX8_acts_21 : decode cX8_acts 21 = .ok (.iload_n 1, 1) := by decide +kernel
theorem dX8_acts_22 : decode cX8_acts 22 = .ok (.invokevirtual 260, 3) := by decide +kernel
theorem dX8_acts_25 : decode cX8_acts 25 = .ok (.ifCond .ne 13, 3) := by decide +kernel
theorem dX8_acts_28 : decode cX8_acts 28 = .ok (.aload_n 0, 1) := by decide +kernel
theorem dX8_acts_29 : decode cX8_acts 29 = .ok (.iload_n 1, 1) := by decide +kernel
theorem dX8_acts_30 : decode cX8_acts 30 = .ok (.aload_n 0, 1) := by decide +kernel
theorem dX8_acts_31 : decode cX8_acts 31 = .ok (.iload_n 1, 1) := by decide +kernel
theorem dX8_acts_32 : decode cX8_acts 32 = .ok (.invokevirtual 279, 3) := by decide +kernel
theorem dX8_acts_35 : decode cX8_acts 35 = .ok (.invokevirtual 282, 3) := by decide +kernel
theorem dX8_acts_38 : decode cX8_acts 38 = .ok (.iload 4, 2) := by decide +kernel
theorem dX8_acts_40 : decode cX8_acts 40 = .ok (.iconst 3, 1) := by decide +kernel
theorem dX8_acts_41 : decode cX8_acts 41 = .ok (.if_icmp .ne 29, 3) := by decide +kernel
theorem dX8_acts_44 : decode cX8_acts 44 = .ok (.aload_n 0, 1) := by decide +kernel
theorem dX8_acts_45 : decode cX8_acts 45 = .ok (.iload_n 1, 1) := by decide +kernel
theorem dX8_acts_46 : decode cX8_acts 46 = .ok (.aload_n 0, 1) := by decide +kernel
theorem dX8_acts_47 : decode cX8_acts 47 = .ok (.getfield 7, 3) := by decide +kernel
theorem dX8_acts_50 : decode cX8_acts 50 = .ok (.iconst 5, 1) := by decide +kernel
theorem dX8_acts_51 : decode cX8_acts 51 = .ok (.iload_n 1, 1) := by decide +kernel
theorem dX8_acts_52 : decode cX8_acts 52 = .ok (.iadd, 1) := by decide +kernel
theorem dX8_acts_53 : decode cX8_acts 53 = .ok (.iaload, 1) := by decide +kernel
theorem dX8_acts_54 : decode cX8_acts 54 = .ok (.invokevirtual 270, 3) := by decide +kernel
theorem dX8_acts_57 : decode cX8_acts 57 = .ok (.ifCond .eq 13, 3) := by decide +kernel
theorem dX8_acts_60 : decode cX8_acts 60 = .ok (.aload_n 0, 1) := by decide +kernel
theorem dX8_acts_61 : decode cX8_acts 61 = .ok (.iload_n 1, 1) := by decide +kernel
theorem dX8_acts_62 : decode cX8_acts 62 = .ok (.aload_n 0, 1) := by decide +kernel
theorem dX8_acts_63 : decode cX8_acts 63 = .ok (.iload_n 1, 1) := by decide +kernel
theorem dX8_acts_64 : decode cX8_acts 64 = .ok (.invokevirtual 285, 3) := by decide +kernel
theorem dX8_acts_67 : decode cX8_acts 67 = .ok (.invokevirtual 282, 3) := by decide +kernel
theorem dX8_acts_70 : decode cX8_acts 70 = .ok (.iload 4, 2) := by decide +kernel
theorem dX8_acts_72 : decode cX8_acts 72 = .ok (.iconst 2, 1) := by decide +kernel
theorem dX8_acts_73 : decode cX8_acts 73 = .ok (.if_icmp .ne 16, 3) := by decide +kernel
theorem dX8_acts_76 : decode cX8_acts 76 = .ok (.aload_n 0, 1) := by decide +kernel
theorem dX8_acts_77 : decode cX8_acts 77 = .ok (.iload_n 1, 1) := by decide +kernel
theorem dX8_acts_78 : decode cX8_acts 78 = .ok (.invokevirtual 260, 3) := by decide +kernel
theorem dX8_acts_81 : decode cX8_acts 81 = .ok (.ifCond .ne 8, 3) := by decide +kernel
theorem dX8_acts_84 : decode cX8_acts 84 = .ok (.aload_n 0, 1) := by decide +kernel
theorem dX8_acts_85 : decode cX8_acts 85 = .ok (.iload_n 1, 1) := by decide +kernel
theorem dX8_acts_86 : decode cX8_acts 86 = .ok (.invokevirtual 288, 3) := by decide +kernel
theorem dX8_acts_89 : decode cX8_acts 89 = .ok (.return_, 1) := by decide +kernel
set_option maxRecDepth 20000 in
theorem wX8_acts_70 {p : Program} {l : Launch} {e : Env} {s : State} {m : MethodId} {args : Array Value} {below : List Frame} {meth : Method} {c : Code} {Z : XG} {r : Int32} {S' : Mem} (E : XE p s m args meth c cX8_acts 5 RX8 none mL Z) : ∀ (S : Mem) (x1 x4 : Int32), fX8_acts_70  S x1 x4 = some (r, S') → WN p l e { frames := 5, cells := 0, slots := 0, locals := 120 } s m args below meth c mL Z (XV mL Z S') S 70 5 [(0, .ref (Z.2.1 0)), (1, .int x1), (4, .int x4)] [] := by
  obtain ⟨hx, hb, -, -, -, -, -, -, -, hQ⟩ := id E
  intro S x1 x4 h H locs ls X hl
  unfold fX8_acts_70 at h
  refine lv_iload hx hb dX8_acts_70 (lv_at hl 2 rfl) ?_
  refine lv_iconst (v := (2 : Int32)) hx hb dX8_acts_72 (by decide) ?_
  refine lv_icmp_ne (tgt := 89) hx hb dX8_acts_73 (by decide) (fun c_1 => ?_) (fun c_1 => ?_)
  · have h := if_f c_1 h
    exact x_vret E X h dX8_acts_89
  · have h := if_t c_1 h
    refine lv_aload_n hx hb dX8_acts_76 rfl (lv_at hl 0 rfl) ?_
    refine lv_iload_n hx hb dX8_acts_77 rfl (lv_at hl 1 rfl) ?_
    obtain ⟨r_2, S_3, hr_2, h⟩ := bnd_s h
    refine x_callV E X cwX8_260 (mX8_isShaded l Z hQ  x1 hr_2) rfl rfl rfl rfl hl.1 rfl dX8_acts_78 (fun H locs X => ?_)
    refine lv_if_ne (tgt := 89) hx hb dX8_acts_81 (by decide) (fun c_4 => ?_) (fun c_4 => ?_)
    · have h := if_f c_4 h
      exact x_vret E X h dX8_acts_89
    · have h := if_t c_4 h
      refine lv_aload_n hx hb dX8_acts_84 rfl (lv_at hl 0 rfl) ?_
      refine lv_iload_n hx hb dX8_acts_85 rfl (lv_at hl 1 rfl) ?_
      obtain ⟨r_5, S_6, hr_5, h⟩ := bnd_s h
      refine x_callVv E X cwX8_288 (mX8_buys l Z hQ  x1 hr_5) rfl rfl rfl rfl hl.1 rfl dX8_acts_86 (fun H locs X => ?_)
      exact x_vret E X h dX8_acts_89
set_option maxRecDepth 20000 in
theorem wX8_acts_38 {p : Program} {l : Launch} {e : Env} {s : State} {m : MethodId} {args : Array Value} {below : List Frame} {meth : Method} {c : Code} {Z : XG} {r : Int32} {S' : Mem} (E : XE p s m args meth c cX8_acts 5 RX8 none mL Z) : ∀ (S : Mem) (x1 x4 : Int32), fX8_acts_38  S x1 x4 = some (r, S') → WN p l e { frames := 5, cells := 0, slots := 0, locals := 120 } s m args below meth c mL Z (XV mL Z S') S 38 5 [(0, .ref (Z.2.1 0)), (1, .int x1), (4, .int x4)] [] := by
  obtain ⟨hx, hb, -, -, -, -, -, -, -, hQ⟩ := id E
  intro S x1 x4 h H locs ls X hl
  unfold fX8_acts_38 at h
  refine lv_iload hx hb dX8_acts_38 (lv_at hl 2 rfl) ?_
  refine lv_iconst (v := (3 : Int32)) hx hb dX8_acts_40 (by decide) ?_
  refine lv_icmp_ne (tgt := 70) hx hb dX8_acts_41 (by decide) (fun c_1 => ?_) (fun c_1 => ?_)
  · have h := if_f c_1 h
    exact wX8_acts_70 E   S x1 x4 h _ _ _ X hl
  · have h := if_t c_1 h
    refine lv_aload_n hx hb dX8_acts_44 rfl (lv_at hl 0 rfl) ?_
    refine lv_iload_n hx hb dX8_acts_45 rfl (lv_at hl 1 rfl) ?_
    refine lv_aload_n hx hb dX8_acts_46 rfl (lv_at hl 0 rfl) ?_
    refine x_getr E X ffX8_7 rfl rfl dX8_acts_47 ?_
    refine lv_iconst (v := (5 : Int32)) hx hb dX8_acts_50 (by decide) ?_
    refine lv_iload_n hx hb dX8_acts_51 rfl (lv_at hl 1 rfl) ?_
    refine lv_iadd hx hb dX8_acts_52 ?_
    obtain ⟨g_2, h⟩ := gd_s h
    refine x_iald E X rfl g_2 dX8_acts_53 ?_
    obtain ⟨r_3, S_4, hr_3, h⟩ := bnd_s h
    refine x_callV E X cwX8_270 (mX8_isNearFoe l Z hQ  x1 (S 1 (((5 : Int32) + x1)).toNatClampNeg) hr_3) rfl rfl rfl rfl hl.1 rfl dX8_acts_54 (fun H locs X => ?_)
    refine lv_if_eq (tgt := 70) hx hb dX8_acts_57 (by decide) (fun c_5 => ?_) (fun c_5 => ?_)
    · have h := if_t c_5 h
      exact wX8_acts_70 E   S_4 x1 x4 h _ _ _ X hl
    · have h := if_f c_5 h
      refine lv_aload_n hx hb dX8_acts_60 rfl (lv_at hl 0 rfl) ?_
      refine lv_iload_n hx hb dX8_acts_61 rfl (lv_at hl 1 rfl) ?_
      refine lv_aload_n hx hb dX8_acts_62 rfl (lv_at hl 0 rfl) ?_
      refine lv_iload_n hx hb dX8_acts_63 rfl (lv_at hl 1 rfl) ?_
      obtain ⟨r_6, S_7, hr_6, h⟩ := bnd_s h
      refine x_callV E X cwX8_285 (mX8_awayFor l Z hQ  x1 hr_6) rfl rfl rfl rfl hl.1 rfl dX8_acts_64 (fun H locs X => ?_)
      obtain ⟨r_8, S_9, hr_8, h⟩ := bnd_s h
      refine x_callVv E X cwX8_282 (mX8_goesTo l Z hQ  x1 r_6 hr_8) rfl rfl rfl rfl hl.1 rfl dX8_acts_67 (fun H locs X => ?_)
      exact wX8_acts_70 E   S_9 x1 x4 h _ _ _ X hl
set_option maxRecDepth 20000 in
theorem wX8_acts {p : Program} {l : Launch} {e : Env} {s : State} {m : MethodId} {args : Array Value} {below : List Frame} {meth : Method} {c : Code} {Z : XG} {r : Int32} {S' : Mem} (E : XE p s m args meth c cX8_acts 5 RX8 none mL Z) : ∀ (S : Mem) (x1 x2 x3 : Int32), fX8_acts  S x1 x2 x3 = some (r, S') → WN p l e { frames := 5, cells := 0, slots := 0, locals := 120 } s m args below meth c mL Z (XV mL Z S') S 0 5 [(0, .ref (Z.2.1 0)), (1, .int x1), (2, .int x2), (3, .int x3)] [] := by
  obtain ⟨hx, hb, -, -, -, -, -, -, -, hQ⟩ := id E
  intro S x1 x2 x3 h H locs ls X hl
  unfold fX8_acts at h
  refine lv_aload_n hx hb dX8_acts_0 rfl (lv_at hl 0 rfl) ?_
  refine lv_iload_n hx hb dX8_acts_1 rfl (lv_at hl 2 rfl) ?_
  obtain ⟨r_1, S_2, hr_1, h⟩ := bnd_s h
  refine x_callVv E X cwX8_273 (mX8_findsShadeNow l Z hQ  x2 hr_1) rfl rfl rfl rfl hl.1 rfl dX8_acts_2 (fun H locs X => ?_)
  refine lv_aload_n hx hb dX8_acts_5 rfl (lv_at hl 0 rfl) ?_
  refine lv_iload_n hx hb dX8_acts_6 rfl (lv_at hl 1 rfl) ?_
  refine lv_iload_n hx hb dX8_acts_7 rfl (lv_at hl 2 rfl) ?_
  refine lv_iload_n hx hb dX8_acts_8 rfl (lv_at hl 3 rfl) ?_
  obtain ⟨r_3, S_4, hr_3, h⟩ := bnd_s h
  refine x_callV E X cwX8_276 (mX8_ruleFor l Z hQ  x1 x2 x3 hr_3) rfl rfl rfl rfl hl.1 rfl dX8_acts_9 (fun H locs X => ?_)
  refine lv_istore (lv' := [(4, .int r_3), (0, .ref (Z.2.1 0)), (1, .int x1), (2, .int x2), (3, .int x3)]) hx hb dX8_acts_12 hl (by decide) rfl (fun ls hl => ?_)
  refine lv_iload hx hb dX8_acts_14 (lv_at hl 0 rfl) ?_
  refine lv_iconst (v := (1 : Int32)) hx hb dX8_acts_16 (by decide) ?_
  refine lv_icmp_ne (tgt := 38) hx hb dX8_acts_17 (by decide) (fun c_5 => ?_) (fun c_5 => ?_)
  · have h := if_f c_5 h
    exact wX8_acts_38 E   S_4 x1 r_3 h _ _ _ X (lv_sub hl [1, 2, 0] rfl)
  · have h := if_t c_5 h
    refine lv_aload_n hx hb dX8_acts_20 rfl (lv_at hl 1 rfl) ?_
    refine lv_iload_n hx hb dX8_acts_21 rfl (lv_at hl 2 rfl) ?_
    obtain ⟨r_6, S_7, hr_6, h⟩ := bnd_s h
    refine x_callV E X cwX8_260 (mX8_isShaded l Z hQ  x1 hr_6) rfl rfl rfl rfl hl.1 rfl dX8_acts_22 (fun H locs X => ?_)
    refine lv_if_ne (tgt := 38) hx hb dX8_acts_25 (by decide) (fun c_8 => ?_) (fun c_8 => ?_)
    · have h := if_f c_8 h
      exact wX8_acts_38 E   S_7 x1 r_3 h _ _ _ X (lv_sub hl [1, 2, 0] rfl)
    · have h := if_t c_8 h
      refine lv_aload_n hx hb dX8_acts_28 rfl (lv_at hl 1 rfl) ?_
      refine lv_iload_n hx hb dX8_acts_29 rfl (lv_at hl 2 rfl) ?_
      refine lv_aload_n hx hb dX8_acts_30 rfl (lv_at hl 1 rfl) ?_
      refine lv_iload_n hx hb dX8_acts_31 rfl (lv_at hl 2 rfl) ?_
      obtain ⟨r_9, S_10, hr_9, h⟩ := bnd_s h
      refine x_callV E X cwX8_279 (mX8_shadedFor l Z hQ  x1 hr_9) rfl rfl rfl rfl hl.1 rfl dX8_acts_32 (fun H locs X => ?_)
      obtain ⟨r_11, S_12, hr_11, h⟩ := bnd_s h
      refine x_callVv E X cwX8_282 (mX8_goesTo l Z hQ  x1 r_9 hr_11) rfl rfl rfl rfl hl.1 rfl dX8_acts_35 (fun H locs X => ?_)
      exact wX8_acts_38 E   S_12 x1 r_3 h _ _ _ X (lv_sub hl [1, 2, 0] rfl)
/-- SevenToAShadowModel.acts(III)V -/
theorem mX8_acts (l : Launch) (Z : XG) (hQ : wQ (List.length mL) Z) {S S' : Mem} {r : Int32} (x1 x2 x3 : Int32) (h : fX8_acts S x1 x2 x3 = some (r, S')) : XM l yX8_acts cX8_acts 5 none { frames := 5, cells := 0, slots := 0, locals := 120 } mL Z [.ref (Z.2.1 0), .int x1, .int x2, .int x3] S (XV mL Z S') := by
  refine XM.of (own := RX8) (by decide +kernel) rfl rfl hQ (fun p e s m args below meth c E ls hl X => ?_)
  exact wX8_acts E S x1 x2 x3 h _ _ _ X hl
def fX8_writes (S : Mem) (x1 x2 x3 : Int32) : O := lti (S 1 ((4 : Int32)).toNatClampNeg) fun x4_1 => (if x3 = 0 then some ((0 : Int32), S) else (if x4_1 = (200 : Int32) then some ((0 : Int32), S) else gd (inB ((4 : Int32) * x4_1) 800) <| ltm (mset S 9 (((4 : Int32) * x4_1)).toNatClampNeg x1) fun S_5 => gd (inB (((4 : Int32) * x4_1) + (1 : Int32)) 800) <| ltm (mset S_5 9 ((((4 : Int32) * x4_1) + (1 : Int32))).toNatClampNeg (S_5 1 ((0 : Int32)).toNatClampNeg)) fun S_7 => gd (inB (((4 : Int32) * x4_1) + (2 : Int32)) 800) <| ltm (mset S_7 9 ((((4 : Int32) * x4_1) + (2 : Int32))).toNatClampNeg x2) fun S_9 => gd (inB (((4 : Int32) * x4_1) + (3 : Int32)) 800) <| ltm (mset S_9 9 ((((4 : Int32) * x4_1) + (3 : Int32))).toNatClampNeg x3) fun S_11 => ltm (mset S_11 1 ((4 : Int32)).toNatClampNeg (x4_1 + (1 : Int32))) fun S_12 => some ((0 : Int32), S_12)))
theorem dX8_writes_0 : decode cX8_writes 0 = .ok (.aload_n 0, 1) := by decide +kernel
theorem dX8_writes_1 : decode cX8_writes 1 = .ok (.getfield 7, 3) := by decide +kernel
theorem dX8_writes_4 : decode cX8_writes 4 = .ok (.iconst 4, 1) := by decide +kernel
theorem dX8_writes_5 : decode cX8_writes 5 = .ok (.iaload, 1) := by decide +kernel
theorem dX8_writes_6 : decode cX8_writes 6 = .ok (.istore 4, 2) := by decide +kernel
theorem dX8_writes_8 : decode cX8_writes 8 = .ok (.iload_n 3, 1) := by decide +kernel
theorem dX8_writes_9 : decode cX8_writes 9 = .ok (.ifCond .eq 11, 3) := by decide +kernel
theorem dX8_writes_12 : decode cX8_writes 12 = .ok (.iload 4, 2) := by decide +kernel
theorem dX8_writes_14 : decode cX8_writes 14 = .ok (.sipush 200, 3) := by decide +kernel
theorem dX8_writes_17 : decode cX8_writes 17 = .ok (.if_icmp .ne 4, 3) := by decide +kernel
theorem dX8_writes_20 : decode cX8_writes 20 = .ok (.return_, 1) := by decide +kernel
theorem dX8_writes_21 : decode cX8_writes 21 = .ok (.aload_n 0, 1) := by decide +kernel
theorem dX8_writes_22 : decode cX8_writes 22 = .ok (.getfield 34, 3) := by decide +kernel
theorem dX8_writes_25 : decode cX8_writes 25 = .ok (.iconst 4, 1) := by decide +kernel
theorem dX8_writes_26 : decode cX8_writes 26 = .ok (.iload 4, 2) := by decide +kernel
theorem dX8_writes_28 : decode cX8_writes 28 = .ok (.imul, 1) := by decide +kernel
theorem dX8_writes_29 : decode cX8_writes 29 = .ok (.iload_n 1, 1) := by decide +kernel
theorem dX8_writes_30 : decode cX8_writes 30 = .ok (.iastore, 1) := by decide +kernel
theorem dX8_writes_31 : decode cX8_writes 31 = .ok (.aload_n 0, 1) := by decide +kernel
theorem dX8_writes_32 : decode cX8_writes 32 = .ok (.getfield 34, 3) := by decide +kernel
theorem dX8_writes_35 : decode cX8_writes 35 = .ok (.iconst 4, 1) := by decide +kernel
theorem dX8_writes_36 : decode cX8_writes 36 = .ok (.iload 4, 2) := by decide +kernel
theorem dX8_writes_38 : decode cX8_writes 38 = .ok (.imul, 1) := by decide +kernel
theorem dX8_writes_39 : decode cX8_writes 39 = .ok (.iconst 1, 1) := by decide +kernel
theorem dX8_writes_40 : decode cX8_writes 40 = .ok (.iadd, 1) := by decide +kernel
theorem dX8_writes_41 : decode cX8_writes 41 = .ok (.aload_n 0, 1) := by decide +kernel
theorem dX8_writes_42 : decode cX8_writes 42 = .ok (.getfield 7, 3) := by decide +kernel
theorem dX8_writes_45 : decode cX8_writes 45 = .ok (.iconst 0, 1) := by decide +kernel
theorem dX8_writes_46 : decode cX8_writes 46 = .ok (.iaload, 1) := by decide +kernel
theorem dX8_writes_47 : decode cX8_writes 47 = .ok (.iastore, 1) := by decide +kernel
theorem dX8_writes_48 : decode cX8_writes 48 = .ok (.aload_n 0, 1) := by decide +kernel
theorem dX8_writes_49 : decode cX8_writes 49 = .ok (.getfield 34, 3) := by decide +kernel
theorem dX8_writes_52 : decode cX8_writes 52 = .ok (.iconst 4, 1) := by decide +kernel
theorem dX8_writes_53 : decode cX8_writes 53 = .ok (.iload 4, 2) := by decide +kernel
theorem dX8_writes_55 : decode cX8_writes 55 = .ok (.imul, 1) := by decide +kernel
theorem dX8_writes_56 : decode cX8_writes 56 = .ok (.iconst 2, 1) := by decide +kernel
theorem dX8_writes_57 : decode cX8_writes 57 = .ok (.iadd, 1) := by decide +kernel
theorem dX8_writes_58 : decode cX8_writes 58 = .ok (.iload_n 2, 1) := by decide +kernel
theorem dX8_writes_59 : decode cX8_writes 59 = .ok (.iastore, 1) := by decide +kernel
theorem dX8_writes_60 : decode cX8_writes 60 = .ok (.aload_n 0, 1) := by decide +kernel
theorem dX8_writes_61 : decode cX8_writes 61 = .ok (.getfield 34, 3) := by decide +kernel
theorem dX8_writes_64 : decode cX8_writes 64 = .ok (.iconst 4, 1) := by decide +kernel
theorem dX8_writes_65 : decode cX8_writes 65 = .ok (.iload 4, 2) := by decide +kernel
theorem dX8_writes_67 : decode cX8_writes 67 = .ok (.imul, 1) := by decide +kernel
theorem dX8_writes_68 : decode cX8_writes 68 = .ok (.iconst 3, 1) := by decide +kernel
theorem dX8_writes_69 : decode cX8_writes 69 = .ok (.iadd, 1) := by decide +kernel
theorem dX8_writes_70 : decode cX8_writes 70 = .ok (.iload_n 3, 1) := by decide +kernel
theorem dX8_writes_71 : decode cX8_writes 71 = .ok (.iastore, 1) := by decide +kernel
theorem dX8_writes_72 : decode cX8_writes 72 = .ok (.aload_n 0, 1) := by decide +kernel
theorem dX8_writes_73 : decode cX8_writes 73 = .ok (.getfield 7, 3) := by decide +kernel
theorem dX8_writes_76 : decode cX8_writes 76 = .ok (.iconst 4, 1) := by decide +kernel
theorem dX8_writes_77 : decode cX8_writes 77 = .ok (.iload 4, 2) := by decide +kernel
theorem dX8_writes_79 : decode cX8_writes 79 = .ok (.iconst 1, 1) := by decide +kernel
theorem dX8_writes_80 : decode cX8_writes 80 = .ok (.iadd, 1) := by decide +kernel
theorem dX8_writes_81 : decode cX8_writes 81 = .ok (.iastore, 1) := by decide +kernel
theorem dX8_writes_82 : decode cX8_writes 82 = .ok (.return_, 1) := by decide +kernel
set_option maxRecDepth 20000 in
theorem wX8_writes {p : Program} {l : Launch} {e : Env} {s : State} {m : MethodId} {args : Array Value} {below : List Frame} {meth : Method} {c : Code} {Z : XG} {r : Int32} {S' : Mem} (E : XE p s m args meth c cX8_writes 5 RX8 none mL Z) : ∀ (S : Mem) (x1 x2 x3 : Int32), fX8_writes  S x1 x2 x3 = some (r, S') → WN p l e { frames := 0, cells := 0, slots := 0, locals := 0 } s m args below meth c mL Z (XV mL Z S') S 0 5 [(0, .ref (Z.2.1 0)), (1, .int x1), (2, .int x2), (3, .int x3)] [] := by
  obtain ⟨hx, hb, -, -, -, -, -, -, -, hQ⟩ := id E
  intro S x1 x2 x3 h H locs ls X hl
  unfold fX8_writes at h
  refine lv_aload_n hx hb dX8_writes_0 rfl (lv_at hl 0 rfl) ?_
  refine x_getr E X ffX8_7 rfl rfl dX8_writes_1 ?_
  refine lv_iconst (v := (4 : Int32)) hx hb dX8_writes_4 (by decide) ?_
  refine x_iald E X rfl (by decide) dX8_writes_5 ?_
  obtain ⟨x4_1, ex4_1, h⟩ := lti_s h
  refine lv_nm ex4_1 ?_
  refine lv_istore (lv' := [(4, .int x4_1), (0, .ref (Z.2.1 0)), (1, .int x1), (2, .int x2), (3, .int x3)]) hx hb dX8_writes_6 hl (by decide) rfl (fun ls hl => ?_)
  refine lv_iload_n hx hb dX8_writes_8 rfl (lv_at hl 4 rfl) ?_
  refine lv_if_eq (tgt := 20) hx hb dX8_writes_9 (by decide) (fun c_2 => ?_) (fun c_2 => ?_)
  · have h := if_t c_2 h
    exact x_vret E X h dX8_writes_20
  · have h := if_f c_2 h
    refine lv_iload hx hb dX8_writes_12 (lv_at hl 0 rfl) ?_
    refine lv_sipush (v := (200 : Int32)) hx hb dX8_writes_14 (by decide) ?_
    refine lv_icmp_ne (tgt := 21) hx hb dX8_writes_17 (by decide) (fun c_3 => ?_) (fun c_3 => ?_)
    · have h := if_f c_3 h
      refine lv_aload_n hx hb dX8_writes_21 rfl (lv_at hl 1 rfl) ?_
      refine x_getr E X ffX8_34 rfl rfl dX8_writes_22 ?_
      refine lv_iconst (v := (4 : Int32)) hx hb dX8_writes_25 (by decide) ?_
      refine lv_iload hx hb dX8_writes_26 (lv_at hl 0 rfl) ?_
      refine lv_imul hx hb dX8_writes_28 ?_
      refine lv_iload_n hx hb dX8_writes_29 rfl (lv_at hl 2 rfl) ?_
      obtain ⟨g_4, h⟩ := gd_s h
      obtain ⟨S_5, eS_5, h⟩ := ltm_s h
      refine x_iast E X rfl g_4 dX8_writes_30 (fun H locs X => ?_)
      rw [← eS_5] at X
      refine lv_aload_n hx hb dX8_writes_31 rfl (lv_at hl 1 rfl) ?_
      refine x_getr E X ffX8_34 rfl rfl dX8_writes_32 ?_
      refine lv_iconst (v := (4 : Int32)) hx hb dX8_writes_35 (by decide) ?_
      refine lv_iload hx hb dX8_writes_36 (lv_at hl 0 rfl) ?_
      refine lv_imul hx hb dX8_writes_38 ?_
      refine lv_iconst (v := (1 : Int32)) hx hb dX8_writes_39 (by decide) ?_
      refine lv_iadd hx hb dX8_writes_40 ?_
      refine lv_aload_n hx hb dX8_writes_41 rfl (lv_at hl 1 rfl) ?_
      refine x_getr E X ffX8_7 rfl rfl dX8_writes_42 ?_
      refine lv_iconst (v := (0 : Int32)) hx hb dX8_writes_45 (by decide) ?_
      refine x_iald E X rfl (by decide) dX8_writes_46 ?_
      obtain ⟨g_6, h⟩ := gd_s h
      obtain ⟨S_7, eS_7, h⟩ := ltm_s h
      refine x_iast E X rfl g_6 dX8_writes_47 (fun H locs X => ?_)
      rw [← eS_7] at X
      refine lv_aload_n hx hb dX8_writes_48 rfl (lv_at hl 1 rfl) ?_
      refine x_getr E X ffX8_34 rfl rfl dX8_writes_49 ?_
      refine lv_iconst (v := (4 : Int32)) hx hb dX8_writes_52 (by decide) ?_
      refine lv_iload hx hb dX8_writes_53 (lv_at hl 0 rfl) ?_
      refine lv_imul hx hb dX8_writes_55 ?_
      refine lv_iconst (v := (2 : Int32)) hx hb dX8_writes_56 (by decide) ?_
      refine lv_iadd hx hb dX8_writes_57 ?_
      refine lv_iload_n hx hb dX8_writes_58 rfl (lv_at hl 3 rfl) ?_
      obtain ⟨g_8, h⟩ := gd_s h
      obtain ⟨S_9, eS_9, h⟩ := ltm_s h
      refine x_iast E X rfl g_8 dX8_writes_59 (fun H locs X => ?_)
      rw [← eS_9] at X
      refine lv_aload_n hx hb dX8_writes_60 rfl (lv_at hl 1 rfl) ?_
      refine x_getr E X ffX8_34 rfl rfl dX8_writes_61 ?_
      refine lv_iconst (v := (4 : Int32)) hx hb dX8_writes_64 (by decide) ?_
      refine lv_iload hx hb dX8_writes_65 (lv_at hl 0 rfl) ?_
      refine lv_imul hx hb dX8_writes_67 ?_
      refine lv_iconst (v := (3 : Int32)) hx hb dX8_writes_68 (by decide) ?_
      refine lv_iadd hx hb dX8_writes_69 ?_
      refine lv_iload_n hx hb dX8_writes_70 rfl (lv_at hl 4 rfl) ?_
      obtain ⟨g_10, h⟩ := gd_s h
      obtain ⟨S_11, eS_11, h⟩ := ltm_s h
      refine x_iast E X rfl g_10 dX8_writes_71 (fun H locs X => ?_)
      rw [← eS_11] at X
      refine lv_aload_n hx hb dX8_writes_72 rfl (lv_at hl 1 rfl) ?_
      refine x_getr E X ffX8_7 rfl rfl dX8_writes_73 ?_
      refine lv_iconst (v := (4 : Int32)) hx hb dX8_writes_76 (by decide) ?_
      refine lv_iload hx hb dX8_writes_77 (lv_at hl 0 rfl) ?_
      refine lv_iconst (v := (1 : Int32)) hx hb dX8_writes_79 (by decide) ?_
      refine lv_iadd hx hb dX8_writes_80 ?_
      obtain ⟨S_12, eS_12, h⟩ := ltm_s h
      refine x_iast E X rfl (by decide) dX8_writes_81 (fun H locs X => ?_)
      rw [← eS_12] at X
      exact x_vret E X h dX8_writes_82
    · have h := if_t c_3 h
      exact x_vret E X h dX8_writes_20
/-- SevenToAShadowModel.writes(III)V -/
theorem mX8_writes (l : Launch) (Z : XG) (hQ : wQ (List.length mL) Z) {S S' : Mem} {r : Int32} (x1 x2 x3 : Int32) (h : fX8_writes S x1 x2 x3 = some (r, S')) : XM l yX8_writes cX8_writes 5 none { frames := 0, cells := 0, slots := 0, locals := 0 } mL Z [.ref (Z.2.1 0), .int x1, .int x2, .int x3] S (XV mL Z S') := by
  refine XM.of (own := RX8) (by decide +kernel) rfl rfl hQ (fun p e s m args below meth c E ls hl X => ?_)
  exact wX8_writes E S x1 x2 x3 h _ _ _ X hl
def fX8_goesBy_239 (k0 : Mem → Int32 → Int32 → Int32 → O) (k1 : Mem → Int32 → Int32 → Int32 → Int32 → O) (S : Mem) (x1 x3 x4 x5 : Int32) : O := k1 S x1 x3 x4 (x5 + (1 : Int32))
def fX8_goesBy_176_b (k0 : Mem → Int32 → Int32 → Int32 → O) (k1 : Mem → Int32 → Int32 → Int32 → Int32 → O) (S : Mem) (x1 x3 x4 x5 : Int32) : O := (if x4 ≤ x5 then k0 S x1 x3 (x4 + (1 : Int32)) else gd (inB x4 10) <| (if (((S 8 (x4).toNatClampNeg) >>> (x5 &&& 31)) &&& (1 : Int32)) = (1 : Int32) then gd (inB ((5 : Int32) + x4) 55) <| gd (inB ((5 : Int32) + x5) 55) <| bnd (fX8_far S (S 1 (((5 : Int32) + x4)).toNatClampNeg) (S 1 (((5 : Int32) + x5)).toNatClampNeg)) fun r_6 S_7 => (if (1 : Int32) < r_6 then fX8_goesBy_239 k0 k1 S_7 x1 x3 x4 x5 else ltm (mset S_7 1 ((3 : Int32)).toNatClampNeg ((S_7 1 ((3 : Int32)).toNatClampNeg) + (1 : Int32))) fun S_9 => fX8_goesBy_239 k0 k1 S_9 x1 x3 x4 x5) else fX8_goesBy_239 k0 k1 S x1 x3 x4 x5))
def fX8_goesBy_176 (k0 : Mem → Int32 → Int32 → Int32 → O) : Nat → Mem → Int32 → Int32 → Int32 → Int32 → O
  | 0 => fun _ _ _ _ _ => none
  | n + 1 => fX8_goesBy_176_b k0 (fX8_goesBy_176 k0 n)
def fX8_goesBy_164_b (k0 : Mem → Int32 → Int32 → Int32 → O) (S : Mem) (x1 x3 x4 : Int32) : O := (if (S 0 6) ≤ x4 then ltm (mset S 1 ((1 : Int32)).toNatClampNeg (x1 + (1 : Int32))) fun S_2 => some (x3, S_2) else fX8_goesBy_176 k0 FU S x1 x3 x4 (0 : Int32))
def fX8_goesBy_164 : Nat → Mem → Int32 → Int32 → Int32 → O
  | 0 => fun _ _ _ _ => none
  | n + 1 => fX8_goesBy_164_b (fX8_goesBy_164 n)
def fX8_goesBy_116 (k0 : Mem → Int32 → Int32 → Int32 → Int32 → O) (S : Mem) (x1 x2 x3 x4 s0 : Int32) : O := gd (inB ((25 : Int32) + x4) 55) <| gd (inB ((25 : Int32) + x4) 55) <| ltm (mset S 1 (((25 : Int32) + x4)).toNatClampNeg ((S 1 (((25 : Int32) + x4)).toNatClampNeg) + s0)) fun S_3 => lti (x3 + s0) fun x3_4 => bnd (fX8_writes S_3 x4 x1 s0) fun _ S_6 => k0 S_6 x1 x2 x3_4 (x4 + (1 : Int32))
def fX8_goesBy_85_b (k0 : Mem → Int32 → Int32 → Int32 → Int32 → O) (S : Mem) (x1 x2 x3 x4 : Int32) : O := (if (S 0 6) ≤ x4 then fX8_goesBy_164  FU S x1 x3 (0 : Int32) else bnd (fX8_isShaded S x4) fun r_2 S_3 => (if r_2 = 0 then gd (inB x4 10) <| fX8_goesBy_116 k0 S_3 x1 x2 x3 x4 (x2 * (S_3 7 (x4).toNatClampNeg)) else fX8_goesBy_116 k0 S_3 x1 x2 x3 x4 (0 : Int32)))
def fX8_goesBy_85 : Nat → Mem → Int32 → Int32 → Int32 → Int32 → O
  | 0 => fun _ _ _ _ _ => none
  | n + 1 => fX8_goesBy_85_b (fX8_goesBy_85 n)
def fX8_goesBy_54_b (k0 : Mem → Int32 → Int32 → Int32 → O) (S : Mem) (x1 x2 x3 : Int32) : O := (if (S 0 6) ≤ x3 then bnd (fX8_findsShadeNow S x1) fun _ S_3 => fX8_goesBy_85  FU S_3 x1 x2 (0 : Int32) (0 : Int32) else bnd (fX8_acts S x3 x1 x2) fun _ S_5 => k0 S_5 x1 x2 (x3 + (1 : Int32)))
def fX8_goesBy_54 : Nat → Mem → Int32 → Int32 → Int32 → O
  | 0 => fun _ _ _ _ => none
  | n + 1 => fX8_goesBy_54_b (fX8_goesBy_54 n)
def fX8_goesBy_52 (S : Mem) (x1 x2 : Int32) : O := fX8_goesBy_54  FU S x1 x2 (0 : Int32)
def fX8_goesBy (S : Mem) : O := lti (S 1 ((1 : Int32)).toNatClampNeg) fun x1_1 => gd (inB (((5 : Int32) * x1_1) + (2 : Int32)) 60) <| lti (S 3 ((((5 : Int32) * x1_1) + (2 : Int32))).toNatClampNeg) fun x2_3 => gd (inB (((5 : Int32) * x1_1) + (4 : Int32)) 60) <| (if (S 3 ((((5 : Int32) * x1_1) + (4 : Int32))).toNatClampNeg) ≤ 0 then fX8_goesBy_52  S x1_1 x2_3 else bnd (fX8_draw S (10 : Int32)) fun r_6 S_7 => gd (inB (((5 : Int32) * x1_1) + (4 : Int32)) 60) <| (if (S_7 3 ((((5 : Int32) * x1_1) + (4 : Int32))).toNatClampNeg) ≤ r_6 then fX8_goesBy_52  S_7 x1_1 x2_3 else fX8_goesBy_52  S_7 x1_1 (0 : Int32)))
theorem dX8_goesBy_0 : decode cX8_goesBy 0 = .ok (.aload_n 0, 1) := by decide +kernel
theorem dX8_goesBy_1 : decode cX8_goesBy 1 = .ok (.getfield 7, 3) := by decide +kernel
theorem dX8_goesBy_4 : decode cX8_goesBy 4 = .ok (.iconst 1, 1) := by decide +kernel
theorem dX8_goesBy_5 : decode cX8_goesBy 5 = .ok (.iaload, 1) := by decide +kernel
theorem dX8_goesBy_6 : decode cX8_goesBy 6 = .ok (.istore_n 1, 1) := by decide +kernel
theorem dX8_goesBy_7 : decode cX8_goesBy 7 = .ok (.aload_n 0, 1) := by decide +kernel
theorem dX8_goesBy_8 : decode cX8_goesBy 8 = .ok (.getfield 16, 3) := by decide +kernel
theorem dX8_goesBy_11 : decode cX8_goesBy 11 = .ok (.iconst 5, 1) := by decide +kernel
theorem dX8_goesBy_12 : decode cX8_goesBy 12 = .ok (.iload_n 1, 1) := by decide +kernel
theorem dX8_goesBy_13 : decode cX8_goesBy 13 = .ok (.imul, 1) := by decide +kernel
theorem dX8_goesBy_14 : decode cX8_goesBy 14 = .ok (.iconst 2, 1) := by decide +kernel
theorem dX8_goesBy_15 : decode cX8_goesBy 15 = .ok (.iadd, 1) := by decide +kernel
theorem dX8_goesBy_16 : decode cX8_goesBy 16 = .ok (.iaload, 1) := by decide +kernel
theorem dX8_goesBy_17 : decode cX8_goesBy 17 = .ok (.istore_n 2, 1) := by decide +kernel
theorem dX8_goesBy_18 : decode cX8_goesBy 18 = .ok (.aload_n 0, 1) := by decide +kernel
theorem dX8_goesBy_19 : decode cX8_goesBy 19 = .ok (.getfield 16, 3) := by decide +kernel
theorem dX8_goesBy_22 : decode cX8_goesBy 22 = .ok (.iconst 5, 1) := by decide +kernel
theorem dX8_goesBy_23 : decode cX8_goesBy 23 = .ok (.iload_n 1, 1) := by decide +kernel
theorem dX8_goesBy_24 : decode cX8_goesBy 24 = .ok (.imul, 1) := by decide +kernel
theorem dX8_goesBy_25 : decode cX8_goesBy 25 = .ok (.iconst 4, 1) := by decide +kernel
theorem dX8_goesBy_26 : decode cX8_goesBy 26 = .ok (.iadd, 1) := by decide +kernel
theorem dX8_goesBy_27 : decode cX8_goesBy 27 = .ok (.iaload, 1) := by decide +kernel
theorem dX8_goesBy_28 : decode cX8_goesBy 28 = .ok (.ifCond .le 24, 3) := by decide +kernel
theorem dX8_goesBy_31 : decode cX8_goesBy 31 = .ok (.aload_n 0, 1) := by decide +kernel
theorem dX8_goesBy_32 : decode cX8_goesBy 32 = .ok (.bipush 10, 2) := by decide +kernel
theorem dX8_goesBy_34 : decode cX8_goesBy 34 = .ok (.invokevirtual 291, 3) := by decide +kernel
theorem dX8_goesBy_37 : decode cX8_goesBy 37 = .ok (.aload_n 0, 1) := by decide +kernel
theorem dX8_goesBy_38 : decode cX8_goesBy 38 = .ok (.getfield 16, 3) := by decide +kernel
theorem dX8_goesBy_41 : decode cX8_goesBy 41 = .ok (.iconst 5, 1) := by decide +kernel
theorem dX8_goesBy_42 : decode cX8_goesBy 42 = .ok (.iload_n 1, 1) := by decide +kernel
theorem dX8_goesBy_43 : decode cX8_goesBy 43 = .ok (.imul, 1) := by decide +kernel
theorem dX8_goesBy_44 : decode cX8_goesBy 44 = .ok (.iconst 4, 1) := by decide +kernel
theorem dX8_goesBy_45 : decode cX8_goesBy 45 = .ok (.iadd, 1) := by decide +kernel
theorem dX8_goesBy_46 : decode cX8_goesBy 46 = .ok (.iaload, 1) := by decide +kernel
theorem dX8_goesBy_47 : decode cX8_goesBy 47 = .ok (.if_icmp .ge 5, 3) := by decide +kernel
theorem dX8_goesBy_50 : decode cX8_goesBy 50 = .ok (.iconst 0, 1) := by decide +kernel
theorem dX8_goesBy_51 : decode cX8_goesBy 51 = .ok (.istore_n 2, 1) := by decide +kernel
theorem dX8_goesBy_52 : decode cX8_goesBy 52 = .ok (.iconst 0, 1) := by decide +kernel
theorem dX8_goesBy_53 : decode cX8_goesBy 53 = .ok (.istore_n 3, 1) := by decide +kernel
theorem dX8_goesBy_54 : decode cX8_goesBy 54 = .ok (.iload_n 3, 1) := by decide +kernel
theorem dX8_goesBy_55 : decode cX8_goesBy 55 = .ok (.aload_n 0, 1) := by decide +kernel
theorem dX8_goesBy_56 : decode cX8_goesBy 56 = .ok (.getfield 100, 3) := by decide +kernel
theorem dX8_goesBy_59 : decode cX8_goesBy 59 = .ok (.if_icmp .ge 16, 3) := by decide +kernel
theorem dX8_goesBy_62 : decode cX8_goesBy 62 = .ok (.aload_n 0, 1) := by decide +kernel
theorem dX8_goesBy_63 : decode cX8_goesBy 63 = .ok (.iload_n 3, 1) := by decide +kernel
theorem dX8_goesBy_64 : decode cX8_goesBy 64 = .ok (.iload_n 1, 1) := by decide +kernel
theorem dX8_goesBy_65 : decode cX8_goesBy 65 = .ok (.iload_n 2, 1) := by decide +kernel
theorem dX8_goesBy_66 : decode cX8_goesBy 66 = .ok (.invokevirtual 294, 3) := by decide +kernel
theorem dX8_goesBy_69 : decode cX8_goesBy 69 = .ok (.iinc 3 1, 3) := by decide +kernel
theorem dX8_goesBy_72 : decode cX8_goesBy 72 = .ok (.goto (-18), 3) := by decide +kernel
theorem dX8_goesBy_75 : decode cX8_goesBy 75 = .ok (.aload_n 0, 1) := by decide +kernel
theorem dX8_goesBy_76 : decode cX8_goesBy 76 = .ok (.iload_n 1, 1) := by decide +kernel
theorem dX8_goesBy_77 : decode cX8_goesBy 77 = .ok (.invokevirtual 273, 3) := by decide +kernel
theorem dX8_goesBy_80 : decode cX8_goesBy 80 = .ok (.iconst 0, 1) := by decide +kernel
theorem dX8_goesBy_81 : decode cX8_goesBy 81 = .ok (.istore_n 3, 1) := by decide +kernel
theorem dX8_goesBy_82 : decode cX8_goesBy 82 = .ok (.iconst 0, 1) := by decide +kernel
theorem dX8_goesBy_83 : decode cX8_goesBy 83 = .ok (.istore 4, 2) := by decide +kernel
theorem dX8_goesBy_85 : decode cX8_goesBy 85 = .ok (.iload 4, 2) := by decide +kernel
theorem dX8_goesBy_87 : decode cX8_goesBy 87 = .ok (.aload_n 0, 1) := by decide +kernel
theorem dX8_goesBy_88 : decode cX8_goesBy 88 = .ok (.getfield 100, 3) := by decide +kernel
theorem dX8_goesBy_91 : decode cX8_goesBy 91 = .ok (.if_icmp .ge 70, 3) := by decide +kernel
theorem dX8_goesBy_94 : decode cX8_goesBy 94 = .ok (.aload_n 0, 1) := by decide +kernel
theorem dX8_goesBy_95 : decode cX8_goesBy 95 = .ok (.iload 4, 2) := by decide +kernel
theorem dX8_goesBy_97 : decode cX8_goesBy 97 = .ok (.invokevirtual 260, 3) := by decide +kernel
theorem dX8_goesBy_100 : decode cX8_goesBy 100 = .ok (.ifCond .eq 7, 3) := by decide +kernel
theorem dX8_goesBy_103 : decode cX8_goesBy 103 = .ok (.iconst 0, 1) := by decide +kernel
theorem dX8_goesBy_104 : decode cX8_goesBy 104 = .ok (.goto 12, 3) := by decide +kernel
theorem dX8_goesBy_107 : decode cX8_goesBy 107 = .ok (.iload_n 2, 1) := by decide +kernel
theorem dX8_goesBy_108 : decode cX8_goesBy 108 = .ok (.aload_n 0, 1) := by decide +kernel
theorem dX8_goesBy_109 : decode cX8_goesBy 109 = .ok (.getfield 28, 3) := by decide +kernel
theorem dX8_goesBy_112 : decode cX8_goesBy 112 = .ok (.iload 4, 2) := by decide +kernel
theorem dX8_goesBy_114 : decode cX8_goesBy 114 = .ok (.iaload, 1) := by decide +kernel
theorem dX8_goesBy_115 : decode cX8_goesBy 115 = .ok (.imul, 1) := by decide +kernel
theorem dX8_goesBy_116 : decode cX8_goesBy 116 = .ok (.istore 5, 2) := by decide +kernel
theorem dX8_goesBy_118 : decode cX8_goesBy 118 = .ok (.aload_n 0, 1) := by decide +kernel
theorem dX8_goesBy_119 : decode cX8_goesBy 119 = .ok (.getfield 7, 3) := by decide +kernel
theorem dX8_goesBy_122 : decode cX8_goesBy 122 = .ok (.bipush 25, 2) := by decide +kernel
theorem dX8_goesBy_124 : decode cX8_goesBy 124 = .ok (.iload 4, 2) := by decide +kernel
theorem dX8_goesBy_126 : decode cX8_goesBy 126 = .ok (.iadd, 1) := by decide +kernel
theorem dX8_goesBy_127 : decode cX8_goesBy 127 = .ok (.aload_n 0, 1) := by decide +kernel
theorem dX8_goesBy_128 : decode cX8_goesBy 128 = .ok (.getfield 7, 3) := by decide +kernel
theorem dX8_goesBy_131 : decode cX8_goesBy 131 = .ok (.bipush 25, 2) := by decide +kernel
theorem dX8_goesBy_133 : decode cX8_goesBy 133 = .ok (.iload 4, 2) := by decide +kernel
theorem dX8_goesBy_135 : decode cX8_goesBy 135 = .ok (.iadd, 1) := by decide +kernel
theorem dX8_goesBy_136 : decode cX8_goesBy 136 = .ok (.iaload, 1) := by decide +kernel
theorem dX8_goesBy_137 : decode cX8_goesBy 137 = .ok (.iload 5, 2) := by decide +kernel
theorem dX8_goesBy_139 : decode cX8_goesBy 139 = .ok (.iadd, 1) := by decide +kernel
theorem dX8_goesBy_140 : decode cX8_goesBy 140 = .ok (.iastore, 1) := by decide +kernel
theorem dX8_goesBy_141 : decode cX8_goesBy 141 = .ok (.iload_n 3, 1) := by decide +kernel
theorem dX8_goesBy_142 : decode cX8_goesBy 142 = .ok (.iload 5, 2) := by decide +kernel
theorem dX8_goesBy_144 : decode cX8_goesBy 144 = .ok (.iadd, 1) := by decide +kernel
theorem dX8_goesBy_145 : decode cX8_goesBy 145 = .ok (.istore_n 3, 1) := by decide +kernel
theorem dX8_goesBy_146 : decode cX8_goesBy 146 = .ok (.aload_n 0, 1) := by decide +kernel
theorem dX8_goesBy_147 : decode cX8_goesBy 147 = .ok (.iload 4, 2) := by decide +kernel
theorem dX8_goesBy_149 : decode cX8_goesBy 149 = .ok (.iload_n 1, 1) := by decide +kernel
theorem dX8_goesBy_150 : decode cX8_goesBy 150 = .ok (.iload 5, 2) := by decide +kernel
theorem dX8_goesBy_152 : decode cX8_goesBy 152 = .ok (.invokevirtual 297, 3) := by decide +kernel
theorem dX8_goesBy_155 : decode cX8_goesBy 155 = .ok (.iinc 4 1, 3) := by decide +kernel
theorem dX8_goesBy_158 : decode cX8_goesBy 158 = .ok (.goto (-73), 3) := by decide +kernel
theorem dX8_goesBy_161 : decode cX8_goesBy 161 = .ok (.iconst 0, 1) := by decide +kernel
theorem dX8_goesBy_162 : decode cX8_goesBy 162 = .ok (.istore 4, 2) := by decide +kernel
theorem dX8_goesBy_164 : decode cX8_goesBy 164 = .ok (.iload 4, 2) := by decide +kernel
theorem dX8_goesBy_166 : decode cX8_goesBy 166 = .ok (.aload_n 0, 1) := by decide +kernel
theorem dX8_goesBy_167 : decode cX8_goesBy 167 = .ok (.getfield 100, 3) := by decide +kernel
theorem dX8_goesBy_170 : decode cX8_goesBy 170 = .ok (.if_icmp .ge 81, 3) := by decide +kernel
theorem dX8_goesBy_173 : decode cX8_goesBy 173 = .ok (.iconst 0, 1) := by decide +kernel
theorem dX8_goesBy_174 : decode cX8_goesBy 174 = .ok (.istore 5, 2) := by decide +kernel
theorem dX8_goesBy_176 : decode cX8_goesBy 176 = .ok (.iload 5, 2) := by decide +kernel
theorem dX8_goesBy_178 : decode cX8_goesBy 178 = .ok (.iload 4, 2) := by decide +kernel
theorem dX8_goesBy_180 : decode cX8_goesBy 180 = .ok (.if_icmp .ge 65, 3) := by decide +kernel
theorem dX8_goesBy_183 : decode cX8_goesBy 183 = .ok (.aload_n 0, 1) := by decide +kernel
theorem dX8_goesBy_184 : decode cX8_goesBy 184 = .ok (.getfield 31, 3) := by decide +kernel
theorem dX8_goesBy_187 : decode cX8_goesBy 187 = .ok (.iload 4, 2) := by decide +kernel
theorem dX8_goesBy_189 : decode cX8_goesBy 189 = .ok (.iaload, 1) := by decide +kernel
theorem dX8_goesBy_190 : decode cX8_goesBy 190 = .ok (.iload 5, 2) := by decide +kernel
theorem dX8_goesBy_192 : decode cX8_goesBy 192 = .ok (.ishr, 1) := by decide +kernel
theorem dX8_goesBy_193 : decode cX8_goesBy 193 = .ok (.iconst 1, 1) := by decide +kernel
theorem dX8_goesBy_194 : decode cX8_goesBy 194 = .ok (.iand, 1) := by decide +kernel
theorem dX8_goesBy_195 : decode cX8_goesBy 195 = .ok (.iconst 1, 1) := by decide +kernel
theorem dX8_goesBy_196 : decode cX8_goesBy 196 = .ok (.if_icmp .ne 43, 3) := by decide +kernel
theorem dX8_goesBy_199 : decode cX8_goesBy 199 = .ok (.aload_n 0, 1) := by decide +kernel
theorem dX8_goesBy_200 : decode cX8_goesBy 200 = .ok (.aload_n 0, 1) := by decide +kernel
theorem dX8_goesBy_201 : decode cX8_goesBy 201 = .ok (.getfield 7, 3) := by decide +kernel
theorem dX8_goesBy_204 : decode cX8_goesBy 204 = .ok (.iconst 5, 1) := by decide +kernel
theorem dX8_goesBy_205 : decode cX8_goesBy 205 = .ok (.iload 4, 2) := by decide +kernel
theorem dX8_goesBy_207 : decode cX8_goesBy 207 = .ok (.iadd, 1) := by decide +kernel
theorem dX8_goesBy_208 : decode cX8_goesBy 208 = .ok (.iaload, 1) := by decide +kernel
theorem dX8_goesBy_209 : decode cX8_goesBy 209 = .ok (.aload_n 0, 1) := by decide +kernel
theorem dX8_goesBy_210 : decode cX8_goesBy 210 = .ok (.getfield 7, 3) := by decide +kernel
theorem dX8_goesBy_213 : decode cX8_goesBy 213 = .ok (.iconst 5, 1) := by decide +kernel
theorem dX8_goesBy_214 : decode cX8_goesBy 214 = .ok (.iload 5, 2) := by decide +kernel
theorem dX8_goesBy_216 : decode cX8_goesBy 216 = .ok (.iadd, 1) := by decide +kernel
theorem dX8_goesBy_217 : decode cX8_goesBy 217 = .ok (.iaload, 1) := by decide +kernel
theorem dX8_goesBy_218 : decode cX8_goesBy 218 = .ok (.invokevirtual 267, 3) := by decide +kernel
theorem dX8_goesBy_221 : decode cX8_goesBy 221 = .ok (.iconst 1, 1) := by decide +kernel
theorem dX8_goesBy_222 : decode cX8_goesBy 222 = .ok (.if_icmp .gt 17, 3) := by decide +kernel
theorem dX8_goesBy_225 : decode cX8_goesBy 225 = .ok (.aload_n 0, 1) := by decide +kernel
theorem dX8_goesBy_226 : decode cX8_goesBy 226 = .ok (.getfield 7, 3) := by decide +kernel
theorem dX8_goesBy_229 : decode cX8_goesBy 229 = .ok (.iconst 3, 1) := by decide +kernel
theorem dX8_goesBy_230 : decode cX8_goesBy 230 = .ok (.aload_n 0, 1) := by decide +kernel
theorem dX8_goesBy_231 : decode cX8_goesBy 231 = .ok (.getfield 7, 3) := by decide +kernel
theorem dX8_goesBy_234 : decode cX8_goesBy 234 = .ok (.iconst 3, 1) := by decide +kernel
theorem dX8_goesBy_235 : decode cX8_goesBy 235 = .ok (.iaload, 1) := by decide +kernel
theorem dX8_goesBy_236 : decode cX8_goesBy 236 = .ok (.iconst 1, 1) := by decide +kernel
theorem dX8_goesBy_237 : decode cX8_goesBy 237 = .ok (.iadd, 1) := by decide +kernel
theorem dX8_goesBy_238 : decode cX8_goesBy 238 = .ok (.iastore, 1) := by decide +kernel
theorem dX8_goesBy_239 : decode cX8_goesBy 239 = .ok (.iinc 5 1, 3) := by decide +kernel
theorem dX8_goesBy_242 : decode cX8_goesBy 242 = .ok (.goto (-66), 3) := by decide +kernel
theorem dX8_goesBy_245 : decode cX8_goesBy 245 = .ok (.iinc 4 1, 3) := by decide +kernel
theorem dX8_goesBy_248 : decode cX8_goesBy 248 = .ok (.goto (-84), 3) := by decide +kernel
theorem dX8_goesBy_251 : decode cX8_goesBy 251 = .ok (.aload_n 0, 1) := by decide +kernel
theorem dX8_goesBy_252 : decode cX8_goesBy 252 = .ok (.getfield 7, 3) := by decide +kernel
theorem dX8_goesBy_255 : decode cX8_goesBy 255 = .ok (.iconst 1, 1) := by decide +kernel
theorem dX8_goesBy_256 : decode cX8_goesBy 256 = .ok (.iload_n 1, 1) := by decide +kernel
theorem dX8_goesBy_257 : decode cX8_goesBy 257 = .ok (.iconst 1, 1) := by decide +kernel
theorem dX8_goesBy_258 : decode cX8_goesBy 258 = .ok (.iadd, 1) := by decide +kernel
theorem dX8_goesBy_259 : decode cX8_goesBy 259 = .ok (.iastore, 1) := by decide +kernel
theorem dX8_goesBy_260 : decode cX8_goesBy 260 = .ok (.iload_n 3, 1) := by decide +kernel
theorem dX8_goesBy_261 : decode cX8_goesBy 261 = .ok (.ireturn, 1) := by decide +kernel
set_option maxRecDepth 20000 in
theorem wX8_goesBy_239 {p : Program} {l : Launch} {e : Env} {s : State} {m : MethodId} {args : Array Value} {below : List Frame} {meth : Method} {c : Code} {Z : XG} {r : Int32} {S' : Mem} (E : XE p s m args meth c cX8_goesBy 6 RX8 (some .int) mL Z) (k0 : Mem → Int32 → Int32 → Int32 → O)  (k1 : Mem → Int32 → Int32 → Int32 → Int32 → O)  (hk0 : ∀ (S : Mem) (x1 x3 x4 : Int32), k0 S x1 x3 x4 = some (r, S') → WN p l e { frames := 6, cells := 0, slots := 0, locals := 144 } s m args below meth c mL Z (XQ mL Z r S') S 164 6 [(0, .ref (Z.2.1 0)), (1, .int x1), (3, .int x3), (4, .int x4)] []) (hk1 : ∀ (S : Mem) (x1 x3 x4 x5 : Int32), k1 S x1 x3 x4 x5 = some (r, S') → WN p l e { frames := 6, cells := 0, slots := 0, locals := 144 } s m args below meth c mL Z (XQ mL Z r S') S 176 6 [(0, .ref (Z.2.1 0)), (1, .int x1), (3, .int x3), (4, .int x4), (5, .int x5)] []) : ∀ (S : Mem) (x1 x3 x4 x5 : Int32), fX8_goesBy_239 k0 k1 S x1 x3 x4 x5 = some (r, S') → WN p l e { frames := 6, cells := 0, slots := 0, locals := 144 } s m args below meth c mL Z (XQ mL Z r S') S 239 6 [(0, .ref (Z.2.1 0)), (1, .int x1), (3, .int x3), (4, .int x4), (5, .int x5)] [] := by
  obtain ⟨hx, hb, -, -, -, -, -, -, -, hQ⟩ := id E
  intro S x1 x3 x4 x5 h H locs ls X hl
  unfold fX8_goesBy_239 at h
  refine lv_iinc (v := (x5 + (1 : Int32))) (lv' := [(5, .int (x5 + (1 : Int32))), (0, .ref (Z.2.1 0)), (1, .int x1), (3, .int x3), (4, .int x4)]) hx hb dX8_goesBy_239 hl (k := 4) rfl rfl (by decide) rfl (fun ls hl => ?_)
  refine lv_goto (tgt := 176) hx hb dX8_goesBy_242 (by decide) ?_
  exact hk1 S x1 x3 x4 (x5 + (1 : Int32)) h _ _ _ X (lv_sub hl [1, 2, 3, 4, 0] rfl)
set_option maxRecDepth 20000 in
theorem wX8_goesBy_176_b {p : Program} {l : Launch} {e : Env} {s : State} {m : MethodId} {args : Array Value} {below : List Frame} {meth : Method} {c : Code} {Z : XG} {r : Int32} {S' : Mem} (E : XE p s m args meth c cX8_goesBy 6 RX8 (some .int) mL Z) (k0 : Mem → Int32 → Int32 → Int32 → O)  (k1 : Mem → Int32 → Int32 → Int32 → Int32 → O)  (hk0 : ∀ (S : Mem) (x1 x3 x4 : Int32), k0 S x1 x3 x4 = some (r, S') → WN p l e { frames := 6, cells := 0, slots := 0, locals := 144 } s m args below meth c mL Z (XQ mL Z r S') S 164 6 [(0, .ref (Z.2.1 0)), (1, .int x1), (3, .int x3), (4, .int x4)] []) (hk1 : ∀ (S : Mem) (x1 x3 x4 x5 : Int32), k1 S x1 x3 x4 x5 = some (r, S') → WN p l e { frames := 6, cells := 0, slots := 0, locals := 144 } s m args below meth c mL Z (XQ mL Z r S') S 176 6 [(0, .ref (Z.2.1 0)), (1, .int x1), (3, .int x3), (4, .int x4), (5, .int x5)] []) : ∀ (S : Mem) (x1 x3 x4 x5 : Int32), fX8_goesBy_176_b k0 k1 S x1 x3 x4 x5 = some (r, S') → WN p l e { frames := 6, cells := 0, slots := 0, locals := 144 } s m args below meth c mL Z (XQ mL Z r S') S 176 6 [(0, .ref (Z.2.1 0)), (1, .int x1), (3, .int x3), (4, .int x4), (5, .int x5)] [] := by
  obtain ⟨hx, hb, -, -, -, -, -, -, -, hQ⟩ := id E
  intro S x1 x3 x4 x5 h H locs ls X hl
  unfold fX8_goesBy_176_b at h
  refine lv_iload hx hb dX8_goesBy_176 (lv_at hl 4 rfl) ?_
  refine lv_iload hx hb dX8_goesBy_178 (lv_at hl 3 rfl) ?_
  refine lv_icmp_ge (tgt := 245) hx hb dX8_goesBy_180 (by decide) (fun c_1 => ?_) (fun c_1 => ?_)
  · have h := if_t c_1 h
    refine lv_iinc (v := (x4 + (1 : Int32))) (lv' := [(4, .int (x4 + (1 : Int32))), (0, .ref (Z.2.1 0)), (1, .int x1), (3, .int x3), (5, .int x5)]) hx hb dX8_goesBy_245 hl (k := 3) rfl rfl (by decide) rfl (fun ls hl => ?_)
    refine lv_goto (tgt := 164) hx hb dX8_goesBy_248 (by decide) ?_
    exact hk0 S x1 x3 (x4 + (1 : Int32)) h _ _ _ X (lv_sub hl [1, 2, 3, 0] rfl)
  · have h := if_f c_1 h
    refine lv_aload_n hx hb dX8_goesBy_183 rfl (lv_at hl 0 rfl) ?_
    refine x_getr E X ffX8_31 rfl rfl dX8_goesBy_184 ?_
    refine lv_iload hx hb dX8_goesBy_187 (lv_at hl 3 rfl) ?_
    obtain ⟨g_2, h⟩ := gd_s h
    refine x_iald E X rfl g_2 dX8_goesBy_189 ?_
    refine lv_iload hx hb dX8_goesBy_190 (lv_at hl 4 rfl) ?_
    refine lv_ishr hx hb dX8_goesBy_192 ?_
    refine lv_iconst (v := (1 : Int32)) hx hb dX8_goesBy_193 (by decide) ?_
    refine lv_iand hx hb dX8_goesBy_194 ?_
    refine lv_iconst (v := (1 : Int32)) hx hb dX8_goesBy_195 (by decide) ?_
    refine lv_icmp_ne (tgt := 239) hx hb dX8_goesBy_196 (by decide) (fun c_3 => ?_) (fun c_3 => ?_)
    · have h := if_f c_3 h
      exact wX8_goesBy_239 E k0 k1 hk0 hk1 S x1 x3 x4 x5 h _ _ _ X hl
    · have h := if_t c_3 h
      refine lv_aload_n hx hb dX8_goesBy_199 rfl (lv_at hl 0 rfl) ?_
      refine lv_aload_n hx hb dX8_goesBy_200 rfl (lv_at hl 0 rfl) ?_
      refine x_getr E X ffX8_7 rfl rfl dX8_goesBy_201 ?_
      refine lv_iconst (v := (5 : Int32)) hx hb dX8_goesBy_204 (by decide) ?_
      refine lv_iload hx hb dX8_goesBy_205 (lv_at hl 3 rfl) ?_
      refine lv_iadd hx hb dX8_goesBy_207 ?_
      obtain ⟨g_4, h⟩ := gd_s h
      refine x_iald E X rfl g_4 dX8_goesBy_208 ?_
      refine lv_aload_n hx hb dX8_goesBy_209 rfl (lv_at hl 0 rfl) ?_
      refine x_getr E X ffX8_7 rfl rfl dX8_goesBy_210 ?_
      refine lv_iconst (v := (5 : Int32)) hx hb dX8_goesBy_213 (by decide) ?_
      refine lv_iload hx hb dX8_goesBy_214 (lv_at hl 4 rfl) ?_
      refine lv_iadd hx hb dX8_goesBy_216 ?_
      obtain ⟨g_5, h⟩ := gd_s h
      refine x_iald E X rfl g_5 dX8_goesBy_217 ?_
      obtain ⟨r_6, S_7, hr_6, h⟩ := bnd_s h
      refine x_callV E X cwX8_267 (mX8_far l Z hQ  (S 1 (((5 : Int32) + x4)).toNatClampNeg) (S 1 (((5 : Int32) + x5)).toNatClampNeg) hr_6) rfl rfl rfl rfl hl.1 rfl dX8_goesBy_218 (fun H locs X => ?_)
      refine lv_iconst (v := (1 : Int32)) hx hb dX8_goesBy_221 (by decide) ?_
      refine lv_icmp_gt (tgt := 239) hx hb dX8_goesBy_222 (by decide) (fun c_8 => ?_) (fun c_8 => ?_)
      · have h := if_t c_8 h
        exact wX8_goesBy_239 E k0 k1 hk0 hk1 S_7 x1 x3 x4 x5 h _ _ _ X hl
      · have h := if_f c_8 h
        refine lv_aload_n hx hb dX8_goesBy_225 rfl (lv_at hl 0 rfl) ?_
        refine x_getr E X ffX8_7 rfl rfl dX8_goesBy_226 ?_
        refine lv_iconst (v := (3 : Int32)) hx hb dX8_goesBy_229 (by decide) ?_
        refine lv_aload_n hx hb dX8_goesBy_230 rfl (lv_at hl 0 rfl) ?_
        refine x_getr E X ffX8_7 rfl rfl dX8_goesBy_231 ?_
        refine lv_iconst (v := (3 : Int32)) hx hb dX8_goesBy_234 (by decide) ?_
        refine x_iald E X rfl (by decide) dX8_goesBy_235 ?_
        refine lv_iconst (v := (1 : Int32)) hx hb dX8_goesBy_236 (by decide) ?_
        refine lv_iadd hx hb dX8_goesBy_237 ?_
        obtain ⟨S_9, eS_9, h⟩ := ltm_s h
        refine x_iast E X rfl (by decide) dX8_goesBy_238 (fun H locs X => ?_)
        rw [← eS_9] at X
        exact wX8_goesBy_239 E k0 k1 hk0 hk1 S_9 x1 x3 x4 x5 h _ _ _ X hl
theorem wX8_goesBy_176 {p : Program} {l : Launch} {e : Env} {s : State} {m : MethodId} {args : Array Value} {below : List Frame} {meth : Method} {c : Code} {Z : XG} {r : Int32} {S' : Mem} (E : XE p s m args meth c cX8_goesBy 6 RX8 (some .int) mL Z) (k0 : Mem → Int32 → Int32 → Int32 → O)  (hk0 : ∀ (S : Mem) (x1 x3 x4 : Int32), k0 S x1 x3 x4 = some (r, S') → WN p l e { frames := 6, cells := 0, slots := 0, locals := 144 } s m args below meth c mL Z (XQ mL Z r S') S 164 6 [(0, .ref (Z.2.1 0)), (1, .int x1), (3, .int x3), (4, .int x4)] []) : ∀ (n : Nat) (S : Mem) (x1 x3 x4 x5 : Int32), fX8_goesBy_176 k0 n S x1 x3 x4 x5 = some (r, S') → WN p l e { frames := 6, cells := 0, slots := 0, locals := 144 } s m args below meth c mL Z (XQ mL Z r S') S 176 6 [(0, .ref (Z.2.1 0)), (1, .int x1), (3, .int x3), (4, .int x4), (5, .int x5)] [] := by
  intro n
  induction n with
  | zero => intro S x1 x3 x4 x5 h; exact absurd (show (none : O) = some _ from h) (by simp)
  | succ n ih => intro S x1 x3 x4 x5 h; exact wX8_goesBy_176_b E k0 (fX8_goesBy_176 k0 n) hk0 ih S x1 x3 x4 x5 h
set_option maxRecDepth 20000 in
theorem wX8_goesBy_164_b {p : Program} {l : Launch} {e : Env} {s : State} {m : MethodId} {args : Array Value} {below : List Frame} {meth : Method} {c : Code} {Z : XG} {r : Int32} {S' : Mem} (E : XE p s m args meth c cX8_goesBy 6 RX8 (some .int) mL Z) (k0 : Mem → Int32 → Int32 → Int32 → O)  (hk0 : ∀ (S : Mem) (x1 x3 x4 : Int32), k0 S x1 x3 x4 = some (r, S') → WN p l e { frames := 6, cells := 0, slots := 0, locals := 144 } s m args below meth c mL Z (XQ mL Z r S') S 164 6 [(0, .ref (Z.2.1 0)), (1, .int x1), (3, .int x3), (4, .int x4)] []) : ∀ (S : Mem) (x1 x3 x4 : Int32), fX8_goesBy_164_b k0 S x1 x3 x4 = some (r, S') → WN p l e { frames := 6, cells := 0, slots := 0, locals := 144 } s m args below meth c mL Z (XQ mL Z r S') S 164 6 [(0, .ref (Z.2.1 0)), (1, .int x1), (3, .int x3), (4, .int x4)] [] := by
  obtain ⟨hx, hb, -, -, -, -, -, -, -, hQ⟩ := id E
  intro S x1 x3 x4 h H locs ls X hl
  unfold fX8_goesBy_164_b at h
  refine lv_iload hx hb dX8_goesBy_164 (lv_at hl 3 rfl) ?_
  refine lv_aload_n hx hb dX8_goesBy_166 rfl (lv_at hl 0 rfl) ?_
  refine x_get E X ffX8_100 rfl rfl dX8_goesBy_167 ?_
  refine lv_icmp_ge (tgt := 251) hx hb dX8_goesBy_170 (by decide) (fun c_1 => ?_) (fun c_1 => ?_)
  · have h := if_t c_1 h
    refine lv_aload_n hx hb dX8_goesBy_251 rfl (lv_at hl 0 rfl) ?_
    refine x_getr E X ffX8_7 rfl rfl dX8_goesBy_252 ?_
    refine lv_iconst (v := (1 : Int32)) hx hb dX8_goesBy_255 (by decide) ?_
    refine lv_iload_n hx hb dX8_goesBy_256 rfl (lv_at hl 1 rfl) ?_
    refine lv_iconst (v := (1 : Int32)) hx hb dX8_goesBy_257 (by decide) ?_
    refine lv_iadd hx hb dX8_goesBy_258 ?_
    obtain ⟨S_2, eS_2, h⟩ := ltm_s h
    refine x_iast E X rfl (by decide) dX8_goesBy_259 (fun H locs X => ?_)
    rw [← eS_2] at X
    refine lv_iload_n hx hb dX8_goesBy_260 rfl (lv_at hl 2 rfl) ?_
    exact x_iret E X h dX8_goesBy_261
  · have h := if_f c_1 h
    refine lv_iconst (v := (0 : Int32)) hx hb dX8_goesBy_173 (by decide) ?_
    refine lv_istore (lv' := [(5, .int (0 : Int32)), (0, .ref (Z.2.1 0)), (1, .int x1), (3, .int x3), (4, .int x4)]) hx hb dX8_goesBy_174 hl (by decide) rfl (fun ls hl => ?_)
    exact wX8_goesBy_176 E k0 hk0 FU S x1 x3 x4 (0 : Int32) h _ _ _ X (lv_sub hl [1, 2, 3, 4, 0] rfl)
theorem wX8_goesBy_164 {p : Program} {l : Launch} {e : Env} {s : State} {m : MethodId} {args : Array Value} {below : List Frame} {meth : Method} {c : Code} {Z : XG} {r : Int32} {S' : Mem} (E : XE p s m args meth c cX8_goesBy 6 RX8 (some .int) mL Z) : ∀ (n : Nat) (S : Mem) (x1 x3 x4 : Int32), fX8_goesBy_164 n S x1 x3 x4 = some (r, S') → WN p l e { frames := 6, cells := 0, slots := 0, locals := 144 } s m args below meth c mL Z (XQ mL Z r S') S 164 6 [(0, .ref (Z.2.1 0)), (1, .int x1), (3, .int x3), (4, .int x4)] [] := by
  intro n
  induction n with
  | zero => intro S x1 x3 x4 h; exact absurd (show (none : O) = some _ from h) (by simp)
  | succ n ih => intro S x1 x3 x4 h; exact wX8_goesBy_164_b E (fX8_goesBy_164 n) ih S x1 x3 x4 h
set_option maxRecDepth 20000 in
theorem wX8_goesBy_116 {p : Program} {l : Launch} {e : Env} {s : State} {m : MethodId} {args : Array Value} {below : List Frame} {meth : Method} {c : Code} {Z : XG} {r : Int32} {S' : Mem} (E : XE p s m args meth c cX8_goesBy 6 RX8 (some .int) mL Z) (k0 : Mem → Int32 → Int32 → Int32 → Int32 → O)  (hk0 : ∀ (S : Mem) (x1 x2 x3 x4 : Int32), k0 S x1 x2 x3 x4 = some (r, S') → WN p l e { frames := 6, cells := 0, slots := 0, locals := 144 } s m args below meth c mL Z (XQ mL Z r S') S 85 6 [(0, .ref (Z.2.1 0)), (1, .int x1), (2, .int x2), (3, .int x3), (4, .int x4)] []) : ∀ (S : Mem) (x1 x2 x3 x4 s0 : Int32), fX8_goesBy_116 k0 S x1 x2 x3 x4 s0 = some (r, S') → WN p l e { frames := 6, cells := 0, slots := 0, locals := 144 } s m args below meth c mL Z (XQ mL Z r S') S 116 6 [(0, .ref (Z.2.1 0)), (1, .int x1), (2, .int x2), (3, .int x3), (4, .int x4)] [.int s0] := by
  obtain ⟨hx, hb, -, -, -, -, -, -, -, hQ⟩ := id E
  intro S x1 x2 x3 x4 s0 h H locs ls X hl
  unfold fX8_goesBy_116 at h
  refine lv_istore (lv' := [(5, .int s0), (0, .ref (Z.2.1 0)), (1, .int x1), (2, .int x2), (3, .int x3), (4, .int x4)]) hx hb dX8_goesBy_116 hl (by decide) rfl (fun ls hl => ?_)
  refine lv_aload_n hx hb dX8_goesBy_118 rfl (lv_at hl 1 rfl) ?_
  refine x_getr E X ffX8_7 rfl rfl dX8_goesBy_119 ?_
  refine lv_bipush (v := (25 : Int32)) hx hb dX8_goesBy_122 (by decide) ?_
  refine lv_iload hx hb dX8_goesBy_124 (lv_at hl 5 rfl) ?_
  refine lv_iadd hx hb dX8_goesBy_126 ?_
  refine lv_aload_n hx hb dX8_goesBy_127 rfl (lv_at hl 1 rfl) ?_
  refine x_getr E X ffX8_7 rfl rfl dX8_goesBy_128 ?_
  refine lv_bipush (v := (25 : Int32)) hx hb dX8_goesBy_131 (by decide) ?_
  refine lv_iload hx hb dX8_goesBy_133 (lv_at hl 5 rfl) ?_
  refine lv_iadd hx hb dX8_goesBy_135 ?_
  obtain ⟨g_1, h⟩ := gd_s h
  refine x_iald E X rfl g_1 dX8_goesBy_136 ?_
  refine lv_iload hx hb dX8_goesBy_137 (lv_at hl 0 rfl) ?_
  refine lv_iadd hx hb dX8_goesBy_139 ?_
  obtain ⟨g_2, h⟩ := gd_s h
  obtain ⟨S_3, eS_3, h⟩ := ltm_s h
  refine x_iast E X rfl g_2 dX8_goesBy_140 (fun H locs X => ?_)
  rw [← eS_3] at X
  refine lv_iload_n hx hb dX8_goesBy_141 rfl (lv_at hl 4 rfl) ?_
  refine lv_iload hx hb dX8_goesBy_142 (lv_at hl 0 rfl) ?_
  refine lv_iadd hx hb dX8_goesBy_144 ?_
  obtain ⟨x3_4, ex3_4, h⟩ := lti_s h
  refine lv_nm ex3_4 ?_
  refine lv_istore_n (lv' := [(3, .int x3_4), (5, .int s0), (0, .ref (Z.2.1 0)), (1, .int x1), (2, .int x2), (4, .int x4)]) hx hb dX8_goesBy_145 rfl hl (by decide) rfl (fun ls hl => ?_)
  refine lv_aload_n hx hb dX8_goesBy_146 rfl (lv_at hl 2 rfl) ?_
  refine lv_iload hx hb dX8_goesBy_147 (lv_at hl 5 rfl) ?_
  refine lv_iload_n hx hb dX8_goesBy_149 rfl (lv_at hl 3 rfl) ?_
  refine lv_iload hx hb dX8_goesBy_150 (lv_at hl 1 rfl) ?_
  obtain ⟨r_5, S_6, hr_5, h⟩ := bnd_s h
  refine x_callVv E X cwX8_297 (mX8_writes l Z hQ  x4 x1 s0 hr_5) rfl rfl rfl rfl hl.1 rfl dX8_goesBy_152 (fun H locs X => ?_)
  refine lv_iinc (v := (x4 + (1 : Int32))) (lv' := [(4, .int (x4 + (1 : Int32))), (3, .int x3_4), (5, .int s0), (0, .ref (Z.2.1 0)), (1, .int x1), (2, .int x2)]) hx hb dX8_goesBy_155 hl (k := 5) rfl rfl (by decide) rfl (fun ls hl => ?_)
  refine lv_goto (tgt := 85) hx hb dX8_goesBy_158 (by decide) ?_
  exact hk0 S_6 x1 x2 x3_4 (x4 + (1 : Int32)) h _ _ _ X (lv_sub hl [3, 4, 5, 1, 0] rfl)
set_option maxRecDepth 20000 in
theorem wX8_goesBy_85_b {p : Program} {l : Launch} {e : Env} {s : State} {m : MethodId} {args : Array Value} {below : List Frame} {meth : Method} {c : Code} {Z : XG} {r : Int32} {S' : Mem} (E : XE p s m args meth c cX8_goesBy 6 RX8 (some .int) mL Z) (k0 : Mem → Int32 → Int32 → Int32 → Int32 → O)  (hk0 : ∀ (S : Mem) (x1 x2 x3 x4 : Int32), k0 S x1 x2 x3 x4 = some (r, S') → WN p l e { frames := 6, cells := 0, slots := 0, locals := 144 } s m args below meth c mL Z (XQ mL Z r S') S 85 6 [(0, .ref (Z.2.1 0)), (1, .int x1), (2, .int x2), (3, .int x3), (4, .int x4)] []) : ∀ (S : Mem) (x1 x2 x3 x4 : Int32), fX8_goesBy_85_b k0 S x1 x2 x3 x4 = some (r, S') → WN p l e { frames := 6, cells := 0, slots := 0, locals := 144 } s m args below meth c mL Z (XQ mL Z r S') S 85 6 [(0, .ref (Z.2.1 0)), (1, .int x1), (2, .int x2), (3, .int x3), (4, .int x4)] [] := by
  obtain ⟨hx, hb, -, -, -, -, -, -, -, hQ⟩ := id E
  intro S x1 x2 x3 x4 h H locs ls X hl
  unfold fX8_goesBy_85_b at h
  refine lv_iload hx hb dX8_goesBy_85 (lv_at hl 4 rfl) ?_
  refine lv_aload_n hx hb dX8_goesBy_87 rfl (lv_at hl 0 rfl) ?_
  refine x_get E X ffX8_100 rfl rfl dX8_goesBy_88 ?_
  refine lv_icmp_ge (tgt := 161) hx hb dX8_goesBy_91 (by decide) (fun c_1 => ?_) (fun c_1 => ?_)
  · have h := if_t c_1 h
    refine lv_iconst (v := (0 : Int32)) hx hb dX8_goesBy_161 (by decide) ?_
    refine lv_istore (lv' := [(4, .int (0 : Int32)), (0, .ref (Z.2.1 0)), (1, .int x1), (2, .int x2), (3, .int x3)]) hx hb dX8_goesBy_162 hl (by decide) rfl (fun ls hl => ?_)
    exact wX8_goesBy_164 E   FU S x1 x3 (0 : Int32) h _ _ _ X (lv_sub hl [1, 2, 4, 0] rfl)
  · have h := if_f c_1 h
    refine lv_aload_n hx hb dX8_goesBy_94 rfl (lv_at hl 0 rfl) ?_
    refine lv_iload hx hb dX8_goesBy_95 (lv_at hl 4 rfl) ?_
    obtain ⟨r_2, S_3, hr_2, h⟩ := bnd_s h
    refine x_callV E X cwX8_260 (mX8_isShaded l Z hQ  x4 hr_2) rfl rfl rfl rfl hl.1 rfl dX8_goesBy_97 (fun H locs X => ?_)
    refine lv_if_eq (tgt := 107) hx hb dX8_goesBy_100 (by decide) (fun c_4 => ?_) (fun c_4 => ?_)
    · have h := if_t c_4 h
      refine lv_iload_n hx hb dX8_goesBy_107 rfl (lv_at hl 2 rfl) ?_
      refine lv_aload_n hx hb dX8_goesBy_108 rfl (lv_at hl 0 rfl) ?_
      refine x_getr E X ffX8_28 rfl rfl dX8_goesBy_109 ?_
      refine lv_iload hx hb dX8_goesBy_112 (lv_at hl 4 rfl) ?_
      obtain ⟨g_5, h⟩ := gd_s h
      refine x_iald E X rfl g_5 dX8_goesBy_114 ?_
      refine lv_imul hx hb dX8_goesBy_115 ?_
      exact wX8_goesBy_116 E k0 hk0 S_3 x1 x2 x3 x4 (x2 * (S_3 7 (x4).toNatClampNeg)) h _ _ _ X hl
    · have h := if_f c_4 h
      refine lv_iconst (v := (0 : Int32)) hx hb dX8_goesBy_103 (by decide) ?_
      refine lv_goto (tgt := 116) hx hb dX8_goesBy_104 (by decide) ?_
      exact wX8_goesBy_116 E k0 hk0 S_3 x1 x2 x3 x4 (0 : Int32) h _ _ _ X hl
theorem wX8_goesBy_85 {p : Program} {l : Launch} {e : Env} {s : State} {m : MethodId} {args : Array Value} {below : List Frame} {meth : Method} {c : Code} {Z : XG} {r : Int32} {S' : Mem} (E : XE p s m args meth c cX8_goesBy 6 RX8 (some .int) mL Z) : ∀ (n : Nat) (S : Mem) (x1 x2 x3 x4 : Int32), fX8_goesBy_85 n S x1 x2 x3 x4 = some (r, S') → WN p l e { frames := 6, cells := 0, slots := 0, locals := 144 } s m args below meth c mL Z (XQ mL Z r S') S 85 6 [(0, .ref (Z.2.1 0)), (1, .int x1), (2, .int x2), (3, .int x3), (4, .int x4)] [] := by
  intro n
  induction n with
  | zero => intro S x1 x2 x3 x4 h; exact absurd (show (none : O) = some _ from h) (by simp)
  | succ n ih => intro S x1 x2 x3 x4 h; exact wX8_goesBy_85_b E (fX8_goesBy_85 n) ih S x1 x2 x3 x4 h
set_option maxRecDepth 20000 in
theorem wX8_goesBy_54_b {p : Program} {l : Launch} {e : Env} {s : State} {m : MethodId} {args : Array Value} {below : List Frame} {meth : Method} {c : Code} {Z : XG} {r : Int32} {S' : Mem} (E : XE p s m args meth c cX8_goesBy 6 RX8 (some .int) mL Z) (k0 : Mem → Int32 → Int32 → Int32 → O)  (hk0 : ∀ (S : Mem) (x1 x2 x3 : Int32), k0 S x1 x2 x3 = some (r, S') → WN p l e { frames := 6, cells := 0, slots := 0, locals := 144 } s m args below meth c mL Z (XQ mL Z r S') S 54 6 [(0, .ref (Z.2.1 0)), (1, .int x1), (2, .int x2), (3, .int x3)] []) : ∀ (S : Mem) (x1 x2 x3 : Int32), fX8_goesBy_54_b k0 S x1 x2 x3 = some (r, S') → WN p l e { frames := 6, cells := 0, slots := 0, locals := 144 } s m args below meth c mL Z (XQ mL Z r S') S 54 6 [(0, .ref (Z.2.1 0)), (1, .int x1), (2, .int x2), (3, .int x3)] [] := by
  obtain ⟨hx, hb, -, -, -, -, -, -, -, hQ⟩ := id E
  intro S x1 x2 x3 h H locs ls X hl
  unfold fX8_goesBy_54_b at h
  refine lv_iload_n hx hb dX8_goesBy_54 rfl (lv_at hl 3 rfl) ?_
  refine lv_aload_n hx hb dX8_goesBy_55 rfl (lv_at hl 0 rfl) ?_
  refine x_get E X ffX8_100 rfl rfl dX8_goesBy_56 ?_
  refine lv_icmp_ge (tgt := 75) hx hb dX8_goesBy_59 (by decide) (fun c_1 => ?_) (fun c_1 => ?_)
  · have h := if_t c_1 h
    refine lv_aload_n hx hb dX8_goesBy_75 rfl (lv_at hl 0 rfl) ?_
    refine lv_iload_n hx hb dX8_goesBy_76 rfl (lv_at hl 1 rfl) ?_
    obtain ⟨r_2, S_3, hr_2, h⟩ := bnd_s h
    refine x_callVv E X cwX8_273 (mX8_findsShadeNow l Z hQ  x1 hr_2) rfl rfl rfl rfl hl.1 rfl dX8_goesBy_77 (fun H locs X => ?_)
    refine lv_iconst (v := (0 : Int32)) hx hb dX8_goesBy_80 (by decide) ?_
    refine lv_istore_n (lv' := [(3, .int (0 : Int32)), (0, .ref (Z.2.1 0)), (1, .int x1), (2, .int x2)]) hx hb dX8_goesBy_81 rfl hl (by decide) rfl (fun ls hl => ?_)
    refine lv_iconst (v := (0 : Int32)) hx hb dX8_goesBy_82 (by decide) ?_
    refine lv_istore (lv' := [(4, .int (0 : Int32)), (3, .int (0 : Int32)), (0, .ref (Z.2.1 0)), (1, .int x1), (2, .int x2)]) hx hb dX8_goesBy_83 hl (by decide) rfl (fun ls hl => ?_)
    exact wX8_goesBy_85 E   FU S_3 x1 x2 (0 : Int32) (0 : Int32) h _ _ _ X (lv_sub hl [2, 3, 4, 1, 0] rfl)
  · have h := if_f c_1 h
    refine lv_aload_n hx hb dX8_goesBy_62 rfl (lv_at hl 0 rfl) ?_
    refine lv_iload_n hx hb dX8_goesBy_63 rfl (lv_at hl 3 rfl) ?_
    refine lv_iload_n hx hb dX8_goesBy_64 rfl (lv_at hl 1 rfl) ?_
    refine lv_iload_n hx hb dX8_goesBy_65 rfl (lv_at hl 2 rfl) ?_
    obtain ⟨r_4, S_5, hr_4, h⟩ := bnd_s h
    refine x_callVv E X cwX8_294 (mX8_acts l Z hQ  x3 x1 x2 hr_4) rfl rfl rfl rfl hl.1 rfl dX8_goesBy_66 (fun H locs X => ?_)
    refine lv_iinc (v := (x3 + (1 : Int32))) (lv' := [(3, .int (x3 + (1 : Int32))), (0, .ref (Z.2.1 0)), (1, .int x1), (2, .int x2)]) hx hb dX8_goesBy_69 hl (k := 3) rfl rfl (by decide) rfl (fun ls hl => ?_)
    refine lv_goto (tgt := 54) hx hb dX8_goesBy_72 (by decide) ?_
    exact hk0 S_5 x1 x2 (x3 + (1 : Int32)) h _ _ _ X (lv_sub hl [1, 2, 3, 0] rfl)
theorem wX8_goesBy_54 {p : Program} {l : Launch} {e : Env} {s : State} {m : MethodId} {args : Array Value} {below : List Frame} {meth : Method} {c : Code} {Z : XG} {r : Int32} {S' : Mem} (E : XE p s m args meth c cX8_goesBy 6 RX8 (some .int) mL Z) : ∀ (n : Nat) (S : Mem) (x1 x2 x3 : Int32), fX8_goesBy_54 n S x1 x2 x3 = some (r, S') → WN p l e { frames := 6, cells := 0, slots := 0, locals := 144 } s m args below meth c mL Z (XQ mL Z r S') S 54 6 [(0, .ref (Z.2.1 0)), (1, .int x1), (2, .int x2), (3, .int x3)] [] := by
  intro n
  induction n with
  | zero => intro S x1 x2 x3 h; exact absurd (show (none : O) = some _ from h) (by simp)
  | succ n ih => intro S x1 x2 x3 h; exact wX8_goesBy_54_b E (fX8_goesBy_54 n) ih S x1 x2 x3 h
set_option maxRecDepth 20000 in
theorem wX8_goesBy_52 {p : Program} {l : Launch} {e : Env} {s : State} {m : MethodId} {args : Array Value} {below : List Frame} {meth : Method} {c : Code} {Z : XG} {r : Int32} {S' : Mem} (E : XE p s m args meth c cX8_goesBy 6 RX8 (some .int) mL Z) : ∀ (S : Mem) (x1 x2 : Int32), fX8_goesBy_52  S x1 x2 = some (r, S') → WN p l e { frames := 6, cells := 0, slots := 0, locals := 144 } s m args below meth c mL Z (XQ mL Z r S') S 52 6 [(0, .ref (Z.2.1 0)), (1, .int x1), (2, .int x2)] [] := by
  obtain ⟨hx, hb, -, -, -, -, -, -, -, hQ⟩ := id E
  intro S x1 x2 h H locs ls X hl
  unfold fX8_goesBy_52 at h
  refine lv_iconst (v := (0 : Int32)) hx hb dX8_goesBy_52 (by decide) ?_
  refine lv_istore_n (lv' := [(3, .int (0 : Int32)), (0, .ref (Z.2.1 0)), (1, .int x1), (2, .int x2)]) hx hb dX8_goesBy_53 rfl hl (by decide) rfl (fun ls hl => ?_)
  exact wX8_goesBy_54 E   FU S x1 x2 (0 : Int32) h _ _ _ X (lv_sub hl [1, 2, 3, 0] rfl)
set_option maxRecDepth 20000 in
theorem wX8_goesBy {p : Program} {l : Launch} {e : Env} {s : State} {m : MethodId} {args : Array Value} {below : List Frame} {meth : Method} {c : Code} {Z : XG} {r : Int32} {S' : Mem} (E : XE p s m args meth c cX8_goesBy 6 RX8 (some .int) mL Z) : ∀ (S : Mem), fX8_goesBy  S  = some (r, S') → WN p l e { frames := 6, cells := 0, slots := 0, locals := 144 } s m args below meth c mL Z (XQ mL Z r S') S 0 6 [(0, .ref (Z.2.1 0))] [] := by
  obtain ⟨hx, hb, -, -, -, -, -, -, -, hQ⟩ := id E
  intro S  h H locs ls X hl
  unfold fX8_goesBy at h
  refine lv_aload_n hx hb dX8_goesBy_0 rfl (lv_at hl 0 rfl) ?_
  refine x_getr E X ffX8_7 rfl rfl dX8_goesBy_1 ?_
  refine lv_iconst (v := (1 : Int32)) hx hb dX8_goesBy_4 (by decide) ?_
  refine x_iald E X rfl (by decide) dX8_goesBy_5 ?_
  obtain ⟨x1_1, ex1_1, h⟩ := lti_s h
  refine lv_nm ex1_1 ?_
  refine lv_istore_n (lv' := [(1, .int x1_1), (0, .ref (Z.2.1 0))]) hx hb dX8_goesBy_6 rfl hl (by decide) rfl (fun ls hl => ?_)
  refine lv_aload_n hx hb dX8_goesBy_7 rfl (lv_at hl 1 rfl) ?_
  refine x_getr E X ffX8_16 rfl rfl dX8_goesBy_8 ?_
  refine lv_iconst (v := (5 : Int32)) hx hb dX8_goesBy_11 (by decide) ?_
  refine lv_iload_n hx hb dX8_goesBy_12 rfl (lv_at hl 0 rfl) ?_
  refine lv_imul hx hb dX8_goesBy_13 ?_
  refine lv_iconst (v := (2 : Int32)) hx hb dX8_goesBy_14 (by decide) ?_
  refine lv_iadd hx hb dX8_goesBy_15 ?_
  obtain ⟨g_2, h⟩ := gd_s h
  refine x_iald E X rfl g_2 dX8_goesBy_16 ?_
  obtain ⟨x2_3, ex2_3, h⟩ := lti_s h
  refine lv_nm ex2_3 ?_
  refine lv_istore_n (lv' := [(2, .int x2_3), (1, .int x1_1), (0, .ref (Z.2.1 0))]) hx hb dX8_goesBy_17 rfl hl (by decide) rfl (fun ls hl => ?_)
  refine lv_aload_n hx hb dX8_goesBy_18 rfl (lv_at hl 2 rfl) ?_
  refine x_getr E X ffX8_16 rfl rfl dX8_goesBy_19 ?_
  refine lv_iconst (v := (5 : Int32)) hx hb dX8_goesBy_22 (by decide) ?_
  refine lv_iload_n hx hb dX8_goesBy_23 rfl (lv_at hl 1 rfl) ?_
  refine lv_imul hx hb dX8_goesBy_24 ?_
  refine lv_iconst (v := (4 : Int32)) hx hb dX8_goesBy_25 (by decide) ?_
  refine lv_iadd hx hb dX8_goesBy_26 ?_
  obtain ⟨g_4, h⟩ := gd_s h
  refine x_iald E X rfl g_4 dX8_goesBy_27 ?_
  refine lv_if_le (tgt := 52) hx hb dX8_goesBy_28 (by decide) (fun c_5 => ?_) (fun c_5 => ?_)
  · have h := if_t c_5 h
    exact wX8_goesBy_52 E   S x1_1 x2_3 h _ _ _ X (lv_sub hl [2, 1, 0] rfl)
  · have h := if_f c_5 h
    refine lv_aload_n hx hb dX8_goesBy_31 rfl (lv_at hl 2 rfl) ?_
    refine lv_bipush (v := (10 : Int32)) hx hb dX8_goesBy_32 (by decide) ?_
    obtain ⟨r_6, S_7, hr_6, h⟩ := bnd_s h
    refine x_callV E X cwX8_291 (mX8_draw l Z hQ  (10 : Int32) hr_6) rfl rfl rfl rfl hl.1 rfl dX8_goesBy_34 (fun H locs X => ?_)
    refine lv_aload_n hx hb dX8_goesBy_37 rfl (lv_at hl 2 rfl) ?_
    refine x_getr E X ffX8_16 rfl rfl dX8_goesBy_38 ?_
    refine lv_iconst (v := (5 : Int32)) hx hb dX8_goesBy_41 (by decide) ?_
    refine lv_iload_n hx hb dX8_goesBy_42 rfl (lv_at hl 1 rfl) ?_
    refine lv_imul hx hb dX8_goesBy_43 ?_
    refine lv_iconst (v := (4 : Int32)) hx hb dX8_goesBy_44 (by decide) ?_
    refine lv_iadd hx hb dX8_goesBy_45 ?_
    obtain ⟨g_8, h⟩ := gd_s h
    refine x_iald E X rfl g_8 dX8_goesBy_46 ?_
    refine lv_icmp_ge (tgt := 52) hx hb dX8_goesBy_47 (by decide) (fun c_9 => ?_) (fun c_9 => ?_)
    · have h := if_t c_9 h
      exact wX8_goesBy_52 E   S_7 x1_1 x2_3 h _ _ _ X (lv_sub hl [2, 1, 0] rfl)
    · have h := if_f c_9 h
      refine lv_iconst (v := (0 : Int32)) hx hb dX8_goesBy_50 (by decide) ?_
      refine lv_istore_n (lv' := [(2, .int (0 : Int32)), (1, .int x1_1), (0, .ref (Z.2.1 0))]) hx hb dX8_goesBy_51 rfl hl (by decide) rfl (fun ls hl => ?_)
      exact wX8_goesBy_52 E   S_7 x1_1 (0 : Int32) h _ _ _ X (lv_sub hl [2, 1, 0] rfl)
/-- SevenToAShadowModel.goesBy()I -/
theorem mX8_goesBy (l : Launch) (Z : XG) (hQ : wQ (List.length mL) Z) {S S' : Mem} {r : Int32} (h : fX8_goesBy S  = some (r, S')) : XM l yX8_goesBy cX8_goesBy 6 (some .int) { frames := 6, cells := 0, slots := 0, locals := 144 } mL Z [.ref (Z.2.1 0)] S (XQ mL Z r S') := by
  refine XM.of (own := RX8) (by decide +kernel) rfl rfl hQ (fun p e s m args below meth c E ls hl X => ?_)
  exact wX8_goesBy E S  h _ _ _ X hl
