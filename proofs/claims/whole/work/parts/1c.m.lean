def fX8_text_127_b (k0 : Mem → Int32 → Int32 → O) (S : Mem) (x1 x2 : Int32) : O := (if (S 0 28) ≤ x2 then ltm (mset S 0 22 x1) fun S_2 => some (x1, S_2) else gd (inB ((400 : Int32) + x2) 800) <| gd (inB x2 800) <| ltm (mset S 16 (x2).toNatClampNeg (S 16 (((400 : Int32) + x2)).toNatClampNeg)) fun S_5 => gd (inB ((400 : Int32) + x2) 800) <| gd (inB x2 800) <| ltm (mset S_5 17 (x2).toNatClampNeg (S_5 17 (((400 : Int32) + x2)).toNatClampNeg)) fun S_8 => k0 S_8 x1 (x2 + (1 : Int32)))
def fX8_text_127 : Nat → Mem → Int32 → Int32 → O
  | 0 => fun _ _ _ => none
  | n + 1 => fX8_text_127_b (fX8_text_127 n)
def fX8_text_69_b (k0 : Mem → Int32 → Int32 → O) (S : Mem) (x1 x2 : Int32) : O := (if x1 ≤ x2 then fX8_text_127  FU S x1 (0 : Int32) else gd (inB ((16 : Int32) + x2) 32) <| gd (inB x2 32) <| ltm (mset S 13 (x2).toNatClampNeg (S 13 (((16 : Int32) + x2)).toNatClampNeg)) fun S_4 => gd (inB ((16 : Int32) + x2) 32) <| gd (inB x2 32) <| ltm (mset S_4 14 (x2).toNatClampNeg (S_4 14 (((16 : Int32) + x2)).toNatClampNeg)) fun S_7 => gd (inB ((16 : Int32) + x2) 32) <| gd (inB x2 32) <| ltm (mset S_7 15 (x2).toNatClampNeg (S_7 15 (((16 : Int32) + x2)).toNatClampNeg)) fun S_10 => k0 S_10 x1 (x2 + (1 : Int32)))
def fX8_text_69 : Nat → Mem → Int32 → Int32 → O
  | 0 => fun _ _ _ => none
  | n + 1 => fX8_text_69_b (fX8_text_69 n)
def fX8_text (S : Mem) : O := ltm (mset S 0 0 (0 : Int32)) fun S_1 => ltm (mset S_1 0 34 (0 : Int32)) fun S_2 => ltm (mset S_2 0 35 (-1 : Int32)) fun S_3 => ltm (mset S_3 0 17 (0 : Int32)) fun S_4 => ltm (mset S_4 0 28 (0 : Int32)) fun S_5 => ltm (mset S_5 0 29 (0 : Int32)) fun S_6 => bnd (fX8_reads S_6 ) fun _ S_8 => bnd (fX8_readText S_8 ) fun r_9 S_10 => ltm (mset S_10 0 16 (0 : Int32)) fun S_11 => (if r_9 = (-1 : Int32) then ltm (mset S_11 0 34 (S_11 0 32)) fun S_13 => ltm (mset S_13 0 35 (S_13 0 33)) fun S_14 => some ((-1 : Int32), S_14) else fX8_text_69  FU S_11 r_9 (0 : Int32))
theorem dX8_text_0 : decode cX8_text 0 = .ok (.aload_n 0, 1) := by decide +kernel
theorem dX8_text_1 : decode cX8_text 1 = .ok (.iconst 0, 1) := by decide +kernel
theorem dX8_text_2 : decode cX8_text 2 = .ok (.putfield 92, 3) := by decide +kernel
theorem dX8_text_5 : decode cX8_text 5 = .ok (.aload_n 0, 1) := by decide +kernel
theorem dX8_text_6 : decode cX8_text 6 = .ok (.iconst 0, 1) := by decide +kernel
theorem dX8_text_7 : decode cX8_text 7 = .ok (.putfield 218, 3) := by decide +kernel
theorem dX8_text_10 : decode cX8_text 10 = .ok (.aload_n 0, 1) := by decide +kernel
theorem dX8_text_11 : decode cX8_text 11 = .ok (.iconst (-1), 1) := by decide +kernel
theorem dX8_text_12 : decode cX8_text 12 = .ok (.putfield 64, 3) := by decide +kernel
theorem dX8_text_15 : decode cX8_text 15 = .ok (.aload_n 0, 1) := by decide +kernel
theorem dX8_text_16 : decode cX8_text 16 = .ok (.iconst 0, 1) := by decide +kernel
theorem dX8_text_17 : decode cX8_text 17 = .ok (.putfield 137, 3) := by decide +kernel
theorem dX8_text_20 : decode cX8_text 20 = .ok (.aload_n 0, 1) := by decide +kernel
theorem dX8_text_21 : decode cX8_text 21 = .ok (.iconst 0, 1) := by decide +kernel
theorem dX8_text_22 : decode cX8_text 22 = .ok (.putfield 171, 3) := by decide +kernel
theorem dX8_text_25 : decode cX8_text 25 = .ok (.aload_n 0, 1) := by decide +kernel
theorem dX8_text_26 : decode cX8_text 26 = .ok (.iconst 0, 1) := by decide +kernel
theorem dX8_text_27 : decode cX8_text 27 = .ok (.putfield 200, 3) := by decide +kernel
theorem dX8_text_30 : decode cX8_text 30 = .ok (.aload_n 0, 1) := by decide +kernel
theorem dX8_text_31 : decode cX8_text 31 = .ok (.invokevirtual 181, 3) := by decide +kernel
theorem dX8_text_34 : decode cX8_text 34 = .ok (.aload_n 0, 1) := by decide +kernel
theorem dX8_text_35 : decode cX8_text 35 = .ok (.invokevirtual 221, 3) := by decide +kernel
theorem dX8_text_38 : decode cX8_text 38 = .ok (.istore_n 1, 1) := by decide +kernel
theorem dX8_text_39 : decode cX8_text 39 = .ok (.aload_n 0, 1) := by decide +kernel
theorem dX8_text_40 : decode cX8_text 40 = .ok (.iconst 0, 1) := by decide +kernel
theorem dX8_text_41 : decode cX8_text 41 = .ok (.putfield 130, 3) := by decide +kernel
theorem dX8_text_44 : decode cX8_text 44 = .ok (.iload_n 1, 1) := by decide +kernel
theorem dX8_text_45 : decode cX8_text 45 = .ok (.iconst (-1), 1) := by decide +kernel
theorem dX8_text_46 : decode cX8_text 46 = .ok (.if_icmp .ne 21, 3) := by decide +kernel
theorem dX8_text_49 : decode cX8_text 49 = .ok (.aload_n 0, 1) := by decide +kernel
theorem dX8_text_50 : decode cX8_text 50 = .ok (.aload_n 0, 1) := by decide +kernel
theorem dX8_text_51 : decode cX8_text 51 = .ok (.getfield 165, 3) := by decide +kernel
theorem dX8_text_54 : decode cX8_text 54 = .ok (.putfield 218, 3) := by decide +kernel
theorem dX8_text_57 : decode cX8_text 57 = .ok (.aload_n 0, 1) := by decide +kernel
theorem dX8_text_58 : decode cX8_text 58 = .ok (.aload_n 0, 1) := by decide +kernel
theorem dX8_text_59 : decode cX8_text 59 = .ok (.getfield 168, 3) := by decide +kernel
theorem dX8_text_62 : decode cX8_text 62 = .ok (.putfield 64, 3) := by decide +kernel
theorem dX8_text_65 : decode cX8_text 65 = .ok (.iconst (-1), 1) := by decide +kernel
theorem dX8_text_66 : decode cX8_text 66 = .ok (.ireturn, 1) := by decide +kernel
theorem dX8_text_67 : decode cX8_text 67 = .ok (.iconst 0, 1) := by decide +kernel
theorem dX8_text_68 : decode cX8_text 68 = .ok (.istore_n 2, 1) := by decide +kernel
theorem dX8_text_69 : decode cX8_text 69 = .ok (.iload_n 2, 1) := by decide +kernel
theorem dX8_text_70 : decode cX8_text 70 = .ok (.iload_n 1, 1) := by decide +kernel
theorem dX8_text_71 : decode cX8_text 71 = .ok (.if_icmp .ge 54, 3) := by decide +kernel
theorem dX8_text_74 : decode cX8_text 74 = .ok (.aload_n 0, 1) := by decide +kernel
theorem dX8_text_75 : decode cX8_text 75 = .ok (.getfield 46, 3) := by decide +kernel
theorem dX8_text_78 : decode cX8_text 78 = .ok (.iload_n 2, 1) := by decide +kernel
theorem dX8_text_79 : decode cX8_text 79 = .ok (.aload_n 0, 1) := by decide +kernel
theorem dX8_text_80 : decode cX8_text 80 = .ok (.getfield 46, 3) := by decide +kernel
theorem dX8_text_83 : decode cX8_text 83 = .ok (.bipush 16, 2) := by decide +kernel
theorem dX8_text_85 : decode cX8_text 85 = .ok (.iload_n 2, 1) := by decide +kernel
theorem dX8_text_86 : decode cX8_text 86 = .ok (.iadd, 1) := by decide +kernel
theorem dX8_text_87 : decode cX8_text 87 = .ok (.iaload, 1) := by decide +kernel
theorem dX8_text_88 : decode cX8_text 88 = .ok (.iastore, 1) := by decide +kernel
theorem dX8_text_89 : decode cX8_text 89 = .ok (.aload_n 0, 1) := by decide +kernel
theorem dX8_text_90 : decode cX8_text 90 = .ok (.getfield 49, 3) := by decide +kernel
theorem dX8_text_93 : decode cX8_text 93 = .ok (.iload_n 2, 1) := by decide +kernel
theorem dX8_text_94 : decode cX8_text 94 = .ok (.aload_n 0, 1) := by decide +kernel
theorem dX8_text_95 : decode cX8_text 95 = .ok (.getfield 49, 3) := by decide +kernel
theorem dX8_text_98 : decode cX8_text 98 = .ok (.bipush 16, 2) := by decide +kernel
theorem dX8_text_100 : decode cX8_text 100 = .ok (.iload_n 2, 1) := by decide +kernel
theorem dX8_text_101 : decode cX8_text 101 = .ok (.iadd, 1) := by decide +kernel
theorem dX8_text_102 : decode cX8_text 102 = .ok (.iaload, 1) := by decide +kernel
theorem dX8_text_103 : decode cX8_text 103 = .ok (.iastore, 1) := by decide +kernel
theorem dX8_text_104 : decode cX8_text 104 = .ok (.aload_n 0, 1) := by decide +kernel
theorem dX8_text_105 : decode cX8_text 105 = .ok (.getfield 52, 3) := by decide +kernel
theorem dX8_text_108 : decode cX8_text 108 = .ok (.iload_n 2, 1) := by decide +kernel
theorem dX8_text_109 : decode cX8_text 109 = .ok (.aload_n 0, 1) := by decide +kernel
theorem dX8_text_110 : decode cX8_text 110 = .ok (.getfield 52, 3) := by decide +kernel
theorem dX8_text_113 : decode cX8_text 113 = .ok (.bipush 16, 2) := by decide +kernel
theorem dX8_text_115 : decode cX8_text 115 = .ok (.iload_n 2, 1) := by decide +kernel
theorem dX8_text_116 : decode cX8_text 116 = .ok (.iadd, 1) := by decide +kernel
theorem dX8_text_117 : decode cX8_text 117 = .ok (.iaload, 1) := by decide +kernel
theorem dX8_text_118 : decode cX8_text 118 = .ok (.iastore, 1) := by decide +kernel
theorem dX8_text_119 : decode cX8_text 119 = .ok (.iinc 2 1, 3) := by decide +kernel
theorem dX8_text_122 : decode cX8_text 122 = .ok (.goto (-53), 3) := by decide +kernel
theorem dX8_text_125 : decode cX8_text 125 = .ok (.iconst 0, 1) := by decide +kernel
theorem dX8_text_126 : decode cX8_text 126 = .ok (.istore_n 2, 1) := by decide +kernel
theorem dX8_text_127 : decode cX8_text 127 = .ok (.iload_n 2, 1) := by decide +kernel
theorem dX8_text_128 : decode cX8_text 128 = .ok (.aload_n 0, 1) := by decide +kernel
theorem dX8_text_129 : decode cX8_text 129 = .ok (.getfield 171, 3) := by decide +kernel
theorem dX8_text_132 : decode cX8_text 132 = .ok (.if_icmp .ge 41, 3) := by decide +kernel
theorem dX8_text_135 : decode cX8_text 135 = .ok (.aload_n 0, 1) := by decide +kernel
theorem dX8_text_136 : decode cX8_text 136 = .ok (.getfield 55, 3) := by decide +kernel
theorem dX8_text_139 : decode cX8_text 139 = .ok (.iload_n 2, 1) := by decide +kernel
theorem dX8_text_140 : decode cX8_text 140 = .ok (.aload_n 0, 1) := by decide +kernel
theorem dX8_text_141 : decode cX8_text 141 = .ok (.getfield 55, 3) := by decide +kernel
theorem dX8_text_144 : decode cX8_text 144 = .ok (.sipush 400, 3) := by decide +kernel
theorem dX8_text_147 : decode cX8_text 147 = .ok (.iload_n 2, 1) := by decide +kernel
theorem dX8_text_148 : decode cX8_text 148 = .ok (.iadd, 1) := by decide +kernel
theorem dX8_text_149 : decode cX8_text 149 = .ok (.iaload, 1) := by decide +kernel
theorem dX8_text_150 : decode cX8_text 150 = .ok (.iastore, 1) := by decide +kernel
theorem dX8_text_151 : decode cX8_text 151 = .ok (.aload_n 0, 1) := by decide +kernel
theorem dX8_text_152 : decode cX8_text 152 = .ok (.getfield 58, 3) := by decide +kernel
theorem dX8_text_155 : decode cX8_text 155 = .ok (.iload_n 2, 1) := by decide +kernel
theorem dX8_text_156 : decode cX8_text 156 = .ok (.aload_n 0, 1) := by decide +kernel
theorem dX8_text_157 : decode cX8_text 157 = .ok (.getfield 58, 3) := by decide +kernel
theorem dX8_text_160 : decode cX8_text 160 = .ok (.sipush 400, 3) := by decide +kernel
theorem dX8_text_163 : decode cX8_text 163 = .ok (.iload_n 2, 1) := by decide +kernel
theorem dX8_text_164 : decode cX8_text 164 = .ok (.iadd, 1) := by decide +kernel
theorem dX8_text_165 : decode cX8_text 165 = .ok (.iaload, 1) := by decide +kernel
theorem dX8_text_166 : decode cX8_text 166 = .ok (.iastore, 1) := by decide +kernel
theorem dX8_text_167 : decode cX8_text 167 = .ok (.iinc 2 1, 3) := by decide +kernel
theorem dX8_text_170 : decode cX8_text 170 = .ok (.goto (-43), 3) := by decide +kernel
theorem dX8_text_173 : decode cX8_text 173 = .ok (.aload_n 0, 1) := by decide +kernel
theorem dX8_text_174 : decode cX8_text 174 = .ok (.iload_n 1, 1) := by decide +kernel
theorem dX8_text_175 : decode cX8_text 175 = .ok (.putfield 224, 3) := by decide +kernel
theorem dX8_text_178 : decode cX8_text 178 = .ok (.iload_n 1, 1) := by decide +kernel
theorem dX8_text_179 : decode cX8_text 179 = .ok (.ireturn, 1) := by decide +kernel
set_option maxRecDepth 20000 in
theorem wX8_text_127_b {p : Program} {l : Launch} {e : Env} {s : State} {m : MethodId} {args : Array Value} {below : List Frame} {meth : Method} {c : Code} {Z : XG} {r : Int32} {S' : Mem} (E : XE p s m args meth c cX8_text 3 RX8 (some .int) mL Z) (k0 : Mem → Int32 → Int32 → O)  (hk0 : ∀ (S : Mem) (x1 x2 : Int32), k0 S x1 x2 = some (r, S') → WN p l e { frames := 9, cells := 0, slots := 0, locals := 194 } s m args below meth c mL Z (XQ mL Z r S') S 127 3 [(0, .ref (Z.2.1 0)), (1, .int x1), (2, .int x2)] []) : ∀ (S : Mem) (x1 x2 : Int32), fX8_text_127_b k0 S x1 x2 = some (r, S') → WN p l e { frames := 9, cells := 0, slots := 0, locals := 194 } s m args below meth c mL Z (XQ mL Z r S') S 127 3 [(0, .ref (Z.2.1 0)), (1, .int x1), (2, .int x2)] [] := by
  obtain ⟨hx, hb, -, -, -, -, -, -, -, hQ⟩ := id E
  intro S x1 x2 h H locs ls X hl
  unfold fX8_text_127_b at h
  refine lv_iload_n hx hb dX8_text_127 rfl (lv_at hl 2 rfl) ?_
  refine lv_aload_n hx hb dX8_text_128 rfl (lv_at hl 0 rfl) ?_
  refine x_get E X ffX8_171 rfl rfl dX8_text_129 ?_
  refine lv_icmp_ge (tgt := 173) hx hb dX8_text_132 (by decide) (fun c_1 => ?_) (fun c_1 => ?_)
  · have h := if_t c_1 h
    refine lv_aload_n hx hb dX8_text_173 rfl (lv_at hl 0 rfl) ?_
    refine lv_iload_n hx hb dX8_text_174 rfl (lv_at hl 1 rfl) ?_
    obtain ⟨S_2, eS_2, h⟩ := ltm_s h
    refine x_put E X fpX8_224 rfl rfl dX8_text_175 (fun H locs X => ?_)
    rw [← eS_2] at X
    refine lv_iload_n hx hb dX8_text_178 rfl (lv_at hl 1 rfl) ?_
    exact x_iret E X h dX8_text_179
  · have h := if_f c_1 h
    refine lv_aload_n hx hb dX8_text_135 rfl (lv_at hl 0 rfl) ?_
    refine x_getr E X ffX8_55 rfl rfl dX8_text_136 ?_
    refine lv_iload_n hx hb dX8_text_139 rfl (lv_at hl 2 rfl) ?_
    refine lv_aload_n hx hb dX8_text_140 rfl (lv_at hl 0 rfl) ?_
    refine x_getr E X ffX8_55 rfl rfl dX8_text_141 ?_
    refine lv_sipush (v := (400 : Int32)) hx hb dX8_text_144 (by decide) ?_
    refine lv_iload_n hx hb dX8_text_147 rfl (lv_at hl 2 rfl) ?_
    refine lv_iadd hx hb dX8_text_148 ?_
    obtain ⟨g_3, h⟩ := gd_s h
    refine x_iald E X rfl g_3 dX8_text_149 ?_
    obtain ⟨g_4, h⟩ := gd_s h
    obtain ⟨S_5, eS_5, h⟩ := ltm_s h
    refine x_iast E X rfl g_4 dX8_text_150 (fun H locs X => ?_)
    rw [← eS_5] at X
    refine lv_aload_n hx hb dX8_text_151 rfl (lv_at hl 0 rfl) ?_
    refine x_getr E X ffX8_58 rfl rfl dX8_text_152 ?_
    refine lv_iload_n hx hb dX8_text_155 rfl (lv_at hl 2 rfl) ?_
    refine lv_aload_n hx hb dX8_text_156 rfl (lv_at hl 0 rfl) ?_
    refine x_getr E X ffX8_58 rfl rfl dX8_text_157 ?_
    refine lv_sipush (v := (400 : Int32)) hx hb dX8_text_160 (by decide) ?_
    refine lv_iload_n hx hb dX8_text_163 rfl (lv_at hl 2 rfl) ?_
    refine lv_iadd hx hb dX8_text_164 ?_
    obtain ⟨g_6, h⟩ := gd_s h
    refine x_iald E X rfl g_6 dX8_text_165 ?_
    obtain ⟨g_7, h⟩ := gd_s h
    obtain ⟨S_8, eS_8, h⟩ := ltm_s h
    refine x_iast E X rfl g_7 dX8_text_166 (fun H locs X => ?_)
    rw [← eS_8] at X
    refine lv_iinc (v := (x2 + (1 : Int32))) (lv' := [(2, .int (x2 + (1 : Int32))), (0, .ref (Z.2.1 0)), (1, .int x1)]) hx hb dX8_text_167 hl (k := 2) rfl rfl (by decide) rfl (fun ls hl => ?_)
    refine lv_goto (tgt := 127) hx hb dX8_text_170 (by decide) ?_
    exact hk0 S_8 x1 (x2 + (1 : Int32)) h _ _ _ X (lv_sub hl [1, 2, 0] rfl)
theorem wX8_text_127 {p : Program} {l : Launch} {e : Env} {s : State} {m : MethodId} {args : Array Value} {below : List Frame} {meth : Method} {c : Code} {Z : XG} {r : Int32} {S' : Mem} (E : XE p s m args meth c cX8_text 3 RX8 (some .int) mL Z) : ∀ (n : Nat) (S : Mem) (x1 x2 : Int32), fX8_text_127 n S x1 x2 = some (r, S') → WN p l e { frames := 9, cells := 0, slots := 0, locals := 194 } s m args below meth c mL Z (XQ mL Z r S') S 127 3 [(0, .ref (Z.2.1 0)), (1, .int x1), (2, .int x2)] [] := by
  intro n
  induction n with
  | zero => intro S x1 x2 h; exact absurd (show (none : O) = some _ from h) (by simp)
  | succ n ih => intro S x1 x2 h; exact wX8_text_127_b E (fX8_text_127 n) ih S x1 x2 h
set_option maxRecDepth 20000 in
theorem wX8_text_69_b {p : Program} {l : Launch} {e : Env} {s : State} {m : MethodId} {args : Array Value} {below : List Frame} {meth : Method} {c : Code} {Z : XG} {r : Int32} {S' : Mem} (E : XE p s m args meth c cX8_text 3 RX8 (some .int) mL Z) (k0 : Mem → Int32 → Int32 → O)  (hk0 : ∀ (S : Mem) (x1 x2 : Int32), k0 S x1 x2 = some (r, S') → WN p l e { frames := 9, cells := 0, slots := 0, locals := 194 } s m args below meth c mL Z (XQ mL Z r S') S 69 3 [(0, .ref (Z.2.1 0)), (1, .int x1), (2, .int x2)] []) : ∀ (S : Mem) (x1 x2 : Int32), fX8_text_69_b k0 S x1 x2 = some (r, S') → WN p l e { frames := 9, cells := 0, slots := 0, locals := 194 } s m args below meth c mL Z (XQ mL Z r S') S 69 3 [(0, .ref (Z.2.1 0)), (1, .int x1), (2, .int x2)] [] := by
  obtain ⟨hx, hb, -, -, -, -, -, -, -, hQ⟩ := id E
  intro S x1 x2 h H locs ls X hl
  unfold fX8_text_69_b at h
  refine lv_iload_n hx hb dX8_text_69 rfl (lv_at hl 2 rfl) ?_
  refine lv_iload_n hx hb dX8_text_70 rfl (lv_at hl 1 rfl) ?_
  refine lv_icmp_ge (tgt := 125) hx hb dX8_text_71 (by decide) (fun c_1 => ?_) (fun c_1 => ?_)
  · have h := if_t c_1 h
    refine lv_iconst (v := (0 : Int32)) hx hb dX8_text_125 (by decide) ?_
    refine lv_istore_n (lv' := [(2, .int (0 : Int32)), (0, .ref (Z.2.1 0)), (1, .int x1)]) hx hb dX8_text_126 rfl hl (by decide) rfl (fun ls hl => ?_)
    exact wX8_text_127 E   FU S x1 (0 : Int32) h _ _ _ X (lv_sub hl [1, 2, 0] rfl)
  · have h := if_f c_1 h
    refine lv_aload_n hx hb dX8_text_74 rfl (lv_at hl 0 rfl) ?_
    refine x_getr E X ffX8_46 rfl rfl dX8_text_75 ?_
    refine lv_iload_n hx hb dX8_text_78 rfl (lv_at hl 2 rfl) ?_
    refine lv_aload_n hx hb dX8_text_79 rfl (lv_at hl 0 rfl) ?_
    refine x_getr E X ffX8_46 rfl rfl dX8_text_80 ?_
    refine lv_bipush (v := (16 : Int32)) hx hb dX8_text_83 (by decide) ?_
    refine lv_iload_n hx hb dX8_text_85 rfl (lv_at hl 2 rfl) ?_
    refine lv_iadd hx hb dX8_text_86 ?_
    obtain ⟨g_2, h⟩ := gd_s h
    refine x_iald E X rfl g_2 dX8_text_87 ?_
    obtain ⟨g_3, h⟩ := gd_s h
    obtain ⟨S_4, eS_4, h⟩ := ltm_s h
    refine x_iast E X rfl g_3 dX8_text_88 (fun H locs X => ?_)
    rw [← eS_4] at X
    refine lv_aload_n hx hb dX8_text_89 rfl (lv_at hl 0 rfl) ?_
    refine x_getr E X ffX8_49 rfl rfl dX8_text_90 ?_
    refine lv_iload_n hx hb dX8_text_93 rfl (lv_at hl 2 rfl) ?_
    refine lv_aload_n hx hb dX8_text_94 rfl (lv_at hl 0 rfl) ?_
    refine x_getr E X ffX8_49 rfl rfl dX8_text_95 ?_
    refine lv_bipush (v := (16 : Int32)) hx hb dX8_text_98 (by decide) ?_
    refine lv_iload_n hx hb dX8_text_100 rfl (lv_at hl 2 rfl) ?_
    refine lv_iadd hx hb dX8_text_101 ?_
    obtain ⟨g_5, h⟩ := gd_s h
    refine x_iald E X rfl g_5 dX8_text_102 ?_
    obtain ⟨g_6, h⟩ := gd_s h
    obtain ⟨S_7, eS_7, h⟩ := ltm_s h
    refine x_iast E X rfl g_6 dX8_text_103 (fun H locs X => ?_)
    rw [← eS_7] at X
    refine lv_aload_n hx hb dX8_text_104 rfl (lv_at hl 0 rfl) ?_
    refine x_getr E X ffX8_52 rfl rfl dX8_text_105 ?_
    refine lv_iload_n hx hb dX8_text_108 rfl (lv_at hl 2 rfl) ?_
    refine lv_aload_n hx hb dX8_text_109 rfl (lv_at hl 0 rfl) ?_
    refine x_getr E X ffX8_52 rfl rfl dX8_text_110 ?_
    refine lv_bipush (v := (16 : Int32)) hx hb dX8_text_113 (by decide) ?_
    refine lv_iload_n hx hb dX8_text_115 rfl (lv_at hl 2 rfl) ?_
    refine lv_iadd hx hb dX8_text_116 ?_
    obtain ⟨g_8, h⟩ := gd_s h
    refine x_iald E X rfl g_8 dX8_text_117 ?_
    obtain ⟨g_9, h⟩ := gd_s h
    obtain ⟨S_10, eS_10, h⟩ := ltm_s h
    refine x_iast E X rfl g_9 dX8_text_118 (fun H locs X => ?_)
    rw [← eS_10] at X
    refine lv_iinc (v := (x2 + (1 : Int32))) (lv' := [(2, .int (x2 + (1 : Int32))), (0, .ref (Z.2.1 0)), (1, .int x1)]) hx hb dX8_text_119 hl (k := 2) rfl rfl (by decide) rfl (fun ls hl => ?_)
    refine lv_goto (tgt := 69) hx hb dX8_text_122 (by decide) ?_
    exact hk0 S_10 x1 (x2 + (1 : Int32)) h _ _ _ X (lv_sub hl [1, 2, 0] rfl)
theorem wX8_text_69 {p : Program} {l : Launch} {e : Env} {s : State} {m : MethodId} {args : Array Value} {below : List Frame} {meth : Method} {c : Code} {Z : XG} {r : Int32} {S' : Mem} (E : XE p s m args meth c cX8_text 3 RX8 (some .int) mL Z) : ∀ (n : Nat) (S : Mem) (x1 x2 : Int32), fX8_text_69 n S x1 x2 = some (r, S') → WN p l e { frames := 9, cells := 0, slots := 0, locals := 194 } s m args below meth c mL Z (XQ mL Z r S') S 69 3 [(0, .ref (Z.2.1 0)), (1, .int x1), (2, .int x2)] [] := by
  intro n
  induction n with
  | zero => intro S x1 x2 h; exact absurd (show (none : O) = some _ from h) (by simp)
  | succ n ih => intro S x1 x2 h; exact wX8_text_69_b E (fX8_text_69 n) ih S x1 x2 h
set_option maxRecDepth 20000 in
theorem wX8_text {p : Program} {l : Launch} {e : Env} {s : State} {m : MethodId} {args : Array Value} {below : List Frame} {meth : Method} {c : Code} {Z : XG} {r : Int32} {S' : Mem} (E : XE p s m args meth c cX8_text 3 RX8 (some .int) mL Z) : ∀ (S : Mem), fX8_text  S  = some (r, S') → WN p l e { frames := 9, cells := 0, slots := 0, locals := 194 } s m args below meth c mL Z (XQ mL Z r S') S 0 3 [(0, .ref (Z.2.1 0))] [] := by
  obtain ⟨hx, hb, -, -, -, -, -, -, -, hQ⟩ := id E
  intro S  h H locs ls X hl
  unfold fX8_text at h
  refine lv_aload_n hx hb dX8_text_0 rfl (lv_at hl 0 rfl) ?_
  refine lv_iconst (v := (0 : Int32)) hx hb dX8_text_1 (by decide) ?_
  obtain ⟨S_1, eS_1, h⟩ := ltm_s h
  refine x_put E X fpX8_92 rfl rfl dX8_text_2 (fun H locs X => ?_)
  rw [← eS_1] at X
  refine lv_aload_n hx hb dX8_text_5 rfl (lv_at hl 0 rfl) ?_
  refine lv_iconst (v := (0 : Int32)) hx hb dX8_text_6 (by decide) ?_
  obtain ⟨S_2, eS_2, h⟩ := ltm_s h
  refine x_put E X fpX8_218 rfl rfl dX8_text_7 (fun H locs X => ?_)
  rw [← eS_2] at X
  refine lv_aload_n hx hb dX8_text_10 rfl (lv_at hl 0 rfl) ?_
  refine lv_iconst (v := (-1 : Int32)) hx hb dX8_text_11 (by decide) ?_
  obtain ⟨S_3, eS_3, h⟩ := ltm_s h
  refine x_put E X fpX8_64 rfl rfl dX8_text_12 (fun H locs X => ?_)
  rw [← eS_3] at X
  refine lv_aload_n hx hb dX8_text_15 rfl (lv_at hl 0 rfl) ?_
  refine lv_iconst (v := (0 : Int32)) hx hb dX8_text_16 (by decide) ?_
  obtain ⟨S_4, eS_4, h⟩ := ltm_s h
  refine x_put E X fpX8_137 rfl rfl dX8_text_17 (fun H locs X => ?_)
  rw [← eS_4] at X
  refine lv_aload_n hx hb dX8_text_20 rfl (lv_at hl 0 rfl) ?_
  refine lv_iconst (v := (0 : Int32)) hx hb dX8_text_21 (by decide) ?_
  obtain ⟨S_5, eS_5, h⟩ := ltm_s h
  refine x_put E X fpX8_171 rfl rfl dX8_text_22 (fun H locs X => ?_)
  rw [← eS_5] at X
  refine lv_aload_n hx hb dX8_text_25 rfl (lv_at hl 0 rfl) ?_
  refine lv_iconst (v := (0 : Int32)) hx hb dX8_text_26 (by decide) ?_
  obtain ⟨S_6, eS_6, h⟩ := ltm_s h
  refine x_put E X fpX8_200 rfl rfl dX8_text_27 (fun H locs X => ?_)
  rw [← eS_6] at X
  refine lv_aload_n hx hb dX8_text_30 rfl (lv_at hl 0 rfl) ?_
  obtain ⟨r_7, S_8, hr_7, h⟩ := bnd_s h
  refine x_callVv E X cwX8_181 (mX8_reads l Z hQ   hr_7) rfl rfl rfl rfl hl.1 rfl dX8_text_31 (fun H locs X => ?_)
  refine lv_aload_n hx hb dX8_text_34 rfl (lv_at hl 0 rfl) ?_
  obtain ⟨r_9, S_10, hr_9, h⟩ := bnd_s h
  refine x_callV E X cwX8_221 (mX8_readText l Z hQ   hr_9) rfl rfl rfl rfl hl.1 rfl dX8_text_35 (fun H locs X => ?_)
  refine lv_istore_n (lv' := [(1, .int r_9), (0, .ref (Z.2.1 0))]) hx hb dX8_text_38 rfl hl (by decide) rfl (fun ls hl => ?_)
  refine lv_aload_n hx hb dX8_text_39 rfl (lv_at hl 1 rfl) ?_
  refine lv_iconst (v := (0 : Int32)) hx hb dX8_text_40 (by decide) ?_
  obtain ⟨S_11, eS_11, h⟩ := ltm_s h
  refine x_put E X fpX8_130 rfl rfl dX8_text_41 (fun H locs X => ?_)
  rw [← eS_11] at X
  refine lv_iload_n hx hb dX8_text_44 rfl (lv_at hl 0 rfl) ?_
  refine lv_iconst (v := (-1 : Int32)) hx hb dX8_text_45 (by decide) ?_
  refine lv_icmp_ne (tgt := 67) hx hb dX8_text_46 (by decide) (fun c_12 => ?_) (fun c_12 => ?_)
  · have h := if_f c_12 h
    refine lv_iconst (v := (0 : Int32)) hx hb dX8_text_67 (by decide) ?_
    refine lv_istore_n (lv' := [(2, .int (0 : Int32)), (1, .int r_9), (0, .ref (Z.2.1 0))]) hx hb dX8_text_68 rfl hl (by decide) rfl (fun ls hl => ?_)
    exact wX8_text_69 E   FU S_11 r_9 (0 : Int32) h _ _ _ X (lv_sub hl [2, 1, 0] rfl)
  · have h := if_t c_12 h
    refine lv_aload_n hx hb dX8_text_49 rfl (lv_at hl 1 rfl) ?_
    refine lv_aload_n hx hb dX8_text_50 rfl (lv_at hl 1 rfl) ?_
    refine x_get E X ffX8_165 rfl rfl dX8_text_51 ?_
    obtain ⟨S_13, eS_13, h⟩ := ltm_s h
    refine x_put E X fpX8_218 rfl rfl dX8_text_54 (fun H locs X => ?_)
    rw [← eS_13] at X
    refine lv_aload_n hx hb dX8_text_57 rfl (lv_at hl 1 rfl) ?_
    refine lv_aload_n hx hb dX8_text_58 rfl (lv_at hl 1 rfl) ?_
    refine x_get E X ffX8_168 rfl rfl dX8_text_59 ?_
    obtain ⟨S_14, eS_14, h⟩ := ltm_s h
    refine x_put E X fpX8_64 rfl rfl dX8_text_62 (fun H locs X => ?_)
    rw [← eS_14] at X
    refine lv_iconst (v := (-1 : Int32)) hx hb dX8_text_65 (by decide) ?_
    exact x_iret E X h dX8_text_66
/-- SevenToAShadowModel.text()I -/
theorem mX8_text (l : Launch) (Z : XG) (hQ : wQ (List.length mL) Z) {S S' : Mem} {r : Int32} (h : fX8_text S  = some (r, S')) : XM l yX8_text cX8_text 3 (some .int) { frames := 9, cells := 0, slots := 0, locals := 194 } mL Z [.ref (Z.2.1 0)] S (XQ mL Z r S') := by
  refine XM.of (own := RX8) (by decide +kernel) rfl rfl hQ (fun p e s m args below meth c E ls hl X => ?_)
  exact wX8_text E S  h _ _ _ X hl
def fX8_fault (S : Mem) (x1 : Int32) : O := ltm (mset S 0 0 (0 : Int32)) fun S_1 => (if x1 = 0 then some ((S_1 0 34), S_1) else (if x1 = (1 : Int32) then some ((S_1 0 35), S_1) else some ((-1 : Int32), S_1)))
theorem dX8_fault_0 : decode cX8_fault 0 = .ok (.aload_n 0, 1) := by decide +kernel
theorem dX8_fault_1 : decode cX8_fault 1 = .ok (.iconst 0, 1) := by decide +kernel
theorem dX8_fault_2 : decode cX8_fault 2 = .ok (.putfield 92, 3) := by decide +kernel
theorem dX8_fault_5 : decode cX8_fault 5 = .ok (.iload_n 1, 1) := by decide +kernel
theorem dX8_fault_6 : decode cX8_fault 6 = .ok (.ifCond .ne 10, 3) := by decide +kernel
theorem dX8_fault_9 : decode cX8_fault 9 = .ok (.aload_n 0, 1) := by decide +kernel
theorem dX8_fault_10 : decode cX8_fault 10 = .ok (.getfield 218, 3) := by decide +kernel
theorem dX8_fault_13 : decode cX8_fault 13 = .ok (.goto 16, 3) := by decide +kernel
theorem dX8_fault_16 : decode cX8_fault 16 = .ok (.iload_n 1, 1) := by decide +kernel
theorem dX8_fault_17 : decode cX8_fault 17 = .ok (.iconst 1, 1) := by decide +kernel
theorem dX8_fault_18 : decode cX8_fault 18 = .ok (.if_icmp .ne 10, 3) := by decide +kernel
theorem dX8_fault_21 : decode cX8_fault 21 = .ok (.aload_n 0, 1) := by decide +kernel
theorem dX8_fault_22 : decode cX8_fault 22 = .ok (.getfield 64, 3) := by decide +kernel
theorem dX8_fault_25 : decode cX8_fault 25 = .ok (.goto 4, 3) := by decide +kernel
theorem dX8_fault_28 : decode cX8_fault 28 = .ok (.iconst (-1), 1) := by decide +kernel
theorem dX8_fault_29 : decode cX8_fault 29 = .ok (.ireturn, 1) := by decide +kernel
set_option maxRecDepth 20000 in
theorem wX8_fault {p : Program} {l : Launch} {e : Env} {s : State} {m : MethodId} {args : Array Value} {below : List Frame} {meth : Method} {c : Code} {Z : XG} {r : Int32} {S' : Mem} (E : XE p s m args meth c cX8_fault 2 RX8 (some .int) mL Z) : ∀ (S : Mem) (x1 : Int32), fX8_fault  S x1 = some (r, S') → WN p l e { frames := 0, cells := 0, slots := 0, locals := 0 } s m args below meth c mL Z (XQ mL Z r S') S 0 2 [(0, .ref (Z.2.1 0)), (1, .int x1)] [] := by
  obtain ⟨hx, hb, -, -, -, -, -, -, -, hQ⟩ := id E
  intro S x1 h H locs ls X hl
  unfold fX8_fault at h
  refine lv_aload_n hx hb dX8_fault_0 rfl (lv_at hl 0 rfl) ?_
  refine lv_iconst (v := (0 : Int32)) hx hb dX8_fault_1 (by decide) ?_
  obtain ⟨S_1, eS_1, h⟩ := ltm_s h
  refine x_put E X fpX8_92 rfl rfl dX8_fault_2 (fun H locs X => ?_)
  rw [← eS_1] at X
  refine lv_iload_n hx hb dX8_fault_5 rfl (lv_at hl 1 rfl) ?_
  refine lv_if_ne (tgt := 16) hx hb dX8_fault_6 (by decide) (fun c_2 => ?_) (fun c_2 => ?_)
  · have h := if_f c_2 h
    refine lv_iload_n hx hb dX8_fault_16 rfl (lv_at hl 1 rfl) ?_
    refine lv_iconst (v := (1 : Int32)) hx hb dX8_fault_17 (by decide) ?_
    refine lv_icmp_ne (tgt := 28) hx hb dX8_fault_18 (by decide) (fun c_3 => ?_) (fun c_3 => ?_)
    · have h := if_f c_3 h
      refine lv_iconst (v := (-1 : Int32)) hx hb dX8_fault_28 (by decide) ?_
      exact x_iret E X h dX8_fault_29
    · have h := if_t c_3 h
      refine lv_aload_n hx hb dX8_fault_21 rfl (lv_at hl 0 rfl) ?_
      refine x_get E X ffX8_64 rfl rfl dX8_fault_22 ?_
      refine lv_goto (tgt := 29) hx hb dX8_fault_25 (by decide) ?_
      exact x_iret E X h dX8_fault_29
  · have h := if_t c_2 h
    refine lv_aload_n hx hb dX8_fault_9 rfl (lv_at hl 0 rfl) ?_
    refine x_get E X ffX8_218 rfl rfl dX8_fault_10 ?_
    refine lv_goto (tgt := 29) hx hb dX8_fault_13 (by decide) ?_
    exact x_iret E X h dX8_fault_29
/-- SevenToAShadowModel.fault(I)I -/
theorem mX8_fault (l : Launch) (Z : XG) (hQ : wQ (List.length mL) Z) {S S' : Mem} {r : Int32} (x1 : Int32) (h : fX8_fault S x1 = some (r, S')) : XM l yX8_fault cX8_fault 2 (some .int) { frames := 0, cells := 0, slots := 0, locals := 0 } mL Z [.ref (Z.2.1 0), .int x1] S (XQ mL Z r S') := by
  refine XM.of (own := RX8) (by decide +kernel) rfl rfl hQ (fun p e s m args below meth c E ls hl X => ?_)
  exact wX8_fault E S x1 h _ _ _ X hl
def fX8_keepsAhead_55_b (k0 : Mem → Int32 → O) (S : Mem) (x1 : Int32) : O := (if (55 : Int32) ≤ x1 then ltm (mset S 0 3 ((S 0 3) + (1 : Int32))) fun S_2 => some ((0 : Int32), S_2) else gd (inB x1 55) <| gd (inB (((55 : Int32) * (S 0 3)) + x1) 660) <| ltm (mset S 2 ((((55 : Int32) * (S 0 3)) + x1)).toNatClampNeg (S 1 (x1).toNatClampNeg)) fun S_5 => k0 S_5 (x1 + (1 : Int32)))
def fX8_keepsAhead_55 : Nat → Mem → Int32 → O
  | 0 => fun _ _ => none
  | n + 1 => fX8_keepsAhead_55_b (fX8_keepsAhead_55 n)
def fX8_keepsAhead_53 (S : Mem) : O := fX8_keepsAhead_55  FU S (0 : Int32)
def fX8_keepsAhead_21_b (k0 : Mem → Int32 → O) (S : Mem) (x1 : Int32) : O := (if ((55 : Int32) * (S 0 3)) ≤ x1 then fX8_keepsAhead_53  S  else gd (inB (x1 + (55 : Int32)) 660) <| gd (inB x1 660) <| ltm (mset S 2 (x1).toNatClampNeg (S 2 ((x1 + (55 : Int32))).toNatClampNeg)) fun S_4 => k0 S_4 (x1 + (1 : Int32)))
def fX8_keepsAhead_21 : Nat → Mem → Int32 → O
  | 0 => fun _ _ => none
  | n + 1 => fX8_keepsAhead_21_b (fX8_keepsAhead_21 n)
def fX8_keepsAhead (S : Mem) : O := (if (S 0 3) = (12 : Int32) then ltm (mset S 0 3 ((S 0 3) - (1 : Int32))) fun S_2 => fX8_keepsAhead_21  FU S_2 (0 : Int32) else fX8_keepsAhead_53  S )
theorem dX8_keepsAhead_0 : decode cX8_keepsAhead 0 = .ok (.aload_n 0, 1) := by decide +kernel
theorem dX8_keepsAhead_1 : decode cX8_keepsAhead 1 = .ok (.getfield 95, 3) := by decide +kernel
theorem dX8_keepsAhead_4 : decode cX8_keepsAhead 4 = .ok (.bipush 12, 2) := by decide +kernel
theorem dX8_keepsAhead_6 : decode cX8_keepsAhead 6 = .ok (.if_icmp .ne 47, 3) := by decide +kernel
theorem dX8_keepsAhead_9 : decode cX8_keepsAhead 9 = .ok (.aload_n 0, 1) := by decide +kernel
theorem dX8_keepsAhead_10 : decode cX8_keepsAhead 10 = .ok (.aload_n 0, 1) := by decide +kernel
theorem dX8_keepsAhead_11 : decode cX8_keepsAhead 11 = .ok (.getfield 95, 3) := by decide +kernel
theorem dX8_keepsAhead_14 : decode cX8_keepsAhead 14 = .ok (.iconst 1, 1) := by decide +kernel
theorem dX8_keepsAhead_15 : decode cX8_keepsAhead 15 = .ok (.isub, 1) := by decide +kernel
theorem dX8_keepsAhead_16 : decode cX8_keepsAhead 16 = .ok (.putfield 95, 3) := by decide +kernel
theorem dX8_keepsAhead_19 : decode cX8_keepsAhead 19 = .ok (.iconst 0, 1) := by decide +kernel
theorem dX8_keepsAhead_20 : decode cX8_keepsAhead 20 = .ok (.istore_n 1, 1) := by decide +kernel
theorem dX8_keepsAhead_21 : decode cX8_keepsAhead 21 = .ok (.iload_n 1, 1) := by decide +kernel
theorem dX8_keepsAhead_22 : decode cX8_keepsAhead 22 = .ok (.bipush 55, 2) := by decide +kernel
theorem dX8_keepsAhead_24 : decode cX8_keepsAhead 24 = .ok (.aload_n 0, 1) := by decide +kernel
theorem dX8_keepsAhead_25 : decode cX8_keepsAhead 25 = .ok (.getfield 95, 3) := by decide +kernel
theorem dX8_keepsAhead_28 : decode cX8_keepsAhead 28 = .ok (.imul, 1) := by decide +kernel
theorem dX8_keepsAhead_29 : decode cX8_keepsAhead 29 = .ok (.if_icmp .ge 24, 3) := by decide +kernel
theorem dX8_keepsAhead_32 : decode cX8_keepsAhead 32 = .ok (.aload_n 0, 1) := by decide +kernel
theorem dX8_keepsAhead_33 : decode cX8_keepsAhead 33 = .ok (.getfield 13, 3) := by decide +kernel
theorem dX8_keepsAhead_36 : decode cX8_keepsAhead 36 = .ok (.iload_n 1, 1) := by decide +kernel
theorem dX8_keepsAhead_37 : decode cX8_keepsAhead 37 = .ok (.aload_n 0, 1) := by decide +kernel
theorem dX8_keepsAhead_38 : decode cX8_keepsAhead 38 = .ok (.getfield 13, 3) := by decide +kernel
theorem dX8_keepsAhead_41 : decode cX8_keepsAhead 41 = .ok (.iload_n 1, 1) := by decide +kernel
theorem dX8_keepsAhead_42 : decode cX8_keepsAhead 42 = .ok (.bipush 55, 2) := by decide +kernel
theorem dX8_keepsAhead_44 : decode cX8_keepsAhead 44 = .ok (.iadd, 1) := by decide +kernel
theorem dX8_keepsAhead_45 : decode cX8_keepsAhead 45 = .ok (.iaload, 1) := by decide +kernel
theorem dX8_keepsAhead_46 : decode cX8_keepsAhead 46 = .ok (.iastore, 1) := by decide +kernel
theorem dX8_keepsAhead_47 : decode cX8_keepsAhead 47 = .ok (.iinc 1 1, 3) := by decide +kernel
theorem dX8_keepsAhead_50 : decode cX8_keepsAhead 50 = .ok (.goto (-29), 3) := by decide +kernel
theorem dX8_keepsAhead_53 : decode cX8_keepsAhead 53 = .ok (.iconst 0, 1) := by decide +kernel
theorem dX8_keepsAhead_54 : decode cX8_keepsAhead 54 = .ok (.istore_n 1, 1) := by decide +kernel
theorem dX8_keepsAhead_55 : decode cX8_keepsAhead 55 = .ok (.iload_n 1, 1) := by decide +kernel
theorem dX8_keepsAhead_56 : decode cX8_keepsAhead 56 = .ok (.bipush 55, 2) := by decide +kernel
theorem dX8_keepsAhead_58 : decode cX8_keepsAhead 58 = .ok (.if_icmp .ge 29, 3) := by decide +kernel
theorem dX8_keepsAhead_61 : decode cX8_keepsAhead 61 = .ok (.aload_n 0, 1) := by decide +kernel
theorem dX8_keepsAhead_62 : decode cX8_keepsAhead 62 = .ok (.getfield 13, 3) := by decide +kernel
theorem dX8_keepsAhead_65 : decode cX8_keepsAhead 65 = .ok (.bipush 55, 2) := by decide +kernel
theorem dX8_keepsAhead_67 : decode cX8_keepsAhead 67 = .ok (.aload_n 0, 1) := by decide +kernel
theorem dX8_keepsAhead_68 : decode cX8_keepsAhead 68 = .ok (.getfield 95, 3) := by decide +kernel
theorem dX8_keepsAhead_71 : decode cX8_keepsAhead 71 = .ok (.imul, 1) := by decide +kernel
theorem dX8_keepsAhead_72 : decode cX8_keepsAhead 72 = .ok (.iload_n 1, 1) := by decide +kernel
theorem dX8_keepsAhead_73 : decode cX8_keepsAhead 73 = .ok (.iadd, 1) := by decide +kernel
theorem dX8_keepsAhead_74 : decode cX8_keepsAhead 74 = .ok (.aload_n 0, 1) := by decide +kernel
theorem dX8_keepsAhead_75 : decode cX8_keepsAhead 75 = .ok (.getfield 7, 3) := by decide +kernel
theorem dX8_keepsAhead_78 : decode cX8_keepsAhead 78 = .ok (.iload_n 1, 1) := by decide +kernel
theorem dX8_keepsAhead_79 : decode cX8_keepsAhead 79 = .ok (.iaload, 1) := by decide +kernel
theorem dX8_keepsAhead_80 : decode cX8_keepsAhead 80 = .ok (.iastore, 1) := by decide +kernel
theorem dX8_keepsAhead_81 : decode cX8_keepsAhead 81 = .ok (.iinc 1 1, 3) := by decide +kernel
theorem dX8_keepsAhead_84 : decode cX8_keepsAhead 84 = .ok (.goto (-29), 3) := by decide +kernel
theorem dX8_keepsAhead_87 : decode cX8_keepsAhead 87 = .ok (.aload_n 0, 1) := by decide +kernel
theorem dX8_keepsAhead_88 : decode cX8_keepsAhead 88 = .ok (.aload_n 0, 1) := by decide +kernel
theorem dX8_keepsAhead_89 : decode cX8_keepsAhead 89 = .ok (.getfield 95, 3) := by decide +kernel
theorem dX8_keepsAhead_92 : decode cX8_keepsAhead 92 = .ok (.iconst 1, 1) := by decide +kernel
theorem dX8_keepsAhead_93 : decode cX8_keepsAhead 93 = .ok (.iadd, 1) := by decide +kernel
theorem dX8_keepsAhead_94 : decode cX8_keepsAhead 94 = .ok (.putfield 95, 3) := by decide +kernel
theorem dX8_keepsAhead_97 : decode cX8_keepsAhead 97 = .ok (.return_, 1) := by decide +kernel
set_option maxRecDepth 20000 in
theorem wX8_keepsAhead_55_b {p : Program} {l : Launch} {e : Env} {s : State} {m : MethodId} {args : Array Value} {below : List Frame} {meth : Method} {c : Code} {Z : XG} {r : Int32} {S' : Mem} (E : XE p s m args meth c cX8_keepsAhead 2 RX8 none mL Z) (k0 : Mem → Int32 → O)  (hk0 : ∀ (S : Mem) (x1 : Int32), k0 S x1 = some (r, S') → WN p l e { frames := 0, cells := 0, slots := 0, locals := 0 } s m args below meth c mL Z (XV mL Z S') S 55 2 [(0, .ref (Z.2.1 0)), (1, .int x1)] []) : ∀ (S : Mem) (x1 : Int32), fX8_keepsAhead_55_b k0 S x1 = some (r, S') → WN p l e { frames := 0, cells := 0, slots := 0, locals := 0 } s m args below meth c mL Z (XV mL Z S') S 55 2 [(0, .ref (Z.2.1 0)), (1, .int x1)] [] := by
  obtain ⟨hx, hb, -, -, -, -, -, -, -, hQ⟩ := id E
  intro S x1 h H locs ls X hl
  unfold fX8_keepsAhead_55_b at h
  refine lv_iload_n hx hb dX8_keepsAhead_55 rfl (lv_at hl 1 rfl) ?_
  refine lv_bipush (v := (55 : Int32)) hx hb dX8_keepsAhead_56 (by decide) ?_
  refine lv_icmp_ge (tgt := 87) hx hb dX8_keepsAhead_58 (by decide) (fun c_1 => ?_) (fun c_1 => ?_)
  · have h := if_t c_1 h
    refine lv_aload_n hx hb dX8_keepsAhead_87 rfl (lv_at hl 0 rfl) ?_
    refine lv_aload_n hx hb dX8_keepsAhead_88 rfl (lv_at hl 0 rfl) ?_
    refine x_get E X ffX8_95 rfl rfl dX8_keepsAhead_89 ?_
    refine lv_iconst (v := (1 : Int32)) hx hb dX8_keepsAhead_92 (by decide) ?_
    refine lv_iadd hx hb dX8_keepsAhead_93 ?_
    obtain ⟨S_2, eS_2, h⟩ := ltm_s h
    refine x_put E X fpX8_95 rfl rfl dX8_keepsAhead_94 (fun H locs X => ?_)
    rw [← eS_2] at X
    exact x_vret E X h dX8_keepsAhead_97
  · have h := if_f c_1 h
    refine lv_aload_n hx hb dX8_keepsAhead_61 rfl (lv_at hl 0 rfl) ?_
    refine x_getr E X ffX8_13 rfl rfl dX8_keepsAhead_62 ?_
    refine lv_bipush (v := (55 : Int32)) hx hb dX8_keepsAhead_65 (by decide) ?_
    refine lv_aload_n hx hb dX8_keepsAhead_67 rfl (lv_at hl 0 rfl) ?_
    refine x_get E X ffX8_95 rfl rfl dX8_keepsAhead_68 ?_
    refine lv_imul hx hb dX8_keepsAhead_71 ?_
    refine lv_iload_n hx hb dX8_keepsAhead_72 rfl (lv_at hl 1 rfl) ?_
    refine lv_iadd hx hb dX8_keepsAhead_73 ?_
    refine lv_aload_n hx hb dX8_keepsAhead_74 rfl (lv_at hl 0 rfl) ?_
    refine x_getr E X ffX8_7 rfl rfl dX8_keepsAhead_75 ?_
    refine lv_iload_n hx hb dX8_keepsAhead_78 rfl (lv_at hl 1 rfl) ?_
    obtain ⟨g_3, h⟩ := gd_s h
    refine x_iald E X rfl g_3 dX8_keepsAhead_79 ?_
    obtain ⟨g_4, h⟩ := gd_s h
    obtain ⟨S_5, eS_5, h⟩ := ltm_s h
    refine x_iast E X rfl g_4 dX8_keepsAhead_80 (fun H locs X => ?_)
    rw [← eS_5] at X
    refine lv_iinc (v := (x1 + (1 : Int32))) (lv' := [(1, .int (x1 + (1 : Int32))), (0, .ref (Z.2.1 0))]) hx hb dX8_keepsAhead_81 hl (k := 1) rfl rfl (by decide) rfl (fun ls hl => ?_)
    refine lv_goto (tgt := 55) hx hb dX8_keepsAhead_84 (by decide) ?_
    exact hk0 S_5 (x1 + (1 : Int32)) h _ _ _ X (lv_sub hl [1, 0] rfl)
theorem wX8_keepsAhead_55 {p : Program} {l : Launch} {e : Env} {s : State} {m : MethodId} {args : Array Value} {below : List Frame} {meth : Method} {c : Code} {Z : XG} {r : Int32} {S' : Mem} (E : XE p s m args meth c cX8_keepsAhead 2 RX8 none mL Z) : ∀ (n : Nat) (S : Mem) (x1 : Int32), fX8_keepsAhead_55 n S x1 = some (r, S') → WN p l e { frames := 0, cells := 0, slots := 0, locals := 0 } s m args below meth c mL Z (XV mL Z S') S 55 2 [(0, .ref (Z.2.1 0)), (1, .int x1)] [] := by
  intro n
  induction n with
  | zero => intro S x1 h; exact absurd (show (none : O) = some _ from h) (by simp)
  | succ n ih => intro S x1 h; exact wX8_keepsAhead_55_b E (fX8_keepsAhead_55 n) ih S x1 h
set_option maxRecDepth 20000 in
theorem wX8_keepsAhead_53 {p : Program} {l : Launch} {e : Env} {s : State} {m : MethodId} {args : Array Value} {below : List Frame} {meth : Method} {c : Code} {Z : XG} {r : Int32} {S' : Mem} (E : XE p s m args meth c cX8_keepsAhead 2 RX8 none mL Z) : ∀ (S : Mem), fX8_keepsAhead_53  S  = some (r, S') → WN p l e { frames := 0, cells := 0, slots := 0, locals := 0 } s m args below meth c mL Z (XV mL Z S') S 53 2 [(0, .ref (Z.2.1 0))] [] := by
  obtain ⟨hx, hb, -, -, -, -, -, -, -, hQ⟩ := id E
  intro S  h H locs ls X hl
  unfold fX8_keepsAhead_53 at h
  refine lv_iconst (v := (0 : Int32)) hx hb dX8_keepsAhead_53 (by decide) ?_
  refine lv_istore_n (lv' := [(1, .int (0 : Int32)), (0, .ref (Z.2.1 0))]) hx hb dX8_keepsAhead_54 rfl hl (by decide) rfl (fun ls hl => ?_)
  exact wX8_keepsAhead_55 E   FU S (0 : Int32) h _ _ _ X (lv_sub hl [1, 0] rfl)
set_option maxRecDepth 20000 in
theorem wX8_keepsAhead_21_b {p : Program} {l : Launch} {e : Env} {s : State} {m : MethodId} {args : Array Value} {below : List Frame} {meth : Method} {c : Code} {Z : XG} {r : Int32} {S' : Mem} (E : XE p s m args meth c cX8_keepsAhead 2 RX8 none mL Z) (k0 : Mem → Int32 → O)  (hk0 : ∀ (S : Mem) (x1 : Int32), k0 S x1 = some (r, S') → WN p l e { frames := 0, cells := 0, slots := 0, locals := 0 } s m args below meth c mL Z (XV mL Z S') S 21 2 [(0, .ref (Z.2.1 0)), (1, .int x1)] []) : ∀ (S : Mem) (x1 : Int32), fX8_keepsAhead_21_b k0 S x1 = some (r, S') → WN p l e { frames := 0, cells := 0, slots := 0, locals := 0 } s m args below meth c mL Z (XV mL Z S') S 21 2 [(0, .ref (Z.2.1 0)), (1, .int x1)] [] := by
  obtain ⟨hx, hb, -, -, -, -, -, -, -, hQ⟩ := id E
  intro S x1 h H locs ls X hl
  unfold fX8_keepsAhead_21_b at h
  refine lv_iload_n hx hb dX8_keepsAhead_21 rfl (lv_at hl 1 rfl) ?_
  refine lv_bipush (v := (55 : Int32)) hx hb dX8_keepsAhead_22 (by decide) ?_
  refine lv_aload_n hx hb dX8_keepsAhead_24 rfl (lv_at hl 0 rfl) ?_
  refine x_get E X ffX8_95 rfl rfl dX8_keepsAhead_25 ?_
  refine lv_imul hx hb dX8_keepsAhead_28 ?_
  refine lv_icmp_ge (tgt := 53) hx hb dX8_keepsAhead_29 (by decide) (fun c_1 => ?_) (fun c_1 => ?_)
  · have h := if_t c_1 h
    exact wX8_keepsAhead_53 E   S  h _ _ _ X (lv_sub hl [0] rfl)
  · have h := if_f c_1 h
    refine lv_aload_n hx hb dX8_keepsAhead_32 rfl (lv_at hl 0 rfl) ?_
    refine x_getr E X ffX8_13 rfl rfl dX8_keepsAhead_33 ?_
    refine lv_iload_n hx hb dX8_keepsAhead_36 rfl (lv_at hl 1 rfl) ?_
    refine lv_aload_n hx hb dX8_keepsAhead_37 rfl (lv_at hl 0 rfl) ?_
    refine x_getr E X ffX8_13 rfl rfl dX8_keepsAhead_38 ?_
    refine lv_iload_n hx hb dX8_keepsAhead_41 rfl (lv_at hl 1 rfl) ?_
    refine lv_bipush (v := (55 : Int32)) hx hb dX8_keepsAhead_42 (by decide) ?_
    refine lv_iadd hx hb dX8_keepsAhead_44 ?_
    obtain ⟨g_2, h⟩ := gd_s h
    refine x_iald E X rfl g_2 dX8_keepsAhead_45 ?_
    obtain ⟨g_3, h⟩ := gd_s h
    obtain ⟨S_4, eS_4, h⟩ := ltm_s h
    refine x_iast E X rfl g_3 dX8_keepsAhead_46 (fun H locs X => ?_)
    rw [← eS_4] at X
    refine lv_iinc (v := (x1 + (1 : Int32))) (lv' := [(1, .int (x1 + (1 : Int32))), (0, .ref (Z.2.1 0))]) hx hb dX8_keepsAhead_47 hl (k := 1) rfl rfl (by decide) rfl (fun ls hl => ?_)
    refine lv_goto (tgt := 21) hx hb dX8_keepsAhead_50 (by decide) ?_
    exact hk0 S_4 (x1 + (1 : Int32)) h _ _ _ X (lv_sub hl [1, 0] rfl)
theorem wX8_keepsAhead_21 {p : Program} {l : Launch} {e : Env} {s : State} {m : MethodId} {args : Array Value} {below : List Frame} {meth : Method} {c : Code} {Z : XG} {r : Int32} {S' : Mem} (E : XE p s m args meth c cX8_keepsAhead 2 RX8 none mL Z) : ∀ (n : Nat) (S : Mem) (x1 : Int32), fX8_keepsAhead_21 n S x1 = some (r, S') → WN p l e { frames := 0, cells := 0, slots := 0, locals := 0 } s m args below meth c mL Z (XV mL Z S') S 21 2 [(0, .ref (Z.2.1 0)), (1, .int x1)] [] := by
  intro n
  induction n with
  | zero => intro S x1 h; exact absurd (show (none : O) = some _ from h) (by simp)
  | succ n ih => intro S x1 h; exact wX8_keepsAhead_21_b E (fX8_keepsAhead_21 n) ih S x1 h
set_option maxRecDepth 20000 in
theorem wX8_keepsAhead {p : Program} {l : Launch} {e : Env} {s : State} {m : MethodId} {args : Array Value} {below : List Frame} {meth : Method} {c : Code} {Z : XG} {r : Int32} {S' : Mem} (E : XE p s m args meth c cX8_keepsAhead 2 RX8 none mL Z) : ∀ (S : Mem), fX8_keepsAhead  S  = some (r, S') → WN p l e { frames := 0, cells := 0, slots := 0, locals := 0 } s m args below meth c mL Z (XV mL Z S') S 0 2 [(0, .ref (Z.2.1 0))] [] := by
  obtain ⟨hx, hb, -, -, -, -, -, -, -, hQ⟩ := id E
  intro S  h H locs ls X hl
  unfold fX8_keepsAhead at h
  refine lv_aload_n hx hb dX8_keepsAhead_0 rfl (lv_at hl 0 rfl) ?_
  refine x_get E X ffX8_95 rfl rfl dX8_keepsAhead_1 ?_
  refine lv_bipush (v := (12 : Int32)) hx hb dX8_keepsAhead_4 (by decide) ?_
  refine lv_icmp_ne (tgt := 53) hx hb dX8_keepsAhead_6 (by decide) (fun c_1 => ?_) (fun c_1 => ?_)
  · have h := if_f c_1 h
    exact wX8_keepsAhead_53 E   S  h _ _ _ X hl
  · have h := if_t c_1 h
    refine lv_aload_n hx hb dX8_keepsAhead_9 rfl (lv_at hl 0 rfl) ?_
    refine lv_aload_n hx hb dX8_keepsAhead_10 rfl (lv_at hl 0 rfl) ?_
    refine x_get E X ffX8_95 rfl rfl dX8_keepsAhead_11 ?_
    refine lv_iconst (v := (1 : Int32)) hx hb dX8_keepsAhead_14 (by decide) ?_
    refine lv_isub hx hb dX8_keepsAhead_15 ?_
    obtain ⟨S_2, eS_2, h⟩ := ltm_s h
    refine x_put E X fpX8_95 rfl rfl dX8_keepsAhead_16 (fun H locs X => ?_)
    rw [← eS_2] at X
    refine lv_iconst (v := (0 : Int32)) hx hb dX8_keepsAhead_19 (by decide) ?_
    refine lv_istore_n (lv' := [(1, .int (0 : Int32)), (0, .ref (Z.2.1 0))]) hx hb dX8_keepsAhead_20 rfl hl (by decide) rfl (fun ls hl => ?_)
    exact wX8_keepsAhead_21 E   FU S_2 (0 : Int32) h _ _ _ X (lv_sub hl [1, 0] rfl)
/-- SevenToAShadowModel.keepsAhead()V -/
theorem mX8_keepsAhead (l : Launch) (Z : XG) (hQ : wQ (List.length mL) Z) {S S' : Mem} {r : Int32} (h : fX8_keepsAhead S  = some (r, S')) : XM l yX8_keepsAhead cX8_keepsAhead 2 none { frames := 0, cells := 0, slots := 0, locals := 0 } mL Z [.ref (Z.2.1 0)] S (XV mL Z S') := by
  refine XM.of (own := RX8) (by decide +kernel) rfl rfl hQ (fun p e s m args below meth c E ls hl X => ?_)
  exact wX8_keepsAhead E S  h _ _ _ X hl
def fX8_draw (S : Mem) (x1 : Int32) : O := ltm (mset S 1 ((2 : Int32)).toNatClampNeg (((1664525 : Int32) * (S 1 ((2 : Int32)).toNatClampNeg)) + (1013904223 : Int32))) fun S_1 => gd (nz x1) <| some ((irem (ushr (S_1 1 ((2 : Int32)).toNatClampNeg) (8 : Int32)) x1), S_1)
theorem dX8_draw_0 : decode cX8_draw 0 = .ok (.aload_n 0, 1) := by decide +kernel
theorem dX8_draw_1 : decode cX8_draw 1 = .ok (.getfield 7, 3) := by decide +kernel
theorem dX8_draw_4 : decode cX8_draw 4 = .ok (.iconst 2, 1) := by decide +kernel
theorem dX8_draw_5 : decode cX8_draw 5 = .ok (.ldc 98, 2) := by decide +kernel
theorem dX8_draw_7 : decode cX8_draw 7 = .ok (.aload_n 0, 1) := by decide +kernel
theorem dX8_draw_8 : decode cX8_draw 8 = .ok (.getfield 7, 3) := by decide +kernel
theorem dX8_draw_11 : decode cX8_draw 11 = .ok (.iconst 2, 1) := by decide +kernel
theorem dX8_draw_12 : decode cX8_draw 12 = .ok (.iaload, 1) := by decide +kernel
theorem dX8_draw_13 : decode cX8_draw 13 = .ok (.imul, 1) := by decide +kernel
theorem dX8_draw_14 : decode cX8_draw 14 = .ok (.ldc 99, 2) := by decide +kernel
theorem dX8_draw_16 : decode cX8_draw 16 = .ok (.iadd, 1) := by decide +kernel
theorem dX8_draw_17 : decode cX8_draw 17 = .ok (.iastore, 1) := by decide +kernel
theorem dX8_draw_18 : decode cX8_draw 18 = .ok (.aload_n 0, 1) := by decide +kernel
theorem dX8_draw_19 : decode cX8_draw 19 = .ok (.getfield 7, 3) := by decide +kernel
theorem dX8_draw_22 : decode cX8_draw 22 = .ok (.iconst 2, 1) := by decide +kernel
theorem dX8_draw_23 : decode cX8_draw 23 = .ok (.iaload, 1) := by decide +kernel
theorem dX8_draw_24 : decode cX8_draw 24 = .ok (.bipush 8, 2) := by decide +kernel
theorem dX8_draw_26 : decode cX8_draw 26 = .ok (.iushr, 1) := by decide +kernel
theorem dX8_draw_27 : decode cX8_draw 27 = .ok (.iload_n 1, 1) := by decide +kernel
theorem dX8_draw_28 : decode cX8_draw 28 = .ok (.irem, 1) := by decide +kernel
theorem dX8_draw_29 : decode cX8_draw 29 = .ok (.ireturn, 1) := by decide +kernel
set_option maxRecDepth 20000 in
theorem wX8_draw {p : Program} {l : Launch} {e : Env} {s : State} {m : MethodId} {args : Array Value} {below : List Frame} {meth : Method} {c : Code} {Z : XG} {r : Int32} {S' : Mem} (E : XE p s m args meth c cX8_draw 2 RX8 (some .int) mL Z) : ∀ (S : Mem) (x1 : Int32), fX8_draw  S x1 = some (r, S') → WN p l e { frames := 0, cells := 0, slots := 0, locals := 0 } s m args below meth c mL Z (XQ mL Z r S') S 0 2 [(0, .ref (Z.2.1 0)), (1, .int x1)] [] := by
  obtain ⟨hx, hb, -, -, -, -, -, -, -, hQ⟩ := id E
  intro S x1 h H locs ls X hl
  unfold fX8_draw at h
  refine lv_aload_n hx hb dX8_draw_0 rfl (lv_at hl 0 rfl) ?_
  refine x_getr E X ffX8_7 rfl rfl dX8_draw_1 ?_
  refine lv_iconst (v := (2 : Int32)) hx hb dX8_draw_4 (by decide) ?_
  refine x_ldc E csX8_98 dX8_draw_5 ?_
  refine lv_aload_n hx hb dX8_draw_7 rfl (lv_at hl 0 rfl) ?_
  refine x_getr E X ffX8_7 rfl rfl dX8_draw_8 ?_
  refine lv_iconst (v := (2 : Int32)) hx hb dX8_draw_11 (by decide) ?_
  refine x_iald E X rfl (by decide) dX8_draw_12 ?_
  refine lv_imul hx hb dX8_draw_13 ?_
  refine x_ldc E csX8_99 dX8_draw_14 ?_
  refine lv_iadd hx hb dX8_draw_16 ?_
  obtain ⟨S_1, eS_1, h⟩ := ltm_s h
  refine x_iast E X rfl (by decide) dX8_draw_17 (fun H locs X => ?_)
  rw [← eS_1] at X
  refine lv_aload_n hx hb dX8_draw_18 rfl (lv_at hl 0 rfl) ?_
  refine x_getr E X ffX8_7 rfl rfl dX8_draw_19 ?_
  refine lv_iconst (v := (2 : Int32)) hx hb dX8_draw_22 (by decide) ?_
  refine x_iald E X rfl (by decide) dX8_draw_23 ?_
  refine lv_bipush (v := (8 : Int32)) hx hb dX8_draw_24 (by decide) ?_
  refine lv_iushr (v := (ushr (S_1 1 ((2 : Int32)).toNatClampNeg) (8 : Int32))) hx hb dX8_draw_26 rfl ?_
  refine lv_iload_n hx hb dX8_draw_27 rfl (lv_at hl 1 rfl) ?_
  obtain ⟨g_2, h⟩ := gd_s h
  refine lv_irem hx hb dX8_draw_28 (of_decide_eq_true g_2) ?_
  refine lv_nm (y := (irem (ushr (S_1 1 ((2 : Int32)).toNatClampNeg) (8 : Int32)) x1)) rfl ?_
  exact x_iret E X h dX8_draw_29
/-- SevenToAShadowModel.draw(I)I -/
theorem mX8_draw (l : Launch) (Z : XG) (hQ : wQ (List.length mL) Z) {S S' : Mem} {r : Int32} (x1 : Int32) (h : fX8_draw S x1 = some (r, S')) : XM l yX8_draw cX8_draw 2 (some .int) { frames := 0, cells := 0, slots := 0, locals := 0 } mL Z [.ref (Z.2.1 0), .int x1] S (XQ mL Z r S') := by
  refine XM.of (own := RX8) (by decide +kernel) rfl rfl hQ (fun p e s m args below meth c E ls hl X => ?_)
  exact wX8_draw E S x1 h _ _ _ X hl
def fX8_shades (S : Mem) (x1 x2 : Int32) : O := (if x1 = (-1 : Int32) then some ((0 : Int32), S) else gd (inB x1 25) <| gd (inB x1 25) <| ltm (mset S 21 (x1).toNatClampNeg ((S 21 (x1).toNatClampNeg) ||| ((1 : Int32) <<< (x2 &&& 31)))) fun S_4 => some ((0 : Int32), S_4))
theorem dX8_shades_0 : decode cX8_shades 0 = .ok (.iload_n 1, 1) := by decide +kernel
theorem dX8_shades_1 : decode cX8_shades 1 = .ok (.iconst (-1), 1) := by decide +kernel
theorem dX8_shades_2 : decode cX8_shades 2 = .ok (.if_icmp .eq 19, 3) := by decide +kernel
theorem dX8_shades_5 : decode cX8_shades 5 = .ok (.aload_n 0, 1) := by decide +kernel
theorem dX8_shades_6 : decode cX8_shades 6 = .ok (.getfield 74, 3) := by decide +kernel
theorem dX8_shades_9 : decode cX8_shades 9 = .ok (.iload_n 1, 1) := by decide +kernel
theorem dX8_shades_10 : decode cX8_shades 10 = .ok (.aload_n 0, 1) := by decide +kernel
theorem dX8_shades_11 : decode cX8_shades 11 = .ok (.getfield 74, 3) := by decide +kernel
theorem dX8_shades_14 : decode cX8_shades 14 = .ok (.iload_n 1, 1) := by decide +kernel
theorem dX8_shades_15 : decode cX8_shades 15 = .ok (.iaload, 1) := by decide +kernel
theorem dX8_shades_16 : decode cX8_shades 16 = .ok (.iconst 1, 1) := by decide +kernel
theorem dX8_shades_17 : decode cX8_shades 17 = .ok (.iload_n 2, 1) := by decide +kernel
theorem dX8_shades_18 : decode cX8_shades 18 = .ok (.ishl, 1) := by decide +kernel
theorem dX8_shades_19 : decode cX8_shades 19 = .ok (.ior, 1) := by decide +kernel
theorem dX8_shades_20 : decode cX8_shades 20 = .ok (.iastore, 1) := by decide +kernel
theorem dX8_shades_21 : decode cX8_shades 21 = .ok (.return_, 1) := by decide +kernel
set_option maxRecDepth 20000 in
theorem wX8_shades {p : Program} {l : Launch} {e : Env} {s : State} {m : MethodId} {args : Array Value} {below : List Frame} {meth : Method} {c : Code} {Z : XG} {r : Int32} {S' : Mem} (E : XE p s m args meth c cX8_shades 3 RX8 none mL Z) : ∀ (S : Mem) (x1 x2 : Int32), fX8_shades  S x1 x2 = some (r, S') → WN p l e { frames := 0, cells := 0, slots := 0, locals := 0 } s m args below meth c mL Z (XV mL Z S') S 0 3 [(0, .ref (Z.2.1 0)), (1, .int x1), (2, .int x2)] [] := by
  obtain ⟨hx, hb, -, -, -, -, -, -, -, hQ⟩ := id E
  intro S x1 x2 h H locs ls X hl
  unfold fX8_shades at h
  refine lv_iload_n hx hb dX8_shades_0 rfl (lv_at hl 1 rfl) ?_
  refine lv_iconst (v := (-1 : Int32)) hx hb dX8_shades_1 (by decide) ?_
  refine lv_icmp_eq (tgt := 21) hx hb dX8_shades_2 (by decide) (fun c_1 => ?_) (fun c_1 => ?_)
  · have h := if_t c_1 h
    exact x_vret E X h dX8_shades_21
  · have h := if_f c_1 h
    refine lv_aload_n hx hb dX8_shades_5 rfl (lv_at hl 0 rfl) ?_
    refine x_getr E X ffX8_74 rfl rfl dX8_shades_6 ?_
    refine lv_iload_n hx hb dX8_shades_9 rfl (lv_at hl 1 rfl) ?_
    refine lv_aload_n hx hb dX8_shades_10 rfl (lv_at hl 0 rfl) ?_
    refine x_getr E X ffX8_74 rfl rfl dX8_shades_11 ?_
    refine lv_iload_n hx hb dX8_shades_14 rfl (lv_at hl 1 rfl) ?_
    obtain ⟨g_2, h⟩ := gd_s h
    refine x_iald E X rfl g_2 dX8_shades_15 ?_
    refine lv_iconst (v := (1 : Int32)) hx hb dX8_shades_16 (by decide) ?_
    refine lv_iload_n hx hb dX8_shades_17 rfl (lv_at hl 2 rfl) ?_
    refine lv_ishl hx hb dX8_shades_18 ?_
    refine lv_ior hx hb dX8_shades_19 ?_
    obtain ⟨g_3, h⟩ := gd_s h
    obtain ⟨S_4, eS_4, h⟩ := ltm_s h
    refine x_iast E X rfl g_3 dX8_shades_20 (fun H locs X => ?_)
    rw [← eS_4] at X
    exact x_vret E X h dX8_shades_21
/-- SevenToAShadowModel.shades(II)V -/
theorem mX8_shades (l : Launch) (Z : XG) (hQ : wQ (List.length mL) Z) {S S' : Mem} {r : Int32} (x1 x2 : Int32) (h : fX8_shades S x1 x2 = some (r, S')) : XM l yX8_shades cX8_shades 3 none { frames := 0, cells := 0, slots := 0, locals := 0 } mL Z [.ref (Z.2.1 0), .int x1, .int x2] S (XV mL Z S') := by
  refine XM.of (own := RX8) (by decide +kernel) rfl rfl hQ (fun p e s m args below meth c E ls hl X => ?_)
  exact wX8_shades E S x1 x2 h _ _ _ X hl
def fX8_nextX_9 (S : Mem) : O := some ((0 : Int32), S)
def fX8_nextX (S : Mem) (x1 : Int32) : O := (if x1 = 0 then fX8_nextX_9  S  else (if x1 = (4 : Int32) then fX8_nextX_9  S  else (if (4 : Int32) ≤ x1 then some ((-1 : Int32), S) else some ((1 : Int32), S))))
theorem dX8_nextX_0 : decode cX8_nextX 0 = .ok (.iload_n 1, 1) := by decide +kernel
theorem dX8_nextX_1 : decode cX8_nextX 1 = .ok (.ifCond .eq 8, 3) := by decide +kernel
theorem dX8_nextX_4 : decode cX8_nextX 4 = .ok (.iload_n 1, 1) := by decide +kernel
theorem dX8_nextX_5 : decode cX8_nextX 5 = .ok (.iconst 4, 1) := by decide +kernel
theorem dX8_nextX_6 : decode cX8_nextX 6 = .ok (.if_icmp .ne 7, 3) := by decide +kernel
theorem dX8_nextX_9 : decode cX8_nextX 9 = .ok (.iconst 0, 1) := by decide +kernel
theorem dX8_nextX_10 : decode cX8_nextX 10 = .ok (.goto 13, 3) := by decide +kernel
theorem dX8_nextX_13 : decode cX8_nextX 13 = .ok (.iload_n 1, 1) := by decide +kernel
theorem dX8_nextX_14 : decode cX8_nextX 14 = .ok (.iconst 4, 1) := by decide +kernel
theorem dX8_nextX_15 : decode cX8_nextX 15 = .ok (.if_icmp .ge 7, 3) := by decide +kernel
theorem dX8_nextX_18 : decode cX8_nextX 18 = .ok (.iconst 1, 1) := by decide +kernel
theorem dX8_nextX_19 : decode cX8_nextX 19 = .ok (.goto 4, 3) := by decide +kernel
theorem dX8_nextX_22 : decode cX8_nextX 22 = .ok (.iconst (-1), 1) := by decide +kernel
theorem dX8_nextX_23 : decode cX8_nextX 23 = .ok (.ireturn, 1) := by decide +kernel
set_option maxRecDepth 20000 in
theorem wX8_nextX_9 {p : Program} {l : Launch} {e : Env} {s : State} {m : MethodId} {args : Array Value} {below : List Frame} {meth : Method} {c : Code} {Z : XG} {r : Int32} {S' : Mem} (E : XE p s m args meth c cX8_nextX 2 RX8 (some .int) mL Z) : ∀ (S : Mem), fX8_nextX_9  S  = some (r, S') → WN p l e { frames := 0, cells := 0, slots := 0, locals := 0 } s m args below meth c mL Z (XQ mL Z r S') S 9 2 [] [] := by
  obtain ⟨hx, hb, -, -, -, -, -, -, -, hQ⟩ := id E
  intro S  h H locs ls X hl
  unfold fX8_nextX_9 at h
  refine lv_iconst (v := (0 : Int32)) hx hb dX8_nextX_9 (by decide) ?_
  refine lv_goto (tgt := 23) hx hb dX8_nextX_10 (by decide) ?_
  exact x_iret E X h dX8_nextX_23
set_option maxRecDepth 20000 in
theorem wX8_nextX {p : Program} {l : Launch} {e : Env} {s : State} {m : MethodId} {args : Array Value} {below : List Frame} {meth : Method} {c : Code} {Z : XG} {r : Int32} {S' : Mem} (E : XE p s m args meth c cX8_nextX 2 RX8 (some .int) mL Z) : ∀ (S : Mem) (x1 : Int32), fX8_nextX  S x1 = some (r, S') → WN p l e { frames := 0, cells := 0, slots := 0, locals := 0 } s m args below meth c mL Z (XQ mL Z r S') S 0 2 [(1, .int x1)] [] := by
  obtain ⟨hx, hb, -, -, -, -, -, -, -, hQ⟩ := id E
  intro S x1 h H locs ls X hl
  unfold fX8_nextX at h
  refine lv_iload_n hx hb dX8_nextX_0 rfl (lv_at hl 0 rfl) ?_
  refine lv_if_eq (tgt := 9) hx hb dX8_nextX_1 (by decide) (fun c_1 => ?_) (fun c_1 => ?_)
  · have h := if_t c_1 h
    exact wX8_nextX_9 E   S  h _ _ _ X (lv_sub hl [] rfl)
  · have h := if_f c_1 h
    refine lv_iload_n hx hb dX8_nextX_4 rfl (lv_at hl 0 rfl) ?_
    refine lv_iconst (v := (4 : Int32)) hx hb dX8_nextX_5 (by decide) ?_
    refine lv_icmp_ne (tgt := 13) hx hb dX8_nextX_6 (by decide) (fun c_2 => ?_) (fun c_2 => ?_)
    · have h := if_f c_2 h
      refine lv_iload_n hx hb dX8_nextX_13 rfl (lv_at hl 0 rfl) ?_
      refine lv_iconst (v := (4 : Int32)) hx hb dX8_nextX_14 (by decide) ?_
      refine lv_icmp_ge (tgt := 22) hx hb dX8_nextX_15 (by decide) (fun c_3 => ?_) (fun c_3 => ?_)
      · have h := if_t c_3 h
        refine lv_iconst (v := (-1 : Int32)) hx hb dX8_nextX_22 (by decide) ?_
        exact x_iret E X h dX8_nextX_23
      · have h := if_f c_3 h
        refine lv_iconst (v := (1 : Int32)) hx hb dX8_nextX_18 (by decide) ?_
        refine lv_goto (tgt := 23) hx hb dX8_nextX_19 (by decide) ?_
        exact x_iret E X h dX8_nextX_23
    · have h := if_t c_2 h
      exact wX8_nextX_9 E   S  h _ _ _ X (lv_sub hl [] rfl)
/-- SevenToAShadowModel.nextX(I)I -/
theorem mX8_nextX (l : Launch) (Z : XG) (hQ : wQ (List.length mL) Z) {S S' : Mem} {r : Int32} (x1 : Int32) (h : fX8_nextX S x1 = some (r, S')) : XM l yX8_nextX cX8_nextX 2 (some .int) { frames := 0, cells := 0, slots := 0, locals := 0 } mL Z [.ref (Z.2.1 0), .int x1] S (XQ mL Z r S') := by
  refine XM.of (own := RX8) (by decide +kernel) rfl rfl hQ (fun p e s m args below meth c E ls hl X => ?_)
  exact wX8_nextX E S x1 h _ _ _ X (lv_sub hl [1] rfl)
def fX8_nextY_11 (S : Mem) : O := some ((0 : Int32), S)
def fX8_nextY_26 (S : Mem) : O := some ((-1 : Int32), S)
def fX8_nextY (S : Mem) (x1 : Int32) : O := (if x1 = (2 : Int32) then fX8_nextY_11  S  else (if x1 = (6 : Int32) then fX8_nextY_11  S  else (if x1 = (7 : Int32) then fX8_nextY_26  S  else (if (2 : Int32) ≤ x1 then some ((1 : Int32), S) else fX8_nextY_26  S ))))
theorem dX8_nextY_0 : decode cX8_nextY 0 = .ok (.iload_n 1, 1) := by decide +kernel
theorem dX8_nextY_1 : decode cX8_nextY 1 = .ok (.iconst 2, 1) := by decide +kernel
theorem dX8_nextY_2 : decode cX8_nextY 2 = .ok (.if_icmp .eq 9, 3) := by decide +kernel
theorem dX8_nextY_5 : decode cX8_nextY 5 = .ok (.iload_n 1, 1) := by decide +kernel
theorem dX8_nextY_6 : decode cX8_nextY 6 = .ok (.bipush 6, 2) := by decide +kernel
theorem dX8_nextY_8 : decode cX8_nextY 8 = .ok (.if_icmp .ne 7, 3) := by decide +kernel
theorem dX8_nextY_11 : decode cX8_nextY 11 = .ok (.iconst 0, 1) := by decide +kernel
theorem dX8_nextY_12 : decode cX8_nextY 12 = .ok (.goto 19, 3) := by decide +kernel
theorem dX8_nextY_15 : decode cX8_nextY 15 = .ok (.iload_n 1, 1) := by decide +kernel
theorem dX8_nextY_16 : decode cX8_nextY 16 = .ok (.bipush 7, 2) := by decide +kernel
theorem dX8_nextY_18 : decode cX8_nextY 18 = .ok (.if_icmp .eq 8, 3) := by decide +kernel
theorem dX8_nextY_21 : decode cX8_nextY 21 = .ok (.iload_n 1, 1) := by decide +kernel
theorem dX8_nextY_22 : decode cX8_nextY 22 = .ok (.iconst 2, 1) := by decide +kernel
theorem dX8_nextY_23 : decode cX8_nextY 23 = .ok (.if_icmp .ge 7, 3) := by decide +kernel
theorem dX8_nextY_26 : decode cX8_nextY 26 = .ok (.iconst (-1), 1) := by decide +kernel
theorem dX8_nextY_27 : decode cX8_nextY 27 = .ok (.goto 4, 3) := by decide +kernel
theorem dX8_nextY_30 : decode cX8_nextY 30 = .ok (.iconst 1, 1) := by decide +kernel
theorem dX8_nextY_31 : decode cX8_nextY 31 = .ok (.ireturn, 1) := by decide +kernel
set_option maxRecDepth 20000 in
theorem wX8_nextY_11 {p : Program} {l : Launch} {e : Env} {s : State} {m : MethodId} {args : Array Value} {below : List Frame} {meth : Method} {c : Code} {Z : XG} {r : Int32} {S' : Mem} (E : XE p s m args meth c cX8_nextY 2 RX8 (some .int) mL Z) : ∀ (S : Mem), fX8_nextY_11  S  = some (r, S') → WN p l e { frames := 0, cells := 0, slots := 0, locals := 0 } s m args below meth c mL Z (XQ mL Z r S') S 11 2 [] [] := by
  obtain ⟨hx, hb, -, -, -, -, -, -, -, hQ⟩ := id E
  intro S  h H locs ls X hl
  unfold fX8_nextY_11 at h
  refine lv_iconst (v := (0 : Int32)) hx hb dX8_nextY_11 (by decide) ?_
  refine lv_goto (tgt := 31) hx hb dX8_nextY_12 (by decide) ?_
  exact x_iret E X h dX8_nextY_31
set_option maxRecDepth 20000 in
theorem wX8_nextY_26 {p : Program} {l : Launch} {e : Env} {s : State} {m : MethodId} {args : Array Value} {below : List Frame} {meth : Method} {c : Code} {Z : XG} {r : Int32} {S' : Mem} (E : XE p s m args meth c cX8_nextY 2 RX8 (some .int) mL Z) : ∀ (S : Mem), fX8_nextY_26  S  = some (r, S') → WN p l e { frames := 0, cells := 0, slots := 0, locals := 0 } s m args below meth c mL Z (XQ mL Z r S') S 26 2 [] [] := by
  obtain ⟨hx, hb, -, -, -, -, -, -, -, hQ⟩ := id E
  intro S  h H locs ls X hl
  unfold fX8_nextY_26 at h
  refine lv_iconst (v := (-1 : Int32)) hx hb dX8_nextY_26 (by decide) ?_
  refine lv_goto (tgt := 31) hx hb dX8_nextY_27 (by decide) ?_
  exact x_iret E X h dX8_nextY_31
set_option maxRecDepth 20000 in
theorem wX8_nextY {p : Program} {l : Launch} {e : Env} {s : State} {m : MethodId} {args : Array Value} {below : List Frame} {meth : Method} {c : Code} {Z : XG} {r : Int32} {S' : Mem} (E : XE p s m args meth c cX8_nextY 2 RX8 (some .int) mL Z) : ∀ (S : Mem) (x1 : Int32), fX8_nextY  S x1 = some (r, S') → WN p l e { frames := 0, cells := 0, slots := 0, locals := 0 } s m args below meth c mL Z (XQ mL Z r S') S 0 2 [(1, .int x1)] [] := by
  obtain ⟨hx, hb, -, -, -, -, -, -, -, hQ⟩ := id E
  intro S x1 h H locs ls X hl
  unfold fX8_nextY at h
  refine lv_iload_n hx hb dX8_nextY_0 rfl (lv_at hl 0 rfl) ?_
  refine lv_iconst (v := (2 : Int32)) hx hb dX8_nextY_1 (by decide) ?_
  refine lv_icmp_eq (tgt := 11) hx hb dX8_nextY_2 (by decide) (fun c_1 => ?_) (fun c_1 => ?_)
  · have h := if_t c_1 h
    exact wX8_nextY_11 E   S  h _ _ _ X (lv_sub hl [] rfl)
  · have h := if_f c_1 h
    refine lv_iload_n hx hb dX8_nextY_5 rfl (lv_at hl 0 rfl) ?_
    refine lv_bipush (v := (6 : Int32)) hx hb dX8_nextY_6 (by decide) ?_
    refine lv_icmp_ne (tgt := 15) hx hb dX8_nextY_8 (by decide) (fun c_2 => ?_) (fun c_2 => ?_)
    · have h := if_f c_2 h
      refine lv_iload_n hx hb dX8_nextY_15 rfl (lv_at hl 0 rfl) ?_
      refine lv_bipush (v := (7 : Int32)) hx hb dX8_nextY_16 (by decide) ?_
      refine lv_icmp_eq (tgt := 26) hx hb dX8_nextY_18 (by decide) (fun c_3 => ?_) (fun c_3 => ?_)
      · have h := if_t c_3 h
        exact wX8_nextY_26 E   S  h _ _ _ X (lv_sub hl [] rfl)
      · have h := if_f c_3 h
        refine lv_iload_n hx hb dX8_nextY_21 rfl (lv_at hl 0 rfl) ?_
        refine lv_iconst (v := (2 : Int32)) hx hb dX8_nextY_22 (by decide) ?_
        refine lv_icmp_ge (tgt := 30) hx hb dX8_nextY_23 (by decide) (fun c_4 => ?_) (fun c_4 => ?_)
        · have h := if_t c_4 h
          refine lv_iconst (v := (1 : Int32)) hx hb dX8_nextY_30 (by decide) ?_
          exact x_iret E X h dX8_nextY_31
        · have h := if_f c_4 h
          exact wX8_nextY_26 E   S  h _ _ _ X (lv_sub hl [] rfl)
    · have h := if_t c_2 h
      exact wX8_nextY_11 E   S  h _ _ _ X (lv_sub hl [] rfl)
/-- SevenToAShadowModel.nextY(I)I -/
theorem mX8_nextY (l : Launch) (Z : XG) (hQ : wQ (List.length mL) Z) {S S' : Mem} {r : Int32} (x1 : Int32) (h : fX8_nextY S x1 = some (r, S')) : XM l yX8_nextY cX8_nextY 2 (some .int) { frames := 0, cells := 0, slots := 0, locals := 0 } mL Z [.ref (Z.2.1 0), .int x1] S (XQ mL Z r S') := by
  refine XM.of (own := RX8) (by decide +kernel) rfl rfl hQ (fun p e s m args below meth c E ls hl X => ?_)
  exact wX8_nextY E S x1 h _ _ _ X (lv_sub hl [1] rfl)
def fX8_nextTo (S : Mem) (x1 x2 : Int32) : O := (if x1 = (-1 : Int32) then some ((-1 : Int32), S) else bnd (fX8_nextX S x2) fun r_2 S_3 => lti ((irem x1 (5 : Int32)) + r_2) fun x3_4 => bnd (fX8_nextY S_3 x2) fun r_5 S_6 => lti ((x1 / (5 : Int32)) + r_5) fun x4_7 => bnd (fX8_isIn S_6 x3_4 (0 : Int32) (4 : Int32)) fun r_8 S_9 => (if r_8 = 0 then some ((-1 : Int32), S_9) else bnd (fX8_isIn S_9 x4_7 (0 : Int32) (4 : Int32)) fun r_11 S_12 => (if r_11 = 0 then some ((-1 : Int32), S_12) else some ((((5 : Int32) * x4_7) + x3_4), S_12))))
theorem dX8_nextTo_0 : decode cX8_nextTo 0 = .ok (.iload_n 1, 1) := by decide +kernel
theorem dX8_nextTo_1 : decode cX8_nextTo 1 = .ok (.iconst (-1), 1) := by decide +kernel
theorem dX8_nextTo_2 : decode cX8_nextTo 2 = .ok (.if_icmp .ne 5, 3) := by decide +kernel
theorem dX8_nextTo_5 : decode cX8_nextTo 5 = .ok (.iconst (-1), 1) := by decide +kernel
theorem dX8_nextTo_6 : decode cX8_nextTo 6 = .ok (.ireturn, 1) := by decide +kernel
theorem dX8_nextTo_7 : decode cX8_nextTo 7 = .ok (.iload_n 1, 1) := by decide +kernel
theorem dX8_nextTo_8 : decode cX8_nextTo 8 = .ok (.iconst 5, 1) := by decide +kernel
theorem dX8_nextTo_9 : decode cX8_nextTo 9 = .ok (.irem, 1) := by decide +kernel
theorem dX8_nextTo_10 : decode cX8_nextTo 10 = .ok (.aload_n 0, 1) := by decide +kernel
theorem dX8_nextTo_11 : decode cX8_nextTo 11 = .ok (.iload_n 2, 1) := by decide +kernel
theorem dX8_nextTo_12 : decode cX8_nextTo 12 = .ok (.invokevirtual 231, 3) := by decide +kernel
theorem dX8_nextTo_15 : decode cX8_nextTo 15 = .ok (.iadd, 1) := by decide +kernel
theorem dX8_nextTo_16 : decode cX8_nextTo 16 = .ok (.istore_n 3, 1) := by decide +kernel
theorem dX8_nextTo_17 : decode cX8_nextTo 17 = .ok (.iload_n 1, 1) := by decide +kernel
theorem dX8_nextTo_18 : decode cX8_nextTo 18 = .ok (.iconst 5, 1) := by decide +kernel
theorem dX8_nextTo_19 : decode cX8_nextTo 19 = .ok (.idiv, 1) := by decide +kernel
theorem dX8_nextTo_20 : decode cX8_nextTo 20 = .ok (.aload_n 0, 1) := by decide +kernel
theorem dX8_nextTo_21 : decode cX8_nextTo 21 = .ok (.iload_n 2, 1) := by decide +kernel
theorem dX8_nextTo_22 : decode cX8_nextTo 22 = .ok (.invokevirtual 234, 3) := by decide +kernel
theorem dX8_nextTo_25 : decode cX8_nextTo 25 = .ok (.iadd, 1) := by decide +kernel
theorem dX8_nextTo_26 : decode cX8_nextTo 26 = .ok (.istore 4, 2) := by decide +kernel
theorem dX8_nextTo_28 : decode cX8_nextTo 28 = .ok (.aload_n 0, 1) := by decide +kernel
theorem dX8_nextTo_29 : decode cX8_nextTo 29 = .ok (.iload_n 3, 1) := by decide +kernel
theorem dX8_nextTo_30 : decode cX8_nextTo 30 = .ok (.iconst 0, 1) := by decide +kernel
theorem dX8_nextTo_31 : decode cX8_nextTo 31 = .ok (.iconst 4, 1) := by decide +kernel
theorem dX8_nextTo_32 : decode cX8_nextTo 32 = .ok (.invokevirtual 107, 3) := by decide +kernel
theorem dX8_nextTo_35 : decode cX8_nextTo 35 = .ok (.ifCond .eq 23, 3) := by decide +kernel
theorem dX8_nextTo_38 : decode cX8_nextTo 38 = .ok (.aload_n 0, 1) := by decide +kernel
theorem dX8_nextTo_39 : decode cX8_nextTo 39 = .ok (.iload 4, 2) := by decide +kernel
theorem dX8_nextTo_41 : decode cX8_nextTo 41 = .ok (.iconst 0, 1) := by decide +kernel
theorem dX8_nextTo_42 : decode cX8_nextTo 42 = .ok (.iconst 4, 1) := by decide +kernel
theorem dX8_nextTo_43 : decode cX8_nextTo 43 = .ok (.invokevirtual 107, 3) := by decide +kernel
theorem dX8_nextTo_46 : decode cX8_nextTo 46 = .ok (.ifCond .eq 12, 3) := by decide +kernel
theorem dX8_nextTo_49 : decode cX8_nextTo 49 = .ok (.iconst 5, 1) := by decide +kernel
theorem dX8_nextTo_50 : decode cX8_nextTo 50 = .ok (.iload 4, 2) := by decide +kernel
theorem dX8_nextTo_52 : decode cX8_nextTo 52 = .ok (.imul, 1) := by decide +kernel
theorem dX8_nextTo_53 : decode cX8_nextTo 53 = .ok (.iload_n 3, 1) := by decide +kernel
theorem dX8_nextTo_54 : decode cX8_nextTo 54 = .ok (.iadd, 1) := by decide +kernel
theorem dX8_nextTo_55 : decode cX8_nextTo 55 = .ok (.goto 4, 3) := by decide +kernel
theorem dX8_nextTo_58 : decode cX8_nextTo 58 = .ok (.iconst (-1), 1) := by decide +kernel
theorem dX8_nextTo_59 : decode cX8_nextTo 59 = .ok (.ireturn, 1) := by decide +kernel
set_option maxRecDepth 20000 in
theorem wX8_nextTo {p : Program} {l : Launch} {e : Env} {s : State} {m : MethodId} {args : Array Value} {below : List Frame} {meth : Method} {c : Code} {Z : XG} {r : Int32} {S' : Mem} (E : XE p s m args meth c cX8_nextTo 5 RX8 (some .int) mL Z) : ∀ (S : Mem) (x1 x2 : Int32), fX8_nextTo  S x1 x2 = some (r, S') → WN p l e { frames := 1, cells := 0, slots := 0, locals := 23 } s m args below meth c mL Z (XQ mL Z r S') S 0 5 [(0, .ref (Z.2.1 0)), (1, .int x1), (2, .int x2)] [] := by
  obtain ⟨hx, hb, -, -, -, -, -, -, -, hQ⟩ := id E
  intro S x1 x2 h H locs ls X hl
  unfold fX8_nextTo at h
  refine lv_iload_n hx hb dX8_nextTo_0 rfl (lv_at hl 1 rfl) ?_
  refine lv_iconst (v := (-1 : Int32)) hx hb dX8_nextTo_1 (by decide) ?_
  refine lv_icmp_ne (tgt := 7) hx hb dX8_nextTo_2 (by decide) (fun c_1 => ?_) (fun c_1 => ?_)
  · have h := if_f c_1 h
    refine lv_iload_n hx hb dX8_nextTo_7 rfl (lv_at hl 1 rfl) ?_
    refine lv_iconst (v := (5 : Int32)) hx hb dX8_nextTo_8 (by decide) ?_
    refine lv_irem hx hb dX8_nextTo_9 (by decide) ?_
    refine lv_nm (y := (irem x1 (5 : Int32))) rfl ?_
    refine lv_aload_n hx hb dX8_nextTo_10 rfl (lv_at hl 0 rfl) ?_
    refine lv_iload_n hx hb dX8_nextTo_11 rfl (lv_at hl 2 rfl) ?_
    obtain ⟨r_2, S_3, hr_2, h⟩ := bnd_s h
    refine x_callV E X cwX8_231 (mX8_nextX l Z hQ  x2 hr_2) rfl rfl rfl rfl hl.1 rfl dX8_nextTo_12 (fun H locs X => ?_)
    refine lv_iadd hx hb dX8_nextTo_15 ?_
    obtain ⟨x3_4, ex3_4, h⟩ := lti_s h
    refine lv_nm ex3_4 ?_
    refine lv_istore_n (lv' := [(3, .int x3_4), (0, .ref (Z.2.1 0)), (1, .int x1), (2, .int x2)]) hx hb dX8_nextTo_16 rfl hl (by decide) rfl (fun ls hl => ?_)
    refine lv_iload_n hx hb dX8_nextTo_17 rfl (lv_at hl 2 rfl) ?_
    refine lv_iconst (v := (5 : Int32)) hx hb dX8_nextTo_18 (by decide) ?_
    refine lv_idiv hx hb dX8_nextTo_19 (by decide) ?_
    refine lv_aload_n hx hb dX8_nextTo_20 rfl (lv_at hl 1 rfl) ?_
    refine lv_iload_n hx hb dX8_nextTo_21 rfl (lv_at hl 3 rfl) ?_
    obtain ⟨r_5, S_6, hr_5, h⟩ := bnd_s h
    refine x_callV E X cwX8_234 (mX8_nextY l Z hQ  x2 hr_5) rfl rfl rfl rfl hl.1 rfl dX8_nextTo_22 (fun H locs X => ?_)
    refine lv_iadd hx hb dX8_nextTo_25 ?_
    obtain ⟨x4_7, ex4_7, h⟩ := lti_s h
    refine lv_nm ex4_7 ?_
    refine lv_istore (lv' := [(4, .int x4_7), (3, .int x3_4), (0, .ref (Z.2.1 0)), (1, .int x1), (2, .int x2)]) hx hb dX8_nextTo_26 hl (by decide) rfl (fun ls hl => ?_)
    refine lv_aload_n hx hb dX8_nextTo_28 rfl (lv_at hl 2 rfl) ?_
    refine lv_iload_n hx hb dX8_nextTo_29 rfl (lv_at hl 1 rfl) ?_
    refine lv_iconst (v := (0 : Int32)) hx hb dX8_nextTo_30 (by decide) ?_
    refine lv_iconst (v := (4 : Int32)) hx hb dX8_nextTo_31 (by decide) ?_
    obtain ⟨r_8, S_9, hr_8, h⟩ := bnd_s h
    refine x_callV E X cwX8_107 (mX8_isIn l Z hQ  x3_4 (0 : Int32) (4 : Int32) hr_8) rfl rfl rfl rfl hl.1 rfl dX8_nextTo_32 (fun H locs X => ?_)
    refine lv_if_eq (tgt := 58) hx hb dX8_nextTo_35 (by decide) (fun c_10 => ?_) (fun c_10 => ?_)
    · have h := if_t c_10 h
      refine lv_iconst (v := (-1 : Int32)) hx hb dX8_nextTo_58 (by decide) ?_
      exact x_iret E X h dX8_nextTo_59
    · have h := if_f c_10 h
      refine lv_aload_n hx hb dX8_nextTo_38 rfl (lv_at hl 2 rfl) ?_
      refine lv_iload hx hb dX8_nextTo_39 (lv_at hl 0 rfl) ?_
      refine lv_iconst (v := (0 : Int32)) hx hb dX8_nextTo_41 (by decide) ?_
      refine lv_iconst (v := (4 : Int32)) hx hb dX8_nextTo_42 (by decide) ?_
      obtain ⟨r_11, S_12, hr_11, h⟩ := bnd_s h
      refine x_callV E X cwX8_107 (mX8_isIn l Z hQ  x4_7 (0 : Int32) (4 : Int32) hr_11) rfl rfl rfl rfl hl.1 rfl dX8_nextTo_43 (fun H locs X => ?_)
      refine lv_if_eq (tgt := 58) hx hb dX8_nextTo_46 (by decide) (fun c_13 => ?_) (fun c_13 => ?_)
      · have h := if_t c_13 h
        refine lv_iconst (v := (-1 : Int32)) hx hb dX8_nextTo_58 (by decide) ?_
        exact x_iret E X h dX8_nextTo_59
      · have h := if_f c_13 h
        refine lv_iconst (v := (5 : Int32)) hx hb dX8_nextTo_49 (by decide) ?_
        refine lv_iload hx hb dX8_nextTo_50 (lv_at hl 0 rfl) ?_
        refine lv_imul hx hb dX8_nextTo_52 ?_
        refine lv_iload_n hx hb dX8_nextTo_53 rfl (lv_at hl 1 rfl) ?_
        refine lv_iadd hx hb dX8_nextTo_54 ?_
        refine lv_goto (tgt := 59) hx hb dX8_nextTo_55 (by decide) ?_
        exact x_iret E X h dX8_nextTo_59
  · have h := if_t c_1 h
    refine lv_iconst (v := (-1 : Int32)) hx hb dX8_nextTo_5 (by decide) ?_
    exact x_iret E X h dX8_nextTo_6
/-- SevenToAShadowModel.nextTo(II)I -/
theorem mX8_nextTo (l : Launch) (Z : XG) (hQ : wQ (List.length mL) Z) {S S' : Mem} {r : Int32} (x1 x2 : Int32) (h : fX8_nextTo S x1 x2 = some (r, S')) : XM l yX8_nextTo cX8_nextTo 5 (some .int) { frames := 1, cells := 0, slots := 0, locals := 23 } mL Z [.ref (Z.2.1 0), .int x1, .int x2] S (XQ mL Z r S') := by
  refine XM.of (own := RX8) (by decide +kernel) rfl rfl hQ (fun p e s m args below meth c E ls hl X => ?_)
  exact wX8_nextTo E S x1 x2 h _ _ _ X hl
def fX8_shadesByParasol_13_b (k0 : Mem → Int32 → Int32 → Int32 → Int32 → Int32 → O) (S : Mem) (x1 x2 x3 x4 x5 : Int32) : O := (if ((4 : Int32) - x3) < x5 then some ((0 : Int32), S) else bnd (fX8_shades S x4 x1) fun _ S_3 => bnd (fX8_nextTo S_3 x4 x2) fun r_4 S_5 => k0 S_5 x1 x2 x3 r_4 (x5 + (1 : Int32)))
def fX8_shadesByParasol_13 : Nat → Mem → Int32 → Int32 → Int32 → Int32 → Int32 → O
  | 0 => fun _ _ _ _ _ _ => none
  | n + 1 => fX8_shadesByParasol_13_b (fX8_shadesByParasol_13 n)
def fX8_shadesByParasol (S : Mem) (x1 x2 x3 : Int32) : O := gd (inB ((5 : Int32) + x1) 55) <| lti (S 1 (((5 : Int32) + x1)).toNatClampNeg) fun x4_2 => fX8_shadesByParasol_13  FU S x1 x2 x3 x4_2 (0 : Int32)
theorem dX8_shadesByParasol_0 : decode cX8_shadesByParasol 0 = .ok (.aload_n 0, 1) := by decide +kernel
theorem dX8_shadesByParasol_1 : decode cX8_shadesByParasol 1 = .ok (.getfield 7, 3) := by decide +kernel
theorem dX8_shadesByParasol_4 : decode cX8_shadesByParasol 4 = .ok (.iconst 5, 1) := by decide +kernel
theorem dX8_shadesByParasol_5 : decode cX8_shadesByParasol 5 = .ok (.iload_n 1, 1) := by decide +kernel
theorem dX8_shadesByParasol_6 : decode cX8_shadesByParasol 6 = .ok (.iadd, 1) := by decide +kernel
theorem dX8_shadesByParasol_7 : decode cX8_shadesByParasol 7 = .ok (.iaload, 1) := by decide +kernel
theorem dX8_shadesByParasol_8 : decode cX8_shadesByParasol 8 = .ok (.istore 4, 2) := by decide +kernel
theorem dX8_shadesByParasol_10 : decode cX8_shadesByParasol 10 = .ok (.iconst 0, 1) := by decide +kernel
theorem dX8_shadesByParasol_11 : decode cX8_shadesByParasol 11 = .ok (.istore 5, 2) := by decide +kernel
theorem dX8_shadesByParasol_13 : decode cX8_shadesByParasol 13 = .ok (.iload 5, 2) := by decide +kernel
theorem dX8_shadesByParasol_15 : decode cX8_shadesByParasol 15 = .ok (.iconst 4, 1) := by decide +kernel
theorem dX8_shadesByParasol_16 : decode cX8_shadesByParasol 16 = .ok (.iload_n 3, 1) := by decide +kernel
theorem dX8_shadesByParasol_17 : decode cX8_shadesByParasol 17 = .ok (.isub, 1) := by decide +kernel
theorem dX8_shadesByParasol_18 : decode cX8_shadesByParasol 18 = .ok (.if_icmp .gt 25, 3) := by decide +kernel
theorem dX8_shadesByParasol_21 : decode cX8_shadesByParasol 21 = .ok (.aload_n 0, 1) := by decide +kernel
theorem dX8_shadesByParasol_22 : decode cX8_shadesByParasol 22 = .ok (.iload 4, 2) := by decide +kernel
theorem dX8_shadesByParasol_24 : decode cX8_shadesByParasol 24 = .ok (.iload_n 1, 1) := by decide +kernel
theorem dX8_shadesByParasol_25 : decode cX8_shadesByParasol 25 = .ok (.invokevirtual 240, 3) := by decide +kernel
theorem dX8_shadesByParasol_28 : decode cX8_shadesByParasol 28 = .ok (.aload_n 0, 1) := by decide +kernel
theorem dX8_shadesByParasol_29 : decode cX8_shadesByParasol 29 = .ok (.iload 4, 2) := by decide +kernel
theorem dX8_shadesByParasol_31 : decode cX8_shadesByParasol 31 = .ok (.iload_n 2, 1) := by decide +kernel
theorem dX8_shadesByParasol_32 : decode cX8_shadesByParasol 32 = .ok (.invokevirtual 243, 3) := by decide +kernel
theorem dX8_shadesByParasol_35 : decode cX8_shadesByParasol 35 = .ok (.istore 4, 2) := by decide +kernel
theorem dX8_shadesByParasol_37 : decode cX8_shadesByParasol 37 = .ok (.iinc 5 1, 3) := by decide +kernel
theorem dX8_shadesByParasol_40 : decode cX8_shadesByParasol 40 = .ok (.goto (-27), 3) := by decide +kernel
theorem dX8_shadesByParasol_43 : decode cX8_shadesByParasol 43 = .ok (.return_, 1) := by decide +kernel
set_option maxRecDepth 20000 in
theorem wX8_shadesByParasol_13_b {p : Program} {l : Launch} {e : Env} {s : State} {m : MethodId} {args : Array Value} {below : List Frame} {meth : Method} {c : Code} {Z : XG} {r : Int32} {S' : Mem} (E : XE p s m args meth c cX8_shadesByParasol 6 RX8 none mL Z) (k0 : Mem → Int32 → Int32 → Int32 → Int32 → Int32 → O)  (hk0 : ∀ (S : Mem) (x1 x2 x3 x4 x5 : Int32), k0 S x1 x2 x3 x4 x5 = some (r, S') → WN p l e { frames := 2, cells := 0, slots := 0, locals := 47 } s m args below meth c mL Z (XV mL Z S') S 13 6 [(0, .ref (Z.2.1 0)), (1, .int x1), (2, .int x2), (3, .int x3), (4, .int x4), (5, .int x5)] []) : ∀ (S : Mem) (x1 x2 x3 x4 x5 : Int32), fX8_shadesByParasol_13_b k0 S x1 x2 x3 x4 x5 = some (r, S') → WN p l e { frames := 2, cells := 0, slots := 0, locals := 47 } s m args below meth c mL Z (XV mL Z S') S 13 6 [(0, .ref (Z.2.1 0)), (1, .int x1), (2, .int x2), (3, .int x3), (4, .int x4), (5, .int x5)] [] := by
  obtain ⟨hx, hb, -, -, -, -, -, -, -, hQ⟩ := id E
  intro S x1 x2 x3 x4 x5 h H locs ls X hl
  unfold fX8_shadesByParasol_13_b at h
  refine lv_iload hx hb dX8_shadesByParasol_13 (lv_at hl 5 rfl) ?_
  refine lv_iconst (v := (4 : Int32)) hx hb dX8_shadesByParasol_15 (by decide) ?_
  refine lv_iload_n hx hb dX8_shadesByParasol_16 rfl (lv_at hl 3 rfl) ?_
  refine lv_isub hx hb dX8_shadesByParasol_17 ?_
  refine lv_icmp_gt (tgt := 43) hx hb dX8_shadesByParasol_18 (by decide) (fun c_1 => ?_) (fun c_1 => ?_)
  · have h := if_t c_1 h
    exact x_vret E X h dX8_shadesByParasol_43
  · have h := if_f c_1 h
    refine lv_aload_n hx hb dX8_shadesByParasol_21 rfl (lv_at hl 0 rfl) ?_
    refine lv_iload hx hb dX8_shadesByParasol_22 (lv_at hl 4 rfl) ?_
    refine lv_iload_n hx hb dX8_shadesByParasol_24 rfl (lv_at hl 1 rfl) ?_
    obtain ⟨r_2, S_3, hr_2, h⟩ := bnd_s h
    refine x_callVv E X cwX8_240 (mX8_shades l Z hQ  x4 x1 hr_2) rfl rfl rfl rfl hl.1 rfl dX8_shadesByParasol_25 (fun H locs X => ?_)
    refine lv_aload_n hx hb dX8_shadesByParasol_28 rfl (lv_at hl 0 rfl) ?_
    refine lv_iload hx hb dX8_shadesByParasol_29 (lv_at hl 4 rfl) ?_
    refine lv_iload_n hx hb dX8_shadesByParasol_31 rfl (lv_at hl 2 rfl) ?_
    obtain ⟨r_4, S_5, hr_4, h⟩ := bnd_s h
    refine x_callV E X cwX8_243 (mX8_nextTo l Z hQ  x4 x2 hr_4) rfl rfl rfl rfl hl.1 rfl dX8_shadesByParasol_32 (fun H locs X => ?_)
    refine lv_istore (lv' := [(4, .int r_4), (0, .ref (Z.2.1 0)), (1, .int x1), (2, .int x2), (3, .int x3), (5, .int x5)]) hx hb dX8_shadesByParasol_35 hl (by decide) rfl (fun ls hl => ?_)
    refine lv_iinc (v := (x5 + (1 : Int32))) (lv' := [(5, .int (x5 + (1 : Int32))), (4, .int r_4), (0, .ref (Z.2.1 0)), (1, .int x1), (2, .int x2), (3, .int x3)]) hx hb dX8_shadesByParasol_37 hl (k := 5) rfl rfl (by decide) rfl (fun ls hl => ?_)
    refine lv_goto (tgt := 13) hx hb dX8_shadesByParasol_40 (by decide) ?_
    exact hk0 S_5 x1 x2 x3 r_4 (x5 + (1 : Int32)) h _ _ _ X (lv_sub hl [2, 3, 4, 5, 1, 0] rfl)
theorem wX8_shadesByParasol_13 {p : Program} {l : Launch} {e : Env} {s : State} {m : MethodId} {args : Array Value} {below : List Frame} {meth : Method} {c : Code} {Z : XG} {r : Int32} {S' : Mem} (E : XE p s m args meth c cX8_shadesByParasol 6 RX8 none mL Z) : ∀ (n : Nat) (S : Mem) (x1 x2 x3 x4 x5 : Int32), fX8_shadesByParasol_13 n S x1 x2 x3 x4 x5 = some (r, S') → WN p l e { frames := 2, cells := 0, slots := 0, locals := 47 } s m args below meth c mL Z (XV mL Z S') S 13 6 [(0, .ref (Z.2.1 0)), (1, .int x1), (2, .int x2), (3, .int x3), (4, .int x4), (5, .int x5)] [] := by
  intro n
  induction n with
  | zero => intro S x1 x2 x3 x4 x5 h; exact absurd (show (none : O) = some _ from h) (by simp)
  | succ n ih => intro S x1 x2 x3 x4 x5 h; exact wX8_shadesByParasol_13_b E (fX8_shadesByParasol_13 n) ih S x1 x2 x3 x4 x5 h
set_option maxRecDepth 20000 in
theorem wX8_shadesByParasol {p : Program} {l : Launch} {e : Env} {s : State} {m : MethodId} {args : Array Value} {below : List Frame} {meth : Method} {c : Code} {Z : XG} {r : Int32} {S' : Mem} (E : XE p s m args meth c cX8_shadesByParasol 6 RX8 none mL Z) : ∀ (S : Mem) (x1 x2 x3 : Int32), fX8_shadesByParasol  S x1 x2 x3 = some (r, S') → WN p l e { frames := 2, cells := 0, slots := 0, locals := 47 } s m args below meth c mL Z (XV mL Z S') S 0 6 [(0, .ref (Z.2.1 0)), (1, .int x1), (2, .int x2), (3, .int x3)] [] := by
  obtain ⟨hx, hb, -, -, -, -, -, -, -, hQ⟩ := id E
  intro S x1 x2 x3 h H locs ls X hl
  unfold fX8_shadesByParasol at h
  refine lv_aload_n hx hb dX8_shadesByParasol_0 rfl (lv_at hl 0 rfl) ?_
  refine x_getr E X ffX8_7 rfl rfl dX8_shadesByParasol_1 ?_
  refine lv_iconst (v := (5 : Int32)) hx hb dX8_shadesByParasol_4 (by decide) ?_
  refine lv_iload_n hx hb dX8_shadesByParasol_5 rfl (lv_at hl 1 rfl) ?_
  refine lv_iadd hx hb dX8_shadesByParasol_6 ?_
  obtain ⟨g_1, h⟩ := gd_s h
  refine x_iald E X rfl g_1 dX8_shadesByParasol_7 ?_
  obtain ⟨x4_2, ex4_2, h⟩ := lti_s h
  refine lv_nm ex4_2 ?_
  refine lv_istore (lv' := [(4, .int x4_2), (0, .ref (Z.2.1 0)), (1, .int x1), (2, .int x2), (3, .int x3)]) hx hb dX8_shadesByParasol_8 hl (by decide) rfl (fun ls hl => ?_)
  refine lv_iconst (v := (0 : Int32)) hx hb dX8_shadesByParasol_10 (by decide) ?_
  refine lv_istore (lv' := [(5, .int (0 : Int32)), (4, .int x4_2), (0, .ref (Z.2.1 0)), (1, .int x1), (2, .int x2), (3, .int x3)]) hx hb dX8_shadesByParasol_11 hl (by decide) rfl (fun ls hl => ?_)
  exact wX8_shadesByParasol_13 E   FU S x1 x2 x3 x4_2 (0 : Int32) h _ _ _ X (lv_sub hl [2, 3, 4, 5, 1, 0] rfl)
/-- SevenToAShadowModel.shadesByParasol(III)V -/
theorem mX8_shadesByParasol (l : Launch) (Z : XG) (hQ : wQ (List.length mL) Z) {S S' : Mem} {r : Int32} (x1 x2 x3 : Int32) (h : fX8_shadesByParasol S x1 x2 x3 = some (r, S')) : XM l yX8_shadesByParasol cX8_shadesByParasol 6 none { frames := 2, cells := 0, slots := 0, locals := 47 } mL Z [.ref (Z.2.1 0), .int x1, .int x2, .int x3] S (XV mL Z S') := by
  refine XM.of (own := RX8) (by decide +kernel) rfl rfl hQ (fun p e s m args below meth c E ls hl X => ?_)
  exact wX8_shadesByParasol E S x1 x2 x3 h _ _ _ X hl
def fX8_shadesByHimself_26 (S : Mem) (x1 x2 s0 s1 : Int32) : O := (if s0 ≤ s1 then gd (inB ((5 : Int32) + x1) 55) <| bnd (fX8_nextTo S (S 1 (((5 : Int32) + x1)).toNatClampNeg) x2) fun r_3 S_4 => bnd (fX8_shades S_4 r_3 x1) fun _ S_6 => gd (inB x1 10) <| (if (S_6 6 (x1).toNatClampNeg) = (1 : Int32) then some ((0 : Int32), S_6) else bnd (fX8_nextTo S_6 r_3 (irem (x2 + (2 : Int32)) (8 : Int32))) fun r_9 S_10 => bnd (fX8_shades S_10 r_9 x1) fun _ S_12 => bnd (fX8_nextTo S_12 r_3 (irem (x2 + (6 : Int32)) (8 : Int32))) fun r_13 S_14 => bnd (fX8_shades S_14 r_13 x1) fun _ S_16 => some ((0 : Int32), S_16)) else some ((0 : Int32), S))
def fX8_shadesByHimself (S : Mem) (x1 x2 x3 : Int32) : O := gd (inB x1 10) <| (if (S 5 (x1).toNatClampNeg) < (5 : Int32) then some ((0 : Int32), S) else gd (inB x1 10) <| (if (S 6 (x1).toNatClampNeg) = (3 : Int32) then fX8_shadesByHimself_26  S x1 x2 x3 (3 : Int32) else fX8_shadesByHimself_26  S x1 x2 x3 (2 : Int32)))
theorem dX8_shadesByHimself_0 : decode cX8_shadesByHimself 0 = .ok (.aload_n 0, 1) := by decide +kernel
theorem dX8_shadesByHimself_1 : decode cX8_shadesByHimself 1 = .ok (.getfield 22, 3) := by decide +kernel
theorem dX8_shadesByHimself_4 : decode cX8_shadesByHimself 4 = .ok (.iload_n 1, 1) := by decide +kernel
theorem dX8_shadesByHimself_5 : decode cX8_shadesByHimself 5 = .ok (.iaload, 1) := by decide +kernel
theorem dX8_shadesByHimself_6 : decode cX8_shadesByHimself 6 = .ok (.iconst 5, 1) := by decide +kernel
theorem dX8_shadesByHimself_7 : decode cX8_shadesByHimself 7 = .ok (.if_icmp .lt 22, 3) := by decide +kernel
theorem dX8_shadesByHimself_10 : decode cX8_shadesByHimself 10 = .ok (.iload_n 3, 1) := by decide +kernel
theorem dX8_shadesByHimself_11 : decode cX8_shadesByHimself 11 = .ok (.aload_n 0, 1) := by decide +kernel
theorem dX8_shadesByHimself_12 : decode cX8_shadesByHimself 12 = .ok (.getfield 25, 3) := by decide +kernel
theorem dX8_shadesByHimself_15 : decode cX8_shadesByHimself 15 = .ok (.iload_n 1, 1) := by decide +kernel
theorem dX8_shadesByHimself_16 : decode cX8_shadesByHimself 16 = .ok (.iaload, 1) := by decide +kernel
theorem dX8_shadesByHimself_17 : decode cX8_shadesByHimself 17 = .ok (.iconst 3, 1) := by decide +kernel
theorem dX8_shadesByHimself_18 : decode cX8_shadesByHimself 18 = .ok (.if_icmp .ne 7, 3) := by decide +kernel
theorem dX8_shadesByHimself_21 : decode cX8_shadesByHimself 21 = .ok (.iconst 3, 1) := by decide +kernel
theorem dX8_shadesByHimself_22 : decode cX8_shadesByHimself 22 = .ok (.goto 4, 3) := by decide +kernel
theorem dX8_shadesByHimself_25 : decode cX8_shadesByHimself 25 = .ok (.iconst 2, 1) := by decide +kernel
theorem dX8_shadesByHimself_26 : decode cX8_shadesByHimself 26 = .ok (.if_icmp .le 4, 3) := by decide +kernel
theorem dX8_shadesByHimself_29 : decode cX8_shadesByHimself 29 = .ok (.return_, 1) := by decide +kernel
theorem dX8_shadesByHimself_30 : decode cX8_shadesByHimself 30 = .ok (.aload_n 0, 1) := by decide +kernel
theorem dX8_shadesByHimself_31 : decode cX8_shadesByHimself 31 = .ok (.aload_n 0, 1) := by decide +kernel
theorem dX8_shadesByHimself_32 : decode cX8_shadesByHimself 32 = .ok (.getfield 7, 3) := by decide +kernel
theorem dX8_shadesByHimself_35 : decode cX8_shadesByHimself 35 = .ok (.iconst 5, 1) := by decide +kernel
theorem dX8_shadesByHimself_36 : decode cX8_shadesByHimself 36 = .ok (.iload_n 1, 1) := by decide +kernel
theorem dX8_shadesByHimself_37 : decode cX8_shadesByHimself 37 = .ok (.iadd, 1) := by decide +kernel
theorem dX8_shadesByHimself_38 : decode cX8_shadesByHimself 38 = .ok (.iaload, 1) := by decide +kernel
theorem dX8_shadesByHimself_39 : decode cX8_shadesByHimself 39 = .ok (.iload_n 2, 1) := by decide +kernel
theorem dX8_shadesByHimself_40 : decode cX8_shadesByHimself 40 = .ok (.invokevirtual 243, 3) := by decide +kernel
theorem dX8_shadesByHimself_43 : decode cX8_shadesByHimself 43 = .ok (.istore 4, 2) := by decide +kernel
theorem dX8_shadesByHimself_45 : decode cX8_shadesByHimself 45 = .ok (.aload_n 0, 1) := by decide +kernel
theorem dX8_shadesByHimself_46 : decode cX8_shadesByHimself 46 = .ok (.iload 4, 2) := by decide +kernel
theorem dX8_shadesByHimself_48 : decode cX8_shadesByHimself 48 = .ok (.iload_n 1, 1) := by decide +kernel
theorem dX8_shadesByHimself_49 : decode cX8_shadesByHimself 49 = .ok (.invokevirtual 240, 3) := by decide +kernel
theorem dX8_shadesByHimself_52 : decode cX8_shadesByHimself 52 = .ok (.aload_n 0, 1) := by decide +kernel
theorem dX8_shadesByHimself_53 : decode cX8_shadesByHimself 53 = .ok (.getfield 25, 3) := by decide +kernel
theorem dX8_shadesByHimself_56 : decode cX8_shadesByHimself 56 = .ok (.iload_n 1, 1) := by decide +kernel
theorem dX8_shadesByHimself_57 : decode cX8_shadesByHimself 57 = .ok (.iaload, 1) := by decide +kernel
theorem dX8_shadesByHimself_58 : decode cX8_shadesByHimself 58 = .ok (.iconst 1, 1) := by decide +kernel
theorem dX8_shadesByHimself_59 : decode cX8_shadesByHimself 59 = .ok (.if_icmp .ne 4, 3) := by decide +kernel
theorem dX8_shadesByHimself_62 : decode cX8_shadesByHimself 62 = .ok (.return_, 1) := by decide +kernel
theorem dX8_shadesByHimself_63 : decode cX8_shadesByHimself 63 = .ok (.aload_n 0, 1) := by decide +kernel
theorem dX8_shadesByHimself_64 : decode cX8_shadesByHimself 64 = .ok (.aload_n 0, 1) := by decide +kernel
theorem dX8_shadesByHimself_65 : decode cX8_shadesByHimself 65 = .ok (.iload 4, 2) := by decide +kernel
theorem dX8_shadesByHimself_67 : decode cX8_shadesByHimself 67 = .ok (.iload_n 2, 1) := by decide +kernel
theorem dX8_shadesByHimself_68 : decode cX8_shadesByHimself 68 = .ok (.iconst 2, 1) := by decide +kernel
theorem dX8_shadesByHimself_69 : decode cX8_shadesByHimself 69 = .ok (.iadd, 1) := by decide +kernel
theorem dX8_shadesByHimself_70 : decode cX8_shadesByHimself 70 = .ok (.bipush 8, 2) := by decide +kernel
theorem dX8_shadesByHimself_72 : decode cX8_shadesByHimself 72 = .ok (.irem, 1) := by decide +kernel
theorem dX8_shadesByHimself_73 : decode cX8_shadesByHimself 73 = .ok (.invokevirtual 243, 3) := by decide +kernel
theorem dX8_shadesByHimself_76 : decode cX8_shadesByHimself 76 = .ok (.iload_n 1, 1) := by decide +kernel
theorem dX8_shadesByHimself_77 : decode cX8_shadesByHimself 77 = .ok (.invokevirtual 240, 3) := by decide +kernel
theorem dX8_shadesByHimself_80 : decode cX8_shadesByHimself 80 = .ok (.aload_n 0, 1) := by decide +kernel
theorem dX8_shadesByHimself_81 : decode cX8_shadesByHimself 81 = .ok (.aload_n 0, 1) := by decide +kernel
theorem dX8_shadesByHimself_82 : decode cX8_shadesByHimself 82 = .ok (.iload 4, 2) := by decide +kernel
theorem dX8_shadesByHimself_84 : decode cX8_shadesByHimself 84 = .ok (.iload_n 2, 1) := by decide +kernel
theorem dX8_shadesByHimself_85 : decode cX8_shadesByHimself 85 = .ok (.bipush 6, 2) := by decide +kernel
theorem dX8_shadesByHimself_87 : decode cX8_shadesByHimself 87 = .ok (.iadd, 1) := by decide +kernel
theorem dX8_shadesByHimself_88 : decode cX8_shadesByHimself 88 = .ok (.bipush 8, 2) := by decide +kernel
theorem dX8_shadesByHimself_90 : decode cX8_shadesByHimself 90 = .ok (.irem, 1) := by decide +kernel
theorem dX8_shadesByHimself_91 : decode cX8_shadesByHimself 91 = .ok (.invokevirtual 243, 3) := by decide +kernel
theorem dX8_shadesByHimself_94 : decode cX8_shadesByHimself 94 = .ok (.iload_n 1, 1) := by decide +kernel
theorem dX8_shadesByHimself_95 : decode cX8_shadesByHimself 95 = .ok (.invokevirtual 240, 3) := by decide +kernel
theorem dX8_shadesByHimself_98 : decode cX8_shadesByHimself 98 = .ok (.return_, 1) := by decide +kernel
set_option maxRecDepth 20000 in
theorem wX8_shadesByHimself_26 {p : Program} {l : Launch} {e : Env} {s : State} {m : MethodId} {args : Array Value} {below : List Frame} {meth : Method} {c : Code} {Z : XG} {r : Int32} {S' : Mem} (E : XE p s m args meth c cX8_shadesByHimself 5 RX8 none mL Z) : ∀ (S : Mem) (x1 x2 s0 s1 : Int32), fX8_shadesByHimself_26  S x1 x2 s0 s1 = some (r, S') → WN p l e { frames := 2, cells := 0, slots := 0, locals := 47 } s m args below meth c mL Z (XV mL Z S') S 26 5 [(0, .ref (Z.2.1 0)), (1, .int x1), (2, .int x2)] [.int s1, .int s0] := by
  obtain ⟨hx, hb, -, -, -, -, -, -, -, hQ⟩ := id E
  intro S x1 x2 s0 s1 h H locs ls X hl
  unfold fX8_shadesByHimself_26 at h
  refine lv_icmp_le (tgt := 30) hx hb dX8_shadesByHimself_26 (by decide) (fun c_1 => ?_) (fun c_1 => ?_)
  · have h := if_t c_1 h
    refine lv_aload_n hx hb dX8_shadesByHimself_30 rfl (lv_at hl 0 rfl) ?_
    refine lv_aload_n hx hb dX8_shadesByHimself_31 rfl (lv_at hl 0 rfl) ?_
    refine x_getr E X ffX8_7 rfl rfl dX8_shadesByHimself_32 ?_
    refine lv_iconst (v := (5 : Int32)) hx hb dX8_shadesByHimself_35 (by decide) ?_
    refine lv_iload_n hx hb dX8_shadesByHimself_36 rfl (lv_at hl 1 rfl) ?_
    refine lv_iadd hx hb dX8_shadesByHimself_37 ?_
    obtain ⟨g_2, h⟩ := gd_s h
    refine x_iald E X rfl g_2 dX8_shadesByHimself_38 ?_
    refine lv_iload_n hx hb dX8_shadesByHimself_39 rfl (lv_at hl 2 rfl) ?_
    obtain ⟨r_3, S_4, hr_3, h⟩ := bnd_s h
    refine x_callV E X cwX8_243 (mX8_nextTo l Z hQ  (S 1 (((5 : Int32) + x1)).toNatClampNeg) x2 hr_3) rfl rfl rfl rfl hl.1 rfl dX8_shadesByHimself_40 (fun H locs X => ?_)
    refine lv_istore (lv' := [(4, .int r_3), (0, .ref (Z.2.1 0)), (1, .int x1), (2, .int x2)]) hx hb dX8_shadesByHimself_43 hl (by decide) rfl (fun ls hl => ?_)
    refine lv_aload_n hx hb dX8_shadesByHimself_45 rfl (lv_at hl 1 rfl) ?_
    refine lv_iload hx hb dX8_shadesByHimself_46 (lv_at hl 0 rfl) ?_
    refine lv_iload_n hx hb dX8_shadesByHimself_48 rfl (lv_at hl 2 rfl) ?_
    obtain ⟨r_5, S_6, hr_5, h⟩ := bnd_s h
    refine x_callVv E X cwX8_240 (mX8_shades l Z hQ  r_3 x1 hr_5) rfl rfl rfl rfl hl.1 rfl dX8_shadesByHimself_49 (fun H locs X => ?_)
    refine lv_aload_n hx hb dX8_shadesByHimself_52 rfl (lv_at hl 1 rfl) ?_
    refine x_getr E X ffX8_25 rfl rfl dX8_shadesByHimself_53 ?_
    refine lv_iload_n hx hb dX8_shadesByHimself_56 rfl (lv_at hl 2 rfl) ?_
    obtain ⟨g_7, h⟩ := gd_s h
    refine x_iald E X rfl g_7 dX8_shadesByHimself_57 ?_
    refine lv_iconst (v := (1 : Int32)) hx hb dX8_shadesByHimself_58 (by decide) ?_
    refine lv_icmp_ne (tgt := 63) hx hb dX8_shadesByHimself_59 (by decide) (fun c_8 => ?_) (fun c_8 => ?_)
    · have h := if_f c_8 h
      refine lv_aload_n hx hb dX8_shadesByHimself_63 rfl (lv_at hl 1 rfl) ?_
      refine lv_aload_n hx hb dX8_shadesByHimself_64 rfl (lv_at hl 1 rfl) ?_
      refine lv_iload hx hb dX8_shadesByHimself_65 (lv_at hl 0 rfl) ?_
      refine lv_iload_n hx hb dX8_shadesByHimself_67 rfl (lv_at hl 3 rfl) ?_
      refine lv_iconst (v := (2 : Int32)) hx hb dX8_shadesByHimself_68 (by decide) ?_
      refine lv_iadd hx hb dX8_shadesByHimself_69 ?_
      refine lv_bipush (v := (8 : Int32)) hx hb dX8_shadesByHimself_70 (by decide) ?_
      refine lv_irem hx hb dX8_shadesByHimself_72 (by decide) ?_
      refine lv_nm (y := (irem (x2 + (2 : Int32)) (8 : Int32))) rfl ?_
      obtain ⟨r_9, S_10, hr_9, h⟩ := bnd_s h
      refine x_callV E X cwX8_243 (mX8_nextTo l Z hQ  r_3 (irem (x2 + (2 : Int32)) (8 : Int32)) hr_9) rfl rfl rfl rfl hl.1 rfl dX8_shadesByHimself_73 (fun H locs X => ?_)
      refine lv_iload_n hx hb dX8_shadesByHimself_76 rfl (lv_at hl 2 rfl) ?_
      obtain ⟨r_11, S_12, hr_11, h⟩ := bnd_s h
      refine x_callVv E X cwX8_240 (mX8_shades l Z hQ  r_9 x1 hr_11) rfl rfl rfl rfl hl.1 rfl dX8_shadesByHimself_77 (fun H locs X => ?_)
      refine lv_aload_n hx hb dX8_shadesByHimself_80 rfl (lv_at hl 1 rfl) ?_
      refine lv_aload_n hx hb dX8_shadesByHimself_81 rfl (lv_at hl 1 rfl) ?_
      refine lv_iload hx hb dX8_shadesByHimself_82 (lv_at hl 0 rfl) ?_
      refine lv_iload_n hx hb dX8_shadesByHimself_84 rfl (lv_at hl 3 rfl) ?_
      refine lv_bipush (v := (6 : Int32)) hx hb dX8_shadesByHimself_85 (by decide) ?_
      refine lv_iadd hx hb dX8_shadesByHimself_87 ?_
      refine lv_bipush (v := (8 : Int32)) hx hb dX8_shadesByHimself_88 (by decide) ?_
      refine lv_irem hx hb dX8_shadesByHimself_90 (by decide) ?_
      refine lv_nm (y := (irem (x2 + (6 : Int32)) (8 : Int32))) rfl ?_
      obtain ⟨r_13, S_14, hr_13, h⟩ := bnd_s h
      refine x_callV E X cwX8_243 (mX8_nextTo l Z hQ  r_3 (irem (x2 + (6 : Int32)) (8 : Int32)) hr_13) rfl rfl rfl rfl hl.1 rfl dX8_shadesByHimself_91 (fun H locs X => ?_)
      refine lv_iload_n hx hb dX8_shadesByHimself_94 rfl (lv_at hl 2 rfl) ?_
      obtain ⟨r_15, S_16, hr_15, h⟩ := bnd_s h
      refine x_callVv E X cwX8_240 (mX8_shades l Z hQ  r_13 x1 hr_15) rfl rfl rfl rfl hl.1 rfl dX8_shadesByHimself_95 (fun H locs X => ?_)
      exact x_vret E X h dX8_shadesByHimself_98
    · have h := if_t c_8 h
      exact x_vret E X h dX8_shadesByHimself_62
  · have h := if_f c_1 h
    exact x_vret E X h dX8_shadesByHimself_29
set_option maxRecDepth 20000 in
theorem wX8_shadesByHimself {p : Program} {l : Launch} {e : Env} {s : State} {m : MethodId} {args : Array Value} {below : List Frame} {meth : Method} {c : Code} {Z : XG} {r : Int32} {S' : Mem} (E : XE p s m args meth c cX8_shadesByHimself 5 RX8 none mL Z) : ∀ (S : Mem) (x1 x2 x3 : Int32), fX8_shadesByHimself  S x1 x2 x3 = some (r, S') → WN p l e { frames := 2, cells := 0, slots := 0, locals := 47 } s m args below meth c mL Z (XV mL Z S') S 0 5 [(0, .ref (Z.2.1 0)), (1, .int x1), (2, .int x2), (3, .int x3)] [] := by
  obtain ⟨hx, hb, -, -, -, -, -, -, -, hQ⟩ := id E
  intro S x1 x2 x3 h H locs ls X hl
  unfold fX8_shadesByHimself at h
  refine lv_aload_n hx hb dX8_shadesByHimself_0 rfl (lv_at hl 0 rfl) ?_
  refine x_getr E X ffX8_22 rfl rfl dX8_shadesByHimself_1 ?_
  refine lv_iload_n hx hb dX8_shadesByHimself_4 rfl (lv_at hl 1 rfl) ?_
  obtain ⟨g_1, h⟩ := gd_s h
  refine x_iald E X rfl g_1 dX8_shadesByHimself_5 ?_
  refine lv_iconst (v := (5 : Int32)) hx hb dX8_shadesByHimself_6 (by decide) ?_
  refine lv_icmp_lt (tgt := 29) hx hb dX8_shadesByHimself_7 (by decide) (fun c_2 => ?_) (fun c_2 => ?_)
  · have h := if_t c_2 h
    exact x_vret E X h dX8_shadesByHimself_29
  · have h := if_f c_2 h
    refine lv_iload_n hx hb dX8_shadesByHimself_10 rfl (lv_at hl 3 rfl) ?_
    refine lv_aload_n hx hb dX8_shadesByHimself_11 rfl (lv_at hl 0 rfl) ?_
    refine x_getr E X ffX8_25 rfl rfl dX8_shadesByHimself_12 ?_
    refine lv_iload_n hx hb dX8_shadesByHimself_15 rfl (lv_at hl 1 rfl) ?_
    obtain ⟨g_3, h⟩ := gd_s h
    refine x_iald E X rfl g_3 dX8_shadesByHimself_16 ?_
    refine lv_iconst (v := (3 : Int32)) hx hb dX8_shadesByHimself_17 (by decide) ?_
    refine lv_icmp_ne (tgt := 25) hx hb dX8_shadesByHimself_18 (by decide) (fun c_4 => ?_) (fun c_4 => ?_)
    · have h := if_f c_4 h
      refine lv_iconst (v := (2 : Int32)) hx hb dX8_shadesByHimself_25 (by decide) ?_
      exact wX8_shadesByHimself_26 E   S x1 x2 x3 (2 : Int32) h _ _ _ X (lv_sub hl [0, 1, 2] rfl)
    · have h := if_t c_4 h
      refine lv_iconst (v := (3 : Int32)) hx hb dX8_shadesByHimself_21 (by decide) ?_
      refine lv_goto (tgt := 26) hx hb dX8_shadesByHimself_22 (by decide) ?_
      exact wX8_shadesByHimself_26 E   S x1 x2 x3 (3 : Int32) h _ _ _ X (lv_sub hl [0, 1, 2] rfl)
/-- SevenToAShadowModel.shadesByHimself(III)V -/
theorem mX8_shadesByHimself (l : Launch) (Z : XG) (hQ : wQ (List.length mL) Z) {S S' : Mem} {r : Int32} (x1 x2 x3 : Int32) (h : fX8_shadesByHimself S x1 x2 x3 = some (r, S')) : XM l yX8_shadesByHimself cX8_shadesByHimself 5 none { frames := 2, cells := 0, slots := 0, locals := 47 } mL Z [.ref (Z.2.1 0), .int x1, .int x2, .int x3] S (XV mL Z S') := by
  refine XM.of (own := RX8) (by decide +kernel) rfl rfl hQ (fun p e s m args below meth c E ls hl X => ?_)
  exact wX8_shadesByHimself E S x1 x2 x3 h _ _ _ X hl
def fX8_findsShade_103 (k0 : Mem → Int32 → Int32 → Int32 → Int32 → Int32 → O) (S : Mem) (x3 x4 x5 x6 x7 : Int32) : O := k0 S x3 x4 x5 x6 (x7 + (1 : Int32))
def fX8_findsShade_88 (k0 : Mem → Int32 → Int32 → Int32 → Int32 → Int32 → O) (S : Mem) (x3 x4 x5 x6 x7 : Int32) : O := (if x4 = 0 then fX8_findsShade_103 k0 S x3 x4 x5 x6 x7 else bnd (fX8_shadesByHimself S x7 x5 x6) fun _ S_3 => fX8_findsShade_103 k0 S_3 x3 x4 x5 x6 x7)
def fX8_findsShade_59_b (k0 : Mem → Int32 → Int32 → Int32 → Int32 → Int32 → O) (S : Mem) (x3 x4 x5 x6 x7 : Int32) : O := (if (S 0 6) ≤ x7 then some ((0 : Int32), S) else (if ((x3 >>> (x7 &&& 31)) &&& (1 : Int32)) = (1 : Int32) then bnd (fX8_shadesByParasol S x7 x5 x6) fun _ S_4 => fX8_findsShade_88 k0 S_4 x3 x4 x5 x6 x7 else fX8_findsShade_88 k0 S x3 x4 x5 x6 x7))
def fX8_findsShade_59 : Nat → Mem → Int32 → Int32 → Int32 → Int32 → Int32 → O
  | 0 => fun _ _ _ _ _ _ => none
  | n + 1 => fX8_findsShade_59_b (fX8_findsShade_59 n)
def fX8_findsShade_3_b (k0 : Mem → Int32 → Int32 → Int32 → Int32 → Int32 → O) (S : Mem) (x1 x2 x3 x4 x5 : Int32) : O := (if (25 : Int32) ≤ x5 then gd (inB (((5 : Int32) * x1) + (0 : Int32)) 60) <| lti (irem (((S 3 ((((5 : Int32) * x1) + (0 : Int32))).toNatClampNeg) + (12 : Int32)) - x2) (8 : Int32)) fun x5_3 => gd (inB (((5 : Int32) * x1) + (1 : Int32)) 60) <| lti (S 3 ((((5 : Int32) * x1) + (1 : Int32))).toNatClampNeg) fun x6_5 => fX8_findsShade_59  FU S x3 x4 x5_3 x6_5 (0 : Int32) else gd (inB x5 25) <| ltm (mset S 21 (x5).toNatClampNeg (0 : Int32)) fun S_7 => k0 S_7 x1 x2 x3 x4 (x5 + (1 : Int32)))
def fX8_findsShade_3 : Nat → Mem → Int32 → Int32 → Int32 → Int32 → Int32 → O
  | 0 => fun _ _ _ _ _ _ => none
  | n + 1 => fX8_findsShade_3_b (fX8_findsShade_3 n)
def fX8_findsShade (S : Mem) (x1 x2 x3 x4 : Int32) : O := fX8_findsShade_3  FU S x1 x2 x3 x4 (0 : Int32)
theorem dX8_findsShade_0 : decode cX8_findsShade 0 = .ok (.iconst 0, 1) := by decide +kernel
theorem dX8_findsShade_1 : decode cX8_findsShade 1 = .ok (.istore 5, 2) := by decide +kernel
theorem dX8_findsShade_3 : decode cX8_findsShade 3 = .ok (.iload 5, 2) := by decide +kernel
theorem dX8_findsShade_5 : decode cX8_findsShade 5 = .ok (.bipush 25, 2) := by decide +kernel
theorem dX8_findsShade_7 : decode cX8_findsShade 7 = .ok (.if_icmp .ge 17, 3) := by decide +kernel
theorem dX8_findsShade_10 : decode cX8_findsShade 10 = .ok (.aload_n 0, 1) := by decide +kernel
theorem dX8_findsShade_11 : decode cX8_findsShade 11 = .ok (.getfield 74, 3) := by decide +kernel
theorem dX8_findsShade_14 : decode cX8_findsShade 14 = .ok (.iload 5, 2) := by decide +kernel
theorem dX8_findsShade_16 : decode cX8_findsShade 16 = .ok (.iconst 0, 1) := by decide +kernel
theorem dX8_findsShade_17 : decode cX8_findsShade 17 = .ok (.iastore, 1) := by decide +kernel
theorem dX8_findsShade_18 : decode cX8_findsShade 18 = .ok (.iinc 5 1, 3) := by decide +kernel
theorem dX8_findsShade_21 : decode cX8_findsShade 21 = .ok (.goto (-18), 3) := by decide +kernel
theorem dX8_findsShade_24 : decode cX8_findsShade 24 = .ok (.aload_n 0, 1) := by decide +kernel
theorem dX8_findsShade_25 : decode cX8_findsShade 25 = .ok (.getfield 16, 3) := by decide +kernel
theorem dX8_findsShade_28 : decode cX8_findsShade 28 = .ok (.iconst 5, 1) := by decide +kernel
theorem dX8_findsShade_29 : decode cX8_findsShade 29 = .ok (.iload_n 1, 1) := by decide +kernel
theorem dX8_findsShade_30 : decode cX8_findsShade 30 = .ok (.imul, 1) := by decide +kernel
theorem dX8_findsShade_31 : decode cX8_findsShade 31 = .ok (.iconst 0, 1) := by decide +kernel
theorem dX8_findsShade_32 : decode cX8_findsShade 32 = .ok (.iadd, 1) := by decide +kernel
theorem dX8_findsShade_33 : decode cX8_findsShade 33 = .ok (.iaload, 1) := by decide +kernel
theorem dX8_findsShade_34 : decode cX8_findsShade 34 = .ok (.bipush 12, 2) := by decide +kernel
theorem dX8_findsShade_36 : decode cX8_findsShade 36 = .ok (.iadd, 1) := by decide +kernel
theorem dX8_findsShade_37 : decode cX8_findsShade 37 = .ok (.iload_n 2, 1) := by decide +kernel
theorem dX8_findsShade_38 : decode cX8_findsShade 38 = .ok (.isub, 1) := by decide +kernel
theorem dX8_findsShade_39 : decode cX8_findsShade 39 = .ok (.bipush 8, 2) := by decide +kernel
theorem dX8_findsShade_41 : decode cX8_findsShade 41 = .ok (.irem, 1) := by decide +kernel
theorem dX8_findsShade_42 : decode cX8_findsShade 42 = .ok (.istore 5, 2) := by decide +kernel
theorem dX8_findsShade_44 : decode cX8_findsShade 44 = .ok (.aload_n 0, 1) := by decide +kernel
theorem dX8_findsShade_45 : decode cX8_findsShade 45 = .ok (.getfield 16, 3) := by decide +kernel
theorem dX8_findsShade_48 : decode cX8_findsShade 48 = .ok (.iconst 5, 1) := by decide +kernel
theorem dX8_findsShade_49 : decode cX8_findsShade 49 = .ok (.iload_n 1, 1) := by decide +kernel
theorem dX8_findsShade_50 : decode cX8_findsShade 50 = .ok (.imul, 1) := by decide +kernel
theorem dX8_findsShade_51 : decode cX8_findsShade 51 = .ok (.iconst 1, 1) := by decide +kernel
theorem dX8_findsShade_52 : decode cX8_findsShade 52 = .ok (.iadd, 1) := by decide +kernel
theorem dX8_findsShade_53 : decode cX8_findsShade 53 = .ok (.iaload, 1) := by decide +kernel
theorem dX8_findsShade_54 : decode cX8_findsShade 54 = .ok (.istore 6, 2) := by decide +kernel
theorem dX8_findsShade_56 : decode cX8_findsShade 56 = .ok (.iconst 0, 1) := by decide +kernel
theorem dX8_findsShade_57 : decode cX8_findsShade 57 = .ok (.istore 7, 2) := by decide +kernel
theorem dX8_findsShade_59 : decode cX8_findsShade 59 = .ok (.iload 7, 2) := by decide +kernel
theorem dX8_findsShade_61 : decode cX8_findsShade 61 = .ok (.aload_n 0, 1) := by decide +kernel
theorem dX8_findsShade_62 : decode cX8_findsShade 62 = .ok (.getfield 100, 3) := by decide +kernel
theorem dX8_findsShade_65 : decode cX8_findsShade 65 = .ok (.if_icmp .ge 44, 3) := by decide +kernel
theorem dX8_findsShade_68 : decode cX8_findsShade 68 = .ok (.iload_n 3, 1) := by decide +kernel
theorem dX8_findsShade_69 : decode cX8_findsShade 69 = .ok (.iload 7, 2) := by decide +kernel
theorem dX8_findsShade_71 : decode cX8_findsShade 71 = .ok (.ishr, 1) := by decide +kernel
theorem dX8_findsShade_72 : decode cX8_findsShade 72 = .ok (.iconst 1, 1) := by decide +kernel
theorem dX8_findsShade_73 : decode cX8_findsShade 73 = .ok (.iand, 1) := by decide +kernel
theorem dX8_findsShade_74 : decode cX8_findsShade 74 = .ok (.iconst 1, 1) := by decide +kernel
theorem dX8_findsShade_75 : decode cX8_findsShade 75 = .ok (.if_icmp .ne 13, 3) := by decide +kernel
theorem dX8_findsShade_78 : decode cX8_findsShade 78 = .ok (.aload_n 0, 1) := by decide +kernel
theorem dX8_findsShade_79 : decode cX8_findsShade 79 = .ok (.iload 7, 2) := by decide +kernel
theorem dX8_findsShade_81 : decode cX8_findsShade 81 = .ok (.iload 5, 2) := by decide +kernel
theorem dX8_findsShade_83 : decode cX8_findsShade 83 = .ok (.iload 6, 2) := by decide +kernel
theorem dX8_findsShade_85 : decode cX8_findsShade 85 = .ok (.invokevirtual 246, 3) := by decide +kernel
theorem dX8_findsShade_88 : decode cX8_findsShade 88 = .ok (.iload 4, 2) := by decide +kernel
theorem dX8_findsShade_90 : decode cX8_findsShade 90 = .ok (.ifCond .eq 13, 3) := by decide +kernel
theorem dX8_findsShade_93 : decode cX8_findsShade 93 = .ok (.aload_n 0, 1) := by decide +kernel
theorem dX8_findsShade_94 : decode cX8_findsShade 94 = .ok (.iload 7, 2) := by decide +kernel
theorem dX8_findsShade_96 : decode cX8_findsShade 96 = .ok (.iload 5, 2) := by decide +kernel
theorem dX8_findsShade_98 : decode cX8_findsShade 98 = .ok (.iload 6, 2) := by decide +kernel
theorem dX8_findsShade_100 : decode cX8_findsShade 100 = .ok (.invokevirtual 250, 3) := by decide +kernel
theorem dX8_findsShade_103 : decode cX8_findsShade 103 = .ok (.iinc 7 1, 3) := by decide +kernel
theorem dX8_findsShade_106 : decode cX8_findsShade 106 = .ok (.goto (-47), 3) := by decide +kernel
theorem dX8_findsShade_109 : decode cX8_findsShade 109 = .ok (.return_, 1) := by decide +kernel
set_option maxRecDepth 20000 in
theorem wX8_findsShade_103 {p : Program} {l : Launch} {e : Env} {s : State} {m : MethodId} {args : Array Value} {below : List Frame} {meth : Method} {c : Code} {Z : XG} {r : Int32} {S' : Mem} (E : XE p s m args meth c cX8_findsShade 8 RX8 none mL Z) (k0 : Mem → Int32 → Int32 → Int32 → Int32 → Int32 → O)  (hk0 : ∀ (S : Mem) (x3 x4 x5 x6 x7 : Int32), k0 S x3 x4 x5 x6 x7 = some (r, S') → WN p l e { frames := 3, cells := 0, slots := 0, locals := 72 } s m args below meth c mL Z (XV mL Z S') S 59 8 [(0, .ref (Z.2.1 0)), (3, .int x3), (4, .int x4), (5, .int x5), (6, .int x6), (7, .int x7)] []) : ∀ (S : Mem) (x3 x4 x5 x6 x7 : Int32), fX8_findsShade_103 k0 S x3 x4 x5 x6 x7 = some (r, S') → WN p l e { frames := 3, cells := 0, slots := 0, locals := 72 } s m args below meth c mL Z (XV mL Z S') S 103 8 [(0, .ref (Z.2.1 0)), (3, .int x3), (4, .int x4), (5, .int x5), (6, .int x6), (7, .int x7)] [] := by
  obtain ⟨hx, hb, -, -, -, -, -, -, -, hQ⟩ := id E
  intro S x3 x4 x5 x6 x7 h H locs ls X hl
  unfold fX8_findsShade_103 at h
  refine lv_iinc (v := (x7 + (1 : Int32))) (lv' := [(7, .int (x7 + (1 : Int32))), (0, .ref (Z.2.1 0)), (3, .int x3), (4, .int x4), (5, .int x5), (6, .int x6)]) hx hb dX8_findsShade_103 hl (k := 5) rfl rfl (by decide) rfl (fun ls hl => ?_)
  refine lv_goto (tgt := 59) hx hb dX8_findsShade_106 (by decide) ?_
  exact hk0 S x3 x4 x5 x6 (x7 + (1 : Int32)) h _ _ _ X (lv_sub hl [1, 2, 3, 4, 5, 0] rfl)
set_option maxRecDepth 20000 in
theorem wX8_findsShade_88 {p : Program} {l : Launch} {e : Env} {s : State} {m : MethodId} {args : Array Value} {below : List Frame} {meth : Method} {c : Code} {Z : XG} {r : Int32} {S' : Mem} (E : XE p s m args meth c cX8_findsShade 8 RX8 none mL Z) (k0 : Mem → Int32 → Int32 → Int32 → Int32 → Int32 → O)  (hk0 : ∀ (S : Mem) (x3 x4 x5 x6 x7 : Int32), k0 S x3 x4 x5 x6 x7 = some (r, S') → WN p l e { frames := 3, cells := 0, slots := 0, locals := 72 } s m args below meth c mL Z (XV mL Z S') S 59 8 [(0, .ref (Z.2.1 0)), (3, .int x3), (4, .int x4), (5, .int x5), (6, .int x6), (7, .int x7)] []) : ∀ (S : Mem) (x3 x4 x5 x6 x7 : Int32), fX8_findsShade_88 k0 S x3 x4 x5 x6 x7 = some (r, S') → WN p l e { frames := 3, cells := 0, slots := 0, locals := 72 } s m args below meth c mL Z (XV mL Z S') S 88 8 [(0, .ref (Z.2.1 0)), (3, .int x3), (4, .int x4), (5, .int x5), (6, .int x6), (7, .int x7)] [] := by
  obtain ⟨hx, hb, -, -, -, -, -, -, -, hQ⟩ := id E
  intro S x3 x4 x5 x6 x7 h H locs ls X hl
  unfold fX8_findsShade_88 at h
  refine lv_iload hx hb dX8_findsShade_88 (lv_at hl 2 rfl) ?_
  refine lv_if_eq (tgt := 103) hx hb dX8_findsShade_90 (by decide) (fun c_1 => ?_) (fun c_1 => ?_)
  · have h := if_t c_1 h
    exact wX8_findsShade_103 E k0 hk0 S x3 x4 x5 x6 x7 h _ _ _ X hl
  · have h := if_f c_1 h
    refine lv_aload_n hx hb dX8_findsShade_93 rfl (lv_at hl 0 rfl) ?_
    refine lv_iload hx hb dX8_findsShade_94 (lv_at hl 5 rfl) ?_
    refine lv_iload hx hb dX8_findsShade_96 (lv_at hl 3 rfl) ?_
    refine lv_iload hx hb dX8_findsShade_98 (lv_at hl 4 rfl) ?_
    obtain ⟨r_2, S_3, hr_2, h⟩ := bnd_s h
    refine x_callVv E X cwX8_250 (mX8_shadesByHimself l Z hQ  x7 x5 x6 hr_2) rfl rfl rfl rfl hl.1 rfl dX8_findsShade_100 (fun H locs X => ?_)
    exact wX8_findsShade_103 E k0 hk0 S_3 x3 x4 x5 x6 x7 h _ _ _ X hl
set_option maxRecDepth 20000 in
theorem wX8_findsShade_59_b {p : Program} {l : Launch} {e : Env} {s : State} {m : MethodId} {args : Array Value} {below : List Frame} {meth : Method} {c : Code} {Z : XG} {r : Int32} {S' : Mem} (E : XE p s m args meth c cX8_findsShade 8 RX8 none mL Z) (k0 : Mem → Int32 → Int32 → Int32 → Int32 → Int32 → O)  (hk0 : ∀ (S : Mem) (x3 x4 x5 x6 x7 : Int32), k0 S x3 x4 x5 x6 x7 = some (r, S') → WN p l e { frames := 3, cells := 0, slots := 0, locals := 72 } s m args below meth c mL Z (XV mL Z S') S 59 8 [(0, .ref (Z.2.1 0)), (3, .int x3), (4, .int x4), (5, .int x5), (6, .int x6), (7, .int x7)] []) : ∀ (S : Mem) (x3 x4 x5 x6 x7 : Int32), fX8_findsShade_59_b k0 S x3 x4 x5 x6 x7 = some (r, S') → WN p l e { frames := 3, cells := 0, slots := 0, locals := 72 } s m args below meth c mL Z (XV mL Z S') S 59 8 [(0, .ref (Z.2.1 0)), (3, .int x3), (4, .int x4), (5, .int x5), (6, .int x6), (7, .int x7)] [] := by
  obtain ⟨hx, hb, -, -, -, -, -, -, -, hQ⟩ := id E
  intro S x3 x4 x5 x6 x7 h H locs ls X hl
  unfold fX8_findsShade_59_b at h
  refine lv_iload hx hb dX8_findsShade_59 (lv_at hl 5 rfl) ?_
  refine lv_aload_n hx hb dX8_findsShade_61 rfl (lv_at hl 0 rfl) ?_
  refine x_get E X ffX8_100 rfl rfl dX8_findsShade_62 ?_
  refine lv_icmp_ge (tgt := 109) hx hb dX8_findsShade_65 (by decide) (fun c_1 => ?_) (fun c_1 => ?_)
  · have h := if_t c_1 h
    exact x_vret E X h dX8_findsShade_109
  · have h := if_f c_1 h
    refine lv_iload_n hx hb dX8_findsShade_68 rfl (lv_at hl 1 rfl) ?_
    refine lv_iload hx hb dX8_findsShade_69 (lv_at hl 5 rfl) ?_
    refine lv_ishr hx hb dX8_findsShade_71 ?_
    refine lv_iconst (v := (1 : Int32)) hx hb dX8_findsShade_72 (by decide) ?_
    refine lv_iand hx hb dX8_findsShade_73 ?_
    refine lv_iconst (v := (1 : Int32)) hx hb dX8_findsShade_74 (by decide) ?_
    refine lv_icmp_ne (tgt := 88) hx hb dX8_findsShade_75 (by decide) (fun c_2 => ?_) (fun c_2 => ?_)
    · have h := if_f c_2 h
      exact wX8_findsShade_88 E k0 hk0 S x3 x4 x5 x6 x7 h _ _ _ X hl
    · have h := if_t c_2 h
      refine lv_aload_n hx hb dX8_findsShade_78 rfl (lv_at hl 0 rfl) ?_
      refine lv_iload hx hb dX8_findsShade_79 (lv_at hl 5 rfl) ?_
      refine lv_iload hx hb dX8_findsShade_81 (lv_at hl 3 rfl) ?_
      refine lv_iload hx hb dX8_findsShade_83 (lv_at hl 4 rfl) ?_
      obtain ⟨r_3, S_4, hr_3, h⟩ := bnd_s h
      refine x_callVv E X cwX8_246 (mX8_shadesByParasol l Z hQ  x7 x5 x6 hr_3) rfl rfl rfl rfl hl.1 rfl dX8_findsShade_85 (fun H locs X => ?_)
      exact wX8_findsShade_88 E k0 hk0 S_4 x3 x4 x5 x6 x7 h _ _ _ X hl
theorem wX8_findsShade_59 {p : Program} {l : Launch} {e : Env} {s : State} {m : MethodId} {args : Array Value} {below : List Frame} {meth : Method} {c : Code} {Z : XG} {r : Int32} {S' : Mem} (E : XE p s m args meth c cX8_findsShade 8 RX8 none mL Z) : ∀ (n : Nat) (S : Mem) (x3 x4 x5 x6 x7 : Int32), fX8_findsShade_59 n S x3 x4 x5 x6 x7 = some (r, S') → WN p l e { frames := 3, cells := 0, slots := 0, locals := 72 } s m args below meth c mL Z (XV mL Z S') S 59 8 [(0, .ref (Z.2.1 0)), (3, .int x3), (4, .int x4), (5, .int x5), (6, .int x6), (7, .int x7)] [] := by
  intro n
  induction n with
  | zero => intro S x3 x4 x5 x6 x7 h; exact absurd (show (none : O) = some _ from h) (by simp)
  | succ n ih => intro S x3 x4 x5 x6 x7 h; exact wX8_findsShade_59_b E (fX8_findsShade_59 n) ih S x3 x4 x5 x6 x7 h
set_option maxRecDepth 20000 in
theorem wX8_findsShade_3_b {p : Program} {l : Launch} {e : Env} {s : State} {m : MethodId} {args : Array Value} {below : List Frame} {meth : Method} {c : Code} {Z : XG} {r : Int32} {S' : Mem} (E : XE p s m args meth c cX8_findsShade 8 RX8 none mL Z) (k0 : Mem → Int32 → Int32 → Int32 → Int32 → Int32 → O)  (hk0 : ∀ (S : Mem) (x1 x2 x3 x4 x5 : Int32), k0 S x1 x2 x3 x4 x5 = some (r, S') → WN p l e { frames := 3, cells := 0, slots := 0, locals := 72 } s m args below meth c mL Z (XV mL Z S') S 3 8 [(0, .ref (Z.2.1 0)), (1, .int x1), (2, .int x2), (3, .int x3), (4, .int x4), (5, .int x5)] []) : ∀ (S : Mem) (x1 x2 x3 x4 x5 : Int32), fX8_findsShade_3_b k0 S x1 x2 x3 x4 x5 = some (r, S') → WN p l e { frames := 3, cells := 0, slots := 0, locals := 72 } s m args below meth c mL Z (XV mL Z S') S 3 8 [(0, .ref (Z.2.1 0)), (1, .int x1), (2, .int x2), (3, .int x3), (4, .int x4), (5, .int x5)] [] := by
  obtain ⟨hx, hb, -, -, -, -, -, -, -, hQ⟩ := id E
  intro S x1 x2 x3 x4 x5 h H locs ls X hl
  unfold fX8_findsShade_3_b at h
  refine lv_iload hx hb dX8_findsShade_3 (lv_at hl 5 rfl) ?_
  refine lv_bipush (v := (25 : Int32)) hx hb dX8_findsShade_5 (by decide) ?_
  refine lv_icmp_ge (tgt := 24) hx hb dX8_findsShade_7 (by decide) (fun c_1 => ?_) (fun c_1 => ?_)
  · have h := if_t c_1 h
    refine lv_aload_n hx hb dX8_findsShade_24 rfl (lv_at hl 0 rfl) ?_
    refine x_getr E X ffX8_16 rfl rfl dX8_findsShade_25 ?_
    refine lv_iconst (v := (5 : Int32)) hx hb dX8_findsShade_28 (by decide) ?_
    refine lv_iload_n hx hb dX8_findsShade_29 rfl (lv_at hl 1 rfl) ?_
    refine lv_imul hx hb dX8_findsShade_30 ?_
    refine lv_iconst (v := (0 : Int32)) hx hb dX8_findsShade_31 (by decide) ?_
    refine lv_iadd hx hb dX8_findsShade_32 ?_
    obtain ⟨g_2, h⟩ := gd_s h
    refine x_iald E X rfl g_2 dX8_findsShade_33 ?_
    refine lv_bipush (v := (12 : Int32)) hx hb dX8_findsShade_34 (by decide) ?_
    refine lv_iadd hx hb dX8_findsShade_36 ?_
    refine lv_iload_n hx hb dX8_findsShade_37 rfl (lv_at hl 2 rfl) ?_
    refine lv_isub hx hb dX8_findsShade_38 ?_
    refine lv_bipush (v := (8 : Int32)) hx hb dX8_findsShade_39 (by decide) ?_
    refine lv_irem hx hb dX8_findsShade_41 (by decide) ?_
    refine lv_nm (y := (irem (((S 3 ((((5 : Int32) * x1) + (0 : Int32))).toNatClampNeg) + (12 : Int32)) - x2) (8 : Int32))) rfl ?_
    obtain ⟨x5_3, ex5_3, h⟩ := lti_s h
    refine lv_nm ex5_3 ?_
    refine lv_istore (lv' := [(5, .int x5_3), (0, .ref (Z.2.1 0)), (1, .int x1), (2, .int x2), (3, .int x3), (4, .int x4)]) hx hb dX8_findsShade_42 hl (by decide) rfl (fun ls hl => ?_)
    refine lv_aload_n hx hb dX8_findsShade_44 rfl (lv_at hl 1 rfl) ?_
    refine x_getr E X ffX8_16 rfl rfl dX8_findsShade_45 ?_
    refine lv_iconst (v := (5 : Int32)) hx hb dX8_findsShade_48 (by decide) ?_
    refine lv_iload_n hx hb dX8_findsShade_49 rfl (lv_at hl 2 rfl) ?_
    refine lv_imul hx hb dX8_findsShade_50 ?_
    refine lv_iconst (v := (1 : Int32)) hx hb dX8_findsShade_51 (by decide) ?_
    refine lv_iadd hx hb dX8_findsShade_52 ?_
    obtain ⟨g_4, h⟩ := gd_s h
    refine x_iald E X rfl g_4 dX8_findsShade_53 ?_
    obtain ⟨x6_5, ex6_5, h⟩ := lti_s h
    refine lv_nm ex6_5 ?_
    refine lv_istore (lv' := [(6, .int x6_5), (5, .int x5_3), (0, .ref (Z.2.1 0)), (1, .int x1), (2, .int x2), (3, .int x3), (4, .int x4)]) hx hb dX8_findsShade_54 hl (by decide) rfl (fun ls hl => ?_)
    refine lv_iconst (v := (0 : Int32)) hx hb dX8_findsShade_56 (by decide) ?_
    refine lv_istore (lv' := [(7, .int (0 : Int32)), (6, .int x6_5), (5, .int x5_3), (0, .ref (Z.2.1 0)), (1, .int x1), (2, .int x2), (3, .int x3), (4, .int x4)]) hx hb dX8_findsShade_57 hl (by decide) rfl (fun ls hl => ?_)
    exact wX8_findsShade_59 E   FU S x3 x4 x5_3 x6_5 (0 : Int32) h _ _ _ X (lv_sub hl [3, 6, 7, 2, 1, 0] rfl)
  · have h := if_f c_1 h
    refine lv_aload_n hx hb dX8_findsShade_10 rfl (lv_at hl 0 rfl) ?_
    refine x_getr E X ffX8_74 rfl rfl dX8_findsShade_11 ?_
    refine lv_iload hx hb dX8_findsShade_14 (lv_at hl 5 rfl) ?_
    refine lv_iconst (v := (0 : Int32)) hx hb dX8_findsShade_16 (by decide) ?_
    obtain ⟨g_6, h⟩ := gd_s h
    obtain ⟨S_7, eS_7, h⟩ := ltm_s h
    refine x_iast E X rfl g_6 dX8_findsShade_17 (fun H locs X => ?_)
    rw [← eS_7] at X
    refine lv_iinc (v := (x5 + (1 : Int32))) (lv' := [(5, .int (x5 + (1 : Int32))), (0, .ref (Z.2.1 0)), (1, .int x1), (2, .int x2), (3, .int x3), (4, .int x4)]) hx hb dX8_findsShade_18 hl (k := 5) rfl rfl (by decide) rfl (fun ls hl => ?_)
    refine lv_goto (tgt := 3) hx hb dX8_findsShade_21 (by decide) ?_
    exact hk0 S_7 x1 x2 x3 x4 (x5 + (1 : Int32)) h _ _ _ X (lv_sub hl [1, 2, 3, 4, 5, 0] rfl)
theorem wX8_findsShade_3 {p : Program} {l : Launch} {e : Env} {s : State} {m : MethodId} {args : Array Value} {below : List Frame} {meth : Method} {c : Code} {Z : XG} {r : Int32} {S' : Mem} (E : XE p s m args meth c cX8_findsShade 8 RX8 none mL Z) : ∀ (n : Nat) (S : Mem) (x1 x2 x3 x4 x5 : Int32), fX8_findsShade_3 n S x1 x2 x3 x4 x5 = some (r, S') → WN p l e { frames := 3, cells := 0, slots := 0, locals := 72 } s m args below meth c mL Z (XV mL Z S') S 3 8 [(0, .ref (Z.2.1 0)), (1, .int x1), (2, .int x2), (3, .int x3), (4, .int x4), (5, .int x5)] [] := by
  intro n
  induction n with
  | zero => intro S x1 x2 x3 x4 x5 h; exact absurd (show (none : O) = some _ from h) (by simp)
  | succ n ih => intro S x1 x2 x3 x4 x5 h; exact wX8_findsShade_3_b E (fX8_findsShade_3 n) ih S x1 x2 x3 x4 x5 h
set_option maxRecDepth 20000 in
theorem wX8_findsShade {p : Program} {l : Launch} {e : Env} {s : State} {m : MethodId} {args : Array Value} {below : List Frame} {meth : Method} {c : Code} {Z : XG} {r : Int32} {S' : Mem} (E : XE p s m args meth c cX8_findsShade 8 RX8 none mL Z) : ∀ (S : Mem) (x1 x2 x3 x4 : Int32), fX8_findsShade  S x1 x2 x3 x4 = some (r, S') → WN p l e { frames := 3, cells := 0, slots := 0, locals := 72 } s m args below meth c mL Z (XV mL Z S') S 0 8 [(0, .ref (Z.2.1 0)), (1, .int x1), (2, .int x2), (3, .int x3), (4, .int x4)] [] := by
  obtain ⟨hx, hb, -, -, -, -, -, -, -, hQ⟩ := id E
  intro S x1 x2 x3 x4 h H locs ls X hl
  unfold fX8_findsShade at h
  refine lv_iconst (v := (0 : Int32)) hx hb dX8_findsShade_0 (by decide) ?_
  refine lv_istore (lv' := [(5, .int (0 : Int32)), (0, .ref (Z.2.1 0)), (1, .int x1), (2, .int x2), (3, .int x3), (4, .int x4)]) hx hb dX8_findsShade_1 hl (by decide) rfl (fun ls hl => ?_)
  exact wX8_findsShade_3 E   FU S x1 x2 x3 x4 (0 : Int32) h _ _ _ X (lv_sub hl [1, 2, 3, 4, 5, 0] rfl)
/-- SevenToAShadowModel.findsShade(IIIZ)V -/
theorem mX8_findsShade (l : Launch) (Z : XG) (hQ : wQ (List.length mL) Z) {S S' : Mem} {r : Int32} (x1 x2 x3 x4 : Int32) (h : fX8_findsShade S x1 x2 x3 x4 = some (r, S')) : XM l yX8_findsShade cX8_findsShade 8 none { frames := 3, cells := 0, slots := 0, locals := 72 } mL Z [.ref (Z.2.1 0), .int x1, .int x2, .int x3, .int x4] S (XV mL Z S') := by
  refine XM.of (own := RX8) (by decide +kernel) rfl rfl hQ (fun p e s m args below meth c E ls hl X => ?_)
  exact wX8_findsShade E S x1 x2 x3 x4 h _ _ _ X hl
def fX8_findsShadeNow (S : Mem) (x1 : Int32) : O := gd (inB (((5 : Int32) * x1) + (3 : Int32)) 60) <| bnd (fX8_findsShade S x1 (S 3 ((((5 : Int32) * x1) + (3 : Int32))).toNatClampNeg) (S 0 10) (1 : Int32)) fun _ S_3 => some ((0 : Int32), S_3)
theorem dX8_findsShadeNow_0 : decode cX8_findsShadeNow 0 = .ok (.aload_n 0, 1) := by decide +kernel
theorem dX8_findsShadeNow_1 : decode cX8_findsShadeNow 1 = .ok (.iload_n 1, 1) := by decide +kernel
theorem dX8_findsShadeNow_2 : decode cX8_findsShadeNow 2 = .ok (.aload_n 0, 1) := by decide +kernel
theorem dX8_findsShadeNow_3 : decode cX8_findsShadeNow 3 = .ok (.getfield 16, 3) := by decide +kernel
theorem dX8_findsShadeNow_6 : decode cX8_findsShadeNow 6 = .ok (.iconst 5, 1) := by decide +kernel
theorem dX8_findsShadeNow_7 : decode cX8_findsShadeNow 7 = .ok (.iload_n 1, 1) := by decide +kernel
theorem dX8_findsShadeNow_8 : decode cX8_findsShadeNow 8 = .ok (.imul, 1) := by decide +kernel
theorem dX8_findsShadeNow_9 : decode cX8_findsShadeNow 9 = .ok (.iconst 3, 1) := by decide +kernel
theorem dX8_findsShadeNow_10 : decode cX8_findsShadeNow 10 = .ok (.iadd, 1) := by decide +kernel
theorem dX8_findsShadeNow_11 : decode cX8_findsShadeNow 11 = .ok (.iaload, 1) := by decide +kernel
theorem dX8_findsShadeNow_12 : decode cX8_findsShadeNow 12 = .ok (.aload_n 0, 1) := by decide +kernel
theorem dX8_findsShadeNow_13 : decode cX8_findsShadeNow 13 = .ok (.getfield 124, 3) := by decide +kernel
theorem dX8_findsShadeNow_16 : decode cX8_findsShadeNow 16 = .ok (.iconst 1, 1) := by decide +kernel
theorem dX8_findsShadeNow_17 : decode cX8_findsShadeNow 17 = .ok (.invokevirtual 253, 3) := by decide +kernel
theorem dX8_findsShadeNow_20 : decode cX8_findsShadeNow 20 = .ok (.return_, 1) := by decide +kernel
set_option maxRecDepth 20000 in
theorem wX8_findsShadeNow {p : Program} {l : Launch} {e : Env} {s : State} {m : MethodId} {args : Array Value} {below : List Frame} {meth : Method} {c : Code} {Z : XG} {r : Int32} {S' : Mem} (E : XE p s m args meth c cX8_findsShadeNow 2 RX8 none mL Z) : ∀ (S : Mem) (x1 : Int32), fX8_findsShadeNow  S x1 = some (r, S') → WN p l e { frames := 4, cells := 0, slots := 0, locals := 99 } s m args below meth c mL Z (XV mL Z S') S 0 2 [(0, .ref (Z.2.1 0)), (1, .int x1)] [] := by
  obtain ⟨hx, hb, -, -, -, -, -, -, -, hQ⟩ := id E
  intro S x1 h H locs ls X hl
  unfold fX8_findsShadeNow at h
  refine lv_aload_n hx hb dX8_findsShadeNow_0 rfl (lv_at hl 0 rfl) ?_
  refine lv_iload_n hx hb dX8_findsShadeNow_1 rfl (lv_at hl 1 rfl) ?_
  refine lv_aload_n hx hb dX8_findsShadeNow_2 rfl (lv_at hl 0 rfl) ?_
  refine x_getr E X ffX8_16 rfl rfl dX8_findsShadeNow_3 ?_
  refine lv_iconst (v := (5 : Int32)) hx hb dX8_findsShadeNow_6 (by decide) ?_
  refine lv_iload_n hx hb dX8_findsShadeNow_7 rfl (lv_at hl 1 rfl) ?_
  refine lv_imul hx hb dX8_findsShadeNow_8 ?_
  refine lv_iconst (v := (3 : Int32)) hx hb dX8_findsShadeNow_9 (by decide) ?_
  refine lv_iadd hx hb dX8_findsShadeNow_10 ?_
  obtain ⟨g_1, h⟩ := gd_s h
  refine x_iald E X rfl g_1 dX8_findsShadeNow_11 ?_
  refine lv_aload_n hx hb dX8_findsShadeNow_12 rfl (lv_at hl 0 rfl) ?_
  refine x_get E X ffX8_124 rfl rfl dX8_findsShadeNow_13 ?_
  refine lv_iconst (v := (1 : Int32)) hx hb dX8_findsShadeNow_16 (by decide) ?_
  obtain ⟨r_2, S_3, hr_2, h⟩ := bnd_s h
  refine x_callVv E X cwX8_253 (mX8_findsShade l Z hQ  x1 (S 3 ((((5 : Int32) * x1) + (3 : Int32))).toNatClampNeg) (S 0 10) (1 : Int32) hr_2) rfl rfl rfl rfl hl.1 rfl dX8_findsShadeNow_17 (fun H locs X => ?_)
  exact x_vret E X h dX8_findsShadeNow_20
/-- SevenToAShadowModel.findsShadeNow(I)V -/
theorem mX8_findsShadeNow (l : Launch) (Z : XG) (hQ : wQ (List.length mL) Z) {S S' : Mem} {r : Int32} (x1 : Int32) (h : fX8_findsShadeNow S x1 = some (r, S')) : XM l yX8_findsShadeNow cX8_findsShadeNow 2 none { frames := 4, cells := 0, slots := 0, locals := 99 } mL Z [.ref (Z.2.1 0), .int x1] S (XV mL Z S') := by
  refine XM.of (own := RX8) (by decide +kernel) rfl rfl hQ (fun p e s m args below meth c E ls hl X => ?_)
  exact wX8_findsShadeNow E S x1 h _ _ _ X hl
def fX8_isShadedAt_29 (S : Mem) : O := some ((1 : Int32), S)
def fX8_isShadedAt (S : Mem) (x1 x2 x3 : Int32) : O := gd (inB x2 25) <| (if ((S 21 (x2).toNatClampNeg) &&& (((1 : Int32) <<< (x1 &&& 31)) ^^^ (-1 : Int32))) = 0 then (if (((x3 ||| (S 0 11)) >>> (x1 &&& 31)) &&& (1 : Int32)) = (1 : Int32) then fX8_isShadedAt_29  S  else some ((0 : Int32), S)) else fX8_isShadedAt_29  S )
theorem dX8_isShadedAt_0 : decode cX8_isShadedAt 0 = .ok (.aload_n 0, 1) := by decide +kernel
theorem dX8_isShadedAt_1 : decode cX8_isShadedAt 1 = .ok (.getfield 74, 3) := by decide +kernel
theorem dX8_isShadedAt_4 : decode cX8_isShadedAt 4 = .ok (.iload_n 2, 1) := by decide +kernel
theorem dX8_isShadedAt_5 : decode cX8_isShadedAt 5 = .ok (.iaload, 1) := by decide +kernel
theorem dX8_isShadedAt_6 : decode cX8_isShadedAt 6 = .ok (.iconst 1, 1) := by decide +kernel
theorem dX8_isShadedAt_7 : decode cX8_isShadedAt 7 = .ok (.iload_n 1, 1) := by decide +kernel
theorem dX8_isShadedAt_8 : decode cX8_isShadedAt 8 = .ok (.ishl, 1) := by decide +kernel
theorem dX8_isShadedAt_9 : decode cX8_isShadedAt 9 = .ok (.iconst (-1), 1) := by decide +kernel
theorem dX8_isShadedAt_10 : decode cX8_isShadedAt 10 = .ok (.ixor, 1) := by decide +kernel
theorem dX8_isShadedAt_11 : decode cX8_isShadedAt 11 = .ok (.iand, 1) := by decide +kernel
theorem dX8_isShadedAt_12 : decode cX8_isShadedAt 12 = .ok (.ifCond .ne 17, 3) := by decide +kernel
theorem dX8_isShadedAt_15 : decode cX8_isShadedAt 15 = .ok (.iload_n 3, 1) := by decide +kernel
theorem dX8_isShadedAt_16 : decode cX8_isShadedAt 16 = .ok (.aload_n 0, 1) := by decide +kernel
theorem dX8_isShadedAt_17 : decode cX8_isShadedAt 17 = .ok (.getfield 127, 3) := by decide +kernel
theorem dX8_isShadedAt_20 : decode cX8_isShadedAt 20 = .ok (.ior, 1) := by decide +kernel
theorem dX8_isShadedAt_21 : decode cX8_isShadedAt 21 = .ok (.iload_n 1, 1) := by decide +kernel
theorem dX8_isShadedAt_22 : decode cX8_isShadedAt 22 = .ok (.ishr, 1) := by decide +kernel
theorem dX8_isShadedAt_23 : decode cX8_isShadedAt 23 = .ok (.iconst 1, 1) := by decide +kernel
theorem dX8_isShadedAt_24 : decode cX8_isShadedAt 24 = .ok (.iand, 1) := by decide +kernel
theorem dX8_isShadedAt_25 : decode cX8_isShadedAt 25 = .ok (.iconst 1, 1) := by decide +kernel
theorem dX8_isShadedAt_26 : decode cX8_isShadedAt 26 = .ok (.if_icmp .ne 7, 3) := by decide +kernel
theorem dX8_isShadedAt_29 : decode cX8_isShadedAt 29 = .ok (.iconst 1, 1) := by decide +kernel
theorem dX8_isShadedAt_30 : decode cX8_isShadedAt 30 = .ok (.goto 4, 3) := by decide +kernel
theorem dX8_isShadedAt_33 : decode cX8_isShadedAt 33 = .ok (.iconst 0, 1) := by decide +kernel
theorem dX8_isShadedAt_34 : decode cX8_isShadedAt 34 = .ok (.ireturn, 1) := by decide +kernel
set_option maxRecDepth 20000 in
theorem wX8_isShadedAt_29 {p : Program} {l : Launch} {e : Env} {s : State} {m : MethodId} {args : Array Value} {below : List Frame} {meth : Method} {c : Code} {Z : XG} {r : Int32} {S' : Mem} (E : XE p s m args meth c cX8_isShadedAt 4 RX8 (some .boolean) mL Z) : ∀ (S : Mem), fX8_isShadedAt_29  S  = some (r, S') → WN p l e { frames := 0, cells := 0, slots := 0, locals := 0 } s m args below meth c mL Z (XQ mL Z r S') S 29 4 [] [] := by
  obtain ⟨hx, hb, -, -, -, -, -, -, -, hQ⟩ := id E
  intro S  h H locs ls X hl
  unfold fX8_isShadedAt_29 at h
  refine lv_iconst (v := (1 : Int32)) hx hb dX8_isShadedAt_29 (by decide) ?_
  refine lv_goto (tgt := 34) hx hb dX8_isShadedAt_30 (by decide) ?_
  exact x_zret E X rfl h dX8_isShadedAt_34
set_option maxRecDepth 20000 in
theorem wX8_isShadedAt {p : Program} {l : Launch} {e : Env} {s : State} {m : MethodId} {args : Array Value} {below : List Frame} {meth : Method} {c : Code} {Z : XG} {r : Int32} {S' : Mem} (E : XE p s m args meth c cX8_isShadedAt 4 RX8 (some .boolean) mL Z) : ∀ (S : Mem) (x1 x2 x3 : Int32), fX8_isShadedAt  S x1 x2 x3 = some (r, S') → WN p l e { frames := 0, cells := 0, slots := 0, locals := 0 } s m args below meth c mL Z (XQ mL Z r S') S 0 4 [(0, .ref (Z.2.1 0)), (1, .int x1), (2, .int x2), (3, .int x3)] [] := by
  obtain ⟨hx, hb, -, -, -, -, -, -, -, hQ⟩ := id E
  intro S x1 x2 x3 h H locs ls X hl
  unfold fX8_isShadedAt at h
  refine lv_aload_n hx hb dX8_isShadedAt_0 rfl (lv_at hl 0 rfl) ?_
  refine x_getr E X ffX8_74 rfl rfl dX8_isShadedAt_1 ?_
  refine lv_iload_n hx hb dX8_isShadedAt_4 rfl (lv_at hl 2 rfl) ?_
  obtain ⟨g_1, h⟩ := gd_s h
  refine x_iald E X rfl g_1 dX8_isShadedAt_5 ?_
  refine lv_iconst (v := (1 : Int32)) hx hb dX8_isShadedAt_6 (by decide) ?_
  refine lv_iload_n hx hb dX8_isShadedAt_7 rfl (lv_at hl 1 rfl) ?_
  refine lv_ishl hx hb dX8_isShadedAt_8 ?_
  refine lv_iconst (v := (-1 : Int32)) hx hb dX8_isShadedAt_9 (by decide) ?_
  refine lv_ixor hx hb dX8_isShadedAt_10 ?_
  refine lv_iand hx hb dX8_isShadedAt_11 ?_
  refine lv_if_ne (tgt := 29) hx hb dX8_isShadedAt_12 (by decide) (fun c_2 => ?_) (fun c_2 => ?_)
  · have h := if_f c_2 h
    exact wX8_isShadedAt_29 E   S  h _ _ _ X (lv_sub hl [] rfl)
  · have h := if_t c_2 h
    refine lv_iload_n hx hb dX8_isShadedAt_15 rfl (lv_at hl 3 rfl) ?_
    refine lv_aload_n hx hb dX8_isShadedAt_16 rfl (lv_at hl 0 rfl) ?_
    refine x_get E X ffX8_127 rfl rfl dX8_isShadedAt_17 ?_
    refine lv_ior hx hb dX8_isShadedAt_20 ?_
    refine lv_iload_n hx hb dX8_isShadedAt_21 rfl (lv_at hl 1 rfl) ?_
    refine lv_ishr hx hb dX8_isShadedAt_22 ?_
    refine lv_iconst (v := (1 : Int32)) hx hb dX8_isShadedAt_23 (by decide) ?_
    refine lv_iand hx hb dX8_isShadedAt_24 ?_
    refine lv_iconst (v := (1 : Int32)) hx hb dX8_isShadedAt_25 (by decide) ?_
    refine lv_icmp_ne (tgt := 33) hx hb dX8_isShadedAt_26 (by decide) (fun c_3 => ?_) (fun c_3 => ?_)
    · have h := if_f c_3 h
      refine lv_iconst (v := (0 : Int32)) hx hb dX8_isShadedAt_33 (by decide) ?_
      exact x_zret E X rfl h dX8_isShadedAt_34
    · have h := if_t c_3 h
      exact wX8_isShadedAt_29 E   S  h _ _ _ X (lv_sub hl [] rfl)
/-- SevenToAShadowModel.isShadedAt(III)Z -/
theorem mX8_isShadedAt (l : Launch) (Z : XG) (hQ : wQ (List.length mL) Z) {S S' : Mem} {r : Int32} (x1 x2 x3 : Int32) (h : fX8_isShadedAt S x1 x2 x3 = some (r, S')) : XM l yX8_isShadedAt cX8_isShadedAt 4 (some .boolean) { frames := 0, cells := 0, slots := 0, locals := 0 } mL Z [.ref (Z.2.1 0), .int x1, .int x2, .int x3] S (XQ mL Z r S') := by
  refine XM.of (own := RX8) (by decide +kernel) rfl rfl hQ (fun p e s m args below meth c E ls hl X => ?_)
  exact wX8_isShadedAt E S x1 x2 x3 h _ _ _ X hl
def fX8_isShaded (S : Mem) (x1 : Int32) : O := gd (inB ((5 : Int32) + x1) 55) <| bnd (fX8_isShadedAt S x1 (S 1 (((5 : Int32) + x1)).toNatClampNeg) (S 0 10)) fun r_2 S_3 => gd (isB r_2) <| some (r_2, S_3)
theorem dX8_isShaded_0 : decode cX8_isShaded 0 = .ok (.aload_n 0, 1) := by decide +kernel
theorem dX8_isShaded_1 : decode cX8_isShaded 1 = .ok (.iload_n 1, 1) := by decide +kernel
theorem dX8_isShaded_2 : decode cX8_isShaded 2 = .ok (.aload_n 0, 1) := by decide +kernel
theorem dX8_isShaded_3 : decode cX8_isShaded 3 = .ok (.getfield 7, 3) := by decide +kernel
theorem dX8_isShaded_6 : decode cX8_isShaded 6 = .ok (.iconst 5, 1) := by decide +kernel
theorem dX8_isShaded_7 : decode cX8_isShaded 7 = .ok (.iload_n 1, 1) := by decide +kernel
theorem dX8_isShaded_8 : decode cX8_isShaded 8 = .ok (.iadd, 1) := by decide +kernel
theorem dX8_isShaded_9 : decode cX8_isShaded 9 = .ok (.iaload, 1) := by decide +kernel
theorem dX8_isShaded_10 : decode cX8_isShaded 10 = .ok (.aload_n 0, 1) := by decide +kernel
theorem dX8_isShaded_11 : decode cX8_isShaded 11 = .ok (.getfield 124, 3) := by decide +kernel
theorem dX8_isShaded_14 : decode cX8_isShaded 14 = .ok (.invokevirtual 257, 3) := by decide +kernel
theorem dX8_isShaded_17 : decode cX8_isShaded 17 = .ok (.ireturn, 1) := by decide +kernel
set_option maxRecDepth 20000 in
theorem wX8_isShaded {p : Program} {l : Launch} {e : Env} {s : State} {m : MethodId} {args : Array Value} {below : List Frame} {meth : Method} {c : Code} {Z : XG} {r : Int32} {S' : Mem} (E : XE p s m args meth c cX8_isShaded 2 RX8 (some .boolean) mL Z) : ∀ (S : Mem) (x1 : Int32), fX8_isShaded  S x1 = some (r, S') → WN p l e { frames := 1, cells := 0, slots := 0, locals := 23 } s m args below meth c mL Z (XQ mL Z r S') S 0 2 [(0, .ref (Z.2.1 0)), (1, .int x1)] [] := by
  obtain ⟨hx, hb, -, -, -, -, -, -, -, hQ⟩ := id E
  intro S x1 h H locs ls X hl
  unfold fX8_isShaded at h
  refine lv_aload_n hx hb dX8_isShaded_0 rfl (lv_at hl 0 rfl) ?_
  refine lv_iload_n hx hb dX8_isShaded_1 rfl (lv_at hl 1 rfl) ?_
  refine lv_aload_n hx hb dX8_isShaded_2 rfl (lv_at hl 0 rfl) ?_
  refine x_getr E X ffX8_7 rfl rfl dX8_isShaded_3 ?_
  refine lv_iconst (v := (5 : Int32)) hx hb dX8_isShaded_6 (by decide) ?_
  refine lv_iload_n hx hb dX8_isShaded_7 rfl (lv_at hl 1 rfl) ?_
  refine lv_iadd hx hb dX8_isShaded_8 ?_
  obtain ⟨g_1, h⟩ := gd_s h
  refine x_iald E X rfl g_1 dX8_isShaded_9 ?_
  refine lv_aload_n hx hb dX8_isShaded_10 rfl (lv_at hl 0 rfl) ?_
  refine x_get E X ffX8_124 rfl rfl dX8_isShaded_11 ?_
  obtain ⟨r_2, S_3, hr_2, h⟩ := bnd_s h
  refine x_callV E X cwX8_257 (mX8_isShadedAt l Z hQ  x1 (S 1 (((5 : Int32) + x1)).toNatClampNeg) (S 0 10) hr_2) rfl rfl rfl rfl hl.1 rfl dX8_isShaded_14 (fun H locs X => ?_)
  obtain ⟨g_4, h⟩ := gd_s h
  exact x_zret E X g_4 h dX8_isShaded_17
/-- SevenToAShadowModel.isShaded(I)Z -/
theorem mX8_isShaded (l : Launch) (Z : XG) (hQ : wQ (List.length mL) Z) {S S' : Mem} {r : Int32} (x1 : Int32) (h : fX8_isShaded S x1 = some (r, S')) : XM l yX8_isShaded cX8_isShaded 2 (some .boolean) { frames := 1, cells := 0, slots := 0, locals := 23 } mL Z [.ref (Z.2.1 0), .int x1] S (XQ mL Z r S') := by
  refine XM.of (own := RX8) (by decide +kernel) rfl rfl hQ (fun p e s m args below meth c E ls hl X => ?_)
  exact wX8_isShaded E S x1 h _ _ _ X hl
def fX8_twoOf (S : Mem) (x1 x2 x3 : Int32) : O := (if x1 = (2 : Int32) then some ((x2 + x3), S) else (if x1 = (3 : Int32) then some ((x2 - x3), S) else (if x1 = (4 : Int32) then some ((x2 * x3), S) else (if x1 = (5 : Int32) then gd (nz x3) <| some ((x2 / x3), S) else (if x1 = (6 : Int32) then (if x3 ≤ x2 then some ((0 : Int32), S) else some ((1 : Int32), S)) else (if x1 = (7 : Int32) then (if x2 = x3 then some ((1 : Int32), S) else some ((0 : Int32), S)) else (if x1 = (8 : Int32) then (if x2 ≤ x3 then some ((0 : Int32), S) else some ((1 : Int32), S)) else (if x1 = (10 : Int32) then some ((x2 * x3), S) else (if (x2 + x3) ≤ 0 then some ((0 : Int32), S) else some ((1 : Int32), S))))))))))
theorem dX8_twoOf_0 : decode cX8_twoOf 0 = .ok (.iload_n 1, 1) := by decide +kernel
theorem dX8_twoOf_1 : decode cX8_twoOf 1 = .ok (.iconst 2, 1) := by decide +kernel
theorem dX8_twoOf_2 : decode cX8_twoOf 2 = .ok (.if_icmp .ne 7, 3) := by decide +kernel
theorem dX8_twoOf_5 : decode cX8_twoOf 5 = .ok (.iload_n 2, 1) := by decide +kernel
theorem dX8_twoOf_6 : decode cX8_twoOf 6 = .ok (.iload_n 3, 1) := by decide +kernel
theorem dX8_twoOf_7 : decode cX8_twoOf 7 = .ok (.iadd, 1) := by decide +kernel
theorem dX8_twoOf_8 : decode cX8_twoOf 8 = .ok (.ireturn, 1) := by decide +kernel
theorem dX8_twoOf_9 : decode cX8_twoOf 9 = .ok (.iload_n 1, 1) := by decide +kernel
theorem dX8_twoOf_10 : decode cX8_twoOf 10 = .ok (.iconst 3, 1) := by decide +kernel
theorem dX8_twoOf_11 : decode cX8_twoOf 11 = .ok (.if_icmp .ne 7, 3) := by decide +kernel
theorem dX8_twoOf_14 : decode cX8_twoOf 14 = .ok (.iload_n 2, 1) := by decide +kernel
theorem dX8_twoOf_15 : decode cX8_twoOf 15 = .ok (.iload_n 3, 1) := by decide +kernel
theorem dX8_twoOf_16 : decode cX8_twoOf 16 = .ok (.isub, 1) := by decide +kernel
theorem dX8_twoOf_17 : decode cX8_twoOf 17 = .ok (.ireturn, 1) := by decide +kernel
theorem dX8_twoOf_18 : decode cX8_twoOf 18 = .ok (.iload_n 1, 1) := by decide +kernel
theorem dX8_twoOf_19 : decode cX8_twoOf 19 = .ok (.iconst 4, 1) := by decide +kernel
theorem dX8_twoOf_20 : decode cX8_twoOf 20 = .ok (.if_icmp .ne 7, 3) := by decide +kernel
theorem dX8_twoOf_23 : decode cX8_twoOf 23 = .ok (.iload_n 2, 1) := by decide +kernel
theorem dX8_twoOf_24 : decode cX8_twoOf 24 = .ok (.iload_n 3, 1) := by decide +kernel
theorem dX8_twoOf_25 : decode cX8_twoOf 25 = .ok (.imul, 1) := by decide +kernel
theorem dX8_twoOf_26 : decode cX8_twoOf 26 = .ok (.ireturn, 1) := by decide +kernel
theorem dX8_twoOf_27 : decode cX8_twoOf 27 = .ok (.iload_n 1, 1) := by decide +kernel
theorem dX8_twoOf_28 : decode cX8_twoOf 28 = .ok (.iconst 5, 1) := by decide +kernel
theorem dX8_twoOf_29 : decode cX8_twoOf 29 = .ok (.if_icmp .ne 7, 3) := by decide +kernel
theorem dX8_twoOf_32 : decode cX8_twoOf 32 = .ok (.iload_n 2, 1) := by decide +kernel
theorem dX8_twoOf_33 : decode cX8_twoOf 33 = .ok (.iload_n 3, 1) := by decide +kernel
theorem dX8_twoOf_34 : decode cX8_twoOf 34 = .ok (.idiv, 1) := by decide +kernel
theorem dX8_twoOf_35 : decode cX8_twoOf 35 = .ok (.ireturn, 1) := by decide +kernel
theorem dX8_twoOf_36 : decode cX8_twoOf 36 = .ok (.iload_n 1, 1) := by decide +kernel
theorem dX8_twoOf_37 : decode cX8_twoOf 37 = .ok (.bipush 6, 2) := by decide +kernel
theorem dX8_twoOf_39 : decode cX8_twoOf 39 = .ok (.if_icmp .ne 14, 3) := by decide +kernel
theorem dX8_twoOf_42 : decode cX8_twoOf 42 = .ok (.iload_n 2, 1) := by decide +kernel
theorem dX8_twoOf_43 : decode cX8_twoOf 43 = .ok (.iload_n 3, 1) := by decide +kernel
theorem dX8_twoOf_44 : decode cX8_twoOf 44 = .ok (.if_icmp .ge 7, 3) := by decide +kernel
theorem dX8_twoOf_47 : decode cX8_twoOf 47 = .ok (.iconst 1, 1) := by decide +kernel
theorem dX8_twoOf_48 : decode cX8_twoOf 48 = .ok (.goto 4, 3) := by decide +kernel
theorem dX8_twoOf_51 : decode cX8_twoOf 51 = .ok (.iconst 0, 1) := by decide +kernel
theorem dX8_twoOf_52 : decode cX8_twoOf 52 = .ok (.ireturn, 1) := by decide +kernel
theorem dX8_twoOf_53 : decode cX8_twoOf 53 = .ok (.iload_n 1, 1) := by decide +kernel
theorem dX8_twoOf_54 : decode cX8_twoOf 54 = .ok (.bipush 7, 2) := by decide +kernel
theorem dX8_twoOf_56 : decode cX8_twoOf 56 = .ok (.if_icmp .ne 14, 3) := by decide +kernel
theorem dX8_twoOf_59 : decode cX8_twoOf 59 = .ok (.iload_n 2, 1) := by decide +kernel
theorem dX8_twoOf_60 : decode cX8_twoOf 60 = .ok (.iload_n 3, 1) := by decide +kernel
theorem dX8_twoOf_61 : decode cX8_twoOf 61 = .ok (.if_icmp .ne 7, 3) := by decide +kernel
theorem dX8_twoOf_64 : decode cX8_twoOf 64 = .ok (.iconst 1, 1) := by decide +kernel
theorem dX8_twoOf_65 : decode cX8_twoOf 65 = .ok (.goto 4, 3) := by decide +kernel
theorem dX8_twoOf_68 : decode cX8_twoOf 68 = .ok (.iconst 0, 1) := by decide +kernel
theorem dX8_twoOf_69 : decode cX8_twoOf 69 = .ok (.ireturn, 1) := by decide +kernel
theorem dX8_twoOf_70 : decode cX8_twoOf 70 = .ok (.iload_n 1, 1) := by decide +kernel
theorem dX8_twoOf_71 : decode cX8_twoOf 71 = .ok (.bipush 8, 2) := by decide +kernel
theorem dX8_twoOf_73 : decode cX8_twoOf 73 = .ok (.if_icmp .ne 14, 3) := by decide +kernel
theorem dX8_twoOf_76 : decode cX8_twoOf 76 = .ok (.iload_n 2, 1) := by decide +kernel
theorem dX8_twoOf_77 : decode cX8_twoOf 77 = .ok (.iload_n 3, 1) := by decide +kernel
theorem dX8_twoOf_78 : decode cX8_twoOf 78 = .ok (.if_icmp .le 7, 3) := by decide +kernel
theorem dX8_twoOf_81 : decode cX8_twoOf 81 = .ok (.iconst 1, 1) := by decide +kernel
theorem dX8_twoOf_82 : decode cX8_twoOf 82 = .ok (.goto 4, 3) := by decide +kernel
theorem dX8_twoOf_85 : decode cX8_twoOf 85 = .ok (.iconst 0, 1) := by decide +kernel
theorem dX8_twoOf_86 : decode cX8_twoOf 86 = .ok (.ireturn, 1) := by decide +kernel
theorem dX8_twoOf_87 : decode cX8_twoOf 87 = .ok (.iload_n 1, 1) := by decide +kernel
theorem dX8_twoOf_88 : decode cX8_twoOf 88 = .ok (.bipush 10, 2) := by decide +kernel
theorem dX8_twoOf_90 : decode cX8_twoOf 90 = .ok (.if_icmp .ne 9, 3) := by decide +kernel
theorem dX8_twoOf_93 : decode cX8_twoOf 93 = .ok (.iload_n 2, 1) := by decide +kernel
theorem dX8_twoOf_94 : decode cX8_twoOf 94 = .ok (.iload_n 3, 1) := by decide +kernel
theorem dX8_twoOf_95 : decode cX8_twoOf 95 = .ok (.imul, 1) := by decide +kernel
theorem dX8_twoOf_96 : decode cX8_twoOf 96 = .ok (.goto 14, 3) := by decide +kernel
theorem dX8_twoOf_99 : decode cX8_twoOf 99 = .ok (.iload_n 2, 1) := by decide +kernel
theorem dX8_twoOf_100 : decode cX8_twoOf 100 = .ok (.iload_n 3, 1) := by decide +kernel
theorem dX8_twoOf_101 : decode cX8_twoOf 101 = .ok (.iadd, 1) := by decide +kernel
theorem dX8_twoOf_102 : decode cX8_twoOf 102 = .ok (.ifCond .le 7, 3) := by decide +kernel
theorem dX8_twoOf_105 : decode cX8_twoOf 105 = .ok (.iconst 1, 1) := by decide +kernel
theorem dX8_twoOf_106 : decode cX8_twoOf 106 = .ok (.goto 4, 3) := by decide +kernel
theorem dX8_twoOf_109 : decode cX8_twoOf 109 = .ok (.iconst 0, 1) := by decide +kernel
theorem dX8_twoOf_110 : decode cX8_twoOf 110 = .ok (.ireturn, 1) := by decide +kernel
set_option maxRecDepth 20000 in
theorem wX8_twoOf {p : Program} {l : Launch} {e : Env} {s : State} {m : MethodId} {args : Array Value} {below : List Frame} {meth : Method} {c : Code} {Z : XG} {r : Int32} {S' : Mem} (E : XE p s m args meth c cX8_twoOf 4 RX8 (some .int) mL Z) : ∀ (S : Mem) (x1 x2 x3 : Int32), fX8_twoOf  S x1 x2 x3 = some (r, S') → WN p l e { frames := 0, cells := 0, slots := 0, locals := 0 } s m args below meth c mL Z (XQ mL Z r S') S 0 4 [(1, .int x1), (2, .int x2), (3, .int x3)] [] := by
  obtain ⟨hx, hb, -, -, -, -, -, -, -, hQ⟩ := id E
  intro S x1 x2 x3 h H locs ls X hl
  unfold fX8_twoOf at h
  refine lv_iload_n hx hb dX8_twoOf_0 rfl (lv_at hl 0 rfl) ?_
  refine lv_iconst (v := (2 : Int32)) hx hb dX8_twoOf_1 (by decide) ?_
  refine lv_icmp_ne (tgt := 9) hx hb dX8_twoOf_2 (by decide) (fun c_1 => ?_) (fun c_1 => ?_)
  · have h := if_f c_1 h
    refine lv_iload_n hx hb dX8_twoOf_9 rfl (lv_at hl 0 rfl) ?_
    refine lv_iconst (v := (3 : Int32)) hx hb dX8_twoOf_10 (by decide) ?_
    refine lv_icmp_ne (tgt := 18) hx hb dX8_twoOf_11 (by decide) (fun c_2 => ?_) (fun c_2 => ?_)
    · have h := if_f c_2 h
      refine lv_iload_n hx hb dX8_twoOf_18 rfl (lv_at hl 0 rfl) ?_
      refine lv_iconst (v := (4 : Int32)) hx hb dX8_twoOf_19 (by decide) ?_
      refine lv_icmp_ne (tgt := 27) hx hb dX8_twoOf_20 (by decide) (fun c_3 => ?_) (fun c_3 => ?_)
      · have h := if_f c_3 h
        refine lv_iload_n hx hb dX8_twoOf_27 rfl (lv_at hl 0 rfl) ?_
        refine lv_iconst (v := (5 : Int32)) hx hb dX8_twoOf_28 (by decide) ?_
        refine lv_icmp_ne (tgt := 36) hx hb dX8_twoOf_29 (by decide) (fun c_4 => ?_) (fun c_4 => ?_)
        · have h := if_f c_4 h
          refine lv_iload_n hx hb dX8_twoOf_36 rfl (lv_at hl 0 rfl) ?_
          refine lv_bipush (v := (6 : Int32)) hx hb dX8_twoOf_37 (by decide) ?_
          refine lv_icmp_ne (tgt := 53) hx hb dX8_twoOf_39 (by decide) (fun c_5 => ?_) (fun c_5 => ?_)
          · have h := if_f c_5 h
            refine lv_iload_n hx hb dX8_twoOf_53 rfl (lv_at hl 0 rfl) ?_
            refine lv_bipush (v := (7 : Int32)) hx hb dX8_twoOf_54 (by decide) ?_
            refine lv_icmp_ne (tgt := 70) hx hb dX8_twoOf_56 (by decide) (fun c_6 => ?_) (fun c_6 => ?_)
            · have h := if_f c_6 h
              refine lv_iload_n hx hb dX8_twoOf_70 rfl (lv_at hl 0 rfl) ?_
              refine lv_bipush (v := (8 : Int32)) hx hb dX8_twoOf_71 (by decide) ?_
              refine lv_icmp_ne (tgt := 87) hx hb dX8_twoOf_73 (by decide) (fun c_7 => ?_) (fun c_7 => ?_)
              · have h := if_f c_7 h
                refine lv_iload_n hx hb dX8_twoOf_87 rfl (lv_at hl 0 rfl) ?_
                refine lv_bipush (v := (10 : Int32)) hx hb dX8_twoOf_88 (by decide) ?_
                refine lv_icmp_ne (tgt := 99) hx hb dX8_twoOf_90 (by decide) (fun c_8 => ?_) (fun c_8 => ?_)
                · have h := if_f c_8 h
                  refine lv_iload_n hx hb dX8_twoOf_99 rfl (lv_at hl 1 rfl) ?_
                  refine lv_iload_n hx hb dX8_twoOf_100 rfl (lv_at hl 2 rfl) ?_
                  refine lv_iadd hx hb dX8_twoOf_101 ?_
                  refine lv_if_le (tgt := 109) hx hb dX8_twoOf_102 (by decide) (fun c_9 => ?_) (fun c_9 => ?_)
                  · have h := if_t c_9 h
                    refine lv_iconst (v := (0 : Int32)) hx hb dX8_twoOf_109 (by decide) ?_
                    exact x_iret E X h dX8_twoOf_110
                  · have h := if_f c_9 h
                    refine lv_iconst (v := (1 : Int32)) hx hb dX8_twoOf_105 (by decide) ?_
                    refine lv_goto (tgt := 110) hx hb dX8_twoOf_106 (by decide) ?_
                    exact x_iret E X h dX8_twoOf_110
                · have h := if_t c_8 h
                  refine lv_iload_n hx hb dX8_twoOf_93 rfl (lv_at hl 1 rfl) ?_
                  refine lv_iload_n hx hb dX8_twoOf_94 rfl (lv_at hl 2 rfl) ?_
                  refine lv_imul hx hb dX8_twoOf_95 ?_
                  refine lv_goto (tgt := 110) hx hb dX8_twoOf_96 (by decide) ?_
                  exact x_iret E X h dX8_twoOf_110
              · have h := if_t c_7 h
                refine lv_iload_n hx hb dX8_twoOf_76 rfl (lv_at hl 1 rfl) ?_
                refine lv_iload_n hx hb dX8_twoOf_77 rfl (lv_at hl 2 rfl) ?_
                refine lv_icmp_le (tgt := 85) hx hb dX8_twoOf_78 (by decide) (fun c_10 => ?_) (fun c_10 => ?_)
                · have h := if_t c_10 h
                  refine lv_iconst (v := (0 : Int32)) hx hb dX8_twoOf_85 (by decide) ?_
                  exact x_iret E X h dX8_twoOf_86
                · have h := if_f c_10 h
                  refine lv_iconst (v := (1 : Int32)) hx hb dX8_twoOf_81 (by decide) ?_
                  refine lv_goto (tgt := 86) hx hb dX8_twoOf_82 (by decide) ?_
                  exact x_iret E X h dX8_twoOf_86
            · have h := if_t c_6 h
              refine lv_iload_n hx hb dX8_twoOf_59 rfl (lv_at hl 1 rfl) ?_
              refine lv_iload_n hx hb dX8_twoOf_60 rfl (lv_at hl 2 rfl) ?_
              refine lv_icmp_ne (tgt := 68) hx hb dX8_twoOf_61 (by decide) (fun c_11 => ?_) (fun c_11 => ?_)
              · have h := if_f c_11 h
                refine lv_iconst (v := (0 : Int32)) hx hb dX8_twoOf_68 (by decide) ?_
                exact x_iret E X h dX8_twoOf_69
              · have h := if_t c_11 h
                refine lv_iconst (v := (1 : Int32)) hx hb dX8_twoOf_64 (by decide) ?_
                refine lv_goto (tgt := 69) hx hb dX8_twoOf_65 (by decide) ?_
                exact x_iret E X h dX8_twoOf_69
          · have h := if_t c_5 h
            refine lv_iload_n hx hb dX8_twoOf_42 rfl (lv_at hl 1 rfl) ?_
            refine lv_iload_n hx hb dX8_twoOf_43 rfl (lv_at hl 2 rfl) ?_
            refine lv_icmp_ge (tgt := 51) hx hb dX8_twoOf_44 (by decide) (fun c_12 => ?_) (fun c_12 => ?_)
            · have h := if_t c_12 h
              refine lv_iconst (v := (0 : Int32)) hx hb dX8_twoOf_51 (by decide) ?_
              exact x_iret E X h dX8_twoOf_52
            · have h := if_f c_12 h
              refine lv_iconst (v := (1 : Int32)) hx hb dX8_twoOf_47 (by decide) ?_
              refine lv_goto (tgt := 52) hx hb dX8_twoOf_48 (by decide) ?_
              exact x_iret E X h dX8_twoOf_52
        · have h := if_t c_4 h
          refine lv_iload_n hx hb dX8_twoOf_32 rfl (lv_at hl 1 rfl) ?_
          refine lv_iload_n hx hb dX8_twoOf_33 rfl (lv_at hl 2 rfl) ?_
          obtain ⟨g_13, h⟩ := gd_s h
          refine lv_idiv hx hb dX8_twoOf_34 (of_decide_eq_true g_13) ?_
          exact x_iret E X h dX8_twoOf_35
      · have h := if_t c_3 h
        refine lv_iload_n hx hb dX8_twoOf_23 rfl (lv_at hl 1 rfl) ?_
        refine lv_iload_n hx hb dX8_twoOf_24 rfl (lv_at hl 2 rfl) ?_
        refine lv_imul hx hb dX8_twoOf_25 ?_
        exact x_iret E X h dX8_twoOf_26
    · have h := if_t c_2 h
      refine lv_iload_n hx hb dX8_twoOf_14 rfl (lv_at hl 1 rfl) ?_
      refine lv_iload_n hx hb dX8_twoOf_15 rfl (lv_at hl 2 rfl) ?_
      refine lv_isub hx hb dX8_twoOf_16 ?_
      exact x_iret E X h dX8_twoOf_17
  · have h := if_t c_1 h
    refine lv_iload_n hx hb dX8_twoOf_5 rfl (lv_at hl 1 rfl) ?_
    refine lv_iload_n hx hb dX8_twoOf_6 rfl (lv_at hl 2 rfl) ?_
    refine lv_iadd hx hb dX8_twoOf_7 ?_
    exact x_iret E X h dX8_twoOf_8
/-- SevenToAShadowModel.twoOf(III)I -/
theorem mX8_twoOf (l : Launch) (Z : XG) (hQ : wQ (List.length mL) Z) {S S' : Mem} {r : Int32} (x1 x2 x3 : Int32) (h : fX8_twoOf S x1 x2 x3 = some (r, S')) : XM l yX8_twoOf cX8_twoOf 4 (some .int) { frames := 0, cells := 0, slots := 0, locals := 0 } mL Z [.ref (Z.2.1 0), .int x1, .int x2, .int x3] S (XQ mL Z r S') := by
  refine XM.of (own := RX8) (by decide +kernel) rfl rfl hQ (fun p e s m args below meth c E ls hl X => ?_)
  exact wX8_twoOf E S x1 x2 x3 h _ _ _ X (lv_sub hl [1, 2, 3] rfl)
def fX8_isSo_186 (k0 : Mem → Int32 → Int32 → Int32 → Int32 → O) (S : Mem) (x1 x2 x3 x4 : Int32) : O := k0 S x1 x2 x3 (x4 + (1 : Int32))
def fX8_isSo_108 (k0 : Mem → Int32 → Int32 → Int32 → Int32 → O) (S : Mem) (x1 x2 x3 x4 s1 s2 : Int32) : O := gd (inB s1 420) <| ltm (mset S 20 (s1).toNatClampNeg s2) fun S_2 => lti (x3 + (1 : Int32)) fun x3_3 => fX8_isSo_186 k0 S_2 x1 x2 x3_3 x4
def fX8_isSo_71 (k0 : Mem → Int32 → Int32 → Int32 → Int32 → O) (S : Mem) (x1 x2 x3 x4 : Int32) : O := gd (inB x4 800) <| (if (S 16 (x4).toNatClampNeg) = 0 then gd (inB x4 800) <| fX8_isSo_108 k0 S x1 x2 x3 x4 x3 (S 17 (x4).toNatClampNeg) else gd (inB x4 800) <| gd (inB (S 17 (x4).toNatClampNeg) 10) <| fX8_isSo_108 k0 S x1 x2 x3 x4 x3 (S 19 ((S 17 (x4).toNatClampNeg)).toNatClampNeg))
def fX8_isSo_33_b (k0 : Mem → Int32 → Int32 → Int32 → Int32 → O) (S : Mem) (x1 x2 x3 x4 : Int32) : O := gd (inB x2 32) <| (if (((400 : Int32) * x1) + (S 15 (x2).toNatClampNeg)) ≤ x4 then (if (S 20 ((0 : Int32)).toNatClampNeg) = 0 then some ((0 : Int32), S) else some ((1 : Int32), S)) else gd (inB x4 800) <| (if (S 16 (x4).toNatClampNeg) = 0 then fX8_isSo_71 k0 S x1 x2 x3 x4 else gd (inB x4 800) <| (if (S 16 (x4).toNatClampNeg) = (1 : Int32) then fX8_isSo_71 k0 S x1 x2 x3 x4 else gd (inB x4 800) <| (if (S 16 (x4).toNatClampNeg) = (9 : Int32) then gd (inB (x3 - (1 : Int32)) 420) <| gd (inB (x3 - (1 : Int32)) 420) <| ltm (mset S 20 ((x3 - (1 : Int32))).toNatClampNeg ((1 : Int32) - (S 20 ((x3 - (1 : Int32))).toNatClampNeg))) fun S_20 => fX8_isSo_186 k0 S_20 x1 x2 x3 x4 else lti (x3 - (1 : Int32)) fun x3_10 => gd (inB x4 800) <| gd (inB (x3_10 - (1 : Int32)) 420) <| gd (inB x3_10 420) <| bnd (fX8_twoOf S (S 16 (x4).toNatClampNeg) (S 20 ((x3_10 - (1 : Int32))).toNatClampNeg) (S 20 (x3_10).toNatClampNeg)) fun r_14 S_15 => gd (inB (x3_10 - (1 : Int32)) 420) <| ltm (mset S_15 20 ((x3_10 - (1 : Int32))).toNatClampNeg r_14) fun S_17 => fX8_isSo_186 k0 S_17 x1 x2 x3_10 x4))))
def fX8_isSo_33 : Nat → Mem → Int32 → Int32 → Int32 → Int32 → O
  | 0 => fun _ _ _ _ _ => none
  | n + 1 => fX8_isSo_33_b (fX8_isSo_33 n)
def fX8_isSo (S : Mem) (x1 x2 : Int32) : O := gd (inB x2 32) <| gd (inB x2 32) <| (if (S 14 (x2).toNatClampNeg) = (S 15 (x2).toNatClampNeg) then some ((1 : Int32), S) else gd (inB x2 32) <| lti (((400 : Int32) * x1) + (S 14 (x2).toNatClampNeg)) fun x4_5 => fX8_isSo_33  FU S x1 x2 (0 : Int32) x4_5)
theorem dX8_isSo_0 : decode cX8_isSo 0 = .ok (.aload_n 0, 1) := by decide +kernel
theorem dX8_isSo_1 : decode cX8_isSo 1 = .ok (.getfield 49, 3) := by decide +kernel
theorem dX8_isSo_4 : decode cX8_isSo 4 = .ok (.iload_n 2, 1) := by decide +kernel
theorem dX8_isSo_5 : decode cX8_isSo 5 = .ok (.iaload, 1) := by decide +kernel
theorem dX8_isSo_6 : decode cX8_isSo 6 = .ok (.aload_n 0, 1) := by decide +kernel
theorem dX8_isSo_7 : decode cX8_isSo 7 = .ok (.getfield 52, 3) := by decide +kernel
theorem dX8_isSo_10 : decode cX8_isSo 10 = .ok (.iload_n 2, 1) := by decide +kernel
theorem dX8_isSo_11 : decode cX8_isSo 11 = .ok (.iaload, 1) := by decide +kernel
theorem dX8_isSo_12 : decode cX8_isSo 12 = .ok (.if_icmp .ne 5, 3) := by decide +kernel
theorem dX8_isSo_15 : decode cX8_isSo 15 = .ok (.iconst 1, 1) := by decide +kernel
theorem dX8_isSo_16 : decode cX8_isSo 16 = .ok (.ireturn, 1) := by decide +kernel
theorem dX8_isSo_17 : decode cX8_isSo 17 = .ok (.iconst 0, 1) := by decide +kernel
theorem dX8_isSo_18 : decode cX8_isSo 18 = .ok (.istore_n 3, 1) := by decide +kernel
theorem dX8_isSo_19 : decode cX8_isSo 19 = .ok (.sipush 400, 3) := by decide +kernel
theorem dX8_isSo_22 : decode cX8_isSo 22 = .ok (.iload_n 1, 1) := by decide +kernel
theorem dX8_isSo_23 : decode cX8_isSo 23 = .ok (.imul, 1) := by decide +kernel
theorem dX8_isSo_24 : decode cX8_isSo 24 = .ok (.aload_n 0, 1) := by decide +kernel
theorem dX8_isSo_25 : decode cX8_isSo 25 = .ok (.getfield 49, 3) := by decide +kernel
theorem dX8_isSo_28 : decode cX8_isSo 28 = .ok (.iload_n 2, 1) := by decide +kernel
theorem dX8_isSo_29 : decode cX8_isSo 29 = .ok (.iaload, 1) := by decide +kernel
theorem dX8_isSo_30 : decode cX8_isSo 30 = .ok (.iadd, 1) := by decide +kernel
theorem dX8_isSo_31 : decode cX8_isSo 31 = .ok (.istore 4, 2) := by decide +kernel
theorem dX8_isSo_33 : decode cX8_isSo 33 = .ok (.iload 4, 2) := by decide +kernel
theorem dX8_isSo_35 : decode cX8_isSo 35 = .ok (.sipush 400, 3) := by decide +kernel
theorem dX8_isSo_38 : decode cX8_isSo 38 = .ok (.iload_n 1, 1) := by decide +kernel
theorem dX8_isSo_39 : decode cX8_isSo 39 = .ok (.imul, 1) := by decide +kernel
theorem dX8_isSo_40 : decode cX8_isSo 40 = .ok (.aload_n 0, 1) := by decide +kernel
theorem dX8_isSo_41 : decode cX8_isSo 41 = .ok (.getfield 52, 3) := by decide +kernel
theorem dX8_isSo_44 : decode cX8_isSo 44 = .ok (.iload_n 2, 1) := by decide +kernel
theorem dX8_isSo_45 : decode cX8_isSo 45 = .ok (.iaload, 1) := by decide +kernel
theorem dX8_isSo_46 : decode cX8_isSo 46 = .ok (.iadd, 1) := by decide +kernel
theorem dX8_isSo_47 : decode cX8_isSo 47 = .ok (.if_icmp .ge 145, 3) := by decide +kernel
theorem dX8_isSo_50 : decode cX8_isSo 50 = .ok (.aload_n 0, 1) := by decide +kernel
theorem dX8_isSo_51 : decode cX8_isSo 51 = .ok (.getfield 55, 3) := by decide +kernel
theorem dX8_isSo_54 : decode cX8_isSo 54 = .ok (.iload 4, 2) := by decide +kernel
theorem dX8_isSo_56 : decode cX8_isSo 56 = .ok (.iaload, 1) := by decide +kernel
theorem dX8_isSo_57 : decode cX8_isSo 57 = .ok (.ifCond .eq 14, 3) := by decide +kernel
theorem dX8_isSo_60 : decode cX8_isSo 60 = .ok (.aload_n 0, 1) := by decide +kernel
theorem dX8_isSo_61 : decode cX8_isSo 61 = .ok (.getfield 55, 3) := by decide +kernel
theorem dX8_isSo_64 : decode cX8_isSo 64 = .ok (.iload 4, 2) := by decide +kernel
theorem dX8_isSo_66 : decode cX8_isSo 66 = .ok (.iaload, 1) := by decide +kernel
theorem dX8_isSo_67 : decode cX8_isSo 67 = .ok (.iconst 1, 1) := by decide +kernel
theorem dX8_isSo_68 : decode cX8_isSo 68 = .ok (.if_icmp .ne 48, 3) := by decide +kernel
theorem dX8_isSo_71 : decode cX8_isSo 71 = .ok (.aload_n 0, 1) := by decide +kernel
theorem dX8_isSo_72 : decode cX8_isSo 72 = .ok (.getfield 71, 3) := by decide +kernel
theorem dX8_isSo_75 : decode cX8_isSo 75 = .ok (.iload_n 3, 1) := by decide +kernel
theorem dX8_isSo_76 : decode cX8_isSo 76 = .ok (.aload_n 0, 1) := by decide +kernel
theorem dX8_isSo_77 : decode cX8_isSo 77 = .ok (.getfield 55, 3) := by decide +kernel
theorem dX8_isSo_80 : decode cX8_isSo 80 = .ok (.iload 4, 2) := by decide +kernel
theorem dX8_isSo_82 : decode cX8_isSo 82 = .ok (.iaload, 1) := by decide +kernel
theorem dX8_isSo_83 : decode cX8_isSo 83 = .ok (.ifCond .ne 13, 3) := by decide +kernel
theorem dX8_isSo_86 : decode cX8_isSo 86 = .ok (.aload_n 0, 1) := by decide +kernel
theorem dX8_isSo_87 : decode cX8_isSo 87 = .ok (.getfield 58, 3) := by decide +kernel
theorem dX8_isSo_90 : decode cX8_isSo 90 = .ok (.iload 4, 2) := by decide +kernel
theorem dX8_isSo_92 : decode cX8_isSo 92 = .ok (.iaload, 1) := by decide +kernel
theorem dX8_isSo_93 : decode cX8_isSo 93 = .ok (.goto 15, 3) := by decide +kernel
theorem dX8_isSo_96 : decode cX8_isSo 96 = .ok (.aload_n 0, 1) := by decide +kernel
theorem dX8_isSo_97 : decode cX8_isSo 97 = .ok (.getfield 68, 3) := by decide +kernel
theorem dX8_isSo_100 : decode cX8_isSo 100 = .ok (.aload_n 0, 1) := by decide +kernel
theorem dX8_isSo_101 : decode cX8_isSo 101 = .ok (.getfield 58, 3) := by decide +kernel
theorem dX8_isSo_104 : decode cX8_isSo 104 = .ok (.iload 4, 2) := by decide +kernel
theorem dX8_isSo_106 : decode cX8_isSo 106 = .ok (.iaload, 1) := by decide +kernel
theorem dX8_isSo_107 : decode cX8_isSo 107 = .ok (.iaload, 1) := by decide +kernel
theorem dX8_isSo_108 : decode cX8_isSo 108 = .ok (.iastore, 1) := by decide +kernel
theorem dX8_isSo_109 : decode cX8_isSo 109 = .ok (.iload_n 3, 1) := by decide +kernel
theorem dX8_isSo_110 : decode cX8_isSo 110 = .ok (.iconst 1, 1) := by decide +kernel
theorem dX8_isSo_111 : decode cX8_isSo 111 = .ok (.iadd, 1) := by decide +kernel
theorem dX8_isSo_112 : decode cX8_isSo 112 = .ok (.istore_n 3, 1) := by decide +kernel
theorem dX8_isSo_113 : decode cX8_isSo 113 = .ok (.goto 73, 3) := by decide +kernel
theorem dX8_isSo_116 : decode cX8_isSo 116 = .ok (.aload_n 0, 1) := by decide +kernel
theorem dX8_isSo_117 : decode cX8_isSo 117 = .ok (.getfield 55, 3) := by decide +kernel
theorem dX8_isSo_120 : decode cX8_isSo 120 = .ok (.iload 4, 2) := by decide +kernel
theorem dX8_isSo_122 : decode cX8_isSo 122 = .ok (.iaload, 1) := by decide +kernel
theorem dX8_isSo_123 : decode cX8_isSo 123 = .ok (.bipush 9, 2) := by decide +kernel
theorem dX8_isSo_125 : decode cX8_isSo 125 = .ok (.if_icmp .ne 24, 3) := by decide +kernel
theorem dX8_isSo_128 : decode cX8_isSo 128 = .ok (.aload_n 0, 1) := by decide +kernel
theorem dX8_isSo_129 : decode cX8_isSo 129 = .ok (.getfield 71, 3) := by decide +kernel
theorem dX8_isSo_132 : decode cX8_isSo 132 = .ok (.iload_n 3, 1) := by decide +kernel
theorem dX8_isSo_133 : decode cX8_isSo 133 = .ok (.iconst 1, 1) := by decide +kernel
theorem dX8_isSo_134 : decode cX8_isSo 134 = .ok (.isub, 1) := by decide +kernel
theorem dX8_isSo_135 : decode cX8_isSo 135 = .ok (.iconst 1, 1) := by decide +kernel
theorem dX8_isSo_136 : decode cX8_isSo 136 = .ok (.aload_n 0, 1) := by decide +kernel
theorem dX8_isSo_137 : decode cX8_isSo 137 = .ok (.getfield 71, 3) := by decide +kernel
theorem dX8_isSo_140 : decode cX8_isSo 140 = .ok (.iload_n 3, 1) := by decide +kernel
theorem dX8_isSo_141 : decode cX8_isSo 141 = .ok (.iconst 1, 1) := by decide +kernel
theorem dX8_isSo_142 : decode cX8_isSo 142 = .ok (.isub, 1) := by decide +kernel
theorem dX8_isSo_143 : decode cX8_isSo 143 = .ok (.iaload, 1) := by decide +kernel
theorem dX8_isSo_144 : decode cX8_isSo 144 = .ok (.isub, 1) := by decide +kernel
theorem dX8_isSo_145 : decode cX8_isSo 145 = .ok (.iastore, 1) := by decide +kernel
theorem dX8_isSo_146 : decode cX8_isSo 146 = .ok (.goto 40, 3) := by decide +kernel
theorem dX8_isSo_149 : decode cX8_isSo 149 = .ok (.iload_n 3, 1) := by decide +kernel
theorem dX8_isSo_150 : decode cX8_isSo 150 = .ok (.iconst 1, 1) := by decide +kernel
theorem dX8_isSo_151 : decode cX8_isSo 151 = .ok (.isub, 1) := by decide +kernel
theorem dX8_isSo_152 : decode cX8_isSo 152 = .ok (.istore_n 3, 1) := by decide +kernel
theorem dX8_isSo_153 : decode cX8_isSo 153 = .ok (.aload_n 0, 1) := by decide +kernel
theorem dX8_isSo_154 : decode cX8_isSo 154 = .ok (.getfield 71, 3) := by decide +kernel
theorem dX8_isSo_157 : decode cX8_isSo 157 = .ok (.iload_n 3, 1) := by decide +kernel
theorem dX8_isSo_158 : decode cX8_isSo 158 = .ok (.iconst 1, 1) := by decide +kernel
theorem dX8_isSo_159 : decode cX8_isSo 159 = .ok (.isub, 1) := by decide +kernel
theorem dX8_isSo_160 : decode cX8_isSo 160 = .ok (.aload_n 0, 1) := by decide +kernel
theorem dX8_isSo_161 : decode cX8_isSo 161 = .ok (.aload_n 0, 1) := by decide +kernel
theorem dX8_isSo_162 : decode cX8_isSo 162 = .ok (.getfield 55, 3) := by decide +kernel
theorem dX8_isSo_165 : decode cX8_isSo 165 = .ok (.iload 4, 2) := by decide +kernel
theorem dX8_isSo_167 : decode cX8_isSo 167 = .ok (.iaload, 1) := by decide +kernel
theorem dX8_isSo_168 : decode cX8_isSo 168 = .ok (.aload_n 0, 1) := by decide +kernel
theorem dX8_isSo_169 : decode cX8_isSo 169 = .ok (.getfield 71, 3) := by decide +kernel
theorem dX8_isSo_172 : decode cX8_isSo 172 = .ok (.iload_n 3, 1) := by decide +kernel
theorem dX8_isSo_173 : decode cX8_isSo 173 = .ok (.iconst 1, 1) := by decide +kernel
theorem dX8_isSo_174 : decode cX8_isSo 174 = .ok (.isub, 1) := by decide +kernel
theorem dX8_isSo_175 : decode cX8_isSo 175 = .ok (.iaload, 1) := by decide +kernel
theorem dX8_isSo_176 : decode cX8_isSo 176 = .ok (.aload_n 0, 1) := by decide +kernel
theorem dX8_isSo_177 : decode cX8_isSo 177 = .ok (.getfield 71, 3) := by decide +kernel
theorem dX8_isSo_180 : decode cX8_isSo 180 = .ok (.iload_n 3, 1) := by decide +kernel
theorem dX8_isSo_181 : decode cX8_isSo 181 = .ok (.iaload, 1) := by decide +kernel
theorem dX8_isSo_182 : decode cX8_isSo 182 = .ok (.invokevirtual 227, 3) := by decide +kernel
theorem dX8_isSo_185 : decode cX8_isSo 185 = .ok (.iastore, 1) := by decide +kernel
theorem dX8_isSo_186 : decode cX8_isSo 186 = .ok (.iinc 4 1, 3) := by decide +kernel
theorem dX8_isSo_189 : decode cX8_isSo 189 = .ok (.goto (-156), 3) := by decide +kernel
theorem dX8_isSo_192 : decode cX8_isSo 192 = .ok (.aload_n 0, 1) := by decide +kernel
theorem dX8_isSo_193 : decode cX8_isSo 193 = .ok (.getfield 71, 3) := by decide +kernel
theorem dX8_isSo_196 : decode cX8_isSo 196 = .ok (.iconst 0, 1) := by decide +kernel
theorem dX8_isSo_197 : decode cX8_isSo 197 = .ok (.iaload, 1) := by decide +kernel
theorem dX8_isSo_198 : decode cX8_isSo 198 = .ok (.ifCond .eq 7, 3) := by decide +kernel
theorem dX8_isSo_201 : decode cX8_isSo 201 = .ok (.iconst 1, 1) := by decide +kernel
theorem dX8_isSo_202 : decode cX8_isSo 202 = .ok (.goto 4, 3) := by decide +kernel
theorem dX8_isSo_205 : decode cX8_isSo 205 = .ok (.iconst 0, 1) := by decide +kernel
theorem dX8_isSo_206 : decode cX8_isSo 206 = .ok (.ireturn, 1) := by decide +kernel
set_option maxRecDepth 20000 in
theorem wX8_isSo_186 {p : Program} {l : Launch} {e : Env} {s : State} {m : MethodId} {args : Array Value} {below : List Frame} {meth : Method} {c : Code} {Z : XG} {r : Int32} {S' : Mem} (E : XE p s m args meth c cX8_isSo 5 RX8 (some .boolean) mL Z) (k0 : Mem → Int32 → Int32 → Int32 → Int32 → O)  (hk0 : ∀ (S : Mem) (x1 x2 x3 x4 : Int32), k0 S x1 x2 x3 x4 = some (r, S') → WN p l e { frames := 1, cells := 0, slots := 0, locals := 23 } s m args below meth c mL Z (XQ mL Z r S') S 33 5 [(0, .ref (Z.2.1 0)), (1, .int x1), (2, .int x2), (3, .int x3), (4, .int x4)] []) : ∀ (S : Mem) (x1 x2 x3 x4 : Int32), fX8_isSo_186 k0 S x1 x2 x3 x4 = some (r, S') → WN p l e { frames := 1, cells := 0, slots := 0, locals := 23 } s m args below meth c mL Z (XQ mL Z r S') S 186 5 [(0, .ref (Z.2.1 0)), (1, .int x1), (2, .int x2), (3, .int x3), (4, .int x4)] [] := by
  obtain ⟨hx, hb, -, -, -, -, -, -, -, hQ⟩ := id E
  intro S x1 x2 x3 x4 h H locs ls X hl
  unfold fX8_isSo_186 at h
  refine lv_iinc (v := (x4 + (1 : Int32))) (lv' := [(4, .int (x4 + (1 : Int32))), (0, .ref (Z.2.1 0)), (1, .int x1), (2, .int x2), (3, .int x3)]) hx hb dX8_isSo_186 hl (k := 4) rfl rfl (by decide) rfl (fun ls hl => ?_)
  refine lv_goto (tgt := 33) hx hb dX8_isSo_189 (by decide) ?_
  exact hk0 S x1 x2 x3 (x4 + (1 : Int32)) h _ _ _ X (lv_sub hl [1, 2, 3, 4, 0] rfl)
set_option maxRecDepth 20000 in
theorem wX8_isSo_108 {p : Program} {l : Launch} {e : Env} {s : State} {m : MethodId} {args : Array Value} {below : List Frame} {meth : Method} {c : Code} {Z : XG} {r : Int32} {S' : Mem} (E : XE p s m args meth c cX8_isSo 5 RX8 (some .boolean) mL Z) (k0 : Mem → Int32 → Int32 → Int32 → Int32 → O)  (hk0 : ∀ (S : Mem) (x1 x2 x3 x4 : Int32), k0 S x1 x2 x3 x4 = some (r, S') → WN p l e { frames := 1, cells := 0, slots := 0, locals := 23 } s m args below meth c mL Z (XQ mL Z r S') S 33 5 [(0, .ref (Z.2.1 0)), (1, .int x1), (2, .int x2), (3, .int x3), (4, .int x4)] []) : ∀ (S : Mem) (x1 x2 x3 x4 s1 s2 : Int32), fX8_isSo_108 k0 S x1 x2 x3 x4 s1 s2 = some (r, S') → WN p l e { frames := 1, cells := 0, slots := 0, locals := 23 } s m args below meth c mL Z (XQ mL Z r S') S 108 5 [(0, .ref (Z.2.1 0)), (1, .int x1), (2, .int x2), (3, .int x3), (4, .int x4)] [.int s2, .int s1, .ref (Z.2.1 20)] := by
  obtain ⟨hx, hb, -, -, -, -, -, -, -, hQ⟩ := id E
  intro S x1 x2 x3 x4 s1 s2 h H locs ls X hl
  unfold fX8_isSo_108 at h
  obtain ⟨g_1, h⟩ := gd_s h
  obtain ⟨S_2, eS_2, h⟩ := ltm_s h
  refine x_iast E X rfl g_1 dX8_isSo_108 (fun H locs X => ?_)
  rw [← eS_2] at X
  refine lv_iload_n hx hb dX8_isSo_109 rfl (lv_at hl 3 rfl) ?_
  refine lv_iconst (v := (1 : Int32)) hx hb dX8_isSo_110 (by decide) ?_
  refine lv_iadd hx hb dX8_isSo_111 ?_
  obtain ⟨x3_3, ex3_3, h⟩ := lti_s h
  refine lv_nm ex3_3 ?_
  refine lv_istore_n (lv' := [(3, .int x3_3), (0, .ref (Z.2.1 0)), (1, .int x1), (2, .int x2), (4, .int x4)]) hx hb dX8_isSo_112 rfl hl (by decide) rfl (fun ls hl => ?_)
  refine lv_goto (tgt := 186) hx hb dX8_isSo_113 (by decide) ?_
  exact wX8_isSo_186 E k0 hk0 S_2 x1 x2 x3_3 x4 h _ _ _ X (lv_sub hl [1, 2, 3, 0, 4] rfl)
set_option maxRecDepth 20000 in
theorem wX8_isSo_71 {p : Program} {l : Launch} {e : Env} {s : State} {m : MethodId} {args : Array Value} {below : List Frame} {meth : Method} {c : Code} {Z : XG} {r : Int32} {S' : Mem} (E : XE p s m args meth c cX8_isSo 5 RX8 (some .boolean) mL Z) (k0 : Mem → Int32 → Int32 → Int32 → Int32 → O)  (hk0 : ∀ (S : Mem) (x1 x2 x3 x4 : Int32), k0 S x1 x2 x3 x4 = some (r, S') → WN p l e { frames := 1, cells := 0, slots := 0, locals := 23 } s m args below meth c mL Z (XQ mL Z r S') S 33 5 [(0, .ref (Z.2.1 0)), (1, .int x1), (2, .int x2), (3, .int x3), (4, .int x4)] []) : ∀ (S : Mem) (x1 x2 x3 x4 : Int32), fX8_isSo_71 k0 S x1 x2 x3 x4 = some (r, S') → WN p l e { frames := 1, cells := 0, slots := 0, locals := 23 } s m args below meth c mL Z (XQ mL Z r S') S 71 5 [(0, .ref (Z.2.1 0)), (1, .int x1), (2, .int x2), (3, .int x3), (4, .int x4)] [] := by
  obtain ⟨hx, hb, -, -, -, -, -, -, -, hQ⟩ := id E
  intro S x1 x2 x3 x4 h H locs ls X hl
  unfold fX8_isSo_71 at h
  refine lv_aload_n hx hb dX8_isSo_71 rfl (lv_at hl 0 rfl) ?_
  refine x_getr E X ffX8_71 rfl rfl dX8_isSo_72 ?_
  refine lv_iload_n hx hb dX8_isSo_75 rfl (lv_at hl 3 rfl) ?_
  refine lv_aload_n hx hb dX8_isSo_76 rfl (lv_at hl 0 rfl) ?_
  refine x_getr E X ffX8_55 rfl rfl dX8_isSo_77 ?_
  refine lv_iload hx hb dX8_isSo_80 (lv_at hl 4 rfl) ?_
  obtain ⟨g_1, h⟩ := gd_s h
  refine x_iald E X rfl g_1 dX8_isSo_82 ?_
  refine lv_if_ne (tgt := 96) hx hb dX8_isSo_83 (by decide) (fun c_2 => ?_) (fun c_2 => ?_)
  · have h := if_f c_2 h
    refine lv_aload_n hx hb dX8_isSo_96 rfl (lv_at hl 0 rfl) ?_
    refine x_getr E X ffX8_68 rfl rfl dX8_isSo_97 ?_
    refine lv_aload_n hx hb dX8_isSo_100 rfl (lv_at hl 0 rfl) ?_
    refine x_getr E X ffX8_58 rfl rfl dX8_isSo_101 ?_
    refine lv_iload hx hb dX8_isSo_104 (lv_at hl 4 rfl) ?_
    obtain ⟨g_3, h⟩ := gd_s h
    refine x_iald E X rfl g_3 dX8_isSo_106 ?_
    obtain ⟨g_4, h⟩ := gd_s h
    refine x_iald E X rfl g_4 dX8_isSo_107 ?_
    exact wX8_isSo_108 E k0 hk0 S x1 x2 x3 x4 x3 (S 19 ((S 17 (x4).toNatClampNeg)).toNatClampNeg) h _ _ _ X hl
  · have h := if_t c_2 h
    refine lv_aload_n hx hb dX8_isSo_86 rfl (lv_at hl 0 rfl) ?_
    refine x_getr E X ffX8_58 rfl rfl dX8_isSo_87 ?_
    refine lv_iload hx hb dX8_isSo_90 (lv_at hl 4 rfl) ?_
    obtain ⟨g_5, h⟩ := gd_s h
    refine x_iald E X rfl g_5 dX8_isSo_92 ?_
    refine lv_goto (tgt := 108) hx hb dX8_isSo_93 (by decide) ?_
    exact wX8_isSo_108 E k0 hk0 S x1 x2 x3 x4 x3 (S 17 (x4).toNatClampNeg) h _ _ _ X hl
set_option maxRecDepth 20000 in
theorem wX8_isSo_33_b {p : Program} {l : Launch} {e : Env} {s : State} {m : MethodId} {args : Array Value} {below : List Frame} {meth : Method} {c : Code} {Z : XG} {r : Int32} {S' : Mem} (E : XE p s m args meth c cX8_isSo 5 RX8 (some .boolean) mL Z) (k0 : Mem → Int32 → Int32 → Int32 → Int32 → O)  (hk0 : ∀ (S : Mem) (x1 x2 x3 x4 : Int32), k0 S x1 x2 x3 x4 = some (r, S') → WN p l e { frames := 1, cells := 0, slots := 0, locals := 23 } s m args below meth c mL Z (XQ mL Z r S') S 33 5 [(0, .ref (Z.2.1 0)), (1, .int x1), (2, .int x2), (3, .int x3), (4, .int x4)] []) : ∀ (S : Mem) (x1 x2 x3 x4 : Int32), fX8_isSo_33_b k0 S x1 x2 x3 x4 = some (r, S') → WN p l e { frames := 1, cells := 0, slots := 0, locals := 23 } s m args below meth c mL Z (XQ mL Z r S') S 33 5 [(0, .ref (Z.2.1 0)), (1, .int x1), (2, .int x2), (3, .int x3), (4, .int x4)] [] := by
  obtain ⟨hx, hb, -, -, -, -, -, -, -, hQ⟩ := id E
  intro S x1 x2 x3 x4 h H locs ls X hl
  unfold fX8_isSo_33_b at h
  refine lv_iload hx hb dX8_isSo_33 (lv_at hl 4 rfl) ?_
  refine lv_sipush (v := (400 : Int32)) hx hb dX8_isSo_35 (by decide) ?_
  refine lv_iload_n hx hb dX8_isSo_38 rfl (lv_at hl 1 rfl) ?_
  refine lv_imul hx hb dX8_isSo_39 ?_
  refine lv_aload_n hx hb dX8_isSo_40 rfl (lv_at hl 0 rfl) ?_
  refine x_getr E X ffX8_52 rfl rfl dX8_isSo_41 ?_
  refine lv_iload_n hx hb dX8_isSo_44 rfl (lv_at hl 2 rfl) ?_
  obtain ⟨g_1, h⟩ := gd_s h
  refine x_iald E X rfl g_1 dX8_isSo_45 ?_
  refine lv_iadd hx hb dX8_isSo_46 ?_
  refine lv_icmp_ge (tgt := 192) hx hb dX8_isSo_47 (by decide) (fun c_2 => ?_) (fun c_2 => ?_)
  · have h := if_t c_2 h
    refine lv_aload_n hx hb dX8_isSo_192 rfl (lv_at hl 0 rfl) ?_
    refine x_getr E X ffX8_71 rfl rfl dX8_isSo_193 ?_
    refine lv_iconst (v := (0 : Int32)) hx hb dX8_isSo_196 (by decide) ?_
    refine x_iald E X rfl (by decide) dX8_isSo_197 ?_
    refine lv_if_eq (tgt := 205) hx hb dX8_isSo_198 (by decide) (fun c_3 => ?_) (fun c_3 => ?_)
    · have h := if_t c_3 h
      refine lv_iconst (v := (0 : Int32)) hx hb dX8_isSo_205 (by decide) ?_
      exact x_zret E X rfl h dX8_isSo_206
    · have h := if_f c_3 h
      refine lv_iconst (v := (1 : Int32)) hx hb dX8_isSo_201 (by decide) ?_
      refine lv_goto (tgt := 206) hx hb dX8_isSo_202 (by decide) ?_
      exact x_zret E X rfl h dX8_isSo_206
  · have h := if_f c_2 h
    refine lv_aload_n hx hb dX8_isSo_50 rfl (lv_at hl 0 rfl) ?_
    refine x_getr E X ffX8_55 rfl rfl dX8_isSo_51 ?_
    refine lv_iload hx hb dX8_isSo_54 (lv_at hl 4 rfl) ?_
    obtain ⟨g_4, h⟩ := gd_s h
    refine x_iald E X rfl g_4 dX8_isSo_56 ?_
    refine lv_if_eq (tgt := 71) hx hb dX8_isSo_57 (by decide) (fun c_5 => ?_) (fun c_5 => ?_)
    · have h := if_t c_5 h
      exact wX8_isSo_71 E k0 hk0 S x1 x2 x3 x4 h _ _ _ X hl
    · have h := if_f c_5 h
      refine lv_aload_n hx hb dX8_isSo_60 rfl (lv_at hl 0 rfl) ?_
      refine x_getr E X ffX8_55 rfl rfl dX8_isSo_61 ?_
      refine lv_iload hx hb dX8_isSo_64 (lv_at hl 4 rfl) ?_
      obtain ⟨g_6, h⟩ := gd_s h
      refine x_iald E X rfl g_6 dX8_isSo_66 ?_
      refine lv_iconst (v := (1 : Int32)) hx hb dX8_isSo_67 (by decide) ?_
      refine lv_icmp_ne (tgt := 116) hx hb dX8_isSo_68 (by decide) (fun c_7 => ?_) (fun c_7 => ?_)
      · have h := if_f c_7 h
        refine lv_aload_n hx hb dX8_isSo_116 rfl (lv_at hl 0 rfl) ?_
        refine x_getr E X ffX8_55 rfl rfl dX8_isSo_117 ?_
        refine lv_iload hx hb dX8_isSo_120 (lv_at hl 4 rfl) ?_
        obtain ⟨g_8, h⟩ := gd_s h
        refine x_iald E X rfl g_8 dX8_isSo_122 ?_
        refine lv_bipush (v := (9 : Int32)) hx hb dX8_isSo_123 (by decide) ?_
        refine lv_icmp_ne (tgt := 149) hx hb dX8_isSo_125 (by decide) (fun c_9 => ?_) (fun c_9 => ?_)
        · have h := if_f c_9 h
          refine lv_iload_n hx hb dX8_isSo_149 rfl (lv_at hl 3 rfl) ?_
          refine lv_iconst (v := (1 : Int32)) hx hb dX8_isSo_150 (by decide) ?_
          refine lv_isub hx hb dX8_isSo_151 ?_
          obtain ⟨x3_10, ex3_10, h⟩ := lti_s h
          refine lv_nm ex3_10 ?_
          refine lv_istore_n (lv' := [(3, .int x3_10), (0, .ref (Z.2.1 0)), (1, .int x1), (2, .int x2), (4, .int x4)]) hx hb dX8_isSo_152 rfl hl (by decide) rfl (fun ls hl => ?_)
          refine lv_aload_n hx hb dX8_isSo_153 rfl (lv_at hl 1 rfl) ?_
          refine x_getr E X ffX8_71 rfl rfl dX8_isSo_154 ?_
          refine lv_iload_n hx hb dX8_isSo_157 rfl (lv_at hl 0 rfl) ?_
          refine lv_iconst (v := (1 : Int32)) hx hb dX8_isSo_158 (by decide) ?_
          refine lv_isub hx hb dX8_isSo_159 ?_
          refine lv_aload_n hx hb dX8_isSo_160 rfl (lv_at hl 1 rfl) ?_
          refine lv_aload_n hx hb dX8_isSo_161 rfl (lv_at hl 1 rfl) ?_
          refine x_getr E X ffX8_55 rfl rfl dX8_isSo_162 ?_
          refine lv_iload hx hb dX8_isSo_165 (lv_at hl 4 rfl) ?_
          obtain ⟨g_11, h⟩ := gd_s h
          refine x_iald E X rfl g_11 dX8_isSo_167 ?_
          refine lv_aload_n hx hb dX8_isSo_168 rfl (lv_at hl 1 rfl) ?_
          refine x_getr E X ffX8_71 rfl rfl dX8_isSo_169 ?_
          refine lv_iload_n hx hb dX8_isSo_172 rfl (lv_at hl 0 rfl) ?_
          refine lv_iconst (v := (1 : Int32)) hx hb dX8_isSo_173 (by decide) ?_
          refine lv_isub hx hb dX8_isSo_174 ?_
          obtain ⟨g_12, h⟩ := gd_s h
          refine x_iald E X rfl g_12 dX8_isSo_175 ?_
          refine lv_aload_n hx hb dX8_isSo_176 rfl (lv_at hl 1 rfl) ?_
          refine x_getr E X ffX8_71 rfl rfl dX8_isSo_177 ?_
          refine lv_iload_n hx hb dX8_isSo_180 rfl (lv_at hl 0 rfl) ?_
          obtain ⟨g_13, h⟩ := gd_s h
          refine x_iald E X rfl g_13 dX8_isSo_181 ?_
          obtain ⟨r_14, S_15, hr_14, h⟩ := bnd_s h
          refine x_callV E X cwX8_227 (mX8_twoOf l Z hQ  (S 16 (x4).toNatClampNeg) (S 20 ((x3_10 - (1 : Int32))).toNatClampNeg) (S 20 (x3_10).toNatClampNeg) hr_14) rfl rfl rfl rfl hl.1 rfl dX8_isSo_182 (fun H locs X => ?_)
          obtain ⟨g_16, h⟩ := gd_s h
          obtain ⟨S_17, eS_17, h⟩ := ltm_s h
          refine x_iast E X rfl g_16 dX8_isSo_185 (fun H locs X => ?_)
          rw [← eS_17] at X
          exact wX8_isSo_186 E k0 hk0 S_17 x1 x2 x3_10 x4 h _ _ _ X (lv_sub hl [1, 2, 3, 0, 4] rfl)
        · have h := if_t c_9 h
          refine lv_aload_n hx hb dX8_isSo_128 rfl (lv_at hl 0 rfl) ?_
          refine x_getr E X ffX8_71 rfl rfl dX8_isSo_129 ?_
          refine lv_iload_n hx hb dX8_isSo_132 rfl (lv_at hl 3 rfl) ?_
          refine lv_iconst (v := (1 : Int32)) hx hb dX8_isSo_133 (by decide) ?_
          refine lv_isub hx hb dX8_isSo_134 ?_
          refine lv_iconst (v := (1 : Int32)) hx hb dX8_isSo_135 (by decide) ?_
          refine lv_aload_n hx hb dX8_isSo_136 rfl (lv_at hl 0 rfl) ?_
          refine x_getr E X ffX8_71 rfl rfl dX8_isSo_137 ?_
          refine lv_iload_n hx hb dX8_isSo_140 rfl (lv_at hl 3 rfl) ?_
          refine lv_iconst (v := (1 : Int32)) hx hb dX8_isSo_141 (by decide) ?_
          refine lv_isub hx hb dX8_isSo_142 ?_
          obtain ⟨g_18, h⟩ := gd_s h
          refine x_iald E X rfl g_18 dX8_isSo_143 ?_
          refine lv_isub hx hb dX8_isSo_144 ?_
          obtain ⟨g_19, h⟩ := gd_s h
          obtain ⟨S_20, eS_20, h⟩ := ltm_s h
          refine x_iast E X rfl g_19 dX8_isSo_145 (fun H locs X => ?_)
          rw [← eS_20] at X
          refine lv_goto (tgt := 186) hx hb dX8_isSo_146 (by decide) ?_
          exact wX8_isSo_186 E k0 hk0 S_20 x1 x2 x3 x4 h _ _ _ X hl
      · have h := if_t c_7 h
        exact wX8_isSo_71 E k0 hk0 S x1 x2 x3 x4 h _ _ _ X hl
theorem wX8_isSo_33 {p : Program} {l : Launch} {e : Env} {s : State} {m : MethodId} {args : Array Value} {below : List Frame} {meth : Method} {c : Code} {Z : XG} {r : Int32} {S' : Mem} (E : XE p s m args meth c cX8_isSo 5 RX8 (some .boolean) mL Z) : ∀ (n : Nat) (S : Mem) (x1 x2 x3 x4 : Int32), fX8_isSo_33 n S x1 x2 x3 x4 = some (r, S') → WN p l e { frames := 1, cells := 0, slots := 0, locals := 23 } s m args below meth c mL Z (XQ mL Z r S') S 33 5 [(0, .ref (Z.2.1 0)), (1, .int x1), (2, .int x2), (3, .int x3), (4, .int x4)] [] := by
  intro n
  induction n with
  | zero => intro S x1 x2 x3 x4 h; exact absurd (show (none : O) = some _ from h) (by simp)
  | succ n ih => intro S x1 x2 x3 x4 h; exact wX8_isSo_33_b E (fX8_isSo_33 n) ih S x1 x2 x3 x4 h
set_option maxRecDepth 20000 in
theorem wX8_isSo {p : Program} {l : Launch} {e : Env} {s : State} {m : MethodId} {args : Array Value} {below : List Frame} {meth : Method} {c : Code} {Z : XG} {r : Int32} {S' : Mem} (E : XE p s m args meth c cX8_isSo 5 RX8 (some .boolean) mL Z) : ∀ (S : Mem) (x1 x2 : Int32), fX8_isSo  S x1 x2 = some (r, S') → WN p l e { frames := 1, cells := 0, slots := 0, locals := 23 } s m args below meth c mL Z (XQ mL Z r S') S 0 5 [(0, .ref (Z.2.1 0)), (1, .int x1), (2, .int x2)] [] := by
  obtain ⟨hx, hb, -, -, -, -, -, -, -, hQ⟩ := id E
  intro S x1 x2 h H locs ls X hl
  unfold fX8_isSo at h
  refine lv_aload_n hx hb dX8_isSo_0 rfl (lv_at hl 0 rfl) ?_
  refine x_getr E X ffX8_49 rfl rfl dX8_isSo_1 ?_
  refine lv_iload_n hx hb dX8_isSo_4 rfl (lv_at hl 2 rfl) ?_
  obtain ⟨g_1, h⟩ := gd_s h
  refine x_iald E X rfl g_1 dX8_isSo_5 ?_
  refine lv_aload_n hx hb dX8_isSo_6 rfl (lv_at hl 0 rfl) ?_
  refine x_getr E X ffX8_52 rfl rfl dX8_isSo_7 ?_
  refine lv_iload_n hx hb dX8_isSo_10 rfl (lv_at hl 2 rfl) ?_
  obtain ⟨g_2, h⟩ := gd_s h
  refine x_iald E X rfl g_2 dX8_isSo_11 ?_
  refine lv_icmp_ne (tgt := 17) hx hb dX8_isSo_12 (by decide) (fun c_3 => ?_) (fun c_3 => ?_)
  · have h := if_f c_3 h
    refine lv_iconst (v := (0 : Int32)) hx hb dX8_isSo_17 (by decide) ?_
    refine lv_istore_n (lv' := [(3, .int (0 : Int32)), (0, .ref (Z.2.1 0)), (1, .int x1), (2, .int x2)]) hx hb dX8_isSo_18 rfl hl (by decide) rfl (fun ls hl => ?_)
    refine lv_sipush (v := (400 : Int32)) hx hb dX8_isSo_19 (by decide) ?_
    refine lv_iload_n hx hb dX8_isSo_22 rfl (lv_at hl 2 rfl) ?_
    refine lv_imul hx hb dX8_isSo_23 ?_
    refine lv_aload_n hx hb dX8_isSo_24 rfl (lv_at hl 1 rfl) ?_
    refine x_getr E X ffX8_49 rfl rfl dX8_isSo_25 ?_
    refine lv_iload_n hx hb dX8_isSo_28 rfl (lv_at hl 3 rfl) ?_
    obtain ⟨g_4, h⟩ := gd_s h
    refine x_iald E X rfl g_4 dX8_isSo_29 ?_
    refine lv_iadd hx hb dX8_isSo_30 ?_
    obtain ⟨x4_5, ex4_5, h⟩ := lti_s h
    refine lv_nm ex4_5 ?_
    refine lv_istore (lv' := [(4, .int x4_5), (3, .int (0 : Int32)), (0, .ref (Z.2.1 0)), (1, .int x1), (2, .int x2)]) hx hb dX8_isSo_31 hl (by decide) rfl (fun ls hl => ?_)
    exact wX8_isSo_33 E   FU S x1 x2 (0 : Int32) x4_5 h _ _ _ X (lv_sub hl [2, 3, 4, 1, 0] rfl)
  · have h := if_t c_3 h
    refine lv_iconst (v := (1 : Int32)) hx hb dX8_isSo_15 (by decide) ?_
    exact x_zret E X rfl h dX8_isSo_16
/-- SevenToAShadowModel.isSo(II)Z -/
theorem mX8_isSo (l : Launch) (Z : XG) (hQ : wQ (List.length mL) Z) {S S' : Mem} {r : Int32} (x1 x2 : Int32) (h : fX8_isSo S x1 x2 = some (r, S')) : XM l yX8_isSo cX8_isSo 5 (some .boolean) { frames := 1, cells := 0, slots := 0, locals := 23 } mL Z [.ref (Z.2.1 0), .int x1, .int x2] S (XQ mL Z r S') := by
  refine XM.of (own := RX8) (by decide +kernel) rfl rfl hQ (fun p e s m args below meth c E ls hl X => ?_)
  exact wX8_isSo E S x1 x2 h _ _ _ X hl
