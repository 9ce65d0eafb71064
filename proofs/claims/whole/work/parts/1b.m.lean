def fX8_reads_26 (k0 : Mem → O) (S : Mem) : O := ltm (mset S 0 17 ((S 0 17) + (1 : Int32))) fun S_1 => k0 S_1 
def fX8_reads_223 (k0 : Mem → O) (S : Mem) (s1 : Int32) : O := ltm (mset S 0 20 s1) fun S_1 => ltm (mset S_1 0 17 ((S_1 0 17) + (1 : Int32))) fun S_2 => k0 S_2 
def fX8_reads_171_b (k0 : Mem → O) (S : Mem) : O := bnd (fX8_raw S (S 0 17)) fun r_1 S_2 => bnd (fX8_isDigit S_2 r_1) fun r_3 S_4 => (if r_3 = 0 then (if (5 : Int32) ≤ ((S_4 0 17) - (S_4 0 18)) then some ((0 : Int32), S_4) else ltm (mset S_4 0 19 (3 : Int32)) fun S_7 => some ((0 : Int32), S_7)) else (if (10000 : Int32) ≤ (S_4 0 20) then fX8_reads_223 k0 S_4 (S_4 0 20) else bnd (fX8_raw S_4 (S_4 0 17)) fun r_9 S_10 => fX8_reads_223 k0 S_10 ((((10 : Int32) * (S_4 0 20)) + r_9) - (48 : Int32))))
def fX8_reads_171 : Nat → Mem → O
  | 0 => fun _ => none
  | n + 1 => fX8_reads_171_b (fX8_reads_171 n)
def fX8_reads_95_b (k0 : Mem → O) (S : Mem) : O := bnd (fX8_raw S (S 0 17)) fun r_1 S_2 => bnd (fX8_isLetter S_2 r_1) fun r_3 S_4 => (if r_3 = 0 then bnd (fX8_wordAt S_4 (S_4 0 18) (S_4 0 17)) fun r_6 S_7 => ltm (mset S_7 0 20 r_6) fun S_8 => (if (S_8 0 20) = (-1 : Int32) then some ((0 : Int32), S_8) else ltm (mset S_8 0 19 (2 : Int32)) fun S_10 => some ((0 : Int32), S_10)) else ltm (mset S_4 0 17 ((S_4 0 17) + (1 : Int32))) fun S_11 => k0 S_11 )
def fX8_reads_95 : Nat → Mem → O
  | 0 => fun _ => none
  | n + 1 => fX8_reads_95_b (fX8_reads_95 n)
def fX8_reads_0_b (k0 : Mem → O) (S : Mem) : O := bnd (fX8_raw S (S 0 17)) fun r_1 S_2 => (if r_1 = (32 : Int32) then fX8_reads_26 k0 S_2  else bnd (fX8_raw S_2 (S_2 0 17)) fun r_4 S_5 => (if r_4 = (10 : Int32) then fX8_reads_26 k0 S_5  else ltm (mset S_5 0 18 (S_5 0 17)) fun S_7 => ltm (mset S_7 0 19 (1 : Int32)) fun S_8 => bnd (fX8_raw S_8 (S_8 0 17)) fun r_9 S_10 => (if r_9 = (-1 : Int32) then ltm (mset S_10 0 19 (0 : Int32)) fun S_25 => some ((0 : Int32), S_25) else ltm (mset S_10 0 17 ((S_10 0 17) + (1 : Int32))) fun S_12 => ltm (mset S_12 0 20 r_9) fun S_13 => bnd (fX8_isLetter S_13 r_9) fun r_14 S_15 => (if r_14 = 0 then bnd (fX8_isDigit S_15 r_9) fun r_17 S_18 => (if r_17 = 0 then bnd (fX8_isMarkSign S_18 r_9) fun r_20 S_21 => (if r_20 = 0 then some ((0 : Int32), S_21) else ltm (mset S_21 0 19 (4 : Int32)) fun S_23 => some ((0 : Int32), S_23)) else ltm (mset S_18 0 20 (r_9 - (48 : Int32))) fun S_24 => fX8_reads_171  FU S_24 ) else fX8_reads_95  FU S_15 ))))
def fX8_reads_0 : Nat → Mem → O
  | 0 => fun _ => none
  | n + 1 => fX8_reads_0_b (fX8_reads_0 n)
def fX8_reads (S : Mem) : O := fX8_reads_0 FU S 
theorem dX8_reads_0 : decode cX8_reads 0 = .ok (.aload_n 0, 1) := by decide +kernel
theorem dX8_reads_1 : decode cX8_reads 1 = .ok (.aload_n 0, 1) := by decide +kernel
theorem dX8_reads_2 : decode cX8_reads 2 = .ok (.getfield 137, 3) := by decide +kernel
theorem dX8_reads_5 : decode cX8_reads 5 = .ok (.invokevirtual 140, 3) := by decide +kernel
theorem dX8_reads_8 : decode cX8_reads 8 = .ok (.bipush 32, 2) := by decide +kernel
theorem dX8_reads_10 : decode cX8_reads 10 = .ok (.if_icmp .eq 16, 3) := by decide +kernel
theorem dX8_reads_13 : decode cX8_reads 13 = .ok (.aload_n 0, 1) := by decide +kernel
theorem dX8_reads_14 : decode cX8_reads 14 = .ok (.aload_n 0, 1) := by decide +kernel
theorem dX8_reads_15 : decode cX8_reads 15 = .ok (.getfield 137, 3) := by decide +kernel
theorem dX8_reads_18 : decode cX8_reads 18 = .ok (.invokevirtual 140, 3) := by decide +kernel
theorem dX8_reads_21 : decode cX8_reads 21 = .ok (.bipush 10, 2) := by decide +kernel
theorem dX8_reads_23 : decode cX8_reads 23 = .ok (.if_icmp .ne 16, 3) := by decide +kernel
theorem dX8_reads_26 : decode cX8_reads 26 = .ok (.aload_n 0, 1) := by decide +kernel
theorem dX8_reads_27 : decode cX8_reads 27 = .ok (.aload_n 0, 1) := by decide +kernel
theorem dX8_reads_28 : decode cX8_reads 28 = .ok (.getfield 137, 3) := by decide +kernel
theorem dX8_reads_31 : decode cX8_reads 31 = .ok (.iconst 1, 1) := by decide +kernel
theorem dX8_reads_32 : decode cX8_reads 32 = .ok (.iadd, 1) := by decide +kernel
theorem dX8_reads_33 : decode cX8_reads 33 = .ok (.putfield 137, 3) := by decide +kernel
theorem dX8_reads_36 : decode cX8_reads 36 = .ok (.goto (-36), 3) := by decide +kernel
theorem dX8_reads_39 : decode cX8_reads 39 = .ok (.aload_n 0, 1) := by decide +kernel
theorem dX8_reads_40 : decode cX8_reads 40 = .ok (.aload_n 0, 1) := by decide +kernel
theorem dX8_reads_41 : decode cX8_reads 41 = .ok (.getfield 137, 3) := by decide +kernel
theorem dX8_reads_44 : decode cX8_reads 44 = .ok (.putfield 143, 3) := by decide +kernel
theorem dX8_reads_47 : decode cX8_reads 47 = .ok (.aload_n 0, 1) := by decide +kernel
theorem dX8_reads_48 : decode cX8_reads 48 = .ok (.iconst 1, 1) := by decide +kernel
theorem dX8_reads_49 : decode cX8_reads 49 = .ok (.putfield 146, 3) := by decide +kernel
theorem dX8_reads_52 : decode cX8_reads 52 = .ok (.aload_n 0, 1) := by decide +kernel
theorem dX8_reads_53 : decode cX8_reads 53 = .ok (.aload_n 0, 1) := by decide +kernel
theorem dX8_reads_54 : decode cX8_reads 54 = .ok (.getfield 137, 3) := by decide +kernel
theorem dX8_reads_57 : decode cX8_reads 57 = .ok (.invokevirtual 140, 3) := by decide +kernel
theorem dX8_reads_60 : decode cX8_reads 60 = .ok (.istore_n 1, 1) := by decide +kernel
theorem dX8_reads_61 : decode cX8_reads 61 = .ok (.iload_n 1, 1) := by decide +kernel
theorem dX8_reads_62 : decode cX8_reads 62 = .ok (.iconst (-1), 1) := by decide +kernel
theorem dX8_reads_63 : decode cX8_reads 63 = .ok (.if_icmp .ne 9, 3) := by decide +kernel
theorem dX8_reads_66 : decode cX8_reads 66 = .ok (.aload_n 0, 1) := by decide +kernel
theorem dX8_reads_67 : decode cX8_reads 67 = .ok (.iconst 0, 1) := by decide +kernel
theorem dX8_reads_68 : decode cX8_reads 68 = .ok (.putfield 146, 3) := by decide +kernel
theorem dX8_reads_71 : decode cX8_reads 71 = .ok (.return_, 1) := by decide +kernel
theorem dX8_reads_72 : decode cX8_reads 72 = .ok (.aload_n 0, 1) := by decide +kernel
theorem dX8_reads_73 : decode cX8_reads 73 = .ok (.aload_n 0, 1) := by decide +kernel
theorem dX8_reads_74 : decode cX8_reads 74 = .ok (.getfield 137, 3) := by decide +kernel
theorem dX8_reads_77 : decode cX8_reads 77 = .ok (.iconst 1, 1) := by decide +kernel
theorem dX8_reads_78 : decode cX8_reads 78 = .ok (.iadd, 1) := by decide +kernel
theorem dX8_reads_79 : decode cX8_reads 79 = .ok (.putfield 137, 3) := by decide +kernel
theorem dX8_reads_82 : decode cX8_reads 82 = .ok (.aload_n 0, 1) := by decide +kernel
theorem dX8_reads_83 : decode cX8_reads 83 = .ok (.iload_n 1, 1) := by decide +kernel
theorem dX8_reads_84 : decode cX8_reads 84 = .ok (.putfield 149, 3) := by decide +kernel
theorem dX8_reads_87 : decode cX8_reads 87 = .ok (.aload_n 0, 1) := by decide +kernel
theorem dX8_reads_88 : decode cX8_reads 88 = .ok (.iload_n 1, 1) := by decide +kernel
theorem dX8_reads_89 : decode cX8_reads 89 = .ok (.invokevirtual 152, 3) := by decide +kernel
theorem dX8_reads_92 : decode cX8_reads 92 = .ok (.ifCond .eq 63, 3) := by decide +kernel
theorem dX8_reads_95 : decode cX8_reads 95 = .ok (.aload_n 0, 1) := by decide +kernel
theorem dX8_reads_96 : decode cX8_reads 96 = .ok (.aload_n 0, 1) := by decide +kernel
theorem dX8_reads_97 : decode cX8_reads 97 = .ok (.aload_n 0, 1) := by decide +kernel
theorem dX8_reads_98 : decode cX8_reads 98 = .ok (.getfield 137, 3) := by decide +kernel
theorem dX8_reads_101 : decode cX8_reads 101 = .ok (.invokevirtual 140, 3) := by decide +kernel
theorem dX8_reads_104 : decode cX8_reads 104 = .ok (.invokevirtual 152, 3) := by decide +kernel
theorem dX8_reads_107 : decode cX8_reads 107 = .ok (.ifCond .eq 16, 3) := by decide +kernel
theorem dX8_reads_110 : decode cX8_reads 110 = .ok (.aload_n 0, 1) := by decide +kernel
theorem dX8_reads_111 : decode cX8_reads 111 = .ok (.aload_n 0, 1) := by decide +kernel
theorem dX8_reads_112 : decode cX8_reads 112 = .ok (.getfield 137, 3) := by decide +kernel
theorem dX8_reads_115 : decode cX8_reads 115 = .ok (.iconst 1, 1) := by decide +kernel
theorem dX8_reads_116 : decode cX8_reads 116 = .ok (.iadd, 1) := by decide +kernel
theorem dX8_reads_117 : decode cX8_reads 117 = .ok (.putfield 137, 3) := by decide +kernel
theorem dX8_reads_120 : decode cX8_reads 120 = .ok (.goto (-25), 3) := by decide +kernel
theorem dX8_reads_123 : decode cX8_reads 123 = .ok (.aload_n 0, 1) := by decide +kernel
theorem dX8_reads_124 : decode cX8_reads 124 = .ok (.aload_n 0, 1) := by decide +kernel
theorem dX8_reads_125 : decode cX8_reads 125 = .ok (.aload_n 0, 1) := by decide +kernel
theorem dX8_reads_126 : decode cX8_reads 126 = .ok (.getfield 143, 3) := by decide +kernel
theorem dX8_reads_129 : decode cX8_reads 129 = .ok (.aload_n 0, 1) := by decide +kernel
theorem dX8_reads_130 : decode cX8_reads 130 = .ok (.getfield 137, 3) := by decide +kernel
theorem dX8_reads_133 : decode cX8_reads 133 = .ok (.invokevirtual 155, 3) := by decide +kernel
theorem dX8_reads_136 : decode cX8_reads 136 = .ok (.putfield 149, 3) := by decide +kernel
theorem dX8_reads_139 : decode cX8_reads 139 = .ok (.aload_n 0, 1) := by decide +kernel
theorem dX8_reads_140 : decode cX8_reads 140 = .ok (.getfield 149, 3) := by decide +kernel
theorem dX8_reads_143 : decode cX8_reads 143 = .ok (.iconst (-1), 1) := by decide +kernel
theorem dX8_reads_144 : decode cX8_reads 144 = .ok (.if_icmp .eq 129, 3) := by decide +kernel
theorem dX8_reads_147 : decode cX8_reads 147 = .ok (.aload_n 0, 1) := by decide +kernel
theorem dX8_reads_148 : decode cX8_reads 148 = .ok (.iconst 2, 1) := by decide +kernel
theorem dX8_reads_149 : decode cX8_reads 149 = .ok (.putfield 146, 3) := by decide +kernel
theorem dX8_reads_152 : decode cX8_reads 152 = .ok (.goto 121, 3) := by decide +kernel
theorem dX8_reads_155 : decode cX8_reads 155 = .ok (.aload_n 0, 1) := by decide +kernel
theorem dX8_reads_156 : decode cX8_reads 156 = .ok (.iload_n 1, 1) := by decide +kernel
theorem dX8_reads_157 : decode cX8_reads 157 = .ok (.invokevirtual 159, 3) := by decide +kernel
theorem dX8_reads_160 : decode cX8_reads 160 = .ok (.ifCond .eq 100, 3) := by decide +kernel
theorem dX8_reads_163 : decode cX8_reads 163 = .ok (.aload_n 0, 1) := by decide +kernel
theorem dX8_reads_164 : decode cX8_reads 164 = .ok (.iload_n 1, 1) := by decide +kernel
theorem dX8_reads_165 : decode cX8_reads 165 = .ok (.bipush 48, 2) := by decide +kernel
theorem dX8_reads_167 : decode cX8_reads 167 = .ok (.isub, 1) := by decide +kernel
theorem dX8_reads_168 : decode cX8_reads 168 = .ok (.putfield 149, 3) := by decide +kernel
theorem dX8_reads_171 : decode cX8_reads 171 = .ok (.aload_n 0, 1) := by decide +kernel
theorem dX8_reads_172 : decode cX8_reads 172 = .ok (.aload_n 0, 1) := by decide +kernel
theorem dX8_reads_173 : decode cX8_reads 173 = .ok (.aload_n 0, 1) := by decide +kernel
theorem dX8_reads_174 : decode cX8_reads 174 = .ok (.getfield 137, 3) := by decide +kernel
theorem dX8_reads_177 : decode cX8_reads 177 = .ok (.invokevirtual 140, 3) := by decide +kernel
theorem dX8_reads_180 : decode cX8_reads 180 = .ok (.invokevirtual 159, 3) := by decide +kernel
theorem dX8_reads_183 : decode cX8_reads 183 = .ok (.ifCond .eq 56, 3) := by decide +kernel
theorem dX8_reads_186 : decode cX8_reads 186 = .ok (.aload_n 0, 1) := by decide +kernel
theorem dX8_reads_187 : decode cX8_reads 187 = .ok (.aload_n 0, 1) := by decide +kernel
theorem dX8_reads_188 : decode cX8_reads 188 = .ok (.getfield 149, 3) := by decide +kernel
theorem dX8_reads_191 : decode cX8_reads 191 = .ok (.sipush 10000, 3) := by decide +kernel
theorem dX8_reads_194 : decode cX8_reads 194 = .ok (.if_icmp .ge 25, 3) := by decide +kernel
theorem dX8_reads_197 : decode cX8_reads 197 = .ok (.bipush 10, 2) := by decide +kernel
theorem dX8_reads_199 : decode cX8_reads 199 = .ok (.aload_n 0, 1) := by decide +kernel
theorem dX8_reads_200 : decode cX8_reads 200 = .ok (.getfield 149, 3) := by decide +kernel
theorem dX8_reads_203 : decode cX8_reads 203 = .ok (.imul, 1) := by decide +kernel
theorem dX8_reads_204 : decode cX8_reads 204 = .ok (.aload_n 0, 1) := by decide +kernel
theorem dX8_reads_205 : decode cX8_reads 205 = .ok (.aload_n 0, 1) := by decide +kernel
theorem dX8_reads_206 : decode cX8_reads 206 = .ok (.getfield 137, 3) := by decide +kernel
theorem dX8_reads_209 : decode cX8_reads 209 = .ok (.invokevirtual 140, 3) := by decide +kernel
theorem dX8_reads_212 : decode cX8_reads 212 = .ok (.iadd, 1) := by decide +kernel
theorem dX8_reads_213 : decode cX8_reads 213 = .ok (.bipush 48, 2) := by decide +kernel
theorem dX8_reads_215 : decode cX8_reads 215 = .ok (.isub, 1) := by decide +kernel
theorem dX8_reads_216 : decode cX8_reads 216 = .ok (.goto 7, 3) := by decide +kernel
theorem dX8_reads_219 : decode cX8_reads 219 = .ok (.aload_n 0, 1) := by decide +kernel
theorem dX8_reads_220 : decode cX8_reads 220 = .ok (.getfield 149, 3) := by decide +kernel
theorem dX8_reads_223 : decode cX8_reads 223 = .ok (.putfield 149, 3) := by decide +kernel
theorem dX8_reads_226 : decode cX8_reads 226 = .ok (.aload_n 0, 1) := by decide +kernel
theorem dX8_reads_227 : decode cX8_reads 227 = .ok (.aload_n 0, 1) := by decide +kernel
theorem dX8_reads_228 : decode cX8_reads 228 = .ok (.getfield 137, 3) := by decide +kernel
theorem dX8_reads_231 : decode cX8_reads 231 = .ok (.iconst 1, 1) := by decide +kernel
theorem dX8_reads_232 : decode cX8_reads 232 = .ok (.iadd, 1) := by decide +kernel
theorem dX8_reads_233 : decode cX8_reads 233 = .ok (.putfield 137, 3) := by decide +kernel
theorem dX8_reads_236 : decode cX8_reads 236 = .ok (.goto (-65), 3) := by decide +kernel
theorem dX8_reads_239 : decode cX8_reads 239 = .ok (.aload_n 0, 1) := by decide +kernel
theorem dX8_reads_240 : decode cX8_reads 240 = .ok (.getfield 137, 3) := by decide +kernel
theorem dX8_reads_243 : decode cX8_reads 243 = .ok (.aload_n 0, 1) := by decide +kernel
theorem dX8_reads_244 : decode cX8_reads 244 = .ok (.getfield 143, 3) := by decide +kernel
theorem dX8_reads_247 : decode cX8_reads 247 = .ok (.isub, 1) := by decide +kernel
theorem dX8_reads_248 : decode cX8_reads 248 = .ok (.iconst 5, 1) := by decide +kernel
theorem dX8_reads_249 : decode cX8_reads 249 = .ok (.if_icmp .ge 24, 3) := by decide +kernel
theorem dX8_reads_252 : decode cX8_reads 252 = .ok (.aload_n 0, 1) := by decide +kernel
theorem dX8_reads_253 : decode cX8_reads 253 = .ok (.iconst 3, 1) := by decide +kernel
theorem dX8_reads_254 : decode cX8_reads 254 = .ok (.putfield 146, 3) := by decide +kernel
theorem dX8_reads_257 : decode cX8_reads 257 = .ok (.goto 16, 3) := by decide +kernel
theorem dX8_reads_260 : decode cX8_reads 260 = .ok (.aload_n 0, 1) := by decide +kernel
theorem dX8_reads_261 : decode cX8_reads 261 = .ok (.iload_n 1, 1) := by decide +kernel
theorem dX8_reads_262 : decode cX8_reads 262 = .ok (.invokevirtual 162, 3) := by decide +kernel
theorem dX8_reads_265 : decode cX8_reads 265 = .ok (.ifCond .eq 8, 3) := by decide +kernel
theorem dX8_reads_268 : decode cX8_reads 268 = .ok (.aload_n 0, 1) := by decide +kernel
theorem dX8_reads_269 : decode cX8_reads 269 = .ok (.iconst 4, 1) := by decide +kernel
theorem dX8_reads_270 : decode cX8_reads 270 = .ok (.putfield 146, 3) := by decide +kernel
theorem dX8_reads_273 : decode cX8_reads 273 = .ok (.return_, 1) := by decide +kernel
set_option maxRecDepth 20000 in
theorem wX8_reads_26 {p : Program} {l : Launch} {e : Env} {s : State} {m : MethodId} {args : Array Value} {below : List Frame} {meth : Method} {c : Code} {Z : XG} {r : Int32} {S' : Mem} (E : XE p s m args meth c cX8_reads 2 RX8 none mL Z) (k0 : Mem → O)  (hk0 : ∀ (S : Mem), k0 S  = some (r, S') → WN p l e { frames := 2, cells := 0, slots := 0, locals := 44 } s m args below meth c mL Z (XV mL Z S') S 0 2 [(0, .ref (Z.2.1 0))] []) : ∀ (S : Mem), fX8_reads_26 k0 S  = some (r, S') → WN p l e { frames := 2, cells := 0, slots := 0, locals := 44 } s m args below meth c mL Z (XV mL Z S') S 26 2 [(0, .ref (Z.2.1 0))] [] := by
  obtain ⟨hx, hb, -, -, -, -, -, -, -, hQ⟩ := id E
  intro S  h H locs ls X hl
  unfold fX8_reads_26 at h
  refine lv_aload_n hx hb dX8_reads_26 rfl (lv_at hl 0 rfl) ?_
  refine lv_aload_n hx hb dX8_reads_27 rfl (lv_at hl 0 rfl) ?_
  refine x_get E X ffX8_137 rfl rfl dX8_reads_28 ?_
  refine lv_iconst (v := (1 : Int32)) hx hb dX8_reads_31 (by decide) ?_
  refine lv_iadd hx hb dX8_reads_32 ?_
  obtain ⟨S_1, eS_1, h⟩ := ltm_s h
  refine x_put E X fpX8_137 rfl rfl dX8_reads_33 (fun H locs X => ?_)
  rw [← eS_1] at X
  refine lv_goto (tgt := 0) hx hb dX8_reads_36 (by decide) ?_
  exact hk0 S_1  h _ _ _ X hl
set_option maxRecDepth 20000 in
theorem wX8_reads_223 {p : Program} {l : Launch} {e : Env} {s : State} {m : MethodId} {args : Array Value} {below : List Frame} {meth : Method} {c : Code} {Z : XG} {r : Int32} {S' : Mem} (E : XE p s m args meth c cX8_reads 2 RX8 none mL Z) (k0 : Mem → O)  (hk0 : ∀ (S : Mem), k0 S  = some (r, S') → WN p l e { frames := 2, cells := 0, slots := 0, locals := 44 } s m args below meth c mL Z (XV mL Z S') S 171 2 [(0, .ref (Z.2.1 0))] []) : ∀ (S : Mem) (s1 : Int32), fX8_reads_223 k0 S s1 = some (r, S') → WN p l e { frames := 2, cells := 0, slots := 0, locals := 44 } s m args below meth c mL Z (XV mL Z S') S 223 2 [(0, .ref (Z.2.1 0))] [.int s1, .ref (Z.2.1 0)] := by
  obtain ⟨hx, hb, -, -, -, -, -, -, -, hQ⟩ := id E
  intro S s1 h H locs ls X hl
  unfold fX8_reads_223 at h
  obtain ⟨S_1, eS_1, h⟩ := ltm_s h
  refine x_put E X fpX8_149 rfl rfl dX8_reads_223 (fun H locs X => ?_)
  rw [← eS_1] at X
  refine lv_aload_n hx hb dX8_reads_226 rfl (lv_at hl 0 rfl) ?_
  refine lv_aload_n hx hb dX8_reads_227 rfl (lv_at hl 0 rfl) ?_
  refine x_get E X ffX8_137 rfl rfl dX8_reads_228 ?_
  refine lv_iconst (v := (1 : Int32)) hx hb dX8_reads_231 (by decide) ?_
  refine lv_iadd hx hb dX8_reads_232 ?_
  obtain ⟨S_2, eS_2, h⟩ := ltm_s h
  refine x_put E X fpX8_137 rfl rfl dX8_reads_233 (fun H locs X => ?_)
  rw [← eS_2] at X
  refine lv_goto (tgt := 171) hx hb dX8_reads_236 (by decide) ?_
  exact hk0 S_2  h _ _ _ X hl
set_option maxRecDepth 20000 in
theorem wX8_reads_171_b {p : Program} {l : Launch} {e : Env} {s : State} {m : MethodId} {args : Array Value} {below : List Frame} {meth : Method} {c : Code} {Z : XG} {r : Int32} {S' : Mem} (E : XE p s m args meth c cX8_reads 2 RX8 none mL Z) (k0 : Mem → O)  (hk0 : ∀ (S : Mem), k0 S  = some (r, S') → WN p l e { frames := 2, cells := 0, slots := 0, locals := 44 } s m args below meth c mL Z (XV mL Z S') S 171 2 [(0, .ref (Z.2.1 0))] []) : ∀ (S : Mem), fX8_reads_171_b k0 S  = some (r, S') → WN p l e { frames := 2, cells := 0, slots := 0, locals := 44 } s m args below meth c mL Z (XV mL Z S') S 171 2 [(0, .ref (Z.2.1 0))] [] := by
  obtain ⟨hx, hb, -, -, -, -, -, -, -, hQ⟩ := id E
  intro S  h H locs ls X hl
  unfold fX8_reads_171_b at h
  refine lv_aload_n hx hb dX8_reads_171 rfl (lv_at hl 0 rfl) ?_
  refine lv_aload_n hx hb dX8_reads_172 rfl (lv_at hl 0 rfl) ?_
  refine lv_aload_n hx hb dX8_reads_173 rfl (lv_at hl 0 rfl) ?_
  refine x_get E X ffX8_137 rfl rfl dX8_reads_174 ?_
  obtain ⟨r_1, S_2, hr_1, h⟩ := bnd_s h
  refine x_callV E X cwX8_140 (mX8_raw l Z hQ  (S 0 17) hr_1) rfl rfl rfl rfl hl.1 rfl dX8_reads_177 (fun H locs X => ?_)
  obtain ⟨r_3, S_4, hr_3, h⟩ := bnd_s h
  refine x_callV E X cwX8_159 (mX8_isDigit l Z hQ  r_1 hr_3) rfl rfl rfl rfl hl.1 rfl dX8_reads_180 (fun H locs X => ?_)
  refine lv_if_eq (tgt := 239) hx hb dX8_reads_183 (by decide) (fun c_5 => ?_) (fun c_5 => ?_)
  · have h := if_t c_5 h
    refine lv_aload_n hx hb dX8_reads_239 rfl (lv_at hl 0 rfl) ?_
    refine x_get E X ffX8_137 rfl rfl dX8_reads_240 ?_
    refine lv_aload_n hx hb dX8_reads_243 rfl (lv_at hl 0 rfl) ?_
    refine x_get E X ffX8_143 rfl rfl dX8_reads_244 ?_
    refine lv_isub hx hb dX8_reads_247 ?_
    refine lv_iconst (v := (5 : Int32)) hx hb dX8_reads_248 (by decide) ?_
    refine lv_icmp_ge (tgt := 273) hx hb dX8_reads_249 (by decide) (fun c_6 => ?_) (fun c_6 => ?_)
    · have h := if_t c_6 h
      exact x_vret E X h dX8_reads_273
    · have h := if_f c_6 h
      refine lv_aload_n hx hb dX8_reads_252 rfl (lv_at hl 0 rfl) ?_
      refine lv_iconst (v := (3 : Int32)) hx hb dX8_reads_253 (by decide) ?_
      obtain ⟨S_7, eS_7, h⟩ := ltm_s h
      refine x_put E X fpX8_146 rfl rfl dX8_reads_254 (fun H locs X => ?_)
      rw [← eS_7] at X
      refine lv_goto (tgt := 273) hx hb dX8_reads_257 (by decide) ?_
      exact x_vret E X h dX8_reads_273
  · have h := if_f c_5 h
    refine lv_aload_n hx hb dX8_reads_186 rfl (lv_at hl 0 rfl) ?_
    refine lv_aload_n hx hb dX8_reads_187 rfl (lv_at hl 0 rfl) ?_
    refine x_get E X ffX8_149 rfl rfl dX8_reads_188 ?_
    refine lv_sipush (v := (10000 : Int32)) hx hb dX8_reads_191 (by decide) ?_
    refine lv_icmp_ge (tgt := 219) hx hb dX8_reads_194 (by decide) (fun c_8 => ?_) (fun c_8 => ?_)
    · have h := if_t c_8 h
      refine lv_aload_n hx hb dX8_reads_219 rfl (lv_at hl 0 rfl) ?_
      refine x_get E X ffX8_149 rfl rfl dX8_reads_220 ?_
      exact wX8_reads_223 E k0 hk0 S_4 (S_4 0 20) h _ _ _ X hl
    · have h := if_f c_8 h
      refine lv_bipush (v := (10 : Int32)) hx hb dX8_reads_197 (by decide) ?_
      refine lv_aload_n hx hb dX8_reads_199 rfl (lv_at hl 0 rfl) ?_
      refine x_get E X ffX8_149 rfl rfl dX8_reads_200 ?_
      refine lv_imul hx hb dX8_reads_203 ?_
      refine lv_aload_n hx hb dX8_reads_204 rfl (lv_at hl 0 rfl) ?_
      refine lv_aload_n hx hb dX8_reads_205 rfl (lv_at hl 0 rfl) ?_
      refine x_get E X ffX8_137 rfl rfl dX8_reads_206 ?_
      obtain ⟨r_9, S_10, hr_9, h⟩ := bnd_s h
      refine x_callV E X cwX8_140 (mX8_raw l Z hQ  (S_4 0 17) hr_9) rfl rfl rfl rfl hl.1 rfl dX8_reads_209 (fun H locs X => ?_)
      refine lv_iadd hx hb dX8_reads_212 ?_
      refine lv_bipush (v := (48 : Int32)) hx hb dX8_reads_213 (by decide) ?_
      refine lv_isub hx hb dX8_reads_215 ?_
      refine lv_goto (tgt := 223) hx hb dX8_reads_216 (by decide) ?_
      exact wX8_reads_223 E k0 hk0 S_10 ((((10 : Int32) * (S_4 0 20)) + r_9) - (48 : Int32)) h _ _ _ X hl
theorem wX8_reads_171 {p : Program} {l : Launch} {e : Env} {s : State} {m : MethodId} {args : Array Value} {below : List Frame} {meth : Method} {c : Code} {Z : XG} {r : Int32} {S' : Mem} (E : XE p s m args meth c cX8_reads 2 RX8 none mL Z) : ∀ (n : Nat) (S : Mem), fX8_reads_171 n S  = some (r, S') → WN p l e { frames := 2, cells := 0, slots := 0, locals := 44 } s m args below meth c mL Z (XV mL Z S') S 171 2 [(0, .ref (Z.2.1 0))] [] := by
  intro n
  induction n with
  | zero => intro S  h; exact absurd (show (none : O) = some _ from h) (by simp)
  | succ n ih => intro S  h; exact wX8_reads_171_b E (fX8_reads_171 n) ih S  h
set_option maxRecDepth 20000 in
theorem wX8_reads_95_b {p : Program} {l : Launch} {e : Env} {s : State} {m : MethodId} {args : Array Value} {below : List Frame} {meth : Method} {c : Code} {Z : XG} {r : Int32} {S' : Mem} (E : XE p s m args meth c cX8_reads 2 RX8 none mL Z) (k0 : Mem → O)  (hk0 : ∀ (S : Mem), k0 S  = some (r, S') → WN p l e { frames := 2, cells := 0, slots := 0, locals := 44 } s m args below meth c mL Z (XV mL Z S') S 95 2 [(0, .ref (Z.2.1 0))] []) : ∀ (S : Mem), fX8_reads_95_b k0 S  = some (r, S') → WN p l e { frames := 2, cells := 0, slots := 0, locals := 44 } s m args below meth c mL Z (XV mL Z S') S 95 2 [(0, .ref (Z.2.1 0))] [] := by
  obtain ⟨hx, hb, -, -, -, -, -, -, -, hQ⟩ := id E
  intro S  h H locs ls X hl
  unfold fX8_reads_95_b at h
  refine lv_aload_n hx hb dX8_reads_95 rfl (lv_at hl 0 rfl) ?_
  refine lv_aload_n hx hb dX8_reads_96 rfl (lv_at hl 0 rfl) ?_
  refine lv_aload_n hx hb dX8_reads_97 rfl (lv_at hl 0 rfl) ?_
  refine x_get E X ffX8_137 rfl rfl dX8_reads_98 ?_
  obtain ⟨r_1, S_2, hr_1, h⟩ := bnd_s h
  refine x_callV E X cwX8_140 (mX8_raw l Z hQ  (S 0 17) hr_1) rfl rfl rfl rfl hl.1 rfl dX8_reads_101 (fun H locs X => ?_)
  obtain ⟨r_3, S_4, hr_3, h⟩ := bnd_s h
  refine x_callV E X cwX8_152 (mX8_isLetter l Z hQ  r_1 hr_3) rfl rfl rfl rfl hl.1 rfl dX8_reads_104 (fun H locs X => ?_)
  refine lv_if_eq (tgt := 123) hx hb dX8_reads_107 (by decide) (fun c_5 => ?_) (fun c_5 => ?_)
  · have h := if_t c_5 h
    refine lv_aload_n hx hb dX8_reads_123 rfl (lv_at hl 0 rfl) ?_
    refine lv_aload_n hx hb dX8_reads_124 rfl (lv_at hl 0 rfl) ?_
    refine lv_aload_n hx hb dX8_reads_125 rfl (lv_at hl 0 rfl) ?_
    refine x_get E X ffX8_143 rfl rfl dX8_reads_126 ?_
    refine lv_aload_n hx hb dX8_reads_129 rfl (lv_at hl 0 rfl) ?_
    refine x_get E X ffX8_137 rfl rfl dX8_reads_130 ?_
    obtain ⟨r_6, S_7, hr_6, h⟩ := bnd_s h
    refine x_callV E X cwX8_155 (mX8_wordAt l Z hQ  (S_4 0 18) (S_4 0 17) hr_6) rfl rfl rfl rfl hl.1 rfl dX8_reads_133 (fun H locs X => ?_)
    obtain ⟨S_8, eS_8, h⟩ := ltm_s h
    refine x_put E X fpX8_149 rfl rfl dX8_reads_136 (fun H locs X => ?_)
    rw [← eS_8] at X
    refine lv_aload_n hx hb dX8_reads_139 rfl (lv_at hl 0 rfl) ?_
    refine x_get E X ffX8_149 rfl rfl dX8_reads_140 ?_
    refine lv_iconst (v := (-1 : Int32)) hx hb dX8_reads_143 (by decide) ?_
    refine lv_icmp_eq (tgt := 273) hx hb dX8_reads_144 (by decide) (fun c_9 => ?_) (fun c_9 => ?_)
    · have h := if_t c_9 h
      exact x_vret E X h dX8_reads_273
    · have h := if_f c_9 h
      refine lv_aload_n hx hb dX8_reads_147 rfl (lv_at hl 0 rfl) ?_
      refine lv_iconst (v := (2 : Int32)) hx hb dX8_reads_148 (by decide) ?_
      obtain ⟨S_10, eS_10, h⟩ := ltm_s h
      refine x_put E X fpX8_146 rfl rfl dX8_reads_149 (fun H locs X => ?_)
      rw [← eS_10] at X
      refine lv_goto (tgt := 273) hx hb dX8_reads_152 (by decide) ?_
      exact x_vret E X h dX8_reads_273
  · have h := if_f c_5 h
    refine lv_aload_n hx hb dX8_reads_110 rfl (lv_at hl 0 rfl) ?_
    refine lv_aload_n hx hb dX8_reads_111 rfl (lv_at hl 0 rfl) ?_
    refine x_get E X ffX8_137 rfl rfl dX8_reads_112 ?_
    refine lv_iconst (v := (1 : Int32)) hx hb dX8_reads_115 (by decide) ?_
    refine lv_iadd hx hb dX8_reads_116 ?_
    obtain ⟨S_11, eS_11, h⟩ := ltm_s h
    refine x_put E X fpX8_137 rfl rfl dX8_reads_117 (fun H locs X => ?_)
    rw [← eS_11] at X
    refine lv_goto (tgt := 95) hx hb dX8_reads_120 (by decide) ?_
    exact hk0 S_11  h _ _ _ X hl
theorem wX8_reads_95 {p : Program} {l : Launch} {e : Env} {s : State} {m : MethodId} {args : Array Value} {below : List Frame} {meth : Method} {c : Code} {Z : XG} {r : Int32} {S' : Mem} (E : XE p s m args meth c cX8_reads 2 RX8 none mL Z) : ∀ (n : Nat) (S : Mem), fX8_reads_95 n S  = some (r, S') → WN p l e { frames := 2, cells := 0, slots := 0, locals := 44 } s m args below meth c mL Z (XV mL Z S') S 95 2 [(0, .ref (Z.2.1 0))] [] := by
  intro n
  induction n with
  | zero => intro S  h; exact absurd (show (none : O) = some _ from h) (by simp)
  | succ n ih => intro S  h; exact wX8_reads_95_b E (fX8_reads_95 n) ih S  h
set_option maxRecDepth 20000 in
theorem wX8_reads_0_b {p : Program} {l : Launch} {e : Env} {s : State} {m : MethodId} {args : Array Value} {below : List Frame} {meth : Method} {c : Code} {Z : XG} {r : Int32} {S' : Mem} (E : XE p s m args meth c cX8_reads 2 RX8 none mL Z) (k0 : Mem → O)  (hk0 : ∀ (S : Mem), k0 S  = some (r, S') → WN p l e { frames := 2, cells := 0, slots := 0, locals := 44 } s m args below meth c mL Z (XV mL Z S') S 0 2 [(0, .ref (Z.2.1 0))] []) : ∀ (S : Mem), fX8_reads_0_b k0 S  = some (r, S') → WN p l e { frames := 2, cells := 0, slots := 0, locals := 44 } s m args below meth c mL Z (XV mL Z S') S 0 2 [(0, .ref (Z.2.1 0))] [] := by
  obtain ⟨hx, hb, -, -, -, -, -, -, -, hQ⟩ := id E
  intro S  h H locs ls X hl
  unfold fX8_reads_0_b at h
  refine lv_aload_n hx hb dX8_reads_0 rfl (lv_at hl 0 rfl) ?_
  refine lv_aload_n hx hb dX8_reads_1 rfl (lv_at hl 0 rfl) ?_
  refine x_get E X ffX8_137 rfl rfl dX8_reads_2 ?_
  obtain ⟨r_1, S_2, hr_1, h⟩ := bnd_s h
  refine x_callV E X cwX8_140 (mX8_raw l Z hQ  (S 0 17) hr_1) rfl rfl rfl rfl hl.1 rfl dX8_reads_5 (fun H locs X => ?_)
  refine lv_bipush (v := (32 : Int32)) hx hb dX8_reads_8 (by decide) ?_
  refine lv_icmp_eq (tgt := 26) hx hb dX8_reads_10 (by decide) (fun c_3 => ?_) (fun c_3 => ?_)
  · have h := if_t c_3 h
    exact wX8_reads_26 E k0 hk0 S_2  h _ _ _ X hl
  · have h := if_f c_3 h
    refine lv_aload_n hx hb dX8_reads_13 rfl (lv_at hl 0 rfl) ?_
    refine lv_aload_n hx hb dX8_reads_14 rfl (lv_at hl 0 rfl) ?_
    refine x_get E X ffX8_137 rfl rfl dX8_reads_15 ?_
    obtain ⟨r_4, S_5, hr_4, h⟩ := bnd_s h
    refine x_callV E X cwX8_140 (mX8_raw l Z hQ  (S_2 0 17) hr_4) rfl rfl rfl rfl hl.1 rfl dX8_reads_18 (fun H locs X => ?_)
    refine lv_bipush (v := (10 : Int32)) hx hb dX8_reads_21 (by decide) ?_
    refine lv_icmp_ne (tgt := 39) hx hb dX8_reads_23 (by decide) (fun c_6 => ?_) (fun c_6 => ?_)
    · have h := if_f c_6 h
      refine lv_aload_n hx hb dX8_reads_39 rfl (lv_at hl 0 rfl) ?_
      refine lv_aload_n hx hb dX8_reads_40 rfl (lv_at hl 0 rfl) ?_
      refine x_get E X ffX8_137 rfl rfl dX8_reads_41 ?_
      obtain ⟨S_7, eS_7, h⟩ := ltm_s h
      refine x_put E X fpX8_143 rfl rfl dX8_reads_44 (fun H locs X => ?_)
      rw [← eS_7] at X
      refine lv_aload_n hx hb dX8_reads_47 rfl (lv_at hl 0 rfl) ?_
      refine lv_iconst (v := (1 : Int32)) hx hb dX8_reads_48 (by decide) ?_
      obtain ⟨S_8, eS_8, h⟩ := ltm_s h
      refine x_put E X fpX8_146 rfl rfl dX8_reads_49 (fun H locs X => ?_)
      rw [← eS_8] at X
      refine lv_aload_n hx hb dX8_reads_52 rfl (lv_at hl 0 rfl) ?_
      refine lv_aload_n hx hb dX8_reads_53 rfl (lv_at hl 0 rfl) ?_
      refine x_get E X ffX8_137 rfl rfl dX8_reads_54 ?_
      obtain ⟨r_9, S_10, hr_9, h⟩ := bnd_s h
      refine x_callV E X cwX8_140 (mX8_raw l Z hQ  (S_8 0 17) hr_9) rfl rfl rfl rfl hl.1 rfl dX8_reads_57 (fun H locs X => ?_)
      refine lv_istore_n (lv' := [(1, .int r_9), (0, .ref (Z.2.1 0))]) hx hb dX8_reads_60 rfl hl (by decide) rfl (fun ls hl => ?_)
      refine lv_iload_n hx hb dX8_reads_61 rfl (lv_at hl 0 rfl) ?_
      refine lv_iconst (v := (-1 : Int32)) hx hb dX8_reads_62 (by decide) ?_
      refine lv_icmp_ne (tgt := 72) hx hb dX8_reads_63 (by decide) (fun c_11 => ?_) (fun c_11 => ?_)
      · have h := if_f c_11 h
        refine lv_aload_n hx hb dX8_reads_72 rfl (lv_at hl 1 rfl) ?_
        refine lv_aload_n hx hb dX8_reads_73 rfl (lv_at hl 1 rfl) ?_
        refine x_get E X ffX8_137 rfl rfl dX8_reads_74 ?_
        refine lv_iconst (v := (1 : Int32)) hx hb dX8_reads_77 (by decide) ?_
        refine lv_iadd hx hb dX8_reads_78 ?_
        obtain ⟨S_12, eS_12, h⟩ := ltm_s h
        refine x_put E X fpX8_137 rfl rfl dX8_reads_79 (fun H locs X => ?_)
        rw [← eS_12] at X
        refine lv_aload_n hx hb dX8_reads_82 rfl (lv_at hl 1 rfl) ?_
        refine lv_iload_n hx hb dX8_reads_83 rfl (lv_at hl 0 rfl) ?_
        obtain ⟨S_13, eS_13, h⟩ := ltm_s h
        refine x_put E X fpX8_149 rfl rfl dX8_reads_84 (fun H locs X => ?_)
        rw [← eS_13] at X
        refine lv_aload_n hx hb dX8_reads_87 rfl (lv_at hl 1 rfl) ?_
        refine lv_iload_n hx hb dX8_reads_88 rfl (lv_at hl 0 rfl) ?_
        obtain ⟨r_14, S_15, hr_14, h⟩ := bnd_s h
        refine x_callV E X cwX8_152 (mX8_isLetter l Z hQ  r_9 hr_14) rfl rfl rfl rfl hl.1 rfl dX8_reads_89 (fun H locs X => ?_)
        refine lv_if_eq (tgt := 155) hx hb dX8_reads_92 (by decide) (fun c_16 => ?_) (fun c_16 => ?_)
        · have h := if_t c_16 h
          refine lv_aload_n hx hb dX8_reads_155 rfl (lv_at hl 1 rfl) ?_
          refine lv_iload_n hx hb dX8_reads_156 rfl (lv_at hl 0 rfl) ?_
          obtain ⟨r_17, S_18, hr_17, h⟩ := bnd_s h
          refine x_callV E X cwX8_159 (mX8_isDigit l Z hQ  r_9 hr_17) rfl rfl rfl rfl hl.1 rfl dX8_reads_157 (fun H locs X => ?_)
          refine lv_if_eq (tgt := 260) hx hb dX8_reads_160 (by decide) (fun c_19 => ?_) (fun c_19 => ?_)
          · have h := if_t c_19 h
            refine lv_aload_n hx hb dX8_reads_260 rfl (lv_at hl 1 rfl) ?_
            refine lv_iload_n hx hb dX8_reads_261 rfl (lv_at hl 0 rfl) ?_
            obtain ⟨r_20, S_21, hr_20, h⟩ := bnd_s h
            refine x_callV E X cwX8_162 (mX8_isMarkSign l Z hQ  r_9 hr_20) rfl rfl rfl rfl hl.1 rfl dX8_reads_262 (fun H locs X => ?_)
            refine lv_if_eq (tgt := 273) hx hb dX8_reads_265 (by decide) (fun c_22 => ?_) (fun c_22 => ?_)
            · have h := if_t c_22 h
              exact x_vret E X h dX8_reads_273
            · have h := if_f c_22 h
              refine lv_aload_n hx hb dX8_reads_268 rfl (lv_at hl 1 rfl) ?_
              refine lv_iconst (v := (4 : Int32)) hx hb dX8_reads_269 (by decide) ?_
              obtain ⟨S_23, eS_23, h⟩ := ltm_s h
              refine x_put E X fpX8_146 rfl rfl dX8_reads_270 (fun H locs X => ?_)
              rw [← eS_23] at X
              exact x_vret E X h dX8_reads_273
          · have h := if_f c_19 h
            refine lv_aload_n hx hb dX8_reads_163 rfl (lv_at hl 1 rfl) ?_
            refine lv_iload_n hx hb dX8_reads_164 rfl (lv_at hl 0 rfl) ?_
            refine lv_bipush (v := (48 : Int32)) hx hb dX8_reads_165 (by decide) ?_
            refine lv_isub hx hb dX8_reads_167 ?_
            obtain ⟨S_24, eS_24, h⟩ := ltm_s h
            refine x_put E X fpX8_149 rfl rfl dX8_reads_168 (fun H locs X => ?_)
            rw [← eS_24] at X
            exact wX8_reads_171 E   FU S_24  h _ _ _ X (lv_sub hl [1] rfl)
        · have h := if_f c_16 h
          exact wX8_reads_95 E   FU S_15  h _ _ _ X (lv_sub hl [1] rfl)
      · have h := if_t c_11 h
        refine lv_aload_n hx hb dX8_reads_66 rfl (lv_at hl 1 rfl) ?_
        refine lv_iconst (v := (0 : Int32)) hx hb dX8_reads_67 (by decide) ?_
        obtain ⟨S_25, eS_25, h⟩ := ltm_s h
        refine x_put E X fpX8_146 rfl rfl dX8_reads_68 (fun H locs X => ?_)
        rw [← eS_25] at X
        exact x_vret E X h dX8_reads_71
    · have h := if_t c_6 h
      exact wX8_reads_26 E k0 hk0 S_5  h _ _ _ X hl
theorem wX8_reads_0 {p : Program} {l : Launch} {e : Env} {s : State} {m : MethodId} {args : Array Value} {below : List Frame} {meth : Method} {c : Code} {Z : XG} {r : Int32} {S' : Mem} (E : XE p s m args meth c cX8_reads 2 RX8 none mL Z) : ∀ (n : Nat) (S : Mem), fX8_reads_0 n S  = some (r, S') → WN p l e { frames := 2, cells := 0, slots := 0, locals := 44 } s m args below meth c mL Z (XV mL Z S') S 0 2 [(0, .ref (Z.2.1 0))] [] := by
  intro n
  induction n with
  | zero => intro S  h; exact absurd (show (none : O) = some _ from h) (by simp)
  | succ n ih => intro S  h; exact wX8_reads_0_b E (fX8_reads_0 n) ih S  h
/-- SevenToAShadowModel.reads()V -/
theorem mX8_reads (l : Launch) (Z : XG) (hQ : wQ (List.length mL) Z) {S S' : Mem} {r : Int32} (h : fX8_reads S  = some (r, S')) : XM l yX8_reads cX8_reads 2 none { frames := 2, cells := 0, slots := 0, locals := 44 } mL Z [.ref (Z.2.1 0)] S (XV mL Z S') := by
  refine XM.of (own := RX8) (by decide +kernel) rfl rfl hQ (fun p e s m args below meth c E ls hl X => ?_)
  exact wX8_reads_0 E FU S  h _ _ _ X hl
def fX8_isWord (S : Mem) (x1 : Int32) : O := (if (S 0 19) = (2 : Int32) then (if (S 0 20) = x1 then some ((1 : Int32), S) else some ((0 : Int32), S)) else some ((0 : Int32), S))
theorem dX8_isWord_0 : decode cX8_isWord 0 = .ok (.aload_n 0, 1) := by decide +kernel
theorem dX8_isWord_1 : decode cX8_isWord 1 = .ok (.getfield 146, 3) := by decide +kernel
theorem dX8_isWord_4 : decode cX8_isWord 4 = .ok (.iconst 2, 1) := by decide +kernel
theorem dX8_isWord_5 : decode cX8_isWord 5 = .ok (.if_icmp .ne 15, 3) := by decide +kernel
theorem dX8_isWord_8 : decode cX8_isWord 8 = .ok (.aload_n 0, 1) := by decide +kernel
theorem dX8_isWord_9 : decode cX8_isWord 9 = .ok (.getfield 149, 3) := by decide +kernel
theorem dX8_isWord_12 : decode cX8_isWord 12 = .ok (.iload_n 1, 1) := by decide +kernel
theorem dX8_isWord_13 : decode cX8_isWord 13 = .ok (.if_icmp .ne 7, 3) := by decide +kernel
theorem dX8_isWord_16 : decode cX8_isWord 16 = .ok (.iconst 1, 1) := by decide +kernel
theorem dX8_isWord_17 : decode cX8_isWord 17 = .ok (.goto 4, 3) := by decide +kernel
theorem dX8_isWord_20 : decode cX8_isWord 20 = .ok (.iconst 0, 1) := by decide +kernel
theorem dX8_isWord_21 : decode cX8_isWord 21 = .ok (.ireturn, 1) := by decide +kernel
set_option maxRecDepth 20000 in
theorem wX8_isWord {p : Program} {l : Launch} {e : Env} {s : State} {m : MethodId} {args : Array Value} {below : List Frame} {meth : Method} {c : Code} {Z : XG} {r : Int32} {S' : Mem} (E : XE p s m args meth c cX8_isWord 2 RX8 (some .boolean) mL Z) : ∀ (S : Mem) (x1 : Int32), fX8_isWord  S x1 = some (r, S') → WN p l e { frames := 0, cells := 0, slots := 0, locals := 0 } s m args below meth c mL Z (XQ mL Z r S') S 0 2 [(0, .ref (Z.2.1 0)), (1, .int x1)] [] := by
  obtain ⟨hx, hb, -, -, -, -, -, -, -, hQ⟩ := id E
  intro S x1 h H locs ls X hl
  unfold fX8_isWord at h
  refine lv_aload_n hx hb dX8_isWord_0 rfl (lv_at hl 0 rfl) ?_
  refine x_get E X ffX8_146 rfl rfl dX8_isWord_1 ?_
  refine lv_iconst (v := (2 : Int32)) hx hb dX8_isWord_4 (by decide) ?_
  refine lv_icmp_ne (tgt := 20) hx hb dX8_isWord_5 (by decide) (fun c_1 => ?_) (fun c_1 => ?_)
  · have h := if_f c_1 h
    refine lv_iconst (v := (0 : Int32)) hx hb dX8_isWord_20 (by decide) ?_
    exact x_zret E X rfl h dX8_isWord_21
  · have h := if_t c_1 h
    refine lv_aload_n hx hb dX8_isWord_8 rfl (lv_at hl 0 rfl) ?_
    refine x_get E X ffX8_149 rfl rfl dX8_isWord_9 ?_
    refine lv_iload_n hx hb dX8_isWord_12 rfl (lv_at hl 1 rfl) ?_
    refine lv_icmp_ne (tgt := 20) hx hb dX8_isWord_13 (by decide) (fun c_2 => ?_) (fun c_2 => ?_)
    · have h := if_f c_2 h
      refine lv_iconst (v := (0 : Int32)) hx hb dX8_isWord_20 (by decide) ?_
      exact x_zret E X rfl h dX8_isWord_21
    · have h := if_t c_2 h
      refine lv_iconst (v := (1 : Int32)) hx hb dX8_isWord_16 (by decide) ?_
      refine lv_goto (tgt := 21) hx hb dX8_isWord_17 (by decide) ?_
      exact x_zret E X rfl h dX8_isWord_21
/-- SevenToAShadowModel.isWord(I)Z -/
theorem mX8_isWord (l : Launch) (Z : XG) (hQ : wQ (List.length mL) Z) {S S' : Mem} {r : Int32} (x1 : Int32) (h : fX8_isWord S x1 = some (r, S')) : XM l yX8_isWord cX8_isWord 2 (some .boolean) { frames := 0, cells := 0, slots := 0, locals := 0 } mL Z [.ref (Z.2.1 0), .int x1] S (XQ mL Z r S') := by
  refine XM.of (own := RX8) (by decide +kernel) rfl rfl hQ (fun p e s m args below meth c E ls hl X => ?_)
  exact wX8_isWord E S x1 h _ _ _ X hl
def fX8_emits (S : Mem) (x1 x2 : Int32) : O := gd (inB ((400 : Int32) + (S 0 28)) 800) <| ltm (mset S 16 (((400 : Int32) + (S 0 28))).toNatClampNeg x1) fun S_2 => gd (inB ((400 : Int32) + (S_2 0 28)) 800) <| ltm (mset S_2 17 (((400 : Int32) + (S_2 0 28))).toNatClampNeg x2) fun S_4 => ltm (mset S_4 0 28 ((S_4 0 28) + (1 : Int32))) fun S_5 => some ((0 : Int32), S_5)
theorem dX8_emits_0 : decode cX8_emits 0 = .ok (.aload_n 0, 1) := by decide +kernel
theorem dX8_emits_1 : decode cX8_emits 1 = .ok (.getfield 55, 3) := by decide +kernel
theorem dX8_emits_4 : decode cX8_emits 4 = .ok (.sipush 400, 3) := by decide +kernel
theorem dX8_emits_7 : decode cX8_emits 7 = .ok (.aload_n 0, 1) := by decide +kernel
theorem dX8_emits_8 : decode cX8_emits 8 = .ok (.getfield 171, 3) := by decide +kernel
theorem dX8_emits_11 : decode cX8_emits 11 = .ok (.iadd, 1) := by decide +kernel
theorem dX8_emits_12 : decode cX8_emits 12 = .ok (.iload_n 1, 1) := by decide +kernel
theorem dX8_emits_13 : decode cX8_emits 13 = .ok (.iastore, 1) := by decide +kernel
theorem dX8_emits_14 : decode cX8_emits 14 = .ok (.aload_n 0, 1) := by decide +kernel
theorem dX8_emits_15 : decode cX8_emits 15 = .ok (.getfield 58, 3) := by decide +kernel
theorem dX8_emits_18 : decode cX8_emits 18 = .ok (.sipush 400, 3) := by decide +kernel
theorem dX8_emits_21 : decode cX8_emits 21 = .ok (.aload_n 0, 1) := by decide +kernel
theorem dX8_emits_22 : decode cX8_emits 22 = .ok (.getfield 171, 3) := by decide +kernel
theorem dX8_emits_25 : decode cX8_emits 25 = .ok (.iadd, 1) := by decide +kernel
theorem dX8_emits_26 : decode cX8_emits 26 = .ok (.iload_n 2, 1) := by decide +kernel
theorem dX8_emits_27 : decode cX8_emits 27 = .ok (.iastore, 1) := by decide +kernel
theorem dX8_emits_28 : decode cX8_emits 28 = .ok (.aload_n 0, 1) := by decide +kernel
theorem dX8_emits_29 : decode cX8_emits 29 = .ok (.aload_n 0, 1) := by decide +kernel
theorem dX8_emits_30 : decode cX8_emits 30 = .ok (.getfield 171, 3) := by decide +kernel
theorem dX8_emits_33 : decode cX8_emits 33 = .ok (.iconst 1, 1) := by decide +kernel
theorem dX8_emits_34 : decode cX8_emits 34 = .ok (.iadd, 1) := by decide +kernel
theorem dX8_emits_35 : decode cX8_emits 35 = .ok (.putfield 171, 3) := by decide +kernel
theorem dX8_emits_38 : decode cX8_emits 38 = .ok (.return_, 1) := by decide +kernel
set_option maxRecDepth 20000 in
theorem wX8_emits {p : Program} {l : Launch} {e : Env} {s : State} {m : MethodId} {args : Array Value} {below : List Frame} {meth : Method} {c : Code} {Z : XG} {r : Int32} {S' : Mem} (E : XE p s m args meth c cX8_emits 3 RX8 none mL Z) : ∀ (S : Mem) (x1 x2 : Int32), fX8_emits  S x1 x2 = some (r, S') → WN p l e { frames := 0, cells := 0, slots := 0, locals := 0 } s m args below meth c mL Z (XV mL Z S') S 0 3 [(0, .ref (Z.2.1 0)), (1, .int x1), (2, .int x2)] [] := by
  obtain ⟨hx, hb, -, -, -, -, -, -, -, hQ⟩ := id E
  intro S x1 x2 h H locs ls X hl
  unfold fX8_emits at h
  refine lv_aload_n hx hb dX8_emits_0 rfl (lv_at hl 0 rfl) ?_
  refine x_getr E X ffX8_55 rfl rfl dX8_emits_1 ?_
  refine lv_sipush (v := (400 : Int32)) hx hb dX8_emits_4 (by decide) ?_
  refine lv_aload_n hx hb dX8_emits_7 rfl (lv_at hl 0 rfl) ?_
  refine x_get E X ffX8_171 rfl rfl dX8_emits_8 ?_
  refine lv_iadd hx hb dX8_emits_11 ?_
  refine lv_iload_n hx hb dX8_emits_12 rfl (lv_at hl 1 rfl) ?_
  obtain ⟨g_1, h⟩ := gd_s h
  obtain ⟨S_2, eS_2, h⟩ := ltm_s h
  refine x_iast E X rfl g_1 dX8_emits_13 (fun H locs X => ?_)
  rw [← eS_2] at X
  refine lv_aload_n hx hb dX8_emits_14 rfl (lv_at hl 0 rfl) ?_
  refine x_getr E X ffX8_58 rfl rfl dX8_emits_15 ?_
  refine lv_sipush (v := (400 : Int32)) hx hb dX8_emits_18 (by decide) ?_
  refine lv_aload_n hx hb dX8_emits_21 rfl (lv_at hl 0 rfl) ?_
  refine x_get E X ffX8_171 rfl rfl dX8_emits_22 ?_
  refine lv_iadd hx hb dX8_emits_25 ?_
  refine lv_iload_n hx hb dX8_emits_26 rfl (lv_at hl 2 rfl) ?_
  obtain ⟨g_3, h⟩ := gd_s h
  obtain ⟨S_4, eS_4, h⟩ := ltm_s h
  refine x_iast E X rfl g_3 dX8_emits_27 (fun H locs X => ?_)
  rw [← eS_4] at X
  refine lv_aload_n hx hb dX8_emits_28 rfl (lv_at hl 0 rfl) ?_
  refine lv_aload_n hx hb dX8_emits_29 rfl (lv_at hl 0 rfl) ?_
  refine x_get E X ffX8_171 rfl rfl dX8_emits_30 ?_
  refine lv_iconst (v := (1 : Int32)) hx hb dX8_emits_33 (by decide) ?_
  refine lv_iadd hx hb dX8_emits_34 ?_
  obtain ⟨S_5, eS_5, h⟩ := ltm_s h
  refine x_put E X fpX8_171 rfl rfl dX8_emits_35 (fun H locs X => ?_)
  rw [← eS_5] at X
  exact x_vret E X h dX8_emits_38
/-- SevenToAShadowModel.emits(II)V -/
theorem mX8_emits (l : Launch) (Z : XG) (hQ : wQ (List.length mL) Z) {S S' : Mem} {r : Int32} (x1 x2 : Int32) (h : fX8_emits S x1 x2 = some (r, S')) : XM l yX8_emits cX8_emits 3 none { frames := 0, cells := 0, slots := 0, locals := 0 } mL Z [.ref (Z.2.1 0), .int x1, .int x2] S (XV mL Z S') := by
  refine XM.of (own := RX8) (by decide +kernel) rfl rfl hQ (fun p e s m args below meth c E ls hl X => ?_)
  exact wX8_emits E S x1 x2 h _ _ _ X hl
def fX8_settles_0_b (k0 : Mem → Int32 → O) (S : Mem) (x1 : Int32) : O := (if (S 0 31) ≤ 0 then some ((0 : Int32), S) else gd (inB ((S 0 31) - (1 : Int32)) 40) <| (if (S 18 (((S 0 31) - (1 : Int32))).toNatClampNeg) = x1 then ltm (mset S 0 31 ((S 0 31) - (1 : Int32))) fun S_4 => bnd (fX8_emits S_4 x1 (0 : Int32)) fun _ S_6 => (if x1 = (9 : Int32) then ltm (mset S_6 0 29 ((S_6 0 29) - (1 : Int32))) fun S_8 => k0 S_8 x1 else k0 S_6 x1) else some ((0 : Int32), S)))
def fX8_settles_0 : Nat → Mem → Int32 → O
  | 0 => fun _ _ => none
  | n + 1 => fX8_settles_0_b (fX8_settles_0 n)
def fX8_settles (S : Mem) (x1 : Int32) : O := fX8_settles_0 FU S x1
theorem dX8_settles_0 : decode cX8_settles 0 = .ok (.aload_n 0, 1) := by decide +kernel
theorem dX8_settles_1 : decode cX8_settles 1 = .ok (.getfield 197, 3) := by decide +kernel
theorem dX8_settles_4 : decode cX8_settles 4 = .ok (.ifCond .le 53, 3) := by decide +kernel
theorem dX8_settles_7 : decode cX8_settles 7 = .ok (.aload_n 0, 1) := by decide +kernel
theorem dX8_settles_8 : decode cX8_settles 8 = .ok (.getfield 61, 3) := by decide +kernel
theorem dX8_settles_11 : decode cX8_settles 11 = .ok (.aload_n 0, 1) := by decide +kernel
theorem dX8_settles_12 : decode cX8_settles 12 = .ok (.getfield 197, 3) := by decide +kernel
theorem dX8_settles_15 : decode cX8_settles 15 = .ok (.iconst 1, 1) := by decide +kernel
theorem dX8_settles_16 : decode cX8_settles 16 = .ok (.isub, 1) := by decide +kernel
theorem dX8_settles_17 : decode cX8_settles 17 = .ok (.iaload, 1) := by decide +kernel
theorem dX8_settles_18 : decode cX8_settles 18 = .ok (.iload_n 1, 1) := by decide +kernel
theorem dX8_settles_19 : decode cX8_settles 19 = .ok (.if_icmp .ne 38, 3) := by decide +kernel
theorem dX8_settles_22 : decode cX8_settles 22 = .ok (.aload_n 0, 1) := by decide +kernel
theorem dX8_settles_23 : decode cX8_settles 23 = .ok (.aload_n 0, 1) := by decide +kernel
theorem dX8_settles_24 : decode cX8_settles 24 = .ok (.getfield 197, 3) := by decide +kernel
theorem dX8_settles_27 : decode cX8_settles 27 = .ok (.iconst 1, 1) := by decide +kernel
theorem dX8_settles_28 : decode cX8_settles 28 = .ok (.isub, 1) := by decide +kernel
theorem dX8_settles_29 : decode cX8_settles 29 = .ok (.putfield 197, 3) := by decide +kernel
theorem dX8_settles_32 : decode cX8_settles 32 = .ok (.aload_n 0, 1) := by decide +kernel
theorem dX8_settles_33 : decode cX8_settles 33 = .ok (.iload_n 1, 1) := by decide +kernel
theorem dX8_settles_34 : decode cX8_settles 34 = .ok (.iconst 0, 1) := by decide +kernel
theorem dX8_settles_35 : decode cX8_settles 35 = .ok (.invokevirtual 177, 3) := by decide +kernel
theorem dX8_settles_38 : decode cX8_settles 38 = .ok (.iload_n 1, 1) := by decide +kernel
theorem dX8_settles_39 : decode cX8_settles 39 = .ok (.bipush 9, 2) := by decide +kernel
theorem dX8_settles_41 : decode cX8_settles 41 = .ok (.if_icmp .ne (-41), 3) := by decide +kernel
theorem dX8_settles_44 : decode cX8_settles 44 = .ok (.aload_n 0, 1) := by decide +kernel
theorem dX8_settles_45 : decode cX8_settles 45 = .ok (.aload_n 0, 1) := by decide +kernel
theorem dX8_settles_46 : decode cX8_settles 46 = .ok (.getfield 200, 3) := by decide +kernel
theorem dX8_settles_49 : decode cX8_settles 49 = .ok (.iconst 1, 1) := by decide +kernel
theorem dX8_settles_50 : decode cX8_settles 50 = .ok (.isub, 1) := by decide +kernel
theorem dX8_settles_51 : decode cX8_settles 51 = .ok (.putfield 200, 3) := by decide +kernel
theorem dX8_settles_54 : decode cX8_settles 54 = .ok (.goto (-54), 3) := by decide +kernel
theorem dX8_settles_57 : decode cX8_settles 57 = .ok (.return_, 1) := by decide +kernel
set_option maxRecDepth 20000 in
theorem wX8_settles_0_b {p : Program} {l : Launch} {e : Env} {s : State} {m : MethodId} {args : Array Value} {below : List Frame} {meth : Method} {c : Code} {Z : XG} {r : Int32} {S' : Mem} (E : XE p s m args meth c cX8_settles 2 RX8 none mL Z) (k0 : Mem → Int32 → O)  (hk0 : ∀ (S : Mem) (x1 : Int32), k0 S x1 = some (r, S') → WN p l e { frames := 1, cells := 0, slots := 0, locals := 22 } s m args below meth c mL Z (XV mL Z S') S 0 2 [(0, .ref (Z.2.1 0)), (1, .int x1)] []) : ∀ (S : Mem) (x1 : Int32), fX8_settles_0_b k0 S x1 = some (r, S') → WN p l e { frames := 1, cells := 0, slots := 0, locals := 22 } s m args below meth c mL Z (XV mL Z S') S 0 2 [(0, .ref (Z.2.1 0)), (1, .int x1)] [] := by
  obtain ⟨hx, hb, -, -, -, -, -, -, -, hQ⟩ := id E
  intro S x1 h H locs ls X hl
  unfold fX8_settles_0_b at h
  refine lv_aload_n hx hb dX8_settles_0 rfl (lv_at hl 0 rfl) ?_
  refine x_get E X ffX8_197 rfl rfl dX8_settles_1 ?_
  refine lv_if_le (tgt := 57) hx hb dX8_settles_4 (by decide) (fun c_1 => ?_) (fun c_1 => ?_)
  · have h := if_t c_1 h
    exact x_vret E X h dX8_settles_57
  · have h := if_f c_1 h
    refine lv_aload_n hx hb dX8_settles_7 rfl (lv_at hl 0 rfl) ?_
    refine x_getr E X ffX8_61 rfl rfl dX8_settles_8 ?_
    refine lv_aload_n hx hb dX8_settles_11 rfl (lv_at hl 0 rfl) ?_
    refine x_get E X ffX8_197 rfl rfl dX8_settles_12 ?_
    refine lv_iconst (v := (1 : Int32)) hx hb dX8_settles_15 (by decide) ?_
    refine lv_isub hx hb dX8_settles_16 ?_
    obtain ⟨g_2, h⟩ := gd_s h
    refine x_iald E X rfl g_2 dX8_settles_17 ?_
    refine lv_iload_n hx hb dX8_settles_18 rfl (lv_at hl 1 rfl) ?_
    refine lv_icmp_ne (tgt := 57) hx hb dX8_settles_19 (by decide) (fun c_3 => ?_) (fun c_3 => ?_)
    · have h := if_f c_3 h
      exact x_vret E X h dX8_settles_57
    · have h := if_t c_3 h
      refine lv_aload_n hx hb dX8_settles_22 rfl (lv_at hl 0 rfl) ?_
      refine lv_aload_n hx hb dX8_settles_23 rfl (lv_at hl 0 rfl) ?_
      refine x_get E X ffX8_197 rfl rfl dX8_settles_24 ?_
      refine lv_iconst (v := (1 : Int32)) hx hb dX8_settles_27 (by decide) ?_
      refine lv_isub hx hb dX8_settles_28 ?_
      obtain ⟨S_4, eS_4, h⟩ := ltm_s h
      refine x_put E X fpX8_197 rfl rfl dX8_settles_29 (fun H locs X => ?_)
      rw [← eS_4] at X
      refine lv_aload_n hx hb dX8_settles_32 rfl (lv_at hl 0 rfl) ?_
      refine lv_iload_n hx hb dX8_settles_33 rfl (lv_at hl 1 rfl) ?_
      refine lv_iconst (v := (0 : Int32)) hx hb dX8_settles_34 (by decide) ?_
      obtain ⟨r_5, S_6, hr_5, h⟩ := bnd_s h
      refine x_callVv E X cwX8_177 (mX8_emits l Z hQ  x1 (0 : Int32) hr_5) rfl rfl rfl rfl hl.1 rfl dX8_settles_35 (fun H locs X => ?_)
      refine lv_iload_n hx hb dX8_settles_38 rfl (lv_at hl 1 rfl) ?_
      refine lv_bipush (v := (9 : Int32)) hx hb dX8_settles_39 (by decide) ?_
      refine lv_icmp_ne (tgt := 0) hx hb dX8_settles_41 (by decide) (fun c_7 => ?_) (fun c_7 => ?_)
      · have h := if_f c_7 h
        exact hk0 S_6 x1 h _ _ _ X hl
      · have h := if_t c_7 h
        refine lv_aload_n hx hb dX8_settles_44 rfl (lv_at hl 0 rfl) ?_
        refine lv_aload_n hx hb dX8_settles_45 rfl (lv_at hl 0 rfl) ?_
        refine x_get E X ffX8_200 rfl rfl dX8_settles_46 ?_
        refine lv_iconst (v := (1 : Int32)) hx hb dX8_settles_49 (by decide) ?_
        refine lv_isub hx hb dX8_settles_50 ?_
        obtain ⟨S_8, eS_8, h⟩ := ltm_s h
        refine x_put E X fpX8_200 rfl rfl dX8_settles_51 (fun H locs X => ?_)
        rw [← eS_8] at X
        refine lv_goto (tgt := 0) hx hb dX8_settles_54 (by decide) ?_
        exact hk0 S_8 x1 h _ _ _ X hl
theorem wX8_settles_0 {p : Program} {l : Launch} {e : Env} {s : State} {m : MethodId} {args : Array Value} {below : List Frame} {meth : Method} {c : Code} {Z : XG} {r : Int32} {S' : Mem} (E : XE p s m args meth c cX8_settles 2 RX8 none mL Z) : ∀ (n : Nat) (S : Mem) (x1 : Int32), fX8_settles_0 n S x1 = some (r, S') → WN p l e { frames := 1, cells := 0, slots := 0, locals := 22 } s m args below meth c mL Z (XV mL Z S') S 0 2 [(0, .ref (Z.2.1 0)), (1, .int x1)] [] := by
  intro n
  induction n with
  | zero => intro S x1 h; exact absurd (show (none : O) = some _ from h) (by simp)
  | succ n ih => intro S x1 h; exact wX8_settles_0_b E (fX8_settles_0 n) ih S x1 h
/-- SevenToAShadowModel.settles(I)V -/
theorem mX8_settles (l : Launch) (Z : XG) (hQ : wQ (List.length mL) Z) {S S' : Mem} {r : Int32} (x1 : Int32) (h : fX8_settles S x1 = some (r, S')) : XM l yX8_settles cX8_settles 2 none { frames := 1, cells := 0, slots := 0, locals := 22 } mL Z [.ref (Z.2.1 0), .int x1] S (XV mL Z S') := by
  refine XM.of (own := RX8) (by decide +kernel) rfl rfl hQ (fun p e s m args below meth c E ls hl X => ?_)
  exact wX8_settles_0 E FU S x1 h _ _ _ X hl
def fX8_isSign (S : Mem) (x1 : Int32) : O := (if (S 0 19) = (4 : Int32) then (if (S 0 20) = x1 then some ((1 : Int32), S) else some ((0 : Int32), S)) else some ((0 : Int32), S))
theorem dX8_isSign_0 : decode cX8_isSign 0 = .ok (.aload_n 0, 1) := by decide +kernel
theorem dX8_isSign_1 : decode cX8_isSign 1 = .ok (.getfield 146, 3) := by decide +kernel
theorem dX8_isSign_4 : decode cX8_isSign 4 = .ok (.iconst 4, 1) := by decide +kernel
theorem dX8_isSign_5 : decode cX8_isSign 5 = .ok (.if_icmp .ne 15, 3) := by decide +kernel
theorem dX8_isSign_8 : decode cX8_isSign 8 = .ok (.aload_n 0, 1) := by decide +kernel
theorem dX8_isSign_9 : decode cX8_isSign 9 = .ok (.getfield 149, 3) := by decide +kernel
theorem dX8_isSign_12 : decode cX8_isSign 12 = .ok (.iload_n 1, 1) := by decide +kernel
theorem dX8_isSign_13 : decode cX8_isSign 13 = .ok (.if_icmp .ne 7, 3) := by decide +kernel
theorem dX8_isSign_16 : decode cX8_isSign 16 = .ok (.iconst 1, 1) := by decide +kernel
theorem dX8_isSign_17 : decode cX8_isSign 17 = .ok (.goto 4, 3) := by decide +kernel
theorem dX8_isSign_20 : decode cX8_isSign 20 = .ok (.iconst 0, 1) := by decide +kernel
theorem dX8_isSign_21 : decode cX8_isSign 21 = .ok (.ireturn, 1) := by decide +kernel
set_option maxRecDepth 20000 in
theorem wX8_isSign {p : Program} {l : Launch} {e : Env} {s : State} {m : MethodId} {args : Array Value} {below : List Frame} {meth : Method} {c : Code} {Z : XG} {r : Int32} {S' : Mem} (E : XE p s m args meth c cX8_isSign 2 RX8 (some .boolean) mL Z) : ∀ (S : Mem) (x1 : Int32), fX8_isSign  S x1 = some (r, S') → WN p l e { frames := 0, cells := 0, slots := 0, locals := 0 } s m args below meth c mL Z (XQ mL Z r S') S 0 2 [(0, .ref (Z.2.1 0)), (1, .int x1)] [] := by
  obtain ⟨hx, hb, -, -, -, -, -, -, -, hQ⟩ := id E
  intro S x1 h H locs ls X hl
  unfold fX8_isSign at h
  refine lv_aload_n hx hb dX8_isSign_0 rfl (lv_at hl 0 rfl) ?_
  refine x_get E X ffX8_146 rfl rfl dX8_isSign_1 ?_
  refine lv_iconst (v := (4 : Int32)) hx hb dX8_isSign_4 (by decide) ?_
  refine lv_icmp_ne (tgt := 20) hx hb dX8_isSign_5 (by decide) (fun c_1 => ?_) (fun c_1 => ?_)
  · have h := if_f c_1 h
    refine lv_iconst (v := (0 : Int32)) hx hb dX8_isSign_20 (by decide) ?_
    exact x_zret E X rfl h dX8_isSign_21
  · have h := if_t c_1 h
    refine lv_aload_n hx hb dX8_isSign_8 rfl (lv_at hl 0 rfl) ?_
    refine x_get E X ffX8_149 rfl rfl dX8_isSign_9 ?_
    refine lv_iload_n hx hb dX8_isSign_12 rfl (lv_at hl 1 rfl) ?_
    refine lv_icmp_ne (tgt := 20) hx hb dX8_isSign_13 (by decide) (fun c_2 => ?_) (fun c_2 => ?_)
    · have h := if_f c_2 h
      refine lv_iconst (v := (0 : Int32)) hx hb dX8_isSign_20 (by decide) ?_
      exact x_zret E X rfl h dX8_isSign_21
    · have h := if_t c_2 h
      refine lv_iconst (v := (1 : Int32)) hx hb dX8_isSign_16 (by decide) ?_
      refine lv_goto (tgt := 21) hx hb dX8_isSign_17 (by decide) ?_
      exact x_zret E X rfl h dX8_isSign_21
/-- SevenToAShadowModel.isSign(I)Z -/
theorem mX8_isSign (l : Launch) (Z : XG) (hQ : wQ (List.length mL) Z) {S S' : Mem} {r : Int32} (x1 : Int32) (h : fX8_isSign S x1 = some (r, S')) : XM l yX8_isSign cX8_isSign 2 (some .boolean) { frames := 0, cells := 0, slots := 0, locals := 0 } mL Z [.ref (Z.2.1 0), .int x1] S (XQ mL Z r S') := by
  refine XM.of (own := RX8) (by decide +kernel) rfl rfl hQ (fun p e s m args below meth c E ls hl X => ?_)
  exact wX8_isSign E S x1 h _ _ _ X hl
def fX8_errs (S : Mem) (x1 : Int32) : O := ltm (mset S 0 32 x1) fun S_1 => ltm (mset S_1 0 33 (S_1 0 18)) fun S_2 => some ((-1 : Int32), S_2)
theorem dX8_errs_0 : decode cX8_errs 0 = .ok (.aload_n 0, 1) := by decide +kernel
theorem dX8_errs_1 : decode cX8_errs 1 = .ok (.iload_n 1, 1) := by decide +kernel
theorem dX8_errs_2 : decode cX8_errs 2 = .ok (.putfield 165, 3) := by decide +kernel
theorem dX8_errs_5 : decode cX8_errs 5 = .ok (.aload_n 0, 1) := by decide +kernel
theorem dX8_errs_6 : decode cX8_errs 6 = .ok (.aload_n 0, 1) := by decide +kernel
theorem dX8_errs_7 : decode cX8_errs 7 = .ok (.getfield 143, 3) := by decide +kernel
theorem dX8_errs_10 : decode cX8_errs 10 = .ok (.putfield 168, 3) := by decide +kernel
theorem dX8_errs_13 : decode cX8_errs 13 = .ok (.iconst (-1), 1) := by decide +kernel
theorem dX8_errs_14 : decode cX8_errs 14 = .ok (.ireturn, 1) := by decide +kernel
set_option maxRecDepth 20000 in
theorem wX8_errs {p : Program} {l : Launch} {e : Env} {s : State} {m : MethodId} {args : Array Value} {below : List Frame} {meth : Method} {c : Code} {Z : XG} {r : Int32} {S' : Mem} (E : XE p s m args meth c cX8_errs 2 RX8 (some .int) mL Z) : ∀ (S : Mem) (x1 : Int32), fX8_errs  S x1 = some (r, S') → WN p l e { frames := 0, cells := 0, slots := 0, locals := 0 } s m args below meth c mL Z (XQ mL Z r S') S 0 2 [(0, .ref (Z.2.1 0)), (1, .int x1)] [] := by
  obtain ⟨hx, hb, -, -, -, -, -, -, -, hQ⟩ := id E
  intro S x1 h H locs ls X hl
  unfold fX8_errs at h
  refine lv_aload_n hx hb dX8_errs_0 rfl (lv_at hl 0 rfl) ?_
  refine lv_iload_n hx hb dX8_errs_1 rfl (lv_at hl 1 rfl) ?_
  obtain ⟨S_1, eS_1, h⟩ := ltm_s h
  refine x_put E X fpX8_165 rfl rfl dX8_errs_2 (fun H locs X => ?_)
  rw [← eS_1] at X
  refine lv_aload_n hx hb dX8_errs_5 rfl (lv_at hl 0 rfl) ?_
  refine lv_aload_n hx hb dX8_errs_6 rfl (lv_at hl 0 rfl) ?_
  refine x_get E X ffX8_143 rfl rfl dX8_errs_7 ?_
  obtain ⟨S_2, eS_2, h⟩ := ltm_s h
  refine x_put E X fpX8_168 rfl rfl dX8_errs_10 (fun H locs X => ?_)
  rw [← eS_2] at X
  refine lv_iconst (v := (-1 : Int32)) hx hb dX8_errs_13 (by decide) ?_
  exact x_iret E X h dX8_errs_14
/-- SevenToAShadowModel.errs(I)I -/
theorem mX8_errs (l : Launch) (Z : XG) (hQ : wQ (List.length mL) Z) {S S' : Mem} {r : Int32} (x1 : Int32) (h : fX8_errs S x1 = some (r, S')) : XM l yX8_errs cX8_errs 2 (some .int) { frames := 0, cells := 0, slots := 0, locals := 0 } mL Z [.ref (Z.2.1 0), .int x1] S (XQ mL Z r S') := by
  refine XM.of (own := RX8) (by decide +kernel) rfl rfl hQ (fun p e s m args below meth c E ls hl X => ?_)
  exact wX8_errs E S x1 h _ _ _ X hl
def fX8_waits (S : Mem) (x1 : Int32) : O := gd (inB (S 0 31) 40) <| ltm (mset S 18 ((S 0 31)).toNatClampNeg x1) fun S_2 => ltm (mset S_2 0 31 ((S_2 0 31) + (1 : Int32))) fun S_3 => some ((0 : Int32), S_3)
theorem dX8_waits_0 : decode cX8_waits 0 = .ok (.aload_n 0, 1) := by decide +kernel
theorem dX8_waits_1 : decode cX8_waits 1 = .ok (.getfield 61, 3) := by decide +kernel
theorem dX8_waits_4 : decode cX8_waits 4 = .ok (.aload_n 0, 1) := by decide +kernel
theorem dX8_waits_5 : decode cX8_waits 5 = .ok (.getfield 197, 3) := by decide +kernel
theorem dX8_waits_8 : decode cX8_waits 8 = .ok (.iload_n 1, 1) := by decide +kernel
theorem dX8_waits_9 : decode cX8_waits 9 = .ok (.iastore, 1) := by decide +kernel
theorem dX8_waits_10 : decode cX8_waits 10 = .ok (.aload_n 0, 1) := by decide +kernel
theorem dX8_waits_11 : decode cX8_waits 11 = .ok (.aload_n 0, 1) := by decide +kernel
theorem dX8_waits_12 : decode cX8_waits 12 = .ok (.getfield 197, 3) := by decide +kernel
theorem dX8_waits_15 : decode cX8_waits 15 = .ok (.iconst 1, 1) := by decide +kernel
theorem dX8_waits_16 : decode cX8_waits 16 = .ok (.iadd, 1) := by decide +kernel
theorem dX8_waits_17 : decode cX8_waits 17 = .ok (.putfield 197, 3) := by decide +kernel
theorem dX8_waits_20 : decode cX8_waits 20 = .ok (.return_, 1) := by decide +kernel
set_option maxRecDepth 20000 in
theorem wX8_waits {p : Program} {l : Launch} {e : Env} {s : State} {m : MethodId} {args : Array Value} {below : List Frame} {meth : Method} {c : Code} {Z : XG} {r : Int32} {S' : Mem} (E : XE p s m args meth c cX8_waits 2 RX8 none mL Z) : ∀ (S : Mem) (x1 : Int32), fX8_waits  S x1 = some (r, S') → WN p l e { frames := 0, cells := 0, slots := 0, locals := 0 } s m args below meth c mL Z (XV mL Z S') S 0 2 [(0, .ref (Z.2.1 0)), (1, .int x1)] [] := by
  obtain ⟨hx, hb, -, -, -, -, -, -, -, hQ⟩ := id E
  intro S x1 h H locs ls X hl
  unfold fX8_waits at h
  refine lv_aload_n hx hb dX8_waits_0 rfl (lv_at hl 0 rfl) ?_
  refine x_getr E X ffX8_61 rfl rfl dX8_waits_1 ?_
  refine lv_aload_n hx hb dX8_waits_4 rfl (lv_at hl 0 rfl) ?_
  refine x_get E X ffX8_197 rfl rfl dX8_waits_5 ?_
  refine lv_iload_n hx hb dX8_waits_8 rfl (lv_at hl 1 rfl) ?_
  obtain ⟨g_1, h⟩ := gd_s h
  obtain ⟨S_2, eS_2, h⟩ := ltm_s h
  refine x_iast E X rfl g_1 dX8_waits_9 (fun H locs X => ?_)
  rw [← eS_2] at X
  refine lv_aload_n hx hb dX8_waits_10 rfl (lv_at hl 0 rfl) ?_
  refine lv_aload_n hx hb dX8_waits_11 rfl (lv_at hl 0 rfl) ?_
  refine x_get E X ffX8_197 rfl rfl dX8_waits_12 ?_
  refine lv_iconst (v := (1 : Int32)) hx hb dX8_waits_15 (by decide) ?_
  refine lv_iadd hx hb dX8_waits_16 ?_
  obtain ⟨S_3, eS_3, h⟩ := ltm_s h
  refine x_put E X fpX8_197 rfl rfl dX8_waits_17 (fun H locs X => ?_)
  rw [← eS_3] at X
  exact x_vret E X h dX8_waits_20
/-- SevenToAShadowModel.waits(I)V -/
theorem mX8_waits (l : Launch) (Z : XG) (hQ : wQ (List.length mL) Z) {S S' : Mem} {r : Int32} (x1 : Int32) (h : fX8_waits S x1 = some (r, S')) : XM l yX8_waits cX8_waits 2 none { frames := 0, cells := 0, slots := 0, locals := 0 } mL Z [.ref (Z.2.1 0), .int x1] S (XV mL Z S') := by
  refine XM.of (own := RX8) (by decide +kernel) rfl rfl hQ (fun p e s m args below meth c E ls hl X => ?_)
  exact wX8_waits E S x1 h _ _ _ X hl
def fX8_readUnit_69 (S : Mem) (s1 s2 : Int32) : O := bnd (fX8_emits S s1 s2) fun _ S_2 => bnd (fX8_reads S_2 ) fun _ S_4 => some ((0 : Int32), S_4)
def fX8_readUnit_51 (S : Mem) (x1 s1 : Int32) : O := (if x1 = 0 then fX8_readUnit_69  S s1 (S 0 20) else fX8_readUnit_69  S s1 ((S 0 20) - (8 : Int32)))
def fX8_readUnit_41 (S : Mem) (x1 : Int32) : O := (if x1 = 0 then fX8_readUnit_51  S x1 (0 : Int32) else fX8_readUnit_51  S x1 (1 : Int32))
def fX8_readUnit_22 (S : Mem) (s0 : Int32) : O := (if s0 = 0 then (if (S 0 19) = (3 : Int32) then fX8_readUnit_41  S s0 else bnd (fX8_errs S (1 : Int32)) fun r_3 S_4 => some (r_3, S_4)) else fX8_readUnit_41  S s0)
def fX8_readUnit_21 (S : Mem) : O := fX8_readUnit_22  S (0 : Int32)
def fX8_readUnit (S : Mem) : O := (if (S 0 19) = (2 : Int32) then (if (S 0 20) < (8 : Int32) then fX8_readUnit_21  S  else fX8_readUnit_22  S (1 : Int32)) else fX8_readUnit_21  S )
theorem dX8_readUnit_0 : decode cX8_readUnit 0 = .ok (.aload_n 0, 1) := by decide +kernel
theorem dX8_readUnit_1 : decode cX8_readUnit 1 = .ok (.getfield 146, 3) := by decide +kernel
theorem dX8_readUnit_4 : decode cX8_readUnit 4 = .ok (.iconst 2, 1) := by decide +kernel
theorem dX8_readUnit_5 : decode cX8_readUnit 5 = .ok (.if_icmp .ne 16, 3) := by decide +kernel
theorem dX8_readUnit_8 : decode cX8_readUnit 8 = .ok (.aload_n 0, 1) := by decide +kernel
theorem dX8_readUnit_9 : decode cX8_readUnit 9 = .ok (.getfield 149, 3) := by decide +kernel
theorem dX8_readUnit_12 : decode cX8_readUnit 12 = .ok (.bipush 8, 2) := by decide +kernel
theorem dX8_readUnit_14 : decode cX8_readUnit 14 = .ok (.if_icmp .lt 7, 3) := by decide +kernel
theorem dX8_readUnit_17 : decode cX8_readUnit 17 = .ok (.iconst 1, 1) := by decide +kernel
theorem dX8_readUnit_18 : decode cX8_readUnit 18 = .ok (.goto 4, 3) := by decide +kernel
theorem dX8_readUnit_21 : decode cX8_readUnit 21 = .ok (.iconst 0, 1) := by decide +kernel
theorem dX8_readUnit_22 : decode cX8_readUnit 22 = .ok (.istore_n 1, 1) := by decide +kernel
theorem dX8_readUnit_23 : decode cX8_readUnit 23 = .ok (.iload_n 1, 1) := by decide +kernel
theorem dX8_readUnit_24 : decode cX8_readUnit 24 = .ok (.ifCond .ne 17, 3) := by decide +kernel
theorem dX8_readUnit_27 : decode cX8_readUnit 27 = .ok (.aload_n 0, 1) := by decide +kernel
theorem dX8_readUnit_28 : decode cX8_readUnit 28 = .ok (.getfield 146, 3) := by decide +kernel
theorem dX8_readUnit_31 : decode cX8_readUnit 31 = .ok (.iconst 3, 1) := by decide +kernel
theorem dX8_readUnit_32 : decode cX8_readUnit 32 = .ok (.if_icmp .eq 9, 3) := by decide +kernel
theorem dX8_readUnit_35 : decode cX8_readUnit 35 = .ok (.aload_n 0, 1) := by decide +kernel
theorem dX8_readUnit_36 : decode cX8_readUnit 36 = .ok (.iconst 1, 1) := by decide +kernel
theorem dX8_readUnit_37 : decode cX8_readUnit 37 = .ok (.invokevirtual 174, 3) := by decide +kernel
theorem dX8_readUnit_40 : decode cX8_readUnit 40 = .ok (.ireturn, 1) := by decide +kernel
theorem dX8_readUnit_41 : decode cX8_readUnit 41 = .ok (.aload_n 0, 1) := by decide +kernel
theorem dX8_readUnit_42 : decode cX8_readUnit 42 = .ok (.iload_n 1, 1) := by decide +kernel
theorem dX8_readUnit_43 : decode cX8_readUnit 43 = .ok (.ifCond .eq 7, 3) := by decide +kernel
theorem dX8_readUnit_46 : decode cX8_readUnit 46 = .ok (.iconst 1, 1) := by decide +kernel
theorem dX8_readUnit_47 : decode cX8_readUnit 47 = .ok (.goto 4, 3) := by decide +kernel
theorem dX8_readUnit_50 : decode cX8_readUnit 50 = .ok (.iconst 0, 1) := by decide +kernel
theorem dX8_readUnit_51 : decode cX8_readUnit 51 = .ok (.iload_n 1, 1) := by decide +kernel
theorem dX8_readUnit_52 : decode cX8_readUnit 52 = .ok (.ifCond .eq 13, 3) := by decide +kernel
theorem dX8_readUnit_55 : decode cX8_readUnit 55 = .ok (.aload_n 0, 1) := by decide +kernel
theorem dX8_readUnit_56 : decode cX8_readUnit 56 = .ok (.getfield 149, 3) := by decide +kernel
theorem dX8_readUnit_59 : decode cX8_readUnit 59 = .ok (.bipush 8, 2) := by decide +kernel
theorem dX8_readUnit_61 : decode cX8_readUnit 61 = .ok (.isub, 1) := by decide +kernel
theorem dX8_readUnit_62 : decode cX8_readUnit 62 = .ok (.goto 7, 3) := by decide +kernel
theorem dX8_readUnit_65 : decode cX8_readUnit 65 = .ok (.aload_n 0, 1) := by decide +kernel
theorem dX8_readUnit_66 : decode cX8_readUnit 66 = .ok (.getfield 149, 3) := by decide +kernel
theorem dX8_readUnit_69 : decode cX8_readUnit 69 = .ok (.invokevirtual 177, 3) := by decide +kernel
theorem dX8_readUnit_72 : decode cX8_readUnit 72 = .ok (.aload_n 0, 1) := by decide +kernel
theorem dX8_readUnit_73 : decode cX8_readUnit 73 = .ok (.invokevirtual 181, 3) := by decide +kernel
theorem dX8_readUnit_76 : decode cX8_readUnit 76 = .ok (.iconst 0, 1) := by decide +kernel
theorem dX8_readUnit_77 : decode cX8_readUnit 77 = .ok (.ireturn, 1) := by decide +kernel
set_option maxRecDepth 20000 in
theorem wX8_readUnit_69 {p : Program} {l : Launch} {e : Env} {s : State} {m : MethodId} {args : Array Value} {below : List Frame} {meth : Method} {c : Code} {Z : XG} {r : Int32} {S' : Mem} (E : XE p s m args meth c cX8_readUnit 2 RX8 (some .int) mL Z) : ∀ (S : Mem) (s1 s2 : Int32), fX8_readUnit_69  S s1 s2 = some (r, S') → WN p l e { frames := 3, cells := 0, slots := 0, locals := 65 } s m args below meth c mL Z (XQ mL Z r S') S 69 2 [(0, .ref (Z.2.1 0))] [.int s2, .int s1, .ref (Z.2.1 0)] := by
  obtain ⟨hx, hb, -, -, -, -, -, -, -, hQ⟩ := id E
  intro S s1 s2 h H locs ls X hl
  unfold fX8_readUnit_69 at h
  obtain ⟨r_1, S_2, hr_1, h⟩ := bnd_s h
  refine x_callVv E X cwX8_177 (mX8_emits l Z hQ  s1 s2 hr_1) rfl rfl rfl rfl hl.1 rfl dX8_readUnit_69 (fun H locs X => ?_)
  refine lv_aload_n hx hb dX8_readUnit_72 rfl (lv_at hl 0 rfl) ?_
  obtain ⟨r_3, S_4, hr_3, h⟩ := bnd_s h
  refine x_callVv E X cwX8_181 (mX8_reads l Z hQ   hr_3) rfl rfl rfl rfl hl.1 rfl dX8_readUnit_73 (fun H locs X => ?_)
  refine lv_iconst (v := (0 : Int32)) hx hb dX8_readUnit_76 (by decide) ?_
  exact x_iret E X h dX8_readUnit_77
set_option maxRecDepth 20000 in
theorem wX8_readUnit_51 {p : Program} {l : Launch} {e : Env} {s : State} {m : MethodId} {args : Array Value} {below : List Frame} {meth : Method} {c : Code} {Z : XG} {r : Int32} {S' : Mem} (E : XE p s m args meth c cX8_readUnit 2 RX8 (some .int) mL Z) : ∀ (S : Mem) (x1 s1 : Int32), fX8_readUnit_51  S x1 s1 = some (r, S') → WN p l e { frames := 3, cells := 0, slots := 0, locals := 65 } s m args below meth c mL Z (XQ mL Z r S') S 51 2 [(0, .ref (Z.2.1 0)), (1, .int x1)] [.int s1, .ref (Z.2.1 0)] := by
  obtain ⟨hx, hb, -, -, -, -, -, -, -, hQ⟩ := id E
  intro S x1 s1 h H locs ls X hl
  unfold fX8_readUnit_51 at h
  refine lv_iload_n hx hb dX8_readUnit_51 rfl (lv_at hl 1 rfl) ?_
  refine lv_if_eq (tgt := 65) hx hb dX8_readUnit_52 (by decide) (fun c_1 => ?_) (fun c_1 => ?_)
  · have h := if_t c_1 h
    refine lv_aload_n hx hb dX8_readUnit_65 rfl (lv_at hl 0 rfl) ?_
    refine x_get E X ffX8_149 rfl rfl dX8_readUnit_66 ?_
    exact wX8_readUnit_69 E   S s1 (S 0 20) h _ _ _ X (lv_sub hl [0] rfl)
  · have h := if_f c_1 h
    refine lv_aload_n hx hb dX8_readUnit_55 rfl (lv_at hl 0 rfl) ?_
    refine x_get E X ffX8_149 rfl rfl dX8_readUnit_56 ?_
    refine lv_bipush (v := (8 : Int32)) hx hb dX8_readUnit_59 (by decide) ?_
    refine lv_isub hx hb dX8_readUnit_61 ?_
    refine lv_goto (tgt := 69) hx hb dX8_readUnit_62 (by decide) ?_
    exact wX8_readUnit_69 E   S s1 ((S 0 20) - (8 : Int32)) h _ _ _ X (lv_sub hl [0] rfl)
set_option maxRecDepth 20000 in
theorem wX8_readUnit_41 {p : Program} {l : Launch} {e : Env} {s : State} {m : MethodId} {args : Array Value} {below : List Frame} {meth : Method} {c : Code} {Z : XG} {r : Int32} {S' : Mem} (E : XE p s m args meth c cX8_readUnit 2 RX8 (some .int) mL Z) : ∀ (S : Mem) (x1 : Int32), fX8_readUnit_41  S x1 = some (r, S') → WN p l e { frames := 3, cells := 0, slots := 0, locals := 65 } s m args below meth c mL Z (XQ mL Z r S') S 41 2 [(0, .ref (Z.2.1 0)), (1, .int x1)] [] := by
  obtain ⟨hx, hb, -, -, -, -, -, -, -, hQ⟩ := id E
  intro S x1 h H locs ls X hl
  unfold fX8_readUnit_41 at h
  refine lv_aload_n hx hb dX8_readUnit_41 rfl (lv_at hl 0 rfl) ?_
  refine lv_iload_n hx hb dX8_readUnit_42 rfl (lv_at hl 1 rfl) ?_
  refine lv_if_eq (tgt := 50) hx hb dX8_readUnit_43 (by decide) (fun c_1 => ?_) (fun c_1 => ?_)
  · have h := if_t c_1 h
    refine lv_iconst (v := (0 : Int32)) hx hb dX8_readUnit_50 (by decide) ?_
    exact wX8_readUnit_51 E   S x1 (0 : Int32) h _ _ _ X hl
  · have h := if_f c_1 h
    refine lv_iconst (v := (1 : Int32)) hx hb dX8_readUnit_46 (by decide) ?_
    refine lv_goto (tgt := 51) hx hb dX8_readUnit_47 (by decide) ?_
    exact wX8_readUnit_51 E   S x1 (1 : Int32) h _ _ _ X hl
set_option maxRecDepth 20000 in
theorem wX8_readUnit_22 {p : Program} {l : Launch} {e : Env} {s : State} {m : MethodId} {args : Array Value} {below : List Frame} {meth : Method} {c : Code} {Z : XG} {r : Int32} {S' : Mem} (E : XE p s m args meth c cX8_readUnit 2 RX8 (some .int) mL Z) : ∀ (S : Mem) (s0 : Int32), fX8_readUnit_22  S s0 = some (r, S') → WN p l e { frames := 3, cells := 0, slots := 0, locals := 65 } s m args below meth c mL Z (XQ mL Z r S') S 22 2 [(0, .ref (Z.2.1 0))] [.int s0] := by
  obtain ⟨hx, hb, -, -, -, -, -, -, -, hQ⟩ := id E
  intro S s0 h H locs ls X hl
  unfold fX8_readUnit_22 at h
  refine lv_istore_n (lv' := [(1, .int s0), (0, .ref (Z.2.1 0))]) hx hb dX8_readUnit_22 rfl hl (by decide) rfl (fun ls hl => ?_)
  refine lv_iload_n hx hb dX8_readUnit_23 rfl (lv_at hl 0 rfl) ?_
  refine lv_if_ne (tgt := 41) hx hb dX8_readUnit_24 (by decide) (fun c_1 => ?_) (fun c_1 => ?_)
  · have h := if_f c_1 h
    exact wX8_readUnit_41 E   S s0 h _ _ _ X (lv_sub hl [1, 0] rfl)
  · have h := if_t c_1 h
    refine lv_aload_n hx hb dX8_readUnit_27 rfl (lv_at hl 1 rfl) ?_
    refine x_get E X ffX8_146 rfl rfl dX8_readUnit_28 ?_
    refine lv_iconst (v := (3 : Int32)) hx hb dX8_readUnit_31 (by decide) ?_
    refine lv_icmp_eq (tgt := 41) hx hb dX8_readUnit_32 (by decide) (fun c_2 => ?_) (fun c_2 => ?_)
    · have h := if_t c_2 h
      exact wX8_readUnit_41 E   S s0 h _ _ _ X (lv_sub hl [1, 0] rfl)
    · have h := if_f c_2 h
      refine lv_aload_n hx hb dX8_readUnit_35 rfl (lv_at hl 1 rfl) ?_
      refine lv_iconst (v := (1 : Int32)) hx hb dX8_readUnit_36 (by decide) ?_
      obtain ⟨r_3, S_4, hr_3, h⟩ := bnd_s h
      refine x_callV E X cwX8_174 (mX8_errs l Z hQ  (1 : Int32) hr_3) rfl rfl rfl rfl hl.1 rfl dX8_readUnit_37 (fun H locs X => ?_)
      exact x_iret E X h dX8_readUnit_40
set_option maxRecDepth 20000 in
theorem wX8_readUnit_21 {p : Program} {l : Launch} {e : Env} {s : State} {m : MethodId} {args : Array Value} {below : List Frame} {meth : Method} {c : Code} {Z : XG} {r : Int32} {S' : Mem} (E : XE p s m args meth c cX8_readUnit 2 RX8 (some .int) mL Z) : ∀ (S : Mem), fX8_readUnit_21  S  = some (r, S') → WN p l e { frames := 3, cells := 0, slots := 0, locals := 65 } s m args below meth c mL Z (XQ mL Z r S') S 21 2 [(0, .ref (Z.2.1 0))] [] := by
  obtain ⟨hx, hb, -, -, -, -, -, -, -, hQ⟩ := id E
  intro S  h H locs ls X hl
  unfold fX8_readUnit_21 at h
  refine lv_iconst (v := (0 : Int32)) hx hb dX8_readUnit_21 (by decide) ?_
  exact wX8_readUnit_22 E   S (0 : Int32) h _ _ _ X hl
set_option maxRecDepth 20000 in
theorem wX8_readUnit {p : Program} {l : Launch} {e : Env} {s : State} {m : MethodId} {args : Array Value} {below : List Frame} {meth : Method} {c : Code} {Z : XG} {r : Int32} {S' : Mem} (E : XE p s m args meth c cX8_readUnit 2 RX8 (some .int) mL Z) : ∀ (S : Mem), fX8_readUnit  S  = some (r, S') → WN p l e { frames := 3, cells := 0, slots := 0, locals := 65 } s m args below meth c mL Z (XQ mL Z r S') S 0 2 [(0, .ref (Z.2.1 0))] [] := by
  obtain ⟨hx, hb, -, -, -, -, -, -, -, hQ⟩ := id E
  intro S  h H locs ls X hl
  unfold fX8_readUnit at h
  refine lv_aload_n hx hb dX8_readUnit_0 rfl (lv_at hl 0 rfl) ?_
  refine x_get E X ffX8_146 rfl rfl dX8_readUnit_1 ?_
  refine lv_iconst (v := (2 : Int32)) hx hb dX8_readUnit_4 (by decide) ?_
  refine lv_icmp_ne (tgt := 21) hx hb dX8_readUnit_5 (by decide) (fun c_1 => ?_) (fun c_1 => ?_)
  · have h := if_f c_1 h
    exact wX8_readUnit_21 E   S  h _ _ _ X hl
  · have h := if_t c_1 h
    refine lv_aload_n hx hb dX8_readUnit_8 rfl (lv_at hl 0 rfl) ?_
    refine x_get E X ffX8_149 rfl rfl dX8_readUnit_9 ?_
    refine lv_bipush (v := (8 : Int32)) hx hb dX8_readUnit_12 (by decide) ?_
    refine lv_icmp_lt (tgt := 21) hx hb dX8_readUnit_14 (by decide) (fun c_2 => ?_) (fun c_2 => ?_)
    · have h := if_t c_2 h
      exact wX8_readUnit_21 E   S  h _ _ _ X hl
    · have h := if_f c_2 h
      refine lv_iconst (v := (1 : Int32)) hx hb dX8_readUnit_17 (by decide) ?_
      refine lv_goto (tgt := 22) hx hb dX8_readUnit_18 (by decide) ?_
      exact wX8_readUnit_22 E   S (1 : Int32) h _ _ _ X hl
/-- SevenToAShadowModel.readUnit()I -/
theorem mX8_readUnit (l : Launch) (Z : XG) (hQ : wQ (List.length mL) Z) {S S' : Mem} {r : Int32} (h : fX8_readUnit S  = some (r, S')) : XM l yX8_readUnit cX8_readUnit 2 (some .int) { frames := 3, cells := 0, slots := 0, locals := 65 } mL Z [.ref (Z.2.1 0)] S (XQ mL Z r S') := by
  refine XM.of (own := RX8) (by decide +kernel) rfl rfl hQ (fun p e s m args below meth c E ls hl X => ?_)
  exact wX8_readUnit E S  h _ _ _ X hl
def fX8_readProduct_94 (k0 : Mem → O) (S : Mem) (s1 : Int32) : O := bnd (fX8_emits S s1 (0 : Int32)) fun _ S_2 => k0 S_2 
def fX8_readProduct_74 (k0 : Mem → O) (S : Mem) (x1 : Int32) : O := bnd (fX8_readUnit S ) fun r_1 S_2 => (if r_1 = (-1 : Int32) then some ((-1 : Int32), S_2) else (if x1 = 0 then fX8_readProduct_94 k0 S_2 (5 : Int32) else fX8_readProduct_94 k0 S_2 (4 : Int32)))
def fX8_readProduct_57 (k0 : Mem → O) (S : Mem) (x1 : Int32) : O := (if x1 = 0 then (if (S 0 20) = 0 then bnd (fX8_errs S (2 : Int32)) fun r_3 S_4 => some (r_3, S_4) else fX8_readProduct_74 k0 S x1) else fX8_readProduct_74 k0 S x1)
def fX8_readProduct_28 (k0 : Mem → O) (S : Mem) : O := bnd (fX8_isSign S (42 : Int32)) fun r_1 S_2 => bnd (fX8_reads S_2 ) fun _ S_4 => (if r_1 = 0 then (if (S_4 0 19) = (3 : Int32) then fX8_readProduct_57 k0 S_4 r_1 else bnd (fX8_errs S_4 (1 : Int32)) fun r_7 S_8 => some (r_7, S_8)) else fX8_readProduct_57 k0 S_4 r_1)
def fX8_readProduct_10_b (k0 : Mem → O) (S : Mem) : O := bnd (fX8_isSign S (42 : Int32)) fun r_1 S_2 => (if r_1 = 0 then bnd (fX8_isSign S_2 (47 : Int32)) fun r_4 S_5 => (if r_4 = 0 then some ((0 : Int32), S_5) else fX8_readProduct_28 k0 S_5 ) else fX8_readProduct_28 k0 S_2 )
def fX8_readProduct_10 : Nat → Mem → O
  | 0 => fun _ => none
  | n + 1 => fX8_readProduct_10_b (fX8_readProduct_10 n)
def fX8_readProduct (S : Mem) : O := bnd (fX8_readUnit S ) fun r_1 S_2 => (if r_1 = (-1 : Int32) then some ((-1 : Int32), S_2) else fX8_readProduct_10  FU S_2 )
theorem dX8_readProduct_0 : decode cX8_readProduct 0 = .ok (.aload_n 0, 1) := by decide +kernel
theorem dX8_readProduct_1 : decode cX8_readProduct 1 = .ok (.invokevirtual 184, 3) := by decide +kernel
theorem dX8_readProduct_4 : decode cX8_readProduct 4 = .ok (.iconst (-1), 1) := by decide +kernel
theorem dX8_readProduct_5 : decode cX8_readProduct 5 = .ok (.if_icmp .ne 5, 3) := by decide +kernel
theorem dX8_readProduct_8 : decode cX8_readProduct 8 = .ok (.iconst (-1), 1) := by decide +kernel
theorem dX8_readProduct_9 : decode cX8_readProduct 9 = .ok (.ireturn, 1) := by decide +kernel
theorem dX8_readProduct_10 : decode cX8_readProduct 10 = .ok (.aload_n 0, 1) := by decide +kernel
theorem dX8_readProduct_11 : decode cX8_readProduct 11 = .ok (.bipush 42, 2) := by decide +kernel
theorem dX8_readProduct_13 : decode cX8_readProduct 13 = .ok (.invokevirtual 188, 3) := by decide +kernel
theorem dX8_readProduct_16 : decode cX8_readProduct 16 = .ok (.ifCond .ne 12, 3) := by decide +kernel
theorem dX8_readProduct_19 : decode cX8_readProduct 19 = .ok (.aload_n 0, 1) := by decide +kernel
theorem dX8_readProduct_20 : decode cX8_readProduct 20 = .ok (.bipush 47, 2) := by decide +kernel
theorem dX8_readProduct_22 : decode cX8_readProduct 22 = .ok (.invokevirtual 188, 3) := by decide +kernel
theorem dX8_readProduct_25 : decode cX8_readProduct 25 = .ok (.ifCond .eq 76, 3) := by decide +kernel
theorem dX8_readProduct_28 : decode cX8_readProduct 28 = .ok (.aload_n 0, 1) := by decide +kernel
theorem dX8_readProduct_29 : decode cX8_readProduct 29 = .ok (.bipush 42, 2) := by decide +kernel
theorem dX8_readProduct_31 : decode cX8_readProduct 31 = .ok (.invokevirtual 188, 3) := by decide +kernel
theorem dX8_readProduct_34 : decode cX8_readProduct 34 = .ok (.istore_n 1, 1) := by decide +kernel
theorem dX8_readProduct_35 : decode cX8_readProduct 35 = .ok (.aload_n 0, 1) := by decide +kernel
theorem dX8_readProduct_36 : decode cX8_readProduct 36 = .ok (.invokevirtual 181, 3) := by decide +kernel
theorem dX8_readProduct_39 : decode cX8_readProduct 39 = .ok (.iload_n 1, 1) := by decide +kernel
theorem dX8_readProduct_40 : decode cX8_readProduct 40 = .ok (.ifCond .ne 17, 3) := by decide +kernel
theorem dX8_readProduct_43 : decode cX8_readProduct 43 = .ok (.aload_n 0, 1) := by decide +kernel
theorem dX8_readProduct_44 : decode cX8_readProduct 44 = .ok (.getfield 146, 3) := by decide +kernel
theorem dX8_readProduct_47 : decode cX8_readProduct 47 = .ok (.iconst 3, 1) := by decide +kernel
theorem dX8_readProduct_48 : decode cX8_readProduct 48 = .ok (.if_icmp .eq 9, 3) := by decide +kernel
theorem dX8_readProduct_51 : decode cX8_readProduct 51 = .ok (.aload_n 0, 1) := by decide +kernel
theorem dX8_readProduct_52 : decode cX8_readProduct 52 = .ok (.iconst 1, 1) := by decide +kernel
theorem dX8_readProduct_53 : decode cX8_readProduct 53 = .ok (.invokevirtual 174, 3) := by decide +kernel
theorem dX8_readProduct_56 : decode cX8_readProduct 56 = .ok (.ireturn, 1) := by decide +kernel
theorem dX8_readProduct_57 : decode cX8_readProduct 57 = .ok (.iload_n 1, 1) := by decide +kernel
theorem dX8_readProduct_58 : decode cX8_readProduct 58 = .ok (.ifCond .ne 16, 3) := by decide +kernel
theorem dX8_readProduct_61 : decode cX8_readProduct 61 = .ok (.aload_n 0, 1) := by decide +kernel
theorem dX8_readProduct_62 : decode cX8_readProduct 62 = .ok (.getfield 149, 3) := by decide +kernel
theorem dX8_readProduct_65 : decode cX8_readProduct 65 = .ok (.ifCond .ne 9, 3) := by decide +kernel
theorem dX8_readProduct_68 : decode cX8_readProduct 68 = .ok (.aload_n 0, 1) := by decide +kernel
theorem dX8_readProduct_69 : decode cX8_readProduct 69 = .ok (.iconst 2, 1) := by decide +kernel
theorem dX8_readProduct_70 : decode cX8_readProduct 70 = .ok (.invokevirtual 174, 3) := by decide +kernel
theorem dX8_readProduct_73 : decode cX8_readProduct 73 = .ok (.ireturn, 1) := by decide +kernel
theorem dX8_readProduct_74 : decode cX8_readProduct 74 = .ok (.aload_n 0, 1) := by decide +kernel
theorem dX8_readProduct_75 : decode cX8_readProduct 75 = .ok (.invokevirtual 184, 3) := by decide +kernel
theorem dX8_readProduct_78 : decode cX8_readProduct 78 = .ok (.iconst (-1), 1) := by decide +kernel
theorem dX8_readProduct_79 : decode cX8_readProduct 79 = .ok (.if_icmp .ne 5, 3) := by decide +kernel
theorem dX8_readProduct_82 : decode cX8_readProduct 82 = .ok (.iconst (-1), 1) := by decide +kernel
theorem dX8_readProduct_83 : decode cX8_readProduct 83 = .ok (.ireturn, 1) := by decide +kernel
theorem dX8_readProduct_84 : decode cX8_readProduct 84 = .ok (.aload_n 0, 1) := by decide +kernel
theorem dX8_readProduct_85 : decode cX8_readProduct 85 = .ok (.iload_n 1, 1) := by decide +kernel
theorem dX8_readProduct_86 : decode cX8_readProduct 86 = .ok (.ifCond .eq 7, 3) := by decide +kernel
theorem dX8_readProduct_89 : decode cX8_readProduct 89 = .ok (.iconst 4, 1) := by decide +kernel
theorem dX8_readProduct_90 : decode cX8_readProduct 90 = .ok (.goto 4, 3) := by decide +kernel
theorem dX8_readProduct_93 : decode cX8_readProduct 93 = .ok (.iconst 5, 1) := by decide +kernel
theorem dX8_readProduct_94 : decode cX8_readProduct 94 = .ok (.iconst 0, 1) := by decide +kernel
theorem dX8_readProduct_95 : decode cX8_readProduct 95 = .ok (.invokevirtual 177, 3) := by decide +kernel
theorem dX8_readProduct_98 : decode cX8_readProduct 98 = .ok (.goto (-88), 3) := by decide +kernel
theorem dX8_readProduct_101 : decode cX8_readProduct 101 = .ok (.iconst 0, 1) := by decide +kernel
theorem dX8_readProduct_102 : decode cX8_readProduct 102 = .ok (.ireturn, 1) := by decide +kernel
set_option maxRecDepth 20000 in
theorem wX8_readProduct_94 {p : Program} {l : Launch} {e : Env} {s : State} {m : MethodId} {args : Array Value} {below : List Frame} {meth : Method} {c : Code} {Z : XG} {r : Int32} {S' : Mem} (E : XE p s m args meth c cX8_readProduct 2 RX8 (some .int) mL Z) (k0 : Mem → O)  (hk0 : ∀ (S : Mem), k0 S  = some (r, S') → WN p l e { frames := 4, cells := 0, slots := 0, locals := 86 } s m args below meth c mL Z (XQ mL Z r S') S 10 2 [(0, .ref (Z.2.1 0))] []) : ∀ (S : Mem) (s1 : Int32), fX8_readProduct_94 k0 S s1 = some (r, S') → WN p l e { frames := 4, cells := 0, slots := 0, locals := 86 } s m args below meth c mL Z (XQ mL Z r S') S 94 2 [(0, .ref (Z.2.1 0))] [.int s1, .ref (Z.2.1 0)] := by
  obtain ⟨hx, hb, -, -, -, -, -, -, -, hQ⟩ := id E
  intro S s1 h H locs ls X hl
  unfold fX8_readProduct_94 at h
  refine lv_iconst (v := (0 : Int32)) hx hb dX8_readProduct_94 (by decide) ?_
  obtain ⟨r_1, S_2, hr_1, h⟩ := bnd_s h
  refine x_callVv E X cwX8_177 (mX8_emits l Z hQ  s1 (0 : Int32) hr_1) rfl rfl rfl rfl hl.1 rfl dX8_readProduct_95 (fun H locs X => ?_)
  refine lv_goto (tgt := 10) hx hb dX8_readProduct_98 (by decide) ?_
  exact hk0 S_2  h _ _ _ X hl
set_option maxRecDepth 20000 in
theorem wX8_readProduct_74 {p : Program} {l : Launch} {e : Env} {s : State} {m : MethodId} {args : Array Value} {below : List Frame} {meth : Method} {c : Code} {Z : XG} {r : Int32} {S' : Mem} (E : XE p s m args meth c cX8_readProduct 2 RX8 (some .int) mL Z) (k0 : Mem → O)  (hk0 : ∀ (S : Mem), k0 S  = some (r, S') → WN p l e { frames := 4, cells := 0, slots := 0, locals := 86 } s m args below meth c mL Z (XQ mL Z r S') S 10 2 [(0, .ref (Z.2.1 0))] []) : ∀ (S : Mem) (x1 : Int32), fX8_readProduct_74 k0 S x1 = some (r, S') → WN p l e { frames := 4, cells := 0, slots := 0, locals := 86 } s m args below meth c mL Z (XQ mL Z r S') S 74 2 [(0, .ref (Z.2.1 0)), (1, .int x1)] [] := by
  obtain ⟨hx, hb, -, -, -, -, -, -, -, hQ⟩ := id E
  intro S x1 h H locs ls X hl
  unfold fX8_readProduct_74 at h
  refine lv_aload_n hx hb dX8_readProduct_74 rfl (lv_at hl 0 rfl) ?_
  obtain ⟨r_1, S_2, hr_1, h⟩ := bnd_s h
  refine x_callV E X cwX8_184 (mX8_readUnit l Z hQ   hr_1) rfl rfl rfl rfl hl.1 rfl dX8_readProduct_75 (fun H locs X => ?_)
  refine lv_iconst (v := (-1 : Int32)) hx hb dX8_readProduct_78 (by decide) ?_
  refine lv_icmp_ne (tgt := 84) hx hb dX8_readProduct_79 (by decide) (fun c_3 => ?_) (fun c_3 => ?_)
  · have h := if_f c_3 h
    refine lv_aload_n hx hb dX8_readProduct_84 rfl (lv_at hl 0 rfl) ?_
    refine lv_iload_n hx hb dX8_readProduct_85 rfl (lv_at hl 1 rfl) ?_
    refine lv_if_eq (tgt := 93) hx hb dX8_readProduct_86 (by decide) (fun c_4 => ?_) (fun c_4 => ?_)
    · have h := if_t c_4 h
      refine lv_iconst (v := (5 : Int32)) hx hb dX8_readProduct_93 (by decide) ?_
      exact wX8_readProduct_94 E k0 hk0 S_2 (5 : Int32) h _ _ _ X (lv_sub hl [0] rfl)
    · have h := if_f c_4 h
      refine lv_iconst (v := (4 : Int32)) hx hb dX8_readProduct_89 (by decide) ?_
      refine lv_goto (tgt := 94) hx hb dX8_readProduct_90 (by decide) ?_
      exact wX8_readProduct_94 E k0 hk0 S_2 (4 : Int32) h _ _ _ X (lv_sub hl [0] rfl)
  · have h := if_t c_3 h
    refine lv_iconst (v := (-1 : Int32)) hx hb dX8_readProduct_82 (by decide) ?_
    exact x_iret E X h dX8_readProduct_83
set_option maxRecDepth 20000 in
theorem wX8_readProduct_57 {p : Program} {l : Launch} {e : Env} {s : State} {m : MethodId} {args : Array Value} {below : List Frame} {meth : Method} {c : Code} {Z : XG} {r : Int32} {S' : Mem} (E : XE p s m args meth c cX8_readProduct 2 RX8 (some .int) mL Z) (k0 : Mem → O)  (hk0 : ∀ (S : Mem), k0 S  = some (r, S') → WN p l e { frames := 4, cells := 0, slots := 0, locals := 86 } s m args below meth c mL Z (XQ mL Z r S') S 10 2 [(0, .ref (Z.2.1 0))] []) : ∀ (S : Mem) (x1 : Int32), fX8_readProduct_57 k0 S x1 = some (r, S') → WN p l e { frames := 4, cells := 0, slots := 0, locals := 86 } s m args below meth c mL Z (XQ mL Z r S') S 57 2 [(0, .ref (Z.2.1 0)), (1, .int x1)] [] := by
  obtain ⟨hx, hb, -, -, -, -, -, -, -, hQ⟩ := id E
  intro S x1 h H locs ls X hl
  unfold fX8_readProduct_57 at h
  refine lv_iload_n hx hb dX8_readProduct_57 rfl (lv_at hl 1 rfl) ?_
  refine lv_if_ne (tgt := 74) hx hb dX8_readProduct_58 (by decide) (fun c_1 => ?_) (fun c_1 => ?_)
  · have h := if_f c_1 h
    exact wX8_readProduct_74 E k0 hk0 S x1 h _ _ _ X hl
  · have h := if_t c_1 h
    refine lv_aload_n hx hb dX8_readProduct_61 rfl (lv_at hl 0 rfl) ?_
    refine x_get E X ffX8_149 rfl rfl dX8_readProduct_62 ?_
    refine lv_if_ne (tgt := 74) hx hb dX8_readProduct_65 (by decide) (fun c_2 => ?_) (fun c_2 => ?_)
    · have h := if_f c_2 h
      exact wX8_readProduct_74 E k0 hk0 S x1 h _ _ _ X hl
    · have h := if_t c_2 h
      refine lv_aload_n hx hb dX8_readProduct_68 rfl (lv_at hl 0 rfl) ?_
      refine lv_iconst (v := (2 : Int32)) hx hb dX8_readProduct_69 (by decide) ?_
      obtain ⟨r_3, S_4, hr_3, h⟩ := bnd_s h
      refine x_callV E X cwX8_174 (mX8_errs l Z hQ  (2 : Int32) hr_3) rfl rfl rfl rfl hl.1 rfl dX8_readProduct_70 (fun H locs X => ?_)
      exact x_iret E X h dX8_readProduct_73
set_option maxRecDepth 20000 in
theorem wX8_readProduct_28 {p : Program} {l : Launch} {e : Env} {s : State} {m : MethodId} {args : Array Value} {below : List Frame} {meth : Method} {c : Code} {Z : XG} {r : Int32} {S' : Mem} (E : XE p s m args meth c cX8_readProduct 2 RX8 (some .int) mL Z) (k0 : Mem → O)  (hk0 : ∀ (S : Mem), k0 S  = some (r, S') → WN p l e { frames := 4, cells := 0, slots := 0, locals := 86 } s m args below meth c mL Z (XQ mL Z r S') S 10 2 [(0, .ref (Z.2.1 0))] []) : ∀ (S : Mem), fX8_readProduct_28 k0 S  = some (r, S') → WN p l e { frames := 4, cells := 0, slots := 0, locals := 86 } s m args below meth c mL Z (XQ mL Z r S') S 28 2 [(0, .ref (Z.2.1 0))] [] := by
  obtain ⟨hx, hb, -, -, -, -, -, -, -, hQ⟩ := id E
  intro S  h H locs ls X hl
  unfold fX8_readProduct_28 at h
  refine lv_aload_n hx hb dX8_readProduct_28 rfl (lv_at hl 0 rfl) ?_
  refine lv_bipush (v := (42 : Int32)) hx hb dX8_readProduct_29 (by decide) ?_
  obtain ⟨r_1, S_2, hr_1, h⟩ := bnd_s h
  refine x_callV E X cwX8_188 (mX8_isSign l Z hQ  (42 : Int32) hr_1) rfl rfl rfl rfl hl.1 rfl dX8_readProduct_31 (fun H locs X => ?_)
  refine lv_istore_n (lv' := [(1, .int r_1), (0, .ref (Z.2.1 0))]) hx hb dX8_readProduct_34 rfl hl (by decide) rfl (fun ls hl => ?_)
  refine lv_aload_n hx hb dX8_readProduct_35 rfl (lv_at hl 1 rfl) ?_
  obtain ⟨r_3, S_4, hr_3, h⟩ := bnd_s h
  refine x_callVv E X cwX8_181 (mX8_reads l Z hQ   hr_3) rfl rfl rfl rfl hl.1 rfl dX8_readProduct_36 (fun H locs X => ?_)
  refine lv_iload_n hx hb dX8_readProduct_39 rfl (lv_at hl 0 rfl) ?_
  refine lv_if_ne (tgt := 57) hx hb dX8_readProduct_40 (by decide) (fun c_5 => ?_) (fun c_5 => ?_)
  · have h := if_f c_5 h
    exact wX8_readProduct_57 E k0 hk0 S_4 r_1 h _ _ _ X (lv_sub hl [1, 0] rfl)
  · have h := if_t c_5 h
    refine lv_aload_n hx hb dX8_readProduct_43 rfl (lv_at hl 1 rfl) ?_
    refine x_get E X ffX8_146 rfl rfl dX8_readProduct_44 ?_
    refine lv_iconst (v := (3 : Int32)) hx hb dX8_readProduct_47 (by decide) ?_
    refine lv_icmp_eq (tgt := 57) hx hb dX8_readProduct_48 (by decide) (fun c_6 => ?_) (fun c_6 => ?_)
    · have h := if_t c_6 h
      exact wX8_readProduct_57 E k0 hk0 S_4 r_1 h _ _ _ X (lv_sub hl [1, 0] rfl)
    · have h := if_f c_6 h
      refine lv_aload_n hx hb dX8_readProduct_51 rfl (lv_at hl 1 rfl) ?_
      refine lv_iconst (v := (1 : Int32)) hx hb dX8_readProduct_52 (by decide) ?_
      obtain ⟨r_7, S_8, hr_7, h⟩ := bnd_s h
      refine x_callV E X cwX8_174 (mX8_errs l Z hQ  (1 : Int32) hr_7) rfl rfl rfl rfl hl.1 rfl dX8_readProduct_53 (fun H locs X => ?_)
      exact x_iret E X h dX8_readProduct_56
set_option maxRecDepth 20000 in
theorem wX8_readProduct_10_b {p : Program} {l : Launch} {e : Env} {s : State} {m : MethodId} {args : Array Value} {below : List Frame} {meth : Method} {c : Code} {Z : XG} {r : Int32} {S' : Mem} (E : XE p s m args meth c cX8_readProduct 2 RX8 (some .int) mL Z) (k0 : Mem → O)  (hk0 : ∀ (S : Mem), k0 S  = some (r, S') → WN p l e { frames := 4, cells := 0, slots := 0, locals := 86 } s m args below meth c mL Z (XQ mL Z r S') S 10 2 [(0, .ref (Z.2.1 0))] []) : ∀ (S : Mem), fX8_readProduct_10_b k0 S  = some (r, S') → WN p l e { frames := 4, cells := 0, slots := 0, locals := 86 } s m args below meth c mL Z (XQ mL Z r S') S 10 2 [(0, .ref (Z.2.1 0))] [] := by
  obtain ⟨hx, hb, -, -, -, -, -, -, -, hQ⟩ := id E
  intro S  h H locs ls X hl
  unfold fX8_readProduct_10_b at h
  refine lv_aload_n hx hb dX8_readProduct_10 rfl (lv_at hl 0 rfl) ?_
  refine lv_bipush (v := (42 : Int32)) hx hb dX8_readProduct_11 (by decide) ?_
  obtain ⟨r_1, S_2, hr_1, h⟩ := bnd_s h
  refine x_callV E X cwX8_188 (mX8_isSign l Z hQ  (42 : Int32) hr_1) rfl rfl rfl rfl hl.1 rfl dX8_readProduct_13 (fun H locs X => ?_)
  refine lv_if_ne (tgt := 28) hx hb dX8_readProduct_16 (by decide) (fun c_3 => ?_) (fun c_3 => ?_)
  · have h := if_f c_3 h
    exact wX8_readProduct_28 E k0 hk0 S_2  h _ _ _ X hl
  · have h := if_t c_3 h
    refine lv_aload_n hx hb dX8_readProduct_19 rfl (lv_at hl 0 rfl) ?_
    refine lv_bipush (v := (47 : Int32)) hx hb dX8_readProduct_20 (by decide) ?_
    obtain ⟨r_4, S_5, hr_4, h⟩ := bnd_s h
    refine x_callV E X cwX8_188 (mX8_isSign l Z hQ  (47 : Int32) hr_4) rfl rfl rfl rfl hl.1 rfl dX8_readProduct_22 (fun H locs X => ?_)
    refine lv_if_eq (tgt := 101) hx hb dX8_readProduct_25 (by decide) (fun c_6 => ?_) (fun c_6 => ?_)
    · have h := if_t c_6 h
      refine lv_iconst (v := (0 : Int32)) hx hb dX8_readProduct_101 (by decide) ?_
      exact x_iret E X h dX8_readProduct_102
    · have h := if_f c_6 h
      exact wX8_readProduct_28 E k0 hk0 S_5  h _ _ _ X hl
theorem wX8_readProduct_10 {p : Program} {l : Launch} {e : Env} {s : State} {m : MethodId} {args : Array Value} {below : List Frame} {meth : Method} {c : Code} {Z : XG} {r : Int32} {S' : Mem} (E : XE p s m args meth c cX8_readProduct 2 RX8 (some .int) mL Z) : ∀ (n : Nat) (S : Mem), fX8_readProduct_10 n S  = some (r, S') → WN p l e { frames := 4, cells := 0, slots := 0, locals := 86 } s m args below meth c mL Z (XQ mL Z r S') S 10 2 [(0, .ref (Z.2.1 0))] [] := by
  intro n
  induction n with
  | zero => intro S  h; exact absurd (show (none : O) = some _ from h) (by simp)
  | succ n ih => intro S  h; exact wX8_readProduct_10_b E (fX8_readProduct_10 n) ih S  h
set_option maxRecDepth 20000 in
theorem wX8_readProduct {p : Program} {l : Launch} {e : Env} {s : State} {m : MethodId} {args : Array Value} {below : List Frame} {meth : Method} {c : Code} {Z : XG} {r : Int32} {S' : Mem} (E : XE p s m args meth c cX8_readProduct 2 RX8 (some .int) mL Z) : ∀ (S : Mem), fX8_readProduct  S  = some (r, S') → WN p l e { frames := 4, cells := 0, slots := 0, locals := 86 } s m args below meth c mL Z (XQ mL Z r S') S 0 2 [(0, .ref (Z.2.1 0))] [] := by
  obtain ⟨hx, hb, -, -, -, -, -, -, -, hQ⟩ := id E
  intro S  h H locs ls X hl
  unfold fX8_readProduct at h
  refine lv_aload_n hx hb dX8_readProduct_0 rfl (lv_at hl 0 rfl) ?_
  obtain ⟨r_1, S_2, hr_1, h⟩ := bnd_s h
  refine x_callV E X cwX8_184 (mX8_readUnit l Z hQ   hr_1) rfl rfl rfl rfl hl.1 rfl dX8_readProduct_1 (fun H locs X => ?_)
  refine lv_iconst (v := (-1 : Int32)) hx hb dX8_readProduct_4 (by decide) ?_
  refine lv_icmp_ne (tgt := 10) hx hb dX8_readProduct_5 (by decide) (fun c_3 => ?_) (fun c_3 => ?_)
  · have h := if_f c_3 h
    exact wX8_readProduct_10 E   FU S_2  h _ _ _ X hl
  · have h := if_t c_3 h
    refine lv_iconst (v := (-1 : Int32)) hx hb dX8_readProduct_8 (by decide) ?_
    exact x_iret E X h dX8_readProduct_9
/-- SevenToAShadowModel.readProduct()I -/
theorem mX8_readProduct (l : Launch) (Z : XG) (hQ : wQ (List.length mL) Z) {S S' : Mem} {r : Int32} (h : fX8_readProduct S  = some (r, S')) : XM l yX8_readProduct cX8_readProduct 2 (some .int) { frames := 4, cells := 0, slots := 0, locals := 86 } mL Z [.ref (Z.2.1 0)] S (XQ mL Z r S') := by
  refine XM.of (own := RX8) (by decide +kernel) rfl rfl hQ (fun p e s m args below meth c E ls hl X => ?_)
  exact wX8_readProduct E S  h _ _ _ X hl
def fX8_readSum_42 (k0 : Mem → O) (S : Mem) (s0 : Int32) : O := bnd (fX8_reads S ) fun _ S_2 => bnd (fX8_readProduct S_2 ) fun r_3 S_4 => (if r_3 = (-1 : Int32) then some ((-1 : Int32), S_4) else bnd (fX8_emits S_4 s0 (0 : Int32)) fun _ S_7 => k0 S_7 )
def fX8_readSum_28 (k0 : Mem → O) (S : Mem) : O := (if (S 0 20) = (43 : Int32) then fX8_readSum_42 k0 S (2 : Int32) else fX8_readSum_42 k0 S (3 : Int32))
def fX8_readSum_10_b (k0 : Mem → O) (S : Mem) : O := bnd (fX8_isSign S (43 : Int32)) fun r_1 S_2 => (if r_1 = 0 then bnd (fX8_isSign S_2 (45 : Int32)) fun r_4 S_5 => (if r_4 = 0 then some ((0 : Int32), S_5) else fX8_readSum_28 k0 S_5 ) else fX8_readSum_28 k0 S_2 )
def fX8_readSum_10 : Nat → Mem → O
  | 0 => fun _ => none
  | n + 1 => fX8_readSum_10_b (fX8_readSum_10 n)
def fX8_readSum (S : Mem) : O := bnd (fX8_readProduct S ) fun r_1 S_2 => (if r_1 = (-1 : Int32) then some ((-1 : Int32), S_2) else fX8_readSum_10  FU S_2 )
theorem dX8_readSum_0 : decode cX8_readSum 0 = .ok (.aload_n 0, 1) := by decide +kernel
theorem dX8_readSum_1 : decode cX8_readSum 1 = .ok (.invokevirtual 191, 3) := by decide +kernel
theorem dX8_readSum_4 : decode cX8_readSum 4 = .ok (.iconst (-1), 1) := by decide +kernel
theorem dX8_readSum_5 : decode cX8_readSum 5 = .ok (.if_icmp .ne 5, 3) := by decide +kernel
theorem dX8_readSum_8 : decode cX8_readSum 8 = .ok (.iconst (-1), 1) := by decide +kernel
theorem dX8_readSum_9 : decode cX8_readSum 9 = .ok (.ireturn, 1) := by decide +kernel
theorem dX8_readSum_10 : decode cX8_readSum 10 = .ok (.aload_n 0, 1) := by decide +kernel
theorem dX8_readSum_11 : decode cX8_readSum 11 = .ok (.bipush 43, 2) := by decide +kernel
theorem dX8_readSum_13 : decode cX8_readSum 13 = .ok (.invokevirtual 188, 3) := by decide +kernel
theorem dX8_readSum_16 : decode cX8_readSum 16 = .ok (.ifCond .ne 12, 3) := by decide +kernel
theorem dX8_readSum_19 : decode cX8_readSum 19 = .ok (.aload_n 0, 1) := by decide +kernel
theorem dX8_readSum_20 : decode cX8_readSum 20 = .ok (.bipush 45, 2) := by decide +kernel
theorem dX8_readSum_22 : decode cX8_readSum 22 = .ok (.invokevirtual 188, 3) := by decide +kernel
theorem dX8_readSum_25 : decode cX8_readSum 25 = .ok (.ifCond .eq 41, 3) := by decide +kernel
theorem dX8_readSum_28 : decode cX8_readSum 28 = .ok (.aload_n 0, 1) := by decide +kernel
theorem dX8_readSum_29 : decode cX8_readSum 29 = .ok (.getfield 149, 3) := by decide +kernel
theorem dX8_readSum_32 : decode cX8_readSum 32 = .ok (.bipush 43, 2) := by decide +kernel
theorem dX8_readSum_34 : decode cX8_readSum 34 = .ok (.if_icmp .ne 7, 3) := by decide +kernel
theorem dX8_readSum_37 : decode cX8_readSum 37 = .ok (.iconst 2, 1) := by decide +kernel
theorem dX8_readSum_38 : decode cX8_readSum 38 = .ok (.goto 4, 3) := by decide +kernel
theorem dX8_readSum_41 : decode cX8_readSum 41 = .ok (.iconst 3, 1) := by decide +kernel
theorem dX8_readSum_42 : decode cX8_readSum 42 = .ok (.istore_n 1, 1) := by decide +kernel
theorem dX8_readSum_43 : decode cX8_readSum 43 = .ok (.aload_n 0, 1) := by decide +kernel
theorem dX8_readSum_44 : decode cX8_readSum 44 = .ok (.invokevirtual 181, 3) := by decide +kernel
theorem dX8_readSum_47 : decode cX8_readSum 47 = .ok (.aload_n 0, 1) := by decide +kernel
theorem dX8_readSum_48 : decode cX8_readSum 48 = .ok (.invokevirtual 191, 3) := by decide +kernel
theorem dX8_readSum_51 : decode cX8_readSum 51 = .ok (.iconst (-1), 1) := by decide +kernel
theorem dX8_readSum_52 : decode cX8_readSum 52 = .ok (.if_icmp .ne 5, 3) := by decide +kernel
theorem dX8_readSum_55 : decode cX8_readSum 55 = .ok (.iconst (-1), 1) := by decide +kernel
theorem dX8_readSum_56 : decode cX8_readSum 56 = .ok (.ireturn, 1) := by decide +kernel
theorem dX8_readSum_57 : decode cX8_readSum 57 = .ok (.aload_n 0, 1) := by decide +kernel
theorem dX8_readSum_58 : decode cX8_readSum 58 = .ok (.iload_n 1, 1) := by decide +kernel
theorem dX8_readSum_59 : decode cX8_readSum 59 = .ok (.iconst 0, 1) := by decide +kernel
theorem dX8_readSum_60 : decode cX8_readSum 60 = .ok (.invokevirtual 177, 3) := by decide +kernel
theorem dX8_readSum_63 : decode cX8_readSum 63 = .ok (.goto (-53), 3) := by decide +kernel
theorem dX8_readSum_66 : decode cX8_readSum 66 = .ok (.iconst 0, 1) := by decide +kernel
theorem dX8_readSum_67 : decode cX8_readSum 67 = .ok (.ireturn, 1) := by decide +kernel
set_option maxRecDepth 20000 in
theorem wX8_readSum_42 {p : Program} {l : Launch} {e : Env} {s : State} {m : MethodId} {args : Array Value} {below : List Frame} {meth : Method} {c : Code} {Z : XG} {r : Int32} {S' : Mem} (E : XE p s m args meth c cX8_readSum 2 RX8 (some .int) mL Z) (k0 : Mem → O)  (hk0 : ∀ (S : Mem), k0 S  = some (r, S') → WN p l e { frames := 5, cells := 0, slots := 0, locals := 107 } s m args below meth c mL Z (XQ mL Z r S') S 10 2 [(0, .ref (Z.2.1 0))] []) : ∀ (S : Mem) (s0 : Int32), fX8_readSum_42 k0 S s0 = some (r, S') → WN p l e { frames := 5, cells := 0, slots := 0, locals := 107 } s m args below meth c mL Z (XQ mL Z r S') S 42 2 [(0, .ref (Z.2.1 0))] [.int s0] := by
  obtain ⟨hx, hb, -, -, -, -, -, -, -, hQ⟩ := id E
  intro S s0 h H locs ls X hl
  unfold fX8_readSum_42 at h
  refine lv_istore_n (lv' := [(1, .int s0), (0, .ref (Z.2.1 0))]) hx hb dX8_readSum_42 rfl hl (by decide) rfl (fun ls hl => ?_)
  refine lv_aload_n hx hb dX8_readSum_43 rfl (lv_at hl 1 rfl) ?_
  obtain ⟨r_1, S_2, hr_1, h⟩ := bnd_s h
  refine x_callVv E X cwX8_181 (mX8_reads l Z hQ   hr_1) rfl rfl rfl rfl hl.1 rfl dX8_readSum_44 (fun H locs X => ?_)
  refine lv_aload_n hx hb dX8_readSum_47 rfl (lv_at hl 1 rfl) ?_
  obtain ⟨r_3, S_4, hr_3, h⟩ := bnd_s h
  refine x_callV E X cwX8_191 (mX8_readProduct l Z hQ   hr_3) rfl rfl rfl rfl hl.1 rfl dX8_readSum_48 (fun H locs X => ?_)
  refine lv_iconst (v := (-1 : Int32)) hx hb dX8_readSum_51 (by decide) ?_
  refine lv_icmp_ne (tgt := 57) hx hb dX8_readSum_52 (by decide) (fun c_5 => ?_) (fun c_5 => ?_)
  · have h := if_f c_5 h
    refine lv_aload_n hx hb dX8_readSum_57 rfl (lv_at hl 1 rfl) ?_
    refine lv_iload_n hx hb dX8_readSum_58 rfl (lv_at hl 0 rfl) ?_
    refine lv_iconst (v := (0 : Int32)) hx hb dX8_readSum_59 (by decide) ?_
    obtain ⟨r_6, S_7, hr_6, h⟩ := bnd_s h
    refine x_callVv E X cwX8_177 (mX8_emits l Z hQ  s0 (0 : Int32) hr_6) rfl rfl rfl rfl hl.1 rfl dX8_readSum_60 (fun H locs X => ?_)
    refine lv_goto (tgt := 10) hx hb dX8_readSum_63 (by decide) ?_
    exact hk0 S_7  h _ _ _ X (lv_sub hl [1] rfl)
  · have h := if_t c_5 h
    refine lv_iconst (v := (-1 : Int32)) hx hb dX8_readSum_55 (by decide) ?_
    exact x_iret E X h dX8_readSum_56
set_option maxRecDepth 20000 in
theorem wX8_readSum_28 {p : Program} {l : Launch} {e : Env} {s : State} {m : MethodId} {args : Array Value} {below : List Frame} {meth : Method} {c : Code} {Z : XG} {r : Int32} {S' : Mem} (E : XE p s m args meth c cX8_readSum 2 RX8 (some .int) mL Z) (k0 : Mem → O)  (hk0 : ∀ (S : Mem), k0 S  = some (r, S') → WN p l e { frames := 5, cells := 0, slots := 0, locals := 107 } s m args below meth c mL Z (XQ mL Z r S') S 10 2 [(0, .ref (Z.2.1 0))] []) : ∀ (S : Mem), fX8_readSum_28 k0 S  = some (r, S') → WN p l e { frames := 5, cells := 0, slots := 0, locals := 107 } s m args below meth c mL Z (XQ mL Z r S') S 28 2 [(0, .ref (Z.2.1 0))] [] := by
  obtain ⟨hx, hb, -, -, -, -, -, -, -, hQ⟩ := id E
  intro S  h H locs ls X hl
  unfold fX8_readSum_28 at h
  refine lv_aload_n hx hb dX8_readSum_28 rfl (lv_at hl 0 rfl) ?_
  refine x_get E X ffX8_149 rfl rfl dX8_readSum_29 ?_
  refine lv_bipush (v := (43 : Int32)) hx hb dX8_readSum_32 (by decide) ?_
  refine lv_icmp_ne (tgt := 41) hx hb dX8_readSum_34 (by decide) (fun c_1 => ?_) (fun c_1 => ?_)
  · have h := if_f c_1 h
    refine lv_iconst (v := (3 : Int32)) hx hb dX8_readSum_41 (by decide) ?_
    exact wX8_readSum_42 E k0 hk0 S (3 : Int32) h _ _ _ X hl
  · have h := if_t c_1 h
    refine lv_iconst (v := (2 : Int32)) hx hb dX8_readSum_37 (by decide) ?_
    refine lv_goto (tgt := 42) hx hb dX8_readSum_38 (by decide) ?_
    exact wX8_readSum_42 E k0 hk0 S (2 : Int32) h _ _ _ X hl
set_option maxRecDepth 20000 in
theorem wX8_readSum_10_b {p : Program} {l : Launch} {e : Env} {s : State} {m : MethodId} {args : Array Value} {below : List Frame} {meth : Method} {c : Code} {Z : XG} {r : Int32} {S' : Mem} (E : XE p s m args meth c cX8_readSum 2 RX8 (some .int) mL Z) (k0 : Mem → O)  (hk0 : ∀ (S : Mem), k0 S  = some (r, S') → WN p l e { frames := 5, cells := 0, slots := 0, locals := 107 } s m args below meth c mL Z (XQ mL Z r S') S 10 2 [(0, .ref (Z.2.1 0))] []) : ∀ (S : Mem), fX8_readSum_10_b k0 S  = some (r, S') → WN p l e { frames := 5, cells := 0, slots := 0, locals := 107 } s m args below meth c mL Z (XQ mL Z r S') S 10 2 [(0, .ref (Z.2.1 0))] [] := by
  obtain ⟨hx, hb, -, -, -, -, -, -, -, hQ⟩ := id E
  intro S  h H locs ls X hl
  unfold fX8_readSum_10_b at h
  refine lv_aload_n hx hb dX8_readSum_10 rfl (lv_at hl 0 rfl) ?_
  refine lv_bipush (v := (43 : Int32)) hx hb dX8_readSum_11 (by decide) ?_
  obtain ⟨r_1, S_2, hr_1, h⟩ := bnd_s h
  refine x_callV E X cwX8_188 (mX8_isSign l Z hQ  (43 : Int32) hr_1) rfl rfl rfl rfl hl.1 rfl dX8_readSum_13 (fun H locs X => ?_)
  refine lv_if_ne (tgt := 28) hx hb dX8_readSum_16 (by decide) (fun c_3 => ?_) (fun c_3 => ?_)
  · have h := if_f c_3 h
    exact wX8_readSum_28 E k0 hk0 S_2  h _ _ _ X hl
  · have h := if_t c_3 h
    refine lv_aload_n hx hb dX8_readSum_19 rfl (lv_at hl 0 rfl) ?_
    refine lv_bipush (v := (45 : Int32)) hx hb dX8_readSum_20 (by decide) ?_
    obtain ⟨r_4, S_5, hr_4, h⟩ := bnd_s h
    refine x_callV E X cwX8_188 (mX8_isSign l Z hQ  (45 : Int32) hr_4) rfl rfl rfl rfl hl.1 rfl dX8_readSum_22 (fun H locs X => ?_)
    refine lv_if_eq (tgt := 66) hx hb dX8_readSum_25 (by decide) (fun c_6 => ?_) (fun c_6 => ?_)
    · have h := if_t c_6 h
      refine lv_iconst (v := (0 : Int32)) hx hb dX8_readSum_66 (by decide) ?_
      exact x_iret E X h dX8_readSum_67
    · have h := if_f c_6 h
      exact wX8_readSum_28 E k0 hk0 S_5  h _ _ _ X hl
theorem wX8_readSum_10 {p : Program} {l : Launch} {e : Env} {s : State} {m : MethodId} {args : Array Value} {below : List Frame} {meth : Method} {c : Code} {Z : XG} {r : Int32} {S' : Mem} (E : XE p s m args meth c cX8_readSum 2 RX8 (some .int) mL Z) : ∀ (n : Nat) (S : Mem), fX8_readSum_10 n S  = some (r, S') → WN p l e { frames := 5, cells := 0, slots := 0, locals := 107 } s m args below meth c mL Z (XQ mL Z r S') S 10 2 [(0, .ref (Z.2.1 0))] [] := by
  intro n
  induction n with
  | zero => intro S  h; exact absurd (show (none : O) = some _ from h) (by simp)
  | succ n ih => intro S  h; exact wX8_readSum_10_b E (fX8_readSum_10 n) ih S  h
set_option maxRecDepth 20000 in
theorem wX8_readSum {p : Program} {l : Launch} {e : Env} {s : State} {m : MethodId} {args : Array Value} {below : List Frame} {meth : Method} {c : Code} {Z : XG} {r : Int32} {S' : Mem} (E : XE p s m args meth c cX8_readSum 2 RX8 (some .int) mL Z) : ∀ (S : Mem), fX8_readSum  S  = some (r, S') → WN p l e { frames := 5, cells := 0, slots := 0, locals := 107 } s m args below meth c mL Z (XQ mL Z r S') S 0 2 [(0, .ref (Z.2.1 0))] [] := by
  obtain ⟨hx, hb, -, -, -, -, -, -, -, hQ⟩ := id E
  intro S  h H locs ls X hl
  unfold fX8_readSum at h
  refine lv_aload_n hx hb dX8_readSum_0 rfl (lv_at hl 0 rfl) ?_
  obtain ⟨r_1, S_2, hr_1, h⟩ := bnd_s h
  refine x_callV E X cwX8_191 (mX8_readProduct l Z hQ   hr_1) rfl rfl rfl rfl hl.1 rfl dX8_readSum_1 (fun H locs X => ?_)
  refine lv_iconst (v := (-1 : Int32)) hx hb dX8_readSum_4 (by decide) ?_
  refine lv_icmp_ne (tgt := 10) hx hb dX8_readSum_5 (by decide) (fun c_3 => ?_) (fun c_3 => ?_)
  · have h := if_f c_3 h
    exact wX8_readSum_10 E   FU S_2  h _ _ _ X hl
  · have h := if_t c_3 h
    refine lv_iconst (v := (-1 : Int32)) hx hb dX8_readSum_8 (by decide) ?_
    exact x_iret E X h dX8_readSum_9
/-- SevenToAShadowModel.readSum()I -/
theorem mX8_readSum (l : Launch) (Z : XG) (hQ : wQ (List.length mL) Z) {S S' : Mem} {r : Int32} (h : fX8_readSum S  = some (r, S')) : XM l yX8_readSum cX8_readSum 2 (some .int) { frames := 5, cells := 0, slots := 0, locals := 107 } mL Z [.ref (Z.2.1 0)] S (XQ mL Z r S') := by
  refine XM.of (own := RX8) (by decide +kernel) rfl rfl hQ (fun p e s m args below meth c E ls hl X => ?_)
  exact wX8_readSum E S  h _ _ _ X hl
def fX8_readCompared_73 (S : Mem) (s0 : Int32) : O := bnd (fX8_reads S ) fun _ S_2 => bnd (fX8_readSum S_2 ) fun r_3 S_4 => (if r_3 = (-1 : Int32) then some ((-1 : Int32), S_4) else bnd (fX8_emits S_4 s0 (0 : Int32)) fun _ S_7 => some ((0 : Int32), S_7))
def fX8_readCompared_43 (S : Mem) : O := (if (S 0 20) = (60 : Int32) then fX8_readCompared_73  S (6 : Int32) else (if (S 0 20) = (61 : Int32) then fX8_readCompared_73  S (7 : Int32) else fX8_readCompared_73  S (8 : Int32)))
def fX8_readCompared (S : Mem) : O := bnd (fX8_readSum S ) fun r_1 S_2 => (if r_1 = (-1 : Int32) then some ((-1 : Int32), S_2) else bnd (fX8_isSign S_2 (60 : Int32)) fun r_4 S_5 => (if r_4 = 0 then bnd (fX8_isSign S_5 (61 : Int32)) fun r_7 S_8 => (if r_7 = 0 then bnd (fX8_isSign S_8 (62 : Int32)) fun r_10 S_11 => (if r_10 = 0 then bnd (fX8_errs S_11 (1 : Int32)) fun r_13 S_14 => some (r_13, S_14) else fX8_readCompared_43  S_11 ) else fX8_readCompared_43  S_8 ) else fX8_readCompared_43  S_5 ))
theorem dX8_readCompared_0 : decode cX8_readCompared 0 = .ok (.aload_n 0, 1) := by decide +kernel
theorem dX8_readCompared_1 : decode cX8_readCompared 1 = .ok (.invokevirtual 194, 3) := by decide +kernel
theorem dX8_readCompared_4 : decode cX8_readCompared 4 = .ok (.iconst (-1), 1) := by decide +kernel
theorem dX8_readCompared_5 : decode cX8_readCompared 5 = .ok (.if_icmp .ne 5, 3) := by decide +kernel
theorem dX8_readCompared_8 : decode cX8_readCompared 8 = .ok (.iconst (-1), 1) := by decide +kernel
theorem dX8_readCompared_9 : decode cX8_readCompared 9 = .ok (.ireturn, 1) := by decide +kernel
theorem dX8_readCompared_10 : decode cX8_readCompared 10 = .ok (.aload_n 0, 1) := by decide +kernel
theorem dX8_readCompared_11 : decode cX8_readCompared 11 = .ok (.bipush 60, 2) := by decide +kernel
theorem dX8_readCompared_13 : decode cX8_readCompared 13 = .ok (.invokevirtual 188, 3) := by decide +kernel
theorem dX8_readCompared_16 : decode cX8_readCompared 16 = .ok (.ifCond .ne 27, 3) := by decide +kernel
theorem dX8_readCompared_19 : decode cX8_readCompared 19 = .ok (.aload_n 0, 1) := by decide +kernel
theorem dX8_readCompared_20 : decode cX8_readCompared 20 = .ok (.bipush 61, 2) := by decide +kernel
theorem dX8_readCompared_22 : decode cX8_readCompared 22 = .ok (.invokevirtual 188, 3) := by decide +kernel
theorem dX8_readCompared_25 : decode cX8_readCompared 25 = .ok (.ifCond .ne 18, 3) := by decide +kernel
theorem dX8_readCompared_28 : decode cX8_readCompared 28 = .ok (.aload_n 0, 1) := by decide +kernel
theorem dX8_readCompared_29 : decode cX8_readCompared 29 = .ok (.bipush 62, 2) := by decide +kernel
theorem dX8_readCompared_31 : decode cX8_readCompared 31 = .ok (.invokevirtual 188, 3) := by decide +kernel
theorem dX8_readCompared_34 : decode cX8_readCompared 34 = .ok (.ifCond .ne 9, 3) := by decide +kernel
theorem dX8_readCompared_37 : decode cX8_readCompared 37 = .ok (.aload_n 0, 1) := by decide +kernel
theorem dX8_readCompared_38 : decode cX8_readCompared 38 = .ok (.iconst 1, 1) := by decide +kernel
theorem dX8_readCompared_39 : decode cX8_readCompared 39 = .ok (.invokevirtual 174, 3) := by decide +kernel
theorem dX8_readCompared_42 : decode cX8_readCompared 42 = .ok (.ireturn, 1) := by decide +kernel
theorem dX8_readCompared_43 : decode cX8_readCompared 43 = .ok (.aload_n 0, 1) := by decide +kernel
theorem dX8_readCompared_44 : decode cX8_readCompared 44 = .ok (.getfield 149, 3) := by decide +kernel
theorem dX8_readCompared_47 : decode cX8_readCompared 47 = .ok (.bipush 60, 2) := by decide +kernel
theorem dX8_readCompared_49 : decode cX8_readCompared 49 = .ok (.if_icmp .ne 8, 3) := by decide +kernel
theorem dX8_readCompared_52 : decode cX8_readCompared 52 = .ok (.bipush 6, 2) := by decide +kernel
theorem dX8_readCompared_54 : decode cX8_readCompared 54 = .ok (.goto 19, 3) := by decide +kernel
theorem dX8_readCompared_57 : decode cX8_readCompared 57 = .ok (.aload_n 0, 1) := by decide +kernel
theorem dX8_readCompared_58 : decode cX8_readCompared 58 = .ok (.getfield 149, 3) := by decide +kernel
theorem dX8_readCompared_61 : decode cX8_readCompared 61 = .ok (.bipush 61, 2) := by decide +kernel
theorem dX8_readCompared_63 : decode cX8_readCompared 63 = .ok (.if_icmp .ne 8, 3) := by decide +kernel
theorem dX8_readCompared_66 : decode cX8_readCompared 66 = .ok (.bipush 7, 2) := by decide +kernel
theorem dX8_readCompared_68 : decode cX8_readCompared 68 = .ok (.goto 5, 3) := by decide +kernel
theorem dX8_readCompared_71 : decode cX8_readCompared 71 = .ok (.bipush 8, 2) := by decide +kernel
theorem dX8_readCompared_73 : decode cX8_readCompared 73 = .ok (.istore_n 1, 1) := by decide +kernel
theorem dX8_readCompared_74 : decode cX8_readCompared 74 = .ok (.aload_n 0, 1) := by decide +kernel
theorem dX8_readCompared_75 : decode cX8_readCompared 75 = .ok (.invokevirtual 181, 3) := by decide +kernel
theorem dX8_readCompared_78 : decode cX8_readCompared 78 = .ok (.aload_n 0, 1) := by decide +kernel
theorem dX8_readCompared_79 : decode cX8_readCompared 79 = .ok (.invokevirtual 194, 3) := by decide +kernel
theorem dX8_readCompared_82 : decode cX8_readCompared 82 = .ok (.iconst (-1), 1) := by decide +kernel
theorem dX8_readCompared_83 : decode cX8_readCompared 83 = .ok (.if_icmp .ne 5, 3) := by decide +kernel
theorem dX8_readCompared_86 : decode cX8_readCompared 86 = .ok (.iconst (-1), 1) := by decide +kernel
theorem dX8_readCompared_87 : decode cX8_readCompared 87 = .ok (.ireturn, 1) := by decide +kernel
theorem dX8_readCompared_88 : decode cX8_readCompared 88 = .ok (.aload_n 0, 1) := by decide +kernel
theorem dX8_readCompared_89 : decode cX8_readCompared 89 = .ok (.iload_n 1, 1) := by decide +kernel
theorem dX8_readCompared_90 : decode cX8_readCompared 90 = .ok (.iconst 0, 1) := by decide +kernel
theorem dX8_readCompared_91 : decode cX8_readCompared 91 = .ok (.invokevirtual 177, 3) := by decide +kernel
theorem dX8_readCompared_94 : decode cX8_readCompared 94 = .ok (.iconst 0, 1) := by decide +kernel
theorem dX8_readCompared_95 : decode cX8_readCompared 95 = .ok (.ireturn, 1) := by decide +kernel
set_option maxRecDepth 20000 in
theorem wX8_readCompared_73 {p : Program} {l : Launch} {e : Env} {s : State} {m : MethodId} {args : Array Value} {below : List Frame} {meth : Method} {c : Code} {Z : XG} {r : Int32} {S' : Mem} (E : XE p s m args meth c cX8_readCompared 2 RX8 (some .int) mL Z) : ∀ (S : Mem) (s0 : Int32), fX8_readCompared_73  S s0 = some (r, S') → WN p l e { frames := 6, cells := 0, slots := 0, locals := 128 } s m args below meth c mL Z (XQ mL Z r S') S 73 2 [(0, .ref (Z.2.1 0))] [.int s0] := by
  obtain ⟨hx, hb, -, -, -, -, -, -, -, hQ⟩ := id E
  intro S s0 h H locs ls X hl
  unfold fX8_readCompared_73 at h
  refine lv_istore_n (lv' := [(1, .int s0), (0, .ref (Z.2.1 0))]) hx hb dX8_readCompared_73 rfl hl (by decide) rfl (fun ls hl => ?_)
  refine lv_aload_n hx hb dX8_readCompared_74 rfl (lv_at hl 1 rfl) ?_
  obtain ⟨r_1, S_2, hr_1, h⟩ := bnd_s h
  refine x_callVv E X cwX8_181 (mX8_reads l Z hQ   hr_1) rfl rfl rfl rfl hl.1 rfl dX8_readCompared_75 (fun H locs X => ?_)
  refine lv_aload_n hx hb dX8_readCompared_78 rfl (lv_at hl 1 rfl) ?_
  obtain ⟨r_3, S_4, hr_3, h⟩ := bnd_s h
  refine x_callV E X cwX8_194 (mX8_readSum l Z hQ   hr_3) rfl rfl rfl rfl hl.1 rfl dX8_readCompared_79 (fun H locs X => ?_)
  refine lv_iconst (v := (-1 : Int32)) hx hb dX8_readCompared_82 (by decide) ?_
  refine lv_icmp_ne (tgt := 88) hx hb dX8_readCompared_83 (by decide) (fun c_5 => ?_) (fun c_5 => ?_)
  · have h := if_f c_5 h
    refine lv_aload_n hx hb dX8_readCompared_88 rfl (lv_at hl 1 rfl) ?_
    refine lv_iload_n hx hb dX8_readCompared_89 rfl (lv_at hl 0 rfl) ?_
    refine lv_iconst (v := (0 : Int32)) hx hb dX8_readCompared_90 (by decide) ?_
    obtain ⟨r_6, S_7, hr_6, h⟩ := bnd_s h
    refine x_callVv E X cwX8_177 (mX8_emits l Z hQ  s0 (0 : Int32) hr_6) rfl rfl rfl rfl hl.1 rfl dX8_readCompared_91 (fun H locs X => ?_)
    refine lv_iconst (v := (0 : Int32)) hx hb dX8_readCompared_94 (by decide) ?_
    exact x_iret E X h dX8_readCompared_95
  · have h := if_t c_5 h
    refine lv_iconst (v := (-1 : Int32)) hx hb dX8_readCompared_86 (by decide) ?_
    exact x_iret E X h dX8_readCompared_87
set_option maxRecDepth 20000 in
theorem wX8_readCompared_43 {p : Program} {l : Launch} {e : Env} {s : State} {m : MethodId} {args : Array Value} {below : List Frame} {meth : Method} {c : Code} {Z : XG} {r : Int32} {S' : Mem} (E : XE p s m args meth c cX8_readCompared 2 RX8 (some .int) mL Z) : ∀ (S : Mem), fX8_readCompared_43  S  = some (r, S') → WN p l e { frames := 6, cells := 0, slots := 0, locals := 128 } s m args below meth c mL Z (XQ mL Z r S') S 43 2 [(0, .ref (Z.2.1 0))] [] := by
  obtain ⟨hx, hb, -, -, -, -, -, -, -, hQ⟩ := id E
  intro S  h H locs ls X hl
  unfold fX8_readCompared_43 at h
  refine lv_aload_n hx hb dX8_readCompared_43 rfl (lv_at hl 0 rfl) ?_
  refine x_get E X ffX8_149 rfl rfl dX8_readCompared_44 ?_
  refine lv_bipush (v := (60 : Int32)) hx hb dX8_readCompared_47 (by decide) ?_
  refine lv_icmp_ne (tgt := 57) hx hb dX8_readCompared_49 (by decide) (fun c_1 => ?_) (fun c_1 => ?_)
  · have h := if_f c_1 h
    refine lv_aload_n hx hb dX8_readCompared_57 rfl (lv_at hl 0 rfl) ?_
    refine x_get E X ffX8_149 rfl rfl dX8_readCompared_58 ?_
    refine lv_bipush (v := (61 : Int32)) hx hb dX8_readCompared_61 (by decide) ?_
    refine lv_icmp_ne (tgt := 71) hx hb dX8_readCompared_63 (by decide) (fun c_2 => ?_) (fun c_2 => ?_)
    · have h := if_f c_2 h
      refine lv_bipush (v := (8 : Int32)) hx hb dX8_readCompared_71 (by decide) ?_
      exact wX8_readCompared_73 E   S (8 : Int32) h _ _ _ X hl
    · have h := if_t c_2 h
      refine lv_bipush (v := (7 : Int32)) hx hb dX8_readCompared_66 (by decide) ?_
      refine lv_goto (tgt := 73) hx hb dX8_readCompared_68 (by decide) ?_
      exact wX8_readCompared_73 E   S (7 : Int32) h _ _ _ X hl
  · have h := if_t c_1 h
    refine lv_bipush (v := (6 : Int32)) hx hb dX8_readCompared_52 (by decide) ?_
    refine lv_goto (tgt := 73) hx hb dX8_readCompared_54 (by decide) ?_
    exact wX8_readCompared_73 E   S (6 : Int32) h _ _ _ X hl
set_option maxRecDepth 20000 in
theorem wX8_readCompared {p : Program} {l : Launch} {e : Env} {s : State} {m : MethodId} {args : Array Value} {below : List Frame} {meth : Method} {c : Code} {Z : XG} {r : Int32} {S' : Mem} (E : XE p s m args meth c cX8_readCompared 2 RX8 (some .int) mL Z) : ∀ (S : Mem), fX8_readCompared  S  = some (r, S') → WN p l e { frames := 6, cells := 0, slots := 0, locals := 128 } s m args below meth c mL Z (XQ mL Z r S') S 0 2 [(0, .ref (Z.2.1 0))] [] := by
  obtain ⟨hx, hb, -, -, -, -, -, -, -, hQ⟩ := id E
  intro S  h H locs ls X hl
  unfold fX8_readCompared at h
  refine lv_aload_n hx hb dX8_readCompared_0 rfl (lv_at hl 0 rfl) ?_
  obtain ⟨r_1, S_2, hr_1, h⟩ := bnd_s h
  refine x_callV E X cwX8_194 (mX8_readSum l Z hQ   hr_1) rfl rfl rfl rfl hl.1 rfl dX8_readCompared_1 (fun H locs X => ?_)
  refine lv_iconst (v := (-1 : Int32)) hx hb dX8_readCompared_4 (by decide) ?_
  refine lv_icmp_ne (tgt := 10) hx hb dX8_readCompared_5 (by decide) (fun c_3 => ?_) (fun c_3 => ?_)
  · have h := if_f c_3 h
    refine lv_aload_n hx hb dX8_readCompared_10 rfl (lv_at hl 0 rfl) ?_
    refine lv_bipush (v := (60 : Int32)) hx hb dX8_readCompared_11 (by decide) ?_
    obtain ⟨r_4, S_5, hr_4, h⟩ := bnd_s h
    refine x_callV E X cwX8_188 (mX8_isSign l Z hQ  (60 : Int32) hr_4) rfl rfl rfl rfl hl.1 rfl dX8_readCompared_13 (fun H locs X => ?_)
    refine lv_if_ne (tgt := 43) hx hb dX8_readCompared_16 (by decide) (fun c_6 => ?_) (fun c_6 => ?_)
    · have h := if_f c_6 h
      exact wX8_readCompared_43 E   S_5  h _ _ _ X hl
    · have h := if_t c_6 h
      refine lv_aload_n hx hb dX8_readCompared_19 rfl (lv_at hl 0 rfl) ?_
      refine lv_bipush (v := (61 : Int32)) hx hb dX8_readCompared_20 (by decide) ?_
      obtain ⟨r_7, S_8, hr_7, h⟩ := bnd_s h
      refine x_callV E X cwX8_188 (mX8_isSign l Z hQ  (61 : Int32) hr_7) rfl rfl rfl rfl hl.1 rfl dX8_readCompared_22 (fun H locs X => ?_)
      refine lv_if_ne (tgt := 43) hx hb dX8_readCompared_25 (by decide) (fun c_9 => ?_) (fun c_9 => ?_)
      · have h := if_f c_9 h
        exact wX8_readCompared_43 E   S_8  h _ _ _ X hl
      · have h := if_t c_9 h
        refine lv_aload_n hx hb dX8_readCompared_28 rfl (lv_at hl 0 rfl) ?_
        refine lv_bipush (v := (62 : Int32)) hx hb dX8_readCompared_29 (by decide) ?_
        obtain ⟨r_10, S_11, hr_10, h⟩ := bnd_s h
        refine x_callV E X cwX8_188 (mX8_isSign l Z hQ  (62 : Int32) hr_10) rfl rfl rfl rfl hl.1 rfl dX8_readCompared_31 (fun H locs X => ?_)
        refine lv_if_ne (tgt := 43) hx hb dX8_readCompared_34 (by decide) (fun c_12 => ?_) (fun c_12 => ?_)
        · have h := if_f c_12 h
          exact wX8_readCompared_43 E   S_11  h _ _ _ X hl
        · have h := if_t c_12 h
          refine lv_aload_n hx hb dX8_readCompared_37 rfl (lv_at hl 0 rfl) ?_
          refine lv_iconst (v := (1 : Int32)) hx hb dX8_readCompared_38 (by decide) ?_
          obtain ⟨r_13, S_14, hr_13, h⟩ := bnd_s h
          refine x_callV E X cwX8_174 (mX8_errs l Z hQ  (1 : Int32) hr_13) rfl rfl rfl rfl hl.1 rfl dX8_readCompared_39 (fun H locs X => ?_)
          exact x_iret E X h dX8_readCompared_42
  · have h := if_t c_3 h
    refine lv_iconst (v := (-1 : Int32)) hx hb dX8_readCompared_8 (by decide) ?_
    exact x_iret E X h dX8_readCompared_9
/-- SevenToAShadowModel.readCompared()I -/
theorem mX8_readCompared (l : Launch) (Z : XG) (hQ : wQ (List.length mL) Z) {S S' : Mem} {r : Int32} (h : fX8_readCompared S  = some (r, S')) : XM l yX8_readCompared cX8_readCompared 2 (some .int) { frames := 6, cells := 0, slots := 0, locals := 128 } mL Z [.ref (Z.2.1 0)] S (XQ mL Z r S') := by
  refine XM.of (own := RX8) (by decide +kernel) rfl rfl hQ (fun p e s m args below meth c E ls hl X => ?_)
  exact wX8_readCompared E S  h _ _ _ X hl
def fX8_readAny_78 (k0 : Mem → Int32 → Int32 → O) (S : Mem) (x1 x2 s1 : Int32) : O := bnd (fX8_waits S s1) fun _ S_2 => bnd (fX8_reads S_2 ) fun _ S_4 => k0 S_4 x1 x2
def fX8_readAny_66 (k0 : Mem → Int32 → Int32 → O) (S : Mem) (x1 x2 x3 : Int32) : O := (if x3 = 0 then fX8_readAny_78 k0 S x1 x2 (12 : Int32) else fX8_readAny_78 k0 S x1 x2 (9 : Int32))
def fX8_readAny_33 (k0 : Mem → Int32 → Int32 → O) (S : Mem) (x1 x2 x3 : Int32) : O := (if (S 0 29) = (8 : Int32) then bnd (fX8_errs S (3 : Int32)) fun r_5 S_6 => some (r_5, S_6) else ltm (mset S 0 29 ((S 0 29) + (1 : Int32))) fun S_2 => (if x3 = 0 then lti (x1 + (1 : Int32)) fun x1_4 => fX8_readAny_66 k0 S_2 x1_4 x2 x3 else fX8_readAny_66 k0 S_2 x1 x2 x3))
def fX8_readAny_9_b (k0 : Mem → Int32 → Int32 → O) (S : Mem) (x1 x2 : Int32) : O := (if x2 = 0 then bnd (fX8_isWord S (6 : Int32)) fun r_2 S_3 => (if r_2 = 0 then bnd (fX8_isWord S_3 (5 : Int32)) fun r_5 S_6 => (if r_5 = 0 then bnd (fX8_settles S_6 (10 : Int32)) fun _ S_9 => bnd (fX8_settles S_9 (11 : Int32)) fun _ S_11 => (if x1 = 0 then some ((0 : Int32), S_11) else bnd (fX8_isSign S_11 (41 : Int32)) fun r_13 S_14 => (if r_13 = 0 then bnd (fX8_errs S_14 (1 : Int32)) fun r_23 S_24 => some (r_23, S_24) else ltm (mset S_14 0 31 ((S_14 0 31) - (1 : Int32))) fun S_16 => lti (x1 - (1 : Int32)) fun x1_17 => ltm (mset S_16 0 29 ((S_16 0 29) - (1 : Int32))) fun S_18 => bnd (fX8_settles S_18 (9 : Int32)) fun _ S_20 => bnd (fX8_reads S_20 ) fun _ S_22 => k0 S_22 x1_17 x2)) else bnd (fX8_settles S_6 (10 : Int32)) fun _ S_26 => bnd (fX8_settles S_26 (11 : Int32)) fun _ S_28 => bnd (fX8_waits S_28 (11 : Int32)) fun _ S_30 => bnd (fX8_reads S_30 ) fun _ S_32 => k0 S_32 x1 (1 : Int32)) else bnd (fX8_settles S_3 (10 : Int32)) fun _ S_34 => bnd (fX8_waits S_34 (10 : Int32)) fun _ S_36 => bnd (fX8_reads S_36 ) fun _ S_38 => k0 S_38 x1 (1 : Int32)) else bnd (fX8_isWord S (7 : Int32)) fun r_39 S_40 => (if r_39 = 0 then bnd (fX8_isSign S_40 (40 : Int32)) fun r_42 S_43 => (if r_42 = 0 then bnd (fX8_readCompared S_43 ) fun r_45 S_46 => (if r_45 = (-1 : Int32) then some ((-1 : Int32), S_46) else bnd (fX8_settles S_46 (9 : Int32)) fun _ S_49 => k0 S_49 x1 (0 : Int32)) else fX8_readAny_33 k0 S_43 x1 x2 r_39) else fX8_readAny_33 k0 S_40 x1 x2 r_39))
def fX8_readAny_9 : Nat → Mem → Int32 → Int32 → O
  | 0 => fun _ _ _ => none
  | n + 1 => fX8_readAny_9_b (fX8_readAny_9 n)
def fX8_readAny (S : Mem) : O := ltm (mset S 0 31 (0 : Int32)) fun S_1 => fX8_readAny_9  FU S_1 (0 : Int32) (1 : Int32)
theorem dX8_readAny_0 : decode cX8_readAny 0 = .ok (.iconst 0, 1) := by decide +kernel
theorem dX8_readAny_1 : decode cX8_readAny 1 = .ok (.istore_n 1, 1) := by decide +kernel
theorem dX8_readAny_2 : decode cX8_readAny 2 = .ok (.aload_n 0, 1) := by decide +kernel
theorem dX8_readAny_3 : decode cX8_readAny 3 = .ok (.iconst 0, 1) := by decide +kernel
theorem dX8_readAny_4 : decode cX8_readAny 4 = .ok (.putfield 197, 3) := by decide +kernel
theorem dX8_readAny_7 : decode cX8_readAny 7 = .ok (.iconst 1, 1) := by decide +kernel
theorem dX8_readAny_8 : decode cX8_readAny 8 = .ok (.istore_n 2, 1) := by decide +kernel
theorem dX8_readAny_9 : decode cX8_readAny 9 = .ok (.iload_n 2, 1) := by decide +kernel
theorem dX8_readAny_10 : decode cX8_readAny 10 = .ok (.ifCond .eq 99, 3) := by decide +kernel
theorem dX8_readAny_13 : decode cX8_readAny 13 = .ok (.aload_n 0, 1) := by decide +kernel
theorem dX8_readAny_14 : decode cX8_readAny 14 = .ok (.bipush 7, 2) := by decide +kernel
theorem dX8_readAny_16 : decode cX8_readAny 16 = .ok (.invokevirtual 203, 3) := by decide +kernel
theorem dX8_readAny_19 : decode cX8_readAny 19 = .ok (.istore_n 3, 1) := by decide +kernel
theorem dX8_readAny_20 : decode cX8_readAny 20 = .ok (.iload_n 3, 1) := by decide +kernel
theorem dX8_readAny_21 : decode cX8_readAny 21 = .ok (.ifCond .ne 12, 3) := by decide +kernel
theorem dX8_readAny_24 : decode cX8_readAny 24 = .ok (.aload_n 0, 1) := by decide +kernel
theorem dX8_readAny_25 : decode cX8_readAny 25 = .ok (.bipush 40, 2) := by decide +kernel
theorem dX8_readAny_27 : decode cX8_readAny 27 = .ok (.invokevirtual 188, 3) := by decide +kernel
theorem dX8_readAny_30 : decode cX8_readAny 30 = .ok (.ifCond .eq 58, 3) := by decide +kernel
theorem dX8_readAny_33 : decode cX8_readAny 33 = .ok (.aload_n 0, 1) := by decide +kernel
theorem dX8_readAny_34 : decode cX8_readAny 34 = .ok (.getfield 200, 3) := by decide +kernel
theorem dX8_readAny_37 : decode cX8_readAny 37 = .ok (.bipush 8, 2) := by decide +kernel
theorem dX8_readAny_39 : decode cX8_readAny 39 = .ok (.if_icmp .ne 9, 3) := by decide +kernel
theorem dX8_readAny_42 : decode cX8_readAny 42 = .ok (.aload_n 0, 1) := by decide +kernel
theorem dX8_readAny_43 : decode cX8_readAny 43 = .ok (.iconst 3, 1) := by decide +kernel
theorem dX8_readAny_44 : decode cX8_readAny 44 = .ok (.invokevirtual 174, 3) := by decide +kernel
theorem dX8_readAny_47 : decode cX8_readAny 47 = .ok (.ireturn, 1) := by decide +kernel
theorem dX8_readAny_48 : decode cX8_readAny 48 = .ok (.aload_n 0, 1) := by decide +kernel
theorem dX8_readAny_49 : decode cX8_readAny 49 = .ok (.aload_n 0, 1) := by decide +kernel
theorem dX8_readAny_50 : decode cX8_readAny 50 = .ok (.getfield 200, 3) := by decide +kernel
theorem dX8_readAny_53 : decode cX8_readAny 53 = .ok (.iconst 1, 1) := by decide +kernel
theorem dX8_readAny_54 : decode cX8_readAny 54 = .ok (.iadd, 1) := by decide +kernel
theorem dX8_readAny_55 : decode cX8_readAny 55 = .ok (.putfield 200, 3) := by decide +kernel
theorem dX8_readAny_58 : decode cX8_readAny 58 = .ok (.iload_n 3, 1) := by decide +kernel
theorem dX8_readAny_59 : decode cX8_readAny 59 = .ok (.ifCond .ne 7, 3) := by decide +kernel
theorem dX8_readAny_62 : decode cX8_readAny 62 = .ok (.iload_n 1, 1) := by decide +kernel
theorem dX8_readAny_63 : decode cX8_readAny 63 = .ok (.iconst 1, 1) := by decide +kernel
theorem dX8_readAny_64 : decode cX8_readAny 64 = .ok (.iadd, 1) := by decide +kernel
theorem dX8_readAny_65 : decode cX8_readAny 65 = .ok (.istore_n 1, 1) := by decide +kernel
theorem dX8_readAny_66 : decode cX8_readAny 66 = .ok (.aload_n 0, 1) := by decide +kernel
theorem dX8_readAny_67 : decode cX8_readAny 67 = .ok (.iload_n 3, 1) := by decide +kernel
theorem dX8_readAny_68 : decode cX8_readAny 68 = .ok (.ifCond .eq 8, 3) := by decide +kernel
theorem dX8_readAny_71 : decode cX8_readAny 71 = .ok (.bipush 9, 2) := by decide +kernel
theorem dX8_readAny_73 : decode cX8_readAny 73 = .ok (.goto 5, 3) := by decide +kernel
theorem dX8_readAny_76 : decode cX8_readAny 76 = .ok (.bipush 12, 2) := by decide +kernel
theorem dX8_readAny_78 : decode cX8_readAny 78 = .ok (.invokevirtual 206, 3) := by decide +kernel
theorem dX8_readAny_81 : decode cX8_readAny 81 = .ok (.aload_n 0, 1) := by decide +kernel
theorem dX8_readAny_82 : decode cX8_readAny 82 = .ok (.invokevirtual 181, 3) := by decide +kernel
theorem dX8_readAny_85 : decode cX8_readAny 85 = .ok (.goto (-76), 3) := by decide +kernel
theorem dX8_readAny_88 : decode cX8_readAny 88 = .ok (.aload_n 0, 1) := by decide +kernel
theorem dX8_readAny_89 : decode cX8_readAny 89 = .ok (.invokevirtual 209, 3) := by decide +kernel
theorem dX8_readAny_92 : decode cX8_readAny 92 = .ok (.iconst (-1), 1) := by decide +kernel
theorem dX8_readAny_93 : decode cX8_readAny 93 = .ok (.if_icmp .ne 5, 3) := by decide +kernel
theorem dX8_readAny_96 : decode cX8_readAny 96 = .ok (.iconst (-1), 1) := by decide +kernel
theorem dX8_readAny_97 : decode cX8_readAny 97 = .ok (.ireturn, 1) := by decide +kernel
theorem dX8_readAny_98 : decode cX8_readAny 98 = .ok (.aload_n 0, 1) := by decide +kernel
theorem dX8_readAny_99 : decode cX8_readAny 99 = .ok (.bipush 9, 2) := by decide +kernel
theorem dX8_readAny_101 : decode cX8_readAny 101 = .ok (.invokevirtual 212, 3) := by decide +kernel
theorem dX8_readAny_104 : decode cX8_readAny 104 = .ok (.iconst 0, 1) := by decide +kernel
theorem dX8_readAny_105 : decode cX8_readAny 105 = .ok (.istore_n 2, 1) := by decide +kernel
theorem dX8_readAny_106 : decode cX8_readAny 106 = .ok (.goto (-97), 3) := by decide +kernel
theorem dX8_readAny_109 : decode cX8_readAny 109 = .ok (.aload_n 0, 1) := by decide +kernel
theorem dX8_readAny_110 : decode cX8_readAny 110 = .ok (.bipush 6, 2) := by decide +kernel
theorem dX8_readAny_112 : decode cX8_readAny 112 = .ok (.invokevirtual 203, 3) := by decide +kernel
theorem dX8_readAny_115 : decode cX8_readAny 115 = .ok (.ifCond .eq 24, 3) := by decide +kernel
theorem dX8_readAny_118 : decode cX8_readAny 118 = .ok (.aload_n 0, 1) := by decide +kernel
theorem dX8_readAny_119 : decode cX8_readAny 119 = .ok (.bipush 10, 2) := by decide +kernel
theorem dX8_readAny_121 : decode cX8_readAny 121 = .ok (.invokevirtual 212, 3) := by decide +kernel
theorem dX8_readAny_124 : decode cX8_readAny 124 = .ok (.aload_n 0, 1) := by decide +kernel
theorem dX8_readAny_125 : decode cX8_readAny 125 = .ok (.bipush 10, 2) := by decide +kernel
theorem dX8_readAny_127 : decode cX8_readAny 127 = .ok (.invokevirtual 206, 3) := by decide +kernel
theorem dX8_readAny_130 : decode cX8_readAny 130 = .ok (.aload_n 0, 1) := by decide +kernel
theorem dX8_readAny_131 : decode cX8_readAny 131 = .ok (.invokevirtual 181, 3) := by decide +kernel
theorem dX8_readAny_134 : decode cX8_readAny 134 = .ok (.iconst 1, 1) := by decide +kernel
theorem dX8_readAny_135 : decode cX8_readAny 135 = .ok (.istore_n 2, 1) := by decide +kernel
theorem dX8_readAny_136 : decode cX8_readAny 136 = .ok (.goto (-127), 3) := by decide +kernel
theorem dX8_readAny_139 : decode cX8_readAny 139 = .ok (.aload_n 0, 1) := by decide +kernel
theorem dX8_readAny_140 : decode cX8_readAny 140 = .ok (.iconst 5, 1) := by decide +kernel
theorem dX8_readAny_141 : decode cX8_readAny 141 = .ok (.invokevirtual 203, 3) := by decide +kernel
theorem dX8_readAny_144 : decode cX8_readAny 144 = .ok (.ifCond .eq 30, 3) := by decide +kernel
theorem dX8_readAny_147 : decode cX8_readAny 147 = .ok (.aload_n 0, 1) := by decide +kernel
theorem dX8_readAny_148 : decode cX8_readAny 148 = .ok (.bipush 10, 2) := by decide +kernel
theorem dX8_readAny_150 : decode cX8_readAny 150 = .ok (.invokevirtual 212, 3) := by decide +kernel
theorem dX8_readAny_153 : decode cX8_readAny 153 = .ok (.aload_n 0, 1) := by decide +kernel
theorem dX8_readAny_154 : decode cX8_readAny 154 = .ok (.bipush 11, 2) := by decide +kernel
theorem dX8_readAny_156 : decode cX8_readAny 156 = .ok (.invokevirtual 212, 3) := by decide +kernel
theorem dX8_readAny_159 : decode cX8_readAny 159 = .ok (.aload_n 0, 1) := by decide +kernel
theorem dX8_readAny_160 : decode cX8_readAny 160 = .ok (.bipush 11, 2) := by decide +kernel
theorem dX8_readAny_162 : decode cX8_readAny 162 = .ok (.invokevirtual 206, 3) := by decide +kernel
theorem dX8_readAny_165 : decode cX8_readAny 165 = .ok (.aload_n 0, 1) := by decide +kernel
theorem dX8_readAny_166 : decode cX8_readAny 166 = .ok (.invokevirtual 181, 3) := by decide +kernel
theorem dX8_readAny_169 : decode cX8_readAny 169 = .ok (.iconst 1, 1) := by decide +kernel
theorem dX8_readAny_170 : decode cX8_readAny 170 = .ok (.istore_n 2, 1) := by decide +kernel
theorem dX8_readAny_171 : decode cX8_readAny 171 = .ok (.goto (-162), 3) := by decide +kernel
theorem dX8_readAny_174 : decode cX8_readAny 174 = .ok (.aload_n 0, 1) := by decide +kernel
theorem dX8_readAny_175 : decode cX8_readAny 175 = .ok (.bipush 10, 2) := by decide +kernel
theorem dX8_readAny_177 : decode cX8_readAny 177 = .ok (.invokevirtual 212, 3) := by decide +kernel
theorem dX8_readAny_180 : decode cX8_readAny 180 = .ok (.aload_n 0, 1) := by decide +kernel
theorem dX8_readAny_181 : decode cX8_readAny 181 = .ok (.bipush 11, 2) := by decide +kernel
theorem dX8_readAny_183 : decode cX8_readAny 183 = .ok (.invokevirtual 212, 3) := by decide +kernel
theorem dX8_readAny_186 : decode cX8_readAny 186 = .ok (.iload_n 1, 1) := by decide +kernel
theorem dX8_readAny_187 : decode cX8_readAny 187 = .ok (.ifCond .ne 5, 3) := by decide +kernel
theorem dX8_readAny_190 : decode cX8_readAny 190 = .ok (.iconst 0, 1) := by decide +kernel
theorem dX8_readAny_191 : decode cX8_readAny 191 = .ok (.ireturn, 1) := by decide +kernel
theorem dX8_readAny_192 : decode cX8_readAny 192 = .ok (.aload_n 0, 1) := by decide +kernel
theorem dX8_readAny_193 : decode cX8_readAny 193 = .ok (.bipush 41, 2) := by decide +kernel
theorem dX8_readAny_195 : decode cX8_readAny 195 = .ok (.invokevirtual 188, 3) := by decide +kernel
theorem dX8_readAny_198 : decode cX8_readAny 198 = .ok (.ifCond .ne 9, 3) := by decide +kernel
theorem dX8_readAny_201 : decode cX8_readAny 201 = .ok (.aload_n 0, 1) := by decide +kernel
theorem dX8_readAny_202 : decode cX8_readAny 202 = .ok (.iconst 1, 1) := by decide +kernel
theorem dX8_readAny_203 : decode cX8_readAny 203 = .ok (.invokevirtual 174, 3) := by decide +kernel
theorem dX8_readAny_206 : decode cX8_readAny 206 = .ok (.ireturn, 1) := by decide +kernel
theorem dX8_readAny_207 : decode cX8_readAny 207 = .ok (.aload_n 0, 1) := by decide +kernel
theorem dX8_readAny_208 : decode cX8_readAny 208 = .ok (.aload_n 0, 1) := by decide +kernel
theorem dX8_readAny_209 : decode cX8_readAny 209 = .ok (.getfield 197, 3) := by decide +kernel
theorem dX8_readAny_212 : decode cX8_readAny 212 = .ok (.iconst 1, 1) := by decide +kernel
theorem dX8_readAny_213 : decode cX8_readAny 213 = .ok (.isub, 1) := by decide +kernel
theorem dX8_readAny_214 : decode cX8_readAny 214 = .ok (.putfield 197, 3) := by decide +kernel
theorem dX8_readAny_217 : decode cX8_readAny 217 = .ok (.iload_n 1, 1) := by decide +kernel
theorem dX8_readAny_218 : decode cX8_readAny 218 = .ok (.iconst 1, 1) := by decide +kernel
theorem dX8_readAny_219 : decode cX8_readAny 219 = .ok (.isub, 1) := by decide +kernel
theorem dX8_readAny_220 : decode cX8_readAny 220 = .ok (.istore_n 1, 1) := by decide +kernel
theorem dX8_readAny_221 : decode cX8_readAny 221 = .ok (.aload_n 0, 1) := by decide +kernel
theorem dX8_readAny_222 : decode cX8_readAny 222 = .ok (.aload_n 0, 1) := by decide +kernel
theorem dX8_readAny_223 : decode cX8_readAny 223 = .ok (.getfield 200, 3) := by decide +kernel
theorem dX8_readAny_226 : decode cX8_readAny 226 = .ok (.iconst 1, 1) := by decide +kernel
theorem dX8_readAny_227 : decode cX8_readAny 227 = .ok (.isub, 1) := by decide +kernel
theorem dX8_readAny_228 : decode cX8_readAny 228 = .ok (.putfield 200, 3) := by decide +kernel
theorem dX8_readAny_231 : decode cX8_readAny 231 = .ok (.aload_n 0, 1) := by decide +kernel
theorem dX8_readAny_232 : decode cX8_readAny 232 = .ok (.bipush 9, 2) := by decide +kernel
theorem dX8_readAny_234 : decode cX8_readAny 234 = .ok (.invokevirtual 212, 3) := by decide +kernel
theorem dX8_readAny_237 : decode cX8_readAny 237 = .ok (.aload_n 0, 1) := by decide +kernel
theorem dX8_readAny_238 : decode cX8_readAny 238 = .ok (.invokevirtual 181, 3) := by decide +kernel
theorem dX8_readAny_241 : decode cX8_readAny 241 = .ok (.goto (-232), 3) := by decide +kernel
set_option maxRecDepth 20000 in
theorem wX8_readAny_78 {p : Program} {l : Launch} {e : Env} {s : State} {m : MethodId} {args : Array Value} {below : List Frame} {meth : Method} {c : Code} {Z : XG} {r : Int32} {S' : Mem} (E : XE p s m args meth c cX8_readAny 4 RX8 (some .int) mL Z) (k0 : Mem → Int32 → Int32 → O)  (hk0 : ∀ (S : Mem) (x1 x2 : Int32), k0 S x1 x2 = some (r, S') → WN p l e { frames := 7, cells := 0, slots := 0, locals := 149 } s m args below meth c mL Z (XQ mL Z r S') S 9 4 [(0, .ref (Z.2.1 0)), (1, .int x1), (2, .int x2)] []) : ∀ (S : Mem) (x1 x2 s1 : Int32), fX8_readAny_78 k0 S x1 x2 s1 = some (r, S') → WN p l e { frames := 7, cells := 0, slots := 0, locals := 149 } s m args below meth c mL Z (XQ mL Z r S') S 78 4 [(0, .ref (Z.2.1 0)), (1, .int x1), (2, .int x2)] [.int s1, .ref (Z.2.1 0)] := by
  obtain ⟨hx, hb, -, -, -, -, -, -, -, hQ⟩ := id E
  intro S x1 x2 s1 h H locs ls X hl
  unfold fX8_readAny_78 at h
  obtain ⟨r_1, S_2, hr_1, h⟩ := bnd_s h
  refine x_callVv E X cwX8_206 (mX8_waits l Z hQ  s1 hr_1) rfl rfl rfl rfl hl.1 rfl dX8_readAny_78 (fun H locs X => ?_)
  refine lv_aload_n hx hb dX8_readAny_81 rfl (lv_at hl 0 rfl) ?_
  obtain ⟨r_3, S_4, hr_3, h⟩ := bnd_s h
  refine x_callVv E X cwX8_181 (mX8_reads l Z hQ   hr_3) rfl rfl rfl rfl hl.1 rfl dX8_readAny_82 (fun H locs X => ?_)
  refine lv_goto (tgt := 9) hx hb dX8_readAny_85 (by decide) ?_
  exact hk0 S_4 x1 x2 h _ _ _ X hl
set_option maxRecDepth 20000 in
theorem wX8_readAny_66 {p : Program} {l : Launch} {e : Env} {s : State} {m : MethodId} {args : Array Value} {below : List Frame} {meth : Method} {c : Code} {Z : XG} {r : Int32} {S' : Mem} (E : XE p s m args meth c cX8_readAny 4 RX8 (some .int) mL Z) (k0 : Mem → Int32 → Int32 → O)  (hk0 : ∀ (S : Mem) (x1 x2 : Int32), k0 S x1 x2 = some (r, S') → WN p l e { frames := 7, cells := 0, slots := 0, locals := 149 } s m args below meth c mL Z (XQ mL Z r S') S 9 4 [(0, .ref (Z.2.1 0)), (1, .int x1), (2, .int x2)] []) : ∀ (S : Mem) (x1 x2 x3 : Int32), fX8_readAny_66 k0 S x1 x2 x3 = some (r, S') → WN p l e { frames := 7, cells := 0, slots := 0, locals := 149 } s m args below meth c mL Z (XQ mL Z r S') S 66 4 [(0, .ref (Z.2.1 0)), (1, .int x1), (2, .int x2), (3, .int x3)] [] := by
  obtain ⟨hx, hb, -, -, -, -, -, -, -, hQ⟩ := id E
  intro S x1 x2 x3 h H locs ls X hl
  unfold fX8_readAny_66 at h
  refine lv_aload_n hx hb dX8_readAny_66 rfl (lv_at hl 0 rfl) ?_
  refine lv_iload_n hx hb dX8_readAny_67 rfl (lv_at hl 3 rfl) ?_
  refine lv_if_eq (tgt := 76) hx hb dX8_readAny_68 (by decide) (fun c_1 => ?_) (fun c_1 => ?_)
  · have h := if_t c_1 h
    refine lv_bipush (v := (12 : Int32)) hx hb dX8_readAny_76 (by decide) ?_
    exact wX8_readAny_78 E k0 hk0 S x1 x2 (12 : Int32) h _ _ _ X (lv_sub hl [0, 1, 2] rfl)
  · have h := if_f c_1 h
    refine lv_bipush (v := (9 : Int32)) hx hb dX8_readAny_71 (by decide) ?_
    refine lv_goto (tgt := 78) hx hb dX8_readAny_73 (by decide) ?_
    exact wX8_readAny_78 E k0 hk0 S x1 x2 (9 : Int32) h _ _ _ X (lv_sub hl [0, 1, 2] rfl)
set_option maxRecDepth 20000 in
theorem wX8_readAny_33 {p : Program} {l : Launch} {e : Env} {s : State} {m : MethodId} {args : Array Value} {below : List Frame} {meth : Method} {c : Code} {Z : XG} {r : Int32} {S' : Mem} (E : XE p s m args meth c cX8_readAny 4 RX8 (some .int) mL Z) (k0 : Mem → Int32 → Int32 → O)  (hk0 : ∀ (S : Mem) (x1 x2 : Int32), k0 S x1 x2 = some (r, S') → WN p l e { frames := 7, cells := 0, slots := 0, locals := 149 } s m args below meth c mL Z (XQ mL Z r S') S 9 4 [(0, .ref (Z.2.1 0)), (1, .int x1), (2, .int x2)] []) : ∀ (S : Mem) (x1 x2 x3 : Int32), fX8_readAny_33 k0 S x1 x2 x3 = some (r, S') → WN p l e { frames := 7, cells := 0, slots := 0, locals := 149 } s m args below meth c mL Z (XQ mL Z r S') S 33 4 [(0, .ref (Z.2.1 0)), (1, .int x1), (2, .int x2), (3, .int x3)] [] := by
  obtain ⟨hx, hb, -, -, -, -, -, -, -, hQ⟩ := id E
  intro S x1 x2 x3 h H locs ls X hl
  unfold fX8_readAny_33 at h
  refine lv_aload_n hx hb dX8_readAny_33 rfl (lv_at hl 0 rfl) ?_
  refine x_get E X ffX8_200 rfl rfl dX8_readAny_34 ?_
  refine lv_bipush (v := (8 : Int32)) hx hb dX8_readAny_37 (by decide) ?_
  refine lv_icmp_ne (tgt := 48) hx hb dX8_readAny_39 (by decide) (fun c_1 => ?_) (fun c_1 => ?_)
  · have h := if_f c_1 h
    refine lv_aload_n hx hb dX8_readAny_48 rfl (lv_at hl 0 rfl) ?_
    refine lv_aload_n hx hb dX8_readAny_49 rfl (lv_at hl 0 rfl) ?_
    refine x_get E X ffX8_200 rfl rfl dX8_readAny_50 ?_
    refine lv_iconst (v := (1 : Int32)) hx hb dX8_readAny_53 (by decide) ?_
    refine lv_iadd hx hb dX8_readAny_54 ?_
    obtain ⟨S_2, eS_2, h⟩ := ltm_s h
    refine x_put E X fpX8_200 rfl rfl dX8_readAny_55 (fun H locs X => ?_)
    rw [← eS_2] at X
    refine lv_iload_n hx hb dX8_readAny_58 rfl (lv_at hl 3 rfl) ?_
    refine lv_if_ne (tgt := 66) hx hb dX8_readAny_59 (by decide) (fun c_3 => ?_) (fun c_3 => ?_)
    · have h := if_f c_3 h
      exact wX8_readAny_66 E k0 hk0 S_2 x1 x2 x3 h _ _ _ X hl
    · have h := if_t c_3 h
      refine lv_iload_n hx hb dX8_readAny_62 rfl (lv_at hl 1 rfl) ?_
      refine lv_iconst (v := (1 : Int32)) hx hb dX8_readAny_63 (by decide) ?_
      refine lv_iadd hx hb dX8_readAny_64 ?_
      obtain ⟨x1_4, ex1_4, h⟩ := lti_s h
      refine lv_nm ex1_4 ?_
      refine lv_istore_n (lv' := [(1, .int x1_4), (0, .ref (Z.2.1 0)), (2, .int x2), (3, .int x3)]) hx hb dX8_readAny_65 rfl hl (by decide) rfl (fun ls hl => ?_)
      exact wX8_readAny_66 E k0 hk0 S_2 x1_4 x2 x3 h _ _ _ X (lv_sub hl [1, 0, 2, 3] rfl)
  · have h := if_t c_1 h
    refine lv_aload_n hx hb dX8_readAny_42 rfl (lv_at hl 0 rfl) ?_
    refine lv_iconst (v := (3 : Int32)) hx hb dX8_readAny_43 (by decide) ?_
    obtain ⟨r_5, S_6, hr_5, h⟩ := bnd_s h
    refine x_callV E X cwX8_174 (mX8_errs l Z hQ  (3 : Int32) hr_5) rfl rfl rfl rfl hl.1 rfl dX8_readAny_44 (fun H locs X => ?_)
    exact x_iret E X h dX8_readAny_47
set_option maxRecDepth 20000 in
theorem wX8_readAny_9_b {p : Program} {l : Launch} {e : Env} {s : State} {m : MethodId} {args : Array Value} {below : List Frame} {meth : Method} {c : Code} {Z : XG} {r : Int32} {S' : Mem} (E : XE p s m args meth c cX8_readAny 4 RX8 (some .int) mL Z) (k0 : Mem → Int32 → Int32 → O)  (hk0 : ∀ (S : Mem) (x1 x2 : Int32), k0 S x1 x2 = some (r, S') → WN p l e { frames := 7, cells := 0, slots := 0, locals := 149 } s m args below meth c mL Z (XQ mL Z r S') S 9 4 [(0, .ref (Z.2.1 0)), (1, .int x1), (2, .int x2)] []) : ∀ (S : Mem) (x1 x2 : Int32), fX8_readAny_9_b k0 S x1 x2 = some (r, S') → WN p l e { frames := 7, cells := 0, slots := 0, locals := 149 } s m args below meth c mL Z (XQ mL Z r S') S 9 4 [(0, .ref (Z.2.1 0)), (1, .int x1), (2, .int x2)] [] := by
  obtain ⟨hx, hb, -, -, -, -, -, -, -, hQ⟩ := id E
  intro S x1 x2 h H locs ls X hl
  unfold fX8_readAny_9_b at h
  refine lv_iload_n hx hb dX8_readAny_9 rfl (lv_at hl 2 rfl) ?_
  refine lv_if_eq (tgt := 109) hx hb dX8_readAny_10 (by decide) (fun c_1 => ?_) (fun c_1 => ?_)
  · have h := if_t c_1 h
    refine lv_aload_n hx hb dX8_readAny_109 rfl (lv_at hl 0 rfl) ?_
    refine lv_bipush (v := (6 : Int32)) hx hb dX8_readAny_110 (by decide) ?_
    obtain ⟨r_2, S_3, hr_2, h⟩ := bnd_s h
    refine x_callV E X cwX8_203 (mX8_isWord l Z hQ  (6 : Int32) hr_2) rfl rfl rfl rfl hl.1 rfl dX8_readAny_112 (fun H locs X => ?_)
    refine lv_if_eq (tgt := 139) hx hb dX8_readAny_115 (by decide) (fun c_4 => ?_) (fun c_4 => ?_)
    · have h := if_t c_4 h
      refine lv_aload_n hx hb dX8_readAny_139 rfl (lv_at hl 0 rfl) ?_
      refine lv_iconst (v := (5 : Int32)) hx hb dX8_readAny_140 (by decide) ?_
      obtain ⟨r_5, S_6, hr_5, h⟩ := bnd_s h
      refine x_callV E X cwX8_203 (mX8_isWord l Z hQ  (5 : Int32) hr_5) rfl rfl rfl rfl hl.1 rfl dX8_readAny_141 (fun H locs X => ?_)
      refine lv_if_eq (tgt := 174) hx hb dX8_readAny_144 (by decide) (fun c_7 => ?_) (fun c_7 => ?_)
      · have h := if_t c_7 h
        refine lv_aload_n hx hb dX8_readAny_174 rfl (lv_at hl 0 rfl) ?_
        refine lv_bipush (v := (10 : Int32)) hx hb dX8_readAny_175 (by decide) ?_
        obtain ⟨r_8, S_9, hr_8, h⟩ := bnd_s h
        refine x_callVv E X cwX8_212 (mX8_settles l Z hQ  (10 : Int32) hr_8) rfl rfl rfl rfl hl.1 rfl dX8_readAny_177 (fun H locs X => ?_)
        refine lv_aload_n hx hb dX8_readAny_180 rfl (lv_at hl 0 rfl) ?_
        refine lv_bipush (v := (11 : Int32)) hx hb dX8_readAny_181 (by decide) ?_
        obtain ⟨r_10, S_11, hr_10, h⟩ := bnd_s h
        refine x_callVv E X cwX8_212 (mX8_settles l Z hQ  (11 : Int32) hr_10) rfl rfl rfl rfl hl.1 rfl dX8_readAny_183 (fun H locs X => ?_)
        refine lv_iload_n hx hb dX8_readAny_186 rfl (lv_at hl 1 rfl) ?_
        refine lv_if_ne (tgt := 192) hx hb dX8_readAny_187 (by decide) (fun c_12 => ?_) (fun c_12 => ?_)
        · have h := if_f c_12 h
          refine lv_aload_n hx hb dX8_readAny_192 rfl (lv_at hl 0 rfl) ?_
          refine lv_bipush (v := (41 : Int32)) hx hb dX8_readAny_193 (by decide) ?_
          obtain ⟨r_13, S_14, hr_13, h⟩ := bnd_s h
          refine x_callV E X cwX8_188 (mX8_isSign l Z hQ  (41 : Int32) hr_13) rfl rfl rfl rfl hl.1 rfl dX8_readAny_195 (fun H locs X => ?_)
          refine lv_if_ne (tgt := 207) hx hb dX8_readAny_198 (by decide) (fun c_15 => ?_) (fun c_15 => ?_)
          · have h := if_f c_15 h
            refine lv_aload_n hx hb dX8_readAny_207 rfl (lv_at hl 0 rfl) ?_
            refine lv_aload_n hx hb dX8_readAny_208 rfl (lv_at hl 0 rfl) ?_
            refine x_get E X ffX8_197 rfl rfl dX8_readAny_209 ?_
            refine lv_iconst (v := (1 : Int32)) hx hb dX8_readAny_212 (by decide) ?_
            refine lv_isub hx hb dX8_readAny_213 ?_
            obtain ⟨S_16, eS_16, h⟩ := ltm_s h
            refine x_put E X fpX8_197 rfl rfl dX8_readAny_214 (fun H locs X => ?_)
            rw [← eS_16] at X
            refine lv_iload_n hx hb dX8_readAny_217 rfl (lv_at hl 1 rfl) ?_
            refine lv_iconst (v := (1 : Int32)) hx hb dX8_readAny_218 (by decide) ?_
            refine lv_isub hx hb dX8_readAny_219 ?_
            obtain ⟨x1_17, ex1_17, h⟩ := lti_s h
            refine lv_nm ex1_17 ?_
            refine lv_istore_n (lv' := [(1, .int x1_17), (0, .ref (Z.2.1 0)), (2, .int x2)]) hx hb dX8_readAny_220 rfl hl (by decide) rfl (fun ls hl => ?_)
            refine lv_aload_n hx hb dX8_readAny_221 rfl (lv_at hl 1 rfl) ?_
            refine lv_aload_n hx hb dX8_readAny_222 rfl (lv_at hl 1 rfl) ?_
            refine x_get E X ffX8_200 rfl rfl dX8_readAny_223 ?_
            refine lv_iconst (v := (1 : Int32)) hx hb dX8_readAny_226 (by decide) ?_
            refine lv_isub hx hb dX8_readAny_227 ?_
            obtain ⟨S_18, eS_18, h⟩ := ltm_s h
            refine x_put E X fpX8_200 rfl rfl dX8_readAny_228 (fun H locs X => ?_)
            rw [← eS_18] at X
            refine lv_aload_n hx hb dX8_readAny_231 rfl (lv_at hl 1 rfl) ?_
            refine lv_bipush (v := (9 : Int32)) hx hb dX8_readAny_232 (by decide) ?_
            obtain ⟨r_19, S_20, hr_19, h⟩ := bnd_s h
            refine x_callVv E X cwX8_212 (mX8_settles l Z hQ  (9 : Int32) hr_19) rfl rfl rfl rfl hl.1 rfl dX8_readAny_234 (fun H locs X => ?_)
            refine lv_aload_n hx hb dX8_readAny_237 rfl (lv_at hl 1 rfl) ?_
            obtain ⟨r_21, S_22, hr_21, h⟩ := bnd_s h
            refine x_callVv E X cwX8_181 (mX8_reads l Z hQ   hr_21) rfl rfl rfl rfl hl.1 rfl dX8_readAny_238 (fun H locs X => ?_)
            refine lv_goto (tgt := 9) hx hb dX8_readAny_241 (by decide) ?_
            exact hk0 S_22 x1_17 x2 h _ _ _ X (lv_sub hl [1, 0, 2] rfl)
          · have h := if_t c_15 h
            refine lv_aload_n hx hb dX8_readAny_201 rfl (lv_at hl 0 rfl) ?_
            refine lv_iconst (v := (1 : Int32)) hx hb dX8_readAny_202 (by decide) ?_
            obtain ⟨r_23, S_24, hr_23, h⟩ := bnd_s h
            refine x_callV E X cwX8_174 (mX8_errs l Z hQ  (1 : Int32) hr_23) rfl rfl rfl rfl hl.1 rfl dX8_readAny_203 (fun H locs X => ?_)
            exact x_iret E X h dX8_readAny_206
        · have h := if_t c_12 h
          refine lv_iconst (v := (0 : Int32)) hx hb dX8_readAny_190 (by decide) ?_
          exact x_iret E X h dX8_readAny_191
      · have h := if_f c_7 h
        refine lv_aload_n hx hb dX8_readAny_147 rfl (lv_at hl 0 rfl) ?_
        refine lv_bipush (v := (10 : Int32)) hx hb dX8_readAny_148 (by decide) ?_
        obtain ⟨r_25, S_26, hr_25, h⟩ := bnd_s h
        refine x_callVv E X cwX8_212 (mX8_settles l Z hQ  (10 : Int32) hr_25) rfl rfl rfl rfl hl.1 rfl dX8_readAny_150 (fun H locs X => ?_)
        refine lv_aload_n hx hb dX8_readAny_153 rfl (lv_at hl 0 rfl) ?_
        refine lv_bipush (v := (11 : Int32)) hx hb dX8_readAny_154 (by decide) ?_
        obtain ⟨r_27, S_28, hr_27, h⟩ := bnd_s h
        refine x_callVv E X cwX8_212 (mX8_settles l Z hQ  (11 : Int32) hr_27) rfl rfl rfl rfl hl.1 rfl dX8_readAny_156 (fun H locs X => ?_)
        refine lv_aload_n hx hb dX8_readAny_159 rfl (lv_at hl 0 rfl) ?_
        refine lv_bipush (v := (11 : Int32)) hx hb dX8_readAny_160 (by decide) ?_
        obtain ⟨r_29, S_30, hr_29, h⟩ := bnd_s h
        refine x_callVv E X cwX8_206 (mX8_waits l Z hQ  (11 : Int32) hr_29) rfl rfl rfl rfl hl.1 rfl dX8_readAny_162 (fun H locs X => ?_)
        refine lv_aload_n hx hb dX8_readAny_165 rfl (lv_at hl 0 rfl) ?_
        obtain ⟨r_31, S_32, hr_31, h⟩ := bnd_s h
        refine x_callVv E X cwX8_181 (mX8_reads l Z hQ   hr_31) rfl rfl rfl rfl hl.1 rfl dX8_readAny_166 (fun H locs X => ?_)
        refine lv_iconst (v := (1 : Int32)) hx hb dX8_readAny_169 (by decide) ?_
        refine lv_istore_n (lv' := [(2, .int (1 : Int32)), (0, .ref (Z.2.1 0)), (1, .int x1)]) hx hb dX8_readAny_170 rfl hl (by decide) rfl (fun ls hl => ?_)
        refine lv_goto (tgt := 9) hx hb dX8_readAny_171 (by decide) ?_
        exact hk0 S_32 x1 (1 : Int32) h _ _ _ X (lv_sub hl [1, 2, 0] rfl)
    · have h := if_f c_4 h
      refine lv_aload_n hx hb dX8_readAny_118 rfl (lv_at hl 0 rfl) ?_
      refine lv_bipush (v := (10 : Int32)) hx hb dX8_readAny_119 (by decide) ?_
      obtain ⟨r_33, S_34, hr_33, h⟩ := bnd_s h
      refine x_callVv E X cwX8_212 (mX8_settles l Z hQ  (10 : Int32) hr_33) rfl rfl rfl rfl hl.1 rfl dX8_readAny_121 (fun H locs X => ?_)
      refine lv_aload_n hx hb dX8_readAny_124 rfl (lv_at hl 0 rfl) ?_
      refine lv_bipush (v := (10 : Int32)) hx hb dX8_readAny_125 (by decide) ?_
      obtain ⟨r_35, S_36, hr_35, h⟩ := bnd_s h
      refine x_callVv E X cwX8_206 (mX8_waits l Z hQ  (10 : Int32) hr_35) rfl rfl rfl rfl hl.1 rfl dX8_readAny_127 (fun H locs X => ?_)
      refine lv_aload_n hx hb dX8_readAny_130 rfl (lv_at hl 0 rfl) ?_
      obtain ⟨r_37, S_38, hr_37, h⟩ := bnd_s h
      refine x_callVv E X cwX8_181 (mX8_reads l Z hQ   hr_37) rfl rfl rfl rfl hl.1 rfl dX8_readAny_131 (fun H locs X => ?_)
      refine lv_iconst (v := (1 : Int32)) hx hb dX8_readAny_134 (by decide) ?_
      refine lv_istore_n (lv' := [(2, .int (1 : Int32)), (0, .ref (Z.2.1 0)), (1, .int x1)]) hx hb dX8_readAny_135 rfl hl (by decide) rfl (fun ls hl => ?_)
      refine lv_goto (tgt := 9) hx hb dX8_readAny_136 (by decide) ?_
      exact hk0 S_38 x1 (1 : Int32) h _ _ _ X (lv_sub hl [1, 2, 0] rfl)
  · have h := if_f c_1 h
    refine lv_aload_n hx hb dX8_readAny_13 rfl (lv_at hl 0 rfl) ?_
    refine lv_bipush (v := (7 : Int32)) hx hb dX8_readAny_14 (by decide) ?_
    obtain ⟨r_39, S_40, hr_39, h⟩ := bnd_s h
    refine x_callV E X cwX8_203 (mX8_isWord l Z hQ  (7 : Int32) hr_39) rfl rfl rfl rfl hl.1 rfl dX8_readAny_16 (fun H locs X => ?_)
    refine lv_istore_n (lv' := [(3, .int r_39), (0, .ref (Z.2.1 0)), (1, .int x1), (2, .int x2)]) hx hb dX8_readAny_19 rfl hl (by decide) rfl (fun ls hl => ?_)
    refine lv_iload_n hx hb dX8_readAny_20 rfl (lv_at hl 0 rfl) ?_
    refine lv_if_ne (tgt := 33) hx hb dX8_readAny_21 (by decide) (fun c_41 => ?_) (fun c_41 => ?_)
    · have h := if_f c_41 h
      exact wX8_readAny_33 E k0 hk0 S_40 x1 x2 r_39 h _ _ _ X (lv_sub hl [1, 2, 3, 0] rfl)
    · have h := if_t c_41 h
      refine lv_aload_n hx hb dX8_readAny_24 rfl (lv_at hl 1 rfl) ?_
      refine lv_bipush (v := (40 : Int32)) hx hb dX8_readAny_25 (by decide) ?_
      obtain ⟨r_42, S_43, hr_42, h⟩ := bnd_s h
      refine x_callV E X cwX8_188 (mX8_isSign l Z hQ  (40 : Int32) hr_42) rfl rfl rfl rfl hl.1 rfl dX8_readAny_27 (fun H locs X => ?_)
      refine lv_if_eq (tgt := 88) hx hb dX8_readAny_30 (by decide) (fun c_44 => ?_) (fun c_44 => ?_)
      · have h := if_t c_44 h
        refine lv_aload_n hx hb dX8_readAny_88 rfl (lv_at hl 1 rfl) ?_
        obtain ⟨r_45, S_46, hr_45, h⟩ := bnd_s h
        refine x_callV E X cwX8_209 (mX8_readCompared l Z hQ   hr_45) rfl rfl rfl rfl hl.1 rfl dX8_readAny_89 (fun H locs X => ?_)
        refine lv_iconst (v := (-1 : Int32)) hx hb dX8_readAny_92 (by decide) ?_
        refine lv_icmp_ne (tgt := 98) hx hb dX8_readAny_93 (by decide) (fun c_47 => ?_) (fun c_47 => ?_)
        · have h := if_f c_47 h
          refine lv_aload_n hx hb dX8_readAny_98 rfl (lv_at hl 1 rfl) ?_
          refine lv_bipush (v := (9 : Int32)) hx hb dX8_readAny_99 (by decide) ?_
          obtain ⟨r_48, S_49, hr_48, h⟩ := bnd_s h
          refine x_callVv E X cwX8_212 (mX8_settles l Z hQ  (9 : Int32) hr_48) rfl rfl rfl rfl hl.1 rfl dX8_readAny_101 (fun H locs X => ?_)
          refine lv_iconst (v := (0 : Int32)) hx hb dX8_readAny_104 (by decide) ?_
          refine lv_istore_n (lv' := [(2, .int (0 : Int32)), (3, .int r_39), (0, .ref (Z.2.1 0)), (1, .int x1)]) hx hb dX8_readAny_105 rfl hl (by decide) rfl (fun ls hl => ?_)
          refine lv_goto (tgt := 9) hx hb dX8_readAny_106 (by decide) ?_
          exact hk0 S_49 x1 (0 : Int32) h _ _ _ X (lv_sub hl [2, 3, 0] rfl)
        · have h := if_t c_47 h
          refine lv_iconst (v := (-1 : Int32)) hx hb dX8_readAny_96 (by decide) ?_
          exact x_iret E X h dX8_readAny_97
      · have h := if_f c_44 h
        exact wX8_readAny_33 E k0 hk0 S_43 x1 x2 r_39 h _ _ _ X (lv_sub hl [1, 2, 3, 0] rfl)
theorem wX8_readAny_9 {p : Program} {l : Launch} {e : Env} {s : State} {m : MethodId} {args : Array Value} {below : List Frame} {meth : Method} {c : Code} {Z : XG} {r : Int32} {S' : Mem} (E : XE p s m args meth c cX8_readAny 4 RX8 (some .int) mL Z) : ∀ (n : Nat) (S : Mem) (x1 x2 : Int32), fX8_readAny_9 n S x1 x2 = some (r, S') → WN p l e { frames := 7, cells := 0, slots := 0, locals := 149 } s m args below meth c mL Z (XQ mL Z r S') S 9 4 [(0, .ref (Z.2.1 0)), (1, .int x1), (2, .int x2)] [] := by
  intro n
  induction n with
  | zero => intro S x1 x2 h; exact absurd (show (none : O) = some _ from h) (by simp)
  | succ n ih => intro S x1 x2 h; exact wX8_readAny_9_b E (fX8_readAny_9 n) ih S x1 x2 h
set_option maxRecDepth 20000 in
theorem wX8_readAny {p : Program} {l : Launch} {e : Env} {s : State} {m : MethodId} {args : Array Value} {below : List Frame} {meth : Method} {c : Code} {Z : XG} {r : Int32} {S' : Mem} (E : XE p s m args meth c cX8_readAny 4 RX8 (some .int) mL Z) : ∀ (S : Mem), fX8_readAny  S  = some (r, S') → WN p l e { frames := 7, cells := 0, slots := 0, locals := 149 } s m args below meth c mL Z (XQ mL Z r S') S 0 4 [(0, .ref (Z.2.1 0))] [] := by
  obtain ⟨hx, hb, -, -, -, -, -, -, -, hQ⟩ := id E
  intro S  h H locs ls X hl
  unfold fX8_readAny at h
  refine lv_iconst (v := (0 : Int32)) hx hb dX8_readAny_0 (by decide) ?_
  refine lv_istore_n (lv' := [(1, .int (0 : Int32)), (0, .ref (Z.2.1 0))]) hx hb dX8_readAny_1 rfl hl (by decide) rfl (fun ls hl => ?_)
  refine lv_aload_n hx hb dX8_readAny_2 rfl (lv_at hl 1 rfl) ?_
  refine lv_iconst (v := (0 : Int32)) hx hb dX8_readAny_3 (by decide) ?_
  obtain ⟨S_1, eS_1, h⟩ := ltm_s h
  refine x_put E X fpX8_197 rfl rfl dX8_readAny_4 (fun H locs X => ?_)
  rw [← eS_1] at X
  refine lv_iconst (v := (1 : Int32)) hx hb dX8_readAny_7 (by decide) ?_
  refine lv_istore_n (lv' := [(2, .int (1 : Int32)), (1, .int (0 : Int32)), (0, .ref (Z.2.1 0))]) hx hb dX8_readAny_8 rfl hl (by decide) rfl (fun ls hl => ?_)
  exact wX8_readAny_9 E   FU S_1 (0 : Int32) (1 : Int32) h _ _ _ X (lv_sub hl [2, 1, 0] rfl)
/-- SevenToAShadowModel.readAny()I -/
theorem mX8_readAny (l : Launch) (Z : XG) (hQ : wQ (List.length mL) Z) {S S' : Mem} {r : Int32} (h : fX8_readAny S  = some (r, S')) : XM l yX8_readAny cX8_readAny 4 (some .int) { frames := 7, cells := 0, slots := 0, locals := 149 } mL Z [.ref (Z.2.1 0)] S (XQ mL Z r S') := by
  refine XM.of (own := RX8) (by decide +kernel) rfl rfl hQ (fun p e s m args below meth c E ls hl X => ?_)
  exact wX8_readAny E S  h _ _ _ X hl
def fX8_readText_117 (S : Mem) (x1 : Int32) : O := (if (S 0 19) = 0 then some (x1, S) else bnd (fX8_errs S (1 : Int32)) fun r_2 S_3 => some (r_2, S_3))
def fX8_readText_81 (k0 : Mem → Int32 → O) (S : Mem) (x1 x2 : Int32) : O := gd (inB x2 32) <| ltm (mset S 15 (x2).toNatClampNeg (S 0 28)) fun S_2 => bnd (fX8_isSign S_2 (59 : Int32)) fun r_3 S_4 => (if r_3 = 0 then bnd (fX8_errs S_4 (1 : Int32)) fun r_9 S_10 => some (r_9, S_10) else bnd (fX8_reads S_4 ) fun _ S_7 => lti (x1 + (1 : Int32)) fun x1_8 => k0 S_7 x1_8)
def fX8_readText_2_b (k0 : Mem → Int32 → O) (S : Mem) (x1 : Int32) : O := (if (S 0 19) = (2 : Int32) then (if (3 : Int32) < (S 0 20) then fX8_readText_117  S x1 else (if x1 = (16 : Int32) then bnd (fX8_errs S (3 : Int32)) fun r_19 S_20 => some (r_19, S_20) else lti ((16 : Int32) + x1) fun x2_4 => gd (inB x2_4 32) <| ltm (mset S 13 (x2_4).toNatClampNeg (S 0 20)) fun S_6 => bnd (fX8_reads S_6 ) fun _ S_8 => gd (inB x2_4 32) <| ltm (mset S_8 14 (x2_4).toNatClampNeg (S_8 0 28)) fun S_10 => bnd (fX8_isWord S_10 (4 : Int32)) fun r_11 S_12 => (if r_11 = 0 then fX8_readText_81 k0 S_12 x1 x2_4 else bnd (fX8_reads S_12 ) fun _ S_15 => bnd (fX8_readAny S_15 ) fun r_16 S_17 => (if r_16 = (-1 : Int32) then some ((-1 : Int32), S_17) else fX8_readText_81 k0 S_17 x1 x2_4)))) else fX8_readText_117  S x1)
def fX8_readText_2 : Nat → Mem → Int32 → O
  | 0 => fun _ _ => none
  | n + 1 => fX8_readText_2_b (fX8_readText_2 n)
def fX8_readText (S : Mem) : O := fX8_readText_2  FU S (0 : Int32)
theorem dX8_readText_0 : decode cX8_readText 0 = .ok (.iconst 0, 1) := by decide +kernel
theorem dX8_readText_1 : decode cX8_readText 1 = .ok (.istore_n 1, 1) := by decide +kernel
theorem dX8_readText_2 : decode cX8_readText 2 = .ok (.aload_n 0, 1) := by decide +kernel
theorem dX8_readText_3 : decode cX8_readText 3 = .ok (.getfield 146, 3) := by decide +kernel
theorem dX8_readText_6 : decode cX8_readText 6 = .ok (.iconst 2, 1) := by decide +kernel
theorem dX8_readText_7 : decode cX8_readText 7 = .ok (.if_icmp .ne 110, 3) := by decide +kernel
theorem dX8_readText_10 : decode cX8_readText 10 = .ok (.aload_n 0, 1) := by decide +kernel
theorem dX8_readText_11 : decode cX8_readText 11 = .ok (.getfield 149, 3) := by decide +kernel
theorem dX8_readText_14 : decode cX8_readText 14 = .ok (.iconst 3, 1) := by decide +kernel
theorem dX8_readText_15 : decode cX8_readText 15 = .ok (.if_icmp .gt 102, 3) := by decide +kernel
theorem dX8_readText_18 : decode cX8_readText 18 = .ok (.iload_n 1, 1) := by decide +kernel
theorem dX8_readText_19 : decode cX8_readText 19 = .ok (.bipush 16, 2) := by decide +kernel
theorem dX8_readText_21 : decode cX8_readText 21 = .ok (.if_icmp .ne 9, 3) := by decide +kernel
theorem dX8_readText_24 : decode cX8_readText 24 = .ok (.aload_n 0, 1) := by decide +kernel
theorem dX8_readText_25 : decode cX8_readText 25 = .ok (.iconst 3, 1) := by decide +kernel
theorem dX8_readText_26 : decode cX8_readText 26 = .ok (.invokevirtual 174, 3) := by decide +kernel
theorem dX8_readText_29 : decode cX8_readText 29 = .ok (.ireturn, 1) := by decide +kernel
theorem dX8_readText_30 : decode cX8_readText 30 = .ok (.bipush 16, 2) := by decide +kernel
theorem dX8_readText_32 : decode cX8_readText 32 = .ok (.iload_n 1, 1) := by decide +kernel
theorem dX8_readText_33 : decode cX8_readText 33 = .ok (.iadd, 1) := by decide +kernel
theorem dX8_readText_34 : decode cX8_readText 34 = .ok (.istore_n 2, 1) := by decide +kernel
theorem dX8_readText_35 : decode cX8_readText 35 = .ok (.aload_n 0, 1) := by decide +kernel
theorem dX8_readText_36 : decode cX8_readText 36 = .ok (.getfield 46, 3) := by decide +kernel
theorem dX8_readText_39 : decode cX8_readText 39 = .ok (.iload_n 2, 1) := by decide +kernel
theorem dX8_readText_40 : decode cX8_readText 40 = .ok (.aload_n 0, 1) := by decide +kernel
theorem dX8_readText_41 : decode cX8_readText 41 = .ok (.getfield 149, 3) := by decide +kernel
theorem dX8_readText_44 : decode cX8_readText 44 = .ok (.iastore, 1) := by decide +kernel
theorem dX8_readText_45 : decode cX8_readText 45 = .ok (.aload_n 0, 1) := by decide +kernel
theorem dX8_readText_46 : decode cX8_readText 46 = .ok (.invokevirtual 181, 3) := by decide +kernel
theorem dX8_readText_49 : decode cX8_readText 49 = .ok (.aload_n 0, 1) := by decide +kernel
theorem dX8_readText_50 : decode cX8_readText 50 = .ok (.getfield 49, 3) := by decide +kernel
theorem dX8_readText_53 : decode cX8_readText 53 = .ok (.iload_n 2, 1) := by decide +kernel
theorem dX8_readText_54 : decode cX8_readText 54 = .ok (.aload_n 0, 1) := by decide +kernel
theorem dX8_readText_55 : decode cX8_readText 55 = .ok (.getfield 171, 3) := by decide +kernel
theorem dX8_readText_58 : decode cX8_readText 58 = .ok (.iastore, 1) := by decide +kernel
theorem dX8_readText_59 : decode cX8_readText 59 = .ok (.aload_n 0, 1) := by decide +kernel
theorem dX8_readText_60 : decode cX8_readText 60 = .ok (.iconst 4, 1) := by decide +kernel
theorem dX8_readText_61 : decode cX8_readText 61 = .ok (.invokevirtual 203, 3) := by decide +kernel
theorem dX8_readText_64 : decode cX8_readText 64 = .ok (.ifCond .eq 17, 3) := by decide +kernel
theorem dX8_readText_67 : decode cX8_readText 67 = .ok (.aload_n 0, 1) := by decide +kernel
theorem dX8_readText_68 : decode cX8_readText 68 = .ok (.invokevirtual 181, 3) := by decide +kernel
theorem dX8_readText_71 : decode cX8_readText 71 = .ok (.aload_n 0, 1) := by decide +kernel
theorem dX8_readText_72 : decode cX8_readText 72 = .ok (.invokevirtual 215, 3) := by decide +kernel
theorem dX8_readText_75 : decode cX8_readText 75 = .ok (.iconst (-1), 1) := by decide +kernel
theorem dX8_readText_76 : decode cX8_readText 76 = .ok (.if_icmp .ne 5, 3) := by decide +kernel
theorem dX8_readText_79 : decode cX8_readText 79 = .ok (.iconst (-1), 1) := by decide +kernel
theorem dX8_readText_80 : decode cX8_readText 80 = .ok (.ireturn, 1) := by decide +kernel
theorem dX8_readText_81 : decode cX8_readText 81 = .ok (.aload_n 0, 1) := by decide +kernel
theorem dX8_readText_82 : decode cX8_readText 82 = .ok (.getfield 52, 3) := by decide +kernel
theorem dX8_readText_85 : decode cX8_readText 85 = .ok (.iload_n 2, 1) := by decide +kernel
theorem dX8_readText_86 : decode cX8_readText 86 = .ok (.aload_n 0, 1) := by decide +kernel
theorem dX8_readText_87 : decode cX8_readText 87 = .ok (.getfield 171, 3) := by decide +kernel
theorem dX8_readText_90 : decode cX8_readText 90 = .ok (.iastore, 1) := by decide +kernel
theorem dX8_readText_91 : decode cX8_readText 91 = .ok (.aload_n 0, 1) := by decide +kernel
theorem dX8_readText_92 : decode cX8_readText 92 = .ok (.bipush 59, 2) := by decide +kernel
theorem dX8_readText_94 : decode cX8_readText 94 = .ok (.invokevirtual 188, 3) := by decide +kernel
theorem dX8_readText_97 : decode cX8_readText 97 = .ok (.ifCond .ne 9, 3) := by decide +kernel
theorem dX8_readText_100 : decode cX8_readText 100 = .ok (.aload_n 0, 1) := by decide +kernel
theorem dX8_readText_101 : decode cX8_readText 101 = .ok (.iconst 1, 1) := by decide +kernel
theorem dX8_readText_102 : decode cX8_readText 102 = .ok (.invokevirtual 174, 3) := by decide +kernel
theorem dX8_readText_105 : decode cX8_readText 105 = .ok (.ireturn, 1) := by decide +kernel
theorem dX8_readText_106 : decode cX8_readText 106 = .ok (.aload_n 0, 1) := by decide +kernel
theorem dX8_readText_107 : decode cX8_readText 107 = .ok (.invokevirtual 181, 3) := by decide +kernel
theorem dX8_readText_110 : decode cX8_readText 110 = .ok (.iload_n 1, 1) := by decide +kernel
theorem dX8_readText_111 : decode cX8_readText 111 = .ok (.iconst 1, 1) := by decide +kernel
theorem dX8_readText_112 : decode cX8_readText 112 = .ok (.iadd, 1) := by decide +kernel
theorem dX8_readText_113 : decode cX8_readText 113 = .ok (.istore_n 1, 1) := by decide +kernel
theorem dX8_readText_114 : decode cX8_readText 114 = .ok (.goto (-112), 3) := by decide +kernel
theorem dX8_readText_117 : decode cX8_readText 117 = .ok (.aload_n 0, 1) := by decide +kernel
theorem dX8_readText_118 : decode cX8_readText 118 = .ok (.getfield 146, 3) := by decide +kernel
theorem dX8_readText_121 : decode cX8_readText 121 = .ok (.ifCond .ne 7, 3) := by decide +kernel
theorem dX8_readText_124 : decode cX8_readText 124 = .ok (.iload_n 1, 1) := by decide +kernel
theorem dX8_readText_125 : decode cX8_readText 125 = .ok (.goto 8, 3) := by decide +kernel
theorem dX8_readText_128 : decode cX8_readText 128 = .ok (.aload_n 0, 1) := by decide +kernel
theorem dX8_readText_129 : decode cX8_readText 129 = .ok (.iconst 1, 1) := by decide +kernel
theorem dX8_readText_130 : decode cX8_readText 130 = .ok (.invokevirtual 174, 3) := by decide +kernel
theorem dX8_readText_133 : decode cX8_readText 133 = .ok (.ireturn, 1) := by decide +kernel
set_option maxRecDepth 20000 in
theorem wX8_readText_117 {p : Program} {l : Launch} {e : Env} {s : State} {m : MethodId} {args : Array Value} {below : List Frame} {meth : Method} {c : Code} {Z : XG} {r : Int32} {S' : Mem} (E : XE p s m args meth c cX8_readText 3 RX8 (some .int) mL Z) : ∀ (S : Mem) (x1 : Int32), fX8_readText_117  S x1 = some (r, S') → WN p l e { frames := 8, cells := 0, slots := 0, locals := 172 } s m args below meth c mL Z (XQ mL Z r S') S 117 3 [(0, .ref (Z.2.1 0)), (1, .int x1)] [] := by
  obtain ⟨hx, hb, -, -, -, -, -, -, -, hQ⟩ := id E
  intro S x1 h H locs ls X hl
  unfold fX8_readText_117 at h
  refine lv_aload_n hx hb dX8_readText_117 rfl (lv_at hl 0 rfl) ?_
  refine x_get E X ffX8_146 rfl rfl dX8_readText_118 ?_
  refine lv_if_ne (tgt := 128) hx hb dX8_readText_121 (by decide) (fun c_1 => ?_) (fun c_1 => ?_)
  · have h := if_f c_1 h
    refine lv_aload_n hx hb dX8_readText_128 rfl (lv_at hl 0 rfl) ?_
    refine lv_iconst (v := (1 : Int32)) hx hb dX8_readText_129 (by decide) ?_
    obtain ⟨r_2, S_3, hr_2, h⟩ := bnd_s h
    refine x_callV E X cwX8_174 (mX8_errs l Z hQ  (1 : Int32) hr_2) rfl rfl rfl rfl hl.1 rfl dX8_readText_130 (fun H locs X => ?_)
    exact x_iret E X h dX8_readText_133
  · have h := if_t c_1 h
    refine lv_iload_n hx hb dX8_readText_124 rfl (lv_at hl 1 rfl) ?_
    refine lv_goto (tgt := 133) hx hb dX8_readText_125 (by decide) ?_
    exact x_iret E X h dX8_readText_133
set_option maxRecDepth 20000 in
theorem wX8_readText_81 {p : Program} {l : Launch} {e : Env} {s : State} {m : MethodId} {args : Array Value} {below : List Frame} {meth : Method} {c : Code} {Z : XG} {r : Int32} {S' : Mem} (E : XE p s m args meth c cX8_readText 3 RX8 (some .int) mL Z) (k0 : Mem → Int32 → O)  (hk0 : ∀ (S : Mem) (x1 : Int32), k0 S x1 = some (r, S') → WN p l e { frames := 8, cells := 0, slots := 0, locals := 172 } s m args below meth c mL Z (XQ mL Z r S') S 2 3 [(0, .ref (Z.2.1 0)), (1, .int x1)] []) : ∀ (S : Mem) (x1 x2 : Int32), fX8_readText_81 k0 S x1 x2 = some (r, S') → WN p l e { frames := 8, cells := 0, slots := 0, locals := 172 } s m args below meth c mL Z (XQ mL Z r S') S 81 3 [(0, .ref (Z.2.1 0)), (1, .int x1), (2, .int x2)] [] := by
  obtain ⟨hx, hb, -, -, -, -, -, -, -, hQ⟩ := id E
  intro S x1 x2 h H locs ls X hl
  unfold fX8_readText_81 at h
  refine lv_aload_n hx hb dX8_readText_81 rfl (lv_at hl 0 rfl) ?_
  refine x_getr E X ffX8_52 rfl rfl dX8_readText_82 ?_
  refine lv_iload_n hx hb dX8_readText_85 rfl (lv_at hl 2 rfl) ?_
  refine lv_aload_n hx hb dX8_readText_86 rfl (lv_at hl 0 rfl) ?_
  refine x_get E X ffX8_171 rfl rfl dX8_readText_87 ?_
  obtain ⟨g_1, h⟩ := gd_s h
  obtain ⟨S_2, eS_2, h⟩ := ltm_s h
  refine x_iast E X rfl g_1 dX8_readText_90 (fun H locs X => ?_)
  rw [← eS_2] at X
  refine lv_aload_n hx hb dX8_readText_91 rfl (lv_at hl 0 rfl) ?_
  refine lv_bipush (v := (59 : Int32)) hx hb dX8_readText_92 (by decide) ?_
  obtain ⟨r_3, S_4, hr_3, h⟩ := bnd_s h
  refine x_callV E X cwX8_188 (mX8_isSign l Z hQ  (59 : Int32) hr_3) rfl rfl rfl rfl hl.1 rfl dX8_readText_94 (fun H locs X => ?_)
  refine lv_if_ne (tgt := 106) hx hb dX8_readText_97 (by decide) (fun c_5 => ?_) (fun c_5 => ?_)
  · have h := if_f c_5 h
    refine lv_aload_n hx hb dX8_readText_106 rfl (lv_at hl 0 rfl) ?_
    obtain ⟨r_6, S_7, hr_6, h⟩ := bnd_s h
    refine x_callVv E X cwX8_181 (mX8_reads l Z hQ   hr_6) rfl rfl rfl rfl hl.1 rfl dX8_readText_107 (fun H locs X => ?_)
    refine lv_iload_n hx hb dX8_readText_110 rfl (lv_at hl 1 rfl) ?_
    refine lv_iconst (v := (1 : Int32)) hx hb dX8_readText_111 (by decide) ?_
    refine lv_iadd hx hb dX8_readText_112 ?_
    obtain ⟨x1_8, ex1_8, h⟩ := lti_s h
    refine lv_nm ex1_8 ?_
    refine lv_istore_n (lv' := [(1, .int x1_8), (0, .ref (Z.2.1 0)), (2, .int x2)]) hx hb dX8_readText_113 rfl hl (by decide) rfl (fun ls hl => ?_)
    refine lv_goto (tgt := 2) hx hb dX8_readText_114 (by decide) ?_
    exact hk0 S_7 x1_8 h _ _ _ X (lv_sub hl [1, 0] rfl)
  · have h := if_t c_5 h
    refine lv_aload_n hx hb dX8_readText_100 rfl (lv_at hl 0 rfl) ?_
    refine lv_iconst (v := (1 : Int32)) hx hb dX8_readText_101 (by decide) ?_
    obtain ⟨r_9, S_10, hr_9, h⟩ := bnd_s h
    refine x_callV E X cwX8_174 (mX8_errs l Z hQ  (1 : Int32) hr_9) rfl rfl rfl rfl hl.1 rfl dX8_readText_102 (fun H locs X => ?_)
    exact x_iret E X h dX8_readText_105
set_option maxRecDepth 20000 in
theorem wX8_readText_2_b {p : Program} {l : Launch} {e : Env} {s : State} {m : MethodId} {args : Array Value} {below : List Frame} {meth : Method} {c : Code} {Z : XG} {r : Int32} {S' : Mem} (E : XE p s m args meth c cX8_readText 3 RX8 (some .int) mL Z) (k0 : Mem → Int32 → O)  (hk0 : ∀ (S : Mem) (x1 : Int32), k0 S x1 = some (r, S') → WN p l e { frames := 8, cells := 0, slots := 0, locals := 172 } s m args below meth c mL Z (XQ mL Z r S') S 2 3 [(0, .ref (Z.2.1 0)), (1, .int x1)] []) : ∀ (S : Mem) (x1 : Int32), fX8_readText_2_b k0 S x1 = some (r, S') → WN p l e { frames := 8, cells := 0, slots := 0, locals := 172 } s m args below meth c mL Z (XQ mL Z r S') S 2 3 [(0, .ref (Z.2.1 0)), (1, .int x1)] [] := by
  obtain ⟨hx, hb, -, -, -, -, -, -, -, hQ⟩ := id E
  intro S x1 h H locs ls X hl
  unfold fX8_readText_2_b at h
  refine lv_aload_n hx hb dX8_readText_2 rfl (lv_at hl 0 rfl) ?_
  refine x_get E X ffX8_146 rfl rfl dX8_readText_3 ?_
  refine lv_iconst (v := (2 : Int32)) hx hb dX8_readText_6 (by decide) ?_
  refine lv_icmp_ne (tgt := 117) hx hb dX8_readText_7 (by decide) (fun c_1 => ?_) (fun c_1 => ?_)
  · have h := if_f c_1 h
    exact wX8_readText_117 E   S x1 h _ _ _ X hl
  · have h := if_t c_1 h
    refine lv_aload_n hx hb dX8_readText_10 rfl (lv_at hl 0 rfl) ?_
    refine x_get E X ffX8_149 rfl rfl dX8_readText_11 ?_
    refine lv_iconst (v := (3 : Int32)) hx hb dX8_readText_14 (by decide) ?_
    refine lv_icmp_gt (tgt := 117) hx hb dX8_readText_15 (by decide) (fun c_2 => ?_) (fun c_2 => ?_)
    · have h := if_t c_2 h
      exact wX8_readText_117 E   S x1 h _ _ _ X hl
    · have h := if_f c_2 h
      refine lv_iload_n hx hb dX8_readText_18 rfl (lv_at hl 1 rfl) ?_
      refine lv_bipush (v := (16 : Int32)) hx hb dX8_readText_19 (by decide) ?_
      refine lv_icmp_ne (tgt := 30) hx hb dX8_readText_21 (by decide) (fun c_3 => ?_) (fun c_3 => ?_)
      · have h := if_f c_3 h
        refine lv_bipush (v := (16 : Int32)) hx hb dX8_readText_30 (by decide) ?_
        refine lv_iload_n hx hb dX8_readText_32 rfl (lv_at hl 1 rfl) ?_
        refine lv_iadd hx hb dX8_readText_33 ?_
        obtain ⟨x2_4, ex2_4, h⟩ := lti_s h
        refine lv_nm ex2_4 ?_
        refine lv_istore_n (lv' := [(2, .int x2_4), (0, .ref (Z.2.1 0)), (1, .int x1)]) hx hb dX8_readText_34 rfl hl (by decide) rfl (fun ls hl => ?_)
        refine lv_aload_n hx hb dX8_readText_35 rfl (lv_at hl 1 rfl) ?_
        refine x_getr E X ffX8_46 rfl rfl dX8_readText_36 ?_
        refine lv_iload_n hx hb dX8_readText_39 rfl (lv_at hl 0 rfl) ?_
        refine lv_aload_n hx hb dX8_readText_40 rfl (lv_at hl 1 rfl) ?_
        refine x_get E X ffX8_149 rfl rfl dX8_readText_41 ?_
        obtain ⟨g_5, h⟩ := gd_s h
        obtain ⟨S_6, eS_6, h⟩ := ltm_s h
        refine x_iast E X rfl g_5 dX8_readText_44 (fun H locs X => ?_)
        rw [← eS_6] at X
        refine lv_aload_n hx hb dX8_readText_45 rfl (lv_at hl 1 rfl) ?_
        obtain ⟨r_7, S_8, hr_7, h⟩ := bnd_s h
        refine x_callVv E X cwX8_181 (mX8_reads l Z hQ   hr_7) rfl rfl rfl rfl hl.1 rfl dX8_readText_46 (fun H locs X => ?_)
        refine lv_aload_n hx hb dX8_readText_49 rfl (lv_at hl 1 rfl) ?_
        refine x_getr E X ffX8_49 rfl rfl dX8_readText_50 ?_
        refine lv_iload_n hx hb dX8_readText_53 rfl (lv_at hl 0 rfl) ?_
        refine lv_aload_n hx hb dX8_readText_54 rfl (lv_at hl 1 rfl) ?_
        refine x_get E X ffX8_171 rfl rfl dX8_readText_55 ?_
        obtain ⟨g_9, h⟩ := gd_s h
        obtain ⟨S_10, eS_10, h⟩ := ltm_s h
        refine x_iast E X rfl g_9 dX8_readText_58 (fun H locs X => ?_)
        rw [← eS_10] at X
        refine lv_aload_n hx hb dX8_readText_59 rfl (lv_at hl 1 rfl) ?_
        refine lv_iconst (v := (4 : Int32)) hx hb dX8_readText_60 (by decide) ?_
        obtain ⟨r_11, S_12, hr_11, h⟩ := bnd_s h
        refine x_callV E X cwX8_203 (mX8_isWord l Z hQ  (4 : Int32) hr_11) rfl rfl rfl rfl hl.1 rfl dX8_readText_61 (fun H locs X => ?_)
        refine lv_if_eq (tgt := 81) hx hb dX8_readText_64 (by decide) (fun c_13 => ?_) (fun c_13 => ?_)
        · have h := if_t c_13 h
          exact wX8_readText_81 E k0 hk0 S_12 x1 x2_4 h _ _ _ X (lv_sub hl [1, 2, 0] rfl)
        · have h := if_f c_13 h
          refine lv_aload_n hx hb dX8_readText_67 rfl (lv_at hl 1 rfl) ?_
          obtain ⟨r_14, S_15, hr_14, h⟩ := bnd_s h
          refine x_callVv E X cwX8_181 (mX8_reads l Z hQ   hr_14) rfl rfl rfl rfl hl.1 rfl dX8_readText_68 (fun H locs X => ?_)
          refine lv_aload_n hx hb dX8_readText_71 rfl (lv_at hl 1 rfl) ?_
          obtain ⟨r_16, S_17, hr_16, h⟩ := bnd_s h
          refine x_callV E X cwX8_215 (mX8_readAny l Z hQ   hr_16) rfl rfl rfl rfl hl.1 rfl dX8_readText_72 (fun H locs X => ?_)
          refine lv_iconst (v := (-1 : Int32)) hx hb dX8_readText_75 (by decide) ?_
          refine lv_icmp_ne (tgt := 81) hx hb dX8_readText_76 (by decide) (fun c_18 => ?_) (fun c_18 => ?_)
          · have h := if_f c_18 h
            exact wX8_readText_81 E k0 hk0 S_17 x1 x2_4 h _ _ _ X (lv_sub hl [1, 2, 0] rfl)
          · have h := if_t c_18 h
            refine lv_iconst (v := (-1 : Int32)) hx hb dX8_readText_79 (by decide) ?_
            exact x_iret E X h dX8_readText_80
      · have h := if_t c_3 h
        refine lv_aload_n hx hb dX8_readText_24 rfl (lv_at hl 0 rfl) ?_
        refine lv_iconst (v := (3 : Int32)) hx hb dX8_readText_25 (by decide) ?_
        obtain ⟨r_19, S_20, hr_19, h⟩ := bnd_s h
        refine x_callV E X cwX8_174 (mX8_errs l Z hQ  (3 : Int32) hr_19) rfl rfl rfl rfl hl.1 rfl dX8_readText_26 (fun H locs X => ?_)
        exact x_iret E X h dX8_readText_29
theorem wX8_readText_2 {p : Program} {l : Launch} {e : Env} {s : State} {m : MethodId} {args : Array Value} {below : List Frame} {meth : Method} {c : Code} {Z : XG} {r : Int32} {S' : Mem} (E : XE p s m args meth c cX8_readText 3 RX8 (some .int) mL Z) : ∀ (n : Nat) (S : Mem) (x1 : Int32), fX8_readText_2 n S x1 = some (r, S') → WN p l e { frames := 8, cells := 0, slots := 0, locals := 172 } s m args below meth c mL Z (XQ mL Z r S') S 2 3 [(0, .ref (Z.2.1 0)), (1, .int x1)] [] := by
  intro n
  induction n with
  | zero => intro S x1 h; exact absurd (show (none : O) = some _ from h) (by simp)
  | succ n ih => intro S x1 h; exact wX8_readText_2_b E (fX8_readText_2 n) ih S x1 h
set_option maxRecDepth 20000 in
theorem wX8_readText {p : Program} {l : Launch} {e : Env} {s : State} {m : MethodId} {args : Array Value} {below : List Frame} {meth : Method} {c : Code} {Z : XG} {r : Int32} {S' : Mem} (E : XE p s m args meth c cX8_readText 3 RX8 (some .int) mL Z) : ∀ (S : Mem), fX8_readText  S  = some (r, S') → WN p l e { frames := 8, cells := 0, slots := 0, locals := 172 } s m args below meth c mL Z (XQ mL Z r S') S 0 3 [(0, .ref (Z.2.1 0))] [] := by
  obtain ⟨hx, hb, -, -, -, -, -, -, -, hQ⟩ := id E
  intro S  h H locs ls X hl
  unfold fX8_readText at h
  refine lv_iconst (v := (0 : Int32)) hx hb dX8_readText_0 (by decide) ?_
  refine lv_istore_n (lv' := [(1, .int (0 : Int32)), (0, .ref (Z.2.1 0))]) hx hb dX8_readText_1 rfl hl (by decide) rfl (fun ls hl => ?_)
  exact wX8_readText_2 E   FU S (0 : Int32) h _ _ _ X (lv_sub hl [1, 0] rfl)
/-- SevenToAShadowModel.readText()I -/
theorem mX8_readText (l : Launch) (Z : XG) (hQ : wQ (List.length mL) Z) {S S' : Mem} {r : Int32} (h : fX8_readText S  = some (r, S')) : XM l yX8_readText cX8_readText 3 (some .int) { frames := 8, cells := 0, slots := 0, locals := 172 } mL Z [.ref (Z.2.1 0)] S (XQ mL Z r S') := by
  refine XM.of (own := RX8) (by decide +kernel) rfl rfl hQ (fun p e s m args below meth c E ls hl X => ?_)
  exact wX8_readText E S  h _ _ _ X hl
