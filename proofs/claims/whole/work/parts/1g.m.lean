def fX8_thief_188 (k0 : Mem → Int32 → Int32 → Int32 → Int32 → O) (k1 : Mem → Int32 → Int32 → Int32 → Int32 → Int32 → Int32 → O) (S : Mem) (x1 x2 x3 x4 x5 x6 : Int32) : O := k1 S x1 x2 x3 x4 x5 (x6 + (1 : Int32))
def fX8_thief_179 (k0 : Mem → Int32 → Int32 → Int32 → Int32 → O) (k1 : Mem → Int32 → Int32 → Int32 → Int32 → Int32 → Int32 → O) (S : Mem) (x1 x2 x3 x4 x5 x6 : Int32) : O := bnd (fX8_addsBurns S x4 x6 (-1 : Int32)) fun _ S_2 => fX8_thief_188 k0 k1 S_2 x1 x2 x3 x4 x5 x6
def fX8_thief_174 (k0 : Mem → Int32 → Int32 → Int32 → Int32 → O) (k1 : Mem → Int32 → Int32 → Int32 → Int32 → Int32 → Int32 → O) (S : Mem) (x1 x2 x4 x5 x6 s0 : Int32) : O := lti (x2 + (1 : Int32)) fun x2_1 => fX8_thief_179 k0 k1 S x1 x2_1 s0 x4 x5 x6
def fX8_thief_125_b (k0 : Mem → Int32 → Int32 → Int32 → Int32 → O) (k1 : Mem → Int32 → Int32 → Int32 → Int32 → Int32 → Int32 → O) (S : Mem) (x1 x2 x3 x4 x5 x6 : Int32) : O := (if (8 : Int32) ≤ x6 then bnd (fX8_addsBurns S x4 x5 (1 : Int32)) fun _ S_3 => k0 S_3 x1 x2 x3 (x4 + (1 : Int32)) else (if x6 = x5 then fX8_thief_188 k0 k1 S x1 x2 x3 x4 x5 x6 else bnd (fX8_addsBurns S x4 x6 (1 : Int32)) fun _ S_6 => bnd (fX8_areAsTold S_6 ) fun r_7 S_8 => (if r_7 = 0 then fX8_thief_179 k0 k1 S_8 x1 x2 x3 x4 x5 x6 else (if x2 = 0 then fX8_thief_174 k0 k1 S_8 x1 x2 x4 x5 x6 (((8 : Int32) * x4) + x6) else fX8_thief_174 k0 k1 S_8 x1 x2 x4 x5 x6 x3))))
def fX8_thief_125 (k0 : Mem → Int32 → Int32 → Int32 → Int32 → O) : Nat → Mem → Int32 → Int32 → Int32 → Int32 → Int32 → Int32 → O
  | 0 => fun _ _ _ _ _ _ _ => none
  | n + 1 => fX8_thief_125_b k0 (fX8_thief_125 k0 n)
def fX8_thief_93_b (k0 : Mem → Int32 → Int32 → Int32 → Int32 → O) (S : Mem) (x1 x2 x3 x4 : Int32) : O := (if (12 : Int32) ≤ x4 then (if x1 = 0 then some (x2, S) else (if x3 = (-1 : Int32) then some ((-1 : Int32), S) else (if x1 = (1 : Int32) then some ((x3 / (8 : Int32)), S) else some ((irem x3 (8 : Int32)), S)))) else gd (inB (((5 : Int32) * x4) + (3 : Int32)) 60) <| lti (S 3 ((((5 : Int32) * x4) + (3 : Int32))).toNatClampNeg) fun x5_6 => bnd (fX8_addsBurns S x4 x5_6 (-1 : Int32)) fun _ S_8 => fX8_thief_125 k0 FU S_8 x1 x2 x3 x4 x5_6 (0 : Int32))
def fX8_thief_93 : Nat → Mem → Int32 → Int32 → Int32 → Int32 → O
  | 0 => fun _ _ _ _ _ => none
  | n + 1 => fX8_thief_93_b (fX8_thief_93 n)
def fX8_thief_40_b (k0 : Mem → Int32 → Int32 → O) (S : Mem) (x1 x2 : Int32) : O := (if (12 : Int32) ≤ x2 then (if x1 = (3 : Int32) then bnd (fX8_areAsTold S ) fun r_3 S_4 => (if r_3 = 0 then some ((0 : Int32), S_4) else some ((1 : Int32), S_4)) else fX8_thief_93  FU S x1 (0 : Int32) (-1 : Int32) (0 : Int32)) else gd (inB (((5 : Int32) * x2) + (3 : Int32)) 60) <| bnd (fX8_addsBurns S x2 (S 3 ((((5 : Int32) * x2) + (3 : Int32))).toNatClampNeg) (1 : Int32)) fun _ S_8 => k0 S_8 x1 (x2 + (1 : Int32)))
def fX8_thief_40 : Nat → Mem → Int32 → Int32 → O
  | 0 => fun _ _ _ => none
  | n + 1 => fX8_thief_40_b (fX8_thief_40 n)
def fX8_thief_19_b (k0 : Mem → Int32 → Int32 → O) (S : Mem) (x1 x2 : Int32) : O := (if (10 : Int32) ≤ x2 then fX8_thief_40  FU S x1 (0 : Int32) else gd (inB x2 10) <| ltm (mset S 25 (x2).toNatClampNeg (0 : Int32)) fun S_3 => k0 S_3 x1 (x2 + (1 : Int32)))
def fX8_thief_19 : Nat → Mem → Int32 → Int32 → O
  | 0 => fun _ _ _ => none
  | n + 1 => fX8_thief_19_b (fX8_thief_19 n)
def fX8_thief (S : Mem) (x1 : Int32) : O := ltm (mset S 0 0 (0 : Int32)) fun S_1 => bnd (fX8_isIn S_1 x1 (0 : Int32) (3 : Int32)) fun r_2 S_3 => (if r_2 = 0 then some ((-1 : Int32), S_3) else fX8_thief_19  FU S_3 x1 (0 : Int32))
theorem dX8_thief_0 : decode cX8_thief 0 = .ok (.aload_n 0, 1) := by decide +kernel
theorem dX8_thief_1 : decode cX8_thief 1 = .ok (.iconst 0, 1) := by decide +kernel
theorem dX8_thief_2 : decode cX8_thief 2 = .ok (.putfield 92, 3) := by decide +kernel
theorem dX8_thief_5 : decode cX8_thief 5 = .ok (.aload_n 0, 1) := by decide +kernel
theorem dX8_thief_6 : decode cX8_thief 6 = .ok (.iload_n 1, 1) := by decide +kernel
theorem dX8_thief_7 : decode cX8_thief 7 = .ok (.iconst 0, 1) := by decide +kernel
theorem dX8_thief_8 : decode cX8_thief 8 = .ok (.iconst 3, 1) := by decide +kernel
theorem dX8_thief_9 : decode cX8_thief 9 = .ok (.invokevirtual 107, 3) := by decide +kernel
theorem dX8_thief_12 : decode cX8_thief 12 = .ok (.ifCond .ne 5, 3) := by decide +kernel
theorem dX8_thief_15 : decode cX8_thief 15 = .ok (.iconst (-1), 1) := by decide +kernel
theorem dX8_thief_16 : decode cX8_thief 16 = .ok (.ireturn, 1) := by decide +kernel
theorem dX8_thief_17 : decode cX8_thief 17 = .ok (.iconst 0, 1) := by decide +kernel
theorem dX8_thief_18 : decode cX8_thief 18 = .ok (.istore_n 2, 1) := by decide +kernel
theorem dX8_thief_19 : decode cX8_thief 19 = .ok (.iload_n 2, 1) := by decide +kernel
theorem dX8_thief_20 : decode cX8_thief 20 = .ok (.bipush 10, 2) := by decide +kernel
theorem dX8_thief_22 : decode cX8_thief 22 = .ok (.if_icmp .ge 16, 3) := by decide +kernel
theorem dX8_thief_25 : decode cX8_thief 25 = .ok (.aload_n 0, 1) := by decide +kernel
theorem dX8_thief_26 : decode cX8_thief 26 = .ok (.getfield 86, 3) := by decide +kernel
theorem dX8_thief_29 : decode cX8_thief 29 = .ok (.iload_n 2, 1) := by decide +kernel
theorem dX8_thief_30 : decode cX8_thief 30 = .ok (.iconst 0, 1) := by decide +kernel
theorem dX8_thief_31 : decode cX8_thief 31 = .ok (.iastore, 1) := by decide +kernel
theorem dX8_thief_32 : decode cX8_thief 32 = .ok (.iinc 2 1, 3) := by decide +kernel
theorem dX8_thief_35 : decode cX8_thief 35 = .ok (.goto (-16), 3) := by decide +kernel
theorem dX8_thief_38 : decode cX8_thief 38 = .ok (.iconst 0, 1) := by decide +kernel
theorem dX8_thief_39 : decode cX8_thief 39 = .ok (.istore_n 2, 1) := by decide +kernel
theorem dX8_thief_40 : decode cX8_thief 40 = .ok (.iload_n 2, 1) := by decide +kernel
theorem dX8_thief_41 : decode cX8_thief 41 = .ok (.bipush 12, 2) := by decide +kernel
theorem dX8_thief_43 : decode cX8_thief 43 = .ok (.if_icmp .ge 25, 3) := by decide +kernel
theorem dX8_thief_46 : decode cX8_thief 46 = .ok (.aload_n 0, 1) := by decide +kernel
theorem dX8_thief_47 : decode cX8_thief 47 = .ok (.iload_n 2, 1) := by decide +kernel
theorem dX8_thief_48 : decode cX8_thief 48 = .ok (.aload_n 0, 1) := by decide +kernel
theorem dX8_thief_49 : decode cX8_thief 49 = .ok (.getfield 16, 3) := by decide +kernel
theorem dX8_thief_52 : decode cX8_thief 52 = .ok (.iconst 5, 1) := by decide +kernel
theorem dX8_thief_53 : decode cX8_thief 53 = .ok (.iload_n 2, 1) := by decide +kernel
theorem dX8_thief_54 : decode cX8_thief 54 = .ok (.imul, 1) := by decide +kernel
theorem dX8_thief_55 : decode cX8_thief 55 = .ok (.iconst 3, 1) := by decide +kernel
theorem dX8_thief_56 : decode cX8_thief 56 = .ok (.iadd, 1) := by decide +kernel
theorem dX8_thief_57 : decode cX8_thief 57 = .ok (.iaload, 1) := by decide +kernel
theorem dX8_thief_58 : decode cX8_thief 58 = .ok (.iconst 1, 1) := by decide +kernel
theorem dX8_thief_59 : decode cX8_thief 59 = .ok (.invokevirtual 348, 3) := by decide +kernel
theorem dX8_thief_62 : decode cX8_thief 62 = .ok (.iinc 2 1, 3) := by decide +kernel
theorem dX8_thief_65 : decode cX8_thief 65 = .ok (.goto (-25), 3) := by decide +kernel
theorem dX8_thief_68 : decode cX8_thief 68 = .ok (.iload_n 1, 1) := by decide +kernel
theorem dX8_thief_69 : decode cX8_thief 69 = .ok (.iconst 3, 1) := by decide +kernel
theorem dX8_thief_70 : decode cX8_thief 70 = .ok (.if_icmp .ne 16, 3) := by decide +kernel
theorem dX8_thief_73 : decode cX8_thief 73 = .ok (.aload_n 0, 1) := by decide +kernel
theorem dX8_thief_74 : decode cX8_thief 74 = .ok (.invokevirtual 351, 3) := by decide +kernel
theorem dX8_thief_77 : decode cX8_thief 77 = .ok (.ifCond .eq 7, 3) := by decide +kernel
theorem dX8_thief_80 : decode cX8_thief 80 = .ok (.iconst 1, 1) := by decide +kernel
theorem dX8_thief_81 : decode cX8_thief 81 = .ok (.goto 4, 3) := by decide +kernel
theorem dX8_thief_84 : decode cX8_thief 84 = .ok (.iconst 0, 1) := by decide +kernel
theorem dX8_thief_85 : decode cX8_thief 85 = .ok (.ireturn, 1) := by decide +kernel
theorem dX8_thief_86 : decode cX8_thief 86 = .ok (.iconst 0, 1) := by decide +kernel
theorem dX8_thief_87 : decode cX8_thief 87 = .ok (.istore_n 2, 1) := by decide +kernel
theorem dX8_thief_88 : decode cX8_thief 88 = .ok (.iconst (-1), 1) := by decide +kernel
theorem dX8_thief_89 : decode cX8_thief 89 = .ok (.istore_n 3, 1) := by decide +kernel
theorem dX8_thief_90 : decode cX8_thief 90 = .ok (.iconst 0, 1) := by decide +kernel
theorem dX8_thief_91 : decode cX8_thief 91 = .ok (.istore 4, 2) := by decide +kernel
theorem dX8_thief_93 : decode cX8_thief 93 = .ok (.iload 4, 2) := by decide +kernel
theorem dX8_thief_95 : decode cX8_thief 95 = .ok (.bipush 12, 2) := by decide +kernel
theorem dX8_thief_97 : decode cX8_thief 97 = .ok (.if_icmp .ge 112, 3) := by decide +kernel
theorem dX8_thief_100 : decode cX8_thief 100 = .ok (.aload_n 0, 1) := by decide +kernel
theorem dX8_thief_101 : decode cX8_thief 101 = .ok (.getfield 16, 3) := by decide +kernel
theorem dX8_thief_104 : decode cX8_thief 104 = .ok (.iconst 5, 1) := by decide +kernel
theorem dX8_thief_105 : decode cX8_thief 105 = .ok (.iload 4, 2) := by decide +kernel
theorem dX8_thief_107 : decode cX8_thief 107 = .ok (.imul, 1) := by decide +kernel
theorem dX8_thief_108 : decode cX8_thief 108 = .ok (.iconst 3, 1) := by decide +kernel
theorem dX8_thief_109 : decode cX8_thief 109 = .ok (.iadd, 1) := by decide +kernel
theorem dX8_thief_110 : decode cX8_thief 110 = .ok (.iaload, 1) := by decide +kernel
theorem dX8_thief_111 : decode cX8_thief 111 = .ok (.istore 5, 2) := by decide +kernel
theorem dX8_thief_113 : decode cX8_thief 113 = .ok (.aload_n 0, 1) := by decide +kernel
theorem dX8_thief_114 : decode cX8_thief 114 = .ok (.iload 4, 2) := by decide +kernel
theorem dX8_thief_116 : decode cX8_thief 116 = .ok (.iload 5, 2) := by decide +kernel
theorem dX8_thief_118 : decode cX8_thief 118 = .ok (.iconst (-1), 1) := by decide +kernel
theorem dX8_thief_119 : decode cX8_thief 119 = .ok (.invokevirtual 348, 3) := by decide +kernel
theorem dX8_thief_122 : decode cX8_thief 122 = .ok (.iconst 0, 1) := by decide +kernel
theorem dX8_thief_123 : decode cX8_thief 123 = .ok (.istore 6, 2) := by decide +kernel
theorem dX8_thief_125 : decode cX8_thief 125 = .ok (.iload 6, 2) := by decide +kernel
theorem dX8_thief_127 : decode cX8_thief 127 = .ok (.bipush 8, 2) := by decide +kernel
theorem dX8_thief_129 : decode cX8_thief 129 = .ok (.if_icmp .ge 65, 3) := by decide +kernel
theorem dX8_thief_132 : decode cX8_thief 132 = .ok (.iload 6, 2) := by decide +kernel
theorem dX8_thief_134 : decode cX8_thief 134 = .ok (.iload 5, 2) := by decide +kernel
theorem dX8_thief_136 : decode cX8_thief 136 = .ok (.if_icmp .ne 6, 3) := by decide +kernel
theorem dX8_thief_139 : decode cX8_thief 139 = .ok (.goto 49, 3) := by decide +kernel
theorem dX8_thief_142 : decode cX8_thief 142 = .ok (.aload_n 0, 1) := by decide +kernel
theorem dX8_thief_143 : decode cX8_thief 143 = .ok (.iload 4, 2) := by decide +kernel
theorem dX8_thief_145 : decode cX8_thief 145 = .ok (.iload 6, 2) := by decide +kernel
theorem dX8_thief_147 : decode cX8_thief 147 = .ok (.iconst 1, 1) := by decide +kernel
theorem dX8_thief_148 : decode cX8_thief 148 = .ok (.invokevirtual 348, 3) := by decide +kernel
theorem dX8_thief_151 : decode cX8_thief 151 = .ok (.aload_n 0, 1) := by decide +kernel
theorem dX8_thief_152 : decode cX8_thief 152 = .ok (.invokevirtual 351, 3) := by decide +kernel
theorem dX8_thief_155 : decode cX8_thief 155 = .ok (.ifCond .eq 24, 3) := by decide +kernel
theorem dX8_thief_158 : decode cX8_thief 158 = .ok (.iload_n 2, 1) := by decide +kernel
theorem dX8_thief_159 : decode cX8_thief 159 = .ok (.ifCond .ne 14, 3) := by decide +kernel
theorem dX8_thief_162 : decode cX8_thief 162 = .ok (.bipush 8, 2) := by decide +kernel
theorem dX8_thief_164 : decode cX8_thief 164 = .ok (.iload 4, 2) := by decide +kernel
theorem dX8_thief_166 : decode cX8_thief 166 = .ok (.imul, 1) := by decide +kernel
theorem dX8_thief_167 : decode cX8_thief 167 = .ok (.iload 6, 2) := by decide +kernel
theorem dX8_thief_169 : decode cX8_thief 169 = .ok (.iadd, 1) := by decide +kernel
theorem dX8_thief_170 : decode cX8_thief 170 = .ok (.goto 4, 3) := by decide +kernel
theorem dX8_thief_173 : decode cX8_thief 173 = .ok (.iload_n 3, 1) := by decide +kernel
theorem dX8_thief_174 : decode cX8_thief 174 = .ok (.istore_n 3, 1) := by decide +kernel
theorem dX8_thief_175 : decode cX8_thief 175 = .ok (.iload_n 2, 1) := by decide +kernel
theorem dX8_thief_176 : decode cX8_thief 176 = .ok (.iconst 1, 1) := by decide +kernel
theorem dX8_thief_177 : decode cX8_thief 177 = .ok (.iadd, 1) := by decide +kernel
theorem dX8_thief_178 : decode cX8_thief 178 = .ok (.istore_n 2, 1) := by decide +kernel
theorem dX8_thief_179 : decode cX8_thief 179 = .ok (.aload_n 0, 1) := by decide +kernel
theorem dX8_thief_180 : decode cX8_thief 180 = .ok (.iload 4, 2) := by decide +kernel
theorem dX8_thief_182 : decode cX8_thief 182 = .ok (.iload 6, 2) := by decide +kernel
theorem dX8_thief_184 : decode cX8_thief 184 = .ok (.iconst (-1), 1) := by decide +kernel
theorem dX8_thief_185 : decode cX8_thief 185 = .ok (.invokevirtual 348, 3) := by decide +kernel
theorem dX8_thief_188 : decode cX8_thief 188 = .ok (.iinc 6 1, 3) := by decide +kernel
theorem dX8_thief_191 : decode cX8_thief 191 = .ok (.goto (-66), 3) := by decide +kernel
theorem dX8_thief_194 : decode cX8_thief 194 = .ok (.aload_n 0, 1) := by decide +kernel
theorem dX8_thief_195 : decode cX8_thief 195 = .ok (.iload 4, 2) := by decide +kernel
theorem dX8_thief_197 : decode cX8_thief 197 = .ok (.iload 5, 2) := by decide +kernel
theorem dX8_thief_199 : decode cX8_thief 199 = .ok (.iconst 1, 1) := by decide +kernel
theorem dX8_thief_200 : decode cX8_thief 200 = .ok (.invokevirtual 348, 3) := by decide +kernel
theorem dX8_thief_203 : decode cX8_thief 203 = .ok (.iinc 4 1, 3) := by decide +kernel
theorem dX8_thief_206 : decode cX8_thief 206 = .ok (.goto (-113), 3) := by decide +kernel
theorem dX8_thief_209 : decode cX8_thief 209 = .ok (.iload_n 1, 1) := by decide +kernel
theorem dX8_thief_210 : decode cX8_thief 210 = .ok (.ifCond .ne 5, 3) := by decide +kernel
theorem dX8_thief_213 : decode cX8_thief 213 = .ok (.iload_n 2, 1) := by decide +kernel
theorem dX8_thief_214 : decode cX8_thief 214 = .ok (.ireturn, 1) := by decide +kernel
theorem dX8_thief_215 : decode cX8_thief 215 = .ok (.iload_n 3, 1) := by decide +kernel
theorem dX8_thief_216 : decode cX8_thief 216 = .ok (.iconst (-1), 1) := by decide +kernel
theorem dX8_thief_217 : decode cX8_thief 217 = .ok (.if_icmp .ne 7, 3) := by decide +kernel
theorem dX8_thief_220 : decode cX8_thief 220 = .ok (.iconst (-1), 1) := by decide +kernel
theorem dX8_thief_221 : decode cX8_thief 221 = .ok (.goto 19, 3) := by decide +kernel
theorem dX8_thief_224 : decode cX8_thief 224 = .ok (.iload_n 1, 1) := by decide +kernel
theorem dX8_thief_225 : decode cX8_thief 225 = .ok (.iconst 1, 1) := by decide +kernel
theorem dX8_thief_226 : decode cX8_thief 226 = .ok (.if_icmp .ne 10, 3) := by decide +kernel
theorem dX8_thief_229 : decode cX8_thief 229 = .ok (.iload_n 3, 1) := by decide +kernel
theorem dX8_thief_230 : decode cX8_thief 230 = .ok (.bipush 8, 2) := by decide +kernel
theorem dX8_thief_232 : decode cX8_thief 232 = .ok (.idiv, 1) := by decide +kernel
theorem dX8_thief_233 : decode cX8_thief 233 = .ok (.goto 7, 3) := by decide +kernel
theorem dX8_thief_236 : decode cX8_thief 236 = .ok (.iload_n 3, 1) := by decide +kernel
theorem dX8_thief_237 : decode cX8_thief 237 = .ok (.bipush 8, 2) := by decide +kernel
theorem dX8_thief_239 : decode cX8_thief 239 = .ok (.irem, 1) := by decide +kernel
theorem dX8_thief_240 : decode cX8_thief 240 = .ok (.ireturn, 1) := by decide +kernel
set_option maxRecDepth 20000 in
theorem wX8_thief_188 {p : Program} {l : Launch} {e : Env} {s : State} {m : MethodId} {args : Array Value} {below : List Frame} {meth : Method} {c : Code} {Z : XG} {r : Int32} {S' : Mem} (E : XE p s m args meth c cX8_thief 7 RX8 (some .int) mL Z) (k0 : Mem → Int32 → Int32 → Int32 → Int32 → O)  (k1 : Mem → Int32 → Int32 → Int32 → Int32 → Int32 → Int32 → O)  (hk0 : ∀ (S : Mem) (x1 x2 x3 x4 : Int32), k0 S x1 x2 x3 x4 = some (r, S') → WN p l e { frames := 5, cells := 0, slots := 0, locals := 123 } s m args below meth c mL Z (XQ mL Z r S') S 93 7 [(0, .ref (Z.2.1 0)), (1, .int x1), (2, .int x2), (3, .int x3), (4, .int x4)] []) (hk1 : ∀ (S : Mem) (x1 x2 x3 x4 x5 x6 : Int32), k1 S x1 x2 x3 x4 x5 x6 = some (r, S') → WN p l e { frames := 5, cells := 0, slots := 0, locals := 123 } s m args below meth c mL Z (XQ mL Z r S') S 125 7 [(0, .ref (Z.2.1 0)), (1, .int x1), (2, .int x2), (3, .int x3), (4, .int x4), (5, .int x5), (6, .int x6)] []) : ∀ (S : Mem) (x1 x2 x3 x4 x5 x6 : Int32), fX8_thief_188 k0 k1 S x1 x2 x3 x4 x5 x6 = some (r, S') → WN p l e { frames := 5, cells := 0, slots := 0, locals := 123 } s m args below meth c mL Z (XQ mL Z r S') S 188 7 [(0, .ref (Z.2.1 0)), (1, .int x1), (2, .int x2), (3, .int x3), (4, .int x4), (5, .int x5), (6, .int x6)] [] := by
  obtain ⟨hx, hb, -, -, -, -, -, -, -, hQ⟩ := id E
  intro S x1 x2 x3 x4 x5 x6 h H locs ls X hl
  unfold fX8_thief_188 at h
  refine lv_iinc (v := (x6 + (1 : Int32))) (lv' := [(6, .int (x6 + (1 : Int32))), (0, .ref (Z.2.1 0)), (1, .int x1), (2, .int x2), (3, .int x3), (4, .int x4), (5, .int x5)]) hx hb dX8_thief_188 hl (k := 6) rfl rfl (by decide) rfl (fun ls hl => ?_)
  refine lv_goto (tgt := 125) hx hb dX8_thief_191 (by decide) ?_
  exact hk1 S x1 x2 x3 x4 x5 (x6 + (1 : Int32)) h _ _ _ X (lv_sub hl [1, 2, 3, 4, 5, 6, 0] rfl)
set_option maxRecDepth 20000 in
theorem wX8_thief_179 {p : Program} {l : Launch} {e : Env} {s : State} {m : MethodId} {args : Array Value} {below : List Frame} {meth : Method} {c : Code} {Z : XG} {r : Int32} {S' : Mem} (E : XE p s m args meth c cX8_thief 7 RX8 (some .int) mL Z) (k0 : Mem → Int32 → Int32 → Int32 → Int32 → O)  (k1 : Mem → Int32 → Int32 → Int32 → Int32 → Int32 → Int32 → O)  (hk0 : ∀ (S : Mem) (x1 x2 x3 x4 : Int32), k0 S x1 x2 x3 x4 = some (r, S') → WN p l e { frames := 5, cells := 0, slots := 0, locals := 123 } s m args below meth c mL Z (XQ mL Z r S') S 93 7 [(0, .ref (Z.2.1 0)), (1, .int x1), (2, .int x2), (3, .int x3), (4, .int x4)] []) (hk1 : ∀ (S : Mem) (x1 x2 x3 x4 x5 x6 : Int32), k1 S x1 x2 x3 x4 x5 x6 = some (r, S') → WN p l e { frames := 5, cells := 0, slots := 0, locals := 123 } s m args below meth c mL Z (XQ mL Z r S') S 125 7 [(0, .ref (Z.2.1 0)), (1, .int x1), (2, .int x2), (3, .int x3), (4, .int x4), (5, .int x5), (6, .int x6)] []) : ∀ (S : Mem) (x1 x2 x3 x4 x5 x6 : Int32), fX8_thief_179 k0 k1 S x1 x2 x3 x4 x5 x6 = some (r, S') → WN p l e { frames := 5, cells := 0, slots := 0, locals := 123 } s m args below meth c mL Z (XQ mL Z r S') S 179 7 [(0, .ref (Z.2.1 0)), (1, .int x1), (2, .int x2), (3, .int x3), (4, .int x4), (5, .int x5), (6, .int x6)] [] := by
  obtain ⟨hx, hb, -, -, -, -, -, -, -, hQ⟩ := id E
  intro S x1 x2 x3 x4 x5 x6 h H locs ls X hl
  unfold fX8_thief_179 at h
  refine lv_aload_n hx hb dX8_thief_179 rfl (lv_at hl 0 rfl) ?_
  refine lv_iload hx hb dX8_thief_180 (lv_at hl 4 rfl) ?_
  refine lv_iload hx hb dX8_thief_182 (lv_at hl 6 rfl) ?_
  refine lv_iconst (v := (-1 : Int32)) hx hb dX8_thief_184 (by decide) ?_
  obtain ⟨r_1, S_2, hr_1, h⟩ := bnd_s h
  refine x_callVv E X cwX8_348 (mX8_addsBurns l Z hQ  x4 x6 (-1 : Int32) hr_1) rfl rfl rfl rfl hl.1 rfl dX8_thief_185 (fun H locs X => ?_)
  exact wX8_thief_188 E k0 k1 hk0 hk1 S_2 x1 x2 x3 x4 x5 x6 h _ _ _ X hl
set_option maxRecDepth 20000 in
theorem wX8_thief_174 {p : Program} {l : Launch} {e : Env} {s : State} {m : MethodId} {args : Array Value} {below : List Frame} {meth : Method} {c : Code} {Z : XG} {r : Int32} {S' : Mem} (E : XE p s m args meth c cX8_thief 7 RX8 (some .int) mL Z) (k0 : Mem → Int32 → Int32 → Int32 → Int32 → O)  (k1 : Mem → Int32 → Int32 → Int32 → Int32 → Int32 → Int32 → O)  (hk0 : ∀ (S : Mem) (x1 x2 x3 x4 : Int32), k0 S x1 x2 x3 x4 = some (r, S') → WN p l e { frames := 5, cells := 0, slots := 0, locals := 123 } s m args below meth c mL Z (XQ mL Z r S') S 93 7 [(0, .ref (Z.2.1 0)), (1, .int x1), (2, .int x2), (3, .int x3), (4, .int x4)] []) (hk1 : ∀ (S : Mem) (x1 x2 x3 x4 x5 x6 : Int32), k1 S x1 x2 x3 x4 x5 x6 = some (r, S') → WN p l e { frames := 5, cells := 0, slots := 0, locals := 123 } s m args below meth c mL Z (XQ mL Z r S') S 125 7 [(0, .ref (Z.2.1 0)), (1, .int x1), (2, .int x2), (3, .int x3), (4, .int x4), (5, .int x5), (6, .int x6)] []) : ∀ (S : Mem) (x1 x2 x4 x5 x6 s0 : Int32), fX8_thief_174 k0 k1 S x1 x2 x4 x5 x6 s0 = some (r, S') → WN p l e { frames := 5, cells := 0, slots := 0, locals := 123 } s m args below meth c mL Z (XQ mL Z r S') S 174 7 [(0, .ref (Z.2.1 0)), (1, .int x1), (2, .int x2), (4, .int x4), (5, .int x5), (6, .int x6)] [.int s0] := by
  obtain ⟨hx, hb, -, -, -, -, -, -, -, hQ⟩ := id E
  intro S x1 x2 x4 x5 x6 s0 h H locs ls X hl
  unfold fX8_thief_174 at h
  refine lv_istore_n (lv' := [(3, .int s0), (0, .ref (Z.2.1 0)), (1, .int x1), (2, .int x2), (4, .int x4), (5, .int x5), (6, .int x6)]) hx hb dX8_thief_174 rfl hl (by decide) rfl (fun ls hl => ?_)
  refine lv_iload_n hx hb dX8_thief_175 rfl (lv_at hl 3 rfl) ?_
  refine lv_iconst (v := (1 : Int32)) hx hb dX8_thief_176 (by decide) ?_
  refine lv_iadd hx hb dX8_thief_177 ?_
  obtain ⟨x2_1, ex2_1, h⟩ := lti_s h
  refine lv_nm ex2_1 ?_
  refine lv_istore_n (lv' := [(2, .int x2_1), (3, .int s0), (0, .ref (Z.2.1 0)), (1, .int x1), (4, .int x4), (5, .int x5), (6, .int x6)]) hx hb dX8_thief_178 rfl hl (by decide) rfl (fun ls hl => ?_)
  exact wX8_thief_179 E k0 k1 hk0 hk1 S x1 x2_1 s0 x4 x5 x6 h _ _ _ X (lv_sub hl [2, 3, 0, 1, 4, 5, 6] rfl)
set_option maxRecDepth 20000 in
theorem wX8_thief_125_b {p : Program} {l : Launch} {e : Env} {s : State} {m : MethodId} {args : Array Value} {below : List Frame} {meth : Method} {c : Code} {Z : XG} {r : Int32} {S' : Mem} (E : XE p s m args meth c cX8_thief 7 RX8 (some .int) mL Z) (k0 : Mem → Int32 → Int32 → Int32 → Int32 → O)  (k1 : Mem → Int32 → Int32 → Int32 → Int32 → Int32 → Int32 → O)  (hk0 : ∀ (S : Mem) (x1 x2 x3 x4 : Int32), k0 S x1 x2 x3 x4 = some (r, S') → WN p l e { frames := 5, cells := 0, slots := 0, locals := 123 } s m args below meth c mL Z (XQ mL Z r S') S 93 7 [(0, .ref (Z.2.1 0)), (1, .int x1), (2, .int x2), (3, .int x3), (4, .int x4)] []) (hk1 : ∀ (S : Mem) (x1 x2 x3 x4 x5 x6 : Int32), k1 S x1 x2 x3 x4 x5 x6 = some (r, S') → WN p l e { frames := 5, cells := 0, slots := 0, locals := 123 } s m args below meth c mL Z (XQ mL Z r S') S 125 7 [(0, .ref (Z.2.1 0)), (1, .int x1), (2, .int x2), (3, .int x3), (4, .int x4), (5, .int x5), (6, .int x6)] []) : ∀ (S : Mem) (x1 x2 x3 x4 x5 x6 : Int32), fX8_thief_125_b k0 k1 S x1 x2 x3 x4 x5 x6 = some (r, S') → WN p l e { frames := 5, cells := 0, slots := 0, locals := 123 } s m args below meth c mL Z (XQ mL Z r S') S 125 7 [(0, .ref (Z.2.1 0)), (1, .int x1), (2, .int x2), (3, .int x3), (4, .int x4), (5, .int x5), (6, .int x6)] [] := by
  obtain ⟨hx, hb, -, -, -, -, -, -, -, hQ⟩ := id E
  intro S x1 x2 x3 x4 x5 x6 h H locs ls X hl
  unfold fX8_thief_125_b at h
  refine lv_iload hx hb dX8_thief_125 (lv_at hl 6 rfl) ?_
  refine lv_bipush (v := (8 : Int32)) hx hb dX8_thief_127 (by decide) ?_
  refine lv_icmp_ge (tgt := 194) hx hb dX8_thief_129 (by decide) (fun c_1 => ?_) (fun c_1 => ?_)
  · have h := if_t c_1 h
    refine lv_aload_n hx hb dX8_thief_194 rfl (lv_at hl 0 rfl) ?_
    refine lv_iload hx hb dX8_thief_195 (lv_at hl 4 rfl) ?_
    refine lv_iload hx hb dX8_thief_197 (lv_at hl 5 rfl) ?_
    refine lv_iconst (v := (1 : Int32)) hx hb dX8_thief_199 (by decide) ?_
    obtain ⟨r_2, S_3, hr_2, h⟩ := bnd_s h
    refine x_callVv E X cwX8_348 (mX8_addsBurns l Z hQ  x4 x5 (1 : Int32) hr_2) rfl rfl rfl rfl hl.1 rfl dX8_thief_200 (fun H locs X => ?_)
    refine lv_iinc (v := (x4 + (1 : Int32))) (lv' := [(4, .int (x4 + (1 : Int32))), (0, .ref (Z.2.1 0)), (1, .int x1), (2, .int x2), (3, .int x3), (5, .int x5), (6, .int x6)]) hx hb dX8_thief_203 hl (k := 4) rfl rfl (by decide) rfl (fun ls hl => ?_)
    refine lv_goto (tgt := 93) hx hb dX8_thief_206 (by decide) ?_
    exact hk0 S_3 x1 x2 x3 (x4 + (1 : Int32)) h _ _ _ X (lv_sub hl [1, 2, 3, 4, 0] rfl)
  · have h := if_f c_1 h
    refine lv_iload hx hb dX8_thief_132 (lv_at hl 6 rfl) ?_
    refine lv_iload hx hb dX8_thief_134 (lv_at hl 5 rfl) ?_
    refine lv_icmp_ne (tgt := 142) hx hb dX8_thief_136 (by decide) (fun c_4 => ?_) (fun c_4 => ?_)
    · have h := if_f c_4 h
      refine lv_aload_n hx hb dX8_thief_142 rfl (lv_at hl 0 rfl) ?_
      refine lv_iload hx hb dX8_thief_143 (lv_at hl 4 rfl) ?_
      refine lv_iload hx hb dX8_thief_145 (lv_at hl 6 rfl) ?_
      refine lv_iconst (v := (1 : Int32)) hx hb dX8_thief_147 (by decide) ?_
      obtain ⟨r_5, S_6, hr_5, h⟩ := bnd_s h
      refine x_callVv E X cwX8_348 (mX8_addsBurns l Z hQ  x4 x6 (1 : Int32) hr_5) rfl rfl rfl rfl hl.1 rfl dX8_thief_148 (fun H locs X => ?_)
      refine lv_aload_n hx hb dX8_thief_151 rfl (lv_at hl 0 rfl) ?_
      obtain ⟨r_7, S_8, hr_7, h⟩ := bnd_s h
      refine x_callV E X cwX8_351 (mX8_areAsTold l Z hQ   hr_7) rfl rfl rfl rfl hl.1 rfl dX8_thief_152 (fun H locs X => ?_)
      refine lv_if_eq (tgt := 179) hx hb dX8_thief_155 (by decide) (fun c_9 => ?_) (fun c_9 => ?_)
      · have h := if_t c_9 h
        exact wX8_thief_179 E k0 k1 hk0 hk1 S_8 x1 x2 x3 x4 x5 x6 h _ _ _ X hl
      · have h := if_f c_9 h
        refine lv_iload_n hx hb dX8_thief_158 rfl (lv_at hl 2 rfl) ?_
        refine lv_if_ne (tgt := 173) hx hb dX8_thief_159 (by decide) (fun c_10 => ?_) (fun c_10 => ?_)
        · have h := if_f c_10 h
          refine lv_iload_n hx hb dX8_thief_173 rfl (lv_at hl 3 rfl) ?_
          exact wX8_thief_174 E k0 k1 hk0 hk1 S_8 x1 x2 x4 x5 x6 x3 h _ _ _ X (lv_sub hl [0, 1, 2, 4, 5, 6] rfl)
        · have h := if_t c_10 h
          refine lv_bipush (v := (8 : Int32)) hx hb dX8_thief_162 (by decide) ?_
          refine lv_iload hx hb dX8_thief_164 (lv_at hl 4 rfl) ?_
          refine lv_imul hx hb dX8_thief_166 ?_
          refine lv_iload hx hb dX8_thief_167 (lv_at hl 6 rfl) ?_
          refine lv_iadd hx hb dX8_thief_169 ?_
          refine lv_goto (tgt := 174) hx hb dX8_thief_170 (by decide) ?_
          exact wX8_thief_174 E k0 k1 hk0 hk1 S_8 x1 x2 x4 x5 x6 (((8 : Int32) * x4) + x6) h _ _ _ X (lv_sub hl [0, 1, 2, 4, 5, 6] rfl)
    · have h := if_t c_4 h
      refine lv_goto (tgt := 188) hx hb dX8_thief_139 (by decide) ?_
      exact wX8_thief_188 E k0 k1 hk0 hk1 S x1 x2 x3 x4 x5 x6 h _ _ _ X hl
theorem wX8_thief_125 {p : Program} {l : Launch} {e : Env} {s : State} {m : MethodId} {args : Array Value} {below : List Frame} {meth : Method} {c : Code} {Z : XG} {r : Int32} {S' : Mem} (E : XE p s m args meth c cX8_thief 7 RX8 (some .int) mL Z) (k0 : Mem → Int32 → Int32 → Int32 → Int32 → O)  (hk0 : ∀ (S : Mem) (x1 x2 x3 x4 : Int32), k0 S x1 x2 x3 x4 = some (r, S') → WN p l e { frames := 5, cells := 0, slots := 0, locals := 123 } s m args below meth c mL Z (XQ mL Z r S') S 93 7 [(0, .ref (Z.2.1 0)), (1, .int x1), (2, .int x2), (3, .int x3), (4, .int x4)] []) : ∀ (n : Nat) (S : Mem) (x1 x2 x3 x4 x5 x6 : Int32), fX8_thief_125 k0 n S x1 x2 x3 x4 x5 x6 = some (r, S') → WN p l e { frames := 5, cells := 0, slots := 0, locals := 123 } s m args below meth c mL Z (XQ mL Z r S') S 125 7 [(0, .ref (Z.2.1 0)), (1, .int x1), (2, .int x2), (3, .int x3), (4, .int x4), (5, .int x5), (6, .int x6)] [] := by
  intro n
  induction n with
  | zero => intro S x1 x2 x3 x4 x5 x6 h; exact absurd (show (none : O) = some _ from h) (by simp)
  | succ n ih => intro S x1 x2 x3 x4 x5 x6 h; exact wX8_thief_125_b E k0 (fX8_thief_125 k0 n) hk0 ih S x1 x2 x3 x4 x5 x6 h
set_option maxRecDepth 20000 in
theorem wX8_thief_93_b {p : Program} {l : Launch} {e : Env} {s : State} {m : MethodId} {args : Array Value} {below : List Frame} {meth : Method} {c : Code} {Z : XG} {r : Int32} {S' : Mem} (E : XE p s m args meth c cX8_thief 7 RX8 (some .int) mL Z) (k0 : Mem → Int32 → Int32 → Int32 → Int32 → O)  (hk0 : ∀ (S : Mem) (x1 x2 x3 x4 : Int32), k0 S x1 x2 x3 x4 = some (r, S') → WN p l e { frames := 5, cells := 0, slots := 0, locals := 123 } s m args below meth c mL Z (XQ mL Z r S') S 93 7 [(0, .ref (Z.2.1 0)), (1, .int x1), (2, .int x2), (3, .int x3), (4, .int x4)] []) : ∀ (S : Mem) (x1 x2 x3 x4 : Int32), fX8_thief_93_b k0 S x1 x2 x3 x4 = some (r, S') → WN p l e { frames := 5, cells := 0, slots := 0, locals := 123 } s m args below meth c mL Z (XQ mL Z r S') S 93 7 [(0, .ref (Z.2.1 0)), (1, .int x1), (2, .int x2), (3, .int x3), (4, .int x4)] [] := by
  obtain ⟨hx, hb, -, -, -, -, -, -, -, hQ⟩ := id E
  intro S x1 x2 x3 x4 h H locs ls X hl
  unfold fX8_thief_93_b at h
  refine lv_iload hx hb dX8_thief_93 (lv_at hl 4 rfl) ?_
  refine lv_bipush (v := (12 : Int32)) hx hb dX8_thief_95 (by decide) ?_
  refine lv_icmp_ge (tgt := 209) hx hb dX8_thief_97 (by decide) (fun c_1 => ?_) (fun c_1 => ?_)
  · have h := if_t c_1 h
    refine lv_iload_n hx hb dX8_thief_209 rfl (lv_at hl 1 rfl) ?_
    refine lv_if_ne (tgt := 215) hx hb dX8_thief_210 (by decide) (fun c_2 => ?_) (fun c_2 => ?_)
    · have h := if_f c_2 h
      refine lv_iload_n hx hb dX8_thief_215 rfl (lv_at hl 3 rfl) ?_
      refine lv_iconst (v := (-1 : Int32)) hx hb dX8_thief_216 (by decide) ?_
      refine lv_icmp_ne (tgt := 224) hx hb dX8_thief_217 (by decide) (fun c_3 => ?_) (fun c_3 => ?_)
      · have h := if_f c_3 h
        refine lv_iload_n hx hb dX8_thief_224 rfl (lv_at hl 1 rfl) ?_
        refine lv_iconst (v := (1 : Int32)) hx hb dX8_thief_225 (by decide) ?_
        refine lv_icmp_ne (tgt := 236) hx hb dX8_thief_226 (by decide) (fun c_4 => ?_) (fun c_4 => ?_)
        · have h := if_f c_4 h
          refine lv_iload_n hx hb dX8_thief_236 rfl (lv_at hl 3 rfl) ?_
          refine lv_bipush (v := (8 : Int32)) hx hb dX8_thief_237 (by decide) ?_
          refine lv_irem hx hb dX8_thief_239 (by decide) ?_
          refine lv_nm (y := (irem x3 (8 : Int32))) rfl ?_
          exact x_iret E X h dX8_thief_240
        · have h := if_t c_4 h
          refine lv_iload_n hx hb dX8_thief_229 rfl (lv_at hl 3 rfl) ?_
          refine lv_bipush (v := (8 : Int32)) hx hb dX8_thief_230 (by decide) ?_
          refine lv_idiv hx hb dX8_thief_232 (by decide) ?_
          refine lv_goto (tgt := 240) hx hb dX8_thief_233 (by decide) ?_
          exact x_iret E X h dX8_thief_240
      · have h := if_t c_3 h
        refine lv_iconst (v := (-1 : Int32)) hx hb dX8_thief_220 (by decide) ?_
        refine lv_goto (tgt := 240) hx hb dX8_thief_221 (by decide) ?_
        exact x_iret E X h dX8_thief_240
    · have h := if_t c_2 h
      refine lv_iload_n hx hb dX8_thief_213 rfl (lv_at hl 2 rfl) ?_
      exact x_iret E X h dX8_thief_214
  · have h := if_f c_1 h
    refine lv_aload_n hx hb dX8_thief_100 rfl (lv_at hl 0 rfl) ?_
    refine x_getr E X ffX8_16 rfl rfl dX8_thief_101 ?_
    refine lv_iconst (v := (5 : Int32)) hx hb dX8_thief_104 (by decide) ?_
    refine lv_iload hx hb dX8_thief_105 (lv_at hl 4 rfl) ?_
    refine lv_imul hx hb dX8_thief_107 ?_
    refine lv_iconst (v := (3 : Int32)) hx hb dX8_thief_108 (by decide) ?_
    refine lv_iadd hx hb dX8_thief_109 ?_
    obtain ⟨g_5, h⟩ := gd_s h
    refine x_iald E X rfl g_5 dX8_thief_110 ?_
    obtain ⟨x5_6, ex5_6, h⟩ := lti_s h
    refine lv_nm ex5_6 ?_
    refine lv_istore (lv' := [(5, .int x5_6), (0, .ref (Z.2.1 0)), (1, .int x1), (2, .int x2), (3, .int x3), (4, .int x4)]) hx hb dX8_thief_111 hl (by decide) rfl (fun ls hl => ?_)
    refine lv_aload_n hx hb dX8_thief_113 rfl (lv_at hl 1 rfl) ?_
    refine lv_iload hx hb dX8_thief_114 (lv_at hl 5 rfl) ?_
    refine lv_iload hx hb dX8_thief_116 (lv_at hl 0 rfl) ?_
    refine lv_iconst (v := (-1 : Int32)) hx hb dX8_thief_118 (by decide) ?_
    obtain ⟨r_7, S_8, hr_7, h⟩ := bnd_s h
    refine x_callVv E X cwX8_348 (mX8_addsBurns l Z hQ  x4 x5_6 (-1 : Int32) hr_7) rfl rfl rfl rfl hl.1 rfl dX8_thief_119 (fun H locs X => ?_)
    refine lv_iconst (v := (0 : Int32)) hx hb dX8_thief_122 (by decide) ?_
    refine lv_istore (lv' := [(6, .int (0 : Int32)), (5, .int x5_6), (0, .ref (Z.2.1 0)), (1, .int x1), (2, .int x2), (3, .int x3), (4, .int x4)]) hx hb dX8_thief_123 hl (by decide) rfl (fun ls hl => ?_)
    exact wX8_thief_125 E k0 hk0 FU S_8 x1 x2 x3 x4 x5_6 (0 : Int32) h _ _ _ X (lv_sub hl [2, 3, 4, 5, 6, 1, 0] rfl)
theorem wX8_thief_93 {p : Program} {l : Launch} {e : Env} {s : State} {m : MethodId} {args : Array Value} {below : List Frame} {meth : Method} {c : Code} {Z : XG} {r : Int32} {S' : Mem} (E : XE p s m args meth c cX8_thief 7 RX8 (some .int) mL Z) : ∀ (n : Nat) (S : Mem) (x1 x2 x3 x4 : Int32), fX8_thief_93 n S x1 x2 x3 x4 = some (r, S') → WN p l e { frames := 5, cells := 0, slots := 0, locals := 123 } s m args below meth c mL Z (XQ mL Z r S') S 93 7 [(0, .ref (Z.2.1 0)), (1, .int x1), (2, .int x2), (3, .int x3), (4, .int x4)] [] := by
  intro n
  induction n with
  | zero => intro S x1 x2 x3 x4 h; exact absurd (show (none : O) = some _ from h) (by simp)
  | succ n ih => intro S x1 x2 x3 x4 h; exact wX8_thief_93_b E (fX8_thief_93 n) ih S x1 x2 x3 x4 h
set_option maxRecDepth 20000 in
theorem wX8_thief_40_b {p : Program} {l : Launch} {e : Env} {s : State} {m : MethodId} {args : Array Value} {below : List Frame} {meth : Method} {c : Code} {Z : XG} {r : Int32} {S' : Mem} (E : XE p s m args meth c cX8_thief 7 RX8 (some .int) mL Z) (k0 : Mem → Int32 → Int32 → O)  (hk0 : ∀ (S : Mem) (x1 x2 : Int32), k0 S x1 x2 = some (r, S') → WN p l e { frames := 5, cells := 0, slots := 0, locals := 123 } s m args below meth c mL Z (XQ mL Z r S') S 40 7 [(0, .ref (Z.2.1 0)), (1, .int x1), (2, .int x2)] []) : ∀ (S : Mem) (x1 x2 : Int32), fX8_thief_40_b k0 S x1 x2 = some (r, S') → WN p l e { frames := 5, cells := 0, slots := 0, locals := 123 } s m args below meth c mL Z (XQ mL Z r S') S 40 7 [(0, .ref (Z.2.1 0)), (1, .int x1), (2, .int x2)] [] := by
  obtain ⟨hx, hb, -, -, -, -, -, -, -, hQ⟩ := id E
  intro S x1 x2 h H locs ls X hl
  unfold fX8_thief_40_b at h
  refine lv_iload_n hx hb dX8_thief_40 rfl (lv_at hl 2 rfl) ?_
  refine lv_bipush (v := (12 : Int32)) hx hb dX8_thief_41 (by decide) ?_
  refine lv_icmp_ge (tgt := 68) hx hb dX8_thief_43 (by decide) (fun c_1 => ?_) (fun c_1 => ?_)
  · have h := if_t c_1 h
    refine lv_iload_n hx hb dX8_thief_68 rfl (lv_at hl 1 rfl) ?_
    refine lv_iconst (v := (3 : Int32)) hx hb dX8_thief_69 (by decide) ?_
    refine lv_icmp_ne (tgt := 86) hx hb dX8_thief_70 (by decide) (fun c_2 => ?_) (fun c_2 => ?_)
    · have h := if_f c_2 h
      refine lv_iconst (v := (0 : Int32)) hx hb dX8_thief_86 (by decide) ?_
      refine lv_istore_n (lv' := [(2, .int (0 : Int32)), (0, .ref (Z.2.1 0)), (1, .int x1)]) hx hb dX8_thief_87 rfl hl (by decide) rfl (fun ls hl => ?_)
      refine lv_iconst (v := (-1 : Int32)) hx hb dX8_thief_88 (by decide) ?_
      refine lv_istore_n (lv' := [(3, .int (-1 : Int32)), (2, .int (0 : Int32)), (0, .ref (Z.2.1 0)), (1, .int x1)]) hx hb dX8_thief_89 rfl hl (by decide) rfl (fun ls hl => ?_)
      refine lv_iconst (v := (0 : Int32)) hx hb dX8_thief_90 (by decide) ?_
      refine lv_istore (lv' := [(4, .int (0 : Int32)), (3, .int (-1 : Int32)), (2, .int (0 : Int32)), (0, .ref (Z.2.1 0)), (1, .int x1)]) hx hb dX8_thief_91 hl (by decide) rfl (fun ls hl => ?_)
      exact wX8_thief_93 E   FU S x1 (0 : Int32) (-1 : Int32) (0 : Int32) h _ _ _ X (lv_sub hl [3, 4, 2, 1, 0] rfl)
    · have h := if_t c_2 h
      refine lv_aload_n hx hb dX8_thief_73 rfl (lv_at hl 0 rfl) ?_
      obtain ⟨r_3, S_4, hr_3, h⟩ := bnd_s h
      refine x_callV E X cwX8_351 (mX8_areAsTold l Z hQ   hr_3) rfl rfl rfl rfl hl.1 rfl dX8_thief_74 (fun H locs X => ?_)
      refine lv_if_eq (tgt := 84) hx hb dX8_thief_77 (by decide) (fun c_5 => ?_) (fun c_5 => ?_)
      · have h := if_t c_5 h
        refine lv_iconst (v := (0 : Int32)) hx hb dX8_thief_84 (by decide) ?_
        exact x_iret E X h dX8_thief_85
      · have h := if_f c_5 h
        refine lv_iconst (v := (1 : Int32)) hx hb dX8_thief_80 (by decide) ?_
        refine lv_goto (tgt := 85) hx hb dX8_thief_81 (by decide) ?_
        exact x_iret E X h dX8_thief_85
  · have h := if_f c_1 h
    refine lv_aload_n hx hb dX8_thief_46 rfl (lv_at hl 0 rfl) ?_
    refine lv_iload_n hx hb dX8_thief_47 rfl (lv_at hl 2 rfl) ?_
    refine lv_aload_n hx hb dX8_thief_48 rfl (lv_at hl 0 rfl) ?_
    refine x_getr E X ffX8_16 rfl rfl dX8_thief_49 ?_
    refine lv_iconst (v := (5 : Int32)) hx hb dX8_thief_52 (by decide) ?_
    refine lv_iload_n hx hb dX8_thief_53 rfl (lv_at hl 2 rfl) ?_
    refine lv_imul hx hb dX8_thief_54 ?_
    refine lv_iconst (v := (3 : Int32)) hx hb dX8_thief_55 (by decide) ?_
    refine lv_iadd hx hb dX8_thief_56 ?_
    obtain ⟨g_6, h⟩ := gd_s h
    refine x_iald E X rfl g_6 dX8_thief_57 ?_
    refine lv_iconst (v := (1 : Int32)) hx hb dX8_thief_58 (by decide) ?_
    obtain ⟨r_7, S_8, hr_7, h⟩ := bnd_s h
    refine x_callVv E X cwX8_348 (mX8_addsBurns l Z hQ  x2 (S 3 ((((5 : Int32) * x2) + (3 : Int32))).toNatClampNeg) (1 : Int32) hr_7) rfl rfl rfl rfl hl.1 rfl dX8_thief_59 (fun H locs X => ?_)
    refine lv_iinc (v := (x2 + (1 : Int32))) (lv' := [(2, .int (x2 + (1 : Int32))), (0, .ref (Z.2.1 0)), (1, .int x1)]) hx hb dX8_thief_62 hl (k := 2) rfl rfl (by decide) rfl (fun ls hl => ?_)
    refine lv_goto (tgt := 40) hx hb dX8_thief_65 (by decide) ?_
    exact hk0 S_8 x1 (x2 + (1 : Int32)) h _ _ _ X (lv_sub hl [1, 2, 0] rfl)
theorem wX8_thief_40 {p : Program} {l : Launch} {e : Env} {s : State} {m : MethodId} {args : Array Value} {below : List Frame} {meth : Method} {c : Code} {Z : XG} {r : Int32} {S' : Mem} (E : XE p s m args meth c cX8_thief 7 RX8 (some .int) mL Z) : ∀ (n : Nat) (S : Mem) (x1 x2 : Int32), fX8_thief_40 n S x1 x2 = some (r, S') → WN p l e { frames := 5, cells := 0, slots := 0, locals := 123 } s m args below meth c mL Z (XQ mL Z r S') S 40 7 [(0, .ref (Z.2.1 0)), (1, .int x1), (2, .int x2)] [] := by
  intro n
  induction n with
  | zero => intro S x1 x2 h; exact absurd (show (none : O) = some _ from h) (by simp)
  | succ n ih => intro S x1 x2 h; exact wX8_thief_40_b E (fX8_thief_40 n) ih S x1 x2 h
set_option maxRecDepth 20000 in
theorem wX8_thief_19_b {p : Program} {l : Launch} {e : Env} {s : State} {m : MethodId} {args : Array Value} {below : List Frame} {meth : Method} {c : Code} {Z : XG} {r : Int32} {S' : Mem} (E : XE p s m args meth c cX8_thief 7 RX8 (some .int) mL Z) (k0 : Mem → Int32 → Int32 → O)  (hk0 : ∀ (S : Mem) (x1 x2 : Int32), k0 S x1 x2 = some (r, S') → WN p l e { frames := 5, cells := 0, slots := 0, locals := 123 } s m args below meth c mL Z (XQ mL Z r S') S 19 7 [(0, .ref (Z.2.1 0)), (1, .int x1), (2, .int x2)] []) : ∀ (S : Mem) (x1 x2 : Int32), fX8_thief_19_b k0 S x1 x2 = some (r, S') → WN p l e { frames := 5, cells := 0, slots := 0, locals := 123 } s m args below meth c mL Z (XQ mL Z r S') S 19 7 [(0, .ref (Z.2.1 0)), (1, .int x1), (2, .int x2)] [] := by
  obtain ⟨hx, hb, -, -, -, -, -, -, -, hQ⟩ := id E
  intro S x1 x2 h H locs ls X hl
  unfold fX8_thief_19_b at h
  refine lv_iload_n hx hb dX8_thief_19 rfl (lv_at hl 2 rfl) ?_
  refine lv_bipush (v := (10 : Int32)) hx hb dX8_thief_20 (by decide) ?_
  refine lv_icmp_ge (tgt := 38) hx hb dX8_thief_22 (by decide) (fun c_1 => ?_) (fun c_1 => ?_)
  · have h := if_t c_1 h
    refine lv_iconst (v := (0 : Int32)) hx hb dX8_thief_38 (by decide) ?_
    refine lv_istore_n (lv' := [(2, .int (0 : Int32)), (0, .ref (Z.2.1 0)), (1, .int x1)]) hx hb dX8_thief_39 rfl hl (by decide) rfl (fun ls hl => ?_)
    exact wX8_thief_40 E   FU S x1 (0 : Int32) h _ _ _ X (lv_sub hl [1, 2, 0] rfl)
  · have h := if_f c_1 h
    refine lv_aload_n hx hb dX8_thief_25 rfl (lv_at hl 0 rfl) ?_
    refine x_getr E X ffX8_86 rfl rfl dX8_thief_26 ?_
    refine lv_iload_n hx hb dX8_thief_29 rfl (lv_at hl 2 rfl) ?_
    refine lv_iconst (v := (0 : Int32)) hx hb dX8_thief_30 (by decide) ?_
    obtain ⟨g_2, h⟩ := gd_s h
    obtain ⟨S_3, eS_3, h⟩ := ltm_s h
    refine x_iast E X rfl g_2 dX8_thief_31 (fun H locs X => ?_)
    rw [← eS_3] at X
    refine lv_iinc (v := (x2 + (1 : Int32))) (lv' := [(2, .int (x2 + (1 : Int32))), (0, .ref (Z.2.1 0)), (1, .int x1)]) hx hb dX8_thief_32 hl (k := 2) rfl rfl (by decide) rfl (fun ls hl => ?_)
    refine lv_goto (tgt := 19) hx hb dX8_thief_35 (by decide) ?_
    exact hk0 S_3 x1 (x2 + (1 : Int32)) h _ _ _ X (lv_sub hl [1, 2, 0] rfl)
theorem wX8_thief_19 {p : Program} {l : Launch} {e : Env} {s : State} {m : MethodId} {args : Array Value} {below : List Frame} {meth : Method} {c : Code} {Z : XG} {r : Int32} {S' : Mem} (E : XE p s m args meth c cX8_thief 7 RX8 (some .int) mL Z) : ∀ (n : Nat) (S : Mem) (x1 x2 : Int32), fX8_thief_19 n S x1 x2 = some (r, S') → WN p l e { frames := 5, cells := 0, slots := 0, locals := 123 } s m args below meth c mL Z (XQ mL Z r S') S 19 7 [(0, .ref (Z.2.1 0)), (1, .int x1), (2, .int x2)] [] := by
  intro n
  induction n with
  | zero => intro S x1 x2 h; exact absurd (show (none : O) = some _ from h) (by simp)
  | succ n ih => intro S x1 x2 h; exact wX8_thief_19_b E (fX8_thief_19 n) ih S x1 x2 h
set_option maxRecDepth 20000 in
theorem wX8_thief {p : Program} {l : Launch} {e : Env} {s : State} {m : MethodId} {args : Array Value} {below : List Frame} {meth : Method} {c : Code} {Z : XG} {r : Int32} {S' : Mem} (E : XE p s m args meth c cX8_thief 7 RX8 (some .int) mL Z) : ∀ (S : Mem) (x1 : Int32), fX8_thief  S x1 = some (r, S') → WN p l e { frames := 5, cells := 0, slots := 0, locals := 123 } s m args below meth c mL Z (XQ mL Z r S') S 0 7 [(0, .ref (Z.2.1 0)), (1, .int x1)] [] := by
  obtain ⟨hx, hb, -, -, -, -, -, -, -, hQ⟩ := id E
  intro S x1 h H locs ls X hl
  unfold fX8_thief at h
  refine lv_aload_n hx hb dX8_thief_0 rfl (lv_at hl 0 rfl) ?_
  refine lv_iconst (v := (0 : Int32)) hx hb dX8_thief_1 (by decide) ?_
  obtain ⟨S_1, eS_1, h⟩ := ltm_s h
  refine x_put E X fpX8_92 rfl rfl dX8_thief_2 (fun H locs X => ?_)
  rw [← eS_1] at X
  refine lv_aload_n hx hb dX8_thief_5 rfl (lv_at hl 0 rfl) ?_
  refine lv_iload_n hx hb dX8_thief_6 rfl (lv_at hl 1 rfl) ?_
  refine lv_iconst (v := (0 : Int32)) hx hb dX8_thief_7 (by decide) ?_
  refine lv_iconst (v := (3 : Int32)) hx hb dX8_thief_8 (by decide) ?_
  obtain ⟨r_2, S_3, hr_2, h⟩ := bnd_s h
  refine x_callV E X cwX8_107 (mX8_isIn l Z hQ  x1 (0 : Int32) (3 : Int32) hr_2) rfl rfl rfl rfl hl.1 rfl dX8_thief_9 (fun H locs X => ?_)
  refine lv_if_ne (tgt := 17) hx hb dX8_thief_12 (by decide) (fun c_4 => ?_) (fun c_4 => ?_)
  · have h := if_f c_4 h
    refine lv_iconst (v := (0 : Int32)) hx hb dX8_thief_17 (by decide) ?_
    refine lv_istore_n (lv' := [(2, .int (0 : Int32)), (0, .ref (Z.2.1 0)), (1, .int x1)]) hx hb dX8_thief_18 rfl hl (by decide) rfl (fun ls hl => ?_)
    exact wX8_thief_19 E   FU S_3 x1 (0 : Int32) h _ _ _ X (lv_sub hl [1, 2, 0] rfl)
  · have h := if_t c_4 h
    refine lv_iconst (v := (-1 : Int32)) hx hb dX8_thief_15 (by decide) ?_
    exact x_iret E X h dX8_thief_16
/-- SevenToAShadowModel.thief(I)I -/
theorem mX8_thief (l : Launch) (Z : XG) (hQ : wQ (List.length mL) Z) {S S' : Mem} {r : Int32} (x1 : Int32) (h : fX8_thief S x1 = some (r, S')) : XM l yX8_thief cX8_thief 7 (some .int) { frames := 5, cells := 0, slots := 0, locals := 123 } mL Z [.ref (Z.2.1 0), .int x1] S (XQ mL Z r S') := by
  refine XM.of (own := RX8) (by decide +kernel) rfl rfl hQ (fun p e s m args below meth c E ls hl X => ?_)
  exact wX8_thief E S x1 h _ _ _ X hl
def fX8_undo_26_b (k0 : Mem → Int32 → O) (S : Mem) (x1 : Int32) : O := (if (55 : Int32) ≤ x1 then some ((1 : Int32), S) else gd (inB (((55 : Int32) * (S 0 3)) + x1) 660) <| gd (inB x1 55) <| ltm (mset S 1 (x1).toNatClampNeg (S 2 ((((55 : Int32) * (S 0 3)) + x1)).toNatClampNeg)) fun S_4 => k0 S_4 (x1 + (1 : Int32)))
def fX8_undo_26 : Nat → Mem → Int32 → O
  | 0 => fun _ _ => none
  | n + 1 => fX8_undo_26_b (fX8_undo_26 n)
def fX8_undo (S : Mem) : O := ltm (mset S 0 0 (0 : Int32)) fun S_1 => (if (S_1 0 3) = 0 then some ((0 : Int32), S_1) else ltm (mset S_1 0 3 ((S_1 0 3) - (1 : Int32))) fun S_3 => fX8_undo_26  FU S_3 (0 : Int32))
theorem dX8_undo_0 : decode cX8_undo 0 = .ok (.aload_n 0, 1) := by decide +kernel
theorem dX8_undo_1 : decode cX8_undo 1 = .ok (.iconst 0, 1) := by decide +kernel
theorem dX8_undo_2 : decode cX8_undo 2 = .ok (.putfield 92, 3) := by decide +kernel
theorem dX8_undo_5 : decode cX8_undo 5 = .ok (.aload_n 0, 1) := by decide +kernel
theorem dX8_undo_6 : decode cX8_undo 6 = .ok (.getfield 95, 3) := by decide +kernel
theorem dX8_undo_9 : decode cX8_undo 9 = .ok (.ifCond .ne 5, 3) := by decide +kernel
theorem dX8_undo_12 : decode cX8_undo 12 = .ok (.iconst 0, 1) := by decide +kernel
theorem dX8_undo_13 : decode cX8_undo 13 = .ok (.ireturn, 1) := by decide +kernel
theorem dX8_undo_14 : decode cX8_undo 14 = .ok (.aload_n 0, 1) := by decide +kernel
theorem dX8_undo_15 : decode cX8_undo 15 = .ok (.aload_n 0, 1) := by decide +kernel
theorem dX8_undo_16 : decode cX8_undo 16 = .ok (.getfield 95, 3) := by decide +kernel
theorem dX8_undo_19 : decode cX8_undo 19 = .ok (.iconst 1, 1) := by decide +kernel
theorem dX8_undo_20 : decode cX8_undo 20 = .ok (.isub, 1) := by decide +kernel
theorem dX8_undo_21 : decode cX8_undo 21 = .ok (.putfield 95, 3) := by decide +kernel
theorem dX8_undo_24 : decode cX8_undo 24 = .ok (.iconst 0, 1) := by decide +kernel
theorem dX8_undo_25 : decode cX8_undo 25 = .ok (.istore_n 1, 1) := by decide +kernel
theorem dX8_undo_26 : decode cX8_undo 26 = .ok (.iload_n 1, 1) := by decide +kernel
theorem dX8_undo_27 : decode cX8_undo 27 = .ok (.bipush 55, 2) := by decide +kernel
theorem dX8_undo_29 : decode cX8_undo 29 = .ok (.if_icmp .ge 29, 3) := by decide +kernel
theorem dX8_undo_32 : decode cX8_undo 32 = .ok (.aload_n 0, 1) := by decide +kernel
theorem dX8_undo_33 : decode cX8_undo 33 = .ok (.getfield 7, 3) := by decide +kernel
theorem dX8_undo_36 : decode cX8_undo 36 = .ok (.iload_n 1, 1) := by decide +kernel
theorem dX8_undo_37 : decode cX8_undo 37 = .ok (.aload_n 0, 1) := by decide +kernel
theorem dX8_undo_38 : decode cX8_undo 38 = .ok (.getfield 13, 3) := by decide +kernel
theorem dX8_undo_41 : decode cX8_undo 41 = .ok (.bipush 55, 2) := by decide +kernel
theorem dX8_undo_43 : decode cX8_undo 43 = .ok (.aload_n 0, 1) := by decide +kernel
theorem dX8_undo_44 : decode cX8_undo 44 = .ok (.getfield 95, 3) := by decide +kernel
theorem dX8_undo_47 : decode cX8_undo 47 = .ok (.imul, 1) := by decide +kernel
theorem dX8_undo_48 : decode cX8_undo 48 = .ok (.iload_n 1, 1) := by decide +kernel
theorem dX8_undo_49 : decode cX8_undo 49 = .ok (.iadd, 1) := by decide +kernel
theorem dX8_undo_50 : decode cX8_undo 50 = .ok (.iaload, 1) := by decide +kernel
theorem dX8_undo_51 : decode cX8_undo 51 = .ok (.iastore, 1) := by decide +kernel
theorem dX8_undo_52 : decode cX8_undo 52 = .ok (.iinc 1 1, 3) := by decide +kernel
theorem dX8_undo_55 : decode cX8_undo 55 = .ok (.goto (-29), 3) := by decide +kernel
theorem dX8_undo_58 : decode cX8_undo 58 = .ok (.iconst 1, 1) := by decide +kernel
theorem dX8_undo_59 : decode cX8_undo 59 = .ok (.ireturn, 1) := by decide +kernel
set_option maxRecDepth 20000 in
theorem wX8_undo_26_b {p : Program} {l : Launch} {e : Env} {s : State} {m : MethodId} {args : Array Value} {below : List Frame} {meth : Method} {c : Code} {Z : XG} {r : Int32} {S' : Mem} (E : XE p s m args meth c cX8_undo 2 RX8 (some .boolean) mL Z) (k0 : Mem → Int32 → O)  (hk0 : ∀ (S : Mem) (x1 : Int32), k0 S x1 = some (r, S') → WN p l e { frames := 0, cells := 0, slots := 0, locals := 0 } s m args below meth c mL Z (XQ mL Z r S') S 26 2 [(0, .ref (Z.2.1 0)), (1, .int x1)] []) : ∀ (S : Mem) (x1 : Int32), fX8_undo_26_b k0 S x1 = some (r, S') → WN p l e { frames := 0, cells := 0, slots := 0, locals := 0 } s m args below meth c mL Z (XQ mL Z r S') S 26 2 [(0, .ref (Z.2.1 0)), (1, .int x1)] [] := by
  obtain ⟨hx, hb, -, -, -, -, -, -, -, hQ⟩ := id E
  intro S x1 h H locs ls X hl
  unfold fX8_undo_26_b at h
  refine lv_iload_n hx hb dX8_undo_26 rfl (lv_at hl 1 rfl) ?_
  refine lv_bipush (v := (55 : Int32)) hx hb dX8_undo_27 (by decide) ?_
  refine lv_icmp_ge (tgt := 58) hx hb dX8_undo_29 (by decide) (fun c_1 => ?_) (fun c_1 => ?_)
  · have h := if_t c_1 h
    refine lv_iconst (v := (1 : Int32)) hx hb dX8_undo_58 (by decide) ?_
    exact x_zret E X rfl h dX8_undo_59
  · have h := if_f c_1 h
    refine lv_aload_n hx hb dX8_undo_32 rfl (lv_at hl 0 rfl) ?_
    refine x_getr E X ffX8_7 rfl rfl dX8_undo_33 ?_
    refine lv_iload_n hx hb dX8_undo_36 rfl (lv_at hl 1 rfl) ?_
    refine lv_aload_n hx hb dX8_undo_37 rfl (lv_at hl 0 rfl) ?_
    refine x_getr E X ffX8_13 rfl rfl dX8_undo_38 ?_
    refine lv_bipush (v := (55 : Int32)) hx hb dX8_undo_41 (by decide) ?_
    refine lv_aload_n hx hb dX8_undo_43 rfl (lv_at hl 0 rfl) ?_
    refine x_get E X ffX8_95 rfl rfl dX8_undo_44 ?_
    refine lv_imul hx hb dX8_undo_47 ?_
    refine lv_iload_n hx hb dX8_undo_48 rfl (lv_at hl 1 rfl) ?_
    refine lv_iadd hx hb dX8_undo_49 ?_
    obtain ⟨g_2, h⟩ := gd_s h
    refine x_iald E X rfl g_2 dX8_undo_50 ?_
    obtain ⟨g_3, h⟩ := gd_s h
    obtain ⟨S_4, eS_4, h⟩ := ltm_s h
    refine x_iast E X rfl g_3 dX8_undo_51 (fun H locs X => ?_)
    rw [← eS_4] at X
    refine lv_iinc (v := (x1 + (1 : Int32))) (lv' := [(1, .int (x1 + (1 : Int32))), (0, .ref (Z.2.1 0))]) hx hb dX8_undo_52 hl (k := 1) rfl rfl (by decide) rfl (fun ls hl => ?_)
    refine lv_goto (tgt := 26) hx hb dX8_undo_55 (by decide) ?_
    exact hk0 S_4 (x1 + (1 : Int32)) h _ _ _ X (lv_sub hl [1, 0] rfl)
theorem wX8_undo_26 {p : Program} {l : Launch} {e : Env} {s : State} {m : MethodId} {args : Array Value} {below : List Frame} {meth : Method} {c : Code} {Z : XG} {r : Int32} {S' : Mem} (E : XE p s m args meth c cX8_undo 2 RX8 (some .boolean) mL Z) : ∀ (n : Nat) (S : Mem) (x1 : Int32), fX8_undo_26 n S x1 = some (r, S') → WN p l e { frames := 0, cells := 0, slots := 0, locals := 0 } s m args below meth c mL Z (XQ mL Z r S') S 26 2 [(0, .ref (Z.2.1 0)), (1, .int x1)] [] := by
  intro n
  induction n with
  | zero => intro S x1 h; exact absurd (show (none : O) = some _ from h) (by simp)
  | succ n ih => intro S x1 h; exact wX8_undo_26_b E (fX8_undo_26 n) ih S x1 h
set_option maxRecDepth 20000 in
theorem wX8_undo {p : Program} {l : Launch} {e : Env} {s : State} {m : MethodId} {args : Array Value} {below : List Frame} {meth : Method} {c : Code} {Z : XG} {r : Int32} {S' : Mem} (E : XE p s m args meth c cX8_undo 2 RX8 (some .boolean) mL Z) : ∀ (S : Mem), fX8_undo  S  = some (r, S') → WN p l e { frames := 0, cells := 0, slots := 0, locals := 0 } s m args below meth c mL Z (XQ mL Z r S') S 0 2 [(0, .ref (Z.2.1 0))] [] := by
  obtain ⟨hx, hb, -, -, -, -, -, -, -, hQ⟩ := id E
  intro S  h H locs ls X hl
  unfold fX8_undo at h
  refine lv_aload_n hx hb dX8_undo_0 rfl (lv_at hl 0 rfl) ?_
  refine lv_iconst (v := (0 : Int32)) hx hb dX8_undo_1 (by decide) ?_
  obtain ⟨S_1, eS_1, h⟩ := ltm_s h
  refine x_put E X fpX8_92 rfl rfl dX8_undo_2 (fun H locs X => ?_)
  rw [← eS_1] at X
  refine lv_aload_n hx hb dX8_undo_5 rfl (lv_at hl 0 rfl) ?_
  refine x_get E X ffX8_95 rfl rfl dX8_undo_6 ?_
  refine lv_if_ne (tgt := 14) hx hb dX8_undo_9 (by decide) (fun c_2 => ?_) (fun c_2 => ?_)
  · have h := if_f c_2 h
    refine lv_aload_n hx hb dX8_undo_14 rfl (lv_at hl 0 rfl) ?_
    refine lv_aload_n hx hb dX8_undo_15 rfl (lv_at hl 0 rfl) ?_
    refine x_get E X ffX8_95 rfl rfl dX8_undo_16 ?_
    refine lv_iconst (v := (1 : Int32)) hx hb dX8_undo_19 (by decide) ?_
    refine lv_isub hx hb dX8_undo_20 ?_
    obtain ⟨S_3, eS_3, h⟩ := ltm_s h
    refine x_put E X fpX8_95 rfl rfl dX8_undo_21 (fun H locs X => ?_)
    rw [← eS_3] at X
    refine lv_iconst (v := (0 : Int32)) hx hb dX8_undo_24 (by decide) ?_
    refine lv_istore_n (lv' := [(1, .int (0 : Int32)), (0, .ref (Z.2.1 0))]) hx hb dX8_undo_25 rfl hl (by decide) rfl (fun ls hl => ?_)
    exact wX8_undo_26 E   FU S_3 (0 : Int32) h _ _ _ X (lv_sub hl [1, 0] rfl)
  · have h := if_t c_2 h
    refine lv_iconst (v := (0 : Int32)) hx hb dX8_undo_12 (by decide) ?_
    exact x_zret E X rfl h dX8_undo_13
/-- SevenToAShadowModel.undo()Z -/
theorem mX8_undo (l : Launch) (Z : XG) (hQ : wQ (List.length mL) Z) {S S' : Mem} {r : Int32} (h : fX8_undo S  = some (r, S')) : XM l yX8_undo cX8_undo 2 (some .boolean) { frames := 0, cells := 0, slots := 0, locals := 0 } mL Z [.ref (Z.2.1 0)] S (XQ mL Z r S') := by
  refine XM.of (own := RX8) (by decide +kernel) rfl rfl hQ (fun p e s m args below meth c E ls hl X => ?_)
  exact wX8_undo E S  h _ _ _ X hl
def fX8_kept (S : Mem) (x1 : Int32) : O := ltm (mset S 0 47 ((S 0 47) + (1 : Int32))) fun S_1 => (if (S_1 0 45) = 0 then gd (inB ((S_1 0 47) - (1 : Int32)) 1900) <| some ((S_1 26 (((S_1 0 47) - (1 : Int32))).toNatClampNeg), S_1) else gd (inB ((S_1 0 47) - (1 : Int32)) 1900) <| ltm (mset S_1 26 (((S_1 0 47) - (1 : Int32))).toNatClampNeg x1) fun S_4 => some (x1, S_4))
theorem dX8_kept_0 : decode cX8_kept 0 = .ok (.aload_n 0, 1) := by decide +kernel
theorem dX8_kept_1 : decode cX8_kept 1 = .ok (.aload_n 0, 1) := by decide +kernel
theorem dX8_kept_2 : decode cX8_kept 2 = .ok (.getfield 355, 3) := by decide +kernel
theorem dX8_kept_5 : decode cX8_kept 5 = .ok (.iconst 1, 1) := by decide +kernel
theorem dX8_kept_6 : decode cX8_kept 6 = .ok (.iadd, 1) := by decide +kernel
theorem dX8_kept_7 : decode cX8_kept 7 = .ok (.putfield 355, 3) := by decide +kernel
theorem dX8_kept_10 : decode cX8_kept 10 = .ok (.aload_n 0, 1) := by decide +kernel
theorem dX8_kept_11 : decode cX8_kept 11 = .ok (.getfield 358, 3) := by decide +kernel
theorem dX8_kept_14 : decode cX8_kept 14 = .ok (.ifCond .ne 15, 3) := by decide +kernel
theorem dX8_kept_17 : decode cX8_kept 17 = .ok (.aload_n 0, 1) := by decide +kernel
theorem dX8_kept_18 : decode cX8_kept 18 = .ok (.getfield 89, 3) := by decide +kernel
theorem dX8_kept_21 : decode cX8_kept 21 = .ok (.aload_n 0, 1) := by decide +kernel
theorem dX8_kept_22 : decode cX8_kept 22 = .ok (.getfield 355, 3) := by decide +kernel
theorem dX8_kept_25 : decode cX8_kept 25 = .ok (.iconst 1, 1) := by decide +kernel
theorem dX8_kept_26 : decode cX8_kept 26 = .ok (.isub, 1) := by decide +kernel
theorem dX8_kept_27 : decode cX8_kept 27 = .ok (.iaload, 1) := by decide +kernel
theorem dX8_kept_28 : decode cX8_kept 28 = .ok (.ireturn, 1) := by decide +kernel
theorem dX8_kept_29 : decode cX8_kept 29 = .ok (.aload_n 0, 1) := by decide +kernel
theorem dX8_kept_30 : decode cX8_kept 30 = .ok (.getfield 89, 3) := by decide +kernel
theorem dX8_kept_33 : decode cX8_kept 33 = .ok (.aload_n 0, 1) := by decide +kernel
theorem dX8_kept_34 : decode cX8_kept 34 = .ok (.getfield 355, 3) := by decide +kernel
theorem dX8_kept_37 : decode cX8_kept 37 = .ok (.iconst 1, 1) := by decide +kernel
theorem dX8_kept_38 : decode cX8_kept 38 = .ok (.isub, 1) := by decide +kernel
theorem dX8_kept_39 : decode cX8_kept 39 = .ok (.iload_n 1, 1) := by decide +kernel
theorem dX8_kept_40 : decode cX8_kept 40 = .ok (.iastore, 1) := by decide +kernel
theorem dX8_kept_41 : decode cX8_kept 41 = .ok (.iload_n 1, 1) := by decide +kernel
theorem dX8_kept_42 : decode cX8_kept 42 = .ok (.ireturn, 1) := by decide +kernel
set_option maxRecDepth 20000 in
theorem wX8_kept {p : Program} {l : Launch} {e : Env} {s : State} {m : MethodId} {args : Array Value} {below : List Frame} {meth : Method} {c : Code} {Z : XG} {r : Int32} {S' : Mem} (E : XE p s m args meth c cX8_kept 2 RX8 (some .int) mL Z) : ∀ (S : Mem) (x1 : Int32), fX8_kept  S x1 = some (r, S') → WN p l e { frames := 0, cells := 0, slots := 0, locals := 0 } s m args below meth c mL Z (XQ mL Z r S') S 0 2 [(0, .ref (Z.2.1 0)), (1, .int x1)] [] := by
  obtain ⟨hx, hb, -, -, -, -, -, -, -, hQ⟩ := id E
  intro S x1 h H locs ls X hl
  unfold fX8_kept at h
  refine lv_aload_n hx hb dX8_kept_0 rfl (lv_at hl 0 rfl) ?_
  refine lv_aload_n hx hb dX8_kept_1 rfl (lv_at hl 0 rfl) ?_
  refine x_get E X ffX8_355 rfl rfl dX8_kept_2 ?_
  refine lv_iconst (v := (1 : Int32)) hx hb dX8_kept_5 (by decide) ?_
  refine lv_iadd hx hb dX8_kept_6 ?_
  obtain ⟨S_1, eS_1, h⟩ := ltm_s h
  refine x_put E X fpX8_355 rfl rfl dX8_kept_7 (fun H locs X => ?_)
  rw [← eS_1] at X
  refine lv_aload_n hx hb dX8_kept_10 rfl (lv_at hl 0 rfl) ?_
  refine x_get E X ffX8_358 rfl rfl dX8_kept_11 ?_
  refine lv_if_ne (tgt := 29) hx hb dX8_kept_14 (by decide) (fun c_2 => ?_) (fun c_2 => ?_)
  · have h := if_f c_2 h
    refine lv_aload_n hx hb dX8_kept_29 rfl (lv_at hl 0 rfl) ?_
    refine x_getr E X ffX8_89 rfl rfl dX8_kept_30 ?_
    refine lv_aload_n hx hb dX8_kept_33 rfl (lv_at hl 0 rfl) ?_
    refine x_get E X ffX8_355 rfl rfl dX8_kept_34 ?_
    refine lv_iconst (v := (1 : Int32)) hx hb dX8_kept_37 (by decide) ?_
    refine lv_isub hx hb dX8_kept_38 ?_
    refine lv_iload_n hx hb dX8_kept_39 rfl (lv_at hl 1 rfl) ?_
    obtain ⟨g_3, h⟩ := gd_s h
    obtain ⟨S_4, eS_4, h⟩ := ltm_s h
    refine x_iast E X rfl g_3 dX8_kept_40 (fun H locs X => ?_)
    rw [← eS_4] at X
    refine lv_iload_n hx hb dX8_kept_41 rfl (lv_at hl 1 rfl) ?_
    exact x_iret E X h dX8_kept_42
  · have h := if_t c_2 h
    refine lv_aload_n hx hb dX8_kept_17 rfl (lv_at hl 0 rfl) ?_
    refine x_getr E X ffX8_89 rfl rfl dX8_kept_18 ?_
    refine lv_aload_n hx hb dX8_kept_21 rfl (lv_at hl 0 rfl) ?_
    refine x_get E X ffX8_355 rfl rfl dX8_kept_22 ?_
    refine lv_iconst (v := (1 : Int32)) hx hb dX8_kept_25 (by decide) ?_
    refine lv_isub hx hb dX8_kept_26 ?_
    obtain ⟨g_5, h⟩ := gd_s h
    refine x_iald E X rfl g_5 dX8_kept_27 ?_
    exact x_iret E X h dX8_kept_28
/-- SevenToAShadowModel.kept(I)I -/
theorem mX8_kept (l : Launch) (Z : XG) (hQ : wQ (List.length mL) Z) {S S' : Mem} {r : Int32} (x1 : Int32) (h : fX8_kept S x1 = some (r, S')) : XM l yX8_kept cX8_kept 2 (some .int) { frames := 0, cells := 0, slots := 0, locals := 0 } mL Z [.ref (Z.2.1 0), .int x1] S (XQ mL Z r S') := by
  refine XM.of (own := RX8) (by decide +kernel) rfl rfl hQ (fun p e s m args below meth c E ls hl X => ?_)
  exact wX8_kept E S x1 h _ _ _ X hl
def fX8_keepsRules_76_b (k0 : Mem → Int32 → O) (S : Mem) (x1 : Int32) : O := (if (400 : Int32) ≤ x1 then some ((0 : Int32), S) else gd (inB x1 800) <| bnd (fX8_kept S (S 16 (x1).toNatClampNeg)) fun r_3 S_4 => gd (inB x1 800) <| ltm (mset S_4 16 (x1).toNatClampNeg r_3) fun S_6 => gd (inB x1 800) <| bnd (fX8_kept S_6 (S_6 17 (x1).toNatClampNeg)) fun r_8 S_9 => gd (inB x1 800) <| ltm (mset S_9 17 (x1).toNatClampNeg r_8) fun S_11 => k0 S_11 (x1 + (1 : Int32)))
def fX8_keepsRules_76 : Nat → Mem → Int32 → O
  | 0 => fun _ _ => none
  | n + 1 => fX8_keepsRules_76_b (fX8_keepsRules_76 n)
def fX8_keepsRules_14_b (k0 : Mem → Int32 → O) (S : Mem) (x1 : Int32) : O := (if (16 : Int32) ≤ x1 then fX8_keepsRules_76  FU S (0 : Int32) else gd (inB x1 32) <| bnd (fX8_kept S (S 13 (x1).toNatClampNeg)) fun r_3 S_4 => gd (inB x1 32) <| ltm (mset S_4 13 (x1).toNatClampNeg r_3) fun S_6 => gd (inB x1 32) <| bnd (fX8_kept S_6 (S_6 14 (x1).toNatClampNeg)) fun r_8 S_9 => gd (inB x1 32) <| ltm (mset S_9 14 (x1).toNatClampNeg r_8) fun S_11 => gd (inB x1 32) <| bnd (fX8_kept S_11 (S_11 15 (x1).toNatClampNeg)) fun r_13 S_14 => gd (inB x1 32) <| ltm (mset S_14 15 (x1).toNatClampNeg r_13) fun S_16 => k0 S_16 (x1 + (1 : Int32)))
def fX8_keepsRules_14 : Nat → Mem → Int32 → O
  | 0 => fun _ _ => none
  | n + 1 => fX8_keepsRules_14_b (fX8_keepsRules_14 n)
def fX8_keepsRules (S : Mem) : O := bnd (fX8_kept S (S 0 22)) fun r_1 S_2 => ltm (mset S_2 0 22 r_1) fun S_3 => fX8_keepsRules_14  FU S_3 (0 : Int32)
theorem dX8_keepsRules_0 : decode cX8_keepsRules 0 = .ok (.aload_n 0, 1) := by decide +kernel
theorem dX8_keepsRules_1 : decode cX8_keepsRules 1 = .ok (.aload_n 0, 1) := by decide +kernel
theorem dX8_keepsRules_2 : decode cX8_keepsRules 2 = .ok (.aload_n 0, 1) := by decide +kernel
theorem dX8_keepsRules_3 : decode cX8_keepsRules 3 = .ok (.getfield 224, 3) := by decide +kernel
theorem dX8_keepsRules_6 : decode cX8_keepsRules 6 = .ok (.invokevirtual 362, 3) := by decide +kernel
theorem dX8_keepsRules_9 : decode cX8_keepsRules 9 = .ok (.putfield 224, 3) := by decide +kernel
theorem dX8_keepsRules_12 : decode cX8_keepsRules 12 = .ok (.iconst 0, 1) := by decide +kernel
theorem dX8_keepsRules_13 : decode cX8_keepsRules 13 = .ok (.istore_n 1, 1) := by decide +kernel
theorem dX8_keepsRules_14 : decode cX8_keepsRules 14 = .ok (.iload_n 1, 1) := by decide +kernel
theorem dX8_keepsRules_15 : decode cX8_keepsRules 15 = .ok (.bipush 16, 2) := by decide +kernel
theorem dX8_keepsRules_17 : decode cX8_keepsRules 17 = .ok (.if_icmp .ge 57, 3) := by decide +kernel
theorem dX8_keepsRules_20 : decode cX8_keepsRules 20 = .ok (.aload_n 0, 1) := by decide +kernel
theorem dX8_keepsRules_21 : decode cX8_keepsRules 21 = .ok (.getfield 46, 3) := by decide +kernel
theorem dX8_keepsRules_24 : decode cX8_keepsRules 24 = .ok (.iload_n 1, 1) := by decide +kernel
theorem dX8_keepsRules_25 : decode cX8_keepsRules 25 = .ok (.aload_n 0, 1) := by decide +kernel
theorem dX8_keepsRules_26 : decode cX8_keepsRules 26 = .ok (.aload_n 0, 1) := by decide +kernel
theorem dX8_keepsRules_27 : decode cX8_keepsRules 27 = .ok (.getfield 46, 3) := by decide +kernel
theorem dX8_keepsRules_30 : decode cX8_keepsRules 30 = .ok (.iload_n 1, 1) := by decide +kernel
theorem dX8_keepsRules_31 : decode cX8_keepsRules 31 = .ok (.iaload, 1) := by decide +kernel
theorem dX8_keepsRules_32 : decode cX8_keepsRules 32 = .ok (.invokevirtual 362, 3) := by decide +kernel
theorem dX8_keepsRules_35 : decode cX8_keepsRules 35 = .ok (.iastore, 1) := by decide +kernel
theorem dX8_keepsRules_36 : decode cX8_keepsRules 36 = .ok (.aload_n 0, 1) := by decide +kernel
theorem dX8_keepsRules_37 : decode cX8_keepsRules 37 = .ok (.getfield 49, 3) := by decide +kernel
theorem dX8_keepsRules_40 : decode cX8_keepsRules 40 = .ok (.iload_n 1, 1) := by decide +kernel
theorem dX8_keepsRules_41 : decode cX8_keepsRules 41 = .ok (.aload_n 0, 1) := by decide +kernel
theorem dX8_keepsRules_42 : decode cX8_keepsRules 42 = .ok (.aload_n 0, 1) := by decide +kernel
theorem dX8_keepsRules_43 : decode cX8_keepsRules 43 = .ok (.getfield 49, 3) := by decide +kernel
theorem dX8_keepsRules_46 : decode cX8_keepsRules 46 = .ok (.iload_n 1, 1) := by decide +kernel
theorem dX8_keepsRules_47 : decode cX8_keepsRules 47 = .ok (.iaload, 1) := by decide +kernel
theorem dX8_keepsRules_48 : decode cX8_keepsRules 48 = .ok (.invokevirtual 362, 3) := by decide +kernel
theorem dX8_keepsRules_51 : decode cX8_keepsRules 51 = .ok (.iastore, 1) := by decide +kernel
theorem dX8_keepsRules_52 : decode cX8_keepsRules 52 = .ok (.aload_n 0, 1) := by decide +kernel
theorem dX8_keepsRules_53 : decode cX8_keepsRules 53 = .ok (.getfield 52, 3) := by decide +kernel
theorem dX8_keepsRules_56 : decode cX8_keepsRules 56 = .ok (.iload_n 1, 1) := by decide +kernel
theorem dX8_keepsRules_57 : decode cX8_keepsRules 57 = .ok (.aload_n 0, 1) := by decide +kernel
theorem dX8_keepsRules_58 : decode cX8_keepsRules 58 = .ok (.aload_n 0, 1) := by decide +kernel
theorem dX8_keepsRules_59 : decode cX8_keepsRules 59 = .ok (.getfield 52, 3) := by decide +kernel
theorem dX8_keepsRules_62 : decode cX8_keepsRules 62 = .ok (.iload_n 1, 1) := by decide +kernel
theorem dX8_keepsRules_63 : decode cX8_keepsRules 63 = .ok (.iaload, 1) := by decide +kernel
theorem dX8_keepsRules_64 : decode cX8_keepsRules 64 = .ok (.invokevirtual 362, 3) := by decide +kernel
theorem dX8_keepsRules_67 : decode cX8_keepsRules 67 = .ok (.iastore, 1) := by decide +kernel
theorem dX8_keepsRules_68 : decode cX8_keepsRules 68 = .ok (.iinc 1 1, 3) := by decide +kernel
theorem dX8_keepsRules_71 : decode cX8_keepsRules 71 = .ok (.goto (-57), 3) := by decide +kernel
theorem dX8_keepsRules_74 : decode cX8_keepsRules 74 = .ok (.iconst 0, 1) := by decide +kernel
theorem dX8_keepsRules_75 : decode cX8_keepsRules 75 = .ok (.istore_n 1, 1) := by decide +kernel
theorem dX8_keepsRules_76 : decode cX8_keepsRules 76 = .ok (.iload_n 1, 1) := by decide +kernel
theorem dX8_keepsRules_77 : decode cX8_keepsRules 77 = .ok (.sipush 400, 3) := by decide +kernel
theorem dX8_keepsRules_80 : decode cX8_keepsRules 80 = .ok (.if_icmp .ge 41, 3) := by decide +kernel
theorem dX8_keepsRules_83 : decode cX8_keepsRules 83 = .ok (.aload_n 0, 1) := by decide +kernel
theorem dX8_keepsRules_84 : decode cX8_keepsRules 84 = .ok (.getfield 55, 3) := by decide +kernel
theorem dX8_keepsRules_87 : decode cX8_keepsRules 87 = .ok (.iload_n 1, 1) := by decide +kernel
theorem dX8_keepsRules_88 : decode cX8_keepsRules 88 = .ok (.aload_n 0, 1) := by decide +kernel
theorem dX8_keepsRules_89 : decode cX8_keepsRules 89 = .ok (.aload_n 0, 1) := by decide +kernel
theorem dX8_keepsRules_90 : decode cX8_keepsRules 90 = .ok (.getfield 55, 3) := by decide +kernel
theorem dX8_keepsRules_93 : decode cX8_keepsRules 93 = .ok (.iload_n 1, 1) := by decide +kernel
theorem dX8_keepsRules_94 : decode cX8_keepsRules 94 = .ok (.iaload, 1) := by decide +kernel
theorem dX8_keepsRules_95 : decode cX8_keepsRules 95 = .ok (.invokevirtual 362, 3) := by decide +kernel
theorem dX8_keepsRules_98 : decode cX8_keepsRules 98 = .ok (.iastore, 1) := by decide +kernel
theorem dX8_keepsRules_99 : decode cX8_keepsRules 99 = .ok (.aload_n 0, 1) := by decide +kernel
theorem dX8_keepsRules_100 : decode cX8_keepsRules 100 = .ok (.getfield 58, 3) := by decide +kernel
theorem dX8_keepsRules_103 : decode cX8_keepsRules 103 = .ok (.iload_n 1, 1) := by decide +kernel
theorem dX8_keepsRules_104 : decode cX8_keepsRules 104 = .ok (.aload_n 0, 1) := by decide +kernel
theorem dX8_keepsRules_105 : decode cX8_keepsRules 105 = .ok (.aload_n 0, 1) := by decide +kernel
theorem dX8_keepsRules_106 : decode cX8_keepsRules 106 = .ok (.getfield 58, 3) := by decide +kernel
theorem dX8_keepsRules_109 : decode cX8_keepsRules 109 = .ok (.iload_n 1, 1) := by decide +kernel
theorem dX8_keepsRules_110 : decode cX8_keepsRules 110 = .ok (.iaload, 1) := by decide +kernel
theorem dX8_keepsRules_111 : decode cX8_keepsRules 111 = .ok (.invokevirtual 362, 3) := by decide +kernel
theorem dX8_keepsRules_114 : decode cX8_keepsRules 114 = .ok (.iastore, 1) := by decide +kernel
theorem dX8_keepsRules_115 : decode cX8_keepsRules 115 = .ok (.iinc 1 1, 3) := by decide +kernel
theorem dX8_keepsRules_118 : decode cX8_keepsRules 118 = .ok (.goto (-42), 3) := by decide +kernel
theorem dX8_keepsRules_121 : decode cX8_keepsRules 121 = .ok (.return_, 1) := by decide +kernel
set_option maxRecDepth 20000 in
theorem wX8_keepsRules_76_b {p : Program} {l : Launch} {e : Env} {s : State} {m : MethodId} {args : Array Value} {below : List Frame} {meth : Method} {c : Code} {Z : XG} {r : Int32} {S' : Mem} (E : XE p s m args meth c cX8_keepsRules 2 RX8 none mL Z) (k0 : Mem → Int32 → O)  (hk0 : ∀ (S : Mem) (x1 : Int32), k0 S x1 = some (r, S') → WN p l e { frames := 1, cells := 0, slots := 0, locals := 21 } s m args below meth c mL Z (XV mL Z S') S 76 2 [(0, .ref (Z.2.1 0)), (1, .int x1)] []) : ∀ (S : Mem) (x1 : Int32), fX8_keepsRules_76_b k0 S x1 = some (r, S') → WN p l e { frames := 1, cells := 0, slots := 0, locals := 21 } s m args below meth c mL Z (XV mL Z S') S 76 2 [(0, .ref (Z.2.1 0)), (1, .int x1)] [] := by
  obtain ⟨hx, hb, -, -, -, -, -, -, -, hQ⟩ := id E
  intro S x1 h H locs ls X hl
  unfold fX8_keepsRules_76_b at h
  refine lv_iload_n hx hb dX8_keepsRules_76 rfl (lv_at hl 1 rfl) ?_
  refine lv_sipush (v := (400 : Int32)) hx hb dX8_keepsRules_77 (by decide) ?_
  refine lv_icmp_ge (tgt := 121) hx hb dX8_keepsRules_80 (by decide) (fun c_1 => ?_) (fun c_1 => ?_)
  · have h := if_t c_1 h
    exact x_vret E X h dX8_keepsRules_121
  · have h := if_f c_1 h
    refine lv_aload_n hx hb dX8_keepsRules_83 rfl (lv_at hl 0 rfl) ?_
    refine x_getr E X ffX8_55 rfl rfl dX8_keepsRules_84 ?_
    refine lv_iload_n hx hb dX8_keepsRules_87 rfl (lv_at hl 1 rfl) ?_
    refine lv_aload_n hx hb dX8_keepsRules_88 rfl (lv_at hl 0 rfl) ?_
    refine lv_aload_n hx hb dX8_keepsRules_89 rfl (lv_at hl 0 rfl) ?_
    refine x_getr E X ffX8_55 rfl rfl dX8_keepsRules_90 ?_
    refine lv_iload_n hx hb dX8_keepsRules_93 rfl (lv_at hl 1 rfl) ?_
    obtain ⟨g_2, h⟩ := gd_s h
    refine x_iald E X rfl g_2 dX8_keepsRules_94 ?_
    obtain ⟨r_3, S_4, hr_3, h⟩ := bnd_s h
    refine x_callV E X cwX8_362 (mX8_kept l Z hQ  (S 16 (x1).toNatClampNeg) hr_3) rfl rfl rfl rfl hl.1 rfl dX8_keepsRules_95 (fun H locs X => ?_)
    obtain ⟨g_5, h⟩ := gd_s h
    obtain ⟨S_6, eS_6, h⟩ := ltm_s h
    refine x_iast E X rfl g_5 dX8_keepsRules_98 (fun H locs X => ?_)
    rw [← eS_6] at X
    refine lv_aload_n hx hb dX8_keepsRules_99 rfl (lv_at hl 0 rfl) ?_
    refine x_getr E X ffX8_58 rfl rfl dX8_keepsRules_100 ?_
    refine lv_iload_n hx hb dX8_keepsRules_103 rfl (lv_at hl 1 rfl) ?_
    refine lv_aload_n hx hb dX8_keepsRules_104 rfl (lv_at hl 0 rfl) ?_
    refine lv_aload_n hx hb dX8_keepsRules_105 rfl (lv_at hl 0 rfl) ?_
    refine x_getr E X ffX8_58 rfl rfl dX8_keepsRules_106 ?_
    refine lv_iload_n hx hb dX8_keepsRules_109 rfl (lv_at hl 1 rfl) ?_
    obtain ⟨g_7, h⟩ := gd_s h
    refine x_iald E X rfl g_7 dX8_keepsRules_110 ?_
    obtain ⟨r_8, S_9, hr_8, h⟩ := bnd_s h
    refine x_callV E X cwX8_362 (mX8_kept l Z hQ  (S_6 17 (x1).toNatClampNeg) hr_8) rfl rfl rfl rfl hl.1 rfl dX8_keepsRules_111 (fun H locs X => ?_)
    obtain ⟨g_10, h⟩ := gd_s h
    obtain ⟨S_11, eS_11, h⟩ := ltm_s h
    refine x_iast E X rfl g_10 dX8_keepsRules_114 (fun H locs X => ?_)
    rw [← eS_11] at X
    refine lv_iinc (v := (x1 + (1 : Int32))) (lv' := [(1, .int (x1 + (1 : Int32))), (0, .ref (Z.2.1 0))]) hx hb dX8_keepsRules_115 hl (k := 1) rfl rfl (by decide) rfl (fun ls hl => ?_)
    refine lv_goto (tgt := 76) hx hb dX8_keepsRules_118 (by decide) ?_
    exact hk0 S_11 (x1 + (1 : Int32)) h _ _ _ X (lv_sub hl [1, 0] rfl)
theorem wX8_keepsRules_76 {p : Program} {l : Launch} {e : Env} {s : State} {m : MethodId} {args : Array Value} {below : List Frame} {meth : Method} {c : Code} {Z : XG} {r : Int32} {S' : Mem} (E : XE p s m args meth c cX8_keepsRules 2 RX8 none mL Z) : ∀ (n : Nat) (S : Mem) (x1 : Int32), fX8_keepsRules_76 n S x1 = some (r, S') → WN p l e { frames := 1, cells := 0, slots := 0, locals := 21 } s m args below meth c mL Z (XV mL Z S') S 76 2 [(0, .ref (Z.2.1 0)), (1, .int x1)] [] := by
  intro n
  induction n with
  | zero => intro S x1 h; exact absurd (show (none : O) = some _ from h) (by simp)
  | succ n ih => intro S x1 h; exact wX8_keepsRules_76_b E (fX8_keepsRules_76 n) ih S x1 h
set_option maxRecDepth 20000 in
theorem wX8_keepsRules_14_b {p : Program} {l : Launch} {e : Env} {s : State} {m : MethodId} {args : Array Value} {below : List Frame} {meth : Method} {c : Code} {Z : XG} {r : Int32} {S' : Mem} (E : XE p s m args meth c cX8_keepsRules 2 RX8 none mL Z) (k0 : Mem → Int32 → O)  (hk0 : ∀ (S : Mem) (x1 : Int32), k0 S x1 = some (r, S') → WN p l e { frames := 1, cells := 0, slots := 0, locals := 21 } s m args below meth c mL Z (XV mL Z S') S 14 2 [(0, .ref (Z.2.1 0)), (1, .int x1)] []) : ∀ (S : Mem) (x1 : Int32), fX8_keepsRules_14_b k0 S x1 = some (r, S') → WN p l e { frames := 1, cells := 0, slots := 0, locals := 21 } s m args below meth c mL Z (XV mL Z S') S 14 2 [(0, .ref (Z.2.1 0)), (1, .int x1)] [] := by
  obtain ⟨hx, hb, -, -, -, -, -, -, -, hQ⟩ := id E
  intro S x1 h H locs ls X hl
  unfold fX8_keepsRules_14_b at h
  refine lv_iload_n hx hb dX8_keepsRules_14 rfl (lv_at hl 1 rfl) ?_
  refine lv_bipush (v := (16 : Int32)) hx hb dX8_keepsRules_15 (by decide) ?_
  refine lv_icmp_ge (tgt := 74) hx hb dX8_keepsRules_17 (by decide) (fun c_1 => ?_) (fun c_1 => ?_)
  · have h := if_t c_1 h
    refine lv_iconst (v := (0 : Int32)) hx hb dX8_keepsRules_74 (by decide) ?_
    refine lv_istore_n (lv' := [(1, .int (0 : Int32)), (0, .ref (Z.2.1 0))]) hx hb dX8_keepsRules_75 rfl hl (by decide) rfl (fun ls hl => ?_)
    exact wX8_keepsRules_76 E   FU S (0 : Int32) h _ _ _ X (lv_sub hl [1, 0] rfl)
  · have h := if_f c_1 h
    refine lv_aload_n hx hb dX8_keepsRules_20 rfl (lv_at hl 0 rfl) ?_
    refine x_getr E X ffX8_46 rfl rfl dX8_keepsRules_21 ?_
    refine lv_iload_n hx hb dX8_keepsRules_24 rfl (lv_at hl 1 rfl) ?_
    refine lv_aload_n hx hb dX8_keepsRules_25 rfl (lv_at hl 0 rfl) ?_
    refine lv_aload_n hx hb dX8_keepsRules_26 rfl (lv_at hl 0 rfl) ?_
    refine x_getr E X ffX8_46 rfl rfl dX8_keepsRules_27 ?_
    refine lv_iload_n hx hb dX8_keepsRules_30 rfl (lv_at hl 1 rfl) ?_
    obtain ⟨g_2, h⟩ := gd_s h
    refine x_iald E X rfl g_2 dX8_keepsRules_31 ?_
    obtain ⟨r_3, S_4, hr_3, h⟩ := bnd_s h
    refine x_callV E X cwX8_362 (mX8_kept l Z hQ  (S 13 (x1).toNatClampNeg) hr_3) rfl rfl rfl rfl hl.1 rfl dX8_keepsRules_32 (fun H locs X => ?_)
    obtain ⟨g_5, h⟩ := gd_s h
    obtain ⟨S_6, eS_6, h⟩ := ltm_s h
    refine x_iast E X rfl g_5 dX8_keepsRules_35 (fun H locs X => ?_)
    rw [← eS_6] at X
    refine lv_aload_n hx hb dX8_keepsRules_36 rfl (lv_at hl 0 rfl) ?_
    refine x_getr E X ffX8_49 rfl rfl dX8_keepsRules_37 ?_
    refine lv_iload_n hx hb dX8_keepsRules_40 rfl (lv_at hl 1 rfl) ?_
    refine lv_aload_n hx hb dX8_keepsRules_41 rfl (lv_at hl 0 rfl) ?_
    refine lv_aload_n hx hb dX8_keepsRules_42 rfl (lv_at hl 0 rfl) ?_
    refine x_getr E X ffX8_49 rfl rfl dX8_keepsRules_43 ?_
    refine lv_iload_n hx hb dX8_keepsRules_46 rfl (lv_at hl 1 rfl) ?_
    obtain ⟨g_7, h⟩ := gd_s h
    refine x_iald E X rfl g_7 dX8_keepsRules_47 ?_
    obtain ⟨r_8, S_9, hr_8, h⟩ := bnd_s h
    refine x_callV E X cwX8_362 (mX8_kept l Z hQ  (S_6 14 (x1).toNatClampNeg) hr_8) rfl rfl rfl rfl hl.1 rfl dX8_keepsRules_48 (fun H locs X => ?_)
    obtain ⟨g_10, h⟩ := gd_s h
    obtain ⟨S_11, eS_11, h⟩ := ltm_s h
    refine x_iast E X rfl g_10 dX8_keepsRules_51 (fun H locs X => ?_)
    rw [← eS_11] at X
    refine lv_aload_n hx hb dX8_keepsRules_52 rfl (lv_at hl 0 rfl) ?_
    refine x_getr E X ffX8_52 rfl rfl dX8_keepsRules_53 ?_
    refine lv_iload_n hx hb dX8_keepsRules_56 rfl (lv_at hl 1 rfl) ?_
    refine lv_aload_n hx hb dX8_keepsRules_57 rfl (lv_at hl 0 rfl) ?_
    refine lv_aload_n hx hb dX8_keepsRules_58 rfl (lv_at hl 0 rfl) ?_
    refine x_getr E X ffX8_52 rfl rfl dX8_keepsRules_59 ?_
    refine lv_iload_n hx hb dX8_keepsRules_62 rfl (lv_at hl 1 rfl) ?_
    obtain ⟨g_12, h⟩ := gd_s h
    refine x_iald E X rfl g_12 dX8_keepsRules_63 ?_
    obtain ⟨r_13, S_14, hr_13, h⟩ := bnd_s h
    refine x_callV E X cwX8_362 (mX8_kept l Z hQ  (S_11 15 (x1).toNatClampNeg) hr_13) rfl rfl rfl rfl hl.1 rfl dX8_keepsRules_64 (fun H locs X => ?_)
    obtain ⟨g_15, h⟩ := gd_s h
    obtain ⟨S_16, eS_16, h⟩ := ltm_s h
    refine x_iast E X rfl g_15 dX8_keepsRules_67 (fun H locs X => ?_)
    rw [← eS_16] at X
    refine lv_iinc (v := (x1 + (1 : Int32))) (lv' := [(1, .int (x1 + (1 : Int32))), (0, .ref (Z.2.1 0))]) hx hb dX8_keepsRules_68 hl (k := 1) rfl rfl (by decide) rfl (fun ls hl => ?_)
    refine lv_goto (tgt := 14) hx hb dX8_keepsRules_71 (by decide) ?_
    exact hk0 S_16 (x1 + (1 : Int32)) h _ _ _ X (lv_sub hl [1, 0] rfl)
theorem wX8_keepsRules_14 {p : Program} {l : Launch} {e : Env} {s : State} {m : MethodId} {args : Array Value} {below : List Frame} {meth : Method} {c : Code} {Z : XG} {r : Int32} {S' : Mem} (E : XE p s m args meth c cX8_keepsRules 2 RX8 none mL Z) : ∀ (n : Nat) (S : Mem) (x1 : Int32), fX8_keepsRules_14 n S x1 = some (r, S') → WN p l e { frames := 1, cells := 0, slots := 0, locals := 21 } s m args below meth c mL Z (XV mL Z S') S 14 2 [(0, .ref (Z.2.1 0)), (1, .int x1)] [] := by
  intro n
  induction n with
  | zero => intro S x1 h; exact absurd (show (none : O) = some _ from h) (by simp)
  | succ n ih => intro S x1 h; exact wX8_keepsRules_14_b E (fX8_keepsRules_14 n) ih S x1 h
set_option maxRecDepth 20000 in
theorem wX8_keepsRules {p : Program} {l : Launch} {e : Env} {s : State} {m : MethodId} {args : Array Value} {below : List Frame} {meth : Method} {c : Code} {Z : XG} {r : Int32} {S' : Mem} (E : XE p s m args meth c cX8_keepsRules 2 RX8 none mL Z) : ∀ (S : Mem), fX8_keepsRules  S  = some (r, S') → WN p l e { frames := 1, cells := 0, slots := 0, locals := 21 } s m args below meth c mL Z (XV mL Z S') S 0 2 [(0, .ref (Z.2.1 0))] [] := by
  obtain ⟨hx, hb, -, -, -, -, -, -, -, hQ⟩ := id E
  intro S  h H locs ls X hl
  unfold fX8_keepsRules at h
  refine lv_aload_n hx hb dX8_keepsRules_0 rfl (lv_at hl 0 rfl) ?_
  refine lv_aload_n hx hb dX8_keepsRules_1 rfl (lv_at hl 0 rfl) ?_
  refine lv_aload_n hx hb dX8_keepsRules_2 rfl (lv_at hl 0 rfl) ?_
  refine x_get E X ffX8_224 rfl rfl dX8_keepsRules_3 ?_
  obtain ⟨r_1, S_2, hr_1, h⟩ := bnd_s h
  refine x_callV E X cwX8_362 (mX8_kept l Z hQ  (S 0 22) hr_1) rfl rfl rfl rfl hl.1 rfl dX8_keepsRules_6 (fun H locs X => ?_)
  obtain ⟨S_3, eS_3, h⟩ := ltm_s h
  refine x_put E X fpX8_224 rfl rfl dX8_keepsRules_9 (fun H locs X => ?_)
  rw [← eS_3] at X
  refine lv_iconst (v := (0 : Int32)) hx hb dX8_keepsRules_12 (by decide) ?_
  refine lv_istore_n (lv' := [(1, .int (0 : Int32)), (0, .ref (Z.2.1 0))]) hx hb dX8_keepsRules_13 rfl hl (by decide) rfl (fun ls hl => ?_)
  exact wX8_keepsRules_14 E   FU S_3 (0 : Int32) h _ _ _ X (lv_sub hl [1, 0] rfl)
/-- SevenToAShadowModel.keepsRules()V -/
theorem mX8_keepsRules (l : Launch) (Z : XG) (hQ : wQ (List.length mL) Z) {S S' : Mem} {r : Int32} (h : fX8_keepsRules S  = some (r, S')) : XM l yX8_keepsRules cX8_keepsRules 2 none { frames := 1, cells := 0, slots := 0, locals := 21 } mL Z [.ref (Z.2.1 0)] S (XV mL Z S') := by
  refine XM.of (own := RX8) (by decide +kernel) rfl rfl hQ (fun p e s m args below meth c E ls hl X => ?_)
  exact wX8_keepsRules E S  h _ _ _ X hl
def fX8_image_254_b (k0 : Mem → Int32 → Int32 → O) (S : Mem) (x1 x2 : Int32) : O := (if (800 : Int32) ≤ x2 then bnd (fX8_keepsRules S ) fun _ S_3 => (if x1 = 0 then ltm (mset S_3 0 3 (0 : Int32)) fun S_5 => some ((1 : Int32), S_5) else some ((1 : Int32), S_3)) else gd (inB x2 800) <| bnd (fX8_kept S (S 9 (x2).toNatClampNeg)) fun r_7 S_8 => gd (inB x2 800) <| ltm (mset S_8 9 (x2).toNatClampNeg r_7) fun S_10 => k0 S_10 x1 (x2 + (1 : Int32)))
def fX8_image_254 : Nat → Mem → Int32 → Int32 → O
  | 0 => fun _ _ _ => none
  | n + 1 => fX8_image_254_b (fX8_image_254 n)
def fX8_image_160_b (k0 : Mem → Int32 → Int32 → O) (S : Mem) (x1 x2 : Int32) : O := (if (10 : Int32) ≤ x2 then fX8_image_254  FU S x1 (0 : Int32) else gd (inB x2 10) <| bnd (fX8_kept S (S 5 (x2).toNatClampNeg)) fun r_3 S_4 => gd (inB x2 10) <| ltm (mset S_4 5 (x2).toNatClampNeg r_3) fun S_6 => gd (inB x2 10) <| bnd (fX8_kept S_6 (S_6 6 (x2).toNatClampNeg)) fun r_8 S_9 => gd (inB x2 10) <| ltm (mset S_9 6 (x2).toNatClampNeg r_8) fun S_11 => gd (inB x2 10) <| bnd (fX8_kept S_11 (S_11 7 (x2).toNatClampNeg)) fun r_13 S_14 => gd (inB x2 10) <| ltm (mset S_14 7 (x2).toNatClampNeg r_13) fun S_16 => gd (inB x2 10) <| bnd (fX8_kept S_16 (S_16 8 (x2).toNatClampNeg)) fun r_18 S_19 => gd (inB x2 10) <| ltm (mset S_19 8 (x2).toNatClampNeg r_18) fun S_21 => gd (inB x2 10) <| bnd (fX8_kept S_21 (S_21 10 (x2).toNatClampNeg)) fun r_23 S_24 => gd (inB x2 10) <| ltm (mset S_24 10 (x2).toNatClampNeg r_23) fun S_26 => k0 S_26 x1 (x2 + (1 : Int32)))
def fX8_image_160 : Nat → Mem → Int32 → Int32 → O
  | 0 => fun _ _ _ => none
  | n + 1 => fX8_image_160_b (fX8_image_160 n)
def fX8_image_95_b (k0 : Mem → Int32 → Int32 → O) (S : Mem) (x1 x2 : Int32) : O := (if (2 : Int32) ≤ x2 then bnd (fX8_kept S (S 0 6)) fun r_2 S_3 => ltm (mset S_3 0 6 r_2) fun S_4 => bnd (fX8_kept S_4 (S_4 0 10)) fun r_5 S_6 => ltm (mset S_6 0 10 r_5) fun S_7 => bnd (fX8_kept S_7 (S_7 0 11)) fun r_8 S_9 => ltm (mset S_9 0 11 r_8) fun S_10 => fX8_image_160  FU S_10 x1 (0 : Int32) else gd (inB x2 2) <| bnd (fX8_kept S (S 4 (x2).toNatClampNeg)) fun r_12 S_13 => gd (inB x2 2) <| ltm (mset S_13 4 (x2).toNatClampNeg r_12) fun S_15 => k0 S_15 x1 (x2 + (1 : Int32)))
def fX8_image_95 : Nat → Mem → Int32 → Int32 → O
  | 0 => fun _ _ _ => none
  | n + 1 => fX8_image_95_b (fX8_image_95 n)
def fX8_image_65_b (k0 : Mem → Int32 → Int32 → O) (S : Mem) (x1 x2 : Int32) : O := (if (60 : Int32) ≤ x2 then fX8_image_95  FU S x1 (0 : Int32) else gd (inB x2 60) <| bnd (fX8_kept S (S 3 (x2).toNatClampNeg)) fun r_3 S_4 => gd (inB x2 60) <| ltm (mset S_4 3 (x2).toNatClampNeg r_3) fun S_6 => k0 S_6 x1 (x2 + (1 : Int32)))
def fX8_image_65 : Nat → Mem → Int32 → Int32 → O
  | 0 => fun _ _ _ => none
  | n + 1 => fX8_image_65_b (fX8_image_65 n)
def fX8_image_35_b (k0 : Mem → Int32 → Int32 → O) (S : Mem) (x1 x2 : Int32) : O := (if (55 : Int32) ≤ x2 then fX8_image_65  FU S x1 (0 : Int32) else gd (inB x2 55) <| bnd (fX8_kept S (S 1 (x2).toNatClampNeg)) fun r_3 S_4 => gd (inB x2 55) <| ltm (mset S_4 1 (x2).toNatClampNeg r_3) fun S_6 => k0 S_6 x1 (x2 + (1 : Int32)))
def fX8_image_35 : Nat → Mem → Int32 → Int32 → O
  | 0 => fun _ _ _ => none
  | n + 1 => fX8_image_35_b (fX8_image_35 n)
def fX8_image_18 (S : Mem) (x1 : Int32) : O := gd (isB x1) <| ltm (mset S 0 45 x1) fun S_2 => ltm (mset S_2 0 46 (1 : Int32)) fun S_3 => ltm (mset S_3 0 47 (0 : Int32)) fun S_4 => fX8_image_35  FU S_4 x1 (0 : Int32)
def fX8_image (S : Mem) (x1 : Int32) : O := ltm (mset S 0 0 (0 : Int32)) fun S_1 => (if x1 = 0 then (if (S_1 0 46) = 0 then some ((0 : Int32), S_1) else fX8_image_18  S_1 x1) else fX8_image_18  S_1 x1)
theorem dX8_image_0 : decode cX8_image 0 = .ok (.aload_n 0, 1) := by decide +kernel
theorem dX8_image_1 : decode cX8_image 1 = .ok (.iconst 0, 1) := by decide +kernel
theorem dX8_image_2 : decode cX8_image 2 = .ok (.putfield 92, 3) := by decide +kernel
theorem dX8_image_5 : decode cX8_image 5 = .ok (.iload_n 1, 1) := by decide +kernel
theorem dX8_image_6 : decode cX8_image 6 = .ok (.ifCond .ne 12, 3) := by decide +kernel
theorem dX8_image_9 : decode cX8_image 9 = .ok (.aload_n 0, 1) := by decide +kernel
theorem dX8_image_10 : decode cX8_image 10 = .ok (.getfield 365, 3) := by decide +kernel
theorem dX8_image_13 : decode cX8_image 13 = .ok (.ifCond .ne 5, 3) := by decide +kernel
theorem dX8_image_16 : decode cX8_image 16 = .ok (.iconst 0, 1) := by decide +kernel
theorem dX8_image_17 : decode cX8_image 17 = .ok (.ireturn, 1) := by decide +kernel
theorem dX8_image_18 : decode cX8_image 18 = .ok (.aload_n 0, 1) := by decide +kernel
theorem dX8_image_19 : decode cX8_image 19 = .ok (.iload_n 1, 1) := by decide +kernel
theorem dX8_image_20 : decode cX8_image 20 = .ok (.putfield 358, 3) := by decide +kernel
theorem dX8_image_23 : decode cX8_image 23 = .ok (.aload_n 0, 1) := by decide +kernel
theorem dX8_image_24 : decode cX8_image 24 = .ok (.iconst 1, 1) := by decide +kernel
theorem dX8_image_25 : decode cX8_image 25 = .ok (.putfield 365, 3) := by decide +kernel
theorem dX8_image_28 : decode cX8_image 28 = .ok (.aload_n 0, 1) := by decide +kernel
theorem dX8_image_29 : decode cX8_image 29 = .ok (.iconst 0, 1) := by decide +kernel
theorem dX8_image_30 : decode cX8_image 30 = .ok (.putfield 355, 3) := by decide +kernel
theorem dX8_image_33 : decode cX8_image 33 = .ok (.iconst 0, 1) := by decide +kernel
theorem dX8_image_34 : decode cX8_image 34 = .ok (.istore_n 2, 1) := by decide +kernel
theorem dX8_image_35 : decode cX8_image 35 = .ok (.iload_n 2, 1) := by decide +kernel
theorem dX8_image_36 : decode cX8_image 36 = .ok (.bipush 55, 2) := by decide +kernel
theorem dX8_image_38 : decode cX8_image 38 = .ok (.if_icmp .ge 25, 3) := by decide +kernel
theorem dX8_image_41 : decode cX8_image 41 = .ok (.aload_n 0, 1) := by decide +kernel
theorem dX8_image_42 : decode cX8_image 42 = .ok (.getfield 7, 3) := by decide +kernel
theorem dX8_image_45 : decode cX8_image 45 = .ok (.iload_n 2, 1) := by decide +kernel
theorem dX8_image_46 : decode cX8_image 46 = .ok (.aload_n 0, 1) := by decide +kernel
theorem dX8_image_47 : decode cX8_image 47 = .ok (.aload_n 0, 1) := by decide +kernel
theorem dX8_image_48 : decode cX8_image 48 = .ok (.getfield 7, 3) := by decide +kernel
theorem dX8_image_51 : decode cX8_image 51 = .ok (.iload_n 2, 1) := by decide +kernel
theorem dX8_image_52 : decode cX8_image 52 = .ok (.iaload, 1) := by decide +kernel
theorem dX8_image_53 : decode cX8_image 53 = .ok (.invokevirtual 362, 3) := by decide +kernel
theorem dX8_image_56 : decode cX8_image 56 = .ok (.iastore, 1) := by decide +kernel
theorem dX8_image_57 : decode cX8_image 57 = .ok (.iinc 2 1, 3) := by decide +kernel
theorem dX8_image_60 : decode cX8_image 60 = .ok (.goto (-25), 3) := by decide +kernel
theorem dX8_image_63 : decode cX8_image 63 = .ok (.iconst 0, 1) := by decide +kernel
theorem dX8_image_64 : decode cX8_image 64 = .ok (.istore_n 2, 1) := by decide +kernel
theorem dX8_image_65 : decode cX8_image 65 = .ok (.iload_n 2, 1) := by decide +kernel
theorem dX8_image_66 : decode cX8_image 66 = .ok (.bipush 60, 2) := by decide +kernel
theorem dX8_image_68 : decode cX8_image 68 = .ok (.if_icmp .ge 25, 3) := by decide +kernel
theorem dX8_image_71 : decode cX8_image 71 = .ok (.aload_n 0, 1) := by decide +kernel
theorem dX8_image_72 : decode cX8_image 72 = .ok (.getfield 16, 3) := by decide +kernel
theorem dX8_image_75 : decode cX8_image 75 = .ok (.iload_n 2, 1) := by decide +kernel
theorem dX8_image_76 : decode cX8_image 76 = .ok (.aload_n 0, 1) := by decide +kernel
theorem dX8_image_77 : decode cX8_image 77 = .ok (.aload_n 0, 1) := by decide +kernel
theorem dX8_image_78 : decode cX8_image 78 = .ok (.getfield 16, 3) := by decide +kernel
theorem dX8_image_81 : decode cX8_image 81 = .ok (.iload_n 2, 1) := by decide +kernel
theorem dX8_image_82 : decode cX8_image 82 = .ok (.iaload, 1) := by decide +kernel
theorem dX8_image_83 : decode cX8_image 83 = .ok (.invokevirtual 362, 3) := by decide +kernel
theorem dX8_image_86 : decode cX8_image 86 = .ok (.iastore, 1) := by decide +kernel
theorem dX8_image_87 : decode cX8_image 87 = .ok (.iinc 2 1, 3) := by decide +kernel
theorem dX8_image_90 : decode cX8_image 90 = .ok (.goto (-25), 3) := by decide +kernel
theorem dX8_image_93 : decode cX8_image 93 = .ok (.iconst 0, 1) := by decide +kernel
theorem dX8_image_94 : decode cX8_image 94 = .ok (.istore_n 2, 1) := by decide +kernel
theorem dX8_image_95 : decode cX8_image 95 = .ok (.iload_n 2, 1) := by decide +kernel
theorem dX8_image_96 : decode cX8_image 96 = .ok (.iconst 2, 1) := by decide +kernel
theorem dX8_image_97 : decode cX8_image 97 = .ok (.if_icmp .ge 25, 3) := by decide +kernel
theorem dX8_image_100 : decode cX8_image 100 = .ok (.aload_n 0, 1) := by decide +kernel
theorem dX8_image_101 : decode cX8_image 101 = .ok (.getfield 19, 3) := by decide +kernel
theorem dX8_image_104 : decode cX8_image 104 = .ok (.iload_n 2, 1) := by decide +kernel
theorem dX8_image_105 : decode cX8_image 105 = .ok (.aload_n 0, 1) := by decide +kernel
theorem dX8_image_106 : decode cX8_image 106 = .ok (.aload_n 0, 1) := by decide +kernel
theorem dX8_image_107 : decode cX8_image 107 = .ok (.getfield 19, 3) := by decide +kernel
theorem dX8_image_110 : decode cX8_image 110 = .ok (.iload_n 2, 1) := by decide +kernel
theorem dX8_image_111 : decode cX8_image 111 = .ok (.iaload, 1) := by decide +kernel
theorem dX8_image_112 : decode cX8_image 112 = .ok (.invokevirtual 362, 3) := by decide +kernel
theorem dX8_image_115 : decode cX8_image 115 = .ok (.iastore, 1) := by decide +kernel
theorem dX8_image_116 : decode cX8_image 116 = .ok (.iinc 2 1, 3) := by decide +kernel
theorem dX8_image_119 : decode cX8_image 119 = .ok (.goto (-24), 3) := by decide +kernel
theorem dX8_image_122 : decode cX8_image 122 = .ok (.aload_n 0, 1) := by decide +kernel
theorem dX8_image_123 : decode cX8_image 123 = .ok (.aload_n 0, 1) := by decide +kernel
theorem dX8_image_124 : decode cX8_image 124 = .ok (.aload_n 0, 1) := by decide +kernel
theorem dX8_image_125 : decode cX8_image 125 = .ok (.getfield 100, 3) := by decide +kernel
theorem dX8_image_128 : decode cX8_image 128 = .ok (.invokevirtual 362, 3) := by decide +kernel
theorem dX8_image_131 : decode cX8_image 131 = .ok (.putfield 100, 3) := by decide +kernel
theorem dX8_image_134 : decode cX8_image 134 = .ok (.aload_n 0, 1) := by decide +kernel
theorem dX8_image_135 : decode cX8_image 135 = .ok (.aload_n 0, 1) := by decide +kernel
theorem dX8_image_136 : decode cX8_image 136 = .ok (.aload_n 0, 1) := by decide +kernel
theorem dX8_image_137 : decode cX8_image 137 = .ok (.getfield 124, 3) := by decide +kernel
theorem dX8_image_140 : decode cX8_image 140 = .ok (.invokevirtual 362, 3) := by decide +kernel
theorem dX8_image_143 : decode cX8_image 143 = .ok (.putfield 124, 3) := by decide +kernel
theorem dX8_image_146 : decode cX8_image 146 = .ok (.aload_n 0, 1) := by decide +kernel
theorem dX8_image_147 : decode cX8_image 147 = .ok (.aload_n 0, 1) := by decide +kernel
theorem dX8_image_148 : decode cX8_image 148 = .ok (.aload_n 0, 1) := by decide +kernel
theorem dX8_image_149 : decode cX8_image 149 = .ok (.getfield 127, 3) := by decide +kernel
theorem dX8_image_152 : decode cX8_image 152 = .ok (.invokevirtual 362, 3) := by decide +kernel
theorem dX8_image_155 : decode cX8_image 155 = .ok (.putfield 127, 3) := by decide +kernel
theorem dX8_image_158 : decode cX8_image 158 = .ok (.iconst 0, 1) := by decide +kernel
theorem dX8_image_159 : decode cX8_image 159 = .ok (.istore_n 2, 1) := by decide +kernel
theorem dX8_image_160 : decode cX8_image 160 = .ok (.iload_n 2, 1) := by decide +kernel
theorem dX8_image_161 : decode cX8_image 161 = .ok (.bipush 10, 2) := by decide +kernel
theorem dX8_image_163 : decode cX8_image 163 = .ok (.if_icmp .ge 89, 3) := by decide +kernel
theorem dX8_image_166 : decode cX8_image 166 = .ok (.aload_n 0, 1) := by decide +kernel
theorem dX8_image_167 : decode cX8_image 167 = .ok (.getfield 22, 3) := by decide +kernel
theorem dX8_image_170 : decode cX8_image 170 = .ok (.iload_n 2, 1) := by decide +kernel
theorem dX8_image_171 : decode cX8_image 171 = .ok (.aload_n 0, 1) := by decide +kernel
theorem dX8_image_172 : decode cX8_image 172 = .ok (.aload_n 0, 1) := by decide +kernel
theorem dX8_image_173 : decode cX8_image 173 = .ok (.getfield 22, 3) := by decide +kernel
theorem dX8_image_176 : decode cX8_image 176 = .ok (.iload_n 2, 1) := by decide +kernel
theorem dX8_image_177 : decode cX8_image 177 = .ok (.iaload, 1) := by decide +kernel
theorem dX8_image_178 : decode cX8_image 178 = .ok (.invokevirtual 362, 3) := by decide +kernel
theorem dX8_image_181 : decode cX8_image 181 = .ok (.iastore, 1) := by decide +kernel
theorem dX8_image_182 : decode cX8_image 182 = .ok (.aload_n 0, 1) := by decide +kernel
theorem dX8_image_183 : decode cX8_image 183 = .ok (.getfield 25, 3) := by decide +kernel
theorem dX8_image_186 : decode cX8_image 186 = .ok (.iload_n 2, 1) := by decide +kernel
theorem dX8_image_187 : decode cX8_image 187 = .ok (.aload_n 0, 1) := by decide +kernel
theorem dX8_image_188 : decode cX8_image 188 = .ok (.aload_n 0, 1) := by decide +kernel
theorem dX8_image_189 : decode cX8_image 189 = .ok (.getfield 25, 3) := by decide +kernel
theorem dX8_image_192 : decode cX8_image 192 = .ok (.iload_n 2, 1) := by decide +kernel
theorem dX8_image_193 : decode cX8_image 193 = .ok (.iaload, 1) := by decide +kernel
theorem dX8_image_194 : decode cX8_image 194 = .ok (.invokevirtual 362, 3) := by decide +kernel
theorem dX8_image_197 : decode cX8_image 197 = .ok (.iastore, 1) := by decide +kernel
theorem dX8_image_198 : decode cX8_image 198 = .ok (.aload_n 0, 1) := by decide +kernel
theorem dX8_image_199 : decode cX8_image 199 = .ok (.getfield 28, 3) := by decide +kernel
theorem dX8_image_202 : decode cX8_image 202 = .ok (.iload_n 2, 1) := by decide +kernel
theorem dX8_image_203 : decode cX8_image 203 = .ok (.aload_n 0, 1) := by decide +kernel
theorem dX8_image_204 : decode cX8_image 204 = .ok (.aload_n 0, 1) := by decide +kernel
theorem dX8_image_205 : decode cX8_image 205 = .ok (.getfield 28, 3) := by decide +kernel
theorem dX8_image_208 : decode cX8_image 208 = .ok (.iload_n 2, 1) := by decide +kernel
theorem dX8_image_209 : decode cX8_image 209 = .ok (.iaload, 1) := by decide +kernel
theorem dX8_image_210 : decode cX8_image 210 = .ok (.invokevirtual 362, 3) := by decide +kernel
theorem dX8_image_213 : decode cX8_image 213 = .ok (.iastore, 1) := by decide +kernel
theorem dX8_image_214 : decode cX8_image 214 = .ok (.aload_n 0, 1) := by decide +kernel
theorem dX8_image_215 : decode cX8_image 215 = .ok (.getfield 31, 3) := by decide +kernel
theorem dX8_image_218 : decode cX8_image 218 = .ok (.iload_n 2, 1) := by decide +kernel
theorem dX8_image_219 : decode cX8_image 219 = .ok (.aload_n 0, 1) := by decide +kernel
theorem dX8_image_220 : decode cX8_image 220 = .ok (.aload_n 0, 1) := by decide +kernel
theorem dX8_image_221 : decode cX8_image 221 = .ok (.getfield 31, 3) := by decide +kernel
theorem dX8_image_224 : decode cX8_image 224 = .ok (.iload_n 2, 1) := by decide +kernel
theorem dX8_image_225 : decode cX8_image 225 = .ok (.iaload, 1) := by decide +kernel
theorem dX8_image_226 : decode cX8_image 226 = .ok (.invokevirtual 362, 3) := by decide +kernel
theorem dX8_image_229 : decode cX8_image 229 = .ok (.iastore, 1) := by decide +kernel
theorem dX8_image_230 : decode cX8_image 230 = .ok (.aload_n 0, 1) := by decide +kernel
theorem dX8_image_231 : decode cX8_image 231 = .ok (.getfield 37, 3) := by decide +kernel
theorem dX8_image_234 : decode cX8_image 234 = .ok (.iload_n 2, 1) := by decide +kernel
theorem dX8_image_235 : decode cX8_image 235 = .ok (.aload_n 0, 1) := by decide +kernel
theorem dX8_image_236 : decode cX8_image 236 = .ok (.aload_n 0, 1) := by decide +kernel
theorem dX8_image_237 : decode cX8_image 237 = .ok (.getfield 37, 3) := by decide +kernel
theorem dX8_image_240 : decode cX8_image 240 = .ok (.iload_n 2, 1) := by decide +kernel
theorem dX8_image_241 : decode cX8_image 241 = .ok (.iaload, 1) := by decide +kernel
theorem dX8_image_242 : decode cX8_image 242 = .ok (.invokevirtual 362, 3) := by decide +kernel
theorem dX8_image_245 : decode cX8_image 245 = .ok (.iastore, 1) := by decide +kernel
theorem dX8_image_246 : decode cX8_image 246 = .ok (.iinc 2 1, 3) := by decide +kernel
theorem dX8_image_249 : decode cX8_image 249 = .ok (.goto (-89), 3) := by decide +kernel
theorem dX8_image_252 : decode cX8_image 252 = .ok (.iconst 0, 1) := by decide +kernel
theorem dX8_image_253 : decode cX8_image 253 = .ok (.istore_n 2, 1) := by decide +kernel
theorem dX8_image_254 : decode cX8_image 254 = .ok (.iload_n 2, 1) := by decide +kernel
theorem dX8_image_255 : decode cX8_image 255 = .ok (.sipush 800, 3) := by decide +kernel
theorem dX8_image_258 : decode cX8_image 258 = .ok (.if_icmp .ge 25, 3) := by decide +kernel
theorem dX8_image_261 : decode cX8_image 261 = .ok (.aload_n 0, 1) := by decide +kernel
theorem dX8_image_262 : decode cX8_image 262 = .ok (.getfield 34, 3) := by decide +kernel
theorem dX8_image_265 : decode cX8_image 265 = .ok (.iload_n 2, 1) := by decide +kernel
theorem dX8_image_266 : decode cX8_image 266 = .ok (.aload_n 0, 1) := by decide +kernel
theorem dX8_image_267 : decode cX8_image 267 = .ok (.aload_n 0, 1) := by decide +kernel
theorem dX8_image_268 : decode cX8_image 268 = .ok (.getfield 34, 3) := by decide +kernel
theorem dX8_image_271 : decode cX8_image 271 = .ok (.iload_n 2, 1) := by decide +kernel
theorem dX8_image_272 : decode cX8_image 272 = .ok (.iaload, 1) := by decide +kernel
theorem dX8_image_273 : decode cX8_image 273 = .ok (.invokevirtual 362, 3) := by decide +kernel
theorem dX8_image_276 : decode cX8_image 276 = .ok (.iastore, 1) := by decide +kernel
theorem dX8_image_277 : decode cX8_image 277 = .ok (.iinc 2 1, 3) := by decide +kernel
theorem dX8_image_280 : decode cX8_image 280 = .ok (.goto (-26), 3) := by decide +kernel
theorem dX8_image_283 : decode cX8_image 283 = .ok (.aload_n 0, 1) := by decide +kernel
theorem dX8_image_284 : decode cX8_image 284 = .ok (.invokevirtual 368, 3) := by decide +kernel
theorem dX8_image_287 : decode cX8_image 287 = .ok (.iload_n 1, 1) := by decide +kernel
theorem dX8_image_288 : decode cX8_image 288 = .ok (.ifCond .ne 8, 3) := by decide +kernel
theorem dX8_image_291 : decode cX8_image 291 = .ok (.aload_n 0, 1) := by decide +kernel
theorem dX8_image_292 : decode cX8_image 292 = .ok (.iconst 0, 1) := by decide +kernel
theorem dX8_image_293 : decode cX8_image 293 = .ok (.putfield 95, 3) := by decide +kernel
theorem dX8_image_296 : decode cX8_image 296 = .ok (.iconst 1, 1) := by decide +kernel
theorem dX8_image_297 : decode cX8_image 297 = .ok (.ireturn, 1) := by decide +kernel
set_option maxRecDepth 20000 in
theorem wX8_image_254_b {p : Program} {l : Launch} {e : Env} {s : State} {m : MethodId} {args : Array Value} {below : List Frame} {meth : Method} {c : Code} {Z : XG} {r : Int32} {S' : Mem} (E : XE p s m args meth c cX8_image 3 RX8 (some .boolean) mL Z) (k0 : Mem → Int32 → Int32 → O)  (hk0 : ∀ (S : Mem) (x1 x2 : Int32), k0 S x1 x2 = some (r, S') → WN p l e { frames := 2, cells := 0, slots := 0, locals := 42 } s m args below meth c mL Z (XQ mL Z r S') S 254 3 [(0, .ref (Z.2.1 0)), (1, .int x1), (2, .int x2)] []) : ∀ (S : Mem) (x1 x2 : Int32), fX8_image_254_b k0 S x1 x2 = some (r, S') → WN p l e { frames := 2, cells := 0, slots := 0, locals := 42 } s m args below meth c mL Z (XQ mL Z r S') S 254 3 [(0, .ref (Z.2.1 0)), (1, .int x1), (2, .int x2)] [] := by
  obtain ⟨hx, hb, -, -, -, -, -, -, -, hQ⟩ := id E
  intro S x1 x2 h H locs ls X hl
  unfold fX8_image_254_b at h
  refine lv_iload_n hx hb dX8_image_254 rfl (lv_at hl 2 rfl) ?_
  refine lv_sipush (v := (800 : Int32)) hx hb dX8_image_255 (by decide) ?_
  refine lv_icmp_ge (tgt := 283) hx hb dX8_image_258 (by decide) (fun c_1 => ?_) (fun c_1 => ?_)
  · have h := if_t c_1 h
    refine lv_aload_n hx hb dX8_image_283 rfl (lv_at hl 0 rfl) ?_
    obtain ⟨r_2, S_3, hr_2, h⟩ := bnd_s h
    refine x_callVv E X cwX8_368 (mX8_keepsRules l Z hQ   hr_2) rfl rfl rfl rfl hl.1 rfl dX8_image_284 (fun H locs X => ?_)
    refine lv_iload_n hx hb dX8_image_287 rfl (lv_at hl 1 rfl) ?_
    refine lv_if_ne (tgt := 296) hx hb dX8_image_288 (by decide) (fun c_4 => ?_) (fun c_4 => ?_)
    · have h := if_f c_4 h
      refine lv_iconst (v := (1 : Int32)) hx hb dX8_image_296 (by decide) ?_
      exact x_zret E X rfl h dX8_image_297
    · have h := if_t c_4 h
      refine lv_aload_n hx hb dX8_image_291 rfl (lv_at hl 0 rfl) ?_
      refine lv_iconst (v := (0 : Int32)) hx hb dX8_image_292 (by decide) ?_
      obtain ⟨S_5, eS_5, h⟩ := ltm_s h
      refine x_put E X fpX8_95 rfl rfl dX8_image_293 (fun H locs X => ?_)
      rw [← eS_5] at X
      refine lv_iconst (v := (1 : Int32)) hx hb dX8_image_296 (by decide) ?_
      exact x_zret E X rfl h dX8_image_297
  · have h := if_f c_1 h
    refine lv_aload_n hx hb dX8_image_261 rfl (lv_at hl 0 rfl) ?_
    refine x_getr E X ffX8_34 rfl rfl dX8_image_262 ?_
    refine lv_iload_n hx hb dX8_image_265 rfl (lv_at hl 2 rfl) ?_
    refine lv_aload_n hx hb dX8_image_266 rfl (lv_at hl 0 rfl) ?_
    refine lv_aload_n hx hb dX8_image_267 rfl (lv_at hl 0 rfl) ?_
    refine x_getr E X ffX8_34 rfl rfl dX8_image_268 ?_
    refine lv_iload_n hx hb dX8_image_271 rfl (lv_at hl 2 rfl) ?_
    obtain ⟨g_6, h⟩ := gd_s h
    refine x_iald E X rfl g_6 dX8_image_272 ?_
    obtain ⟨r_7, S_8, hr_7, h⟩ := bnd_s h
    refine x_callV E X cwX8_362 (mX8_kept l Z hQ  (S 9 (x2).toNatClampNeg) hr_7) rfl rfl rfl rfl hl.1 rfl dX8_image_273 (fun H locs X => ?_)
    obtain ⟨g_9, h⟩ := gd_s h
    obtain ⟨S_10, eS_10, h⟩ := ltm_s h
    refine x_iast E X rfl g_9 dX8_image_276 (fun H locs X => ?_)
    rw [← eS_10] at X
    refine lv_iinc (v := (x2 + (1 : Int32))) (lv' := [(2, .int (x2 + (1 : Int32))), (0, .ref (Z.2.1 0)), (1, .int x1)]) hx hb dX8_image_277 hl (k := 2) rfl rfl (by decide) rfl (fun ls hl => ?_)
    refine lv_goto (tgt := 254) hx hb dX8_image_280 (by decide) ?_
    exact hk0 S_10 x1 (x2 + (1 : Int32)) h _ _ _ X (lv_sub hl [1, 2, 0] rfl)
theorem wX8_image_254 {p : Program} {l : Launch} {e : Env} {s : State} {m : MethodId} {args : Array Value} {below : List Frame} {meth : Method} {c : Code} {Z : XG} {r : Int32} {S' : Mem} (E : XE p s m args meth c cX8_image 3 RX8 (some .boolean) mL Z) : ∀ (n : Nat) (S : Mem) (x1 x2 : Int32), fX8_image_254 n S x1 x2 = some (r, S') → WN p l e { frames := 2, cells := 0, slots := 0, locals := 42 } s m args below meth c mL Z (XQ mL Z r S') S 254 3 [(0, .ref (Z.2.1 0)), (1, .int x1), (2, .int x2)] [] := by
  intro n
  induction n with
  | zero => intro S x1 x2 h; exact absurd (show (none : O) = some _ from h) (by simp)
  | succ n ih => intro S x1 x2 h; exact wX8_image_254_b E (fX8_image_254 n) ih S x1 x2 h
set_option maxRecDepth 20000 in
theorem wX8_image_160_b {p : Program} {l : Launch} {e : Env} {s : State} {m : MethodId} {args : Array Value} {below : List Frame} {meth : Method} {c : Code} {Z : XG} {r : Int32} {S' : Mem} (E : XE p s m args meth c cX8_image 3 RX8 (some .boolean) mL Z) (k0 : Mem → Int32 → Int32 → O)  (hk0 : ∀ (S : Mem) (x1 x2 : Int32), k0 S x1 x2 = some (r, S') → WN p l e { frames := 2, cells := 0, slots := 0, locals := 42 } s m args below meth c mL Z (XQ mL Z r S') S 160 3 [(0, .ref (Z.2.1 0)), (1, .int x1), (2, .int x2)] []) : ∀ (S : Mem) (x1 x2 : Int32), fX8_image_160_b k0 S x1 x2 = some (r, S') → WN p l e { frames := 2, cells := 0, slots := 0, locals := 42 } s m args below meth c mL Z (XQ mL Z r S') S 160 3 [(0, .ref (Z.2.1 0)), (1, .int x1), (2, .int x2)] [] := by
  obtain ⟨hx, hb, -, -, -, -, -, -, -, hQ⟩ := id E
  intro S x1 x2 h H locs ls X hl
  unfold fX8_image_160_b at h
  refine lv_iload_n hx hb dX8_image_160 rfl (lv_at hl 2 rfl) ?_
  refine lv_bipush (v := (10 : Int32)) hx hb dX8_image_161 (by decide) ?_
  refine lv_icmp_ge (tgt := 252) hx hb dX8_image_163 (by decide) (fun c_1 => ?_) (fun c_1 => ?_)
  · have h := if_t c_1 h
    refine lv_iconst (v := (0 : Int32)) hx hb dX8_image_252 (by decide) ?_
    refine lv_istore_n (lv' := [(2, .int (0 : Int32)), (0, .ref (Z.2.1 0)), (1, .int x1)]) hx hb dX8_image_253 rfl hl (by decide) rfl (fun ls hl => ?_)
    exact wX8_image_254 E   FU S x1 (0 : Int32) h _ _ _ X (lv_sub hl [1, 2, 0] rfl)
  · have h := if_f c_1 h
    refine lv_aload_n hx hb dX8_image_166 rfl (lv_at hl 0 rfl) ?_
    refine x_getr E X ffX8_22 rfl rfl dX8_image_167 ?_
    refine lv_iload_n hx hb dX8_image_170 rfl (lv_at hl 2 rfl) ?_
    refine lv_aload_n hx hb dX8_image_171 rfl (lv_at hl 0 rfl) ?_
    refine lv_aload_n hx hb dX8_image_172 rfl (lv_at hl 0 rfl) ?_
    refine x_getr E X ffX8_22 rfl rfl dX8_image_173 ?_
    refine lv_iload_n hx hb dX8_image_176 rfl (lv_at hl 2 rfl) ?_
    obtain ⟨g_2, h⟩ := gd_s h
    refine x_iald E X rfl g_2 dX8_image_177 ?_
    obtain ⟨r_3, S_4, hr_3, h⟩ := bnd_s h
    refine x_callV E X cwX8_362 (mX8_kept l Z hQ  (S 5 (x2).toNatClampNeg) hr_3) rfl rfl rfl rfl hl.1 rfl dX8_image_178 (fun H locs X => ?_)
    obtain ⟨g_5, h⟩ := gd_s h
    obtain ⟨S_6, eS_6, h⟩ := ltm_s h
    refine x_iast E X rfl g_5 dX8_image_181 (fun H locs X => ?_)
    rw [← eS_6] at X
    refine lv_aload_n hx hb dX8_image_182 rfl (lv_at hl 0 rfl) ?_
    refine x_getr E X ffX8_25 rfl rfl dX8_image_183 ?_
    refine lv_iload_n hx hb dX8_image_186 rfl (lv_at hl 2 rfl) ?_
    refine lv_aload_n hx hb dX8_image_187 rfl (lv_at hl 0 rfl) ?_
    refine lv_aload_n hx hb dX8_image_188 rfl (lv_at hl 0 rfl) ?_
    refine x_getr E X ffX8_25 rfl rfl dX8_image_189 ?_
    refine lv_iload_n hx hb dX8_image_192 rfl (lv_at hl 2 rfl) ?_
    obtain ⟨g_7, h⟩ := gd_s h
    refine x_iald E X rfl g_7 dX8_image_193 ?_
    obtain ⟨r_8, S_9, hr_8, h⟩ := bnd_s h
    refine x_callV E X cwX8_362 (mX8_kept l Z hQ  (S_6 6 (x2).toNatClampNeg) hr_8) rfl rfl rfl rfl hl.1 rfl dX8_image_194 (fun H locs X => ?_)
    obtain ⟨g_10, h⟩ := gd_s h
    obtain ⟨S_11, eS_11, h⟩ := ltm_s h
    refine x_iast E X rfl g_10 dX8_image_197 (fun H locs X => ?_)
    rw [← eS_11] at X
    refine lv_aload_n hx hb dX8_image_198 rfl (lv_at hl 0 rfl) ?_
    refine x_getr E X ffX8_28 rfl rfl dX8_image_199 ?_
    refine lv_iload_n hx hb dX8_image_202 rfl (lv_at hl 2 rfl) ?_
    refine lv_aload_n hx hb dX8_image_203 rfl (lv_at hl 0 rfl) ?_
    refine lv_aload_n hx hb dX8_image_204 rfl (lv_at hl 0 rfl) ?_
    refine x_getr E X ffX8_28 rfl rfl dX8_image_205 ?_
    refine lv_iload_n hx hb dX8_image_208 rfl (lv_at hl 2 rfl) ?_
    obtain ⟨g_12, h⟩ := gd_s h
    refine x_iald E X rfl g_12 dX8_image_209 ?_
    obtain ⟨r_13, S_14, hr_13, h⟩ := bnd_s h
    refine x_callV E X cwX8_362 (mX8_kept l Z hQ  (S_11 7 (x2).toNatClampNeg) hr_13) rfl rfl rfl rfl hl.1 rfl dX8_image_210 (fun H locs X => ?_)
    obtain ⟨g_15, h⟩ := gd_s h
    obtain ⟨S_16, eS_16, h⟩ := ltm_s h
    refine x_iast E X rfl g_15 dX8_image_213 (fun H locs X => ?_)
    rw [← eS_16] at X
    refine lv_aload_n hx hb dX8_image_214 rfl (lv_at hl 0 rfl) ?_
    refine x_getr E X ffX8_31 rfl rfl dX8_image_215 ?_
    refine lv_iload_n hx hb dX8_image_218 rfl (lv_at hl 2 rfl) ?_
    refine lv_aload_n hx hb dX8_image_219 rfl (lv_at hl 0 rfl) ?_
    refine lv_aload_n hx hb dX8_image_220 rfl (lv_at hl 0 rfl) ?_
    refine x_getr E X ffX8_31 rfl rfl dX8_image_221 ?_
    refine lv_iload_n hx hb dX8_image_224 rfl (lv_at hl 2 rfl) ?_
    obtain ⟨g_17, h⟩ := gd_s h
    refine x_iald E X rfl g_17 dX8_image_225 ?_
    obtain ⟨r_18, S_19, hr_18, h⟩ := bnd_s h
    refine x_callV E X cwX8_362 (mX8_kept l Z hQ  (S_16 8 (x2).toNatClampNeg) hr_18) rfl rfl rfl rfl hl.1 rfl dX8_image_226 (fun H locs X => ?_)
    obtain ⟨g_20, h⟩ := gd_s h
    obtain ⟨S_21, eS_21, h⟩ := ltm_s h
    refine x_iast E X rfl g_20 dX8_image_229 (fun H locs X => ?_)
    rw [← eS_21] at X
    refine lv_aload_n hx hb dX8_image_230 rfl (lv_at hl 0 rfl) ?_
    refine x_getr E X ffX8_37 rfl rfl dX8_image_231 ?_
    refine lv_iload_n hx hb dX8_image_234 rfl (lv_at hl 2 rfl) ?_
    refine lv_aload_n hx hb dX8_image_235 rfl (lv_at hl 0 rfl) ?_
    refine lv_aload_n hx hb dX8_image_236 rfl (lv_at hl 0 rfl) ?_
    refine x_getr E X ffX8_37 rfl rfl dX8_image_237 ?_
    refine lv_iload_n hx hb dX8_image_240 rfl (lv_at hl 2 rfl) ?_
    obtain ⟨g_22, h⟩ := gd_s h
    refine x_iald E X rfl g_22 dX8_image_241 ?_
    obtain ⟨r_23, S_24, hr_23, h⟩ := bnd_s h
    refine x_callV E X cwX8_362 (mX8_kept l Z hQ  (S_21 10 (x2).toNatClampNeg) hr_23) rfl rfl rfl rfl hl.1 rfl dX8_image_242 (fun H locs X => ?_)
    obtain ⟨g_25, h⟩ := gd_s h
    obtain ⟨S_26, eS_26, h⟩ := ltm_s h
    refine x_iast E X rfl g_25 dX8_image_245 (fun H locs X => ?_)
    rw [← eS_26] at X
    refine lv_iinc (v := (x2 + (1 : Int32))) (lv' := [(2, .int (x2 + (1 : Int32))), (0, .ref (Z.2.1 0)), (1, .int x1)]) hx hb dX8_image_246 hl (k := 2) rfl rfl (by decide) rfl (fun ls hl => ?_)
    refine lv_goto (tgt := 160) hx hb dX8_image_249 (by decide) ?_
    exact hk0 S_26 x1 (x2 + (1 : Int32)) h _ _ _ X (lv_sub hl [1, 2, 0] rfl)
theorem wX8_image_160 {p : Program} {l : Launch} {e : Env} {s : State} {m : MethodId} {args : Array Value} {below : List Frame} {meth : Method} {c : Code} {Z : XG} {r : Int32} {S' : Mem} (E : XE p s m args meth c cX8_image 3 RX8 (some .boolean) mL Z) : ∀ (n : Nat) (S : Mem) (x1 x2 : Int32), fX8_image_160 n S x1 x2 = some (r, S') → WN p l e { frames := 2, cells := 0, slots := 0, locals := 42 } s m args below meth c mL Z (XQ mL Z r S') S 160 3 [(0, .ref (Z.2.1 0)), (1, .int x1), (2, .int x2)] [] := by
  intro n
  induction n with
  | zero => intro S x1 x2 h; exact absurd (show (none : O) = some _ from h) (by simp)
  | succ n ih => intro S x1 x2 h; exact wX8_image_160_b E (fX8_image_160 n) ih S x1 x2 h
set_option maxRecDepth 20000 in
theorem wX8_image_95_b {p : Program} {l : Launch} {e : Env} {s : State} {m : MethodId} {args : Array Value} {below : List Frame} {meth : Method} {c : Code} {Z : XG} {r : Int32} {S' : Mem} (E : XE p s m args meth c cX8_image 3 RX8 (some .boolean) mL Z) (k0 : Mem → Int32 → Int32 → O)  (hk0 : ∀ (S : Mem) (x1 x2 : Int32), k0 S x1 x2 = some (r, S') → WN p l e { frames := 2, cells := 0, slots := 0, locals := 42 } s m args below meth c mL Z (XQ mL Z r S') S 95 3 [(0, .ref (Z.2.1 0)), (1, .int x1), (2, .int x2)] []) : ∀ (S : Mem) (x1 x2 : Int32), fX8_image_95_b k0 S x1 x2 = some (r, S') → WN p l e { frames := 2, cells := 0, slots := 0, locals := 42 } s m args below meth c mL Z (XQ mL Z r S') S 95 3 [(0, .ref (Z.2.1 0)), (1, .int x1), (2, .int x2)] [] := by
  obtain ⟨hx, hb, -, -, -, -, -, -, -, hQ⟩ := id E
  intro S x1 x2 h H locs ls X hl
  unfold fX8_image_95_b at h
  refine lv_iload_n hx hb dX8_image_95 rfl (lv_at hl 2 rfl) ?_
  refine lv_iconst (v := (2 : Int32)) hx hb dX8_image_96 (by decide) ?_
  refine lv_icmp_ge (tgt := 122) hx hb dX8_image_97 (by decide) (fun c_1 => ?_) (fun c_1 => ?_)
  · have h := if_t c_1 h
    refine lv_aload_n hx hb dX8_image_122 rfl (lv_at hl 0 rfl) ?_
    refine lv_aload_n hx hb dX8_image_123 rfl (lv_at hl 0 rfl) ?_
    refine lv_aload_n hx hb dX8_image_124 rfl (lv_at hl 0 rfl) ?_
    refine x_get E X ffX8_100 rfl rfl dX8_image_125 ?_
    obtain ⟨r_2, S_3, hr_2, h⟩ := bnd_s h
    refine x_callV E X cwX8_362 (mX8_kept l Z hQ  (S 0 6) hr_2) rfl rfl rfl rfl hl.1 rfl dX8_image_128 (fun H locs X => ?_)
    obtain ⟨S_4, eS_4, h⟩ := ltm_s h
    refine x_put E X fpX8_100 rfl rfl dX8_image_131 (fun H locs X => ?_)
    rw [← eS_4] at X
    refine lv_aload_n hx hb dX8_image_134 rfl (lv_at hl 0 rfl) ?_
    refine lv_aload_n hx hb dX8_image_135 rfl (lv_at hl 0 rfl) ?_
    refine lv_aload_n hx hb dX8_image_136 rfl (lv_at hl 0 rfl) ?_
    refine x_get E X ffX8_124 rfl rfl dX8_image_137 ?_
    obtain ⟨r_5, S_6, hr_5, h⟩ := bnd_s h
    refine x_callV E X cwX8_362 (mX8_kept l Z hQ  (S_4 0 10) hr_5) rfl rfl rfl rfl hl.1 rfl dX8_image_140 (fun H locs X => ?_)
    obtain ⟨S_7, eS_7, h⟩ := ltm_s h
    refine x_put E X fpX8_124 rfl rfl dX8_image_143 (fun H locs X => ?_)
    rw [← eS_7] at X
    refine lv_aload_n hx hb dX8_image_146 rfl (lv_at hl 0 rfl) ?_
    refine lv_aload_n hx hb dX8_image_147 rfl (lv_at hl 0 rfl) ?_
    refine lv_aload_n hx hb dX8_image_148 rfl (lv_at hl 0 rfl) ?_
    refine x_get E X ffX8_127 rfl rfl dX8_image_149 ?_
    obtain ⟨r_8, S_9, hr_8, h⟩ := bnd_s h
    refine x_callV E X cwX8_362 (mX8_kept l Z hQ  (S_7 0 11) hr_8) rfl rfl rfl rfl hl.1 rfl dX8_image_152 (fun H locs X => ?_)
    obtain ⟨S_10, eS_10, h⟩ := ltm_s h
    refine x_put E X fpX8_127 rfl rfl dX8_image_155 (fun H locs X => ?_)
    rw [← eS_10] at X
    refine lv_iconst (v := (0 : Int32)) hx hb dX8_image_158 (by decide) ?_
    refine lv_istore_n (lv' := [(2, .int (0 : Int32)), (0, .ref (Z.2.1 0)), (1, .int x1)]) hx hb dX8_image_159 rfl hl (by decide) rfl (fun ls hl => ?_)
    exact wX8_image_160 E   FU S_10 x1 (0 : Int32) h _ _ _ X (lv_sub hl [1, 2, 0] rfl)
  · have h := if_f c_1 h
    refine lv_aload_n hx hb dX8_image_100 rfl (lv_at hl 0 rfl) ?_
    refine x_getr E X ffX8_19 rfl rfl dX8_image_101 ?_
    refine lv_iload_n hx hb dX8_image_104 rfl (lv_at hl 2 rfl) ?_
    refine lv_aload_n hx hb dX8_image_105 rfl (lv_at hl 0 rfl) ?_
    refine lv_aload_n hx hb dX8_image_106 rfl (lv_at hl 0 rfl) ?_
    refine x_getr E X ffX8_19 rfl rfl dX8_image_107 ?_
    refine lv_iload_n hx hb dX8_image_110 rfl (lv_at hl 2 rfl) ?_
    obtain ⟨g_11, h⟩ := gd_s h
    refine x_iald E X rfl g_11 dX8_image_111 ?_
    obtain ⟨r_12, S_13, hr_12, h⟩ := bnd_s h
    refine x_callV E X cwX8_362 (mX8_kept l Z hQ  (S 4 (x2).toNatClampNeg) hr_12) rfl rfl rfl rfl hl.1 rfl dX8_image_112 (fun H locs X => ?_)
    obtain ⟨g_14, h⟩ := gd_s h
    obtain ⟨S_15, eS_15, h⟩ := ltm_s h
    refine x_iast E X rfl g_14 dX8_image_115 (fun H locs X => ?_)
    rw [← eS_15] at X
    refine lv_iinc (v := (x2 + (1 : Int32))) (lv' := [(2, .int (x2 + (1 : Int32))), (0, .ref (Z.2.1 0)), (1, .int x1)]) hx hb dX8_image_116 hl (k := 2) rfl rfl (by decide) rfl (fun ls hl => ?_)
    refine lv_goto (tgt := 95) hx hb dX8_image_119 (by decide) ?_
    exact hk0 S_15 x1 (x2 + (1 : Int32)) h _ _ _ X (lv_sub hl [1, 2, 0] rfl)
theorem wX8_image_95 {p : Program} {l : Launch} {e : Env} {s : State} {m : MethodId} {args : Array Value} {below : List Frame} {meth : Method} {c : Code} {Z : XG} {r : Int32} {S' : Mem} (E : XE p s m args meth c cX8_image 3 RX8 (some .boolean) mL Z) : ∀ (n : Nat) (S : Mem) (x1 x2 : Int32), fX8_image_95 n S x1 x2 = some (r, S') → WN p l e { frames := 2, cells := 0, slots := 0, locals := 42 } s m args below meth c mL Z (XQ mL Z r S') S 95 3 [(0, .ref (Z.2.1 0)), (1, .int x1), (2, .int x2)] [] := by
  intro n
  induction n with
  | zero => intro S x1 x2 h; exact absurd (show (none : O) = some _ from h) (by simp)
  | succ n ih => intro S x1 x2 h; exact wX8_image_95_b E (fX8_image_95 n) ih S x1 x2 h
set_option maxRecDepth 20000 in
theorem wX8_image_65_b {p : Program} {l : Launch} {e : Env} {s : State} {m : MethodId} {args : Array Value} {below : List Frame} {meth : Method} {c : Code} {Z : XG} {r : Int32} {S' : Mem} (E : XE p s m args meth c cX8_image 3 RX8 (some .boolean) mL Z) (k0 : Mem → Int32 → Int32 → O)  (hk0 : ∀ (S : Mem) (x1 x2 : Int32), k0 S x1 x2 = some (r, S') → WN p l e { frames := 2, cells := 0, slots := 0, locals := 42 } s m args below meth c mL Z (XQ mL Z r S') S 65 3 [(0, .ref (Z.2.1 0)), (1, .int x1), (2, .int x2)] []) : ∀ (S : Mem) (x1 x2 : Int32), fX8_image_65_b k0 S x1 x2 = some (r, S') → WN p l e { frames := 2, cells := 0, slots := 0, locals := 42 } s m args below meth c mL Z (XQ mL Z r S') S 65 3 [(0, .ref (Z.2.1 0)), (1, .int x1), (2, .int x2)] [] := by
  obtain ⟨hx, hb, -, -, -, -, -, -, -, hQ⟩ := id E
  intro S x1 x2 h H locs ls X hl
  unfold fX8_image_65_b at h
  refine lv_iload_n hx hb dX8_image_65 rfl (lv_at hl 2 rfl) ?_
  refine lv_bipush (v := (60 : Int32)) hx hb dX8_image_66 (by decide) ?_
  refine lv_icmp_ge (tgt := 93) hx hb dX8_image_68 (by decide) (fun c_1 => ?_) (fun c_1 => ?_)
  · have h := if_t c_1 h
    refine lv_iconst (v := (0 : Int32)) hx hb dX8_image_93 (by decide) ?_
    refine lv_istore_n (lv' := [(2, .int (0 : Int32)), (0, .ref (Z.2.1 0)), (1, .int x1)]) hx hb dX8_image_94 rfl hl (by decide) rfl (fun ls hl => ?_)
    exact wX8_image_95 E   FU S x1 (0 : Int32) h _ _ _ X (lv_sub hl [1, 2, 0] rfl)
  · have h := if_f c_1 h
    refine lv_aload_n hx hb dX8_image_71 rfl (lv_at hl 0 rfl) ?_
    refine x_getr E X ffX8_16 rfl rfl dX8_image_72 ?_
    refine lv_iload_n hx hb dX8_image_75 rfl (lv_at hl 2 rfl) ?_
    refine lv_aload_n hx hb dX8_image_76 rfl (lv_at hl 0 rfl) ?_
    refine lv_aload_n hx hb dX8_image_77 rfl (lv_at hl 0 rfl) ?_
    refine x_getr E X ffX8_16 rfl rfl dX8_image_78 ?_
    refine lv_iload_n hx hb dX8_image_81 rfl (lv_at hl 2 rfl) ?_
    obtain ⟨g_2, h⟩ := gd_s h
    refine x_iald E X rfl g_2 dX8_image_82 ?_
    obtain ⟨r_3, S_4, hr_3, h⟩ := bnd_s h
    refine x_callV E X cwX8_362 (mX8_kept l Z hQ  (S 3 (x2).toNatClampNeg) hr_3) rfl rfl rfl rfl hl.1 rfl dX8_image_83 (fun H locs X => ?_)
    obtain ⟨g_5, h⟩ := gd_s h
    obtain ⟨S_6, eS_6, h⟩ := ltm_s h
    refine x_iast E X rfl g_5 dX8_image_86 (fun H locs X => ?_)
    rw [← eS_6] at X
    refine lv_iinc (v := (x2 + (1 : Int32))) (lv' := [(2, .int (x2 + (1 : Int32))), (0, .ref (Z.2.1 0)), (1, .int x1)]) hx hb dX8_image_87 hl (k := 2) rfl rfl (by decide) rfl (fun ls hl => ?_)
    refine lv_goto (tgt := 65) hx hb dX8_image_90 (by decide) ?_
    exact hk0 S_6 x1 (x2 + (1 : Int32)) h _ _ _ X (lv_sub hl [1, 2, 0] rfl)
theorem wX8_image_65 {p : Program} {l : Launch} {e : Env} {s : State} {m : MethodId} {args : Array Value} {below : List Frame} {meth : Method} {c : Code} {Z : XG} {r : Int32} {S' : Mem} (E : XE p s m args meth c cX8_image 3 RX8 (some .boolean) mL Z) : ∀ (n : Nat) (S : Mem) (x1 x2 : Int32), fX8_image_65 n S x1 x2 = some (r, S') → WN p l e { frames := 2, cells := 0, slots := 0, locals := 42 } s m args below meth c mL Z (XQ mL Z r S') S 65 3 [(0, .ref (Z.2.1 0)), (1, .int x1), (2, .int x2)] [] := by
  intro n
  induction n with
  | zero => intro S x1 x2 h; exact absurd (show (none : O) = some _ from h) (by simp)
  | succ n ih => intro S x1 x2 h; exact wX8_image_65_b E (fX8_image_65 n) ih S x1 x2 h
set_option maxRecDepth 20000 in
theorem wX8_image_35_b {p : Program} {l : Launch} {e : Env} {s : State} {m : MethodId} {args : Array Value} {below : List Frame} {meth : Method} {c : Code} {Z : XG} {r : Int32} {S' : Mem} (E : XE p s m args meth c cX8_image 3 RX8 (some .boolean) mL Z) (k0 : Mem → Int32 → Int32 → O)  (hk0 : ∀ (S : Mem) (x1 x2 : Int32), k0 S x1 x2 = some (r, S') → WN p l e { frames := 2, cells := 0, slots := 0, locals := 42 } s m args below meth c mL Z (XQ mL Z r S') S 35 3 [(0, .ref (Z.2.1 0)), (1, .int x1), (2, .int x2)] []) : ∀ (S : Mem) (x1 x2 : Int32), fX8_image_35_b k0 S x1 x2 = some (r, S') → WN p l e { frames := 2, cells := 0, slots := 0, locals := 42 } s m args below meth c mL Z (XQ mL Z r S') S 35 3 [(0, .ref (Z.2.1 0)), (1, .int x1), (2, .int x2)] [] := by
  obtain ⟨hx, hb, -, -, -, -, -, -, -, hQ⟩ := id E
  intro S x1 x2 h H locs ls X hl
  unfold fX8_image_35_b at h
  refine lv_iload_n hx hb dX8_image_35 rfl (lv_at hl 2 rfl) ?_
  refine lv_bipush (v := (55 : Int32)) hx hb dX8_image_36 (by decide) ?_
  refine lv_icmp_ge (tgt := 63) hx hb dX8_image_38 (by decide) (fun c_1 => ?_) (fun c_1 => ?_)
  · have h := if_t c_1 h
    refine lv_iconst (v := (0 : Int32)) hx hb dX8_image_63 (by decide) ?_
    refine lv_istore_n (lv' := [(2, .int (0 : Int32)), (0, .ref (Z.2.1 0)), (1, .int x1)]) hx hb dX8_image_64 rfl hl (by decide) rfl (fun ls hl => ?_)
    exact wX8_image_65 E   FU S x1 (0 : Int32) h _ _ _ X (lv_sub hl [1, 2, 0] rfl)
  · have h := if_f c_1 h
    refine lv_aload_n hx hb dX8_image_41 rfl (lv_at hl 0 rfl) ?_
    refine x_getr E X ffX8_7 rfl rfl dX8_image_42 ?_
    refine lv_iload_n hx hb dX8_image_45 rfl (lv_at hl 2 rfl) ?_
    refine lv_aload_n hx hb dX8_image_46 rfl (lv_at hl 0 rfl) ?_
    refine lv_aload_n hx hb dX8_image_47 rfl (lv_at hl 0 rfl) ?_
    refine x_getr E X ffX8_7 rfl rfl dX8_image_48 ?_
    refine lv_iload_n hx hb dX8_image_51 rfl (lv_at hl 2 rfl) ?_
    obtain ⟨g_2, h⟩ := gd_s h
    refine x_iald E X rfl g_2 dX8_image_52 ?_
    obtain ⟨r_3, S_4, hr_3, h⟩ := bnd_s h
    refine x_callV E X cwX8_362 (mX8_kept l Z hQ  (S 1 (x2).toNatClampNeg) hr_3) rfl rfl rfl rfl hl.1 rfl dX8_image_53 (fun H locs X => ?_)
    obtain ⟨g_5, h⟩ := gd_s h
    obtain ⟨S_6, eS_6, h⟩ := ltm_s h
    refine x_iast E X rfl g_5 dX8_image_56 (fun H locs X => ?_)
    rw [← eS_6] at X
    refine lv_iinc (v := (x2 + (1 : Int32))) (lv' := [(2, .int (x2 + (1 : Int32))), (0, .ref (Z.2.1 0)), (1, .int x1)]) hx hb dX8_image_57 hl (k := 2) rfl rfl (by decide) rfl (fun ls hl => ?_)
    refine lv_goto (tgt := 35) hx hb dX8_image_60 (by decide) ?_
    exact hk0 S_6 x1 (x2 + (1 : Int32)) h _ _ _ X (lv_sub hl [1, 2, 0] rfl)
theorem wX8_image_35 {p : Program} {l : Launch} {e : Env} {s : State} {m : MethodId} {args : Array Value} {below : List Frame} {meth : Method} {c : Code} {Z : XG} {r : Int32} {S' : Mem} (E : XE p s m args meth c cX8_image 3 RX8 (some .boolean) mL Z) : ∀ (n : Nat) (S : Mem) (x1 x2 : Int32), fX8_image_35 n S x1 x2 = some (r, S') → WN p l e { frames := 2, cells := 0, slots := 0, locals := 42 } s m args below meth c mL Z (XQ mL Z r S') S 35 3 [(0, .ref (Z.2.1 0)), (1, .int x1), (2, .int x2)] [] := by
  intro n
  induction n with
  | zero => intro S x1 x2 h; exact absurd (show (none : O) = some _ from h) (by simp)
  | succ n ih => intro S x1 x2 h; exact wX8_image_35_b E (fX8_image_35 n) ih S x1 x2 h
set_option maxRecDepth 20000 in
theorem wX8_image_18 {p : Program} {l : Launch} {e : Env} {s : State} {m : MethodId} {args : Array Value} {below : List Frame} {meth : Method} {c : Code} {Z : XG} {r : Int32} {S' : Mem} (E : XE p s m args meth c cX8_image 3 RX8 (some .boolean) mL Z) : ∀ (S : Mem) (x1 : Int32), fX8_image_18  S x1 = some (r, S') → WN p l e { frames := 2, cells := 0, slots := 0, locals := 42 } s m args below meth c mL Z (XQ mL Z r S') S 18 3 [(0, .ref (Z.2.1 0)), (1, .int x1)] [] := by
  obtain ⟨hx, hb, -, -, -, -, -, -, -, hQ⟩ := id E
  intro S x1 h H locs ls X hl
  unfold fX8_image_18 at h
  refine lv_aload_n hx hb dX8_image_18 rfl (lv_at hl 0 rfl) ?_
  refine lv_iload_n hx hb dX8_image_19 rfl (lv_at hl 1 rfl) ?_
  obtain ⟨g_1, h⟩ := gd_s h
  obtain ⟨S_2, eS_2, h⟩ := ltm_s h
  refine x_putB E X fpX8_358 rfl rfl g_1 dX8_image_20 (fun H locs X => ?_)
  rw [← eS_2] at X
  refine lv_aload_n hx hb dX8_image_23 rfl (lv_at hl 0 rfl) ?_
  refine lv_iconst (v := (1 : Int32)) hx hb dX8_image_24 (by decide) ?_
  obtain ⟨S_3, eS_3, h⟩ := ltm_s h
  refine x_putB E X fpX8_365 rfl rfl rfl dX8_image_25 (fun H locs X => ?_)
  rw [← eS_3] at X
  refine lv_aload_n hx hb dX8_image_28 rfl (lv_at hl 0 rfl) ?_
  refine lv_iconst (v := (0 : Int32)) hx hb dX8_image_29 (by decide) ?_
  obtain ⟨S_4, eS_4, h⟩ := ltm_s h
  refine x_put E X fpX8_355 rfl rfl dX8_image_30 (fun H locs X => ?_)
  rw [← eS_4] at X
  refine lv_iconst (v := (0 : Int32)) hx hb dX8_image_33 (by decide) ?_
  refine lv_istore_n (lv' := [(2, .int (0 : Int32)), (0, .ref (Z.2.1 0)), (1, .int x1)]) hx hb dX8_image_34 rfl hl (by decide) rfl (fun ls hl => ?_)
  exact wX8_image_35 E   FU S_4 x1 (0 : Int32) h _ _ _ X (lv_sub hl [1, 2, 0] rfl)
set_option maxRecDepth 20000 in
theorem wX8_image {p : Program} {l : Launch} {e : Env} {s : State} {m : MethodId} {args : Array Value} {below : List Frame} {meth : Method} {c : Code} {Z : XG} {r : Int32} {S' : Mem} (E : XE p s m args meth c cX8_image 3 RX8 (some .boolean) mL Z) : ∀ (S : Mem) (x1 : Int32), fX8_image  S x1 = some (r, S') → WN p l e { frames := 2, cells := 0, slots := 0, locals := 42 } s m args below meth c mL Z (XQ mL Z r S') S 0 3 [(0, .ref (Z.2.1 0)), (1, .int x1)] [] := by
  obtain ⟨hx, hb, -, -, -, -, -, -, -, hQ⟩ := id E
  intro S x1 h H locs ls X hl
  unfold fX8_image at h
  refine lv_aload_n hx hb dX8_image_0 rfl (lv_at hl 0 rfl) ?_
  refine lv_iconst (v := (0 : Int32)) hx hb dX8_image_1 (by decide) ?_
  obtain ⟨S_1, eS_1, h⟩ := ltm_s h
  refine x_put E X fpX8_92 rfl rfl dX8_image_2 (fun H locs X => ?_)
  rw [← eS_1] at X
  refine lv_iload_n hx hb dX8_image_5 rfl (lv_at hl 1 rfl) ?_
  refine lv_if_ne (tgt := 18) hx hb dX8_image_6 (by decide) (fun c_2 => ?_) (fun c_2 => ?_)
  · have h := if_f c_2 h
    exact wX8_image_18 E   S_1 x1 h _ _ _ X hl
  · have h := if_t c_2 h
    refine lv_aload_n hx hb dX8_image_9 rfl (lv_at hl 0 rfl) ?_
    refine x_get E X ffX8_365 rfl rfl dX8_image_10 ?_
    refine lv_if_ne (tgt := 18) hx hb dX8_image_13 (by decide) (fun c_3 => ?_) (fun c_3 => ?_)
    · have h := if_f c_3 h
      exact wX8_image_18 E   S_1 x1 h _ _ _ X hl
    · have h := if_t c_3 h
      refine lv_iconst (v := (0 : Int32)) hx hb dX8_image_16 (by decide) ?_
      exact x_zret E X rfl h dX8_image_17
/-- SevenToAShadowModel.image(Z)Z -/
theorem mX8_image (l : Launch) (Z : XG) (hQ : wQ (List.length mL) Z) {S S' : Mem} {r : Int32} (x1 : Int32) (h : fX8_image S x1 = some (r, S')) : XM l yX8_image cX8_image 3 (some .boolean) { frames := 2, cells := 0, slots := 0, locals := 42 } mL Z [.ref (Z.2.1 0), .int x1] S (XQ mL Z r S') := by
  refine XM.of (own := RX8) (by decide +kernel) rfl rfl hQ (fun p e s m args below meth c E ls hl X => ?_)
  exact wX8_image E S x1 h _ _ _ X hl
def fX8_look_86 (S : Mem) (x1 : Int32) : O := gd (inB (x1 - (6 : Int32)) 2) <| some ((S 4 ((x1 - (6 : Int32))).toNatClampNeg), S)
def fX8_look (S : Mem) (x1 : Int32) : O := ltm (mset S 0 0 (0 : Int32)) fun S_1 => (if x1 = 0 then some ((S_1 1 ((0 : Int32)).toNatClampNeg), S_1) else (if x1 = (1 : Int32) then some ((S_1 1 ((1 : Int32)).toNatClampNeg), S_1) else (if x1 = (2 : Int32) then some ((S_1 0 6), S_1) else (if x1 = (3 : Int32) then some ((S_1 1 ((3 : Int32)).toNatClampNeg), S_1) else (if x1 = (4 : Int32) then some ((S_1 1 ((4 : Int32)).toNatClampNeg), S_1) else (if x1 = (5 : Int32) then some ((S_1 1 ((2 : Int32)).toNatClampNeg), S_1) else (if x1 = (6 : Int32) then fX8_look_86  S_1 x1 else (if x1 = (7 : Int32) then fX8_look_86  S_1 x1 else (if x1 = (8 : Int32) then some ((S_1 0 22), S_1) else (if x1 = (9 : Int32) then some ((S_1 0 3), S_1) else bnd (fX8_isIn S_1 x1 (10 : Int32) (69 : Int32)) fun r_12 S_13 => (if r_12 = 0 then bnd (fX8_isIn S_13 x1 (80 : Int32) ((79 : Int32) + (S_13 0 6))) fun r_15 S_16 => (if r_15 = 0 then some ((-2 : Int32), S_16) else gd (inB (x1 - (80 : Int32)) 10) <| some (((S_16 10 ((x1 - (80 : Int32))).toNatClampNeg) - (1 : Int32)), S_16)) else gd (inB (x1 - (10 : Int32)) 60) <| some ((S_13 3 ((x1 - (10 : Int32))).toNatClampNeg), S_13))))))))))))
theorem dX8_look_0 : decode cX8_look 0 = .ok (.aload_n 0, 1) := by decide +kernel
theorem dX8_look_1 : decode cX8_look 1 = .ok (.iconst 0, 1) := by decide +kernel
theorem dX8_look_2 : decode cX8_look 2 = .ok (.putfield 92, 3) := by decide +kernel
theorem dX8_look_5 : decode cX8_look 5 = .ok (.iload_n 1, 1) := by decide +kernel
theorem dX8_look_6 : decode cX8_look 6 = .ok (.ifCond .ne 10, 3) := by decide +kernel
theorem dX8_look_9 : decode cX8_look 9 = .ok (.aload_n 0, 1) := by decide +kernel
theorem dX8_look_10 : decode cX8_look 10 = .ok (.getfield 7, 3) := by decide +kernel
theorem dX8_look_13 : decode cX8_look 13 = .ok (.iconst 0, 1) := by decide +kernel
theorem dX8_look_14 : decode cX8_look 14 = .ok (.iaload, 1) := by decide +kernel
theorem dX8_look_15 : decode cX8_look 15 = .ok (.ireturn, 1) := by decide +kernel
theorem dX8_look_16 : decode cX8_look 16 = .ok (.iload_n 1, 1) := by decide +kernel
theorem dX8_look_17 : decode cX8_look 17 = .ok (.iconst 1, 1) := by decide +kernel
theorem dX8_look_18 : decode cX8_look 18 = .ok (.if_icmp .ne 10, 3) := by decide +kernel
theorem dX8_look_21 : decode cX8_look 21 = .ok (.aload_n 0, 1) := by decide +kernel
theorem dX8_look_22 : decode cX8_look 22 = .ok (.getfield 7, 3) := by decide +kernel
theorem dX8_look_25 : decode cX8_look 25 = .ok (.iconst 1, 1) := by decide +kernel
theorem dX8_look_26 : decode cX8_look 26 = .ok (.iaload, 1) := by decide +kernel
theorem dX8_look_27 : decode cX8_look 27 = .ok (.ireturn, 1) := by decide +kernel
theorem dX8_look_28 : decode cX8_look 28 = .ok (.iload_n 1, 1) := by decide +kernel
theorem dX8_look_29 : decode cX8_look 29 = .ok (.iconst 2, 1) := by decide +kernel
theorem dX8_look_30 : decode cX8_look 30 = .ok (.if_icmp .ne 8, 3) := by decide +kernel
theorem dX8_look_33 : decode cX8_look 33 = .ok (.aload_n 0, 1) := by decide +kernel
theorem dX8_look_34 : decode cX8_look 34 = .ok (.getfield 100, 3) := by decide +kernel
theorem dX8_look_37 : decode cX8_look 37 = .ok (.ireturn, 1) := by decide +kernel
theorem dX8_look_38 : decode cX8_look 38 = .ok (.iload_n 1, 1) := by decide +kernel
theorem dX8_look_39 : decode cX8_look 39 = .ok (.iconst 3, 1) := by decide +kernel
theorem dX8_look_40 : decode cX8_look 40 = .ok (.if_icmp .ne 10, 3) := by decide +kernel
theorem dX8_look_43 : decode cX8_look 43 = .ok (.aload_n 0, 1) := by decide +kernel
theorem dX8_look_44 : decode cX8_look 44 = .ok (.getfield 7, 3) := by decide +kernel
theorem dX8_look_47 : decode cX8_look 47 = .ok (.iconst 3, 1) := by decide +kernel
theorem dX8_look_48 : decode cX8_look 48 = .ok (.iaload, 1) := by decide +kernel
theorem dX8_look_49 : decode cX8_look 49 = .ok (.ireturn, 1) := by decide +kernel
theorem dX8_look_50 : decode cX8_look 50 = .ok (.iload_n 1, 1) := by decide +kernel
theorem dX8_look_51 : decode cX8_look 51 = .ok (.iconst 4, 1) := by decide +kernel
theorem dX8_look_52 : decode cX8_look 52 = .ok (.if_icmp .ne 10, 3) := by decide +kernel
theorem dX8_look_55 : decode cX8_look 55 = .ok (.aload_n 0, 1) := by decide +kernel
theorem dX8_look_56 : decode cX8_look 56 = .ok (.getfield 7, 3) := by decide +kernel
theorem dX8_look_59 : decode cX8_look 59 = .ok (.iconst 4, 1) := by decide +kernel
theorem dX8_look_60 : decode cX8_look 60 = .ok (.iaload, 1) := by decide +kernel
theorem dX8_look_61 : decode cX8_look 61 = .ok (.ireturn, 1) := by decide +kernel
theorem dX8_look_62 : decode cX8_look 62 = .ok (.iload_n 1, 1) := by decide +kernel
theorem dX8_look_63 : decode cX8_look 63 = .ok (.iconst 5, 1) := by decide +kernel
theorem dX8_look_64 : decode cX8_look 64 = .ok (.if_icmp .ne 10, 3) := by decide +kernel
theorem dX8_look_67 : decode cX8_look 67 = .ok (.aload_n 0, 1) := by decide +kernel
theorem dX8_look_68 : decode cX8_look 68 = .ok (.getfield 7, 3) := by decide +kernel
theorem dX8_look_71 : decode cX8_look 71 = .ok (.iconst 2, 1) := by decide +kernel
theorem dX8_look_72 : decode cX8_look 72 = .ok (.iaload, 1) := by decide +kernel
theorem dX8_look_73 : decode cX8_look 73 = .ok (.ireturn, 1) := by decide +kernel
theorem dX8_look_74 : decode cX8_look 74 = .ok (.iload_n 1, 1) := by decide +kernel
theorem dX8_look_75 : decode cX8_look 75 = .ok (.bipush 6, 2) := by decide +kernel
theorem dX8_look_77 : decode cX8_look 77 = .ok (.if_icmp .eq 9, 3) := by decide +kernel
theorem dX8_look_80 : decode cX8_look 80 = .ok (.iload_n 1, 1) := by decide +kernel
theorem dX8_look_81 : decode cX8_look 81 = .ok (.bipush 7, 2) := by decide +kernel
theorem dX8_look_83 : decode cX8_look 83 = .ok (.if_icmp .ne 13, 3) := by decide +kernel
theorem dX8_look_86 : decode cX8_look 86 = .ok (.aload_n 0, 1) := by decide +kernel
theorem dX8_look_87 : decode cX8_look 87 = .ok (.getfield 19, 3) := by decide +kernel
theorem dX8_look_90 : decode cX8_look 90 = .ok (.iload_n 1, 1) := by decide +kernel
theorem dX8_look_91 : decode cX8_look 91 = .ok (.bipush 6, 2) := by decide +kernel
theorem dX8_look_93 : decode cX8_look 93 = .ok (.isub, 1) := by decide +kernel
theorem dX8_look_94 : decode cX8_look 94 = .ok (.iaload, 1) := by decide +kernel
theorem dX8_look_95 : decode cX8_look 95 = .ok (.ireturn, 1) := by decide +kernel
theorem dX8_look_96 : decode cX8_look 96 = .ok (.iload_n 1, 1) := by decide +kernel
theorem dX8_look_97 : decode cX8_look 97 = .ok (.bipush 8, 2) := by decide +kernel
theorem dX8_look_99 : decode cX8_look 99 = .ok (.if_icmp .ne 8, 3) := by decide +kernel
theorem dX8_look_102 : decode cX8_look 102 = .ok (.aload_n 0, 1) := by decide +kernel
theorem dX8_look_103 : decode cX8_look 103 = .ok (.getfield 224, 3) := by decide +kernel
theorem dX8_look_106 : decode cX8_look 106 = .ok (.ireturn, 1) := by decide +kernel
theorem dX8_look_107 : decode cX8_look 107 = .ok (.iload_n 1, 1) := by decide +kernel
theorem dX8_look_108 : decode cX8_look 108 = .ok (.bipush 9, 2) := by decide +kernel
theorem dX8_look_110 : decode cX8_look 110 = .ok (.if_icmp .ne 8, 3) := by decide +kernel
theorem dX8_look_113 : decode cX8_look 113 = .ok (.aload_n 0, 1) := by decide +kernel
theorem dX8_look_114 : decode cX8_look 114 = .ok (.getfield 95, 3) := by decide +kernel
theorem dX8_look_117 : decode cX8_look 117 = .ok (.ireturn, 1) := by decide +kernel
theorem dX8_look_118 : decode cX8_look 118 = .ok (.aload_n 0, 1) := by decide +kernel
theorem dX8_look_119 : decode cX8_look 119 = .ok (.iload_n 1, 1) := by decide +kernel
theorem dX8_look_120 : decode cX8_look 120 = .ok (.bipush 10, 2) := by decide +kernel
theorem dX8_look_122 : decode cX8_look 122 = .ok (.bipush 69, 2) := by decide +kernel
theorem dX8_look_124 : decode cX8_look 124 = .ok (.invokevirtual 107, 3) := by decide +kernel
theorem dX8_look_127 : decode cX8_look 127 = .ok (.ifCond .eq 13, 3) := by decide +kernel
theorem dX8_look_130 : decode cX8_look 130 = .ok (.aload_n 0, 1) := by decide +kernel
theorem dX8_look_131 : decode cX8_look 131 = .ok (.getfield 16, 3) := by decide +kernel
theorem dX8_look_134 : decode cX8_look 134 = .ok (.iload_n 1, 1) := by decide +kernel
theorem dX8_look_135 : decode cX8_look 135 = .ok (.bipush 10, 2) := by decide +kernel
theorem dX8_look_137 : decode cX8_look 137 = .ok (.isub, 1) := by decide +kernel
theorem dX8_look_138 : decode cX8_look 138 = .ok (.iaload, 1) := by decide +kernel
theorem dX8_look_139 : decode cX8_look 139 = .ok (.ireturn, 1) := by decide +kernel
theorem dX8_look_140 : decode cX8_look 140 = .ok (.aload_n 0, 1) := by decide +kernel
theorem dX8_look_141 : decode cX8_look 141 = .ok (.iload_n 1, 1) := by decide +kernel
theorem dX8_look_142 : decode cX8_look 142 = .ok (.bipush 80, 2) := by decide +kernel
theorem dX8_look_144 : decode cX8_look 144 = .ok (.bipush 79, 2) := by decide +kernel
theorem dX8_look_146 : decode cX8_look 146 = .ok (.aload_n 0, 1) := by decide +kernel
theorem dX8_look_147 : decode cX8_look 147 = .ok (.getfield 100, 3) := by decide +kernel
theorem dX8_look_150 : decode cX8_look 150 = .ok (.iadd, 1) := by decide +kernel
theorem dX8_look_151 : decode cX8_look 151 = .ok (.invokevirtual 107, 3) := by decide +kernel
theorem dX8_look_154 : decode cX8_look 154 = .ok (.ifCond .eq 17, 3) := by decide +kernel
theorem dX8_look_157 : decode cX8_look 157 = .ok (.aload_n 0, 1) := by decide +kernel
theorem dX8_look_158 : decode cX8_look 158 = .ok (.getfield 37, 3) := by decide +kernel
theorem dX8_look_161 : decode cX8_look 161 = .ok (.iload_n 1, 1) := by decide +kernel
theorem dX8_look_162 : decode cX8_look 162 = .ok (.bipush 80, 2) := by decide +kernel
theorem dX8_look_164 : decode cX8_look 164 = .ok (.isub, 1) := by decide +kernel
theorem dX8_look_165 : decode cX8_look 165 = .ok (.iaload, 1) := by decide +kernel
theorem dX8_look_166 : decode cX8_look 166 = .ok (.iconst 1, 1) := by decide +kernel
theorem dX8_look_167 : decode cX8_look 167 = .ok (.isub, 1) := by decide +kernel
theorem dX8_look_168 : decode cX8_look 168 = .ok (.goto 5, 3) := by decide +kernel
theorem dX8_look_171 : decode cX8_look 171 = .ok (.bipush (-2), 2) := by decide +kernel
theorem dX8_look_173 : decode cX8_look 173 = .ok (.ireturn, 1) := by decide +kernel
set_option maxRecDepth 20000 in
theorem wX8_look_86 {p : Program} {l : Launch} {e : Env} {s : State} {m : MethodId} {args : Array Value} {below : List Frame} {meth : Method} {c : Code} {Z : XG} {r : Int32} {S' : Mem} (E : XE p s m args meth c cX8_look 2 RX8 (some .int) mL Z) : ∀ (S : Mem) (x1 : Int32), fX8_look_86  S x1 = some (r, S') → WN p l e { frames := 1, cells := 0, slots := 0, locals := 23 } s m args below meth c mL Z (XQ mL Z r S') S 86 2 [(0, .ref (Z.2.1 0)), (1, .int x1)] [] := by
  obtain ⟨hx, hb, -, -, -, -, -, -, -, hQ⟩ := id E
  intro S x1 h H locs ls X hl
  unfold fX8_look_86 at h
  refine lv_aload_n hx hb dX8_look_86 rfl (lv_at hl 0 rfl) ?_
  refine x_getr E X ffX8_19 rfl rfl dX8_look_87 ?_
  refine lv_iload_n hx hb dX8_look_90 rfl (lv_at hl 1 rfl) ?_
  refine lv_bipush (v := (6 : Int32)) hx hb dX8_look_91 (by decide) ?_
  refine lv_isub hx hb dX8_look_93 ?_
  obtain ⟨g_1, h⟩ := gd_s h
  refine x_iald E X rfl g_1 dX8_look_94 ?_
  exact x_iret E X h dX8_look_95
set_option maxRecDepth 20000 in
theorem wX8_look {p : Program} {l : Launch} {e : Env} {s : State} {m : MethodId} {args : Array Value} {below : List Frame} {meth : Method} {c : Code} {Z : XG} {r : Int32} {S' : Mem} (E : XE p s m args meth c cX8_look 2 RX8 (some .int) mL Z) : ∀ (S : Mem) (x1 : Int32), fX8_look  S x1 = some (r, S') → WN p l e { frames := 1, cells := 0, slots := 0, locals := 23 } s m args below meth c mL Z (XQ mL Z r S') S 0 2 [(0, .ref (Z.2.1 0)), (1, .int x1)] [] := by
  obtain ⟨hx, hb, -, -, -, -, -, -, -, hQ⟩ := id E
  intro S x1 h H locs ls X hl
  unfold fX8_look at h
  refine lv_aload_n hx hb dX8_look_0 rfl (lv_at hl 0 rfl) ?_
  refine lv_iconst (v := (0 : Int32)) hx hb dX8_look_1 (by decide) ?_
  obtain ⟨S_1, eS_1, h⟩ := ltm_s h
  refine x_put E X fpX8_92 rfl rfl dX8_look_2 (fun H locs X => ?_)
  rw [← eS_1] at X
  refine lv_iload_n hx hb dX8_look_5 rfl (lv_at hl 1 rfl) ?_
  refine lv_if_ne (tgt := 16) hx hb dX8_look_6 (by decide) (fun c_2 => ?_) (fun c_2 => ?_)
  · have h := if_f c_2 h
    refine lv_iload_n hx hb dX8_look_16 rfl (lv_at hl 1 rfl) ?_
    refine lv_iconst (v := (1 : Int32)) hx hb dX8_look_17 (by decide) ?_
    refine lv_icmp_ne (tgt := 28) hx hb dX8_look_18 (by decide) (fun c_3 => ?_) (fun c_3 => ?_)
    · have h := if_f c_3 h
      refine lv_iload_n hx hb dX8_look_28 rfl (lv_at hl 1 rfl) ?_
      refine lv_iconst (v := (2 : Int32)) hx hb dX8_look_29 (by decide) ?_
      refine lv_icmp_ne (tgt := 38) hx hb dX8_look_30 (by decide) (fun c_4 => ?_) (fun c_4 => ?_)
      · have h := if_f c_4 h
        refine lv_iload_n hx hb dX8_look_38 rfl (lv_at hl 1 rfl) ?_
        refine lv_iconst (v := (3 : Int32)) hx hb dX8_look_39 (by decide) ?_
        refine lv_icmp_ne (tgt := 50) hx hb dX8_look_40 (by decide) (fun c_5 => ?_) (fun c_5 => ?_)
        · have h := if_f c_5 h
          refine lv_iload_n hx hb dX8_look_50 rfl (lv_at hl 1 rfl) ?_
          refine lv_iconst (v := (4 : Int32)) hx hb dX8_look_51 (by decide) ?_
          refine lv_icmp_ne (tgt := 62) hx hb dX8_look_52 (by decide) (fun c_6 => ?_) (fun c_6 => ?_)
          · have h := if_f c_6 h
            refine lv_iload_n hx hb dX8_look_62 rfl (lv_at hl 1 rfl) ?_
            refine lv_iconst (v := (5 : Int32)) hx hb dX8_look_63 (by decide) ?_
            refine lv_icmp_ne (tgt := 74) hx hb dX8_look_64 (by decide) (fun c_7 => ?_) (fun c_7 => ?_)
            · have h := if_f c_7 h
              refine lv_iload_n hx hb dX8_look_74 rfl (lv_at hl 1 rfl) ?_
              refine lv_bipush (v := (6 : Int32)) hx hb dX8_look_75 (by decide) ?_
              refine lv_icmp_eq (tgt := 86) hx hb dX8_look_77 (by decide) (fun c_8 => ?_) (fun c_8 => ?_)
              · have h := if_t c_8 h
                exact wX8_look_86 E   S_1 x1 h _ _ _ X hl
              · have h := if_f c_8 h
                refine lv_iload_n hx hb dX8_look_80 rfl (lv_at hl 1 rfl) ?_
                refine lv_bipush (v := (7 : Int32)) hx hb dX8_look_81 (by decide) ?_
                refine lv_icmp_ne (tgt := 96) hx hb dX8_look_83 (by decide) (fun c_9 => ?_) (fun c_9 => ?_)
                · have h := if_f c_9 h
                  refine lv_iload_n hx hb dX8_look_96 rfl (lv_at hl 1 rfl) ?_
                  refine lv_bipush (v := (8 : Int32)) hx hb dX8_look_97 (by decide) ?_
                  refine lv_icmp_ne (tgt := 107) hx hb dX8_look_99 (by decide) (fun c_10 => ?_) (fun c_10 => ?_)
                  · have h := if_f c_10 h
                    refine lv_iload_n hx hb dX8_look_107 rfl (lv_at hl 1 rfl) ?_
                    refine lv_bipush (v := (9 : Int32)) hx hb dX8_look_108 (by decide) ?_
                    refine lv_icmp_ne (tgt := 118) hx hb dX8_look_110 (by decide) (fun c_11 => ?_) (fun c_11 => ?_)
                    · have h := if_f c_11 h
                      refine lv_aload_n hx hb dX8_look_118 rfl (lv_at hl 0 rfl) ?_
                      refine lv_iload_n hx hb dX8_look_119 rfl (lv_at hl 1 rfl) ?_
                      refine lv_bipush (v := (10 : Int32)) hx hb dX8_look_120 (by decide) ?_
                      refine lv_bipush (v := (69 : Int32)) hx hb dX8_look_122 (by decide) ?_
                      obtain ⟨r_12, S_13, hr_12, h⟩ := bnd_s h
                      refine x_callV E X cwX8_107 (mX8_isIn l Z hQ  x1 (10 : Int32) (69 : Int32) hr_12) rfl rfl rfl rfl hl.1 rfl dX8_look_124 (fun H locs X => ?_)
                      refine lv_if_eq (tgt := 140) hx hb dX8_look_127 (by decide) (fun c_14 => ?_) (fun c_14 => ?_)
                      · have h := if_t c_14 h
                        refine lv_aload_n hx hb dX8_look_140 rfl (lv_at hl 0 rfl) ?_
                        refine lv_iload_n hx hb dX8_look_141 rfl (lv_at hl 1 rfl) ?_
                        refine lv_bipush (v := (80 : Int32)) hx hb dX8_look_142 (by decide) ?_
                        refine lv_bipush (v := (79 : Int32)) hx hb dX8_look_144 (by decide) ?_
                        refine lv_aload_n hx hb dX8_look_146 rfl (lv_at hl 0 rfl) ?_
                        refine x_get E X ffX8_100 rfl rfl dX8_look_147 ?_
                        refine lv_iadd hx hb dX8_look_150 ?_
                        obtain ⟨r_15, S_16, hr_15, h⟩ := bnd_s h
                        refine x_callV E X cwX8_107 (mX8_isIn l Z hQ  x1 (80 : Int32) ((79 : Int32) + (S_13 0 6)) hr_15) rfl rfl rfl rfl hl.1 rfl dX8_look_151 (fun H locs X => ?_)
                        refine lv_if_eq (tgt := 171) hx hb dX8_look_154 (by decide) (fun c_17 => ?_) (fun c_17 => ?_)
                        · have h := if_t c_17 h
                          refine lv_bipush (v := (-2 : Int32)) hx hb dX8_look_171 (by decide) ?_
                          exact x_iret E X h dX8_look_173
                        · have h := if_f c_17 h
                          refine lv_aload_n hx hb dX8_look_157 rfl (lv_at hl 0 rfl) ?_
                          refine x_getr E X ffX8_37 rfl rfl dX8_look_158 ?_
                          refine lv_iload_n hx hb dX8_look_161 rfl (lv_at hl 1 rfl) ?_
                          refine lv_bipush (v := (80 : Int32)) hx hb dX8_look_162 (by decide) ?_
                          refine lv_isub hx hb dX8_look_164 ?_
                          obtain ⟨g_18, h⟩ := gd_s h
                          refine x_iald E X rfl g_18 dX8_look_165 ?_
                          refine lv_iconst (v := (1 : Int32)) hx hb dX8_look_166 (by decide) ?_
                          refine lv_isub hx hb dX8_look_167 ?_
                          refine lv_goto (tgt := 173) hx hb dX8_look_168 (by decide) ?_
                          exact x_iret E X h dX8_look_173
                      · have h := if_f c_14 h
                        refine lv_aload_n hx hb dX8_look_130 rfl (lv_at hl 0 rfl) ?_
                        refine x_getr E X ffX8_16 rfl rfl dX8_look_131 ?_
                        refine lv_iload_n hx hb dX8_look_134 rfl (lv_at hl 1 rfl) ?_
                        refine lv_bipush (v := (10 : Int32)) hx hb dX8_look_135 (by decide) ?_
                        refine lv_isub hx hb dX8_look_137 ?_
                        obtain ⟨g_19, h⟩ := gd_s h
                        refine x_iald E X rfl g_19 dX8_look_138 ?_
                        exact x_iret E X h dX8_look_139
                    · have h := if_t c_11 h
                      refine lv_aload_n hx hb dX8_look_113 rfl (lv_at hl 0 rfl) ?_
                      refine x_get E X ffX8_95 rfl rfl dX8_look_114 ?_
                      exact x_iret E X h dX8_look_117
                  · have h := if_t c_10 h
                    refine lv_aload_n hx hb dX8_look_102 rfl (lv_at hl 0 rfl) ?_
                    refine x_get E X ffX8_224 rfl rfl dX8_look_103 ?_
                    exact x_iret E X h dX8_look_106
                · have h := if_t c_9 h
                  exact wX8_look_86 E   S_1 x1 h _ _ _ X hl
            · have h := if_t c_7 h
              refine lv_aload_n hx hb dX8_look_67 rfl (lv_at hl 0 rfl) ?_
              refine x_getr E X ffX8_7 rfl rfl dX8_look_68 ?_
              refine lv_iconst (v := (2 : Int32)) hx hb dX8_look_71 (by decide) ?_
              refine x_iald E X rfl (by decide) dX8_look_72 ?_
              exact x_iret E X h dX8_look_73
          · have h := if_t c_6 h
            refine lv_aload_n hx hb dX8_look_55 rfl (lv_at hl 0 rfl) ?_
            refine x_getr E X ffX8_7 rfl rfl dX8_look_56 ?_
            refine lv_iconst (v := (4 : Int32)) hx hb dX8_look_59 (by decide) ?_
            refine x_iald E X rfl (by decide) dX8_look_60 ?_
            exact x_iret E X h dX8_look_61
        · have h := if_t c_5 h
          refine lv_aload_n hx hb dX8_look_43 rfl (lv_at hl 0 rfl) ?_
          refine x_getr E X ffX8_7 rfl rfl dX8_look_44 ?_
          refine lv_iconst (v := (3 : Int32)) hx hb dX8_look_47 (by decide) ?_
          refine x_iald E X rfl (by decide) dX8_look_48 ?_
          exact x_iret E X h dX8_look_49
      · have h := if_t c_4 h
        refine lv_aload_n hx hb dX8_look_33 rfl (lv_at hl 0 rfl) ?_
        refine x_get E X ffX8_100 rfl rfl dX8_look_34 ?_
        exact x_iret E X h dX8_look_37
    · have h := if_t c_3 h
      refine lv_aload_n hx hb dX8_look_21 rfl (lv_at hl 0 rfl) ?_
      refine x_getr E X ffX8_7 rfl rfl dX8_look_22 ?_
      refine lv_iconst (v := (1 : Int32)) hx hb dX8_look_25 (by decide) ?_
      refine x_iald E X rfl (by decide) dX8_look_26 ?_
      exact x_iret E X h dX8_look_27
  · have h := if_t c_2 h
    refine lv_aload_n hx hb dX8_look_9 rfl (lv_at hl 0 rfl) ?_
    refine x_getr E X ffX8_7 rfl rfl dX8_look_10 ?_
    refine lv_iconst (v := (0 : Int32)) hx hb dX8_look_13 (by decide) ?_
    refine x_iald E X rfl (by decide) dX8_look_14 ?_
    exact x_iret E X h dX8_look_15
/-- SevenToAShadowModel.look(I)I -/
theorem mX8_look (l : Launch) (Z : XG) (hQ : wQ (List.length mL) Z) {S S' : Mem} {r : Int32} (x1 : Int32) (h : fX8_look S x1 = some (r, S')) : XM l yX8_look cX8_look 2 (some .int) { frames := 1, cells := 0, slots := 0, locals := 23 } mL Z [.ref (Z.2.1 0), .int x1] S (XQ mL Z r S') := by
  refine XM.of (own := RX8) (by decide +kernel) rfl rfl hQ (fun p e s m args below meth c E ls hl X => ?_)
  exact wX8_look E S x1 h _ _ _ X hl
