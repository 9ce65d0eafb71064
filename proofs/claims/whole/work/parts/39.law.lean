set_option maxRecDepth 20000 in
/-- THE LAW'S LOOP, over any relation that every pair of methods keeps -/
theorem law_loop {p : Program} {l : Launch} {e : Env} {s : State} {m : MethodId} {below : List Frame} {meth : Method} {c : Code} {b L : Nat} {xs : Nat → Int32} {Z0 : XG} {B : Nat} {R : Mem → Mem → Prop} (hok : LawOK R) (hL : L ≤ 3072) (C0 : lw_At p s m meth c b L xs) (E : LE p s m #[Value.ref b] c Z0 B) (hBs : B = s.heap.size) :
    ∀ (n i : Nat), i ≤ L → L + 1 ≤ i + n → ∀ (S T : Mem) (Qx : Nat → Nat), R S T → LQ B Qx → ∀ (H : Heap) (locs : List Loc) (ls : Array Slot), LH Z0 B Qx S T s H locs → lv_has ls 4 [(0, .ref b), (1, .ref (Qx 0)), (2, .ref (B + 46)), (3, .int (nI i))] → W p l e room_1 s m #[Value.ref b] below meth c H locs 73 13830 (lw_Z below #[Value.ref b] s) (F0 m 18 ls []) := by
  obtain ⟨hx, hb, hr, hml, hown, hts, hX, hbl, hlocks, hgv⟩ := C0
  have hbA : ¬ cA B b := by show ¬ B ≤ b; omega
  intro n
  induction n with
  | zero => intro i h1 h2; exact absurd h2 (by omega)
  | succ n ih =>
    intro i hi hin S T Qx hR hq H locs ls X hl
    refine lv_iload_n hx hb dL_law_18 rfl (lv_at hl 3 rfl) ?_
    refine lv_aload_n hx hb dL_law_19 rfl (lv_at hl 0 rfl) ?_
    refine va_slen hx hb hX hbl hbA X.2.2 dL_law_20 ?_
    refine lv_bipush (v := (6 : Int32)) hx hb dL_law_21 (by decide) ?_
    refine lv_isub hx hb dL_law_23 ?_
    refine lv_icmp_gt (tgt := 964) hx hb dL_law_24 (by decide) (fun c_0 => ?_) (fun c_0 => ?_)
    · refine lv_iconst (v := 1) hx hb dL_law_964 (by decide) ?_
      refine va_forget (fun q hq => by rw [← hBs]; exact X.2.2.2.2 q hq) ?_
      exact lw_ret hx hb hr hlocks dL_law_965
    · have hlt : i + 6 ≤ L := by
        rcases Nat.lt_or_ge L (i + 6) with q | q
        · refine absurd ?_ c_0
          show nI L - nI 6 < nI i
          rw [Int32.lt_iff_toInt_lt, pk_sub_toInt (by omega) (by omega), nI_toInt (by omega)]
          omega
        · exact q
      have h_0 : vp_in (nI i) L := vp_in_nI (by omega) (by omega)
      have h_1 : vp_in (nI i + (1 : Int32)) L := by rw [show nI i + (1 : Int32) = nI (i + 1) from nI_add i 1]; exact vp_in_nI (by omega) (by omega)
      have h_2 : vp_in (nI i + (2 : Int32)) L := by rw [show nI i + (2 : Int32) = nI (i + 2) from nI_add i 2]; exact vp_in_nI (by omega) (by omega)
      have h_3 : vp_in (nI i + (3 : Int32)) L := by rw [show nI i + (3 : Int32) = nI (i + 3) from nI_add i 3]; exact vp_in_nI (by omega) (by omega)
      have h_4 : vp_in (nI i + (4 : Int32)) L := by rw [show nI i + (4 : Int32) = nI (i + 4) from nI_add i 4]; exact vp_in_nI (by omega) (by omega)
      have h_5 : vp_in (nI i + (5 : Int32)) L := by rw [show nI i + (5 : Int32) = nI (i + 5) from nI_add i 5]; exact vp_in_nI (by omega) (by omega)
      have fin : ∀ (S1 T1 : Mem) (Qx2 : Nat → Nat), R S1 T1 → LQ B Qx2 → ∀ (H : Heap) (locs : List Loc) (ls : Array Slot), LH Z0 B Qx2 S1 T1 s H locs → lv_has ls 4 [(0, .ref b), (1, .ref (Qx2 0)), (2, .ref (B + 46)), (3, .int (nI i))] → W p l e room_1 s m #[Value.ref b] below meth c H locs 73 13830 (lw_Z below #[Value.ref b] s) (F0 m 958 ls []) := by
        intro S1 T1 Qx2 hR1 hq1 H locs ls X hl
        refine lv_iinc (v := (nI i + (6 : Int32))) (lv' := [(3, .int (nI i + (6 : Int32))), (0, .ref b), (1, .ref (Qx2 0)), (2, .ref (B + 46))]) hx hb dL_law_958 hl (k := 3) rfl rfl (by decide) rfl (fun ls hl => ?_)
        refine lv_goto (tgt := 18) hx hb dL_law_961 (by decide) ?_
        refine ih (i + 6) hlt (by omega) S1 T1 Qx2 hR1 hq1 _ _ ls X ?_
        rw [← show nI i + (6 : Int32) = nI (i + 6) from nI_add i 6]
        exact lv_sub hl [1, 2, 3, 0] rfl
      refine lv_aload_n hx hb dL_law_27 rfl (lv_at hl 0 rfl) ?_
      refine lv_iload_n hx hb dL_law_28 rfl (lv_at hl 3 rfl) ?_
      refine va_sld hx hb hX hbl hbA X.2.2 h_0 dL_law_29 ?_
      refine lv_bipush (v := (31 : Int32)) hx hb dL_law_30 (by decide) ?_
      refine lv_iand hx hb dL_law_32 ?_
      refine lv_topi (fun sel esel => ?_)
      by_cases c_1 : sel = (0 : Int32)
      · refine lv_tableIn (off := 111) (tgt := 144) hx hb dL_law_33 (by rw [c_1]; decide) (by rw [c_1]; decide) (by rw [c_1]; decide) (by decide) ?_
        refine lv_aload_n hx hb dL_law_144 rfl (lv_at hl 1 rfl) ?_
        refine lv_aload_n hx hb dL_law_145 rfl (lv_at hl 0 rfl) ?_
        refine lv_iload_n hx hb dL_law_146 rfl (lv_at hl 3 rfl) ?_
        refine lv_iconst (v := (1 : Int32)) hx hb dL_law_147 (by decide) ?_
        refine lv_iadd hx hb dL_law_148 ?_
        refine va_sld hx hb hX hbl hbA X.2.2 h_1 dL_law_149 ?_
        obtain ⟨r, S1, T1, ex, em, hR1⟩ := (hok.1) (xs ((nI i + (1 : Int32))).toNatClampNeg) S T hR
        refine l_callX E X hq cwL_13 (mX7_state l (ZL Z0 Qx) hq.1 (xs ((nI i + (1 : Int32))).toNatClampNeg) ex) rfl rfl hl.1 rfl dL_law_150 (fun H locs X => ?_)
        refine lv_aload_n hx hb dL_law_153 rfl (lv_at hl 2 rfl) ?_
        refine lv_aload_n hx hb dL_law_154 rfl (lv_at hl 0 rfl) ?_
        refine lv_iload_n hx hb dL_law_155 rfl (lv_at hl 3 rfl) ?_
        refine lv_iconst (v := (1 : Int32)) hx hb dL_law_156 (by decide) ?_
        refine lv_iadd hx hb dL_law_157 ?_
        refine va_sld hx hb hX hbl hbA X.2.2 h_1 dL_law_158 ?_
        refine l_callM E X hq cwL_17 (mX8_state l (ZL Z0 (qM B)) (wQ_B (B := B + 46) (fun _ => rfl)) (xs ((nI i + (1 : Int32))).toNatClampNeg) em) rfl rfl hl.1 rfl dL_law_159 (fun H locs X => ?_)
        refine lv_icmp_eq (tgt := 958) hx hb dL_law_162 (by decide) (fun _ => ?_) (fun c2 => absurd rfl c2)
        exact fin S1 T1 Qx hR1 hq _ _ ls X hl
      by_cases c_2 : sel = (1 : Int32)
      · refine lv_tableIn (off := 134) (tgt := 167) hx hb dL_law_33 (by rw [c_2]; decide) (by rw [c_2]; decide) (by rw [c_2]; decide) (by decide) ?_
        refine lv_aload_n hx hb dL_law_167 rfl (lv_at hl 1 rfl) ?_
        refine lv_aload_n hx hb dL_law_168 rfl (lv_at hl 0 rfl) ?_
        refine lv_iload_n hx hb dL_law_169 rfl (lv_at hl 3 rfl) ?_
        refine lv_iconst (v := (1 : Int32)) hx hb dL_law_170 (by decide) ?_
        refine lv_iadd hx hb dL_law_171 ?_
        refine va_sld hx hb hX hbl hbA X.2.2 h_1 dL_law_172 ?_
        refine lv_aload_n hx hb dL_law_173 rfl (lv_at hl 0 rfl) ?_
        refine lv_iload_n hx hb dL_law_174 rfl (lv_at hl 3 rfl) ?_
        refine lv_iconst (v := (2 : Int32)) hx hb dL_law_175 (by decide) ?_
        refine lv_iadd hx hb dL_law_176 ?_
        refine va_sld hx hb hX hbl hbA X.2.2 h_2 dL_law_177 ?_
        refine lv_aload_n hx hb dL_law_178 rfl (lv_at hl 0 rfl) ?_
        refine lv_iload_n hx hb dL_law_179 rfl (lv_at hl 3 rfl) ?_
        refine lv_iconst (v := (3 : Int32)) hx hb dL_law_180 (by decide) ?_
        refine lv_iadd hx hb dL_law_181 ?_
        refine va_sld hx hb hX hbl hbA X.2.2 h_3 dL_law_182 ?_
        obtain ⟨r, S1, T1, ex, em, hR1⟩ := (hok.2.1) (xs ((nI i + (1 : Int32))).toNatClampNeg) (xs ((nI i + (2 : Int32))).toNatClampNeg) (xs ((nI i + (3 : Int32))).toNatClampNeg) S T hR
        refine l_callX E X hq cwL_18 (mX7_hour l (ZL Z0 Qx) hq.1 (xs ((nI i + (1 : Int32))).toNatClampNeg) (xs ((nI i + (2 : Int32))).toNatClampNeg) (xs ((nI i + (3 : Int32))).toNatClampNeg) ex) rfl rfl hl.1 rfl dL_law_183 (fun H locs X => ?_)
        refine lv_aload_n hx hb dL_law_186 rfl (lv_at hl 2 rfl) ?_
        refine lv_aload_n hx hb dL_law_187 rfl (lv_at hl 0 rfl) ?_
        refine lv_iload_n hx hb dL_law_188 rfl (lv_at hl 3 rfl) ?_
        refine lv_iconst (v := (1 : Int32)) hx hb dL_law_189 (by decide) ?_
        refine lv_iadd hx hb dL_law_190 ?_
        refine va_sld hx hb hX hbl hbA X.2.2 h_1 dL_law_191 ?_
        refine lv_aload_n hx hb dL_law_192 rfl (lv_at hl 0 rfl) ?_
        refine lv_iload_n hx hb dL_law_193 rfl (lv_at hl 3 rfl) ?_
        refine lv_iconst (v := (2 : Int32)) hx hb dL_law_194 (by decide) ?_
        refine lv_iadd hx hb dL_law_195 ?_
        refine va_sld hx hb hX hbl hbA X.2.2 h_2 dL_law_196 ?_
        refine lv_aload_n hx hb dL_law_197 rfl (lv_at hl 0 rfl) ?_
        refine lv_iload_n hx hb dL_law_198 rfl (lv_at hl 3 rfl) ?_
        refine lv_iconst (v := (3 : Int32)) hx hb dL_law_199 (by decide) ?_
        refine lv_iadd hx hb dL_law_200 ?_
        refine va_sld hx hb hX hbl hbA X.2.2 h_3 dL_law_201 ?_
        refine l_callM E X hq cwL_22 (mX8_hour l (ZL Z0 (qM B)) (wQ_B (B := B + 46) (fun _ => rfl)) (xs ((nI i + (1 : Int32))).toNatClampNeg) (xs ((nI i + (2 : Int32))).toNatClampNeg) (xs ((nI i + (3 : Int32))).toNatClampNeg) em) rfl rfl hl.1 rfl dL_law_202 (fun H locs X => ?_)
        refine lv_icmp_eq (tgt := 958) hx hb dL_law_205 (by decide) (fun _ => ?_) (fun c2 => absurd rfl c2)
        exact fin S1 T1 Qx hR1 hq _ _ ls X hl
      by_cases c_3 : sel = (2 : Int32)
      · refine lv_tableIn (off := 177) (tgt := 210) hx hb dL_law_33 (by rw [c_3]; decide) (by rw [c_3]; decide) (by rw [c_3]; decide) (by decide) ?_
        refine lv_aload_n hx hb dL_law_210 rfl (lv_at hl 1 rfl) ?_
        refine lv_aload_n hx hb dL_law_211 rfl (lv_at hl 0 rfl) ?_
        refine lv_iload_n hx hb dL_law_212 rfl (lv_at hl 3 rfl) ?_
        refine lv_iconst (v := (1 : Int32)) hx hb dL_law_213 (by decide) ?_
        refine lv_iadd hx hb dL_law_214 ?_
        refine va_sld hx hb hX hbl hbA X.2.2 h_1 dL_law_215 ?_
        refine lv_aload_n hx hb dL_law_216 rfl (lv_at hl 0 rfl) ?_
        refine lv_iload_n hx hb dL_law_217 rfl (lv_at hl 3 rfl) ?_
        refine lv_iconst (v := (2 : Int32)) hx hb dL_law_218 (by decide) ?_
        refine lv_iadd hx hb dL_law_219 ?_
        refine va_sld hx hb hX hbl hbA X.2.2 h_2 dL_law_220 ?_
        obtain ⟨r, S1, T1, ex, em, hR1⟩ := (hok.2.2.1) (xs ((nI i + (1 : Int32))).toNatClampNeg) (xs ((nI i + (2 : Int32))).toNatClampNeg) S T hR
        refine l_callX E X hq cwL_23 (mX7_set l (ZL Z0 Qx) hq.1 (xs ((nI i + (1 : Int32))).toNatClampNeg) (xs ((nI i + (2 : Int32))).toNatClampNeg) ex) rfl rfl hl.1 rfl dL_law_221 (fun H locs X => ?_)
        refine lv_aload_n hx hb dL_law_224 rfl (lv_at hl 2 rfl) ?_
        refine lv_aload_n hx hb dL_law_225 rfl (lv_at hl 0 rfl) ?_
        refine lv_iload_n hx hb dL_law_226 rfl (lv_at hl 3 rfl) ?_
        refine lv_iconst (v := (1 : Int32)) hx hb dL_law_227 (by decide) ?_
        refine lv_iadd hx hb dL_law_228 ?_
        refine va_sld hx hb hX hbl hbA X.2.2 h_1 dL_law_229 ?_
        refine lv_aload_n hx hb dL_law_230 rfl (lv_at hl 0 rfl) ?_
        refine lv_iload_n hx hb dL_law_231 rfl (lv_at hl 3 rfl) ?_
        refine lv_iconst (v := (2 : Int32)) hx hb dL_law_232 (by decide) ?_
        refine lv_iadd hx hb dL_law_233 ?_
        refine va_sld hx hb hX hbl hbA X.2.2 h_2 dL_law_234 ?_
        refine l_callM E X hq cwL_27 (mX8_set l (ZL Z0 (qM B)) (wQ_B (B := B + 46) (fun _ => rfl)) (xs ((nI i + (1 : Int32))).toNatClampNeg) (xs ((nI i + (2 : Int32))).toNatClampNeg) em) rfl rfl hl.1 rfl dL_law_235 (fun H locs X => ?_)
        refine lv_icmp_eq (tgt := 958) hx hb dL_law_238 (by decide) (fun _ => ?_) (fun c2 => absurd rfl c2)
        exact fin S1 T1 Qx hR1 hq _ _ ls X hl
      by_cases c_4 : sel = (3 : Int32)
      · refine lv_tableIn (off := 210) (tgt := 243) hx hb dL_law_33 (by rw [c_4]; decide) (by rw [c_4]; decide) (by rw [c_4]; decide) (by decide) ?_
        refine lv_aload_n hx hb dL_law_243 rfl (lv_at hl 1 rfl) ?_
        refine lv_aload_n hx hb dL_law_244 rfl (lv_at hl 0 rfl) ?_
        refine lv_iload_n hx hb dL_law_245 rfl (lv_at hl 3 rfl) ?_
        refine lv_iconst (v := (1 : Int32)) hx hb dL_law_246 (by decide) ?_
        refine lv_iadd hx hb dL_law_247 ?_
        refine va_sld hx hb hX hbl hbA X.2.2 h_1 dL_law_248 ?_
        refine lv_aload_n hx hb dL_law_249 rfl (lv_at hl 0 rfl) ?_
        refine lv_iload_n hx hb dL_law_250 rfl (lv_at hl 3 rfl) ?_
        refine lv_iconst (v := (2 : Int32)) hx hb dL_law_251 (by decide) ?_
        refine lv_iadd hx hb dL_law_252 ?_
        refine va_sld hx hb hX hbl hbA X.2.2 h_2 dL_law_253 ?_
        refine lv_aload_n hx hb dL_law_254 rfl (lv_at hl 0 rfl) ?_
        refine lv_iload_n hx hb dL_law_255 rfl (lv_at hl 3 rfl) ?_
        refine lv_iconst (v := (3 : Int32)) hx hb dL_law_256 (by decide) ?_
        refine lv_iadd hx hb dL_law_257 ?_
        refine va_sld hx hb hX hbl hbA X.2.2 h_3 dL_law_258 ?_
        refine lv_aload_n hx hb dL_law_259 rfl (lv_at hl 0 rfl) ?_
        refine lv_iload_n hx hb dL_law_260 rfl (lv_at hl 3 rfl) ?_
        refine lv_iconst (v := (4 : Int32)) hx hb dL_law_261 (by decide) ?_
        refine lv_iadd hx hb dL_law_262 ?_
        refine va_sld hx hb hX hbl hbA X.2.2 h_4 dL_law_263 ?_
        refine lv_aload_n hx hb dL_law_264 rfl (lv_at hl 0 rfl) ?_
        refine lv_iload_n hx hb dL_law_265 rfl (lv_at hl 3 rfl) ?_
        refine lv_iconst (v := (5 : Int32)) hx hb dL_law_266 (by decide) ?_
        refine lv_iadd hx hb dL_law_267 ?_
        refine va_sld hx hb hX hbl hbA X.2.2 h_5 dL_law_268 ?_
        obtain ⟨r, S1, T1, ex, em, hR1⟩ := (hok.2.2.2.1) (xs ((nI i + (1 : Int32))).toNatClampNeg) (xs ((nI i + (2 : Int32))).toNatClampNeg) (xs ((nI i + (3 : Int32))).toNatClampNeg) (xs ((nI i + (4 : Int32))).toNatClampNeg) (xs ((nI i + (5 : Int32))).toNatClampNeg) S T hR
        refine l_callX E X hq cwL_28 (mX7_pilgrim l (ZL Z0 Qx) hq.1 (xs ((nI i + (1 : Int32))).toNatClampNeg) (xs ((nI i + (2 : Int32))).toNatClampNeg) (xs ((nI i + (3 : Int32))).toNatClampNeg) (xs ((nI i + (4 : Int32))).toNatClampNeg) (xs ((nI i + (5 : Int32))).toNatClampNeg) ex) rfl rfl hl.1 rfl dL_law_269 (fun H locs X => ?_)
        refine lv_aload_n hx hb dL_law_272 rfl (lv_at hl 2 rfl) ?_
        refine lv_aload_n hx hb dL_law_273 rfl (lv_at hl 0 rfl) ?_
        refine lv_iload_n hx hb dL_law_274 rfl (lv_at hl 3 rfl) ?_
        refine lv_iconst (v := (1 : Int32)) hx hb dL_law_275 (by decide) ?_
        refine lv_iadd hx hb dL_law_276 ?_
        refine va_sld hx hb hX hbl hbA X.2.2 h_1 dL_law_277 ?_
        refine lv_aload_n hx hb dL_law_278 rfl (lv_at hl 0 rfl) ?_
        refine lv_iload_n hx hb dL_law_279 rfl (lv_at hl 3 rfl) ?_
        refine lv_iconst (v := (2 : Int32)) hx hb dL_law_280 (by decide) ?_
        refine lv_iadd hx hb dL_law_281 ?_
        refine va_sld hx hb hX hbl hbA X.2.2 h_2 dL_law_282 ?_
        refine lv_aload_n hx hb dL_law_283 rfl (lv_at hl 0 rfl) ?_
        refine lv_iload_n hx hb dL_law_284 rfl (lv_at hl 3 rfl) ?_
        refine lv_iconst (v := (3 : Int32)) hx hb dL_law_285 (by decide) ?_
        refine lv_iadd hx hb dL_law_286 ?_
        refine va_sld hx hb hX hbl hbA X.2.2 h_3 dL_law_287 ?_
        refine lv_aload_n hx hb dL_law_288 rfl (lv_at hl 0 rfl) ?_
        refine lv_iload_n hx hb dL_law_289 rfl (lv_at hl 3 rfl) ?_
        refine lv_iconst (v := (4 : Int32)) hx hb dL_law_290 (by decide) ?_
        refine lv_iadd hx hb dL_law_291 ?_
        refine va_sld hx hb hX hbl hbA X.2.2 h_4 dL_law_292 ?_
        refine lv_aload_n hx hb dL_law_293 rfl (lv_at hl 0 rfl) ?_
        refine lv_iload_n hx hb dL_law_294 rfl (lv_at hl 3 rfl) ?_
        refine lv_iconst (v := (5 : Int32)) hx hb dL_law_295 (by decide) ?_
        refine lv_iadd hx hb dL_law_296 ?_
        refine va_sld hx hb hX hbl hbA X.2.2 h_5 dL_law_297 ?_
        refine l_callM E X hq cwL_32 (mX8_pilgrim l (ZL Z0 (qM B)) (wQ_B (B := B + 46) (fun _ => rfl)) (xs ((nI i + (1 : Int32))).toNatClampNeg) (xs ((nI i + (2 : Int32))).toNatClampNeg) (xs ((nI i + (3 : Int32))).toNatClampNeg) (xs ((nI i + (4 : Int32))).toNatClampNeg) (xs ((nI i + (5 : Int32))).toNatClampNeg) em) rfl rfl hl.1 rfl dL_law_298 (fun H locs X => ?_)
        refine lv_icmp_eq (tgt := 958) hx hb dL_law_301 (by decide) (fun _ => ?_) (fun c2 => absurd rfl c2)
        exact fin S1 T1 Qx hR1 hq _ _ ls X hl
      by_cases c_5 : sel = (4 : Int32)
      · refine lv_tableIn (off := 273) (tgt := 306) hx hb dL_law_33 (by rw [c_5]; decide) (by rw [c_5]; decide) (by rw [c_5]; decide) (by decide) ?_
        refine lv_aload_n hx hb dL_law_306 rfl (lv_at hl 1 rfl) ?_
        refine lv_aload_n hx hb dL_law_307 rfl (lv_at hl 0 rfl) ?_
        refine lv_iload_n hx hb dL_law_308 rfl (lv_at hl 3 rfl) ?_
        refine lv_iconst (v := (1 : Int32)) hx hb dL_law_309 (by decide) ?_
        refine lv_iadd hx hb dL_law_310 ?_
        refine va_sld hx hb hX hbl hbA X.2.2 h_1 dL_law_311 ?_
        refine lv_aload_n hx hb dL_law_312 rfl (lv_at hl 0 rfl) ?_
        refine lv_iload_n hx hb dL_law_313 rfl (lv_at hl 3 rfl) ?_
        refine lv_iconst (v := (2 : Int32)) hx hb dL_law_314 (by decide) ?_
        refine lv_iadd hx hb dL_law_315 ?_
        refine va_sld hx hb hX hbl hbA X.2.2 h_2 dL_law_316 ?_
        refine lv_aload_n hx hb dL_law_317 rfl (lv_at hl 0 rfl) ?_
        refine lv_iload_n hx hb dL_law_318 rfl (lv_at hl 3 rfl) ?_
        refine lv_iconst (v := (3 : Int32)) hx hb dL_law_319 (by decide) ?_
        refine lv_iadd hx hb dL_law_320 ?_
        refine va_sld hx hb hX hbl hbA X.2.2 h_3 dL_law_321 ?_
        obtain ⟨r, S1, T1, ex, em, hR1⟩ := (hok.2.2.2.2.1) (xs ((nI i + (1 : Int32))).toNatClampNeg) (xs ((nI i + (2 : Int32))).toNatClampNeg) (xs ((nI i + (3 : Int32))).toNatClampNeg) S T hR
        refine l_callX E X hq cwL_33 (mX7_give l (ZL Z0 Qx) hq.1 (xs ((nI i + (1 : Int32))).toNatClampNeg) (xs ((nI i + (2 : Int32))).toNatClampNeg) (xs ((nI i + (3 : Int32))).toNatClampNeg) ex) rfl rfl hl.1 rfl dL_law_322 (fun H locs X => ?_)
        refine lv_aload_n hx hb dL_law_325 rfl (lv_at hl 2 rfl) ?_
        refine lv_aload_n hx hb dL_law_326 rfl (lv_at hl 0 rfl) ?_
        refine lv_iload_n hx hb dL_law_327 rfl (lv_at hl 3 rfl) ?_
        refine lv_iconst (v := (1 : Int32)) hx hb dL_law_328 (by decide) ?_
        refine lv_iadd hx hb dL_law_329 ?_
        refine va_sld hx hb hX hbl hbA X.2.2 h_1 dL_law_330 ?_
        refine lv_aload_n hx hb dL_law_331 rfl (lv_at hl 0 rfl) ?_
        refine lv_iload_n hx hb dL_law_332 rfl (lv_at hl 3 rfl) ?_
        refine lv_iconst (v := (2 : Int32)) hx hb dL_law_333 (by decide) ?_
        refine lv_iadd hx hb dL_law_334 ?_
        refine va_sld hx hb hX hbl hbA X.2.2 h_2 dL_law_335 ?_
        refine lv_aload_n hx hb dL_law_336 rfl (lv_at hl 0 rfl) ?_
        refine lv_iload_n hx hb dL_law_337 rfl (lv_at hl 3 rfl) ?_
        refine lv_iconst (v := (3 : Int32)) hx hb dL_law_338 (by decide) ?_
        refine lv_iadd hx hb dL_law_339 ?_
        refine va_sld hx hb hX hbl hbA X.2.2 h_3 dL_law_340 ?_
        refine l_callM E X hq cwL_36 (mX8_give l (ZL Z0 (qM B)) (wQ_B (B := B + 46) (fun _ => rfl)) (xs ((nI i + (1 : Int32))).toNatClampNeg) (xs ((nI i + (2 : Int32))).toNatClampNeg) (xs ((nI i + (3 : Int32))).toNatClampNeg) em) rfl rfl hl.1 rfl dL_law_341 (fun H locs X => ?_)
        refine lv_icmp_eq (tgt := 958) hx hb dL_law_344 (by decide) (fun _ => ?_) (fun c2 => absurd rfl c2)
        exact fin S1 T1 Qx hR1 hq _ _ ls X hl
      by_cases c_6 : sel = (5 : Int32)
      · refine lv_tableIn (off := 316) (tgt := 349) hx hb dL_law_33 (by rw [c_6]; decide) (by rw [c_6]; decide) (by rw [c_6]; decide) (by decide) ?_
        refine lv_aload_n hx hb dL_law_349 rfl (lv_at hl 1 rfl) ?_
        refine lv_aload_n hx hb dL_law_350 rfl (lv_at hl 0 rfl) ?_
        refine lv_iload_n hx hb dL_law_351 rfl (lv_at hl 3 rfl) ?_
        refine lv_iconst (v := (1 : Int32)) hx hb dL_law_352 (by decide) ?_
        refine lv_iadd hx hb dL_law_353 ?_
        refine va_sld hx hb hX hbl hbA X.2.2 h_1 dL_law_354 ?_
        refine lv_aload_n hx hb dL_law_355 rfl (lv_at hl 0 rfl) ?_
        refine lv_iload_n hx hb dL_law_356 rfl (lv_at hl 3 rfl) ?_
        refine lv_iconst (v := (2 : Int32)) hx hb dL_law_357 (by decide) ?_
        refine lv_iadd hx hb dL_law_358 ?_
        refine va_sld hx hb hX hbl hbA X.2.2 h_2 dL_law_359 ?_
        refine lv_aload_n hx hb dL_law_360 rfl (lv_at hl 0 rfl) ?_
        refine lv_iload_n hx hb dL_law_361 rfl (lv_at hl 3 rfl) ?_
        refine lv_iconst (v := (3 : Int32)) hx hb dL_law_362 (by decide) ?_
        refine lv_iadd hx hb dL_law_363 ?_
        refine va_sld hx hb hX hbl hbA X.2.2 h_3 dL_law_364 ?_
        refine lv_if_eq (tgt := 372) hx hb dL_law_365 (by decide) (fun cb => ?_) (fun cb => ?_)
        · refine lv_iconst (v := (0 : Int32)) hx hb dL_law_372 (by decide) ?_
          obtain ⟨r, S1, T1, ex, em, hR1⟩ := (hok.2.2.2.2.2.1) (xs ((nI i + (1 : Int32))).toNatClampNeg) (xs ((nI i + (2 : Int32))).toNatClampNeg) (0 : Int32) rfl S T hR
          refine l_callX E X hq cwL_37 (mX7_quarrel l (ZL Z0 Qx) hq.1 (xs ((nI i + (1 : Int32))).toNatClampNeg) (xs ((nI i + (2 : Int32))).toNatClampNeg) (0 : Int32) ex) rfl rfl hl.1 rfl dL_law_373 (fun H locs X => ?_)
          refine lv_aload_n hx hb dL_law_376 rfl (lv_at hl 2 rfl) ?_
          refine lv_aload_n hx hb dL_law_377 rfl (lv_at hl 0 rfl) ?_
          refine lv_iload_n hx hb dL_law_378 rfl (lv_at hl 3 rfl) ?_
          refine lv_iconst (v := (1 : Int32)) hx hb dL_law_379 (by decide) ?_
          refine lv_iadd hx hb dL_law_380 ?_
          refine va_sld hx hb hX hbl hbA X.2.2 h_1 dL_law_381 ?_
          refine lv_aload_n hx hb dL_law_382 rfl (lv_at hl 0 rfl) ?_
          refine lv_iload_n hx hb dL_law_383 rfl (lv_at hl 3 rfl) ?_
          refine lv_iconst (v := (2 : Int32)) hx hb dL_law_384 (by decide) ?_
          refine lv_iadd hx hb dL_law_385 ?_
          refine va_sld hx hb hX hbl hbA X.2.2 h_2 dL_law_386 ?_
          refine lv_aload_n hx hb dL_law_387 rfl (lv_at hl 0 rfl) ?_
          refine lv_iload_n hx hb dL_law_388 rfl (lv_at hl 3 rfl) ?_
          refine lv_iconst (v := (3 : Int32)) hx hb dL_law_389 (by decide) ?_
          refine lv_iadd hx hb dL_law_390 ?_
          refine va_sld hx hb hX hbl hbA X.2.2 h_3 dL_law_391 ?_
          refine lv_if_eq (tgt := 399) hx hb dL_law_392 (by decide) (fun _ => ?_) (fun c2 => absurd cb c2)
          refine lv_iconst (v := (0 : Int32)) hx hb dL_law_399 (by decide) ?_
          refine l_callM E X hq cwL_41 (mX8_quarrel l (ZL Z0 (qM B)) (wQ_B (B := B + 46) (fun _ => rfl)) (xs ((nI i + (1 : Int32))).toNatClampNeg) (xs ((nI i + (2 : Int32))).toNatClampNeg) (0 : Int32) em) rfl rfl hl.1 rfl dL_law_400 (fun H locs X => ?_)
          refine lv_icmp_eq (tgt := 958) hx hb dL_law_403 (by decide) (fun _ => ?_) (fun c2 => absurd rfl c2)
          exact fin S1 T1 Qx hR1 hq _ _ ls X hl
        · refine lv_iconst (v := (1 : Int32)) hx hb dL_law_368 (by decide) ?_
          refine lv_goto (tgt := 373) hx hb dL_law_369 (by decide) ?_
          obtain ⟨r, S1, T1, ex, em, hR1⟩ := (hok.2.2.2.2.2.1) (xs ((nI i + (1 : Int32))).toNatClampNeg) (xs ((nI i + (2 : Int32))).toNatClampNeg) (1 : Int32) rfl S T hR
          refine l_callX E X hq cwL_37 (mX7_quarrel l (ZL Z0 Qx) hq.1 (xs ((nI i + (1 : Int32))).toNatClampNeg) (xs ((nI i + (2 : Int32))).toNatClampNeg) (1 : Int32) ex) rfl rfl hl.1 rfl dL_law_373 (fun H locs X => ?_)
          refine lv_aload_n hx hb dL_law_376 rfl (lv_at hl 2 rfl) ?_
          refine lv_aload_n hx hb dL_law_377 rfl (lv_at hl 0 rfl) ?_
          refine lv_iload_n hx hb dL_law_378 rfl (lv_at hl 3 rfl) ?_
          refine lv_iconst (v := (1 : Int32)) hx hb dL_law_379 (by decide) ?_
          refine lv_iadd hx hb dL_law_380 ?_
          refine va_sld hx hb hX hbl hbA X.2.2 h_1 dL_law_381 ?_
          refine lv_aload_n hx hb dL_law_382 rfl (lv_at hl 0 rfl) ?_
          refine lv_iload_n hx hb dL_law_383 rfl (lv_at hl 3 rfl) ?_
          refine lv_iconst (v := (2 : Int32)) hx hb dL_law_384 (by decide) ?_
          refine lv_iadd hx hb dL_law_385 ?_
          refine va_sld hx hb hX hbl hbA X.2.2 h_2 dL_law_386 ?_
          refine lv_aload_n hx hb dL_law_387 rfl (lv_at hl 0 rfl) ?_
          refine lv_iload_n hx hb dL_law_388 rfl (lv_at hl 3 rfl) ?_
          refine lv_iconst (v := (3 : Int32)) hx hb dL_law_389 (by decide) ?_
          refine lv_iadd hx hb dL_law_390 ?_
          refine va_sld hx hb hX hbl hbA X.2.2 h_3 dL_law_391 ?_
          refine lv_if_eq (tgt := 399) hx hb dL_law_392 (by decide) (fun c2 => absurd c2 cb) (fun _ => ?_)
          refine lv_iconst (v := (1 : Int32)) hx hb dL_law_395 (by decide) ?_
          refine lv_goto (tgt := 400) hx hb dL_law_396 (by decide) ?_
          refine l_callM E X hq cwL_41 (mX8_quarrel l (ZL Z0 (qM B)) (wQ_B (B := B + 46) (fun _ => rfl)) (xs ((nI i + (1 : Int32))).toNatClampNeg) (xs ((nI i + (2 : Int32))).toNatClampNeg) (1 : Int32) em) rfl rfl hl.1 rfl dL_law_400 (fun H locs X => ?_)
          refine lv_icmp_eq (tgt := 958) hx hb dL_law_403 (by decide) (fun _ => ?_) (fun c2 => absurd rfl c2)
          exact fin S1 T1 Qx hR1 hq _ _ ls X hl
      by_cases c_7 : sel = (6 : Int32)
      · refine lv_tableIn (off := 375) (tgt := 408) hx hb dL_law_33 (by rw [c_7]; decide) (by rw [c_7]; decide) (by rw [c_7]; decide) (by decide) ?_
        refine lv_aload_n hx hb dL_law_408 rfl (lv_at hl 1 rfl) ?_
        refine lv_aload_n hx hb dL_law_409 rfl (lv_at hl 0 rfl) ?_
        refine lv_iload_n hx hb dL_law_410 rfl (lv_at hl 3 rfl) ?_
        refine lv_iconst (v := (1 : Int32)) hx hb dL_law_411 (by decide) ?_
        refine lv_iadd hx hb dL_law_412 ?_
        refine va_sld hx hb hX hbl hbA X.2.2 h_1 dL_law_413 ?_
        refine lv_aload_n hx hb dL_law_414 rfl (lv_at hl 0 rfl) ?_
        refine lv_iload_n hx hb dL_law_415 rfl (lv_at hl 3 rfl) ?_
        refine lv_iconst (v := (2 : Int32)) hx hb dL_law_416 (by decide) ?_
        refine lv_iadd hx hb dL_law_417 ?_
        refine va_sld hx hb hX hbl hbA X.2.2 h_2 dL_law_418 ?_
        refine lv_aload_n hx hb dL_law_419 rfl (lv_at hl 0 rfl) ?_
        refine lv_iload_n hx hb dL_law_420 rfl (lv_at hl 3 rfl) ?_
        refine lv_iconst (v := (3 : Int32)) hx hb dL_law_421 (by decide) ?_
        refine lv_iadd hx hb dL_law_422 ?_
        refine va_sld hx hb hX hbl hbA X.2.2 h_3 dL_law_423 ?_
        refine lv_aload_n hx hb dL_law_424 rfl (lv_at hl 0 rfl) ?_
        refine lv_iload_n hx hb dL_law_425 rfl (lv_at hl 3 rfl) ?_
        refine lv_iconst (v := (4 : Int32)) hx hb dL_law_426 (by decide) ?_
        refine lv_iadd hx hb dL_law_427 ?_
        refine va_sld hx hb hX hbl hbA X.2.2 h_4 dL_law_428 ?_
        refine lv_aload_n hx hb dL_law_429 rfl (lv_at hl 0 rfl) ?_
        refine lv_iload_n hx hb dL_law_430 rfl (lv_at hl 3 rfl) ?_
        refine lv_iconst (v := (5 : Int32)) hx hb dL_law_431 (by decide) ?_
        refine lv_iadd hx hb dL_law_432 ?_
        refine va_sld hx hb hX hbl hbA X.2.2 h_5 dL_law_433 ?_
        obtain ⟨r, S1, T1, ex, em, hR1⟩ := (hok.2.2.2.2.2.2.1) (xs ((nI i + (1 : Int32))).toNatClampNeg) (xs ((nI i + (2 : Int32))).toNatClampNeg) (xs ((nI i + (3 : Int32))).toNatClampNeg) (xs ((nI i + (4 : Int32))).toNatClampNeg) (xs ((nI i + (5 : Int32))).toNatClampNeg) S T hR
        refine l_callX E X hq cwL_42 (mX7_feed l (ZL Z0 Qx) hq.1 (xs ((nI i + (1 : Int32))).toNatClampNeg) (xs ((nI i + (2 : Int32))).toNatClampNeg) (xs ((nI i + (3 : Int32))).toNatClampNeg) (xs ((nI i + (4 : Int32))).toNatClampNeg) (xs ((nI i + (5 : Int32))).toNatClampNeg) ex) rfl rfl hl.1 rfl dL_law_434 (fun H locs X => ?_)
        refine lv_aload_n hx hb dL_law_437 rfl (lv_at hl 2 rfl) ?_
        refine lv_aload_n hx hb dL_law_438 rfl (lv_at hl 0 rfl) ?_
        refine lv_iload_n hx hb dL_law_439 rfl (lv_at hl 3 rfl) ?_
        refine lv_iconst (v := (1 : Int32)) hx hb dL_law_440 (by decide) ?_
        refine lv_iadd hx hb dL_law_441 ?_
        refine va_sld hx hb hX hbl hbA X.2.2 h_1 dL_law_442 ?_
        refine lv_aload_n hx hb dL_law_443 rfl (lv_at hl 0 rfl) ?_
        refine lv_iload_n hx hb dL_law_444 rfl (lv_at hl 3 rfl) ?_
        refine lv_iconst (v := (2 : Int32)) hx hb dL_law_445 (by decide) ?_
        refine lv_iadd hx hb dL_law_446 ?_
        refine va_sld hx hb hX hbl hbA X.2.2 h_2 dL_law_447 ?_
        refine lv_aload_n hx hb dL_law_448 rfl (lv_at hl 0 rfl) ?_
        refine lv_iload_n hx hb dL_law_449 rfl (lv_at hl 3 rfl) ?_
        refine lv_iconst (v := (3 : Int32)) hx hb dL_law_450 (by decide) ?_
        refine lv_iadd hx hb dL_law_451 ?_
        refine va_sld hx hb hX hbl hbA X.2.2 h_3 dL_law_452 ?_
        refine lv_aload_n hx hb dL_law_453 rfl (lv_at hl 0 rfl) ?_
        refine lv_iload_n hx hb dL_law_454 rfl (lv_at hl 3 rfl) ?_
        refine lv_iconst (v := (4 : Int32)) hx hb dL_law_455 (by decide) ?_
        refine lv_iadd hx hb dL_law_456 ?_
        refine va_sld hx hb hX hbl hbA X.2.2 h_4 dL_law_457 ?_
        refine lv_aload_n hx hb dL_law_458 rfl (lv_at hl 0 rfl) ?_
        refine lv_iload_n hx hb dL_law_459 rfl (lv_at hl 3 rfl) ?_
        refine lv_iconst (v := (5 : Int32)) hx hb dL_law_460 (by decide) ?_
        refine lv_iadd hx hb dL_law_461 ?_
        refine va_sld hx hb hX hbl hbA X.2.2 h_5 dL_law_462 ?_
        refine l_callM E X hq cwL_45 (mX8_feed l (ZL Z0 (qM B)) (wQ_B (B := B + 46) (fun _ => rfl)) (xs ((nI i + (1 : Int32))).toNatClampNeg) (xs ((nI i + (2 : Int32))).toNatClampNeg) (xs ((nI i + (3 : Int32))).toNatClampNeg) (xs ((nI i + (4 : Int32))).toNatClampNeg) (xs ((nI i + (5 : Int32))).toNatClampNeg) em) rfl rfl hl.1 rfl dL_law_463 (fun H locs X => ?_)
        refine lv_icmp_eq (tgt := 958) hx hb dL_law_466 (by decide) (fun _ => ?_) (fun c2 => absurd rfl c2)
        exact fin S1 T1 Qx hR1 hq _ _ ls X hl
      by_cases c_8 : sel = (7 : Int32)
      · refine lv_tableIn (off := 438) (tgt := 471) hx hb dL_law_33 (by rw [c_8]; decide) (by rw [c_8]; decide) (by rw [c_8]; decide) (by decide) ?_
        refine lv_aload_n hx hb dL_law_471 rfl (lv_at hl 1 rfl) ?_
        refine lv_aload_n hx hb dL_law_472 rfl (lv_at hl 0 rfl) ?_
        refine lv_iload_n hx hb dL_law_473 rfl (lv_at hl 3 rfl) ?_
        refine lv_iconst (v := (1 : Int32)) hx hb dL_law_474 (by decide) ?_
        refine lv_iadd hx hb dL_law_475 ?_
        refine va_sld hx hb hX hbl hbA X.2.2 h_1 dL_law_476 ?_
        obtain ⟨r, S1, T1, ex, em, hR1⟩ := (hok.2.2.2.2.2.2.2.1) (xs ((nI i + (1 : Int32))).toNatClampNeg) S T hR
        refine l_callX E X hq cwL_46 (mX7_end l (ZL Z0 Qx) hq.1 (xs ((nI i + (1 : Int32))).toNatClampNeg) ex) rfl rfl hl.1 rfl dL_law_477 (fun H locs X => ?_)
        refine lv_aload_n hx hb dL_law_480 rfl (lv_at hl 2 rfl) ?_
        refine lv_aload_n hx hb dL_law_481 rfl (lv_at hl 0 rfl) ?_
        refine lv_iload_n hx hb dL_law_482 rfl (lv_at hl 3 rfl) ?_
        refine lv_iconst (v := (1 : Int32)) hx hb dL_law_483 (by decide) ?_
        refine lv_iadd hx hb dL_law_484 ?_
        refine va_sld hx hb hX hbl hbA X.2.2 h_1 dL_law_485 ?_
        refine l_callM E X hq cwL_50 (mX8_end l (ZL Z0 (qM B)) (wQ_B (B := B + 46) (fun _ => rfl)) (xs ((nI i + (1 : Int32))).toNatClampNeg) em) rfl rfl hl.1 rfl dL_law_486 (fun H locs X => ?_)
        refine lv_icmp_eq (tgt := 958) hx hb dL_law_489 (by decide) (fun _ => ?_) (fun c2 => absurd rfl c2)
        exact fin S1 T1 Qx hR1 hq _ _ ls X hl
      by_cases c_9 : sel = (8 : Int32)
      · refine lv_tableIn (off := 461) (tgt := 494) hx hb dL_law_33 (by rw [c_9]; decide) (by rw [c_9]; decide) (by rw [c_9]; decide) (by decide) ?_
        refine lv_aload_n hx hb dL_law_494 rfl (lv_at hl 1 rfl) ?_
        obtain ⟨r, S1, T1, ex, em, hR1⟩ := (hok.2.2.2.2.2.2.2.2.1)  S T hR
        refine l_callT E X hq cwL_51 (mX7_text l (ZL Z0 Qx) hq.1 ex) rfl hl.1 rfl dL_law_495 (fun H locs Qx2 hq2 X e0 => ?_)
        refine lv_aload_n hx hb dL_law_498 rfl (lv_at hl 2 rfl) ?_
        refine l_callM E X hq2 cwL_55 (mX8_text l (ZL Z0 (qM B)) (wQ_B (B := B + 46) (fun _ => rfl))  em) rfl rfl hl.1 rfl dL_law_499 (fun H locs X => ?_)
        refine lv_icmp_eq (tgt := 958) hx hb dL_law_502 (by decide) (fun _ => ?_) (fun c2 => absurd rfl c2)
        exact fin S1 T1 Qx2 hR1 hq2 _ _ ls X (by rw [e0]; exact hl)
      by_cases c_10 : sel = (9 : Int32)
      · refine lv_tableIn (off := 474) (tgt := 507) hx hb dL_law_33 (by rw [c_10]; decide) (by rw [c_10]; decide) (by rw [c_10]; decide) (by decide) ?_
        refine lv_aload_n hx hb dL_law_507 rfl (lv_at hl 1 rfl) ?_
        refine lv_aload_n hx hb dL_law_508 rfl (lv_at hl 0 rfl) ?_
        refine lv_iload_n hx hb dL_law_509 rfl (lv_at hl 3 rfl) ?_
        refine lv_iconst (v := (1 : Int32)) hx hb dL_law_510 (by decide) ?_
        refine lv_iadd hx hb dL_law_511 ?_
        refine va_sld hx hb hX hbl hbA X.2.2 h_1 dL_law_512 ?_
        obtain ⟨r, S1, T1, ex, em, hR1⟩ := (hok.2.2.2.2.2.2.2.2.2.1) (xs ((nI i + (1 : Int32))).toNatClampNeg) S T hR
        refine l_callX E X hq cwL_56 (mX7_fault l (ZL Z0 Qx) hq.1 (xs ((nI i + (1 : Int32))).toNatClampNeg) ex) rfl rfl hl.1 rfl dL_law_513 (fun H locs X => ?_)
        refine lv_aload_n hx hb dL_law_516 rfl (lv_at hl 2 rfl) ?_
        refine lv_aload_n hx hb dL_law_517 rfl (lv_at hl 0 rfl) ?_
        refine lv_iload_n hx hb dL_law_518 rfl (lv_at hl 3 rfl) ?_
        refine lv_iconst (v := (1 : Int32)) hx hb dL_law_519 (by decide) ?_
        refine lv_iadd hx hb dL_law_520 ?_
        refine va_sld hx hb hX hbl hbA X.2.2 h_1 dL_law_521 ?_
        refine l_callM E X hq cwL_59 (mX8_fault l (ZL Z0 (qM B)) (wQ_B (B := B + 46) (fun _ => rfl)) (xs ((nI i + (1 : Int32))).toNatClampNeg) em) rfl rfl hl.1 rfl dL_law_522 (fun H locs X => ?_)
        refine lv_icmp_eq (tgt := 958) hx hb dL_law_525 (by decide) (fun _ => ?_) (fun c2 => absurd rfl c2)
        exact fin S1 T1 Qx hR1 hq _ _ ls X hl
      by_cases c_11 : sel = (10 : Int32)
      · refine lv_tableIn (off := 497) (tgt := 530) hx hb dL_law_33 (by rw [c_11]; decide) (by rw [c_11]; decide) (by rw [c_11]; decide) (by decide) ?_
        refine lv_aload_n hx hb dL_law_530 rfl (lv_at hl 1 rfl) ?_
        refine lv_aload_n hx hb dL_law_531 rfl (lv_at hl 0 rfl) ?_
        refine lv_iload_n hx hb dL_law_532 rfl (lv_at hl 3 rfl) ?_
        refine lv_iconst (v := (1 : Int32)) hx hb dL_law_533 (by decide) ?_
        refine lv_iadd hx hb dL_law_534 ?_
        refine va_sld hx hb hX hbl hbA X.2.2 h_1 dL_law_535 ?_
        obtain ⟨r, S1, T1, ex, em, hR1⟩ := (hok.2.2.2.2.2.2.2.2.2.2.1) (xs ((nI i + (1 : Int32))).toNatClampNeg) S T hR
        refine l_callX E X hq cwL_60 (mX7_hours l (ZL Z0 Qx) hq.1 (xs ((nI i + (1 : Int32))).toNatClampNeg) ex) rfl rfl hl.1 rfl dL_law_536 (fun H locs X => ?_)
        refine lv_aload_n hx hb dL_law_539 rfl (lv_at hl 2 rfl) ?_
        refine lv_aload_n hx hb dL_law_540 rfl (lv_at hl 0 rfl) ?_
        refine lv_iload_n hx hb dL_law_541 rfl (lv_at hl 3 rfl) ?_
        refine lv_iconst (v := (1 : Int32)) hx hb dL_law_542 (by decide) ?_
        refine lv_iadd hx hb dL_law_543 ?_
        refine va_sld hx hb hX hbl hbA X.2.2 h_1 dL_law_544 ?_
        refine l_callM E X hq cwL_63 (mX8_hours l (ZL Z0 (qM B)) (wQ_B (B := B + 46) (fun _ => rfl)) (xs ((nI i + (1 : Int32))).toNatClampNeg) em) rfl rfl hl.1 rfl dL_law_545 (fun H locs X => ?_)
        refine lv_icmp_eq (tgt := 958) hx hb dL_law_548 (by decide) (fun _ => ?_) (fun c2 => absurd rfl c2)
        exact fin S1 T1 Qx hR1 hq _ _ ls X hl
      by_cases c_12 : sel = (11 : Int32)
      · refine lv_tableIn (off := 520) (tgt := 553) hx hb dL_law_33 (by rw [c_12]; decide) (by rw [c_12]; decide) (by rw [c_12]; decide) (by decide) ?_
        refine lv_aload_n hx hb dL_law_553 rfl (lv_at hl 1 rfl) ?_
        obtain ⟨r, S1, T1, ex, em, hR1⟩ := (hok.2.2.2.2.2.2.2.2.2.2.2.1)  S T hR
        refine l_callX E X hq cwL_64 (mX7_evening l (ZL Z0 Qx) hq.1  ex) rfl rfl hl.1 rfl dL_law_554 (fun H locs X => ?_)
        refine lv_aload_n hx hb dL_law_557 rfl (lv_at hl 2 rfl) ?_
        refine l_callM E X hq cwL_67 (mX8_evening l (ZL Z0 (qM B)) (wQ_B (B := B + 46) (fun _ => rfl))  em) rfl rfl hl.1 rfl dL_law_558 (fun H locs X => ?_)
        refine lv_icmp_eq (tgt := 958) hx hb dL_law_561 (by decide) (fun _ => ?_) (fun c2 => absurd rfl c2)
        exact fin S1 T1 Qx hR1 hq _ _ ls X hl
      by_cases c_13 : sel = (12 : Int32)
      · refine lv_tableIn (off := 533) (tgt := 566) hx hb dL_law_33 (by rw [c_13]; decide) (by rw [c_13]; decide) (by rw [c_13]; decide) (by decide) ?_
        refine lv_aload_n hx hb dL_law_566 rfl (lv_at hl 1 rfl) ?_
        refine lv_aload_n hx hb dL_law_567 rfl (lv_at hl 0 rfl) ?_
        refine lv_iload_n hx hb dL_law_568 rfl (lv_at hl 3 rfl) ?_
        refine lv_iconst (v := (1 : Int32)) hx hb dL_law_569 (by decide) ?_
        refine lv_iadd hx hb dL_law_570 ?_
        refine va_sld hx hb hX hbl hbA X.2.2 h_1 dL_law_571 ?_
        refine lv_aload_n hx hb dL_law_572 rfl (lv_at hl 0 rfl) ?_
        refine lv_iload_n hx hb dL_law_573 rfl (lv_at hl 3 rfl) ?_
        refine lv_iconst (v := (2 : Int32)) hx hb dL_law_574 (by decide) ?_
        refine lv_iadd hx hb dL_law_575 ?_
        refine va_sld hx hb hX hbl hbA X.2.2 h_2 dL_law_576 ?_
        obtain ⟨r, S1, T1, ex, em, hR1⟩ := (hok.2.2.2.2.2.2.2.2.2.2.2.2.1) (xs ((nI i + (1 : Int32))).toNatClampNeg) (xs ((nI i + (2 : Int32))).toNatClampNeg) S T hR
        refine l_callX E X hq cwL_68 (mX7_of l (ZL Z0 Qx) hq.1 (xs ((nI i + (1 : Int32))).toNatClampNeg) (xs ((nI i + (2 : Int32))).toNatClampNeg) ex) rfl rfl hl.1 rfl dL_law_577 (fun H locs X => ?_)
        refine lv_aload_n hx hb dL_law_580 rfl (lv_at hl 2 rfl) ?_
        refine lv_aload_n hx hb dL_law_581 rfl (lv_at hl 0 rfl) ?_
        refine lv_iload_n hx hb dL_law_582 rfl (lv_at hl 3 rfl) ?_
        refine lv_iconst (v := (1 : Int32)) hx hb dL_law_583 (by decide) ?_
        refine lv_iadd hx hb dL_law_584 ?_
        refine va_sld hx hb hX hbl hbA X.2.2 h_1 dL_law_585 ?_
        refine lv_aload_n hx hb dL_law_586 rfl (lv_at hl 0 rfl) ?_
        refine lv_iload_n hx hb dL_law_587 rfl (lv_at hl 3 rfl) ?_
        refine lv_iconst (v := (2 : Int32)) hx hb dL_law_588 (by decide) ?_
        refine lv_iadd hx hb dL_law_589 ?_
        refine va_sld hx hb hX hbl hbA X.2.2 h_2 dL_law_590 ?_
        refine l_callM E X hq cwL_72 (mX8_of l (ZL Z0 (qM B)) (wQ_B (B := B + 46) (fun _ => rfl)) (xs ((nI i + (1 : Int32))).toNatClampNeg) (xs ((nI i + (2 : Int32))).toNatClampNeg) em) rfl rfl hl.1 rfl dL_law_591 (fun H locs X => ?_)
        refine lv_icmp_eq (tgt := 958) hx hb dL_law_594 (by decide) (fun _ => ?_) (fun c2 => absurd rfl c2)
        exact fin S1 T1 Qx hR1 hq _ _ ls X hl
      by_cases c_14 : sel = (13 : Int32)
      · refine lv_tableIn (off := 566) (tgt := 599) hx hb dL_law_33 (by rw [c_14]; decide) (by rw [c_14]; decide) (by rw [c_14]; decide) (by decide) ?_
        refine lv_aload_n hx hb dL_law_599 rfl (lv_at hl 1 rfl) ?_
        refine lv_aload_n hx hb dL_law_600 rfl (lv_at hl 0 rfl) ?_
        refine lv_iload_n hx hb dL_law_601 rfl (lv_at hl 3 rfl) ?_
        refine lv_iconst (v := (1 : Int32)) hx hb dL_law_602 (by decide) ?_
        refine lv_iadd hx hb dL_law_603 ?_
        refine va_sld hx hb hX hbl hbA X.2.2 h_1 dL_law_604 ?_
        refine lv_aload_n hx hb dL_law_605 rfl (lv_at hl 0 rfl) ?_
        refine lv_iload_n hx hb dL_law_606 rfl (lv_at hl 3 rfl) ?_
        refine lv_iconst (v := (2 : Int32)) hx hb dL_law_607 (by decide) ?_
        refine lv_iadd hx hb dL_law_608 ?_
        refine va_sld hx hb hX hbl hbA X.2.2 h_2 dL_law_609 ?_
        obtain ⟨r, S1, T1, ex, em, hR1⟩ := (hok.2.2.2.2.2.2.2.2.2.2.2.2.2.1) (xs ((nI i + (1 : Int32))).toNatClampNeg) (xs ((nI i + (2 : Int32))).toNatClampNeg) S T hR
        refine l_callX E X hq cwL_73 (mX7_shade l (ZL Z0 Qx) hq.1 (xs ((nI i + (1 : Int32))).toNatClampNeg) (xs ((nI i + (2 : Int32))).toNatClampNeg) ex) rfl rfl hl.1 rfl dL_law_610 (fun H locs X => ?_)
        refine lv_aload_n hx hb dL_law_613 rfl (lv_at hl 2 rfl) ?_
        refine lv_aload_n hx hb dL_law_614 rfl (lv_at hl 0 rfl) ?_
        refine lv_iload_n hx hb dL_law_615 rfl (lv_at hl 3 rfl) ?_
        refine lv_iconst (v := (1 : Int32)) hx hb dL_law_616 (by decide) ?_
        refine lv_iadd hx hb dL_law_617 ?_
        refine va_sld hx hb hX hbl hbA X.2.2 h_1 dL_law_618 ?_
        refine lv_aload_n hx hb dL_law_619 rfl (lv_at hl 0 rfl) ?_
        refine lv_iload_n hx hb dL_law_620 rfl (lv_at hl 3 rfl) ?_
        refine lv_iconst (v := (2 : Int32)) hx hb dL_law_621 (by decide) ?_
        refine lv_iadd hx hb dL_law_622 ?_
        refine va_sld hx hb hX hbl hbA X.2.2 h_2 dL_law_623 ?_
        refine l_callM E X hq cwL_76 (mX8_shade l (ZL Z0 (qM B)) (wQ_B (B := B + 46) (fun _ => rfl)) (xs ((nI i + (1 : Int32))).toNatClampNeg) (xs ((nI i + (2 : Int32))).toNatClampNeg) em) rfl rfl hl.1 rfl dL_law_624 (fun H locs X => ?_)
        refine lv_icmp_eq (tgt := 958) hx hb dL_law_627 (by decide) (fun _ => ?_) (fun c2 => absurd rfl c2)
        exact fin S1 T1 Qx hR1 hq _ _ ls X hl
      by_cases c_15 : sel = (14 : Int32)
      · refine lv_tableIn (off := 599) (tgt := 632) hx hb dL_law_33 (by rw [c_15]; decide) (by rw [c_15]; decide) (by rw [c_15]; decide) (by decide) ?_
        refine lv_aload_n hx hb dL_law_632 rfl (lv_at hl 1 rfl) ?_
        refine lv_aload_n hx hb dL_law_633 rfl (lv_at hl 0 rfl) ?_
        refine lv_iload_n hx hb dL_law_634 rfl (lv_at hl 3 rfl) ?_
        refine lv_iconst (v := (1 : Int32)) hx hb dL_law_635 (by decide) ?_
        refine lv_iadd hx hb dL_law_636 ?_
        refine va_sld hx hb hX hbl hbA X.2.2 h_1 dL_law_637 ?_
        refine lv_aload_n hx hb dL_law_638 rfl (lv_at hl 0 rfl) ?_
        refine lv_iload_n hx hb dL_law_639 rfl (lv_at hl 3 rfl) ?_
        refine lv_iconst (v := (2 : Int32)) hx hb dL_law_640 (by decide) ?_
        refine lv_iadd hx hb dL_law_641 ?_
        refine va_sld hx hb hX hbl hbA X.2.2 h_2 dL_law_642 ?_
        obtain ⟨r, S1, T1, ex, em, hR1⟩ := (hok.2.2.2.2.2.2.2.2.2.2.2.2.2.2.1) (xs ((nI i + (1 : Int32))).toNatClampNeg) (xs ((nI i + (2 : Int32))).toNatClampNeg) S T hR
        refine l_callX E X hq cwL_77 (mX7_book l (ZL Z0 Qx) hq.1 (xs ((nI i + (1 : Int32))).toNatClampNeg) (xs ((nI i + (2 : Int32))).toNatClampNeg) ex) rfl rfl hl.1 rfl dL_law_643 (fun H locs X => ?_)
        refine lv_aload_n hx hb dL_law_646 rfl (lv_at hl 2 rfl) ?_
        refine lv_aload_n hx hb dL_law_647 rfl (lv_at hl 0 rfl) ?_
        refine lv_iload_n hx hb dL_law_648 rfl (lv_at hl 3 rfl) ?_
        refine lv_iconst (v := (1 : Int32)) hx hb dL_law_649 (by decide) ?_
        refine lv_iadd hx hb dL_law_650 ?_
        refine va_sld hx hb hX hbl hbA X.2.2 h_1 dL_law_651 ?_
        refine lv_aload_n hx hb dL_law_652 rfl (lv_at hl 0 rfl) ?_
        refine lv_iload_n hx hb dL_law_653 rfl (lv_at hl 3 rfl) ?_
        refine lv_iconst (v := (2 : Int32)) hx hb dL_law_654 (by decide) ?_
        refine lv_iadd hx hb dL_law_655 ?_
        refine va_sld hx hb hX hbl hbA X.2.2 h_2 dL_law_656 ?_
        refine l_callM E X hq cwL_80 (mX8_book l (ZL Z0 (qM B)) (wQ_B (B := B + 46) (fun _ => rfl)) (xs ((nI i + (1 : Int32))).toNatClampNeg) (xs ((nI i + (2 : Int32))).toNatClampNeg) em) rfl rfl hl.1 rfl dL_law_657 (fun H locs X => ?_)
        refine lv_icmp_eq (tgt := 958) hx hb dL_law_660 (by decide) (fun _ => ?_) (fun c2 => absurd rfl c2)
        exact fin S1 T1 Qx hR1 hq _ _ ls X hl
      by_cases c_16 : sel = (15 : Int32)
      · refine lv_tableIn (off := 632) (tgt := 665) hx hb dL_law_33 (by rw [c_16]; decide) (by rw [c_16]; decide) (by rw [c_16]; decide) (by decide) ?_
        refine lv_aload_n hx hb dL_law_665 rfl (lv_at hl 1 rfl) ?_
        refine lv_aload_n hx hb dL_law_666 rfl (lv_at hl 0 rfl) ?_
        refine lv_iload_n hx hb dL_law_667 rfl (lv_at hl 3 rfl) ?_
        refine lv_iconst (v := (1 : Int32)) hx hb dL_law_668 (by decide) ?_
        refine lv_iadd hx hb dL_law_669 ?_
        refine va_sld hx hb hX hbl hbA X.2.2 h_1 dL_law_670 ?_
        refine lv_aload_n hx hb dL_law_671 rfl (lv_at hl 0 rfl) ?_
        refine lv_iload_n hx hb dL_law_672 rfl (lv_at hl 3 rfl) ?_
        refine lv_iconst (v := (2 : Int32)) hx hb dL_law_673 (by decide) ?_
        refine lv_iadd hx hb dL_law_674 ?_
        refine va_sld hx hb hX hbl hbA X.2.2 h_2 dL_law_675 ?_
        refine lv_aload_n hx hb dL_law_676 rfl (lv_at hl 0 rfl) ?_
        refine lv_iload_n hx hb dL_law_677 rfl (lv_at hl 3 rfl) ?_
        refine lv_iconst (v := (3 : Int32)) hx hb dL_law_678 (by decide) ?_
        refine lv_iadd hx hb dL_law_679 ?_
        refine va_sld hx hb hX hbl hbA X.2.2 h_3 dL_law_680 ?_
        obtain ⟨r, S1, T1, ex, em, hR1⟩ := (hok.2.2.2.2.2.2.2.2.2.2.2.2.2.2.2.1) (xs ((nI i + (1 : Int32))).toNatClampNeg) (xs ((nI i + (2 : Int32))).toNatClampNeg) (xs ((nI i + (3 : Int32))).toNatClampNeg) S T hR
        refine l_callX E X hq cwL_81 (mX7_walk l (ZL Z0 Qx) hq.1 (xs ((nI i + (1 : Int32))).toNatClampNeg) (xs ((nI i + (2 : Int32))).toNatClampNeg) (xs ((nI i + (3 : Int32))).toNatClampNeg) ex) rfl rfl hl.1 rfl dL_law_681 (fun H locs X => ?_)
        refine lv_aload_n hx hb dL_law_684 rfl (lv_at hl 2 rfl) ?_
        refine lv_aload_n hx hb dL_law_685 rfl (lv_at hl 0 rfl) ?_
        refine lv_iload_n hx hb dL_law_686 rfl (lv_at hl 3 rfl) ?_
        refine lv_iconst (v := (1 : Int32)) hx hb dL_law_687 (by decide) ?_
        refine lv_iadd hx hb dL_law_688 ?_
        refine va_sld hx hb hX hbl hbA X.2.2 h_1 dL_law_689 ?_
        refine lv_aload_n hx hb dL_law_690 rfl (lv_at hl 0 rfl) ?_
        refine lv_iload_n hx hb dL_law_691 rfl (lv_at hl 3 rfl) ?_
        refine lv_iconst (v := (2 : Int32)) hx hb dL_law_692 (by decide) ?_
        refine lv_iadd hx hb dL_law_693 ?_
        refine va_sld hx hb hX hbl hbA X.2.2 h_2 dL_law_694 ?_
        refine lv_aload_n hx hb dL_law_695 rfl (lv_at hl 0 rfl) ?_
        refine lv_iload_n hx hb dL_law_696 rfl (lv_at hl 3 rfl) ?_
        refine lv_iconst (v := (3 : Int32)) hx hb dL_law_697 (by decide) ?_
        refine lv_iadd hx hb dL_law_698 ?_
        refine va_sld hx hb hX hbl hbA X.2.2 h_3 dL_law_699 ?_
        refine l_callM E X hq cwL_85 (mX8_walk l (ZL Z0 (qM B)) (wQ_B (B := B + 46) (fun _ => rfl)) (xs ((nI i + (1 : Int32))).toNatClampNeg) (xs ((nI i + (2 : Int32))).toNatClampNeg) (xs ((nI i + (3 : Int32))).toNatClampNeg) em) rfl rfl hl.1 rfl dL_law_700 (fun H locs X => ?_)
        refine lv_icmp_eq (tgt := 958) hx hb dL_law_703 (by decide) (fun _ => ?_) (fun c2 => absurd rfl c2)
        exact fin S1 T1 Qx hR1 hq _ _ ls X hl
      by_cases c_17 : sel = (16 : Int32)
      · refine lv_tableIn (off := 675) (tgt := 708) hx hb dL_law_33 (by rw [c_17]; decide) (by rw [c_17]; decide) (by rw [c_17]; decide) (by decide) ?_
        refine lv_aload_n hx hb dL_law_708 rfl (lv_at hl 1 rfl) ?_
        refine lv_aload_n hx hb dL_law_709 rfl (lv_at hl 0 rfl) ?_
        refine lv_iload_n hx hb dL_law_710 rfl (lv_at hl 3 rfl) ?_
        refine lv_iconst (v := (1 : Int32)) hx hb dL_law_711 (by decide) ?_
        refine lv_iadd hx hb dL_law_712 ?_
        refine va_sld hx hb hX hbl hbA X.2.2 h_1 dL_law_713 ?_
        refine lv_aload_n hx hb dL_law_714 rfl (lv_at hl 0 rfl) ?_
        refine lv_iload_n hx hb dL_law_715 rfl (lv_at hl 3 rfl) ?_
        refine lv_iconst (v := (2 : Int32)) hx hb dL_law_716 (by decide) ?_
        refine lv_iadd hx hb dL_law_717 ?_
        refine va_sld hx hb hX hbl hbA X.2.2 h_2 dL_law_718 ?_
        obtain ⟨r, S1, T1, ex, em, hR1⟩ := (hok.2.2.2.2.2.2.2.2.2.2.2.2.2.2.2.2.1) (xs ((nI i + (1 : Int32))).toNatClampNeg) (xs ((nI i + (2 : Int32))).toNatClampNeg) S T hR
        refine l_callX E X hq cwL_86 (mX7_fewest l (ZL Z0 Qx) hq.1 (xs ((nI i + (1 : Int32))).toNatClampNeg) (xs ((nI i + (2 : Int32))).toNatClampNeg) ex) rfl rfl hl.1 rfl dL_law_719 (fun H locs X => ?_)
        refine lv_aload_n hx hb dL_law_722 rfl (lv_at hl 2 rfl) ?_
        refine lv_aload_n hx hb dL_law_723 rfl (lv_at hl 0 rfl) ?_
        refine lv_iload_n hx hb dL_law_724 rfl (lv_at hl 3 rfl) ?_
        refine lv_iconst (v := (1 : Int32)) hx hb dL_law_725 (by decide) ?_
        refine lv_iadd hx hb dL_law_726 ?_
        refine va_sld hx hb hX hbl hbA X.2.2 h_1 dL_law_727 ?_
        refine lv_aload_n hx hb dL_law_728 rfl (lv_at hl 0 rfl) ?_
        refine lv_iload_n hx hb dL_law_729 rfl (lv_at hl 3 rfl) ?_
        refine lv_iconst (v := (2 : Int32)) hx hb dL_law_730 (by decide) ?_
        refine lv_iadd hx hb dL_law_731 ?_
        refine va_sld hx hb hX hbl hbA X.2.2 h_2 dL_law_732 ?_
        refine l_callM E X hq cwL_89 (mX8_fewest l (ZL Z0 (qM B)) (wQ_B (B := B + 46) (fun _ => rfl)) (xs ((nI i + (1 : Int32))).toNatClampNeg) (xs ((nI i + (2 : Int32))).toNatClampNeg) em) rfl rfl hl.1 rfl dL_law_733 (fun H locs X => ?_)
        refine lv_icmp_eq (tgt := 958) hx hb dL_law_736 (by decide) (fun _ => ?_) (fun c2 => absurd rfl c2)
        exact fin S1 T1 Qx hR1 hq _ _ ls X hl
      by_cases c_18 : sel = (17 : Int32)
      · refine lv_tableIn (off := 708) (tgt := 741) hx hb dL_law_33 (by rw [c_18]; decide) (by rw [c_18]; decide) (by rw [c_18]; decide) (by decide) ?_
        refine lv_aload_n hx hb dL_law_741 rfl (lv_at hl 1 rfl) ?_
        refine lv_aload_n hx hb dL_law_742 rfl (lv_at hl 0 rfl) ?_
        refine lv_iload_n hx hb dL_law_743 rfl (lv_at hl 3 rfl) ?_
        refine lv_iconst (v := (1 : Int32)) hx hb dL_law_744 (by decide) ?_
        refine lv_iadd hx hb dL_law_745 ?_
        refine va_sld hx hb hX hbl hbA X.2.2 h_1 dL_law_746 ?_
        refine lv_aload_n hx hb dL_law_747 rfl (lv_at hl 0 rfl) ?_
        refine lv_iload_n hx hb dL_law_748 rfl (lv_at hl 3 rfl) ?_
        refine lv_iconst (v := (2 : Int32)) hx hb dL_law_749 (by decide) ?_
        refine lv_iadd hx hb dL_law_750 ?_
        refine va_sld hx hb hX hbl hbA X.2.2 h_2 dL_law_751 ?_
        refine lv_aload_n hx hb dL_law_752 rfl (lv_at hl 0 rfl) ?_
        refine lv_iload_n hx hb dL_law_753 rfl (lv_at hl 3 rfl) ?_
        refine lv_iconst (v := (3 : Int32)) hx hb dL_law_754 (by decide) ?_
        refine lv_iadd hx hb dL_law_755 ?_
        refine va_sld hx hb hX hbl hbA X.2.2 h_3 dL_law_756 ?_
        obtain ⟨r, S1, T1, ex, em, hR1⟩ := (hok.2.2.2.2.2.2.2.2.2.2.2.2.2.2.2.2.2.1) (xs ((nI i + (1 : Int32))).toNatClampNeg) (xs ((nI i + (2 : Int32))).toNatClampNeg) (xs ((nI i + (3 : Int32))).toNatClampNeg) S T hR
        refine l_callX E X hq cwL_90 (mX7_turn l (ZL Z0 Qx) hq.1 (xs ((nI i + (1 : Int32))).toNatClampNeg) (xs ((nI i + (2 : Int32))).toNatClampNeg) (xs ((nI i + (3 : Int32))).toNatClampNeg) ex) rfl rfl hl.1 rfl dL_law_757 (fun H locs X => ?_)
        refine lv_aload_n hx hb dL_law_760 rfl (lv_at hl 2 rfl) ?_
        refine lv_aload_n hx hb dL_law_761 rfl (lv_at hl 0 rfl) ?_
        refine lv_iload_n hx hb dL_law_762 rfl (lv_at hl 3 rfl) ?_
        refine lv_iconst (v := (1 : Int32)) hx hb dL_law_763 (by decide) ?_
        refine lv_iadd hx hb dL_law_764 ?_
        refine va_sld hx hb hX hbl hbA X.2.2 h_1 dL_law_765 ?_
        refine lv_aload_n hx hb dL_law_766 rfl (lv_at hl 0 rfl) ?_
        refine lv_iload_n hx hb dL_law_767 rfl (lv_at hl 3 rfl) ?_
        refine lv_iconst (v := (2 : Int32)) hx hb dL_law_768 (by decide) ?_
        refine lv_iadd hx hb dL_law_769 ?_
        refine va_sld hx hb hX hbl hbA X.2.2 h_2 dL_law_770 ?_
        refine lv_aload_n hx hb dL_law_771 rfl (lv_at hl 0 rfl) ?_
        refine lv_iload_n hx hb dL_law_772 rfl (lv_at hl 3 rfl) ?_
        refine lv_iconst (v := (3 : Int32)) hx hb dL_law_773 (by decide) ?_
        refine lv_iadd hx hb dL_law_774 ?_
        refine va_sld hx hb hX hbl hbA X.2.2 h_3 dL_law_775 ?_
        refine l_callM E X hq cwL_93 (mX8_turn l (ZL Z0 (qM B)) (wQ_B (B := B + 46) (fun _ => rfl)) (xs ((nI i + (1 : Int32))).toNatClampNeg) (xs ((nI i + (2 : Int32))).toNatClampNeg) (xs ((nI i + (3 : Int32))).toNatClampNeg) em) rfl rfl hl.1 rfl dL_law_776 (fun H locs X => ?_)
        refine lv_icmp_eq (tgt := 958) hx hb dL_law_779 (by decide) (fun _ => ?_) (fun c2 => absurd rfl c2)
        exact fin S1 T1 Qx hR1 hq _ _ ls X hl
      by_cases c_19 : sel = (18 : Int32)
      · refine lv_tableIn (off := 751) (tgt := 784) hx hb dL_law_33 (by rw [c_19]; decide) (by rw [c_19]; decide) (by rw [c_19]; decide) (by decide) ?_
        refine lv_aload_n hx hb dL_law_784 rfl (lv_at hl 1 rfl) ?_
        refine lv_aload_n hx hb dL_law_785 rfl (lv_at hl 0 rfl) ?_
        refine lv_iload_n hx hb dL_law_786 rfl (lv_at hl 3 rfl) ?_
        refine lv_iconst (v := (1 : Int32)) hx hb dL_law_787 (by decide) ?_
        refine lv_iadd hx hb dL_law_788 ?_
        refine va_sld hx hb hX hbl hbA X.2.2 h_1 dL_law_789 ?_
        refine lv_aload_n hx hb dL_law_790 rfl (lv_at hl 0 rfl) ?_
        refine lv_iload_n hx hb dL_law_791 rfl (lv_at hl 3 rfl) ?_
        refine lv_iconst (v := (2 : Int32)) hx hb dL_law_792 (by decide) ?_
        refine lv_iadd hx hb dL_law_793 ?_
        refine va_sld hx hb hX hbl hbA X.2.2 h_2 dL_law_794 ?_
        refine lv_aload_n hx hb dL_law_795 rfl (lv_at hl 0 rfl) ?_
        refine lv_iload_n hx hb dL_law_796 rfl (lv_at hl 3 rfl) ?_
        refine lv_iconst (v := (3 : Int32)) hx hb dL_law_797 (by decide) ?_
        refine lv_iadd hx hb dL_law_798 ?_
        refine va_sld hx hb hX hbl hbA X.2.2 h_3 dL_law_799 ?_
        obtain ⟨r, S1, T1, ex, em, hR1⟩ := (hok.2.2.2.2.2.2.2.2.2.2.2.2.2.2.2.2.2.2.1) (xs ((nI i + (1 : Int32))).toNatClampNeg) (xs ((nI i + (2 : Int32))).toNatClampNeg) (xs ((nI i + (3 : Int32))).toNatClampNeg) S T hR
        refine l_callX E X hq cwL_94 (mX7_halts l (ZL Z0 Qx) hq.1 (xs ((nI i + (1 : Int32))).toNatClampNeg) (xs ((nI i + (2 : Int32))).toNatClampNeg) (xs ((nI i + (3 : Int32))).toNatClampNeg) ex) rfl rfl hl.1 rfl dL_law_800 (fun H locs X => ?_)
        refine lv_aload_n hx hb dL_law_803 rfl (lv_at hl 2 rfl) ?_
        refine lv_aload_n hx hb dL_law_804 rfl (lv_at hl 0 rfl) ?_
        refine lv_iload_n hx hb dL_law_805 rfl (lv_at hl 3 rfl) ?_
        refine lv_iconst (v := (1 : Int32)) hx hb dL_law_806 (by decide) ?_
        refine lv_iadd hx hb dL_law_807 ?_
        refine va_sld hx hb hX hbl hbA X.2.2 h_1 dL_law_808 ?_
        refine lv_aload_n hx hb dL_law_809 rfl (lv_at hl 0 rfl) ?_
        refine lv_iload_n hx hb dL_law_810 rfl (lv_at hl 3 rfl) ?_
        refine lv_iconst (v := (2 : Int32)) hx hb dL_law_811 (by decide) ?_
        refine lv_iadd hx hb dL_law_812 ?_
        refine va_sld hx hb hX hbl hbA X.2.2 h_2 dL_law_813 ?_
        refine lv_aload_n hx hb dL_law_814 rfl (lv_at hl 0 rfl) ?_
        refine lv_iload_n hx hb dL_law_815 rfl (lv_at hl 3 rfl) ?_
        refine lv_iconst (v := (3 : Int32)) hx hb dL_law_816 (by decide) ?_
        refine lv_iadd hx hb dL_law_817 ?_
        refine va_sld hx hb hX hbl hbA X.2.2 h_3 dL_law_818 ?_
        refine l_callM E X hq cwL_97 (mX8_halts l (ZL Z0 (qM B)) (wQ_B (B := B + 46) (fun _ => rfl)) (xs ((nI i + (1 : Int32))).toNatClampNeg) (xs ((nI i + (2 : Int32))).toNatClampNeg) (xs ((nI i + (3 : Int32))).toNatClampNeg) em) rfl rfl hl.1 rfl dL_law_819 (fun H locs X => ?_)
        refine lv_icmp_eq (tgt := 958) hx hb dL_law_822 (by decide) (fun _ => ?_) (fun c2 => absurd rfl c2)
        exact fin S1 T1 Qx hR1 hq _ _ ls X hl
      by_cases c_20 : sel = (19 : Int32)
      · refine lv_tableIn (off := 794) (tgt := 827) hx hb dL_law_33 (by rw [c_20]; decide) (by rw [c_20]; decide) (by rw [c_20]; decide) (by decide) ?_
        refine lv_aload_n hx hb dL_law_827 rfl (lv_at hl 1 rfl) ?_
        refine lv_aload_n hx hb dL_law_828 rfl (lv_at hl 0 rfl) ?_
        refine lv_iload_n hx hb dL_law_829 rfl (lv_at hl 3 rfl) ?_
        refine lv_iconst (v := (1 : Int32)) hx hb dL_law_830 (by decide) ?_
        refine lv_iadd hx hb dL_law_831 ?_
        refine va_sld hx hb hX hbl hbA X.2.2 h_1 dL_law_832 ?_
        refine lv_aload_n hx hb dL_law_833 rfl (lv_at hl 0 rfl) ?_
        refine lv_iload_n hx hb dL_law_834 rfl (lv_at hl 3 rfl) ?_
        refine lv_iconst (v := (2 : Int32)) hx hb dL_law_835 (by decide) ?_
        refine lv_iadd hx hb dL_law_836 ?_
        refine va_sld hx hb hX hbl hbA X.2.2 h_2 dL_law_837 ?_
        obtain ⟨r, S1, T1, ex, em, hR1⟩ := (hok.2.2.2.2.2.2.2.2.2.2.2.2.2.2.2.2.2.2.2.1) (xs ((nI i + (1 : Int32))).toNatClampNeg) (xs ((nI i + (2 : Int32))).toNatClampNeg) S T hR
        refine l_callX E X hq cwL_98 (mX7_told l (ZL Z0 Qx) hq.1 (xs ((nI i + (1 : Int32))).toNatClampNeg) (xs ((nI i + (2 : Int32))).toNatClampNeg) ex) rfl rfl hl.1 rfl dL_law_838 (fun H locs X => ?_)
        refine lv_aload_n hx hb dL_law_841 rfl (lv_at hl 2 rfl) ?_
        refine lv_aload_n hx hb dL_law_842 rfl (lv_at hl 0 rfl) ?_
        refine lv_iload_n hx hb dL_law_843 rfl (lv_at hl 3 rfl) ?_
        refine lv_iconst (v := (1 : Int32)) hx hb dL_law_844 (by decide) ?_
        refine lv_iadd hx hb dL_law_845 ?_
        refine va_sld hx hb hX hbl hbA X.2.2 h_1 dL_law_846 ?_
        refine lv_aload_n hx hb dL_law_847 rfl (lv_at hl 0 rfl) ?_
        refine lv_iload_n hx hb dL_law_848 rfl (lv_at hl 3 rfl) ?_
        refine lv_iconst (v := (2 : Int32)) hx hb dL_law_849 (by decide) ?_
        refine lv_iadd hx hb dL_law_850 ?_
        refine va_sld hx hb hX hbl hbA X.2.2 h_2 dL_law_851 ?_
        refine l_callM E X hq cwL_101 (mX8_told l (ZL Z0 (qM B)) (wQ_B (B := B + 46) (fun _ => rfl)) (xs ((nI i + (1 : Int32))).toNatClampNeg) (xs ((nI i + (2 : Int32))).toNatClampNeg) em) rfl rfl hl.1 rfl dL_law_852 (fun H locs X => ?_)
        refine lv_icmp_eq (tgt := 958) hx hb dL_law_855 (by decide) (fun _ => ?_) (fun c2 => absurd rfl c2)
        exact fin S1 T1 Qx hR1 hq _ _ ls X hl
      by_cases c_21 : sel = (20 : Int32)
      · refine lv_tableIn (off := 827) (tgt := 860) hx hb dL_law_33 (by rw [c_21]; decide) (by rw [c_21]; decide) (by rw [c_21]; decide) (by decide) ?_
        refine lv_aload_n hx hb dL_law_860 rfl (lv_at hl 1 rfl) ?_
        refine lv_aload_n hx hb dL_law_861 rfl (lv_at hl 0 rfl) ?_
        refine lv_iload_n hx hb dL_law_862 rfl (lv_at hl 3 rfl) ?_
        refine lv_iconst (v := (1 : Int32)) hx hb dL_law_863 (by decide) ?_
        refine lv_iadd hx hb dL_law_864 ?_
        refine va_sld hx hb hX hbl hbA X.2.2 h_1 dL_law_865 ?_
        obtain ⟨r, S1, T1, ex, em, hR1⟩ := (hok.2.2.2.2.2.2.2.2.2.2.2.2.2.2.2.2.2.2.2.2.1) (xs ((nI i + (1 : Int32))).toNatClampNeg) S T hR
        refine l_callX E X hq cwL_102 (mX7_thief l (ZL Z0 Qx) hq.1 (xs ((nI i + (1 : Int32))).toNatClampNeg) ex) rfl rfl hl.1 rfl dL_law_866 (fun H locs X => ?_)
        refine lv_aload_n hx hb dL_law_869 rfl (lv_at hl 2 rfl) ?_
        refine lv_aload_n hx hb dL_law_870 rfl (lv_at hl 0 rfl) ?_
        refine lv_iload_n hx hb dL_law_871 rfl (lv_at hl 3 rfl) ?_
        refine lv_iconst (v := (1 : Int32)) hx hb dL_law_872 (by decide) ?_
        refine lv_iadd hx hb dL_law_873 ?_
        refine va_sld hx hb hX hbl hbA X.2.2 h_1 dL_law_874 ?_
        refine l_callM E X hq cwL_105 (mX8_thief l (ZL Z0 (qM B)) (wQ_B (B := B + 46) (fun _ => rfl)) (xs ((nI i + (1 : Int32))).toNatClampNeg) em) rfl rfl hl.1 rfl dL_law_875 (fun H locs X => ?_)
        refine lv_icmp_eq (tgt := 958) hx hb dL_law_878 (by decide) (fun _ => ?_) (fun c2 => absurd rfl c2)
        exact fin S1 T1 Qx hR1 hq _ _ ls X hl
      by_cases c_22 : sel = (21 : Int32)
      · refine lv_tableIn (off := 850) (tgt := 883) hx hb dL_law_33 (by rw [c_22]; decide) (by rw [c_22]; decide) (by rw [c_22]; decide) (by decide) ?_
        refine lv_aload_n hx hb dL_law_883 rfl (lv_at hl 1 rfl) ?_
        obtain ⟨r, S1, T1, ex, em, hR1⟩ := (hok.2.2.2.2.2.2.2.2.2.2.2.2.2.2.2.2.2.2.2.2.2.1)  S T hR
        refine l_callX E X hq cwL_106 (mX7_undo l (ZL Z0 Qx) hq.1  ex) rfl rfl hl.1 rfl dL_law_884 (fun H locs X => ?_)
        refine lv_aload_n hx hb dL_law_887 rfl (lv_at hl 2 rfl) ?_
        refine l_callM E X hq cwL_110 (mX8_undo l (ZL Z0 (qM B)) (wQ_B (B := B + 46) (fun _ => rfl))  em) rfl rfl hl.1 rfl dL_law_888 (fun H locs X => ?_)
        refine lv_icmp_eq (tgt := 958) hx hb dL_law_891 (by decide) (fun _ => ?_) (fun c2 => absurd rfl c2)
        exact fin S1 T1 Qx hR1 hq _ _ ls X hl
      by_cases c_23 : sel = (22 : Int32)
      · refine lv_tableIn (off := 863) (tgt := 896) hx hb dL_law_33 (by rw [c_23]; decide) (by rw [c_23]; decide) (by rw [c_23]; decide) (by decide) ?_
        refine lv_aload_n hx hb dL_law_896 rfl (lv_at hl 1 rfl) ?_
        refine lv_aload_n hx hb dL_law_897 rfl (lv_at hl 0 rfl) ?_
        refine lv_iload_n hx hb dL_law_898 rfl (lv_at hl 3 rfl) ?_
        refine lv_iconst (v := (1 : Int32)) hx hb dL_law_899 (by decide) ?_
        refine lv_iadd hx hb dL_law_900 ?_
        refine va_sld hx hb hX hbl hbA X.2.2 h_1 dL_law_901 ?_
        refine lv_if_eq (tgt := 909) hx hb dL_law_902 (by decide) (fun cb => ?_) (fun cb => ?_)
        · refine lv_iconst (v := (0 : Int32)) hx hb dL_law_909 (by decide) ?_
          obtain ⟨r, S1, T1, ex, em, hR1⟩ := (hok.2.2.2.2.2.2.2.2.2.2.2.2.2.2.2.2.2.2.2.2.2.2.1) (0 : Int32) rfl S T hR
          refine l_callX E X hq cwL_111 (mX7_image l (ZL Z0 Qx) hq.1 (0 : Int32) ex) rfl rfl hl.1 rfl dL_law_910 (fun H locs X => ?_)
          refine lv_aload_n hx hb dL_law_913 rfl (lv_at hl 2 rfl) ?_
          refine lv_aload_n hx hb dL_law_914 rfl (lv_at hl 0 rfl) ?_
          refine lv_iload_n hx hb dL_law_915 rfl (lv_at hl 3 rfl) ?_
          refine lv_iconst (v := (1 : Int32)) hx hb dL_law_916 (by decide) ?_
          refine lv_iadd hx hb dL_law_917 ?_
          refine va_sld hx hb hX hbl hbA X.2.2 h_1 dL_law_918 ?_
          refine lv_if_eq (tgt := 926) hx hb dL_law_919 (by decide) (fun _ => ?_) (fun c2 => absurd cb c2)
          refine lv_iconst (v := (0 : Int32)) hx hb dL_law_926 (by decide) ?_
          refine l_callM E X hq cwL_115 (mX8_image l (ZL Z0 (qM B)) (wQ_B (B := B + 46) (fun _ => rfl)) (0 : Int32) em) rfl rfl hl.1 rfl dL_law_927 (fun H locs X => ?_)
          refine lv_icmp_eq (tgt := 958) hx hb dL_law_930 (by decide) (fun _ => ?_) (fun c2 => absurd rfl c2)
          exact fin S1 T1 Qx hR1 hq _ _ ls X hl
        · refine lv_iconst (v := (1 : Int32)) hx hb dL_law_905 (by decide) ?_
          refine lv_goto (tgt := 910) hx hb dL_law_906 (by decide) ?_
          obtain ⟨r, S1, T1, ex, em, hR1⟩ := (hok.2.2.2.2.2.2.2.2.2.2.2.2.2.2.2.2.2.2.2.2.2.2.1) (1 : Int32) rfl S T hR
          refine l_callX E X hq cwL_111 (mX7_image l (ZL Z0 Qx) hq.1 (1 : Int32) ex) rfl rfl hl.1 rfl dL_law_910 (fun H locs X => ?_)
          refine lv_aload_n hx hb dL_law_913 rfl (lv_at hl 2 rfl) ?_
          refine lv_aload_n hx hb dL_law_914 rfl (lv_at hl 0 rfl) ?_
          refine lv_iload_n hx hb dL_law_915 rfl (lv_at hl 3 rfl) ?_
          refine lv_iconst (v := (1 : Int32)) hx hb dL_law_916 (by decide) ?_
          refine lv_iadd hx hb dL_law_917 ?_
          refine va_sld hx hb hX hbl hbA X.2.2 h_1 dL_law_918 ?_
          refine lv_if_eq (tgt := 926) hx hb dL_law_919 (by decide) (fun c2 => absurd c2 cb) (fun _ => ?_)
          refine lv_iconst (v := (1 : Int32)) hx hb dL_law_922 (by decide) ?_
          refine lv_goto (tgt := 927) hx hb dL_law_923 (by decide) ?_
          refine l_callM E X hq cwL_115 (mX8_image l (ZL Z0 (qM B)) (wQ_B (B := B + 46) (fun _ => rfl)) (1 : Int32) em) rfl rfl hl.1 rfl dL_law_927 (fun H locs X => ?_)
          refine lv_icmp_eq (tgt := 958) hx hb dL_law_930 (by decide) (fun _ => ?_) (fun c2 => absurd rfl c2)
          exact fin S1 T1 Qx hR1 hq _ _ ls X hl
      by_cases c_24 : sel = (23 : Int32)
      · refine lv_tableIn (off := 902) (tgt := 935) hx hb dL_law_33 (by rw [c_24]; decide) (by rw [c_24]; decide) (by rw [c_24]; decide) (by decide) ?_
        refine lv_aload_n hx hb dL_law_935 rfl (lv_at hl 1 rfl) ?_
        refine lv_aload_n hx hb dL_law_936 rfl (lv_at hl 0 rfl) ?_
        refine lv_iload_n hx hb dL_law_937 rfl (lv_at hl 3 rfl) ?_
        refine lv_iconst (v := (1 : Int32)) hx hb dL_law_938 (by decide) ?_
        refine lv_iadd hx hb dL_law_939 ?_
        refine va_sld hx hb hX hbl hbA X.2.2 h_1 dL_law_940 ?_
        obtain ⟨r, S1, T1, ex, em, hR1⟩ := (hok.2.2.2.2.2.2.2.2.2.2.2.2.2.2.2.2.2.2.2.2.2.2.2) (xs ((nI i + (1 : Int32))).toNatClampNeg) S T hR
        refine l_callX E X hq cwL_116 (mX7_look l (ZL Z0 Qx) hq.1 (xs ((nI i + (1 : Int32))).toNatClampNeg) ex) rfl rfl hl.1 rfl dL_law_941 (fun H locs X => ?_)
        refine lv_aload_n hx hb dL_law_944 rfl (lv_at hl 2 rfl) ?_
        refine lv_aload_n hx hb dL_law_945 rfl (lv_at hl 0 rfl) ?_
        refine lv_iload_n hx hb dL_law_946 rfl (lv_at hl 3 rfl) ?_
        refine lv_iconst (v := (1 : Int32)) hx hb dL_law_947 (by decide) ?_
        refine lv_iadd hx hb dL_law_948 ?_
        refine va_sld hx hb hX hbl hbA X.2.2 h_1 dL_law_949 ?_
        refine l_callM E X hq cwL_119 (mX8_look l (ZL Z0 (qM B)) (wQ_B (B := B + 46) (fun _ => rfl)) (xs ((nI i + (1 : Int32))).toNatClampNeg) em) rfl rfl hl.1 rfl dL_law_950 (fun H locs X => ?_)
        refine lv_icmp_eq (tgt := 958) hx hb dL_law_953 (by decide) (fun _ => ?_) (fun c2 => absurd rfl c2)
        exact fin S1 T1 Qx hR1 hq _ _ ls X hl
      refine lv_tableD (tgt := 958) hx hb dL_law_33 (by decide +kernel) (fun j hj qj => ?_) ?_
      · match j, hj, qj with
        | 0, _, qj => exact absurd (tbl_eq qj (by decide)) c_1
        | 1, _, qj => exact absurd (tbl_eq qj (by decide)) c_2
        | 2, _, qj => exact absurd (tbl_eq qj (by decide)) c_3
        | 3, _, qj => exact absurd (tbl_eq qj (by decide)) c_4
        | 4, _, qj => exact absurd (tbl_eq qj (by decide)) c_5
        | 5, _, qj => exact absurd (tbl_eq qj (by decide)) c_6
        | 6, _, qj => exact absurd (tbl_eq qj (by decide)) c_7
        | 7, _, qj => exact absurd (tbl_eq qj (by decide)) c_8
        | 8, _, qj => exact absurd (tbl_eq qj (by decide)) c_9
        | 9, _, qj => exact absurd (tbl_eq qj (by decide)) c_10
        | 10, _, qj => exact absurd (tbl_eq qj (by decide)) c_11
        | 11, _, qj => exact absurd (tbl_eq qj (by decide)) c_12
        | 12, _, qj => exact absurd (tbl_eq qj (by decide)) c_13
        | 13, _, qj => exact absurd (tbl_eq qj (by decide)) c_14
        | 14, _, qj => exact absurd (tbl_eq qj (by decide)) c_15
        | 15, _, qj => exact absurd (tbl_eq qj (by decide)) c_16
        | 16, _, qj => exact absurd (tbl_eq qj (by decide)) c_17
        | 17, _, qj => exact absurd (tbl_eq qj (by decide)) c_18
        | 18, _, qj => exact absurd (tbl_eq qj (by decide)) c_19
        | 19, _, qj => exact absurd (tbl_eq qj (by decide)) c_20
        | 20, _, qj => exact absurd (tbl_eq qj (by decide)) c_21
        | 21, _, qj => exact absurd (tbl_eq qj (by decide)) c_22
        | 22, _, qj => exact absurd (tbl_eq qj (by decide)) c_23
        | 23, _, qj => exact absurd (tbl_eq qj (by decide)) c_24
        | j + 24, hj, _ => exact absurd hj (by simp)
      exact fin S T Qx hR hq _ _ ls X hl
