/-! feed (bp_b is kit/laws/BITS.to-paste's) -/
theorem bp_b (x : Int32) : x.toInt8.toInt32 &&& 255 = x &&& 255 := by
  apply Int32.toBitVec_inj.mp
  rw [Int32.toBitVec_and, Int32.toBitVec_and, Int8.toBitVec_toInt32, Int32.toBitVec_toInt8]
  apply BitVec.eq_of_getLsbD_eq
  intro i hi
  rw [BitVec.getLsbD_and, BitVec.getLsbD_and]
  have hm : ∀ i < 32, 8 ≤ i → (255 : Int32).toBitVec.getLsbD i = false := by decide
  rcases Nat.lt_or_ge i 8 with z | z
  · rw [BitVec.getLsbD_signExtend, BitVec.getLsbD_signExtend, if_pos z, if_pos hi]
    simp only [z, hi, decide_true, Bool.true_and]
  · rw [hm i hi z]; simp
def bX (S : Mem) (k : Nat) (v sh : Int32) : Mem := mset (mset S 39 k (vp_nar .byte ((v >>> (sh &&& 31)).toInt8.toInt32))) 38 1 (nI (k + 1))
def bM (T : Mem) (k : Nat) (v sh : Int32) : Mem := mset (mset T 11 k ((v >>> (sh &&& 31)) &&& 255)) 0 16 (nI (k + 1))
theorem RR.byte {S T : Mem} {k : Nat} (v sh : Int32) (h : RR S T) (hk : S 38 1 = nI k) (hk4 : k < 400) : RR (bX S k v sh) (bM T k v sh) := by
  obtain ⟨h1, ⟨k', q0, q1, q2, q3⟩, h3, h4, h5⟩ := h
  have e : k' = k := by rw [q1, nI_eq (by omega) (by omega)] at hk; exact hk
  subst e
  refine ⟨h1, ⟨k' + 1, by omega, rfl, rfl, fun j hj => ?_⟩, h3, h4, h5⟩
  show upd (T 11) k' ((v >>> (sh &&& 31)) &&& 255) j = upd (S 39) k' (vp_nar .byte ((v >>> (sh &&& 31)).toInt8.toInt32)) j &&& 255
  by_cases z : j = k'
  · rw [z, upd_same, upd_same, pk_vb, bp_b]
  · rw [upd_ne _ _ z, upd_ne _ _ z]; exact q3 j (by omega)
theorem addX_s (f : Nat) (S : Mem) (v : Int32) {k s : Nat} (hk : S 38 1 = nI k) (hk4 : k < 400) (hs : s < 100) : fX3_addBytes_3 (f + 1) S v (nI s) = fX3_addBytes_3 f (bX S k v (nI s)) v (nI s + -8) := by
  show fX3_addBytes_3_b (fX3_addBytes_3 f) S v (nI s) = _
  simp (disch := first | omega | assumption) only [fX3_addBytes_3_b, hk, fX3_addBytes_40, mset_ne, mset_same, upd_same, upd_ne, ltm, lti, bnd_some, fa_lit, nI_add, pk_mul, nI_clamp, gd_in, nlt0, nI_ltI, nI_leI, nI_eq, if_true, if_false, if_pos, if_neg]
  rfl
theorem addM_s (f : Nat) (T : Mem) (v : Int32) {k s : Nat} (hk : T 0 16 = nI k) (hk4 : k < 400) (hs : s < 100) : fX8_types_3 (f + 1) T v (nI s) = fX8_types_3 f (bM T k v (nI s)) v (nI s + -8) := by
  show fX8_types_3_b (fX8_types_3 f) T v (nI s) = _
  simp (disch := first | omega | assumption) only [fX8_types_3_b, hk, mset_ne, mset_same, upd_same, upd_ne, ltm, lti, bnd_some, fa_lit, nI_add, pk_mul, nI_clamp, gd_in, nlt0, nI_ltI, nI_leI, nI_eq, if_true, if_false, if_pos, if_neg]
  rfl
theorem addX_e (f : Nat) (S : Mem) (v : Int32) : fX3_addBytes_3 (f + 1) S v (-8) = some (0, S) := by
  show fX3_addBytes_3_b (fX3_addBytes_3 f) S v (-8) = _
  unfold fX3_addBytes_3_b
  rw [if_pos (by decide)]
theorem addM_e (f : Nat) (T : Mem) (v : Int32) : fX8_types_3 (f + 1) T v (-8) = some (0, T) := by
  show fX8_types_3_b (fX8_types_3 f) T v (-8) = _
  unfold fX8_types_3_b
  rw [if_pos (by decide)]
theorem add4 {S T : Mem} {k : Nat} (v : Int32) (h : RR S T) (hk : S 38 1 = nI k) (hk' : T 0 16 = nI k) (hk4 : k + 4 ≤ 400) : ∃ S' T', fX3_addBytes S v = some (0, S') ∧ fX8_types T v = some (0, T') ∧ RR S' T' ∧ S' 38 1 = nI (k + 4) ∧ T' 0 16 = nI (k + 4) := by
  refine ⟨bX (bX (bX (bX S k v (nI 24)) (k + 1) v (nI 16)) (k + 2) v (nI 8)) (k + 3) v (nI 0), bM (bM (bM (bM T k v (nI 24)) (k + 1) v (nI 16)) (k + 2) v (nI 8)) (k + 3) v (nI 0), ?_, ?_, ?_, rfl, rfl⟩
  · show fX3_addBytes_3 (99995 + 1 + 1 + 1 + 1 + 1) S v (nI 24) = _
    rw [addX_s _ S v hk (by omega) (by omega), show nI 24 + -8 = nI 16 by decide, addX_s _ _ v (k := k + 1) rfl (by omega) (by omega), show nI 16 + -8 = nI 8 by decide, addX_s _ _ v (k := k + 2) rfl (by omega) (by omega), show nI 8 + -8 = nI 0 by decide, addX_s _ _ v (k := k + 3) rfl (by omega) (by omega), show nI 0 + -8 = (-8 : Int32) by decide, addX_e]
  · show fX8_types_3 (99995 + 1 + 1 + 1 + 1 + 1) T v (nI 24) = _
    rw [addM_s _ T v hk' (by omega) (by omega), show nI 24 + -8 = nI 16 by decide, addM_s _ _ v (k := k + 1) rfl (by omega) (by omega), show nI 16 + -8 = nI 8 by decide, addM_s _ _ v (k := k + 2) rfl (by omega) (by omega), show nI 8 + -8 = nI 0 by decide, addM_s _ _ v (k := k + 3) rfl (by omega) (by omega), show nI 0 + -8 = (-8 : Int32) by decide, addM_e]
  · exact (((h.byte v (nI 24) hk (by omega)).byte v (nI 16) (k := k + 1) rfl (by omega)).byte v (nI 8) (k := k + 2) rfl (by omega)).byte v (nI 0) (k := k + 3) rfl (by omega)
theorem sim_feed (a b c d e : Int32) : Sim RR (fun S => fX7_feed S a b c d e) (fun T => fX8_feed T a b c d e) := by
  intro S T hR
  obtain ⟨-, ⟨k, k0, k1, k2, -⟩, -⟩ := id hR
  have hR1 : RR S (mset T 0 0 (nI 0)) := hR.told 0
  by_cases hk : k ≤ 380
  · obtain ⟨S1, T1, x1, y1, r1, s1, t1⟩ := add4 a hR1 k1 k2 (by omega)
    obtain ⟨S2, T2, x2, y2, r2, s2, t2⟩ := add4 b r1 s1 t1 (by omega)
    obtain ⟨S3, T3, x3, y3, r3, s3, t3⟩ := add4 c r2 s2 t2 (by omega)
    obtain ⟨S4, T4, x4, y4, r4, s4, t4⟩ := add4 d r3 s3 t3 (by omega)
    obtain ⟨S5, T5, x5, y5, r5, s5, t5⟩ := add4 e r4 s4 t4 (by omega)
    refine ⟨nI (k + 4 + 4 + 4 + 4 + 4), S5, T5, ?_, ?_, r5⟩
    · simp (disch := first | omega | assumption) only [fX7_feed, k1, x1, x2, x3, x4, x5, s5, mset_ne, mset_same, upd_same, upd_ne, ltm, lti, bnd_some, fa_lit, nI_add, pk_mul, nI_clamp, gd_in, nlt0, nI_ltI, nI_leI, nI_eq, if_true, if_false, if_pos, if_neg]
    · have k2' : (mset T 0 0 (nI 0)) 0 16 = nI k := k2
      simp (disch := first | omega | assumption) only [fX8_feed, k2, y1, y2, y3, y4, y5, t5, mset_ne, mset_same, upd_same, upd_ne, ltm, lti, bnd_some, fa_lit, nI_add, pk_mul, nI_clamp, gd_in, nlt0, nI_ltI, nI_leI, nI_eq, if_true, if_false, if_pos, if_neg]
  · exact ⟨-1, S, mset T 0 0 0, by simp (disch := first | omega | assumption) only [fX7_feed, k1, mset_ne, mset_same, upd_same, upd_ne, ltm, lti, bnd_some, fa_lit, nI_add, pk_mul, nI_clamp, gd_in, nlt0, nI_ltI, nI_leI, nI_eq, if_true, if_false, if_pos, if_neg], by simp (disch := first | omega | assumption) only [fX8_feed, k2, mset_ne, mset_same, upd_same, upd_ne, ltm, lti, bnd_some, fa_lit, nI_add, pk_mul, nI_clamp, gd_in, nlt0, nI_ltI, nI_leI, nI_eq, if_true, if_false, if_pos, if_neg], hR.told 0⟩
