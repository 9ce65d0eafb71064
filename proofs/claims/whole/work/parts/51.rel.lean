/-! the relation of the two memories -/
def sl (S : Mem) (b : Nat) : Mem := fun i => S (b + i)
/-- a text of rules as numbers: a line is what to do and its B as postfix code (what, number) -/
abbrev Prg : Type := List (Nat × List (Nat × Nat))
def off (g : Prg) (i : Nat) : Nat := ((g.take i).map (fun q => q.2.length)).sum
def flt (g : Prg) : List (Nat × Nat) := g.flatMap (fun q => q.2)
/-- kinds on the stack: 0 a number, 1 yes or no, 2 a number that isn't 0 -/
def tyS (st : List Nat) (c : Nat × Nat) : Option (List Nat) :=
  if c.1 = 0 then (if c.2 < 10000 ∧ st.length < 30 then some ((if c.2 = 0 then 0 else 2) :: st) else none)
  else if c.1 = 1 then (if c.2 < 10 ∧ st.length < 30 then some (0 :: st) else none)
  else if c.1 = 9 then (match st with
    | b :: r => if b = 1 then some (1 :: r) else none
    | [] => none)
  else (match st with
    | b :: a :: r =>
      if c.1 = 2 ∨ c.1 = 3 ∨ c.1 = 4 then (if a ≠ 1 ∧ b ≠ 1 then some (0 :: r) else none)
      else if c.1 = 5 then (if a ≠ 1 ∧ b = 2 then some (0 :: r) else none)
      else if c.1 = 6 ∨ c.1 = 7 ∨ c.1 = 8 then (if a ≠ 1 ∧ b ≠ 1 then some (1 :: r) else none)
      else if c.1 = 10 ∨ c.1 = 11 then (if a = 1 ∧ b = 1 then some (1 :: r) else none)
      else none
    | _ => none)
def tyR : List Nat → List (Nat × Nat) → Option (List Nat)
  | st, [] => some st
  | st, c :: cs => (tyS st c).bind (fun st' => tyR st' cs)
def wfL (q : Nat × List (Nat × Nat)) : Prop := q.1 ≤ 3 ∧ (q.2 = [] ∨ tyR [] q.2 = some [1])
/-- the class's sign for a piece of code -/
def xcode (c : Nat × Nat) : Nat := if c.1 = 0 then 100 + c.2 else if c.1 = 1 then 8 + c.2 else [0, 0, 19, 20, 21, 22, 25, 26, 27, 7, 6, 5].getD c.1 0
def encX (g : Prg) (lines : Int32) (acts ends code : Nat → Int32) : Prop := lines = nI g.length ∧ (∀ i, i < g.length → acts i = nI ((g.getD i (0, [])).1) ∧ ends i = nI (off g (i + 1))) ∧ ∀ j, j < (flt g).length → code j = nI (xcode ((flt g).getD j (0, 0)))
def encM (g : Prg) (lines : Int32) (lw lf lt op ar : Nat → Int32) : Prop := lines = nI g.length ∧ (∀ i, i < g.length → lw i = nI ((g.getD i (0, [])).1) ∧ lf i = nI (off g i) ∧ lt i = nI (off g (i + 1))) ∧ ∀ j, j < (flt g).length → op j = nI ((flt g).getD j (0, 0)).1 ∧ ar j = nI ((flt g).getD j (0, 0)).2
def RRul (X M : Mem) : Prop := ∃ g : Prg, g.length ≤ 16 ∧ (flt g).length ≤ 400 ∧ (∀ q ∈ g, wfL q) ∧ encX g (X 7 4) (X 8) (X 9) (X 10) ∧ encM g (M 0 22) (M 13) (M 14) (M 15) (M 16) (M 17)
def RHou (X M : Mem) : Prop := (∀ j, j < 60 → X 1 j = M 3 j) ∧ ∀ h, h < 12 → le32 (M 3 (5 * h)) 7 ∧ le32 (M 3 (5 * h + 1)) 4 ∧ le32 (M 3 (5 * h + 2)) 9 ∧ le32 (M 3 (5 * h + 3)) 7 ∧ le32 (M 3 (5 * h + 4)) 10
/-- what doesn't change in an hour: TALL, GIRTH, SKIN, PARASOL, HAT -/
def RFix (P : Nat → Int32) (M : Mem) : Prop := ∀ p, p < 10 → P (10 * p + 1) = M 5 p ∧ P (10 * p + 2) = M 6 p ∧ P (10 * p + 3) = M 7 p ∧ P (10 * p + 5) = bitI (M 0 10) p ∧ P (10 * p + 6) = bitI (M 0 11) p ∧ le32 (M 5 p) 9 ∧ le32 (M 6 p) 3 ∧ le32 (M 7 p) 9
/-- what does: PLACE, WATER, BURN, SOLD, BOUGHT; N the reference's row of 55; the BURN is at most u -/
def RMov (P N : Nat → Int32) (u : Nat) : Prop := ∀ p, p < 10 → P (10 * p) = N (5 + p) ∧ P (10 * p + 4) = N (15 + p) ∧ P (10 * p + 7) = N (25 + p) ∧ P (10 * p + 8) = N (35 + p) ∧ P (10 * p + 9) = N (45 + p) ∧ le32 (N (5 + p)) 24 ∧ le32 (N (25 + p)) u
def bI (x : Int32) (p : Nat) : Bool := decide (bitI x p = 1)
def RFoe (X M : Mem) : Prop := (∀ a, a < 10 → X 3 a = M 8 a) ∧ ∀ a b, a < 10 → b < 10 → bitI (M 8 a) b = bitI (M 8 b) a
def RTol (X M : Mem) : Prop := ∀ p, p < 10 → ∃ k : Nat, k ≤ 10000 ∧ M 10 p = nI k ∧ X 4 p = nI k - 1
def RBok (X M : Mem) : Prop := ∀ j, j < 800 → X 6 j = M 9 j
/-- one world: n PILGRIMS, DAY d, NOW t, PRICE, REST, lines of THE BOOK -/
def RWn (n d t pr re bl : Nat) (X M : Mem) : Prop :=
  (n ≤ 10 ∧ d ≤ 999 ∧ t ≤ 12 ∧ pr ≤ 99 ∧ re ≤ 99 ∧ bl ≤ 200) ∧ (X 0 9 = nI n ∧ M 0 6 = nI n) ∧ (X 0 7 = nI d ∧ M 1 0 = nI d) ∧ (X 0 8 = nI t ∧ M 1 1 = nI t) ∧ (X 0 11 = nI pr ∧ M 4 0 = nI pr) ∧ (X 0 12 = nI re ∧ M 4 1 = nI re) ∧ (X 5 1 = nI bl ∧ M 1 4 = nI bl) ∧ X 0 6 = M 1 2 ∧ X 0 10 = M 1 3 ∧
  RHou X M ∧ RFix (X 2) M ∧ RMov (X 2) (M 1) (81 * (12 * d + t)) ∧ (∀ p, p < n → ∃ k : Nat, 1 ≤ k ∧ k ≤ 3 ∧ M 6 p = nI k) ∧ RFoe X M ∧ RTol X M ∧ RBok X M ∧ RRul X M
/-- hours that can be undone -/
def RPas (d t bl c : Nat) (S T : Mem) : Prop := c ≤ t ∧ S 25 4 = nI c ∧ T 0 3 = nI c ∧ ∀ k, k < c →
  T 2 (55 * k) = nI d ∧ T 2 (55 * k + 1) = nI (t - (c - k)) ∧ S 27 k = T 2 (55 * k + 2) ∧ S 28 k = T 2 (55 * k + 3) ∧ (∃ b' : Nat, b' ≤ 200 ∧ S 29 k = nI b' ∧ T 2 (55 * k + 4) = nI b') ∧ RMov (fun j => S 26 (100 * k + j)) (fun j => T 2 (55 * k + j)) (81 * (12 * d + (t - (c - k)))) ∧
  ∀ p, p < 10 → S 26 (100 * k + (10 * p + 1)) = S 3 (10 * p + 1) ∧ S 26 (100 * k + (10 * p + 2)) = S 3 (10 * p + 2) ∧ S 26 (100 * k + (10 * p + 3)) = S 3 (10 * p + 3) ∧ S 26 (100 * k + (10 * p + 5)) = S 3 (10 * p + 5) ∧ S 26 (100 * k + (10 * p + 6)) = S 3 (10 * p + 6)
def RLiv (S T : Mem) : Prop := ∃ n d t pr re bl c, RWn n d t pr re bl (sl S 1) T ∧ RPas d t bl c S T
def RTap (S T : Mem) : Prop := ∃ k : Nat, k ≤ 400 ∧ S 38 1 = nI k ∧ T 0 16 = nI k ∧ ∀ j, j < k → T 11 j = S 39 j &&& 255
def RFau (S T : Mem) : Prop := S 38 2 = T 0 34 ∧ S 38 3 = T 0 35
/-- the image as a memory of the reference's form -/
def imgM (I : Nat → Int32) : Mem := fun c j => match c with
  | 0 => if j = 6 then I 117 else if j = 10 then I 118 else if j = 11 then I 119 else if j = 22 then I 970 else 0
  | 1 => I j
  | 3 => I (55 + j)
  | 4 => I (115 + j)
  | 5 => I (120 + 5 * j)
  | 6 => I (121 + 5 * j)
  | 7 => I (122 + 5 * j)
  | 8 => I (123 + 5 * j)
  | 10 => I (124 + 5 * j)
  | 9 => I (170 + j)
  | 13 => I (971 + 3 * j)
  | 14 => I (972 + 3 * j)
  | 15 => I (973 + 3 * j)
  | 16 => I (1019 + 2 * j)
  | 17 => I (1020 + 2 * j)
  | _ => 0
def RImg (S T : Mem) : Prop := (S 0 2 = 0 ∧ T 0 46 = 0) ∨ (S 0 2 = 1 ∧ T 0 46 = 1 ∧ ∃ n d t pr re bl, RWn n d t pr re bl (sl S 13) (imgM (T 26)))
def wordsC : List Int32 := [32, 115, 116, 97, 121, 32, 115, 101, 101, 107, 32, 98, 117, 121, 32, 102, 108, 101, 101, 32, 119, 104, 101, 110, 32, 111, 114, 32, 97, 110, 100, 32, 110, 111, 116, 32, 98, 117, 114, 110, 32, 104, 101, 97, 116, 32, 115, 104, 97, 100, 101, 100, 32, 119, 97, 116, 101, 114, 32, 116, 97, 108, 108, 32, 115, 107, 105, 110, 32, 104, 111, 117, 114, 32, 112, 108, 97, 99, 101, 32, 98, 101, 97, 114, 115, 32, 112, 105, 108, 103, 114, 105, 109, 32]
def RWor (T : Mem) : Prop := ∀ j, j < 94 → T 12 j = wordsC.getD j 0
def RR (S T : Mem) : Prop := RLiv S T ∧ RTap S T ∧ RFau S T ∧ RImg S T ∧ RWor T
/-- memories alike where the relation looks -/
def agX (S S' : Mem) : Prop := (∀ c, c ∈ [1, 2, 3, 4, 5, 6, 7, 8, 9, 10, 11, 13, 14, 15, 16, 17, 18, 19, 20, 21, 22, 23, 25, 26, 27, 28, 29, 39] → S' c = S c) ∧ S' 0 2 = S 0 2 ∧ S' 38 1 = S 38 1 ∧ S' 38 2 = S 38 2 ∧ S' 38 3 = S 38 3
def agM (T T' : Mem) : Prop := (∀ c, c ∈ [1, 2, 3, 4, 5, 6, 7, 8, 9, 10, 11, 12, 13, 14, 15, 16, 17, 26] → T' c = T c) ∧ ∀ j, j ∈ [3, 6, 10, 11, 16, 22, 34, 35, 46] → T' 0 j = T 0 j
theorem RR.ag {S T S' T' : Mem} (h : RR S T) (hS : agX S S') (hT : agM T T') : RR S' T' := by
  obtain ⟨a, a1, a2, a3, a4⟩ := hS
  obtain ⟨b, b0⟩ := hT
  have x1 := a 1 (by decide); have x2 := a 2 (by decide); have x3 := a 3 (by decide); have x4 := a 4 (by decide); have x5 := a 5 (by decide); have x6 := a 6 (by decide); have x7 := a 7 (by decide); have x8 := a 8 (by decide); have x9 := a 9 (by decide); have x10 := a 10 (by decide); have x11 := a 11 (by decide)
  have x13 := a 13 (by decide); have x14 := a 14 (by decide); have x15 := a 15 (by decide); have x16 := a 16 (by decide); have x17 := a 17 (by decide); have x18 := a 18 (by decide); have x19 := a 19 (by decide); have x20 := a 20 (by decide); have x21 := a 21 (by decide); have x22 := a 22 (by decide); have x23 := a 23 (by decide)
  have x25 := a 25 (by decide); have x26 := a 26 (by decide); have x27 := a 27 (by decide); have x28 := a 28 (by decide); have x29 := a 29 (by decide); have x39 := a 39 (by decide)
  have y1 := b 1 (by decide); have y2 := b 2 (by decide); have y3 := b 3 (by decide); have y4 := b 4 (by decide); have y5 := b 5 (by decide); have y6 := b 6 (by decide); have y7 := b 7 (by decide); have y8 := b 8 (by decide); have y9 := b 9 (by decide); have y10 := b 10 (by decide); have y11 := b 11 (by decide); have y12 := b 12 (by decide); have y13 := b 13 (by decide); have y14 := b 14 (by decide); have y15 := b 15 (by decide); have y16 := b 16 (by decide); have y17 := b 17 (by decide); have y26 := b 26 (by decide)
  have z3 := b0 3 (by decide); have z6 := b0 6 (by decide); have z10 := b0 10 (by decide); have z11 := b0 11 (by decide); have z16 := b0 16 (by decide); have z22 := b0 22 (by decide); have z34 := b0 34 (by decide); have z35 := b0 35 (by decide); have z46 := b0 46 (by decide)
  simp only [RR, RLiv, RTap, RFau, RImg, RWor, RWn, RPas, RHou, RFix, RFoe, RTol, RBok, RRul, sl] at h ⊢
  simp only [Nat.reduceAdd, Nat.add_zero] at h ⊢
  rw [x1, x2, x3, x4, x5, x6, x7, x8, x9, x10, x11, x13, x14, x15, x16, x17, x18, x19, x20, x21, x22, x23, x25, x26, x27, x28, x29, x39, y1, y2, y3, y4, y5, y6, y7, y8, y9, y10, y11, y12, y13, y14, y15, y16, y17, y26, z3, z6, z10, z11, z16, z22, z34, z35, z46, a1, a2, a3, a4]
  exact h
theorem agX.rf (S : Mem) : agX S S := ⟨fun _ _ => rfl, rfl, rfl, rfl, rfl⟩
theorem agM.rf (T : Mem) : agM T T := ⟨fun _ _ => rfl, fun _ _ => rfl⟩
theorem agX.tr {S S1 S2 : Mem} (h : agX S S1) (h2 : agX S1 S2) : agX S S2 := ⟨fun c hc => (h2.1 c hc).trans (h.1 c hc), h2.2.1.trans h.2.1, h2.2.2.1.trans h.2.2.1, h2.2.2.2.1.trans h.2.2.2.1, h2.2.2.2.2.trans h.2.2.2.2⟩
theorem agM.tr {T T1 T2 : Mem} (h : agM T T1) (h2 : agM T1 T2) : agM T T2 := ⟨fun c hc => (h2.1 c hc).trans (h.1 c hc), fun j hj => (h2.2 j hj).trans (h.2 j hj)⟩
/-- the reference's first act in every call -/
theorem ag_told (T : Mem) (v : Int32) : agM T (mset T 0 0 v) := by
  refine ⟨fun c hc => mset_ne T 0 v (fun h => by subst h; revert hc; decide), fun j hj => ?_⟩
  rw [mset_same]
  exact upd_ne _ _ (fun h => by subst h; revert hj; decide)
theorem RR.told {S T : Mem} (h : RR S T) (v : Int32) : RR S (mset T 0 0 v) := h.ag (agX.rf S) (ag_told T v)
