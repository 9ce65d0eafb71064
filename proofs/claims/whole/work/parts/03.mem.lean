/-! the flat memory: cells numbered by a layout, each with its ints; addresses by Z -/
abbrev Mem : Type := Nat → Nat → Int32
def mput (S : Mem) (k : Nat) (f : Nat → Int32) : Mem := fun k' => if k' = k then f else S k'
def mset (S : Mem) (k j : Nat) (v : Int32) : Mem := mput S k (upd (S k) j v)
abbrev Kd : Type := (Nat × Bool) ⊕ (Nat × List (Option Nat))
abbrev Lay : Type := List Kd
/-- the classes and slots, the addresses, the classes of int[] and byte[], the addresses of the two texts and of their bytes -/
abbrev XG : Type := va_G × (Nat → Nat) × ClassId × ClassId × (Nat → Nat) × (Nat → Nat)
abbrev zQ (Z : XG) : Nat → Nat := Z.2.1
def wfl (Q : Nat → Nat) (f : Nat → Int32) (fl : List (Option Nat)) : List Value := fl.mapIdx (fun j o => match o with | none => Value.int (f j) | some t => if t = 1000 then Value.null else Value.ref (Q t))
def wce (Z : XG) (f : Nat → Int32) (d : Kd) : va_E := match d with
  | .inl a => .inl (if a.2 then Z.2.2.2.1 else Z.2.2.1, a.1, .inl f)
  | .inr o => .inr (o.1, wfl Z.2.1 f o.2)
def wd (L : Lay) (Z : XG) (S : Mem) : va_W := L.mapIdx (fun k d => (Z.2.1 k, wce Z (S k) d))
theorem wd_get {L : Lay} {Z : XG} {S : Mem} {k : Nat} {d : Kd} (h : L[k]? = some d) : (wd L Z S)[k]? = some (Z.2.1 k, wce Z (S k) d) := by
  simp [wd, List.getElem?_mapIdx, h]
theorem wd_len {L : Lay} {Z : XG} {S : Mem} : (wd L Z S).length = L.length := by simp [wd]
theorem wd_at {L : Lay} {Z : XG} {S : Mem} {k : Nat} {q : Nat × va_E} (h : (wd L Z S)[k]? = some q) : k < L.length ∧ q.1 = Z.2.1 k := by
  simp only [wd, List.getElem?_mapIdx, Option.map_eq_some_iff] at h
  obtain ⟨d, h1, h2⟩ := h
  exact ⟨(List.getElem?_eq_some_iff.mp h1).1, by rw [← h2]⟩
theorem mput_same (S : Mem) (k : Nat) (f : Nat → Int32) : mput S k f k = f := by simp [mput]
theorem mput_ne (S : Mem) {k k' : Nat} (f : Nat → Int32) (h : k' ≠ k) : mput S k f k' = S k' := by simp [mput, h]
theorem wd_put {L : Lay} {Z : XG} {S : Mem} {k : Nat} {d : Kd} {f : Nat → Int32} (h : L[k]? = some d) : (wd L Z S).set k (Z.2.1 k, wce Z f d) = wd L Z (mput S k f) := by
  have hl := (List.getElem?_eq_some_iff.mp h).1
  refine List.ext_getElem? (fun i => ?_)
  by_cases hi : i = k
  · subst hi
    rw [List.getElem?_set_self (by rw [wd_len]; exact hl), wd_get h, mput_same]
  · rw [List.getElem?_set_ne (Ne.symm hi)]
    cases hL : L[i]? with
    | none =>
      have h1 : L.length ≤ i := List.getElem?_eq_none_iff.mp hL
      rw [List.getElem?_eq_none_iff.mpr (by rw [wd_len]; exact h1), List.getElem?_eq_none_iff.mpr (by rw [wd_len]; exact h1)]
    | some d2 => rw [wd_get hL, wd_get hL, mput_ne S f hi]
theorem wfl_get {Q : Nat → Nat} {f : Nat → Int32} {fl : List (Option Nat)} {j : Nat} (h : fl[j]? = some none) : (wfl Q f fl)[j]? = some (.int (f j)) := by
  simp [wfl, List.getElem?_mapIdx, h]
theorem wfl_getr {Q : Nat → Nat} {f : Nat → Int32} {fl : List (Option Nat)} {j t : Nat} (h : fl[j]? = some (some t)) (ht : t ≠ 1000) : (wfl Q f fl)[j]? = some (.ref (Q t)) := by
  simp [wfl, List.getElem?_mapIdx, h, ht]
theorem wfl_set {Q : Nat → Nat} {f : Nat → Int32} {fl : List (Option Nat)} {j : Nat} {v : Int32} (h : fl[j]? = some none) : (wfl Q f fl).set j (.int v) = wfl Q (upd f j v) fl := by
  have hl := (List.getElem?_eq_some_iff.mp h).1
  refine List.ext_getElem? (fun i => ?_)
  by_cases hi : i = j
  · subst hi
    rw [List.getElem?_set_self (by simpa [wfl] using hl), wfl_get h]
    simp [upd]
  · rw [List.getElem?_set_ne (Ne.symm hi)]
    simp only [wfl, List.getElem?_mapIdx]
    cases fl[i]? with
    | none => rfl
    | some o => cases o <;> simp [upd, hi]
theorem wfl_len {Q : Nat → Nat} {f : Nat → Int32} {fl : List (Option Nat)} : (wfl Q f fl).length = fl.length := by simp [wfl]
/-- the addresses of a world of n cells -/
def wA (n : Nat) (Z : XG) : Nat → Prop := fun q => ∃ k, k < n ∧ q = Z.2.1 k
def wQ (n : Nat) (Z : XG) : Prop := ∀ i j, i < n → j < n → Z.2.1 i = Z.2.1 j → i = j
theorem wd_D {L : Lay} {Z : XG} {S : Mem} (h : wQ L.length Z) : va_D (wA L.length Z) (wd L Z S) := by
  refine ⟨fun i j p q hi hj e => ?_, fun k q hk => ?_⟩
  · obtain ⟨a1, a2⟩ := wd_at hi
    obtain ⟨b1, b2⟩ := wd_at hj
    exact h i j a1 b1 (by rw [← a2, ← b2, e])
  · obtain ⟨a1, a2⟩ := wd_at hk
    exact ⟨k, a1, a2⟩
/-! guards -/
abbrev O : Type := Option (Int32 × Mem)
def inB (i : Int32) (n : Nat) : Bool := decide (0 ≤ i) && decide (i.toNatClampNeg < n)
theorem inB_in {i : Int32} {n : Nat} (h : inB i n = true) : vp_in i n := by
  simp only [inB, Bool.and_eq_true, decide_eq_true_eq] at h
  intro q
  rcases q with q | q
  · exact absurd h.1 (by rw [Int32.not_le]; exact q)
  · omega
def isB (v : Int32) : Bool := decide (v = 0) || decide (v = 1)
def gd (b : Bool) (x : O) : O := if b = true then x else none
def bnd (x : O) (f : Int32 → Mem → O) : O := match x with
  | none => none
  | some q => f q.1 q.2
theorem gd_s {b : Bool} {x : O} {y : Int32 × Mem} (h : gd b x = some y) : b = true ∧ x = some y := by
  unfold gd at h
  by_cases hb : b = true
  · rw [if_pos hb] at h; exact ⟨hb, h⟩
  · rw [if_neg hb] at h; cases h
theorem bnd_s {x : O} {f : Int32 → Mem → O} {y : Int32 × Mem} (h : bnd x f = some y) : ∃ r S, x = some (r, S) ∧ f r S = some y := by
  cases x with
  | none => cases h
  | some q => exact ⟨q.1, q.2, rfl, h⟩
theorem if_t {c : Prop} [Decidable c] {a b z : O} (hc : c) (h : (if c then a else b) = z) : a = z := by rw [if_pos hc] at h; exact h
theorem if_f {c : Prop} [Decidable c] {a b z : O} (hc : ¬ c) (h : (if c then a else b) = z) : b = z := by rw [if_neg hc] at h; exact h
theorem isB_nar {v : Int32} (h : isB v = true) : narrow .boolean (.int v) = .int v ∧ fits .boolean (.int v) = true := by
  simp only [isB, Bool.or_eq_true, decide_eq_true_eq] at h
  rcases h with rfl | rfl <;> exact ⟨by decide +kernel, by decide +kernel⟩
def FU : Nat := 100000
