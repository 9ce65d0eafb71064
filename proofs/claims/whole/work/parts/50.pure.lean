/-! PURE: no machine from here on. Numbers and the small programs' way of going on. -/
theorem bnd_some (r : Int32) (S : Mem) (f : Int32 → Mem → O) : bnd (some (r, S)) f = f r S := rfl
theorem bnd_of {x : O} {r : Int32} {S : Mem} (f : Int32 → Mem → O) (h : x = some (r, S)) : bnd x f = f r S := by rw [h]; rfl
theorem gd_t (x : O) : gd true x = x := rfl
theorem gd_of {b : Bool} (x : O) (h : b = true) : gd b x = x := by rw [h]; rfl
theorem fa_lit (n : Nat) : (OfNat.ofNat n : Int32) = nI n := rfl
theorem m1_ne {k : Nat} (h : k < 2 ^ 31) : ¬ nI k = -1 := by
  intro q
  have h1 := congrArg Int32.toInt q
  rw [nI_toInt h] at h1
  have : (-1 : Int32).toInt = -1 := by decide
  omega
theorem m1_ne' {k : Nat} (h : k < 2 ^ 31) : ¬ (-1 : Int32) = nI k := fun q => m1_ne h q.symm
theorem inB_nI {k n : Nat} (h : k < 2 ^ 31) : inB (nI k) n = decide (k < n) := by
  have h1 : (0 : Int32) ≤ nI k := nI_pos' h
  simp [inB, h1, nI_clamp h]
theorem inB_t {k n : Nat} (h : k < n) (hn : n < 2 ^ 31) : inB (nI k) n = true := by rw [inB_nI (by omega)]; simp [h]
theorem nlt0 {k : Nat} (h : k < 2 ^ 31) : ¬ nI k < 0 := nI_pos h
theorem le0_iff {k : Nat} (h : k < 2 ^ 31) : nI k ≤ 0 ↔ k = 0 := by
  rw [show (0 : Int32) = nI 0 from rfl, nI_leI h (by omega)]; omega
theorem lt_iff (x y : Int32) : x < y ↔ x.toInt < y.toInt := Int32.lt_iff_toInt_lt
theorem le_iff (x y : Int32) : x ≤ y ↔ x.toInt ≤ y.toInt := Int32.le_iff_toInt_le
theorem eq_iff (x y : Int32) : x = y ↔ x.toInt = y.toInt := ⟨fun h => by rw [h], fun h => Int32.toInt_inj.mp h⟩
/-- an int is a small number, or out of its row -/
theorem ixN (x : Int32) {n : Nat} (hn : n < 2 ^ 31) : (x < 0) ∨ (nI n ≤ x) ∨ ∃ j : Nat, j < n ∧ x = nI j := pk_ix x hn
def le32 (v : Int32) (b : Nat) : Prop := ∃ k : Nat, k ≤ b ∧ v = nI k
def bitI (x : Int32) (p : Nat) : Int32 := (x >>> (nI p &&& 31)) &&& 1
theorem upd_same (f : Nat → Int32) (k : Nat) (x : Int32) : upd f k x k = x := by simp [upd]
theorem upd_ne (f : Nat → Int32) {k j : Nat} (x : Int32) (h : j ≠ k) : upd f k x j = f j := by simp [upd, h]
theorem mset_ne (S : Mem) {k c : Nat} (j : Nat) (v : Int32) (h : c ≠ k) : mset S k j v c = S c := by simp [mset, mput, h]
theorem mset_same (S : Mem) (k j : Nat) (v : Int32) : mset S k j v k = upd (S k) j v := by simp [mset, mput]
/-- isIn -/
theorem isIn_eq (S : Mem) (x a b : Int32) : fX8_isIn S x a b = some (if a ≤ x ∧ x ≤ b then 1 else 0, S) := by
  unfold fX8_isIn
  by_cases h1 : x < a
  · rw [if_pos h1, if_neg (by rw [← Int32.not_lt]; exact fun h => h.1 h1)]
  · rw [if_neg h1]
    by_cases h2 : b < x
    · rw [if_pos h2, if_neg (fun h => by have := h.2; rw [← Int32.not_lt] at this; exact this h2)]
    · rw [if_neg h2, if_pos ⟨by rw [← Int32.not_lt]; exact h1, by rw [← Int32.not_lt]; exact h2⟩]
theorem inR {x : Int32} {n : Nat} (hn : n < 2 ^ 31) : (0 ≤ x ∧ x ≤ nI n) ↔ ∃ j : Nat, j ≤ n ∧ x = nI j := by
  constructor
  · rintro ⟨h1, h2⟩
    rcases ixN x hn with h | h | ⟨j, hj, e⟩
    · exact absurd h (by rw [Int32.not_lt]; exact h1)
    · exact ⟨n, Nat.le_refl n, Int32.le_antisymm h2 h⟩
    · exact ⟨j, by omega, e⟩
  · rintro ⟨j, hj, rfl⟩
    exact ⟨nI_pos' (by omega), nI_le hj (by omega)⟩
theorem pilX (S : Mem) (x : Int32) {n : Nat} (hn : n ≤ 10) (hc : S 1 9 = nI n) : fX6_isPilgrim S x = some (if ∃ j, j < n ∧ x = nI j then 1 else 0, S) := by
  unfold fX6_isPilgrim
  rw [hc]
  rcases ixN x (show n < 2 ^ 31 by omega) with h | h | ⟨j, hj, rfl⟩
  · rw [if_pos h, if_neg]
    rintro ⟨j, hj, rfl⟩; exact nlt0 (by omega) h
  · by_cases h0 : x < 0
    · rw [if_pos h0, if_neg]
      rintro ⟨j, hj, rfl⟩; exact nlt0 (by omega) h0
    · rw [if_neg h0, if_pos h, if_neg]
      rintro ⟨j, hj, rfl⟩; rw [nI_leI (by omega) (by omega)] at h; omega
  · rw [if_neg (nlt0 (by omega)), if_neg (by rw [nI_leI (by omega) (by omega)]; omega), if_pos ⟨j, hj, rfl⟩]
theorem pilM (S : Mem) (x : Int32) {n : Nat} (hn : n ≤ 10) (hc : S 0 6 = nI n) : fX8_isPilgrim S x = some (if ∃ j, j < n ∧ x = nI j then 1 else 0, S) := by
  unfold fX8_isPilgrim
  rw [hc]
  rcases ixN x (show n < 2 ^ 31 by omega) with h | h | ⟨j, hj, rfl⟩
  · rw [if_pos h, if_neg]
    rintro ⟨j, hj, rfl⟩; exact nlt0 (by omega) h
  · by_cases h0 : x < 0
    · rw [if_pos h0, if_neg]
      rintro ⟨j, hj, rfl⟩; exact nlt0 (by omega) h0
    · rw [if_neg h0, if_pos h, if_neg]
      rintro ⟨j, hj, rfl⟩; rw [nI_leI (by omega) (by omega)] at h; omega
  · rw [if_neg (nlt0 (by omega)), if_neg (by rw [nI_leI (by omega) (by omega)]; omega), if_pos ⟨j, hj, rfl⟩]
