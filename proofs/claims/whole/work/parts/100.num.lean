/-! pure: numbers -/
theorem q_lit (n : Nat) : (OfNat.ofNat n : Int32) = nI n := rfl
theorem q_m1 : (-1 : Int32) < 0 := by decide
theorem q_gin {α : Type} {i n : Nat} {k : Option α} (h : i < n) (hn : n < 2 ^ 31) : gin (nI i) n k = k := by
  unfold gin
  have h1 : ¬ nI i < 0 := nI_pos (by omega)
  have h2 : (nI i).toNatClampNeg = i := nI_clamp (by omega)
  rw [if_pos]
  unfold jinb
  rw [h2]
  simp [h1]
  omega
theorem q_cl {i : Nat} (h : i < 2 ^ 31) : Int32.toNatClampNeg (nI i) = i := nI_clamp h
theorem q_bd1 {α β : Type} (x : α) (k : α → Option β) : bd1 (some x) k = k x := rfl
theorem q_upd (f : Nat → Int32) (k : Nat) (x : Int32) (j : Nat) : upd f k x j = if j = k then x else f j := rfl
/-- a bit of a set of eight -/
theorem q_bit : ∀ (T : Fin 256) (g : Fin 8), ((nI T.val >>> (nI g.val &&& 31)) &&& 1) = if T.val.testBit g.val then 1 else 0 := by decide +kernel
theorem q_has8 : ∀ (T : Fin 256) (g : Fin 8), f_X6_has (nI T.val) (nI g.val) = some (if T.val.testBit g.val then 1 else 0) := by decide +kernel
theorem q_mhas8 : ∀ (T : Fin 256) (g : Fin 8), f_X10_has (nI T.val) (nI g.val) = some (if T.val.testBit g.val then 1 else 0) := by decide +kernel
theorem q_one8 : ∀ (g : Fin 8), ((1 : Int32) <<< (nI g.val &&& 31)) = nI (2 ^ g.val) := by decide +kernel
def pc8 (T : Nat) : Nat := ((List.range 8).filter (fun g => T.testBit g)).length
theorem q_bitCount8 : ∀ (T : Fin 256), f_J6_bitCount_0f7a4 (nI T.val) = some (nI (pc8 T.val)) := by decide +kernel
theorem q_bits8 : ∀ (T : Fin 256), f_X10_bits (nI T.val) = some (nI (pc8 T.val)) := by decide +kernel
theorem q_ntz8 : ∀ (T : Fin 256), ¬ T.val = 0 → f_J6_numberOfTrailingZeros_0f7a4 (nI T.val) = some (nI ((List.range 8).findIdx (fun g => T.val.testBit g))) := by decide +kernel
theorem q_has {T g : Nat} (hT : T < 256) (hg : g < 8) : f_X6_has (nI T) (nI g) = some (if T.testBit g then 1 else 0) := q_has8 ⟨T, hT⟩ ⟨g, hg⟩
theorem q_mhas {T g : Nat} (hT : T < 256) (hg : g < 8) : f_X10_has (nI T) (nI g) = some (if T.testBit g then 1 else 0) := q_mhas8 ⟨T, hT⟩ ⟨g, hg⟩
theorem q_one {g : Nat} (hg : g < 8) : ((1 : Int32) <<< (nI g &&& 31)) = nI (2 ^ g) := q_one8 ⟨g, hg⟩
theorem q_ix (x : Int32) : x < 0 ∨ (8 : Int32) ≤ x ∨ ∃ g, g < 8 ∧ x = nI g := pk_ix x (n := 8) (by decide)
theorem q_isGlobe_n {x : Int32} (h : x < 0) : f_X9_isGlobe x = some 0 := by unfold f_X9_isGlobe; rw [if_pos h]
theorem q_isGlobe_b {x : Int32} (h : (8 : Int32) ≤ x) : f_X9_isGlobe x = some 0 := by
  unfold f_X9_isGlobe
  rw [if_pos h]
  split <;> rfl
theorem q_isGlobe {g : Nat} (h : g < 8) : f_X9_isGlobe (nI g) = some 1 := (by decide +kernel : ∀ g : Fin 8, f_X9_isGlobe (nI g.val) = some 1) ⟨g, h⟩
theorem q_has_n {T x : Int32} (h : x < 0) : f_X6_has T x = some 0 := by unfold f_X6_has; rw [if_pos h]
theorem q_has_b {T x : Int32} (h : (8 : Int32) ≤ x) : f_X6_has T x = some 0 := by
  unfold f_X6_has
  rw [if_pos h]
  split <;> rfl
theorem q_in7_n {x : Int32} (h : x < 0) : f_X10_in x 0 7 = some 0 := by unfold f_X10_in; rw [if_pos h]
theorem q_in7_b {x : Int32} (h : (8 : Int32) ≤ x) : f_X10_in x 0 7 = some 0 := by
  unfold f_X10_in
  split
  · rfl
  · rw [if_pos]
    rw [Int32.lt_iff_toInt_lt]
    rw [Int32.le_iff_toInt_le] at h
    have e8 : (8 : Int32).toInt = 8 := rfl
    have e7 : (7 : Int32).toInt = 7 := rfl
    omega
theorem q_in7 {g : Nat} (h : g < 8) : f_X10_in (nI g) 0 7 = some 1 := (by decide +kernel : ∀ g : Fin 8, f_X10_in (nI g.val) 0 7 = some 1) ⟨g, h⟩
theorem q_isThere_n {bk : Nat → Int32} {x : Int32} (h : x < 0) : f_X10_isThere bk x = some 0 := by unfold f_X10_isThere; rw [q_in7_n h, q_bd1]; rfl
theorem q_isThere_b {bk : Nat → Int32} {x : Int32} (h : (8 : Int32) ≤ x) : f_X10_isThere bk x = some 0 := by unfold f_X10_isThere; rw [q_in7_b h, q_bd1]; rfl
theorem q_40 : Int32.toNatClampNeg (40 : Int32) = 40 := by decide
theorem q_41 : Int32.toNatClampNeg (41 : Int32) = 41 := by decide
theorem q_42 : Int32.toNatClampNeg (42 : Int32) = 42 := by decide
theorem q_isThere {bk : Nat → Int32} {T g : Nat} (hT : T < 256) (hg : g < 8) (hb : bk 40 = nI T) : f_X10_isThere bk (nI g) = some (if T.testBit g then 1 else 0) := by
  unfold f_X10_isThere
  rw [q_in7 hg, q_bd1, q_40, hb, q_mhas hT hg, q_bd1]
  rw [if_neg (by decide)]
  cases T.testBit g <;> rfl
/-- a number that must be from 0 to n -/
theorem q_upTo (x : Int32) (n : Nat) (hn : n < 2 ^ 31) : (f_X9_isUpTo x (nI n) = some 0 ∧ f_X10_in x 0 (nI n) = some 0) ∨ ∃ j, j ≤ n ∧ x = nI j ∧ f_X9_isUpTo x (nI n) = some 1 ∧ f_X10_in x 0 (nI n) = some 1 := by
  unfold f_X9_isUpTo f_X10_in
  by_cases h1 : x < 0
  · left
    rw [if_pos h1]
    exact ⟨rfl, rfl⟩
  · by_cases h2 : nI n < x
    · left
      rw [if_neg h1, if_pos h2]
      exact ⟨rfl, rfl⟩
    · right
      rw [if_neg h1, if_neg h2]
      obtain ⟨j, hj, rfl⟩ := nI_of h1
      refine ⟨j, ?_, rfl, rfl, rfl⟩
      rw [nI_ltI hn hj] at h2
      omega
