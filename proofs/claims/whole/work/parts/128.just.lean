/-! pure: just, bits and what is in what -/
theorem q_and (a b : Nat) : nI a &&& nI b = nI (a &&& b) := by
  apply Int32.toBitVec_inj.mp
  rw [Int32.toBitVec_and]
  show BitVec.ofNat 32 a &&& BitVec.ofNat 32 b = BitVec.ofNat 32 (a &&& b)
  exact BitVec.ofNat_and.symm
theorem bit_hi {T i : Nat} (hT : T < 256) (hi : 8 ≤ i) : T.testBit i = false := Nat.testBit_lt_two_pow (Nat.lt_of_lt_of_le hT (show 2 ^ 8 ≤ 2 ^ i from Nat.pow_le_pow_right (by decide) hi))
theorem q_andB {T D : Nat} (hT : T < 256) : nI T &&& (nI D ^^^ (-1 : Int32)) = nI (orB (fun g => T.testBit g && !D.testBit g) 8) := by
  apply Int32.toBitVec_inj.mp
  rw [Int32.toBitVec_and, Int32.toBitVec_xor]
  show BitVec.ofNat 32 T &&& (BitVec.ofNat 32 D ^^^ BitVec.allOnes 32) = BitVec.ofNat 32 (orB (fun g => T.testBit g && !D.testBit g) 8)
  apply BitVec.eq_of_getLsbD_eq
  intro i hi
  rw [BitVec.getLsbD_and, BitVec.getLsbD_xor, BitVec.getLsbD_ofNat, BitVec.getLsbD_ofNat, BitVec.getLsbD_ofNat, BitVec.getLsbD_allOnes, orB_bit]
  by_cases c : i < 8
  · simp [hi, c]
  · rw [bit_hi hT (by omega)]
    simp [c]
theorem orB_0 {p : Nat → Bool} : orB p 8 = 0 ↔ ∀ i, i < 8 → p i = false := by
  constructor
  · intro h i hi
    have := orB_bit p 8 i
    rw [h, Nat.zero_testBit] at this
    simpa [hi] using this.symm
  · intro h
    refine Nat.eq_of_testBit_eq (fun i => ?_)
    rw [orB_bit, Nat.zero_testBit]
    by_cases c : i < 8
    · simp [h i c]
    · simp [c]
theorem eq_bits {a b : Nat} (ha : a < 256) (hb : b < 256) (h : ∀ i, i < 8 → a.testBit i = b.testBit i) : a = b := by
  refine Nat.eq_of_testBit_eq (fun i => ?_)
  by_cases c : i < 8
  · exact h i c
  · rw [bit_hi ha (by omega), bit_hi hb (by omega)]
theorem W_refl {P : Nat → Nat} {x : Nat} (hx : x < 8) : win P 8 x x = true := by rw [win, if_pos hx, if_pos rfl]
theorem W_trans {P : Nat → Nat} {x y z : Nat} (hx : 8 ≤ up P 8 x) (hy : y < 8) (hz : z < 8) (h1 : win P 8 x y = true) (h2 : win P 8 y z = true) : win P 8 x z = true := by
  obtain ⟨k, hk, e1⟩ := (win_up hy).mp h1
  obtain ⟨l, hl, e2⟩ := (win_up hz).mp h2
  refine (win_up hz).mpr ⟨k + l, ?_, by rw [up_add, e1, e2]⟩
  refine Nat.lt_of_not_le (fun c => ?_)
  have := up_le hx c
  rw [up_add, e1, e2] at this
  omega
theorem W_top {P : Nat → Nat} {S : Nat → Bool} : ∀ (k s : Nat), s < 8 → 8 ≤ up P k s → S s = true → ∃ r, r < 8 ∧ S r = true ∧ win P 8 s r = true ∧ 8 ≤ up P k r ∧ ∀ g, g < 8 → S g = true → win P 8 r g = true → g = r := by
  intro k
  induction k using Nat.strongRecOn with
  | ind k ih =>
    intro s hs hu hS
    by_cases c : ∃ g, g < 8 ∧ S g = true ∧ win P 8 s g = true ∧ g ≠ s
    · obtain ⟨g, hg, h1, h2, h3⟩ := c
      obtain ⟨l, hl, e⟩ := (win_up hg).mp h2
      have hl0 : l ≠ 0 := fun q => by subst q; exact h3 e.symm
      have hlk : l < k := by
        refine Nat.lt_of_not_le (fun q => ?_)
        have := up_le hu q
        omega
      have hu2 : 8 ≤ up P (k - l) g := by
        rw [← e, ← up_add, show l + (k - l) = k by omega]
        exact hu
      obtain ⟨r, r1, r2, r3, r4, r5⟩ := ih (k - l) (by omega) g hg hu2 h1
      refine ⟨r, r1, r2, ?_, up_le r4 (by omega), r5⟩
      obtain ⟨m, hm, e2⟩ := (win_up r1).mp r3
      by_cases q : l + m < 8
      · exact (win_up r1).mpr ⟨l + m, q, by rw [up_add, e, e2]⟩
      · have h8 : 8 ≤ up P 8 s := by
          by_cases q2 : k ≤ 8
          · exact up_le hu q2
          · exact up_8 hu
        have := up_le h8 (show 8 ≤ l + m by omega)
        rw [up_add, e, e2] at this
        omega
    · refine ⟨s, hs, hS, W_refl hs, hu, fun g hg h1 h2 => ?_⟩
      by_cases q : g = s
      · exact q
      · exact absurd ⟨g, hg, h1, h2, q⟩ c
def anyB (p : Nat → Bool) : Nat → Bool
  | 0 => false
  | n + 1 => anyB p n || p n
theorem anyB_iff {p : Nat → Bool} : ∀ {n : Nat}, anyB p n = true ↔ ∃ j, j < n ∧ p j = true
  | 0 => ⟨fun h => Bool.noConfusion h, fun ⟨j, h, _⟩ => absurd h (by omega)⟩
  | n + 1 => by
    rw [anyB, Bool.or_eq_true, anyB_iff]
    constructor
    · rintro (⟨j, h1, h2⟩ | h)
      · exact ⟨j, by omega, h2⟩
      · exact ⟨n, by omega, h⟩
    · rintro ⟨j, h1, h2⟩
      by_cases q : j = n
      · subst q; exact Or.inr h2
      · exact Or.inl ⟨j, by omega, h2⟩
theorem sm_lt {f g : Nat → Nat} : ∀ {n : Nat}, (∀ j, j < n → f j ≤ g j) → (∃ j, j < n ∧ f j < g j) → sm f n < sm g n
  | 0, _, ⟨j, h, _⟩ => absurd h (by omega)
  | n + 1, h, ⟨j, h1, h2⟩ => by
    have hle : ∀ m, m ≤ n → sm f m ≤ sm g m := by
      intro m
      induction m with
      | zero => intro _; exact Nat.le_refl _
      | succ m ih => intro hm; have := h m (by omega); have := ih (by omega); rw [sm, sm]; omega
    have e1 := h n (by omega)
    have e2 := hle n (Nat.le_refl n)
    rw [sm, sm]
    by_cases q : j = n
    · subst q; omega
    · have := sm_lt (n := n) (fun j hj => h j (by omega)) ⟨j, by omega, h2⟩
      omega
theorem pc8_lt {R X : Nat} (hR : R < 256) (hX : X < 256) (h : ∀ i, i < 8 → R.testBit i = true → X.testBit i = true) (hne : R ≠ X) : pc8 R < pc8 X := by
  have e1 := pc8_sm ⟨R, hR⟩
  have e2 := pc8_sm ⟨X, hX⟩
  rw [e1, e2]
  refine sm_lt (fun j hj => ?_) ?_
  · show (if R.testBit j = true then 1 else 0) ≤ (if X.testBit j = true then 1 else 0)
    by_cases c : R.testBit j = true
    · rw [if_pos c, if_pos (h j hj c)]; exact Nat.le_refl 1
    · rw [if_neg c]; exact Nat.zero_le _
  · by_cases c : ∃ j, j < 8 ∧ R.testBit j = false ∧ X.testBit j = true
    · obtain ⟨j, hj, c1, c2⟩ := c
      refine ⟨j, hj, ?_⟩
      show (if R.testBit j = true then 1 else 0) < (if X.testBit j = true then 1 else 0)
      rw [c1, c2]
      decide
    · refine absurd (eq_bits hR hX (fun i hi => ?_)) hne
      by_cases q : R.testBit i = true
      · rw [q, h i hi q]
      · have q' : R.testBit i = false := by simpa using q
        by_cases q2 : X.testBit i = true
        · exact absurd ⟨i, hi, q', q2⟩ c
        · rw [q']
          simpa using Ne.symm q2
