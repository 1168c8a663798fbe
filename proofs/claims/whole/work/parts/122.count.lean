/-! pure: count -/
def nL (n : Nat) : Int64 := Int64.ofNat n
theorem nL_toInt {n : Nat} (h : n < 2 ^ 63) : (nL n).toInt = (n : Int) := Int64.toInt_ofNat_of_lt h
theorem nL_add (a b : Nat) : nL a + nL b = nL (a + b) := (Int64.ofNat_add a b).symm
theorem nL_mul (a b : Nat) : nL a * nL b = nL (a * b) := (Int64.ofNat_mul a b).symm
theorem nL_of {k : Nat} (h : k < 2 ^ 31) : Int32.toInt64 (nI k) = nL k := by
  apply Int64.toInt_inj.mp
  rw [Int32.toInt_toInt64, nI_toInt h, nL_toInt (by omega)]
theorem nL_sub {a b : Nat} (h : b ≤ a) : nL a - nL b = nL (a - b) := by
  obtain ⟨c, rfl⟩ : ∃ c, a = c + b := ⟨a - b, by omega⟩
  rw [← nL_add, Int64.add_sub_cancel, Nat.add_sub_cancel]
theorem nL_div {a d : Nat} (ha : a < 2 ^ 63) (hd : d < 2 ^ 63) : nL a / nL d = nL (a / d) := by
  have hq : a / d ≤ a := Nat.div_le_self a d
  apply Int64.toInt_inj.mp
  rw [Int64.toInt_div, nL_toInt ha, nL_toInt hd, nL_toInt (by omega), ← Int.ofNat_tdiv]
  revert hq
  generalize a / d = q
  intro hq
  exact Int.bmod_eq_of_le (by omega) (by omega)
theorem nL_rem {a d : Nat} (ha : a < 2 ^ 63) (hd : d < 2 ^ 63) : jremL (nL a) (nL d) = nL (a % d) := by
  unfold jremL
  rw [nL_div ha hd, nL_mul, nL_sub (Nat.div_mul_le_self a d)]
  congr 1
  have := Nat.div_add_mod' a d
  omega
theorem nL_eq0 {a : Nat} (ha : a < 2 ^ 63) : nL a = 0 ↔ a = 0 := by
  rw [← Int64.toInt_inj, nL_toInt ha, show (0 : Int64).toInt = 0 by decide]
  omega
theorem lg0 {a : Nat} (ha : a < 2 ^ 63) : lg_cmp (nL a) 0 = if a = 0 then 0 else 1 := by
  unfold lg_cmp
  by_cases c : a = 0
  · rw [if_pos c, c]
    decide
  · have h1 : ¬ nL a < 0 := fun h => by
      rw [Int64.lt_iff_toInt_lt, nL_toInt ha, show (0 : Int64).toInt = 0 by decide] at h
      omega
    have h2 : ¬ nL a = 0 := fun h => c ((nL_eq0 ha).mp h)
    have h3 : 0 < nL a := by
      rw [Int64.lt_iff_toInt_lt, nL_toInt ha, show (0 : Int64).toInt = 0 by decide]
      omega
    simp [h1, h2, h3, c]
theorem powX_l {b : Nat} {k : Nat} (hk : k < 2000) : ∀ (j i n x : Nat), i + j = k → j < n → L_X0_power_5 (nL b) (nI k) n (nL x) (nI i) = some (nL (x * b ^ j)) := by
  intro j
  induction j with
  | zero =>
    intro i n x hi hn
    obtain ⟨n, rfl⟩ : ∃ a, n = a + 1 := ⟨n - 1, by omega⟩
    rw [L_X0_power_5.eq_2, q_ifle (by omega) (by omega), if_pos (by omega), Nat.pow_zero, Nat.mul_one]
  | succ j ih =>
    intro i n x hi hn
    obtain ⟨n, rfl⟩ : ∃ a, n = a + 1 := ⟨n - 1, by omega⟩
    rw [L_X0_power_5.eq_2, q_ifle (by omega) (by omega), if_neg (by omega), nL_mul, nI_1, ih (i + 1) n (x * b) (by omega) (by omega), Nat.mul_assoc, Nat.pow_succ']
theorem q_power {b k : Nat} (hk : k < 2000) : f_X0_power (nL b) (nI k) = some (nL (b ^ k)) := by
  unfold f_X0_power
  have := powX_l (b := b) hk k 0 FU 1 (by omega) (by have := q_FU; omega)
  rw [Nat.one_mul] at this
  exact this
theorem powM_l {b : Nat} {k : Nat} (hk : k < 2000) : ∀ (j i n x : Nat), i + j = k → j < n → L_X10_power_5 (nL b) (nI k) n (nL x) (nI i) = some (nL (x * b ^ j)) := by
  intro j
  induction j with
  | zero =>
    intro i n x hi hn
    obtain ⟨n, rfl⟩ : ∃ a, n = a + 1 := ⟨n - 1, by omega⟩
    rw [L_X10_power_5.eq_2, q_ifle (by omega) (by omega), if_pos (by omega), Nat.pow_zero, Nat.mul_one]
  | succ j ih =>
    intro i n x hi hn
    obtain ⟨n, rfl⟩ : ∃ a, n = a + 1 := ⟨n - 1, by omega⟩
    rw [L_X10_power_5.eq_2, q_ifle (by omega) (by omega), if_neg (by omega), nL_mul, nI_1, ih (i + 1) n (x * b) (by omega) (by omega), Nat.mul_assoc, Nat.pow_succ']
theorem q_mpower {b k : Nat} (hk : k < 2000) : f_X10_power (nL b) (nI k) = some (nL (b ^ k)) := by
  unfold f_X10_power
  have := powM_l (b := b) hk k 0 FU 1 (by omega) (by have := q_FU; omega)
  rw [Nat.one_mul] at this
  exact this
def ch : Nat → Nat → Nat
  | _, 0 => 1
  | 0, _ + 1 => 0
  | n + 1, k + 1 => ch n k + ch n (k + 1)
theorem ch_big : ∀ {n k : Nat}, n < k → ch n k = 0
  | 0, k + 1, _ => by rw [ch]
  | n + 1, k + 1, h => by rw [ch, ch_big (show n < k by omega), ch_big (show n < k + 1 by omega)]
theorem q_choose18 : ∀ n k : Fin 18, k.val ≤ n.val → f_X0_choose (nI n.val) (nI k.val) = some (nL (ch n.val k.val)) := by decide +kernel
theorem q_choose {n k : Nat} (hn : n < 18) (hk : k ≤ n) : f_X0_choose (nI n) (nI k) = some (nL (ch n k)) := q_choose18 ⟨n, hn⟩ ⟨k, by omega⟩ hk
def tm (n p j : Nat) : Nat := ch n j * p ^ j * (10 - p) ^ (n - j)
def tl (f : Nat → Nat) : Nat → Nat → Nat
  | _, 0 => 0
  | t, k + 1 => f t + tl f (t + 1) k
theorem atL_l {n p : Nat} {p2 : Int32} (hn : n < 18) (hp : p ≤ 10) : ∀ (k j N a : Nat), j + k = n + 1 → k < N → L_X0_atLeast_5 (nI n) (nI p) p2 N (nL a) (nI j) = some (nL (a + tl (tm n p) j k)) := by
  intro k
  induction k with
  | zero =>
    intro j N a hj hN
    obtain ⟨N, rfl⟩ : ∃ a, N = a + 1 := ⟨N - 1, by omega⟩
    rw [L_X0_atLeast_5.eq_2, q_ifl (by omega) (by omega), if_pos (by omega)]
    rfl
  | succ k ih =>
    intro j N a hj hN
    obtain ⟨N, rfl⟩ : ∃ a, N = a + 1 := ⟨N - 1, by omega⟩
    rw [L_X0_atLeast_5.eq_2, q_ifl (by omega) (by omega), if_neg (by omega), q_choose hn (by omega), q_bd1, nL_of (by omega), q_power (by omega), q_bd1, q_lit 10, q_subN hp, q_subN (by omega), nL_of (by omega), q_power (by omega), q_bd1, nL_mul, nL_mul, nL_add, nI_1, ih (j + 1) N _ (by omega) (by omega), tl, tm, Nat.add_assoc]
theorem atL_big {n p t N : Nat} {p2 : Int32} {a : Int64} (hn : n < 18) (ht : t < 100) (h : n < t) : L_X0_atLeast_5 (nI n) (nI p) p2 (N + 1) a (nI t) = some a := by
  rw [L_X0_atLeast_5.eq_2, q_ifl (by omega) (by omega), if_pos h]
theorem q_atLeast {n p t : Nat} (hn : n < 18) (hp : p ≤ 10) (ht : t < 100) : f_X0_atLeast (nI n) (nI p) (nI t) = some (nL (tl (tm n p) t (n + 1 - t))) := by
  unfold f_X0_atLeast
  by_cases c : n < t
  · rw [show n + 1 - t = 0 by omega]
    exact atL_big (N := 2047) hn ht c
  · have := atL_l (p2 := nI t) hn hp (n + 1 - t) t FU 0 (by omega) (by have := q_FU; omega)
    rw [Nat.zero_add] at this
    exact this
