/-! pure: count, the reference's rows; common divisors -/
def row (p : Nat) : Nat → Nat → Nat
  | 0, 0 => 1
  | 0, _ + 1 => 0
  | r + 1, 0 => row p r 0 * (10 - p)
  | r + 1, k + 1 => row p r (k + 1) * (10 - p) + row p r k * p
theorem row_tm {p : Nat} : ∀ (r k : Nat), row p r k = tm r p k
  | 0, 0 => rfl
  | 0, k + 1 => by rw [row, tm, ch_big (by omega), Nat.zero_mul, Nat.zero_mul]
  | r + 1, 0 => by
    rw [row, row_tm r 0, tm, tm, ch, ch, Nat.pow_zero, Nat.one_mul, Nat.one_mul, Nat.sub_zero, Nat.sub_zero, Nat.pow_succ]
  | r + 1, k + 1 => by
    rw [row, row_tm r (k + 1), row_tm r k, tm, tm, tm, ch, Nat.add_mul, Nat.add_mul, Nat.succ_sub_succ, Nat.pow_succ p k]
    have e1 : ch r k * p ^ k * (10 - p) ^ (r - k) * p = ch r k * (p ^ k * p) * (10 - p) ^ (r - k) := by
      rw [Nat.mul_right_comm, Nat.mul_assoc (ch r k)]
    rw [e1, Nat.add_comm]
    congr 1
    by_cases c : k + 1 ≤ r
    · rw [show r - k = (r - (k + 1)) + 1 by omega, Nat.pow_succ, Nat.mul_assoc, Nat.mul_assoc, Nat.mul_assoc]
    · rw [ch_big (by omega), Nat.zero_mul, Nat.zero_mul, Nat.zero_mul, Nat.zero_mul]
theorem sm_row {p r : Nat} : ∀ m, sm (row p (r + 1)) (m + 1) = (10 - p) * sm (row p r) (m + 1) + p * sm (row p r) m
  | 0 => by
    have e1 : sm (row p (r + 1)) (0 + 1) = row p r 0 * (10 - p) := Nat.zero_add _
    have e2 : sm (row p r) (0 + 1) = row p r 0 := Nat.zero_add _
    have e3 : sm (row p r) 0 = 0 := rfl
    rw [e1, e2, e3, Nat.mul_zero, Nat.add_zero, Nat.mul_comm]
  | m + 1 => by
    have e1 : sm (row p (r + 1)) (m + 1 + 1) = sm (row p (r + 1)) (m + 1) + (row p r (m + 1) * (10 - p) + row p r m * p) := rfl
    have e2 : sm (row p r) (m + 1 + 1) = sm (row p r) (m + 1) + row p r (m + 1) := rfl
    have e3 : sm (row p r) (m + 1) = sm (row p r) m + row p r m := rfl
    rw [e1, sm_row m, e2, Nat.mul_add, e3, Nat.mul_add p, Nat.mul_comm (row p r (m + 1)), Nat.mul_comm (row p r m)]
    omega
theorem sm_row_le {p : Nat} (hp : p ≤ 10) : ∀ r m, sm (row p r) (m + 1) ≤ 10 ^ r
  | 0, m => by
    have : ∀ m, sm (row p 0) (m + 1) = 1 := by
      intro m
      induction m with
      | zero => rfl
      | succ m ih => rw [sm, ih, row]
    rw [this]
    exact Nat.le_refl 1
  | r + 1, m => by
    rw [sm_row m]
    have h1 := sm_row_le hp r m
    have h2 : sm (row p r) m ≤ sm (row p r) (m + 1) := by rw [sm]; omega
    have h3 := Nat.mul_le_mul_left p h2
    have h4 : (10 - p) * sm (row p r) (m + 1) + p * sm (row p r) (m + 1) = 10 * sm (row p r) (m + 1) := by
      rw [← Nat.add_mul, Nat.sub_add_cancel hp]
    rw [Nat.pow_succ]
    omega
theorem sm_tl {f : Nat → Nat} : ∀ (k t : Nat), sm f (t + k) = sm f t + tl f t k
  | 0, t => by rw [tl]; rfl
  | k + 1, t => by
    have e1 := sm_tl (f := f) k (t + 1)
    have e2 : sm f (t + 1) = sm f t + f t := rfl
    rw [tl, show t + (k + 1) = t + 1 + k by omega, e1, e2, Nat.add_assoc]
theorem tl_zero {f : Nat → Nat} : ∀ (k t : Nat), (∀ j, t ≤ j → f j = 0) → tl f t k = 0
  | 0, t, _ => rfl
  | k + 1, t, h => by rw [tl, h t (Nat.le_refl t), tl_zero k (t + 1) (fun j hj => h j (by omega))]
theorem tl_cut {f : Nat → Nat} : ∀ (a b t : Nat), tl f t (a + b) = tl f t a + tl f (t + a) b
  | 0, b, t => by rw [tl, Nat.zero_add, Nat.zero_add]; rfl
  | a + 1, b, t => by
    rw [show a + 1 + b = (a + b) + 1 by omega, tl, tl, tl_cut a b (t + 1), show t + 1 + a = t + (a + 1) by omega, Nat.add_assoc]
theorem tl_congr {f g : Nat → Nat} (h : ∀ j, f j = g j) : ∀ (k t : Nat), tl f t k = tl g t k
  | 0, t => rfl
  | k + 1, t => by rw [tl, tl, h t, tl_congr h k (t + 1)]
theorem tl_row {p n t : Nat} (hn : n < 18) (ht : t < 19) : tl (row p n) t (19 - t) = tl (tm n p) t (n + 1 - t) := by
  rw [tl_congr (row_tm n)]
  by_cases c : t ≤ n
  · rw [show 19 - t = (n + 1 - t) + (18 - n) by omega, tl_cut, tl_zero _ (t + (n + 1 - t)) (fun j hj => by rw [tm, ch_big (by omega), Nat.zero_mul, Nat.zero_mul]), Nat.add_zero]
  · rw [tl_zero _ t (fun j hj => by rw [tm, ch_big (by omega), Nat.zero_mul, Nat.zero_mul]), show n + 1 - t = 0 by omega]
    rfl
/-! euclid -/
def fb : Nat → Nat
  | 0 => 0
  | 1 => 1
  | n + 2 => fb (n + 1) + fb n
theorem fb5 (n : Nat) : 8 * fb n ≤ fb (n + 5) := by
  have e2 : fb (n + 2) = fb (n + 1) + fb n := rfl
  have e3 : fb (n + 3) = fb (n + 2) + fb (n + 1) := rfl
  have e4 : fb (n + 4) = fb (n + 3) + fb (n + 2) := rfl
  have e5 : fb (n + 5) = fb (n + 4) + fb (n + 3) := rfl
  have m : fb n ≤ fb (n + 1) ∨ n = 0 := by
    by_cases c : n = 0
    · exact Or.inr c
    · obtain ⟨m, rfl⟩ : ∃ m, n = m + 1 := ⟨n - 1, by omega⟩
      have e : fb (m + 1 + 1) = fb (m + 1) + fb m := rfl
      exact Or.inl (by rw [e]; exact Nat.le_add_right _ _)
  rcases m with m | m
  · omega
  · subst m
    decide
theorem fb96 : ∀ k, 8 ^ k ≤ fb (5 * k + 1)
  | 0 => Nat.le_refl 1
  | k + 1 => by
    have h := fb96 k
    have h2 := fb5 (5 * k + 1)
    rw [show 5 * (k + 1) + 1 = 5 * k + 1 + 5 by omega, Nat.pow_succ]
    omega
theorem gcd_step {a b : Nat} : Nat.gcd a b = Nat.gcd b (a % b) := by
  rw [Nat.gcd_comm a b, Nat.gcd_rec, Nat.gcd_comm]
def EB (s a b : Nat) : Prop := b < a ∧ (b < fb (s + 1) ∨ a < fb (s + 2))
theorem EB_0 {a b : Nat} (h : EB 0 a b) : b = 0 := by
  obtain ⟨h1, h2⟩ := h
  have : fb (0 + 1) = 1 := rfl
  have : fb (0 + 2) = 1 := rfl
  omega
theorem EB_s {s a b : Nat} (h : EB (s + 1) a b) (hb : 0 < b) : EB s b (a % b) := by
  obtain ⟨h1, h2⟩ := h
  have hm := Nat.mod_lt a hb
  refine ⟨hm, ?_⟩
  by_cases c : b < fb (s + 2)
  · exact Or.inr c
  · rcases h2 with h2 | h2
    · exact absurd h2 c
    · left
      rw [fb.eq_3 (s + 1)] at h2
      have h3 := Nat.div_add_mod a b
      have h4 : 1 ≤ a / b := (Nat.le_div_iff_mul_le hb).mpr (by omega)
      have h5 := Nat.mul_le_mul_left b h4
      rw [show s + 1 + 1 = s + 2 from rfl] at h2
      omega
theorem cdX {p0 p2 : Int64} : ∀ (s a b i n : Nat), EB s a b → i + s < 100 → s < n → a < 2 ^ 63 → L_X0_commonDivisor_9 p0 p2 n (nL a) (nL b) (nI i) = some (nL (Nat.gcd a b)) := by
  intro s
  induction s with
  | zero =>
    intro a b i n h hi hn ha
    obtain ⟨n, rfl⟩ : ∃ a, n = a + 1 := ⟨n - 1, by omega⟩
    rw [EB_0 h, L_X0_commonDivisor_9.eq_2, q_lit 100, q_ifle (by decide) (by omega), if_neg (by omega), lg0 (by decide), if_pos (by decide), Nat.gcd_zero_right]
  | succ s ih =>
    intro a b i n h hi hn ha
    obtain ⟨n, rfl⟩ : ∃ a, n = a + 1 := ⟨n - 1, by omega⟩
    have hb : b < 2 ^ 63 := by have := h.1; omega
    rw [L_X0_commonDivisor_9.eq_2, q_lit 100, q_ifle (by decide) (by omega), if_neg (by omega), lg0 hb]
    by_cases c : b = 0
    · rw [if_pos c, if_pos rfl, c, Nat.gcd_zero_right]
    · unfold gneL
      rw [if_neg c, if_neg (by decide), if_neg (fun e => c ((nL_eq0 hb).mp e)), nL_rem ha hb, nI_1, ih b (a % b) (i + 1) n (EB_s h (by omega)) (by omega) (by omega) hb, ← gcd_step]
theorem q_cd {a d : Nat} (ha : a < 2 ^ 63) (h0 : 0 < d) (hd : d < 8 ^ 19) : f_X0_commonDivisor (nL a) (nL d) = some (nL (Nat.gcd a d)) := by
  unfold f_X0_commonDivisor
  have hd2 : d < 2 ^ 63 := Nat.lt_trans hd (by decide)
  have h96 := fb96 19
  have hm := Nat.mod_lt a h0
  have := cdX (p0 := nL a) (p2 := nL d) 94 d (a % d) 1 2047 ⟨hm, Or.inr (Nat.lt_of_lt_of_le hd h96)⟩ (by omega) (by omega) hd2
  rw [show FU = 2047 + 1 from rfl, L_X0_commonDivisor_9.eq_2, if_neg (by decide), lg0 hd2, if_neg (show ¬ d = 0 by omega), if_neg (by decide), gneL, if_neg (fun e => absurd ((nL_eq0 hd2).mp e) (by omega)), nL_rem ha hd2, show (0 : Int32) + 1 = nI 1 by decide, this, ← gcd_step]
def fin5 (w : Nat → Int64) (y5 : Int32) (x6 x8 g : Int64) : Option (Int64 × (Nat → Int64)) := if y5 = 0 then gneL g (some (x6 / g, w)) else gneL g (some (x8 / g, w))
theorem cdM {y1 y2 y3 y4 y5 : Int32} {w : Nat → Int64} {x6 x8 : Int64} : ∀ (s a b n : Nat), EB s a b → s < n → a < 2 ^ 63 → L_X10_count_243 y1 y2 y3 y4 y5 n w x6 x8 (nL a) (nL b) = fin5 w y5 x6 x8 (nL (Nat.gcd a b)) := by
  intro s
  induction s with
  | zero =>
    intro a b n h hn ha
    obtain ⟨n, rfl⟩ : ∃ a, n = a + 1 := ⟨n - 1, by omega⟩
    rw [EB_0 h, L_X10_count_243.eq_2, lg0 (by decide), if_pos (by decide), Nat.gcd_zero_right]
    rfl
  | succ s ih =>
    intro a b n h hn ha
    obtain ⟨n, rfl⟩ : ∃ a, n = a + 1 := ⟨n - 1, by omega⟩
    have hb : b < 2 ^ 63 := by have := h.1; omega
    rw [L_X10_count_243.eq_2, lg0 hb]
    by_cases c : b = 0
    · rw [if_pos c, if_pos rfl, c, Nat.gcd_zero_right]
      rfl
    · rw [if_neg c, if_neg (by decide), gneL.eq_1 (nL b), if_neg (fun e => c ((nL_eq0 hb).mp e)), nL_rem ha hb, ih b (a % b) n (EB_s h (by omega)) (by omega) hb, ← gcd_step]
theorem cdM0 {y1 y2 y3 y4 y5 : Int32} {w : Nat → Int64} {x6 x8 : Int64} {a d : Nat} (ha : a < 2 ^ 63) (h0 : 0 < d) (hd : d < 8 ^ 19) : L_X10_count_243 y1 y2 y3 y4 y5 FU w x6 x8 (nL a) (nL d) = fin5 w y5 x6 x8 (nL (Nat.gcd a d)) := by
  have hd2 : d < 2 ^ 63 := Nat.lt_trans hd (by decide)
  have h96 := fb96 19
  have hm := Nat.mod_lt a h0
  have := cdM (y1 := y1) (y2 := y2) (y3 := y3) (y4 := y4) (y5 := y5) (w := w) (x6 := x6) (x8 := x8) 94 d (a % d) 2047 ⟨hm, Or.inr (Nat.lt_of_lt_of_le hd h96)⟩ (by omega) hd2
  rw [show FU = 2047 + 1 from rfl, L_X10_count_243.eq_2, lg0 hd2, if_neg (show ¬ d = 0 by omega), if_neg (by decide), gneL.eq_1 (nL d), if_neg (fun e => absurd ((nL_eq0 hd2).mp e) (by omega)), nL_rem ha hd2, this, ← gcd_step]
theorem lowest_both {w : Nat → Int64} {a d : Nat} (y5 : Int32) (ha : a < 2 ^ 63) (h0 : 0 < d) (hd : d < 8 ^ 19) : ∃ r, f_X0_lowest (nL a) (nL d) y5 = some r ∧ fin5 w y5 (nL a) (nL d) (nL (Nat.gcd a d)) = some (r, w) := by
  have hg : 0 < Nat.gcd a d := Nat.gcd_pos_of_pos_right a h0
  have hg2 : Nat.gcd a d < 2 ^ 63 := Nat.lt_of_le_of_lt (Nat.gcd_le_right a h0) (Nat.lt_trans hd (by decide))
  have hne : ¬ nL (Nat.gcd a d) = 0 := fun e => absurd ((nL_eq0 hg2).mp e) (by omega)
  unfold f_X0_lowest fin5
  rw [q_cd ha h0 hd, q_bd1, lg0 hg2, if_neg (show ¬ Nat.gcd a d = 0 by omega), if_pos (by decide)]
  unfold gneL
  by_cases c : y5 = 0
  · exact ⟨_, by rw [if_pos c, if_neg hne], by rw [if_pos c, if_neg hne]⟩
  · exact ⟨_, by rw [if_neg c, if_neg hne], by rw [if_neg c, if_neg hne]⟩
