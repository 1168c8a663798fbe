/-! pure: count, both -/
theorem count145 {n t y4 y5 : Int32} {p r : Nat} {x8 : Int64} {rec : (Nat → Int64) → Int64 → Int32 → Option (Int64 × (Nat → Int64))} (hp : p ≤ 10) (hr : r < 100) : ∀ (k N : Nat) (w : Nat → Int64), k ≤ 19 → k < N → (∀ j, j < k → w j = nL (row p r j)) → (∀ j, k ≤ j → j < 19 → w j = nL (row p (r + 1) j)) → ∃ w2 : Nat → Int64, L_X10_count_145 n (nI p) t y4 y5 rec N w x8 (nI r) (nI k + (-1 : Int32)) = rec w2 x8 (nI (r + 1)) ∧ ∀ j, j < 19 → w2 j = nL (row p (r + 1) j) := by
  intro k
  induction k with
  | zero =>
    intro N w h19 hN h1 h2
    obtain ⟨N, rfl⟩ : ∃ a, N = a + 1 := ⟨N - 1, by omega⟩
    exact ⟨w, by rw [L_X10_count_145.eq_2, if_pos (by decide), nI_1], fun j hj => h2 j (by omega) hj⟩
  | succ k ih =>
    intro N w h19 hN h1 h2
    obtain ⟨N, rfl⟩ : ∃ a, N = a + 1 := ⟨N - 1, by omega⟩
    rw [L_X10_count_145.eq_2, q_prd, if_neg (nI_pos (by omega)), q_gin (by omega) (by decide), q_cl (by omega), h1 k (by omega), q_lit 10, q_subN hp, nL_of (by omega), nL_mul, nL_of (by omega)]
    unfold B_X10_count_190
    by_cases c : k = 0
    · subst c
      rw [if_pos (by decide), q_gin (by omega) (by decide), q_cl (by omega), Int64.add_zero]
      refine ih N _ (by omega) (by omega) (fun j hj => absurd hj (by omega)) (fun j hj hj2 => ?_)
      by_cases c2 : j = 0
      · subst c2
        rw [pk_uLs, row]
      · rw [pk_uLn c2]
        exact h2 j (by omega) hj2
    · obtain ⟨m, rfl⟩ : ∃ m, k = m + 1 := ⟨k - 1, by omega⟩
      rw [if_neg (show ¬ nI (m + 1) ≤ 0 from fun h => by have := (nI_leI (show m + 1 < 2 ^ 31 by omega) (show 0 < 2 ^ 31 by omega)).mp h; omega), q_lit 1, q_subN (by omega), q_gin (by omega) (by decide), q_gin (by omega) (by decide), q_cl (by omega), q_cl (by omega), Nat.add_sub_cancel, h1 m (by omega), nL_mul, nL_add]
      refine ih N _ (by omega) (by omega) (fun j hj => ?_) (fun j hj hj2 => ?_)
      · rw [pk_uLn (by omega)]
        exact h1 j (by omega)
      · by_cases c2 : j = m + 1
        · subst c2
          rw [pk_uLs, row]
        · rw [pk_uLn c2]
          exact h2 j (by omega) hj2
theorem count210 {n y2 t y4 y5 : Int32} {p r : Nat} {x8 : Int64} {w : Nat → Int64} (hw : ∀ j, j < 19 → w j = nL (row p r j)) : ∀ (k j N a : Nat), j + k = 19 → k < N → L_X10_count_210 n y2 t y4 y5 N w (nL a) x8 (nI j) = L_X10_count_243 n y2 t y4 y5 FU w (nL (a + tl (row p r) j k)) x8 (nL (a + tl (row p r) j k)) x8 := by
  intro k
  induction k with
  | zero =>
    intro j N a hj hN
    obtain ⟨N, rfl⟩ : ∃ a, N = a + 1 := ⟨N - 1, by omega⟩
    obtain rfl : j = 19 := by omega
    rw [L_X10_count_210.eq_2, if_pos (by decide), tl, Nat.add_zero]
  | succ k ih =>
    intro j N a hj hN
    obtain ⟨N, rfl⟩ : ∃ a, N = a + 1 := ⟨N - 1, by omega⟩
    rw [L_X10_count_210.eq_2, q_lit 19, q_ifle (by decide) (by omega), if_neg (by omega), q_gin (by omega) (by decide), q_cl (by omega), hw j (by omega), nL_add, nI_1, ih (j + 1) N _ (by omega) (by omega), tl, Nat.add_assoc]
theorem count135 {t y4 y5 : Int32} {p n : Nat} {x8 : Int64} (hp : p ≤ 10) (hn : n < 100) : ∀ (k r N : Nat) (w : Nat → Int64), r + k = n → k < N → (∀ j, j < 19 → w j = nL (row p r j)) → ∃ w2 : Nat → Int64, L_X10_count_135 (nI n) (nI p) t y4 y5 N w x8 (nI r) = L_X10_count_210 (nI n) (nI p) t y4 y5 FU w2 0 x8 t ∧ ∀ j, j < 19 → w2 j = nL (row p n j) := by
  intro k
  induction k with
  | zero =>
    intro r N w hr hN h
    obtain ⟨N, rfl⟩ : ∃ a, N = a + 1 := ⟨N - 1, by omega⟩
    obtain rfl : r = n := by omega
    exact ⟨w, by rw [L_X10_count_135.eq_2, q_ifle (by omega) (by omega), if_pos (by omega)], h⟩
  | succ k ih =>
    intro r N w hr hN h
    obtain ⟨N, rfl⟩ : ∃ a, N = a + 1 := ⟨N - 1, by omega⟩
    obtain ⟨w2, a1, a2⟩ := count145 (n := nI n) (t := t) (y4 := y4) (y5 := y5) (x8 := x8) (rec := L_X10_count_135 (nI n) (nI p) t y4 y5 N) hp (show r < 100 by omega) 19 FU w (by omega) (by have := q_FU; omega) h (fun j h1 h2 => absurd h2 (by omega))
    obtain ⟨w3, b1, b2⟩ := ih (r + 1) N w2 (by omega) (by omega) a2
    refine ⟨w3, ?_, b2⟩
    rw [L_X10_count_135.eq_2, q_ifle (by omega) (by omega), if_neg (by omega), show (18 : Int32) = nI 19 + (-1 : Int32) by decide, a1]
    exact b1
theorem count102 {n t y2 y4 y5 : Int32} {p : Nat} {x8 : Int64} : ∀ (k i N : Nat) (w : Nat → Int64), i + k = 19 → k < N → (∀ j, j < i → w j = nL (row p 0 j)) → ∃ w2 : Nat → Int64, L_X10_count_102 n y2 t y4 y5 N w x8 (nI i) = L_X10_count_135 n y2 t y4 y5 FU w2 x8 0 ∧ ∀ j, j < 19 → w2 j = nL (row p 0 j) := by
  intro k
  induction k with
  | zero =>
    intro i N w hi hN h
    obtain ⟨N, rfl⟩ : ∃ a, N = a + 1 := ⟨N - 1, by omega⟩
    obtain rfl : i = 19 := by omega
    exact ⟨w, by rw [L_X10_count_102.eq_2, if_pos (by decide)], h⟩
  | succ k ih =>
    intro i N w hi hN h
    obtain ⟨N, rfl⟩ : ∃ a, N = a + 1 := ⟨N - 1, by omega⟩
    rw [L_X10_count_102.eq_2, q_lit 19, q_ifle (by decide) (by omega), if_neg (by omega)]
    unfold B_X10_count_125
    have hgo : ∀ v : Int64, v = nL (row p 0 i) → ∀ j, j < i + 1 → vp_updL w i v j = nL (row p 0 j) := fun v hv j hj => by
      by_cases c : j = i
      · rw [c, pk_uLs, hv]
      · rw [pk_uLn c]
        exact h j (by omega)
    rw [q_gin (by omega) (by decide), q_gin (by omega) (by decide), q_cl (by omega), nI_1]
    by_cases c : i = 0
    · rw [if_pos (by rw [c]; decide)]
      exact ih (i + 1) N _ (by omega) (by omega) (hgo 1 (by rw [c]; rfl))
    · rw [if_neg (show ¬ nI i = 0 from fun e => c ((nI_eq (by omega) (show 0 < 2 ^ 31 by decide)).mp e))]
      exact ih (i + 1) N _ (by omega) (by omega) (hgo 0 (by obtain ⟨m, rfl⟩ : ∃ m, i = m + 1 := ⟨i - 1, by omega⟩; rfl))
theorem in01 (x a b : Int32) : f_X10_in x a b = some 0 ∨ f_X10_in x a b = some 1 := by
  unfold f_X10_in
  by_cases c : x < a
  · left; rw [if_pos c]
  · by_cases d : b < x
    · left; rw [if_neg c, if_pos d]
    · right; rw [if_neg c, if_neg d]
theorem c24_err {w : Nat → Int64} {y1 y2 y3 y4 y5 lim : Int32} (h : f_X10_in y1 0 lim = some 0 ∨ f_X10_in y2 0 10 = some 0 ∨ f_X10_in y3 0 17 = some 0 ∨ f_X10_in y5 0 1 = some 0) : B_X10_count_24 y1 y2 y3 y4 y5 w lim 0 y1 = some (-1000000000000000002, w) := by
  unfold B_X10_count_24
  have n01 : ¬ (some (1 : Int32) = some 0) := by decide
  rcases in01 y1 0 lim with a1 | a1
  · rw [a1, q_bd1, if_pos rfl]
  · rw [a1, q_bd1, if_neg (by decide)]
    rcases in01 y2 0 10 with a2 | a2
    · rw [a2, q_bd1, if_pos rfl]
    · rw [a2, q_bd1, if_neg (by decide)]
      rcases in01 y3 0 17 with a3 | a3
      · rw [a3, q_bd1, if_pos rfl]
      · rw [a3, q_bd1, if_neg (by decide)]
        rcases in01 y5 0 1 with a4 | a4
        · rw [a4, q_bd1, if_pos rfl]
        · rw [a1, a2, a3, a4] at h
          rcases h with h | h | h | h <;> exact absurd h n01
theorem core_count (w : Nat → Int64) (y1 y2 y3 y4 y5 : Int32) : ∃ (r : Int64) (w2 : Nat → Int64), f_X9_count y1 y2 y3 y4 y5 = some r ∧ f_X10_count w y1 y2 y3 y4 y5 = some (r, w2) := by
  unfold f_X9_count f_X10_count
  rcases q_upTo y4 1 (by omega) with ⟨a, b⟩ | ⟨j, hj, rfl, a, b⟩
  · exact ⟨_, w, by rw [show f_X9_isUpTo y4 1 = _ from a, q_bd1, if_pos rfl], by rw [show f_X10_in y4 0 1 = _ from b, q_bd1, if_pos rfl]⟩
  · rw [show f_X9_isUpTo (nI j) 1 = _ from a, show f_X10_in (nI j) 0 1 = _ from b, q_bd1, q_bd1, if_neg (show ¬ (1 : Int32) = 0 by decide), if_neg (show ¬ (1 : Int32) = 0 by decide)]
    have herr : ∀ lim : Int32, (f_X10_in y1 0 lim = some 0 ∨ f_X10_in y2 0 10 = some 0 ∨ f_X10_in y3 0 17 = some 0 ∨ f_X10_in y5 0 1 = some 0) → B_X10_count_24 y1 y2 y3 (nI j) y5 w lim 0 y1 = some (-1000000000000000002, w) := fun lim h => c24_err h
    have hif : (f_X10_in y2 0 10 = some 0 ∨ f_X10_in y3 0 17 = some 0 ∨ f_X10_in y5 0 1 = some 0) → (if nI j = 0 then B_X10_count_24 y1 y2 y3 (nI j) y5 w 17 0 y1 else B_X10_count_24 y1 y2 y3 (nI j) y5 w 8 0 y1) = some (-1000000000000000002, w) := fun h => by
      rw [herr 17 (Or.inr h), herr 8 (Or.inr h), ite_self]
    rcases q_upTo y5 1 (by omega) with ⟨a5, b5⟩ | ⟨j5, hj5, e5, a5, b5⟩
    · exact ⟨_, w, by rw [show f_X9_isUpTo y5 1 = _ from a5, q_bd1, if_pos rfl], hif (Or.inr (Or.inr b5))⟩
    rcases q_upTo y2 10 (by omega) with ⟨a2, b2⟩ | ⟨p, hp, e2, a2, b2⟩
    · exact ⟨_, w, by rw [show f_X9_isUpTo y5 1 = _ from a5, q_bd1, if_neg (show ¬ (1 : Int32) = 0 by decide), show f_X9_isUpTo y2 10 = _ from a2, q_bd1, if_pos rfl], hif (Or.inl b2)⟩
    rcases q_upTo y3 17 (by omega) with ⟨a3, b3⟩ | ⟨t, ht, e3, a3, b3⟩
    · exact ⟨_, w, by rw [show f_X9_isUpTo y5 1 = _ from a5, q_bd1, if_neg (show ¬ (1 : Int32) = 0 by decide), show f_X9_isUpTo y2 10 = _ from a2, q_bd1, if_neg (show ¬ (1 : Int32) = 0 by decide), show f_X9_isUpTo y3 17 = _ from a3, q_bd1, if_pos rfl], hif (Or.inr (Or.inl b3))⟩
    rw [show f_X9_isUpTo y5 1 = _ from a5, q_bd1, if_neg (show ¬ (1 : Int32) = 0 by decide), show f_X9_isUpTo y2 10 = _ from a2, q_bd1, if_neg (show ¬ (1 : Int32) = 0 by decide), show f_X9_isUpTo y3 17 = _ from a3, q_bd1, if_neg (show ¬ (1 : Int32) = 0 by decide)]
    obtain rfl | rfl : j = 0 ∨ j = 1 := by omega
    · rw [if_pos (by decide), if_pos (by decide)]
      rcases q_upTo y1 17 (by omega) with ⟨a1, b1⟩ | ⟨n, hn, e1, a1, b1⟩
      · refine ⟨_, w, ?_, herr 17 (Or.inl b1)⟩
        unfold B_X9_count_53
        rw [show f_X9_isUpTo y1 17 = _ from a1, q_bd1, if_pos rfl]
      · unfold B_X9_count_53 B_X10_count_24 B_X10_count_89
        rw [show f_X9_isUpTo y1 17 = _ from a1, q_bd1, if_neg (show ¬ (1 : Int32) = 0 by decide), if_pos (by decide), show f_X10_in y1 0 17 = _ from b1, q_bd1, if_neg (show ¬ (1 : Int32) = 0 by decide), show f_X10_in y2 0 10 = _ from b2, q_bd1, if_neg (show ¬ (1 : Int32) = 0 by decide), show f_X10_in y3 0 17 = _ from b3, q_bd1, if_neg (show ¬ (1 : Int32) = 0 by decide), show f_X10_in y5 0 1 = _ from b5, q_bd1, if_neg (show ¬ (1 : Int32) = 0 by decide), e1, e2, e3, nL_of (by omega), q_lit 2, pk_mul, q_mpower (by omega), q_bd1, if_pos (by decide), show (10 : Int64) = nL 10 from rfl, q_mpower (by omega), q_bd1, if_pos (by decide), q_atLeast (by omega) hp (by omega), q_bd1, q_power (by omega), q_bd1]
        obtain ⟨w1, c1, c2⟩ := count102 (n := nI n) (t := nI t) (y2 := nI p) (y4 := nI 0) (y5 := y5) (p := p) (x8 := nL (10 ^ n)) 19 0 FU w rfl (by have := q_FU; omega) (fun j hj => absurd hj (by omega))
        obtain ⟨w2, d1, d2⟩ := count135 (t := nI t) (y4 := nI 0) (y5 := y5) (n := n) (x8 := nL (10 ^ n)) hp (by omega) n 0 FU w1 (by omega) (by have := q_FU; omega) c2
        have g1 := count210 (n := nI n) (y2 := nI p) (t := nI t) (y4 := nI 0) (y5 := y5) (x8 := nL (10 ^ n)) d2 (19 - t) t FU 0 (by omega) (by have := q_FU; omega)
        rw [Nat.zero_add, tl_row (by omega) (by omega)] at g1
        have hs := sm_row_le hp n 18
        have hs2 := sm_tl (f := row p n) (19 - t) t
        rw [show t + (19 - t) = 18 + 1 by omega, tl_row (by omega) (by omega)] at hs2
        have hpw : 10 ^ n ≤ 10 ^ 17 := Nat.pow_le_pow_right (by decide) hn
        have hp0 : 0 < 10 ^ n := Nat.pow_pos (by decide)
        have h17 : 10 ^ 17 < 8 ^ 19 := by decide
        have h63 : 8 ^ 19 < 2 ^ 63 := by decide
        have hA : tl (tm n p) t (n + 1 - t) < 2 ^ 63 := by omega
        obtain ⟨r, r1, r2⟩ := lowest_both (w := w2) y5 hA hp0 (by omega)
        refine ⟨r, w2, by rw [r1, q_bd1], ?_⟩
        refine (show L_X10_count_102 (nI n) (nI p) (nI t) (nI 0) y5 FU w (nL (10 ^ n)) 0 = _ from c1).trans ?_
        refine (show L_X10_count_135 (nI n) (nI p) (nI t) (nI 0) y5 FU w1 (nL (10 ^ n)) 0 = _ from d1).trans ?_
        refine (show L_X10_count_210 (nI n) (nI p) (nI t) (nI 0) y5 FU w2 0 (nL (10 ^ n)) (nI t) = _ from g1).trans ?_
        rw [cdM0 hA hp0 (by omega)]
        exact r2
    · rw [if_neg (by decide), if_neg (by decide)]
      rcases q_upTo y1 8 (by omega) with ⟨a1, b1⟩ | ⟨n, hn, e1, a1, b1⟩
      · refine ⟨_, w, ?_, herr 8 (Or.inl b1)⟩
        unfold B_X9_count_53
        rw [show f_X9_isUpTo y1 8 = _ from a1, q_bd1, if_pos rfl]
      · unfold B_X9_count_53 B_X10_count_24 B_X10_count_89
        have hpw : 10 ^ (2 * n) ≤ 10 ^ 17 := Nat.pow_le_pow_right (by decide) (by omega)
        have hpp : p ^ (2 * n) ≤ 10 ^ (2 * n) := Nat.pow_le_pow_left hp _
        have hp0 : 0 < 10 ^ (2 * n) := Nat.pow_pos (by decide)
        have h17 : 10 ^ 17 < 8 ^ 19 := by decide
        have h63 : 8 ^ 19 < 2 ^ 63 := by decide
        obtain ⟨r, r1, r2⟩ := lowest_both (w := w) (a := p ^ (2 * n)) y5 (by omega) hp0 (by omega)
        rw [show f_X9_isUpTo y1 8 = _ from a1, q_bd1, if_neg (show ¬ (1 : Int32) = 0 by decide), if_neg (by decide), show f_X10_in y1 0 8 = _ from b1, q_bd1, if_neg (show ¬ (1 : Int32) = 0 by decide), show f_X10_in y2 0 10 = _ from b2, q_bd1, if_neg (show ¬ (1 : Int32) = 0 by decide), show f_X10_in y3 0 17 = _ from b3, q_bd1, if_neg (show ¬ (1 : Int32) = 0 by decide), show f_X10_in y5 0 1 = _ from b5, q_bd1, if_neg (show ¬ (1 : Int32) = 0 by decide), e1, e2, nL_of (by omega), q_lit 2, pk_mul, q_mpower (by omega), q_bd1, if_neg (by decide), show (10 : Int64) = nL 10 from rfl, q_mpower (by omega), q_bd1, if_neg (by decide), q_power (by omega), q_bd1, q_power (by omega), q_bd1]
        exact ⟨r, w, by rw [r1, q_bd1], by rw [cdM0 (by omega) hp0 (by omega)]; exact r2⟩
