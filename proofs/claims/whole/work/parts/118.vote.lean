/-! pure: vote -/
theorem q_prd (k : Nat) : nI (k + 1) + (-1 : Int32) = nI k := by
  rw [← nI_add k 1, Int32.add_assoc, show nI 1 + (-1 : Int32) = 0 by decide, Int32.add_zero]
def ad (a b : Nat) : Nat := (a - b) + (b - a)
theorem q_jabs {a b : Nat} (ha : a < 10) (hb : b < 10) : jabs (nI a - nI b) = nI (ad a b) := (by decide +kernel : ∀ a b : Fin 10, jabs (nI a.val - nI b.val) = nI (ad a.val b.val)) ⟨a, ha⟩ ⟨b, hb⟩
theorem ad_le {a b : Nat} (ha : a < 10) (hb : b < 10) : ad a b ≤ 9 := by unfold ad; omega
theorem dig_l {p0 p2 : Int32} {i : Nat} (hi : i < 100) : ∀ (k n m : Nat), k < n → m < 2 ^ 31 → k < 100 → L_X10_digit_7 p0 (nI i) p2 n (nI m) (nI (i + k)) = some (nI (m / 10 ^ k % 10)) := by
  intro k
  induction k with
  | zero =>
    intro n m hn hm hk
    obtain ⟨n, rfl⟩ : ∃ a, n = a + 1 := ⟨n - 1, by omega⟩
    rw [L_X10_digit_7.eq_2, q_ifle (by omega) (by omega), if_pos (by omega), q_lit 10, q_jrem hm (by decide) (by decide), Nat.pow_zero, Nat.div_one]
  | succ k ih =>
    intro n m hn hm hk
    obtain ⟨n, rfl⟩ : ∃ a, n = a + 1 := ⟨n - 1, by omega⟩
    rw [L_X10_digit_7.eq_2, q_ifle (by omega) (by omega), if_neg (by omega), q_lit 10, q_div hm (by decide) (by decide), ← Nat.add_assoc, q_prd, ih n (m / 10) (by omega) (by omega) (by omega), Nat.div_div_eq_div_mul, Nat.pow_succ', ]
theorem q_digit {N i n : Nat} (hN : N < 2 ^ 31) (hi : i < n) (hn : n < 100) : f_X10_digit (nI N) (nI i) (nI n) = some (nI (N / 10 ^ (n - 1 - i) % 10)) := by
  unfold f_X10_digit
  have e : nI n - 1 = nI (i + (n - 1 - i)) := by
    rw [q_lit 1, q_subN (by omega)]
    congr 1
    omega
  rw [e]
  exact dig_l (by omega) _ FU N (by have := q_FU; omega) hN (by omega)
def ofs (N T v i : Nat) : Nat := if T.testBit i then ad (N / 10 ^ (7 - i) % 10) v else 0
theorem ofs_le {N T v i : Nat} (hv : v < 10) : ofs N T v i ≤ 9 := by
  unfold ofs
  split
  · exact ad_le (by omega) hv
  · omega
theorem sm_ofs {N T v k : Nat} (hv : v < 10) : sm (ofs N T v) k ≤ k * 9 := sm_le (fun j _ => ofs_le hv)
theorem offX_l {T N v : Nat} {p1 : Int32} (hT : T < 256) (hv : v < 10) (hN : N < 2 ^ 31) : ∀ (k n a : Nat), k ≤ 8 → k < n → L_X6_offFrom_9 (nI T) p1 (nI v) n (nI a) (nI (N / 10 ^ (8 - k))) (nI k + (-1 : Int32)) = some (nI (a + sm (ofs N T v) k)) := by
  intro k
  induction k with
  | zero =>
    intro n a h8 hn
    obtain ⟨n, rfl⟩ : ∃ a, n = a + 1 := ⟨n - 1, by omega⟩
    rw [L_X6_offFrom_9.eq_2, if_pos (by decide)]
    rfl
  | succ k ih =>
    intro n a h8 hn
    obtain ⟨n, rfl⟩ : ∃ a, n = a + 1 := ⟨n - 1, by omega⟩
    have hd : N / 10 ^ (8 - (k + 1)) < 2 ^ 31 := Nat.lt_of_le_of_lt (Nat.div_le_self _ _) hN
    have e : N / 10 ^ (8 - (k + 1)) / 10 = N / 10 ^ (8 - k) := by
      rw [Nat.div_div_eq_div_mul, ← Nat.pow_succ, show (8 - (k + 1)).succ = 8 - k by omega]
    have e7 : 8 - (k + 1) = 7 - k := by omega
    rw [L_X6_offFrom_9.eq_2, q_prd, if_neg (nI_pos (by omega)), q_has hT (by omega), q_bd1, q_lit 10, q_div hd (by decide) (by decide), q_jrem hd (by decide) (by decide), e, q_jabs (by omega) hv, e7]
    by_cases ht : T.testBit k = true
    · rw [ht, if_neg q_t0, q_add, ih n _ (by omega) (by omega)]
      congr 2
      rw [sm, ofs, ht, if_pos rfl]
      omega
    · have ht' : T.testBit k = false := by simpa using ht
      rw [ht', if_pos q_f0, ih n _ (by omega) (by omega)]
      congr 2
      rw [sm, show ofs N T v k = 0 by unfold ofs; rw [ht']; rfl]
      omega
theorem q_offFrom {T N v : Nat} (hT : T < 256) (hv : v < 10) (hN : N < 2 ^ 31) : f_X6_offFrom (nI T) (nI N) (nI v) = some (nI (sm (ofs N T v) 8)) := by
  unfold f_X6_offFrom
  have := offX_l (p1 := nI N) hT hv hN 8 FU 0 (by omega) (by have := q_FU; omega)
  rw [show N / 10 ^ (8 - 8) = N by rw [Nat.sub_self, Nat.pow_zero, Nat.div_one], show nI 8 + (-1 : Int32) = 7 by decide, Nat.zero_add] at this
  exact this
theorem vote44 {bk : Nat → Int32} {T N v : Nat} {p2 x3 x4 : Int32} {rec : Int32 → Int32 → Int32 → Option Int32} (hT : T < 256) (hb : bk 40 = nI T) (hv : v < 10) (hN : N < 2 ^ 31) : ∀ (k i n : Nat), i + k = 8 → k < n → L_X10_vote_44 bk (nI N) p2 rec n x3 x4 (nI v) (nI (sm (ofs N T v) i)) (nI i) = if x3 ≤ nI (sm (ofs N T v) 8) then rec x3 x4 (nI (v + 1)) else rec (nI (sm (ofs N T v) 8)) (nI v) (nI (v + 1)) := by
  intro k
  induction k with
  | zero =>
    intro i n hi hn
    obtain ⟨n, rfl⟩ : ∃ a, n = a + 1 := ⟨n - 1, by omega⟩
    obtain rfl : i = 8 := by omega
    rw [L_X10_vote_44.eq_2, if_pos (by decide)]
    unfold B_X10_vote_118
    by_cases c : x3 ≤ nI (sm (ofs N T v) 8)
    · rw [if_pos c, if_pos c, if_pos c, nI_1]
    · rw [if_neg c, if_neg c, if_neg c, nI_1]
  | succ k ih =>
    intro i n hi hn
    obtain ⟨n, rfl⟩ : ∃ a, n = a + 1 := ⟨n - 1, by omega⟩
    rw [L_X10_vote_44.eq_2, if_neg (q_8n (by omega)), q_lit 8, q_digit hN (by omega) (by omega), q_bd1, q_isThere hT (by omega) hb, q_bd1, nI_1, ← ih (i + 1) n (by omega) (by omega)]
    have e : 8 - 1 - i = 7 - i := by omega
    have hd : N / 10 ^ (7 - i) % 10 < 10 := by omega
    by_cases ht : T.testBit i = true
    · rw [ht, if_neg q_t0, e, q_ifle (by omega) (by omega), sm, ofs, ht, if_pos rfl, ad]
      by_cases c : N / 10 ^ (7 - i) % 10 ≤ v
      · rw [if_pos c, q_subN c, q_add, Nat.sub_eq_zero_of_le c, Nat.zero_add]
      · rw [if_neg c, q_subN (by omega), q_add, show v - N / 10 ^ (7 - i) % 10 = 0 by omega]
        simp only [Nat.add_zero]
    · have ht' : T.testBit i = false := by simpa using ht
      rw [ht', if_pos q_f0, Int32.add_zero, sm, show ofs N T v i = 0 by unfold ofs; rw [ht']; rfl]
      simp only [Nat.add_zero]
theorem vote_l {bk : Nat → Int32} {T N : Nat} {p2 : Int32} (hT : T < 256) (hb : bk 40 = nI T) (hN : N < 2 ^ 31) : ∀ (k v n m b o : Nat), v + k = 10 → k < n → k < m → o ≤ 72 → ∃ r, L_X9_vote_39 (nI T) (nI N) p2 n (nI b) (nI o) (nI v) = some r ∧ L_X10_vote_31 bk (nI N) p2 m (nI o) (nI b) (nI v) = some r := by
  intro k
  induction k with
  | zero =>
    intro v n m b o hv hn hm ho
    obtain ⟨n, rfl⟩ : ∃ a, n = a + 1 := ⟨n - 1, by omega⟩
    obtain ⟨m, rfl⟩ : ∃ a, m = a + 1 := ⟨m - 1, by omega⟩
    obtain rfl : v = 10 := by omega
    rw [L_X9_vote_39.eq_2, L_X10_vote_31.eq_2, if_pos (show (9 : Int32) < nI 10 by decide), if_pos (show (10 : Int32) ≤ nI 10 by decide)]
    by_cases c : p2 = 0
    · rw [if_pos c]
      exact ⟨_, rfl, rfl⟩
    · rw [if_neg c]
      exact ⟨_, rfl, rfl⟩
  | succ k ih =>
    intro v n m b o hv hn hm ho
    obtain ⟨n, rfl⟩ : ∃ a, n = a + 1 := ⟨n - 1, by omega⟩
    obtain ⟨m, rfl⟩ : ∃ a, m = a + 1 := ⟨m - 1, by omega⟩
    have hs := sm_ofs (N := N) (T := T) (v := v) (k := 8) (by omega)
    have h4 := vote44 (x3 := nI o) (x4 := nI b) (p2 := p2) (rec := L_X10_vote_31 bk (nI N) p2 m) hT hb (show v < 10 by omega) hN 8 0 FU rfl (by have := q_FU; omega)
    rw [L_X9_vote_39.eq_2, L_X10_vote_31.eq_2, q_lit 9, q_ifl (by decide) (by omega), if_neg (by omega), q_lit 10, q_ifle (by decide) (by omega), if_neg (by omega), q_offFrom hT (by omega) hN, q_bd1, nI_1, show L_X10_vote_44 bk (nI N) p2 (L_X10_vote_31 bk (nI N) p2 m) FU (nI o) (nI b) (nI v) 0 0 = _ from h4, q_ifle (by omega) (by omega), q_ifle (by omega) (by omega)]
    by_cases c : o ≤ sm (ofs N T v) 8
    · rw [if_pos c, if_pos c]
      exact ih (v + 1) n m b o (by omega) (by omega) (by omega) ho
    · rw [if_neg c, if_neg c]
      exact ih (v + 1) n m v _ (by omega) (by omega) (by omega) (by omega)
theorem core_vote {wat fla fly lea clo con inn : Nat → Int32} {th mu ta ho : Int32} {bk flk lek : Nat → Int32} {mus : Int32} (h : SH wat fla fly lea clo con inn th mu ta ho bk flk lek mus) (y1 y2 : Int32) : ∃ r, f_X9_vote th y1 y2 = some r ∧ f_X10_vote bk y1 y2 = some r := by
  obtain ⟨T, U, hr, W, F, V, K, C, Q, P, ⟨hT, hU, hhr⟩, ⟨e1, e2, e3⟩, ⟨m1, m2, m3, m4⟩, hok, hx, hm, hn⟩ := h
  unfold f_X9_vote f_X10_vote
  rcases q_upTo y1 99999999 (by omega) with ⟨a, b⟩ | ⟨N, hN, rfl, a, b⟩
  · rw [q_lit 99999999, a, b]
    exact ⟨_, rfl, rfl⟩
  · rw [q_lit 99999999, a, b, q_bd1, q_bd1, if_neg (show ¬ (1 : Int32) = 0 by decide), if_neg (show ¬ (1 : Int32) = 0 by decide)]
    rcases q_upTo y2 1 (by omega) with ⟨a, b⟩ | ⟨j, hj, rfl, a, b⟩
    · rw [show f_X9_isUpTo y2 1 = _ from a, show f_X10_in y2 0 1 = _ from b]
      exact ⟨_, rfl, rfl⟩
    · have hs := sm_ofs (N := N) (T := T) (v := 0) (k := 8) (by omega)
      have h4 := vote44 (x3 := nI 1000000) (x4 := nI 0) (p2 := nI j) (rec := L_X10_vote_31 bk (nI N) (nI j) 2047) hT m1 (show 0 < 10 by omega) (show N < 2 ^ 31 by omega) 8 0 FU rfl (by have := q_FU; omega)
      obtain ⟨r, r1, r2⟩ := vote_l (p2 := nI j) hT m1 (show N < 2 ^ 31 by omega) 9 1 FU 2047 0 _ rfl (by have := q_FU; omega) (by omega) (show sm (ofs N T 0) 8 ≤ 72 by omega)
      refine ⟨r, ?_, ?_⟩
      · rw [show f_X9_isUpTo (nI j) 1 = _ from a, q_bd1, if_neg (show ¬ (1 : Int32) = 0 by decide), e1, show f_X6_offFrom (nI T) (nI N) 0 = _ from q_offFrom hT (show 0 < 10 by omega) (by omega), q_bd1]
        exact r1
      · rw [show f_X10_in (nI j) 0 1 = _ from b, q_bd1, if_neg (show ¬ (1 : Int32) = 0 by decide), show FU = 2047 + 1 from rfl, L_X10_vote_31.eq_2, if_neg (by decide), show L_X10_vote_44 bk (nI N) (nI j) (L_X10_vote_31 bk (nI N) (nI j) 2047) FU 1000000 0 0 0 0 = _ from h4, q_ifle (by omega) (by omega), if_neg (by omega)]
        exact r2
