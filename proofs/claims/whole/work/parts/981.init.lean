/-! how both begin -/
theorem init_x2 : ∀ (k i n : Nat) (od : Nat → Int32), i + k = 36 → k < n → (∀ j, j < i → od j = nI (j % 6)) → ∃ od2 : Nat → Int32, L_X2_init_30 n od (nI i) = some od2 ∧ ∀ j, j < 36 → od2 j = nI (j % 6) := by
  intro k
  induction k with
  | zero =>
    intro i n od hi hn h
    obtain ⟨n, rfl⟩ : ∃ a, n = a + 1 := ⟨n - 1, by omega⟩
    obtain rfl : i = 36 := by omega
    exact ⟨od, by rw [L_X2_init_30.eq_2, if_pos (show (36 : Int32) ≤ nI 36 by decide)], h⟩
  | succ k ih =>
    intro i n od hi hn h
    obtain ⟨n, rfl⟩ : ∃ a, n = a + 1 := ⟨n - 1, by omega⟩
    rw [L_X2_init_30.eq_2, q_lit 36, q_ifle (by decide) (by omega), if_neg (by omega), q_gin (by omega) (by decide), q_cl (by omega), q_lit 6, q_jrem (by omega) (by decide) (by decide), nI_1]
    refine ih (i + 1) n _ (by omega) (by omega) (fun j hj => ?_)
    by_cases e : j = i
    · rw [e, upd_g]
    · rw [upd_n e]
      exact h j (by omega)
theorem init_r : ∀ (k i n : Nat) (bk rk : Nat → Int32), i + k = 6 → k < n → (∀ j, j < i → rk j = 12345) → ∃ rk2 : Nat → Int32, L_X10_init_135 n bk rk (nI i) = some (bk, rk2) ∧ ∀ j, j < 6 → rk2 j = 12345 := by
  intro k
  induction k with
  | zero =>
    intro i n bk rk hi hn h
    obtain ⟨n, rfl⟩ : ∃ a, n = a + 1 := ⟨n - 1, by omega⟩
    obtain rfl : i = 6 := by omega
    exact ⟨rk, by rw [L_X10_init_135.eq_2, if_pos (show (6 : Int32) ≤ nI 6 by decide)], h⟩
  | succ k ih =>
    intro i n bk rk hi hn h
    obtain ⟨n, rfl⟩ : ∃ a, n = a + 1 := ⟨n - 1, by omega⟩
    rw [L_X10_init_135.eq_2, q_lit 6, q_ifle (by decide) (by omega), if_neg (by omega), q_gin (by omega) (by decide), q_cl (by omega), nI_1]
    refine ih (i + 1) n bk _ (by omega) (by omega) (fun j hj => ?_)
    by_cases e : j = i
    · rw [e, upd_g]
    · rw [upd_n e]
      exact h j (by omega)
theorem init_b : ∀ (k i n : Nat) (bk rk : Nat → Int32), i + k = 8 → k < n → (∀ j, j < i → bk (32 + j) = -6) → (∀ j, 40 ≤ j → bk j = 0) → ∃ bk2 : Nat → Int32, L_X10_init_110 n bk rk (nI i) = L_X10_init_135 FU bk2 rk 0 ∧ (∀ j, j < 8 → bk2 (32 + j) = -6) ∧ (∀ j, 40 ≤ j → bk2 j = 0) := by
  intro k
  induction k with
  | zero =>
    intro i n bk rk hi hn h h0
    obtain ⟨n, rfl⟩ : ∃ a, n = a + 1 := ⟨n - 1, by omega⟩
    obtain rfl : i = 8 := by omega
    exact ⟨bk, by rw [L_X10_init_110.eq_2, if_pos q_88], h, h0⟩
  | succ k ih =>
    intro i n bk rk hi hn h h0
    obtain ⟨n, rfl⟩ : ∃ a, n = a + 1 := ⟨n - 1, by omega⟩
    rw [L_X10_init_110.eq_2, if_neg (q_8n (by omega)), q_lit 32, q_add, q_gin (by omega) (by decide), q_cl (by omega), nI_1]
    refine ih (i + 1) n _ rk (by omega) (by omega) (fun j hj => ?_) (fun j hj => ?_)
    · by_cases e : j = i
      · rw [e, upd_g]
      · rw [upd_n (by omega)]
        exact h j (by omega)
    · rw [upd_n (by omega)]
      exact h0 j hj
theorem init_0 : INIT REL0 := by
  have hf := q_FU
  obtain ⟨od, a1, a2⟩ := init_x2 36 0 FU (fun _ => 0) rfl (by omega) (fun j hj => absurd hj (by omega))
  obtain ⟨bk, b1, b2, b3⟩ := init_b 8 0 FU (fun _ => 0) (fun _ => 0) rfl (by omega) (fun j hj => absurd hj (by omega)) (fun _ _ => rfl)
  obtain ⟨rk, c1, c2⟩ := init_r 6 0 FU bk (fun _ => 0) rfl (by omega) (fun j hj => absurd hj (by omega))
  have e2 : f_X2_init = some od := a1
  have e3 : f_X3_init = some od := by unfold f_X3_init; rw [e2, q_bd1]
  have hz : ∀ g, ¬ Nat.testBit 0 g = true := fun g h => by rw [Nat.zero_testBit] at h; exact absurd h (by decide)
  refine ⟨od, od, od, bk, rk, ?_, b1.trans c1, ⟨?_, ?_, ?_⟩, ?_, Or.inl ⟨rfl, rfl⟩, Or.inl ⟨rfl, rfl⟩⟩
  · unfold f_X9_init
    rw [e3, q_bd1, q_bd1, q_bd1]
  · exact ⟨0, 0, 0, fun _ => 0, fun _ => 0, fun _ => 0, fun _ => 0, fun _ => 0, fun _ => 0, fun _ => 0, ⟨by decide, by decide, by decide⟩, ⟨rfl, rfl, rfl⟩, ⟨b3 40 (by omega), rfl, b3 42 (by omega), b3 41 (by omega)⟩, fun g _ h => absurd h (hz g), fun g _ h => absurd h (hz g), fun g _ h => absurd h (hz g), fun g hg _ => b2 g hg⟩
  · intro k hk
    refine ⟨fun i => i, fun i hi => hi, fun i j _ _ e => e, fun i hi => ?_, ?_⟩
    · rw [a2 _ (by omega)]
      show nI ((6 * k + i) % 6) = nI i
      congr 1
      omega
    · rw [c2 k hk]
      rfl
  · exact ⟨0, by decide, rfl, rfl, fun i hi => absurd hi (by omega)⟩
  · exact ⟨0, by decide, rfl, rfl, fun i hi => absurd hi (by omega)⟩
