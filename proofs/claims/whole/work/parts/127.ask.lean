/-! pure: ask -/
def askF (rec : (Nat → Int32) → Int32 → Int32 → Int32 → Option (Int32 × (Nat → Int32))) (cou : Nat → Int32) (x2 x3 x4 x5 : Int32) : Option (Int32 × (Nat → Int32)) := if x5 ≤ 0 then rec cou x2 x3 (x4 + 1) else if x3 ≤ x5 then rec cou x2 x3 (x4 + 1) else rec cou x4 x5 (x4 + 1)
theorem ask_run {H F : Nat → Nat} {n x : Nat} {hs fs ms codes : Nat → Int32} {y x2 x3 : Int32} {rec : (Nat → Int32) → Int32 → Int32 → Int32 → Option (Int32 × (Nat → Int32))} (hS : SG H F n hs fs ms) (hC : CI H F n codes 1000) (h189 : cnt H F n 1000 ≤ 189) (hx : x ≤ 60) : ∀ (j c N M : Nat) (tal cou : Nat → Int32) (tc : Nat → Nat) (b : Nat), c + j = 1000 → j < N → j < M → 100 ≤ c → (∀ i, i < 100 → tal i = nI (tc i) ∧ cou i = nI (tc i) ∧ tc i ≤ c) → b ≤ c → ∃ (b2 : Nat) (tal2 cou2 : Nat → Int32), L_X5_leftAtMost_25 codes (nI (cnt H F n 1000)) (nI x) N tal (nI b) (nI (cnt H F n c)) = some (nI b2, tal2) ∧ L_X10_ask_59 (nI n) ms y rec M cou x2 x3 (nI x) (nI b) (nI c) = askF rec cou2 x2 x3 (nI x) (nI b2) ∧ b2 ≤ 1000 ∧ b ≤ b2 ∧ (cnt H F n c < cnt H F n 1000 → 1 ≤ b2) ∧ (cnt H F n c = cnt H F n 1000 → b2 = b) := by
  intro j
  induction j with
  | zero =>
    intro c N M tal cou tc b hj hN hM hc ht hb
    obtain ⟨N, rfl⟩ : ∃ a, N = a + 1 := ⟨N - 1, by omega⟩
    obtain ⟨M, rfl⟩ : ∃ a, M = a + 1 := ⟨M - 1, by omega⟩
    obtain rfl : c = 1000 := by omega
    refine ⟨b, tal, cou, ?_, ?_, by omega, by omega, fun h => absurd h (by omega), fun _ => rfl⟩
    · rw [L_X5_leftAtMost_25.eq_2, q_ifle (by omega) (by omega), if_pos (Nat.le_refl _)]
    · rw [L_X10_ask_59.eq_2, if_pos (show (1000 : Int32) ≤ nI 1000 by decide)]
      rfl
  | succ j ih =>
    intro c N M tal cou tc b hj hN hM hc ht hb
    obtain ⟨M, rfl⟩ : ∃ a, M = a + 1 := ⟨M - 1, by omega⟩
    by_cases o : okc H F n c = true
    · obtain ⟨N, rfl⟩ : ∃ a, N = a + 1 := ⟨N - 1, by omega⟩
      have hl := cnt_lt (show c < 1000 by omega) o
      have hv := fl9_le (k := c / 100) (h := c % 100) (x := x) (by omega)
      have ec : cnt H F n (c + 1) = cnt H F n c + 1 := by rw [cnt_s, o]; rfl
      revert hv
      generalize hv0 : fl9 (c / 100) (c % 100) x = v
      intro hv
      obtain ⟨t1, t2, t3⟩ := ht v (by omega)
      have ht2 : ∀ i, i < 100 → upd tal v (nI (tc v + 1)) i = nI (st tc v (tc v + 1) i) ∧ upd cou v (nI (tc v + 1)) i = nI (st tc v (tc v + 1) i) ∧ st tc v (tc v + 1) i ≤ c + 1 := fun i hi => by
        by_cases e : i = v
        · rw [e, upd_g, upd_g, st_g]
          exact ⟨rfl, rfl, by omega⟩
        · rw [upd_n e, upd_n e, st_n e]
          obtain ⟨u1, u2, u3⟩ := ht i hi
          exact ⟨u1, u2, by omega⟩
      obtain ⟨b2, tal2, cou2, a1, a2, a3, a4, a5, a6⟩ := ih (c + 1) N M _ _ _ (max b (tc v + 1)) (by omega) (by omega) (by omega) (by omega) ht2 (by omega)
      refine ⟨b2, tal2, cou2, ?_, ?_, a3, by omega, fun _ => by omega, fun h => absurd h (by omega)⟩
      · rw [L_X5_leftAtMost_25.eq_2, q_ifle (by omega) (by omega), if_neg (by omega), q_lit 189, q_ifle (by omega) (by omega), if_neg (by omega), q_gin (by omega) (by decide), q_gin (by omega) (by decide), q_cl (by omega), hC c (by omega) o, q_lit 100, q_div (by omega) (by decide) (by decide), q_jrem (by omega) (by decide) (by decide), q_fly (by omega) (by omega) hx, q_bd1, hv0, if_neg (nI_pos (by omega)), q_lit 99, q_ifl (by omega) (by omega), if_neg (by omega), q_gin (by omega) (by decide), q_gin (by omega) (by decide), q_gin (by omega) (by decide), q_cl (by omega), t1, nI_1, upd_g, q_jmax (by omega) (by omega), nI_1, ← ec]
        exact a1
      · rw [L_X10_ask_59.eq_2, q_lit 1000, q_ifle (by decide) (by omega), if_neg (by omega), q_mfit hS (by omega) hc, q_bd1, o, if_neg q_t0, q_mfly (by omega) hx, q_bd1, hv0, q_gin (by omega) (by decide), q_gin (by omega) (by decide), q_gin (by omega) (by decide), q_gin (by omega) (by decide), q_cl (by omega), t2, nI_1, upd_g, q_ifle (by omega) (by omega), nI_1]
        by_cases e : tc v + 1 ≤ b
        · rw [if_pos e]
          rw [show max b (tc v + 1) = b by omega] at a2
          exact a2
        · rw [if_neg e]
          rw [show max b (tc v + 1) = tc v + 1 by omega] at a2
          exact a2
    · have o' : okc H F n c = false := by simpa using o
      have ec : cnt H F n (c + 1) = cnt H F n c := by rw [cnt_s, o']; rfl
      obtain ⟨b2, tal2, cou2, a1, a2, a3, a4, a5, a6⟩ := ih (c + 1) N M tal cou tc b (by omega) (by omega) (by omega) (by omega) (fun i hi => by obtain ⟨u1, u2, u3⟩ := ht i hi; exact ⟨u1, u2, by omega⟩) (by omega)
      rw [ec] at a1 a5 a6
      refine ⟨b2, tal2, cou2, a1, ?_, a3, a4, a5, a6⟩
      rw [L_X10_ask_59.eq_2, q_lit 1000, q_ifle (by decide) (by omega), if_neg (by omega), q_mfit hS (by omega) hc, q_bd1, o', if_pos q_f0, nI_1]
      exact a2
theorem zero_x {codes : Nat → Int32} {size x : Int32} : ∀ (j i N : Nat) (tal : Nat → Int32), i + j = 100 → j < N → (∀ k, k < i → tal k = 0) → ∃ tal2 : Nat → Int32, L_X5_leftAtMost_2 codes size x N tal (nI i) = L_X5_leftAtMost_25 codes size x FU tal2 0 0 ∧ ∀ k, k < 100 → tal2 k = 0 := by
  intro j
  induction j with
  | zero =>
    intro i N tal hi hN h
    obtain ⟨N, rfl⟩ : ∃ a, N = a + 1 := ⟨N - 1, by omega⟩
    obtain rfl : i = 100 := by omega
    exact ⟨tal, by rw [L_X5_leftAtMost_2.eq_2, if_pos (show (99 : Int32) < nI 100 by decide)], h⟩
  | succ j ih =>
    intro i N tal hi hN h
    obtain ⟨N, rfl⟩ : ∃ a, N = a + 1 := ⟨N - 1, by omega⟩
    rw [L_X5_leftAtMost_2.eq_2, q_lit 99, q_ifl (by decide) (by omega), if_neg (by omega), q_gin (by omega) (by decide), q_cl (by omega), nI_1]
    refine ih (i + 1) N _ (by omega) (by omega) (fun k hk => ?_)
    by_cases e : k = i
    · rw [e, upd_g]
    · rw [upd_n e]
      exact h k (by omega)
theorem zero_m {ms : Nat → Int32} {sz y x2 x3 x4 x5 : Int32} {rec : (Nat → Int32) → Int32 → Int32 → Int32 → Option (Int32 × (Nat → Int32))} : ∀ (j i N : Nat) (cou : Nat → Int32), i + j = 100 → j < N → (∀ k, k < i → cou k = 0) → ∃ cou2 : Nat → Int32, L_X10_ask_34 sz ms y rec N cou x2 x3 x4 x5 (nI i) = L_X10_ask_59 sz ms y rec FU cou2 x2 x3 x4 x5 100 ∧ ∀ k, k < 100 → cou2 k = 0 := by
  intro j
  induction j with
  | zero =>
    intro i N cou hi hN h
    obtain ⟨N, rfl⟩ : ∃ a, N = a + 1 := ⟨N - 1, by omega⟩
    obtain rfl : i = 100 := by omega
    exact ⟨cou, by rw [L_X10_ask_34.eq_2, if_pos (show (100 : Int32) ≤ nI 100 by decide)], h⟩
  | succ j ih =>
    intro i N cou hi hN h
    obtain ⟨N, rfl⟩ : ∃ a, N = a + 1 := ⟨N - 1, by omega⟩
    rw [L_X10_ask_34.eq_2, if_neg (show ¬ (100 : Int32) ≤ nI i from fun h => by have := (nI_leI (show 100 < 2 ^ 31 by decide) (show i < 2 ^ 31 by omega)).mp h; omega), q_gin (by omega) (by decide), q_cl (by omega), nI_1]
    refine ih (i + 1) N _ (by omega) (by omega) (fun k hk => ?_)
    by_cases e : k = i
    · rw [e, upd_g]
    · rw [upd_n e]
      exact h k (by omega)
theorem left_both {H F : Nat → Nat} {n x : Nat} {hs fs ms codes : Nat → Int32} {y x2 x3 : Int32} {rec : (Nat → Int32) → Int32 → Int32 → Int32 → Option (Int32 × (Nat → Int32))} (hS : SG H F n hs fs ms) (hC : CI H F n codes 1000) (h189 : cnt H F n 1000 ≤ 189) (hx : x ≤ 60) (tal cou : Nat → Int32) : ∃ (b : Nat) (tal2 cou2 : Nat → Int32), f_X5_leftAtMost codes tal (nI (cnt H F n 1000)) (nI x) = some (nI b, tal2) ∧ L_X10_ask_34 (nI n) ms y rec FU cou x2 x3 (nI x) 0 0 = askF rec cou2 x2 x3 (nI x) (nI b) ∧ b ≤ 1000 ∧ (0 < cnt H F n 1000 → 1 ≤ b) ∧ (cnt H F n 1000 = 0 → b = 0) := by
  have hf := q_FU
  obtain ⟨t1, a1, a2⟩ := zero_x (codes := codes) (size := nI (cnt H F n 1000)) (x := nI x) 100 0 FU tal rfl (by omega) (fun k hk => absurd hk (by omega))
  obtain ⟨c1, b1, b2⟩ := zero_m (ms := ms) (sz := nI n) (y := y) (x2 := x2) (x3 := x3) (x4 := nI x) (x5 := 0) (rec := rec) 100 0 FU cou rfl (by omega) (fun k hk => absurd hk (by omega))
  obtain ⟨b, tal2, cou2, d1, d2, d3, d4, d5, d6⟩ := ask_run (y := y) (x2 := x2) (x3 := x3) (rec := rec) hS hC h189 hx 900 100 FU FU t1 c1 (fun _ => 0) 0 rfl (by omega) (by omega) (by omega) (fun i hi => ⟨a2 i hi, b2 i hi, by omega⟩) (by omega)
  rw [cnt_100] at d1 d5 d6
  refine ⟨b, tal2, cou2, ?_, ?_, d3, d5, fun h => d6 h.symm⟩
  · unfold f_X5_leftAtMost
    exact (show L_X5_leftAtMost_2 codes (nI (cnt H F n 1000)) (nI x) FU tal 0 = _ from a1).trans d1
  · exact (show L_X10_ask_34 (nI n) ms y rec FU cou x2 x3 (nI x) 0 0 = _ from b1).trans d2
theorem askF_0 {rec : (Nat → Int32) → Int32 → Int32 → Int32 → Option (Int32 × (Nat → Int32))} {cou : Nat → Int32} {x2 x3 : Int32} {x : Nat} : askF rec cou x2 x3 (nI x) (nI 0) = rec cou x2 x3 (nI (x + 1)) := by
  unfold askF
  rw [if_pos (by decide), nI_1]
theorem askF_1 {rec : (Nat → Int32) → Int32 → Int32 → Int32 → Option (Int32 × (Nat → Int32))} {cou : Nat → Int32} {x2 : Int32} {x v b : Nat} (hb : 1 ≤ b) (hb2 : b ≤ 1000) (hv : v < 2 ^ 31) : askF rec cou x2 (nI v) (nI x) (nI b) = if v ≤ b then rec cou x2 (nI v) (nI (x + 1)) else rec cou (nI x) (nI b) (nI (x + 1)) := by
  unfold askF
  rw [if_neg (show ¬ nI b ≤ 0 from fun h => by have := (nI_leI (show b < 2 ^ 31 by omega) (show 0 < 2 ^ 31 by decide)).mp h; omega), q_ifle hv (by omega), nI_1]
theorem ask_none {H F : Nat → Nat} {n : Nat} {hs fs ms codes : Nat → Int32} {y : Int32} (hS : SG H F n hs fs ms) (hC : CI H F n codes 1000) (h0 : cnt H F n 1000 = 0) : ∀ (j x M : Nat) (cou : Nat → Int32), x + j = 61 → j < M → ∃ cou2 : Nat → Int32, L_X10_ask_21 (nI n) ms y M cou (-6) 1000000 (nI x) = some (-6, cou2) := by
  intro j
  induction j with
  | zero =>
    intro x M cou hj hM
    obtain ⟨M, rfl⟩ : ∃ a, M = a + 1 := ⟨M - 1, by omega⟩
    obtain rfl : x = 61 := by omega
    exact ⟨cou, by rw [L_X10_ask_21.eq_2, if_pos (show (61 : Int32) ≤ nI 61 by decide), if_pos (show (-6 : Int32) < 0 by decide)]⟩
  | succ j ih =>
    intro x M cou hj hM
    obtain ⟨M, rfl⟩ : ∃ a, M = a + 1 := ⟨M - 1, by omega⟩
    obtain ⟨b, t2, c2, a1, a2, a3, a4, a5⟩ := left_both (x := x) (y := y) (x2 := -6) (x3 := 1000000) (rec := L_X10_ask_21 (nI n) ms y M) hS hC (by omega) (by omega) cou cou
    rw [a5 h0, askF_0] at a2
    rw [L_X10_ask_21.eq_2, q_lit 61, q_ifle (by decide) (by omega), if_neg (by omega), a2]
    exact ih (x + 1) M c2 (by omega) (by omega)
theorem ask_some {H F : Nat → Nat} {n : Nat} {hs fs ms codes : Nat → Int32} {y : Int32} (hS : SG H F n hs fs ms) (hC : CI H F n codes 1000) (h189 : cnt H F n 1000 ≤ 189) (h0 : 0 < cnt H F n 1000) : ∀ (j x N M g v : Nat) (tal cou : Nat → Int32), x + j = 61 → j < N → j < M → g ≤ 60 → v ≤ 1000 → ∃ (r : Int32) (tal2 cou2 : Nat → Int32), L_X9_ask_52 hs fs (nI n) y N codes tal (nI (cnt H F n 1000)) (nI g) (nI v) (nI x) = some (r, codes, tal2, nI (cnt H F n 1000)) ∧ L_X10_ask_21 (nI n) ms y M cou (nI g) (nI v) (nI x) = some (r, cou2) := by
  intro j
  induction j with
  | zero =>
    intro x N M g v tal cou hj hN hM hg hv
    obtain ⟨N, rfl⟩ : ∃ a, N = a + 1 := ⟨N - 1, by omega⟩
    obtain ⟨M, rfl⟩ : ∃ a, M = a + 1 := ⟨M - 1, by omega⟩
    obtain rfl : x = 61 := by omega
    rw [L_X9_ask_52.eq_2, L_X10_ask_21.eq_2, if_pos (show (60 : Int32) < nI 61 by decide), if_pos (show (61 : Int32) ≤ nI 61 by decide), if_neg (nI_pos (by omega))]
    by_cases c : y = 0
    · exact ⟨_, tal, cou, by rw [if_pos c], by rw [if_pos c]⟩
    · exact ⟨_, tal, cou, by rw [if_neg c], by rw [if_neg c]⟩
  | succ j ih =>
    intro x N M g v tal cou hj hN hM hg hv
    obtain ⟨N, rfl⟩ : ∃ a, N = a + 1 := ⟨N - 1, by omega⟩
    obtain ⟨M, rfl⟩ : ∃ a, M = a + 1 := ⟨M - 1, by omega⟩
    obtain ⟨b, t2, c2, a1, a2, a3, a4, a5⟩ := left_both (x := x) (y := y) (x2 := nI g) (x3 := nI v) (rec := L_X10_ask_21 (nI n) ms y M) hS hC h189 (by omega) tal cou
    rw [askF_1 (a4 h0) a3 (by omega)] at a2
    rw [L_X9_ask_52.eq_2, L_X10_ask_21.eq_2, q_lit 60, q_ifl (by decide) (by omega), if_neg (by omega), q_lit 61, q_ifle (by decide) (by omega), if_neg (by omega), a2, a1, q_bd2, q_ifle (by omega) (by omega), nI_1]
    by_cases c : v ≤ b
    · rw [if_pos c, if_pos c]
      exact ih (x + 1) N M g v t2 c2 (by omega) (by omega) (by omega) hg hv
    · rw [if_neg c, if_neg c]
      exact ih (x + 1) N M x b t2 c2 (by omega) (by omega) (by omega) (by omega) a3
theorem core_ask {hs fs : Nat → Int32} {sz msz : Int32} {ms : Nat → Int32} (h : SGT hs fs sz msz ms) (codes tal : Nat → Int32) (size : Int32) (cou : Nat → Int32) (y : Int32) : ∃ (r : Int32) (codes2 tal2 : Nat → Int32) (size2 : Int32) (cou2 : Nat → Int32), f_X9_ask hs fs sz codes tal size y = some (r, codes2, tal2, size2) ∧ f_X10_ask msz ms cou y = some (r, cou2) := by
  have hf := q_FU
  obtain ⟨H, F, n, hS, rfl, rfl⟩ := SGT_SG h
  obtain ⟨c2, a1, a2, a3⟩ := q_find hS codes size
  unfold f_X9_ask f_X10_ask
  rcases q_upTo y 1 (by omega) with ⟨a, b⟩ | ⟨j, hj, rfl, a, b⟩
  · exact ⟨-2, codes, tal, size, cou, by rw [show f_X9_isUpTo y 1 = _ from a, q_bd1, if_pos rfl], by rw [show f_X10_in y 0 1 = _ from b, q_bd1, if_pos rfl]⟩
  · rw [show f_X9_isUpTo (nI j) 1 = _ from a, show f_X10_in (nI j) 0 1 = _ from b, q_bd1, q_bd1, if_neg (show ¬ (1 : Int32) = 0 by decide), if_neg (show ¬ (1 : Int32) = 0 by decide), a1, q_bd2]
    by_cases e : cnt H F n 1000 = 0
    · obtain ⟨cou2, d1⟩ := ask_none (y := nI j) hS a2 e 61 0 FU cou rfl (by omega)
      exact ⟨-6, c2, tal, nI (cnt H F n 1000), cou2, by rw [if_pos (by rw [e]; rfl)], d1⟩
    · rw [if_neg (show ¬ nI (cnt H F n 1000) = 0 from fun q => e ((nI_eq (by omega) (show 0 < 2 ^ 31 by decide)).mp q))]
      obtain ⟨b0, t2, k2, b1, b2, b3, b4, b5⟩ := left_both (x := 0) (y := nI j) (x2 := -6) (x3 := nI 1000000) (rec := L_X10_ask_21 (nI n) ms (nI j) 2047) hS a2 a3 (by omega) tal cou
      have b6 := b4 (by omega)
      rw [askF_1 b6 b3 (by omega), if_neg (by omega)] at b2
      obtain ⟨r, t3, k3, d1, d2⟩ := ask_some (y := nI j) hS a2 a3 (by omega) 60 1 FU 2047 0 b0 t2 k2 rfl (by omega) (by omega) (by omega) b3
      refine ⟨r, c2, t3, nI (cnt H F n 1000), k3, ?_, ?_⟩
      · rw [show f_X5_leftAtMost c2 tal (nI (cnt H F n 1000)) 0 = _ from b1, q_bd2]
        exact d1
      · rw [show FU = 2047 + 1 from rfl, L_X10_ask_21.eq_2, if_neg (show ¬ (61 : Int32) ≤ 0 by decide)]
        exact (show L_X10_ask_34 (nI n) ms (nI j) (L_X10_ask_21 (nI n) ms (nI j) 2047) FU cou (-6) 1000000 0 0 0 = _ from b2).trans d2
