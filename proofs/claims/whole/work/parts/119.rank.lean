/-! pure: rank -/
def chk6 (n : Nat) : Bool :=
  let a := n % 6; let b := n / 6 % 6; let c := n / 36 % 6; let d := n / 216 % 6; let e := n / 1296 % 6; let f := n / 7776 % 6
  !(Nat.beq (2 ^ a ||| 2 ^ b ||| 2 ^ c ||| 2 ^ d ||| 2 ^ e ||| 2 ^ f) 63) || !(Nat.beq a b || Nat.beq a c || Nat.beq a d || Nat.beq a e || Nat.beq a f || Nat.beq b c || Nat.beq b d || Nat.beq b e || Nat.beq b f || Nat.beq c d || Nat.beq c e || Nat.beq c f || Nat.beq d e || Nat.beq d f || Nat.beq e f)
def chkA : Nat → Bool
  | 0 => true
  | n + 1 => chk6 n && chkA n
theorem chkA_of : ∀ {n m : Nat}, chkA n = true → m < n → chk6 m = true
  | 0, m, _, h => absurd h (by omega)
  | n + 1, m, e, h => by
    rw [chkA, Bool.and_eq_true] at e
    by_cases c : m = n
    · rw [c]
      exact e.1
    · exact chkA_of e.2 (by omega)
def chkB (a b c : Nat) : Bool := (List.range 216).all (fun n => chk6 (n + 216 * (a + 6 * b + 36 * c)))
theorem chkB_all : ∀ a b c : Fin 6, chkB a.val b.val c.val = true := by decide +kernel
theorem perm6 {a b c d e f : Nat} (ha : a < 6) (hb : b < 6) (hc : c < 6) (hd : d < 6) (he : e < 6) (hf : f < 6) (h : 2 ^ a ||| 2 ^ b ||| 2 ^ c ||| 2 ^ d ||| 2 ^ e ||| 2 ^ f = 63) : a ≠ b ∧ a ≠ c ∧ a ≠ d ∧ a ≠ e ∧ a ≠ f ∧ b ≠ c ∧ b ≠ d ∧ b ≠ e ∧ b ≠ f ∧ c ≠ d ∧ c ≠ e ∧ c ≠ f ∧ d ≠ e ∧ d ≠ f ∧ e ≠ f := by
  have h1 := chkB_all ⟨d, hd⟩ ⟨e, he⟩ ⟨f, hf⟩
  have h2 := List.all_eq_true.mp h1 (a + 6 * b + 36 * c) (List.mem_range.mpr (by omega))
  have q1 : (a + 6 * b + 36 * c + 216 * (d + 6 * e + 36 * f)) % 6 = a := by omega
  have q2 : (a + 6 * b + 36 * c + 216 * (d + 6 * e + 36 * f)) / 6 % 6 = b := by omega
  have q3 : (a + 6 * b + 36 * c + 216 * (d + 6 * e + 36 * f)) / 36 % 6 = c := by omega
  have q4 : (a + 6 * b + 36 * c + 216 * (d + 6 * e + 36 * f)) / 216 % 6 = d := by omega
  have q5 : (a + 6 * b + 36 * c + 216 * (d + 6 * e + 36 * f)) / 1296 % 6 = e := by omega
  have q6 : (a + 6 * b + 36 * c + 216 * (d + 6 * e + 36 * f)) / 7776 % 6 = f := by omega
  unfold chk6 at h2
  simp only [q1, q2, q3, q4, q5, q6, h] at h2
  have h3 : ∀ x y : Nat, Nat.beq x y = false ↔ x ≠ y := fun x y => by
    rw [← Bool.not_eq_true, Nat.beq_eq]
  simpa [h3, and_assoc] using h2
theorem one10 {d : Nat} (h : d < 10) : ((1 : Int32) <<< (nI d &&& 31)) = nI (2 ^ d) := (by decide +kernel : ∀ d : Fin 10, ((1 : Int32) <<< (nI d.val &&& 31)) = nI (2 ^ d.val)) ⟨d, h⟩
theorem isRow_step {p0 : Int32} {n s m i : Nat} (hi : i < 6) (hm : m < 2 ^ 31) : L_X2_isRow_12 p0 (n + 1) (nI s) (nI m) (nI i) = L_X2_isRow_12 p0 n (nI (s ||| 2 ^ (m % 10))) (nI (m / 10)) (nI (i + 1)) := by
  rw [L_X2_isRow_12.eq_2, q_lit 6, q_ifle (by decide) (by omega), if_neg (by omega), q_lit 10, q_jrem hm (by decide) (by decide), one10 (by omega), q_or, q_div hm (by decide) (by decide), nI_1]
def rbits (N : Nat) : Nat := 2 ^ (N % 10) ||| 2 ^ (N / 10 % 10) ||| 2 ^ (N / 10 / 10 % 10) ||| 2 ^ (N / 10 / 10 / 10 % 10) ||| 2 ^ (N / 10 / 10 / 10 / 10 % 10) ||| 2 ^ (N / 10 / 10 / 10 / 10 / 10 % 10)
theorem or_lt10 {a b : Nat} (ha : a < 1024) (hb : b < 1024) : a ||| b < 1024 := Nat.or_lt_two_pow (n := 10) ha hb
theorem p_lt10 {d : Nat} (h : d < 10) : 2 ^ d < 1024 := Nat.pow_lt_pow_right (a := 2) (m := d) (n := 10) (by decide) h
theorem rbits_lt (N : Nat) : rbits N < 1024 := by
  unfold rbits
  exact or_lt10 (or_lt10 (or_lt10 (or_lt10 (or_lt10 (p_lt10 (by omega)) (p_lt10 (by omega))) (p_lt10 (by omega))) (p_lt10 (by omega))) (p_lt10 (by omega))) (p_lt10 (by omega))
theorem q_isRow {N : Nat} (hN : N < 2 ^ 31) : f_X2_isRow (nI N) = some (if N ≤ 999999 ∧ rbits N = 63 then 1 else 0) := by
  unfold f_X2_isRow
  rw [if_pos (show (0 : Int32) ≤ nI N from (nI_leI (by decide) hN).mpr (Nat.zero_le _))]
  obtain ⟨m, hm⟩ : ∃ m, FU = m + 7 := ⟨2041, rfl⟩
  have e : L_X2_isRow_12 (nI N) (m + 7) (nI 0) (nI N) (nI 0) = some (if N ≤ 999999 ∧ rbits N = 63 then 1 else 0) := by
    rw [isRow_step (by omega) hN, isRow_step (by omega) (by omega), isRow_step (by omega) (by omega), isRow_step (by omega) (by omega), isRow_step (by omega) (by omega), isRow_step (by omega) (by omega), Nat.zero_or, L_X2_isRow_12.eq_2, if_pos (by decide)]
    rw [show 2 ^ (N % 10) ||| 2 ^ (N / 10 % 10) ||| 2 ^ (N / 10 / 10 % 10) ||| 2 ^ (N / 10 / 10 / 10 % 10) ||| 2 ^ (N / 10 / 10 / 10 / 10 % 10) ||| 2 ^ (N / 10 / 10 / 10 / 10 / 10 % 10) = rbits N from rfl]
    have hb := rbits_lt N
    rw [q_lit 63, show (0 : Int32) = nI 0 from rfl, q_ife (by omega) (by decide), q_ife (by omega) (by decide)]
    by_cases c1 : N ≤ 999999
    · rw [if_pos (by omega)]
      by_cases c2 : rbits N = 63
      · rw [if_pos c2, if_pos ⟨c1, c2⟩]
      · rw [if_neg c2, if_neg (fun x => c2 x.2)]
    · rw [if_neg (by omega), if_neg (fun x => c1 x.1)]
  rw [hm]
  exact e
theorem rankM_step {p1 : Int32} {n s N i : Nat} {rk : Nat → Int32} (hi : i < 6) (hN : N < 2 ^ 31) : L_X10_rank_16 p1 (nI N) (n + 1) rk (nI s) (nI i) = L_X10_rank_16 p1 (nI N) n rk (nI (s ||| 2 ^ (N / 10 ^ (6 - 1 - i) % 10))) (nI (i + 1)) := by
  rw [L_X10_rank_16.eq_2, q_lit 6, q_ifle (by decide) (by omega), if_neg (by omega), if_neg (nI_pos hN), q_digit hN hi (by decide), q_bd1, one10 (by omega), q_or, nI_1]
theorem q_rankM {p1 : Int32} {N : Nat} {rk : Nat → Int32} (hN : N < 2 ^ 31) : L_X10_rank_16 p1 (nI N) FU rk 0 0 = B_X10_rank_46 p1 (nI N) rk (nI (rbits N)) := by
  obtain ⟨m, hm⟩ : ∃ m, FU = m + 7 := ⟨2041, rfl⟩
  have e : L_X10_rank_16 p1 (nI N) (m + 7) rk (nI 0) (nI 0) = B_X10_rank_46 p1 (nI N) rk (nI (rbits N)) := by
    rw [rankM_step (by omega) hN, rankM_step (by omega) hN, rankM_step (by omega) hN, rankM_step (by omega) hN, rankM_step (by omega) hN, rankM_step (by omega) hN, L_X10_rank_16.eq_2, if_pos (by decide)]
    congr 2
    unfold rbits
    simp only [Nat.div_div_eq_div_mul]
    rw [show N / 10 ^ (6 - 1 - (0 + 1 + 1 + 1 + 1 + 1)) = N by rw [show 10 ^ (6 - 1 - (0 + 1 + 1 + 1 + 1 + 1)) = 1 from rfl, Nat.div_one], show 10 ^ (6 - 1 - 0) = 10 * 10 * 10 * 10 * 10 from rfl, show 10 ^ (6 - 1 - (0 + 1)) = 10 * 10 * 10 * 10 from rfl, show 10 ^ (6 - 1 - (0 + 1 + 1)) = 10 * 10 * 10 from rfl, show 10 ^ (6 - 1 - (0 + 1 + 1 + 1)) = 10 * 10 from rfl, show 10 ^ (6 - 1 - (0 + 1 + 1 + 1 + 1)) = 10 from rfl, Nat.zero_or]
    generalize 2 ^ (N % 10) = a
    generalize 2 ^ (N / 10 % 10) = b
    generalize 2 ^ (N / (10 * 10) % 10) = c
    generalize 2 ^ (N / (10 * 10 * 10) % 10) = d
    generalize 2 ^ (N / (10 * 10 * 10 * 10) % 10) = f
    generalize 2 ^ (N / (10 * 10 * 10 * 10 * 10) % 10) = g
    refine Nat.eq_of_testBit_eq (fun i => ?_)
    simp only [Nat.testBit_or]
    cases a.testBit i <;> cases b.testBit i <;> cases c.testBit i <;> cases d.testBit i <;> cases f.testBit i <;> cases g.testBit i <;> rfl
  rw [hm]
  exact e
theorem setRow_step {p2 : Int32} {n m k i : Nat} {od : Nat → Int32} (hk : k < 6) (hi : i < 6) (hm : m < 2 ^ 31) : L_X2_setRow_16 (nI k) p2 (n + 1) od (nI m) (nI (i + 1) + (-1 : Int32)) = L_X2_setRow_16 (nI k) p2 n (upd od (6 * k + i) (nI (m % 10))) (nI (m / 10)) (nI i + (-1 : Int32)) := by
  rw [L_X2_setRow_16.eq_2, q_prd, if_neg (nI_pos (by omega)), q_lit 6, pk_mul, q_add, q_gin (by omega) (by decide), q_cl (by omega), q_lit 10, q_jrem hm (by decide) (by decide), q_div hm (by decide) (by decide)]
theorem q_setRow {N k : Nat} {od : Nat → Int32} (hk : k < 6) (hN : N < 2 ^ 31) : f_X2_setRow od (nI k) (nI N) = some (upd (upd (upd (upd (upd (upd od (6 * k + 5) (nI (N % 10))) (6 * k + 4) (nI (N / 10 % 10))) (6 * k + 3) (nI (N / 10 / 10 % 10))) (6 * k + 2) (nI (N / 10 / 10 / 10 % 10))) (6 * k + 1) (nI (N / 10 / 10 / 10 / 10 % 10))) (6 * k + 0) (nI (N / 10 / 10 / 10 / 10 / 10 % 10))) := by
  unfold f_X2_setRow
  rw [if_neg (nI_pos (by omega)), q_lit 6, q_ifl (by omega) (by decide), if_pos hk]
  obtain ⟨m, hm⟩ : ∃ m, FU = m + 7 := ⟨2041, rfl⟩
  rw [hm, show (5 : Int32) = nI (5 + 1) + (-1 : Int32) by decide, setRow_step hk (by omega) hN, setRow_step hk (by omega) (by omega), setRow_step hk (by omega) (by omega), setRow_step hk (by omega) (by omega), setRow_step hk (by omega) (by omega), setRow_step hk (by omega) (by omega), L_X2_setRow_16.eq_2, if_pos (by decide)]
theorem lt6_of {d N : Nat} (h : N.testBit d = true) (e : N = 63) : d < 6 := by
  refine Nat.lt_of_not_le (fun c => ?_)
  rw [e, Nat.testBit_lt_two_pow (Nat.lt_of_lt_of_le (show 63 < 2 ^ 6 by decide) (Nat.pow_le_pow_right (by decide) c))] at h
  exact absurd h (by decide)
def dg (a0 a1 a2 a3 a4 a5 : Nat) (i : Nat) : Nat := if i = 0 then a0 else if i = 1 then a1 else if i = 2 then a2 else if i = 3 then a3 else if i = 4 then a4 else a5
theorem core_rank {od rk : Nat → Int32} (h : ORDR od rk) (y1 y2 : Int32) : ∃ (r : Int32) (od' rk' : Nat → Int32), f_X9_rank od y1 y2 = some (r, od') ∧ f_X10_rank rk y1 y2 = some (r, rk') ∧ ORDR od' rk' := by
  unfold f_X9_rank f_X10_rank
  rcases q_upTo y1 5 (by omega) with ⟨a, b⟩ | ⟨k, hk, rfl, a, b⟩
  · exact ⟨-1, od, rk, by rw [q_lit 5, a]; rfl, by rw [q_lit 5, b]; rfl, h⟩
  · rw [q_lit 5, a, b, q_bd1, q_bd1, if_neg (show ¬ (1 : Int32) = 0 by decide), if_neg (show ¬ (1 : Int32) = 0 by decide)]
    by_cases c : y2 < 0
    · refine ⟨-2, od, rk, ?_, ?_, h⟩
      · unfold f_X2_isRow
        rw [if_neg (Int32.not_le.mpr c)]
        rfl
      · rw [show FU = 2047 + 1 from rfl, L_X10_rank_16.eq_2, if_neg (by decide), if_pos c]
        rfl
    · obtain ⟨N, hN, rfl⟩ := nI_of c
      have hb := rbits_lt N
      rw [q_isRow hN, q_bd1, q_rankM hN]
      unfold B_X10_rank_46
      rw [q_lit 63, q_ife (by omega) (by decide), q_lit 999999, q_ifle hN (by decide)]
      by_cases c2 : rbits N = 63
      · by_cases c1 : N ≤ 999999
        · rw [if_pos (show N ≤ 999999 ∧ rbits N = 63 from ⟨c1, c2⟩), if_neg (show ¬ (1 : Int32) = 0 by decide), if_pos c2, if_pos c1, q_row h (by omega), q_bd1, q_setRow (by omega) hN, q_bd1, q_gin (by omega) (by decide), q_gin (by omega) (by decide), q_cl (by omega)]
          refine ⟨_, _, _, rfl, rfl, ?_⟩
          have hs := c2
          unfold rbits at c2
          have t0 : ∀ d, (rbits N).testBit d = true → d < 6 := fun d h => lt6_of h hs
          have l5 : N % 10 < 6 := t0 _ (by unfold rbits; simp only [Nat.testBit_or, Nat.testBit_two_pow_self, Bool.or_true, Bool.true_or])
          have l4 : N / 10 % 10 < 6 := t0 _ (by unfold rbits; simp only [Nat.testBit_or, Nat.testBit_two_pow_self, Bool.or_true, Bool.true_or])
          have l3 : N / 10 / 10 % 10 < 6 := t0 _ (by unfold rbits; simp only [Nat.testBit_or, Nat.testBit_two_pow_self, Bool.or_true, Bool.true_or])
          have l2 : N / 10 / 10 / 10 % 10 < 6 := t0 _ (by unfold rbits; simp only [Nat.testBit_or, Nat.testBit_two_pow_self, Bool.or_true, Bool.true_or])
          have l1 : N / 10 / 10 / 10 / 10 % 10 < 6 := t0 _ (by unfold rbits; simp only [Nat.testBit_or, Nat.testBit_two_pow_self, Bool.or_true, Bool.true_or])
          have l0 : N / 10 / 10 / 10 / 10 / 10 % 10 < 6 := t0 _ (by unfold rbits; simp only [Nat.testBit_or, Nat.testBit_two_pow_self, Bool.or_true, Bool.true_or])
          have pp := perm6 l5 l4 l3 l2 l1 l0 c2
          have hsum : N = 100000 * (N / 10 / 10 / 10 / 10 / 10 % 10) + 10000 * (N / 10 / 10 / 10 / 10 % 10) + 1000 * (N / 10 / 10 / 10 % 10) + 100 * (N / 10 / 10 % 10) + 10 * (N / 10 % 10) + N % 10 := by omega
          revert pp hsum l0 l1 l2 l3 l4 l5
          generalize N / 10 / 10 / 10 / 10 / 10 % 10 = a0
          generalize N / 10 / 10 / 10 / 10 % 10 = a1
          generalize N / 10 / 10 / 10 % 10 = a2
          generalize N / 10 / 10 % 10 = a3
          generalize N / 10 % 10 = a4
          generalize N % 10 = a5
          intro l5 l4 l3 l2 l1 l0 pp hsum
          intro j hj
          by_cases cj : j = k
          · subst cj
            refine ⟨dg a0 a1 a2 a3 a4 a5, fun i hi => ?_, fun i i' hi hi' e => ?_, fun i hi => ?_, ?_⟩
            · unfold dg
              repeat' split
              all_goals omega
            · obtain rfl | rfl | rfl | rfl | rfl | rfl : i = 0 ∨ i = 1 ∨ i = 2 ∨ i = 3 ∨ i = 4 ∨ i = 5 := by omega
              all_goals obtain rfl | rfl | rfl | rfl | rfl | rfl : i' = 0 ∨ i' = 1 ∨ i' = 2 ∨ i' = 3 ∨ i' = 4 ∨ i' = 5 := by omega
              all_goals first | rfl | (simp [dg] at e; omega)
            · unfold dg
              obtain rfl | rfl | rfl | rfl | rfl | rfl : i = 0 ∨ i = 1 ∨ i = 2 ∨ i = 3 ∨ i = 4 ∨ i = 5 := by omega
              · rw [upd_g]; rfl
              · rw [upd_n (by omega), upd_g]; rfl
              · rw [upd_n (by omega), upd_n (by omega), upd_g]; rfl
              · rw [upd_n (by omega), upd_n (by omega), upd_n (by omega), upd_g]; rfl
              · rw [upd_n (by omega), upd_n (by omega), upd_n (by omega), upd_n (by omega), upd_g]; rfl
              · rw [upd_n (by omega), upd_n (by omega), upd_n (by omega), upd_n (by omega), upd_n (by omega), upd_g]; rfl
            · rw [upd_g, hsum]; rfl
          · obtain ⟨d, h1, h2, h3, h4⟩ := h j hj
            refine ⟨d, h1, h2, fun i hi => ?_, ?_⟩
            · rw [upd_n (by omega), upd_n (by omega), upd_n (by omega), upd_n (by omega), upd_n (by omega), upd_n (by omega)]
              exact h3 i hi
            · rw [upd_n cj]
              exact h4
        · rw [if_neg (show ¬ (N ≤ 999999 ∧ rbits N = 63) from fun x => c1 x.1), if_pos c2, if_neg c1]
          exact ⟨-2, od, rk, rfl, rfl, h⟩
      · rw [if_neg (show ¬ (N ≤ 999999 ∧ rbits N = 63) from fun x => c2 x.2), if_neg c2]
        exact ⟨-2, od, rk, rfl, rfl, h⟩
