/-! pure: a year asked of both -/
theorem q_bd2 {a1 a2 β : Type} (z1 : a1) (z2 : a2) (k : a1 → a2 → Option β) : bd2 (some (z1, z2)) k = k z1 z2 := rfl
theorem q_bd3 {a1 a2 a3 β : Type} (z1 : a1) (z2 : a2) (z3 : a3) (k : a1 → a2 → a3 → Option β) : bd3 (some (z1, z2, z3)) k = k z1 z2 z3 := rfl
theorem q_bd4 {a1 a2 a3 a4 β : Type} (z1 : a1) (z2 : a2) (z3 : a3) (z4 : a4) (k : a1 → a2 → a3 → a4 → Option β) : bd4 (some (z1, z2, z3, z4)) k = k z1 z2 z3 z4 := rfl
theorem q_bd5 {a1 a2 a3 a4 a5 β : Type} (z1 : a1) (z2 : a2) (z3 : a3) (z4 : a4) (z5 : a5) (k : a1 → a2 → a3 → a4 → a5 → Option β) : bd5 (some (z1, z2, z3, z4, z5)) k = k z1 z2 z3 z4 z5 := rfl
theorem q_bd6 {a1 a2 a3 a4 a5 a6 β : Type} (z1 : a1) (z2 : a2) (z3 : a3) (z4 : a4) (z5 : a5) (z6 : a6) (k : a1 → a2 → a3 → a4 → a5 → a6 → Option β) : bd6 (some (z1, z2, z3, z4, z5, z6)) k = k z1 z2 z3 z4 z5 z6 := rfl
theorem q_bd7 {a1 a2 a3 a4 a5 a6 a7 β : Type} (z1 : a1) (z2 : a2) (z3 : a3) (z4 : a4) (z5 : a5) (z6 : a6) (z7 : a7) (k : a1 → a2 → a3 → a4 → a5 → a6 → a7 → Option β) : bd7 (some (z1, z2, z3, z4, z5, z6, z7)) k = k z1 z2 z3 z4 z5 z6 z7 := rfl
theorem q_bd8 {a1 a2 a3 a4 a5 a6 a7 a8 β : Type} (z1 : a1) (z2 : a2) (z3 : a3) (z4 : a4) (z5 : a5) (z6 : a6) (z7 : a7) (z8 : a8) (k : a1 → a2 → a3 → a4 → a5 → a6 → a7 → a8 → Option β) : bd8 (some (z1, z2, z3, z4, z5, z6, z7, z8)) k = k z1 z2 z3 z4 z5 z6 z7 z8 := rfl
theorem q_bd9 {a1 a2 a3 a4 a5 a6 a7 a8 a9 β : Type} (z1 : a1) (z2 : a2) (z3 : a3) (z4 : a4) (z5 : a5) (z6 : a6) (z7 : a7) (z8 : a8) (z9 : a9) (k : a1 → a2 → a3 → a4 → a5 → a6 → a7 → a8 → a9 → Option β) : bd9 (some (z1, z2, z3, z4, z5, z6, z7, z8, z9)) k = k z1 z2 z3 z4 z5 z6 z7 z8 z9 := rfl
theorem q_bd10 {a1 a2 a3 a4 a5 a6 a7 a8 a9 a10 β : Type} (z1 : a1) (z2 : a2) (z3 : a3) (z4 : a4) (z5 : a5) (z6 : a6) (z7 : a7) (z8 : a8) (z9 : a9) (z10 : a10) (k : a1 → a2 → a3 → a4 → a5 → a6 → a7 → a8 → a9 → a10 → Option β) : bd10 (some (z1, z2, z3, z4, z5, z6, z7, z8, z9, z10)) k = k z1 z2 z3 z4 z5 z6 z7 z8 z9 z10 := rfl
theorem q_bd11 {a1 a2 a3 a4 a5 a6 a7 a8 a9 a10 a11 β : Type} (z1 : a1) (z2 : a2) (z3 : a3) (z4 : a4) (z5 : a5) (z6 : a6) (z7 : a7) (z8 : a8) (z9 : a9) (z10 : a10) (z11 : a11) (k : a1 → a2 → a3 → a4 → a5 → a6 → a7 → a8 → a9 → a10 → a11 → Option β) : bd11 (some (z1, z2, z3, z4, z5, z6, z7, z8, z9, z10, z11)) k = k z1 z2 z3 z4 z5 z6 z7 z8 z9 z10 z11 := rfl
theorem q_bd12 {a1 a2 a3 a4 a5 a6 a7 a8 a9 a10 a11 a12 β : Type} (z1 : a1) (z2 : a2) (z3 : a3) (z4 : a4) (z5 : a5) (z6 : a6) (z7 : a7) (z8 : a8) (z9 : a9) (z10 : a10) (z11 : a11) (z12 : a12) (k : a1 → a2 → a3 → a4 → a5 → a6 → a7 → a8 → a9 → a10 → a11 → a12 → Option β) : bd12 (some (z1, z2, z3, z4, z5, z6, z7, z8, z9, z10, z11, z12)) k = k z1 z2 z3 z4 z5 z6 z7 z8 z9 z10 z11 z12 := rfl
theorem q_bd13 {a1 a2 a3 a4 a5 a6 a7 a8 a9 a10 a11 a12 a13 β : Type} (z1 : a1) (z2 : a2) (z3 : a3) (z4 : a4) (z5 : a5) (z6 : a6) (z7 : a7) (z8 : a8) (z9 : a9) (z10 : a10) (z11 : a11) (z12 : a12) (z13 : a13) (k : a1 → a2 → a3 → a4 → a5 → a6 → a7 → a8 → a9 → a10 → a11 → a12 → a13 → Option β) : bd13 (some (z1, z2, z3, z4, z5, z6, z7, z8, z9, z10, z11, z12, z13)) k = k z1 z2 z3 z4 z5 z6 z7 z8 z9 z10 z11 z12 z13 := rfl
theorem q_bd16 {a1 a2 a3 a4 a5 a6 a7 a8 a9 a10 a11 a12 a13 a14 a15 a16 β : Type} (z1 : a1) (z2 : a2) (z3 : a3) (z4 : a4) (z5 : a5) (z6 : a6) (z7 : a7) (z8 : a8) (z9 : a9) (z10 : a10) (z11 : a11) (z12 : a12) (z13 : a13) (z14 : a14) (z15 : a15) (z16 : a16) (k : a1 → a2 → a3 → a4 → a5 → a6 → a7 → a8 → a9 → a10 → a11 → a12 → a13 → a14 → a15 → a16 → Option β) : bd16 (some (z1, z2, z3, z4, z5, z6, z7, z8, z9, z10, z11, z12, z13, z14, z15, z16)) k = k z1 z2 z3 z4 z5 z6 z7 z8 z9 z10 z11 z12 z13 z14 z15 z16 := rfl
theorem q_bd17 {a1 a2 a3 a4 a5 a6 a7 a8 a9 a10 a11 a12 a13 a14 a15 a16 a17 β : Type} (z1 : a1) (z2 : a2) (z3 : a3) (z4 : a4) (z5 : a5) (z6 : a6) (z7 : a7) (z8 : a8) (z9 : a9) (z10 : a10) (z11 : a11) (z12 : a12) (z13 : a13) (z14 : a14) (z15 : a15) (z16 : a16) (z17 : a17) (k : a1 → a2 → a3 → a4 → a5 → a6 → a7 → a8 → a9 → a10 → a11 → a12 → a13 → a14 → a15 → a16 → a17 → Option β) : bd17 (some (z1, z2, z3, z4, z5, z6, z7, z8, z9, z10, z11, z12, z13, z14, z15, z16, z17)) k = k z1 z2 z3 z4 z5 z6 z7 z8 z9 z10 z11 z12 z13 z14 z15 z16 z17 := rfl
theorem core_year {wat fla fly lea clo con inn : Nat → Int32} {th mu ta ho : Int32} {bk flk lek : Nat → Int32} {mus : Int32} (h : SH wat fla fly lea clo con inn th mu ta ho bk flk lek mus) (w1 w2 w3 w4 w5 w6 w7 : Nat → Int32) (w8 w9 w10 w11 : Int32) (now : Nat → Int32) (v1 v2 v3 y1 y2 y3 : Int32) : ∃ (r : Int32) (x1 x2 x3 x4 x5 x6 x7 : Nat → Int32) (x8 x9 x10 x11 : Int32) (now' : Nat → Int32) (u1 u2 u3 : Int32), f_X9_year wat fla fly lea clo con inn th mu ta ho w1 w2 w3 w4 w5 w6 w7 w8 w9 w10 w11 y1 y2 y3 = some (r, x1, x2, x3, x4, x5, x6, x7, x8, x9, x10, x11) ∧ f_X10_year bk now flk lek mus v1 v2 v3 y1 y2 y3 = some (r, now', u1, u2, u3) := by
  unfold f_X9_year f_X10_year
  rw [q_lit 9999]
  rcases q_upTo y1 9999 (by omega) with ⟨a, b⟩ | ⟨sd, hsd, rfl, a, b⟩
  · rw [a, b]
    exact ⟨_, _, _, _, _, _, _, _, _, _, _, _, _, _, _, _, rfl, rfl⟩
  · rw [a, b, q_bd1, q_bd1, if_neg (show ¬ (1 : Int32) = 0 by decide), if_neg (show ¬ (1 : Int32) = 0 by decide)]
    by_cases c1 : y2 < 1
    · rw [if_pos c1, show f_X10_in y2 1 99 = some 0 by unfold f_X10_in; rw [if_pos c1]]
      exact ⟨_, _, _, _, _, _, _, _, _, _, _, _, _, _, _, _, rfl, rfl⟩
    · by_cases c2 : (99 : Int32) < y2
      · rw [if_neg c1, if_pos c2, show f_X10_in y2 1 99 = some 0 by unfold f_X10_in; rw [if_neg c1, if_pos c2]]
        exact ⟨_, _, _, _, _, _, _, _, _, _, _, _, _, _, _, _, rfl, rfl⟩
      · rw [if_neg c1, if_neg c2, show f_X10_in y2 1 99 = some 1 by unfold f_X10_in; rw [if_neg c1, if_neg c2], q_bd1, if_neg (show ¬ (1 : Int32) = 0 by decide), q_lit 2]
        have hx0 : ¬ y2 < 0 := by
          intro h0
          apply c1
          rw [Int32.lt_iff_toInt_lt] at h0 ⊢
          have e0 : (0 : Int32).toInt = 0 := rfl
          have e1 : (1 : Int32).toInt = 1 := rfl
          omega
        obtain ⟨m, hm9, rfl⟩ := nI_of hx0
        have hm : m ≤ 99 := by
          rw [q_lit 99, nI_ltI (by decide) hm9] at c2
          omega
        rcases q_upTo y3 2 (by omega) with ⟨a, b⟩ | ⟨j, hj, rfl, a, b⟩
        · rw [a, b]
          exact ⟨_, _, _, _, _, _, _, _, _, _, _, _, _, _, _, _, rfl, rfl⟩
        · rw [a, b, q_bd1, q_bd1, if_neg (show ¬ (1 : Int32) = 0 by decide), if_neg (show ¬ (1 : Int32) = 0 by decide)]
          obtain ⟨x1, x2, x3, x4, x5, x6, x7, ht, hs⟩ := takeFrom_both w1 w2 w3 w4 w5 w6 w7 w8 w9 w10 w11 h
          obtain ⟨now1, ha, hnow⟩ := asNow bk now v1 v2
          obtain ⟨z1, z2, z3, z4, z5, z6, z7, z8, z9, z10, q1, q2, q3⟩ := year_l (a1 := wat) (a2 := fla) (a3 := fly) (a4 := lea) (a5 := clo) (a6 := con) (a7 := inn) (b1 := th) (b2 := mu) (b3 := ta) (b4 := ho) (bk := bk) (p1 := nI sd) (p2' := nI sd) (p3 := nI j) (fa := -6) (fw := -6) hm m 0 FU FU sd x1 x3 x5 x6 x7 th ta ho now1 v3 (by omega) (by have := q_FU; omega) (by have := q_FU; omega) (by omega) (SH_congr hs hnow)
          have hd : f_X4_draw w1 w2 w3 w4 w5 w6 w7 w8 w9 w10 w11 wat fla fly lea clo con inn th mu ta ho (nI sd) (nI m) = some (z1, x2, z2, x4, z3, z4, z5, z6, mu, z7, z8) := by
            unfold f_X4_draw
            rw [ht, q_bd11]
            exact q1
          rw [hd, q_bd11, ha, q_bd3, show L_X10_year_43 bk flk lek mus (nI sd) (nI m) (nI j) FU now1 (-6) (-6) v3 (nI sd) 0 = _ from q2]
          unfold B_X9_year_91 yfin
          obtain ⟨D, hD, d1, d2⟩ := SH_snow q3
          obtain ⟨E, hE, g1, g2⟩ := SH_free q3
          simp only [d1, d2, g1, g2, q_bd1, q_bitCount8 ⟨D, hD⟩, q_bitCount8 ⟨E, hE⟩, q_bits8 ⟨D, hD⟩, q_bits8 ⟨E, hE⟩]
          have h41 : z9 41 = z7 := by
            obtain ⟨T, U, hr, W, F, V, K, C, Q, P, -, -, ⟨-, -, -, m4⟩, -⟩ := q3
            exact m4
          rw [q_41, h41]
          rcases (show j = 0 ∨ j = 1 ∨ j = 2 by omega) with rfl | rfl | rfl <;> exact ⟨_, _, _, _, _, _, _, _, _, _, _, _, _, _, _, _, rfl, rfl⟩
