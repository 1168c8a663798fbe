/-! pure: a year by draws -/
theorem q_jrem {a d : Nat} (ha : a < 2 ^ 31) (h0 : 0 < d) (hd : d < 2 ^ 31) : jrem (nI a) (nI d) = nI (a % d) := by
  unfold jrem
  exact pk_rem ha h0 hd
theorem q_div {a d : Nat} (ha : a < 2 ^ 31) (h0 : 0 < d) (hd : d < 2 ^ 31) : nI a / nI d = nI (a / d) := pk_div ha h0 hd
/-- what the reference says behind the last draw -/
def yfin (p3 : Int32) (now : Nat → Int32) (fa fw rs : Int32) : Option (Int32 × (Nat → Int32) × Int32 × Int32 × Int32) :=
  if p3 = 0 then some (now (Int32.toNatClampNeg 41), now, fa, fw, rs) else if p3 = 1 then bd1 (f_X10_snow now) (fun r => bd1 (f_X10_bits r) (fun q => some (q, now, fa, fw, rs))) else bd1 (f_X10_freeOnes now) (fun r => bd1 (f_X10_bits r) (fun q => some (q, now, fa, fw, rs)))
theorem year_l {fla lea flk lek bk : Nat → Int32} {mu mus p1 p2' p3 fa fw : Int32} {a1 a2 a3 a4 a5 a6 a7 : Nat → Int32} {b1 b2 b3 b4 : Int32} {m : Nat} (hm : m ≤ 99) : ∀ (k i N M x : Nat) (wat fly clo con inn : Nat → Int32) (th ta ho : Int32) (now : Nat → Int32) (rs : Int32), i + k = m → k < N → k < M → x < 65537 → SH wat fla fly lea clo con inn th mu ta ho now flk lek mus →
    ∃ (wat' fly' clo' con' inn' : Nat → Int32) (th' ta' ho' : Int32) (now' : Nat → Int32) (rs' : Int32), L_X4_draw_14 a1 a2 a3 a4 a5 a6 a7 b1 b2 b3 b4 p2' (nI m) N wat fla fly lea clo con inn th mu ta ho (nI x) (nI i) = some (wat', fla, fly', lea, clo', con', inn', th', mu, ta', ho') ∧ L_X10_year_43 bk flk lek mus p1 (nI m) p3 M now fa fw rs (nI x) (nI i) = yfin p3 now' fa fw rs' ∧ SH wat' fla fly' lea clo' con' inn' th' mu ta' ho' now' flk lek mus := by
  intro k
  induction k with
  | zero =>
    intro i N M x wat fly clo con inn th ta ho now rs hi hN hM hx hs
    obtain ⟨N, rfl⟩ : ∃ a, N = a + 1 := ⟨N - 1, by omega⟩
    obtain ⟨M, rfl⟩ : ∃ a, M = a + 1 := ⟨M - 1, by omega⟩
    rw [L_X4_draw_14.eq_2, L_X10_year_43.eq_2, q_ifle (by omega) (by omega), q_ifle (show m < 2 ^ 31 by omega) (by omega), if_pos (by omega), if_pos (by omega)]
    exact ⟨wat, fly, clo, con, inn, th, ta, ho, now, rs, rfl, rfl, hs⟩
  | succ k ih =>
    intro i N M x wat fly clo con inn th ta ho now rs hi hN hM hx hs
    obtain ⟨N, rfl⟩ : ∃ a, N = a + 1 := ⟨N - 1, by omega⟩
    obtain ⟨M, rfl⟩ : ∃ a, M = a + 1 := ⟨M - 1, by omega⟩
    obtain ⟨x', hx'⟩ : ∃ x', x' = (75 * x + 74) % 65537 := ⟨_, rfl⟩
    have hlt : x' < 65537 := by rw [hx']; exact Nat.mod_lt _ (by decide)
    have ex : jrem ((75 : Int32) * nI x + (74 : Int32)) (65537 : Int32) = nI x' := by
      rw [q_lit 75, pk_mul, q_lit 74, q_add, q_lit 65537, q_jrem (by omega) (by decide) (by decide), hx']
    have e8 : nI x' / (8 : Int32) = nI (x' / 8) := q_div (by omega) (by decide) (by decide)
    have e64 : nI x' / (64 : Int32) = nI (x' / 64) := q_div (by omega) (by decide) (by decide)
    have er8 : jrem (nI x') (8 : Int32) = nI (x' % 8) := q_jrem (by omega) (by decide) (by decide)
    have er88 : jrem (nI (x' / 8)) (8 : Int32) = nI (x' / 8 % 8) := q_jrem (by omega) (by decide) (by decide)
    have er648 : jrem (nI (x' / 64)) (8 : Int32) = nI (x' / 64 % 8) := q_jrem (by omega) (by decide) (by decide)
    have er649 : jrem (nI (x' / 64)) (9 : Int32) = nI (x' / 64 % 9) := q_jrem (by omega) (by decide) (by decide)
    have hg : x' % 8 < 8 := Nat.mod_lt _ (by decide)
    have ho8 : x' / 64 % 8 < 8 := Nat.mod_lt _ (by decide)
    have h9 : x' / 64 % 9 < 9 := Nat.mod_lt _ (by decide)
    rw [L_X4_draw_14.eq_2, L_X10_year_43.eq_2, q_ifle (by omega) (by omega), q_ifle (show m < 2 ^ 31 by omega) (by omega), if_neg (by omega), if_neg (by omega)]
    simp only [ex, e8, e64, er8, er88, er648, er649, nI_1]
    have fin : ∀ (act : Int32) (mres : Option (Int32 × (Nat → Int32))), ACT wat fla fly lea clo con inn th mu ta ho now flk lek mus act (nI (x' % 8)) (nI (x' / 64 % 8)) mres →
        ∃ (wat' fly' clo' con' inn' : Nat → Int32) (th' ta' ho' : Int32) (now' : Nat → Int32) (rs' : Int32),
          bd1 (some act) (fun r46 => bd1 (f_X6_refusal wat clo inn th ho r46 (nI (x' % 8)) (nI (x' / 64 % 8))) (fun r74 => if r74 = (-6 : Int32) then bd8 (f_X6_perform wat fla fly lea clo con inn th mu ta ho r46 (nI (x' % 8)) (nI (x' / 64 % 8))) (fun w1 w2 w3 w4 w5 w6 w7 w8 => L_X4_draw_14 a1 a2 a3 a4 a5 a6 a7 b1 b2 b3 b4 p2' (nI m) N w1 fla w2 lea w3 w4 w5 w6 mu w7 w8 (nI x') (nI (i + 1))) else L_X4_draw_14 a1 a2 a3 a4 a5 a6 a7 b1 b2 b3 b4 p2' (nI m) N wat fla fly lea clo con inn th mu ta ho (nI x') (nI (i + 1)))) = some (wat', fla, fly', lea, clo', con', inn', th', mu, ta', ho') ∧
          bd2 mres (fun r u => L_X10_year_43 bk flk lek mus p1 (nI m) p3 M u fa fw r (nI x') (nI (i + 1))) = yfin p3 now' fa fw rs' ∧ SH wat' fla fly' lea clo' con' inn' th' mu ta' ho' now' flk lek mus := by
      intro act mres ha
      rcases ha with ⟨r, r1, r2, r3, r4⟩ | ⟨r1, w1, w2, w3, w4, w5, w6, w7, w8, now1, r2, r3, r4⟩
      · obtain ⟨y1, y2, y3, y4, y5, y6, y7, y8, y9, y10, q1, q2, q3⟩ := ih (i + 1) N M x' wat fly clo con inn th ta ho now (nI r) (by omega) (by omega) (by omega) hlt hs
        refine ⟨y1, y2, y3, y4, y5, y6, y7, y8, y9, y10, ?_, ?_, q3⟩
        · rw [q_bd1, r3, q_bd1, if_neg (q_nm6 (by omega))]
          exact q1
        · rw [r4]
          exact q2
      · obtain ⟨y1, y2, y3, y4, y5, y6, y7, y8, y9, y10, q1, q2, q3⟩ := ih (i + 1) N M x' w1 w2 w3 w4 w5 w6 w7 w8 now1 0 (by omega) (by omega) (by omega) hlt r4
        refine ⟨y1, y2, y3, y4, y5, y6, y7, y8, y9, y10, ?_, ?_, q3⟩
        · rw [q_bd1, r1, q_bd1, if_pos rfl, r2]
          exact q1
        · rw [r3]
          exact q2
    have ed : ∀ q, q < 8 → f_X4_drawnAct (nI q) (nI (x' / 64)) = some (if q = 2 then 43 else if q = 3 then 61 else if q = 4 then 47 else if q = 5 then 62 else if q = 6 then 94 else if q = 7 then 46 else nI (48 + (1 + x' / 64 % 9))) := by
      intro q hq
      unfold f_X4_drawnAct
      rw [er649, q_lit 49, q_add, show 49 + x' / 64 % 9 = 48 + (1 + x' / 64 % 9) by omega]
      rcases (show q = 0 ∨ q = 1 ∨ q = 2 ∨ q = 3 ∨ q = 4 ∨ q = 5 ∨ q = 6 ∨ q = 7 by omega) with rfl | rfl | rfl | rfl | rfl | rfl | rfl | rfl <;> rfl
    obtain ⟨q, hq⟩ : ∃ q, q = x' / 8 % 8 := ⟨_, rfl⟩
    have hq8 : q < 8 := by rw [hq]; exact Nat.mod_lt _ (by decide)
    rw [← hq, ed q hq8]
    have es : (1 : Int32) + nI (x' / 64 % 9) = nI (1 + x' / 64 % 9) := nI_add 1 _
    rcases (show q = 0 ∨ q = 1 ∨ q = 2 ∨ q = 3 ∨ q = 4 ∨ q = 5 ∨ q = 6 ∨ q = 7 by omega) with rfl | rfl | rfl | rfl | rfl | rfl | rfl | rfl
    · rw [es]
      exact fin _ _ (act_shake hg (by omega) (by omega) hs)
    · rw [es]
      exact fin _ _ (act_shake hg (by omega) (by omega) hs)
    · exact fin _ _ (act_pour1 hg hs)
    · exact fin _ _ (act_pour0 hg hs)
    · exact fin _ _ (act_cloth hg hs)
    · exact fin _ _ (act_move hg ho8 hs)
    · exact fin _ _ (act_shelf hg hs)
    · exact fin _ _ (act_hour hs)
