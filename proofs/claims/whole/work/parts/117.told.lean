/-! pure: told, vote, rank -/
theorem both_of {α : Type} {A B : Option α} (h : B = A) (h2 : ∃ r, A = some r) : ∃ r, A = some r ∧ B = some r := by
  obtain ⟨r, e⟩ := h2
  exact ⟨r, e, h.trans e⟩
theorem told_globe {wat fla fly lea clo con inn : Nat → Int32} {th mu ta ho : Int32} {bk flk lek : Nat → Int32} {mus : Int32} (h : SH wat fla fly lea clo con inn th mu ta ho bk flk lek mus) {g : Nat} (hg : g < 8) (d : Int32) : ∃ r, f_X6_toldOf wat fla fly lea clo con inn th mu (nI g) d = some r ∧ f_X10_toldGlobe bk flk lek mus (nI g) d = some r := by
  obtain ⟨T, U, hr, W, F, V, K, C, Q, P, ⟨hT, hU, hhr⟩, ⟨e1, e2, e3⟩, ⟨m1, m2, m3, m4⟩, hok, hx, hm, hn⟩ := h
  unfold f_X6_toldOf f_X10_toldGlobe
  rw [e1, q_has hT hg, q_isThere hT hg m1, q_bd1, q_bd1]
  by_cases ht : T.testBit g = true
  · obtain ⟨x1, x2, x3, x4, x5, x6, x7⟩ := hx g hg ht
    obtain ⟨n1, n2, n3, n4, n5, n6, n7⟩ := hm g hg ht
    rw [ht, if_neg q_t0, if_neg q_t0, q_outer hT hg ht x7, q_bd1, q_lit 8, q_lit 16, q_lit 24, q_lit 32, q_add, q_add, q_add, q_add]
    simp only [q_gin hg (show 8 < 2 ^ 31 by decide), q_gin (show g < 43 by omega) (show 43 < 2 ^ 31 by decide), q_gin (show 8 + g < 43 by omega) (show 43 < 2 ^ 31 by decide), q_gin (show 16 + g < 43 by omega) (show 43 < 2 ^ 31 by decide), q_gin (show 24 + g < 43 by omega) (show 43 < 2 ^ 31 by decide), q_gin (show 32 + g < 43 by omega) (show 43 < 2 ^ 31 by decide), q_cl (show g < 2 ^ 31 by omega), q_cl (show 8 + g < 2 ^ 31 by omega), q_cl (show 16 + g < 2 ^ 31 by omega), q_cl (show 24 + g < 2 ^ 31 by omega), q_cl (show 32 + g < 2 ^ 31 by omega), x1, x2, x3, x4, x5, x6, n1, n2, n3, n4, n5, n6, n7, e2, m2]
    refine both_of rfl ?_
    repeat' split
    all_goals exact ⟨_, rfl⟩
  · have ht' : T.testBit g = false := by simpa using ht
    rw [ht']
    exact ⟨_, rfl, rfl⟩
theorem core_told {wat fla fly lea clo con inn : Nat → Int32} {th mu ta ho : Int32} {bk flk lek : Nat → Int32} {mus : Int32} {od rk : Nat → Int32} {hs fs : Nat → Int32} {ssz smz : Int32} {ms : Nat → Int32} {sg mp : Nat → Int32} {sz msz : Int32} (h : SH wat fla fly lea clo con inn th mu ta ho bk flk lek mus) (ho' : ORDR od rk) (hg : SGT hs fs ssz smz ms) (hp : PADR sg sz msz mp) (now : Nat → Int32) (fa fw y : Int32) : ∃ (r : Int32) (now' : Nat → Int32) (fa' fw' : Int32), f_X9_told wat fla fly lea clo con inn th mu ta ho od ssz sz y = some r ∧ f_X10_told bk now flk lek mus rk smz msz fa fw y = some (r, now', fa', fw') := by
  unfold f_X9_told f_X10_told
  by_cases a : y < 100
  · rw [if_pos a, if_pos a]
    unfold B_X9_told_27
    by_cases b : y < 10
    · rw [if_pos b, if_pos b]
      obtain ⟨now', hnw, hno⟩ := asNow bk now fa fw
      have h' := SH_congr h hno
      obtain ⟨D, hD, d1, d2⟩ := SH_snow h'
      obtain ⟨E, hE, g1, g2⟩ := SH_free h'
      unfold B_X9_told_60
      rw [hnw, q_bd3, d1, d2, g1, g2, q_bd1, q_bd1, q_bd1, q_bd1]
      obtain ⟨T, U, hr, W, F, V, K, C, Q, P, ⟨hT, hU, hhr⟩, ⟨e1, e2, e3⟩, ⟨m1, m2, m3, m4⟩, hok, hx, hm, hn⟩ := h
      obtain ⟨n, hn1, n1, n2, n3⟩ := hg
      obtain ⟨k, hk1, k1, k2, k3⟩ := hp
      by_cases c0 : y = 0
      · exact ⟨nI k, now', -6, -6, by rw [if_pos c0, k1], by rw [if_pos c0, k2]⟩
      by_cases c1 : y = 1
      · exact ⟨nI T, now', -6, -6, by rw [if_neg c0, if_pos c1, e1], by rw [if_neg c0, if_pos c1, q_40, m1]⟩
      by_cases c2 : y = 2
      · exact ⟨nI D, now', -6, -6, by rw [if_neg c0, if_neg c1, if_pos c2], by rw [if_neg c0, if_neg c1, if_pos c2]⟩
      by_cases c3 : y = 3
      · exact ⟨nI E, now', -6, -6, by rw [if_neg c0, if_neg c1, if_neg c2, if_pos c3], by rw [if_neg c0, if_neg c1, if_neg c2, if_pos c3]⟩
      by_cases c4 : y = 4
      · exact ⟨ta, now', -6, -6, by rw [if_neg c0, if_neg c1, if_neg c2, if_neg c3, if_pos c4], by rw [if_neg c0, if_neg c1, if_neg c2, if_neg c3, if_pos c4, c4, show (37 : Int32) + 4 = nI 41 by decide, q_gin (by decide) (by decide), q_cl (by decide), m4]⟩
      by_cases c5 : y = 5
      · exact ⟨nI hr, now', -6, -6, by rw [if_neg c0, if_neg c1, if_neg c2, if_neg c3, if_neg c4, if_pos c5, e3], by rw [if_neg c0, if_neg c1, if_neg c2, if_neg c3, if_neg c4, if_pos c5, c5, show (37 : Int32) + 5 = nI 42 by decide, q_gin (by decide) (by decide), q_cl (by decide), m3]⟩
      by_cases c6 : y = 6
      · exact ⟨nI n, now', -6, -6, by rw [if_neg c0, if_neg c1, if_neg c2, if_neg c3, if_neg c4, if_neg c5, if_pos c6, n1], by rw [if_neg c0, if_neg c1, if_neg c2, if_neg c3, if_neg c4, if_neg c5, if_pos c6, n2]⟩
      exact ⟨-2, now', -6, -6, by rw [if_neg c0, if_neg c1, if_neg c2, if_neg c3, if_neg c4, if_neg c5, if_neg c6], by rw [if_neg c0, if_neg c1, if_neg c2, if_neg c3, if_neg c4, if_neg c5, if_neg c6]⟩
    · rw [if_neg b, if_neg b]
      have y0 : ¬ y < 0 := fun c => b (Int32.lt_trans c (by decide))
      obtain ⟨n, hn, rfl⟩ := nI_of y0
      have c1 : n < 100 := (nI_ltI hn (by decide)).mp a
      have c2 : ¬ n < 10 := fun c => b ((nI_ltI hn (by decide)).mpr c)
      rw [q_lit 10, q_lit 90, q_ifle (by decide) hn, q_div hn (by decide) (by decide), q_jrem hn (by decide) (by decide), q_lit 1, q_subN (by omega)]
      by_cases c : 90 ≤ n
      · have e : n / 10 - 1 = 8 := by omega
        rw [if_pos c, e]
        have q : f_X10_toldGlobe bk flk lek mus (nI 8) (nI (n % 10)) = some (-2) := by
          unfold f_X10_toldGlobe
          rw [q_isThere_b (by decide)]
          rfl
        refine ⟨-2, now, fa, fw, ?_, by rw [q]; rfl⟩
        unfold B_X9_told_60
        rw [if_neg (show ¬ nI n = 0 from fun e => by have := (nI_eq hn (show 0 < 2 ^ 31 by decide)).mp e; omega), if_neg (show ¬ nI n = 1 from fun e => by have := (nI_eq hn (show 1 < 2 ^ 31 by decide)).mp e; omega), if_neg (show ¬ nI n = 2 from fun e => by have := (nI_eq hn (show 2 < 2 ^ 31 by decide)).mp e; omega), if_neg (show ¬ nI n = 3 from fun e => by have := (nI_eq hn (show 3 < 2 ^ 31 by decide)).mp e; omega), if_neg (show ¬ nI n = 4 from fun e => by have := (nI_eq hn (show 4 < 2 ^ 31 by decide)).mp e; omega), if_neg (show ¬ nI n = 5 from fun e => by have := (nI_eq hn (show 5 < 2 ^ 31 by decide)).mp e; omega), if_neg (show ¬ nI n = 6 from fun e => by have := (nI_eq hn (show 6 < 2 ^ 31 by decide)).mp e; omega)]
      · rw [if_neg c]
        obtain ⟨r, r1, r2⟩ := told_globe h (show n / 10 - 1 < 8 by omega) (nI (n % 10))
        exact ⟨r, now, fa, fw, by rw [r1]; rfl, by rw [r2]; rfl⟩
  · rw [if_neg a, if_neg a]
    have y0 : ¬ y < 0 := fun c => a (Int32.lt_trans c (by decide))
    obtain ⟨n, hn, rfl⟩ := nI_of y0
    have c1 : ¬ n < 100 := fun c => a ((nI_ltI hn (by decide)).mpr c)
    unfold f_X10_in
    rw [q_lit 100, q_lit 106, q_lit 105, q_ifle (by decide) hn, q_ifl hn (by decide), if_neg c1, q_ifl (by decide) hn, q_subN (by omega)]
    by_cases c : 106 ≤ n
    · rw [if_pos c, if_pos (by omega)]
      refine ⟨-2, now, fa, fw, ?_, rfl⟩
      unfold B_X9_told_27 B_X9_told_60
      rw [q_lit 10, q_lit 90, q_ifl hn (by decide), if_neg (by omega), q_ifle (by decide) hn, if_pos (by omega)]
      rw [if_neg (show ¬ nI n = 0 from fun e => by have := (nI_eq hn (show 0 < 2 ^ 31 by decide)).mp e; omega), if_neg (show ¬ nI n = 1 from fun e => by have := (nI_eq hn (show 1 < 2 ^ 31 by decide)).mp e; omega), if_neg (show ¬ nI n = 2 from fun e => by have := (nI_eq hn (show 2 < 2 ^ 31 by decide)).mp e; omega), if_neg (show ¬ nI n = 3 from fun e => by have := (nI_eq hn (show 3 < 2 ^ 31 by decide)).mp e; omega), if_neg (show ¬ nI n = 4 from fun e => by have := (nI_eq hn (show 4 < 2 ^ 31 by decide)).mp e; omega), if_neg (show ¬ nI n = 5 from fun e => by have := (nI_eq hn (show 5 < 2 ^ 31 by decide)).mp e; omega), if_neg (show ¬ nI n = 6 from fun e => by have := (nI_eq hn (show 6 < 2 ^ 31 by decide)).mp e; omega)]
    · rw [if_neg c, if_neg (by omega), q_row ho' (by omega), q_bd1, q_bd1, if_neg (by decide), q_gin (by omega) (by decide), q_cl (by omega)]
      exact ⟨_, now, fa, fw, rfl, rfl⟩
