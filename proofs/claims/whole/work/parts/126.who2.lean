/-! pure: who, ask -/
theorem who_m {H F : Nat → Nat} {n : Nat} {hs fs ms : Nat → Int32} {y : Int32} (hS : SG H F n hs fs ms) : ∀ (j c N : Nat), c + j = 1000 → j < N → 100 ≤ c → (∃ d, c ≤ d ∧ d < 1000 ∧ okc H F n d = true ∧ y = nI (cnt H F n d) ∧ L_X10_who_5 (nI n) ms y N (nI (cnt H F n c)) (nI c) = some (nI d)) ∨ ((∀ d, c ≤ d → d < 1000 → okc H F n d = true → ¬ nI (cnt H F n d) = y) ∧ L_X10_who_5 (nI n) ms y N (nI (cnt H F n c)) (nI c) = some (if y = -1 then nI (cnt H F n 1000) else -6)) := by
  intro j
  induction j with
  | zero =>
    intro c N hj hN hc
    obtain ⟨N, rfl⟩ : ∃ a, N = a + 1 := ⟨N - 1, by omega⟩
    obtain rfl : c = 1000 := by omega
    refine Or.inr ⟨fun d h1 h2 => absurd h2 (by omega), ?_⟩
    rw [L_X10_who_5.eq_2, if_pos (show (1000 : Int32) ≤ nI 1000 by decide)]
    by_cases e : y = -1
    · rw [if_pos e, if_pos e]
    · rw [if_neg e, if_neg e]
  | succ j ih =>
    intro c N hj hN hc
    obtain ⟨N, rfl⟩ : ∃ a, N = a + 1 := ⟨N - 1, by omega⟩
    have e1 : L_X10_who_5 (nI n) ms y (N + 1) (nI (cnt H F n c)) (nI c) = if okc H F n c = true then (if nI (cnt H F n c) = y then some (nI c) else L_X10_who_5 (nI n) ms y N (nI (cnt H F n c + 1)) (nI (c + 1))) else L_X10_who_5 (nI n) ms y N (nI (cnt H F n c)) (nI (c + 1)) := by
      rw [L_X10_who_5.eq_2, q_lit 1000, q_ifle (by decide) (by omega), if_neg (by omega), q_mfit hS (by omega) hc, q_bd1, nI_1, nI_1]
      by_cases o : okc H F n c = true
      · rw [o, if_neg q_t0, if_pos rfl]
      · have o' : okc H F n c = false := by simpa using o
        rw [o', if_pos q_f0, if_neg (by decide)]
    by_cases o : okc H F n c = true
    · by_cases e : nI (cnt H F n c) = y
      · exact Or.inl ⟨c, Nat.le_refl c, by omega, o, e.symm, by rw [e1, if_pos o, if_pos e]⟩
      · have ec : cnt H F n (c + 1) = cnt H F n c + 1 := by rw [cnt_s, o]; rfl
        rw [e1, if_pos o, if_neg e, ← ec]
        rcases ih (c + 1) N (by omega) (by omega) (by omega) with ⟨d, h1, h2, h3, h4, h5⟩ | ⟨h1, h2⟩
        · exact Or.inl ⟨d, by omega, h2, h3, h4, h5⟩
        · refine Or.inr ⟨fun d d1 d2 d3 => ?_, h2⟩
          by_cases q : d = c
          · rw [q]; exact e
          · exact h1 d (by omega) d2 d3
    · have o' : okc H F n c = false := by simpa using o
      have ec : cnt H F n (c + 1) = cnt H F n c := by rw [cnt_s, o']; rfl
      rw [e1, if_neg o, ← ec]
      rcases ih (c + 1) N (by omega) (by omega) (by omega) with ⟨d, h1, h2, h3, h4, h5⟩ | ⟨h1, h2⟩
      · exact Or.inl ⟨d, by omega, h2, h3, h4, h5⟩
      · refine Or.inr ⟨fun d d1 d2 d3 => ?_, h2⟩
        by_cases q : d = c
        · rw [q] at d3; exact absurd d3 o
        · exact h1 d (by omega) d2 d3
theorem cnt_100 {H F : Nat → Nat} {n : Nat} : cnt H F n 100 = 0 := cnt_gap (a := 0) 100 (fun c h1 h2 => okc_no (by omega))
theorem core_who {hs fs : Nat → Int32} {sz msz : Int32} {ms : Nat → Int32} (h : SGT hs fs sz msz ms) (codes : Nat → Int32) (size y : Int32) : ∃ (r : Int32) (codes2 : Nat → Int32) (size2 : Int32), f_X9_who hs fs sz codes size y = some (r, codes2, size2) ∧ f_X10_who msz ms y = some r := by
  obtain ⟨H, F, n, hS, rfl, rfl⟩ := SGT_SG h
  obtain ⟨c2, a1, a2, a3⟩ := q_find hS codes size
  unfold f_X9_who f_X10_who f_X5_code
  rw [a1, q_bd2]
  have hw := who_m (y := y) hS 900 100 FU rfl (by have := q_FU; omega) (by omega)
  rw [cnt_100] at hw
  rcases hw with ⟨d, h1, h2, h3, h4, h5⟩ | ⟨h1, h2⟩
  · have hl := cnt_lt h2 h3
    refine ⟨nI d, c2, nI (cnt H F n 1000), ?_, h5⟩
    rw [h4, if_neg (show ¬ nI (cnt H F n d) = -1 from fun e => nI_pos (show cnt H F n d < 2 ^ 31 by omega) (by rw [e]; decide)), if_neg (nI_pos (by omega)), q_ifle (by omega) (by omega), if_neg (by omega), q_lit 189, q_ifle (by decide) (by omega), if_neg (by omega), q_gin (by omega) (by decide), q_cl (by omega), q_bd1, a2 d h2 h3]
  · by_cases e : y = -1
    · rw [if_pos e] at h2
      exact ⟨_, c2, _, by rw [if_pos e], h2⟩
    · rw [if_neg e] at h2
      refine ⟨-6, c2, nI (cnt H F n 1000), ?_, h2⟩
      rw [if_neg e]
      by_cases g : y < 0
      · rw [if_pos g, q_bd1]
      · obtain ⟨q, hq, rfl⟩ := nI_of g
        have hle : ∀ k, 100 + k ≤ 1000 → cnt H F n (100 + k) ≤ q := by
          intro k
          induction k with
          | zero => intro _; rw [cnt_100]; omega
          | succ k ih =>
            intro hk
            have h3 := ih (by omega)
            rw [← Nat.add_assoc, cnt_s]
            by_cases o : okc H F n (100 + k) = true
            · have h4 := h1 (100 + k) (by omega) (by omega) o
              have : ¬ cnt H F n (100 + k) = q := fun e => h4 (by rw [e])
              rw [o, if_pos rfl]
              omega
            · rw [if_neg o]
              omega
        have h9 := hle 900 (by omega)
        rw [if_neg g, q_ifle (by omega) hq, if_pos h9, q_bd1]
