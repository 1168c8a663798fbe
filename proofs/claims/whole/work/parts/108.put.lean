/-! pure: put, globe -/
theorem q_t0 : ¬ (if true = true then (1 : Int32) else 0) = 0 := by decide
theorem q_f0 : (if false = true then (1 : Int32) else 0) = 0 := by decide
theorem q_outer {inn : Nat → Int32} {T g : Nat} {P : Nat → Nat} (hT : T < 256) (hg : g < 8) (ht : T.testBit g = true) (x7 : inn g = pX (P g)) : f_X6_outer inn (nI T) (nI g) = some (pM (P g)) := by
  unfold f_X6_outer
  rw [q_has hT hg, ht, q_bd1, if_neg (by decide), q_gin hg (by decide), q_gin hg (by decide), q_cl (by omega), x7]
  by_cases c : P g < 8
  · rw [if_neg (fun e => pX_m1.mp e c), pX_in c, pM_in c]
  · rw [if_pos (pX_m1.mpr c), pM_out c]
theorem core_put {wat fla fly lea clo con inn : Nat → Int32} {th mu ta ho : Int32} {bk flk lek : Nat → Int32} {mus : Int32} (now : Nat → Int32) (fa fw y1 y2 : Int32) (h : SH wat fla fly lea clo con inn th mu ta ho bk flk lek mus) : ∃ (r : Int32) (inn' bk' now' : Nat → Int32) (fa' fw' : Int32), f_X9_put inn th y1 y2 = some (r, inn') ∧ f_X10_put bk now fa fw y1 y2 = some (r, bk', now', fa', fw') ∧ SH wat fla fly lea clo con inn' th mu ta ho bk' flk lek mus := by
  obtain ⟨now', ha, hnow⟩ := asNow bk now fa fw
  unfold f_X9_put f_X10_put B_X9_put_31 B_X10_put_23 B_X9_put_48 B_X10_put_43 B_X10_put_71
  rcases q_ix y1 with c | c | ⟨g, hg, rfl⟩
  · exact ⟨-1, inn, bk, now, fa, fw, by rw [q_has_n c]; rfl, by rw [q_isThere_n c]; rfl, h⟩
  · exact ⟨-1, inn, bk, now, fa, fw, by rw [q_has_b c]; rfl, by rw [q_isThere_b c]; rfl, h⟩
  · obtain ⟨T, U, hr, W, F, V, K, C, Q, P, h⟩ := h
    obtain ⟨⟨hT, hU, hhr⟩, ⟨e1, e2, e3⟩, ⟨m1, m2, m3, m4⟩, hok, hx, hm, hn⟩ := id h
    by_cases ht : T.testBit g = true
    · obtain ⟨x1, x2, x3, x4, x5, x6, x7⟩ := hx g hg ht
      obtain ⟨n1, n2, n3, n4, n5, n6, n7⟩ := hm g hg ht
      obtain ⟨k1, k2, k3, k4, k5, k6, k7, k8⟩ := hok g hg ht
      have hup : ∀ x, x < 8 → T.testBit x = true → 8 ≤ up P 8 x := fun g a b => (hok g a b).2.2.2.2.2.2.2
      have hc : ∀ x, x < 8 → T.testBit x = true → P x < 8 → T.testBit (P x) = true := fun x a b => (hok x a b).2.2.2.2.2.2.1
      have hpx : ∀ x, x < 8 → T.testBit x = true → inn x = pX (P x) ∧ (P x < 8 → T.testBit (P x) = true) := fun x a b => ⟨(hx x a b).2.2.2.2.2.2, hc x a b⟩
      have hpm : ∀ x, x < 8 → T.testBit x = true → now' (32 + x) = pM (P x) ∧ (P x < 8 → T.testBit (P x) = true) := fun x a b => ⟨by rw [hnow _ (by omega)]; exact (hm x a b).2.2.2.2.2.2, hc x a b⟩
      rw [e1, q_has hT hg, q_isThere hT hg m1, ht, q_bd1, q_bd1, if_neg q_t0, if_neg q_t0, ha]
      by_cases c1 : y2 = -1
      · subst c1
        refine ⟨pM (P g), upd inn g (-1), upd bk (32 + g) (-6), now', -6, -6, ?_, ?_, ⟨_, _, _, _, _, _, _, _, _, _, e1 ▸ SZ_one h hg (W g) (V g) (C g) (Q g) 8 k1 k3 k5 k6 (fun h => by omega) (fun x a b => up_move (T := fun x => T.testBit x = true) hup hc (fun h => by omega) (fun h => by omega) hg a b) x1 (fun _ _ => rfl) x3 (fun _ _ => rfl) x5 (fun _ _ => rfl) x6 (fun _ _ => rfl) (upd_g _ _ _) (fun j e => upd_n e) (by rw [upd_n (by omega)]; exact n1) (by rw [upd_n (by omega)]; exact n3) (by rw [upd_n (by omega)]; exact n5) (by rw [upd_n (by omega)]; exact n6) (upd_g _ _ _) (fun j _ _ _ _ e => upd_n e) ht⟩⟩
        · rw [if_pos rfl, if_pos rfl, q_outer hT hg ht x7, q_bd1, q_gin hg (by decide), q_cl (by omega)]
        · show _ = _
          simp only [bd3, Option.bind]
          rw [if_pos trivial, if_pos (by decide), q_lit 32, q_add, q_gin (by omega) (by decide), if_neg (by decide), q_gin (by omega) (by decide), q_cl (by omega), n7]
      · rw [if_neg c1, if_neg c1, if_neg c1]
        rcases q_ix y2 with c | c | ⟨o, hoo, rfl⟩
        · exact ⟨-1, inn, bk, now, fa, fw, by rw [q_has_n c]; rfl, by rw [q_isThere_n c]; rfl, ⟨_, _, _, _, _, _, _, _, _, _, e1 ▸ h⟩⟩
        · exact ⟨-1, inn, bk, now, fa, fw, by rw [q_has_b c]; rfl, by rw [q_isThere_b c]; rfl, ⟨_, _, _, _, _, _, _, _, _, _, e1 ▸ h⟩⟩
        · rw [q_has hT hoo, q_isThere hT hoo m1]
          by_cases hto : T.testBit o = true
          · have no : ¬ nI o < 0 := nI_pos (by omega)
            rw [hto, q_bd1, q_bd1, if_neg q_t0, if_neg q_t0, q_isWithin hT hg hoo hpx, hto, Bool.true_and, q_bd1]
            simp only [bd3, Option.bind]
            rw [if_neg no, q_misWithin hg hoo hto (hup o hoo hto) hpm, q_bd1]
            by_cases cw : win P 8 o g = true
            · exact ⟨-3, inn, bk, now', -6, -6, by rw [cw]; rfl, by rw [cw]; rfl, ⟨_, _, _, _, _, _, _, _, _, _, e1 ▸ h⟩⟩
            · have cw' : win P 8 o g = false := by simpa using cw
              refine ⟨pM (P g), upd inn g (nI o), upd bk (32 + g) (nI o), now', -6, -6, ?_, ?_, ⟨_, _, _, _, _, _, _, _, _, _, e1 ▸ SZ_one h hg (W g) (V g) (C g) (Q g) o k1 k3 k5 k6 (fun _ => hto) (fun x a b => up_move (T := fun x => T.testBit x = true) hup hc (fun _ => hto) (fun _ => cw') hg a b) x1 (fun _ _ => rfl) x3 (fun _ _ => rfl) x5 (fun _ _ => rfl) x6 (fun _ _ => rfl) (by rw [upd_g, pX_in hoo]) (fun j e => upd_n e) (by rw [upd_n (by omega)]; exact n1) (by rw [upd_n (by omega)]; exact n3) (by rw [upd_n (by omega)]; exact n5) (by rw [upd_n (by omega)]; exact n6) (by rw [upd_g, pM_in hoo]) (fun j _ _ _ _ e => upd_n e) ht⟩⟩
              · rw [cw', if_pos (by decide), q_outer hT hg ht x7, q_bd1, q_gin hg (by decide), q_cl (by omega)]
              · rw [cw', if_pos (by decide), q_lit 32, q_add, q_gin (by omega) (by decide), if_pos (nI_pos' (by omega)), q_gin (by omega) (by decide), q_cl (by omega), n7]
          · have hto' : T.testBit o = false := by simpa using hto
            exact ⟨-1, inn, bk, now, fa, fw, by rw [hto']; rfl, by rw [hto']; rfl, ⟨_, _, _, _, _, _, _, _, _, _, e1 ▸ h⟩⟩
    · have ht' : T.testBit g = false := by simpa using ht
      exact ⟨-1, inn, bk, now, fa, fw, by rw [e1, q_has hT hg, ht']; rfl, by rw [q_isThere hT hg m1, ht']; rfl, ⟨_, _, _, _, _, _, _, _, _, _, h⟩⟩
theorem or_bit {T g x : Nat} : (T ||| 2 ^ g).testBit x = (T.testBit x || decide (x = g)) := by
  rw [Nat.testBit_or, Nat.testBit_two_pow]
  by_cases e : g = x
  · simp [e]
  · simp [e, show ¬ x = g from fun h => e h.symm]
theorem or_lt {T g : Nat} (hT : T < 256) (hg : g < 8) : T ||| 2 ^ g < 256 := Nat.or_lt_two_pow (n := 8) hT (Nat.pow_lt_pow_right (by decide) hg)
theorem dif_or {U g : Nat} (hU : U < 256) (hg : g < 8) : dif U (2 ^ g) ||| 2 ^ g = U ||| 2 ^ g := by
  apply Nat.eq_of_testBit_eq
  intro j
  rw [or_bit, or_bit]
  by_cases hj : j < 8
  · rw [dif_bit hj]
    by_cases e : j = g
    · simp [e]
    · simp [e]
  · have h1 : (dif U (2 ^ g)).testBit j = false := Nat.testBit_lt_two_pow (Nat.lt_of_lt_of_le (orB_lt _ 8) (Nat.pow_le_pow_right (by decide) (by omega)))
    have h2 : U.testBit j = false := Nat.testBit_lt_two_pow (Nat.lt_of_lt_of_le hU (by rw [show 256 = 2 ^ 8 from rfl]; exact Nat.pow_le_pow_right (by decide) (by omega)))
    rw [h1, h2]
theorem set_x {wat fla fly lea clo con inn : Nat → Int32} {T U g w f k : Nat} {p5 : Int32} (hT : T < 256) (hU : U < 256) (hg : g < 8) : f_X6_set wat fla fly lea clo con inn (nI T) (nI U) (nI g) (nI w) (nI f) (nI k) p5 = some (upd wat g (nI w), upd fla g (nI f), upd fly g 0, upd lea g (nI k), upd clo g 0, upd con g 5, (if T.testBit g then inn else upd inn g (-1)), nI (T ||| 2 ^ g), nI (if p5 = 0 then dif U (2 ^ g) else U ||| 2 ^ g)) := by
  unfold f_X6_set B_X6_set_23 B_X6_set_62
  rw [q_isGlobe hg, q_bd1, if_neg (by decide), q_has hT hg, q_bd1]
  simp only [q_gin hg (show 8 < 2 ^ 31 by decide), q_cl (show g < 2 ^ 31 by omega), q_one hg, q_or, q_andn hU]
  cases T.testBit g
  · rw [if_pos (by decide)]
    by_cases c : p5 = 0
    · rw [if_pos c, if_pos c]; rfl
    · rw [if_neg c, if_neg c]; rfl
  · rw [if_neg (by decide)]
    by_cases c : p5 = 0
    · rw [if_pos c, if_pos c]; rfl
    · rw [if_neg c, if_neg c]; rfl
theorem core_globe {wat fla fly lea clo con inn : Nat → Int32} {th mu ta ho : Int32} {bk flk lek : Nat → Int32} {mus : Int32} (y1 y2 y3 y4 y5 : Int32) (h : SH wat fla fly lea clo con inn th mu ta ho bk flk lek mus) : ∃ (r : Int32) (wat' fla' fly' lea' clo' con' inn' : Nat → Int32) (th' mu' : Int32) (bk' flk' lek' : Nat → Int32) (mus' : Int32), f_X9_globe wat fla fly lea clo con inn th mu y1 y2 y3 y4 y5 = some (r, wat', fla', fly', lea', clo', con', inn', th', mu') ∧ f_X10_globe bk flk lek mus y1 y2 y3 y4 y5 = some (r, bk', flk', lek', mus') ∧ SH wat' fla' fly' lea' clo' con' inn' th' mu' ta ho bk' flk' lek' mus' := by
  unfold f_X9_globe f_X10_globe B_X10_globe_76 B_X10_globe_173
  rcases q_ix y1 with c | c | ⟨g, hg, rfl⟩
  · exact ⟨-1, wat, fla, fly, lea, clo, con, inn, th, mu, bk, flk, lek, mus, by rw [q_isGlobe_n c]; rfl, by rw [q_in7_n c]; rfl, h⟩
  · exact ⟨-1, wat, fla, fly, lea, clo, con, inn, th, mu, bk, flk, lek, mus, by rw [q_isGlobe_b c]; rfl, by rw [q_in7_b c]; rfl, h⟩
  · rw [q_isGlobe hg, q_in7 hg, q_bd1, q_bd1, if_neg (by decide), if_neg (show ¬ (1 : Int32) = 0 by decide)]
    rcases q_upTo y2 99 (by omega) with ⟨a, b⟩ | ⟨w, hw, rfl, a, b⟩
    · exact ⟨-2, wat, fla, fly, lea, clo, con, inn, th, mu, bk, flk, lek, mus, by rw [q_lit 99, a]; rfl, by rw [q_lit 99, b]; rfl, h⟩
    · rcases q_upTo y3 99 (by omega) with ⟨a2, b2⟩ | ⟨f, hf, rfl, a2, b2⟩
      · exact ⟨-2, wat, fla, fly, lea, clo, con, inn, th, mu, bk, flk, lek, mus, by rw [q_lit 99, a, a2]; rfl, by rw [q_lit 99, b, b2]; rfl, h⟩
      · rcases q_upTo y4 9 (by omega) with ⟨a3, b3⟩ | ⟨k, hk, rfl, a3, b3⟩
        · exact ⟨-2, wat, fla, fly, lea, clo, con, inn, th, mu, bk, flk, lek, mus, by rw [q_lit 99, a, a2, q_lit 9, a3]; rfl, by rw [q_lit 99, b, b2, q_lit 9, b3]; rfl, h⟩
        · obtain ⟨T, U, hr, W, F, V, K, C, Q, P, h⟩ := h
          obtain ⟨⟨hT, hU, hhr⟩, ⟨e1, e2, e3⟩, ⟨m1, m2, m3, m4⟩, hok, hx, hm, hn⟩ := id h
          have hup : ∀ x, x < 8 → T.testBit x = true → 8 ≤ up P 8 x := fun g a b => (hok g a b).2.2.2.2.2.2.2
          have hc : ∀ x, x < 8 → T.testBit x = true → P x < 8 → T.testBit (P x) = true := fun x a b => (hok x a b).2.2.2.2.2.2.1
          obtain ⟨p, hp⟩ : ∃ p, p = if T.testBit g then P g else 8 := ⟨_, rfl⟩
          have hT' := or_lt hT hg
          have hU' : (if y5 = 0 then dif U (2 ^ g) else U ||| 2 ^ g) < 256 := by
            by_cases c : y5 = 0
            · rw [if_pos c]; exact orB_lt _ 8
            · rw [if_neg c]; exact or_lt hU hg
          have hpg : p < 8 → T.testBit p = true := by
            intro h8
            by_cases ht : T.testBit g = true
            · rw [hp, if_pos ht] at h8 ⊢
              exact hc g hg ht h8
            · rw [hp, if_neg ht] at h8
              omega
          have hup' : ∀ x, x < 8 → (T ||| 2 ^ g).testBit x = true → 8 ≤ up (st P g p) 8 x := by
            intro x hx8 hTx
            by_cases ht : T.testBit g = true
            · rw [hp, if_pos ht, st_same]
              refine hup x hx8 ?_
              rw [or_bit] at hTx
              by_cases e : x = g
              · rw [e]; exact ht
              · simpa [e] using hTx
            · rw [hp, if_neg ht]
              by_cases e : x = g
              · rw [e, up, if_pos hg, st_g, up_big (by omega)]; omega
              · rw [or_bit] at hTx
                exact up_move (T := fun x => T.testBit x = true) hup hc (fun h => by omega) (fun h => by omega) hg hx8 (by simpa [e] using hTx)
          obtain ⟨bk', hbk⟩ : ∃ bk' : Nat → Int32, bk' = upd (upd (upd (upd (upd (upd bk (32 + g) (pM p)) g (nI w)) (8 + g) 0) (16 + g) 0) (24 + g) 5) 40 (nI (T ||| 2 ^ g)) := ⟨_, rfl⟩
          refine ⟨nI (pc8 (T ||| 2 ^ g)), upd wat g (nI w), upd fla g (nI f), upd fly g 0, upd lea g (nI k), upd clo g 0, upd con g 5, (if T.testBit g then inn else upd inn g (-1)), nI (T ||| 2 ^ g), nI (if y5 = 0 then dif U (2 ^ g) else U ||| 2 ^ g), bk', upd flk g (nI f), upd lek g (nI k), nI (if y5 = 0 then dif U (2 ^ g) else U ||| 2 ^ g), ?_, ?_, ⟨T ||| 2 ^ g, _, hr, st W g w, st F g f, st V g 0, st K g k, st C g 0, st Q g 5, st P g p, ⟨hT', hU', hhr⟩, ⟨rfl, rfl, e3⟩, ⟨?_, rfl, ?_, ?_⟩, ?_, ?_, ?_, ?_⟩⟩
          rotate_left
          · rw [q_lit 99, b, b2, q_lit 9, b3, q_bd1, q_bd1, q_bd1, if_neg (by decide), if_neg (show ¬ (1 : Int32) = 0 by decide), if_neg (show ¬ (1 : Int32) = 0 by decide), q_isThere hT hg m1, q_bd1, q_lit 32, q_lit 8, q_lit 16, q_lit 24, q_add, q_add, q_add, q_add]
            simp only [q_gin (show g < 8 from hg) (show 8 < 2 ^ 31 by decide), q_gin (show g < 43 by omega) (show 43 < 2 ^ 31 by decide), q_gin (show 8 + g < 43 by omega) (show 43 < 2 ^ 31 by decide), q_gin (show 16 + g < 43 by omega) (show 43 < 2 ^ 31 by decide), q_gin (show 24 + g < 43 by omega) (show 43 < 2 ^ 31 by decide), q_gin (show 32 + g < 43 by omega) (show 43 < 2 ^ 31 by decide), q_cl (show g < 2 ^ 31 by omega), q_cl (show 8 + g < 2 ^ 31 by omega), q_cl (show 16 + g < 2 ^ 31 by omega), q_cl (show 24 + g < 2 ^ 31 by omega), q_cl (show 32 + g < 2 ^ 31 by omega), q_40, q_one hg, upd_g]
            have e40 : ∀ s0 : Int32, upd (upd (upd (upd (upd bk (32 + g) s0) g (nI w)) (8 + g) 0) (16 + g) 0) (24 + g) 5 40 = nI T := fun s0 => by
              rw [upd_n (by omega), upd_n (by omega), upd_n (by omega), upd_n (by omega), upd_n (by omega)]; exact m1
            simp only [e40, q_or, q_bits8 ⟨_, hT'⟩, m2, q_andn hU, q_or0, q_bd1, dif_or hU hg]
            have fin : ∀ s0 : Int32, s0 = pM p → (if y5 = 0 then some (nI (pc8 (T ||| 2 ^ g)), upd (upd (upd (upd (upd (upd bk (32 + g) s0) g (nI w)) (8 + g) 0) (16 + g) 0) (24 + g) 5) 40 (nI (T ||| 2 ^ g)), upd flk g (nI f), upd lek g (nI k), nI (dif U (2 ^ g))) else some (nI (pc8 (T ||| 2 ^ g)), upd (upd (upd (upd (upd (upd bk (32 + g) s0) g (nI w)) (8 + g) 0) (16 + g) 0) (24 + g) 5) 40 (nI (T ||| 2 ^ g)), upd flk g (nI f), upd lek g (nI k), nI (U ||| 2 ^ g))) = some (nI (pc8 (T ||| 2 ^ g)), bk', upd flk g (nI f), upd lek g (nI k), nI (if y5 = 0 then dif U (2 ^ g) else U ||| 2 ^ g)) := by
              intro s0 hs0
              rw [hs0, hbk]
              by_cases c : y5 = 0
              · rw [if_pos c, if_pos c]
              · rw [if_neg c, if_neg c]
            by_cases ht : T.testBit g = true
            · rw [ht, if_neg q_t0]
              exact fin _ (by rw [hp, if_pos ht]; exact (hm g hg ht).2.2.2.2.2.2)
            · have ht' : T.testBit g = false := by simpa using ht
              rw [ht', if_pos q_f0]
              exact fin _ (by rw [hp, if_neg ht]; rfl)
          · rw [hbk, upd_g]
          · rw [hbk, upd_n (by omega), upd_n (by omega), upd_n (by omega), upd_n (by omega), upd_n (by omega), upd_n (by omega)]; exact m3
          · rw [hbk, upd_n (by omega), upd_n (by omega), upd_n (by omega), upd_n (by omega), upd_n (by omega), upd_n (by omega)]; exact m4
          · intro j hj hTj
            have hu := hup' j hj hTj
            by_cases e : j = g
            · subst e
              rw [st_g, st_g, st_g, st_g, st_g, st_g, st_g]
              exact ⟨hw, hf, by omega, hk, by omega, by omega, fun h8 => by rw [or_bit, hpg h8]; rfl, hu⟩
            · rw [st_n e, st_n e, st_n e, st_n e, st_n e, st_n e, st_n e]
              obtain ⟨b1, b2, b3, b4, b5, b6, b7, b8⟩ := hok j hj (by rw [or_bit] at hTj; simpa [e] using hTj)
              exact ⟨b1, b2, b3, b4, b5, b6, fun h8 => by rw [or_bit, b7 h8]; rfl, hu⟩
          · intro j hj hTj
            by_cases e : j = g
            · subst e
              rw [st_g, st_g, st_g, st_g, st_g, st_g, st_g]
              refine ⟨upd_g _ _ _, upd_g _ _ _, upd_g _ _ _, upd_g _ _ _, upd_g _ _ _, upd_g _ _ _, ?_⟩
              by_cases ht : T.testBit j = true
              · rw [if_pos ht, hp, if_pos ht]; exact (hx j hg ht).2.2.2.2.2.2
              · rw [if_neg ht, hp, if_neg ht, upd_g]; rfl
            · rw [st_n e, st_n e, st_n e, st_n e, st_n e, st_n e, st_n e, upd_n e, upd_n e, upd_n e, upd_n e, upd_n e, upd_n e]
              obtain ⟨b1, b2, b3, b4, b5, b6, b7⟩ := hx j hj (by rw [or_bit] at hTj; simpa [e] using hTj)
              refine ⟨b1, b2, b3, b4, b5, b6, ?_⟩
              split
              · exact b7
              · rw [upd_n e]; exact b7
          · intro j hj hTj
            by_cases e : j = g
            · subst e
              rw [st_g, st_g, st_g, st_g, st_g, st_g, st_g, hbk]
              refine ⟨?_, upd_g _ _ _, ?_, upd_g _ _ _, ?_, ?_, ?_⟩
              · rw [upd_n (by omega), upd_n (by omega), upd_n (by omega), upd_n (by omega), upd_g]
              · rw [upd_n (by omega), upd_n (by omega), upd_n (by omega), upd_g]; rfl
              · rw [upd_n (by omega), upd_n (by omega), upd_g]; rfl
              · rw [upd_n (by omega), upd_g]; rfl
              · rw [upd_n (by omega), upd_n (by omega), upd_n (by omega), upd_n (by omega), upd_n (by omega), upd_g]
            · rw [st_n e, st_n e, st_n e, st_n e, st_n e, st_n e, st_n e, upd_n e, upd_n e, hbk]
              obtain ⟨b1, b2, b3, b4, b5, b6, b7⟩ := hm j hj (by rw [or_bit] at hTj; simpa [e] using hTj)
              refine ⟨?_, b2, ?_, b4, ?_, ?_, ?_⟩ <;> rw [upd_n (by omega), upd_n (by omega), upd_n (by omega), upd_n (by omega), upd_n (by omega), upd_n (by omega)] <;> assumption
          · intro j hj hTj
            rw [or_bit, Bool.or_eq_false_iff, decide_eq_false_iff_not] at hTj
            have hjg := hTj.2
            rw [hbk, upd_n (by omega), upd_n (by omega), upd_n (by omega), upd_n (by omega), upd_n (by omega), upd_n (by omega)]
            exact hn j hj hTj.1
          · rw [q_lit 99, a, a2, q_lit 9, a3, q_bd1, q_bd1, q_bd1, if_neg (by decide), if_neg (show ¬ (1 : Int32) = 0 by decide), if_neg (show ¬ (1 : Int32) = 0 by decide), e1, e2, set_x hT hU hg]
            simp only [bd9, Option.bind]
            rw [q_bitCount8 ⟨_, hT'⟩, q_bd1]
