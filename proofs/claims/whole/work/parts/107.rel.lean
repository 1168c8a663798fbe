/-! pure: the relation of what lasts; fly, mood, put, globe -/
def PADR (sg : Nat → Int32) (sz msz : Int32) (mp : Nat → Int32) : Prop := ∃ n, n ≤ 60 ∧ sz = nI n ∧ msz = nI n ∧ ∀ i, i < n → ∃ c, 33 ≤ c ∧ c ≤ 126 ∧ sg i = nI c ∧ mp i = nI c
def SGT (hs fs : Nat → Int32) (sz msz : Int32) (ms : Nat → Int32) : Prop := ∃ n, n ≤ 8 ∧ sz = nI n ∧ msz = nI n ∧ ∀ i, i < n → ∃ h f, h ≤ 60 ∧ f ≤ 99 ∧ hs i = nI h ∧ fs i = nI f ∧ ms (2 * i) = nI h ∧ ms (2 * i + 1) = nI f
def ORDR (od rk : Nat → Int32) : Prop := ∀ k, k < 6 → ∃ d : Nat → Nat, (∀ i, i < 6 → d i < 6) ∧ (∀ i j, i < 6 → j < 6 → d i = d j → i = j) ∧ (∀ i, i < 6 → od (6 * k + i) = nI (d i)) ∧ rk k = nI (100000 * d 0 + 10000 * d 1 + 1000 * d 2 + 100 * d 3 + 10 * d 4 + d 5)
def STR (wat fla fly lea clo con inn : Nat → Int32) (th mu ta ho : Int32) (od hs fs : Nat → Int32) (sz : Int32) (bk flk lek : Nat → Int32) (mus : Int32) (rk : Nat → Int32) (msz : Int32) (ms : Nat → Int32) : Prop :=
  SH wat fla fly lea clo con inn th mu ta ho bk flk lek mus ∧ ORDR od rk ∧ SGT hs fs sz msz ms
def IMG (kp mk : Int32) (wat fla fly lea clo con inn : Nat → Int32) (th mu ta ho : Int32) (od hs fs : Nat → Int32) (sz : Int32) (im : Nat → Int32) (o : Nat) : Prop :=
  (kp = 0 ∧ mk = 0) ∨ (kp = 1 ∧ mk = 1 ∧ STR wat fla fly lea clo con inn th mu ta ho od hs fs sz (fun k => im (o + k)) (fun k => im (o + 43 + k)) (fun k => im (o + 51 + k)) (im (o + 90)) (fun k => im (o + 59 + k)) (im (o + 91)) (fun k => im (o + 65 + k)))
theorem SZ_congr {T U hr : Nat} {W F V K C Q P : Nat → Nat} {wat fla fly lea clo con inn : Nat → Int32} {th mu ta ho : Int32} {bk bk' flk lek : Nat → Int32} {mus : Int32} (h : SZ T U hr W F V K C Q P wat fla fly lea clo con inn th mu ta ho bk flk lek mus) (e : ∀ k, k < 43 → bk' k = bk k) : SZ T U hr W F V K C Q P wat fla fly lea clo con inn th mu ta ho bk' flk lek mus := by
  obtain ⟨hT, e1, ⟨m1, m2, m3, m4⟩, hok, hx, hm, hn⟩ := h
  refine ⟨hT, e1, ⟨by rw [e 40 (by omega)]; exact m1, m2, by rw [e 42 (by omega)]; exact m3, by rw [e 41 (by omega)]; exact m4⟩, hok, hx, fun j hj hTj => ?_, fun j hj hTj => ?_⟩
  · rw [e j (by omega), e (8 + j) (by omega), e (16 + j) (by omega), e (24 + j) (by omega), e (32 + j) (by omega)]
    exact hm j hj hTj
  · rw [e (32 + j) (by omega)]
    exact hn j hj hTj
theorem SH_congr {wat fla fly lea clo con inn : Nat → Int32} {th mu ta ho : Int32} {bk bk' flk lek : Nat → Int32} {mus : Int32} (h : SH wat fla fly lea clo con inn th mu ta ho bk flk lek mus) (e : ∀ k, k < 43 → bk' k = bk k) : SH wat fla fly lea clo con inn th mu ta ho bk' flk lek mus := by
  obtain ⟨T, U, hr, W, F, V, K, C, Q, P, h⟩ := h
  exact ⟨T, U, hr, W, F, V, K, C, Q, P, SZ_congr h e⟩
theorem asNow_l (bk : Nat → Int32) (a b : Int32) : ∀ (k i n : Nat) (now : Nat → Int32), i + k = 43 → k < n → (∀ j, j < i → now j = bk j) → ∃ now' : Nat → Int32, L_X10_asNow_2 bk n now a b (nI i) = some (now', -6, -6) ∧ ∀ j, j < 43 → now' j = bk j := by
  intro k
  induction k with
  | zero =>
    intro i n now hi hn h
    obtain ⟨n, rfl⟩ : ∃ a, n = a + 1 := ⟨n - 1, by omega⟩
    obtain rfl : i = 43 := by omega
    exact ⟨now, by rw [L_X10_asNow_2.eq_2, if_pos (by decide)], h⟩
  | succ k ih =>
    intro i n now hi hn h
    obtain ⟨n, rfl⟩ : ∃ a, n = a + 1 := ⟨n - 1, by omega⟩
    rw [L_X10_asNow_2.eq_2, q_lit 43, q_ifle (by decide) (by omega), if_neg (by omega), q_gin (by omega) (by decide), q_gin (by omega) (by decide), q_cl (by omega), nI_1]
    refine ih (i + 1) n _ (by omega) (by omega) (fun j hj => ?_)
    by_cases e : j = i
    · rw [e, upd_g]
    · rw [upd_n e]
      exact h j (by omega)
theorem asNow (bk now : Nat → Int32) (a b : Int32) : ∃ now' : Nat → Int32, f_X10_asNow bk now a b = some (now', -6, -6) ∧ ∀ j, j < 43 → now' j = bk j := by
  unfold f_X10_asNow
  exact asNow_l bk a b 43 0 FU now rfl (by have := q_FU; omega) (fun j hj => absurd hj (by omega))
theorem core_fly {wat fla fly lea clo con inn : Nat → Int32} {th mu ta ho : Int32} {bk flk lek : Nat → Int32} {mus : Int32} (y1 y2 : Int32) (h : SH wat fla fly lea clo con inn th mu ta ho bk flk lek mus) : ∃ (r : Int32) (fly' bk' : Nat → Int32), f_X9_fly fla fly th y1 y2 = some (r, fly') ∧ f_X10_fly bk flk y1 y2 = some (r, bk') ∧ SH wat fla fly' lea clo con inn th mu ta ho bk' flk lek mus := by
  unfold f_X9_fly f_X10_fly
  rcases q_ix y1 with c | c | ⟨g, hg, rfl⟩
  · exact ⟨-1, fly, bk, by rw [q_has_n c]; rfl, by rw [q_isThere_n c]; rfl, h⟩
  · exact ⟨-1, fly, bk, by rw [q_has_b c]; rfl, by rw [q_isThere_b c]; rfl, h⟩
  · obtain ⟨T, U, hr, W, F, V, K, C, Q, P, h⟩ := h
    obtain ⟨⟨hT, hU, hhr⟩, ⟨e1, e2, e3⟩, ⟨m1, m2, m3, m4⟩, hok, hx, hm, hn⟩ := id h
    by_cases ht : T.testBit g = true
    · obtain ⟨x1, x2, x3, x4, x5, x6, x7⟩ := hx g hg ht
      obtain ⟨n1, n2, n3, n4, n5, n6, n7⟩ := hm g hg ht
      obtain ⟨k1, k2, k3, k4, k5, k6, k7, k8⟩ := hok g hg ht
      rw [e1, q_has hT hg, q_isThere hT hg m1, ht, q_bd1, q_bd1, if_neg (by decide), if_neg (by decide), q_gin hg (by decide), q_gin hg (by decide), q_cl (by omega), x2, n2, x3, q_gin hg (by decide), q_gin hg (by decide), q_lit 8, q_add, q_gin (by omega) (by decide), q_gin (by omega) (by decide), q_cl (by omega), n3]
      rcases q_upTo y2 (F g) (by omega) with ⟨a, b⟩ | ⟨v, hv, rfl, a, b⟩
      · exact ⟨-2, fly, bk, by rw [a]; rfl, by rw [b]; rfl, ⟨_, _, _, _, _, _, _, _, _, _, e1 ▸ h⟩⟩
      · refine ⟨nI (V g), upd fly g (nI v), upd bk (8 + g) (nI v), by rw [a]; rfl, by rw [b]; rfl, ⟨_, _, _, _, _, _, _, _, _, _, e1 ▸ SZ_one h hg (W g) v (C g) (Q g) (P g) k1 hv k5 k6 k7 (up_same (fun g a b => (hok g a b).2.2.2.2.2.2.2)) x1 (fun _ _ => rfl) (upd_g _ _ _) (fun j e => upd_n e) x5 (fun _ _ => rfl) x6 (fun _ _ => rfl) x7 (fun _ _ => rfl) (by rw [upd_n (by omega)]; exact n1) (upd_g _ _ _) (by rw [upd_n (by omega)]; exact n5) (by rw [upd_n (by omega)]; exact n6) (by rw [upd_n (by omega)]; exact n7) (fun j _ b _ _ _ => upd_n b) ht⟩⟩
    · have ht' : T.testBit g = false := by simpa using ht
      exact ⟨-1, fly, bk, by rw [e1, q_has hT hg, ht']; rfl, by rw [q_isThere hT hg m1, ht']; rfl, ⟨_, _, _, _, _, _, _, _, _, _, h⟩⟩
theorem core_mood {wat fla fly lea clo con inn : Nat → Int32} {th mu ta ho : Int32} {bk flk lek : Nat → Int32} {mus : Int32} (y1 y2 y3 : Int32) (h : SH wat fla fly lea clo con inn th mu ta ho bk flk lek mus) : ∃ (r : Int32) (clo' con' bk' : Nat → Int32), f_X9_mood clo con th y1 y2 y3 = some (r, clo', con') ∧ f_X10_mood bk y1 y2 y3 = some (r, bk') ∧ SH wat fla fly lea clo' con' inn th mu ta ho bk' flk lek mus := by
  unfold f_X9_mood f_X10_mood
  rcases q_ix y1 with c | c | ⟨g, hg, rfl⟩
  · exact ⟨-1, clo, con, bk, by rw [q_has_n c]; rfl, by rw [q_isThere_n c]; rfl, h⟩
  · exact ⟨-1, clo, con, bk, by rw [q_has_b c]; rfl, by rw [q_isThere_b c]; rfl, h⟩
  · obtain ⟨T, U, hr, W, F, V, K, C, Q, P, h⟩ := h
    obtain ⟨⟨hT, hU, hhr⟩, ⟨e1, e2, e3⟩, ⟨m1, m2, m3, m4⟩, hok, hx, hm, hn⟩ := id h
    by_cases ht : T.testBit g = true
    · obtain ⟨x1, x2, x3, x4, x5, x6, x7⟩ := hx g hg ht
      obtain ⟨n1, n2, n3, n4, n5, n6, n7⟩ := hm g hg ht
      obtain ⟨k1, k2, k3, k4, k5, k6, k7, k8⟩ := hok g hg ht
      rcases q_upTo y2 9 (by omega) with ⟨a, b⟩ | ⟨v, hv, rfl, a, b⟩
      · exact ⟨-2, clo, con, bk, by rw [e1, q_has hT hg, ht, q_bd1, if_neg (by decide), q_lit 9, a]; rfl, by rw [q_isThere hT hg m1, ht, q_bd1, if_neg (by decide), q_lit 9, b]; rfl, ⟨_, _, _, _, _, _, _, _, _, _, h⟩⟩
      · rcases q_upTo y3 9 (by omega) with ⟨a2, b2⟩ | ⟨q, hq', rfl, a2, b2⟩
        · exact ⟨-2, clo, con, bk, by rw [e1, q_has hT hg, ht, q_bd1, if_neg (by decide), q_lit 9, a, a2]; rfl, by rw [q_isThere hT hg m1, ht, q_bd1, if_neg (by decide), q_lit 9, b, b2]; rfl, ⟨_, _, _, _, _, _, _, _, _, _, h⟩⟩
        · refine ⟨nI (10 * C g + Q g), upd clo g (nI v), upd con g (nI q), upd (upd bk (16 + g) (nI v)) (24 + g) (nI q), ?_, ?_, ⟨_, _, _, _, _, _, _, _, _, _, SZ_one h hg (W g) (V g) v q (P g) k1 k3 hv hq' k7 (up_same (fun g a b => (hok g a b).2.2.2.2.2.2.2)) x1 (fun _ _ => rfl) x3 (fun _ _ => rfl) (upd_g _ _ _) (fun j e => upd_n e) (upd_g _ _ _) (fun j e => upd_n e) x7 (fun _ _ => rfl) (by rw [upd_n (by omega), upd_n (by omega)]; exact n1) (by rw [upd_n (by omega), upd_n (by omega)]; exact n3) (by rw [upd_n (by omega), upd_g]) (upd_g _ _ _) (by rw [upd_n (by omega), upd_n (by omega)]; exact n7) (fun j _ _ c d _ => by rw [upd_n d, upd_n c]) ht⟩⟩
          · rw [e1, q_has hT hg, ht, q_bd1, if_neg (by decide), q_lit 9, a, a2, q_bd1, if_neg (by decide), q_bd1, if_neg (by decide), q_gin hg (by decide), q_gin hg (by decide), q_gin hg (by decide), q_gin hg (by decide), q_cl (by omega), x5, x6, q_lit 10, pk_mul, q_add]
          · rw [q_isThere hT hg m1, ht, q_bd1, if_neg (by decide), q_lit 9, b, b2, q_bd1, if_neg (by decide), q_bd1, if_neg (by decide), q_lit 16, q_lit 24, q_add, q_add, q_gin (by omega) (by decide), q_gin (by omega) (by decide), q_gin (by omega) (by decide), q_gin (by omega) (by decide), q_cl (by omega), q_cl (by omega), n5, n6, q_lit 10, pk_mul, q_add]
    · have ht' : T.testBit g = false := by simpa using ht
      exact ⟨-1, clo, con, bk, by rw [e1, q_has hT hg, ht']; rfl, by rw [q_isThere hT hg m1, ht']; rfl, ⟨_, _, _, _, _, _, _, _, _, _, h⟩⟩
