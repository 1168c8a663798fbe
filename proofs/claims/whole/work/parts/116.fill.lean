/-! pure: sights, fillings, rows, told -/
theorem core_seen {hs fs : Nat → Int32} {sz msz : Int32} {ms : Nat → Int32} (y1 y2 : Int32) (h : SGT hs fs sz msz ms) : ∃ (r : Int32) (hs' fs' : Nat → Int32) (sz' msz' : Int32) (ms' : Nat → Int32), f_X9_seen hs fs sz y1 y2 = some (r, hs', fs', sz') ∧ f_X10_seen msz ms y1 y2 = some (r, msz', ms') ∧ SGT hs' fs' sz' msz' ms' := by
  unfold f_X9_seen f_X10_seen f_X7_add
  rcases q_upTo y1 60 (by omega) with ⟨a, b⟩ | ⟨hh, hh1, rfl, a, b⟩
  · exact ⟨-2, hs, fs, sz, msz, ms, by rw [q_lit 60, a]; rfl, by rw [q_lit 60, b]; rfl, h⟩
  · rcases q_upTo y2 99 (by omega) with ⟨a2, b2⟩ | ⟨ff, ff1, rfl, a2, b2⟩
    · exact ⟨-2, hs, fs, sz, msz, ms, by rw [q_lit 60, a, q_lit 99, a2]; rfl, by rw [q_lit 60, b, q_lit 99, b2]; rfl, h⟩
    · obtain ⟨n, hn, e1, e2, hc⟩ := id h
      rw [q_lit 60, a, b, q_lit 99, a2, b2, q_bd1, q_bd1, q_bd1, q_bd1, if_neg (show ¬ (1 : Int32) = 0 by decide), if_neg (show ¬ (1 : Int32) = 0 by decide), if_neg (show ¬ (1 : Int32) = 0 by decide), if_neg (show ¬ (1 : Int32) = 0 by decide), e1, e2, if_neg (nI_pos (by omega)), q_lit 8, q_ifl (by omega) (by decide), q_ife (by omega) (by decide)]
      by_cases c : n < 8
      · rw [if_pos c, if_neg (show ¬ n = 8 by omega), q_gin c (by decide), q_gin c (by decide), q_cl (by omega), q_bd4, if_neg (show ¬ (1 : Int32) = 0 by decide), q_lit 2, pk_mul, nI_1, nI_1, q_gin (by omega) (by decide), q_gin (by omega) (by decide), q_cl (by omega), q_cl (by omega)]
        refine ⟨_, _, _, _, _, _, rfl, rfl, n + 1, by omega, rfl, rfl, fun i hi => ?_⟩
        by_cases e : i = n
        · subst e
          exact ⟨hh, ff, hh1, ff1, upd_g _ _ _, upd_g _ _ _, by rw [upd_n (by omega), upd_g], upd_g _ _ _⟩
        · rw [upd_n e, upd_n e, upd_n (by omega), upd_n (by omega), upd_n (by omega), upd_n (by omega)]
          exact hc i (by omega)
      · rw [if_neg c, if_pos (show n = 8 by omega), q_bd4, if_pos rfl]
        exact ⟨_, _, _, _, _, _, rfl, rfl, n, hn, rfl, rfl, hc⟩
theorem core_forget {hs fs : Nat → Int32} {sz msz : Int32} {ms : Nat → Int32} (h : SGT hs fs sz msz ms) : ∃ (r sz' msz' : Int32), f_X9_forget sz = some (r, sz') ∧ f_X10_forget msz = some (r, msz') ∧ SGT hs fs sz' msz' ms := by
  obtain ⟨n, hn, e1, e2, hc⟩ := h
  exact ⟨nI n, 0, 0, by unfold f_X9_forget; rw [e1], by unfold f_X10_forget; rw [e2], 0, by omega, rfl, rfl, fun i hi => absurd hi (by omega)⟩
/-! fillings -/
def fo (K : Nat) : Nat → Nat → Nat
  | 0, _ => 0
  | n + 1, w => if K < w then fo K n (w - K) else 1 + fo K n (99 - K)
theorem fill_x {wat lea : Nat → Int32} {th : Int32} {g K h : Nat} (hg : g < 8) (hl : lea g = nI K) (hK : K ≤ 9) (hh : h ≤ 99) : ∀ (k i n a w : Nat), i + k = h → k < n → w ≤ 99 → L_X6_fillingsOf_23 wat lea th (nI g) (nI h) n (nI a) (nI w) (nI i) = some (nI (a + fo K k w)) := by
  intro k
  induction k with
  | zero =>
    intro i n a w hi hn hw
    obtain ⟨n, rfl⟩ : ∃ a, n = a + 1 := ⟨n - 1, by omega⟩
    rw [L_X6_fillingsOf_23.eq_2, q_ifle (by omega) (by omega), if_pos (by omega)]; rfl
  | succ k ih =>
    intro i n a w hi hn hw
    obtain ⟨n, rfl⟩ : ∃ a, n = a + 1 := ⟨n - 1, by omega⟩
    rw [L_X6_fillingsOf_23.eq_2, q_ifle (by omega) (by omega), if_neg (by omega)]
    unfold B_X6_fillingsOf_47
    rw [q_gin hg (by decide), q_gin hg (by decide), q_gin hg (by decide), q_cl (by omega), hl, q_ifl (by omega) (by omega), nI_1, nI_1, fo]
    by_cases c : K < w
    · rw [if_pos c, if_pos c, q_subN (by omega)]
      exact ih (i + 1) n a (w - K) (by omega) (by omega) (by omega)
    · rw [if_neg c, if_neg c, q_lit 99, q_subN (by omega), show a + (1 + fo K k (99 - K)) = a + 1 + fo K k (99 - K) by omega]
      exact ih (i + 1) n (a + 1) (99 - K) (by omega) (by omega) (by omega)
theorem fill_m {bk lek : Nat → Int32} {rec : Int32 → Int32 → Option Int32} {T g K W h : Nat} (hT : T < 256) (hg : g < 8) (ht : T.testBit g = true) (hb : bk 40 = nI T) (hw : bk g = nI W) (hW : 0 < W) (hW9 : W ≤ 99) (hl : lek g = nI K) (hK : K ≤ 9) (hh : h ≤ 99) : ∀ (k i n a w : Nat), i + k = h → k < n → w ≤ 99 → L_X10_fill_34 bk lek (nI h) rec n (nI a) (nI g) (nI w) (nI i) = rec (nI (a + fo K k w)) (nI (g + 1)) := by
  intro k
  induction k with
  | zero =>
    intro i n a w hi hn hw
    obtain ⟨n, rfl⟩ : ∃ a, n = a + 1 := ⟨n - 1, by omega⟩
    rw [L_X10_fill_34.eq_2, q_ifle (by omega) (by omega), if_pos (by omega), nI_1]; rfl
  | succ k ih =>
    intro i n a w hi hn hw'
    obtain ⟨n, rfl⟩ : ∃ a, n = a + 1 := ⟨n - 1, by omega⟩
    rw [L_X10_fill_34.eq_2, q_ifle (by omega) (by omega), if_neg (by omega), q_isThere hT hg hb, ht, q_bd1, if_neg q_t0]
    unfold B_X10_fill_75
    rw [q_gin (by omega) (by decide), q_cl (by omega), hw, if_neg (nI_nle hW (by omega)), q_gin hg (by decide), q_gin hg (by decide), q_gin hg (by decide), hl, q_ifl (by omega) (by omega), nI_1, nI_1, fo]
    by_cases c : K < w
    · rw [if_pos c, if_pos c, q_subN (by omega)]
      exact ih (i + 1) n a (w - K) (by omega) (by omega) (by omega)
    · rw [if_neg c, if_neg c, q_lit 99, q_subN (by omega), show a + (1 + fo K k (99 - K)) = a + 1 + fo K k (99 - K) by omega]
      exact ih (i + 1) n (a + 1) (99 - K) (by omega) (by omega) (by omega)
theorem fill_l {wat fla fly lea clo con inn : Nat → Int32} {th mu ta ho : Int32} {bk flk lek : Nat → Int32} {mus : Int32} {h : Nat} (hs : SH wat fla fly lea clo con inn th mu ta ho bk flk lek mus) (hh : h ≤ 99) : ∀ (k i n m a : Nat), i + k = 8 → k < n → k < m → ∃ r, L_X6_fillings_4 wat lea th (nI h) n (nI a) (nI i) = some r ∧ L_X10_fill_17 bk lek (nI h) m (nI a) (nI i) = some r := by
  obtain ⟨T, U, hr, W, F, V, K, C, Q, P, ⟨hT, hU, hhr⟩, ⟨e1, e2, e3⟩, ⟨m1, m2, m3, m4⟩, hok, hx, hm, hn⟩ := hs
  intro k
  induction k with
  | zero =>
    intro i n m a hi hn hm
    obtain ⟨n, rfl⟩ : ∃ a, n = a + 1 := ⟨n - 1, by omega⟩
    obtain ⟨m, rfl⟩ : ∃ a, m = a + 1 := ⟨m - 1, by omega⟩
    obtain rfl : i = 8 := by omega
    rw [L_X6_fillings_4.eq_2, L_X10_fill_17.eq_2, if_pos q_88, if_pos q_88]
    exact ⟨_, rfl, rfl⟩
  | succ k ih =>
    intro i n m a hi hn' hm'
    obtain ⟨n, rfl⟩ : ∃ a, n = a + 1 := ⟨n - 1, by omega⟩
    obtain ⟨m, rfl⟩ : ∃ a, m = a + 1 := ⟨m - 1, by omega⟩
    have hi8 : i < 8 := by omega
    rw [L_X6_fillings_4.eq_2, L_X10_fill_17.eq_2, if_neg (q_8n hi8), if_neg (q_8n hi8), e1, q_has hT hi8, q_bd1, q_gin (by omega) (by decide), q_cl (by omega), nI_1, ← e1]
    by_cases ht : T.testBit i = true
    · obtain ⟨x1, x2, x3, x4, x5, x6, x7⟩ := hx i hi8 ht
      obtain ⟨n1, n2, n3, n4, n5, n6, n7⟩ := hm i hi8 ht
      obtain ⟨k1, k2, k3, k4, k5, k6, k7, k8⟩ := hok i hi8 ht
      rw [ht, if_neg q_t0, show f_X6_isFree wat th (nI i) = some (if T.testBit i && W i == 0 then 1 else 0) by rw [e1]; exact q_isFree hT hi8 (fun _ => x1) (by omega), ht, q_bd1]
      by_cases c : W i = 0
      · rw [show (true && W i == 0) = true by simp [c], if_neg q_t0]
        obtain ⟨f, hf⟩ : ∃ f, FU = f + 1 := ⟨2047, rfl⟩
        have hstep : L_X10_fill_34 bk lek (nI h) (L_X10_fill_17 bk lek (nI h) m) FU (nI a) (nI i) (bk i) 0 = L_X10_fill_17 bk lek (nI h) m (nI a) (nI (i + 1)) := by
          rw [hf, L_X10_fill_34.eq_2, nI_1, q_isThere hT hi8 m1, ht, q_bd1, if_neg q_t0, q_gin (by omega) (by decide), q_cl (by omega), n1, c, if_pos (show nI 0 ≤ (0 : Int32) by decide)]
          split <;> rfl
        rw [hstep]
        exact ih (i + 1) n m a (by omega) (by omega) (by omega)
      · rw [show (true && W i == 0) = false by simp [c], if_pos q_f0]
        have hX : f_X6_fillingsOf wat lea th (nI i) (nI h) = some (nI (fo (K i) h (W i))) := by
          unfold f_X6_fillingsOf
          rw [show f_X6_has th (nI i) = some (if T.testBit i then 1 else 0) by rw [e1]; exact q_has hT hi8, ht, q_bd1, if_neg q_t0, q_gin hi8 (by decide), q_cl (by omega), x1]
          have := fill_x (wat := wat) (th := th) hi8 x4 k4 hh h 0 FU 0 (W i) (by omega) (by have := q_FU; omega) k1
          rw [Nat.zero_add] at this
          exact this
        have hM := fill_m (rec := L_X10_fill_17 bk lek (nI h) m) hT hi8 ht m1 n1 (by omega) k1 n4 k4 hh h 0 FU a (W i) (by omega) (by have := q_FU; omega) k1
        rw [hX, q_bd1, n1, show L_X10_fill_34 bk lek (nI h) (L_X10_fill_17 bk lek (nI h) m) FU (nI a) (nI i) (nI (W i)) 0 = _ from hM, q_add]
        exact ih (i + 1) n m _ (by omega) (by omega) (by omega)
    · have ht' : T.testBit i = false := by simpa using ht
      rw [ht', if_pos q_f0]
      obtain ⟨f, hf⟩ : ∃ f, FU = f + 1 := ⟨2047, rfl⟩
      have hstep : L_X10_fill_34 bk lek (nI h) (L_X10_fill_17 bk lek (nI h) m) FU (nI a) (nI i) (bk i) 0 = L_X10_fill_17 bk lek (nI h) m (nI a) (nI (i + 1)) := by
        rw [hf, L_X10_fill_34.eq_2, nI_1, q_isThere hT hi8 m1, ht', q_bd1, if_pos q_f0]
        split <;> rfl
      rw [hstep]
      exact ih (i + 1) n m a (by omega) (by omega) (by omega)
theorem core_fill {wat fla fly lea clo con inn : Nat → Int32} {th mu ta ho : Int32} {bk flk lek : Nat → Int32} {mus : Int32} (h : SH wat fla fly lea clo con inn th mu ta ho bk flk lek mus) (y : Int32) : ∃ r, f_X9_fill wat lea th y = some r ∧ f_X10_fill bk lek y = some r := by
  unfold f_X9_fill f_X10_fill f_X6_fillings
  rw [q_lit 99]
  rcases q_upTo y 99 (by omega) with ⟨a, b⟩ | ⟨j, hj, rfl, a, b⟩
  · rw [a, b]
    exact ⟨_, rfl, rfl⟩
  · rw [a, b, q_bd1, q_bd1, if_neg (show ¬ (1 : Int32) = 0 by decide), if_neg (show ¬ (1 : Int32) = 0 by decide)]
    obtain ⟨r, r1, r2⟩ := fill_l h hj 8 0 FU FU 0 rfl (by have := q_FU; omega) (by have := q_FU; omega)
    refine ⟨r, ?_, r2⟩
    rw [show L_X6_fillings_4 wat lea th (nI j) FU 0 0 = _ from r1]; rfl
/-! rows -/
theorem q_placeAt {od : Nat → Int32} {k i : Nat} (hk : k < 6) (hi : i < 6) : f_X2_placeAt od (nI k) (nI i) = some (od (6 * k + i)) := by
  unfold f_X2_placeAt B_X2_placeAt_25
  rw [if_neg (nI_pos (by omega)), q_lit 6, q_ifle (by decide) (by omega), if_neg (by omega), if_neg (nI_pos (by omega)), q_ifle (by decide) (by omega), if_neg (by omega), if_neg (show ¬ (1 : Int32) = 0 by decide), pk_mul, q_add, q_gin (by omega) (by decide), q_cl (by omega)]
theorem row_step {od : Nat → Int32} {d : Nat → Nat} {k i n a : Nat} (hk : k < 6) (hi : i < 6) (hd : od (6 * k + i) = nI (d i)) : L_X2_row_4 od (nI k) (n + 1) (nI a) (nI i) = L_X2_row_4 od (nI k) n (nI (10 * a + d i)) (nI (i + 1)) := by
  rw [L_X2_row_4.eq_2, q_lit 6, q_ifle (by decide) (by omega), if_neg (by omega), q_placeAt hk hi, q_bd1, hd, q_lit 10, pk_mul, q_add, nI_1]
theorem q_row {od rk : Nat → Int32} (h : ORDR od rk) {k : Nat} (hk : k < 6) : f_X2_row od (nI k) = some (rk k) := by
  obtain ⟨d, h1, h2, h3, h4⟩ := h k hk
  unfold f_X2_row
  obtain ⟨m, hm⟩ : ∃ m, FU = m + 7 := ⟨2041, rfl⟩
  have e : L_X2_row_4 od (nI k) (m + 7) (nI 0) (nI 0) = some (rk k) := by
    rw [row_step (d := d) hk (by omega) (h3 0 (by omega)), row_step (d := d) hk (by omega) (h3 1 (by omega)), row_step (d := d) hk (by omega) (h3 2 (by omega)), row_step (d := d) hk (by omega) (h3 3 (by omega)), row_step (d := d) hk (by omega) (h3 4 (by omega)), row_step (d := d) hk (by omega) (h3 5 (by omega)), L_X2_row_4.eq_2, if_pos (by decide), h4]
    congr 2
    omega
  rw [hm]
  exact e
