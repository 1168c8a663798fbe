/-! pure: restore (printed by mk121.py) -/
theorem rst_new {f im : Nat → Int32} {b i : Nat} (h : ∀ k, k < i → f k = im (b + k)) : ∀ k, k < i + 1 → upd f i (im (b + i)) k = im (b + k) := fun k hk => by
  by_cases e : k = i
  · rw [e, upd_g]
  · rw [upd_n e]
    exact h k (by omega)
theorem rest_31 {flk lek rk ms : Nat → Int32} {mus msz : Int32} {im mk : Nat → Int32} {o : Nat} {y : Int32} (ho : o ≤ 100) : ∀ (k i n : Nat) (bk : Nat → Int32), i + k = 43 → k < n → (∀ k, k < i → bk k = im (o + k)) → ∃ bk2 : Nat → Int32, L_X10_restore_31 im mk y n bk flk lek mus rk msz ms (nI o) (nI i) = L_X10_restore_59 im mk y FU bk2 flk lek mus rk msz ms (nI o) 0 ∧ (∀ k, k < 43 → bk2 k = im (o + k)) := by
  intro k
  induction k with
  | zero =>
    intro i n bk hi hn h1
    obtain ⟨n, rfl⟩ : ∃ a, n = a + 1 := ⟨n - 1, by omega⟩
    obtain rfl : i = 43 := by omega
    exact ⟨bk, by rw [L_X10_restore_31.eq_2, if_pos (by decide)], h1⟩
  | succ k ih =>
    intro i n bk hi hn h1
    obtain ⟨n, rfl⟩ : ∃ a, n = a + 1 := ⟨n - 1, by omega⟩
    rw [L_X10_restore_31.eq_2, q_lit 43, q_ifle (by decide) (by omega), if_neg (by omega), q_add, q_gin (by omega) (by decide), q_gin (by omega) (by decide), q_cl (by omega), q_cl (by omega), nI_1]
    refine ih (i + 1) n _ (by omega) (by omega) (rst_new (b := o) h1)
theorem rest_59 {bk rk ms : Nat → Int32} {mus msz : Int32} {im mk : Nat → Int32} {o : Nat} {y : Int32} (ho : o ≤ 100) : ∀ (k i n : Nat) (flk lek : Nat → Int32), i + k = 8 → k < n → (∀ k, k < i → flk k = im (o + 43 + k)) → (∀ k, k < i → lek k = im (o + 51 + k)) → ∃ flk2 lek2 : Nat → Int32, L_X10_restore_59 im mk y n bk flk lek mus rk msz ms (nI o) (nI i) = L_X10_restore_107 im mk y FU bk flk2 lek2 mus rk msz ms (nI o) 0 ∧ (∀ k, k < 8 → flk2 k = im (o + 43 + k)) ∧ (∀ k, k < 8 → lek2 k = im (o + 51 + k)) := by
  intro k
  induction k with
  | zero =>
    intro i n flk lek hi hn h1 h2
    obtain ⟨n, rfl⟩ : ∃ a, n = a + 1 := ⟨n - 1, by omega⟩
    obtain rfl : i = 8 := by omega
    exact ⟨flk, lek, by rw [L_X10_restore_59.eq_2, if_pos (by decide)], h1, h2⟩
  | succ k ih =>
    intro i n flk lek hi hn h1 h2
    obtain ⟨n, rfl⟩ : ∃ a, n = a + 1 := ⟨n - 1, by omega⟩
    rw [L_X10_restore_59.eq_2, q_lit 8, q_ifle (by decide) (by omega), if_neg (by omega), q_lit 43, q_lit 51, q_add, q_add, q_add, q_add, q_gin (by omega) (by decide), q_gin (by omega) (by decide), q_gin (by omega) (by decide), q_gin (by omega) (by decide), q_cl (by omega), q_cl (by omega), q_cl (by omega), nI_1]
    refine ih (i + 1) n _ _ (by omega) (by omega) (rst_new (b := o + 43) h1) (rst_new (b := o + 51) h2)
theorem rest_107 {bk flk lek ms : Nat → Int32} {mus msz : Int32} {im mk : Nat → Int32} {o : Nat} {y : Int32} (ho : o ≤ 100) : ∀ (k i n : Nat) (rk : Nat → Int32), i + k = 6 → k < n → (∀ k, k < i → rk k = im (o + 59 + k)) → ∃ rk2 : Nat → Int32, L_X10_restore_107 im mk y n bk flk lek mus rk msz ms (nI o) (nI i) = L_X10_restore_138 im mk y FU bk flk lek mus rk2 msz ms (nI o) 0 ∧ (∀ k, k < 6 → rk2 k = im (o + 59 + k)) := by
  intro k
  induction k with
  | zero =>
    intro i n rk hi hn h1
    obtain ⟨n, rfl⟩ : ∃ a, n = a + 1 := ⟨n - 1, by omega⟩
    obtain rfl : i = 6 := by omega
    exact ⟨rk, by rw [L_X10_restore_107.eq_2, if_pos (by decide)], h1⟩
  | succ k ih =>
    intro i n rk hi hn h1
    obtain ⟨n, rfl⟩ : ∃ a, n = a + 1 := ⟨n - 1, by omega⟩
    rw [L_X10_restore_107.eq_2, q_lit 6, q_ifle (by decide) (by omega), if_neg (by omega), q_lit 59, q_add, q_add, q_gin (by omega) (by decide), q_gin (by omega) (by decide), q_cl (by omega), q_cl (by omega), nI_1]
    refine ih (i + 1) n _ (by omega) (by omega) (rst_new (b := o + 59) h1)
theorem rest_138 {bk flk lek rk : Nat → Int32} {mus msz : Int32} {im mk : Nat → Int32} {o : Nat} {y : Int32} (ho : o ≤ 100) : ∀ (k i n : Nat) (ms : Nat → Int32), i + k = 16 → k < n → (∀ k, k < i → ms k = im (o + 65 + k)) → ∃ ms2 : Nat → Int32, L_X10_restore_138 im mk y n bk flk lek mus rk msz ms (nI o) (nI i) = some (1, bk, flk, lek, im (o + 90), rk, im (o + 91), ms2) ∧ (∀ k, k < 16 → ms2 k = im (o + 65 + k)) := by
  intro k
  induction k with
  | zero =>
    intro i n ms hi hn h1
    obtain ⟨n, rfl⟩ : ∃ a, n = a + 1 := ⟨n - 1, by omega⟩
    obtain rfl : i = 16 := by omega
    exact ⟨ms, by rw [L_X10_restore_138.eq_2, if_pos (by decide), q_lit 90, q_lit 91, q_add, q_add, q_gin (by omega) (by decide), q_gin (by omega) (by decide), q_cl (by omega), q_cl (by omega)], h1⟩
  | succ k ih =>
    intro i n ms hi hn h1
    obtain ⟨n, rfl⟩ : ∃ a, n = a + 1 := ⟨n - 1, by omega⟩
    rw [L_X10_restore_138.eq_2, q_lit 16, q_ifle (by decide) (by omega), if_neg (by omega), q_lit 65, q_add, q_add, q_gin (by omega) (by decide), q_gin (by omega) (by decide), q_cl (by omega), q_cl (by omega), nI_1]
    refine ih (i + 1) n _ (by omega) (by omega) (rst_new (b := o + 65) h1)
theorem rest_m {bk flk lek : Nat → Int32} {mus : Int32} {rk : Nat → Int32} {msz : Int32} {ms : Nat → Int32} {im mk : Nat → Int32} {p : Nat} (hp : p ≤ 1) (hk : mk p = 1) : ∃ bk2 flk2 lek2 rk2 ms2 : Nat → Int32, f_X10_restore bk flk lek mus rk msz ms im mk (nI p) = some (1, bk2, flk2, lek2, im (100 * p + 90), rk2, im (100 * p + 91), ms2) ∧ (∀ k, k < 43 → bk2 k = im (100 * p + k)) ∧ (∀ k, k < 8 → flk2 k = im (100 * p + 43 + k)) ∧ (∀ k, k < 8 → lek2 k = im (100 * p + 51 + k)) ∧ (∀ k, k < 6 → rk2 k = im (100 * p + 59 + k)) ∧ (∀ k, k < 16 → ms2 k = im (100 * p + 65 + k)) := by
  have hf := q_FU
  obtain ⟨bk2, a1, a2⟩ := rest_31 (flk := flk) (lek := lek) (rk := rk) (ms := ms) (mus := mus) (msz := msz) (im := im) (mk := mk) (y := nI p) (show 100 * p ≤ 100 by omega) 43 0 FU bk rfl (by omega) (fun k hk => absurd hk (by omega))
  obtain ⟨flk2, lek2, b1, b2, b3⟩ := rest_59 (bk := bk2) (rk := rk) (ms := ms) (mus := mus) (msz := msz) (im := im) (mk := mk) (y := nI p) (show 100 * p ≤ 100 by omega) 8 0 FU flk lek rfl (by omega) (fun k hk => absurd hk (by omega)) (fun k hk => absurd hk (by omega))
  obtain ⟨rk2, c1, c2⟩ := rest_107 (bk := bk2) (flk := flk2) (lek := lek2) (ms := ms) (mus := mus) (msz := msz) (im := im) (mk := mk) (y := nI p) (show 100 * p ≤ 100 by omega) 6 0 FU rk rfl (by omega) (fun k hk => absurd hk (by omega))
  obtain ⟨ms2, d1, d2⟩ := rest_138 (bk := bk2) (flk := flk2) (lek := lek2) (rk := rk2) (mus := mus) (msz := msz) (im := im) (mk := mk) (y := nI p) (show 100 * p ≤ 100 by omega) 16 0 FU ms rfl (by omega) (fun k hk => absurd hk (by omega))
  refine ⟨bk2, flk2, lek2, rk2, ms2, ?_, a2, b2, b3, c2, d2⟩
  unfold f_X10_restore f_X10_in
  rw [if_neg (nI_pos (by omega)), q_lit 1, q_ifl (by decide) (by omega), if_neg (by omega), q_bd1, if_neg (by decide), q_gin (by omega) (by decide), q_cl (by omega), hk, if_neg (by decide), q_lit 100, pk_mul]
  exact a1.trans (b1.trans (c1.trans d1))
theorem core_restore {wat fla fly lea clo con inn : Nat → Int32} {th mu ta ho : Int32} {od hs fs : Nat → Int32} {sz : Int32} {wat1 fla1 fly1 lea1 clo1 con1 inn1 : Nat → Int32} {th1 mu1 ta1 ho1 : Int32} {od1 hs1 fs1 : Nat → Int32} {sz1 : Int32} {wat2 fla2 fly2 lea2 clo2 con2 inn2 : Nat → Int32} {th2 mu2 ta2 ho2 : Int32} {od2 hs2 fs2 : Nat → Int32} {sz2 : Int32} {bk flk lek : Nat → Int32} {mus : Int32} {rk : Nat → Int32} {msz : Int32} {ms : Nat → Int32} {kp1 kp2 : Int32} {im mk : Nat → Int32} (h : STR wat fla fly lea clo con inn th mu ta ho od hs fs sz bk flk lek mus rk msz ms) (i1 : IMG kp1 (mk 0) wat1 fla1 fly1 lea1 clo1 con1 inn1 th1 mu1 ta1 ho1 od1 hs1 fs1 sz1 im 0) (i2 : IMG kp2 (mk 1) wat2 fla2 fly2 lea2 clo2 con2 inn2 th2 mu2 ta2 ho2 od2 hs2 fs2 sz2 im 100) (y : Int32) : ∃ (r : Int32) (wat3 : Nat → Int32) (fla3 : Nat → Int32) (fly3 : Nat → Int32) (lea3 : Nat → Int32) (clo3 : Nat → Int32) (con3 : Nat → Int32) (inn3 : Nat → Int32) (th3 : Int32) (mu3 : Int32) (ta3 : Int32) (ho3 : Int32) (od3 : Nat → Int32) (hs3 : Nat → Int32) (fs3 : Nat → Int32) (sz3 : Int32) (bk3 flk3 lek3 : Nat → Int32) (mus3 : Int32) (rk3 : Nat → Int32) (msz3 : Int32) (ms3 : Nat → Int32), f_X9_restore wat fla fly lea clo con inn th mu ta ho od hs fs sz wat1 fla1 fly1 lea1 clo1 con1 inn1 th1 mu1 ta1 ho1 od1 hs1 fs1 sz1 wat2 fla2 fly2 lea2 clo2 con2 inn2 th2 mu2 ta2 ho2 od2 hs2 fs2 sz2 kp1 kp2 y = some (r, wat3, fla3, fly3, lea3, clo3, con3, inn3, th3, mu3, ta3, ho3, od3, hs3, fs3, sz3) ∧ f_X10_restore bk flk lek mus rk msz ms im mk y = some (r, bk3, flk3, lek3, mus3, rk3, msz3, ms3) ∧ STR wat3 fla3 fly3 lea3 clo3 con3 inn3 th3 mu3 ta3 ho3 od3 hs3 fs3 sz3 bk3 flk3 lek3 mus3 rk3 msz3 ms3 := by
  rcases q_upTo y 1 (by omega) with ⟨a, b⟩ | ⟨p, hp, rfl, a, b⟩
  · refine ⟨-2, wat, fla, fly, lea, clo, con, inn, th, mu, ta, ho, od, hs, fs, sz, bk, flk, lek, mus, rk, msz, ms, ?_, ?_, h⟩
    · unfold f_X9_restore
      rw [show f_X9_isUpTo y 1 = _ from a]
      rfl
    · unfold f_X10_restore
      rw [show f_X10_in y 0 1 = _ from b]
      rfl
  · obtain rfl | rfl : p = 0 ∨ p = 1 := by omega
    · rcases i1 with ⟨k1, k2⟩ | ⟨k1, k2, k3⟩
      · refine ⟨-3, wat, fla, fly, lea, clo, con, inn, th, mu, ta, ho, od, hs, fs, sz, bk, flk, lek, mus, rk, msz, ms, ?_, ?_, h⟩
        · unfold f_X9_restore
          rw [show f_X9_isUpTo (nI 0) 1 = _ from a, q_bd1, if_neg (by decide), if_pos (by decide), if_pos k1]
        · unfold f_X10_restore
          rw [show f_X10_in (nI 0) 0 1 = _ from b, q_bd1, if_neg (by decide), q_gin (by decide) (by decide), q_cl (by decide), if_pos k2]
      · obtain ⟨bk3, flk3, lek3, rk3, ms3, m1, m2, m3, m4, m5, m6⟩ := rest_m (bk := bk) (flk := flk) (lek := lek) (mus := mus) (rk := rk) (msz := msz) (ms := ms) (im := im) (mk := mk) hp k2
        obtain ⟨wat3, fla3, fly3, lea3, clo3, con3, inn3, od3, hs3, fs3, t1, t2⟩ := takeRealm wat fla fly lea clo con inn th mu ta ho od hs fs sz k3
        refine ⟨1, wat3, fla3, fly3, lea3, clo3, con3, inn3, th1, mu1, ta1, ho1, od3, hs3, fs3, sz1, bk3, flk3, lek3, _, rk3, _, ms3, ?_, m1, STR_congrM t2 m2 m3 m4 m5 m6⟩
        unfold f_X9_restore B_X9_restore_35
        rw [show f_X9_isUpTo (nI 0) 1 = _ from a, q_bd1, if_neg (by decide), if_pos (by decide), k1, if_neg (by decide), if_pos (by decide), t1]
        rfl
    · rcases i2 with ⟨k1, k2⟩ | ⟨k1, k2, k3⟩
      · refine ⟨-3, wat, fla, fly, lea, clo, con, inn, th, mu, ta, ho, od, hs, fs, sz, bk, flk, lek, mus, rk, msz, ms, ?_, ?_, h⟩
        · unfold f_X9_restore
          rw [show f_X9_isUpTo (nI 1) 1 = _ from a, q_bd1, if_neg (by decide), if_neg (by decide), if_pos k1]
        · unfold f_X10_restore
          rw [show f_X10_in (nI 1) 0 1 = _ from b, q_bd1, if_neg (by decide), q_gin (by decide) (by decide), q_cl (by decide), if_pos k2]
      · obtain ⟨bk3, flk3, lek3, rk3, ms3, m1, m2, m3, m4, m5, m6⟩ := rest_m (bk := bk) (flk := flk) (lek := lek) (mus := mus) (rk := rk) (msz := msz) (ms := ms) (im := im) (mk := mk) hp k2
        obtain ⟨wat3, fla3, fly3, lea3, clo3, con3, inn3, od3, hs3, fs3, t1, t2⟩ := takeRealm wat fla fly lea clo con inn th mu ta ho od hs fs sz k3
        refine ⟨1, wat3, fla3, fly3, lea3, clo3, con3, inn3, th2, mu2, ta2, ho2, od3, hs3, fs3, sz2, bk3, flk3, lek3, _, rk3, _, ms3, ?_, m1, STR_congrM t2 m2 m3 m4 m5 m6⟩
        unfold f_X9_restore B_X9_restore_35
        rw [show f_X9_isUpTo (nI 1) 1 = _ from a, q_bd1, if_neg (by decide), if_neg (by decide), k1, if_neg (by decide), if_neg (by decide), t1]
        rfl
