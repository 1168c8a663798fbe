/-! pure: acts that move, acts that shake -/
theorem pX_eq {k o : Nat} (ho : o < 8) : pX k = nI o ↔ k = o := by
  unfold pX
  by_cases h : k < 8
  · rw [if_pos h]
    exact nI_eq (by omega) (by omega)
  · rw [if_neg h]
    constructor
    · intro e
      have := nI_pos (n := o) (by omega)
      rw [← e] at this
      exact absurd q_m1 this
    · intro e; omega
theorem pM_eq {k o : Nat} (ho : o < 8) : pM k = nI o ↔ k = o := by
  unfold pM
  by_cases h : k < 8
  · rw [if_pos h]
    exact nI_eq (by omega) (by omega)
  · rw [if_neg h]
    constructor
    · intro e
      have := nI_pos (n := o) (by omega)
      rw [← e] at this
      exact absurd (by decide) this
    · intro e; omega
theorem pX_m1 {k : Nat} : pX k = -1 ↔ ¬ k < 8 := by
  unfold pX
  by_cases h : k < 8
  · rw [if_pos h]
    constructor
    · intro e
      have := nI_pos (n := k) (by omega)
      rw [e] at this
      exact absurd q_m1 this
    · intro e; omega
  · rw [if_neg h]
    exact ⟨fun _ => h, fun _ => rfl⟩
theorem pM_m6 {k : Nat} : pM k = -6 ↔ ¬ k < 8 := by
  unfold pM
  by_cases h : k < 8
  · rw [if_pos h]
    constructor
    · intro e
      have := nI_pos (n := k) (by omega)
      rw [e] at this
      exact absurd (by decide) this
    · intro e; omega
  · rw [if_neg h]
    exact ⟨fun _ => h, fun _ => rfl⟩
theorem act_move {wat fla fly lea clo con inn : Nat → Int32} {th mu ta ho : Int32} {now flk lek : Nat → Int32} {mus : Int32} {g o : Nat} (hg : g < 8) (hoo : o < 8) (h : SH wat fla fly lea clo con inn th mu ta ho now flk lek mus) : ACT wat fla fly lea clo con inn th mu ta ho now flk lek mus 62 (nI g) (nI o) (f_X10_move now (nI g) (nI o)) := by
  obtain ⟨T, U, hr, W, F, V, K, C, Q, P, h⟩ := h
  obtain ⟨⟨hT, hU, hhr⟩, ⟨e1, e2, e3⟩, ⟨m1, m2, m3, m4⟩, hok, hx, hm, hn⟩ := id h
  have hpx : ∀ x, x < 8 → T.testBit x = true → inn x = pX (P x) ∧ (P x < 8 → T.testBit (P x) = true) := fun x a b => ⟨(hx x a b).2.2.2.2.2.2, (hok x a b).2.2.2.2.2.2.1⟩
  have hpm : ∀ x, x < 8 → T.testBit x = true → now (32 + x) = pM (P x) ∧ (P x < 8 → T.testBit (P x) = true) := fun x a b => ⟨(hm x a b).2.2.2.2.2.2, (hok x a b).2.2.2.2.2.2.1⟩
  have hup : ∀ x, x < 8 → T.testBit x = true → 8 ≤ up P 8 x := fun g a b => (hok g a b).2.2.2.2.2.2.2
  have no : ¬ nI o < 0 := nI_pos (by omega)
  by_cases ht : T.testBit g = true
  · obtain ⟨x1, x2, x3, x4, x5, x6, x7⟩ := hx g hg ht
    obtain ⟨n1, n2, n3, n4, n5, n6, n7⟩ := hm g hg ht
    obtain ⟨k1, k2, k3, k4, k5, k6, k7, k8⟩ := hok g hg ht
    by_cases hto : T.testBit o = true
    · have hc : f_X6_refusal wat clo inn th ho 62 (nI g) (nI o) = if P g = o then some 3 else if win P 8 o g = true then some 4 else some (-6) := by
        unfold f_X6_refusal B_X6_refusal_48
        rw [if_neg (by decide), e1, q_has hT hg, ht, q_bd1, if_neg (by decide), if_pos rfl, q_has hT hoo, hto, q_bd1, if_neg (by decide), if_neg (by decide), if_neg (by decide), if_neg (by decide), if_neg (by decide), if_pos rfl, q_gin hg (by decide), q_cl (by omega), x7, q_isWithin hT hg hoo hpx, hto, q_bd1, Bool.true_and]
        by_cases c : P g = o
        · rw [if_pos c, if_pos ((pX_eq hoo).mpr c)]
        · rw [if_neg c, if_neg (fun e => c ((pX_eq hoo).mp e))]
          cases win P 8 o g <;> rfl
      have hmc : f_X10_move now (nI g) (nI o) = if P g = o then some (3, now) else if win P 8 o g = true then some (4, now) else some (0, upd now (32 + g) (nI o)) := by
        unfold f_X10_move B_X10_move_22 B_X10_move_52
        rw [q_stands hT hg m1, q_bd1, ht, if_neg (by decide), if_neg no, q_stands hT hoo m1, q_bd1, hto, if_neg (by decide), q_lit 32, q_add, q_gin (by omega) (by decide), q_cl (by omega), n7, if_neg no, q_misWithin hg hoo hto (hup o hoo hto) hpm, q_bd1, q_gin (by omega) (by decide)]
        by_cases c : P g = o
        · rw [if_pos c, if_pos ((pM_eq hoo).mpr c)]
        · rw [if_neg c, if_neg (fun e => c ((pM_eq hoo).mp e))]
          cases win P 8 o g <;> rfl
      by_cases c : P g = o
      · exact Or.inl ⟨3, by omega, by omega, by rw [hc, if_pos c]; rfl, by rw [hmc, if_pos c]; rfl⟩
      · by_cases cw : win P 8 o g = true
        · exact Or.inl ⟨4, by omega, by omega, by rw [hc, if_neg c, if_pos cw]; rfl, by rw [hmc, if_neg c, if_pos cw]; rfl⟩
        · refine Or.inr ⟨by rw [hc, if_neg c, if_neg cw], wat, fly, clo, con, upd inn g (nI o), th, ta, ho, upd now (32 + g) (nI o), ?_, by rw [hmc, if_neg c, if_neg cw], ?_⟩
          · unfold f_X6_perform
            rw [if_neg (by decide), e1, q_has hT hg, ht, q_bd1, if_neg (by decide), if_neg (by decide), if_neg (by decide), if_neg (by decide), if_neg (by decide), if_pos rfl, q_gin hg (by decide), q_cl (by omega)]
          · exact ⟨_, _, _, _, _, _, _, _, _, _, SZ_one h hg (W g) (V g) (C g) (Q g) o (by omega) k3 (by omega) k6 (fun _ => hto) (fun x a b => up_move (T := fun x => T.testBit x = true) hup (fun x a b => (hok x a b).2.2.2.2.2.2.1) (fun _ => hto) (fun _ => by simpa using cw) hg a b) x1 (fun _ _ => rfl) x3 (fun _ _ => rfl) x5 (fun _ _ => rfl) x6 (fun _ _ => rfl) (by rw [upd_g, pX_in hoo]) (fun j e => upd_n e) (by simp (disch := omega) only [q_upd, if_neg]; exact n1) (by simp (disch := omega) only [q_upd, if_neg]; exact n3) (by simp (disch := omega) only [q_upd, if_neg]; exact n5) (by simp (disch := omega) only [q_upd, if_neg]; exact n6) (by rw [upd_g, pM_in hoo]) (fun j _ _ _ _ _ => by simp (disch := omega) only [q_upd, if_neg]) ht⟩
    · have hto' : T.testBit o = false := by simpa using hto
      refine Or.inl ⟨1, by omega, by omega, ?_, ?_⟩
      · unfold f_X6_refusal
        rw [if_neg (by decide), e1, q_has hT hg, ht, q_bd1, if_neg (by decide), if_pos rfl, q_has hT hoo, hto', q_bd1]; rfl
      · unfold f_X10_move
        rw [q_stands hT hg m1, q_bd1, ht, if_neg (by decide), if_neg no, q_stands hT hoo m1, q_bd1, hto']; rfl
  · have ht' : T.testBit g = false := by simpa using ht
    refine act_gone hT hg e1 ht' (by decide) ?_
    unfold f_X10_move
    rw [q_stands hT hg m1, q_bd1, ht']; rfl
theorem act_shelf {wat fla fly lea clo con inn : Nat → Int32} {th mu ta ho : Int32} {now flk lek : Nat → Int32} {mus o : Int32} {g : Nat} (hg : g < 8) (h : SH wat fla fly lea clo con inn th mu ta ho now flk lek mus) : ACT wat fla fly lea clo con inn th mu ta ho now flk lek mus 94 (nI g) o (f_X10_move now (nI g) (-6)) := by
  obtain ⟨T, U, hr, W, F, V, K, C, Q, P, h⟩ := h
  obtain ⟨⟨hT, hU, hhr⟩, ⟨e1, e2, e3⟩, ⟨m1, m2, m3, m4⟩, hok, hx, hm, hn⟩ := id h
  have hup : ∀ x, x < 8 → T.testBit x = true → 8 ≤ up P 8 x := fun g a b => (hok g a b).2.2.2.2.2.2.2
  have no : (-6 : Int32) < 0 := by decide
  by_cases ht : T.testBit g = true
  · obtain ⟨x1, x2, x3, x4, x5, x6, x7⟩ := hx g hg ht
    obtain ⟨n1, n2, n3, n4, n5, n6, n7⟩ := hm g hg ht
    obtain ⟨k1, k2, k3, k4, k5, k6, k7, k8⟩ := hok g hg ht
    have hc : f_X6_refusal wat clo inn th ho 94 (nI g) o = if P g < 8 then some (-6) else some 3 := by
      unfold f_X6_refusal B_X6_refusal_48
      rw [if_neg (by decide), e1, q_has hT hg, ht, q_bd1, if_neg (by decide), if_neg (by decide), if_neg (by decide), if_neg (by decide), if_neg (by decide), if_neg (by decide), if_neg (by decide), if_pos rfl, q_gin hg (by decide), q_cl (by omega), x7]
      by_cases c : P g < 8
      · rw [if_pos c, if_neg (fun e => pX_m1.mp e c)]
      · rw [if_neg c, if_pos (pX_m1.mpr c)]
    have hmc : f_X10_move now (nI g) (-6) = if P g < 8 then some (0, upd now (32 + g) (-6)) else some (3, now) := by
      unfold f_X10_move B_X10_move_22 B_X10_move_52
      rw [q_stands hT hg m1, q_bd1, ht, if_neg (by decide), if_pos no, q_lit 32, q_add, q_gin (by omega) (by decide), q_cl (by omega), n7, if_pos no, q_gin (by omega) (by decide)]
      by_cases c : P g < 8
      · rw [if_pos c, if_neg (fun e => pM_m6.mp e c)]
      · rw [if_neg c, if_pos (pM_m6.mpr c)]
    by_cases c : P g < 8
    · refine Or.inr ⟨by rw [hc, if_pos c], wat, fly, clo, con, upd inn g (-1), th, ta, ho, upd now (32 + g) (-6), ?_, by rw [hmc, if_pos c], ?_⟩
      · unfold f_X6_perform
        rw [if_neg (by decide), e1, q_has hT hg, ht, q_bd1, if_neg (by decide), if_neg (by decide), if_neg (by decide), if_neg (by decide), if_neg (by decide), if_neg (by decide), if_pos rfl, q_gin hg (by decide), q_cl (by omega)]
      · exact ⟨_, _, _, _, _, _, _, _, _, _, SZ_one h hg (W g) (V g) (C g) (Q g) 8 (by omega) k3 (by omega) k6 (fun h => by omega) (fun x a b => up_move (T := fun x => T.testBit x = true) hup (fun x a b => (hok x a b).2.2.2.2.2.2.1) (fun h => by omega) (fun h => by omega) hg a b) x1 (fun _ _ => rfl) x3 (fun _ _ => rfl) x5 (fun _ _ => rfl) x6 (fun _ _ => rfl) (by rw [upd_g]; rfl) (fun j e => upd_n e) (by simp (disch := omega) only [q_upd, if_neg]; exact n1) (by simp (disch := omega) only [q_upd, if_neg]; exact n3) (by simp (disch := omega) only [q_upd, if_neg]; exact n5) (by simp (disch := omega) only [q_upd, if_neg]; exact n6) (by rw [upd_g]; rfl) (fun j _ _ _ _ _ => by simp (disch := omega) only [q_upd, if_neg]) ht⟩
    · exact Or.inl ⟨3, by omega, by omega, by rw [hc, if_neg c]; rfl, by rw [hmc, if_neg c]; rfl⟩
  · have ht' : T.testBit g = false := by simpa using ht
    refine act_gone hT hg e1 ht' (by decide) ?_
    unfold f_X10_move
    rw [q_stands hT hg m1, q_bd1, ht']; rfl
/-! shaking -/
def dif (A B : Nat) : Nat := orB (fun j => A.testBit j && !B.testBit j) 8
theorem q_andn {A B : Nat} (hA : A < 256) : nI A &&& (nI B ^^^ (-1 : Int32)) = nI (dif A B) := by
  apply Int32.toBitVec_inj.mp
  rw [Int32.toBitVec_and, Int32.toBitVec_xor]
  show BitVec.ofNat 32 A &&& (BitVec.ofNat 32 B ^^^ BitVec.allOnes 32) = BitVec.ofNat 32 (dif A B)
  apply BitVec.eq_of_getLsbD_eq
  intro i hi
  rw [BitVec.getLsbD_and, BitVec.getLsbD_xor, BitVec.getLsbD_allOnes, BitVec.getLsbD_ofNat, BitVec.getLsbD_ofNat, BitVec.getLsbD_ofNat]
  unfold dif
  rw [orB_bit]
  by_cases h : i < 8
  · simp [hi, h]
  · have : A.testBit i = false := Nat.testBit_lt_two_pow (Nat.lt_of_lt_of_le hA (by rw [show 256 = 2 ^ 8 from rfl]; exact Nat.pow_le_pow_right (by decide) (by omega)))
    simp [h, this]
theorem SZ_tax {T U hr : Nat} {W F V K C Q P : Nat → Nat} {wat fla fly lea clo con inn : Nat → Int32} {th mu ta ho : Int32} {bk flk lek : Nat → Int32} {mus : Int32} (h : SZ T U hr W F V K C Q P wat fla fly lea clo con inn th mu ta ho bk flk lek mus) (ta' : Int32) : SZ T U hr W F V K C Q P wat fla fly lea clo con inn th mu ta' ho (upd bk 41 ta') flk lek mus := by
  obtain ⟨hT, e, ⟨m1, m2, m3, m4⟩, hok, hx, hm, hn⟩ := h
  refine ⟨hT, e, ⟨by rw [upd_n (by omega)]; exact m1, m2, by rw [upd_n (by omega)]; exact m3, upd_g _ _ _⟩, hok, hx, fun j hj hTj => ?_, fun j hj hTj => ?_⟩
  · rw [upd_n (by omega), upd_n (by omega), upd_n (by omega), upd_n (by omega), upd_n (by omega)]
    exact hm j hj hTj
  · rw [upd_n (by omega)]
    exact hn j hj hTj
theorem q_bitN {A x : Nat} (hA : A < 256) (hx : x < 8) : ((nI A >>> (nI x &&& 31)) &&& (1 : Int32)) = if A.testBit x then 1 else 0 := q_bit ⟨A, hA⟩ ⟨x, hx⟩
theorem shake_l {T U hr : Nat} {W F K C Q P : Nat → Nat} {wat fla lea clo con inn : Nat → Int32} {th mu ho : Int32} {flk lek : Nat → Int32} {mus : Int32} {g hd : Nat} (hg : g < 8) (hh : hd ≤ 9) : ∀ (k i n m : Nat) (V : Nat → Nat) (fly : Nat → Int32) (ta : Int32) (now : Nat → Int32), i + k = 8 → k < n → k < m → SZ T U hr W F V K C Q P wat fla fly lea clo con inn th mu ta ho now flk lek mus → ∃ (V' : Nat → Nat) (fly' : Nat → Int32) (ta' : Int32) (now' : Nat → Int32), L_X6_shake_2 wat fla con inn th (nI g) (nI hd) n fly ta (nI i) = some (fly', ta') ∧ L_X10_shake_22 flk (nI g) (nI hd) m now (nI i) = some (0, now') ∧ SZ T U hr W F V' K C Q P wat fla fly' lea clo con inn th mu ta' ho now' flk lek mus := by
  intro k
  induction k with
  | zero =>
    intro i n m V fly ta now hi hn hm h
    obtain ⟨n, rfl⟩ : ∃ a, n = a + 1 := ⟨n - 1, by omega⟩
    obtain ⟨m, rfl⟩ : ∃ a, m = a + 1 := ⟨m - 1, by omega⟩
    obtain rfl : i = 8 := by omega
    refine ⟨V, fly, ta, now, ?_, ?_, h⟩
    · rw [L_X6_shake_2.eq_2, if_pos q_88]
    · rw [L_X10_shake_22.eq_2, if_pos q_88]
  | succ k ih =>
    intro i n m V fly ta now hi hn hm h
    obtain ⟨n, rfl⟩ : ∃ a, n = a + 1 := ⟨n - 1, by omega⟩
    obtain ⟨m, rfl⟩ : ∃ a, m = a + 1 := ⟨m - 1, by omega⟩
    obtain ⟨⟨hT, hU, hhr⟩, ⟨e1, e2, e3⟩, ⟨m1, m2, m3, m4⟩, hok, hx, hmm, hnn⟩ := id h
    have hi8 : i < 8 := by omega
    have hpm : ∀ x, x < 8 → T.testBit x = true → now (32 + x) = pM (P x) ∧ (P x < 8 → T.testBit (P x) = true) := fun x a b => ⟨(hmm x a b).2.2.2.2.2.2, (hok x a b).2.2.2.2.2.2.1⟩
    have hpx : ∀ x, x < 8 → T.testBit x = true → inn x = pX (P x) ∧ (P x < 8 → T.testBit (P x) = true) := fun x a b => ⟨(hx x a b).2.2.2.2.2.2, (hok x a b).2.2.2.2.2.2.1⟩
    have a1 : f_X6_isWithin inn th (nI i) (nI g) = some (if T.testBit i && win P 8 i g then 1 else 0) := by rw [e1]; exact q_isWithin hT hg hi8 hpx
    have t1 : ¬ (if true = true then (1 : Int32) else 0) = 0 := by decide
    have t0 : (if false = true then (1 : Int32) else 0) = 0 := by decide
    rw [L_X6_shake_2.eq_2, L_X10_shake_22.eq_2, if_neg (q_8n hi8), if_neg (q_8n hi8), a1, q_bd1, q_stands hT hi8 m1, q_bd1, nI_1]
    by_cases ht : T.testBit i = true
    · obtain ⟨x1, x2, x3, x4, x5, x6, x7⟩ := hx i hi8 ht
      obtain ⟨n1, n2, n3, n4, n5, n6, n7⟩ := hmm i hi8 ht
      obtain ⟨k1, k2, k3, k4, k5, k6, k7, k8⟩ := hok i hi8 ht
      have a2 : f_X6_isFree wat th (nI i) = some (if T.testBit i && W i == 0 then 1 else 0) := by rw [e1]; exact q_isFree hT hi8 (fun _ => x1) (by omega)
      rw [a2, q_bd1, ht, Bool.true_and, Bool.true_and, if_neg t1, q_misFree hi8 n1 (by omega), q_bd1]
      by_cases cw : W i = 0
      · rw [show (W i == 0) = true by simp [cw]]
        rw [if_neg t1, if_neg t1, ite_self]
        exact ih (i + 1) n m V fly ta now (by omega) (by omega) (by omega) h
      · rw [show (W i == 0) = false by simp [cw]]
        rw [if_pos t0, if_pos t0, q_misWithin hg hi8 ht k8 hpm, q_bd1]
        by_cases cg : win P 8 i g = true
        · rw [cg]
          rw [if_neg t1, if_neg t1]
          unfold B_X10_shake_99
          rw [q_gin hi8 (by decide), q_gin hi8 (by decide), q_gin hi8 (by decide), q_gin hi8 (by decide), q_lit 10, pk_mul, q_lit 8, q_lit 24, q_add, q_add, q_gin (by omega) (by decide), q_gin hi8 (by decide), q_gin hi8 (by decide), q_gin (by omega) (by decide), q_gin (by omega) (by decide), q_gin (by omega) (by decide), q_gin (by omega) (by decide)]
          rw [q_cl (by omega), q_cl (by omega), q_cl (by omega), q_41, x2, x3, x6, n2, n3, q_add, q_jmin (by omega) (by omega), q_ifle (by omega) (by omega)]
          have hz := SZ_tax (SZ_one h hi8 (W i) (min (F i) (V i + 10 * hd)) (C i) (Q i) (P i) k1 (by omega) k5 k6 k7 (up_same (fun g a b => (hok g a b).2.2.2.2.2.2.2)) (wat' := wat) (fly' := upd fly i (nI (min (F i) (V i + 10 * hd)))) (clo' := clo) (con' := con) (inn' := inn) (bk' := upd now (8 + i) (nI (min (F i) (V i + 10 * hd)))) x1 (fun _ _ => rfl) (upd_g _ _ _) (fun j e => upd_n e) x5 (fun _ _ => rfl) x6 (fun _ _ => rfl) x7 (fun _ _ => rfl) (by simp (disch := omega) only [q_upd, if_neg]; exact n1) (upd_g _ _ _) (by simp (disch := omega) only [q_upd, if_neg]; exact n5) (by simp (disch := omega) only [q_upd, if_neg]; exact n6) (by simp (disch := omega) only [q_upd, if_neg]; exact n7) (fun j _ _ _ _ _ => by simp (disch := omega) only [q_upd, if_neg]) ht) (ta + nI (Q i))
          rw [st_same, st_same, st_same, st_same] at hz
          obtain ⟨V', fly', ta', now', r1, r2, r3⟩ := ih (i + 1) n m _ _ _ _ (by omega) (by omega) (by omega) hz
          refine ⟨V', fly', ta', now', r1, ?_, r3⟩
          rw [← r2]
          have e41 : ∀ v, upd now (8 + i) v 41 = ta := fun v => by rw [upd_n (by omega)]; exact m4
          have e24 : ∀ v, upd now (8 + i) v (24 + i) = nI (Q i) := fun v => by rw [upd_n (by omega)]; exact n6
          by_cases c : V i + 10 * hd ≤ F i
          · rw [if_pos c, e41, e24, show min (F i) (V i + 10 * hd) = V i + 10 * hd by omega, nI_1]
          · rw [if_neg c, e41, e24, show min (F i) (V i + 10 * hd) = F i by omega, nI_1]
        · have cg' : win P 8 i g = false := by simpa using cg
          rw [cg']
          rw [if_pos t0, if_pos t0]
          exact ih (i + 1) n m V fly ta now (by omega) (by omega) (by omega) h
    · have ht' : T.testBit i = false := by simpa using ht
      rw [ht', Bool.false_and, if_pos t0, if_pos t0]
      exact ih (i + 1) n m V fly ta now (by omega) (by omega) (by omega) h
theorem act_shake {wat fla fly lea clo con inn : Nat → Int32} {th mu ta ho : Int32} {now flk lek : Nat → Int32} {mus o : Int32} {g hd : Nat} (hg : g < 8) (h1 : 1 ≤ hd) (hh : hd ≤ 9) (h : SH wat fla fly lea clo con inn th mu ta ho now flk lek mus) : ACT wat fla fly lea clo con inn th mu ta ho now flk lek mus (nI (48 + hd)) (nI g) o (f_X10_shake now flk (nI g) (nI hd)) := by
  obtain ⟨T, U, hr, W, F, V, K, C, Q, P, h⟩ := h
  obtain ⟨⟨hT, hU, hhr⟩, ⟨e1, e2, e3⟩, ⟨m1, m2, m3, m4⟩, hok, hx, hm, hn⟩ := id h
  have hne : ∀ a : Nat, a < 200 → a ≠ 48 + hd → ¬ nI (48 + hd) = nI a := fun a ha e q => e ((nI_eq (by omega) (by omega)).mp q.symm)
  have n46 : ¬ nI (48 + hd) = (46 : Int32) := hne 46 (by omega) (by omega)
  have n62 : ¬ nI (48 + hd) = (62 : Int32) := hne 62 (by omega) (by omega)
  have n35 : ¬ nI (48 + hd) = (35 : Int32) := hne 35 (by omega) (by omega)
  have n43 : ¬ nI (48 + hd) = (43 : Int32) := hne 43 (by omega) (by omega)
  have n47 : ¬ nI (48 + hd) = (47 : Int32) := hne 47 (by omega) (by omega)
  have n61 : ¬ nI (48 + hd) = (61 : Int32) := hne 61 (by omega) (by omega)
  have n94 : ¬ nI (48 + hd) = (94 : Int32) := hne 94 (by omega) (by omega)
  have hpx : ∀ x, x < 8 → T.testBit x = true → inn x = pX (P x) ∧ (P x < 8 → T.testBit (P x) = true) := fun x a b => ⟨(hx x a b).2.2.2.2.2.2, (hok x a b).2.2.2.2.2.2.1⟩
  by_cases ht : T.testBit g = true
  · obtain ⟨x1, x2, x3, x4, x5, x6, x7⟩ := hx g hg ht
    obtain ⟨n1, n2, n3, n4, n5, n6, n7⟩ := hm g hg ht
    obtain ⟨k1, k2, k3, k4, k5, k6, k7, k8⟩ := hok g hg ht
    have hc : f_X6_refusal wat clo inn th ho (nI (48 + hd)) (nI g) o = if W g = 0 then some 2 else some (-6) := by
      unfold f_X6_refusal B_X6_refusal_48
      rw [if_neg n46, e1, q_has hT hg, ht, q_bd1, if_neg (by decide), if_neg n62, if_neg n35, if_neg n43, if_neg n47, if_neg n61, if_neg n62, if_neg n94, q_isFree hT hg (fun _ => x1) (by omega), ht, q_bd1]
      by_cases c : W g = 0
      · rw [if_pos c, c]; rfl
      · rw [if_neg c, show (W g == 0) = false by simp [c]]; rfl
    by_cases c : W g = 0
    · refine Or.inl ⟨2, by omega, by omega, by rw [hc, if_pos c]; rfl, ?_⟩
      unfold f_X10_shake
      rw [q_stands hT hg m1, q_bd1, ht, if_neg (by decide), q_misFree hg n1 (by omega), q_bd1, c]; rfl
    · obtain ⟨V', fly', ta', now', r1, r2, r3⟩ := shake_l hg hh 8 0 FU FU V fly ta now rfl (by have := q_FU; omega) (by have := q_FU; omega) h
      refine Or.inr ⟨by rw [hc, if_neg c], wat, fly', clo, con, inn, th, ta', ho, now', ?_, ?_, ⟨_, _, _, _, _, _, _, _, _, _, r3⟩⟩
      · unfold f_X6_perform f_X6_shake
        rw [if_neg n46, e1, q_has hT hg, ht, q_bd1, if_neg (by decide), if_neg n35, if_neg n43, if_neg n47, if_neg n61, if_neg n62, if_neg n94, q_lit 48, pk_sub (by omega), show 48 + hd - 48 = hd by omega]
        rw [e1] at r1
        rw [show (0 : Int32) = nI 0 from rfl, r1]; rfl
      · unfold f_X10_shake
        rw [q_stands hT hg m1, q_bd1, ht, if_neg (by decide), q_misFree hg n1 (by omega), q_bd1, show (W g == 0) = false by simp [c], if_pos (by decide)]
        exact r2
  · have ht' : T.testBit g = false := by simpa using ht
    refine act_gone hT hg e1 ht' n46 ?_
    unfold f_X10_shake
    rw [q_stands hT hg m1, q_bd1, ht']; rfl
