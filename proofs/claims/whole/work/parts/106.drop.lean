/-! pure: a globe is dropped -/
theorem up_self {P : Nat → Nat} {g : Nat} (hg : g < 8) (h : 8 ≤ up P 8 g) : P g ≠ g := by
  intro e
  have : ∀ k, up P k g = g := by
    intro k
    induction k with
    | zero => rfl
    | succ k ih => rw [up, if_pos hg, e]; exact ih
  rw [this] at h
  omega
def dP (P : Nat → Nat) (g i : Nat) : Nat → Nat := fun x => if x < i ∧ P x = g then P g else P x
theorem dP_0 (P : Nat → Nat) (g x : Nat) : dP P g 0 x = P x := by
  unfold dP
  rw [if_neg (by omega)]
theorem dP_ge {P : Nat → Nat} {g i x : Nat} (h : i ≤ x) : dP P g i x = P x := by
  unfold dP
  rw [if_neg (by omega)]
theorem dP_g {P : Nat → Nat} {g i : Nat} (h : P g ≠ g) : dP P g i g = P g := by
  unfold dP
  rw [if_neg (fun e => h e.2)]
theorem dP_s {P : Nat → Nat} {g i x : Nat} (h : x ≠ i) : dP P g (i + 1) x = dP P g i x := by
  unfold dP
  by_cases c : x < i
  · simp only [c, show x < i + 1 by omega]
  · simp only [c, show ¬ x < i + 1 by omega]
theorem dP_i {P : Nat → Nat} {g i : Nat} : dP P g (i + 1) i = if P i = g then P g else P i := by
  unfold dP
  by_cases c : P i = g
  · rw [if_pos ⟨by omega, c⟩, if_pos c]
  · rw [if_neg (fun e => c e.2), if_neg c]
theorem dP_8 {P : Nat → Nat} {g x : Nat} (h : x < 8) : dP P g 8 x = if P x = g then P g else P x := by
  unfold dP
  by_cases c : P x = g
  · rw [if_pos ⟨h, c⟩, if_pos c]
  · rw [if_neg (fun e => c e.2), if_neg c]
theorem drop_x {T g : Nat} {P : Nat → Nat} (hT : T < 256) (hg : g < 8) (htg : T.testBit g = true) (hne : P g ≠ g) : ∀ (k i n : Nat) (inn : Nat → Int32), i + k = 8 → k < n → (∀ x, x < 8 → T.testBit x = true → inn x = pX (dP P g i x)) → ∃ inn' : Nat → Int32, L_X6_drop_11 (nI g) n inn (nI T) (nI i) = some (inn', nI (dif T (2 ^ g))) ∧ ∀ x, x < 8 → T.testBit x = true → inn' x = pX (dP P g 8 x) := by
  intro k
  induction k with
  | zero =>
    intro i n inn hi hn h
    obtain ⟨n, rfl⟩ : ∃ a, n = a + 1 := ⟨n - 1, by omega⟩
    obtain rfl : i = 8 := by omega
    exact ⟨inn, by rw [L_X6_drop_11.eq_2, if_pos q_88, q_one hg, q_andn hT], h⟩
  | succ k ih =>
    intro i n inn hi hn h
    obtain ⟨n, rfl⟩ : ∃ a, n = a + 1 := ⟨n - 1, by omega⟩
    have hi8 : i < 8 := by omega
    rw [L_X6_drop_11.eq_2, if_neg (q_8n hi8), q_has hT hi8, q_bd1, nI_1]
    by_cases ht : T.testBit i = true
    · have hii := h i hi8 ht
      rw [dP_ge (Nat.le_refl i)] at hii
      have hig := h g hg htg
      rw [dP_g hne] at hig
      rw [ht, if_neg (by decide), q_gin hi8 (by decide), q_gin hg (by decide), q_gin hi8 (by decide), q_cl (by omega), q_cl (by omega), hii]
      by_cases c : P i = g
      · rw [if_pos ((pX_eq hg).mpr c)]
        refine ih (i + 1) n _ (by omega) (by omega) (fun x hx8 hTx => ?_)
        by_cases e : x = i
        · rw [e, upd_g, dP_i, if_pos c]
          exact hig
        · rw [upd_n e, dP_s e]
          exact h x hx8 hTx
      · rw [if_neg (fun e => c ((pX_eq hg).mp e))]
        refine ih (i + 1) n _ (by omega) (by omega) (fun x hx8 hTx => ?_)
        by_cases e : x = i
        · rw [e, dP_i, if_neg c]
          exact hii
        · rw [dP_s e]
          exact h x hx8 hTx
    · have ht' : T.testBit i = false := by simpa using ht
      rw [ht', if_pos (by decide)]
      refine ih (i + 1) n _ (by omega) (by omega) (fun x hx8 hTx => ?_)
      rw [dP_s (fun e => by rw [e, ht'] at hTx; cases hTx)]
      exact h x hx8 hTx
theorem drop_m {T g : Nat} {P : Nat → Nat} (hT : T < 256) (hg : g < 8) (htg : T.testBit g = true) (hne : P g ≠ g) (now0 : Nat → Int32) (m1 : now0 40 = nI T) : ∀ (k i n : Nat) (now : Nat → Int32), i + k = 8 → k < n → (∀ x, x < 8 → T.testBit x = true → now (32 + x) = pM (dP P g i x)) → (∀ x, x < 8 → T.testBit x = false → now (32 + x) = -6) → (∀ j, j < 32 ∨ 40 ≤ j → now j = now0 j) → ∃ now' : Nat → Int32, L_X10_drop_12 (nI g) n now (nI i) = some (0, upd (upd now' 40 (nI (dif T (2 ^ g)))) (32 + g) (-6)) ∧ (∀ x, x < 8 → T.testBit x = true → now' (32 + x) = pM (dP P g 8 x)) ∧ (∀ x, x < 8 → T.testBit x = false → now' (32 + x) = -6) ∧ (∀ j, j < 32 ∨ 40 ≤ j → now' j = now0 j) := by
  intro k
  induction k with
  | zero =>
    intro i n now hi hn h h2 h3
    obtain ⟨n, rfl⟩ : ∃ a, n = a + 1 := ⟨n - 1, by omega⟩
    obtain rfl : i = 8 := by omega
    exact ⟨now, by rw [L_X10_drop_12.eq_2, if_pos q_88, q_lit 32, q_add, q_gin (by omega) (by decide), q_cl (by omega), q_40, h3 40 (by omega), m1, q_one hg, q_andn hT], h, h2, h3⟩
  | succ k ih =>
    intro i n now hi hn h h2 h3
    obtain ⟨n, rfl⟩ : ∃ a, n = a + 1 := ⟨n - 1, by omega⟩
    have hi8 : i < 8 := by omega
    rw [L_X10_drop_12.eq_2, if_neg (q_8n hi8)]
    unfold B_X10_drop_60
    rw [q_lit 32, q_add, q_add, q_gin (by omega) (by decide), q_gin (by omega) (by decide), q_gin (by omega) (by decide), q_gin (by omega) (by decide), q_gin (by omega) (by decide), q_cl (by omega), q_cl (by omega), nI_1]
    have hig := h g hg htg
    rw [dP_g hne] at hig
    by_cases ht : T.testBit i = true
    · have hii := h i hi8 ht
      rw [dP_ge (Nat.le_refl i)] at hii
      rw [hii, hig]
      by_cases c : P i = g
      · rw [if_pos ((pM_eq hg).mpr c)]
        refine ih (i + 1) n _ (by omega) (by omega) (fun x hx8 hTx => ?_) (fun x hx8 hTx => ?_) (fun j hj => ?_)
        · by_cases e : x = i
          · rw [e, upd_g, dP_i, if_pos c]
          · rw [upd_n (by omega), dP_s e]
            exact h x hx8 hTx
        · rw [upd_n (fun e => by rw [show x = i by omega, ht] at hTx; cases hTx)]
          exact h2 x hx8 hTx
        · rw [upd_n (by omega)]
          exact h3 j hj
      · rw [if_neg (fun e => c ((pM_eq hg).mp e))]
        refine ih (i + 1) n _ (by omega) (by omega) (fun x hx8 hTx => ?_) (fun x hx8 hTx => ?_) (fun j hj => ?_)
        · by_cases e : x = i
          · rw [e, upd_g, dP_i, if_neg c]
          · rw [upd_n (by omega), dP_s e]
            exact h x hx8 hTx
        · rw [upd_n (fun e => by rw [show x = i by omega, ht] at hTx; cases hTx)]
          exact h2 x hx8 hTx
        · rw [upd_n (by omega)]
          exact h3 j hj
    · have ht' : T.testBit i = false := by simpa using ht
      have hii := h2 i hi8 ht'
      rw [hii, if_neg (fun e => by
        have := nI_pos (n := g) (by omega)
        rw [← e] at this
        exact this (by decide))]
      refine ih (i + 1) n _ (by omega) (by omega) (fun x hx8 hTx => ?_) (fun x hx8 hTx => ?_) (fun j hj => ?_)
      · rw [upd_n (fun e => by rw [show x = i by omega, ht'] at hTx; cases hTx), dP_s (fun e => by rw [e, ht'] at hTx; cases hTx)]
        exact h x hx8 hTx
      · by_cases e : x = i
        · rw [e, upd_g]
        · rw [upd_n (by omega)]
          exact h2 x hx8 hTx
      · rw [upd_n (by omega)]
        exact h3 j hj
theorem dif_bit {T g x : Nat} (hx : x < 8) : (dif T (2 ^ g)).testBit x = (T.testBit x && decide (x ≠ g)) := by
  unfold dif
  rw [orB_bit, Nat.testBit_two_pow]
  simp only [hx, decide_true, Bool.true_and]
  by_cases e : g = x
  · simp [e]
  · simp [e, show ¬ x = g from fun h => e h.symm]
theorem act_drop {wat fla fly lea clo con inn : Nat → Int32} {th mu ta ho : Int32} {now flk lek : Nat → Int32} {mus o : Int32} {g : Nat} (hg : g < 8) (h : SH wat fla fly lea clo con inn th mu ta ho now flk lek mus) : ACT wat fla fly lea clo con inn th mu ta ho now flk lek mus 35 (nI g) o (f_X10_drop now (nI g)) := by
  obtain ⟨T, U, hr, W, F, V, K, C, Q, P, h⟩ := h
  obtain ⟨⟨hT, hU, hhr⟩, ⟨e1, e2, e3⟩, ⟨m1, m2, m3, m4⟩, hok, hx, hm, hn⟩ := id h
  by_cases ht : T.testBit g = true
  · obtain ⟨k1, k2, k3, k4, k5, k6, k7, k8⟩ := hok g hg ht
    have hne := up_self hg k8
    obtain ⟨inn', r1, r2⟩ := drop_x hT hg ht hne 8 0 FU inn rfl (by have := q_FU; omega) (fun x a b => by rw [dP_0]; exact (hx x a b).2.2.2.2.2.2)
    obtain ⟨now', s1, s2, s3, s4⟩ := drop_m hT hg ht hne now m1 8 0 FU now rfl (by have := q_FU; omega) (fun x a b => by rw [dP_0]; exact (hm x a b).2.2.2.2.2.2) hn (fun _ _ => rfl)
    refine Or.inr ⟨?_, wat, fly, clo, con, inn', nI (dif T (2 ^ g)), ta, ho, upd (upd now' 40 (nI (dif T (2 ^ g)))) (32 + g) (-6), ?_, ?_, ⟨dif T (2 ^ g), U, hr, W, F, V, K, C, Q, dP P g 8, ⟨orB_lt _ 8, hU, hhr⟩, ⟨rfl, e2, e3⟩, ⟨?_, m2, ?_, ?_⟩, ?_, ?_, ?_, ?_⟩⟩
    · unfold f_X6_refusal B_X6_refusal_48
      rw [if_neg (by decide), e1, q_has hT hg, ht, q_bd1, if_neg (by decide), if_neg (by decide), if_pos rfl]
    · unfold f_X6_perform f_X6_drop
      rw [if_neg (by decide), e1, q_has hT hg, ht, q_bd1, if_neg (by decide), if_pos rfl, q_bd1, if_neg (by decide), show (0 : Int32) = nI 0 from rfl, r1]; rfl
    · unfold f_X10_drop
      rw [q_stands hT hg m1, q_bd1, ht, if_neg (by decide)]
      exact s1
    · rw [upd_n (by omega), upd_g]
    · rw [upd_n (by omega), upd_n (by omega), s4 42 (by omega)]; exact m3
    · rw [upd_n (by omega), upd_n (by omega), s4 41 (by omega)]; exact m4
    · intro j hj hTj
      rw [dif_bit hj, Bool.and_eq_true, decide_eq_true_eq] at hTj
      obtain ⟨a1, a2, a3, a4, a5, a6, a7, a8⟩ := hok j hj hTj.1
      refine ⟨a1, a2, a3, a4, a5, a6, fun hp => ?_, ?_⟩
      · rw [dP_8 hj] at hp ⊢
        by_cases c : P j = g
        · rw [if_pos c] at hp ⊢
          rw [dif_bit hp, k7 hp]
          simp [hne]
        · rw [if_neg c] at hp ⊢
          rw [dif_bit hp, a7 hp]
          simp [c]
      · have hd := up_drop hg 8 hTj.2 a8
        have e : ∀ (n x : Nat), up (dP P g 8) n x = up (fun y => if P y = g then P g else P y) n x := by
          intro n
          induction n with
          | zero => intro x; rfl
          | succ n ih =>
            intro x
            rw [up, up]
            by_cases c : x < 8
            · rw [if_pos c, if_pos c, dP_8 c, ih]
            · rw [if_neg c, if_neg c]
        rw [e]
        exact hd
    · intro j hj hTj
      rw [dif_bit hj, Bool.and_eq_true] at hTj
      obtain ⟨a1, a2, a3, a4, a5, a6, a7⟩ := hx j hj hTj.1
      exact ⟨a1, a2, a3, a4, a5, a6, r2 j hj hTj.1⟩
    · intro j hj hTj
      rw [dif_bit hj, Bool.and_eq_true, decide_eq_true_eq] at hTj
      obtain ⟨a1, a2, a3, a4, a5, a6, a7⟩ := hm j hj hTj.1
      have hjg := hTj.2
      rw [upd_n (by omega), upd_n (by omega), upd_n (by omega), upd_n (by omega), upd_n (by omega), upd_n (by omega), upd_n (by omega), upd_n (by omega), upd_n (by omega), upd_n (by omega), s4 j (by omega), s4 (8 + j) (by omega), s4 (16 + j) (by omega), s4 (24 + j) (by omega)]
      exact ⟨a1, a2, a3, a4, a5, a6, s2 j hj hTj.1⟩
    · intro j hj hTj
      by_cases e : j = g
      · rw [e, upd_g]
      · rw [upd_n (by omega), upd_n (by omega)]
        rw [dif_bit hj] at hTj
        exact s3 j hj (by simpa [e] using hTj)
  · have ht' : T.testBit g = false := by simpa using ht
    refine act_gone hT hg e1 ht' (by decide) ?_
    unfold f_X10_drop
    rw [q_stands hT hg m1, q_bd1, ht']; rfl
