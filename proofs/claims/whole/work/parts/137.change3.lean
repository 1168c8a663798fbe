/-! pure: change, the reference; both -/
def nm6 (d : Nat → Nat) : Nat := 100000 * d 0 + 10000 * d 1 + 1000 * d 2 + 100 * d 3 + 10 * d 4 + d 5
theorem nm6_dig {d : Nat → Nat} (hd : ∀ i, i < 6 → d i < 6) {i : Nat} (hi : i < 6) : nm6 d / 10 ^ (6 - 1 - i) % 10 = d i := by
  have h0 := hd 0 (by omega)
  have h1 := hd 1 (by omega)
  have h2 := hd 2 (by omega)
  have h3 := hd 3 (by omega)
  have h4 := hd 4 (by omega)
  have h5 := hd 5 (by omega)
  unfold nm6
  obtain rfl | rfl | rfl | rfl | rfl | rfl : i = 0 ∨ i = 1 ∨ i = 2 ∨ i = 3 ∨ i = 4 ∨ i = 5 := by omega
  · rw [show 10 ^ (6 - 1 - 0) = 100000 from rfl]; omega
  · rw [show 10 ^ (6 - 1 - 1) = 10000 from rfl]; omega
  · rw [show 10 ^ (6 - 1 - 2) = 1000 from rfl]; omega
  · rw [show 10 ^ (6 - 1 - 3) = 100 from rfl]; omega
  · rw [show 10 ^ (6 - 1 - 4) = 10 from rfl]; omega
  · rw [show 10 ^ (6 - 1 - 5) = 1 from rfl]; omega
theorem nm6_lt {d : Nat → Nat} (hd : ∀ i, i < 6 → d i < 6) : nm6 d < 2 ^ 31 := by
  have h0 := hd 0 (by omega)
  have h1 := hd 1 (by omega)
  have h2 := hd 2 (by omega)
  have h3 := hd 3 (by omega)
  have h4 := hd 4 (by omega)
  have h5 := hd 5 (by omega)
  unfold nm6
  omega
theorem pt_l {rk : Nat → Int32} {d : Nat → Nat} {A k : Nat} (hA : A < 64) (hk : k < 6) (hrk : rk k = nI (nm6 d)) (hd : ∀ i, i < 6 → d i < 6) : ∀ m i n, i + m = 6 → m < n → (∃ j, i ≤ j ∧ j < i + m ∧ A.testBit (d j) = true) → L_X10_pointsTo_2 rk (nI k) (nI A) n (nI i) = some (nI (tgo d A m i)) := by
  intro m
  induction m with
  | zero => rintro i n hi hn ⟨j, h1, h2, _⟩; exact absurd h2 (by omega)
  | succ m ih =>
    rintro i n hi hn ⟨j, h1, h2, h3⟩
    obtain ⟨n, rfl⟩ : ∃ a, n = a + 1 := ⟨n - 1, by omega⟩
    have hi6 : i < 6 := by omega
    have hdi := hd i hi6
    rw [L_X10_pointsTo_2.eq_2, q_gin hk (by decide), q_gin hk (by decide), q_cl (by omega), hrk, q_lit 6, q_digit (nm6_lt hd) hi6 (by decide), q_bd1, q_bd1, nm6_dig hd hi6, q_mhas (by omega) (by omega), q_bd1, nI_1, tgo]
    by_cases a : A.testBit (d i) = true
    · rw [a, if_neg q_t0, if_pos rfl]
    · have a' : A.testBit (d i) = false := by simpa using a
      rw [a', if_pos q_f0, if_neg (by decide)]
      refine ih (i + 1) n (by omega) (by omega) ⟨j, ?_, by omega, h3⟩
      have : j ≠ i := fun e => a (by rw [← e]; exact h3)
      omega
theorem q_pts {rk : Nat → Int32} {D : Nat → Nat → Nat} {A k : Nat} (hD : DOK D) (hA : A < 64) (h0 : A ≠ 0) (hk : k < 6) (hrk : ∀ k, k < 6 → rk k = nI (nm6 (D k))) : f_X10_pointsTo rk (nI k) (nI A) = some (nI (tg D A k)) := by
  unfold f_X10_pointsTo
  exact pt_l hA hk (hrk k hk) (hD k hk).1 6 0 FU rfl (by have := q_FU; omega) (tg_hit hD hA h0 hk)
theorem rf46 {rk ge0 : Nat → Int32} {D : Nat → Nat → Nat} {A : Nat} {rec3 : (Nat → Int32) → Int32 → Option (Nat → Int32)} (hD : DOK D) (hA : A < 64) (h0 : A ≠ 0) (hrk : ∀ k, k < 6 → rk k = nI (nm6 (D k))) :
    ∀ (f n R x : Nat) (ge : Nat → Int32), 64 ≤ R + f → f < n → R < 64 → A.testBit x = true → (∃ s, itr (tg D A) (s + 1) x = x) → (∀ j, R.testBit j = true → A.testBit j = true ∧ (R.testBit (tg D A j) = true ∨ tg D A j = x) ∧ ∃ s, itr (tg D A) (s + 1) j = j) → (∀ j, R.testBit j = true → ge j = nI (tg D A j)) → (∀ j, R.testBit j = false → ge j = ge0 j) → ∃ (C : Nat) (ge2 : Nat → Int32), RC (tg D) A C ∧ (∃ i, C.testBit i = true) ∧ (∀ j, C.testBit j = true → ge2 j = nI (tg D A j)) ∧ (∀ j, C.testBit j = false → ge2 j = ge0 j) ∧ L_X10_makeRings_46 rk rec3 n ge (nI A) (nI x) (nI R) = rec3 ge2 (nI (dif A C)) := by
  intro f
  induction f with
  | zero => intro n R x ge h1 h2 h3; exact absurd h3 (by omega)
  | succ f ih =>
    intro n R x ge h1 h2 hR hx hs hc g1 g2
    obtain ⟨n, rfl⟩ : ∃ a, n = a + 1 := ⟨n - 1, by omega⟩
    have hx6 := bit6 hA hx
    have ht6 := tg_lt hD hA h0 hx6
    rw [L_X10_makeRings_46.eq_2, q_mhas (by omega) (by omega), q_bd1]
    by_cases r : R.testBit x = true
    · refine ⟨R, ge, ⟨hR, fun i hi => ?_⟩, ⟨x, r⟩, g1, g2, ?_⟩
      · obtain ⟨a, b, c⟩ := hc i hi
        refine ⟨a, ?_, c⟩
        rcases b with b | b
        · exact b
        · rw [b]; exact r
      · rw [r, if_neg q_t0, q_andn (by omega)]
    · have r' : R.testBit x = false := by simpa using r
      rw [r', if_pos q_f0, q_pts hD hA h0 hx6 hrk, q_bd1, q_gin hx6 (by decide), q_gin hx6 (by decide), q_cl (by omega), upd_g, q_one (by omega), q_or]
      have bt : ∀ j, (R ||| 2 ^ x).testBit j = true ↔ R.testBit j = true ∨ j = x := fun j => by
        rw [Nat.testBit_or, Nat.testBit_two_pow, Bool.or_eq_true, decide_eq_true_iff]
        exact ⟨fun h => h.imp id (fun e => e.symm), fun h => h.imp id (fun e => e.symm)⟩
      have hlt : R ||| 2 ^ x < 64 := Nat.or_lt_two_pow (n := 6) hR (Nat.pow_lt_pow_right (a := 2) (m := x) (n := 6) (by decide) hx6)
      have hgt : R < R ||| 2 ^ x := by
        have le : R ≤ R ||| 2 ^ x := Nat.left_le_or
        have ne : R ≠ R ||| 2 ^ x := fun e => r (by rw [e]; exact (bt x).mpr (Or.inr rfl))
        omega
      obtain ⟨s, hs⟩ := hs
      refine ih n (R ||| 2 ^ x) (tg D A x) _ (by omega) (by omega) hlt (tg_mem hD hA h0 hx6) ⟨s, ?_⟩ (fun j hj => ?_) (fun j hj => ?_) (fun j hj => ?_)
      · have := itr_comm (tg D A) (s + 1) 1 x
        rw [hs] at this
        exact this
      · rcases (bt j).mp hj with h | h
        · obtain ⟨a, b, c⟩ := hc j h
          refine ⟨a, Or.inl ((bt _).mpr b), c⟩
        · subst h
          exact ⟨hx, Or.inr rfl, s, hs⟩
      · by_cases e : j = x
        · rw [e, upd_g]
        · rw [upd_n e]
          rcases (bt j).mp hj with h | h
          · exact g1 j h
          · exact absurd h e
      · have e : j ≠ x := fun e => by
          rw [(bt j).mpr (Or.inr e)] at hj
          exact absurd hj (by decide)
        rw [upd_n e]
        refine g2 j (Bool.eq_false_iff.mpr (fun w => ?_))
        rw [(bt j).mpr (Or.inl w)] at hj
        exact absurd hj (by decide)
theorem rf25 {rk ge : Nat → Int32} {D : Nat → Nat → Nat} {A : Nat} {rec3 : (Nat → Int32) → Int32 → Option (Nat → Int32)} (hD : DOK D) (hA : A < 64) (h0 : A ≠ 0) (hrk : ∀ k, k < 6 → rk k = nI (nm6 (D k))) :
    ∀ (k i n x : Nat), i + k = 6 → k < n → A.testBit x = true → L_X10_makeRings_25 rk rec3 n ge (nI A) (nI x) (nI i) = L_X10_makeRings_46 rk rec3 FU ge (nI A) (nI (itr (tg D A) k x)) 0 := by
  intro k
  induction k with
  | zero =>
    intro i n x hi hn hx
    obtain ⟨n, rfl⟩ : ∃ a, n = a + 1 := ⟨n - 1, by omega⟩
    obtain rfl : i = 6 := by omega
    rw [L_X10_makeRings_25.eq_2, if_pos (show (6 : Int32) ≤ nI 6 by decide)]; rfl
  | succ k ih =>
    intro i n x hi hn hx
    obtain ⟨n, rfl⟩ : ∃ a, n = a + 1 := ⟨n - 1, by omega⟩
    have hx6 := bit6 hA hx
    rw [L_X10_makeRings_25.eq_2, q_lit 6, q_ifle (by decide) (by omega), if_neg (by omega), q_pts hD hA h0 hx6 hrk, q_bd1, nI_1, itr]
    exact ih (i + 1) n _ (by omega) (by omega) (tg_mem hD hA h0 hx6)
theorem rf9 {rk ge : Nat → Int32} {A : Nat} {rec3 : (Nat → Int32) → Int32 → Option (Nat → Int32)} (hA : A < 64) :
    ∀ (m i n : Nat), i + m = 6 → m < n → (∃ j, i ≤ j ∧ A.testBit j = true) → ∃ a, A.testBit a = true ∧ L_X10_makeRings_9 rk rec3 n ge (nI A) (nI i) = L_X10_makeRings_25 rk rec3 FU ge (nI A) (nI a) 0 := by
  intro m
  induction m with
  | zero => rintro i n hi hn ⟨j, h1, h2⟩; exact absurd (bit6 hA h2) (by omega)
  | succ m ih =>
    rintro i n hi hn ⟨j, h1, h2⟩
    obtain ⟨n, rfl⟩ : ∃ a, n = a + 1 := ⟨n - 1, by omega⟩
    rw [L_X10_makeRings_9.eq_2, q_mhas (by omega) (by omega), q_bd1]
    by_cases a : A.testBit i = true
    · exact ⟨i, a, by rw [a, if_neg q_t0]⟩
    · have a' : A.testBit i = false := by simpa using a
      rw [a', if_pos q_f0, nI_1]
      refine ih (i + 1) n (by omega) (by omega) ⟨j, ?_, h2⟩
      have : j ≠ i := fun e => a (by rw [← e]; exact h2)
      omega
theorem rf3 {rk : Nat → Int32} {D : Nat → Nat → Nat} (hD : DOK D) (hrk : ∀ k, k < 6 → rk k = nI (nm6 (D k))) :
    ∀ (A : Nat), A < 64 → ∀ (n : Nat) (ge : Nat → Int32), A < n → ∃ (ge2 : Nat → Int32) (m : Nat), L_X10_makeRings_3 rk n ge (nI A) = some ge2 ∧ OUT (tg D) m A (fun j => Int32.toNatClampNeg (ge2 j)) ∧ (∀ j, A.testBit j = true → ∃ v, v < 6 ∧ ge2 j = nI v) ∧ (∀ j, A.testBit j = false → ge2 j = ge j) := by
  intro A
  induction A using Nat.strongRecOn with
  | ind A ih =>
    intro hA n ge hn
    obtain ⟨n, rfl⟩ : ∃ a, n = a + 1 := ⟨n - 1, by omega⟩
    rw [L_X10_makeRings_3.eq_2]
    by_cases c : A = 0
    · subst c
      rw [if_pos (show nI 0 = 0 from rfl)]
      exact ⟨ge, 0, rfl, rfl, fun j h => by rw [Nat.zero_testBit] at h; exact absurd h (by decide), fun _ _ => rfl⟩
    · rw [if_neg (show ¬ nI A = 0 from nI_ne0 (by omega) (by omega))]
      obtain ⟨b, _, hb⟩ := bit_ex (show A < 256 by omega) c
      obtain ⟨a, ha, e9⟩ := rf9 (rk := rk) (ge := ge) (rec3 := L_X10_makeRings_3 rk n) hA 6 0 FU rfl (by have := q_FU; omega) ⟨b, by omega, hb⟩
      have e25 := rf25 (ge := ge) (rec3 := L_X10_makeRings_3 rk n) hD hA c hrk 6 0 FU a rfl (by have := q_FU; omega) ha
      obtain ⟨s, _, hs⟩ := six hD hA ha
      obtain ⟨C, ge2, rc, ne, s1, s2, s3⟩ := rf46 (rec3 := L_X10_makeRings_3 rk n) (ge0 := ge) hD hA c hrk 64 FU 0 (itr (tg D A) 6 a) ge (by omega) (by have := q_FU; omega) (by omega) (itr_tg hD hA c 6 a ha) ⟨s, hs⟩ (fun j h => by rw [Nat.zero_testBit] at h; exact absurd h (by decide)) (fun j h => by rw [Nat.zero_testBit] at h; exact absurd h (by decide)) (fun _ _ => rfl)
      obtain ⟨l1, l2⟩ := pc_rc hA rc ne
      obtain ⟨ge3, m, u1, u2, u3, u4⟩ := ih (dif A C) l1 (by omega) n ge2 (by omega)
      rw [show L_X10_makeRings_9 rk (L_X10_makeRings_3 rk n) FU ge (nI A) 0 = _ from e9, show L_X10_makeRings_25 rk (L_X10_makeRings_3 rk n) FU ge (nI A) (nI a) 0 = _ from e25, show L_X10_makeRings_46 rk (L_X10_makeRings_3 rk n) FU ge (nI A) (nI (itr (tg D A) 6 a)) 0 = _ from s3, u1]
      have inC : ∀ j, C.testBit j = true → ge3 j = nI (tg D A j) := fun j hj => by
        rw [u4 j (Bool.eq_false_iff.mpr (fun w => by
          have := (dif_b.mp w).2.2
          rw [hj] at this
          exact absurd this (by decide))), s1 j hj]
      have t6 : ∀ j, C.testBit j = true → tg D A j < 6 := fun j hj => bit6 rc.1 (rc.2 j hj).2.1
      refine ⟨ge3, m + 1, rfl, Or.inr ⟨C, rc, fun j hj => ?_, u2⟩, fun j hj => ?_, fun j hj => ?_⟩
      · show Int32.toNatClampNeg (ge3 j) = _
        have := t6 j hj
        rw [inC j hj, q_cl (by omega)]
      · by_cases o : C.testBit j = true
        · exact ⟨_, t6 j o, inC j o⟩
        · exact u3 j (dif_b.mpr ⟨by have := bit6 hA hj; omega, hj, by simpa using o⟩)
      · rw [u4 j (Bool.eq_false_iff.mpr (fun w => by
          have := (dif_b.mp w).2.1
          rw [hj] at this
          exact absurd this (by decide))), s2 j (Bool.eq_false_iff.mpr (fun w => by
          have := (rc.2 j w).1
          rw [hj] at this
          exact absurd this (by decide)))]
theorem b63 : ∀ j, j < 6 → (63 : Nat).testBit j = true := fun j hj => (by decide : ∀ j : Fin 6, (63 : Nat).testBit j.val = true) ⟨j, hj⟩
theorem mov_l {rk ge gm : Nat → Int32} {p1 : Int32} (h : ∀ j, j < 6 → ge j = gm j) : ∀ (k i n m : Nat) (c : Int32), i + k = 6 → k < n → k < m → ∃ r, L_X2_moved_4 ge n c (nI i) = some r ∧ L_X10_change_19 rk p1 m gm c (nI i) = if 0 ≤ p1 then gin p1 6 (some (gm (Int32.toNatClampNeg p1), gm)) else some (r, gm) := by
  intro k
  induction k with
  | zero =>
    intro i n m c hi hn hm
    obtain ⟨n, rfl⟩ : ∃ a, n = a + 1 := ⟨n - 1, by omega⟩
    obtain ⟨m, rfl⟩ : ∃ a, m = a + 1 := ⟨m - 1, by omega⟩
    obtain rfl : i = 6 := by omega
    exact ⟨c, by rw [L_X2_moved_4.eq_2, if_pos (show (6 : Int32) ≤ nI 6 by decide)], by rw [L_X10_change_19.eq_2, if_pos (show (6 : Int32) ≤ nI 6 by decide)]⟩
  | succ k ih =>
    intro i n m c hi hn hm
    obtain ⟨n, rfl⟩ : ∃ a, n = a + 1 := ⟨n - 1, by omega⟩
    obtain ⟨m, rfl⟩ : ∃ a, m = a + 1 := ⟨m - 1, by omega⟩
    have hi6 : i < 6 := by omega
    have n6 : ¬ (6 : Int32) ≤ nI i := by
      rw [show (6 : Int32) = nI 6 from rfl, nI_leI (by decide) (by omega)]
      omega
    rw [L_X2_moved_4.eq_2, L_X10_change_19.eq_2, if_neg n6, if_neg n6, q_gin hi6 (by decide), q_gin hi6 (by decide), q_cl (by omega), h i hi6, nI_1, Int32.add_zero]
    by_cases e : gm i = nI i
    · rw [if_pos e, if_pos e]
      exact ih (i + 1) n m c (by omega) (by omega) (by omega)
    · rw [if_neg e, if_neg e]
      exact ih (i + 1) n m (c + 1) (by omega) (by omega) (by omega)
theorem both_rings {od rk : Nat → Int32} (h : ORDR od rk) (ge ta gm : Nat → Int32) : ∃ ge2 ta2 gm2 : Nat → Int32, f_X2_makeRings od ge ta = some (ge2, ta2) ∧ f_X10_makeRings rk gm = some gm2 ∧ ∀ j, j < 6 → ge2 j = gm2 j := by
  obtain ⟨D, hd⟩ : ∃ D : Nat → Nat → Nat, ∀ k, k < 6 → (∀ i, i < 6 → D k i < 6) ∧ (∀ i j, i < 6 → j < 6 → D k i = D k j → i = j) ∧ (∀ i, i < 6 → od (6 * k + i) = nI (D k i)) ∧ rk k = nI (nm6 (D k)) := by
    refine ⟨fun k => if c : k < 6 then Classical.choose (h k c) else fun _ => 0, fun k hk => ?_⟩
    show (∀ i, i < 6 → (dite (k < 6) (fun c => Classical.choose (h k c)) (fun _ => fun _ => 0) : Nat → Nat) i < 6) ∧ _
    simp only [dif_pos hk]
    exact Classical.choose_spec (h k hk)
  have hD : DOK D := fun k hk => ⟨(hd k hk).1, (hd k hk).2.1⟩
  obtain ⟨ge2, ta2, m, a1, a2, a3, _⟩ := mr5 hD (fun k hk => (hd k hk).2.2.1) 6 FU 63 ge ta (by omega) (by have := q_FU; omega) (by decide) (by decide)
  obtain ⟨gm2, n, b1, b2, b3, _⟩ := rf3 hD (fun k hk => (hd k hk).2.2.2) 63 (by decide) FU gm (by have := q_FU; omega)
  refine ⟨ge2, ta2, gm2, a1, b1, fun j hj => ?_⟩
  obtain ⟨v, hv, ev⟩ := a3 j (b63 j hj)
  obtain ⟨w, hw, ew⟩ := b3 j (b63 j hj)
  have e := OUT_uniq (tg_iia D) m n 63 (by decide) a2 b2 j (b63 j hj)
  have e : Int32.toNatClampNeg (ge2 j) = Int32.toNatClampNeg (gm2 j) := e
  rw [ev, ew, q_cl (by omega), q_cl (by omega)] at e
  rw [ev, ew, e]
theorem core_change {od rk : Nat → Int32} (h : ORDR od rk) (ge ta gm : Nat → Int32) (y1 : Int32) : ∃ (r : Int32) (ge2 ta2 gm2 : Nat → Int32), f_X9_change od ge ta y1 = some (r, ge2, ta2) ∧ f_X10_change rk gm y1 = some (r, gm2) := by
  obtain ⟨ge2, ta2, gm2, a1, b1, e⟩ := both_rings h ge ta gm
  unfold f_X9_change f_X10_change f_X10_in
  by_cases c : y1 < -1
  · exact ⟨-1, ge, ta, gm, by rw [if_pos c], by rw [if_pos c, q_bd1, if_pos rfl]⟩
  · rw [if_neg c, if_neg c]
    by_cases d : y1 < 6
    · have d2 : ¬ (5 : Int32) < y1 := by
        rw [Int32.lt_iff_toInt_lt] at d ⊢
        have e6 : (6 : Int32).toInt = 6 := rfl
        have e5 : (5 : Int32).toInt = 5 := rfl
        omega
      rw [if_pos d, if_neg d2, a1, q_bd2, q_bd1, if_neg (show ¬ (1 : Int32) = 0 by decide), b1, q_bd1]
      obtain ⟨r, m1, m2⟩ := mov_l (rk := rk) (p1 := y1) e 6 0 FU FU 0 rfl (by have := q_FU; omega) (by have := q_FU; omega)
      rw [show L_X10_change_19 rk y1 FU gm2 0 0 = _ from m2]
      by_cases z : 0 ≤ y1
      · have hz : ¬ y1 < 0 := by
          rw [Int32.lt_iff_toInt_lt]
          rw [Int32.le_iff_toInt_le] at z
          omega
        obtain ⟨j, hj, rfl⟩ := nI_of hz
        have hj6 : j < 6 := (nI_ltI hj (by decide)).mp d
        refine ⟨gm2 j, ge2, ta2, gm2, ?_, ?_⟩
        · rw [if_pos z, q_gin hj6 (by decide), q_cl hj, e j hj6]
        · rw [if_pos z, q_gin hj6 (by decide), q_cl hj]
      · refine ⟨r, ge2, ta2, gm2, ?_, by rw [if_neg z]⟩
        unfold f_X2_moved
        rw [if_neg z, show L_X2_moved_4 ge2 FU 0 0 = _ from m1, q_bd1]
    · have d2 : (5 : Int32) < y1 := by
        rw [Int32.lt_iff_toInt_lt] at d ⊢
        have e6 : (6 : Int32).toInt = 6 := rfl
        have e5 : (5 : Int32).toInt = 5 := rfl
        omega
      exact ⟨-1, ge, ta, gm, by rw [if_neg d], by rw [if_pos d2, q_bd1, if_pos rfl]⟩
