/-! pure: change, the class -/
def rng (t : Nat → Nat) (one : Nat) : Nat → Nat → Bool
  | 0, _ => false
  | k + 1, x => if t x = one then true else rng t one k (t x)
theorem rng_iff {t : Nat → Nat} {one : Nat} : ∀ k x, rng t one k x = true ↔ ∃ s, s < k ∧ itr t (s + 1) x = one
  | 0, x => ⟨fun h => Bool.noConfusion h, fun ⟨s, h, _⟩ => absurd h (by omega)⟩
  | k + 1, x => by
    rw [rng]
    by_cases c : t x = one
    · rw [if_pos c]
      exact ⟨fun _ => ⟨0, by omega, c⟩, fun _ => rfl⟩
    · rw [if_neg c, rng_iff k (t x)]
      constructor
      · rintro ⟨s, h1, h2⟩
        exact ⟨s + 1, by omega, by rw [itr]; exact h2⟩
      · rintro ⟨s, h1, h2⟩
        cases s with
        | zero => exact absurd h2 c
        | succ s => exact ⟨s, by omega, by rw [itr] at h2; exact h2⟩
theorem inRing_l {ta : Nat → Int32} {t : Nat → Nat} {one : Nat} (hta : ∀ j, j < 6 → ta j = nI (t j)) (ht : ∀ j, j < 6 → t j < 6) (ho : one < 6) : ∀ k n x, k ≤ 6 → k < n → x < 6 → L_X2_isInRing_4 ta (nI one) n (nI x) (nI (6 - k)) = some (if rng t one k x then 1 else 0) := by
  intro k
  induction k with
  | zero =>
    intro n x hk hn hx
    obtain ⟨n, rfl⟩ : ∃ a, n = a + 1 := ⟨n - 1, by omega⟩
    rw [L_X2_isInRing_4.eq_2, if_pos (show (6 : Int32) ≤ nI (6 - 0) by decide)]; rfl
  | succ k ih =>
    intro n x hk hn hx
    obtain ⟨n, rfl⟩ : ∃ a, n = a + 1 := ⟨n - 1, by omega⟩
    have h1 := ht x hx
    rw [L_X2_isInRing_4.eq_2, q_lit 6, q_ifle (by decide) (by omega), if_neg (by omega), if_neg (nI_pos (by omega)), q_ifle (by decide) (by omega), if_neg (by omega), q_gin hx (by decide), q_cl (by omega), hta x hx, q_ife (by omega) (by omega), nI_1, show 6 - (k + 1) + 1 = 6 - k by omega, rng]
    by_cases c : t x = one
    · rw [if_pos c, if_pos c]; rfl
    · rw [if_neg c, if_neg c]
      exact ih n (t x) (by omega) (by omega) h1
def cb (D : Nat → Nat → Nat) (A i : Nat) : Bool := A.testBit i && rng (tg D A) i 6 i
def cR (D : Nat → Nat → Nat) (A : Nat) : Nat := orB (cb D A) 6
theorem cR_bit {D : Nat → Nat → Nat} {A i : Nat} : (cR D A).testBit i = true ↔ i < 6 ∧ cb D A i = true := by
  unfold cR
  rw [orB_bit, Bool.and_eq_true, decide_eq_true_iff]
theorem cR_RC {D : Nat → Nat → Nat} (hD : DOK D) {A : Nat} (hA : A < 64) (h0 : A ≠ 0) : RC (tg D) A (cR D A) := by
  refine ⟨orB_lt _ 6, fun i hi => ?_⟩
  obtain ⟨h6, h⟩ := cR_bit.mp hi
  unfold cb at h
  rw [Bool.and_eq_true] at h
  obtain ⟨s, hs, e⟩ := (rng_iff 6 i).mp h.2
  refine ⟨h.1, cR_bit.mpr ⟨tg_lt hD hA h0 h6, ?_⟩, s, e⟩
  unfold cb
  rw [tg_mem hD hA h0 h6, Bool.true_and]
  refine (rng_iff 6 _).mpr ⟨s, hs, ?_⟩
  have := itr_comm (tg D A) (s + 1) 1 i
  rw [e] at this
  exact this
theorem cR_ne {D : Nat → Nat → Nat} (hD : DOK D) {A : Nat} (hA : A < 64) (h0 : A ≠ 0) : ∃ i, (cR D A).testBit i = true := by
  obtain ⟨a, _, ha⟩ := bit_ex (by omega) h0
  obtain ⟨s, hs, e⟩ := six hD hA ha
  have hb := itr_tg hD hA h0 6 a ha
  refine ⟨itr (tg D A) 6 a, cR_bit.mpr ⟨bit6 hA hb, ?_⟩⟩
  unfold cb
  rw [hb, Bool.true_and]
  exact (rng_iff 6 _).mpr ⟨s, hs, e⟩
theorem pc_rc {t : Nat → Nat → Nat} {A C : Nat} (hA : A < 64) (h : RC t A C) (h0 : ∃ i, C.testBit i = true) : dif A C < A ∧ pc8 (dif A C) < pc8 A := by
  have ne : dif A C ≠ A := fun e => by
    obtain ⟨i, hi⟩ := h0
    have h1 := (h.2 i hi).1
    rw [← e] at h1
    have := (dif_b.mp h1).2.2
    rw [hi] at this
    exact absurd this (by decide)
  have le := dif_le (X := A) (D := C) (by omega)
  exact ⟨by omega, pc8_lt (orB_lt _ 8) (by omega) (fun i _ hi => (dif_b.mp hi).2.1) ne⟩
theorem bo_l {od : Nat → Int32} {d : Nat → Nat} {A k : Nat} (hA : A < 64) (hk : k < 6) (hod : ∀ i, i < 6 → od (6 * k + i) = nI (d i)) (hd : ∀ i, i < 6 → d i < 6) : ∀ m i n, i + m = 6 → m < n → (∃ j, i ≤ j ∧ j < i + m ∧ A.testBit (d j) = true) → L_X2_bestOf_2 od (nI k) (nI A) n (nI i) = some (nI (tgo d A m i)) := by
  intro m
  induction m with
  | zero => rintro i n hi hn ⟨j, h1, h2, _⟩; exact absurd h2 (by omega)
  | succ m ih =>
    rintro i n hi hn ⟨j, h1, h2, h3⟩
    obtain ⟨n, rfl⟩ : ∃ a, n = a + 1 := ⟨n - 1, by omega⟩
    have hi6 : i < 6 := by omega
    have hdi := hd i hi6
    rw [L_X2_bestOf_2.eq_2, q_lit 6, q_ifle (by decide) (by omega), if_neg (by omega), q_placeAt hk hi6, q_bd1, hod i hi6, if_neg (nI_pos (by omega)), show ((nI A >>> (nI (d i) &&& 31)) &&& 1) = _ from q_bit ⟨A, by omega⟩ ⟨d i, by omega⟩, nI_1, tgo]
    by_cases a : A.testBit (d i) = true
    · rw [if_pos (by rw [if_pos a]), if_pos a]
    · rw [if_neg (by rw [if_neg a]; decide), if_neg a]
      refine ih (i + 1) n (by omega) (by omega) ⟨j, ?_, by omega, h3⟩
      have : j ≠ i := fun e => a (by rw [← e]; exact h3)
      omega
theorem q_bestOf {od : Nat → Int32} {D : Nat → Nat → Nat} {A k : Nat} (hD : DOK D) (hA : A < 64) (h0 : A ≠ 0) (hk : k < 6) (hod : ∀ k, k < 6 → ∀ i, i < 6 → od (6 * k + i) = nI (D k i)) : f_X2_bestOf od (nI k) (nI A) = some (nI (tg D A k)) := by
  unfold f_X2_bestOf
  exact bo_l hA hk (hod k hk) (hD k hk).1 6 0 FU rfl (by have := q_FU; omega) (tg_hit hD hA h0 hk)
theorem mr46 {od ta ge0 : Nat → Int32} {D : Nat → Nat → Nat} {A : Nat} {x2 : Int32} {rec5 : (Nat → Int32) → (Nat → Int32) → Int32 → Int32 → Option ((Nat → Int32) × (Nat → Int32))} (hD : DOK D) (hA : A < 64) (h0 : A ≠ 0) (hta : ∀ j, j < 6 → ta j = nI (tg D A j)) :
    ∀ (k i n : Nat) (ge : Nat → Int32), i + k = 6 → k < n → (∀ j, j < i → cb D A j = true → ge j = nI (tg D A j)) → (∀ j, (cb D A j = false ∨ i ≤ j) → ge j = ge0 j) → ∃ ge2 : Nat → Int32, (∀ j, (cR D A).testBit j = true → ge2 j = nI (tg D A j)) ∧ (∀ j, (cR D A).testBit j = false → ge2 j = ge0 j) ∧ L_X2_makeRings_46 od rec5 n ge ta (nI A) x2 (nI (orB (cb D A) i)) (nI i) = rec5 ge2 ta (nI (dif A (cR D A))) (x2 + 1) := by
  intro k
  induction k with
  | zero =>
    intro i n ge hi hn g1 g2
    obtain ⟨n, rfl⟩ : ∃ a, n = a + 1 := ⟨n - 1, by omega⟩
    obtain rfl : i = 6 := by omega
    refine ⟨ge, fun j hj => ?_, fun j hj => ?_, ?_⟩
    · obtain ⟨a, b⟩ := cR_bit.mp hj
      exact g1 j a b
    · refine g2 j ?_
      by_cases c : j < 6
      · refine Or.inl (Bool.eq_false_iff.mpr (fun w => ?_))
        rw [cR_bit.mpr ⟨c, w⟩] at hj
        exact absurd hj (by decide)
      · exact Or.inr (by omega)
    · rw [L_X2_makeRings_46.eq_2, if_pos (show (6 : Int32) ≤ nI 6 by decide), q_andn (by omega)]; rfl
  | succ k ih =>
    intro i n ge hi hn g1 g2
    obtain ⟨n, rfl⟩ : ∃ a, n = a + 1 := ⟨n - 1, by omega⟩
    have hi6 : i < 6 := by omega
    have skip : cb D A i = false → ∃ ge2 : Nat → Int32, (∀ j, (cR D A).testBit j = true → ge2 j = nI (tg D A j)) ∧ (∀ j, (cR D A).testBit j = false → ge2 j = ge0 j) ∧ L_X2_makeRings_46 od rec5 n ge ta (nI A) x2 (nI (orB (cb D A) i)) (nI (i + 1)) = rec5 ge2 ta (nI (dif A (cR D A))) (x2 + 1) := fun c => by
      have := ih (i + 1) n ge (by omega) (by omega) (fun j hj cj => by
        by_cases e : j = i
        · rw [e, c] at cj; exact absurd cj (by decide)
        · exact g1 j (by omega) cj) (fun j hj => g2 j (by
        rcases hj with h | h
        · exact Or.inl h
        · exact Or.inr (by omega)))
      rw [orB, c, if_neg (by decide)] at this
      exact this
    rw [L_X2_makeRings_46.eq_2, q_lit 6, q_ifle (by decide) (by omega), if_neg (by omega), show ((nI A >>> (nI i &&& 31)) &&& 1) = _ from q_bit ⟨A, by omega⟩ ⟨i, by omega⟩, nI_1]
    by_cases a : A.testBit i = true
    · have hr : f_X2_isInRing ta (nI i) = some (if rng (tg D A) i 6 i then 1 else 0) := by
        unfold f_X2_isInRing
        exact inRing_l hta (fun j hj => tg_lt hD hA h0 hj) hi6 6 FU i (by omega) (by have := q_FU; omega) hi6
      rw [if_pos (by rw [if_pos a]), hr, q_bd1]
      by_cases r : rng (tg D A) i 6 i = true
      · have c : cb D A i = true := by unfold cb; rw [a, r]; rfl
        rw [r, if_neg q_t0, q_gin hi6 (by decide), q_gin hi6 (by decide), q_cl (by omega), hta i hi6, q_one (by omega), q_or]
        have := ih (i + 1) n (upd ge i (nI (tg D A i))) (by omega) (by omega) (fun j hj cj => by
          by_cases e : j = i
          · rw [e, upd_g]
          · rw [upd_n e]; exact g1 j (by omega) cj) (fun j hj => by
          have e : j ≠ i := fun e => by
            rcases hj with h | h
            · rw [e, c] at h; exact absurd h (by decide)
            · omega
          rw [upd_n e]
          exact g2 j (by
            rcases hj with h | h
            · exact Or.inl h
            · exact Or.inr (by omega)))
        rw [orB, c, if_pos rfl] at this
        exact this
      · have r' : rng (tg D A) i 6 i = false := by simpa using r
        rw [r', if_pos q_f0]
        exact skip (by unfold cb; rw [r', Bool.and_false])
    · have a' : A.testBit i = false := by simpa using a
      rw [if_neg (by rw [if_neg a]; decide)]
      exact skip (by unfold cb; rw [a', Bool.false_and])
theorem mr17 {od ge : Nat → Int32} {D : Nat → Nat → Nat} {A : Nat} {x2 : Int32} {rec5 : (Nat → Int32) → (Nat → Int32) → Int32 → Int32 → Option ((Nat → Int32) × (Nat → Int32))} (hD : DOK D) (hA : A < 64) (h0 : A ≠ 0) (hod : ∀ k, k < 6 → ∀ i, i < 6 → od (6 * k + i) = nI (D k i)) :
    ∀ (k i n : Nat) (ta : Nat → Int32), i + k = 6 → k < n → (∀ j, j < i → ta j = nI (tg D A j)) → ∃ ta2 : Nat → Int32, (∀ j, j < 6 → ta2 j = nI (tg D A j)) ∧ L_X2_makeRings_17 od rec5 n ge ta (nI A) x2 (nI i) = L_X2_makeRings_46 od rec5 FU ge ta2 (nI A) x2 0 0 := by
  intro k
  induction k with
  | zero =>
    intro i n ta hi hn h
    obtain ⟨n, rfl⟩ : ∃ a, n = a + 1 := ⟨n - 1, by omega⟩
    obtain rfl : i = 6 := by omega
    exact ⟨ta, h, by rw [L_X2_makeRings_17.eq_2, if_pos (show (6 : Int32) ≤ nI 6 by decide)]⟩
  | succ k ih =>
    intro i n ta hi hn h
    obtain ⟨n, rfl⟩ : ∃ a, n = a + 1 := ⟨n - 1, by omega⟩
    have hi6 : i < 6 := by omega
    rw [L_X2_makeRings_17.eq_2, q_lit 6, q_ifle (by decide) (by omega), if_neg (by omega), q_bestOf hD hA h0 hi6 hod, q_bd1, q_gin hi6 (by decide), q_cl (by omega), nI_1]
    refine ih (i + 1) n _ (by omega) (by omega) (fun j hj => ?_)
    by_cases e : j = i
    · rw [e, upd_g]
    · rw [upd_n e]
      exact h j (by omega)
theorem mr5 {od : Nat → Int32} {D : Nat → Nat → Nat} (hD : DOK D) (hod : ∀ k, k < 6 → ∀ i, i < 6 → od (6 * k + i) = nI (D k i)) :
    ∀ (k n A : Nat) (ge ta : Nat → Int32), k ≤ 6 → k < n → A < 64 → pc8 A ≤ k → ∃ (ge2 ta2 : Nat → Int32) (m : Nat), L_X2_makeRings_5 od n ge ta (nI A) (nI (6 - k)) = some (ge2, ta2) ∧ OUT (tg D) m A (fun j => Int32.toNatClampNeg (ge2 j)) ∧ (∀ j, A.testBit j = true → ∃ v, v < 6 ∧ ge2 j = nI v) ∧ (∀ j, A.testBit j = false → ge2 j = ge j) := by
  have z : ∀ (A : Nat) (ge ta : Nat → Int32), A = 0 → ∃ (ge2 ta2 : Nat → Int32) (m : Nat), some (ge, ta) = some (ge2, ta2) ∧ OUT (tg D) m A (fun j => Int32.toNatClampNeg (ge2 j)) ∧ (∀ j, A.testBit j = true → ∃ v, v < 6 ∧ ge2 j = nI v) ∧ (∀ j, A.testBit j = false → ge2 j = ge j) := fun A ge ta e => by
    subst e
    exact ⟨ge, ta, 0, rfl, rfl, fun j h => by rw [Nat.zero_testBit] at h; exact absurd h (by decide), fun _ _ => rfl⟩
  intro k
  induction k with
  | zero =>
    intro n A ge ta hk hn hA hp
    obtain ⟨n, rfl⟩ : ∃ a, n = a + 1 := ⟨n - 1, by omega⟩
    have e : A = 0 := by
      by_cases c : A = 0
      · exact c
      · have := pc8_lt (R := 0) (X := A) (by decide) (by omega) (fun i _ h => by rw [Nat.zero_testBit] at h; exact absurd h (by decide)) (fun e => c e.symm)
        omega
    rw [L_X2_makeRings_5.eq_2, if_pos (show (6 : Int32) ≤ nI (6 - 0) by decide)]
    exact z A ge ta e
  | succ k ih =>
    intro n A ge ta hk hn hA hp
    obtain ⟨n, rfl⟩ : ∃ a, n = a + 1 := ⟨n - 1, by omega⟩
    rw [L_X2_makeRings_5.eq_2, q_lit 6, q_ifle (by decide) (by omega), if_neg (by omega)]
    by_cases c : A = 0
    · rw [if_pos (show nI A = 0 by rw [c]; rfl)]
      exact z A ge ta c
    · rw [if_neg (show ¬ nI A = 0 from nI_ne0 (by omega) (by omega))]
      have rc := cR_RC hD hA c
      obtain ⟨l1, l2⟩ := pc_rc hA rc (cR_ne hD hA c)
      obtain ⟨ta2, t1, t2⟩ := mr17 (ge := ge) (x2 := nI (6 - (k + 1))) (rec5 := L_X2_makeRings_5 od n) hD hA c hod 6 0 FU ta rfl (by have := q_FU; omega) (fun j h => absurd h (by omega))
      obtain ⟨ge2, s1, s2, s3⟩ := mr46 (od := od) (ge0 := ge) (x2 := nI (6 - (k + 1))) (rec5 := L_X2_makeRings_5 od n) hD hA c t1 6 0 FU ge rfl (by have := q_FU; omega) (fun j h => absurd h (by omega)) (fun _ _ => rfl)
      obtain ⟨ge3, ta3, m, u1, u2, u3, u4⟩ := ih n (dif A (cR D A)) ge2 ta2 (by omega) (by omega) (by omega) (by omega)
      rw [show L_X2_makeRings_17 od (L_X2_makeRings_5 od n) FU ge ta (nI A) (nI (6 - (k + 1))) 0 = _ from t2, show L_X2_makeRings_46 od (L_X2_makeRings_5 od n) FU ge ta2 (nI A) (nI (6 - (k + 1))) 0 0 = _ from s3, nI_1, show 6 - (k + 1) + 1 = 6 - k by omega, u1]
      have inC : ∀ j, (cR D A).testBit j = true → ge3 j = nI (tg D A j) := fun j hj => by
        rw [u4 j (Bool.eq_false_iff.mpr (fun w => by
          have := (dif_b.mp w).2.2
          rw [hj] at this
          exact absurd this (by decide))), s1 j hj]
      have t6 : ∀ j, (cR D A).testBit j = true → tg D A j < 6 := fun j hj => bit6 rc.1 (rc.2 j hj).2.1
      refine ⟨ge3, ta3, m + 1, rfl, Or.inr ⟨cR D A, rc, fun j hj => ?_, u2⟩, fun j hj => ?_, fun j hj => ?_⟩
      · show Int32.toNatClampNeg (ge3 j) = _
        have := t6 j hj
        rw [inC j hj, q_cl (by omega)]
      · by_cases o : (cR D A).testBit j = true
        · exact ⟨_, t6 j o, inC j o⟩
        · exact u3 j (dif_b.mpr ⟨by have := bit6 hA hj; omega, hj, by simpa using o⟩)
      · rw [u4 j (Bool.eq_false_iff.mpr (fun w => by
          have := (dif_b.mp w).2.1
          rw [hj] at this
          exact absurd this (by decide))), s2 j (Bool.eq_false_iff.mpr (fun w => by
          have := (rc.2 j w).1
          rw [hj] at this
          exact absurd this (by decide)))]
