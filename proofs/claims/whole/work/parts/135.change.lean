/-! pure: change, rings -/
def itr (f : Nat → Nat) : Nat → Nat → Nat
  | 0, x => x
  | n + 1, x => itr f n (f x)
theorem itr_add (f : Nat → Nat) : ∀ a b x, itr f (a + b) x = itr f b (itr f a x)
  | 0, b, x => by rw [Nat.zero_add]; rfl
  | a + 1, b, x => by rw [show a + 1 + b = (a + b) + 1 by omega, itr, itr, itr_add f a b (f x)]
theorem itr_comm (f : Nat → Nat) (a b x : Nat) : itr f a (itr f b x) = itr f b (itr f a x) := by rw [← itr_add, ← itr_add, Nat.add_comm]
theorem bit6 {A i : Nat} (hA : A < 64) (h : A.testBit i = true) : i < 6 := by
  refine Nat.lt_of_not_le (fun c => ?_)
  rw [Nat.testBit_lt_two_pow (Nat.lt_of_lt_of_le hA (show 2 ^ 6 ≤ 2 ^ i from Nat.pow_le_pow_right (by decide) c))] at h
  exact absurd h (by decide)
theorem dif_b {A C i : Nat} : (dif A C).testBit i = true ↔ i < 8 ∧ A.testBit i = true ∧ C.testBit i = false := by
  unfold dif
  rw [orB_bit, Bool.and_eq_true, Bool.and_eq_true, decide_eq_true_iff]
  cases C.testBit i <;> simp
theorem dif_le {X D : Nat} (h : X < 256) : dif X D ≤ X := by
  have e1 : dif X D = X &&& dif X D := by
    refine eq_bits (orB_lt _ 8) (Nat.lt_of_le_of_lt Nat.and_le_left h) (fun i hi => ?_)
    unfold dif
    rw [Nat.testBit_and, orB_bit, decide_eq_true hi, Bool.true_and]
    cases X.testBit i <;> rfl
  rw [e1]
  exact Nat.and_le_left
theorem dif_swap (A C O : Nat) : dif (dif A O) (dif C O) = dif (dif A C) (dif O C) := by
  refine eq_bits (orB_lt _ 8) (orB_lt _ 8) (fun i hi => ?_)
  unfold dif
  simp only [orB_bit, decide_eq_true hi, Bool.true_and]
  cases A.testBit i <;> cases C.testBit i <;> cases O.testBit i <;> rfl
theorem dif_z (C : Nat) : dif 0 C = 0 := orB_0.mpr (fun i _ => by rw [Nat.zero_testBit]; rfl)
def RC (t : Nat → Nat → Nat) (A C : Nat) : Prop := C < 64 ∧ ∀ i, C.testBit i = true → A.testBit i = true ∧ C.testBit (t A i) = true ∧ ∃ s, itr (t A) (s + 1) i = i
def OUT (t : Nat → Nat → Nat) : Nat → Nat → (Nat → Nat) → Prop
  | 0, A, _ => A = 0
  | n + 1, A, g => A = 0 ∨ ∃ C, RC t A C ∧ (∀ i, C.testBit i = true → g i = t A i) ∧ OUT t n (dif A C) g
def IIA (t : Nat → Nat → Nat) : Prop := ∀ A B i, i < 6 → (∀ j, B.testBit j = true → A.testBit j = true) → B.testBit (t A i) = true → t B i = t A i
theorem itr_mem {t : Nat → Nat → Nat} {A C : Nat} (h : RC t A C) : ∀ s x, C.testBit x = true → C.testBit (itr (t A) s x) = true
  | 0, x, hx => hx
  | s + 1, x, hx => by rw [itr]; exact itr_mem h s _ (h.2 x hx).2.1
theorem RC_sub {t : Nat → Nat → Nat} (ht : IIA t) {A C O : Nat} (hC : RC t A C) (hO : RC t A O) : RC t (dif A O) (dif C O) ∧ ∀ i, (dif C O).testBit i = true → t (dif A O) i = t A i := by
  have hlt : dif C O < 64 := Nat.lt_of_le_of_lt (dif_le (by have := hC.1; omega)) hC.1
  have cl : ∀ j, (dif C O).testBit j = true → (dif C O).testBit (t A j) = true := by
    intro j hj
    obtain ⟨h8, c, o⟩ := dif_b.mp hj
    obtain ⟨a1, a2, s, a3⟩ := hC.2 j c
    refine dif_b.mpr ⟨by have := bit6 hC.1 a2; omega, a2, ?_⟩
    refine Bool.eq_false_iff.mpr (fun w => ?_)
    have := itr_mem hO s _ w
    rw [itr] at a3
    rw [a3, o] at this
    exact absurd this (by decide)
  have sub : ∀ j, (dif A O).testBit j = true → A.testBit j = true := fun j h => (dif_b.mp h).2.1
  have inA : ∀ j, (dif C O).testBit j = true → (dif A O).testBit j = true := fun j h => by
    obtain ⟨h8, c, o⟩ := dif_b.mp h
    exact dif_b.mpr ⟨h8, (hC.2 j c).1, o⟩
  have eqt : ∀ j, (dif C O).testBit j = true → t (dif A O) j = t A j := fun j h => ht A (dif A O) j (bit6 hlt h) sub (inA _ (cl j h))
  have eqi : ∀ s j, (dif C O).testBit j = true → itr (t (dif A O)) s j = itr (t A) s j := by
    intro s
    induction s with
    | zero => intro j _; rfl
    | succ s ih =>
      intro j h
      rw [itr, itr, eqt j h]
      exact ih _ (cl j h)
  refine ⟨⟨hlt, fun i hi => ⟨inA i hi, by rw [eqt i hi]; exact cl i hi, ?_⟩⟩, eqt⟩
  obtain ⟨s, hs⟩ := (hC.2 i (dif_b.mp hi).2.1).2.2
  exact ⟨s, by rw [eqi _ i hi]; exact hs⟩
theorem OUT_0 {t : Nat → Nat → Nat} {g : Nat → Nat} : ∀ n, OUT t n 0 g
  | 0 => rfl
  | _ + 1 => Or.inl rfl
theorem OUT_sub {t : Nat → Nat → Nat} (ht : IIA t) {g : Nat → Nat} : ∀ n A, OUT t n A g → ∀ C, RC t A C → (∀ i, C.testBit i = true → g i = t A i) ∧ ∃ m, OUT t m (dif A C) g := by
  have z : ∀ A C, A = 0 → RC t A C → (∀ i, C.testBit i = true → g i = t A i) ∧ ∃ m, OUT t m (dif A C) g := by
    intro A C e hC
    subst e
    refine ⟨fun i hi => ?_, 0, dif_z C⟩
    have := (hC.2 i hi).1
    rw [Nat.zero_testBit] at this
    exact absurd this (by decide)
  intro n
  induction n with
  | zero => intro A h C hC; exact z A C h hC
  | succ n ih =>
    intro A h C hC
    rcases h with h | ⟨O, hO, h1, h2⟩
    · exact z A C h hC
    · obtain ⟨r1, e1⟩ := RC_sub ht hC hO
      obtain ⟨r2, e2⟩ := RC_sub ht hO hC
      obtain ⟨g1, m, g2⟩ := ih _ h2 _ r1
      refine ⟨fun i hi => ?_, m + 1, Or.inr ⟨dif O C, r2, fun i hi => ?_, ?_⟩⟩
      · by_cases o : O.testBit i = true
        · exact h1 i o
        · have o' : O.testBit i = false := by simpa using o
          have d : (dif C O).testBit i = true := dif_b.mpr ⟨by have := bit6 hC.1 hi; omega, hi, o'⟩
          rw [g1 i d, e1 i d]
      · rw [e2 i hi]
        exact h1 i (dif_b.mp hi).2.1
      · rw [← dif_swap]
        exact g2
theorem OUT_uniq {t : Nat → Nat → Nat} (ht : IIA t) {g g2 : Nat → Nat} : ∀ n m A, A < 64 → OUT t n A g → OUT t m A g2 → ∀ i, A.testBit i = true → g i = g2 i := by
  have z : ∀ A i, A = 0 → A.testBit i = true → g i = g2 i := fun A i e h => by
    rw [e, Nat.zero_testBit] at h
    exact absurd h (by decide)
  intro n
  induction n with
  | zero => intro m A _ h _ i hi; exact z A i h hi
  | succ n ih =>
    intro m A hA h k i hi
    rcases h with h | ⟨O, hO, h1, h2⟩
    · exact z A i h hi
    · obtain ⟨k1, l, k2⟩ := OUT_sub ht m A k O hO
      by_cases o : O.testBit i = true
      · rw [h1 i o, k1 i o]
      · exact ih l _ (Nat.lt_of_le_of_lt (dif_le (by omega)) hA) h2 k2 i (dif_b.mpr ⟨by have := bit6 hA hi; omega, hi, by simpa using o⟩)
/-! the best that is left -/
def tgo (d : Nat → Nat) (A : Nat) : Nat → Nat → Nat
  | 0, _ => 6
  | n + 1, i => if A.testBit (d i) = true then d i else tgo d A n (i + 1)
def tg (D : Nat → Nat → Nat) (A k : Nat) : Nat := tgo (D k) A 6 0
theorem tgo_iia {d : Nat → Nat} {A B : Nat} (h : ∀ j, B.testBit j = true → A.testBit j = true) : ∀ n i, B.testBit (tgo d A n i) = true → tgo d B n i = tgo d A n i
  | 0, _, _ => rfl
  | n + 1, i, hb => by
    rw [tgo] at hb
    rw [tgo, tgo]
    by_cases a : A.testBit (d i) = true
    · rw [if_pos a] at hb ⊢
      rw [if_pos hb]
    · rw [if_neg a] at hb ⊢
      rw [if_neg (fun b => a (h _ b))]
      exact tgo_iia h n (i + 1) hb
theorem tg_iia (D : Nat → Nat → Nat) : IIA (tg D) := fun A B i _ h hb => tgo_iia h 6 0 hb
theorem tgo_mem {d : Nat → Nat} {A : Nat} : ∀ n i, (∃ j, i ≤ j ∧ j < i + n ∧ A.testBit (d j) = true) → A.testBit (tgo d A n i) = true
  | 0, i, ⟨j, h1, h2, _⟩ => absurd h2 (by omega)
  | n + 1, i, ⟨j, h1, h2, h3⟩ => by
    rw [tgo]
    by_cases a : A.testBit (d i) = true
    · rw [if_pos a]; exact a
    · rw [if_neg a]
      refine tgo_mem n (i + 1) ⟨j, ?_, by omega, h3⟩
      have : j ≠ i := fun e => a (by rw [← e]; exact h3)
      omega
theorem sur6 {d : Nat → Nat} (h1 : ∀ i, i < 6 → d i < 6) (h2 : ∀ i j, i < 6 → j < 6 → d i = d j → i = j) {a : Nat} (ha : a < 6) : ∃ j, j < 6 ∧ d j = a := by
  by_cases c : ∃ j, j < 6 ∧ d j = a
  · exact c
  · exfalso
    have ne : ∀ j, j < 6 → d j ≠ a := fun j hj e => c ⟨j, hj, e⟩
    have := fb_holes1 5 6 (fun i => if a < d i then d i - 1 else d i) (fun i hi => by
      have := h1 i hi
      have := ne i hi
      show (if a < d i then d i - 1 else d i) < 5
      split <;> omega) (fun i j hij hj e => by
      have e : (if a < d i then d i - 1 else d i) = (if a < d j then d j - 1 else d j) := e
      have n1 := ne i (by omega)
      have n2 := ne j hj
      have : d i = d j := by
        by_cases x : a < d i
        · by_cases y : a < d j
          · rw [if_pos x, if_pos y] at e; omega
          · rw [if_pos x, if_neg y] at e; omega
        · by_cases y : a < d j
          · rw [if_neg x, if_pos y] at e; omega
          · rw [if_neg x, if_neg y] at e; omega
      have := h2 i j (by omega) hj this
      omega)
    omega
theorem bit_ex {A : Nat} (hA : A < 256) (h : A ≠ 0) : ∃ i, i < 8 ∧ A.testBit i = true := by
  by_cases c : ∃ i, i < 8 ∧ A.testBit i = true
  · exact c
  · exfalso
    refine h (eq_bits hA (by decide) (fun i hi => ?_))
    rw [Nat.zero_testBit]
    refine Bool.eq_false_iff.mpr (fun w => c ⟨i, hi, w⟩)
def DOK (D : Nat → Nat → Nat) : Prop := ∀ k, k < 6 → (∀ i, i < 6 → D k i < 6) ∧ (∀ i j, i < 6 → j < 6 → D k i = D k j → i = j)
theorem tg_hit {D : Nat → Nat → Nat} (hD : DOK D) {A k : Nat} (hA : A < 64) (h0 : A ≠ 0) (hk : k < 6) : ∃ j, 0 ≤ j ∧ j < 0 + 6 ∧ A.testBit (D k j) = true := by
  obtain ⟨i, _, hi⟩ := bit_ex (by omega) h0
  obtain ⟨j, hj, e⟩ := sur6 (hD k hk).1 (hD k hk).2 (bit6 hA hi)
  exact ⟨j, by omega, by omega, by rw [e]; exact hi⟩
theorem tg_mem {D : Nat → Nat → Nat} (hD : DOK D) {A k : Nat} (hA : A < 64) (h0 : A ≠ 0) (hk : k < 6) : A.testBit (tg D A k) = true := tgo_mem 6 0 (tg_hit hD hA h0 hk)
theorem tg_lt {D : Nat → Nat → Nat} (hD : DOK D) {A k : Nat} (hA : A < 64) (h0 : A ≠ 0) (hk : k < 6) : tg D A k < 6 := bit6 hA (tg_mem hD hA h0 hk)
theorem itr_tg {D : Nat → Nat → Nat} (hD : DOK D) {A : Nat} (hA : A < 64) (h0 : A ≠ 0) : ∀ s a, A.testBit a = true → A.testBit (itr (tg D A) s a) = true
  | 0, a, h => h
  | s + 1, a, h => by rw [itr]; exact itr_tg hD hA h0 s _ (tg_mem hD hA h0 (bit6 hA h))
theorem meet {D : Nat → Nat → Nat} (hD : DOK D) {A a : Nat} (hA : A < 64) (ha : A.testBit a = true) : ∃ i j, i < j ∧ j < 7 ∧ itr (tg D A) i a = itr (tg D A) j a := by
  have h0 : A ≠ 0 := fun e => by rw [e, Nat.zero_testBit] at ha; exact absurd ha (by decide)
  by_cases c : ∃ i j, i < j ∧ j < 7 ∧ itr (tg D A) i a = itr (tg D A) j a
  · exact c
  · exfalso
    have := fb_holes1 6 7 (fun s => itr (tg D A) s a) (fun s _ => bit6 hA (itr_tg hD hA h0 s a ha)) (fun i j hij hj e => c ⟨i, j, hij, hj, e⟩)
    omega
/-- after six steps one is in a ring -/
theorem six {D : Nat → Nat → Nat} (hD : DOK D) {A a : Nat} (hA : A < 64) (ha : A.testBit a = true) : ∃ s, s < 6 ∧ itr (tg D A) (s + 1) (itr (tg D A) 6 a) = itr (tg D A) 6 a := by
  obtain ⟨i, j, h1, h2, e⟩ := meet hD hA ha
  refine ⟨j - i - 1, by omega, ?_⟩
  rw [← itr_add, show 6 + (j - i - 1 + 1) = j + (6 - i) by omega, itr_add, ← e, ← itr_add, show i + (6 - i) = 6 by omega]
