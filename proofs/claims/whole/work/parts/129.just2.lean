/-! pure: just -/
def cvb (P : Nat → Nat) (A X i : Nat) : Bool := A.testBit i && anyB (fun j => X.testBit j && win P 8 i j) 8
def covN (P : Nat → Nat) (A X : Nat) : Nat := orB (cvb P A X) 8
def rnd (P : Nat → Nat) (x : Nat) : Nat := orB (fun g => decide (g ≠ x) && win P 8 x g) 8
def rtb (P : Nat → Nat) (S x : Nat) : Bool := S.testBit x && decide (rnd P x &&& S = 0)
def rts (P : Nat → Nat) (S : Nat) : Nat := orB (rtb P S) 8
def cand (P : Nat → Nat) (A S X : Nat) : Prop := dif X A = 0 ∧ covN P A X = S
theorem dif_0 {X A : Nat} : dif X A = 0 ↔ ∀ i, i < 8 → X.testBit i = true → A.testBit i = true := by
  unfold dif
  rw [orB_0]
  constructor
  · intro h i hi hx
    have := h i hi
    rw [hx] at this
    simpa using this
  · intro h i hi
    by_cases c : X.testBit i = true
    · rw [h i hi c]; simp
    · rw [show X.testBit i = false by simpa using c]; rfl
theorem covN_bit {P : Nat → Nat} {A X i : Nat} (hi : i < 8) : (covN P A X).testBit i = true ↔ A.testBit i = true ∧ ∃ j, j < 8 ∧ X.testBit j = true ∧ win P 8 i j = true := by
  unfold covN cvb
  rw [orB_bit, decide_eq_true hi, Bool.true_and, Bool.and_eq_true, anyB_iff]
  constructor
  · rintro ⟨h1, j, h2, h3⟩
    rw [Bool.and_eq_true] at h3
    exact ⟨h1, j, h2, h3.1, h3.2⟩
  · rintro ⟨h1, j, h2, h3, h4⟩
    exact ⟨h1, j, h2, by rw [h3, h4]; rfl⟩
theorem rnd_0 {P : Nat → Nat} {S x : Nat} : rnd P x &&& S = 0 ↔ ∀ g, g < 8 → S.testBit g = true → win P 8 x g = true → g = x := by
  constructor
  · intro h g hg h1 h2
    by_cases c : g = x
    · exact c
    · have : (rnd P x &&& S).testBit g = true := by
        unfold rnd
        rw [Nat.testBit_and, orB_bit, h1, h2]
        simp [hg, c]
      rw [h, Nat.zero_testBit] at this
      exact absurd this (by decide)
  · intro h
    refine Nat.eq_of_testBit_eq (fun g => ?_)
    unfold rnd
    rw [Nat.testBit_and, orB_bit, Nat.zero_testBit]
    by_cases c : g < 8
    · by_cases s : S.testBit g = true
      · by_cases w : win P 8 x g = true
        · rw [h g c s w]; simp
        · rw [show win P 8 x g = false by simpa using w]; simp
      · rw [show S.testBit g = false by simpa using s]; simp
    · simp [c]
theorem rts_bit {P : Nat → Nat} {S i : Nat} (hi : i < 8) : (rts P S).testBit i = true ↔ S.testBit i = true ∧ ∀ g, g < 8 → S.testBit g = true → win P 8 i g = true → g = i := by
  unfold rts rtb
  rw [orB_bit, decide_eq_true hi, Bool.true_and, Bool.and_eq_true, decide_eq_true_iff, rnd_0]
theorem cand_uni {P : Nat → Nat} {T A S X : Nat} (hS : S < 256) (hA : ∀ i, i < 8 → A.testBit i = true → T.testBit i = true) (hu : ∀ i, i < 8 → T.testBit i = true → 8 ≤ up P 8 i) (h : cand P A S X) : (∀ i, i < 8 → (rts P S).testBit i = true → X.testBit i = true) ∧ cand P A S (rts P S) := by
  obtain ⟨h1, h2⟩ := h
  rw [dif_0] at h1
  have hSb : ∀ i, i < 8 → (S.testBit i = true ↔ A.testBit i = true ∧ ∃ j, j < 8 ∧ X.testBit j = true ∧ win P 8 i j = true) := fun i hi => by rw [← covN_bit hi, h2]
  have hRX : ∀ i, i < 8 → (rts P S).testBit i = true → X.testBit i = true := by
    intro i hi hr
    obtain ⟨r1, r2⟩ := (rts_bit hi).mp hr
    obtain ⟨_, j, hj, hx, hw⟩ := (hSb i hi).mp r1
    have hjS : S.testBit j = true := (hSb j hj).mpr ⟨h1 j hj hx, j, hj, hx, W_refl hj⟩
    have := r2 j hj hjS hw
    rw [← this]
    exact hx
  refine ⟨hRX, ?_, ?_⟩
  · rw [dif_0]
    intro i hi hr
    exact ((hSb i hi).mp ((rts_bit hi).mp hr).1).1
  · refine eq_bits (orB_lt _ 8) hS (fun i hi => ?_)
    rw [Bool.eq_iff_iff, covN_bit hi]
    constructor
    · rintro ⟨a1, j, hj, hr, hw⟩
      obtain ⟨_, k, hk, hx, hw2⟩ := (hSb j hj).mp ((rts_bit hj).mp hr).1
      exact (hSb i hi).mpr ⟨a1, k, hk, hx, W_trans (hu i hi (hA i hi a1)) hj hk hw hw2⟩
    · intro hs
      have a1 := ((hSb i hi).mp hs).1
      obtain ⟨r, r1, r2, r3, r4, r5⟩ := W_top (S := fun g => S.testBit g) 8 i hi (hu i hi (hA i hi a1)) hs
      exact ⟨a1, r, r1, (rts_bit r1).mpr ⟨r2, r5⟩, r3⟩
theorem shk_l {wat inn : Nat → Int32} {T A S : Nat} {P : Nat → Nat} (hT : T < 256) (hS : S < 256) (hp : ∀ x, x < 8 → T.testBit x = true → inn x = pX (P x) ∧ (P x < 8 → T.testBit (P x) = true)) (hST : ∀ i, i < 8 → S.testBit i = true → T.testBit i = true) : ∀ (k i n c : Nat), i + k = 8 → k < n → c < 256 → (∀ y, y < 8 → c.testBit y = anyB (fun g => rtb P S g && (T.testBit y && win P 8 y g)) i) → ∃ c2, c2 < 256 ∧ (∀ y, y < 8 → c2.testBit y = anyB (fun g => rtb P S g && (T.testBit y && win P 8 y g)) 8) ∧ L_X6_shakenFor_31 wat inn (nI T) (nI S) n (nI A) (nI (orB (rtb P S) i)) (nI c) (nI i) = if nI (c2 &&& A) = nI S then some (nI (rts P S)) else some (-6) := by
  intro k
  induction k with
  | zero =>
    intro i n c hi hn hc h
    obtain ⟨n, rfl⟩ : ∃ a, n = a + 1 := ⟨n - 1, by omega⟩
    obtain rfl : i = 8 := by omega
    exact ⟨c, hc, h, by rw [L_X6_shakenFor_31.eq_2, if_pos q_88, q_and]; rfl⟩
  | succ k ih =>
    intro i n c hi hn hc h
    obtain ⟨n, rfl⟩ : ∃ a, n = a + 1 := ⟨n - 1, by omega⟩
    have hi8 : i < 8 := by omega
    rw [L_X6_shakenFor_31.eq_2, if_neg (q_8n hi8), q_bit ⟨S, hS⟩ ⟨i, hi8⟩, nI_1]
    have keep : rtb P S i = false → ∃ c2, c2 < 256 ∧ (∀ y, y < 8 → c2.testBit y = anyB (fun g => rtb P S g && (T.testBit y && win P 8 y g)) 8) ∧ L_X6_shakenFor_31 wat inn (nI T) (nI S) n (nI A) (nI (orB (rtb P S) i)) (nI c) (nI (i + 1)) = if nI (c2 &&& A) = nI S then some (nI (rts P S)) else some (-6) := fun hf => by
      have e : orB (rtb P S) (i + 1) = orB (rtb P S) i := by rw [orB, hf]; rfl
      rw [← e]
      refine ih (i + 1) n c (by omega) (by omega) hc (fun y hy => ?_)
      rw [anyB, hf, Bool.false_and, Bool.or_false]
      exact h y hy
    by_cases s : S.testBit i = true
    · have hr := round_l hT hi8 (hST i hi8 s) hp 8 0 FU rfl (by have := q_FU; omega)
      have hrl : rnd P i < 256 := orB_lt _ 8
      have hal : rnd P i &&& S < 2 ^ 31 := Nat.lt_of_le_of_lt Nat.and_le_right (by omega)
      rw [if_pos (by rw [s]; rfl)]
      unfold f_X6_bitsRound
      rw [show L_X6_bitsRound_4 inn (nI T) (nI i) FU 0 0 = some (nI (rnd P i)) from hr, q_bd1, q_and]
      by_cases z : rnd P i &&& S = 0
      · have ht : rtb P S i = true := by unfold rtb; rw [s, decide_eq_true z]; rfl
        rw [if_pos (by rw [z]; rfl), q_bitsWithin hT hi8 hp, q_bd1, q_one hi8, q_or, q_or]
        have e : orB (rtb P S) (i + 1) = orB (rtb P S) i ||| 2 ^ i := by rw [orB, ht, if_pos rfl]
        rw [← e]
        refine ih (i + 1) n _ (by omega) (by omega) (Nat.or_lt_two_pow (n := 8) hc (orB_lt _ 8)) (fun y hy => ?_)
        rw [Nat.testBit_or, h y hy, orB_bit, decide_eq_true hy, Bool.true_and, anyB, ht, Bool.true_and]
      · rw [if_neg (show ¬ nI (rnd P i &&& S) = 0 from fun e => z ((nI_eq hal (show 0 < 2 ^ 31 by decide)).mp e))]
        exact keep (by unfold rtb; rw [decide_eq_false z, Bool.and_false])
    · have s' : S.testBit i = false := by simpa using s
      rw [if_neg (by rw [s']; decide)]
      exact keep (by unfold rtb; rw [s', Bool.false_and])
theorem q_shaken {wat inn : Nat → Int32} {T D S : Nat} {P : Nat → Nat} (hT : T < 256) (hD : D < 256) (hS : S < 256) (hfr : f_X6_freeBits wat (nI T) = some (nI D)) (hp : ∀ x, x < 8 → T.testBit x = true → inn x = pX (P x) ∧ (P x < 8 → T.testBit (P x) = true)) : (cand P (dif T D) S (rts P S) ∧ f_X6_shakenFor wat inn (nI T) (nI S) = some (nI (rts P S))) ∨ (¬ cand P (dif T D) S (rts P S) ∧ f_X6_shakenFor wat inn (nI T) (nI S) = some (-6)) := by
  unfold f_X6_shakenFor
  rw [hfr, q_bd1, q_andn hT, q_andn hS]
  have hAT : ∀ i, i < 8 → (dif T D).testBit i = true → T.testBit i = true := fun i hi h => by
    unfold dif at h
    rw [orB_bit, decide_eq_true hi, Bool.true_and, Bool.and_eq_true] at h
    exact h.1
  have hA : dif T D < 256 := orB_lt _ 8
  revert hAT hA
  generalize dif T D = A
  intro hAT hA
  have hdl : dif S A < 2 ^ 31 := Nat.lt_of_lt_of_le (orB_lt _ 8) (by decide)
  by_cases z : dif S A = 0
  · have hSA := dif_0.mp z
    obtain ⟨c, c1, c2, c3⟩ := shk_l (wat := wat) (A := A) hT hS hp (fun i hi h => hAT i hi (hSA i hi h)) 8 0 FU 0 rfl (by have := q_FU; omega) (by decide) (fun y hy => Nat.zero_testBit y)
    have hcov : c &&& A = covN P A (rts P S) := by
      refine eq_bits (Nat.lt_of_le_of_lt Nat.and_le_left c1) (orB_lt _ 8) (fun i hi => ?_)
      rw [Bool.eq_iff_iff, covN_bit hi, Nat.testBit_and, Bool.and_eq_true, c2 i hi, anyB_iff]
      constructor
      · rintro ⟨⟨g, hg, h1⟩, h2⟩
        rw [Bool.and_eq_true, Bool.and_eq_true] at h1
        refine ⟨h2, g, hg, ?_, h1.2.2⟩
        unfold rts
        rw [orB_bit, decide_eq_true hg, h1.1]; rfl
      · rintro ⟨h2, g, hg, h3, h4⟩
        refine ⟨⟨g, hg, ?_⟩, h2⟩
        unfold rts at h3
        rw [orB_bit, decide_eq_true hg, Bool.true_and] at h3
        rw [h3, hAT i hi h2, h4]; rfl
    have hcl : c &&& A < 2 ^ 31 := Nat.lt_of_le_of_lt Nat.and_le_left (by omega)
    rw [if_pos (by rw [z]; rfl)]
    by_cases q : covN P A (rts P S) = S
    · refine Or.inl ⟨⟨dif_0.mpr (fun i hi h => hSA i hi ((rts_bit hi).mp h).1), q⟩, ?_⟩
      refine (show L_X6_shakenFor_31 wat inn (nI T) (nI S) FU (nI A) 0 0 0 = _ from c3).trans ?_
      rw [if_pos (by rw [hcov, q])]
    · refine Or.inr ⟨fun h => q h.2, ?_⟩
      refine (show L_X6_shakenFor_31 wat inn (nI T) (nI S) FU (nI A) 0 0 0 = _ from c3).trans ?_
      rw [if_neg (fun e => q (by rw [← hcov]; exact (nI_eq hcl (by omega)).mp e))]
  · refine Or.inr ⟨fun h => z (dif_0.mpr (fun i hi hs => ?_)), ?_⟩
    · rw [← h.2] at hs
      exact ((covN_bit hi).mp hs).1
    · rw [if_neg (show ¬ nI (dif S A) = 0 from fun e => z ((nI_eq hdl (show 0 < 2 ^ 31 by decide)).mp e))]
