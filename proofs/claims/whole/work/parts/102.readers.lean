/-! pure: a shelf's readers, in the class and in the reference -/
theorem q_or (a b : Nat) : nI a ||| nI b = nI (a ||| b) := by
  apply Int32.toBitVec_inj.mp
  rw [Int32.toBitVec_or]
  show BitVec.ofNat 32 a ||| BitVec.ofNat 32 b = BitVec.ofNat 32 (a ||| b)
  exact BitVec.ofNat_or.symm
theorem q_or0 (a : Nat) : nI a ||| (0 : Int32) = nI a := by
  rw [show (0 : Int32) = nI 0 from rfl, q_or, Nat.or_zero]
theorem q_8n {i : Nat} (h : i < 8) : ¬ (8 : Int32) ≤ nI i := by
  rw [show (8 : Int32) = nI 8 from rfl, nI_leI (by decide) (by omega)]
  omega
theorem q_88 : (8 : Int32) ≤ nI 8 := by decide
theorem q_FU : 2047 < FU := by decide
def orB (p : Nat → Bool) : Nat → Nat
  | 0 => 0
  | n + 1 => if p n then orB p n ||| 2 ^ n else orB p n
theorem orB_bit (p : Nat → Bool) : ∀ (n j : Nat), (orB p n).testBit j = (decide (j < n) && p j)
  | 0, j => by simp [orB]
  | n + 1, j => by
    rw [orB]
    by_cases h : p n = true
    · rw [if_pos h, Nat.testBit_or, orB_bit p n j, Nat.testBit_two_pow]
      by_cases e : n = j
      · subst e
        simp [h]
      · by_cases c : j < n
        · simp [c, e, show j < n + 1 by omega]
        · simp [c, e, show ¬ j < n + 1 by omega]
    · rw [if_neg h, orB_bit p n j]
      by_cases e : j = n
      · subst e
        simp [h]
      · by_cases c : j < n
        · simp [c, show j < n + 1 by omega]
        · simp [c, show ¬ j < n + 1 by omega]
theorem orB_lt (p : Nat → Bool) : ∀ n, orB p n < 2 ^ n
  | 0 => Nat.one_pos
  | n + 1 => by
    have ih := orB_lt p n
    rw [orB]
    by_cases h : p n = true
    · rw [if_pos h]
      exact Nat.or_lt_two_pow (by omega) (Nat.pow_lt_pow_right (by decide) (by omega))
    · rw [if_neg h]
      omega
theorem orB_congr {p q : Nat → Bool} : ∀ (n : Nat), (∀ j, j < n → p j = q j) → orB p n = orB q n
  | 0, _ => rfl
  | n + 1, h => by rw [orB, orB, h n (by omega), orB_congr n (fun j hj => h j (by omega))]
theorem orB_self {T : Nat} (hT : T < 256) : orB (fun g => T.testBit g) 8 = T := by
  apply Nat.eq_of_testBit_eq
  intro j
  rw [orB_bit]
  by_cases h : j < 8
  · simp [h]
  · simp only [h, decide_false, Bool.false_and]
    exact (Nat.testBit_lt_two_pow (Nat.lt_of_lt_of_le hT (by rw [show 256 = 2 ^ 8 from rfl]; exact Nat.pow_le_pow_right (by decide) (by omega)))).symm
/-! the class -/
theorem q_isFree {wat : Nat → Int32} {T g w : Nat} (hT : T < 256) (hg : g < 8) (hw : T.testBit g = true → wat g = nI w) (hw2 : w < 100) : f_X6_isFree wat (nI T) (nI g) = some (if T.testBit g && w == 0 then 1 else 0) := by
  unfold f_X6_isFree
  rw [q_has hT hg, q_bd1]
  by_cases h : T.testBit g = true
  · rw [h, if_neg (by decide), q_gin hg (by decide), q_cl (by omega), hw h]
    by_cases e : w = 0
    · subst e; rfl
    · rw [if_neg (nI_ne0 (by omega) (by omega))]
      simp [e]
  · have h' : T.testBit g = false := by simpa using h
    rw [h']; rfl
theorem q_freeBits_l {wat : Nat → Int32} {T : Nat} {W : Nat → Nat} (hT : T < 256) (hw : ∀ g, g < 8 → T.testBit g = true → wat g = nI (W g) ∧ W g ≤ 99) : ∀ (k i n : Nat), i + k = 8 → k < n → L_X6_freeBits_4 wat (nI T) n (nI (orB (fun g => T.testBit g && W g == 0) i)) (nI i) = some (nI (orB (fun g => T.testBit g && W g == 0) 8)) := by
  intro k
  induction k with
  | zero =>
    intro i n hi hn
    obtain ⟨m, rfl⟩ : ∃ m, n = m + 1 := ⟨n - 1, by omega⟩
    obtain rfl : i = 8 := by omega
    rw [L_X6_freeBits_4.eq_2, if_pos q_88]
  | succ k ih =>
    intro i n hi hn
    obtain ⟨m, rfl⟩ : ∃ m, n = m + 1 := ⟨n - 1, by omega⟩
    have hf : f_X6_isFree wat (nI T) (nI i) = some (if T.testBit i && W i == 0 then 1 else 0) := by
      by_cases h : T.testBit i = true
      · exact q_isFree hT (by omega) (fun _ => (hw i (by omega) h).1) (by have := (hw i (by omega) h).2; omega)
      · have h' : T.testBit i = false := by simpa using h
        rw [q_isFree (w := 0) hT (by omega) (fun h2 => absurd h2 h) (by omega), h']; rfl
    rw [L_X6_freeBits_4.eq_2, if_neg (q_8n (by omega)), hf, q_bd1, nI_1]
    have := ih (i + 1) m (by omega) (by omega)
    by_cases c : (T.testBit i && W i == 0) = true
    · rw [c, if_neg (by decide), q_one (by omega), q_or]
      rw [orB, if_pos c] at this
      exact this
    · have c' : (T.testBit i && W i == 0) = false := by simpa using c
      rw [c', if_pos (by decide)]
      rw [orB, if_neg c] at this
      exact this
theorem q_freeBits {wat : Nat → Int32} {T : Nat} {W : Nat → Nat} (hT : T < 256) (hw : ∀ g, g < 8 → T.testBit g = true → wat g = nI (W g) ∧ W g ≤ 99) : f_X6_freeBits wat (nI T) = some (nI (orB (fun g => T.testBit g && W g == 0) 8)) := by
  unfold f_X6_freeBits
  exact q_freeBits_l hT hw 8 0 FU rfl (by have := q_FU; omega)
theorem q_snowBits_l {fly : Nat → Int32} {T : Nat} {V : Nat → Nat} (hT : T < 256) (hw : ∀ g, g < 8 → T.testBit g = true → fly g = nI (V g) ∧ V g ≤ 99) : ∀ (k i n : Nat), i + k = 8 → k < n → L_X6_snowBits_4 fly (nI T) n (nI (orB (fun g => T.testBit g && decide (0 < V g)) i)) (nI i) = some (nI (orB (fun g => T.testBit g && decide (0 < V g)) 8)) := by
  intro k
  induction k with
  | zero =>
    intro i n hi hn
    obtain ⟨m, rfl⟩ : ∃ m, n = m + 1 := ⟨n - 1, by omega⟩
    obtain rfl : i = 8 := by omega
    rw [L_X6_snowBits_4.eq_2, if_pos q_88]
  | succ k ih =>
    intro i n hi hn
    obtain ⟨m, rfl⟩ : ∃ m, n = m + 1 := ⟨n - 1, by omega⟩
    rw [L_X6_snowBits_4.eq_2, if_neg (q_8n (by omega)), q_has hT (by omega), q_bd1, nI_1]
    have := ih (i + 1) m (by omega) (by omega)
    by_cases h : T.testBit i = true
    · obtain ⟨e, hv⟩ := hw i (by omega) h
      rw [h, if_neg (by decide), q_gin (by omega) (by decide), q_cl (by omega), e]
      by_cases c : 0 < V i
      · rw [if_neg (nI_nle c (by omega)), q_one (by omega), q_or]
        rw [orB, if_pos (by simp [h, c])] at this
        exact this
      · rw [if_pos (by rw [show V i = 0 by omega]; decide)]
        rw [orB, if_neg (by simp [c])] at this
        exact this
    · have h' : T.testBit i = false := by simpa using h
      rw [h', if_pos (by decide)]
      rw [orB, if_neg (by simp [h'])] at this
      exact this
theorem q_snowBits {fly : Nat → Int32} {T : Nat} {V : Nat → Nat} (hT : T < 256) (hw : ∀ g, g < 8 → T.testBit g = true → fly g = nI (V g) ∧ V g ≤ 99) : f_X6_snowBits fly (nI T) = some (nI (orB (fun g => T.testBit g && decide (0 < V g)) 8)) := by
  unfold f_X6_snowBits
  exact q_snowBits_l hT hw 8 0 FU rfl (by have := q_FU; omega)
def pX (k : Nat) : Int32 := if k < 8 then nI k else -1
def pM (k : Nat) : Int32 := if k < 8 then nI k else -6
theorem pX_in {k : Nat} (h : k < 8) : pX k = nI k := if_pos h
theorem pX_out {k : Nat} (h : ¬ k < 8) : pX k = -1 := if_neg h
theorem pM_in {k : Nat} (h : k < 8) : pM k = nI k := if_pos h
theorem pM_out {k : Nat} (h : ¬ k < 8) : pM k = -6 := if_neg h
theorem q_isWithin_l {inn : Nat → Int32} {T g : Nat} {P : Nat → Nat} (hT : T < 256) (hg : g < 8) (hp : ∀ x, x < 8 → T.testBit x = true → inn x = pX (P x) ∧ (P x < 8 → T.testBit (P x) = true)) (p1 : Int32) : ∀ (k n x : Nat), k ≤ 8 → k < n → (x < 8 → T.testBit x = true) → L_X6_isWithin_5 inn (nI T) p1 (nI g) n (pX x) (nI (8 - k)) = some (if win P k x g then 1 else 0) := by
  intro k
  induction k with
  | zero =>
    intro n x hk hn hx
    obtain ⟨m, rfl⟩ : ∃ m, n = m + 1 := ⟨n - 1, by omega⟩
    rw [L_X6_isWithin_5.eq_2, if_pos q_88]; rfl
  | succ k ih =>
    intro n x hk hn hx
    obtain ⟨m, rfl⟩ : ∃ m, n = m + 1 := ⟨n - 1, by omega⟩
    rw [L_X6_isWithin_5.eq_2, if_neg (q_8n (by omega)), win]
    by_cases c : x < 8
    · rw [pX_in c, q_has hT c, q_bd1, hx c, if_neg (by decide), if_pos c]
      by_cases e : x = g
      · rw [if_pos (by rw [e]), if_pos e]; rfl
      · rw [if_neg (fun h => e ((nI_eq (by omega) (by omega)).mp h)), if_neg e, q_gin c (by decide), q_cl (by omega), (hp x c (hx c)).1, nI_1, show 8 - (k + 1) + 1 = 8 - k by omega]
        exact ih m (P x) (by omega) (by omega) (hp x c (hx c)).2
    · rw [pX_out c, q_has_n q_m1, q_bd1, if_neg c]; rfl
theorem q_isWithin {inn : Nat → Int32} {T g x : Nat} {P : Nat → Nat} (hT : T < 256) (hg : g < 8) (hx : x < 8) (hp : ∀ x, x < 8 → T.testBit x = true → inn x = pX (P x) ∧ (P x < 8 → T.testBit (P x) = true)) : f_X6_isWithin inn (nI T) (nI x) (nI g) = some (if T.testBit x && win P 8 x g then 1 else 0) := by
  unfold f_X6_isWithin
  by_cases h : T.testBit x = true
  · have := q_isWithin_l hT hg hp (nI x) 8 FU x (by omega) (by have := q_FU; omega) (fun _ => h)
    rw [pX_in hx] at this
    rw [h, Bool.true_and]
    exact this
  · have h' : T.testBit x = false := by simpa using h
    obtain ⟨m, hm⟩ : ∃ m, FU = m + 1 := ⟨2047, rfl⟩
    rw [hm, L_X6_isWithin_5.eq_2, if_neg (by decide), q_has hT hx, q_bd1, h']; rfl
theorem q_bitsWithin_l {inn : Nat → Int32} {T g : Nat} {P : Nat → Nat} (hT : T < 256) (hg : g < 8) (hp : ∀ x, x < 8 → T.testBit x = true → inn x = pX (P x) ∧ (P x < 8 → T.testBit (P x) = true)) : ∀ (k i n : Nat), i + k = 8 → k < n → L_X6_bitsWithin_4 inn (nI T) (nI g) n (nI (orB (fun x => T.testBit x && win P 8 x g) i)) (nI i) = some (nI (orB (fun x => T.testBit x && win P 8 x g) 8)) := by
  intro k
  induction k with
  | zero =>
    intro i n hi hn
    obtain ⟨m, rfl⟩ : ∃ m, n = m + 1 := ⟨n - 1, by omega⟩
    obtain rfl : i = 8 := by omega
    rw [L_X6_bitsWithin_4.eq_2, if_pos q_88]
  | succ k ih =>
    intro i n hi hn
    obtain ⟨m, rfl⟩ : ∃ m, n = m + 1 := ⟨n - 1, by omega⟩
    rw [L_X6_bitsWithin_4.eq_2, if_neg (q_8n (by omega)), q_isWithin hT hg (by omega) hp, q_bd1, nI_1]
    have := ih (i + 1) m (by omega) (by omega)
    by_cases c : (T.testBit i && win P 8 i g) = true
    · rw [c, if_neg (by decide), q_one (by omega), q_or]
      rw [orB, if_pos c] at this
      exact this
    · have c' : (T.testBit i && win P 8 i g) = false := by simpa using c
      rw [c', if_pos (by decide)]
      rw [orB, if_neg c] at this
      exact this
theorem q_bitsWithin {inn : Nat → Int32} {T g : Nat} {P : Nat → Nat} (hT : T < 256) (hg : g < 8) (hp : ∀ x, x < 8 → T.testBit x = true → inn x = pX (P x) ∧ (P x < 8 → T.testBit (P x) = true)) : f_X6_bitsWithin inn (nI T) (nI g) = some (nI (orB (fun x => T.testBit x && win P 8 x g) 8)) := by
  unfold f_X6_bitsWithin
  exact q_bitsWithin_l hT hg hp 8 0 FU rfl (by have := q_FU; omega)
/-! the reference -/
theorem q_add {a b : Nat} : nI a + nI b = nI (a + b) := nI_add a b
theorem q_stands {now : Nat → Int32} {T g : Nat} (hT : T < 256) (hg : g < 8) (hb : now 40 = nI T) : f_X10_stands now (nI g) = some (if T.testBit g then 1 else 0) := by
  unfold f_X10_stands
  rw [q_40, hb, q_mhas hT hg, q_bd1]
  unfold gbl
  rw [if_pos]
  cases T.testBit g
  · exact Or.inl rfl
  · exact Or.inr rfl
theorem q_misFree {now : Nat → Int32} {g w : Nat} (hg : g < 8) (hw : now g = nI w) (hw2 : w < 100) : f_X10_isFree now (nI g) = some (if w == 0 then 1 else 0) := by
  unfold f_X10_isFree
  rw [q_gin (by omega) (by decide), q_cl (by omega), hw]
  by_cases e : w = 0
  · subst e; rfl
  · rw [if_neg (nI_ne0 (by omega) (by omega))]
    simp [e]
theorem q_freeOnes_l {now : Nat → Int32} {T : Nat} {W : Nat → Nat} (hT : T < 256) (hb : now 40 = nI T) (hw : ∀ g, g < 8 → T.testBit g = true → now g = nI (W g) ∧ W g ≤ 99) : ∀ (k i n : Nat), i + k = 8 → k < n → L_X10_freeOnes_4 now n (nI (orB (fun g => T.testBit g && W g == 0) i)) (nI i) = some (nI (orB (fun g => T.testBit g && W g == 0) 8)) := by
  intro k
  induction k with
  | zero =>
    intro i n hi hn
    obtain ⟨m, rfl⟩ : ∃ m, n = m + 1 := ⟨n - 1, by omega⟩
    obtain rfl : i = 8 := by omega
    rw [L_X10_freeOnes_4.eq_2, if_pos q_88]
  | succ k ih =>
    intro i n hi hn
    obtain ⟨m, rfl⟩ : ∃ m, n = m + 1 := ⟨n - 1, by omega⟩
    rw [L_X10_freeOnes_4.eq_2, if_neg (q_8n (by omega)), q_stands hT (by omega) hb, q_bd1, nI_1, q_or0]
    have := ih (i + 1) m (by omega) (by omega)
    by_cases h : T.testBit i = true
    · obtain ⟨e, hv⟩ := hw i (by omega) h
      rw [h, if_neg (by decide), q_misFree (by omega) e (by omega), q_bd1]
      by_cases c : W i = 0
      · rw [c, if_neg (by decide), q_one (by omega), q_or]
        rw [orB, if_pos (by simp [h, c])] at this
        exact this
      · rw [show (W i == 0) = false by simp [c], if_pos (by decide)]
        rw [orB, if_neg (by simp [c])] at this
        exact this
    · have h' : T.testBit i = false := by simpa using h
      rw [h', if_pos (by decide)]
      rw [orB, if_neg (by simp [h'])] at this
      exact this
theorem q_freeOnes {now : Nat → Int32} {T : Nat} {W : Nat → Nat} (hT : T < 256) (hb : now 40 = nI T) (hw : ∀ g, g < 8 → T.testBit g = true → now g = nI (W g) ∧ W g ≤ 99) : f_X10_freeOnes now = some (nI (orB (fun g => T.testBit g && W g == 0) 8)) := by
  unfold f_X10_freeOnes
  exact q_freeOnes_l hT hb hw 8 0 FU rfl (by have := q_FU; omega)
theorem q_snow_l {now : Nat → Int32} {T : Nat} {V : Nat → Nat} (hT : T < 256) (hb : now 40 = nI T) (hw : ∀ g, g < 8 → T.testBit g = true → now (8 + g) = nI (V g) ∧ V g ≤ 99) : ∀ (k i n : Nat), i + k = 8 → k < n → L_X10_snow_4 now n (nI (orB (fun g => T.testBit g && decide (0 < V g)) i)) (nI i) = some (nI (orB (fun g => T.testBit g && decide (0 < V g)) 8)) := by
  intro k
  induction k with
  | zero =>
    intro i n hi hn
    obtain ⟨m, rfl⟩ : ∃ m, n = m + 1 := ⟨n - 1, by omega⟩
    obtain rfl : i = 8 := by omega
    rw [L_X10_snow_4.eq_2, if_pos q_88]
  | succ k ih =>
    intro i n hi hn
    obtain ⟨m, rfl⟩ : ∃ m, n = m + 1 := ⟨n - 1, by omega⟩
    rw [L_X10_snow_4.eq_2, if_neg (q_8n (by omega)), q_stands hT (by omega) hb, q_bd1, nI_1, q_or0]
    have := ih (i + 1) m (by omega) (by omega)
    by_cases h : T.testBit i = true
    · obtain ⟨e, hv⟩ := hw i (by omega) h
      rw [h, if_neg (by decide), q_lit 8, q_add, q_gin (by omega) (by decide), q_cl (by omega), e]
      by_cases c : 0 < V i
      · rw [if_neg (nI_nle c (by omega)), q_one (by omega), q_or]
        rw [orB, if_pos (by simp [h, c])] at this
        exact this
      · rw [if_pos (by rw [show V i = 0 by omega]; decide)]
        rw [orB, if_neg (by simp [c])] at this
        exact this
    · have h' : T.testBit i = false := by simpa using h
      rw [h', if_pos (by decide)]
      rw [orB, if_neg (by simp [h'])] at this
      exact this
theorem q_snow {now : Nat → Int32} {T : Nat} {V : Nat → Nat} (hT : T < 256) (hb : now 40 = nI T) (hw : ∀ g, g < 8 → T.testBit g = true → now (8 + g) = nI (V g) ∧ V g ≤ 99) : f_X10_snow now = some (nI (orB (fun g => T.testBit g && decide (0 < V g)) 8)) := by
  unfold f_X10_snow
  exact q_snow_l hT hb hw 8 0 FU rfl (by have := q_FU; omega)
theorem q_misWithin_l {now : Nat → Int32} {T g : Nat} {P : Nat → Nat} (hg : g < 8) (hp : ∀ x, x < 8 → T.testBit x = true → now (32 + x) = pM (P x) ∧ (P x < 8 → T.testBit (P x) = true)) (p1 : Int32) : ∀ (k n x : Nat), k < n → (x < 8 → T.testBit x = true) → 8 ≤ up P k x → L_X10_isWithin_2 now p1 (nI g) n (pM x) = some (if win P k x g then 1 else 0) := by
  have h6 : (-6 : Int32) < 0 := by decide
  have h6g : ¬ (-6 : Int32) = nI g := fun h => by
    have := nI_pos (n := g) (by omega)
    rw [← h] at this
    exact this h6
  intro k
  induction k with
  | zero =>
    intro n x hn hx hu
    obtain ⟨m, rfl⟩ : ∃ m, n = m + 1 := ⟨n - 1, by omega⟩
    have hu : 8 ≤ x := hu
    rw [L_X10_isWithin_2.eq_2, pM_out (by omega), if_pos h6]
    unfold B_X10_isWithin_24
    rw [if_neg h6g]; rfl
  | succ k ih =>
    intro n x hn hx hu
    obtain ⟨m, rfl⟩ : ∃ m, n = m + 1 := ⟨n - 1, by omega⟩
    rw [L_X10_isWithin_2.eq_2, win]
    by_cases c : x < 8
    · rw [up, if_pos c] at hu
      rw [pM_in c, if_neg (nI_pos (by omega)), if_pos c]
      by_cases e : x = g
      · rw [if_pos (by rw [e]), if_pos e]
        unfold B_X10_isWithin_24
        rw [if_pos (by rw [e])]; rfl
      · rw [if_neg (fun h => e ((nI_eq (by omega) (by omega)).mp h)), if_neg e, q_lit 32, q_add, q_gin (by omega) (by decide), q_cl (by omega), (hp x c (hx c)).1]
        exact ih m (P x) (by omega) (hp x c (hx c)).2 hu
    · rw [pM_out c, if_pos h6, if_neg c]
      unfold B_X10_isWithin_24
      rw [if_neg h6g]; rfl
theorem q_misWithin {now : Nat → Int32} {T g x : Nat} {P : Nat → Nat} (hg : g < 8) (hx : x < 8) (hTx : T.testBit x = true) (hu : 8 ≤ up P 8 x) (hp : ∀ x, x < 8 → T.testBit x = true → now (32 + x) = pM (P x) ∧ (P x < 8 → T.testBit (P x) = true)) : f_X10_isWithin now (nI x) (nI g) = some (if win P 8 x g then 1 else 0) := by
  unfold f_X10_isWithin
  have := q_misWithin_l hg hp (nI x) 8 FU x (by have := q_FU; omega) (fun _ => hTx) hu
  rw [pM_in hx] at this
  exact this
