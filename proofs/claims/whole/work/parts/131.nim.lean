/-! pure: thumb, nim on what is in what -/
def xr (f : Nat → Nat) : Nat → Nat
  | 0 => 0
  | n + 1 => xr f n ^^^ f n
theorem xr_congr {f g : Nat → Nat} : ∀ {n : Nat}, (∀ j, j < n → f j = g j) → xr f n = xr g n
  | 0, _ => rfl
  | n + 1, h => by rw [xr, xr, h n (by omega), xr_congr (fun j hj => h j (by omega))]
theorem x_cc (a b : Nat) : a ^^^ b ^^^ b = a := by rw [Nat.xor_assoc, Nat.xor_self, Nat.xor_zero]
theorem xr_one {f g : Nat → Nat} {c : Nat} : ∀ {n : Nat}, c < n → (∀ j, j < n → j ≠ c → g j = f j) → xr g n = xr f n ^^^ f c ^^^ g c
  | 0, h, _ => absurd h (by omega)
  | n + 1, h, he => by
    by_cases e : c = n
    · subst e
      rw [xr, xr, xr_congr (f := g) (g := f) (fun j hj => he j (by omega) (by omega)), x_cc]
    · rw [xr, xr, xr_one (n := n) (by omega) (fun j hj hc => he j (by omega) hc), he n (by omega) (fun q => e q.symm), Nat.xor_assoc (xr f n), Nat.xor_assoc (xr f n), Nat.xor_assoc (xr f n), Nat.xor_assoc (xr f n), Nat.xor_comm (f c ^^^ g c) (f n), Nat.xor_assoc (f n)]
theorem xr_bd {f : Nat → Nat} {k : Nat} : ∀ {n : Nat}, (∀ j, j < n → f j < 2 ^ k) → xr f n < 2 ^ k
  | 0, _ => Nat.pow_pos (by decide)
  | n + 1, h => Nat.xor_lt_two_pow (xr_bd (fun j hj => h j (by omega))) (h n (by omega))
theorem x_mod (a b : Nat) : (a ^^^ b) % 2 = (a + b) % 2 := by
  have h : (a ^^^ b).testBit 0 = (a.testBit 0 ^^ b.testBit 0) := Nat.testBit_xor a b 0
  rw [Nat.testBit_zero, Nat.testBit_zero, Nat.testBit_zero] at h
  rcases Nat.mod_two_eq_zero_or_one a with p | p <;> rcases Nat.mod_two_eq_zero_or_one b with q | q <;> rw [p, q] at h <;> rcases Nat.mod_two_eq_zero_or_one (a ^^^ b) with r | r <;> rw [r] at h ⊢ <;> first | omega | exact absurd h (by decide)
theorem lt_xor : ∀ (n a b c : Nat), b < 2 ^ n → c < 2 ^ n → a < b ^^^ c → a ^^^ c < b ∨ a ^^^ b < c
  | 0, a, b, c, hb, hc, h => by
    have hb0 : b = 0 := by rw [Nat.pow_zero] at hb; omega
    have hc0 : c = 0 := by rw [Nat.pow_zero] at hc; omega
    rw [hb0, hc0] at h
    exact absurd h (by simp)
  | n + 1, a, b, c, hb, hc, h => by
    rw [Nat.pow_succ] at hb hc
    have d1 : (b ^^^ c) / 2 = b / 2 ^^^ c / 2 := Nat.xor_div_two
    have d2 : (a ^^^ c) / 2 = a / 2 ^^^ c / 2 := Nat.xor_div_two
    have d3 : (a ^^^ b) / 2 = a / 2 ^^^ b / 2 := Nat.xor_div_two
    have m1 : (b ^^^ c) % 2 = (b + c) % 2 := x_mod b c
    have m2 : (a ^^^ c) % 2 = (a + c) % 2 := x_mod a c
    have m3 : (a ^^^ b) % 2 = (a + b) % 2 := x_mod a b
    by_cases q : a / 2 < b / 2 ^^^ c / 2
    · rcases lt_xor n (a / 2) (b / 2) (c / 2) (by omega) (by omega) q with r | r
      · left; omega
      · right; omega
    · have e : a / 2 = b / 2 ^^^ c / 2 := by omega
      have e2 : a / 2 ^^^ c / 2 = b / 2 := by rw [e, x_cc]
      have e3 : a / 2 ^^^ b / 2 = c / 2 := by rw [e, Nat.xor_comm (b / 2), x_cc]
      by_cases p : b % 2 = 1
      · left; omega
      · right; omega
theorem xr_lt {f : Nat → Nat} {s k : Nat} : ∀ {n : Nat}, (∀ j, j < n → f j < 2 ^ k) → ∀ s, s < xr f n → ∃ c, c < n ∧ f c ^^^ (xr f n ^^^ s) < f c
  | 0, _, s, h => absurd h (by simp [xr])
  | n + 1, hb, s, h => by
    rw [xr] at h
    rcases lt_xor k s (xr f n) (f n) (xr_bd (fun j hj => hb j (by omega))) (hb n (by omega)) h with r | r
    · obtain ⟨c, c1, c2⟩ := xr_lt (s := s) (n := n) (fun j hj => hb j (by omega)) (s ^^^ f n) r
      refine ⟨c, by omega, ?_⟩
      rw [xr, Nat.xor_assoc (xr f n), Nat.xor_comm (f n) s]
      exact c2
    · refine ⟨n, by omega, ?_⟩
      rw [xr, Nat.xor_comm (xr f n) (f n), Nat.xor_assoc (f n), ← Nat.xor_assoc (f n) (f n), Nat.xor_self, Nat.zero_xor, Nat.xor_comm]
      exact r
def vl (P : Nat → Nat) (S : Nat → Bool) : Nat → Nat → Nat
  | 0, _ => 0
  | k + 1, x => if S x then 1 + xr (fun c => if P c = x then vl P S k c else 0) 8 else 0
theorem vl_out {P : Nat → Nat} {S : Nat → Bool} {x : Nat} (h : S x = false) : ∀ k, vl P S k x = 0
  | 0 => rfl
  | k + 1 => by rw [vl, h]; rfl
theorem vl_bd {P : Nat → Nat} {S : Nat → Bool} : ∀ k x, vl P S k x < 2 ^ k
  | 0, x => Nat.one_pos
  | k + 1, x => by
    rw [vl, Nat.pow_succ]
    have h0 : 0 < 2 ^ k := Nat.pow_pos (by decide)
    split
    · have := xr_bd (f := fun c => if P c = x then vl P S k c else 0) (k := k) (n := 8) (fun c _ => by
        show (if P c = x then vl P S k c else 0) < 2 ^ k
        split
        · exact vl_bd k c
        · exact h0)
      omega
    · omega
def PC (P : Nat → Nat) (S : Nat → Bool) : Prop := ∀ x, x < 8 → S x = true → 8 ≤ up P 8 x ∧ (P x < 8 → S (P x) = true)
def rmv (P : Nat → Nat) (S : Nat → Bool) (g : Nat) : Nat → Bool := fun y => S y && !win P 8 y g
theorem up_inj {P : Nat → Nat} {g i j y : Nat} (hu : 8 ≤ up P 8 g) (hy : y < 8) (h1 : up P i g = y) (h2 : up P j g = y) : i = j := by
  have key : ∀ i j, i < j → up P i g = y → up P j g = y → False := by
    intro i j hij h1 h2
    have h3 : up P (j - i) y = y := by
      rw [← h1, ← up_add, show i + (j - i) = j by omega, h2, h1]
    have h4 := up_cycle h3 8
    have h5 : up P (i + 8 * (j - i)) g = y := by rw [up_add, h1, h4]
    have h6 := up_le hu (show 8 ≤ i + 8 * (j - i) by omega)
    omega
  rcases Nat.lt_trichotomy i j with h | h | h
  · exact absurd (key i j h h1 h2) (fun f => f)
  · exact h
  · exact absurd (key j i h h2 h1) (fun f => f)
theorem up_1 {P : Nat → Nat} {x : Nat} (hx : x < 8) : up P 1 x = P x := by rw [up, if_pos hx]; rfl
theorem up_s {P : Nat → Nat} {i g x : Nat} (h : up P i g = x) (hx : x < 8) : up P (i + 1) g = P x := by rw [up_add, h, up_1 hx]
theorem up_s2 {P : Nat → Nat} {i d : Nat} (hd : d < 8) : up P (i + 1) d = up P i (P d) := by rw [up, if_pos hd]
theorem up_bd {P : Nat → Nat} {g i y : Nat} (hu : 8 ≤ up P 8 g) (hy : y < 8) (h : up P i g = y) : i < 8 := by
  refine Nat.lt_of_not_le (fun c => ?_)
  have := up_le hu c
  omega
theorem PC_up {P : Nat → Nat} {S : Nat → Bool} (h : PC P S) {g : Nat} (hg : g < 8) (hS : S g = true) : ∀ j, up P j g < 8 → S (up P j g) = true
  | 0, _ => hS
  | j + 1, h8 => by
    by_cases c : up P j g < 8
    · rw [up_s rfl c] at h8 ⊢
      exact (h _ c (PC_up h hg hS j c)).2 h8
    · rw [up_add, up_big (show 8 ≤ up P j g by omega)] at h8
      omega
theorem loc {P : Nat → Nat} {S : Nat → Bool} {g : Nat} (hp : PC P S) (hg : g < 8) (hSg : S g = true) : ∀ k c, c < 8 → S c = true → win P 8 c g = false → win P 8 g c = false → vl P (rmv P S g) k c = vl P S k c
  | 0, _, _, _, _, _ => rfl
  | k + 1, c, hc, hS, h1, h2 => by
    have e : rmv P S g c = true := by unfold rmv; rw [hS, h1]; rfl
    rw [vl, vl, e, hS, if_pos rfl, if_pos rfl]
    congr 1
    refine xr_congr (fun d hd => ?_)
    by_cases q : P d = c
    · rw [if_pos q, if_pos q]
      by_cases s : S d = true
      · refine loc hp hg hSg k d hd s ?_ ?_
        · refine Bool.eq_false_iff.mpr (fun w => ?_)
          obtain ⟨i, hi, e1⟩ := (win_up hg).mp w
          by_cases i0 : i = 0
          · subst i0
            have e1 : d = g := e1
            have : win P 8 g c = true := (win_up hc).mpr ⟨1, by omega, by rw [up_1 hg, ← e1, q]⟩
            rw [h2] at this
            exact absurd this (by decide)
          · obtain ⟨m, rfl⟩ : ∃ m, i = m + 1 := ⟨i - 1, by omega⟩
            rw [up_s2 hd, q] at e1
            have : win P 8 c g = true := (win_up hg).mpr ⟨m, by omega, e1⟩
            rw [h1] at this
            exact absurd this (by decide)
        · refine Bool.eq_false_iff.mpr (fun w => ?_)
          obtain ⟨i, hi, e1⟩ := (win_up hd).mp w
          have e2 := up_s e1 hd
          rw [q] at e2
          have : win P 8 g c = true := (win_up hc).mpr ⟨i + 1, up_bd (hp g hg hSg).1 hc e2, e2⟩
          rw [h2] at this
          exact absurd this (by decide)
      · have s' : S d = false := by simpa using s
        rw [vl_out s', vl_out (show rmv P S g d = false by unfold rmv; rw [s']; rfl)]
    · rw [if_neg q, if_neg q]
/-- one summand changes -/
theorem sum_one {P : Nat → Nat} {S : Nat → Bool} {g c k : Nat} {q : Nat → Prop} [DecidablePred q] (hp : PC P S) (hg : g < 8) (hSg : S g = true) (hc : c < 8) (hq : q c) (hd : ∀ d, d < 8 → q d → d ≠ c → S d = true → win P 8 d g = false ∧ win P 8 g d = false) : xr (fun c => if q c then vl P (rmv P S g) k c else 0) 8 = xr (fun c => if q c then vl P S k c else 0) 8 ^^^ vl P S k c ^^^ vl P (rmv P S g) k c := by
  have h := xr_one (f := fun c => if q c then vl P S k c else 0) (g := fun c => if q c then vl P (rmv P S g) k c else 0) (n := 8) hc (fun j hj hne => by
    show (if q j then vl P (rmv P S g) k j else 0) = (if q j then vl P S k j else 0)
    by_cases e : q j
    · rw [if_pos e, if_pos e]
      by_cases s : S j = true
      · obtain ⟨a, b⟩ := hd j hj e hne s
        exact loc hp hg hSg k j hj s a b
      · have s' : S j = false := by simpa using s
        rw [vl_out s', vl_out (show rmv P S g j = false by unfold rmv; rw [s']; rfl)]
    · rw [if_neg e, if_neg e])
  rw [h]
  show _ ^^^ (if q c then vl P S k c else 0) ^^^ (if q c then vl P (rmv P S g) k c else 0) = _
  rw [if_pos hq, if_pos hq]
theorem sib {P : Nat → Nat} {S : Nat → Bool} {g c j x : Nat} (hp : PC P S) (hg : g < 8) (hSg : S g = true) (hc : c < 8) (hx : x < 8) (hj : up P j g = c) (hcx : P c = x) : ∀ d, d < 8 → P d = x → d ≠ c → S d = true → win P 8 d g = false ∧ win P 8 g d = false := by
  intro d hd hdx hne hS
  have hu := (hp g hg hSg).1
  have ej : up P (j + 1) g = x := by rw [up_s hj hc, hcx]
  constructor
  · refine Bool.eq_false_iff.mpr (fun w => ?_)
    obtain ⟨i, hi, e1⟩ := (win_up hg).mp w
    by_cases i0 : i = 0
    · subst i0
      have e1 : d = g := e1
      have e2 : up P 1 g = x := by rw [up_1 hg, ← e1, hdx]
      have := up_inj hu hx e2 ej
      have j0 : j = 0 := by omega
      subst j0
      exact hne (e1.trans hj)
    · obtain ⟨m, rfl⟩ : ∃ m, i = m + 1 := ⟨i - 1, by omega⟩
      rw [up_s2 hd, hdx] at e1
      have e3 : up P (j + 1 + m) g = g := by rw [up_add, ej, e1]
      have := up_inj hu hg (show up P 0 g = g from rfl) e3
      omega
  · refine Bool.eq_false_iff.mpr (fun w => ?_)
    obtain ⟨i, hi, e1⟩ := (win_up hd).mp w
    have e2 := up_s e1 hd
    rw [hdx] at e2
    have := up_inj hu hx e2 ej
    have e3 : i = j := by omega
    subst e3
    exact hne (e1.symm.trans hj)
theorem rmv_up {P : Nat → Nat} {S : Nat → Bool} {g j x : Nat} (hp : PC P S) (hg : g < 8) (hSg : S g = true) (hx : x < 8) (hj : up P (j + 1) g = x) : rmv P S g x = true := by
  have hu := (hp g hg hSg).1
  have hS : S x = true := by
    have := PC_up hp hg hSg (j + 1) (by rw [hj]; exact hx)
    rw [hj] at this
    exact this
  unfold rmv
  have : win P 8 x g = false := by
    refine Bool.eq_false_iff.mpr (fun w => ?_)
    obtain ⟨i, hi, e1⟩ := (win_up hg).mp w
    have e3 : up P (j + 1 + i) g = g := by rw [up_add, hj, e1]
    have := up_inj hu hg (show up P 0 g = g from rfl) e3
    omega
  rw [hS, this]
  rfl
