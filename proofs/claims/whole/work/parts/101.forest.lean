/-! pure: what is in what -/
def up (P : Nat → Nat) : Nat → Nat → Nat
  | 0, x => x
  | n + 1, x => if x < 8 then up P n (P x) else x
/-- x is g, or in it, be it in others: looked at for n steps -/
def win (P : Nat → Nat) : Nat → Nat → Nat → Bool
  | 0, _, _ => false
  | n + 1, x, g => if x < 8 then (if x = g then true else win P n (P x) g) else false
theorem up_big {P : Nat → Nat} : ∀ {n x : Nat}, 8 ≤ x → up P n x = x
  | 0, _, _ => rfl
  | n + 1, x, h => by rw [up, if_neg (by omega)]
theorem up_add (P : Nat → Nat) : ∀ (a b x : Nat), up P (a + b) x = up P b (up P a x)
  | 0, b, x => by rw [Nat.zero_add]; rfl
  | a + 1, b, x => by
    rw [show a + 1 + b = (a + b) + 1 by omega, up, up]
    by_cases h : x < 8
    · rw [if_pos h, if_pos h]
      exact up_add P a b (P x)
    · rw [if_neg h, if_neg h, up_big (by omega)]
theorem up_le {P : Nat → Nat} {a b x : Nat} (h : 8 ≤ up P a x) (hab : a ≤ b) : 8 ≤ up P b x := by
  rw [show b = a + (b - a) by omega, up_add, up_big h]
  exact h
theorem fb_holes1 : ∀ (m n : Nat) (f : Nat → Nat), (∀ i, i < n → f i < m) → (∀ i j, i < j → j < n → f i ≠ f j) → n ≤ m
  | 0, n, f, h, _ => by
    rcases Nat.eq_zero_or_pos n with e | e
    · omega
    · exact absurd (h 0 e) (Nat.not_lt_zero _)
  | m + 1, n, f, h, hd => by
    by_cases hx : ∃ i, i < n ∧ f i = m
    · obtain ⟨i, hi, e⟩ := hx
      have key := fb_holes1 m (n - 1) (fun k => if k < i then f k else f (k + 1)) (fun k hk => by
        by_cases c : k < i
        · simp only [if_pos c]
          have h1 := h k (by omega)
          have h2 := hd k i c hi
          omega
        · simp only [if_neg c]
          have h1 := h (k + 1) (by omega)
          have h2 := hd i (k + 1) (by omega) (by omega)
          omega) (fun a b hab hb => by
        by_cases c : b < i
        · simp only [if_pos c, if_pos (show a < i by omega)]
          exact hd a b hab (by omega)
        · by_cases c2 : a < i
          · simp only [if_neg c, if_pos c2]
            exact hd a (b + 1) (by omega) (by omega)
          · simp only [if_neg c, if_neg c2]
            exact hd (a + 1) (b + 1) (by omega) (by omega))
      omega
    · have key := fb_holes1 m n f (fun k hk => by
        have h1 := h k hk
        have h2 : f k ≠ m := fun e => hx ⟨k, hk, e⟩
        omega) hd
      omega
/-- who comes to the shelf at all, comes to it in eight steps -/
theorem up_8 {P : Nat → Nat} {n x : Nat} (h : 8 ≤ up P n x) : 8 ≤ up P 8 x := by
  obtain ⟨k, hk, hmin⟩ := pk_least (fun k => 8 ≤ up P k x) ⟨n, h⟩
  by_cases hk8 : k ≤ 8
  · exact up_le hk hk8
  · exfalso
    have := fb_holes1 8 k (fun i => up P i x) (fun i hi => Nat.lt_of_not_le (hmin i hi)) (fun i j hij hj e => by
      have e : up P i x = up P j x := e
      have h1 : up P (k - (j - i)) x = up P k x := by
        rw [show k - (j - i) = i + (k - j) by omega, up_add, e, ← up_add, show j + (k - j) = k by omega]
      exact hmin (k - (j - i)) (by omega) (by rw [h1]; exact hk))
    omega
theorem win_up {P : Nat → Nat} : ∀ {n x g : Nat}, g < 8 → (win P n x g = true ↔ ∃ k, k < n ∧ up P k x = g)
  | 0, x, g, hg => by
    constructor
    · intro h; cases h
    · rintro ⟨k, hk, -⟩; omega
  | n + 1, x, g, hg => by
    rw [win]
    by_cases h : x < 8
    · rw [if_pos h]
      by_cases e : x = g
      · rw [if_pos e]
        exact ⟨fun _ => ⟨0, by omega, e⟩, fun _ => rfl⟩
      · rw [if_neg e, win_up hg]
        constructor
        · rintro ⟨k, hk, h1⟩
          exact ⟨k + 1, by omega, by rw [up, if_pos h]; exact h1⟩
        · rintro ⟨k, hk, h1⟩
          cases k with
          | zero => exact absurd h1 e
          | succ k => exact ⟨k, by omega, by rw [up, if_pos h] at h1; exact h1⟩
    · rw [if_neg h]
      constructor
      · intro h1; cases h1
      · rintro ⟨k, -, h1⟩
        rw [up_big (by omega)] at h1
        omega
/-- more steps find no more, where the shelf is reached -/
theorem win_more {P : Nat → Nat} {n m x g : Nat} (hg : g < 8) (h : 8 ≤ up P n x) (hm : n ≤ m) : win P m x g = win P n x g := by
  rw [Bool.eq_iff_iff, win_up hg, win_up hg]
  constructor
  · rintro ⟨k, hk, e⟩
    refine ⟨k, ?_, e⟩
    rcases Nat.lt_or_ge k n with c | c
    · exact c
    · have := up_le h c
      omega
  · rintro ⟨k, hk, e⟩
    exact ⟨k, by omega, e⟩
/-- a chain that doesn't meet g doesn't see what g's place is -/
theorem up_off {P P' : Nat → Nat} {g : Nat} (hP : ∀ x, x ≠ g → P' x = P x) : ∀ {n x : Nat}, (∀ k, k < n → up P k x ≠ g) → up P' n x = up P n x
  | 0, x, _ => rfl
  | n + 1, x, h => by
    rw [up, up]
    by_cases c : x < 8
    · rw [if_pos c, if_pos c, hP x (h 0 (by omega))]
      exact up_off hP (fun k hk => by
        have := h (k + 1) (by omega)
        rw [up, if_pos c] at this
        exact this)
    · rw [if_neg c, if_neg c]
/-- g is put into t (or on the shelf): all still come to the shelf, if t isn't in g -/
theorem up_move {P : Nat → Nat} {T : Nat → Prop} {g t : Nat} (hP : ∀ x, x < 8 → T x → 8 ≤ up P 8 x) (hc : ∀ x, x < 8 → T x → P x < 8 → T (P x)) (ht : t < 8 → T t) (hw : t < 8 → win P 8 t g = false) (hg : g < 8) {x : Nat} (hx : x < 8) (hT : T x) : 8 ≤ up (fun y => if y = g then t else P y) 8 x := by
  have hoff : ∀ y, y ≠ g → (fun y => if y = g then t else P y) y = P y := fun y h => if_neg h
  have htt : 8 ≤ up (fun y => if y = g then t else P y) 8 t := by
    by_cases c : t < 8
    · rw [up_off hoff (fun k hk e => ?_)]
      · exact hP t c (ht c)
      · have h1 := hw c
        rw [(win_up hg).mpr ⟨k, hk, e⟩] at h1
        cases h1
    · rw [up_big (by omega)]; omega
  by_cases c : ∃ k, k < 8 ∧ up P k x = g
  · obtain ⟨k, hk, hmin⟩ := pk_least (fun k => up P k x = g) ⟨c.choose, c.choose_spec.2⟩
    have e1 : up (fun y => if y = g then t else P y) k x = g := by
      rw [up_off hoff (fun j hj => hmin j hj)]
      exact hk
    refine up_8 (n := k + (8 + 1)) ?_
    rw [up_add, e1, Nat.add_comm 8 1, up_add]
    have e2 : up (fun y => if y = g then t else P y) 1 g = t := by
      rw [up, if_pos hg]
      simp only [if_pos]
      rfl
    rw [e2]
    exact htt
  · rw [up_off hoff (fun k hk e => c ⟨k, hk, e⟩)]
    exact hP x hx hT
/-- g is dropped: what was in it stands where it did -/
theorem up_drop {P : Nat → Nat} {g : Nat} (hg : g < 8) : ∀ (n : Nat) {x : Nat}, x ≠ g → 8 ≤ up P n x → 8 ≤ up (fun y => if P y = g then P g else P y) n x := by
  intro n
  induction n using Nat.strongRecOn with
  | _ n ih =>
    intro x hx h
    cases n with
    | zero => exact h
    | succ n =>
      rw [up] at h ⊢
      by_cases c : x < 8
      · rw [if_pos c] at h ⊢
        by_cases e : P x = g
        · simp only [if_pos e]
          rw [e] at h
          cases n with
          | zero => rw [up] at h; omega
          | succ n =>
            rw [up, if_pos hg] at h
            have hne : P g ≠ g := by
              intro e2
              have : ∀ k, up P k g = g := by
                intro k
                induction k with
                | zero => rfl
                | succ k ihk => rw [up, if_pos hg, e2]; exact ihk
              rw [e2, this] at h
              omega
            exact up_le (ih n (by omega) hne h) (by omega)
        · simp only [if_neg e]
          exact ih n (by omega) e h
      · rw [if_neg c] at h ⊢
        exact h
