/-! pure: thumb, taking changes the worth, and reaches every lesser one -/
theorem vl_rm0 {P : Nat → Nat} {S : Nat → Bool} {g k : Nat} (hg : g < 8) : vl P (rmv P S g) k g = 0 := vl_out (by unfold rmv; rw [W_refl hg]; simp) k
theorem vl_step {P : Nat → Nat} {S : Nat → Bool} {g c j k x : Nat} (hp : PC P S) (hg : g < 8) (hSg : S g = true) (hc : c < 8) (hx : x < 8) (hS : S x = true) (hj : up P j g = c) (hcx : P c = x) : vl P (rmv P S g) (k + 1) x = 1 + (xr (fun c => if P c = x then vl P S k c else 0) 8 ^^^ vl P S k c ^^^ vl P (rmv P S g) k c) := by
  have ej : up P (j + 1) g = x := by rw [up_s hj hc, hcx]
  rw [vl, rmv_up hp hg hSg hx ej, if_pos rfl]
  congr 1
  exact sum_one (q := fun c => P c = x) hp hg hSg hc hcx (sib hp hg hSg hc hx hj hcx)
theorem vl_ne {P : Nat → Nat} {S : Nat → Bool} {g : Nat} (hp : PC P S) (hg : g < 8) (hSg : S g = true) : ∀ k x j, x < 8 → j < k → up P j g = x → vl P (rmv P S g) k x ≠ vl P S k x
  | 0, _, _, _, h, _ => absurd h (by omega)
  | k + 1, x, 0, hx, _, hj => by
    have e : g = x := hj
    subst e
    rw [vl_rm0 hg, vl, hSg, if_pos rfl]
    omega
  | k + 1, x, j + 1, hx, hjk, hj => by
    have hc : up P j g < 8 := by
      refine Nat.lt_of_not_le (fun c => ?_)
      rw [up_add, up_big c] at hj
      omega
    have hcx : P (up P j g) = x := by rw [← up_s rfl hc]; exact hj
    have hS : S x = true := by
      have := PC_up hp hg hSg (j + 1) (by rw [hj]; exact hx)
      rw [hj] at this
      exact this
    have ih := vl_ne hp hg hSg k (up P j g) j hc (by omega) rfl
    rw [vl_step hp hg hSg hc hx hS rfl hcx, vl, hS, if_pos rfl]
    intro e
    refine ih ?_
    have e2 := Nat.add_left_cancel e
    rw [Nat.xor_assoc] at e2
    have e3 : vl P S k (up P j g) ^^^ vl P (rmv P S g) k (up P j g) = 0 := by
      have h := congrArg (fun z => xr (fun c => if P c = x then vl P S k c else 0) 8 ^^^ z) e2
      have h : xr (fun c => if P c = x then vl P S k c else 0) 8 ^^^ (xr (fun c => if P c = x then vl P S k c else 0) 8 ^^^ (vl P S k (up P j g) ^^^ vl P (rmv P S g) k (up P j g))) = xr (fun c => if P c = x then vl P S k c else 0) 8 ^^^ xr (fun c => if P c = x then vl P S k c else 0) 8 := h
      rw [← Nat.xor_assoc, Nat.xor_self, Nat.zero_xor] at h
      exact h
    have h := congrArg (fun z => vl P S k (up P j g) ^^^ z) e3
    have h : vl P S k (up P j g) ^^^ (vl P S k (up P j g) ^^^ vl P (rmv P S g) k (up P j g)) = vl P S k (up P j g) ^^^ 0 := h
    rw [← Nat.xor_assoc, Nat.xor_self, Nat.zero_xor, Nat.xor_zero] at h
    exact h
theorem vl_all {P : Nat → Nat} {S : Nat → Bool} (hp : PC P S) : ∀ k x t, x < 8 → t < vl P S k x → ∃ g j, g < 8 ∧ S g = true ∧ j < k ∧ up P j g = x ∧ vl P (rmv P S g) k x = t
  | 0, x, t, hx, h => absurd h (by simp [vl])
  | k + 1, x, t, hx, h => by
    have hS : S x = true := by
      by_cases s : S x = true
      · exact s
      · rw [vl_out (show S x = false by simpa using s)] at h
        exact absurd h (by omega)
    by_cases t0 : t = 0
    · subst t0
      exact ⟨x, 0, hx, hS, by omega, rfl, vl_rm0 hx⟩
    · obtain ⟨s, rfl⟩ : ∃ s, t = s + 1 := ⟨t - 1, by omega⟩
      rw [vl, hS, if_pos rfl] at h
      have hb : ∀ c, c < 8 → (fun c => if P c = x then vl P S k c else 0) c < 2 ^ k := fun c _ => by
        show (if P c = x then vl P S k c else 0) < 2 ^ k
        split
        · exact vl_bd k c
        · exact Nat.pow_pos (by decide)
      obtain ⟨c, hc, c2⟩ := xr_lt (s := s) (k := k) hb s (by omega)
      have c2 : (if P c = x then vl P S k c else 0) ^^^ (xr (fun c => if P c = x then vl P S k c else 0) 8 ^^^ s) < (if P c = x then vl P S k c else 0) := c2
      by_cases q : P c = x
      · rw [if_pos q] at c2
        obtain ⟨g, j, hg, hSg, hj, hu, hv⟩ := vl_all hp k c _ hc c2
        refine ⟨g, j + 1, hg, hSg, by omega, by rw [up_s hu hc, q], ?_⟩
        rw [vl_step hp hg hSg hc hx hS hu q, hv]
        generalize xr (fun c => if P c = x then vl P S k c else 0) 8 = X
        generalize vl P S k c = V
        rw [Nat.xor_assoc, ← Nat.xor_assoc V V, Nat.xor_self, Nat.zero_xor, ← Nat.xor_assoc, Nat.xor_self, Nat.zero_xor, Nat.add_comm]
      · rw [if_neg q] at c2
        exact absurd c2 (by omega)
def nim (P : Nat → Nat) (S : Nat → Bool) : Nat := xr (fun c => if 8 ≤ P c then vl P S 8 c else 0) 8
theorem root_of {P : Nat → Nat} {g : Nat} : ∀ n, g < 8 → 8 ≤ up P n g → ∃ j, j < n ∧ up P j g < 8 ∧ 8 ≤ P (up P j g)
  | 0, hg, h => absurd (show 8 ≤ g from h) (by omega)
  | n + 1, hg, h => by
    by_cases c : 8 ≤ up P n g
    · obtain ⟨j, h1, h2⟩ := root_of n hg c
      exact ⟨j, by omega, h2⟩
    · exact ⟨n, by omega, by omega, by rw [← up_s rfl (show up P n g < 8 by omega)]; exact h⟩
theorem sib_top {P : Nat → Nat} {S : Nat → Bool} {g c j : Nat} (hp : PC P S) (hg : g < 8) (hc : c < 8) (hj : up P j g = c) (hcx : 8 ≤ P c) : ∀ d, d < 8 → 8 ≤ P d → d ≠ c → S d = true → win P 8 d g = false ∧ win P 8 g d = false := by
  intro d hd hdx hne hS
  constructor
  · refine Bool.eq_false_iff.mpr (fun w => ?_)
    obtain ⟨i, hi, e1⟩ := (win_up hg).mp w
    by_cases i0 : i = 0
    · subst i0
      have e1 : d = g := e1
      by_cases j0 : j = 0
      · subst j0
        exact hne (e1.trans hj)
      · obtain ⟨m, rfl⟩ : ∃ m, j = m + 1 := ⟨j - 1, by omega⟩
        rw [up_s2 hg, ← e1, up_big hdx] at hj
        omega
    · obtain ⟨m, rfl⟩ : ∃ m, i = m + 1 := ⟨i - 1, by omega⟩
      rw [up_s2 hd, up_big hdx] at e1
      omega
  · refine Bool.eq_false_iff.mpr (fun w => ?_)
    obtain ⟨i, hi, e1⟩ := (win_up hd).mp w
    have f1 := up_s e1 hd
    have f2 := up_s hj hc
    rcases Nat.lt_trichotomy i j with h | h | h
    · have := up_le (show 8 ≤ up P (i + 1) g by rw [f1]; exact hdx) (show i + 1 ≤ j by omega)
      omega
    · subst h
      exact hne (e1.symm.trans hj)
    · have := up_le (show 8 ≤ up P (j + 1) g by rw [f2]; exact hcx) (show j + 1 ≤ i by omega)
      omega
theorem nim_step {P : Nat → Nat} {S : Nat → Bool} {g c j : Nat} (hp : PC P S) (hg : g < 8) (hSg : S g = true) (hc : c < 8) (hj : up P j g = c) (hcx : 8 ≤ P c) : nim P (rmv P S g) = nim P S ^^^ vl P S 8 c ^^^ vl P (rmv P S g) 8 c :=
  sum_one (q := fun c => 8 ≤ P c) hp hg hSg hc hcx (sib_top hp hg hc hj hcx)
theorem nim_ne {P : Nat → Nat} {S : Nat → Bool} {g : Nat} (hp : PC P S) (hg : g < 8) (hSg : S g = true) : nim P (rmv P S g) ≠ nim P S := by
  obtain ⟨j, h1, h2, h3⟩ := root_of 8 hg (hp g hg hSg).1
  rw [nim_step hp hg hSg h2 rfl h3]
  have ih := vl_ne hp hg hSg 8 _ j h2 h1 rfl
  intro e
  refine ih ?_
  rw [Nat.xor_assoc] at e
  revert e
  generalize nim P S = X
  generalize vl P S 8 (up P j g) = V
  generalize vl P (rmv P S g) 8 (up P j g) = Z
  intro e
  have h := congrArg (fun z => V ^^^ (X ^^^ z)) e
  have h : V ^^^ (X ^^^ (X ^^^ (V ^^^ Z))) = V ^^^ (X ^^^ X) := h
  rw [← Nat.xor_assoc X, Nat.xor_self, Nat.zero_xor, Nat.xor_zero, ← Nat.xor_assoc, Nat.xor_self, Nat.zero_xor] at h
  exact h
theorem nim_all {P : Nat → Nat} {S : Nat → Bool} (hp : PC P S) {t : Nat} (h : t < nim P S) : ∃ g, g < 8 ∧ S g = true ∧ nim P (rmv P S g) = t := by
  have hb : ∀ c, c < 8 → (fun c => if 8 ≤ P c then vl P S 8 c else 0) c < 2 ^ 8 := fun c _ => by
    show (if 8 ≤ P c then vl P S 8 c else 0) < 2 ^ 8
    split
    · exact vl_bd 8 c
    · decide
  obtain ⟨c, hc, c2⟩ := xr_lt (s := t) (k := 8) hb t h
  have c2 : (if 8 ≤ P c then vl P S 8 c else 0) ^^^ (nim P S ^^^ t) < (if 8 ≤ P c then vl P S 8 c else 0) := c2
  by_cases q : 8 ≤ P c
  · rw [if_pos q] at c2
    obtain ⟨g, j, hg, hSg, hj, hu, hv⟩ := vl_all hp 8 c _ hc c2
    refine ⟨g, hg, hSg, ?_⟩
    rw [nim_step hp hg hSg hc hu q, hv]
    generalize nim P S = X
    generalize vl P S 8 c = V
    rw [Nat.xor_assoc, ← Nat.xor_assoc V V, Nat.xor_self, Nat.zero_xor, ← Nat.xor_assoc, Nat.xor_self, Nat.zero_xor]
  · rw [if_neg q] at c2
    exact absurd c2 (by omega)
theorem nim_bd {P : Nat → Nat} {S : Nat → Bool} : nim P S < 256 := xr_bd (k := 8) (fun c _ => by
  show (if 8 ≤ P c then vl P S 8 c else 0) < 2 ^ 8
  split
  · exact vl_bd 8 c
  · decide)
theorem PC_rmv {P : Nat → Nat} {S : Nat → Bool} {g : Nat} (hp : PC P S) (hg : g < 8) : PC P (rmv P S g) := by
  intro x hx h
  unfold rmv at h
  rw [Bool.and_eq_true] at h
  obtain ⟨h1, h2⟩ := h
  obtain ⟨a, b⟩ := hp x hx h1
  refine ⟨a, fun h8 => ?_⟩
  unfold rmv
  have : win P 8 (P x) g = false := by
    refine Bool.eq_false_iff.mpr (fun w => ?_)
    obtain ⟨i, hi, e1⟩ := (win_up hg).mp w
    have e2 : up P (i + 1) x = g := by rw [up_s2 hx, e1]
    have : win P 8 x g = true := (win_up hg).mpr ⟨i + 1, up_bd a hg e2, e2⟩
    rw [this] at h2
    exact absurd h2 (by decide)
  rw [b h8, this]
  rfl
