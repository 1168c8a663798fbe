/-! pure: the pad -/
theorem core_say {sg : Nat → Int32} {sz msz : Int32} {mp : Nat → Int32} (y : Int32) (h : PADR sg sz msz mp) : ∃ (r : Int32) (sg' : Nat → Int32) (sz' msz' : Int32) (mp' : Nat → Int32), f_X9_say sg sz y = some (r, sg', sz') ∧ f_X10_say msz mp y = some (r, msz', mp') ∧ PADR sg' sz' msz' mp' := by
  obtain ⟨n, hn, e1, e2, hc⟩ := id h
  unfold f_X9_say f_X10_say f_X1_add
  by_cases h1 : y < 33
  · refine ⟨-2, sg, sz, msz, mp, by rw [if_pos h1], ?_, h⟩
    unfold f_X10_in
    rw [if_pos h1]; rfl
  · by_cases h2 : y ≤ 126
    · have h3 : ¬ (126 : Int32) < y := by
        intro h3
        rw [Int32.lt_iff_toInt_lt] at h3
        rw [Int32.le_iff_toInt_le] at h2
        omega
      have hx : ¬ y < 0 := by
        intro h
        apply h1
        rw [Int32.lt_iff_toInt_lt] at h ⊢
        have e0 : (0 : Int32).toInt = 0 := rfl
        have e33 : (33 : Int32).toInt = 33 := rfl
        omega
      obtain ⟨c, hc9, rfl⟩ := nI_of hx
      have h1' : 33 ≤ c := by
        rw [q_lit 33, nI_ltI hc9 (by decide)] at h1
        omega
      have h2' : c ≤ 126 := by
        rw [q_lit 126, nI_leI hc9 (by decide)] at h2
        exact h2
      have hin : f_X10_in (nI c) 33 126 = some 1 := by
        unfold f_X10_in
        rw [if_neg h1, if_neg h3]
      rw [if_neg h1, if_pos h2, hin, q_bd1, if_neg (show ¬ (1 : Int32) = 0 by decide), e1, e2, if_neg (nI_pos (by omega)), q_lit 60, q_ifl (by omega) (by decide), q_ife (by omega) (by decide)]
      by_cases c60 : n < 60
      · rw [if_pos c60, if_neg (show ¬ n = 60 by omega), q_gin (by omega) (by decide), q_gin (by omega) (by decide), q_cl (by omega), nI_1]
        refine ⟨nI (n + 1), upd sg n (nI c), nI (n + 1), nI (n + 1), upd mp n (nI c), rfl, rfl, n + 1, by omega, rfl, rfl, fun i hi => ?_⟩
        by_cases e : i = n
        · exact ⟨c, h1', h2', by rw [e, upd_g], by rw [e, upd_g]⟩
        · rw [upd_n e, upd_n e]
          exact hc i (by omega)
      · rw [if_neg c60, if_pos (show n = 60 by omega)]
        exact ⟨-4, sg, nI n, nI n, mp, rfl, rfl, n, hn, rfl, rfl, hc⟩
    · refine ⟨-2, sg, sz, msz, mp, by rw [if_neg h1, if_neg h2], ?_, h⟩
      unfold f_X10_in
      rw [if_neg h1, if_pos]
      · rfl
      · rw [Int32.lt_iff_toInt_lt]
        rw [Int32.le_iff_toInt_le] at h2
        omega
theorem core_wipe {sg : Nat → Int32} {sz msz : Int32} {mp : Nat → Int32} (h : PADR sg sz msz mp) : ∃ (r sz' msz' : Int32), f_X9_wipe sz = some (r, sz') ∧ f_X10_wipe msz = some (r, msz') ∧ PADR sg sz' msz' mp := by
  obtain ⟨n, hn, e1, e2, hc⟩ := h
  exact ⟨nI n, 0, 0, by unfold f_X9_wipe; rw [e1], by unfold f_X10_wipe; rw [e2], 0, by omega, rfl, rfl, fun i hi => absurd hi (by omega)⟩
/-- the letters' grammar: 0 an act begins, 1 what is done, 2 the other globe, 3 a fault -/
def deed (c : Nat) : Bool := (decide (49 ≤ c) && decide (c ≤ 57)) || c == 43 || c == 61 || c == 47 || c == 94 || c == 35
def lett (c : Nat) : Bool := decide (65 ≤ c) && decide (c ≤ 72)
def ns (s c : Nat) : Nat := if s = 0 then (if c = 46 then 0 else if lett c then 1 else 3) else if s = 1 then (if c = 62 then 2 else if deed c then 0 else 3) else (if lett c then 0 else 3)
theorem ns_le (s c : Nat) : ns s c ≤ 3 := by
  unfold ns
  split
  · split
    · omega
    · split <;> omega
  · split
    · split
      · omega
      · split <;> omega
    · split <;> omega
theorem q_sb8 : ∀ (s : Fin 3) (c : Fin 127), f_X1_stateBehind (nI s.val) (nI c.val) = some (if ns s.val c.val = 3 then -6 else nI (ns s.val c.val)) := by decide +kernel
theorem q_lett8 : ∀ (c : Fin 127), f_X10_in (nI c.val) 65 72 = some (if lett c.val then 1 else 0) := by decide +kernel
theorem q_verb8 : ∀ (c : Fin 127), f_X10_isVerb (nI c.val) = some (if deed c.val || c.val == 62 then 1 else 0) := by decide +kernel
def fl (ch : Nat → Nat) (n : Nat) : Nat → Nat → Nat → Int32
  | 0, _, s => if s = 0 then -6 else nI n
  | k + 1, i, s => if ns s (ch i) = 3 then nI i else fl ch n k (i + 1) (ns s (ch i))
theorem q_signAt {sg : Nat → Int32} {n i : Nat} (hi : i < n) (hn : n ≤ 60) : f_X1_signAt sg (nI n) (nI i) = some (sg i) := by
  unfold f_X1_signAt
  rw [if_neg (nI_pos (by omega)), q_ifle (by omega) (by omega), if_neg (by omega), q_lit 60, q_ifle (by decide) (by omega), if_neg (by omega), q_gin (by omega) (by decide), q_cl (by omega)]
theorem fault_x {sg : Nat → Int32} {ch : Nat → Nat} {n : Nat} (hn : n ≤ 60) (hc : ∀ i, i < n → ch i < 127 ∧ sg i = nI (ch i)) : ∀ (k i N s : Nat), i + k = n → k < N → s < 3 → L_X1_faultPlace_4 sg (nI n) N (nI s) (nI i) = some (fl ch n k i s) := by
  intro k
  induction k with
  | zero =>
    intro i N s hi hN hs
    obtain ⟨N, rfl⟩ : ∃ a, N = a + 1 := ⟨N - 1, by omega⟩
    rw [L_X1_faultPlace_4.eq_2, q_ifle (by omega) (by omega), if_pos (by omega), q_lit 0, q_ife (by omega) (by decide), fl]
    split <;> rfl
  | succ k ih =>
    intro i N s hi hN hs
    obtain ⟨N, rfl⟩ : ∃ a, N = a + 1 := ⟨N - 1, by omega⟩
    obtain ⟨c1, c2⟩ := hc i (by omega)
    rw [L_X1_faultPlace_4.eq_2, q_ifle (by omega) (by omega), if_neg (by omega), q_signAt (by omega) hn, q_bd1, c2, q_sb8 ⟨s, hs⟩ ⟨ch i, c1⟩, q_bd1, fl, nI_1]
    by_cases c : ns s (ch i) = 3
    · rw [if_pos c, if_pos rfl, if_pos c]
    · rw [if_neg c, if_neg c, if_neg (fun e => by
        have := nI_pos (n := ns s (ch i)) (by have := ns_le s (ch i); omega)
        rw [e] at this
        exact this (by decide))]
      exact ih (i + 1) N (ns s (ch i)) (by omega) (by omega) (by have := ns_le s (ch i); omega)
theorem fault_m {mp : Nat → Int32} {ch : Nat → Nat} {n : Nat} (hn : n ≤ 60) (hc : ∀ i, i < n → ch i < 127 ∧ mp i = nI (ch i)) : ∀ (k i N s : Nat), i + k = n → k < N → s < 3 → L_X10_faultOf_4 (nI n) mp N (nI s) (nI i) = some (fl ch n k i s) := by
  intro k
  induction k with
  | zero =>
    intro i N s hi hN hs
    obtain ⟨N, rfl⟩ : ∃ a, N = a + 1 := ⟨N - 1, by omega⟩
    rw [L_X10_faultOf_4.eq_2, q_ifle (by omega) (by omega), if_pos (by omega), q_lit 0, q_ife (by omega) (by decide), fl]
    split <;> rfl
  | succ k ih =>
    intro i N s hi hN hs
    obtain ⟨N, rfl⟩ : ∃ a, N = a + 1 := ⟨N - 1, by omega⟩
    obtain ⟨c1, c2⟩ := hc i (by omega)
    have ih' := ih (i + 1) N
    rw [L_X10_faultOf_4.eq_2, q_ifle (by omega) (by omega), if_neg (by omega), q_gin (by omega) (by decide), q_cl (by omega), c2, q_lett8 ⟨ch i, c1⟩, q_bd1, q_verb8 ⟨ch i, c1⟩, q_bd1, fl]
    unfold B_X10_faultOf_44 B_X10_faultOf_66 B_X10_faultOf_88
    simp only [nI_1]
    rw [q_lit 46, q_lit 62]
    simp only [q_ife (show ch i < 2 ^ 31 by omega) (show 46 < 2 ^ 31 by decide), q_ife (show ch i < 2 ^ 31 by omega) (show 62 < 2 ^ 31 by decide)]
    rcases (show s = 0 ∨ s = 1 ∨ s = 2 by omega) with rfl | rfl | rfl
    · rw [show nI 0 = (0 : Int32) from rfl]
      simp only [ns]
      by_cases a : ch i = 46
      · have hl : lett (ch i) = false := by rw [a]; decide
        rw [hl]
        simp [a]
        exact ih' 0 (by omega) (by omega) (by omega)
      · by_cases b : lett (ch i) = true
        · rw [b]
          simp [a]
          exact ih' 1 (by omega) (by omega) (by omega)
        · have b' : lett (ch i) = false := by simpa using b
          rw [b']
          simp [a]
    · rw [show nI 1 = (1 : Int32) from rfl]
      simp only [ns]
      by_cases a : ch i = 62
      · simp [a]
        exact ih' 2 (by omega) (by omega) (by omega)
      · by_cases b : deed (ch i) = true
        · rw [b]
          simp [a]
          exact ih' 0 (by omega) (by omega) (by omega)
        · have b' : deed (ch i) = false := by simpa using b
          rw [b']
          simp [a]
    · rw [show nI 2 = (2 : Int32) from rfl]
      simp only [ns]
      by_cases b : lett (ch i) = true
      · simp [b]
        exact ih' 0 (by omega) (by omega) (by omega)
      · have b' : lett (ch i) = false := by simpa using b
        simp [b']
/-- a pad's letters -/
theorem pad_ch {sg : Nat → Int32} {sz msz : Int32} {mp : Nat → Int32} (h : PADR sg sz msz mp) : ∃ (n : Nat) (ch : Nat → Nat), n ≤ 60 ∧ sz = nI n ∧ msz = nI n ∧ ∀ i, i < n → ch i < 127 ∧ sg i = nI (ch i) ∧ mp i = nI (ch i) := by
  obtain ⟨n, hn, e1, e2, hc⟩ := h
  refine ⟨n, fun i => if h : i < n then (hc i h).choose else 0, hn, e1, e2, fun i hi => ?_⟩
  have hs := (hc i hi).choose_spec
  simp only [dif_pos hi]
  exact ⟨by omega, hs.2.2.1, hs.2.2.2⟩
theorem fault_both {sg mp : Nat → Int32} {ch : Nat → Nat} {n : Nat} (hn : n ≤ 60) (hc : ∀ i, i < n → ch i < 127 ∧ sg i = nI (ch i) ∧ mp i = nI (ch i)) : f_X1_faultPlace sg (nI n) = some (fl ch n n 0 0) ∧ f_X10_faultOf (nI n) mp = some (fl ch n n 0 0) := by
  constructor
  · unfold f_X1_faultPlace
    exact fault_x hn (fun i hi => ⟨(hc i hi).1, (hc i hi).2.1⟩) n 0 FU 0 (by omega) (by have := q_FU; omega) (by omega)
  · unfold f_X10_faultOf
    exact fault_m hn (fun i hi => ⟨(hc i hi).1, (hc i hi).2.2⟩) n 0 FU 0 (by omega) (by have := q_FU; omega) (by omega)
theorem core_fault {sg : Nat → Int32} {sz msz : Int32} {mp : Nat → Int32} (h : PADR sg sz msz mp) : ∃ r, f_X9_fault sg sz = some r ∧ f_X10_fault msz mp = some r := by
  obtain ⟨n, ch, hn, e1, e2, hc⟩ := pad_ch h
  obtain ⟨a, b⟩ := fault_both hn hc
  refine ⟨fl ch n n 0 0, ?_, ?_⟩
  · unfold f_X9_fault
    rw [e1, a]; rfl
  · unfold f_X10_fault
    rw [e2, b]; rfl
