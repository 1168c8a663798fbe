/-! pure: who -/
theorem q_ifc {α : Type} {p q : Prop} [Decidable p] [Decidable q] {x y : α} (h : p ↔ q) : (if p then x else y) = if q then x else y := by
  by_cases c : p
  · rw [if_pos c, if_pos (h.mp c)]
  · rw [if_neg c, if_neg (fun e => c (h.mpr e))]
def fl9 (k h x : Nat) : Nat := if h ≤ x then 10 * k - 7 * (x - h) else 0
theorem fl9_le {k h x : Nat} (hk : k ≤ 9) : fl9 k h x ≤ 90 := by
  unfold fl9
  split <;> omega
def SG (H F : Nat → Nat) (n : Nat) (hs fs ms : Nat → Int32) : Prop := n ≤ 8 ∧ ∀ i, i < n → H i ≤ 60 ∧ F i ≤ 99 ∧ hs i = nI (H i) ∧ fs i = nI (F i) ∧ ms (2 * i) = nI (H i) ∧ ms (2 * i + 1) = nI (F i)
theorem SGT_SG {hs fs ms : Nat → Int32} {sz msz : Int32} (h : SGT hs fs sz msz ms) : ∃ H F n, SG H F n hs fs ms ∧ sz = nI n ∧ msz = nI n := by
  obtain ⟨n, hn, n1, n2, n3⟩ := h
  refine ⟨fun i => Int32.toNatClampNeg (hs i), fun i => Int32.toNatClampNeg (fs i), n, ⟨hn, fun i hi => ?_⟩, n1, n2⟩
  obtain ⟨a, b, a1, b1, e1, e2, e3, e4⟩ := n3 i hi
  have q1 : Int32.toNatClampNeg (hs i) = a := by rw [e1, q_cl (by omega)]
  have q2 : Int32.toNatClampNeg (fs i) = b := by rw [e2, q_cl (by omega)]
  show Int32.toNatClampNeg (hs i) ≤ 60 ∧ Int32.toNatClampNeg (fs i) ≤ 99 ∧ hs i = nI (Int32.toNatClampNeg (hs i)) ∧ fs i = nI (Int32.toNatClampNeg (fs i)) ∧ ms (2 * i) = nI (Int32.toNatClampNeg (hs i)) ∧ ms (2 * i + 1) = nI (Int32.toNatClampNeg (fs i))
  rw [q1, q2]
  exact ⟨a1, b1, e1, e2, e3, e4⟩
theorem q_fly {k h x : Nat} (hk : k ≤ 9) (hh : h ≤ 99) (hx : x ≤ 60) : f_X5_flyingAt (nI k) (nI h) (nI x) = some (nI (fl9 k h x)) := by
  unfold f_X5_flyingAt fl9
  rw [q_ifle (by omega) (by omega)]
  by_cases c : h ≤ x
  · rw [if_pos c, if_pos c, q_lit 10, q_lit 7, pk_mul, q_subN c, pk_mul]
    by_cases d : 7 * (x - h) ≤ 10 * k
    · rw [q_subN d, show (0 : Int32) = nI 0 from rfl, q_jmax (by decide) (by omega), Nat.zero_max]
    · have := pk_sneg (a := 10 * k) (b := 7 * (x - h)) (by omega) (by omega)
      rw [show 10 * k - 7 * (x - h) = 0 by omega]
      unfold jmax
      rw [if_neg (fun h => Int32.lt_irrefl (Int32.lt_trans h this))]
      rfl
  · rw [if_neg c, if_neg c]
    rfl
theorem q_mfly {c x : Nat} (hc : c < 1000) (hx : x ≤ 60) : f_X10_flyingAt (nI c) (nI x) = some (nI (fl9 (c / 100) (c % 100) x)) := by
  unfold f_X10_flyingAt fl9
  rw [q_lit 100, q_jrem (by omega) (by decide) (by decide), q_div (by omega) (by decide) (by decide)]
  by_cases d : c % 100 ≤ x
  · rw [q_subN d, if_neg (nI_pos (by omega)), if_pos d, q_lit 10, q_lit 7, pk_mul, pk_mul]
    by_cases e : 7 * (x - c % 100) ≤ 10 * (c / 100)
    · rw [q_subN e, if_pos (show (0 : Int32) ≤ nI _ from (nI_leI (by decide) (by omega)).mpr (Nat.zero_le _))]
    · have := pk_sneg (a := 10 * (c / 100)) (b := 7 * (x - c % 100)) (by omega) (by omega)
      rw [if_neg (Int32.not_le.mpr this), show 10 * (c / 100) - 7 * (x - c % 100) = 0 by omega]
      rfl
  · rw [if_pos (pk_sneg (by omega) (by omega)), if_neg d]
    rfl
abbrev fitP (H F : Nat → Nat) (n k h i : Nat) : Prop := ∀ j, j < n → i ≤ j → fl9 k h (H j) = F j
theorem fit_l {H F : Nat → Nat} {n k h : Nat} {hs fs ms : Nat → Int32} (hS : SG H F n hs fs ms) (hk : k ≤ 9) (hh : h ≤ 99) : ∀ (j i N : Nat), i + j = n → j < N → L_X7_fit_2 hs fs (nI n) (nI k) (nI h) N (nI i) = some (if fitP H F n k h i then 1 else 0) := by
  intro j
  have hn := hS.1
  induction j with
  | zero =>
    intro i N hi hN
    obtain ⟨N, rfl⟩ : ∃ a, N = a + 1 := ⟨N - 1, by omega⟩
    rw [L_X7_fit_2.eq_2, q_ifle (by omega) (by omega), if_pos (by omega), if_pos (fun j h1 h2 => absurd h1 (by omega))]
  | succ j ih =>
    intro i N hi hN
    obtain ⟨N, rfl⟩ : ∃ a, N = a + 1 := ⟨N - 1, by omega⟩
    obtain ⟨a1, a2, a3, a4, a5, a6⟩ := hS.2 i (by omega)
    rw [L_X7_fit_2.eq_2, q_ifle (by omega) (by omega), if_neg (by omega), q_lit 8, q_ifle (by omega) (by omega), if_neg (by omega), q_gin (by omega) (by decide), q_cl (by omega), a3, q_fly hk hh a1, q_bd1, q_gin (by omega) (by decide), a4, q_ife (by have := fl9_le (k := k) (h := h) (x := H i) hk; omega) (by omega), nI_1, ih (i + 1) N (by omega) (by omega)]
    by_cases c : fl9 k h (H i) = F i
    · rw [if_pos c]
      congr 1
      refine q_ifc ⟨fun h j h1 h2 => ?_, fun h j h1 h2 => h j h1 (by omega)⟩
      by_cases e : j = i
      · rw [e]
        exact c
      · exact h j h1 (by omega)
    · rw [if_neg c, if_neg (fun h => c (h i (by omega) (Nat.le_refl i)))]
theorem mfit0 {ms : Nat → Int32} {N n i : Nat} {c : Int32} : L_X10_isFit_30 (nI n) ms c (N + 1) 0 (nI i) = some 0 := by
  rw [L_X10_isFit_30.eq_2]
  by_cases d : nI n ≤ nI i
  · rw [if_pos d]
    rfl
  · rw [if_neg d, if_pos rfl]
    rfl
theorem mfit_l {H F : Nat → Nat} {n c : Nat} {hs fs ms : Nat → Int32} (hS : SG H F n hs fs ms) (hc : c < 1000) : ∀ (j i N : Nat), i + j = n → j < N → L_X10_isFit_30 (nI n) ms (nI c) N 1 (nI i) = some (if fitP H F n (c / 100) (c % 100) i then 1 else 0) := by
  intro j
  have hn := hS.1
  induction j with
  | zero =>
    intro i N hi hN
    obtain ⟨N, rfl⟩ : ∃ a, N = a + 1 := ⟨N - 1, by omega⟩
    rw [L_X10_isFit_30.eq_2, q_ifle (by omega) (by omega), if_pos (by omega), if_pos (fun j h1 h2 => absurd h1 (by omega))]
    rfl
  | succ j ih =>
    intro i N hi hN
    obtain ⟨N, rfl⟩ : ∃ a, N = a + 1 := ⟨N - 1, by omega⟩
    obtain ⟨a1, a2, a3, a4, a5, a6⟩ := hS.2 i (by omega)
    have e2 : (2 : Int32) * nI i = nI (2 * i) := by rw [q_lit 2, pk_mul]
    rw [L_X10_isFit_30.eq_2, q_ifle (by omega) (by omega), if_neg (by omega), if_neg (by decide), e2, q_gin (by omega) (by decide), q_cl (by omega), a5, q_mfly hc a1, q_bd1, nI_1, q_gin (by omega) (by decide), q_cl (by omega), a6, q_ife (by have := fl9_le (k := c / 100) (h := c % 100) (x := H i) (by omega); omega) (by omega), nI_1, ih (i + 1) N (by omega) (by omega)]
    obtain ⟨N, rfl⟩ : ∃ a, N = a + 1 := ⟨N - 1, by omega⟩
    rw [mfit0]
    by_cases d : fl9 (c / 100) (c % 100) (H i) = F i
    · rw [if_pos d]
      congr 1
      refine q_ifc ⟨fun h j h1 h2 => ?_, fun h j h1 h2 => h j h1 (by omega)⟩
      by_cases e : j = i
      · rw [e]
        exact d
      · exact h j h1 (by omega)
    · rw [if_neg d, if_neg (fun h => d (h i (by omega) (Nat.le_refl i)))]
def okc (H F : Nat → Nat) (n c : Nat) : Bool := decide (c % 100 ≤ 20 ∧ 100 ≤ c ∧ fitP H F n (c / 100) (c % 100) 0)
def cnt (H F : Nat → Nat) (n : Nat) : Nat → Nat
  | 0 => 0
  | m + 1 => cnt H F n m + if okc H F n m then 1 else 0
theorem q_fit {H F : Nat → Nat} {n k h : Nat} {hs fs ms : Nat → Int32} (hS : SG H F n hs fs ms) (hk : k ≤ 9) (hk1 : 1 ≤ k) (hh : h ≤ 20) : f_X7_fit hs fs (nI n) (nI k) (nI h) = some (if okc H F n (100 * k + h) then 1 else 0) := by
  have hn := hS.1
  unfold f_X7_fit
  refine (show L_X7_fit_2 hs fs (nI n) (nI k) (nI h) FU 0 = _ from fit_l hS hk (show h ≤ 99 by omega) n 0 FU (by omega) (by have := q_FU; omega)).trans ?_
  congr 1
  unfold okc
  rw [show (100 * k + h) / 100 = k by omega, show (100 * k + h) % 100 = h by omega]
  refine q_ifc ⟨fun h1 => decide_eq_true ⟨hh, by omega, h1⟩, fun h1 => (of_decide_eq_true h1).2.2⟩
theorem q_mfit {H F : Nat → Nat} {n c : Nat} {hs fs ms : Nat → Int32} (hS : SG H F n hs fs ms) (hc : c < 1000) (hc1 : 100 ≤ c) : f_X10_isFit (nI n) ms (nI c) = some (if okc H F n c then 1 else 0) := by
  have hn := hS.1
  unfold f_X10_isFit f_X10_in
  rw [q_lit 100, q_div (by omega) (by decide) (by decide), q_jrem (by omega) (by decide) (by decide), q_lit 1, q_lit 9, q_ifl (by omega) (by decide), if_neg (by omega), q_ifl (by decide) (by omega), if_neg (by omega), q_bd1, if_neg (by decide), q_lit 21, q_ifle (by decide) (by omega)]
  unfold okc
  by_cases d : 21 ≤ c % 100
  · rw [if_pos d, decide_eq_false (fun h => absurd h.1 (by omega))]
    exact mfit0 (N := 2047) (i := 0)
  · rw [if_neg d]
    refine (show L_X10_isFit_30 (nI n) ms (nI c) FU (nI 1) 0 = _ from mfit_l hS hc n 0 FU (by omega) (by have := q_FU; omega)).trans ?_
    congr 1
    refine q_ifc ⟨fun h1 => decide_eq_true ⟨by omega, by omega, h1⟩, fun h1 => (of_decide_eq_true h1).2.2⟩
def CI (H F : Nat → Nat) (n : Nat) (codes : Nat → Int32) (m : Nat) : Prop := ∀ c, c < m → okc H F n c = true → codes (cnt H F n c) = nI c
theorem cnt_s {H F : Nat → Nat} {n m : Nat} : cnt H F n (m + 1) = cnt H F n m + if okc H F n m then 1 else 0 := rfl
theorem cnt_le {H F : Nat → Nat} {n : Nat} : ∀ {a b : Nat}, a ≤ b → cnt H F n a ≤ cnt H F n b := by
  intro a b h
  induction b with
  | zero => rw [show a = 0 by omega]; exact Nat.le_refl _
  | succ b ih =>
    by_cases e : a = b + 1
    · rw [e]; exact Nat.le_refl _
    · have := ih (by omega)
      rw [cnt_s]
      omega
theorem cnt_lt {H F : Nat → Nat} {n a b : Nat} (h : a < b) (ho : okc H F n a = true) : cnt H F n a < cnt H F n b := by
  have h1 := cnt_le (H := H) (F := F) (n := n) (show a + 1 ≤ b by omega)
  rw [cnt_s, ho, if_pos rfl] at h1
  omega
theorem okc_no {H F : Nat → Nat} {n c : Nat} (h : ¬ (c % 100 ≤ 20 ∧ 100 ≤ c)) : okc H F n c = false := decide_eq_false (fun x => h ⟨x.1, x.2.1⟩)
theorem cnt_gap {H F : Nat → Nat} {n a : Nat} : ∀ (k : Nat), (∀ c, a ≤ c → c < a + k → okc H F n c = false) → cnt H F n (a + k) = cnt H F n a := by
  intro k
  induction k with
  | zero => intro _; rfl
  | succ k ih =>
    intro h
    rw [← Nat.add_assoc, cnt_s, h (a + k) (by omega) (by omega), ih (fun c h1 h2 => h c h1 (by omega))]
    rfl
theorem find15 {H F : Nat → Nat} {n k : Nat} {hs fs ms : Nat → Int32} {rec : (Nat → Int32) → Int32 → Int32 → Option ((Nat → Int32) × Int32)} (hS : SG H F n hs fs ms) (hk : k ≤ 9) (hk1 : 1 ≤ k) : ∀ (j h N : Nat) (codes : Nat → Int32), h + j = 21 → j < N → CI H F n codes (100 * k + h) → cnt H F n (100 * k + h) ≤ 21 * (k - 1) + h → ∃ codes2 : Nat → Int32, L_X5_find_15 hs fs (nI n) rec N codes (nI (cnt H F n (100 * k + h))) (nI k) (nI h) = rec codes2 (nI (cnt H F n (100 * k + 21))) (nI (k + 1)) ∧ CI H F n codes2 (100 * k + 21) ∧ cnt H F n (100 * k + 21) ≤ 21 * (k - 1) + 21 := by
  intro j
  induction j with
  | zero =>
    intro h N codes hj hN hc hb
    obtain ⟨N, rfl⟩ : ∃ a, N = a + 1 := ⟨N - 1, by omega⟩
    obtain rfl : h = 21 := by omega
    exact ⟨codes, by rw [L_X5_find_15.eq_2, if_pos (show (20 : Int32) < nI 21 by decide), nI_1], hc, hb⟩
  | succ j ih =>
    intro h N codes hj hN hc hb
    obtain ⟨N, rfl⟩ : ∃ a, N = a + 1 := ⟨N - 1, by omega⟩
    rw [L_X5_find_15.eq_2, q_lit 20, q_ifl (by decide) (by omega), if_neg (by omega), q_lit 189, q_ifle (by decide) (by omega), if_neg (by omega), q_fit hS hk hk1 (by omega), q_bd1, nI_1, nI_1, q_gin (by omega) (by decide), q_cl (by omega), q_lit 100, pk_mul, q_add]
    by_cases o : okc H F n (100 * k + h) = true
    · rw [o, if_neg q_t0]
      have e : cnt H F n (100 * k + (h + 1)) = cnt H F n (100 * k + h) + 1 := by rw [← Nat.add_assoc, cnt_s, o]; rfl
      rw [← e]
      refine ih (h + 1) N _ (by omega) (by omega) (fun c h1 h2 => ?_) (by omega)
      by_cases q : c = 100 * k + h
      · rw [q, upd_g]
      · have := cnt_lt (show c < 100 * k + h by omega) h2
        rw [upd_n (by omega)]
        exact hc c (by omega) h2
    · have o' : okc H F n (100 * k + h) = false := by simpa using o
      have e : cnt H F n (100 * k + (h + 1)) = cnt H F n (100 * k + h) := by rw [← Nat.add_assoc, cnt_s, o']; rfl
      rw [o', if_pos q_f0, ← e]
      refine ih (h + 1) N _ (by omega) (by omega) (fun c h1 h2 => ?_) (by omega)
      by_cases q : c = 100 * k + h
      · rw [q, o'] at h2
        exact absurd h2 (by decide)
      · exact hc c (by omega) h2
theorem find7 {H F : Nat → Nat} {n : Nat} {hs fs ms : Nat → Int32} (hS : SG H F n hs fs ms) : ∀ (j k N : Nat) (codes : Nat → Int32), k + j = 10 → j < N → 1 ≤ k → CI H F n codes (100 * k) → cnt H F n (100 * k) ≤ 21 * (k - 1) → ∃ codes2 : Nat → Int32, L_X5_find_7 hs fs (nI n) N codes (nI (cnt H F n (100 * k))) (nI k) = some (codes2, nI (cnt H F n 1000)) ∧ CI H F n codes2 1000 ∧ cnt H F n 1000 ≤ 189 := by
  intro j
  induction j with
  | zero =>
    intro k N codes hj hN hk hc hb
    obtain ⟨N, rfl⟩ : ∃ a, N = a + 1 := ⟨N - 1, by omega⟩
    obtain rfl : k = 10 := by omega
    exact ⟨codes, by rw [L_X5_find_7.eq_2, if_pos (show (9 : Int32) < nI 10 by decide)], hc, hb⟩
  | succ j ih =>
    intro k N codes hj hN hk hc hb
    obtain ⟨N, rfl⟩ : ∃ a, N = a + 1 := ⟨N - 1, by omega⟩
    obtain ⟨c2, a1, a2, a3⟩ := find15 (rec := L_X5_find_7 hs fs (nI n) N) hS (show k ≤ 9 by omega) hk 21 0 FU codes (by omega) (by have := q_FU; omega) hc (by omega)
    have e : cnt H F n (100 * (k + 1)) = cnt H F n (100 * k + 21) := by
      rw [show 100 * (k + 1) = 100 * k + 21 + 79 by omega]
      exact cnt_gap 79 (fun c h1 h2 => okc_no (by omega))
    have hci : CI H F n c2 (100 * (k + 1)) := fun c h1 h2 => by
      by_cases q : c < 100 * k + 21
      · exact a2 c q h2
      · rw [okc_no (by omega)] at h2
        exact absurd h2 (by decide)
    obtain ⟨c3, b1, b2, b3⟩ := ih (k + 1) N c2 (by omega) (by omega) (by omega) hci (by omega)
    refine ⟨c3, ?_, b2, b3⟩
    rw [L_X5_find_7.eq_2, q_lit 9, q_ifl (by decide) (by omega), if_neg (by omega)]
    refine (show L_X5_find_15 hs fs (nI n) (L_X5_find_7 hs fs (nI n) N) FU codes (nI (cnt H F n (100 * k))) (nI k) 0 = _ from a1).trans ?_
    rw [← e]
    exact b1
theorem q_find {H F : Nat → Nat} {n : Nat} {hs fs ms : Nat → Int32} (hS : SG H F n hs fs ms) (codes : Nat → Int32) (size : Int32) : ∃ codes2 : Nat → Int32, f_X5_find codes size hs fs (nI n) = some (codes2, nI (cnt H F n 1000)) ∧ CI H F n codes2 1000 ∧ cnt H F n 1000 ≤ 189 := by
  unfold f_X5_find
  have e0 : cnt H F n (100 * 1) = 0 := cnt_gap (a := 0) 100 (fun c h1 h2 => okc_no (by omega))
  obtain ⟨c2, a1, a2, a3⟩ := find7 hS 9 1 FU codes rfl (by have := q_FU; omega) (by omega) (fun c h1 h2 => by rw [okc_no (by omega)] at h2; exact absurd h2 (by decide)) (by omega)
  rw [e0] at a1
  exact ⟨c2, a1, a2, a3⟩
