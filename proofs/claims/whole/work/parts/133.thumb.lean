/-! pure: thumb, the class -/
def bs (X : Nat) : Nat → Bool := fun i => X.testBit i
def wn (P : Nat → Nat) (T g : Nat) : Nat := orB (fun x => T.testBit x && win P 8 x g) 8
def okX (P : Nat → Nat) (T X : Nat) : Prop := X < 256 ∧ (∀ i, i < 8 → X.testBit i = true → T.testBit i = true) ∧ PC P (bs X)
def wp (P : Nat → Nat) (X g : Nat) : Bool := X.testBit g && decide (nim P (rmv P (bs X) g) = 0)
def ff (p : Nat → Bool) : Nat → Nat → Int32
  | 0, _ => -6
  | k + 1, i => if p i = true then nI i else ff p k (i + 1)
theorem ff_6 {p : Nat → Bool} : ∀ {k i : Nat}, i + k ≤ 8 → (ff p k i = -6 ↔ ∀ j, i ≤ j → j < i + k → p j = false)
  | 0, i, _ => ⟨fun _ j h1 h2 => absurd h2 (by omega), fun _ => rfl⟩
  | k + 1, i, h => by
    rw [ff]
    by_cases c : p i = true
    · rw [if_pos c]
      constructor
      · intro e
        exact absurd (show nI i < 0 by rw [e]; decide) (nI_pos (by omega))
      · intro e
        rw [e i (by omega) (by omega)] at c
        exact absurd c (by decide)
    · rw [if_neg c, ff_6 (k := k) (by omega)]
      constructor
      · intro e j h1 h2
        by_cases q : j = i
        · subst q; simpa using c
        · exact e j (by omega) (by omega)
      · intro e j h1 h2
        exact e j (by omega) (by omega)
theorem rest_eq {P : Nat → Nat} {T X g : Nat} (h : okX P T X) : bs (dif X (wn P T g)) = rmv P (bs X) g := by
  funext i
  unfold bs rmv dif wn
  rw [orB_bit, orB_bit]
  by_cases c : i < 8
  · rw [decide_eq_true c, Bool.true_and, Bool.true_and]
    by_cases x : X.testBit i = true
    · rw [h.2.1 i c x, Bool.true_and]
    · have x' : X.testBit i = false := by simpa using x
      show (X.testBit i && _) = (X.testBit i && _)
      rw [x']; rfl
  · show _ = (X.testBit i && _)
    rw [bit_hi h.1 (by omega), decide_eq_false c]; rfl
theorem rest_ok {P : Nat → Nat} {T X g : Nat} (h : okX P T X) (hg : g < 8) : okX P T (dif X (wn P T g)) := by
  refine ⟨orB_lt _ 8, fun i hi e => ?_, ?_⟩
  · unfold dif at e
    rw [orB_bit, decide_eq_true hi, Bool.true_and, Bool.and_eq_true] at e
    exact h.2.1 i hi e.1
  · rw [rest_eq h]
    exact PC_rmv h.2.2 hg
theorem rest_lt {P : Nat → Nat} {T X g : Nat} (h : okX P T X) (hg : g < 8) (hx : X.testBit g = true) : dif X (wn P T g) < X := by
  have e1 : dif X (wn P T g) = X &&& dif X (wn P T g) := by
    refine eq_bits (orB_lt _ 8) (Nat.lt_of_le_of_lt Nat.and_le_left h.1) (fun i hi => ?_)
    unfold dif
    rw [Nat.testBit_and, orB_bit, decide_eq_true hi, Bool.true_and]
    cases X.testBit i <;> rfl
  have e2 : dif X (wn P T g) ≤ X := by rw [e1]; exact Nat.and_le_left
  have e3 : dif X (wn P T g) ≠ X := fun e => by
    have := congrFun (rest_eq (g := g) h) g
    unfold bs rmv at this
    rw [e, hx, W_refl hg, Bool.not_true, Bool.and_false] at this
    exact absurd this (by decide)
  omega
theorem wg_l {P : Nat → Nat} {T X : Nat} {wins wi : Nat → Int32} (h : okX P T X) (hw : ∀ g, g < 8 → wi g = nI (wn P T g)) (hwi : ∀ Y, Y < X → okX P T Y → wins Y = if nim P (bs Y) = 0 then 0 else 1) : ∀ (k i n : Nat), i + k = 8 → k < n → L_X8_winningGlobe_2 wins wi (nI X) n (nI i) = some (ff (wp P X) k i) := by
  intro k
  induction k with
  | zero =>
    intro i n hi hn
    obtain ⟨n, rfl⟩ : ∃ a, n = a + 1 := ⟨n - 1, by omega⟩
    obtain rfl : i = 8 := by omega
    rw [L_X8_winningGlobe_2.eq_2, if_pos q_88]; rfl
  | succ k ih =>
    intro i n hi hn
    obtain ⟨n, rfl⟩ : ∃ a, n = a + 1 := ⟨n - 1, by omega⟩
    have hi8 : i < 8 := by omega
    have ih' := ih (i + 1) n (by omega) (by omega)
    rw [L_X8_winningGlobe_2.eq_2, if_neg (q_8n hi8), q_gin hi8 (by decide), q_cl (by omega), hw i hi8, q_andn h.1, show ((nI X >>> (nI i &&& 31)) &&& 1) = _ from q_bit ⟨X, h.1⟩ ⟨i, hi8⟩, nI_1, ih', ff]
    by_cases x : X.testBit i = true
    · have hr : dif X (wn P T i) < 256 := orB_lt _ 8
      have hlt := rest_lt h hi8 x
      rw [if_pos (by rw [if_pos x]), if_neg (nI_pos (by omega)), q_lit 256, q_ifle (by decide) (by omega), if_neg (by omega), q_gin hr (by decide), q_cl (by omega), hwi _ hlt (rest_ok h hi8), rest_eq h]
      by_cases z : nim P (rmv P (bs X) i) = 0
      · rw [if_pos z, if_pos rfl, if_pos (show wp P X i = true by unfold wp; rw [x, decide_eq_true z]; rfl)]
      · rw [if_neg z, if_neg (by decide), if_neg (show ¬ wp P X i = true by unfold wp; rw [decide_eq_false z, Bool.and_false]; decide)]
    · rw [if_neg (by rw [if_neg x]; decide), if_neg (show ¬ wp P X i = true by unfold wp; rw [show X.testBit i = false by simpa using x, Bool.false_and]; decide)]
theorem wg_any {X : Int32} {wins wi : Nat → Int32} : ∀ (k i n : Nat), i + k = 8 → k < n → ∃ r, L_X8_winningGlobe_2 wins wi X n (nI i) = some r := by
  intro k
  induction k with
  | zero =>
    intro i n hi hn
    obtain ⟨n, rfl⟩ : ∃ a, n = a + 1 := ⟨n - 1, by omega⟩
    obtain rfl : i = 8 := by omega
    exact ⟨-6, by rw [L_X8_winningGlobe_2.eq_2, if_pos q_88]⟩
  | succ k ih =>
    intro i n hi hn
    obtain ⟨n, rfl⟩ : ∃ a, n = a + 1 := ⟨n - 1, by omega⟩
    have hi8 : i < 8 := by omega
    obtain ⟨r, hr⟩ := ih (i + 1) n (by omega) (by omega)
    rw [L_X8_winningGlobe_2.eq_2, if_neg (q_8n hi8), q_gin hi8 (by decide), nI_1, hr]
    generalize X &&& (wi (Int32.toNatClampNeg (nI i)) ^^^ -1) = z
    split
    · rcases pk_ix z (n := 256) (by decide) with c | c | ⟨j, hj, rfl⟩
      · exact ⟨r, by rw [if_pos c]⟩
      · by_cases d : z < 0
        · exact ⟨r, by rw [if_pos d]⟩
        · exact ⟨r, by rw [if_neg d, if_pos (show (256 : Int32) ≤ z from c)]⟩
      · rw [if_neg (nI_pos (by omega)), q_lit 256, q_ifle (by decide) (by omega), if_neg (by omega), q_gin hj (by decide)]
        split
        · exact ⟨_, rfl⟩
        · exact ⟨_, rfl⟩
    · exact ⟨_, rfl⟩
theorem wp_none {P : Nat → Nat} {T X : Nat} (h : okX P T X) : ff (wp P X) 8 0 = -6 ↔ nim P (bs X) = 0 := by
  rw [ff_6 (by omega)]
  constructor
  · intro e
    refine Nat.eq_zero_of_not_pos (fun hp => ?_)
    obtain ⟨g, hg, h1, h2⟩ := nim_all h.2.2 hp
    have := e g (by omega) (by omega)
    unfold wp at this
    rw [show X.testBit g = true from h1, decide_eq_true h2] at this
    exact absurd this (by decide)
  · intro e j _ hj
    unfold wp
    by_cases x : X.testBit j = true
    · rw [decide_eq_false (fun z => nim_ne h.2.2 (show j < 8 by omega) x (by rw [z, e])), Bool.and_false]
    · rw [show X.testBit j = false by simpa using x]; rfl
theorem nar0 : vp_nar .boolean 0 = 0 := by decide +kernel
theorem nar1 : vp_nar .boolean 1 = 1 := by decide +kernel
theorem ft27 {inn : Nat → Int32} {P : Nat → Nat} {T : Nat} {wi : Nat → Int32} (hT : okX P T T) (hw : ∀ g, g < 8 → wi g = nI (wn P T g)) : ∀ (k X n : Nat) (wins : Nat → Int32), X + k = 256 → k < n → (∀ Y, Y < X → okX P T Y → wins Y = if nim P (bs Y) = 0 then 0 else 1) → ∃ wins2, L_X8_firstTaken_27 inn (nI T) n wins wi (nI X) = some (ff (wp P T) 8 0, wins2, wi) := by
  intro k
  induction k with
  | zero =>
    intro X n wins hX hn hwi
    obtain ⟨n, rfl⟩ : ∃ a, n = a + 1 := ⟨n - 1, by omega⟩
    obtain rfl : X = 256 := by omega
    refine ⟨wins, ?_⟩
    have e : f_X8_winningGlobe wins wi (nI T) = some (ff (wp P T) 8 0) := by
      unfold f_X8_winningGlobe
      exact wg_l hT hw (fun Y h1 h2 => hwi Y (by have := hT.1; omega) h2) 8 0 FU rfl (by have := q_FU; omega)
    rw [L_X8_firstTaken_27.eq_2, if_pos (show (256 : Int32) ≤ nI 256 by decide), e, q_bd1]
  | succ k ih =>
    intro X n wins hX hn hwi
    obtain ⟨n, rfl⟩ : ∃ a, n = a + 1 := ⟨n - 1, by omega⟩
    have hX8 : X < 256 := by omega
    obtain ⟨r, hr⟩ := wg_any (X := nI X) (wins := wins) (wi := wi) 8 0 FU rfl (by have := q_FU; omega)
    have e : f_X8_winningGlobe wins wi (nI X) = some r := hr
    rw [L_X8_firstTaken_27.eq_2, q_lit 256, q_ifle (by decide) (by omega), if_neg (by omega), e, q_bd1]
    have key : okX P T X → r = ff (wp P X) 8 0 := fun ho => by
      have := wg_l ho hw hwi 8 0 FU rfl (by have := q_FU; omega)
      exact Option.some.inj (hr.symm.trans this)
    have fin : ∀ b : Int32, (okX P T X → b = if nim P (bs X) = 0 then 0 else 1) → ∀ Y, Y < X + 1 → okX P T Y → upd wins X b Y = if nim P (bs Y) = 0 then 0 else 1 := by
      intro b hb Y hY ho
      by_cases c : Y = X
      · subst c
        rw [upd_g, hb ho]
      · rw [upd_n c]
        exact hwi Y (by omega) ho
    unfold B_X8_firstTaken_54
    rw [q_gin hX8 (by decide), q_gin hX8 (by decide), q_cl (by omega), nI_1, nar0, nar1]
    by_cases c : r = -6
    · rw [if_pos c]
      refine ih (X + 1) n _ (by omega) (by omega) (fin 0 (fun ho => ?_))
      rw [if_pos ((wp_none ho).mp ((key ho).symm.trans c))]
    · rw [if_neg c]
      refine ih (X + 1) n _ (by omega) (by omega) (fin 1 (fun ho => ?_))
      rw [if_neg (fun z => c ((key ho).trans ((wp_none ho).mpr z)))]
theorem ft2 {inn : Nat → Int32} {P : Nat → Nat} {T : Nat} (hT : okX P T T) (hp : ∀ x, x < 8 → T.testBit x = true → inn x = pX (P x) ∧ (P x < 8 → T.testBit (P x) = true)) (wins : Nat → Int32) : ∀ (k i n : Nat) (wi : Nat → Int32), i + k = 8 → k < n → (∀ g, g < i → wi g = nI (wn P T g)) → ∃ wins2 wi2, L_X8_firstTaken_2 inn (nI T) n wins wi (nI i) = some (ff (wp P T) 8 0, wins2, wi2) := by
  intro k
  induction k with
  | zero =>
    intro i n wi hi hn hw
    obtain ⟨n, rfl⟩ : ∃ a, n = a + 1 := ⟨n - 1, by omega⟩
    obtain rfl : i = 8 := by omega
    obtain ⟨w2, h2⟩ := ft27 (inn := inn) hT hw 256 0 FU wins rfl (by have := q_FU; omega) (fun Y h => absurd h (by omega))
    refine ⟨w2, wi, ?_⟩
    rw [L_X8_firstTaken_2.eq_2, if_pos q_88]
    exact h2
  | succ k ih =>
    intro i n wi hi hn hw
    obtain ⟨n, rfl⟩ : ∃ a, n = a + 1 := ⟨n - 1, by omega⟩
    have hi8 : i < 8 := by omega
    rw [L_X8_firstTaken_2.eq_2, if_neg (q_8n hi8), q_bitsWithin hT.1 hi8 hp, q_bd1, q_gin hi8 (by decide), q_cl (by omega), nI_1]
    refine ih (i + 1) n _ (by omega) (by omega) (fun g hg => ?_)
    by_cases c : g = i
    · subst c
      rw [upd_g]; rfl
    · rw [upd_n c]
      exact hw g (by omega)
theorem q_firstTaken {inn : Nat → Int32} {P : Nat → Nat} {T : Nat} (hT : okX P T T) (hp : ∀ x, x < 8 → T.testBit x = true → inn x = pX (P x) ∧ (P x < 8 → T.testBit (P x) = true)) (wins wi : Nat → Int32) : ∃ wins2 wi2, f_X8_firstTaken wins wi inn (nI T) = some (ff (wp P T) 8 0, wins2, wi2) := by
  unfold f_X8_firstTaken
  exact ft2 hT hp wins 8 0 FU wi rfl (by have := q_FU; omega) (fun g h => absurd h (by omega))
