/-! pure: any act, and who is free first -/
theorem q_bd2id {α β : Type} (x : Option (α × β)) : bd2 x (fun a b => some (a, b)) = x := by
  cases x <;> rfl
theorem act_deed {wat fla fly lea clo con inn : Nat → Int32} {th mu ta ho : Int32} {now flk lek : Nat → Int32} {mus o b : Int32} {g c : Nat} (hg : g < 8) (hc : deed c = true) (h : SH wat fla fly lea clo con inn th mu ta ho now flk lek mus) : ACT wat fla fly lea clo con inn th mu ta ho now flk lek mus (nI c) (nI g) o (f_X10_globeAct now flk (nI g) (nI c) b) := by
  unfold f_X10_globeAct
  simp only [q_bd2id]
  by_cases hd : 49 ≤ c ∧ c ≤ 57
  · have hne : ∀ a : Nat, a < 200 → a < 49 ∨ 57 < a → ¬ nI c = nI a := fun a ha e q => by
      have := (nI_eq (by omega) (by omega)).mp q
      omega
    have n35 : ¬ nI c = (35 : Int32) := hne 35 (by omega) (by omega)
    have n43 : ¬ nI c = (43 : Int32) := hne 43 (by omega) (by omega)
    have n47 : ¬ nI c = (47 : Int32) := hne 47 (by omega) (by omega)
    have n61 : ¬ nI c = (61 : Int32) := hne 61 (by omega) (by omega)
    have n62 : ¬ nI c = (62 : Int32) := hne 62 (by omega) (by omega)
    have n94 : ¬ nI c = (94 : Int32) := hne 94 (by omega) (by omega)
    rw [if_neg n35, if_neg n43, if_neg n47, if_neg n61, if_neg n62, if_neg n94, q_lit 48, q_subN (by omega)]
    have := act_shake (o := o) (hd := c - 48) hg (by omega) (by omega) h
    rw [show 48 + (c - 48) = c by omega] at this
    exact this
  · have hc' : c = 43 ∨ c = 61 ∨ c = 47 ∨ c = 94 ∨ c = 35 := by
      unfold deed at hc
      simp only [Bool.or_eq_true, Bool.and_eq_true, decide_eq_true_eq, beq_iff_eq] at hc
      omega
    rcases hc' with rfl | rfl | rfl | rfl | rfl
    · exact act_pour1 hg h
    · exact act_pour0 hg h
    · exact act_cloth hg h
    · exact act_shelf hg h
    · exact act_drop hg h
theorem act_gt {wat fla fly lea clo con inn : Nat → Int32} {th mu ta ho : Int32} {now flk lek : Nat → Int32} {mus : Int32} {g o : Nat} (hg : g < 8) (hoo : o < 8) (h : SH wat fla fly lea clo con inn th mu ta ho now flk lek mus) : ACT wat fla fly lea clo con inn th mu ta ho now flk lek mus (nI 62) (nI g) (nI o) (f_X10_globeAct now flk (nI g) (nI 62) (nI (65 + o))) := by
  unfold f_X10_globeAct
  simp only [q_bd2id]
  rw [if_neg (by decide), if_neg (by decide), if_neg (by decide), if_neg (by decide), if_pos (by decide), q_lit 65, q_subN (by omega), show 65 + o - 65 = o by omega]
  exact act_move hg hoo h
def lowb (D : Nat) : Nat := (List.range 8).findIdx (fun g => D.testBit g)
theorem lowb8 : ∀ (D : Fin 256) (i : Fin 8), D.val.testBit i.val = true → (∀ j : Fin 8, j.val < i.val → D.val.testBit j.val = false) → lowb D.val = i.val := by decide +kernel
theorem lowb_lt : ∀ (D : Fin 256), ¬ D.val = 0 → lowb D.val < 8 := by decide +kernel
theorem zero8 {D : Nat} (hD : D < 256) (h : ∀ j, j < 8 → D.testBit j = false) : D = 0 := by
  apply Nat.eq_of_testBit_eq
  intro j
  rw [Nat.zero_testBit]
  by_cases hj : j < 8
  · exact h j hj
  · exact Nat.testBit_lt_two_pow (Nat.lt_of_lt_of_le hD (by rw [show 256 = 2 ^ 8 from rfl]; exact Nat.pow_le_pow_right (by decide) (by omega)))
/-- who is free first: act and globe, behind one more act that freed D -/
def nfA (D a : Nat) (fa : Int32) : Int32 := if D = 0 then fa else if fa = -6 then nI a else fa
def nfW (D : Nat) (fa fw : Int32) : Int32 := if D = 0 then fw else if fa = -6 then nI (lowb D) else fw
theorem free_m {bk flk lek : Nat → Int32} {mus sn : Int32} {pd : Nat → Int32} {rec : (Nat → Int32) → Int32 → Int32 → Int32 → Int32 → Int32 → Option (Int32 × (Nat → Int32) × Int32 × Int32 × Int32 × Int32)} {now : Nat → Int32} {fw rs x1 : Int32} {D a : Nat} (hD : D < 256) (ha : a < 1000) : ∀ (k i N : Nat), i + k = 8 → k < N → (∀ j, j < i → D.testBit j = false) → L_X10_goReigns_135 bk flk lek mus sn pd rec N now (-6) fw rs (nI a) x1 (nI D) (nI i) = rec now (nfA D a (-6)) (nfW D (-6) fw) rs (nI (a + 1)) x1 := by
  intro k
  induction k with
  | zero =>
    intro i N hi hN hj
    obtain ⟨N, rfl⟩ : ∃ b, N = b + 1 := ⟨N - 1, by omega⟩
    obtain rfl : i = 8 := by omega
    rw [L_X10_goReigns_135.eq_2, if_pos q_88]
    unfold B_X10_goReigns_179 nfA nfW
    rw [if_pos (zero8 hD hj), if_pos (zero8 hD hj), nI_1]
  | succ k ih =>
    intro i N hi hN hj
    obtain ⟨N, rfl⟩ : ∃ b, N = b + 1 := ⟨N - 1, by omega⟩
    have hi8 : i < 8 := by omega
    rw [L_X10_goReigns_135.eq_2, if_neg (q_8n hi8), if_neg (by decide), q_mhas hD hi8, q_bd1, nI_1]
    by_cases c : D.testBit i = true
    · rw [c, if_neg q_t0]
      obtain ⟨N, rfl⟩ : ∃ b, N = b + 1 := ⟨N - 1, by omega⟩
      have hne : ¬ D = 0 := fun e => by rw [e, Nat.zero_testBit] at c; cases c
      have hlow : lowb D = i := lowb8 ⟨D, hD⟩ ⟨i, hi8⟩ c (fun j hji => hj j.val hji)
      have e2 : nfA D a (-6) = nI a := by unfold nfA; rw [if_neg hne, if_pos rfl]
      have e3 : nfW D (-6) fw = nI i := by unfold nfW; rw [if_neg hne, if_pos rfl, hlow]
      rw [L_X10_goReigns_135.eq_2, if_pos (nI_pos' (by omega)), e2, e3]
      unfold B_X10_goReigns_179
      rw [nI_1]
      split <;> rfl
    · have c' : D.testBit i = false := by simpa using c
      rw [c', if_pos q_f0]
      refine ih (i + 1) N (by omega) (by omega) (fun j hji => ?_)
      by_cases e : j = i
      · rw [e]; exact c'
      · exact hj j (by omega)
theorem free_m2 {bk flk lek : Nat → Int32} {mus sn : Int32} {pd : Nat → Int32} {rec : (Nat → Int32) → Int32 → Int32 → Int32 → Int32 → Int32 → Option (Int32 × (Nat → Int32) × Int32 × Int32 × Int32 × Int32)} {now : Nat → Int32} {fa fw rs x1 : Int32} {D a : Nat} (hD : D < 256) (ha : a < 1000) (hfa : fa = -6 ∨ ∃ k, k < 1000 ∧ fa = nI k) : L_X10_goReigns_135 bk flk lek mus sn pd rec FU now fa fw rs (nI a) x1 (nI D) 0 = rec now (nfA D a fa) (nfW D fa fw) rs (nI (a + 1)) x1 := by
  rcases hfa with rfl | ⟨k, hk, rfl⟩
  · exact free_m hD ha 8 0 FU rfl (by have := q_FU; omega) (fun j hj => absurd hj (by omega))
  · obtain ⟨m, hm⟩ : ∃ m, FU = m + 1 := ⟨2047, rfl⟩
    have hne : ¬ nI k = (-6 : Int32) := fun e => by
      have := nI_pos (n := k) (by omega)
      rw [e] at this
      exact this (by decide)
    rw [hm, L_X10_goReigns_135.eq_2, if_neg (by decide), if_pos (nI_pos' (by omega))]
    unfold B_X10_goReigns_179 nfA nfW
    rw [if_neg hne, if_neg hne, nI_1]
    split <;> rfl
/-- the free ones of a state that both share -/
theorem SH_free {wat fla fly lea clo con inn : Nat → Int32} {th mu ta ho : Int32} {now flk lek : Nat → Int32} {mus : Int32} (h : SH wat fla fly lea clo con inn th mu ta ho now flk lek mus) : ∃ D, D < 256 ∧ f_X6_freeBits wat th = some (nI D) ∧ f_X10_freeOnes now = some (nI D) := by
  obtain ⟨T, U, hr, W, F, V, K, C, Q, P, ⟨hT, hU, hhr⟩, ⟨e1, e2, e3⟩, ⟨m1, m2, m3, m4⟩, hok, hx, hm, hn⟩ := h
  refine ⟨_, orB_lt _ 8, ?_, q_freeOnes hT m1 (fun g a b => ⟨(hm g a b).1, (hok g a b).1⟩)⟩
  rw [e1]
  exact q_freeBits hT (fun g a b => ⟨(hx g a b).1, (hok g a b).1⟩)
theorem SH_snow {wat fla fly lea clo con inn : Nat → Int32} {th mu ta ho : Int32} {now flk lek : Nat → Int32} {mus : Int32} (h : SH wat fla fly lea clo con inn th mu ta ho now flk lek mus) : ∃ D, D < 256 ∧ f_X6_snowBits fly th = some (nI D) ∧ f_X10_snow now = some (nI D) := by
  obtain ⟨T, U, hr, W, F, V, K, C, Q, P, ⟨hT, hU, hhr⟩, ⟨e1, e2, e3⟩, ⟨m1, m2, m3, m4⟩, hok, hx, hm, hn⟩ := h
  have hv : ∀ g, g < 8 → T.testBit g = true → V g ≤ 99 := fun g a b => by
    have := hok g a b
    omega
  refine ⟨_, orB_lt _ 8, ?_, q_snow hT m1 (fun g a b => ⟨(hm g a b).2.2.1, hv g a b⟩)⟩
  rw [e1]
  exact q_snowBits hT (fun g a b => ⟨(hx g a b).2.2.1, hv g a b⟩)
theorem nfA_ok {D a : Nat} {fa : Int32} (ha : a < 1000) (h : fa = -6 ∨ ∃ k, k < 1000 ∧ fa = nI k) : nfA D a fa = -6 ∨ ∃ k, k < 1000 ∧ nfA D a fa = nI k := by
  unfold nfA
  split
  · exact h
  · split
    · exact Or.inr ⟨a, ha, rfl⟩
    · exact h
/-- one act, tried by both -/
theorem attempt_both {wat fla fly lea clo con inn : Nat → Int32} {th mu ta ho : Int32} {now flk lek : Nat → Int32} {mus act g o : Int32} {mres : Option (Int32 × (Nat → Int32))} {a : Nat} {fa fw : Int32} (ha : a < 1000) (hs : SH wat fla fly lea clo con inn th mu ta ho now flk lek mus) (h : ACT wat fla fly lea clo con inn th mu ta ho now flk lek mus act g o mres) :
    (∃ r : Nat, 1 ≤ r ∧ r ≤ 6 ∧ mres = some (nI r, now) ∧ f_X4_attempt wat fla fly lea clo con inn th mu ta ho (nI a) (-6) (-6) fa fw act g o = some (wat, fly, clo, con, inn, th, ta, ho, nI a, nI a, nI r, fa, fw)) ∨
    (∃ (wat' fly' clo' con' inn' : Nat → Int32) (th' ta' ho' : Int32) (now' : Nat → Int32) (D0 D1 : Nat), D0 < 256 ∧ D1 < 256 ∧ f_X10_freeOnes now = some (nI D0) ∧ f_X10_freeOnes now' = some (nI D1) ∧ mres = some (0, now') ∧ SH wat' fla fly' lea clo' con' inn' th' mu ta' ho' now' flk lek mus ∧ f_X4_attempt wat fla fly lea clo con inn th mu ta ho (nI a) (-6) (-6) fa fw act g o = some (wat', fly', clo', con', inn', th', ta', ho', nI (a + 1), -6, -6, nfA (dif D1 D0) a fa, nfW (dif D1 D0) fa fw)) := by
  rcases h with ⟨r, h1, h2, h3, h4⟩ | ⟨h1, wat', fly', clo', con', inn', th', ta', ho', now', h2, h3, h4⟩
  · left
    refine ⟨r, h1, h2, h4, ?_⟩
    unfold f_X4_attempt
    rw [h3, q_bd1, if_neg]
    intro e
    have := nI_pos (n := r) (by omega)
    rw [e] at this
    exact this (by decide)
  · right
    obtain ⟨D0, d1, d2, d3⟩ := SH_free hs
    obtain ⟨D1, f1, f2, f3⟩ := SH_free h4
    refine ⟨wat', fly', clo', con', inn', th', ta', ho', now', D0, D1, d1, f1, d3, f3, h3, h4, ?_⟩
    unfold f_X4_attempt B_X4_attempt_98
    rw [h1, q_bd1, if_pos rfl, d2, q_bd1, h2]
    simp only [bd8, Option.bind]
    rw [f2, q_bd1, q_andn f1, nI_1]
    have hD : dif D1 D0 < 256 := orB_lt _ 8
    unfold nfA nfW
    by_cases c : dif D1 D0 = 0
    · rw [if_pos c, if_pos c, if_pos]
      rw [c]; rfl
    · rw [if_neg c, if_neg c, if_neg (show ¬ nI (dif D1 D0) = (0 : Int32) from fun e => c ((nI_eq (by omega) (by decide)).mp (show nI (dif D1 D0) = nI 0 from e)))]
      by_cases e : fa = -6
      · rw [if_pos e, if_pos e, if_pos e, q_ntz8 ⟨_, hD⟩ c, q_bd1]; rfl
      · rw [if_neg e, if_neg e, if_neg e]
