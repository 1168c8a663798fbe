/-! pure: just, the reference; both -/
def sj (P : Nat → Nat) (A X i s0 j : Nat) : Nat := if A.testBit i && anyB (fun j => X.testBit j && win P 8 i j) j then s0 ||| 2 ^ i else s0
theorem just73 {bk now : Nat → Int32} {T A X i s0 : Nat} {P : Nat → Nat} {p1 p2 fa fw x4 : Int32} {rec49 : (Nat → Int32) → Int32 → Int32 → Int32 → Int32 → Int32 → Option (Int32 × (Nat → Int32) × Int32 × Int32)} {rec63 : (Nat → Int32) → Int32 → Int32 → Int32 → Int32 → Int32 → Int32 → Int32 → Option (Int32 × (Nat → Int32) × Int32 × Int32)} (hA : A < 256) (hX : X < 256) (hi : i < 8) (hAT : A.testBit i = true → T.testBit i = true) (hu : T.testBit i = true → 8 ≤ up P 8 i) (hp : ∀ x, x < 8 → T.testBit x = true → now (32 + x) = pM (P x) ∧ (P x < 8 → T.testBit (P x) = true)) : ∀ (k j n : Nat), j + k = 8 → k < n → L_X10_just_73 bk p1 p2 rec49 rec63 n now fa fw (nI A) x4 (nI X) (nI (sj P A X i s0 j)) (nI i) (nI j) = rec63 now fa fw (nI A) x4 (nI X) (nI (sj P A X i s0 8)) (nI (i + 1)) := by
  intro k
  induction k with
  | zero =>
    intro j n hj hn
    obtain ⟨n, rfl⟩ : ∃ a, n = a + 1 := ⟨n - 1, by omega⟩
    obtain rfl : j = 8 := by omega
    rw [L_X10_just_73.eq_2, if_pos q_88, nI_1]
  | succ k ih =>
    intro j n hj hn
    obtain ⟨n, rfl⟩ : ∃ a, n = a + 1 := ⟨n - 1, by omega⟩
    rw [L_X10_just_73.eq_2, if_neg (q_8n (by omega)), q_mhas hA hi, q_bd1, nI_1, q_or0, ← ih (j + 1) n (by omega) (by omega)]
    by_cases a : A.testBit i = true
    · rw [a, if_neg q_t0, q_mhas hX (by omega), q_bd1]
      by_cases x : X.testBit j = true
      · rw [x, if_neg q_t0, q_misWithin (by omega) hi (hAT a) (hu (hAT a)) hp, q_bd1]
        by_cases w : win P 8 i j = true
        · rw [w, if_neg q_t0, q_one hi, q_or]
          have e : sj P A X i s0 (j + 1) = s0 ||| 2 ^ i := by
            unfold sj
            rw [a, anyB, x, w]
            simp
          have e2 : sj P A X i s0 j ||| 2 ^ i = s0 ||| 2 ^ i := by
            unfold sj
            split
            · rw [Nat.or_assoc, Nat.or_self]
            · rfl
          rw [e, e2]
        · have w' : win P 8 i j = false := by simpa using w
          have e : sj P A X i s0 (j + 1) = sj P A X i s0 j := by
            unfold sj
            rw [anyB, w', Bool.and_false, Bool.or_false]
          rw [w', if_pos q_f0, e]
      · have x' : X.testBit j = false := by simpa using x
        have e : sj P A X i s0 (j + 1) = sj P A X i s0 j := by
          unfold sj
          rw [anyB, x', Bool.false_and, Bool.or_false]
        rw [x', if_pos q_f0, e]
    · have a' : A.testBit i = false := by simpa using a
      have e : sj P A X i s0 (j + 1) = sj P A X i s0 j := by
        unfold sj
        rw [a', Bool.false_and, Bool.false_and]
      rw [a', if_pos q_f0, e]
theorem just63 {bk now : Nat → Int32} {T A X S : Nat} {P : Nat → Nat} {p2 fa fw x4 : Int32} {rec49 : (Nat → Int32) → Int32 → Int32 → Int32 → Int32 → Int32 → Option (Int32 × (Nat → Int32) × Int32 × Int32)} (hA : A < 256) (hX : X < 256) (hS : S < 256) (hAT : ∀ i, i < 8 → A.testBit i = true → T.testBit i = true) (hu : ∀ i, i < 8 → T.testBit i = true → 8 ≤ up P 8 i) (hp : ∀ x, x < 8 → T.testBit x = true → now (32 + x) = pM (P x) ∧ (P x < 8 → T.testBit (P x) = true)) : ∀ (k i n : Nat), i + k = 8 → k < n → (cand P A S X → L_X10_just_63 bk (nI S) p2 rec49 n now fa fw (nI A) x4 (nI X) (nI (orB (cvb P A X) i)) (nI i) = B_X10_just_155 bk (nI S) p2 rec49 now fa fw (nI A) x4 (nI X) 1) ∧ (¬ cand P A S X → L_X10_just_63 bk (nI S) p2 rec49 n now fa fw (nI A) x4 (nI X) (nI (orB (cvb P A X) i)) (nI i) = rec49 now fa fw (nI A) x4 (nI (X + 1))) := by
  intro k
  induction k with
  | zero =>
    intro i n hi hn
    obtain ⟨n, rfl⟩ : ∃ a, n = a + 1 := ⟨n - 1, by omega⟩
    obtain rfl : i = 8 := by omega
    have hdl : dif X A < 2 ^ 31 := Nat.lt_of_lt_of_le (orB_lt _ 8) (by decide)
    have hcl : orB (cvb P A X) 8 < 2 ^ 31 := Nat.lt_of_lt_of_le (orB_lt _ 8) (by decide)
    have h0 : B_X10_just_154 bk (nI S) p2 rec49 now fa fw (nI A) x4 (nI X) = rec49 now fa fw (nI A) x4 (nI (X + 1)) := by
      unfold B_X10_just_154 B_X10_just_155
      rw [if_pos rfl, nI_1]
    rw [L_X10_just_63.eq_2, if_pos q_88, q_andn hX, h0, show (0 : Int32) = nI 0 from rfl, q_ife hdl (by decide), q_ife hcl (by omega)]
    unfold cand covN
    by_cases z : dif X A = 0
    · by_cases q : orB (cvb P A X) 8 = S
      · exact ⟨fun _ => by rw [if_pos z, if_pos q], fun h => absurd ⟨z, q⟩ h⟩
      · exact ⟨fun h => absurd h.2 q, fun _ => by rw [if_pos z, if_neg q]⟩
    · exact ⟨fun h => absurd h.1 z, fun _ => by rw [if_neg z]⟩
  | succ k ih =>
    intro i n hi hn
    obtain ⟨n, rfl⟩ : ∃ a, n = a + 1 := ⟨n - 1, by omega⟩
    have hi8 : i < 8 := by omega
    have h73 := just73 (bk := bk) (p1 := nI S) (p2 := p2) (fa := fa) (fw := fw) (x4 := x4) (s0 := orB (cvb P A X) i) (rec49 := rec49) (rec63 := L_X10_just_63 bk (nI S) p2 rec49 n) hA hX hi8 (hAT i hi8) (hu i hi8) hp 8 0 FU rfl (by have := q_FU; omega)
    have e0 : sj P A X i (orB (cvb P A X) i) 0 = orB (cvb P A X) i := by
      unfold sj
      rw [anyB, Bool.and_false]; rfl
    have e8 : sj P A X i (orB (cvb P A X) i) 8 = orB (cvb P A X) (i + 1) := rfl
    rw [e0, e8] at h73
    rw [L_X10_just_63.eq_2, if_neg (q_8n hi8), show L_X10_just_73 bk (nI S) p2 rec49 (L_X10_just_63 bk (nI S) p2 rec49 n) FU now fa fw (nI A) x4 (nI X) (nI (orB (cvb P A X) i)) (nI i) 0 = _ from h73]
    exact ih (i + 1) n (by omega) (by omega)
def jfin (p2 : Int32) (now : Nat → Int32) (fa fw : Int32) (R : Nat) : Option (Int32 × (Nat → Int32) × Int32 × Int32) := if p2 = 1 then some (nI R, now, fa, fw) else some (nI (pc8 R), now, fa, fw)
theorem just49_none {bk now : Nat → Int32} {T A S : Nat} {P : Nat → Nat} {p2 fa fw : Int32} (hA : A < 256) (hS : S < 256) (hAT : ∀ i, i < 8 → A.testBit i = true → T.testBit i = true) (hu : ∀ i, i < 8 → T.testBit i = true → 8 ≤ up P 8 i) (hp : ∀ x, x < 8 → T.testBit x = true → now (32 + x) = pM (P x) ∧ (P x < 8 → T.testBit (P x) = true)) (hno : ∀ X, X < 256 → ¬ cand P A S X) : ∀ (k X n : Nat), X + k = 256 → k < n → L_X10_just_49 bk (nI S) p2 n now fa fw (nI A) (-6) (nI X) = some (-6, now, fa, fw) := by
  intro k
  induction k with
  | zero =>
    intro X n hX hn
    obtain ⟨n, rfl⟩ : ∃ a, n = a + 1 := ⟨n - 1, by omega⟩
    obtain rfl : X = 256 := by omega
    rw [L_X10_just_49.eq_2, if_pos (show (256 : Int32) ≤ nI 256 by decide), if_pos (by decide)]
  | succ k ih =>
    intro X n hX hn
    obtain ⟨n, rfl⟩ : ∃ a, n = a + 1 := ⟨n - 1, by omega⟩
    have h63 := (just63 (bk := bk) (p2 := p2) (fa := fa) (fw := fw) (x4 := -6) (rec49 := L_X10_just_49 bk (nI S) p2 n) hA (show X < 256 by omega) hS hAT hu hp 8 0 FU rfl (by have := q_FU; omega)).2 (hno X (by omega))
    rw [L_X10_just_49.eq_2, q_lit 256, q_ifle (by decide) (by omega), if_neg (by omega), show L_X10_just_63 bk (nI S) p2 (L_X10_just_49 bk (nI S) p2 n) FU now fa fw (nI A) (-6) (nI X) 0 0 = _ from h63]
    exact ih (X + 1) n (by omega) (by omega)
theorem just49_some {bk now : Nat → Int32} {T A S R : Nat} {P : Nat → Nat} {p2 fa fw : Int32} (hA : A < 256) (hS : S < 256) (hR : R < 256) (hAT : ∀ i, i < 8 → A.testBit i = true → T.testBit i = true) (hu : ∀ i, i < 8 → T.testBit i = true → 8 ≤ up P 8 i) (hp : ∀ x, x < 8 → T.testBit x = true → now (32 + x) = pM (P x) ∧ (P x < 8 → T.testBit (P x) = true)) (hc : cand P A S R) (hmin : ∀ X, X < 256 → cand P A S X → X ≠ R → pc8 R < pc8 X) : ∀ (k X n : Nat) (x4 : Int32), X + k = 256 → k < n → ((X ≤ R ∧ (x4 = -6 ∨ ∃ b, b < 256 ∧ x4 = nI b ∧ pc8 R < pc8 b)) ∨ (R < X ∧ x4 = nI R)) → L_X10_just_49 bk (nI S) p2 n now fa fw (nI A) x4 (nI X) = jfin p2 now fa fw R := by
  have pcs : ∀ b, b < 256 → pc8 b ≤ 8 := fun b hb => by
    have h1 := pc8_sm ⟨b, hb⟩
    have h2 := sm_le (f := fun g => if b.testBit g then 1 else 0) (c := 1) (n := 8) (fun j _ => by show (if b.testBit j then 1 else 0) ≤ 1; split <;> omega)
    rw [h1]
    omega
  have bits : ∀ b, b < 256 → f_X10_bits (nI b) = some (nI (pc8 b)) := fun b hb => q_bits8 ⟨b, hb⟩
  intro k
  induction k with
  | zero =>
    intro X n x4 hX hn h
    obtain ⟨n, rfl⟩ : ∃ a, n = a + 1 := ⟨n - 1, by omega⟩
    obtain rfl : X = 256 := by omega
    rcases h with ⟨h, _⟩ | ⟨_, h⟩
    · exact absurd h (by omega)
    · rw [h, L_X10_just_49.eq_2, if_pos (show (256 : Int32) ≤ nI 256 by decide), if_neg (nI_pos (by omega)), bits R hR, q_bd1]
      rfl
  | succ k ih =>
    intro X n x4 hX hn h
    obtain ⟨n, rfl⟩ : ∃ a, n = a + 1 := ⟨n - 1, by omega⟩
    have hX8 : X < 256 := by omega
    have h63 := just63 (bk := bk) (p2 := p2) (fa := fa) (fw := fw) (x4 := x4) (rec49 := L_X10_just_49 bk (nI S) p2 n) hA hX8 hS hAT hu hp 8 0 FU rfl (by have := q_FU; omega)
    have e : L_X10_just_49 bk (nI S) p2 (n + 1) now fa fw (nI A) x4 (nI X) = L_X10_just_63 bk (nI S) p2 (L_X10_just_49 bk (nI S) p2 n) FU now fa fw (nI A) x4 (nI X) (nI (orB (cvb P A X) 0)) (nI 0) := by
      rw [L_X10_just_49.eq_2, q_lit 256, q_ifle (by decide) (by omega), if_neg (by omega)]
      rfl
    rw [e]
    by_cases q : cand P A S X
    · rw [h63.1 q]
      unfold B_X10_just_155
      rw [if_neg (show ¬ (1 : Int32) = 0 by decide), nI_1, bits X hX8, q_bd1]
      rcases h with ⟨h1, h2⟩ | ⟨h1, h2⟩
      · rcases h2 with h2 | ⟨b, hb, h2, h3⟩
        · rw [h2, if_pos (by decide)]
          by_cases r : X = R
          · exact ih (X + 1) n (nI X) (by omega) (by omega) (Or.inr ⟨by omega, by rw [r]⟩)
          · exact ih (X + 1) n (nI X) (by omega) (by omega) (Or.inl ⟨by omega, Or.inr ⟨X, hX8, rfl, hmin X hX8 q r⟩⟩)
        · have p1 := pcs X hX8
          have p2 := pcs b hb
          rw [h2, if_neg (nI_pos (by omega)), bits b hb, q_bd1, q_ifle (by omega) (by omega)]
          by_cases r : X = R
          · subst r
            rw [if_neg (by omega)]
            exact ih (X + 1) n (nI X) (by omega) (by omega) (Or.inr ⟨by omega, rfl⟩)
          · by_cases l : pc8 b ≤ pc8 X
            · rw [if_pos l]
              exact ih (X + 1) n (nI b) (by omega) (by omega) (Or.inl ⟨by omega, Or.inr ⟨b, hb, rfl, h3⟩⟩)
            · rw [if_neg l]
              exact ih (X + 1) n (nI X) (by omega) (by omega) (Or.inl ⟨by omega, Or.inr ⟨X, hX8, rfl, hmin X hX8 q r⟩⟩)
      · have p1 := pcs X hX8
        have p2 := pcs R hR
        have p3 := hmin X hX8 q (by omega)
        rw [h2, if_neg (nI_pos (by omega)), bits R hR, q_bd1, q_ifle (by omega) (by omega), if_pos (by omega)]
        exact ih (X + 1) n (nI R) (by omega) (by omega) (Or.inr ⟨by omega, rfl⟩)
    · rw [h63.2 q]
      refine ih (X + 1) n x4 (by omega) (by omega) ?_
      rcases h with ⟨h1, h2⟩ | ⟨h1, h2⟩
      · refine Or.inl ⟨?_, h2⟩
        have : X ≠ R := fun e => q (by rw [e]; exact hc)
        omega
      · exact Or.inr ⟨by omega, h2⟩
theorem core_just {wat fla fly lea clo con inn : Nat → Int32} {th mu ta ho : Int32} {bk flk lek : Nat → Int32} {mus : Int32} (h : SH wat fla fly lea clo con inn th mu ta ho bk flk lek mus) (now : Nat → Int32) (fa fw y1 y2 : Int32) : ∃ (r : Int32) (now2 : Nat → Int32) (fa2 fw2 : Int32), f_X9_just wat inn th y1 y2 = some r ∧ f_X10_just bk now fa fw y1 y2 = some (r, now2, fa2, fw2) := by
  unfold f_X9_just f_X10_just
  rcases q_upTo y1 255 (by omega) with ⟨a, b⟩ | ⟨S, hS, rfl, a, b⟩
  · exact ⟨-2, now, fa, fw, by rw [show f_X9_isUpTo y1 255 = _ from a, q_bd1, if_pos rfl], by rw [show f_X10_in y1 0 255 = _ from b, q_bd1, if_pos rfl]⟩
  rw [show f_X9_isUpTo (nI S) 255 = _ from a, show f_X10_in (nI S) 0 255 = _ from b, q_bd1, q_bd1, if_neg (show ¬ (1 : Int32) = 0 by decide), if_neg (show ¬ (1 : Int32) = 0 by decide)]
  rcases q_upTo y2 1 (by omega) with ⟨a, b⟩ | ⟨j, hj, rfl, a, b⟩
  · exact ⟨-2, now, fa, fw, by rw [show f_X9_isUpTo y2 1 = _ from a, q_bd1, if_pos rfl], by rw [show f_X10_in y2 0 1 = _ from b, q_bd1, if_pos rfl]⟩
  rw [show f_X9_isUpTo (nI j) 1 = _ from a, show f_X10_in (nI j) 0 1 = _ from b, q_bd1, q_bd1, if_neg (show ¬ (1 : Int32) = 0 by decide), if_neg (show ¬ (1 : Int32) = 0 by decide)]
  obtain ⟨now2, hnw, hno⟩ := asNow bk now fa fw
  have h' := SH_congr h hno
  obtain ⟨T, U, hr, W, F, V, K, C, Q, P, ⟨hT, hU, hhr⟩, ⟨e1, e2, e3⟩, ⟨m1, m2, m3, m4⟩, hok, hx, hm, hn⟩ := h'
  have hc : ∀ x, x < 8 → T.testBit x = true → P x < 8 → T.testBit (P x) = true := fun x a b => (hok x a b).2.2.2.2.2.2.1
  have hpx : ∀ x, x < 8 → T.testBit x = true → inn x = pX (P x) ∧ (P x < 8 → T.testBit (P x) = true) := fun x a b => ⟨(hx x a b).2.2.2.2.2.2, hc x a b⟩
  have hpm : ∀ x, x < 8 → T.testBit x = true → now2 (32 + x) = pM (P x) ∧ (P x < 8 → T.testBit (P x) = true) := fun x a b => ⟨(hm x a b).2.2.2.2.2.2, hc x a b⟩
  have hu : ∀ i, i < 8 → T.testBit i = true → 8 ≤ up P 8 i := fun i a b => (hok i a b).2.2.2.2.2.2.2
  have f1 := q_freeBits (wat := wat) (W := W) hT (fun g a b => ⟨(hx g a b).1, (hok g a b).1⟩)
  have f2 := q_freeOnes (now := now2) (W := W) hT m1 (fun g a b => ⟨(hm g a b).1, (hok g a b).1⟩)
  revert f1 f2
  generalize hD0 : orB (fun g => T.testBit g && W g == 0) 8 = D
  intro f1 f2
  have hD : D < 256 := by rw [← hD0]; exact orB_lt _ 8
  have hA : dif T D < 256 := orB_lt _ 8
  have hAT : ∀ i, i < 8 → (dif T D).testBit i = true → T.testBit i = true := fun i hi h => by
    unfold dif at h
    rw [orB_bit, decide_eq_true hi, Bool.true_and, Bool.and_eq_true] at h
    exact h.1
  have hR : rts P S < 256 := orB_lt _ 8
  rw [hnw, q_bd3, f2, q_bd1, q_40, m1, q_andn hT, e1]
  rcases q_shaken (S := S) hT hD (show S < 256 by omega) f1 hpx with ⟨c1, c2⟩ | ⟨c1, c2⟩
  · have hmin : ∀ X, X < 256 → cand P (dif T D) S X → X ≠ rts P S → pc8 (rts P S) < pc8 X := fun X hX hcX hne => pc8_lt hR hX (cand_uni (by omega) hAT hu hcX).1 (fun e => hne e.symm)
    have hM := just49_some (bk := bk) (p2 := nI j) (fa := -6) (fw := -6) hA (show S < 256 by omega) hR hAT hu hpm c1 hmin 256 0 FU (-6) rfl (by have := q_FU; omega) (Or.inl ⟨by omega, Or.inl rfl⟩)
    rw [show L_X10_just_49 bk (nI S) (nI j) FU now2 (-6) (-6) (nI (dif T D)) (-6) 0 = _ from hM, c2, q_bd1, if_neg (show ¬ nI (rts P S) = -6 from fun e => nI_pos (show rts P S < 2 ^ 31 by omega) (by rw [e]; decide))]
    unfold jfin
    obtain rfl | rfl : j = 0 ∨ j = 1 := by omega
    · refine ⟨nI (pc8 (rts P S)), now2, -6, -6, ?_, by rw [if_neg (by decide)]⟩
      rw [if_pos (by decide), q_bitCount8 ⟨rts P S, hR⟩, q_bd1]
    · exact ⟨nI (rts P S), now2, -6, -6, by rw [if_neg (by decide)], by rw [if_pos (by decide)]⟩
  · have hno : ∀ X, X < 256 → ¬ cand P (dif T D) S X := fun X hX hcX => c1 (cand_uni (by omega) hAT hu hcX).2
    have hM := just49_none (bk := bk) (p2 := nI j) (fa := -6) (fw := -6) hA (show S < 256 by omega) hAT hu hpm hno 256 0 FU rfl (by have := q_FU; omega)
    rw [show L_X10_just_49 bk (nI S) (nI j) FU now2 (-6) (-6) (nI (dif T D)) (-6) 0 = _ from hM, c2, q_bd1, if_pos rfl]
    exact ⟨-6, now2, -6, -6, rfl, rfl⟩
