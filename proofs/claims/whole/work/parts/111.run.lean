/-! pure: reigns, run by both -/
theorem q_nm6 {k : Nat} (h : k < 2 ^ 31) : ¬ nI k = (-6 : Int32) := fun e => by
  have := nI_pos h
  rw [e] at this
  exact this (by decide)
theorem fl_step {ch : Nat → Nat} {n k i s : Nat} (hi : i < 1000) (h : fl ch n (k + 1) i s = -6) : ns s (ch i) ≠ 3 ∧ fl ch n k (i + 1) (ns s (ch i)) = -6 := by
  rw [fl] at h
  by_cases c : ns s (ch i) = 3
  · rw [if_pos c] at h
    exact absurd h (q_nm6 (by omega))
  · rw [if_neg c] at h
    exact ⟨c, h⟩
theorem fl_end {ch : Nat → Nat} {n i s : Nat} (hn : n < 1000) (h : fl ch n 0 i s = -6) : s = 0 := by
  rw [fl] at h
  by_cases c : s = 0
  · exact c
  · rw [if_neg c] at h
    exact absurd h (q_nm6 (by omega))
theorem parse {ch : Nat → Nat} {n k i : Nat} (hn : n ≤ 60) (hik : i + (k + 1) = n) (h : fl ch n (k + 1) i 0 = -6) : (ch i = 46 ∧ fl ch n k (i + 1) 0 = -6) ∨ (∃ k2, k = k2 + 1 ∧ lett (ch i) = true ∧ ¬ ch i = 46 ∧ deed (ch (i + 1)) = true ∧ ¬ ch (i + 1) = 62 ∧ fl ch n k2 (i + 2) 0 = -6) ∨ (∃ k2, k = k2 + 2 ∧ lett (ch i) = true ∧ ¬ ch i = 46 ∧ ch (i + 1) = 62 ∧ lett (ch (i + 2)) = true ∧ fl ch n k2 (i + 3) 0 = -6) := by
  obtain ⟨h1, h2⟩ := fl_step (by omega) h
  by_cases c : ch i = 46
  · rw [show ns 0 (ch i) = 0 by unfold ns; rw [if_pos rfl, if_pos c]] at h2
    exact Or.inl ⟨c, h2⟩
  · have hl : lett (ch i) = true := by
      by_cases hl : lett (ch i) = true
      · exact hl
      · exact absurd (show ns 0 (ch i) = 3 by unfold ns; rw [if_pos rfl, if_neg c, if_neg hl]) h1
    rw [show ns 0 (ch i) = 1 by unfold ns; rw [if_pos rfl, if_neg c, if_pos hl]] at h2
    cases k with
    | zero => exact absurd (fl_end (by omega) h2) (by omega)
    | succ k =>
      obtain ⟨g1, g2⟩ := fl_step (by omega) h2
      by_cases c2 : ch (i + 1) = 62
      · rw [show ns 1 (ch (i + 1)) = 2 by unfold ns; rw [if_neg (by omega), if_pos rfl, if_pos c2]] at g2
        cases k with
        | zero => exact absurd (fl_end (by omega) g2) (by omega)
        | succ k =>
          obtain ⟨w1, w2⟩ := fl_step (by omega) g2
          have hl2 : lett (ch (i + 1 + 1)) = true := by
            by_cases hl2 : lett (ch (i + 1 + 1)) = true
            · exact hl2
            · exact absurd (show ns 2 (ch (i + 1 + 1)) = 3 by unfold ns; rw [if_neg (by omega), if_neg (by omega), if_neg hl2]) w1
          rw [show ns 2 (ch (i + 1 + 1)) = 0 by unfold ns; rw [if_neg (by omega), if_neg (by omega), if_pos hl2]] at w2
          exact Or.inr (Or.inr ⟨k, rfl, hl, c, c2, hl2, w2⟩)
      · have hd : deed (ch (i + 1)) = true := by
          by_cases hd : deed (ch (i + 1)) = true
          · exact hd
          · exact absurd (show ns 1 (ch (i + 1)) = 3 by unfold ns; rw [if_neg (by omega), if_pos rfl, if_neg c2, if_neg hd]) g1
        rw [show ns 1 (ch (i + 1)) = 0 by unfold ns; rw [if_neg (by omega), if_pos rfl, if_neg c2, if_pos hd]] at g2
        exact Or.inr (Or.inl ⟨k, rfl, hl, c, hd, c2, g2⟩)
theorem signAt_any {sg : Nat → Int32} {n i : Nat} (hn : n ≤ 60) (hi : i < 1000) : ∃ x, f_X1_signAt sg (nI n) (nI i) = some x ∧ (i < n → x = sg i) := by
  by_cases h : i < n
  · exact ⟨sg i, q_signAt h hn, fun _ => rfl⟩
  · refine ⟨-6, ?_, fun h2 => absurd h2 h⟩
    unfold f_X1_signAt
    rw [if_neg (nI_pos (by omega)), q_ifle (by omega) (by omega), if_pos (by omega)]
/-- what both have behind a reign -/
def RUN (wat fla fly lea clo con inn : Nat → Int32) (th mu ta ho ac bad rs fa fw : Int32) (act : Int32) (now flk lek : Nat → Int32) (mus rsM : Int32) : Prop :=
  SH wat fla fly lea clo con inn th mu ta ho now flk lek mus ∧ (fa = -6 ∨ ∃ k, k < 1000 ∧ fa = nI k) ∧ ((bad = -6 ∧ rs = -6 ∧ act = -6) ∨ ∃ b r : Nat, b < 1000 ∧ 1 ≤ r ∧ r ≤ 6 ∧ bad = nI b ∧ act = nI b ∧ rs = nI r ∧ rsM = nI r)
theorem b172 {sg : Nat → Int32} {z : Int32} {a1 a2 a3 a4 a5 a6 a7 : Nat → Int32} {b1 b2 b3 b4 : Int32} {wat fla fly lea clo con inn : Nat → Int32} {th mu ta ho ac bad rs fa fw : Int32} : B_X4_run_172 sg z a1 a2 a3 a4 a5 a6 a7 b1 b2 b3 b4 wat fla fly lea clo con inn th mu ta ho 0 ac bad rs fa fw = some ((if bad = -6 then 1 else 0), wat, fla, fly, lea, clo, con, inn, th, mu, ta, ho, 0, ac, bad, rs, fa, fw) := by
  unfold B_X4_run_172
  rw [if_pos (show (0 : Int32) = 0 from rfl)]
  by_cases c : bad = -6
  · rw [if_pos c, if_pos c]
  · rw [if_neg c, if_neg c]
theorem b172f {sg : Nat → Int32} {z : Int32} {a1 a2 a3 a4 a5 a6 a7 : Nat → Int32} {b1 b2 b3 b4 : Int32} {wat fla fly lea clo con inn : Nat → Int32} {th mu ta ho ac bad rs fa fw : Int32} : B_X4_run_172 sg z a1 a2 a3 a4 a5 a6 a7 b1 b2 b3 b4 wat fla fly lea clo con inn th mu ta ho 1 ac bad rs fa fw = some (0, wat, fla, fly, lea, clo, con, inn, th, mu, ta, ho, 1, ac, bad, rs, fa, fw) := by
  unfold B_X4_run_172
  rw [if_neg (show ¬ (1 : Int32) = 0 by decide)]
/-- with a fault nothing is run -/
theorem run_f {sg : Nat → Int32} {z : Int32} {a1 a2 a3 a4 a5 a6 a7 : Nat → Int32} {b1 b2 b3 b4 : Int32} {wat fla fly lea clo con inn : Nat → Int32} {th mu ta ho ac bad rs fa fw x3 x4 : Int32} (N : Nat) (hN : 0 < N) : L_X4_run_60 sg z a1 a2 a3 a4 a5 a6 a7 b1 b2 b3 b4 N wat fla fly lea clo con inn th mu ta ho 1 ac bad rs fa fw x3 x4 = some (0, wat, fla, fly, lea, clo, con, inn, th, mu, ta, ho, 1, ac, bad, rs, fa, fw) := by
  obtain ⟨N, rfl⟩ : ∃ b, N = b + 1 := ⟨N - 1, by omega⟩
  rw [L_X4_run_60.eq_2, if_neg (show ¬ (1 : Int32) = 0 by decide), ite_self, ite_self, b172f]
theorem run_l {sg mp : Nat → Int32} {ch : Nat → Nat} {n : Nat} {fla lea flk lek bk : Nat → Int32} {mu mus : Int32} {a1 a2 a3 a4 a5 a6 a7 : Nat → Int32} {b1 b2 b3 b4 : Int32} (hn : n ≤ 60) (hc : ∀ i, i < n → ch i < 127 ∧ sg i = nI (ch i) ∧ mp i = nI (ch i)) : ∀ (k i N M j : Nat) (wat fly clo con inn : Nat → Int32) (th ta ho fa fw : Int32) (now : Nat → Int32) (rsM : Int32), i + k = n → j ≤ i → k < N → k < M → fl ch n k i 0 = -6 → SH wat fla fly lea clo con inn th mu ta ho now flk lek mus → (fa = -6 ∨ ∃ k, k < 1000 ∧ fa = nI k) →
    ∃ (wat' fly' clo' con' inn' : Nat → Int32) (th' ta' ho' ac' bad' rs' fa' fw' act : Int32) (now' : Nat → Int32) (rsM' : Int32), L_X4_run_60 sg (nI n) a1 a2 a3 a4 a5 a6 a7 b1 b2 b3 b4 N wat fla fly lea clo con inn th mu ta ho 0 (nI j) (-6) (-6) fa fw (nI i) (nI j) = some ((if bad' = -6 then 1 else 0), wat', fla, fly', lea, clo', con', inn', th', mu, ta', ho', 0, ac', bad', rs', fa', fw') ∧ L_X10_goReigns_11 bk flk lek mus (nI n) mp M now fa fw rsM (nI j) (nI i) = some (act, now', fa', fw', rsM', ac') ∧ RUN wat' fla fly' lea clo' con' inn' th' mu ta' ho' ac' bad' rs' fa' fw' act now' flk lek mus rsM' := by
  intro k
  induction k using Nat.strongRecOn with
  | _ k ih =>
    intro i N M j wat fly clo con inn th ta ho fa fw now rsM hik hj hN hM hfl hs hfa
    obtain ⟨N, rfl⟩ : ∃ b, N = b + 1 := ⟨N - 1, by omega⟩
    obtain ⟨M, rfl⟩ : ∃ b, M = b + 1 := ⟨M - 1, by omega⟩
    rw [L_X4_run_60.eq_2, L_X10_goReigns_11.eq_2, q_ifle (by omega) (by omega), q_ifle (show n < 2 ^ 31 by omega) (by omega)]
    cases k with
    | zero =>
      rw [if_pos (show n ≤ i by omega), if_pos (show n ≤ i by omega)]
      refine ⟨wat, fly, clo, con, inn, th, ta, ho, nI j, -6, -6, fa, fw, -6, now, rsM, ?_, rfl, hs, hfa, Or.inl ⟨rfl, rfl, rfl⟩⟩
      rw [ite_self, b172]
    | succ k =>
      rw [if_neg (show ¬ n ≤ i by omega), if_neg (show ¬ n ≤ i by omega), q_lit 60, q_ifle (by decide) (by omega), if_neg (show ¬ 60 ≤ j by omega), if_pos (show (0 : Int32) = 0 from rfl), if_pos (show (-6 : Int32) = -6 from rfl), q_signAt (by omega) hn, q_bd1, q_cl (by omega)]
      simp only [q_gin (show i < 60 by omega) (show 60 < 2 ^ 31 by decide)]
      obtain ⟨c1, c2, c3⟩ := hc i (by omega)
      obtain ⟨xo, ho1, ho2⟩ := signAt_any (sg := sg) (n := n) (i := i + 2) hn (by omega)
      have e46 : ∀ {α : Type} (x y : α), (if nI (ch i) = (46 : Int32) then x else y) = if ch i = 46 then x else y := fun x y => q_ife (by omega) (by decide)
      simp only [c2, c3, e46]
      -- how one act ends the step
      have fin : ∀ (act g o : Int32) (mres : Option (Int32 × (Nat → Int32))) (d kk : Nat), kk ≤ k → i + d + kk = n → 1 ≤ d → ACT wat fla fly lea clo con inn th mu ta ho now flk lek mus act g o mres → fl ch n kk (i + d) 0 = -6 →
          ∃ (wat' fly' clo' con' inn' : Nat → Int32) (th' ta' ho' ac' bad' rs' fa' fw' act' : Int32) (now' : Nat → Int32) (rsM' : Int32),
            bd13 (f_X4_attempt wat fla fly lea clo con inn th mu ta ho (nI j) (-6) (-6) fa fw act g o) (fun w1 w2 w3 w4 w5 w6 w7 w8 w9 w10 w11 w12 w13 => L_X4_run_60 sg (nI n) a1 a2 a3 a4 a5 a6 a7 b1 b2 b3 b4 N w1 fla w2 lea w3 w4 w5 w6 mu w7 w8 0 w9 w10 w11 w12 w13 (nI (i + d)) (nI (j + 1))) = some ((if bad' = -6 then 1 else 0), wat', fla, fly', lea, clo', con', inn', th', mu, ta', ho', 0, ac', bad', rs', fa', fw') ∧
            bd1 (f_X10_freeOnes now) (fun had => bd2 mres (fun r u => B_X10_goReigns_110 bk flk lek mus (nI n) mp (L_X10_goReigns_11 bk flk lek mus (nI n) mp M) u fa fw r (nI j) (nI (i + d)) had)) = some (act', now', fa', fw', rsM', ac') ∧ RUN wat' fla fly' lea clo' con' inn' th' mu ta' ho' ac' bad' rs' fa' fw' act' now' flk lek mus rsM' := by
        intro act g o mres d kk hkk hd1 hd2 hact hfl2
        rcases attempt_both (a := j) (fa := fa) (fw := fw) (by omega) hs hact with ⟨r, r1, r2, r3, r4⟩ | ⟨wat', fly', clo', con', inn', th', ta', ho', now', D0, D1, d0, d1, f0, f1, r3, r4, r5⟩
        · refine ⟨wat, fly, clo, con, inn, th, ta, ho, nI j, nI j, nI r, fa, fw, nI j, now, nI r, ?_, ?_, hs, hfa, Or.inr ⟨j, r, by omega, r1, r2, rfl, rfl, rfl, rfl⟩⟩
          · rw [r4]
            simp only [bd13, Option.bind]
            obtain ⟨N, rfl⟩ : ∃ b, N = b + 1 := ⟨N - 1, by omega⟩
            rw [L_X4_run_60.eq_2, if_neg (q_nm6 (k := j) (by omega)), ite_self, ite_self, ite_self, b172]
          · obtain ⟨D0, d1, d2, d3⟩ := SH_free hs
            rw [d3, q_bd1, r3]
            simp only [bd2, Option.bind]
            unfold B_X10_goReigns_110
            rw [if_neg (nI_nle (by omega) (by omega))]
        · obtain ⟨w1, w2, w3, w4, w5, w6, w7, w8, w9, w10, w11, w12, w13, w14, w15, w16, q1, q2, q3⟩ := ih kk (by omega) (i + d) N M (j + 1) wat' fly' clo' con' inn' th' ta' ho' (nfA (dif D1 D0) j fa) (nfW (dif D1 D0) fa fw) now' 0 (by omega) (by omega) (by omega) (by omega) hfl2 r4 (nfA_ok (by omega) hfa)
          refine ⟨w1, w2, w3, w4, w5, w6, w7, w8, w9, w10, w11, w12, w13, w14, w15, w16, ?_, ?_, q3⟩
          · rw [r5]
            exact q1
          · rw [f0, q_bd1, r3]
            simp only [bd2, Option.bind]
            unfold B_X10_goReigns_110
            rw [if_pos (by decide), f1, q_bd1, q_andn d1, free_m2 (D := dif D1 D0) (a := j) (orB_lt _ 8) (by omega) hfa]
            exact q2
      have hlet : lett (ch i) = true → ∃ g, g < 8 ∧ nI (ch i) - 65 = nI g := fun hl => by
        unfold lett at hl
        simp only [Bool.and_eq_true, decide_eq_true_eq] at hl
        exact ⟨ch i - 65, by omega, by rw [q_lit 65, q_subN (by omega)]⟩
      unfold B_X4_run_117
      have e1' : nI i + (1 : Int32) = nI (i + 1) := nI_1 i
      have e2' : nI i + (2 : Int32) = nI (i + 2) := nI_add i 2
      have e3' : nI i + (3 : Int32) = nI (i + 3) := nI_add i 3
      have ej : nI j + (1 : Int32) = nI (j + 1) := nI_1 j
      simp only [e1', e2', e3', ej, ho1, q_bd1, e46]
      rcases parse hn hik hfl with ⟨p1, p2⟩ | ⟨k2, rfl, p1, p0, p2, p3, p4⟩ | ⟨k2, rfl, p1, p0, p2, p3, p4⟩
      · rw [if_pos p1]
        simp only [if_pos p1]
        have := fin (nI (ch i)) (nI (ch i) - 65) (xo - 65) _ 1 k (by omega) (by omega) (by omega) (by rw [p1]; exact act_hour hs) p2
        exact this
      · obtain ⟨d1, d2, d3⟩ := hc (i + 1) (by omega)
        obtain ⟨g, hg, eg⟩ := hlet p1
        have e62 : ∀ {α : Type} (x y : α), (if nI (ch (i + 1)) = (62 : Int32) then x else y) = y := fun x y => by
          rw [q_lit 62, q_ife (by omega) (by decide), if_neg p3]
        rw [if_neg p0]
        simp only [if_neg p0, q_signAt (show i + 1 < n by omega) hn, q_bd1, d2, e62, eg, q_gin (show i + 1 < 60 by omega) (show 60 < 2 ^ 31 by decide), q_cl (show i + 1 < 2 ^ 31 by omega), d3]
        unfold B_X10_goReigns_89 B_X10_goReigns_108
        simp only [e62, e2']
        exact fin (nI (ch (i + 1))) (nI g) (xo - 65) _ 2 k2 (by omega) (by omega) (by omega) (act_deed hg p2 hs) p4
      · obtain ⟨d1, d2, d3⟩ := hc (i + 1) (by omega)
        obtain ⟨f1, f2, f3⟩ := hc (i + 2) (by omega)
        obtain ⟨g, hg, eg⟩ := hlet p1
        obtain ⟨o, ho', eo, eo2⟩ : ∃ o, o < 8 ∧ nI (ch (i + 2)) - 65 = nI o ∧ nI (ch (i + 2)) = nI (65 + o) := by
          unfold lett at p3
          simp only [Bool.and_eq_true, decide_eq_true_eq] at p3
          exact ⟨ch (i + 2) - 65, by omega, by rw [q_lit 65, q_subN (by omega)], by congr 1; omega⟩
        have exo : xo = nI (ch (i + 2)) := by rw [ho2 (by omega), f2]
        have e62 : ∀ {α : Type} (x y : α), (if nI 62 = (62 : Int32) then x else y) = x := fun x y => if_pos rfl
        rw [if_neg p0]
        rw [p2] at d2 d3
        simp only [if_neg p0, q_signAt (show i + 1 < n by omega) hn, q_bd1, d2, e62, eg, q_gin (show i + 1 < 60 by omega) (show 60 < 2 ^ 31 by decide), q_gin (show i + 2 < 60 by omega) (show 60 < 2 ^ 31 by decide), q_cl (show i + 1 < 2 ^ 31 by omega), q_cl (show i + 2 < 2 ^ 31 by omega), d3, f3, exo, eo]
        unfold B_X10_goReigns_89 B_X10_goReigns_108
        simp only [e62, e3']
        have := fin (nI 62) (nI g) (nI o) _ 3 k2 (by omega) (by omega) (by omega) (act_gt hg ho' hs) p4
        rw [← eo2] at this
        exact this
