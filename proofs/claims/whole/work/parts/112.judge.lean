/-! pure: judge, done, behind, then -/
theorem SH_congrX {wat fla fly lea clo con inn wat' fla' fly' lea' clo' con' inn' : Nat → Int32} {th mu ta ho : Int32} {bk flk lek : Nat → Int32} {mus : Int32} (h : SH wat fla fly lea clo con inn th mu ta ho bk flk lek mus) (h1 : ∀ j, j < 8 → wat' j = wat j) (h2 : ∀ j, j < 8 → fla' j = fla j) (h3 : ∀ j, j < 8 → fly' j = fly j) (h4 : ∀ j, j < 8 → lea' j = lea j) (h5 : ∀ j, j < 8 → clo' j = clo j) (h6 : ∀ j, j < 8 → con' j = con j) (h7 : ∀ j, j < 8 → inn' j = inn j) : SH wat' fla' fly' lea' clo' con' inn' th mu ta ho bk flk lek mus := by
  obtain ⟨T, U, hr, W, F, V, K, C, Q, P, hT, e, m, hok, hx, hm, hn⟩ := h
  refine ⟨T, U, hr, W, F, V, K, C, Q, P, hT, e, m, hok, fun g hg ht => ?_, hm, hn⟩
  rw [h1 g hg, h2 g hg, h3 g hg, h4 g hg, h5 g hg, h6 g hg, h7 g hg]
  exact hx g hg ht
theorem q_cpy {f g : Nat → Int32} {j : Nat} (h : j < 8) : va_cpy f g (Int32.toNatClampNeg 0) (Int32.toNatClampNeg 0) (Int32.toNatClampNeg 8) j = f j := by
  rw [show Int32.toNatClampNeg (0 : Int32) = 0 from rfl, show Int32.toNatClampNeg (8 : Int32) = 8 from rfl, pk_cpy_in (by omega) (by omega)]
  congr 1
  omega
/-- a shelf is copied -/
theorem takeFrom_both {wat fla fly lea clo con inn : Nat → Int32} {th mu ta ho : Int32} {bk flk lek : Nat → Int32} {mus : Int32} (w1 w2 w3 w4 w5 w6 w7 : Nat → Int32) (w8 w9 w10 w11 : Int32) (h : SH wat fla fly lea clo con inn th mu ta ho bk flk lek mus) : ∃ wat' fla' fly' lea' clo' con' inn' : Nat → Int32, f_X6_takeFrom w1 w2 w3 w4 w5 w6 w7 w8 w9 w10 w11 wat fla fly lea clo con inn th mu ta ho = some (wat', fla', fly', lea', clo', con', inn', th, mu, ta, ho) ∧ SH wat' fla' fly' lea' clo' con' inn' th mu ta ho bk flk lek mus := by
  refine ⟨_, _, _, _, _, _, _, rfl, ?_⟩
  exact SH_congrX h (fun j hj => q_cpy hj) (fun j hj => q_cpy hj) (fun j hj => q_cpy hj) (fun j hj => q_cpy hj) (fun j hj => q_cpy hj) (fun j hj => q_cpy hj) (fun j hj => q_cpy hj)
theorem q_bd11r {a1 a2 a3 a4 a5 a6 a7 a8 a9 a10 a11 β : Type} (z1 : a1) (z2 : a2) (z3 : a3) (z4 : a4) (z5 : a5) (z6 : a6) (z7 : a7) (z8 : a8) (z9 : a9) (z10 : a10) (z11 : a11) (k : a1 → a2 → a3 → a4 → a5 → a6 → a7 → a8 → a9 → a10 → a11 → Option β) : bd11 (some (z1, z2, z3, z4, z5, z6, z7, z8, z9, z10, z11)) k = k z1 z2 z3 z4 z5 z6 z7 z8 z9 z10 z11 := rfl
theorem q_bd18r {a1 a2 a3 a4 a5 a6 a7 a8 a9 a10 a11 a12 a13 a14 a15 a16 a17 a18 β : Type} (z1 : a1) (z2 : a2) (z3 : a3) (z4 : a4) (z5 : a5) (z6 : a6) (z7 : a7) (z8 : a8) (z9 : a9) (z10 : a10) (z11 : a11) (z12 : a12) (z13 : a13) (z14 : a14) (z15 : a15) (z16 : a16) (z17 : a17) (z18 : a18) (k : a1 → a2 → a3 → a4 → a5 → a6 → a7 → a8 → a9 → a10 → a11 → a12 → a13 → a14 → a15 → a16 → a17 → a18 → Option β) : bd18 (some (z1, z2, z3, z4, z5, z6, z7, z8, z9, z10, z11, z12, z13, z14, z15, z16, z17, z18)) k = k z1 z2 z3 z4 z5 z6 z7 z8 z9 z10 z11 z12 z13 z14 z15 z16 z17 z18 := rfl
theorem q_gbl0 {α : Type} (k : Option α) : gbl 0 k = k := by unfold gbl; rw [if_pos (Or.inl rfl)]
theorem q_gbl1 {α : Type} (k : Option α) : gbl 1 k = k := by unfold gbl; rw [if_pos (Or.inr rfl)]
/-- a pad with a fault: nothing is run -/
theorem run_fault {sg : Nat → Int32} {n k : Nat} {wat fla fly lea clo con inn : Nat → Int32} {th mu ta ho : Int32} {bk flk lek : Nat → Int32} {mus : Int32} (hf : f_X1_faultPlace sg (nI n) = some (nI k)) (hk : k < 1000) (h : SH wat fla fly lea clo con inn th mu ta ho bk flk lek mus) (w1 w2 w3 w4 w5 w6 w7 : Nat → Int32) (w8 w9 w10 w11 w12 w13 w14 w15 w16 w17 : Int32) : ∃ (x1 x2 x3 x4 x5 x6 x7 : Nat → Int32) (x8 x9 x10 x11 x13 x14 x15 x16 x17 : Int32), f_X4_run w1 w2 w3 w4 w5 w6 w7 w8 w9 w10 w11 w12 w13 w14 w15 w16 w17 sg (nI n) wat fla fly lea clo con inn th mu ta ho = some (0, x1, x2, x3, x4, x5, x6, x7, x8, x9, x10, x11, 1, x13, x14, x15, x16, x17) := by
  obtain ⟨x1, x2, x3, x4, x5, x6, x7, ht, hs⟩ := takeFrom_both w1 w2 w3 w4 w5 w6 w7 w8 w9 w10 w11 h
  unfold f_X4_run
  rw [ht, q_bd11r, hf, q_bd1, if_neg (q_nm6 (k := k) (by omega))]
  unfold B_X4_run_23
  rw [q_gbl1, run_f FU (by have := q_FU; omega)]
  exact ⟨_, _, _, _, _, _, _, _, _, _, _, _, _, _, _, _, rfl⟩
theorem run_both {sg mp : Nat → Int32} {ch : Nat → Nat} {n : Nat} {wat fla fly lea clo con inn : Nat → Int32} {th mu ta ho : Int32} {bk flk lek : Nat → Int32} {mus : Int32} (hn : n ≤ 60) (hc : ∀ i, i < n → ch i < 127 ∧ sg i = nI (ch i) ∧ mp i = nI (ch i)) (hfl : fl ch n n 0 0 = -6) (h : SH wat fla fly lea clo con inn th mu ta ho bk flk lek mus) (w1 w2 w3 w4 w5 w6 w7 : Nat → Int32) (w8 w9 w10 w11 w12 w13 w14 w15 w16 w17 : Int32) (now : Nat → Int32) (v1 v2 v3 v4 : Int32) : ∃ (wat' fla' fly' lea' clo' con' inn' : Nat → Int32) (th' mu' ta' ho' ac' bad' rs' fa' fw' act : Int32) (now' : Nat → Int32) (rsM' : Int32), f_X4_run w1 w2 w3 w4 w5 w6 w7 w8 w9 w10 w11 w12 w13 w14 w15 w16 w17 sg (nI n) wat fla fly lea clo con inn th mu ta ho = some ((if bad' = -6 then 1 else 0), wat', fla', fly', lea', clo', con', inn', th', mu', ta', ho', 0, ac', bad', rs', fa', fw') ∧ f_X10_goReigns bk now flk lek mus (nI n) mp v1 v2 v3 v4 = some (act, now', fa', fw', rsM', ac') ∧ RUN wat' fla' fly' lea' clo' con' inn' th' mu' ta' ho' ac' bad' rs' fa' fw' act now' flk lek mus rsM' := by
  obtain ⟨x1, x2, x3, x4, x5, x6, x7, ht, hs⟩ := takeFrom_both w1 w2 w3 w4 w5 w6 w7 w8 w9 w10 w11 h
  obtain ⟨now1, ha, hnow⟩ := asNow bk now v1 v2
  have hs' := SH_congr hs hnow
  obtain ⟨y1, y2, y3, y4, y5, y6, y7, y8, y9, y10, y11, y12, y13, y14, y15, y16, q1, q2, q3⟩ := run_l (a1 := wat) (a2 := fla) (a3 := fly) (a4 := lea) (a5 := clo) (a6 := con) (a7 := inn) (b1 := th) (b2 := mu) (b3 := ta) (b4 := ho) (bk := bk) hn hc n 0 FU FU 0 x1 x3 x5 x6 x7 th ta ho (-6) (-6) now1 v3 (by omega) (by omega) (by have := q_FU; omega) (by have := q_FU; omega) hfl hs' (Or.inl rfl)
  refine ⟨y1, x2, y2, x4, y3, y4, y5, y6, mu, y7, y8, y9, y10, y11, y12, y13, y14, y15, y16, ?_, ?_, q3⟩
  · unfold f_X4_run
    rw [ht, q_bd11r, (fault_both hn hc).1, q_bd1, hfl, if_pos (show (-6 : Int32) = -6 from rfl)]
    unfold B_X4_run_23
    rw [q_gbl0]
    exact q1
  · unfold f_X10_goReigns
    rw [ha]
    exact q2
theorem fl_val {ch : Nat → Nat} {n : Nat} : ∀ (k i s : Nat), i + k = n → fl ch n k i s = -6 ∨ ∃ j, j ≤ n ∧ fl ch n k i s = nI j
  | 0, i, s, h => by
    rw [fl]
    split
    · exact Or.inl rfl
    · exact Or.inr ⟨n, by omega, rfl⟩
  | k + 1, i, s, h => by
    rw [fl]
    split
    · exact Or.inr ⟨i, by omega, rfl⟩
    · exact fl_val k (i + 1) _ (by omega)
theorem core_judge {wat fla fly lea clo con inn : Nat → Int32} {th mu ta ho : Int32} {bk flk lek : Nat → Int32} {mus : Int32} {sg mp : Nat → Int32} {sz msz : Int32} (h : SH wat fla fly lea clo con inn th mu ta ho bk flk lek mus) (hp : PADR sg sz msz mp) (w1 w2 w3 w4 w5 w6 w7 : Nat → Int32) (w8 w9 w10 w11 w12 w13 w14 w15 w16 w17 : Int32) (now : Nat → Int32) (v1 v2 v3 v4 y : Int32) : ∃ (r : Int32) (x1 x2 x3 x4 x5 x6 x7 : Nat → Int32) (x8 x9 x10 x11 x12 x13 x14 x15 x16 x17 : Int32) (now' : Nat → Int32) (u1 u2 u3 u4 : Int32), f_X9_judge wat fla fly lea clo con inn th mu ta ho sg sz w1 w2 w3 w4 w5 w6 w7 w8 w9 w10 w11 w12 w13 w14 w15 w16 w17 y = some (r, x1, x2, x3, x4, x5, x6, x7, x8, x9, x10, x11, x12, x13, x14, x15, x16, x17) ∧ f_X10_judge bk now flk lek mus msz mp v1 v2 v3 v4 y = some (r, now', u1, u2, u3, u4) := by
  unfold f_X9_judge f_X10_judge
  rw [q_lit 1]
  rcases q_upTo y 1 (by omega) with ⟨a, b⟩ | ⟨j, hj, rfl, a, b⟩
  · rw [a, b]
    exact ⟨_, _, _, _, _, _, _, _, _, _, _, _, _, _, _, _, _, _, _, _, _, _, _, rfl, rfl⟩
  · rw [a, b, q_bd1, q_bd1, if_neg (show ¬ (1 : Int32) = 0 by decide), if_neg (show ¬ (1 : Int32) = 0 by decide)]
    obtain ⟨n, ch, hn, e1, e2, hc⟩ := pad_ch hp
    obtain ⟨f1, f2⟩ := fault_both hn hc
    rw [e1, e2, f2, q_bd1]
    rcases fl_val (ch := ch) (n := n) n 0 0 (by omega) with hfl | ⟨k, hk, hfl⟩
    · obtain ⟨z1, z2, z3, z4, z5, z6, z7, z8, z9, z10, z11, z12, z13, z14, z15, z16, act, now', rsM, r1, r2, -, -, r4⟩ := run_both hn hc hfl h w1 w2 w3 w4 w5 w6 w7 w8 w9 w10 w11 w12 w13 w14 w15 w16 w17 now v1 v2 v3 v4
      rw [hfl, if_pos (by decide), r1, r2, q_bd18r, if_pos (show (0 : Int32) = 0 from rfl)]
      simp only [bd6, Option.bind]
      rcases r4 with ⟨b1, b2, b3⟩ | ⟨b, r, hb, hr1, hr2, b1, b2, b3, b4⟩
      · rw [b3, if_pos (show (-6 : Int32) < 0 by decide)]
        rw [b1, b2, ite_self]
        exact ⟨_, _, _, _, _, _, _, _, _, _, _, _, _, _, _, _, _, _, _, _, _, _, _, rfl, rfl⟩
      · rw [b2, if_neg (nI_pos (by omega)), b1, b3, b4]
        by_cases c : nI j = (0 : Int32)
        · rw [if_pos c, if_pos c]
          exact ⟨_, _, _, _, _, _, _, _, _, _, _, _, _, _, _, _, _, _, _, _, _, _, _, rfl, rfl⟩
        · rw [if_neg c, if_neg c]
          exact ⟨_, _, _, _, _, _, _, _, _, _, _, _, _, _, _, _, _, _, _, _, _, _, _, rfl, rfl⟩
    · obtain ⟨x1, x2, x3, x4, x5, x6, x7, x8, x9, x10, x11, x13, x14, x15, x16, x17, r1⟩ := run_fault (by rw [f1, hfl]) (by omega) h w1 w2 w3 w4 w5 w6 w7 w8 w9 w10 w11 w12 w13 w14 w15 w16 w17
      rw [hfl, if_neg (nI_pos (by omega)), r1, q_bd18r, if_neg (show ¬ (1 : Int32) = 0 by decide)]
      exact ⟨_, _, _, _, _, _, _, _, _, _, _, _, _, _, _, _, _, _, _, _, _, _, _, rfl, rfl⟩
/-- whether reigns can be done, asked of both -/
theorem bar_both {wat fla fly lea clo con inn : Nat → Int32} {th mu ta ho : Int32} {bk flk lek : Nat → Int32} {mus : Int32} {sg mp : Nat → Int32} {sz msz : Int32} (h : SH wat fla fly lea clo con inn th mu ta ho bk flk lek mus) (hp : PADR sg sz msz mp) (w1 w2 w3 w4 w5 w6 w7 : Nat → Int32) (w8 w9 w10 w11 w12 w13 w14 w15 w16 w17 : Int32) (now : Nat → Int32) (v1 v2 v3 v4 : Int32) : ∃ (rX rM : Int32) (x1 x2 x3 x4 x5 x6 x7 : Nat → Int32) (x8 x9 x10 x11 x12 x13 x14 x15 x16 x17 : Int32) (now' : Nat → Int32) (u1 u2 u3 u4 : Int32), f_X4_run w1 w2 w3 w4 w5 w6 w7 w8 w9 w10 w11 w12 w13 w14 w15 w16 w17 sg sz wat fla fly lea clo con inn th mu ta ho = some (rX, x1, x2, x3, x4, x5, x6, x7, x8, x9, x10, x11, x12, x13, x14, x15, x16, x17) ∧ f_X10_barOfReigns bk now flk lek mus msz mp v1 v2 v3 v4 = some (rM, now', u1, u2, u3, u4) ∧ ((rX = 0 ∧ rM = -5) ∨ (rX = 1 ∧ rM = 0 ∧ SH x1 x2 x3 x4 x5 x6 x7 x8 x9 x10 x11 now' flk lek mus ∧ x13 = u4 ∧ x16 = u1 ∧ x17 = u2)) := by
  unfold f_X10_barOfReigns
  obtain ⟨n, ch, hn, e1, e2, hc⟩ := pad_ch hp
  obtain ⟨f1, f2⟩ := fault_both hn hc
  rw [e1, e2, f2, q_bd1]
  rcases fl_val (ch := ch) (n := n) n 0 0 (by omega) with hfl | ⟨k, hk, hfl⟩
  · obtain ⟨z1, z2, z3, z4, z5, z6, z7, z8, z9, z10, z11, z12, z13, z14, z15, z16, act, now', rsM, r1, r2, r3, -, r4⟩ := run_both hn hc hfl h w1 w2 w3 w4 w5 w6 w7 w8 w9 w10 w11 w12 w13 w14 w15 w16 w17 now v1 v2 v3 v4
    rw [hfl, if_neg (by decide), r2, r1]
    simp only [bd6, Option.bind]
    rcases r4 with ⟨b1, b2, b3⟩ | ⟨b, r, hb, hr1, hr2, b1, b2, b3, b4⟩
    · rw [b3, if_pos (show (-6 : Int32) < 0 by decide), b1, if_pos (show (-6 : Int32) = -6 from rfl)]
      exact ⟨_, _, _, _, _, _, _, _, _, _, _, _, _, _, _, _, _, _, _, _, _, _, _, _, rfl, rfl, Or.inr ⟨rfl, rfl, r3, rfl, rfl, rfl⟩⟩
    · rw [b2, if_neg (nI_pos (by omega)), b1, if_neg (q_nm6 (k := b) (by omega))]
      exact ⟨_, _, _, _, _, _, _, _, _, _, _, _, _, _, _, _, _, _, _, _, _, _, _, _, rfl, rfl, Or.inl ⟨rfl, rfl⟩⟩
  · obtain ⟨x1, x2, x3, x4, x5, x6, x7, x8, x9, x10, x11, x13, x14, x15, x16, x17, r1⟩ := run_fault (by rw [f1, hfl]) (by omega) h w1 w2 w3 w4 w5 w6 w7 w8 w9 w10 w11 w12 w13 w14 w15 w16 w17
    rw [hfl, if_pos (nI_pos' (by omega)), r1]
    exact ⟨_, _, _, _, _, _, _, _, _, _, _, _, _, _, _, _, _, _, _, _, _, _, _, _, rfl, rfl, Or.inl ⟨rfl, rfl⟩⟩
theorem core_then {wat fla fly lea clo con inn : Nat → Int32} {th mu ta ho : Int32} {bk flk lek : Nat → Int32} {mus : Int32} {sg mp : Nat → Int32} {sz msz : Int32} (h : SH wat fla fly lea clo con inn th mu ta ho bk flk lek mus) (hp : PADR sg sz msz mp) (w1 w2 w3 w4 w5 w6 w7 : Nat → Int32) (w8 w9 w10 w11 w12 w13 w14 w15 w16 w17 : Int32) (now : Nat → Int32) (v1 v2 v3 v4 y : Int32) : ∃ (r : Int32) (x1 x2 x3 x4 x5 x6 x7 : Nat → Int32) (x8 x9 x10 x11 x12 x13 x14 x15 x16 x17 : Int32) (now' : Nat → Int32) (u1 u2 u3 u4 : Int32), f_X9_then wat fla fly lea clo con inn th mu ta ho sg sz w1 w2 w3 w4 w5 w6 w7 w8 w9 w10 w11 w12 w13 w14 w15 w16 w17 y = some (r, x1, x2, x3, x4, x5, x6, x7, x8, x9, x10, x11, x12, x13, x14, x15, x16, x17) ∧ f_X10_then bk now flk lek mus msz mp v1 v2 v3 v4 y = some (r, now', u1, u2, u3, u4) := by
  unfold f_X9_then f_X10_then
  rw [q_lit 5]
  rcases q_upTo y 5 (by omega) with ⟨a, b⟩ | ⟨j, hj, rfl, a, b⟩
  · rw [a, b]
    exact ⟨_, _, _, _, _, _, _, _, _, _, _, _, _, _, _, _, _, _, _, _, _, _, _, rfl, rfl⟩
  · rw [a, b, q_bd1, q_bd1, if_neg (show ¬ (1 : Int32) = 0 by decide), if_neg (show ¬ (1 : Int32) = 0 by decide)]
    obtain ⟨rX, rM, x1, x2, x3, x4, x5, x6, x7, x8, x9, x10, x11, x12, x13, x14, x15, x16, x17, now', u1, u2, u3, u4, r1, r2, r3⟩ := bar_both h hp w1 w2 w3 w4 w5 w6 w7 w8 w9 w10 w11 w12 w13 w14 w15 w16 w17 now v1 v2 v3 v4
    rw [r1, r2]
    simp only [bd18, bd6, Option.bind]
    rcases r3 with ⟨rfl, rfl⟩ | ⟨rfl, rfl, hs, rfl, rfl, rfl⟩
    · rw [if_pos rfl, if_neg (by decide)]
      exact ⟨_, _, _, _, _, _, _, _, _, _, _, _, _, _, _, _, _, _, _, _, _, _, _, rfl, rfl⟩
    · rw [if_neg (show ¬ (1 : Int32) = 0 by decide), if_pos (show (0 : Int32) ≤ 0 by decide)]
      obtain ⟨D, -, d1, d2⟩ := SH_snow hs
      obtain ⟨E, -, g1, g2⟩ := SH_free hs
      rw [d1, d2, g1, g2]
      simp only [q_bd1]
      have h41 : now' 41 = x10 ∧ now' 42 = x11 := by
        obtain ⟨T, U, hr, W, F, V, K, C, Q, P, -, ⟨-, -, e3⟩, ⟨-, -, m3, m4⟩, -⟩ := hs
        exact ⟨m4, by rw [m3, e3]⟩
      rcases (show j = 0 ∨ j = 1 ∨ j = 2 ∨ j = 3 ∨ j = 4 ∨ j = 5 by omega) with rfl | rfl | rfl | rfl | rfl | rfl
      · exact ⟨_, _, _, _, _, _, _, _, _, _, _, _, _, _, _, _, _, _, _, _, _, _, _, rfl, rfl⟩
      · exact ⟨_, _, _, _, _, _, _, _, _, _, _, _, _, _, _, _, _, _, _, _, _, _, _, rfl, rfl⟩
      · rw [show (39 : Int32) + nI 2 = nI 41 from rfl, q_gin (by decide) (by decide), q_cl (by decide), h41.1]
        exact ⟨_, _, _, _, _, _, _, _, _, _, _, _, _, _, _, _, _, _, _, _, _, _, _, rfl, rfl⟩
      · rw [show (39 : Int32) + nI 3 = nI 42 from rfl, q_gin (by decide) (by decide), q_cl (by decide), h41.2]
        exact ⟨_, _, _, _, _, _, _, _, _, _, _, _, _, _, _, _, _, _, _, _, _, _, _, rfl, rfl⟩
      · exact ⟨_, _, _, _, _, _, _, _, _, _, _, _, _, _, _, _, _, _, _, _, _, _, _, rfl, rfl⟩
      · exact ⟨_, _, _, _, _, _, _, _, _, _, _, _, _, _, _, _, _, _, _, _, _, _, _, rfl, rfl⟩
theorem copyBack_l {fla lea : Nat → Int32} {mu : Int32} {pd now : Nat → Int32} {sn u1 u2 u3 u4 : Int32} : ∀ (k i N : Nat) (bk : Nat → Int32), i + k = 43 → k < N → (∀ j, j < i → bk j = now j) → ∃ bk' : Nat → Int32, L_X10_done_12 fla lea mu pd N bk now sn u1 u2 u3 u4 (nI i) = some (u4, bk', now, 0, u1, u2, u3, u4) ∧ ∀ j, j < 43 → bk' j = now j := by
  intro k
  induction k with
  | zero =>
    intro i N bk hi hN h
    obtain ⟨N, rfl⟩ : ∃ a, N = a + 1 := ⟨N - 1, by omega⟩
    obtain rfl : i = 43 := by omega
    exact ⟨bk, by rw [L_X10_done_12.eq_2, if_pos (by decide)], h⟩
  | succ k ih =>
    intro i N bk hi hN h
    obtain ⟨N, rfl⟩ : ∃ a, N = a + 1 := ⟨N - 1, by omega⟩
    rw [L_X10_done_12.eq_2, q_lit 43, q_ifle (by decide) (by omega), if_neg (by omega), q_gin (by omega) (by decide), q_gin (by omega) (by decide), q_cl (by omega), nI_1]
    refine ih (i + 1) N _ (by omega) (by omega) (fun j hj => ?_)
    by_cases e : j = i
    · rw [e, upd_g]
    · rw [upd_n e]
      exact h j (by omega)
theorem core_done {wat fla fly lea clo con inn : Nat → Int32} {th mu ta ho : Int32} {bk flk lek : Nat → Int32} {mus : Int32} {sg mp : Nat → Int32} {sz msz : Int32} (h : SH wat fla fly lea clo con inn th mu ta ho bk flk lek mus) (hp : PADR sg sz msz mp) (w1 w2 w3 w4 w5 w6 w7 : Nat → Int32) (w8 w9 w10 w11 w12 w13 w14 w15 w16 w17 : Int32) (now : Nat → Int32) (v1 v2 v3 v4 : Int32) : ∃ (r : Int32) (s1 s2 s3 s4 s5 s6 s7 : Nat → Int32) (s8 s9 s10 s11 sz' : Int32) (x1 x2 x3 x4 x5 x6 x7 : Nat → Int32) (x8 x9 x10 x11 x12 x13 x14 x15 x16 x17 : Int32) (bk' now' : Nat → Int32) (msz' u1 u2 u3 u4 : Int32), f_X9_done wat fla fly lea clo con inn th mu ta ho sg sz w1 w2 w3 w4 w5 w6 w7 w8 w9 w10 w11 w12 w13 w14 w15 w16 w17 = some (r, s1, s2, s3, s4, s5, s6, s7, s8, s9, s10, s11, sz', x1, x2, x3, x4, x5, x6, x7, x8, x9, x10, x11, x12, x13, x14, x15, x16, x17) ∧ f_X10_done bk now flk lek mus msz mp v1 v2 v3 v4 = some (r, bk', now', msz', u1, u2, u3, u4) ∧ SH s1 s2 s3 s4 s5 s6 s7 s8 s9 s10 s11 bk' flk lek mus ∧ PADR sg sz' msz' mp := by
  unfold f_X9_done f_X10_done
  obtain ⟨rX, rM, x1, x2, x3, x4, x5, x6, x7, x8, x9, x10, x11, x12, x13, x14, x15, x16, x17, now', u1, u2, u3, u4, r1, r2, r3⟩ := bar_both h hp w1 w2 w3 w4 w5 w6 w7 w8 w9 w10 w11 w12 w13 w14 w15 w16 w17 now v1 v2 v3 v4
  rw [r1, r2]
  simp only [bd18, bd6, Option.bind]
  rcases r3 with ⟨rfl, rfl⟩ | ⟨rfl, rfl, hs, rfl, rfl, rfl⟩
  · rw [if_pos rfl, if_neg (by decide)]
    exact ⟨_, _, _, _, _, _, _, _, _, _, _, _, _, _, _, _, _, _, _, _, _, _, _, _, _, _, _, _, _, _, _, _, _, _, _, _, _, rfl, rfl, h, hp⟩
  · rw [if_neg (show ¬ (1 : Int32) = 0 by decide), if_pos (show (0 : Int32) ≤ 0 by decide)]
    obtain ⟨y1, y2, y3, y4, y5, y6, y7, t1, t2⟩ := takeFrom_both wat fla fly lea clo con inn th mu ta ho hs
    obtain ⟨bk', c1, c2⟩ := copyBack_l (fla := flk) (lea := lek) (mu := mus) (pd := mp) (now := now') (sn := msz) (u1 := x16) (u2 := x17) (u3 := u3) (u4 := x13) 43 0 FU bk rfl (by have := q_FU; omega) (fun j hj => absurd hj (by omega))
    rw [t1, show (0 : Int32) = nI 0 from rfl, c1]
    exact ⟨_, _, _, _, _, _, _, _, _, _, _, _, _, _, _, _, _, _, _, _, _, _, _, _, _, _, _, _, _, _, _, _, _, _, _, _, _, rfl, rfl, SH_congr t2 c2, 0, by omega, rfl, rfl, fun i hi => absurd hi (by omega)⟩
theorem core_behind {wat fla fly lea clo con inn : Nat → Int32} {th mu ta ho : Int32} {bk flk lek : Nat → Int32} {mus : Int32} {sg mp : Nat → Int32} {sz msz : Int32} (h : SH wat fla fly lea clo con inn th mu ta ho bk flk lek mus) (hp : PADR sg sz msz mp) (w1 w2 w3 w4 w5 w6 w7 : Nat → Int32) (w8 w9 w10 w11 w12 w13 w14 w15 w16 w17 : Int32) (now : Nat → Int32) (v1 v2 v3 v4 y1 y2 : Int32) : ∃ (r : Int32) (x1 x2 x3 x4 x5 x6 x7 : Nat → Int32) (x8 x9 x10 x11 x12 x13 x14 x15 x16 x17 : Int32) (now' : Nat → Int32) (u1 u2 u3 u4 : Int32), f_X9_behind wat fla fly lea clo con inn th mu ta ho sg sz w1 w2 w3 w4 w5 w6 w7 w8 w9 w10 w11 w12 w13 w14 w15 w16 w17 y1 y2 = some (r, x1, x2, x3, x4, x5, x6, x7, x8, x9, x10, x11, x12, x13, x14, x15, x16, x17) ∧ f_X10_behind bk now flk lek mus msz mp v1 v2 v3 v4 y1 y2 = some (r, now', u1, u2, u3, u4) := by
  unfold f_X9_behind f_X10_behind
  rcases q_ix y1 with c | c | ⟨g, hg, rfl⟩
  · rw [q_has_n c, q_isThere_n c]
    exact ⟨_, _, _, _, _, _, _, _, _, _, _, _, _, _, _, _, _, _, _, _, _, _, _, rfl, rfl⟩
  · rw [q_has_b c, q_isThere_b c]
    exact ⟨_, _, _, _, _, _, _, _, _, _, _, _, _, _, _, _, _, _, _, _, _, _, _, rfl, rfl⟩
  · obtain ⟨T, hT, e1, m1⟩ : ∃ T, T < 256 ∧ th = nI T ∧ bk 40 = nI T := by
      obtain ⟨T, U, hr, W, F, V, K, C, Q, P, ⟨hT, -⟩, ⟨e1, -⟩, ⟨m1, -⟩, -⟩ := h
      exact ⟨T, hT, e1, m1⟩
    by_cases ht : T.testBit g = true
    · rw [q_isThere hT hg m1, show f_X6_has th (nI g) = some (if T.testBit g then 1 else 0) by rw [e1]; exact q_has hT hg, ht, q_bd1, q_bd1, if_neg q_t0, if_neg q_t0, q_lit 3]
      rcases q_upTo y2 3 (by omega) with ⟨a, b⟩ | ⟨j, hj, rfl, a, b⟩
      · rw [a, b]
        exact ⟨_, _, _, _, _, _, _, _, _, _, _, _, _, _, _, _, _, _, _, _, _, _, _, rfl, rfl⟩
      · rw [a, b, q_bd1, q_bd1, if_neg (show ¬ (1 : Int32) = 0 by decide), if_neg (show ¬ (1 : Int32) = 0 by decide)]
        obtain ⟨rX, rM, x1, x2, x3, x4, x5, x6, x7, x8, x9, x10, x11, x12, x13, x14, x15, x16, x17, now', u1, u2, u3, u4, r1, r2, r3⟩ := bar_both h hp w1 w2 w3 w4 w5 w6 w7 w8 w9 w10 w11 w12 w13 w14 w15 w16 w17 now v1 v2 v3 v4
        rw [r1, r2]
        simp only [bd18, bd6, Option.bind]
        rcases r3 with ⟨rfl, rfl⟩ | ⟨rfl, rfl, hs, rfl, rfl, rfl⟩
        · rw [if_pos rfl, if_neg (by decide)]
          exact ⟨_, _, _, _, _, _, _, _, _, _, _, _, _, _, _, _, _, _, _, _, _, _, _, rfl, rfl⟩
        · rw [if_neg (show ¬ (1 : Int32) = 0 by decide), if_pos (show (0 : Int32) ≤ 0 by decide)]
          obtain ⟨T', U', hr', W, F, V, K, C, Q, P, ⟨hT', -⟩, ⟨e1', -⟩, ⟨m1', -⟩, -, hx, hm, -⟩ := hs
          rw [e1', q_has hT' hg, q_stands hT' hg m1', q_bd1, q_bd1]
          by_cases ht' : T'.testBit g = true
          · obtain ⟨b1, b2, b3, b4, b5, b6, b7⟩ := hx g hg ht'
            obtain ⟨n1, n2, n3, n4, n5, n6, n7⟩ := hm g hg ht'
            rw [ht', if_neg q_t0, if_neg q_t0]
            rcases (show j = 0 ∨ j = 1 ∨ j = 2 ∨ j = 3 by omega) with rfl | rfl | rfl | rfl
            · rw [q_gin hg (by decide), q_gin hg (by decide), q_gin hg (by decide), q_gin hg (by decide), q_cl (by omega), q_lit 8, q_add, q_gin (by omega) (by decide), q_cl (by omega), b3, n3]
              exact ⟨_, _, _, _, _, _, _, _, _, _, _, _, _, _, _, _, _, _, _, _, _, _, _, rfl, rfl⟩
            · rw [q_gin hg (by decide), q_gin hg (by decide), q_gin hg (by decide), q_gin hg (by decide), q_cl (by omega), q_gin (show g < 43 by omega) (by decide), b1, n1]
              exact ⟨_, _, _, _, _, _, _, _, _, _, _, _, _, _, _, _, _, _, _, _, _, _, _, rfl, rfl⟩
            · rw [q_gin hg (by decide), q_gin hg (by decide), q_gin hg (by decide), q_gin hg (by decide), q_cl (by omega), show (8 : Int32) * nI 2 = nI 16 from rfl, q_add, q_gin (show 16 + g < 43 by omega) (by decide), q_cl (show 16 + g < 2 ^ 31 by omega), b5, n5]
              exact ⟨_, _, _, _, _, _, _, _, _, _, _, _, _, _, _, _, _, _, _, _, _, _, _, rfl, rfl⟩
            · rw [q_gin hg (by decide), q_gin hg (by decide), q_gin hg (by decide), q_gin hg (by decide), q_cl (by omega), show (8 : Int32) * nI 3 = nI 24 from rfl, q_add, q_gin (show 24 + g < 43 by omega) (by decide), q_cl (show 24 + g < 2 ^ 31 by omega), b6, n6]
              exact ⟨_, _, _, _, _, _, _, _, _, _, _, _, _, _, _, _, _, _, _, _, _, _, _, rfl, rfl⟩
          · have ht'' : T'.testBit g = false := by simpa using ht'
            rw [ht'', if_pos q_f0, if_pos q_f0]
            exact ⟨_, _, _, _, _, _, _, _, _, _, _, _, _, _, _, _, _, _, _, _, _, _, _, rfl, rfl⟩
    · have ht' : T.testBit g = false := by simpa using ht
      rw [q_isThere hT hg m1, show f_X6_has th (nI g) = some (if T.testBit g then 1 else 0) by rw [e1]; exact q_has hT hg, ht']
      exact ⟨_, _, _, _, _, _, _, _, _, _, _, _, _, _, _, _, _, _, _, _, _, _, _, rfl, rfl⟩
