/-! pure: an hour -/
theorem q_jsub {a b : Nat} (ha : a < 2 ^ 30) (hb : b < 2 ^ 30) : jmax (0 : Int32) (nI a - nI b) = nI (a - b) := by
  by_cases h : a < b
  · unfold jmax
    have h1 := pk_sneg hb h
    rw [if_neg, show a - b = 0 by omega]
    · rfl
    · intro h2
      rw [Int32.lt_iff_toInt_lt] at h1 h2
      omega
  · rw [pk_sub (by omega), q_lit 0, q_jmax (by decide) (by omega), Nat.max_eq_right (by omega)]
theorem q_subN {a b : Nat} (h : b ≤ a) : nI a - nI b = nI (a - b) := pk_sub h
/-- how content it is behind an hour -/
def hq (U : Nat) (V Q : Nat → Nat) (i : Nat) : Nat := if V i = 0 then (if U.testBit i then Q i else Q i - 1) else min 9 (Q i + 1)
theorem hour_x {T U i hr : Nat} {W V K Q : Nat → Nat} {wat fly lea con : Nat → Int32} (hT : T < 256) (hU : U < 256) (hi : i < 8) (ht : T.testBit i = true) (x1 : wat i = nI (W i)) (x3 : fly i = nI (V i)) (x4 : lea i = nI (K i)) (x6 : con i = nI (Q i)) (k1 : W i ≤ 99) (k2 : V i ≤ 99) (k3 : K i ≤ 9) (k4 : Q i ≤ 9) (n : Nat) : ∃ wat' fly' con' : Nat → Int32, L_X6_passHour_2 lea (nI T) (nI U) (n + 1) wat fly con (nI hr) (nI i) = L_X6_passHour_2 lea (nI T) (nI U) n wat' fly' con' (nI hr) (nI (i + 1)) ∧ wat' i = nI (W i - K i) ∧ (∀ j, j ≠ i → wat' j = wat j) ∧ fly' i = nI (V i - 7) ∧ (∀ j, j ≠ i → fly' j = fly j) ∧ con' i = nI (hq U V Q i) ∧ (∀ j, j ≠ i → con' j = con j) := by
  rw [L_X6_passHour_2.eq_2]
  unfold B_X6_passHour_79
  rw [if_neg (q_8n hi), q_has hT hi, q_bd1, ht, if_neg (by decide), q_gin hi (by decide), q_gin hi (by decide), q_gin hi (by decide), q_gin hi (by decide), q_gin hi (by decide), q_gin hi (by decide), q_gin hi (by decide), q_gin hi (by decide), q_gin hi (by decide), q_gin hi (by decide), q_gin hi (by decide), q_gin hi (by decide), q_gin hi (by decide), q_gin hi (by decide), q_gin hi (by decide), q_gin hi (by decide), q_gin hi (by decide), q_gin hi (by decide), q_gin hi (by decide), q_gin hi (by decide), q_cl (by omega), x1, x3, x4, x6, nI_1, nI_1, q_bitN hU hi, q_jsub (by omega) (by omega), q_lit 7, q_jsub (by omega) (by omega), q_lit 1, q_jsub (by omega) (by omega), q_lit 9, q_jmin (by omega) (by omega), q_lit 0, q_ifle (by omega) (by omega)]
  unfold hq
  by_cases c : V i = 0
  · rw [if_pos (by omega), if_pos c]
    by_cases cu : U.testBit i = true
    · rw [cu, if_neg (by decide), if_pos rfl]
      exact ⟨_, _, _, rfl, upd_g _ _ _, fun j e => upd_n e, upd_g _ _ _, fun j e => upd_n e, x6, fun _ _ => rfl⟩
    · have cu' : U.testBit i = false := by simpa using cu
      rw [cu', if_pos (by decide), if_neg (by decide)]
      exact ⟨_, _, _, rfl, upd_g _ _ _, fun j e => upd_n e, upd_g _ _ _, fun j e => upd_n e, upd_g _ _ _, fun j e => upd_n e⟩
  · rw [if_neg (by omega), if_neg c]
    exact ⟨_, _, _, rfl, upd_g _ _ _, fun j e => upd_n e, upd_g _ _ _, fun j e => upd_n e, upd_g _ _ _, fun j e => upd_n e⟩
theorem hour_m1 {i : Nat} {W V K C Q : Nat → Nat} {P : Nat → Nat} {now lek : Nat → Int32} {mus : Int32} {rec : (Nat → Int32) → Int32 → Option (Int32 × (Nat → Int32))} (hi : i < 8) (n1 : now i = nI (W i)) (n4 : lek i = nI (K i)) (k1 : W i ≤ 99) (k3 : K i ≤ 9) : B_X10_endHour_179 lek mus rec now (nI i) = rec (upd now i (nI (W i - K i))) (nI (i + 1)) := by
  unfold B_X10_endHour_179 B_X10_endHour_216
  rw [q_gin (by omega) (by decide), q_gin (by omega) (by decide), q_gin (by omega) (by decide), q_gin (by omega) (by decide), q_gin (by omega) (by decide), q_gin (by omega) (by decide), q_cl (by omega), n1, n4, nI_1, q_ifle (by omega) (by omega)]
  by_cases c : W i ≤ K i
  · rw [if_pos c, q_subN (by omega), show W i - W i = W i - K i by omega]
  · rw [if_neg c, q_subN (by omega), q_gin (by omega) (by decide)]
theorem hour_m {T U i : Nat} {W V K C Q P : Nat → Nat} {now lek : Nat → Int32} (hT : T < 256) (hU : U < 256) (hi : i < 8) (ht : T.testBit i = true) (m1 : now 40 = nI T) (n1 : now i = nI (W i)) (n3 : now (8 + i) = nI (V i)) (n4 : lek i = nI (K i)) (n6 : now (24 + i) = nI (Q i)) (k1 : W i ≤ 99) (k2 : V i ≤ 99) (k3 : K i ≤ 9) (k4 : Q i ≤ 9) (m : Nat) : ∃ bk : Nat → Int32, L_X10_endHour_29 lek (nI U) (m + 1) now (nI i) = L_X10_endHour_29 lek (nI U) m bk (nI (i + 1)) ∧ bk i = nI (W i - K i) ∧ bk (8 + i) = nI (V i - 7) ∧ bk (24 + i) = nI (hq U V Q i) ∧ ∀ j, j ≠ i → j ≠ 8 + i → j ≠ 24 + i → bk j = now j := by
  have key : ∀ v : Nat, v = V i - 7 → ∀ f : Int32, (f = if V i = 0 then 0 else 1) → ∀ a b : Int32, a - b = nI v → ∃ bk : Nat → Int32, B_X10_endHour_99 lek (nI U) (L_X10_endHour_29 lek (nI U) m) now (nI i) f b a (nI (8 + i)) = L_X10_endHour_29 lek (nI U) m bk (nI (i + 1)) ∧ bk i = nI (W i - K i) ∧ bk (8 + i) = nI (V i - 7) ∧ bk (24 + i) = nI (hq U V Q i) ∧ ∀ j, j ≠ i → j ≠ 8 + i → j ≠ 24 + i → bk j = now j := by
    intro v hv f hf a b hab
    unfold B_X10_endHour_99 B_X10_endHour_177 B_X10_endHour_134
    rw [q_mhas hU hi, q_bd1, hab]
    have e24 : upd now (8 + i) (nI v) (24 + i) = nI (Q i) := by rw [upd_n (by omega)]; exact n6
    simp only [q_lit 24, q_add]
    rw [q_gin (by omega) (by decide), q_gin (by omega) (by decide), q_gin (by omega) (by decide), q_gin (by omega) (by decide), q_gin (by omega) (by decide), q_gin (by omega) (by decide), q_gin (by omega) (by decide), q_gin (by omega) (by decide), q_gin (by omega) (by decide), q_cl (by omega), q_cl (by omega), e24]
    unfold hq
    by_cases c : V i = 0
    · rw [hf, if_pos c, if_pos rfl, if_pos c]
      by_cases cu : U.testBit i = true
      · rw [cu, if_neg (by decide), if_pos rfl, hour_m1 (W := W) (V := V) (K := K) (C := C) (Q := Q) (P := P) hi (by rw [upd_n (by omega)]; exact n1) n4 k1 k3]
        refine ⟨_, rfl, upd_g _ _ _, by rw [upd_n (by omega), upd_g, hv], by rw [upd_n (by omega)]; exact e24, fun j a b c => by rw [upd_n a, upd_n b]⟩
      · have cu' : U.testBit i = false := by simpa using cu
        rw [cu', if_pos (by decide), if_neg (show ¬ false = true by decide), q_lit 0, q_ifle (by omega) (by omega), q_lit 1]
        have fin : ∀ w : Int32, w = nI (Q i - 1) → ∃ bk : Nat → Int32, B_X10_endHour_179 lek (nI U) (L_X10_endHour_29 lek (nI U) m) (upd (upd now (8 + i) (nI v)) (24 + i) w) (nI i) = L_X10_endHour_29 lek (nI U) m bk (nI (i + 1)) ∧ bk i = nI (W i - K i) ∧ bk (8 + i) = nI (V i - 7) ∧ bk (24 + i) = nI (Q i - 1) ∧ ∀ j, j ≠ i → j ≠ 8 + i → j ≠ 24 + i → bk j = now j := by
          intro w hw
          rw [hour_m1 (W := W) (V := V) (K := K) (C := C) (Q := Q) (P := P) hi (by rw [upd_n (by omega), upd_n (by omega)]; exact n1) n4 k1 k3]
          refine ⟨_, rfl, upd_g _ _ _, by rw [upd_n (by omega), upd_n (by omega), upd_g, hv], by rw [upd_n (by omega), upd_g, hw], fun j a b c => by rw [upd_n a, upd_n c, upd_n b]⟩
        by_cases cq : Q i ≤ 0
        · rw [if_pos cq, q_subN (by omega)]
          exact fin _ (by congr 1; omega)
        · rw [if_neg cq, q_subN (by omega)]
          exact fin _ rfl
    · rw [hf, if_neg c, if_neg (by decide), if_neg c, q_lit 9, q_ifle (by decide) (by omega), q_lit 0, q_lit 1, q_add, q_add]
      have fin : ∀ w : Int32, w = nI (min 9 (Q i + 1)) → ∃ bk : Nat → Int32, B_X10_endHour_179 lek (nI U) (L_X10_endHour_29 lek (nI U) m) (upd (upd now (8 + i) (nI v)) (24 + i) w) (nI i) = L_X10_endHour_29 lek (nI U) m bk (nI (i + 1)) ∧ bk i = nI (W i - K i) ∧ bk (8 + i) = nI (V i - 7) ∧ bk (24 + i) = nI (min 9 (Q i + 1)) ∧ ∀ j, j ≠ i → j ≠ 8 + i → j ≠ 24 + i → bk j = now j := by
        intro w hw
        rw [hour_m1 (W := W) (V := V) (K := K) (C := C) (Q := Q) (P := P) hi (by rw [upd_n (by omega), upd_n (by omega)]; exact n1) n4 k1 k3]
        refine ⟨_, rfl, upd_g _ _ _, by rw [upd_n (by omega), upd_n (by omega), upd_g, hv], by rw [upd_n (by omega), upd_g, hw], fun j a b c => by rw [upd_n a, upd_n c, upd_n b]⟩
      by_cases cq : 9 ≤ Q i
      · rw [if_pos cq]
        exact fin _ (by congr 1; omega)
      · rw [if_neg cq]
        exact fin _ (by congr 1; omega)
  rw [L_X10_endHour_29.eq_2, if_neg (q_8n hi), q_stands hT hi m1, q_bd1, ht, if_neg (by decide), q_lit 8, q_add, q_gin (by omega) (by decide), q_cl (by omega), n3, q_lit 0, q_ifle (by omega) (by omega), q_lit 1]
  have hb : ∀ f : Int32, (f = if V i = 0 then 0 else 1) → ∃ bk : Nat → Int32, B_X10_endHour_60 lek (nI U) (L_X10_endHour_29 lek (nI U) m) now (nI i) f = L_X10_endHour_29 lek (nI U) m bk (nI (i + 1)) ∧ bk i = nI (W i - K i) ∧ bk (8 + i) = nI (V i - 7) ∧ bk (24 + i) = nI (hq U V Q i) ∧ ∀ j, j ≠ i → j ≠ 8 + i → j ≠ 24 + i → bk j = now j := by
    intro f hf
    unfold B_X10_endHour_60
    rw [q_lit 8, q_add, q_gin (by omega) (by decide), q_gin (by omega) (by decide), q_gin (by omega) (by decide), q_cl (by omega), n3, q_lit 7, q_ifle (by omega) (by omega)]
    by_cases c7 : V i ≤ 7
    · rw [if_pos c7]
      exact key (V i - V i) (by omega) f hf _ _ (q_subN (by omega))
    · rw [if_neg c7]
      exact key (V i - 7) rfl f hf _ _ (q_subN (by omega))
  by_cases c : V i ≤ 0
  · rw [if_pos c]
    exact hb _ (by rw [if_pos (by omega)]; rfl)
  · rw [if_neg c]
    exact hb _ (by rw [if_neg (by omega)]; rfl)
theorem hq_le {U i : Nat} {V Q : Nat → Nat} (h : Q i ≤ 9) : hq U V Q i ≤ 9 := by
  unfold hq
  split
  · split <;> omega
  · omega
theorem hour_l {T U hr : Nat} {F K C P : Nat → Nat} {fla lea clo inn : Nat → Int32} {th mu ta : Int32} {flk lek : Nat → Int32} {mus : Int32} : ∀ (k i n m : Nat) (W V Q : Nat → Nat) (wat fly con now : Nat → Int32), i + k = 8 → k < n → k < m → SZ T U (hr + 1) W F V K C Q P wat fla fly lea clo con inn th mu ta (nI (hr + 1)) now flk lek mus → ∃ (W' V' Q' : Nat → Nat) (wat' fly' con' now' : Nat → Int32), L_X6_passHour_2 lea th mu n wat fly con (nI hr) (nI i) = some (wat', fly', con', nI (hr + 1)) ∧ L_X10_endHour_29 lek mus m now (nI i) = some (0, now') ∧ SZ T U (hr + 1) W' F V' K C Q' P wat' fla fly' lea clo con' inn th mu ta (nI (hr + 1)) now' flk lek mus := by
  intro k
  induction k with
  | zero =>
    intro i n m W V Q wat fly con now hi hn hm h
    obtain ⟨n, rfl⟩ : ∃ a, n = a + 1 := ⟨n - 1, by omega⟩
    obtain ⟨m, rfl⟩ : ∃ a, m = a + 1 := ⟨m - 1, by omega⟩
    obtain rfl : i = 8 := by omega
    refine ⟨W, V, Q, wat, fly, con, now, ?_, ?_, h⟩
    · rw [L_X6_passHour_2.eq_2, if_pos q_88, nI_1]
    · rw [L_X10_endHour_29.eq_2, if_pos q_88]
  | succ k ih =>
    intro i n m W V Q wat fly con now hi hn hm h
    obtain ⟨n, rfl⟩ : ∃ a, n = a + 1 := ⟨n - 1, by omega⟩
    obtain ⟨m, rfl⟩ : ∃ a, m = a + 1 := ⟨m - 1, by omega⟩
    obtain ⟨⟨hT, hU, hhr⟩, ⟨e1, e2, e3⟩, ⟨m1, m2, m3, m4⟩, hok, hx, hmm, hnn⟩ := id h
    have hi8 : i < 8 := by omega
    by_cases ht : T.testBit i = true
    · obtain ⟨x1, x2, x3, x4, x5, x6, x7⟩ := hx i hi8 ht
      obtain ⟨n1, n2, n3, n4, n5, n6, n7⟩ := hmm i hi8 ht
      obtain ⟨k1, k2, k3, k4, k5, k6, k7, k8⟩ := hok i hi8 ht
      obtain ⟨wat', fly', con', r0, r1, r1n, r2, r2n, r3, r3n⟩ := hour_x (hr := hr) hT hU hi8 ht x1 x3 x4 x6 k1 (by omega) k4 k6 n
      obtain ⟨bk, s0, s1, s2, s3, sn⟩ := hour_m (C := C) (P := P) hT hU hi8 ht m1 n1 n3 n4 n6 k1 (by omega) k4 k6 m
      have hz := SZ_one h hi8 (W i - K i) (V i - 7) (C i) (hq U V Q i) (P i) (by omega) (by omega) k5 (hq_le k6) k7 (up_same (fun g a b => (hok g a b).2.2.2.2.2.2.2)) r1 r1n r2 r2n x5 (fun _ _ => rfl) r3 r3n x7 (fun _ _ => rfl) s1 s2 (by rw [sn (16 + i) (by omega) (by omega) (by omega)]; exact n5) s3 (by rw [sn (32 + i) (by omega) (by omega) (by omega)]; exact n7) (fun j a b c d f => sn j a b d) ht
      rw [st_same, st_same] at hz
      rw [e1, e2, m2, r0, s0]
      rw [e1, e2, m2] at hz
      have := ih (i + 1) n m _ _ _ _ _ _ _ (by omega) (by omega) (by omega) (by rw [e1, e2, m2]; exact hz)
      rw [e1, e2, m2] at this
      exact this
    · have ht' : T.testBit i = false := by simpa using ht
      rw [L_X6_passHour_2.eq_2, L_X10_endHour_29.eq_2, if_neg (q_8n hi8), if_neg (q_8n hi8), q_stands hT hi8 m1, e1, q_has hT hi8, q_bd1, q_bd1, ht', if_pos (by decide), if_pos (by decide), nI_1, ← e1]
      exact ih (i + 1) n m _ _ _ _ _ _ _ (by omega) (by omega) (by omega) h
theorem act_hour {wat fla fly lea clo con inn : Nat → Int32} {th mu ta ho : Int32} {now flk lek : Nat → Int32} {mus g o : Int32} (h : SH wat fla fly lea clo con inn th mu ta ho now flk lek mus) : ACT wat fla fly lea clo con inn th mu ta ho now flk lek mus 46 g o (f_X10_endHour now lek mus) := by
  obtain ⟨T, U, hr, W, F, V, K, C, Q, P, h⟩ := h
  obtain ⟨⟨hT, hU, hhr⟩, ⟨e1, e2, e3⟩, ⟨m1, m2, m3, m4⟩, hok, hx, hm, hn⟩ := id h
  have hc : f_X6_refusal wat clo inn th ho 46 g o = if hr < 999 then some (-6) else some 6 := by
    unfold f_X6_refusal
    rw [if_pos rfl, e3, q_lit 999, q_ifl (by omega) (by decide)]
  by_cases c : hr < 999
  · have hz : SZ T U (hr + 1) W F V K C Q P wat fla fly lea clo con inn th mu ta (nI (hr + 1)) (upd now 42 (nI (hr + 1))) flk lek mus := by
      refine ⟨⟨hT, hU, by omega⟩, ⟨e1, e2, rfl⟩, ⟨by rw [upd_n (by omega)]; exact m1, m2, upd_g _ _ _, by rw [upd_n (by omega)]; exact m4⟩, hok, hx, fun j hj hTj => ?_, fun j hj hTj => ?_⟩
      · rw [upd_n (by omega), upd_n (by omega), upd_n (by omega), upd_n (by omega), upd_n (by omega)]
        exact hm j hj hTj
      · rw [upd_n (by omega)]
        exact hn j hj hTj
    obtain ⟨W', V', Q', wat', fly', con', now', r1, r2, r3⟩ := hour_l 8 0 FU FU W V Q wat fly con _ rfl (by have := q_FU; omega) (by have := q_FU; omega) hz
    refine Or.inr ⟨by rw [hc, if_pos c], wat', fly', clo, con', inn, th, ta, nI (hr + 1), now', ?_, ?_, ⟨_, _, _, _, _, _, _, _, _, _, r3⟩⟩
    · unfold f_X6_perform f_X6_passHour
      rw [if_pos rfl, e3, show (0 : Int32) = nI 0 from rfl, r1]; rfl
    · unfold f_X10_endHour
      rw [q_42, m3, q_lit 999, q_ife (by omega) (by decide), if_neg (by omega), nI_1]
      exact r2
  · refine Or.inl ⟨6, by omega, by omega, by rw [hc, if_neg c]; rfl, ?_⟩
    unfold f_X10_endHour
    rw [q_42, m3, q_lit 999, q_ife (by omega) (by decide), if_pos (by omega)]; rfl
