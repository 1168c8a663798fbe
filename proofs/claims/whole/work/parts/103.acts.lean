/-! pure: one state of both, and the acts -/
def SZ (T U hr : Nat) (W F V K C Q P : Nat → Nat) (wat fla fly lea clo con inn : Nat → Int32) (th mu ta ho : Int32) (bk flk lek : Nat → Int32) (mus : Int32) : Prop :=
  (T < 256 ∧ U < 256 ∧ hr ≤ 999) ∧ (th = nI T ∧ mu = nI U ∧ ho = nI hr) ∧ (bk 40 = nI T ∧ mus = nI U ∧ bk 42 = nI hr ∧ bk 41 = ta) ∧
  (∀ g, g < 8 → T.testBit g = true → W g ≤ 99 ∧ F g ≤ 99 ∧ V g ≤ F g ∧ K g ≤ 9 ∧ C g ≤ 9 ∧ Q g ≤ 9 ∧ (P g < 8 → T.testBit (P g) = true) ∧ 8 ≤ up P 8 g) ∧
  (∀ g, g < 8 → T.testBit g = true → wat g = nI (W g) ∧ fla g = nI (F g) ∧ fly g = nI (V g) ∧ lea g = nI (K g) ∧ clo g = nI (C g) ∧ con g = nI (Q g) ∧ inn g = pX (P g)) ∧
  (∀ g, g < 8 → T.testBit g = true → bk g = nI (W g) ∧ flk g = nI (F g) ∧ bk (8 + g) = nI (V g) ∧ lek g = nI (K g) ∧ bk (16 + g) = nI (C g) ∧ bk (24 + g) = nI (Q g) ∧ bk (32 + g) = pM (P g)) ∧
  (∀ g, g < 8 → T.testBit g = false → bk (32 + g) = -6)
def SH (wat fla fly lea clo con inn : Nat → Int32) (th mu ta ho : Int32) (bk flk lek : Nat → Int32) (mus : Int32) : Prop :=
  ∃ (T U hr : Nat) (W F V K C Q P : Nat → Nat), SZ T U hr W F V K C Q P wat fla fly lea clo con inn th mu ta ho bk flk lek mus
/-- an act: both refuse it for one reason, and the reference's numbers stay; or both do it -/
def ACT (wat fla fly lea clo con inn : Nat → Int32) (th mu ta ho : Int32) (now flk lek : Nat → Int32) (mus : Int32) (act g o : Int32) (mres : Option (Int32 × (Nat → Int32))) : Prop :=
  (∃ r : Nat, 1 ≤ r ∧ r ≤ 6 ∧ f_X6_refusal wat clo inn th ho act g o = some (nI r) ∧ mres = some (nI r, now)) ∨
  (f_X6_refusal wat clo inn th ho act g o = some (-6) ∧ ∃ (wat' fly' clo' con' inn' : Nat → Int32) (th' ta' ho' : Int32) (now' : Nat → Int32), f_X6_perform wat fla fly lea clo con inn th mu ta ho act g o = some (wat', fly', clo', con', inn', th', ta', ho') ∧ mres = some (0, now') ∧ SH wat' fla fly' lea clo' con' inn' th' mu ta' ho' now' flk lek mus)
theorem q_eqI {a b : Nat} (ha : a < 2 ^ 31) (hb : b < 2 ^ 31) : (nI a = nI b) = (a = b) := propext (nI_eq ha hb)
theorem q_ltI {a b : Nat} (ha : a < 2 ^ 31) (hb : b < 2 ^ 31) : (nI a < nI b) = (a < b) := propext (nI_ltI ha hb)
theorem q_leI {a b : Nat} (ha : a < 2 ^ 31) (hb : b < 2 ^ 31) : (nI a ≤ nI b) = (a ≤ b) := propext (nI_leI ha hb)
theorem q_ife {α : Type} {a b : Nat} {x y : α} (ha : a < 2 ^ 31) (hb : b < 2 ^ 31) : (if nI a = nI b then x else y) = if a = b then x else y := by
  by_cases h : a = b
  · rw [if_pos h, if_pos ((nI_eq ha hb).mpr h)]
  · rw [if_neg h, if_neg (fun e => h ((nI_eq ha hb).mp e))]
theorem q_ifl {α : Type} {a b : Nat} {x y : α} (ha : a < 2 ^ 31) (hb : b < 2 ^ 31) : (if nI a < nI b then x else y) = if a < b then x else y := by
  by_cases h : a < b
  · rw [if_pos h, if_pos ((nI_ltI ha hb).mpr h)]
  · rw [if_neg h, if_neg (fun e => h ((nI_ltI ha hb).mp e))]
theorem q_ifle {α : Type} {a b : Nat} {x y : α} (ha : a < 2 ^ 31) (hb : b < 2 ^ 31) : (if nI a ≤ nI b then x else y) = if a ≤ b then x else y := by
  by_cases h : a ≤ b
  · rw [if_pos h, if_pos ((nI_leI ha hb).mpr h)]
  · rw [if_neg h, if_neg (fun e => h ((nI_leI ha hb).mp e))]
theorem q_jmin {a b : Nat} (ha : a < 2 ^ 31) (hb : b < 2 ^ 31) : jmin (nI a) (nI b) = nI (min a b) := by
  unfold jmin
  rw [q_ifl hb ha]
  by_cases h : b < a
  · rw [if_pos h, Nat.min_eq_right (by omega)]
  · rw [if_neg h, Nat.min_eq_left (by omega)]
theorem q_jmax {a b : Nat} (ha : a < 2 ^ 31) (hb : b < 2 ^ 31) : jmax (nI a) (nI b) = nI (max a b) := by
  unfold jmax
  rw [q_ifl ha hb]
  by_cases h : a < b
  · rw [if_pos h, Nat.max_eq_right (by omega)]
  · rw [if_neg h, Nat.max_eq_left (by omega)]
/-- an act that isn't an hour, of a globe that isn't there -/
theorem act_gone {wat fla fly lea clo con inn : Nat → Int32} {th mu ta ho : Int32} {now flk lek : Nat → Int32} {mus act o : Int32} {T g : Nat} {mres : Option (Int32 × (Nat → Int32))} (hT : T < 256) (hg : g < 8) (hth : th = nI T) (h : T.testBit g = false) (ha : ¬ act = 46) (hm : mres = some (1, now)) : ACT wat fla fly lea clo con inn th mu ta ho now flk lek mus act (nI g) o mres := by
  refine Or.inl ⟨1, by omega, by omega, ?_, hm⟩
  unfold f_X6_refusal
  rw [if_neg ha, hth, q_has hT hg, h, q_bd1]; rfl
def st (f : Nat → Nat) (g v : Nat) : Nat → Nat := fun j => if j = g then v else f j
theorem st_g (f : Nat → Nat) (g v : Nat) : st f g v g = v := if_pos rfl
theorem st_n {f : Nat → Nat} {g v j : Nat} (h : j ≠ g) : st f g v j = f j := if_neg h
theorem st_same (f : Nat → Nat) (g : Nat) : st f g (f g) = f := by
  funext j
  unfold st
  by_cases h : j = g
  · rw [if_pos h, h]
  · rw [if_neg h]
theorem upd_g (f : Nat → Int32) (g : Nat) (v : Int32) : upd f g v g = v := if_pos rfl
theorem upd_n {f : Nat → Int32} {g j : Nat} {v : Int32} (h : j ≠ g) : upd f g v j = f j := if_neg h
/-- one globe is changed -/
theorem SZ_one {T U hr : Nat} {W F V K C Q P : Nat → Nat} {wat fla fly lea clo con inn : Nat → Int32} {th mu ta ho : Int32} {bk flk lek : Nat → Int32} {mus : Int32} (h : SZ T U hr W F V K C Q P wat fla fly lea clo con inn th mu ta ho bk flk lek mus) {g : Nat} (hg : g < 8) (w v c q p : Nat) (hw : w ≤ 99) (hv : v ≤ F g) (hc : c ≤ 9) (hq : q ≤ 9) (hp : p < 8 → T.testBit p = true) (hup : ∀ x, x < 8 → T.testBit x = true → 8 ≤ up (st P g p) 8 x)
    {wat' fly' clo' con' inn' bk' : Nat → Int32} (xw : wat' g = nI w) (xwn : ∀ j, j ≠ g → wat' j = wat j) (xv : fly' g = nI v) (xvn : ∀ j, j ≠ g → fly' j = fly j) (xc : clo' g = nI c) (xcn : ∀ j, j ≠ g → clo' j = clo j) (xq : con' g = nI q) (xqn : ∀ j, j ≠ g → con' j = con j) (xp : inn' g = pX p) (xpn : ∀ j, j ≠ g → inn' j = inn j)
    (b0 : bk' g = nI w) (b1 : bk' (8 + g) = nI v) (b2 : bk' (16 + g) = nI c) (b3 : bk' (24 + g) = nI q) (b4 : bk' (32 + g) = pM p) (bn : ∀ j, j ≠ g → j ≠ 8 + g → j ≠ 16 + g → j ≠ 24 + g → j ≠ 32 + g → bk' j = bk j) (ht : T.testBit g = true) :
    SZ T U hr (st W g w) F (st V g v) K (st C g c) (st Q g q) (st P g p) wat' fla fly' lea clo' con' inn' th mu ta ho bk' flk lek mus := by
  obtain ⟨hT, e, ⟨m1, m2, m3, m4⟩, hok, hx, hm, hn⟩ := h
  refine ⟨hT, e, ⟨?_, m2, ?_, ?_⟩, ?_, ?_, ?_, ?_⟩
  · rw [bn 40 (by omega) (by omega) (by omega) (by omega) (by omega)]; exact m1
  · rw [bn 42 (by omega) (by omega) (by omega) (by omega) (by omega)]; exact m3
  · rw [bn 41 (by omega) (by omega) (by omega) (by omega) (by omega)]; exact m4
  · intro j hj hTj
    obtain ⟨a1, a2, a3, a4, a5, a6, a7, a8⟩ := hok j hj hTj
    by_cases e : j = g
    · subst e
      rw [st_g, st_g, st_g, st_g, st_g]
      exact ⟨hw, a2, hv, a4, hc, hq, hp, hup j hj hTj⟩
    · rw [st_n e, st_n e, st_n e, st_n e, st_n e]
      exact ⟨a1, a2, a3, a4, a5, a6, a7, hup j hj hTj⟩
  · intro j hj hTj
    obtain ⟨a1, a2, a3, a4, a5, a6, a7⟩ := hx j hj hTj
    by_cases e : j = g
    · subst e
      rw [st_g, st_g, st_g, st_g, st_g]
      exact ⟨xw, a2, xv, a4, xc, xq, xp⟩
    · rw [st_n e, st_n e, st_n e, st_n e, st_n e, xwn j e, xvn j e, xcn j e, xqn j e, xpn j e]
      exact ⟨a1, a2, a3, a4, a5, a6, a7⟩
  · intro j hj hTj
    obtain ⟨a1, a2, a3, a4, a5, a6, a7⟩ := hm j hj hTj
    by_cases e : j = g
    · subst e
      rw [st_g, st_g, st_g, st_g, st_g]
      exact ⟨b0, a2, b1, a4, b2, b3, b4⟩
    · rw [st_n e, st_n e, st_n e, st_n e, st_n e, bn j (by omega) (by omega) (by omega) (by omega) (by omega), bn (8 + j) (by omega) (by omega) (by omega) (by omega) (by omega), bn (16 + j) (by omega) (by omega) (by omega) (by omega) (by omega), bn (24 + j) (by omega) (by omega) (by omega) (by omega) (by omega), bn (32 + j) (by omega) (by omega) (by omega) (by omega) (by omega)]
      exact ⟨a1, a2, a3, a4, a5, a6, a7⟩
  · intro j hj hTj
    have e : j ≠ g := fun e => by rw [e, ht] at hTj; cases hTj
    rw [bn (32 + j) (by omega) (by omega) (by omega) (by omega) (by omega)]
    exact hn j hj hTj
theorem up_same {P : Nat → Nat} {T : Nat} {g : Nat} (h : ∀ g, g < 8 → T.testBit g = true → 8 ≤ up P 8 g) : ∀ x, x < 8 → T.testBit x = true → 8 ≤ up (st P g (P g)) 8 x := by
  rw [st_same]
  exact h
theorem act_pour1 {wat fla fly lea clo con inn : Nat → Int32} {th mu ta ho : Int32} {now flk lek : Nat → Int32} {mus o : Int32} {g : Nat} (hg : g < 8) (h : SH wat fla fly lea clo con inn th mu ta ho now flk lek mus) : ACT wat fla fly lea clo con inn th mu ta ho now flk lek mus 43 (nI g) o (f_X10_pour now (nI g) 1) := by
  obtain ⟨T, U, hr, W, F, V, K, C, Q, P, h⟩ := h
  obtain ⟨⟨hT, hU, hhr⟩, ⟨e1, e2, e3⟩, ⟨m1, m2, m3, m4⟩, hok, hx, hm, hn⟩ := id h
  by_cases ht : T.testBit g = true
  · obtain ⟨x1, x2, x3, x4, x5, x6, x7⟩ := hx g hg ht
    obtain ⟨n1, n2, n3, n4, n5, n6, n7⟩ := hm g hg ht
    obtain ⟨k1, k2, k3, k4, k5, k6, k7, k8⟩ := hok g hg ht
    have hc : f_X6_refusal wat clo inn th ho 43 (nI g) o = if W g = 99 then some 5 else some (-6) := by
      unfold f_X6_refusal B_X6_refusal_48
      rw [if_neg (by decide), e1, q_has hT hg, ht, q_bd1, if_neg (by decide), if_neg (by decide), if_neg (by decide), if_pos rfl, q_gin hg (by decide), q_cl (by omega), x1, q_lit 99, q_ife (by omega) (by decide)]
    by_cases c : W g = 99
    · refine Or.inl ⟨5, by omega, by omega, by rw [hc, if_pos c]; rfl, ?_⟩
      unfold f_X10_pour
      rw [q_stands hT hg m1, q_bd1, ht, if_neg (by decide), q_gin (by omega) (by decide), q_cl (by omega), n1, q_lit 99, q_ife (by omega) (by decide), if_pos c]; rfl
    · refine Or.inr ⟨by rw [hc, if_neg c], upd wat g 99, fly, upd clo g (nI (min 9 (C g + 1))), con, inn, th, ta, ho, upd (upd now g 99) (16 + g) (nI (min 9 (C g + 1))), ?_, ?_, ?_⟩
      · unfold f_X6_perform
        rw [if_neg (by decide), e1, q_has hT hg, ht, q_bd1, if_neg (by decide), if_neg (by decide), if_pos rfl, q_gin hg (by decide), q_gin hg (by decide), q_gin hg (by decide), q_cl (by omega), x5, nI_1, q_lit 9, q_jmin (by decide) (by omega)]
      · unfold f_X10_pour B_X10_pour_60
        rw [q_stands hT hg m1, q_bd1, ht, if_neg (by decide), q_gin (by omega) (by decide), q_cl (by omega), n1, q_lit 99, q_ife (by omega) (by decide), if_neg c, q_gin (by omega) (by decide), q_lit 16, q_add, q_gin (by omega) (by decide), q_gin (by omega) (by decide), q_cl (by omega)]
        simp (disch := omega) only [q_upd, if_neg, n5]
        rw [q_lit 9, q_ifle (by decide) (by omega), q_lit 0, q_lit 1, q_add, q_add, q_gin (by omega) (by decide), q_gin (by omega) (by decide)]
        by_cases c9 : 9 ≤ C g
        · rw [if_pos c9, show min 9 (C g + 1) = C g + 0 by omega]
        · rw [if_neg c9, show min 9 (C g + 1) = C g + 1 by omega]
      · exact ⟨_, _, _, _, _, _, _, _, _, _, SZ_one h hg 99 (V g) (min 9 (C g + 1)) (Q g) (P g) (by omega) k3 (by omega) k6 k7 (up_same (fun g a b => (hok g a b).2.2.2.2.2.2.2)) (upd_g _ _ _) (fun j e => upd_n e) x3 (fun _ _ => rfl) (upd_g _ _ _) (fun j e => upd_n e) x6 (fun _ _ => rfl) x7 (fun _ _ => rfl) (by simp (disch := omega) only [q_upd, if_neg]; rfl) (by simp (disch := omega) only [q_upd, if_neg]; exact n3) (upd_g _ _ _) (by simp (disch := omega) only [q_upd, if_neg]; exact n6) (by simp (disch := omega) only [q_upd, if_neg]; exact n7) (fun j _ _ _ _ _ => by simp (disch := omega) only [q_upd, if_neg]) ht⟩
  · have ht' : T.testBit g = false := by simpa using ht
    refine act_gone hT hg e1 ht' (by decide) ?_
    unfold f_X10_pour
    rw [q_stands hT hg m1, q_bd1, ht']; rfl
theorem act_pour0 {wat fla fly lea clo con inn : Nat → Int32} {th mu ta ho : Int32} {now flk lek : Nat → Int32} {mus o : Int32} {g : Nat} (hg : g < 8) (h : SH wat fla fly lea clo con inn th mu ta ho now flk lek mus) : ACT wat fla fly lea clo con inn th mu ta ho now flk lek mus 61 (nI g) o (f_X10_pour now (nI g) 0) := by
  obtain ⟨T, U, hr, W, F, V, K, C, Q, P, h⟩ := h
  obtain ⟨⟨hT, hU, hhr⟩, ⟨e1, e2, e3⟩, ⟨m1, m2, m3, m4⟩, hok, hx, hm, hn⟩ := id h
  by_cases ht : T.testBit g = true
  · obtain ⟨x1, x2, x3, x4, x5, x6, x7⟩ := hx g hg ht
    obtain ⟨n1, n2, n3, n4, n5, n6, n7⟩ := hm g hg ht
    obtain ⟨k1, k2, k3, k4, k5, k6, k7, k8⟩ := hok g hg ht
    have hc : f_X6_refusal wat clo inn th ho 61 (nI g) o = if W g = 99 then some 5 else some (-6) := by
      unfold f_X6_refusal B_X6_refusal_48
      rw [if_neg (by decide), e1, q_has hT hg, ht, q_bd1, if_neg (by decide), if_neg (by decide), if_neg (by decide), if_neg (by decide), if_neg (by decide), if_pos rfl, q_gin hg (by decide), q_cl (by omega), x1, q_lit 99, q_ife (by omega) (by decide)]
    by_cases c : W g = 99
    · refine Or.inl ⟨5, by omega, by omega, by rw [hc, if_pos c]; rfl, ?_⟩
      unfold f_X10_pour
      rw [q_stands hT hg m1, q_bd1, ht, if_neg (by decide), q_gin (by omega) (by decide), q_cl (by omega), n1, q_lit 99, q_ife (by omega) (by decide), if_pos c]; rfl
    · refine Or.inr ⟨by rw [hc, if_neg c], upd wat g 99, fly, clo, con, inn, th, ta, ho, upd (upd now g 99) (16 + g) (nI (C g)), ?_, ?_, ?_⟩
      · unfold f_X6_perform
        rw [if_neg (by decide), e1, q_has hT hg, ht, q_bd1, if_neg (by decide), if_neg (by decide), if_neg (by decide), if_neg (by decide), if_pos rfl, q_gin hg (by decide), q_cl (by omega)]
      · unfold f_X10_pour B_X10_pour_60
        rw [q_stands hT hg m1, q_bd1, ht, if_neg (by decide), q_gin (by omega) (by decide), q_cl (by omega), n1, q_lit 99, q_ife (by omega) (by decide), if_neg c, q_gin (by omega) (by decide), q_lit 16, q_add, q_gin (by omega) (by decide), q_gin (by omega) (by decide), q_cl (by omega)]
        simp (disch := omega) only [q_upd, if_neg, n5]
        rw [q_lit 9, q_ifle (by decide) (by omega), q_lit 0, q_add, q_gin (by omega) (by decide)]
        split <;> rfl
      · exact ⟨_, _, _, _, _, _, _, _, _, _, SZ_one h hg 99 (V g) (C g) (Q g) (P g) (by omega) k3 (by omega) k6 k7 (up_same (fun g a b => (hok g a b).2.2.2.2.2.2.2)) (upd_g _ _ _) (fun j e => upd_n e) x3 (fun _ _ => rfl) x5 (fun _ _ => rfl) x6 (fun _ _ => rfl) x7 (fun _ _ => rfl) (by simp (disch := omega) only [q_upd, if_neg]; rfl) (by simp (disch := omega) only [q_upd, if_neg]; exact n3) (upd_g _ _ _) (by simp (disch := omega) only [q_upd, if_neg]; exact n6) (by simp (disch := omega) only [q_upd, if_neg]; exact n7) (fun j _ _ _ _ _ => by simp (disch := omega) only [q_upd, if_neg]) ht⟩
  · have ht' : T.testBit g = false := by simpa using ht
    refine act_gone hT hg e1 ht' (by decide) ?_
    unfold f_X10_pour
    rw [q_stands hT hg m1, q_bd1, ht']; rfl
theorem act_cloth {wat fla fly lea clo con inn : Nat → Int32} {th mu ta ho : Int32} {now flk lek : Nat → Int32} {mus o : Int32} {g : Nat} (hg : g < 8) (h : SH wat fla fly lea clo con inn th mu ta ho now flk lek mus) : ACT wat fla fly lea clo con inn th mu ta ho now flk lek mus 47 (nI g) o (f_X10_wipeOff now (nI g)) := by
  obtain ⟨T, U, hr, W, F, V, K, C, Q, P, h⟩ := h
  obtain ⟨⟨hT, hU, hhr⟩, ⟨e1, e2, e3⟩, ⟨m1, m2, m3, m4⟩, hok, hx, hm, hn⟩ := id h
  by_cases ht : T.testBit g = true
  · obtain ⟨x1, x2, x3, x4, x5, x6, x7⟩ := hx g hg ht
    obtain ⟨n1, n2, n3, n4, n5, n6, n7⟩ := hm g hg ht
    obtain ⟨k1, k2, k3, k4, k5, k6, k7, k8⟩ := hok g hg ht
    have hc : f_X6_refusal wat clo inn th ho 47 (nI g) o = if C g = 0 then some 5 else some (-6) := by
      unfold f_X6_refusal B_X6_refusal_48
      rw [if_neg (by decide), e1, q_has hT hg, ht, q_bd1, if_neg (by decide), if_neg (by decide), if_neg (by decide), if_neg (by decide), if_pos rfl, q_gin hg (by decide), q_cl (by omega), x5, q_lit 0, q_ife (by omega) (by decide)]
    by_cases c : C g = 0
    · refine Or.inl ⟨5, by omega, by omega, by rw [hc, if_pos c]; rfl, ?_⟩
      unfold f_X10_wipeOff
      rw [q_stands hT hg m1, q_bd1, ht, if_neg (by decide), q_lit 16, q_add, q_gin (by omega) (by decide), q_cl (by omega), n5, q_lit 0, q_ife (by omega) (by decide), if_pos c]; rfl
    · refine Or.inr ⟨by rw [hc, if_neg c], wat, fly, upd clo g 0, con, inn, th, ta, ho, upd now (16 + g) 0, ?_, ?_, ?_⟩
      · unfold f_X6_perform
        rw [if_neg (by decide), e1, q_has hT hg, ht, q_bd1, if_neg (by decide), if_neg (by decide), if_neg (by decide), if_pos rfl, q_gin hg (by decide), q_cl (by omega)]
      · unfold f_X10_wipeOff
        rw [q_stands hT hg m1, q_bd1, ht, if_neg (by decide), q_lit 16, q_add, q_gin (by omega) (by decide), q_cl (by omega), n5, q_lit 0, q_ife (by omega) (by decide), if_neg c, q_gin (by omega) (by decide)]
      · exact ⟨_, _, _, _, _, _, _, _, _, _, SZ_one h hg (W g) (V g) 0 (Q g) (P g) (by omega) k3 (by omega) k6 k7 (up_same (fun g a b => (hok g a b).2.2.2.2.2.2.2)) x1 (fun _ _ => rfl) x3 (fun _ _ => rfl) (upd_g _ _ _) (fun j e => upd_n e) x6 (fun _ _ => rfl) x7 (fun _ _ => rfl) (by simp (disch := omega) only [q_upd, if_neg]; exact n1) (by simp (disch := omega) only [q_upd, if_neg]; exact n3) (upd_g _ _ _) (by simp (disch := omega) only [q_upd, if_neg]; exact n6) (by simp (disch := omega) only [q_upd, if_neg]; exact n7) (fun j _ _ _ _ _ => by simp (disch := omega) only [q_upd, if_neg]) ht⟩
  · have ht' : T.testBit g = false := by simpa using ht
    refine act_gone hT hg e1 ht' (by decide) ?_
    unfold f_X10_wipeOff
    rw [q_stands hT hg m1, q_bd1, ht']; rfl
