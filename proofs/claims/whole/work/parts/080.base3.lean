/-! own base, third: a call in a large world that keeps its order -/
def patch : va_W → List (Nat × (Nat × va_E)) → va_W
  | ws, [] => ws
  | ws, (i, q) :: r => patch (ws.set i q) r
theorem patch_addr : ∀ (z : List (Nat × (Nat × va_E))) (ws : va_W), (∀ x ∈ z, ∃ e, ws[x.1]? = some (x.2.1, e)) → ∀ (k : Nat) (q : Nat × va_E), (patch ws z)[k]? = some q → ∃ e, ws[k]? = some (q.1, e)
  | [], ws, _, k, q, h => ⟨q.2, h⟩
  | (i, x) :: r, ws, hz, k, q, h => by
    obtain ⟨e0, h0⟩ := hz (i, x) List.mem_cons_self
    have hl := (List.getElem?_eq_some_iff.mp h0).1
    have key : ∀ (j : Nat) (y : Nat × va_E), (ws.set i x)[j]? = some y → ∃ e, ws[j]? = some (y.1, e) := by
      intro j y hy
      by_cases hj : j = i
      · subst hj
        rw [List.getElem?_set_self hl] at hy
        cases hy
        exact ⟨e0, h0⟩
      · rw [List.getElem?_set_ne (Ne.symm hj)] at hy
        exact ⟨y.2, hy⟩
    have key2 : ∀ (j : Nat) (y : Nat × va_E), ws[j]? = some y → ∃ e, (ws.set i x)[j]? = some (y.1, e) := by
      intro j y hy
      by_cases hj : j = i
      · subst hj
        have : y = (x.1, e0) := Option.some.inj (hy.symm.trans h0)
        subst this
        exact ⟨x.2, List.getElem?_set_self hl⟩
      · exact ⟨y.2, by rw [List.getElem?_set_ne (Ne.symm hj)]; exact hy⟩
    obtain ⟨e1, h1⟩ := patch_addr r (ws.set i x) (fun y hy => by
      obtain ⟨e2, h2⟩ := hz y (List.mem_cons_of_mem _ hy)
      exact key2 y.1 (y.2.1, e2) h2) k q h
    exact key k (q.1, e1) h1
theorem patch_or : ∀ (z : List (Nat × (Nat × va_E))) (ws : va_W), (∀ x ∈ z, ∃ e, ws[x.1]? = some (x.2.1, e)) → ∀ (k : Nat) (q : Nat × va_E), (patch ws z)[k]? = some q → (∃ x ∈ z, x.2 = q) ∨ (ws[k]? = some q ∧ ∀ x ∈ z, x.1 ≠ k)
  | [], ws, _, k, q, h => Or.inr ⟨h, fun x hx => absurd hx List.not_mem_nil⟩
  | (i, x) :: r, ws, hz, k, q, h => by
    obtain ⟨e0, h0⟩ := hz (i, x) List.mem_cons_self
    have hl := (List.getElem?_eq_some_iff.mp h0).1
    have key2 : ∀ (j : Nat) (y : Nat × va_E), ws[j]? = some y → ∃ e, (ws.set i x)[j]? = some (y.1, e) := by
      intro j y hy
      by_cases hj : j = i
      · subst hj
        have : y = (x.1, e0) := Option.some.inj (hy.symm.trans h0)
        subst this
        exact ⟨x.2, List.getElem?_set_self hl⟩
      · exact ⟨y.2, by rw [List.getElem?_set_ne (Ne.symm hj)]; exact hy⟩
    rcases patch_or r (ws.set i x) (fun y hy => by
      obtain ⟨e2, h2⟩ := hz y (List.mem_cons_of_mem _ hy)
      exact key2 y.1 (y.2.1, e2) h2) k q h with ⟨y, hy, e⟩ | ⟨h1, h2⟩
    · exact Or.inl ⟨y, List.mem_cons_of_mem _ hy, e⟩
    · by_cases hk : k = i
      · subst hk
        rw [List.getElem?_set_self hl] at h1
        exact Or.inl ⟨(k, x), List.mem_cons_self, Option.some.inj h1⟩
      · rw [List.getElem?_set_ne (Ne.symm hk)] at h1
        refine Or.inr ⟨h1, fun y hy => ?_⟩
        rcases List.mem_cons.mp hy with rfl | hy
        · exact fun e => hk e.symm
        · exact h2 y hy
theorem patch_zip {α β : Type} : ∀ (l1 : List α) (l2 : List β) (x : α × β), x ∈ l1.zip l2 → ∃ k : Nat, l1[k]? = some x.1 ∧ l2[k]? = some x.2
  | [], _, x, h => by simp at h
  | _ :: _, [], x, h => by simp at h
  | a :: l1, b :: l2, x, h => by
    rw [List.zip_cons_cons] at h
    rcases List.mem_cons.mp h with rfl | h
    · exact ⟨0, rfl, rfl⟩
    · obtain ⟨k, h1, h2⟩ := patch_zip l1 l2 x h
      exact ⟨k + 1, h1, h2⟩
theorem patch_zip_fst {α β : Type} : ∀ (l1 : List α) (l2 : List β), l1.length = l2.length → ∀ (k : Nat) (a : α), l1[k]? = some a → ∃ b, (a, b) ∈ l1.zip l2
  | [], _, _, k, a, h => by simp at h
  | a :: l1, [], hl, k, x, h => by simp at hl
  | a :: l1, b :: l2, hl, 0, x, h => by
    cases h
    exact ⟨b, by rw [List.zip_cons_cons]; exact List.mem_cons_self⟩
  | a :: l1, b :: l2, hl, k + 1, x, h => by
    obtain ⟨y, hy⟩ := patch_zip_fst l1 l2 (Nat.succ.inj hl) k x h
    exact ⟨y, by rw [List.zip_cons_cons]; exact List.mem_cons_of_mem _ hy⟩
/-- behind a call: the callee's cells are what they became, each in its place; all others stay -/
theorem va_rejoin {A0 : Nat → Prop} {D : va_G} {cl : List vw_C} {ws wc w1 w2 : va_W} {H H1 : Heap} (hP : va_P D cl ws H) (hD : va_D A0 ws) (isC : List Nat) (hC : isC.map (fun i => ws[i]?) = wc.map some) (ha : w1.map Prod.fst = wc.map Prod.fst)
    (hk : ∀ q : Nat, q < H.size → ¬ va_A wc H.size q → H1[q]? = H[q]?) (hP1 : va_P D cl w1 H1) (hw : patch ws (isC.zip w1) = w2) : va_P D cl w2 H1 ∧ va_D A0 w2 := by
  subst hw
  have at' : ∀ (k : Nat) (q : Nat × va_E), wc[k]? = some q → ∃ i, isC[k]? = some i ∧ ws[i]? = some q := by
    intro k q hq
    have h1 : (isC.map (fun i => ws[i]?))[k]? = some (some q) := by rw [hC, List.getElem?_map, hq]; rfl
    rw [List.getElem?_map] at h1
    cases hi : isC[k]? with
    | none => rw [hi] at h1; cases h1
    | some i => rw [hi] at h1; exact ⟨i, rfl, Option.some.inj h1⟩
  have hlen : isC.length = w1.length := by
    have h1 := congrArg List.length hC
    have h2 := congrArg List.length ha
    simp only [List.length_map] at h1 h2
    omega
  have hz : ∀ x ∈ isC.zip w1, ∃ e, ws[x.1]? = some (x.2.1, e) := by
    intro x hx
    obtain ⟨k, h1, h2⟩ := patch_zip isC w1 x hx
    have h3 : (w1.map Prod.fst)[k]? = some x.2.1 := by rw [List.getElem?_map, h2]; rfl
    rw [ha, List.getElem?_map] at h3
    cases hq : wc[k]? with
    | none => rw [hq] at h3; cases h3
    | some q =>
      rw [hq] at h3
      obtain ⟨i, h4, h5⟩ := at' k q hq
      have h6 : i = x.1 := Option.some.inj (h4.symm.trans h1)
      subst h6
      have h7 : q.1 = x.2.1 := Option.some.inj h3
      exact ⟨q.2, by rw [h5, ← h7]⟩
  refine ⟨fun k q hq => ?_, fun i j x y hi hj hxy => ?_, fun k q hq => ?_⟩
  · rcases patch_or _ _ hz k q hq with ⟨x, hx, rfl⟩ | ⟨h1, h2⟩
    · obtain ⟨j, -, hj⟩ := patch_zip isC w1 x hx
      exact hP1 j _ hj
    · refine (hP k q h1).kept (hk q.1 (hP k q h1).lt ?_)
      rintro (⟨j, e, hj⟩ | h)
      · obtain ⟨i, h4, h5⟩ := at' j _ hj
        have hik := hD.1 i k _ _ h5 h1 rfl
        subst hik
        obtain ⟨b, hb⟩ := patch_zip_fst isC w1 hlen j i h4
        exact h2 _ hb rfl
      · exact absurd (hP k q h1).lt (by omega)
  · obtain ⟨e1, h1⟩ := patch_addr _ _ hz i x hi
    obtain ⟨e2, h2⟩ := patch_addr _ _ hz j y hj
    exact hD.1 i j _ _ h1 h2 hxy
  · obtain ⟨e1, h1⟩ := patch_addr _ _ hz k q hq
    exact hD.2 k (q.1, e1) h1
section GL
variable {p : Program} {l : Launch} {e : Env} {R : Room} {s : State} {m : MethodId} {args : Array Value} {below : List Frame} {meth : Method} {c : Code} {H : Heap} {locs : List Loc} {cells slots : Nat} {Q : State → Prop}
variable {pc : Nat} {ls : Array Slot} {rest st0 : List Value} {D : va_G} {A : Nat → Prop} {ws wc w1 w2 : va_W} {H0 : Heap}
theorem gl_ci {r : Int32} {a : Array Value} (hrun : va_Run p l e R s m args below meth c H locs cells slots 0 0 (F0 m pc ls st0) rest (QI D (va_A wc H.size) r w1 a) (va_A wc H.size)) (hP : va_P D vwCl ws H) (hD : va_D A ws) (hS : va_S A H0 H locs) (hA : ∀ q, H0.size ≤ q → A q) (isC : List Nat) (hC : isC.map (fun i => ws[i]?) = wc.map some) (ha : w1.map Prod.fst = wc.map Prod.fst) (hw : patch ws (isC.zip w1) = w2)
    (kk : ∀ (H1 : Heap) (locs1 : List Loc), va_P D vwCl w2 H1 → va_D A w2 → va_S A H0 H1 locs1 → W p l e R s m args below meth c H1 locs1 cells slots Q (F0 m (pc + 3) ls (.int r :: rest))) : W p l e R s m args below meth c H locs cells slots Q (F0 m pc ls st0) := by
  have hFc := va_free hD hS hA isC hC
  refine va_calli hrun hS (fun q _ h => hFc q h) hFc (fun r' u t H1 locs1 ht hvm hp hB hz1 hk1 hS1 => ?_)
  obtain ⟨hP1, hD1⟩ := hB
  rw [ht] at hP1
  subst hp
  obtain ⟨hP2, hD2⟩ := va_rejoin hP hD isC hC ha hk1 hP1 hw
  exact kk H1 locs1 hP2 hD2 hS1
theorem gl_cl {r : Int64} {a : Array Value} (hrun : va_Run p l e R s m args below meth c H locs cells slots 0 0 (F0 m pc ls st0) rest (QL D (va_A wc H.size) r w1 a) (va_A wc H.size)) (hP : va_P D vwCl ws H) (hD : va_D A ws) (hS : va_S A H0 H locs) (hA : ∀ q, H0.size ≤ q → A q) (isC : List Nat) (hC : isC.map (fun i => ws[i]?) = wc.map some) (ha : w1.map Prod.fst = wc.map Prod.fst) (hw : patch ws (isC.zip w1) = w2)
    (kk : ∀ (H1 : Heap) (locs1 : List Loc), va_P D vwCl w2 H1 → va_D A w2 → va_S A H0 H1 locs1 → W p l e R s m args below meth c H1 locs1 cells slots Q (F0 m (pc + 3) ls (.long r :: rest))) : W p l e R s m args below meth c H locs cells slots Q (F0 m pc ls st0) := by
  have hFc := va_free hD hS hA isC hC
  refine va_calll hrun hS (fun q _ h => hFc q h) hFc (fun r' u t H1 locs1 ht hvm hp hB hz1 hk1 hS1 => ?_)
  obtain ⟨hP1, hD1⟩ := hB
  rw [ht] at hP1
  subst hp
  obtain ⟨hP2, hD2⟩ := va_rejoin hP hD isC hC ha hk1 hP1 hw
  exact kk H1 locs1 hP2 hD2 hS1
end GL
theorem lg_cmp_self (x : Int64) : lg_cmp x x = 0 := by
  unfold lg_cmp
  simp
theorem law_in {L i j : Nat} (hL : L ≤ 3072) (hi : i + 6 ≤ L) (hj : j < 6) : vp_in (nI i + nI j) L := by
  rw [nI_add]
  exact vp_in_nI (by omega) (by omega)
theorem law_go {L i : Nat} (hL : L ≤ 3072) (hi : i ≤ L) (h : ¬ Int32.ofNat L - 6 < nI i) : i + 6 ≤ L := by
  have e : (nI L - nI 6).toInt = (L : Int) - (6 : Nat) := pk_sub_toInt (by omega) (by omega)
  have h2 : ¬ (nI L - nI 6).toInt < (nI i).toInt := fun q => h (Int32.lt_iff_toInt_lt.mpr q)
  rw [e, nI_toInt (by omega)] at h2
  omega
theorem ls_arr {args : Array Value} {s : State} (ty : FieldType) (hp : ∀ C, ty ≠ .object C) (h : (Cond.arrayClass ty).before args s = true) : ∃ cA : ClassId, ArrOfT s cA ty ∧ va_RA s cA ty := by
  obtain ⟨cA, kA, comp, h1, h2, h3⟩ := Cond.arrayClass_spec h
  refine ⟨cA, fun n z => ⟨fun k h => (by cases h), kA, h2, comp, h3⟩, ?_⟩
  cases ty with
  | object C => exact absurd rfl (hp C)
  | _ => exact h1
