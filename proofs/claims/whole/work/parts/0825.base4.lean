/-! own base, fourth: a part of a large world by a mask, in order -/
def pick : va_W → List Bool → va_W
  | w :: ws, true :: ms => w :: pick ws ms
  | _ :: ws, false :: ms => pick ws ms
  | _, _ => []
def weave : va_W → List Bool → va_W → va_W
  | _ :: ws, true :: ms, v :: vs => v :: weave ws ms vs
  | w :: ws, false :: ms, vs => w :: weave ws ms vs
  | ws, _, _ => ws
theorem pick_nil (ms : List Bool) : pick [] ms = [] := by cases ms <;> rfl
theorem pick_none (ws : va_W) : pick ws [] = [] := by cases ws <;> rfl
theorem pick_sub : ∀ (ws : va_W) (ms : List Bool), (pick ws ms).Sublist ws
  | [], ms => by rw [pick_nil]; exact List.Sublist.refl _
  | w :: ws, [] => List.nil_sublist _
  | w :: ws, true :: ms => (pick_sub ws ms).cons₂ w
  | w :: ws, false :: ms => (pick_sub ws ms).cons w
theorem pd_iff {ws : va_W} : (∀ (i j : Nat) (p q : Nat × va_E), ws[i]? = some p → ws[j]? = some q → p.1 = q.1 → i = j) ↔ (ws.map Prod.fst).Pairwise (· ≠ ·) := by
  rw [List.pairwise_iff_getElem]
  constructor
  · intro h i j hi hj hij e
    have hi' : i < ws.length := by simpa using hi
    have hj' : j < ws.length := by simpa using hj
    have := h i j _ _ (List.getElem?_eq_getElem hi') (List.getElem?_eq_getElem hj') (by simpa using e)
    omega
  · intro h i j p q hp hq e
    obtain ⟨hi, rfl⟩ := List.getElem?_eq_some_iff.mp hp
    obtain ⟨hj, rfl⟩ := List.getElem?_eq_some_iff.mp hq
    rcases Nat.lt_trichotomy i j with c | c | c
    · exact absurd (by rw [List.getElem_map, List.getElem_map]; exact e) (h i j (by simpa using hi) (by simpa using hj) c)
    · exact c
    · exact absurd (by rw [List.getElem_map, List.getElem_map]; exact e.symm) (h j i (by simpa using hj) (by simpa using hi) c)
theorem va_D_iff {A : Nat → Prop} {ws : va_W} : va_D A ws ↔ (ws.map Prod.fst).Pairwise (· ≠ ·) ∧ ∀ a ∈ ws.map Prod.fst, A a := by
  unfold va_D
  rw [pd_iff]
  refine and_congr Iff.rfl ⟨fun h a ha => ?_, fun h k q hk => h q.1 (List.mem_map_of_mem (List.mem_of_getElem? hk))⟩
  obtain ⟨q, hq, rfl⟩ := List.mem_map.mp ha
  obtain ⟨k, hk⟩ := List.getElem?_of_mem hq
  exact h k q hk
theorem va_P_iff {D : va_G} {cl : List vw_C} {ws : va_W} {H : Heap} : va_P D cl ws H ↔ ∀ q ∈ ws, va_at D cl q H := by
  refine ⟨fun h q hq => ?_, fun h k q hk => h q (List.mem_of_getElem? hk)⟩
  obtain ⟨k, hk⟩ := List.getElem?_of_mem hq
  exact h k q hk
theorem pick_P {D : va_G} {cl : List vw_C} {ws wc : va_W} {H : Heap} (h : va_P D cl ws H) (ms : List Bool) (hC : pick ws ms = wc) : va_P D cl wc H := by
  subst hC
  exact va_P_iff.mpr (fun q hq => va_P_iff.mp h q ((pick_sub ws ms).subset hq))
theorem pick_D {A : Nat → Prop} {ws wc : va_W} (h : va_D A ws) (ms : List Bool) (hC : pick ws ms = wc) : va_D A wc := by
  subst hC
  have h' := va_D_iff.mp h
  have hs := (pick_sub ws ms).map Prod.fst
  exact va_D_iff.mpr ⟨h'.1.sublist hs, fun a ha => h'.2 a (hs.subset ha)⟩
theorem pick_free {A0 : Nat → Prop} {ws wc : va_W} {H0 H : Heap} {locs : List Loc} (hD : va_D A0 ws) (hS : va_S A0 H0 H locs) (hA : ∀ q, H0.size ≤ q → A0 q) (ms : List Bool) (hC : pick ws ms = wc) : ∀ q, va_A wc H.size q → A0 q := by
  intro q h
  rcases h with ⟨k, e, h⟩ | h
  · exact (pick_D hD ms hC).2 k (q, e) h
  · exact hA q (Nat.le_trans hS.1 h)
theorem weave_fst : ∀ (ws : va_W) (ms : List Bool) (vs : va_W), vs.map Prod.fst = (pick ws ms).map Prod.fst → (weave ws ms vs).map Prod.fst = ws.map Prod.fst
  | [], ms, vs, h => by
    cases ms with
    | nil => rfl
    | cons m ms => cases m <;> rfl
  | w :: ws, [], vs, h => by cases vs <;> rfl
  | w :: ws, true :: ms, [], h => by simp [pick] at h
  | w :: ws, true :: ms, v :: vs, h => by
    simp only [pick, List.map_cons, List.cons.injEq] at h
    simp only [weave, List.map_cons, h.1, weave_fst ws ms vs h.2]
  | w :: ws, false :: ms, vs, h => by
    simp only [weave, List.map_cons]
    rw [weave_fst ws ms vs (by simpa [pick] using h)]
theorem weave_or : ∀ (ws : va_W) (ms : List Bool) (vs : va_W), vs.map Prod.fst = (pick ws ms).map Prod.fst → (ws.map Prod.fst).Pairwise (· ≠ ·) → ∀ q ∈ weave ws ms vs, q ∈ vs ∨ (q ∈ ws ∧ q.1 ∉ (pick ws ms).map Prod.fst)
  | [], ms, vs, h, hd, q, hq => by
    have e : weave [] ms vs = [] := by
      cases ms with
      | nil => rfl
      | cons m ms => cases m <;> rfl
    rw [e] at hq
    exact absurd hq List.not_mem_nil
  | w :: ws, [], vs, h, hd, q, hq => by
    have e : weave (w :: ws) [] vs = w :: ws := by cases vs <;> rfl
    rw [e] at hq
    exact Or.inr ⟨hq, by rw [pick_none]; exact List.not_mem_nil⟩
  | w :: ws, true :: ms, [], h, hd, q, hq => by simp [pick] at h
  | w :: ws, true :: ms, v :: vs, h, hd, q, hq => by
    simp only [pick, List.map_cons, List.cons.injEq] at h
    rw [List.map_cons, List.pairwise_cons] at hd
    rcases List.mem_cons.mp (show q ∈ v :: weave ws ms vs from hq) with rfl | hq
    · exact Or.inl List.mem_cons_self
    · rcases weave_or ws ms vs h.2 hd.2 q hq with h1 | ⟨h1, h2⟩
      · exact Or.inl (List.mem_cons_of_mem _ h1)
      · refine Or.inr ⟨List.mem_cons_of_mem _ h1, fun h3 => ?_⟩
        rcases List.mem_cons.mp (show q.1 ∈ w.1 :: (pick ws ms).map Prod.fst from h3) with e | h3
        · exact hd.1 q.1 (List.mem_map_of_mem h1) e.symm
        · exact h2 h3
  | w :: ws, false :: ms, vs, h, hd, q, hq => by
    rw [List.map_cons, List.pairwise_cons] at hd
    rcases List.mem_cons.mp (show q ∈ w :: weave ws ms vs from (by simpa [weave] using hq)) with rfl | hq
    · refine Or.inr ⟨List.mem_cons_self, fun h3 => ?_⟩
      have h4 := ((pick_sub ws ms).map Prod.fst).subset (show q.1 ∈ (pick ws ms).map Prod.fst from h3)
      exact hd.1 q.1 h4 rfl
    · rcases weave_or ws ms vs (by simpa [pick] using h) hd.2 q hq with h1 | ⟨h1, h2⟩
      · exact Or.inl h1
      · exact Or.inr ⟨List.mem_cons_of_mem _ h1, h2⟩
/-- behind a call: the callee's cells are what they became, each in its place; all others stay -/
theorem va_reweave {A0 : Nat → Prop} {D : va_G} {cl : List vw_C} {ws wc w1 w2 : va_W} {H H1 : Heap} (hP : va_P D cl ws H) (hD : va_D A0 ws) (ms : List Bool) (hC : pick ws ms = wc) (ha : w1.map Prod.fst = wc.map Prod.fst)
    (hk : ∀ q : Nat, q < H.size → ¬ va_A wc H.size q → H1[q]? = H[q]?) (hP1 : va_P D cl w1 H1) (hw : weave ws ms w1 = w2) : va_P D cl w2 H1 ∧ va_D A0 w2 := by
  subst hw
  subst hC
  have hD' := va_D_iff.mp hD
  refine ⟨va_P_iff.mpr (fun q hq => ?_), va_D_iff.mpr (by rw [weave_fst ws ms w1 ha]; exact hD')⟩
  rcases weave_or ws ms w1 ha hD'.1 q hq with h1 | ⟨h1, h2⟩
  · exact va_P_iff.mp hP1 q h1
  · have h3 := va_P_iff.mp hP q h1
    refine h3.kept (hk q.1 h3.lt ?_)
    rintro (⟨k, e, hk⟩ | h)
    · exact h2 (List.mem_map.mpr ⟨(q.1, e), List.mem_of_getElem? hk, rfl⟩)
    · exact absurd h3.lt (by omega)
section GM
variable {p : Program} {l : Launch} {e : Env} {R : Room} {s : State} {m : MethodId} {args : Array Value} {below : List Frame} {meth : Method} {c : Code} {H : Heap} {locs : List Loc} {cells slots : Nat} {Q : State → Prop}
variable {pc : Nat} {ls : Array Slot} {rest st0 : List Value} {D : va_G} {A : Nat → Prop} {ws wc w1 w2 : va_W} {H0 : Heap}
theorem gm_ci {r : Int32} {a : Array Value} (hrun : va_Run p l e R s m args below meth c H locs cells slots 0 0 (F0 m pc ls st0) rest (QI D (va_A wc H.size) r w1 a) (va_A wc H.size)) (hP : va_P D vwCl ws H) (hD : va_D A ws) (hS : va_S A H0 H locs) (hA : ∀ q, H0.size ≤ q → A q) (ms : List Bool) (hC : pick ws ms = wc) (ha : w1.map Prod.fst = wc.map Prod.fst) (hw : weave ws ms w1 = w2)
    (kk : ∀ (H1 : Heap) (locs1 : List Loc), va_P D vwCl w2 H1 → va_D A w2 → va_S A H0 H1 locs1 → W p l e R s m args below meth c H1 locs1 cells slots Q (F0 m (pc + 3) ls (.int r :: rest))) : W p l e R s m args below meth c H locs cells slots Q (F0 m pc ls st0) := by
  have hFc := pick_free hD hS hA ms hC
  refine va_calli hrun hS (fun q _ h => hFc q h) hFc (fun r' u t H1 locs1 ht hvm hp hB hz1 hk1 hS1 => ?_)
  obtain ⟨hP1, hD1⟩ := hB
  rw [ht] at hP1
  subst hp
  obtain ⟨hP2, hD2⟩ := va_reweave hP hD ms hC ha hk1 hP1 hw
  exact kk H1 locs1 hP2 hD2 hS1
theorem gm_cl {r : Int64} {a : Array Value} (hrun : va_Run p l e R s m args below meth c H locs cells slots 0 0 (F0 m pc ls st0) rest (QL D (va_A wc H.size) r w1 a) (va_A wc H.size)) (hP : va_P D vwCl ws H) (hD : va_D A ws) (hS : va_S A H0 H locs) (hA : ∀ q, H0.size ≤ q → A q) (ms : List Bool) (hC : pick ws ms = wc) (ha : w1.map Prod.fst = wc.map Prod.fst) (hw : weave ws ms w1 = w2)
    (kk : ∀ (H1 : Heap) (locs1 : List Loc), va_P D vwCl w2 H1 → va_D A w2 → va_S A H0 H1 locs1 → W p l e R s m args below meth c H1 locs1 cells slots Q (F0 m (pc + 3) ls (.long r :: rest))) : W p l e R s m args below meth c H locs cells slots Q (F0 m pc ls st0) := by
  have hFc := pick_free hD hS hA ms hC
  refine va_calll hrun hS (fun q _ h => hFc q h) hFc (fun r' u t H1 locs1 ht hvm hp hB hz1 hk1 hS1 => ?_)
  obtain ⟨hP1, hD1⟩ := hB
  rw [ht] at hP1
  subst hp
  obtain ⟨hP2, hD2⟩ := va_reweave hP hD ms hC ha hk1 hP1 hw
  exact kk H1 locs1 hP2 hD2 hS1
end GM
