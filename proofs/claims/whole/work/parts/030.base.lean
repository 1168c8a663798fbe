/-! own base: table facts that all contracts carry, guards of the pure functions, call rows -/
abbrev TY (cI cJ cZ : ClassId) : List (ClassId × FieldType) := [(cI, .int), (cJ, .long), (cZ, .boolean)]
def nwL : List Cond := [.methodLinkNest RX9 9 yX3_init RX9, .methodLinkNest RX3 9 yX6_init RX9, .methodLinkNest RX3 25 yX7_init RX9, .methodLinkNest RX9 24 yX1_init RX9, .methodLinkNest RX9 31 yX4_init RX9, .methodLinkNest RX4 11 yX6_init RX9, .methodLinkNest RX9 38 yX5_init RX9, .methodLinkNest RX9 45 yX8_init RX9, .methodLinkNest RX6 52 yX9_isGlobe RX9, .methodLinkNest RX1 31 yX9_isGlobe RX9]
def nwOk (w : Cond) : Prop := ∃ (a : String) (i : Nat) (x : MethodName) (h : String), w = .methodLinkNest a i x h
theorem nwL_ok : ∀ w ∈ nwL, nwOk w := by
  intro w hw
  simp only [nwL, List.mem_cons, List.not_mem_nil, or_false] at hw
  rcases hw with rfl | rfl | rfl | rfl | rfl | rfl | rfl | rfl | rfl | rfl <;> exact ⟨_, _, _, _, rfl⟩
def NW (U : State) : Prop := ∀ w ∈ nwL, va_Nw w U
theorem NW_warm {s U : State} (hW : s.WarmedH U.vm) (h : NW s) : NW U := by
  intro w hw
  obtain ⟨a, i, x, hh, rfl⟩ := nwL_ok w hw
  exact va_Nw.warmM hW (h _ hw)
theorem NW_same {u U : State} (e : u.vm = U.vm) (h : NW u) : NW U := by
  intro w hw
  obtain ⟨a, i, x, hh, rfl⟩ := nwL_ok w hw
  exact va_Nw.same rfl e (h _ hw)
def EV (D : va_G) (cI cJ cZ : ClassId) (U : State) : Prop := va_K D vwCl (TY cI cJ cZ) U ∧ NW U
theorem EV_warm {D : va_G} {cI cJ cZ : ClassId} {s U : State} (hW : s.WarmedH U.vm) (h : EV D cI cJ cZ s) : EV D cI cJ cZ U := ⟨va_K.moved hW.alike h.1, NW_warm hW h.2⟩
theorem EV_calling {D : va_G} {cI cJ cZ : ClassId} {U : State} {g : JFrame} {mk : MethodId} {a : Array Value} (h : EV D cI cJ cZ U) : EV D cI cJ cZ (U.calling g mk a) := ⟨va_K.moved (u := U) (U := U.calling g mk a) (Vm.Alike.refl U.vm) h.1, NW_same (u := U) (U := U.calling g mk a) rfl h.2⟩
/-- a contract's start: the cells wc, the tables -/
def PR (D : va_G) (cI cJ cZ : ClassId) (wc : va_W) (sz : Nat) (av : List Value) : Array Value → State → Prop := va_Pc av (fun U => U.heap.size = sz ∧ va_P D vwCl wc U.heap ∧ va_D (fun _ => True) wc ∧ EV D cI cJ cZ U)
theorem PR_blind {D : va_G} {cI cJ cZ : ClassId} {wc : va_W} {sz : Nat} {av : List Value} : FrameBlind (PR D cI cJ cZ wc sz av) := by
  intro a U g mk q
  obtain ⟨q0, q1, qP, qD, qE⟩ := q
  exact ⟨q0, q1, qP, qD, EV_calling qE⟩
theorem PR_of {D : va_G} {cI cJ cZ : ClassId} {wc : va_W} {av : List Value} {A : Nat → Prop} {s : State} {H : Heap} (hP : va_P D vwCl wc H) (hD : va_D A wc) (hE : EV D cI cJ cZ s) : ∀ U : State, U.heap = H → s.WarmedH U.vm → PR D cI cJ cZ wc H.size av av.toArray U :=
  fun U hU hW => ⟨rfl, by rw [hU], by rw [hU]; exact hP, hD.weaken (fun _ _ _ _ => trivial), EV_warm hW hE⟩
/-- a contract's end: this answer, these cells -/
def QI (D : va_G) (A : Nat → Prop) (r : Int32) (w1 : va_W) : Array Value → State → Outcome → State → Prop := va_Qi (S := Unit) (fun r' _ => r' = r) (fun _ t => va_P D vwCl w1 t.heap ∧ va_D A w1) A
def QL (D : va_G) (A : Nat → Prop) (r : Int64) (w1 : va_W) : Array Value → State → Outcome → State → Prop := va_Ql (S := Unit) (fun r' _ => r' = r) (fun _ t => va_P D vwCl w1 t.heap ∧ va_D A w1) A
def QV (D : va_G) (A : Nat → Prop) (w1 : va_W) : Array Value → State → Outcome → State → Prop := va_Qv (S := Unit) (fun _ => True) (fun _ t => va_P D vwCl w1 t.heap ∧ va_D A w1) A
/-! pure helpers -/
def jrem (x y : Int32) : Int32 := x - x / y * y
def jremL (x y : Int64) : Int64 := x - x / y * y
def jushr (x y : Int32) : Int32 := (x.toUInt32 >>> (y.toUInt32 &&& Int32.toUInt32 31)).toInt32
def jmax (x y : Int32) : Int32 := if x < y then y else x
def jmin (x y : Int32) : Int32 := if y < x then y else x
def jabs (x : Int32) : Int32 := if 0 ≤ x then x else 0 - x
def jinb (i : Int32) (n : Nat) : Bool := !(decide (i < 0) || decide (n ≤ i.toNatClampNeg))
/-- an index that must be within: nothing, if it is not -/
def gin {α : Type} (i : Int32) (n : Nat) (k : Option α) : Option α := if jinb i n = true then k else none
def gne {α : Type} (y : Int32) (k : Option α) : Option α := if y = 0 then none else k
def gneL {α : Type} (y : Int64) (k : Option α) : Option α := if y = 0 then none else k
def gbl {α : Type} (y : Int32) (k : Option α) : Option α := if y = 0 ∨ y = 1 then k else none
theorem jinb_in {i : Int32} {n : Nat} (h : jinb i n = true) : vp_in i n := by
  intro q
  unfold jinb at h
  rcases q with q | q <;> simp [q] at h
theorem gin_some {α : Type} {i : Int32} {n : Nat} {k : Option α} {res : α} (h : gin i n k = some res) : vp_in i n ∧ k = some res := by
  unfold gin at h
  by_cases c : jinb i n = true
  · rw [if_pos c] at h
    exact ⟨jinb_in c, h⟩
  · rw [if_neg c] at h
    cases h
theorem gne_some {α : Type} {y : Int32} {k : Option α} {res : α} (h : gne y k = some res) : ¬ y = 0 ∧ k = some res := by
  unfold gne at h
  by_cases c : y = 0
  · rw [if_pos c] at h
    cases h
  · rw [if_neg c] at h
    exact ⟨c, h⟩
theorem gneL_some {α : Type} {y : Int64} {k : Option α} {res : α} (h : gneL y k = some res) : ¬ y = 0 ∧ k = some res := by
  unfold gneL at h
  by_cases c : y = 0
  · rw [if_pos c] at h
    cases h
  · rw [if_neg c] at h
    exact ⟨c, h⟩
theorem gbl_some {α : Type} {y : Int32} {k : Option α} {res : α} (h : gbl y k = some res) : narrow .boolean (.int y) = .int y ∧ k = some res := by
  unfold gbl at h
  by_cases c : y = 0 ∨ y = 1
  · rw [if_pos c] at h
    refine ⟨?_, h⟩
    rcases c with rfl | rfl <;> decide +kernel
  · rw [if_neg c] at h
    cases h
theorem if_t {α : Type} {c : Prop} [Decidable c] {x y : Option α} {res : α} (hc : c) (h : (if c then x else y) = some res) : x = some res := by
  rw [if_pos hc] at h
  exact h
theorem if_f {α : Type} {c : Prop} [Decidable c] {x y : Option α} {res : α} (hc : ¬ c) (h : (if c then x else y) = some res) : y = some res := by
  rw [if_neg hc] at h
  exact h
section GW
variable {p : Program} {l : Launch} {e : Env} {R : Room} {s : State} {m : MethodId} {args : Array Value} {below : List Frame} {meth : Method} {c : Code} {H : Heap} {locs : List Loc} {cells slots : Nat} {Q : State → Prop}
variable {cc : ByteArray} {pc : Nat} {ls : Array Slot} {rest st0 : List Value} {D : va_G} {A : Nat → Prop} {ws wc wr w1 w2 : va_W} {H0 : Heap} {cI cJ cZ : ClassId}
theorem gw_irem (hexec : p.tables.exec = Jvm.exec) (hb : c.code = cc) {x y : Int32} (hdg : decode cc pc = .ok (.irem, 1)) (hne : ¬ y = 0)
    (k : W p l e R s m args below meth c H locs cells slots Q (F0 m (pc + 1) ls (.int (jrem x y) :: rest))) : W p l e R s m args below meth c H locs cells slots Q (F0 m pc ls (.int y :: .int x :: rest)) := lv_irem hexec hb hdg hne k
theorem gw_lrem (hexec : p.tables.exec = Jvm.exec) (hb : c.code = cc) {x y : Int64} (hdg : decode cc pc = .ok (.lrem, 1)) (hne : ¬ y = 0)
    (k : W p l e R s m args below meth c H locs cells slots Q (F0 m (pc + 1) ls (.long (jremL x y) :: rest))) : W p l e R s m args below meth c H locs cells slots Q (F0 m pc ls (.long y :: .long x :: rest)) := lv_lrem hexec hb hdg hne k
theorem gw_iret (hexec : p.tables.exec = Jvm.exec) (hb : c.code = cc) (hr : meth.sig.returnType = some .int) (hlocks : meth.locks = false) {v : Int32} (hP : va_P D vwCl w1 H) (hD : va_D A w1) (hS : va_S A s.heap H locs) (hdg : decode cc pc = .ok (.ireturn, 1)) : W p l e R s m args below meth c H locs cells slots (MQ below (QI D A v w1) args s cells slots A) (F0 m pc ls [.int v]) :=
  W.iret hexec hb hr (fun t ht hW => ⟨⟨v, (), rfl, rfl, by rw [ht]; exact ⟨hP, hD⟩⟩, hS.F ht⟩) hS.2.2 hdg hlocks
theorem gw_zret (hexec : p.tables.exec = Jvm.exec) (hb : c.code = cc) (hr : meth.sig.returnType = some .boolean) (hlocks : meth.locks = false) {v : Int32} (hn : narrow .boolean (.int v) = .int v) (hP : va_P D vwCl w1 H) (hD : va_D A w1) (hS : va_S A s.heap H locs) (hdg : decode cc pc = .ok (.ireturn, 1)) : W p l e R s m args below meth c H locs cells slots (MQ below (QI D A v w1) args s cells slots A) (F0 m pc ls [.int v]) :=
  W.zret hexec hb hr hn (fun t ht hW => ⟨⟨v, (), rfl, rfl, by rw [ht]; exact ⟨hP, hD⟩⟩, hS.F ht⟩) hS.2.2 hdg hlocks
theorem gw_lret (hexec : p.tables.exec = Jvm.exec) (hb : c.code = cc) (hr : meth.sig.returnType = some .long) (hlocks : meth.locks = false) {v : Int64} (hP : va_P D vwCl w1 H) (hD : va_D A w1) (hS : va_S A s.heap H locs) (hdg : decode cc pc = .ok (.lreturn, 1)) : W p l e R s m args below meth c H locs cells slots (MQ below (QL D A v w1) args s cells slots A) (F0 m pc ls [.long v]) :=
  W.lret hexec hb hr (fun t ht hW => ⟨⟨v, (), rfl, rfl, by rw [ht]; exact ⟨hP, hD⟩⟩, hS.F ht⟩) hS.2.2 hdg hlocks
theorem gw_vret (hexec : p.tables.exec = Jvm.exec) (hb : c.code = cc) (hr : meth.sig.returnType = none) (hlocks : meth.locks = false) (hP : va_P D vwCl w1 H) (hD : va_D A w1) (hS : va_S A s.heap H locs) (hdg : decode cc pc = .ok (.return_, 1)) : W p l e R s m args below meth c H locs cells slots (MQ below (QV D A w1) args s cells slots A) (F0 m pc ls []) :=
  W.vret hexec hb hr (fun t ht hW => ⟨⟨(), rfl, trivial, by rw [ht]; exact ⟨hP, hD⟩⟩, hS.F ht⟩) hS.2.2 hdg hlocks
theorem gw_ci {r : Int32} {a : Array Value} (hrun : va_Run p l e R s m args below meth c H locs cells slots 0 0 (F0 m pc ls st0) rest (QI D (va_A wc H.size) r w1 a) (va_A wc H.size)) (hP : va_P D vwCl ws H) (hD : va_D A ws) (hS : va_S A H0 H locs) (hA : ∀ q, H0.size ≤ q → A q) (isC isR : List Nat) (hC : isC.map (fun i => ws[i]?) = wc.map some) (hR : isR.map (fun i => ws[i]?) = wr.map some) (hn : va_nd isR = true) (hdis : ∀ i ∈ isR, i ∉ isC) (hw : wr ++ w1 = w2)
    (kk : ∀ (H1 : Heap) (locs1 : List Loc), va_P D vwCl w2 H1 → va_D A w2 → va_S A H0 H1 locs1 → W p l e R s m args below meth c H1 locs1 cells slots Q (F0 m (pc + 3) ls (.int r :: rest))) : W p l e R s m args below meth c H locs cells slots Q (F0 m pc ls st0) := by
  have hFc := va_free hD hS hA isC hC
  refine va_calli hrun hS (fun q _ h => hFc q h) hFc (fun r' u t H1 locs1 ht hvm hp hB hz1 hk1 hS1 => ?_)
  obtain ⟨hP1, hD1⟩ := hB
  rw [ht] at hP1
  subst hp
  subst hw
  obtain ⟨hP2, hD2⟩ := va_join hP hD isC isR hC hR hn hdis hk1 hFc hP1 hD1
  exact kk H1 locs1 hP2 hD2 hS1
theorem gw_cl {r : Int64} {a : Array Value} (hrun : va_Run p l e R s m args below meth c H locs cells slots 0 0 (F0 m pc ls st0) rest (QL D (va_A wc H.size) r w1 a) (va_A wc H.size)) (hP : va_P D vwCl ws H) (hD : va_D A ws) (hS : va_S A H0 H locs) (hA : ∀ q, H0.size ≤ q → A q) (isC isR : List Nat) (hC : isC.map (fun i => ws[i]?) = wc.map some) (hR : isR.map (fun i => ws[i]?) = wr.map some) (hn : va_nd isR = true) (hdis : ∀ i ∈ isR, i ∉ isC) (hw : wr ++ w1 = w2)
    (kk : ∀ (H1 : Heap) (locs1 : List Loc), va_P D vwCl w2 H1 → va_D A w2 → va_S A H0 H1 locs1 → W p l e R s m args below meth c H1 locs1 cells slots Q (F0 m (pc + 3) ls (.long r :: rest))) : W p l e R s m args below meth c H locs cells slots Q (F0 m pc ls st0) := by
  have hFc := va_free hD hS hA isC hC
  refine va_calll hrun hS (fun q _ h => hFc q h) hFc (fun r' u t H1 locs1 ht hvm hp hB hz1 hk1 hS1 => ?_)
  obtain ⟨hP1, hD1⟩ := hB
  rw [ht] at hP1
  subst hp
  subst hw
  obtain ⟨hP2, hD2⟩ := va_join hP hD isC isR hC hR hn hdis hk1 hFc hP1 hD1
  exact kk H1 locs1 hP2 hD2 hS1
theorem gw_cv {a : Array Value} (hrun : va_Run p l e R s m args below meth c H locs cells slots 0 0 (F0 m pc ls st0) rest (QV D (va_A wc H.size) w1 a) (va_A wc H.size)) (hP : va_P D vwCl ws H) (hD : va_D A ws) (hS : va_S A H0 H locs) (hA : ∀ q, H0.size ≤ q → A q) (isC isR : List Nat) (hC : isC.map (fun i => ws[i]?) = wc.map some) (hR : isR.map (fun i => ws[i]?) = wr.map some) (hn : va_nd isR = true) (hdis : ∀ i ∈ isR, i ∉ isC) (hw : wr ++ w1 = w2)
    (kk : ∀ (H1 : Heap) (locs1 : List Loc), va_P D vwCl w2 H1 → va_D A w2 → va_S A H0 H1 locs1 → W p l e R s m args below meth c H1 locs1 cells slots Q (F0 m (pc + 3) ls rest)) : W p l e R s m args below meth c H locs cells slots Q (F0 m pc ls st0) := by
  have hFc := va_free hD hS hA isC hC
  refine va_callv hrun hS (fun q _ h => hFc q h) hFc (fun u t H1 locs1 ht hvm hp hB hz1 hk1 hS1 => ?_)
  obtain ⟨hP1, hD1⟩ := hB
  rw [ht] at hP1
  subst hw
  obtain ⟨hP2, hD2⟩ := va_join hP hD isC isR hC hR hn hdis hk1 hFc hP1 hD1
  exact kk H1 locs1 hP2 hD2 hS1
variable {y : MethodName} {bytes : ByteArray} {maxL nL n index : Nat} {ret : Option FieldType} {wsy ws' : List Cond} {rm : Room} {Qc : Array Value → State → Outcome → State → Prop} {free : Addr → Prop} {Ts : List Cond} {own C host : String} {b : Addr} {As : List Value}
theorem gw_rV (S : CallFix p m c cc nL s args Ts own) (hM : Met l y wsy rm (PR D cI cJ cZ wc H.size (.ref b :: As)) Qc 0 0 free) (hG : GoodIn Ts (wsV own index C y wsy)) (hwy : wsy = Cond.code y bytes maxL ret :: ws') (hrc : rm.cells = 0) (hrs : rm.slots = 0)
    (hd : C ≠ "java/lang/invoke/MethodHandle" ∧ C ≠ "java/lang/invoke/VarHandle" ∧ y.cls = C ∧ (parseMethodDescriptor y.desc).map (fun d => d.parameters.length) = some n) (hR : rm.frames + 1 ≤ R.frames ∧ 8 + (maxL + 11) + rm.locals ≤ R.locals)
    (hE : EV D cI cJ cZ s) (hPc : va_P D vwCl wc H) (hDc : va_D A wc) (ci : Nat) {T : u_T} {N : Nat} (hcl : vwCl[ci]? = some (C, T, N)) (q0 : Nat) {fs : List Value} (he : wc[q0]? = some (b, .inr (ci, fs)))
    (hn : As.length = n) (hsize : ls.size = nL) (hstack : st0 = As.reverse ++ .ref b :: rest) (hW : (rest.map fun v => v.category).sum ≤ 8) (hdg : decode cc pc = .ok (.invokevirtual index, 3)) (hf : cells ≤ R.cells ∧ slots ≤ R.slots) :
    va_Run p l e R s m args below meth c H locs cells slots 0 0 (F0 m pc ls st0) rest (Qc (Value.ref b :: As).toArray) free := by
  obtain ⟨hd1, hd2, rfl, hd3⟩ := hd
  exact va_runV (C := y.cls) S hM (cwV n S.2.2.2.2 hG hwy hrc hrs ⟨hd1, hd2, hd3⟩ hR) ⟨PR_blind, va_recv hE.1 hPc hcl he, PR_of hPc hDc hE⟩ rfl hn hsize hstack (lv_room (rest := st0) hW) hdg hf
theorem gw_rS (S : CallFix p m c cc nL s args Ts own) (hM : Met l y wsy rm (PR D cI cJ cZ wc H.size As) Qc 0 0 free) (hG : GoodIn Ts (va_wsS own index y wsy)) (hwy : wsy = Cond.code y bytes maxL ret :: ws') (hrc : rm.cells = 0) (hrs : rm.slots = 0)
    (hd : y.cls ≠ "java/lang/invoke/MethodHandle" ∧ y.cls ≠ "java/lang/invoke/VarHandle" ∧ (parseMethodDescriptor y.desc).map (fun d => d.parameters.length) = some n) (hR : rm.frames + 1 ≤ R.frames ∧ 8 + (maxL + 11) + rm.locals ≤ R.locals)
    (hE : EV D cI cJ cZ s) (hPc : va_P D vwCl wc H) (hDc : va_D A wc)
    (hn : As.length = n) (hsize : ls.size = nL) (hstack : st0 = As.reverse ++ rest) (hW : (rest.map fun v => v.category).sum ≤ 8) (hdg : decode cc pc = .ok (.invokestatic index, 3)) (hf : cells ≤ R.cells ∧ slots ≤ R.slots) :
    va_Run p l e R s m args below meth c H locs cells slots 0 0 (F0 m pc ls st0) rest (Qc As.toArray) free :=
  va_runS S hM (va_cwS n S.2.2.2.2 hG hwy hrc hrs hd hR) ⟨PR_blind, PR_of hPc hDc hE⟩ rfl hn hsize hstack (lv_room (rest := st0) hW) hdg hf
theorem gw_rSN (S : CallFix p m c cc nL s args Ts own) (hM : Met l y wsy rm (PR D cI cJ cZ wc H.size As) Qc 0 0 free) (hG : GoodIn Ts wsy) (hwy : wsy = Cond.code y bytes maxL ret :: ws') (hrc : rm.cells = 0) (hrs : rm.slots = 0) (hnl : Cond.methodLinkNest own index y host ∈ nwL) (hini : Cond.initialized y.cls ∈ Ts) (hstt : Cond.static y ∈ Ts)
    (hd : y.cls ≠ "java/lang/invoke/MethodHandle" ∧ y.cls ≠ "java/lang/invoke/VarHandle" ∧ (parseMethodDescriptor y.desc).map (fun d => d.parameters.length) = some n) (hR : rm.frames + 1 ≤ R.frames ∧ 8 + (maxL + 11) + rm.locals ≤ R.locals)
    (hE : EV D cI cJ cZ s) (hPc : va_P D vwCl wc H) (hDc : va_D A wc)
    (hn : As.length = n) (hsize : ls.size = nL) (hstack : st0 = As.reverse ++ rest) (hW : (rest.map fun v => v.category).sum ≤ 8) (hdg : decode cc pc = .ok (.invokestatic index, 3)) (hf : cells ≤ R.cells ∧ slots ≤ R.slots) :
    va_Run p l e R s m args below meth c H locs cells slots 0 0 (F0 m pc ls st0) rest (Qc As.toArray) free :=
  va_runSN S hM ⟨va_cnB n S.2.2.2.2 hG hwy hrc hrs (hE.2 _ hnl) (S.2.2.2.2 _ hini) hd hR, S.2.2.2.2 _ hstt, trivial⟩ ⟨PR_blind, PR_of hPc hDc hE⟩ rfl hn hsize hstack (lv_room (rest := st0) hW) hdg hf
end GW
