/-! own base, second: what makes cells -/
/-- a constructor's end: these cells, at addresses that it chose -/
def QN (D : va_G) (A : Nat → Prop) (w1 : (Nat → Nat) → va_W) : Array Value → State → Outcome → State → Prop := va_Qv (S := Nat → Nat) (fun _ => True) (fun u t => va_P D vwCl (w1 u) t.heap ∧ va_D A (w1 u)) A
section GN
variable {p : Program} {l : Launch} {e : Env} {R : Room} {s : State} {m : MethodId} {args : Array Value} {below : List Frame} {meth : Method} {c : Code} {H : Heap} {locs : List Loc} {cells slots mc ms : Nat} {Q : State → Prop}
variable {cc : ByteArray} {pc : Nat} {ls : Array Slot} {rest st0 : List Value} {D : va_G} {A : Nat → Prop} {ws wc wr : va_W} {w1 : (Nat → Nat) → va_W} {H0 : Heap} {cI cJ cZ : ClassId}
theorem gn_ret (hexec : p.tables.exec = Jvm.exec) (hb : c.code = cc) (hr : meth.sig.returnType = none) (hlocks : meth.locks = false) (u : Nat → Nat) (hP : va_P D vwCl (w1 u) H) (hD : va_D A (w1 u)) (hS : va_S A s.heap H locs) (hdg : decode cc pc = .ok (.return_, 1)) : W p l e R s m args below meth c H locs cells slots (MQ below (QN D A w1) args s cells slots A) (F0 m pc ls []) :=
  W.vret hexec hb hr (fun t ht hW => ⟨⟨u, rfl, trivial, ⟨by rw [ht]; exact hP, hD⟩⟩, hS.F ht⟩) hS.2.2 hdg hlocks
theorem gn_c {a : Array Value} (hrun : va_Run p l e R s m args below meth c H locs cells slots mc ms (F0 m pc ls st0) rest (QN D (va_A wc H.size) w1 a) (va_A wc H.size)) (hP : va_P D vwCl ws H) (hD : va_D A ws) (hS : va_S A H0 H locs) (hA : ∀ q, H0.size ≤ q → A q) (isC isR : List Nat) (hC : isC.map (fun i => ws[i]?) = wc.map some) (hR : isR.map (fun i => ws[i]?) = wr.map some) (hn : va_nd isR = true) (hdis : ∀ i ∈ isR, i ∉ isC)
    (kk : ∀ (u : Nat → Nat) (H1 : Heap) (locs1 : List Loc), va_P D vwCl (wr ++ w1 u) H1 → va_D A (wr ++ w1 u) → va_S A H0 H1 locs1 → W p l e R s m args below meth c H1 locs1 (cells + mc) (slots + ms) Q (F0 m (pc + 3) ls rest)) : W p l e R s m args below meth c H locs cells slots Q (F0 m pc ls st0) := by
  have hFc := va_free hD hS hA isC hC
  refine va_callv hrun hS (fun q _ h => hFc q h) hFc (fun u t H1 locs1 ht hvm hp hB hz1 hk1 hS1 => ?_)
  obtain ⟨hP1, hD1⟩ := hB
  rw [ht] at hP1
  obtain ⟨hP2, hD2⟩ := va_join hP hD isC isR hC hR hn hdis hk1 hFc hP1 hD1
  exact kk u H1 locs1 hP2 hD2 hS1
variable {y : MethodName} {bytes : ByteArray} {maxL nL n index : Nat} {wsy ws' : List Cond} {rm : Room} {Qc : Array Value → State → Outcome → State → Prop} {free : Addr → Prop} {Ts : List Cond} {own host : String} {b : Addr} {As : List Value}
theorem gn_rI (S : CallFix p m c cc nL s args Ts own) (hM : Met l y wsy rm (PR D cI cJ cZ wc H.size (.ref b :: As)) Qc mc ms free) (hG : GoodIn Ts wsy) (hwy : wsy = Cond.code y bytes maxL none :: ws') (hrc : rm.cells = mc) (hrs : rm.slots = ms) (hini : Cond.initialized y.cls ∈ Ts) (hl : Cond.methodLink own index y ∈ Ts) (hin : Cond.instanceMethod y ∈ Ts) (hy1 : y.name = "<init>")
    (hd : y.cls ≠ "java/lang/invoke/MethodHandle" ∧ y.cls ≠ "java/lang/invoke/VarHandle" ∧ (parseMethodDescriptor y.desc).map (fun d => d.parameters.length) = some n) (hR : rm.frames + 1 ≤ R.frames ∧ 8 + (maxL + 11) + rm.locals ≤ R.locals)
    (hE : EV D cI cJ cZ s) (hPc : va_P D vwCl wc H) (hDc : va_D A wc)
    (hn : As.length = n) (hsize : ls.size = nL) (hstack : st0 = As.reverse ++ .ref b :: rest) (hW : (rest.map fun v => v.category).sum ≤ 8) (hdg : decode cc pc = .ok (.invokespecial index, 3)) (hf : cells + mc ≤ R.cells ∧ slots + ms ≤ R.slots) :
    va_Run p l e R s m args below meth c H locs cells slots mc ms (F0 m pc ls st0) rest (Qc (Value.ref b :: As).toArray) free :=
  va_runI S hM (cwI n S.2.2.2.2 hG hwy hrc hrs (S.2.2.2.2 _ hini) (S.2.2.2.2 _ hl) (S.2.2.2.2 _ hin) hy1 hd hR) ⟨PR_blind, PR_of hPc hDc hE⟩ rfl hn hsize hstack (lv_room (rest := st0) hW) hdg hf
theorem gn_rIN (S : CallFix p m c cc nL s args Ts own) (hM : Met l y wsy rm (PR D cI cJ cZ wc H.size (.ref b :: As)) Qc mc ms free) (hG : GoodIn Ts wsy) (hwy : wsy = Cond.code y bytes maxL none :: ws') (hrc : rm.cells = mc) (hrs : rm.slots = ms) (hnl : Cond.methodLinkNest own index y host ∈ nwL) (hini : Cond.initialized y.cls ∈ Ts) (hin : Cond.instanceMethod y ∈ Ts) (hy1 : y.name = "<init>")
    (hd : y.cls ≠ "java/lang/invoke/MethodHandle" ∧ y.cls ≠ "java/lang/invoke/VarHandle" ∧ (parseMethodDescriptor y.desc).map (fun d => d.parameters.length) = some n) (hR : rm.frames + 1 ≤ R.frames ∧ 8 + (maxL + 11) + rm.locals ≤ R.locals)
    (hE : EV D cI cJ cZ s) (hPc : va_P D vwCl wc H) (hDc : va_D A wc)
    (hn : As.length = n) (hsize : ls.size = nL) (hstack : st0 = As.reverse ++ .ref b :: rest) (hW : (rest.map fun v => v.category).sum ≤ 8) (hdg : decode cc pc = .ok (.invokespecial index, 3)) (hf : cells + mc ≤ R.cells ∧ slots + ms ≤ R.slots) :
    va_Run p l e R s m args below meth c H locs cells slots mc ms (F0 m pc ls st0) rest (Qc (Value.ref b :: As).toArray) free :=
  va_runIN S hM ⟨va_cnB n S.2.2.2.2 hG hwy hrc hrs (hE.2 _ hnl) (S.2.2.2.2 _ hini) hd hR, hy1, S.2.2.2.2 _ hin⟩ ⟨PR_blind, PR_of hPc hDc hE⟩ rfl hn hsize hstack (lv_room (rest := st0) hW) hdg hf
theorem gn_same {cA cB : ClassId} {ty : FieldType} (h1 : s.vm.findClass ("[" ++ ty.toString) = some cA) (h2 : s.vm.findClass ("[" ++ ty.toString) = some cB) : cA = cB := Option.some.inj (h1.symm.trans h2)
theorem gn_int (hexec : p.tables.exec = Jvm.exec) (hb : c.code = cc) (harr : (Cond.arrayClass .int).before args s = true) (hE : EV D cI cJ cZ s) (hP : va_P D vwCl ws H) (hD : va_D A ws) (hS : va_S A H0 H locs) (hA : ∀ q, H0.size ≤ q → A q)
    {k : Int32} {N : Nat} (hn : ¬ k < 0) (hN : k.toNatClampNeg = N) (hbytes : N * componentBytes .int ≤ 536870912) (hcells : cells + 1 ≤ R.cells) (hslots : slots + N ≤ R.slots) (hdg : decode cc pc = .ok (.newarray .int, 2))
    (kk : ∀ (q : Nat) (H1 : Heap), va_P D vwCl (ws ++ [(q, .inl (cI, N, .inl (fun _ => 0)))]) H1 → va_D A (ws ++ [(q, .inl (cI, N, .inl (fun _ => 0)))]) → va_S A H0 H1 locs →
      W p l e R s m args below meth c H1 locs (cells + 1) (slots + N) Q (F0 m (pc + 2) ls (.ref q :: rest))) : W p l e R s m args below meth c H locs cells slots Q (F0 m pc ls (.int k :: rest)) := by
  refine va_newa hexec hb (atype := .int) harr (ty := .int) rfl hE.1 hP hD hS hA (a0 := (N, .inl (fun _ => 0))) (fun _ => rfl) hn hN hbytes hcells hslots hdg (fun q cA H1 hK hP hD hS => ?_)
  have e : cA = cI := gn_same (ty := .int) (hK.2 3 _ rfl).2 (hE.1.2 0 _ rfl).2
  subst e
  exact kk q H1 hP hD hS
theorem gn_long (hexec : p.tables.exec = Jvm.exec) (hb : c.code = cc) (harr : (Cond.arrayClass .long).before args s = true) (hE : EV D cI cJ cZ s) (hP : va_P D vwCl ws H) (hD : va_D A ws) (hS : va_S A H0 H locs) (hA : ∀ q, H0.size ≤ q → A q)
    {k : Int32} {N : Nat} (hn : ¬ k < 0) (hN : k.toNatClampNeg = N) (hbytes : N * componentBytes .long ≤ 536870912) (hcells : cells + 1 ≤ R.cells) (hslots : slots + N ≤ R.slots) (hdg : decode cc pc = .ok (.newarray .long, 2))
    (kk : ∀ (q : Nat) (H1 : Heap), va_P D vwCl (ws ++ [(q, .inl (cJ, N, .inr (.inl (fun _ => 0))))]) H1 → va_D A (ws ++ [(q, .inl (cJ, N, .inr (.inl (fun _ => 0))))]) → va_S A H0 H1 locs →
      W p l e R s m args below meth c H1 locs (cells + 1) (slots + N) Q (F0 m (pc + 2) ls (.ref q :: rest))) : W p l e R s m args below meth c H locs cells slots Q (F0 m pc ls (.int k :: rest)) := by
  refine va_newa hexec hb (atype := .long) harr (ty := .long) rfl hE.1 hP hD hS hA (a0 := (N, .inr (.inl (fun _ => 0)))) (fun _ => rfl) hn hN hbytes hcells hslots hdg (fun q cA H1 hK hP hD hS => ?_)
  have e : cA = cJ := gn_same (ty := .long) (hK.2 3 _ rfl).2 (hE.1.2 1 _ rfl).2
  subst e
  exact kk q H1 hP hD hS
theorem gn_bool (hexec : p.tables.exec = Jvm.exec) (hb : c.code = cc) (harr : (Cond.arrayClass .boolean).before args s = true) (hE : EV D cI cJ cZ s) (hP : va_P D vwCl ws H) (hD : va_D A ws) (hS : va_S A H0 H locs) (hA : ∀ q, H0.size ≤ q → A q)
    {k : Int32} {N : Nat} (hn : ¬ k < 0) (hN : k.toNatClampNeg = N) (hbytes : N * componentBytes .boolean ≤ 536870912) (hcells : cells + 1 ≤ R.cells) (hslots : slots + N ≤ R.slots) (hdg : decode cc pc = .ok (.newarray .boolean, 2))
    (kk : ∀ (q : Nat) (H1 : Heap), va_P D vwCl (ws ++ [(q, .inl (cZ, N, .inl (fun _ => 0)))]) H1 → va_D A (ws ++ [(q, .inl (cZ, N, .inl (fun _ => 0)))]) → va_S A H0 H1 locs →
      W p l e R s m args below meth c H1 locs (cells + 1) (slots + N) Q (F0 m (pc + 2) ls (.ref q :: rest))) : W p l e R s m args below meth c H locs cells slots Q (F0 m pc ls (.int k :: rest)) := by
  refine va_newa hexec hb (atype := .boolean) harr (ty := .boolean) rfl hE.1 hP hD hS hA (a0 := (N, .inl (fun _ => 0))) (fun _ => rfl) hn hN hbytes hcells hslots hdg (fun q cA H1 hK hP hD hS => ?_)
  have e : cA = cZ := gn_same (ty := .boolean) (hK.2 3 _ rfl).2 (hE.1.2 2 _ rfl).2
  subst e
  exact kk q H1 hP hD hS
end GN
