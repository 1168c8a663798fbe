def L_X0_power_5 (p0 : Int64) (p2 : Int32) : Nat → Int64 → Int32 → Option (Int64)
  | 0, _, _ => none
  | n + 1, x3, x5 => (if p2 ≤ x5 then (some x3) else ((L_X0_power_5 p0 p2 n) (x3 * p0) (x5 + (1 : Int32))))
def f_X0_power (p0 : Int64) (p2 : Int32) : Option (Int64) := (L_X0_power_5 p0 p2 FU (1 : Int64) (0 : Int32))
abbrev rm_X0_power : Room := { frames := 0, cells := 0, slots := 0, locals := 0 }
set_option maxHeartbeats 4000000 in
set_option maxRecDepth 100000 in
theorem C_X0_power (l : Launch) (D : va_G) (cI cJ cZ : ClassId) (sz : Nat) (p0 : Int64) (p2 : Int32) (r : Int64) (hf : f_X0_power p0 p2 = some r) : Met l yX0_power wsX0_power rm_X0_power (PR D cI cJ cZ [] sz [.long p0, .int p2]) (QL D (va_A [] sz) r []) 0 0 (va_A [] sz) := by
  refine Met.ofW (cc := cX0_power) (maxL := 6) (ret := (some .long)) (by decide) rfl ?_
  intro p e s m args below meth c s₁ B hml hv
  obtain ⟨hav, hsz, hP, hD0, hE⟩ := hv
  have hx := B.exec
  have hb := B.bytes
  have hr := B.returns
  have hts := atoms_spec (ws := wsX0_power) B.pre
  have hown : s.vm.findClass RX0 = some m.cls := findClass_of_methodNamed B.named
  have hlocks := B.notSynchronized
  subst hsz
  have hD := hD0.self (sz := s.heap.size)
  generalize hAe : va_A [] s.heap.size = A at hD ⊢
  have hA : ∀ q : Nat, s.heap.size ≤ q → A q := fun q h => by rw [← hAe]; exact Or.inr h
  have hS : va_S A s.heap s.heap [] := va_S.rf
  have hl := lv_entry ([.long p0, .int p2]) (n := 6) (Nat.le_of_ble_eq_true rfl)
  have hfr : entryFrame m args 6 = entryFrame m ([.long p0, .int p2] : List Value).toArray 6 := by rw [hav]
  rw [hfr, lg_entry_eq]
  generalize (lg_sl ([.long p0, .int p2]) ++ List.replicate (6 - (lg_sl ([.long p0, .int p2])).length) Slot.unset).toArray = ls at hl ⊢
  have hl : lv_has ls 6 [(0, .long p0), (2, .int p2)] := hl
  obtain ⟨QQ, hQQ⟩ : ∃ QQ, QQ = MQ below (QL D A r []) args s 0 0 A := ⟨_, rfl⟩
  show W p l e rm_X0_power s m args below meth c s.heap [] 0 0 _ _
  rw [← hQQ]
  have hL5 : ∀ (n5 : Nat), ∀ (x3 : Int64) (x5 : Int32) (H : Heap) (locs : List Loc) (ls : Array Slot), va_P D vwCl [] H → va_D A [] → va_S A s.heap H locs → lv_has ls 6 [(0, .long p0), (2, .int p2), (3, .long x3), (5, .int x5)] → L_X0_power_5 p0 p2 n5 x3 x5 = some r → W p l e rm_X0_power s m args below meth c H locs 0 0 QQ (F0 m 5 ls []) := by
    intro n5
    induction n5 with
    | zero =>
      intro x3 x5 H locs ls hP hD hS hl h
      have h : none = some r := h
      cases h
    | succ n5 ih5 =>
      intro x3 x5 H locs ls hP hD hS hl h
      rw [L_X0_power_5.eq_2] at h
      refine lv_iload hx hb dX0_power_5 (lv_at hl 3 rfl) ?_
      refine lv_iload_n hx hb dX0_power_7 rfl (lv_at hl 1 rfl) ?_
      refine lv_icmp_ge (tgt := 21) hx hb dX0_power_8 (by decide) (fun hc => ?_) (fun hc => ?_)
      · have h := if_t hc h
        refine lv_lload_n hx hb dX0_power_21 rfl (lv_at hl 2 rfl) ?_
        cases h
        rw [hQQ]
        exact gw_lret hx hb hr hlocks hP hD hS dX0_power_22
      · have h := if_f hc h
        refine lv_lload_n hx hb dX0_power_11 rfl (lv_at hl 2 rfl) ?_
        refine lv_lload_n hx hb dX0_power_12 rfl (lv_at hl 0 rfl) ?_
        refine lv_lmul hx hb dX0_power_13 ?_
        refine lv_lstore_n (lv' := [(3, .long (x3 * p0)), (0, .long p0), (2, .int p2), (5, .int x5)]) hx hb dX0_power_14 rfl hl (by decide) rfl (fun ls hl => ?_)
        refine lv_iinc (v := (x5 + (1 : Int32))) (lv' := [(5, .int (x5 + (1 : Int32))), (3, .long (x3 * p0)), (0, .long p0), (2, .int p2)]) hx hb dX0_power_15 hl (k := 3) rfl rfl (by decide) rfl (fun ls hl => ?_)
        refine lv_goto (tgt := 5) hx hb dX0_power_18 (by decide) ?_
        exact ih5 (x3 * p0) (x5 + (1 : Int32)) H locs ls hP hD hS (lv_sub hl [2, 3, 1, 0] rfl) h
  have h := hf
  unfold f_X0_power at h
  refine gw_start hP hD hS (fun H locs hP hD hS => ?_)
  refine lv_lconst (v := 1) hx hb dX0_power_0 (by decide) ?_
  refine lv_lstore_n (lv' := [(3, .long (1 : Int64)), (0, .long p0), (2, .int p2)]) hx hb dX0_power_1 rfl hl (by decide) rfl (fun ls hl => ?_)
  refine lv_iconst (v := 0) hx hb dX0_power_2 (by decide) ?_
  refine lv_istore (lv' := [(5, .int (0 : Int32)), (3, .long (1 : Int64)), (0, .long p0), (2, .int p2)]) hx hb dX0_power_3 hl (by decide) rfl (fun ls hl => ?_)
  exact hL5 FU (1 : Int64) (0 : Int32) H locs ls hP hD hS (lv_sub hl [2, 3, 1, 0] rfl) h
theorem hdS_X0_power : yX0_power.cls ≠ "java/lang/invoke/MethodHandle" ∧ yX0_power.cls ≠ "java/lang/invoke/VarHandle" ∧ (parseMethodDescriptor yX0_power.desc).map (fun d => d.parameters.length) = some 2 := by decide +kernel
def L_X0_choose_5 (p0 : Int32) (p1 : Int32) : Nat → Int64 → Int32 → Option (Int64)
  | 0, _, _ => none
  | n + 1, x2, x4 => (if p1 ≤ x4 then (some x2) else (gneL (Int32.toInt64 (x4 + (1 : Int32))) ((L_X0_choose_5 p0 p1 n) ((x2 * (Int32.toInt64 (p0 - x4))) / (Int32.toInt64 (x4 + (1 : Int32)))) (x4 + (1 : Int32)))))
def f_X0_choose (p0 : Int32) (p1 : Int32) : Option (Int64) := (L_X0_choose_5 p0 p1 FU (1 : Int64) (0 : Int32))
abbrev rm_X0_choose : Room := { frames := 0, cells := 0, slots := 0, locals := 0 }
set_option maxHeartbeats 4000000 in
set_option maxRecDepth 100000 in
theorem C_X0_choose (l : Launch) (D : va_G) (cI cJ cZ : ClassId) (sz : Nat) (p0 : Int32) (p1 : Int32) (r : Int64) (hf : f_X0_choose p0 p1 = some r) : Met l yX0_choose wsX0_choose rm_X0_choose (PR D cI cJ cZ [] sz [.int p0, .int p1]) (QL D (va_A [] sz) r []) 0 0 (va_A [] sz) := by
  refine Met.ofW (cc := cX0_choose) (maxL := 5) (ret := (some .long)) (by decide) rfl ?_
  intro p e s m args below meth c s₁ B hml hv
  obtain ⟨hav, hsz, hP, hD0, hE⟩ := hv
  have hx := B.exec
  have hb := B.bytes
  have hr := B.returns
  have hts := atoms_spec (ws := wsX0_choose) B.pre
  have hown : s.vm.findClass RX0 = some m.cls := findClass_of_methodNamed B.named
  have hlocks := B.notSynchronized
  subst hsz
  have hD := hD0.self (sz := s.heap.size)
  generalize hAe : va_A [] s.heap.size = A at hD ⊢
  have hA : ∀ q : Nat, s.heap.size ≤ q → A q := fun q h => by rw [← hAe]; exact Or.inr h
  have hS : va_S A s.heap s.heap [] := va_S.rf
  have hl := lv_entry ([.int p0, .int p1]) (n := 5) (Nat.le_of_ble_eq_true rfl)
  have hfr : entryFrame m args 5 = entryFrame m ([.int p0, .int p1] : List Value).toArray 5 := by rw [hav]
  rw [hfr, lg_entry_eq]
  generalize (lg_sl ([.int p0, .int p1]) ++ List.replicate (5 - (lg_sl ([.int p0, .int p1])).length) Slot.unset).toArray = ls at hl ⊢
  have hl : lv_has ls 5 [(0, .int p0), (1, .int p1)] := hl
  obtain ⟨QQ, hQQ⟩ : ∃ QQ, QQ = MQ below (QL D A r []) args s 0 0 A := ⟨_, rfl⟩
  show W p l e rm_X0_choose s m args below meth c s.heap [] 0 0 _ _
  rw [← hQQ]
  have hL5 : ∀ (n5 : Nat), ∀ (x2 : Int64) (x4 : Int32) (H : Heap) (locs : List Loc) (ls : Array Slot), va_P D vwCl [] H → va_D A [] → va_S A s.heap H locs → lv_has ls 5 [(0, .int p0), (1, .int p1), (2, .long x2), (4, .int x4)] → L_X0_choose_5 p0 p1 n5 x2 x4 = some r → W p l e rm_X0_choose s m args below meth c H locs 0 0 QQ (F0 m 5 ls []) := by
    intro n5
    induction n5 with
    | zero =>
      intro x2 x4 H locs ls hP hD hS hl h
      have h : none = some r := h
      cases h
    | succ n5 ih5 =>
      intro x2 x4 H locs ls hP hD hS hl h
      rw [L_X0_choose_5.eq_2] at h
      refine lv_iload hx hb dX0_choose_5 (lv_at hl 3 rfl) ?_
      refine lv_iload_n hx hb dX0_choose_7 rfl (lv_at hl 1 rfl) ?_
      refine lv_icmp_ge (tgt := 31) hx hb dX0_choose_8 (by decide) (fun hc => ?_) (fun hc => ?_)
      · have h := if_t hc h
        refine lv_lload_n hx hb dX0_choose_31 rfl (lv_at hl 2 rfl) ?_
        cases h
        rw [hQQ]
        exact gw_lret hx hb hr hlocks hP hD hS dX0_choose_32
      · have h := if_f hc h
        refine lv_lload_n hx hb dX0_choose_11 rfl (lv_at hl 2 rfl) ?_
        refine lv_iload_n hx hb dX0_choose_12 rfl (lv_at hl 0 rfl) ?_
        refine lv_iload hx hb dX0_choose_13 (lv_at hl 3 rfl) ?_
        refine lv_isub hx hb dX0_choose_15 ?_
        refine lv_i2l (v := (Int32.toInt64 (p0 - x4))) hx hb dX0_choose_16 rfl ?_
        refine lv_lmul hx hb dX0_choose_17 ?_
        refine lv_iload hx hb dX0_choose_18 (lv_at hl 3 rfl) ?_
        refine lv_iconst (v := 1) hx hb dX0_choose_20 (by decide) ?_
        refine lv_iadd hx hb dX0_choose_21 ?_
        refine lv_i2l (v := (Int32.toInt64 (x4 + (1 : Int32)))) hx hb dX0_choose_22 rfl ?_
        obtain ⟨hg, h⟩ := gneL_some h
        refine lv_ldiv hx hb dX0_choose_23 hg ?_
        refine lv_lstore_n (lv' := [(2, .long ((x2 * (Int32.toInt64 (p0 - x4))) / (Int32.toInt64 (x4 + (1 : Int32))))), (0, .int p0), (1, .int p1), (4, .int x4)]) hx hb dX0_choose_24 rfl hl (by decide) rfl (fun ls hl => ?_)
        refine lv_iinc (v := (x4 + (1 : Int32))) (lv' := [(4, .int (x4 + (1 : Int32))), (2, .long ((x2 * (Int32.toInt64 (p0 - x4))) / (Int32.toInt64 (x4 + (1 : Int32))))), (0, .int p0), (1, .int p1)]) hx hb dX0_choose_25 hl (k := 3) rfl rfl (by decide) rfl (fun ls hl => ?_)
        refine lv_goto (tgt := 5) hx hb dX0_choose_28 (by decide) ?_
        exact ih5 ((x2 * (Int32.toInt64 (p0 - x4))) / (Int32.toInt64 (x4 + (1 : Int32)))) (x4 + (1 : Int32)) H locs ls hP hD hS (lv_sub hl [2, 3, 1, 0] rfl) h
  have h := hf
  unfold f_X0_choose at h
  refine gw_start hP hD hS (fun H locs hP hD hS => ?_)
  refine lv_lconst (v := 1) hx hb dX0_choose_0 (by decide) ?_
  refine lv_lstore_n (lv' := [(2, .long (1 : Int64)), (0, .int p0), (1, .int p1)]) hx hb dX0_choose_1 rfl hl (by decide) rfl (fun ls hl => ?_)
  refine lv_iconst (v := 0) hx hb dX0_choose_2 (by decide) ?_
  refine lv_istore (lv' := [(4, .int (0 : Int32)), (2, .long (1 : Int64)), (0, .int p0), (1, .int p1)]) hx hb dX0_choose_3 hl (by decide) rfl (fun ls hl => ?_)
  exact hL5 FU (1 : Int64) (0 : Int32) H locs ls hP hD hS (lv_sub hl [2, 3, 1, 0] rfl) h
theorem hdS_X0_choose : yX0_choose.cls ≠ "java/lang/invoke/MethodHandle" ∧ yX0_choose.cls ≠ "java/lang/invoke/VarHandle" ∧ (parseMethodDescriptor yX0_choose.desc).map (fun d => d.parameters.length) = some 2 := by decide +kernel
def L_X0_atLeast_5 (p0 : Int32) (p1 : Int32) (p2 : Int32) : Nat → Int64 → Int32 → Option (Int64)
  | 0, _, _ => none
  | n + 1, x3, x5 => (if p0 < x5 then (some x3) else (bd1 (f_X0_choose p0 x5) (fun r15 => (bd1 (f_X0_power (Int32.toInt64 p1) x5) (fun r22 => (bd1 (f_X0_power (Int32.toInt64 ((10 : Int32) - p1)) (p0 - x5)) (fun r35 => ((L_X0_atLeast_5 p0 p1 p2 n) (x3 + ((r15 * r22) * r35)) (x5 + (1 : Int32))))))))))
def f_X0_atLeast (p0 : Int32) (p1 : Int32) (p2 : Int32) : Option (Int64) := (L_X0_atLeast_5 p0 p1 p2 FU (0 : Int64) p2)
abbrev rm_X0_atLeast : Room := { frames := 1, cells := 0, slots := 0, locals := 25 }
set_option maxHeartbeats 4000000 in
set_option maxRecDepth 100000 in
theorem C_X0_atLeast (l : Launch) (D : va_G) (cI cJ cZ : ClassId) (sz : Nat) (p0 : Int32) (p1 : Int32) (p2 : Int32) (r : Int64) (hf : f_X0_atLeast p0 p1 p2 = some r) : Met l yX0_atLeast wsX0_atLeast rm_X0_atLeast (PR D cI cJ cZ [] sz [.int p0, .int p1, .int p2]) (QL D (va_A [] sz) r []) 0 0 (va_A [] sz) := by
  refine Met.ofW (cc := cX0_atLeast) (maxL := 6) (ret := (some .long)) (by decide) rfl ?_
  intro p e s m args below meth c s₁ B hml hv
  obtain ⟨hav, hsz, hP, hD0, hE⟩ := hv
  have hx := B.exec
  have hb := B.bytes
  have hr := B.returns
  have hts := atoms_spec (ws := wsX0_atLeast) B.pre
  have hown : s.vm.findClass RX0 = some m.cls := findClass_of_methodNamed B.named
  have hlocks := B.notSynchronized
  subst hsz
  have hD := hD0.self (sz := s.heap.size)
  generalize hAe : va_A [] s.heap.size = A at hD ⊢
  have hA : ∀ q : Nat, s.heap.size ≤ q → A q := fun q h => by rw [← hAe]; exact Or.inr h
  have hS : va_S A s.heap s.heap [] := va_S.rf
  have hl := lv_entry ([.int p0, .int p1, .int p2]) (n := 6) (Nat.le_of_ble_eq_true rfl)
  have hfr : entryFrame m args 6 = entryFrame m ([.int p0, .int p1, .int p2] : List Value).toArray 6 := by rw [hav]
  rw [hfr, lg_entry_eq]
  generalize (lg_sl ([.int p0, .int p1, .int p2]) ++ List.replicate (6 - (lg_sl ([.int p0, .int p1, .int p2])).length) Slot.unset).toArray = ls at hl ⊢
  have hl : lv_has ls 6 [(0, .int p0), (1, .int p1), (2, .int p2)] := hl
  obtain ⟨QQ, hQQ⟩ : ∃ QQ, QQ = MQ below (QL D A r []) args s 0 0 A := ⟨_, rfl⟩
  show W p l e rm_X0_atLeast s m args below meth c s.heap [] 0 0 _ _
  rw [← hQQ]
  have hL5 : ∀ (n5 : Nat), ∀ (x3 : Int64) (x5 : Int32) (H : Heap) (locs : List Loc) (ls : Array Slot), va_P D vwCl [] H → va_D A [] → va_S A s.heap H locs → lv_has ls 6 [(0, .int p0), (1, .int p1), (3, .long x3), (5, .int x5)] → L_X0_atLeast_5 p0 p1 p2 n5 x3 x5 = some r → W p l e rm_X0_atLeast s m args below meth c H locs 0 0 QQ (F0 m 5 ls []) := by
    intro n5
    induction n5 with
    | zero =>
      intro x3 x5 H locs ls hP hD hS hl h
      have h : none = some r := h
      cases h
    | succ n5 ih5 =>
      intro x3 x5 H locs ls hP hD hS hl h
      rw [L_X0_atLeast_5.eq_2] at h
      refine lv_iload hx hb dX0_atLeast_5 (lv_at hl 3 rfl) ?_
      refine lv_iload_n hx hb dX0_atLeast_7 rfl (lv_at hl 0 rfl) ?_
      refine lv_icmp_gt (tgt := 47) hx hb dX0_atLeast_8 (by decide) (fun hc => ?_) (fun hc => ?_)
      · have h := if_t hc h
        refine lv_lload_n hx hb dX0_atLeast_47 rfl (lv_at hl 2 rfl) ?_
        cases h
        rw [hQQ]
        exact gw_lret hx hb hr hlocks hP hD hS dX0_atLeast_48
      · have h := if_f hc h
        refine lv_lload_n hx hb dX0_atLeast_11 rfl (lv_at hl 2 rfl) ?_
        refine lv_iload_n hx hb dX0_atLeast_12 rfl (lv_at hl 0 rfl) ?_
        refine lv_iload hx hb dX0_atLeast_13 (lv_at hl 3 rfl) ?_
        obtain ⟨r15, hc15, h⟩ := bd1_some h
        refine gw_cl (wr := []) (w2 := []) (gw_rS (n := 2) ⟨hx, hb, hml, hown, hts⟩ (C_X0_choose l D cI cJ cZ H.size p0 x5 r15 hc15) gX0_atLeast_X0_choose rfl rfl rfl hdS_X0_choose ⟨Nat.le_of_ble_eq_true rfl, Nat.le_of_ble_eq_true rfl⟩ hE (hP.sub [] rfl) (hD.sub [] (by decide) rfl) rfl hl.1 (rest := [.long x3]) rfl (Nat.le_of_ble_eq_true rfl) dX0_atLeast_15 ⟨Nat.zero_le _, Nat.zero_le _⟩) hP hD hS hA [] [] rfl rfl rfl (by decide) rfl (fun H locs hP hD hS => ?_)
        refine lv_iload_n hx hb dX0_atLeast_18 rfl (lv_at hl 1 rfl) ?_
        refine lv_i2l (v := (Int32.toInt64 p1)) hx hb dX0_atLeast_19 rfl ?_
        refine lv_iload hx hb dX0_atLeast_20 (lv_at hl 3 rfl) ?_
        obtain ⟨r22, hc22, h⟩ := bd1_some h
        refine gw_cl (wr := []) (w2 := []) (gw_rS (n := 2) ⟨hx, hb, hml, hown, hts⟩ (C_X0_power l D cI cJ cZ H.size (Int32.toInt64 p1) x5 r22 hc22) gX0_atLeast_X0_power rfl rfl rfl hdS_X0_power ⟨Nat.le_of_ble_eq_true rfl, Nat.le_of_ble_eq_true rfl⟩ hE (hP.sub [] rfl) (hD.sub [] (by decide) rfl) rfl hl.1 (rest := [.long r15, .long x3]) rfl (Nat.le_of_ble_eq_true rfl) dX0_atLeast_22 ⟨Nat.zero_le _, Nat.zero_le _⟩) hP hD hS hA [] [] rfl rfl rfl (by decide) rfl (fun H locs hP hD hS => ?_)
        refine lv_lmul hx hb dX0_atLeast_25 ?_
        refine lv_bipush (v := 10) hx hb dX0_atLeast_26 (by decide) ?_
        refine lv_iload_n hx hb dX0_atLeast_28 rfl (lv_at hl 1 rfl) ?_
        refine lv_isub hx hb dX0_atLeast_29 ?_
        refine lv_i2l (v := (Int32.toInt64 ((10 : Int32) - p1))) hx hb dX0_atLeast_30 rfl ?_
        refine lv_iload_n hx hb dX0_atLeast_31 rfl (lv_at hl 0 rfl) ?_
        refine lv_iload hx hb dX0_atLeast_32 (lv_at hl 3 rfl) ?_
        refine lv_isub hx hb dX0_atLeast_34 ?_
        obtain ⟨r35, hc35, h⟩ := bd1_some h
        refine gw_cl (wr := []) (w2 := []) (gw_rS (n := 2) ⟨hx, hb, hml, hown, hts⟩ (C_X0_power l D cI cJ cZ H.size (Int32.toInt64 ((10 : Int32) - p1)) (p0 - x5) r35 hc35) gX0_atLeast_X0_power rfl rfl rfl hdS_X0_power ⟨Nat.le_of_ble_eq_true rfl, Nat.le_of_ble_eq_true rfl⟩ hE (hP.sub [] rfl) (hD.sub [] (by decide) rfl) rfl hl.1 (rest := [.long (r15 * r22), .long x3]) rfl (Nat.le_of_ble_eq_true rfl) dX0_atLeast_35 ⟨Nat.zero_le _, Nat.zero_le _⟩) hP hD hS hA [] [] rfl rfl rfl (by decide) rfl (fun H locs hP hD hS => ?_)
        refine lv_lmul hx hb dX0_atLeast_38 ?_
        refine lv_ladd hx hb dX0_atLeast_39 ?_
        refine lv_lstore_n (lv' := [(3, .long (x3 + ((r15 * r22) * r35))), (0, .int p0), (1, .int p1), (5, .int x5)]) hx hb dX0_atLeast_40 rfl hl (by decide) rfl (fun ls hl => ?_)
        refine lv_iinc (v := (x5 + (1 : Int32))) (lv' := [(5, .int (x5 + (1 : Int32))), (3, .long (x3 + ((r15 * r22) * r35))), (0, .int p0), (1, .int p1)]) hx hb dX0_atLeast_41 hl (k := 3) rfl rfl (by decide) rfl (fun ls hl => ?_)
        refine lv_goto (tgt := 5) hx hb dX0_atLeast_44 (by decide) ?_
        exact ih5 (x3 + ((r15 * r22) * r35)) (x5 + (1 : Int32)) H locs ls hP hD hS (lv_sub hl [2, 3, 1, 0] rfl) h
  have h := hf
  unfold f_X0_atLeast at h
  refine gw_start hP hD hS (fun H locs hP hD hS => ?_)
  refine lv_lconst (v := 0) hx hb dX0_atLeast_0 (by decide) ?_
  refine lv_lstore_n (lv' := [(3, .long (0 : Int64)), (0, .int p0), (1, .int p1), (2, .int p2)]) hx hb dX0_atLeast_1 rfl hl (by decide) rfl (fun ls hl => ?_)
  refine lv_iload_n hx hb dX0_atLeast_2 rfl (lv_at hl 3 rfl) ?_
  refine lv_istore (lv' := [(5, .int p2), (3, .long (0 : Int64)), (0, .int p0), (1, .int p1), (2, .int p2)]) hx hb dX0_atLeast_3 hl (by decide) rfl (fun ls hl => ?_)
  exact hL5 FU (0 : Int64) p2 H locs ls hP hD hS (lv_sub hl [2, 3, 1, 0] rfl) h
theorem hdS_X0_atLeast : yX0_atLeast.cls ≠ "java/lang/invoke/MethodHandle" ∧ yX0_atLeast.cls ≠ "java/lang/invoke/VarHandle" ∧ (parseMethodDescriptor yX0_atLeast.desc).map (fun d => d.parameters.length) = some 3 := by decide +kernel
def L_X0_commonDivisor_9 (p0 : Int64) (p2 : Int64) : Nat → Int64 → Int64 → Int32 → Option (Int64)
  | 0, _, _, _ => none
  | n + 1, x4, x6, x8 => (if (100 : Int32) ≤ x8 then (some x4) else (if (lg_cmp x6 (0 : Int64)) = (0 : Int32) then (some x4) else (gneL x6 ((L_X0_commonDivisor_9 p0 p2 n) x6 (jremL x4 x6) (x8 + (1 : Int32))))))
def f_X0_commonDivisor (p0 : Int64) (p2 : Int64) : Option (Int64) := (L_X0_commonDivisor_9 p0 p2 FU p0 p2 (0 : Int32))
abbrev rm_X0_commonDivisor : Room := { frames := 0, cells := 0, slots := 0, locals := 0 }
set_option maxHeartbeats 4000000 in
set_option maxRecDepth 100000 in
theorem C_X0_commonDivisor (l : Launch) (D : va_G) (cI cJ cZ : ClassId) (sz : Nat) (p0 : Int64) (p2 : Int64) (r : Int64) (hf : f_X0_commonDivisor p0 p2 = some r) : Met l yX0_commonDivisor wsX0_commonDivisor rm_X0_commonDivisor (PR D cI cJ cZ [] sz [.long p0, .long p2]) (QL D (va_A [] sz) r []) 0 0 (va_A [] sz) := by
  refine Met.ofW (cc := cX0_commonDivisor) (maxL := 11) (ret := (some .long)) (by decide) rfl ?_
  intro p e s m args below meth c s₁ B hml hv
  obtain ⟨hav, hsz, hP, hD0, hE⟩ := hv
  have hx := B.exec
  have hb := B.bytes
  have hr := B.returns
  have hts := atoms_spec (ws := wsX0_commonDivisor) B.pre
  have hown : s.vm.findClass RX0 = some m.cls := findClass_of_methodNamed B.named
  have hlocks := B.notSynchronized
  subst hsz
  have hD := hD0.self (sz := s.heap.size)
  generalize hAe : va_A [] s.heap.size = A at hD ⊢
  have hA : ∀ q : Nat, s.heap.size ≤ q → A q := fun q h => by rw [← hAe]; exact Or.inr h
  have hS : va_S A s.heap s.heap [] := va_S.rf
  have hl := lv_entry ([.long p0, .long p2]) (n := 11) (Nat.le_of_ble_eq_true rfl)
  have hfr : entryFrame m args 11 = entryFrame m ([.long p0, .long p2] : List Value).toArray 11 := by rw [hav]
  rw [hfr, lg_entry_eq]
  generalize (lg_sl ([.long p0, .long p2]) ++ List.replicate (11 - (lg_sl ([.long p0, .long p2])).length) Slot.unset).toArray = ls at hl ⊢
  have hl : lv_has ls 11 [(0, .long p0), (2, .long p2)] := hl
  obtain ⟨QQ, hQQ⟩ : ∃ QQ, QQ = MQ below (QL D A r []) args s 0 0 A := ⟨_, rfl⟩
  show W p l e rm_X0_commonDivisor s m args below meth c s.heap [] 0 0 _ _
  rw [← hQQ]
  have hL9 : ∀ (n9 : Nat), ∀ (x4 : Int64) (x6 : Int64) (x8 : Int32) (H : Heap) (locs : List Loc) (ls : Array Slot), va_P D vwCl [] H → va_D A [] → va_S A s.heap H locs → lv_has ls 11 [(4, .long x4), (6, .long x6), (8, .int x8)] → L_X0_commonDivisor_9 p0 p2 n9 x4 x6 x8 = some r → W p l e rm_X0_commonDivisor s m args below meth c H locs 0 0 QQ (F0 m 9 ls []) := by
    intro n9
    induction n9 with
    | zero =>
      intro x4 x6 x8 H locs ls hP hD hS hl h
      have h : none = some r := h
      cases h
    | succ n9 ih9 =>
      intro x4 x6 x8 H locs ls hP hD hS hl h
      rw [L_X0_commonDivisor_9.eq_2] at h
      refine lv_iload hx hb dX0_commonDivisor_9 (lv_at hl 2 rfl) ?_
      refine lv_bipush (v := 100) hx hb dX0_commonDivisor_11 (by decide) ?_
      refine lv_icmp_ge (tgt := 44) hx hb dX0_commonDivisor_13 (by decide) (fun hc => ?_) (fun hc => ?_)
      · have h := if_t hc h
        refine lv_lload hx hb dX0_commonDivisor_44 (lv_at hl 0 rfl) ?_
        cases h
        rw [hQQ]
        exact gw_lret hx hb hr hlocks hP hD hS dX0_commonDivisor_46
      · have h := if_f hc h
        refine lv_lload hx hb dX0_commonDivisor_16 (lv_at hl 1 rfl) ?_
        refine lv_lconst (v := 0) hx hb dX0_commonDivisor_18 (by decide) ?_
        refine W.lcmp hx hb dX0_commonDivisor_19 ?_
        refine lv_if_eq (tgt := 44) hx hb dX0_commonDivisor_20 (by decide) (fun hc => ?_) (fun hc => ?_)
        · have h := if_t hc h
          refine lv_lload hx hb dX0_commonDivisor_44 (lv_at hl 0 rfl) ?_
          cases h
          rw [hQQ]
          exact gw_lret hx hb hr hlocks hP hD hS dX0_commonDivisor_46
        · have h := if_f hc h
          refine lv_lload hx hb dX0_commonDivisor_23 (lv_at hl 0 rfl) ?_
          refine lv_lload hx hb dX0_commonDivisor_25 (lv_at hl 1 rfl) ?_
          obtain ⟨hg, h⟩ := gneL_some h
          refine gw_lrem hx hb dX0_commonDivisor_27 hg ?_
          refine lv_lstore (lv' := [(9, .long (jremL x4 x6)), (4, .long x4), (6, .long x6), (8, .int x8)]) hx hb dX0_commonDivisor_28 hl (by decide) rfl (fun ls hl => ?_)
          refine lv_lload hx hb dX0_commonDivisor_30 (lv_at hl 2 rfl) ?_
          refine lv_lstore (lv' := [(4, .long x6), (9, .long (jremL x4 x6)), (6, .long x6), (8, .int x8)]) hx hb dX0_commonDivisor_32 hl (by decide) rfl (fun ls hl => ?_)
          refine lv_lload hx hb dX0_commonDivisor_34 (lv_at hl 1 rfl) ?_
          refine lv_lstore (lv' := [(6, .long (jremL x4 x6)), (4, .long x6), (9, .long (jremL x4 x6)), (8, .int x8)]) hx hb dX0_commonDivisor_36 hl (by decide) rfl (fun ls hl => ?_)
          refine lv_iinc (v := (x8 + (1 : Int32))) (lv' := [(8, .int (x8 + (1 : Int32))), (6, .long (jremL x4 x6)), (4, .long x6), (9, .long (jremL x4 x6))]) hx hb dX0_commonDivisor_38 hl (k := 3) rfl rfl (by decide) rfl (fun ls hl => ?_)
          refine lv_goto (tgt := 9) hx hb dX0_commonDivisor_41 (by decide) ?_
          exact ih9 x6 (jremL x4 x6) (x8 + (1 : Int32)) H locs ls hP hD hS (lv_sub hl [2, 1, 0] rfl) h
  have h := hf
  unfold f_X0_commonDivisor at h
  refine gw_start hP hD hS (fun H locs hP hD hS => ?_)
  refine lv_lload_n hx hb dX0_commonDivisor_0 rfl (lv_at hl 0 rfl) ?_
  refine lv_lstore (lv' := [(4, .long p0), (0, .long p0), (2, .long p2)]) hx hb dX0_commonDivisor_1 hl (by decide) rfl (fun ls hl => ?_)
  refine lv_lload_n hx hb dX0_commonDivisor_3 rfl (lv_at hl 2 rfl) ?_
  refine lv_lstore (lv' := [(6, .long p2), (4, .long p0), (0, .long p0), (2, .long p2)]) hx hb dX0_commonDivisor_4 hl (by decide) rfl (fun ls hl => ?_)
  refine lv_iconst (v := 0) hx hb dX0_commonDivisor_6 (by decide) ?_
  refine lv_istore (lv' := [(8, .int (0 : Int32)), (6, .long p2), (4, .long p0), (0, .long p0), (2, .long p2)]) hx hb dX0_commonDivisor_7 hl (by decide) rfl (fun ls hl => ?_)
  exact hL9 FU p0 p2 (0 : Int32) H locs ls hP hD hS (lv_sub hl [2, 1, 0] rfl) h
theorem hdS_X0_commonDivisor : yX0_commonDivisor.cls ≠ "java/lang/invoke/MethodHandle" ∧ yX0_commonDivisor.cls ≠ "java/lang/invoke/VarHandle" ∧ (parseMethodDescriptor yX0_commonDivisor.desc).map (fun d => d.parameters.length) = some 2 := by decide +kernel
def f_X0_lowest (p0 : Int64) (p2 : Int64) (p4 : Int32) : Option (Int64) := (bd1 (f_X0_commonDivisor p0 p2) (fun r2 => (if (0 : Int32) < (lg_cmp r2 (0 : Int64)) then (if p4 = (0 : Int32) then (gneL r2 (some (p0 / r2))) else (gneL r2 (some (p2 / r2)))) else (some (-1000000000000000002 : Int64)))))
abbrev rm_X0_lowest : Room := { frames := 1, cells := 0, slots := 0, locals := 30 }
set_option maxHeartbeats 4000000 in
set_option maxRecDepth 100000 in
theorem C_X0_lowest (l : Launch) (D : va_G) (cI cJ cZ : ClassId) (sz : Nat) (p0 : Int64) (p2 : Int64) (p4 : Int32) (r : Int64) (hf : f_X0_lowest p0 p2 p4 = some r) : Met l yX0_lowest wsX0_lowest rm_X0_lowest (PR D cI cJ cZ [] sz [.long p0, .long p2, .int p4]) (QL D (va_A [] sz) r []) 0 0 (va_A [] sz) := by
  refine Met.ofW (cc := cX0_lowest) (maxL := 7) (ret := (some .long)) (by decide) rfl ?_
  intro p e s m args below meth c s₁ B hml hv
  obtain ⟨hav, hsz, hP, hD0, hE⟩ := hv
  have hx := B.exec
  have hb := B.bytes
  have hr := B.returns
  have hts := atoms_spec (ws := wsX0_lowest) B.pre
  have hown : s.vm.findClass RX0 = some m.cls := findClass_of_methodNamed B.named
  have hlocks := B.notSynchronized
  subst hsz
  have hD := hD0.self (sz := s.heap.size)
  generalize hAe : va_A [] s.heap.size = A at hD ⊢
  have hA : ∀ q : Nat, s.heap.size ≤ q → A q := fun q h => by rw [← hAe]; exact Or.inr h
  have hS : va_S A s.heap s.heap [] := va_S.rf
  have hl := lv_entry ([.long p0, .long p2, .int p4]) (n := 7) (Nat.le_of_ble_eq_true rfl)
  have hfr : entryFrame m args 7 = entryFrame m ([.long p0, .long p2, .int p4] : List Value).toArray 7 := by rw [hav]
  rw [hfr, lg_entry_eq]
  generalize (lg_sl ([.long p0, .long p2, .int p4]) ++ List.replicate (7 - (lg_sl ([.long p0, .long p2, .int p4])).length) Slot.unset).toArray = ls at hl ⊢
  have hl : lv_has ls 7 [(0, .long p0), (2, .long p2), (4, .int p4)] := hl
  obtain ⟨QQ, hQQ⟩ : ∃ QQ, QQ = MQ below (QL D A r []) args s 0 0 A := ⟨_, rfl⟩
  show W p l e rm_X0_lowest s m args below meth c s.heap [] 0 0 _ _
  rw [← hQQ]
  have h := hf
  unfold f_X0_lowest at h
  refine gw_start hP hD hS (fun H locs hP hD hS => ?_)
  refine lv_lload_n hx hb dX0_lowest_0 rfl (lv_at hl 0 rfl) ?_
  refine lv_lload_n hx hb dX0_lowest_1 rfl (lv_at hl 1 rfl) ?_
  obtain ⟨r2, hc2, h⟩ := bd1_some h
  refine gw_cl (wr := []) (w2 := []) (gw_rS (n := 2) ⟨hx, hb, hml, hown, hts⟩ (C_X0_commonDivisor l D cI cJ cZ H.size p0 p2 r2 hc2) gX0_lowest_X0_commonDivisor rfl rfl rfl hdS_X0_commonDivisor ⟨Nat.le_of_ble_eq_true rfl, Nat.le_of_ble_eq_true rfl⟩ hE (hP.sub [] rfl) (hD.sub [] (by decide) rfl) rfl hl.1 (rest := []) rfl (Nat.le_of_ble_eq_true rfl) dX0_lowest_2 ⟨Nat.zero_le _, Nat.zero_le _⟩) hP hD hS hA [] [] rfl rfl rfl (by decide) rfl (fun H locs hP hD hS => ?_)
  refine lv_lstore (lv' := [(5, .long r2), (0, .long p0), (2, .long p2), (4, .int p4)]) hx hb dX0_lowest_5 hl (by decide) rfl (fun ls hl => ?_)
  refine lv_lload hx hb dX0_lowest_7 (lv_at hl 0 rfl) ?_
  refine lv_lconst (v := 0) hx hb dX0_lowest_9 (by decide) ?_
  refine W.lcmp hx hb dX0_lowest_10 ?_
  refine lv_if_gt (tgt := 18) hx hb dX0_lowest_11 (by decide) (fun hc => ?_) (fun hc => ?_)
  · have h := if_t hc h
    refine lv_iload hx hb dX0_lowest_18 (lv_at hl 3 rfl) ?_
    refine lv_if_ne (tgt := 27) hx hb dX0_lowest_20 (by decide) (fun hc => ?_) (fun hc => ?_)
    · have h := if_f hc h
      refine lv_lload_n hx hb dX0_lowest_27 rfl (lv_at hl 2 rfl) ?_
      refine lv_lload hx hb dX0_lowest_28 (lv_at hl 0 rfl) ?_
      obtain ⟨hg, h⟩ := gneL_some h
      refine lv_ldiv hx hb dX0_lowest_30 hg ?_
      cases h
      rw [hQQ]
      exact gw_lret hx hb hr hlocks hP hD hS dX0_lowest_31
    · have h := if_t hc h
      refine lv_lload_n hx hb dX0_lowest_23 rfl (lv_at hl 1 rfl) ?_
      refine lv_goto (tgt := 28) hx hb dX0_lowest_24 (by decide) ?_
      refine lv_lload hx hb dX0_lowest_28 (lv_at hl 0 rfl) ?_
      obtain ⟨hg, h⟩ := gneL_some h
      refine lv_ldiv hx hb dX0_lowest_30 hg ?_
      cases h
      rw [hQQ]
      exact gw_lret hx hb hr hlocks hP hD hS dX0_lowest_31
  · have h := if_f hc h
    refine lv_ldc2 hx hb hown (hts (.constantLong RX0 23 (-1000000000000000002)) (List.mem_cons_of_mem _ (List.mem_of_getElem? (i := 0) rfl))) dX0_lowest_14 ?_
    cases h
    rw [hQQ]
    exact gw_lret hx hb hr hlocks hP hD hS dX0_lowest_17
theorem hdS_X0_lowest : yX0_lowest.cls ≠ "java/lang/invoke/MethodHandle" ∧ yX0_lowest.cls ≠ "java/lang/invoke/VarHandle" ∧ (parseMethodDescriptor yX0_lowest.desc).map (fun d => d.parameters.length) = some 3 := by decide +kernel
def f_X1_add (v_signs : (Nat → Int32)) (v_size : Int32) (p1 : Int32) : Option (Int32 × (Nat → Int32) × Int32) := (if v_size < (0 : Int32) then (some ((0 : Int32), v_signs, v_size)) else (if v_size < (60 : Int32) then (gin v_size 60 (some ((1 : Int32), (upd v_signs (Int32.toNatClampNeg v_size) p1), (v_size + (1 : Int32))))) else (some ((0 : Int32), v_signs, v_size))))
abbrev rm_X1_add : Room := { frames := 0, cells := 0, slots := 0, locals := 0 }
set_option maxHeartbeats 4000000 in
set_option maxRecDepth 100000 in
theorem C_X1_add (l : Launch) (D : va_G) (cI cJ cZ : ClassId) (sz : Nat) (qt qt_signs : Nat) (v_signs : (Nat → Int32)) (v_size : Int32) (p1 : Int32) (r : Int32) (w_signs : (Nat → Int32)) (w_size : Int32) (hf : f_X1_add v_signs v_size p1 = some (r, w_signs, w_size)) : Met l yX1_add wsX1_add rm_X1_add (PR D cI cJ cZ [(qt, .inr (0, [.ref qt_signs, .int v_size])), (qt_signs, .inl (cI, 60, .inl v_signs))] sz [.ref qt, .int p1]) (QI D (va_A [(qt, .inr (0, [.ref qt_signs, .int v_size])), (qt_signs, .inl (cI, 60, .inl v_signs))] sz) r [(qt, .inr (0, [.ref qt_signs, .int w_size])), (qt_signs, .inl (cI, 60, .inl w_signs))]) 0 0 (va_A [(qt, .inr (0, [.ref qt_signs, .int v_size])), (qt_signs, .inl (cI, 60, .inl v_signs))] sz) := by
  refine Met.ofW (cc := cX1_add) (maxL := 2) (ret := (some .boolean)) (by decide) rfl ?_
  intro p e s m args below meth c s₁ B hml hv
  obtain ⟨hav, hsz, hP, hD0, hE⟩ := hv
  have hx := B.exec
  have hb := B.bytes
  have hr := B.returns
  have hts := atoms_spec (ws := wsX1_add) B.pre
  have hown : s.vm.findClass RX1 = some m.cls := findClass_of_methodNamed B.named
  have hlocks := B.notSynchronized
  subst hsz
  have hD := hD0.self (sz := s.heap.size)
  generalize hAe : va_A [(qt, .inr (0, [.ref qt_signs, .int v_size])), (qt_signs, .inl (cI, 60, .inl v_signs))] s.heap.size = A at hD ⊢
  have hA : ∀ q : Nat, s.heap.size ≤ q → A q := fun q h => by rw [← hAe]; exact Or.inr h
  have hS : va_S A s.heap s.heap [] := va_S.rf
  have hl := lv_entry ([.ref qt, .int p1]) (n := 2) (Nat.le_of_ble_eq_true rfl)
  have hfr : entryFrame m args 2 = entryFrame m ([.ref qt, .int p1] : List Value).toArray 2 := by rw [hav]
  rw [hfr, lg_entry_eq]
  generalize (lg_sl ([.ref qt, .int p1]) ++ List.replicate (2 - (lg_sl ([.ref qt, .int p1])).length) Slot.unset).toArray = ls at hl ⊢
  have hl : lv_has ls 2 [(0, .ref qt), (1, .int p1)] := hl
  obtain ⟨QQ, hQQ⟩ : ∃ QQ, QQ = MQ below (QI D A r [(qt, .inr (0, [.ref qt_signs, .int w_size])), (qt_signs, .inl (cI, 60, .inl w_signs))]) args s 0 0 A := ⟨_, rfl⟩
  show W p l e rm_X1_add s m args below meth c s.heap [] 0 0 _ _
  rw [← hQQ]
  have h := hf
  unfold f_X1_add at h
  refine gw_start hP hD hS (fun H locs hP hD hS => ?_)
  refine lv_aload_n hx hb dX1_add_0 rfl (lv_at hl 0 rfl) ?_
  refine va_get (D := D) (ci := 0) (C := RX1) (T := TX1) (N := 2) hx hb hts (fun _ hw => (List.mem_cons_of_mem _ (List.mem_append_right _ hw))) hown hE.1 hP 0 rfl rfl 1 (by decide) (hts (.fieldLink RX1 15 "GlobeCrown$Pad" "size" "I") (List.mem_cons_of_mem _ (List.mem_append_left _ (List.mem_of_getElem? (i := 0) rfl)))) (fun _ h9 => h9) rfl dX1_add_1 ?_
  refine lv_if_lt (tgt := 16) hx hb dX1_add_4 (by decide) (fun hc => ?_) (fun hc => ?_)
  · have h := if_t hc h
    refine lv_iconst (v := 0) hx hb dX1_add_16 (by decide) ?_
    cases h
    rw [hQQ]
    exact gw_zret hx hb hr hlocks (by decide) hP hD hS dX1_add_17
  · have h := if_f hc h
    refine lv_aload_n hx hb dX1_add_7 rfl (lv_at hl 0 rfl) ?_
    refine va_get (D := D) (ci := 0) (C := RX1) (T := TX1) (N := 2) hx hb hts (fun _ hw => (List.mem_cons_of_mem _ (List.mem_append_right _ hw))) hown hE.1 hP 0 rfl rfl 1 (by decide) (hts (.fieldLink RX1 15 "GlobeCrown$Pad" "size" "I") (List.mem_cons_of_mem _ (List.mem_append_left _ (List.mem_of_getElem? (i := 0) rfl)))) (fun _ h9 => h9) rfl dX1_add_8 ?_
    refine lv_bipush (v := 60) hx hb dX1_add_11 (by decide) ?_
    refine lv_icmp_lt (tgt := 18) hx hb dX1_add_13 (by decide) (fun hc => ?_) (fun hc => ?_)
    · have h := if_t hc h
      refine lv_aload_n hx hb dX1_add_18 rfl (lv_at hl 0 rfl) ?_
      refine va_get (D := D) (ci := 0) (C := RX1) (T := TX1) (N := 2) hx hb hts (fun _ hw => (List.mem_cons_of_mem _ (List.mem_append_right _ hw))) hown hE.1 hP 0 rfl rfl 0 (by decide) (hts (.fieldLink RX1 9 "GlobeCrown$Pad" "signs" "[I") (List.mem_cons_of_mem _ (List.mem_append_left _ (List.mem_of_getElem? (i := 1) rfl)))) (fun _ h9 => h9) rfl dX1_add_19 ?_
      refine lv_aload_n hx hb dX1_add_22 rfl (lv_at hl 0 rfl) ?_
      refine va_get (D := D) (ci := 0) (C := RX1) (T := TX1) (N := 2) hx hb hts (fun _ hw => (List.mem_cons_of_mem _ (List.mem_append_right _ hw))) hown hE.1 hP 0 rfl rfl 1 (by decide) (hts (.fieldLink RX1 15 "GlobeCrown$Pad" "size" "I") (List.mem_cons_of_mem _ (List.mem_append_left _ (List.mem_of_getElem? (i := 0) rfl)))) (fun _ h9 => h9) rfl dX1_add_23 ?_
      refine lv_iload_n hx hb dX1_add_26 rfl (lv_at hl 1 rfl) ?_
      obtain ⟨hg, h⟩ := gin_some h
      refine va_iast hx hb hE.1 hP hD hS 1 0 rfl rfl hg dX1_add_27 (fun H locs (hP : va_P D vwCl [(qt, .inr (0, [.ref qt_signs, .int v_size])), (qt_signs, .inl (cI, 60, .inl (upd v_signs (Int32.toNatClampNeg v_size) p1)))] H) (hD : va_D A [(qt, .inr (0, [.ref qt_signs, .int v_size])), (qt_signs, .inl (cI, 60, .inl (upd v_signs (Int32.toNatClampNeg v_size) p1)))]) hS => ?_)
      refine lv_aload_n hx hb dX1_add_28 rfl (lv_at hl 0 rfl) ?_
      refine lv_dup hx hb dX1_add_29 rfl ?_
      refine va_get (D := D) (ci := 0) (C := RX1) (T := TX1) (N := 2) hx hb hts (fun _ hw => (List.mem_cons_of_mem _ (List.mem_append_right _ hw))) hown hE.1 hP 0 rfl rfl 1 (by decide) (hts (.fieldLink RX1 15 "GlobeCrown$Pad" "size" "I") (List.mem_cons_of_mem _ (List.mem_append_left _ (List.mem_of_getElem? (i := 0) rfl)))) (fun _ h9 => h9) rfl dX1_add_30 ?_
      refine lv_iconst (v := 1) hx hb dX1_add_33 (by decide) ?_
      refine lv_iadd hx hb dX1_add_34 ?_
      refine va_put (D := D) (ci := 0) (v := .int (v_size + (1 : Int32))) (ty := .int) (C := RX1) (T := TX1) (N := 2) hx hb hts (fun _ hw => (List.mem_cons_of_mem _ (List.mem_append_right _ hw))) tyX1 tyX1_ok nmX1 hown hE.1 hP hD hS 0 rfl rfl 1 (by decide) (hts (.fieldLink RX1 15 "GlobeCrown$Pad" "size" "I") (List.mem_cons_of_mem _ (List.mem_append_left _ (List.mem_of_getElem? (i := 0) rfl)))) (fun _ h9 => h9) rfl (tyX1_ok 1 (by decide)) rfl rfl (Nat.le_of_ble_eq_true rfl) dX1_add_35 (fun H locs (hP : va_P D vwCl [(qt, .inr (0, [.ref qt_signs, .int (v_size + (1 : Int32))])), (qt_signs, .inl (cI, 60, .inl (upd v_signs (Int32.toNatClampNeg v_size) p1)))] H) (hD : va_D A [(qt, .inr (0, [.ref qt_signs, .int (v_size + (1 : Int32))])), (qt_signs, .inl (cI, 60, .inl (upd v_signs (Int32.toNatClampNeg v_size) p1)))]) hS => ?_)
      refine lv_iconst (v := 1) hx hb dX1_add_38 (by decide) ?_
      cases h
      rw [hQQ]
      exact gw_zret hx hb hr hlocks (by decide) hP hD hS dX1_add_39
    · have h := if_f hc h
      refine lv_iconst (v := 0) hx hb dX1_add_16 (by decide) ?_
      cases h
      rw [hQQ]
      exact gw_zret hx hb hr hlocks (by decide) hP hD hS dX1_add_17
theorem hdV_X1_add : yX1_add.cls = RX1 ∧ yX1_add.cls ≠ "java/lang/invoke/MethodHandle" ∧ yX1_add.cls ≠ "java/lang/invoke/VarHandle" ∧ (parseMethodDescriptor yX1_add.desc).map (fun d => d.parameters.length) = some 1 := by decide +kernel
def f_X1_signAt (v_signs : (Nat → Int32)) (v_size : Int32) (p1 : Int32) : Option (Int32) := (if p1 < (0 : Int32) then (some (-6 : Int32)) else (if v_size ≤ p1 then (some (-6 : Int32)) else (if (60 : Int32) ≤ p1 then (some (-6 : Int32)) else (gin p1 60 (some (v_signs (Int32.toNatClampNeg p1)))))))
abbrev rm_X1_signAt : Room := { frames := 0, cells := 0, slots := 0, locals := 0 }
set_option maxHeartbeats 4000000 in
set_option maxRecDepth 100000 in
theorem C_X1_signAt (l : Launch) (D : va_G) (cI cJ cZ : ClassId) (sz : Nat) (qt qt_signs : Nat) (v_signs : (Nat → Int32)) (v_size : Int32) (p1 : Int32) (r : Int32) (hf : f_X1_signAt v_signs v_size p1 = some r) : Met l yX1_signAt wsX1_signAt rm_X1_signAt (PR D cI cJ cZ [(qt, .inr (0, [.ref qt_signs, .int v_size])), (qt_signs, .inl (cI, 60, .inl v_signs))] sz [.ref qt, .int p1]) (QI D (va_A [(qt, .inr (0, [.ref qt_signs, .int v_size])), (qt_signs, .inl (cI, 60, .inl v_signs))] sz) r [(qt, .inr (0, [.ref qt_signs, .int v_size])), (qt_signs, .inl (cI, 60, .inl v_signs))]) 0 0 (va_A [(qt, .inr (0, [.ref qt_signs, .int v_size])), (qt_signs, .inl (cI, 60, .inl v_signs))] sz) := by
  refine Met.ofW (cc := cX1_signAt) (maxL := 2) (ret := (some .int)) (by decide) rfl ?_
  intro p e s m args below meth c s₁ B hml hv
  obtain ⟨hav, hsz, hP, hD0, hE⟩ := hv
  have hx := B.exec
  have hb := B.bytes
  have hr := B.returns
  have hts := atoms_spec (ws := wsX1_signAt) B.pre
  have hown : s.vm.findClass RX1 = some m.cls := findClass_of_methodNamed B.named
  have hlocks := B.notSynchronized
  subst hsz
  have hD := hD0.self (sz := s.heap.size)
  generalize hAe : va_A [(qt, .inr (0, [.ref qt_signs, .int v_size])), (qt_signs, .inl (cI, 60, .inl v_signs))] s.heap.size = A at hD ⊢
  have hA : ∀ q : Nat, s.heap.size ≤ q → A q := fun q h => by rw [← hAe]; exact Or.inr h
  have hS : va_S A s.heap s.heap [] := va_S.rf
  have hl := lv_entry ([.ref qt, .int p1]) (n := 2) (Nat.le_of_ble_eq_true rfl)
  have hfr : entryFrame m args 2 = entryFrame m ([.ref qt, .int p1] : List Value).toArray 2 := by rw [hav]
  rw [hfr, lg_entry_eq]
  generalize (lg_sl ([.ref qt, .int p1]) ++ List.replicate (2 - (lg_sl ([.ref qt, .int p1])).length) Slot.unset).toArray = ls at hl ⊢
  have hl : lv_has ls 2 [(0, .ref qt), (1, .int p1)] := hl
  obtain ⟨QQ, hQQ⟩ : ∃ QQ, QQ = MQ below (QI D A r [(qt, .inr (0, [.ref qt_signs, .int v_size])), (qt_signs, .inl (cI, 60, .inl v_signs))]) args s 0 0 A := ⟨_, rfl⟩
  show W p l e rm_X1_signAt s m args below meth c s.heap [] 0 0 _ _
  rw [← hQQ]
  have h := hf
  unfold f_X1_signAt at h
  refine gw_start hP hD hS (fun H locs hP hD hS => ?_)
  refine lv_iload_n hx hb dX1_signAt_0 rfl (lv_at hl 1 rfl) ?_
  refine lv_if_lt (tgt := 27) hx hb dX1_signAt_1 (by decide) (fun hc => ?_) (fun hc => ?_)
  · have h := if_t hc h
    refine lv_bipush (v := -6) hx hb dX1_signAt_27 (by decide) ?_
    cases h
    rw [hQQ]
    exact gw_iret hx hb hr hlocks hP hD hS dX1_signAt_29
  · have h := if_f hc h
    refine lv_iload_n hx hb dX1_signAt_4 rfl (lv_at hl 1 rfl) ?_
    refine lv_aload_n hx hb dX1_signAt_5 rfl (lv_at hl 0 rfl) ?_
    refine va_get (D := D) (ci := 0) (C := RX1) (T := TX1) (N := 2) hx hb hts (fun _ hw => (List.mem_cons_of_mem _ (List.mem_append_right _ hw))) hown hE.1 hP 0 rfl rfl 1 (by decide) (hts (.fieldLink RX1 15 "GlobeCrown$Pad" "size" "I") (List.mem_cons_of_mem _ (List.mem_append_left _ (List.mem_of_getElem? (i := 0) rfl)))) (fun _ h9 => h9) rfl dX1_signAt_6 ?_
    refine lv_icmp_ge (tgt := 27) hx hb dX1_signAt_9 (by decide) (fun hc => ?_) (fun hc => ?_)
    · have h := if_t hc h
      refine lv_bipush (v := -6) hx hb dX1_signAt_27 (by decide) ?_
      cases h
      rw [hQQ]
      exact gw_iret hx hb hr hlocks hP hD hS dX1_signAt_29
    · have h := if_f hc h
      refine lv_iload_n hx hb dX1_signAt_12 rfl (lv_at hl 1 rfl) ?_
      refine lv_bipush (v := 60) hx hb dX1_signAt_13 (by decide) ?_
      refine lv_icmp_ge (tgt := 27) hx hb dX1_signAt_15 (by decide) (fun hc => ?_) (fun hc => ?_)
      · have h := if_t hc h
        refine lv_bipush (v := -6) hx hb dX1_signAt_27 (by decide) ?_
        cases h
        rw [hQQ]
        exact gw_iret hx hb hr hlocks hP hD hS dX1_signAt_29
      · have h := if_f hc h
        refine lv_aload_n hx hb dX1_signAt_18 rfl (lv_at hl 0 rfl) ?_
        refine va_get (D := D) (ci := 0) (C := RX1) (T := TX1) (N := 2) hx hb hts (fun _ hw => (List.mem_cons_of_mem _ (List.mem_append_right _ hw))) hown hE.1 hP 0 rfl rfl 0 (by decide) (hts (.fieldLink RX1 9 "GlobeCrown$Pad" "signs" "[I") (List.mem_cons_of_mem _ (List.mem_append_left _ (List.mem_of_getElem? (i := 1) rfl)))) (fun _ h9 => h9) rfl dX1_signAt_19 ?_
        refine lv_iload_n hx hb dX1_signAt_22 rfl (lv_at hl 1 rfl) ?_
        obtain ⟨hg, h⟩ := gin_some h
        refine va_iald hx hb hE.1 hP 1 0 rfl rfl hg dX1_signAt_23 ?_
        refine lv_goto (tgt := 29) hx hb dX1_signAt_24 (by decide) ?_
        cases h
        rw [hQQ]
        exact gw_iret hx hb hr hlocks hP hD hS dX1_signAt_29
theorem hdV_X1_signAt : yX1_signAt.cls = RX1 ∧ yX1_signAt.cls ≠ "java/lang/invoke/MethodHandle" ∧ yX1_signAt.cls ≠ "java/lang/invoke/VarHandle" ∧ (parseMethodDescriptor yX1_signAt.desc).map (fun d => d.parameters.length) = some 1 := by decide +kernel
def f_X9_isGlobe (p0 : Int32) : Option (Int32) := (if p0 < (0 : Int32) then (some (0 : Int32)) else (if (8 : Int32) ≤ p0 then (some (0 : Int32)) else (some (1 : Int32))))
abbrev rm_X9_isGlobe : Room := { frames := 0, cells := 0, slots := 0, locals := 0 }
set_option maxHeartbeats 4000000 in
set_option maxRecDepth 100000 in
theorem C_X9_isGlobe (l : Launch) (D : va_G) (cI cJ cZ : ClassId) (sz : Nat) (p0 : Int32) (r : Int32) (hf : f_X9_isGlobe p0 = some r) : Met l yX9_isGlobe wsX9_isGlobe rm_X9_isGlobe (PR D cI cJ cZ [] sz [.int p0]) (QI D (va_A [] sz) r []) 0 0 (va_A [] sz) := by
  refine Met.ofW (cc := cX9_isGlobe) (maxL := 1) (ret := (some .boolean)) (by decide) rfl ?_
  intro p e s m args below meth c s₁ B hml hv
  obtain ⟨hav, hsz, hP, hD0, hE⟩ := hv
  have hx := B.exec
  have hb := B.bytes
  have hr := B.returns
  have hts := atoms_spec (ws := wsX9_isGlobe) B.pre
  have hown : s.vm.findClass RX9 = some m.cls := findClass_of_methodNamed B.named
  have hlocks := B.notSynchronized
  subst hsz
  have hD := hD0.self (sz := s.heap.size)
  generalize hAe : va_A [] s.heap.size = A at hD ⊢
  have hA : ∀ q : Nat, s.heap.size ≤ q → A q := fun q h => by rw [← hAe]; exact Or.inr h
  have hS : va_S A s.heap s.heap [] := va_S.rf
  have hl := lv_entry ([.int p0]) (n := 1) (Nat.le_of_ble_eq_true rfl)
  have hfr : entryFrame m args 1 = entryFrame m ([.int p0] : List Value).toArray 1 := by rw [hav]
  rw [hfr, lg_entry_eq]
  generalize (lg_sl ([.int p0]) ++ List.replicate (1 - (lg_sl ([.int p0])).length) Slot.unset).toArray = ls at hl ⊢
  have hl : lv_has ls 1 [(0, .int p0)] := hl
  obtain ⟨QQ, hQQ⟩ : ∃ QQ, QQ = MQ below (QI D A r []) args s 0 0 A := ⟨_, rfl⟩
  show W p l e rm_X9_isGlobe s m args below meth c s.heap [] 0 0 _ _
  rw [← hQQ]
  have h := hf
  unfold f_X9_isGlobe at h
  refine gw_start hP hD hS (fun H locs hP hD hS => ?_)
  refine lv_iload_n hx hb dX9_isGlobe_0 rfl (lv_at hl 0 rfl) ?_
  refine lv_if_lt (tgt := 14) hx hb dX9_isGlobe_1 (by decide) (fun hc => ?_) (fun hc => ?_)
  · have h := if_t hc h
    refine lv_iconst (v := 0) hx hb dX9_isGlobe_14 (by decide) ?_
    cases h
    rw [hQQ]
    exact gw_zret hx hb hr hlocks (by decide) hP hD hS dX9_isGlobe_15
  · have h := if_f hc h
    refine lv_iload_n hx hb dX9_isGlobe_4 rfl (lv_at hl 0 rfl) ?_
    refine lv_bipush (v := 8) hx hb dX9_isGlobe_5 (by decide) ?_
    refine lv_icmp_ge (tgt := 14) hx hb dX9_isGlobe_7 (by decide) (fun hc => ?_) (fun hc => ?_)
    · have h := if_t hc h
      refine lv_iconst (v := 0) hx hb dX9_isGlobe_14 (by decide) ?_
      cases h
      rw [hQQ]
      exact gw_zret hx hb hr hlocks (by decide) hP hD hS dX9_isGlobe_15
    · have h := if_f hc h
      refine lv_iconst (v := 1) hx hb dX9_isGlobe_10 (by decide) ?_
      refine lv_goto (tgt := 15) hx hb dX9_isGlobe_11 (by decide) ?_
      cases h
      rw [hQQ]
      exact gw_zret hx hb hr hlocks (by decide) hP hD hS dX9_isGlobe_15
theorem hdS_X9_isGlobe : yX9_isGlobe.cls ≠ "java/lang/invoke/MethodHandle" ∧ yX9_isGlobe.cls ≠ "java/lang/invoke/VarHandle" ∧ (parseMethodDescriptor yX9_isGlobe.desc).map (fun d => d.parameters.length) = some 1 := by decide +kernel
def B_X1_isDeed_12 (p0 : Int32) : Option (Int32) := (if p0 = (43 : Int32) then (some (1 : Int32)) else (if p0 = (61 : Int32) then (some (1 : Int32)) else (if p0 = (47 : Int32) then (some (1 : Int32)) else (if p0 = (94 : Int32) then (some (1 : Int32)) else (if p0 = (35 : Int32) then (some (1 : Int32)) else (some (0 : Int32)))))))
def f_X1_isDeed (p0 : Int32) : Option (Int32) := (if p0 < (49 : Int32) then (B_X1_isDeed_12 p0) else (if p0 ≤ (57 : Int32) then (some (1 : Int32)) else (B_X1_isDeed_12 p0)))
abbrev rm_X1_isDeed : Room := { frames := 0, cells := 0, slots := 0, locals := 0 }
set_option maxHeartbeats 4000000 in
set_option maxRecDepth 100000 in
theorem C_X1_isDeed (l : Launch) (D : va_G) (cI cJ cZ : ClassId) (sz : Nat) (p0 : Int32) (r : Int32) (hf : f_X1_isDeed p0 = some r) : Met l yX1_isDeed wsX1_isDeed rm_X1_isDeed (PR D cI cJ cZ [] sz [.int p0]) (QI D (va_A [] sz) r []) 0 0 (va_A [] sz) := by
  refine Met.ofW (cc := cX1_isDeed) (maxL := 1) (ret := (some .boolean)) (by decide) rfl ?_
  intro p e s m args below meth c s₁ B hml hv
  obtain ⟨hav, hsz, hP, hD0, hE⟩ := hv
  have hx := B.exec
  have hb := B.bytes
  have hr := B.returns
  have hts := atoms_spec (ws := wsX1_isDeed) B.pre
  have hown : s.vm.findClass RX1 = some m.cls := findClass_of_methodNamed B.named
  have hlocks := B.notSynchronized
  subst hsz
  have hD := hD0.self (sz := s.heap.size)
  generalize hAe : va_A [] s.heap.size = A at hD ⊢
  have hA : ∀ q : Nat, s.heap.size ≤ q → A q := fun q h => by rw [← hAe]; exact Or.inr h
  have hS : va_S A s.heap s.heap [] := va_S.rf
  have hl := lv_entry ([.int p0]) (n := 1) (Nat.le_of_ble_eq_true rfl)
  have hfr : entryFrame m args 1 = entryFrame m ([.int p0] : List Value).toArray 1 := by rw [hav]
  rw [hfr, lg_entry_eq]
  generalize (lg_sl ([.int p0]) ++ List.replicate (1 - (lg_sl ([.int p0])).length) Slot.unset).toArray = ls at hl ⊢
  have hl : lv_has ls 1 [(0, .int p0)] := hl
  obtain ⟨QQ, hQQ⟩ : ∃ QQ, QQ = MQ below (QI D A r []) args s 0 0 A := ⟨_, rfl⟩
  show W p l e rm_X1_isDeed s m args below meth c s.heap [] 0 0 _ _
  rw [← hQQ]
  have hB12 : ∀ (H : Heap) (locs : List Loc) (ls : Array Slot), va_P D vwCl [] H → va_D A [] → va_S A s.heap H locs → lv_has ls 1 [(0, .int p0)] → B_X1_isDeed_12 p0 = some r → W p l e rm_X1_isDeed s m args below meth c H locs 0 0 QQ (F0 m 12 ls []) := by
    intro H locs ls hP hD hS hl h
    unfold B_X1_isDeed_12 at h
    refine lv_iload_n hx hb dX1_isDeed_12 rfl (lv_at hl 0 rfl) ?_
    refine lv_bipush (v := 43) hx hb dX1_isDeed_13 (by decide) ?_
    refine lv_icmp_eq (tgt := 42) hx hb dX1_isDeed_15 (by decide) (fun hc => ?_) (fun hc => ?_)
    · have h := if_t hc h
      refine lv_iconst (v := 1) hx hb dX1_isDeed_42 (by decide) ?_
      refine lv_goto (tgt := 47) hx hb dX1_isDeed_43 (by decide) ?_
      cases h
      rw [hQQ]
      exact gw_zret hx hb hr hlocks (by decide) hP hD hS dX1_isDeed_47
    · have h := if_f hc h
      refine lv_iload_n hx hb dX1_isDeed_18 rfl (lv_at hl 0 rfl) ?_
      refine lv_bipush (v := 61) hx hb dX1_isDeed_19 (by decide) ?_
      refine lv_icmp_eq (tgt := 42) hx hb dX1_isDeed_21 (by decide) (fun hc => ?_) (fun hc => ?_)
      · have h := if_t hc h
        refine lv_iconst (v := 1) hx hb dX1_isDeed_42 (by decide) ?_
        refine lv_goto (tgt := 47) hx hb dX1_isDeed_43 (by decide) ?_
        cases h
        rw [hQQ]
        exact gw_zret hx hb hr hlocks (by decide) hP hD hS dX1_isDeed_47
      · have h := if_f hc h
        refine lv_iload_n hx hb dX1_isDeed_24 rfl (lv_at hl 0 rfl) ?_
        refine lv_bipush (v := 47) hx hb dX1_isDeed_25 (by decide) ?_
        refine lv_icmp_eq (tgt := 42) hx hb dX1_isDeed_27 (by decide) (fun hc => ?_) (fun hc => ?_)
        · have h := if_t hc h
          refine lv_iconst (v := 1) hx hb dX1_isDeed_42 (by decide) ?_
          refine lv_goto (tgt := 47) hx hb dX1_isDeed_43 (by decide) ?_
          cases h
          rw [hQQ]
          exact gw_zret hx hb hr hlocks (by decide) hP hD hS dX1_isDeed_47
        · have h := if_f hc h
          refine lv_iload_n hx hb dX1_isDeed_30 rfl (lv_at hl 0 rfl) ?_
          refine lv_bipush (v := 94) hx hb dX1_isDeed_31 (by decide) ?_
          refine lv_icmp_eq (tgt := 42) hx hb dX1_isDeed_33 (by decide) (fun hc => ?_) (fun hc => ?_)
          · have h := if_t hc h
            refine lv_iconst (v := 1) hx hb dX1_isDeed_42 (by decide) ?_
            refine lv_goto (tgt := 47) hx hb dX1_isDeed_43 (by decide) ?_
            cases h
            rw [hQQ]
            exact gw_zret hx hb hr hlocks (by decide) hP hD hS dX1_isDeed_47
          · have h := if_f hc h
            refine lv_iload_n hx hb dX1_isDeed_36 rfl (lv_at hl 0 rfl) ?_
            refine lv_bipush (v := 35) hx hb dX1_isDeed_37 (by decide) ?_
            refine lv_icmp_ne (tgt := 46) hx hb dX1_isDeed_39 (by decide) (fun hc => ?_) (fun hc => ?_)
            · have h := if_f hc h
              refine lv_iconst (v := 0) hx hb dX1_isDeed_46 (by decide) ?_
              cases h
              rw [hQQ]
              exact gw_zret hx hb hr hlocks (by decide) hP hD hS dX1_isDeed_47
            · have h := if_t hc h
              refine lv_iconst (v := 1) hx hb dX1_isDeed_42 (by decide) ?_
              refine lv_goto (tgt := 47) hx hb dX1_isDeed_43 (by decide) ?_
              cases h
              rw [hQQ]
              exact gw_zret hx hb hr hlocks (by decide) hP hD hS dX1_isDeed_47
  have h := hf
  unfold f_X1_isDeed at h
  refine gw_start hP hD hS (fun H locs hP hD hS => ?_)
  refine lv_iload_n hx hb dX1_isDeed_0 rfl (lv_at hl 0 rfl) ?_
  refine lv_bipush (v := 49) hx hb dX1_isDeed_1 (by decide) ?_
  refine lv_icmp_lt (tgt := 12) hx hb dX1_isDeed_3 (by decide) (fun hc => ?_) (fun hc => ?_)
  · have h := if_t hc h
    exact hB12 H locs ls hP hD hS hl h
  · have h := if_f hc h
    refine lv_iload_n hx hb dX1_isDeed_6 rfl (lv_at hl 0 rfl) ?_
    refine lv_bipush (v := 57) hx hb dX1_isDeed_7 (by decide) ?_
    refine lv_icmp_le (tgt := 42) hx hb dX1_isDeed_9 (by decide) (fun hc => ?_) (fun hc => ?_)
    · have h := if_t hc h
      refine lv_iconst (v := 1) hx hb dX1_isDeed_42 (by decide) ?_
      refine lv_goto (tgt := 47) hx hb dX1_isDeed_43 (by decide) ?_
      cases h
      rw [hQQ]
      exact gw_zret hx hb hr hlocks (by decide) hP hD hS dX1_isDeed_47
    · have h := if_f hc h
      exact hB12 H locs ls hP hD hS hl h
theorem hdS_X1_isDeed : yX1_isDeed.cls ≠ "java/lang/invoke/MethodHandle" ∧ yX1_isDeed.cls ≠ "java/lang/invoke/VarHandle" ∧ (parseMethodDescriptor yX1_isDeed.desc).map (fun d => d.parameters.length) = some 1 := by decide +kernel
def B_X1_stateBehind_39 (p0 : Int32) (p1 : Int32) : Option (Int32) := (bd1 (f_X9_isGlobe (p1 - (65 : Int32))) (fun r43 => (if r43 = (0 : Int32) then (some (-6 : Int32)) else (if p0 = (0 : Int32) then (some (1 : Int32)) else (some (0 : Int32))))))
def f_X1_stateBehind (p0 : Int32) (p1 : Int32) : Option (Int32) := (if p0 = (1 : Int32) then (if p1 = (62 : Int32) then (some (2 : Int32)) else (bd1 (f_X1_isDeed p1) (fun r14 => (if r14 = (0 : Int32) then (some (-6 : Int32)) else (some (0 : Int32)))))) else (if p0 = (0 : Int32) then (if p1 = (46 : Int32) then (some (0 : Int32)) else (B_X1_stateBehind_39 p0 p1)) else (B_X1_stateBehind_39 p0 p1)))
abbrev rm_X1_stateBehind : Room := { frames := 1, cells := 0, slots := 0, locals := 20 }
set_option maxHeartbeats 4000000 in
set_option maxRecDepth 100000 in
theorem C_X1_stateBehind (l : Launch) (D : va_G) (cI cJ cZ : ClassId) (sz : Nat) (p0 : Int32) (p1 : Int32) (r : Int32) (hf : f_X1_stateBehind p0 p1 = some r) : Met l yX1_stateBehind wsX1_stateBehind rm_X1_stateBehind (PR D cI cJ cZ [] sz [.int p0, .int p1]) (QI D (va_A [] sz) r []) 0 0 (va_A [] sz) := by
  refine Met.ofW (cc := cX1_stateBehind) (maxL := 2) (ret := (some .int)) (by decide) rfl ?_
  intro p e s m args below meth c s₁ B hml hv
  obtain ⟨hav, hsz, hP, hD0, hE⟩ := hv
  have hx := B.exec
  have hb := B.bytes
  have hr := B.returns
  have hts := atoms_spec (ws := wsX1_stateBehind) B.pre
  have hown : s.vm.findClass RX1 = some m.cls := findClass_of_methodNamed B.named
  have hlocks := B.notSynchronized
  subst hsz
  have hD := hD0.self (sz := s.heap.size)
  generalize hAe : va_A [] s.heap.size = A at hD ⊢
  have hA : ∀ q : Nat, s.heap.size ≤ q → A q := fun q h => by rw [← hAe]; exact Or.inr h
  have hS : va_S A s.heap s.heap [] := va_S.rf
  have hl := lv_entry ([.int p0, .int p1]) (n := 2) (Nat.le_of_ble_eq_true rfl)
  have hfr : entryFrame m args 2 = entryFrame m ([.int p0, .int p1] : List Value).toArray 2 := by rw [hav]
  rw [hfr, lg_entry_eq]
  generalize (lg_sl ([.int p0, .int p1]) ++ List.replicate (2 - (lg_sl ([.int p0, .int p1])).length) Slot.unset).toArray = ls at hl ⊢
  have hl : lv_has ls 2 [(0, .int p0), (1, .int p1)] := hl
  obtain ⟨QQ, hQQ⟩ : ∃ QQ, QQ = MQ below (QI D A r []) args s 0 0 A := ⟨_, rfl⟩
  show W p l e rm_X1_stateBehind s m args below meth c s.heap [] 0 0 _ _
  rw [← hQQ]
  have hB39 : ∀ (H : Heap) (locs : List Loc) (ls : Array Slot), va_P D vwCl [] H → va_D A [] → va_S A s.heap H locs → lv_has ls 2 [(0, .int p0), (1, .int p1)] → B_X1_stateBehind_39 p0 p1 = some r → W p l e rm_X1_stateBehind s m args below meth c H locs 0 0 QQ (F0 m 39 ls []) := by
    intro H locs ls hP hD hS hl h
    unfold B_X1_stateBehind_39 at h
    refine lv_iload_n hx hb dX1_stateBehind_39 rfl (lv_at hl 1 rfl) ?_
    refine lv_bipush (v := 65) hx hb dX1_stateBehind_40 (by decide) ?_
    refine lv_isub hx hb dX1_stateBehind_42 ?_
    obtain ⟨r43, hc43, h⟩ := bd1_some h
    refine gw_ci (wr := []) (w2 := []) (gw_rSN (n := 1) (host := RX9) ⟨hx, hb, hml, hown, hts⟩ (C_X9_isGlobe l D cI cJ cZ H.size (p1 - (65 : Int32)) r43 hc43) gX1_stateBehind_X9_isGlobe_n31 rfl rfl rfl (by unfold nwL; simp) (List.mem_cons_of_mem _ (List.mem_of_getElem? (i := 5) rfl)) (List.mem_cons_of_mem _ (List.mem_of_getElem? (i := 4) rfl)) hdS_X9_isGlobe ⟨Nat.le_of_ble_eq_true rfl, Nat.le_of_ble_eq_true rfl⟩ hE (hP.sub [] rfl) (hD.sub [] (by decide) rfl) rfl hl.1 (rest := []) rfl (Nat.le_of_ble_eq_true rfl) dX1_stateBehind_43 ⟨Nat.zero_le _, Nat.zero_le _⟩) hP hD hS hA [] [] rfl rfl rfl (by decide) rfl (fun H locs hP hD hS => ?_)
    refine lv_if_ne (tgt := 52) hx hb dX1_stateBehind_46 (by decide) (fun hc => ?_) (fun hc => ?_)
    · have h := if_f hc h
      refine lv_iload_n hx hb dX1_stateBehind_52 rfl (lv_at hl 0 rfl) ?_
      refine lv_if_ne (tgt := 60) hx hb dX1_stateBehind_53 (by decide) (fun hc => ?_) (fun hc => ?_)
      · have h := if_f hc h
        refine lv_iconst (v := 0) hx hb dX1_stateBehind_60 (by decide) ?_
        cases h
        rw [hQQ]
        exact gw_iret hx hb hr hlocks hP hD hS dX1_stateBehind_61
      · have h := if_t hc h
        refine lv_iconst (v := 1) hx hb dX1_stateBehind_56 (by decide) ?_
        refine lv_goto (tgt := 61) hx hb dX1_stateBehind_57 (by decide) ?_
        cases h
        rw [hQQ]
        exact gw_iret hx hb hr hlocks hP hD hS dX1_stateBehind_61
    · have h := if_t hc h
      refine lv_bipush (v := -6) hx hb dX1_stateBehind_49 (by decide) ?_
      cases h
      rw [hQQ]
      exact gw_iret hx hb hr hlocks hP hD hS dX1_stateBehind_51
  have h := hf
  unfold f_X1_stateBehind at h
  refine gw_start hP hD hS (fun H locs hP hD hS => ?_)
  refine lv_iload_n hx hb dX1_stateBehind_0 rfl (lv_at hl 0 rfl) ?_
  refine lv_iconst (v := 1) hx hb dX1_stateBehind_1 (by decide) ?_
  refine lv_icmp_ne (tgt := 27) hx hb dX1_stateBehind_2 (by decide) (fun hc => ?_) (fun hc => ?_)
  · have h := if_f hc h
    refine lv_iload_n hx hb dX1_stateBehind_27 rfl (lv_at hl 0 rfl) ?_
    refine lv_if_ne (tgt := 39) hx hb dX1_stateBehind_28 (by decide) (fun hc => ?_) (fun hc => ?_)
    · have h := if_f hc h
      exact hB39 H locs ls hP hD hS hl h
    · have h := if_t hc h
      refine lv_iload_n hx hb dX1_stateBehind_31 rfl (lv_at hl 1 rfl) ?_
      refine lv_bipush (v := 46) hx hb dX1_stateBehind_32 (by decide) ?_
      refine lv_icmp_ne (tgt := 39) hx hb dX1_stateBehind_34 (by decide) (fun hc => ?_) (fun hc => ?_)
      · have h := if_f hc h
        exact hB39 H locs ls hP hD hS hl h
      · have h := if_t hc h
        refine lv_iconst (v := 0) hx hb dX1_stateBehind_37 (by decide) ?_
        cases h
        rw [hQQ]
        exact gw_iret hx hb hr hlocks hP hD hS dX1_stateBehind_38
  · have h := if_t hc h
    refine lv_iload_n hx hb dX1_stateBehind_5 rfl (lv_at hl 1 rfl) ?_
    refine lv_bipush (v := 62) hx hb dX1_stateBehind_6 (by decide) ?_
    refine lv_icmp_ne (tgt := 13) hx hb dX1_stateBehind_8 (by decide) (fun hc => ?_) (fun hc => ?_)
    · have h := if_f hc h
      refine lv_iload_n hx hb dX1_stateBehind_13 rfl (lv_at hl 1 rfl) ?_
      obtain ⟨r14, hc14, h⟩ := bd1_some h
      refine gw_ci (wr := []) (w2 := []) (gw_rS (n := 1) ⟨hx, hb, hml, hown, hts⟩ (C_X1_isDeed l D cI cJ cZ H.size p1 r14 hc14) gX1_stateBehind_X1_isDeed rfl rfl rfl hdS_X1_isDeed ⟨Nat.le_of_ble_eq_true rfl, Nat.le_of_ble_eq_true rfl⟩ hE (hP.sub [] rfl) (hD.sub [] (by decide) rfl) rfl hl.1 (rest := []) rfl (Nat.le_of_ble_eq_true rfl) dX1_stateBehind_14 ⟨Nat.zero_le _, Nat.zero_le _⟩) hP hD hS hA [] [] rfl rfl rfl (by decide) rfl (fun H locs hP hD hS => ?_)
      refine lv_if_eq (tgt := 24) hx hb dX1_stateBehind_17 (by decide) (fun hc => ?_) (fun hc => ?_)
      · have h := if_t hc h
        refine lv_bipush (v := -6) hx hb dX1_stateBehind_24 (by decide) ?_
        cases h
        rw [hQQ]
        exact gw_iret hx hb hr hlocks hP hD hS dX1_stateBehind_26
      · have h := if_f hc h
        refine lv_iconst (v := 0) hx hb dX1_stateBehind_20 (by decide) ?_
        refine lv_goto (tgt := 26) hx hb dX1_stateBehind_21 (by decide) ?_
        cases h
        rw [hQQ]
        exact gw_iret hx hb hr hlocks hP hD hS dX1_stateBehind_26
    · have h := if_t hc h
      refine lv_iconst (v := 2) hx hb dX1_stateBehind_11 (by decide) ?_
      cases h
      rw [hQQ]
      exact gw_iret hx hb hr hlocks hP hD hS dX1_stateBehind_12
theorem hdS_X1_stateBehind : yX1_stateBehind.cls ≠ "java/lang/invoke/MethodHandle" ∧ yX1_stateBehind.cls ≠ "java/lang/invoke/VarHandle" ∧ (parseMethodDescriptor yX1_stateBehind.desc).map (fun d => d.parameters.length) = some 2 := by decide +kernel
def L_X1_faultPlace_4 (v_signs : (Nat → Int32)) (v_size : Int32) : Nat → Int32 → Int32 → Option (Int32)
  | 0, _, _ => none
  | n + 1, x1, x2 => (if v_size ≤ x2 then (if x1 = (0 : Int32) then (some (-6 : Int32)) else (some v_size)) else (bd1 (f_X1_signAt v_signs v_size x2) (fun r15 => (bd1 (f_X1_stateBehind x1 r15) (fun r18 => (if r18 = (-6 : Int32) then (some x2) else ((L_X1_faultPlace_4 v_signs v_size n) r18 (x2 + (1 : Int32)))))))))
def f_X1_faultPlace (v_signs : (Nat → Int32)) (v_size : Int32) : Option (Int32) := (L_X1_faultPlace_4 v_signs v_size FU (0 : Int32) (0 : Int32))
abbrev rm_X1_faultPlace : Room := { frames := 2, cells := 0, slots := 0, locals := 41 }
set_option maxHeartbeats 4000000 in
set_option maxRecDepth 100000 in
theorem C_X1_faultPlace (l : Launch) (D : va_G) (cI cJ cZ : ClassId) (sz : Nat) (qt qt_signs : Nat) (v_signs : (Nat → Int32)) (v_size : Int32) (r : Int32) (hf : f_X1_faultPlace v_signs v_size = some r) : Met l yX1_faultPlace wsX1_faultPlace rm_X1_faultPlace (PR D cI cJ cZ [(qt, .inr (0, [.ref qt_signs, .int v_size])), (qt_signs, .inl (cI, 60, .inl v_signs))] sz [.ref qt]) (QI D (va_A [(qt, .inr (0, [.ref qt_signs, .int v_size])), (qt_signs, .inl (cI, 60, .inl v_signs))] sz) r [(qt, .inr (0, [.ref qt_signs, .int v_size])), (qt_signs, .inl (cI, 60, .inl v_signs))]) 0 0 (va_A [(qt, .inr (0, [.ref qt_signs, .int v_size])), (qt_signs, .inl (cI, 60, .inl v_signs))] sz) := by
  refine Met.ofW (cc := cX1_faultPlace) (maxL := 3) (ret := (some .int)) (by decide) rfl ?_
  intro p e s m args below meth c s₁ B hml hv
  obtain ⟨hav, hsz, hP, hD0, hE⟩ := hv
  have hx := B.exec
  have hb := B.bytes
  have hr := B.returns
  have hts := atoms_spec (ws := wsX1_faultPlace) B.pre
  have hown : s.vm.findClass RX1 = some m.cls := findClass_of_methodNamed B.named
  have hlocks := B.notSynchronized
  subst hsz
  have hD := hD0.self (sz := s.heap.size)
  generalize hAe : va_A [(qt, .inr (0, [.ref qt_signs, .int v_size])), (qt_signs, .inl (cI, 60, .inl v_signs))] s.heap.size = A at hD ⊢
  have hA : ∀ q : Nat, s.heap.size ≤ q → A q := fun q h => by rw [← hAe]; exact Or.inr h
  have hS : va_S A s.heap s.heap [] := va_S.rf
  have hl := lv_entry ([.ref qt]) (n := 3) (Nat.le_of_ble_eq_true rfl)
  have hfr : entryFrame m args 3 = entryFrame m ([.ref qt] : List Value).toArray 3 := by rw [hav]
  rw [hfr, lg_entry_eq]
  generalize (lg_sl ([.ref qt]) ++ List.replicate (3 - (lg_sl ([.ref qt])).length) Slot.unset).toArray = ls at hl ⊢
  have hl : lv_has ls 3 [(0, .ref qt)] := hl
  obtain ⟨QQ, hQQ⟩ : ∃ QQ, QQ = MQ below (QI D A r [(qt, .inr (0, [.ref qt_signs, .int v_size])), (qt_signs, .inl (cI, 60, .inl v_signs))]) args s 0 0 A := ⟨_, rfl⟩
  show W p l e rm_X1_faultPlace s m args below meth c s.heap [] 0 0 _ _
  rw [← hQQ]
  have hL4 : ∀ (n4 : Nat), ∀ (x1 : Int32) (x2 : Int32) (H : Heap) (locs : List Loc) (ls : Array Slot), va_P D vwCl [(qt, .inr (0, [.ref qt_signs, .int v_size])), (qt_signs, .inl (cI, 60, .inl v_signs))] H → va_D A [(qt, .inr (0, [.ref qt_signs, .int v_size])), (qt_signs, .inl (cI, 60, .inl v_signs))] → va_S A s.heap H locs → lv_has ls 3 [(0, .ref qt), (1, .int x1), (2, .int x2)] → L_X1_faultPlace_4 v_signs v_size n4 x1 x2 = some r → W p l e rm_X1_faultPlace s m args below meth c H locs 0 0 QQ (F0 m 4 ls []) := by
    intro n4
    induction n4 with
    | zero =>
      intro x1 x2 H locs ls hP hD hS hl h
      have h : none = some r := h
      cases h
    | succ n4 ih4 =>
      intro x1 x2 H locs ls hP hD hS hl h
      rw [L_X1_faultPlace_4.eq_2] at h
      refine lv_iload_n hx hb dX1_faultPlace_4 rfl (lv_at hl 2 rfl) ?_
      refine lv_aload_n hx hb dX1_faultPlace_5 rfl (lv_at hl 0 rfl) ?_
      refine va_get (D := D) (ci := 0) (C := RX1) (T := TX1) (N := 2) hx hb hts (fun _ hw => (List.mem_cons_of_mem _ (List.mem_append_right _ hw))) hown hE.1 hP 0 rfl rfl 1 (by decide) (hts (.fieldLink RX1 15 "GlobeCrown$Pad" "size" "I") (List.mem_cons_of_mem _ (List.mem_append_left _ (List.mem_of_getElem? (i := 0) rfl)))) (fun _ h9 => h9) rfl dX1_faultPlace_6 ?_
      refine lv_icmp_ge (tgt := 36) hx hb dX1_faultPlace_9 (by decide) (fun hc => ?_) (fun hc => ?_)
      · have h := if_t hc h
        refine lv_iload_n hx hb dX1_faultPlace_36 rfl (lv_at hl 1 rfl) ?_
        refine lv_if_ne (tgt := 45) hx hb dX1_faultPlace_37 (by decide) (fun hc => ?_) (fun hc => ?_)
        · have h := if_f hc h
          refine lv_aload_n hx hb dX1_faultPlace_45 rfl (lv_at hl 0 rfl) ?_
          refine va_get (D := D) (ci := 0) (C := RX1) (T := TX1) (N := 2) hx hb hts (fun _ hw => (List.mem_cons_of_mem _ (List.mem_append_right _ hw))) hown hE.1 hP 0 rfl rfl 1 (by decide) (hts (.fieldLink RX1 15 "GlobeCrown$Pad" "size" "I") (List.mem_cons_of_mem _ (List.mem_append_left _ (List.mem_of_getElem? (i := 0) rfl)))) (fun _ h9 => h9) rfl dX1_faultPlace_46 ?_
          cases h
          rw [hQQ]
          exact gw_iret hx hb hr hlocks hP hD hS dX1_faultPlace_49
        · have h := if_t hc h
          refine lv_bipush (v := -6) hx hb dX1_faultPlace_40 (by decide) ?_
          refine lv_goto (tgt := 49) hx hb dX1_faultPlace_42 (by decide) ?_
          cases h
          rw [hQQ]
          exact gw_iret hx hb hr hlocks hP hD hS dX1_faultPlace_49
      · have h := if_f hc h
        refine lv_iload_n hx hb dX1_faultPlace_12 rfl (lv_at hl 1 rfl) ?_
        refine lv_aload_n hx hb dX1_faultPlace_13 rfl (lv_at hl 0 rfl) ?_
        refine lv_iload_n hx hb dX1_faultPlace_14 rfl (lv_at hl 2 rfl) ?_
        obtain ⟨r15, hc15, h⟩ := bd1_some h
        refine gw_ci (wr := []) (w2 := [(qt, .inr (0, [.ref qt_signs, .int v_size])), (qt_signs, .inl (cI, 60, .inl v_signs))]) (gw_rV (n := 1) ⟨hx, hb, hml, hown, hts⟩ (C_X1_signAt l D cI cJ cZ H.size qt qt_signs v_signs v_size x2 r15 hc15) gX1_faultPlace_X1_signAt rfl rfl rfl hdV_X1_signAt ⟨Nat.le_of_ble_eq_true rfl, Nat.le_of_ble_eq_true rfl⟩ hE (hP.sub [0, 1] rfl) (hD.sub [0, 1] (by decide) rfl) 0 rfl 0 rfl rfl hl.1 (rest := [.int x1]) rfl (Nat.le_of_ble_eq_true rfl) dX1_faultPlace_15 ⟨Nat.zero_le _, Nat.zero_le _⟩) hP hD hS hA [0, 1] [] rfl rfl rfl (by decide) rfl (fun H locs hP hD hS => ?_)
        obtain ⟨r18, hc18, h⟩ := bd1_some h
        refine gw_ci (wr := [(qt, .inr (0, [.ref qt_signs, .int v_size])), (qt_signs, .inl (cI, 60, .inl v_signs))]) (w2 := [(qt, .inr (0, [.ref qt_signs, .int v_size])), (qt_signs, .inl (cI, 60, .inl v_signs))]) (gw_rS (n := 2) ⟨hx, hb, hml, hown, hts⟩ (C_X1_stateBehind l D cI cJ cZ H.size x1 r15 r18 hc18) gX1_faultPlace_X1_stateBehind rfl rfl rfl hdS_X1_stateBehind ⟨Nat.le_of_ble_eq_true rfl, Nat.le_of_ble_eq_true rfl⟩ hE (hP.sub [] rfl) (hD.sub [] (by decide) rfl) rfl hl.1 (rest := []) rfl (Nat.le_of_ble_eq_true rfl) dX1_faultPlace_18 ⟨Nat.zero_le _, Nat.zero_le _⟩) hP hD hS hA [] [0, 1] rfl rfl rfl (by decide) rfl (fun H locs hP hD hS => ?_)
        refine lv_istore_n (lv' := [(1, .int r18), (0, .ref qt), (2, .int x2)]) hx hb dX1_faultPlace_21 rfl hl (by decide) rfl (fun ls hl => ?_)
        refine lv_iload_n hx hb dX1_faultPlace_22 rfl (lv_at hl 0 rfl) ?_
        refine lv_bipush (v := -6) hx hb dX1_faultPlace_23 (by decide) ?_
        refine lv_icmp_ne (tgt := 30) hx hb dX1_faultPlace_25 (by decide) (fun hc => ?_) (fun hc => ?_)
        · have h := if_f hc h
          refine lv_iinc (v := (x2 + (1 : Int32))) (lv' := [(2, .int (x2 + (1 : Int32))), (1, .int r18), (0, .ref qt)]) hx hb dX1_faultPlace_30 hl (k := 2) rfl rfl (by decide) rfl (fun ls hl => ?_)
          refine lv_goto (tgt := 4) hx hb dX1_faultPlace_33 (by decide) ?_
          exact ih4 r18 (x2 + (1 : Int32)) H locs ls hP hD hS (lv_sub hl [2, 1, 0] rfl) h
        · have h := if_t hc h
          refine lv_iload_n hx hb dX1_faultPlace_28 rfl (lv_at hl 2 rfl) ?_
          cases h
          rw [hQQ]
          exact gw_iret hx hb hr hlocks hP hD hS dX1_faultPlace_29
  have h := hf
  unfold f_X1_faultPlace at h
  refine gw_start hP hD hS (fun H locs hP hD hS => ?_)
  refine lv_iconst (v := 0) hx hb dX1_faultPlace_0 (by decide) ?_
  refine lv_istore_n (lv' := [(1, .int (0 : Int32)), (0, .ref qt)]) hx hb dX1_faultPlace_1 rfl hl (by decide) rfl (fun ls hl => ?_)
  refine lv_iconst (v := 0) hx hb dX1_faultPlace_2 (by decide) ?_
  refine lv_istore_n (lv' := [(2, .int (0 : Int32)), (1, .int (0 : Int32)), (0, .ref qt)]) hx hb dX1_faultPlace_3 rfl hl (by decide) rfl (fun ls hl => ?_)
  exact hL4 FU (0 : Int32) (0 : Int32) H locs ls hP hD hS (lv_sub hl [2, 1, 0] rfl) h
theorem hdV_X1_faultPlace : yX1_faultPlace.cls = RX1 ∧ yX1_faultPlace.cls ≠ "java/lang/invoke/MethodHandle" ∧ yX1_faultPlace.cls ≠ "java/lang/invoke/VarHandle" ∧ (parseMethodDescriptor yX1_faultPlace.desc).map (fun d => d.parameters.length) = some 0 := by decide +kernel
def f_X2_takeFrom (v_order : (Nat → Int32)) (vo1_order : (Nat → Int32)) : Option ((Nat → Int32)) := (some (va_cpy vo1_order v_order (Int32.toNatClampNeg (0 : Int32)) (Int32.toNatClampNeg (0 : Int32)) (Int32.toNatClampNeg (36 : Int32))))
abbrev rm_X2_takeFrom : Room := { frames := 1, cells := 0, slots := 0, locals := 26 }
set_option maxHeartbeats 4000000 in
set_option maxRecDepth 100000 in
theorem C_X2_takeFrom (l : Launch) (D : va_G) (cI cJ cZ : ClassId) (sz : Nat) (qt qt_order qt_gets qt_target qo1 qo1_order qo1_gets qo1_target : Nat) (v_order : (Nat → Int32)) (vo1_order : (Nat → Int32)) (w_order : (Nat → Int32)) (hf : f_X2_takeFrom v_order vo1_order = some w_order) : Met l yX2_takeFrom wsX2_takeFrom rm_X2_takeFrom (PR D cI cJ cZ [(qt, .inr (1, [.ref qt_order, .ref qt_gets, .ref qt_target])), (qt_order, .inl (cI, 36, .inl v_order)), (qo1, .inr (1, [.ref qo1_order, .ref qo1_gets, .ref qo1_target])), (qo1_order, .inl (cI, 36, .inl vo1_order))] sz [.ref qt, .ref qo1]) (QV D (va_A [(qt, .inr (1, [.ref qt_order, .ref qt_gets, .ref qt_target])), (qt_order, .inl (cI, 36, .inl v_order)), (qo1, .inr (1, [.ref qo1_order, .ref qo1_gets, .ref qo1_target])), (qo1_order, .inl (cI, 36, .inl vo1_order))] sz) [(qt, .inr (1, [.ref qt_order, .ref qt_gets, .ref qt_target])), (qt_order, .inl (cI, 36, .inl w_order)), (qo1, .inr (1, [.ref qo1_order, .ref qo1_gets, .ref qo1_target])), (qo1_order, .inl (cI, 36, .inl vo1_order))]) 0 0 (va_A [(qt, .inr (1, [.ref qt_order, .ref qt_gets, .ref qt_target])), (qt_order, .inl (cI, 36, .inl v_order)), (qo1, .inr (1, [.ref qo1_order, .ref qo1_gets, .ref qo1_target])), (qo1_order, .inl (cI, 36, .inl vo1_order))] sz) := by
  refine Met.ofW (cc := cX2_takeFrom) (maxL := 2) (ret := none) (by decide) rfl ?_
  intro p e s m args below meth c s₁ B hml hv
  obtain ⟨hav, hsz, hP, hD0, hE⟩ := hv
  have hx := B.exec
  have hb := B.bytes
  have hr := B.returns
  have hts := atoms_spec (ws := wsX2_takeFrom) B.pre
  have hown : s.vm.findClass RX2 = some m.cls := findClass_of_methodNamed B.named
  have hlocks := B.notSynchronized
  subst hsz
  have hD := hD0.self (sz := s.heap.size)
  generalize hAe : va_A [(qt, .inr (1, [.ref qt_order, .ref qt_gets, .ref qt_target])), (qt_order, .inl (cI, 36, .inl v_order)), (qo1, .inr (1, [.ref qo1_order, .ref qo1_gets, .ref qo1_target])), (qo1_order, .inl (cI, 36, .inl vo1_order))] s.heap.size = A at hD ⊢
  have hA : ∀ q : Nat, s.heap.size ≤ q → A q := fun q h => by rw [← hAe]; exact Or.inr h
  have hS : va_S A s.heap s.heap [] := va_S.rf
  have hl := lv_entry ([.ref qt, .ref qo1]) (n := 2) (Nat.le_of_ble_eq_true rfl)
  have hfr : entryFrame m args 2 = entryFrame m ([.ref qt, .ref qo1] : List Value).toArray 2 := by rw [hav]
  rw [hfr, lg_entry_eq]
  generalize (lg_sl ([.ref qt, .ref qo1]) ++ List.replicate (2 - (lg_sl ([.ref qt, .ref qo1])).length) Slot.unset).toArray = ls at hl ⊢
  have hl : lv_has ls 2 [(0, .ref qt), (1, .ref qo1)] := hl
  obtain ⟨QQ, hQQ⟩ : ∃ QQ, QQ = MQ below (QV D A [(qt, .inr (1, [.ref qt_order, .ref qt_gets, .ref qt_target])), (qt_order, .inl (cI, 36, .inl w_order)), (qo1, .inr (1, [.ref qo1_order, .ref qo1_gets, .ref qo1_target])), (qo1_order, .inl (cI, 36, .inl vo1_order))]) args s 0 0 A := ⟨_, rfl⟩
  show W p l e rm_X2_takeFrom s m args below meth c s.heap [] 0 0 _ _
  rw [← hQQ]
  have h := hf
  unfold f_X2_takeFrom at h
  refine gw_start hP hD hS (fun H locs hP hD hS => ?_)
  refine lv_aload_n hx hb dX2_takeFrom_0 rfl (lv_at hl 1 rfl) ?_
  refine va_get (D := D) (ci := 1) (C := RX2) (T := TX2) (N := 3) hx hb hts (fun _ hw => (List.mem_cons_of_mem _ (List.mem_append_right _ hw))) hown hE.1 hP 2 rfl rfl 0 (by decide) (hts (.fieldLink RX2 9 "GlobeCrown$Places" "order" "[I") (List.mem_cons_of_mem _ (List.mem_append_left _ (List.mem_of_getElem? (i := 0) rfl)))) (fun _ h9 => h9) rfl dX2_takeFrom_1 ?_
  refine lv_iconst (v := 0) hx hb dX2_takeFrom_4 (by decide) ?_
  refine lv_aload_n hx hb dX2_takeFrom_5 rfl (lv_at hl 0 rfl) ?_
  refine va_get (D := D) (ci := 1) (C := RX2) (T := TX2) (N := 3) hx hb hts (fun _ hw => (List.mem_cons_of_mem _ (List.mem_append_right _ hw))) hown hE.1 hP 0 rfl rfl 0 (by decide) (hts (.fieldLink RX2 9 "GlobeCrown$Places" "order" "[I") (List.mem_cons_of_mem _ (List.mem_append_left _ (List.mem_of_getElem? (i := 0) rfl)))) (fun _ h9 => h9) rfl dX2_takeFrom_6 ?_
  refine lv_iconst (v := 0) hx hb dX2_takeFrom_9 (by decide) ?_
  refine lv_bipush (v := 36) hx hb dX2_takeFrom_10 (by decide) ?_
  refine va_copyi hx hb (hml.trans hl.1.symm) hown (hts (.methodLink RX2 21 arraycopyName) (List.mem_cons_of_mem _ (List.mem_append_left _ (List.mem_of_getElem? (i := 1) rfl)))) (hts (.native arraycopyName) (List.mem_cons_of_mem _ (List.mem_append_left _ (List.mem_of_getElem? (i := 2) rfl)))) (hts (.static arraycopyName) (List.mem_cons_of_mem _ (List.mem_append_left _ (List.mem_of_getElem? (i := 3) rfl)))) (hts (.initialized "java/lang/System") (List.mem_cons_of_mem _ (List.mem_append_left _ (List.mem_of_getElem? (i := 4) rfl)))) hE.1 hP hD hS 3 1 0 0 rfl rfl rfl rfl rfl (by decide) (by decide) (by decide) (by decide) (by decide) (fun _ _ => rfl) (Nat.le_of_ble_eq_true rfl) (Nat.le_of_ble_eq_true (by decide)) dX2_takeFrom_12 (fun H locs (hP : va_P D vwCl [(qt, .inr (1, [.ref qt_order, .ref qt_gets, .ref qt_target])), (qt_order, .inl (cI, 36, .inl (va_cpy vo1_order v_order (Int32.toNatClampNeg (0 : Int32)) (Int32.toNatClampNeg (0 : Int32)) (Int32.toNatClampNeg (36 : Int32))))), (qo1, .inr (1, [.ref qo1_order, .ref qo1_gets, .ref qo1_target])), (qo1_order, .inl (cI, 36, .inl vo1_order))] H) (hD : va_D A [(qt, .inr (1, [.ref qt_order, .ref qt_gets, .ref qt_target])), (qt_order, .inl (cI, 36, .inl (va_cpy vo1_order v_order (Int32.toNatClampNeg (0 : Int32)) (Int32.toNatClampNeg (0 : Int32)) (Int32.toNatClampNeg (36 : Int32))))), (qo1, .inr (1, [.ref qo1_order, .ref qo1_gets, .ref qo1_target])), (qo1_order, .inl (cI, 36, .inl vo1_order))]) hS => ?_)
  cases h
  rw [hQQ]
  exact gw_vret hx hb hr hlocks hP hD hS dX2_takeFrom_15
theorem hdV_X2_takeFrom : yX2_takeFrom.cls = RX2 ∧ yX2_takeFrom.cls ≠ "java/lang/invoke/MethodHandle" ∧ yX2_takeFrom.cls ≠ "java/lang/invoke/VarHandle" ∧ (parseMethodDescriptor yX2_takeFrom.desc).map (fun d => d.parameters.length) = some 1 := by decide +kernel
def L_X2_isRow_12 (p0 : Int32) : Nat → Int32 → Int32 → Int32 → Option (Int32)
  | 0, _, _, _ => none
  | n + 1, x1, x2, x3 => (if (6 : Int32) ≤ x3 then (if x2 = (0 : Int32) then (if x1 = (63 : Int32) then (some (1 : Int32)) else (some (0 : Int32))) else (some (0 : Int32))) else ((L_X2_isRow_12 p0 n) (x1 ||| ((1 : Int32) <<< ((jrem x2 (10 : Int32)) &&& 31))) (x2 / (10 : Int32)) (x3 + (1 : Int32))))
def f_X2_isRow (p0 : Int32) : Option (Int32) := (if (0 : Int32) ≤ p0 then (L_X2_isRow_12 p0 FU (0 : Int32) p0 (0 : Int32)) else (some (0 : Int32)))
abbrev rm_X2_isRow : Room := { frames := 0, cells := 0, slots := 0, locals := 0 }
set_option maxHeartbeats 4000000 in
set_option maxRecDepth 100000 in
theorem C_X2_isRow (l : Launch) (D : va_G) (cI cJ cZ : ClassId) (sz : Nat) (p0 : Int32) (r : Int32) (hf : f_X2_isRow p0 = some r) : Met l yX2_isRow wsX2_isRow rm_X2_isRow (PR D cI cJ cZ [] sz [.int p0]) (QI D (va_A [] sz) r []) 0 0 (va_A [] sz) := by
  refine Met.ofW (cc := cX2_isRow) (maxL := 4) (ret := (some .boolean)) (by decide) rfl ?_
  intro p e s m args below meth c s₁ B hml hv
  obtain ⟨hav, hsz, hP, hD0, hE⟩ := hv
  have hx := B.exec
  have hb := B.bytes
  have hr := B.returns
  have hts := atoms_spec (ws := wsX2_isRow) B.pre
  have hown : s.vm.findClass RX2 = some m.cls := findClass_of_methodNamed B.named
  have hlocks := B.notSynchronized
  subst hsz
  have hD := hD0.self (sz := s.heap.size)
  generalize hAe : va_A [] s.heap.size = A at hD ⊢
  have hA : ∀ q : Nat, s.heap.size ≤ q → A q := fun q h => by rw [← hAe]; exact Or.inr h
  have hS : va_S A s.heap s.heap [] := va_S.rf
  have hl := lv_entry ([.int p0]) (n := 4) (Nat.le_of_ble_eq_true rfl)
  have hfr : entryFrame m args 4 = entryFrame m ([.int p0] : List Value).toArray 4 := by rw [hav]
  rw [hfr, lg_entry_eq]
  generalize (lg_sl ([.int p0]) ++ List.replicate (4 - (lg_sl ([.int p0])).length) Slot.unset).toArray = ls at hl ⊢
  have hl : lv_has ls 4 [(0, .int p0)] := hl
  obtain ⟨QQ, hQQ⟩ : ∃ QQ, QQ = MQ below (QI D A r []) args s 0 0 A := ⟨_, rfl⟩
  show W p l e rm_X2_isRow s m args below meth c s.heap [] 0 0 _ _
  rw [← hQQ]
  have hL12 : ∀ (n12 : Nat), ∀ (x1 : Int32) (x2 : Int32) (x3 : Int32) (H : Heap) (locs : List Loc) (ls : Array Slot), va_P D vwCl [] H → va_D A [] → va_S A s.heap H locs → lv_has ls 4 [(1, .int x1), (2, .int x2), (3, .int x3)] → L_X2_isRow_12 p0 n12 x1 x2 x3 = some r → W p l e rm_X2_isRow s m args below meth c H locs 0 0 QQ (F0 m 12 ls []) := by
    intro n12
    induction n12 with
    | zero =>
      intro x1 x2 x3 H locs ls hP hD hS hl h
      have h : none = some r := h
      cases h
    | succ n12 ih12 =>
      intro x1 x2 x3 H locs ls hP hD hS hl h
      rw [L_X2_isRow_12.eq_2] at h
      refine lv_iload_n hx hb dX2_isRow_12 rfl (lv_at hl 2 rfl) ?_
      refine lv_bipush (v := 6) hx hb dX2_isRow_13 (by decide) ?_
      refine lv_icmp_ge (tgt := 38) hx hb dX2_isRow_15 (by decide) (fun hc => ?_) (fun hc => ?_)
      · have h := if_t hc h
        refine lv_iload_n hx hb dX2_isRow_38 rfl (lv_at hl 1 rfl) ?_
        refine lv_if_ne (tgt := 52) hx hb dX2_isRow_39 (by decide) (fun hc => ?_) (fun hc => ?_)
        · have h := if_f hc h
          refine lv_iconst (v := 0) hx hb dX2_isRow_52 (by decide) ?_
          cases h
          rw [hQQ]
          exact gw_zret hx hb hr hlocks (by decide) hP hD hS dX2_isRow_53
        · have h := if_t hc h
          refine lv_iload_n hx hb dX2_isRow_42 rfl (lv_at hl 0 rfl) ?_
          refine lv_bipush (v := 63) hx hb dX2_isRow_43 (by decide) ?_
          refine lv_icmp_ne (tgt := 52) hx hb dX2_isRow_45 (by decide) (fun hc => ?_) (fun hc => ?_)
          · have h := if_f hc h
            refine lv_iconst (v := 0) hx hb dX2_isRow_52 (by decide) ?_
            cases h
            rw [hQQ]
            exact gw_zret hx hb hr hlocks (by decide) hP hD hS dX2_isRow_53
          · have h := if_t hc h
            refine lv_iconst (v := 1) hx hb dX2_isRow_48 (by decide) ?_
            refine lv_goto (tgt := 53) hx hb dX2_isRow_49 (by decide) ?_
            cases h
            rw [hQQ]
            exact gw_zret hx hb hr hlocks (by decide) hP hD hS dX2_isRow_53
      · have h := if_f hc h
        refine lv_iload_n hx hb dX2_isRow_18 rfl (lv_at hl 0 rfl) ?_
        refine lv_iconst (v := 1) hx hb dX2_isRow_19 (by decide) ?_
        refine lv_iload_n hx hb dX2_isRow_20 rfl (lv_at hl 1 rfl) ?_
        refine lv_bipush (v := 10) hx hb dX2_isRow_21 (by decide) ?_
        refine gw_irem hx hb dX2_isRow_23 (by decide) ?_
        refine lv_ishl hx hb dX2_isRow_24 ?_
        refine lv_ior hx hb dX2_isRow_25 ?_
        refine lv_istore_n (lv' := [(1, .int (x1 ||| ((1 : Int32) <<< ((jrem x2 (10 : Int32)) &&& 31)))), (2, .int x2), (3, .int x3)]) hx hb dX2_isRow_26 rfl hl (by decide) rfl (fun ls hl => ?_)
        refine lv_iload_n hx hb dX2_isRow_27 rfl (lv_at hl 1 rfl) ?_
        refine lv_bipush (v := 10) hx hb dX2_isRow_28 (by decide) ?_
        refine lv_idiv hx hb dX2_isRow_30 (by decide) ?_
        refine lv_istore_n (lv' := [(2, .int (x2 / (10 : Int32))), (1, .int (x1 ||| ((1 : Int32) <<< ((jrem x2 (10 : Int32)) &&& 31)))), (3, .int x3)]) hx hb dX2_isRow_31 rfl hl (by decide) rfl (fun ls hl => ?_)
        refine lv_iinc (v := (x3 + (1 : Int32))) (lv' := [(3, .int (x3 + (1 : Int32))), (2, .int (x2 / (10 : Int32))), (1, .int (x1 ||| ((1 : Int32) <<< ((jrem x2 (10 : Int32)) &&& 31))))]) hx hb dX2_isRow_32 hl (k := 2) rfl rfl (by decide) rfl (fun ls hl => ?_)
        refine lv_goto (tgt := 12) hx hb dX2_isRow_35 (by decide) ?_
        exact ih12 (x1 ||| ((1 : Int32) <<< ((jrem x2 (10 : Int32)) &&& 31))) (x2 / (10 : Int32)) (x3 + (1 : Int32)) H locs ls hP hD hS (lv_sub hl [2, 1, 0] rfl) h
  have h := hf
  unfold f_X2_isRow at h
  refine gw_start hP hD hS (fun H locs hP hD hS => ?_)
  refine lv_iload_n hx hb dX2_isRow_0 rfl (lv_at hl 0 rfl) ?_
  refine lv_if_ge (tgt := 6) hx hb dX2_isRow_1 (by decide) (fun hc => ?_) (fun hc => ?_)
  · have h := if_t hc h
    refine lv_iconst (v := 0) hx hb dX2_isRow_6 (by decide) ?_
    refine lv_istore_n (lv' := [(1, .int (0 : Int32)), (0, .int p0)]) hx hb dX2_isRow_7 rfl hl (by decide) rfl (fun ls hl => ?_)
    refine lv_iload_n hx hb dX2_isRow_8 rfl (lv_at hl 1 rfl) ?_
    refine lv_istore_n (lv' := [(2, .int p0), (1, .int (0 : Int32)), (0, .int p0)]) hx hb dX2_isRow_9 rfl hl (by decide) rfl (fun ls hl => ?_)
    refine lv_iconst (v := 0) hx hb dX2_isRow_10 (by decide) ?_
    refine lv_istore_n (lv' := [(3, .int (0 : Int32)), (2, .int p0), (1, .int (0 : Int32)), (0, .int p0)]) hx hb dX2_isRow_11 rfl hl (by decide) rfl (fun ls hl => ?_)
    exact hL12 FU (0 : Int32) p0 (0 : Int32) H locs ls hP hD hS (lv_sub hl [2, 1, 0] rfl) h
  · have h := if_f hc h
    refine lv_iconst (v := 0) hx hb dX2_isRow_4 (by decide) ?_
    cases h
    rw [hQQ]
    exact gw_zret hx hb hr hlocks (by decide) hP hD hS dX2_isRow_5
theorem hdS_X2_isRow : yX2_isRow.cls ≠ "java/lang/invoke/MethodHandle" ∧ yX2_isRow.cls ≠ "java/lang/invoke/VarHandle" ∧ (parseMethodDescriptor yX2_isRow.desc).map (fun d => d.parameters.length) = some 1 := by decide +kernel
def B_X2_placeAt_25 (v_order : (Nat → Int32)) (p1 : Int32) (p2 : Int32) (s0 : Int32) : Option (Int32) := (if s0 = (0 : Int32) then (some (-6 : Int32)) else (gin (((6 : Int32) * p1) + p2) 36 (some (v_order (Int32.toNatClampNeg (((6 : Int32) * p1) + p2))))))
def B_X2_placeAt_24 (v_order : (Nat → Int32)) (p1 : Int32) (p2 : Int32) : Option (Int32) := (B_X2_placeAt_25 v_order p1 p2 (0 : Int32))
def f_X2_placeAt (v_order : (Nat → Int32)) (p1 : Int32) (p2 : Int32) : Option (Int32) := (if p1 < (0 : Int32) then (B_X2_placeAt_24 v_order p1 p2) else (if (6 : Int32) ≤ p1 then (B_X2_placeAt_24 v_order p1 p2) else (if p2 < (0 : Int32) then (B_X2_placeAt_24 v_order p1 p2) else (if (6 : Int32) ≤ p2 then (B_X2_placeAt_24 v_order p1 p2) else (B_X2_placeAt_25 v_order p1 p2 (1 : Int32))))))
abbrev rm_X2_placeAt : Room := { frames := 0, cells := 0, slots := 0, locals := 0 }
set_option maxHeartbeats 4000000 in
set_option maxRecDepth 100000 in
theorem C_X2_placeAt (l : Launch) (D : va_G) (cI cJ cZ : ClassId) (sz : Nat) (qt qt_order qt_gets qt_target : Nat) (v_order : (Nat → Int32)) (p1 : Int32) (p2 : Int32) (r : Int32) (hf : f_X2_placeAt v_order p1 p2 = some r) : Met l yX2_placeAt wsX2_placeAt rm_X2_placeAt (PR D cI cJ cZ [(qt, .inr (1, [.ref qt_order, .ref qt_gets, .ref qt_target])), (qt_order, .inl (cI, 36, .inl v_order))] sz [.ref qt, .int p1, .int p2]) (QI D (va_A [(qt, .inr (1, [.ref qt_order, .ref qt_gets, .ref qt_target])), (qt_order, .inl (cI, 36, .inl v_order))] sz) r [(qt, .inr (1, [.ref qt_order, .ref qt_gets, .ref qt_target])), (qt_order, .inl (cI, 36, .inl v_order))]) 0 0 (va_A [(qt, .inr (1, [.ref qt_order, .ref qt_gets, .ref qt_target])), (qt_order, .inl (cI, 36, .inl v_order))] sz) := by
  refine Met.ofW (cc := cX2_placeAt) (maxL := 4) (ret := (some .int)) (by decide) rfl ?_
  intro p e s m args below meth c s₁ B hml hv
  obtain ⟨hav, hsz, hP, hD0, hE⟩ := hv
  have hx := B.exec
  have hb := B.bytes
  have hr := B.returns
  have hts := atoms_spec (ws := wsX2_placeAt) B.pre
  have hown : s.vm.findClass RX2 = some m.cls := findClass_of_methodNamed B.named
  have hlocks := B.notSynchronized
  subst hsz
  have hD := hD0.self (sz := s.heap.size)
  generalize hAe : va_A [(qt, .inr (1, [.ref qt_order, .ref qt_gets, .ref qt_target])), (qt_order, .inl (cI, 36, .inl v_order))] s.heap.size = A at hD ⊢
  have hA : ∀ q : Nat, s.heap.size ≤ q → A q := fun q h => by rw [← hAe]; exact Or.inr h
  have hS : va_S A s.heap s.heap [] := va_S.rf
  have hl := lv_entry ([.ref qt, .int p1, .int p2]) (n := 4) (Nat.le_of_ble_eq_true rfl)
  have hfr : entryFrame m args 4 = entryFrame m ([.ref qt, .int p1, .int p2] : List Value).toArray 4 := by rw [hav]
  rw [hfr, lg_entry_eq]
  generalize (lg_sl ([.ref qt, .int p1, .int p2]) ++ List.replicate (4 - (lg_sl ([.ref qt, .int p1, .int p2])).length) Slot.unset).toArray = ls at hl ⊢
  have hl : lv_has ls 4 [(0, .ref qt), (1, .int p1), (2, .int p2)] := hl
  obtain ⟨QQ, hQQ⟩ : ∃ QQ, QQ = MQ below (QI D A r [(qt, .inr (1, [.ref qt_order, .ref qt_gets, .ref qt_target])), (qt_order, .inl (cI, 36, .inl v_order))]) args s 0 0 A := ⟨_, rfl⟩
  show W p l e rm_X2_placeAt s m args below meth c s.heap [] 0 0 _ _
  rw [← hQQ]
  have hB25 : ∀ (s0 : Int32) (H : Heap) (locs : List Loc) (ls : Array Slot), va_P D vwCl [(qt, .inr (1, [.ref qt_order, .ref qt_gets, .ref qt_target])), (qt_order, .inl (cI, 36, .inl v_order))] H → va_D A [(qt, .inr (1, [.ref qt_order, .ref qt_gets, .ref qt_target])), (qt_order, .inl (cI, 36, .inl v_order))] → va_S A s.heap H locs → lv_has ls 4 [(0, .ref qt), (1, .int p1), (2, .int p2)] → B_X2_placeAt_25 v_order p1 p2 s0 = some r → W p l e rm_X2_placeAt s m args below meth c H locs 0 0 QQ (F0 m 25 ls [.int s0]) := by
    intro s0 H locs ls hP hD hS hl h
    unfold B_X2_placeAt_25 at h
    refine lv_istore_n (lv' := [(3, .int s0), (0, .ref qt), (1, .int p1), (2, .int p2)]) hx hb dX2_placeAt_25 rfl hl (by decide) rfl (fun ls hl => ?_)
    refine lv_iload_n hx hb dX2_placeAt_26 rfl (lv_at hl 0 rfl) ?_
    refine lv_if_eq (tgt := 44) hx hb dX2_placeAt_27 (by decide) (fun hc => ?_) (fun hc => ?_)
    · have h := if_t hc h
      refine lv_bipush (v := -6) hx hb dX2_placeAt_44 (by decide) ?_
      cases h
      rw [hQQ]
      exact gw_iret hx hb hr hlocks hP hD hS dX2_placeAt_46
    · have h := if_f hc h
      refine lv_aload_n hx hb dX2_placeAt_30 rfl (lv_at hl 1 rfl) ?_
      refine va_get (D := D) (ci := 1) (C := RX2) (T := TX2) (N := 3) hx hb hts (fun _ hw => (List.mem_cons_of_mem _ (List.mem_append_right _ hw))) hown hE.1 hP 0 rfl rfl 0 (by decide) (hts (.fieldLink RX2 9 "GlobeCrown$Places" "order" "[I") (List.mem_cons_of_mem _ (List.mem_append_left _ (List.mem_of_getElem? (i := 0) rfl)))) (fun _ h9 => h9) rfl dX2_placeAt_31 ?_
      refine lv_bipush (v := 6) hx hb dX2_placeAt_34 (by decide) ?_
      refine lv_iload_n hx hb dX2_placeAt_36 rfl (lv_at hl 2 rfl) ?_
      refine lv_imul hx hb dX2_placeAt_37 ?_
      refine lv_iload_n hx hb dX2_placeAt_38 rfl (lv_at hl 3 rfl) ?_
      refine lv_iadd hx hb dX2_placeAt_39 ?_
      obtain ⟨hg, h⟩ := gin_some h
      refine va_iald hx hb hE.1 hP 1 0 rfl rfl hg dX2_placeAt_40 ?_
      refine lv_goto (tgt := 46) hx hb dX2_placeAt_41 (by decide) ?_
      cases h
      rw [hQQ]
      exact gw_iret hx hb hr hlocks hP hD hS dX2_placeAt_46
  have hB24 : ∀ (H : Heap) (locs : List Loc) (ls : Array Slot), va_P D vwCl [(qt, .inr (1, [.ref qt_order, .ref qt_gets, .ref qt_target])), (qt_order, .inl (cI, 36, .inl v_order))] H → va_D A [(qt, .inr (1, [.ref qt_order, .ref qt_gets, .ref qt_target])), (qt_order, .inl (cI, 36, .inl v_order))] → va_S A s.heap H locs → lv_has ls 4 [(0, .ref qt), (1, .int p1), (2, .int p2)] → B_X2_placeAt_24 v_order p1 p2 = some r → W p l e rm_X2_placeAt s m args below meth c H locs 0 0 QQ (F0 m 24 ls []) := by
    intro H locs ls hP hD hS hl h
    unfold B_X2_placeAt_24 at h
    refine lv_iconst (v := 0) hx hb dX2_placeAt_24 (by decide) ?_
    exact hB25 (0 : Int32) H locs ls hP hD hS hl h
  have h := hf
  unfold f_X2_placeAt at h
  refine gw_start hP hD hS (fun H locs hP hD hS => ?_)
  refine lv_iload_n hx hb dX2_placeAt_0 rfl (lv_at hl 1 rfl) ?_
  refine lv_if_lt (tgt := 24) hx hb dX2_placeAt_1 (by decide) (fun hc => ?_) (fun hc => ?_)
  · have h := if_t hc h
    exact hB24 H locs ls hP hD hS hl h
  · have h := if_f hc h
    refine lv_iload_n hx hb dX2_placeAt_4 rfl (lv_at hl 1 rfl) ?_
    refine lv_bipush (v := 6) hx hb dX2_placeAt_5 (by decide) ?_
    refine lv_icmp_ge (tgt := 24) hx hb dX2_placeAt_7 (by decide) (fun hc => ?_) (fun hc => ?_)
    · have h := if_t hc h
      exact hB24 H locs ls hP hD hS hl h
    · have h := if_f hc h
      refine lv_iload_n hx hb dX2_placeAt_10 rfl (lv_at hl 2 rfl) ?_
      refine lv_if_lt (tgt := 24) hx hb dX2_placeAt_11 (by decide) (fun hc => ?_) (fun hc => ?_)
      · have h := if_t hc h
        exact hB24 H locs ls hP hD hS hl h
      · have h := if_f hc h
        refine lv_iload_n hx hb dX2_placeAt_14 rfl (lv_at hl 2 rfl) ?_
        refine lv_bipush (v := 6) hx hb dX2_placeAt_15 (by decide) ?_
        refine lv_icmp_ge (tgt := 24) hx hb dX2_placeAt_17 (by decide) (fun hc => ?_) (fun hc => ?_)
        · have h := if_t hc h
          exact hB24 H locs ls hP hD hS hl h
        · have h := if_f hc h
          refine lv_iconst (v := 1) hx hb dX2_placeAt_20 (by decide) ?_
          refine lv_goto (tgt := 25) hx hb dX2_placeAt_21 (by decide) ?_
          exact hB25 (1 : Int32) H locs ls hP hD hS hl h
theorem hdV_X2_placeAt : yX2_placeAt.cls = RX2 ∧ yX2_placeAt.cls ≠ "java/lang/invoke/MethodHandle" ∧ yX2_placeAt.cls ≠ "java/lang/invoke/VarHandle" ∧ (parseMethodDescriptor yX2_placeAt.desc).map (fun d => d.parameters.length) = some 2 := by decide +kernel
def L_X2_row_4 (v_order : (Nat → Int32)) (p1 : Int32) : Nat → Int32 → Int32 → Option (Int32)
  | 0, _, _ => none
  | n + 1, x2, x3 => (if (6 : Int32) ≤ x3 then (some x2) else (bd1 (f_X2_placeAt v_order p1 x3) (fun r17 => ((L_X2_row_4 v_order p1 n) (((10 : Int32) * x2) + r17) (x3 + (1 : Int32))))))
def f_X2_row (v_order : (Nat → Int32)) (p1 : Int32) : Option (Int32) := (L_X2_row_4 v_order p1 FU (0 : Int32) (0 : Int32))
abbrev rm_X2_row : Room := { frames := 1, cells := 0, slots := 0, locals := 23 }
set_option maxHeartbeats 4000000 in
set_option maxRecDepth 100000 in
theorem C_X2_row (l : Launch) (D : va_G) (cI cJ cZ : ClassId) (sz : Nat) (qt qt_order qt_gets qt_target : Nat) (v_order : (Nat → Int32)) (p1 : Int32) (r : Int32) (hf : f_X2_row v_order p1 = some r) : Met l yX2_row wsX2_row rm_X2_row (PR D cI cJ cZ [(qt, .inr (1, [.ref qt_order, .ref qt_gets, .ref qt_target])), (qt_order, .inl (cI, 36, .inl v_order))] sz [.ref qt, .int p1]) (QI D (va_A [(qt, .inr (1, [.ref qt_order, .ref qt_gets, .ref qt_target])), (qt_order, .inl (cI, 36, .inl v_order))] sz) r [(qt, .inr (1, [.ref qt_order, .ref qt_gets, .ref qt_target])), (qt_order, .inl (cI, 36, .inl v_order))]) 0 0 (va_A [(qt, .inr (1, [.ref qt_order, .ref qt_gets, .ref qt_target])), (qt_order, .inl (cI, 36, .inl v_order))] sz) := by
  refine Met.ofW (cc := cX2_row) (maxL := 4) (ret := (some .int)) (by decide) rfl ?_
  intro p e s m args below meth c s₁ B hml hv
  obtain ⟨hav, hsz, hP, hD0, hE⟩ := hv
  have hx := B.exec
  have hb := B.bytes
  have hr := B.returns
  have hts := atoms_spec (ws := wsX2_row) B.pre
  have hown : s.vm.findClass RX2 = some m.cls := findClass_of_methodNamed B.named
  have hlocks := B.notSynchronized
  subst hsz
  have hD := hD0.self (sz := s.heap.size)
  generalize hAe : va_A [(qt, .inr (1, [.ref qt_order, .ref qt_gets, .ref qt_target])), (qt_order, .inl (cI, 36, .inl v_order))] s.heap.size = A at hD ⊢
  have hA : ∀ q : Nat, s.heap.size ≤ q → A q := fun q h => by rw [← hAe]; exact Or.inr h
  have hS : va_S A s.heap s.heap [] := va_S.rf
  have hl := lv_entry ([.ref qt, .int p1]) (n := 4) (Nat.le_of_ble_eq_true rfl)
  have hfr : entryFrame m args 4 = entryFrame m ([.ref qt, .int p1] : List Value).toArray 4 := by rw [hav]
  rw [hfr, lg_entry_eq]
  generalize (lg_sl ([.ref qt, .int p1]) ++ List.replicate (4 - (lg_sl ([.ref qt, .int p1])).length) Slot.unset).toArray = ls at hl ⊢
  have hl : lv_has ls 4 [(0, .ref qt), (1, .int p1)] := hl
  obtain ⟨QQ, hQQ⟩ : ∃ QQ, QQ = MQ below (QI D A r [(qt, .inr (1, [.ref qt_order, .ref qt_gets, .ref qt_target])), (qt_order, .inl (cI, 36, .inl v_order))]) args s 0 0 A := ⟨_, rfl⟩
  show W p l e rm_X2_row s m args below meth c s.heap [] 0 0 _ _
  rw [← hQQ]
  have hL4 : ∀ (n4 : Nat), ∀ (x2 : Int32) (x3 : Int32) (H : Heap) (locs : List Loc) (ls : Array Slot), va_P D vwCl [(qt, .inr (1, [.ref qt_order, .ref qt_gets, .ref qt_target])), (qt_order, .inl (cI, 36, .inl v_order))] H → va_D A [(qt, .inr (1, [.ref qt_order, .ref qt_gets, .ref qt_target])), (qt_order, .inl (cI, 36, .inl v_order))] → va_S A s.heap H locs → lv_has ls 4 [(0, .ref qt), (1, .int p1), (2, .int x2), (3, .int x3)] → L_X2_row_4 v_order p1 n4 x2 x3 = some r → W p l e rm_X2_row s m args below meth c H locs 0 0 QQ (F0 m 4 ls []) := by
    intro n4
    induction n4 with
    | zero =>
      intro x2 x3 H locs ls hP hD hS hl h
      have h : none = some r := h
      cases h
    | succ n4 ih4 =>
      intro x2 x3 H locs ls hP hD hS hl h
      rw [L_X2_row_4.eq_2] at h
      refine lv_iload_n hx hb dX2_row_4 rfl (lv_at hl 3 rfl) ?_
      refine lv_bipush (v := 6) hx hb dX2_row_5 (by decide) ?_
      refine lv_icmp_ge (tgt := 28) hx hb dX2_row_7 (by decide) (fun hc => ?_) (fun hc => ?_)
      · have h := if_t hc h
        refine lv_iload_n hx hb dX2_row_28 rfl (lv_at hl 2 rfl) ?_
        cases h
        rw [hQQ]
        exact gw_iret hx hb hr hlocks hP hD hS dX2_row_29
      · have h := if_f hc h
        refine lv_bipush (v := 10) hx hb dX2_row_10 (by decide) ?_
        refine lv_iload_n hx hb dX2_row_12 rfl (lv_at hl 2 rfl) ?_
        refine lv_imul hx hb dX2_row_13 ?_
        refine lv_aload_n hx hb dX2_row_14 rfl (lv_at hl 0 rfl) ?_
        refine lv_iload_n hx hb dX2_row_15 rfl (lv_at hl 1 rfl) ?_
        refine lv_iload_n hx hb dX2_row_16 rfl (lv_at hl 3 rfl) ?_
        obtain ⟨r17, hc17, h⟩ := bd1_some h
        refine gw_ci (wr := []) (w2 := [(qt, .inr (1, [.ref qt_order, .ref qt_gets, .ref qt_target])), (qt_order, .inl (cI, 36, .inl v_order))]) (gw_rV (n := 2) ⟨hx, hb, hml, hown, hts⟩ (C_X2_placeAt l D cI cJ cZ H.size qt qt_order qt_gets qt_target v_order p1 x3 r17 hc17) gX2_row_X2_placeAt rfl rfl rfl hdV_X2_placeAt ⟨Nat.le_of_ble_eq_true rfl, Nat.le_of_ble_eq_true rfl⟩ hE (hP.sub [0, 1] rfl) (hD.sub [0, 1] (by decide) rfl) 1 rfl 0 rfl rfl hl.1 (rest := [.int ((10 : Int32) * x2)]) rfl (Nat.le_of_ble_eq_true rfl) dX2_row_17 ⟨Nat.zero_le _, Nat.zero_le _⟩) hP hD hS hA [0, 1] [] rfl rfl rfl (by decide) rfl (fun H locs hP hD hS => ?_)
        refine lv_iadd hx hb dX2_row_20 ?_
        refine lv_istore_n (lv' := [(2, .int (((10 : Int32) * x2) + r17)), (0, .ref qt), (1, .int p1), (3, .int x3)]) hx hb dX2_row_21 rfl hl (by decide) rfl (fun ls hl => ?_)
        refine lv_iinc (v := (x3 + (1 : Int32))) (lv' := [(3, .int (x3 + (1 : Int32))), (2, .int (((10 : Int32) * x2) + r17)), (0, .ref qt), (1, .int p1)]) hx hb dX2_row_22 hl (k := 3) rfl rfl (by decide) rfl (fun ls hl => ?_)
        refine lv_goto (tgt := 4) hx hb dX2_row_25 (by decide) ?_
        exact ih4 (((10 : Int32) * x2) + r17) (x3 + (1 : Int32)) H locs ls hP hD hS (lv_sub hl [2, 3, 1, 0] rfl) h
  have h := hf
  unfold f_X2_row at h
  refine gw_start hP hD hS (fun H locs hP hD hS => ?_)
  refine lv_iconst (v := 0) hx hb dX2_row_0 (by decide) ?_
  refine lv_istore_n (lv' := [(2, .int (0 : Int32)), (0, .ref qt), (1, .int p1)]) hx hb dX2_row_1 rfl hl (by decide) rfl (fun ls hl => ?_)
  refine lv_iconst (v := 0) hx hb dX2_row_2 (by decide) ?_
  refine lv_istore_n (lv' := [(3, .int (0 : Int32)), (2, .int (0 : Int32)), (0, .ref qt), (1, .int p1)]) hx hb dX2_row_3 rfl hl (by decide) rfl (fun ls hl => ?_)
  exact hL4 FU (0 : Int32) (0 : Int32) H locs ls hP hD hS (lv_sub hl [2, 3, 1, 0] rfl) h
theorem hdV_X2_row : yX2_row.cls = RX2 ∧ yX2_row.cls ≠ "java/lang/invoke/MethodHandle" ∧ yX2_row.cls ≠ "java/lang/invoke/VarHandle" ∧ (parseMethodDescriptor yX2_row.desc).map (fun d => d.parameters.length) = some 1 := by decide +kernel
def L_X2_setRow_16 (p1 : Int32) (p2 : Int32) : Nat → (Nat → Int32) → Int32 → Int32 → Option ((Nat → Int32))
  | 0, _, _, _ => none
  | n + 1, v_order, x3, x4 => (if x4 < (0 : Int32) then (some v_order) else (gin (((6 : Int32) * p1) + x4) 36 ((L_X2_setRow_16 p1 p2 n) (upd v_order (Int32.toNatClampNeg (((6 : Int32) * p1) + x4)) (jrem x3 (10 : Int32))) (x3 / (10 : Int32)) (x4 + (-1 : Int32)))))
def f_X2_setRow (v_order : (Nat → Int32)) (p1 : Int32) (p2 : Int32) : Option ((Nat → Int32)) := (if p1 < (0 : Int32) then (some v_order) else (if p1 < (6 : Int32) then (L_X2_setRow_16 p1 p2 FU v_order p2 (5 : Int32)) else (some v_order)))
abbrev rm_X2_setRow : Room := { frames := 0, cells := 0, slots := 0, locals := 0 }
set_option maxHeartbeats 4000000 in
set_option maxRecDepth 100000 in
theorem C_X2_setRow (l : Launch) (D : va_G) (cI cJ cZ : ClassId) (sz : Nat) (qt qt_order qt_gets qt_target : Nat) (v_order : (Nat → Int32)) (p1 : Int32) (p2 : Int32) (w_order : (Nat → Int32)) (hf : f_X2_setRow v_order p1 p2 = some w_order) : Met l yX2_setRow wsX2_setRow rm_X2_setRow (PR D cI cJ cZ [(qt, .inr (1, [.ref qt_order, .ref qt_gets, .ref qt_target])), (qt_order, .inl (cI, 36, .inl v_order))] sz [.ref qt, .int p1, .int p2]) (QV D (va_A [(qt, .inr (1, [.ref qt_order, .ref qt_gets, .ref qt_target])), (qt_order, .inl (cI, 36, .inl v_order))] sz) [(qt, .inr (1, [.ref qt_order, .ref qt_gets, .ref qt_target])), (qt_order, .inl (cI, 36, .inl w_order))]) 0 0 (va_A [(qt, .inr (1, [.ref qt_order, .ref qt_gets, .ref qt_target])), (qt_order, .inl (cI, 36, .inl v_order))] sz) := by
  refine Met.ofW (cc := cX2_setRow) (maxL := 5) (ret := none) (by decide) rfl ?_
  intro p e s m args below meth c s₁ B hml hv
  obtain ⟨hav, hsz, hP, hD0, hE⟩ := hv
  have hx := B.exec
  have hb := B.bytes
  have hr := B.returns
  have hts := atoms_spec (ws := wsX2_setRow) B.pre
  have hown : s.vm.findClass RX2 = some m.cls := findClass_of_methodNamed B.named
  have hlocks := B.notSynchronized
  subst hsz
  have hD := hD0.self (sz := s.heap.size)
  generalize hAe : va_A [(qt, .inr (1, [.ref qt_order, .ref qt_gets, .ref qt_target])), (qt_order, .inl (cI, 36, .inl v_order))] s.heap.size = A at hD ⊢
  have hA : ∀ q : Nat, s.heap.size ≤ q → A q := fun q h => by rw [← hAe]; exact Or.inr h
  have hS : va_S A s.heap s.heap [] := va_S.rf
  have hl := lv_entry ([.ref qt, .int p1, .int p2]) (n := 5) (Nat.le_of_ble_eq_true rfl)
  have hfr : entryFrame m args 5 = entryFrame m ([.ref qt, .int p1, .int p2] : List Value).toArray 5 := by rw [hav]
  rw [hfr, lg_entry_eq]
  generalize (lg_sl ([.ref qt, .int p1, .int p2]) ++ List.replicate (5 - (lg_sl ([.ref qt, .int p1, .int p2])).length) Slot.unset).toArray = ls at hl ⊢
  have hl : lv_has ls 5 [(0, .ref qt), (1, .int p1), (2, .int p2)] := hl
  obtain ⟨QQ, hQQ⟩ : ∃ QQ, QQ = MQ below (QV D A [(qt, .inr (1, [.ref qt_order, .ref qt_gets, .ref qt_target])), (qt_order, .inl (cI, 36, .inl w_order))]) args s 0 0 A := ⟨_, rfl⟩
  show W p l e rm_X2_setRow s m args below meth c s.heap [] 0 0 _ _
  rw [← hQQ]
  have hL16 : ∀ (n16 : Nat), ∀ (v_order : (Nat → Int32)) (x3 : Int32) (x4 : Int32) (H : Heap) (locs : List Loc) (ls : Array Slot), va_P D vwCl [(qt, .inr (1, [.ref qt_order, .ref qt_gets, .ref qt_target])), (qt_order, .inl (cI, 36, .inl v_order))] H → va_D A [(qt, .inr (1, [.ref qt_order, .ref qt_gets, .ref qt_target])), (qt_order, .inl (cI, 36, .inl v_order))] → va_S A s.heap H locs → lv_has ls 5 [(0, .ref qt), (1, .int p1), (3, .int x3), (4, .int x4)] → L_X2_setRow_16 p1 p2 n16 v_order x3 x4 = some w_order → W p l e rm_X2_setRow s m args below meth c H locs 0 0 QQ (F0 m 16 ls []) := by
    intro n16
    induction n16 with
    | zero =>
      intro v_order x3 x4 H locs ls hP hD hS hl h
      have h : none = some w_order := h
      cases h
    | succ n16 ih16 =>
      intro v_order x3 x4 H locs ls hP hD hS hl h
      rw [L_X2_setRow_16.eq_2] at h
      refine lv_iload hx hb dX2_setRow_16 (lv_at hl 3 rfl) ?_
      refine lv_if_lt (tgt := 48) hx hb dX2_setRow_18 (by decide) (fun hc => ?_) (fun hc => ?_)
      · have h := if_t hc h
        cases h
        rw [hQQ]
        exact gw_vret hx hb hr hlocks hP hD hS dX2_setRow_48
      · have h := if_f hc h
        refine lv_aload_n hx hb dX2_setRow_21 rfl (lv_at hl 0 rfl) ?_
        refine va_get (D := D) (ci := 1) (C := RX2) (T := TX2) (N := 3) hx hb hts (fun _ hw => (List.mem_cons_of_mem _ (List.mem_append_right _ hw))) hown hE.1 hP 0 rfl rfl 0 (by decide) (hts (.fieldLink RX2 9 "GlobeCrown$Places" "order" "[I") (List.mem_cons_of_mem _ (List.mem_append_left _ (List.mem_of_getElem? (i := 0) rfl)))) (fun _ h9 => h9) rfl dX2_setRow_22 ?_
        refine lv_bipush (v := 6) hx hb dX2_setRow_25 (by decide) ?_
        refine lv_iload_n hx hb dX2_setRow_27 rfl (lv_at hl 1 rfl) ?_
        refine lv_imul hx hb dX2_setRow_28 ?_
        refine lv_iload hx hb dX2_setRow_29 (lv_at hl 3 rfl) ?_
        refine lv_iadd hx hb dX2_setRow_31 ?_
        refine lv_iload_n hx hb dX2_setRow_32 rfl (lv_at hl 2 rfl) ?_
        refine lv_bipush (v := 10) hx hb dX2_setRow_33 (by decide) ?_
        refine gw_irem hx hb dX2_setRow_35 (by decide) ?_
        obtain ⟨hg, h⟩ := gin_some h
        refine va_iast hx hb hE.1 hP hD hS 1 0 rfl rfl hg dX2_setRow_36 (fun H locs (hP : va_P D vwCl [(qt, .inr (1, [.ref qt_order, .ref qt_gets, .ref qt_target])), (qt_order, .inl (cI, 36, .inl (upd v_order (Int32.toNatClampNeg (((6 : Int32) * p1) + x4)) (jrem x3 (10 : Int32)))))] H) (hD : va_D A [(qt, .inr (1, [.ref qt_order, .ref qt_gets, .ref qt_target])), (qt_order, .inl (cI, 36, .inl (upd v_order (Int32.toNatClampNeg (((6 : Int32) * p1) + x4)) (jrem x3 (10 : Int32)))))]) hS => ?_)
        refine lv_iload_n hx hb dX2_setRow_37 rfl (lv_at hl 2 rfl) ?_
        refine lv_bipush (v := 10) hx hb dX2_setRow_38 (by decide) ?_
        refine lv_idiv hx hb dX2_setRow_40 (by decide) ?_
        refine lv_istore_n (lv' := [(3, .int (x3 / (10 : Int32))), (0, .ref qt), (1, .int p1), (4, .int x4)]) hx hb dX2_setRow_41 rfl hl (by decide) rfl (fun ls hl => ?_)
        refine lv_iinc (v := (x4 + (-1 : Int32))) (lv' := [(4, .int (x4 + (-1 : Int32))), (3, .int (x3 / (10 : Int32))), (0, .ref qt), (1, .int p1)]) hx hb dX2_setRow_42 hl (k := 3) rfl rfl (by decide) rfl (fun ls hl => ?_)
        refine lv_goto (tgt := 16) hx hb dX2_setRow_45 (by decide) ?_
        exact ih16 (upd v_order (Int32.toNatClampNeg (((6 : Int32) * p1) + x4)) (jrem x3 (10 : Int32))) (x3 / (10 : Int32)) (x4 + (-1 : Int32)) H locs ls hP hD hS (lv_sub hl [2, 3, 1, 0] rfl) h
  have h := hf
  unfold f_X2_setRow at h
  refine gw_start hP hD hS (fun H locs hP hD hS => ?_)
  refine lv_iload_n hx hb dX2_setRow_0 rfl (lv_at hl 1 rfl) ?_
  refine lv_if_lt (tgt := 10) hx hb dX2_setRow_1 (by decide) (fun hc => ?_) (fun hc => ?_)
  · have h := if_t hc h
    cases h
    rw [hQQ]
    exact gw_vret hx hb hr hlocks hP hD hS dX2_setRow_10
  · have h := if_f hc h
    refine lv_iload_n hx hb dX2_setRow_4 rfl (lv_at hl 1 rfl) ?_
    refine lv_bipush (v := 6) hx hb dX2_setRow_5 (by decide) ?_
    refine lv_icmp_lt (tgt := 11) hx hb dX2_setRow_7 (by decide) (fun hc => ?_) (fun hc => ?_)
    · have h := if_t hc h
      refine lv_iload_n hx hb dX2_setRow_11 rfl (lv_at hl 2 rfl) ?_
      refine lv_istore_n (lv' := [(3, .int p2), (0, .ref qt), (1, .int p1), (2, .int p2)]) hx hb dX2_setRow_12 rfl hl (by decide) rfl (fun ls hl => ?_)
      refine lv_iconst (v := 5) hx hb dX2_setRow_13 (by decide) ?_
      refine lv_istore (lv' := [(4, .int (5 : Int32)), (3, .int p2), (0, .ref qt), (1, .int p1), (2, .int p2)]) hx hb dX2_setRow_14 hl (by decide) rfl (fun ls hl => ?_)
      exact hL16 FU v_order p2 (5 : Int32) H locs ls hP hD hS (lv_sub hl [2, 3, 1, 0] rfl) h
    · have h := if_f hc h
      cases h
      rw [hQQ]
      exact gw_vret hx hb hr hlocks hP hD hS dX2_setRow_10
theorem hdV_X2_setRow : yX2_setRow.cls = RX2 ∧ yX2_setRow.cls ≠ "java/lang/invoke/MethodHandle" ∧ yX2_setRow.cls ≠ "java/lang/invoke/VarHandle" ∧ (parseMethodDescriptor yX2_setRow.desc).map (fun d => d.parameters.length) = some 2 := by decide +kernel
def L_X2_isInRing_4 (v_target : (Nat → Int32)) (p1 : Int32) : Nat → Int32 → Int32 → Option (Int32)
  | 0, _, _ => none
  | n + 1, x2, x3 => (if (6 : Int32) ≤ x3 then (some (0 : Int32)) else (if x2 < (0 : Int32) then (some (0 : Int32)) else (if (6 : Int32) ≤ x2 then (some (0 : Int32)) else (gin x2 6 (if (v_target (Int32.toNatClampNeg x2)) = p1 then (some (1 : Int32)) else ((L_X2_isInRing_4 v_target p1 n) (v_target (Int32.toNatClampNeg x2)) (x3 + (1 : Int32))))))))
def f_X2_isInRing (v_target : (Nat → Int32)) (p1 : Int32) : Option (Int32) := (L_X2_isInRing_4 v_target p1 FU p1 (0 : Int32))
abbrev rm_X2_isInRing : Room := { frames := 0, cells := 0, slots := 0, locals := 0 }
set_option maxHeartbeats 4000000 in
set_option maxRecDepth 100000 in
theorem C_X2_isInRing (l : Launch) (D : va_G) (cI cJ cZ : ClassId) (sz : Nat) (qt qt_order qt_gets qt_target : Nat) (v_target : (Nat → Int32)) (p1 : Int32) (r : Int32) (hf : f_X2_isInRing v_target p1 = some r) : Met l yX2_isInRing wsX2_isInRing rm_X2_isInRing (PR D cI cJ cZ [(qt, .inr (1, [.ref qt_order, .ref qt_gets, .ref qt_target])), (qt_target, .inl (cI, 6, .inl v_target))] sz [.ref qt, .int p1]) (QI D (va_A [(qt, .inr (1, [.ref qt_order, .ref qt_gets, .ref qt_target])), (qt_target, .inl (cI, 6, .inl v_target))] sz) r [(qt, .inr (1, [.ref qt_order, .ref qt_gets, .ref qt_target])), (qt_target, .inl (cI, 6, .inl v_target))]) 0 0 (va_A [(qt, .inr (1, [.ref qt_order, .ref qt_gets, .ref qt_target])), (qt_target, .inl (cI, 6, .inl v_target))] sz) := by
  refine Met.ofW (cc := cX2_isInRing) (maxL := 4) (ret := (some .boolean)) (by decide) rfl ?_
  intro p e s m args below meth c s₁ B hml hv
  obtain ⟨hav, hsz, hP, hD0, hE⟩ := hv
  have hx := B.exec
  have hb := B.bytes
  have hr := B.returns
  have hts := atoms_spec (ws := wsX2_isInRing) B.pre
  have hown : s.vm.findClass RX2 = some m.cls := findClass_of_methodNamed B.named
  have hlocks := B.notSynchronized
  subst hsz
  have hD := hD0.self (sz := s.heap.size)
  generalize hAe : va_A [(qt, .inr (1, [.ref qt_order, .ref qt_gets, .ref qt_target])), (qt_target, .inl (cI, 6, .inl v_target))] s.heap.size = A at hD ⊢
  have hA : ∀ q : Nat, s.heap.size ≤ q → A q := fun q h => by rw [← hAe]; exact Or.inr h
  have hS : va_S A s.heap s.heap [] := va_S.rf
  have hl := lv_entry ([.ref qt, .int p1]) (n := 4) (Nat.le_of_ble_eq_true rfl)
  have hfr : entryFrame m args 4 = entryFrame m ([.ref qt, .int p1] : List Value).toArray 4 := by rw [hav]
  rw [hfr, lg_entry_eq]
  generalize (lg_sl ([.ref qt, .int p1]) ++ List.replicate (4 - (lg_sl ([.ref qt, .int p1])).length) Slot.unset).toArray = ls at hl ⊢
  have hl : lv_has ls 4 [(0, .ref qt), (1, .int p1)] := hl
  obtain ⟨QQ, hQQ⟩ : ∃ QQ, QQ = MQ below (QI D A r [(qt, .inr (1, [.ref qt_order, .ref qt_gets, .ref qt_target])), (qt_target, .inl (cI, 6, .inl v_target))]) args s 0 0 A := ⟨_, rfl⟩
  show W p l e rm_X2_isInRing s m args below meth c s.heap [] 0 0 _ _
  rw [← hQQ]
  have hL4 : ∀ (n4 : Nat), ∀ (x2 : Int32) (x3 : Int32) (H : Heap) (locs : List Loc) (ls : Array Slot), va_P D vwCl [(qt, .inr (1, [.ref qt_order, .ref qt_gets, .ref qt_target])), (qt_target, .inl (cI, 6, .inl v_target))] H → va_D A [(qt, .inr (1, [.ref qt_order, .ref qt_gets, .ref qt_target])), (qt_target, .inl (cI, 6, .inl v_target))] → va_S A s.heap H locs → lv_has ls 4 [(0, .ref qt), (1, .int p1), (2, .int x2), (3, .int x3)] → L_X2_isInRing_4 v_target p1 n4 x2 x3 = some r → W p l e rm_X2_isInRing s m args below meth c H locs 0 0 QQ (F0 m 4 ls []) := by
    intro n4
    induction n4 with
    | zero =>
      intro x2 x3 H locs ls hP hD hS hl h
      have h : none = some r := h
      cases h
    | succ n4 ih4 =>
      intro x2 x3 H locs ls hP hD hS hl h
      rw [L_X2_isInRing_4.eq_2] at h
      refine lv_iload_n hx hb dX2_isInRing_4 rfl (lv_at hl 3 rfl) ?_
      refine lv_bipush (v := 6) hx hb dX2_isInRing_5 (by decide) ?_
      refine lv_icmp_ge (tgt := 40) hx hb dX2_isInRing_7 (by decide) (fun hc => ?_) (fun hc => ?_)
      · have h := if_t hc h
        refine lv_iconst (v := 0) hx hb dX2_isInRing_40 (by decide) ?_
        cases h
        rw [hQQ]
        exact gw_zret hx hb hr hlocks (by decide) hP hD hS dX2_isInRing_41
      · have h := if_f hc h
        refine lv_iload_n hx hb dX2_isInRing_10 rfl (lv_at hl 2 rfl) ?_
        refine lv_if_lt (tgt := 40) hx hb dX2_isInRing_11 (by decide) (fun hc => ?_) (fun hc => ?_)
        · have h := if_t hc h
          refine lv_iconst (v := 0) hx hb dX2_isInRing_40 (by decide) ?_
          cases h
          rw [hQQ]
          exact gw_zret hx hb hr hlocks (by decide) hP hD hS dX2_isInRing_41
        · have h := if_f hc h
          refine lv_iload_n hx hb dX2_isInRing_14 rfl (lv_at hl 2 rfl) ?_
          refine lv_bipush (v := 6) hx hb dX2_isInRing_15 (by decide) ?_
          refine lv_icmp_ge (tgt := 40) hx hb dX2_isInRing_17 (by decide) (fun hc => ?_) (fun hc => ?_)
          · have h := if_t hc h
            refine lv_iconst (v := 0) hx hb dX2_isInRing_40 (by decide) ?_
            cases h
            rw [hQQ]
            exact gw_zret hx hb hr hlocks (by decide) hP hD hS dX2_isInRing_41
          · have h := if_f hc h
            refine lv_aload_n hx hb dX2_isInRing_20 rfl (lv_at hl 0 rfl) ?_
            refine va_get (D := D) (ci := 1) (C := RX2) (T := TX2) (N := 3) hx hb hts (fun _ hw => (List.mem_cons_of_mem _ (List.mem_append_right _ hw))) hown hE.1 hP 0 rfl rfl 2 (by decide) (hts (.fieldLink RX2 18 "GlobeCrown$Places" "target" "[I") (List.mem_cons_of_mem _ (List.mem_append_left _ (List.mem_of_getElem? (i := 0) rfl)))) (fun _ h9 => h9) rfl dX2_isInRing_21 ?_
            refine lv_iload_n hx hb dX2_isInRing_24 rfl (lv_at hl 2 rfl) ?_
            obtain ⟨hg, h⟩ := gin_some h
            refine va_iald hx hb hE.1 hP 1 0 rfl rfl hg dX2_isInRing_25 ?_
            refine lv_istore_n (lv' := [(2, .int (v_target (Int32.toNatClampNeg x2))), (0, .ref qt), (1, .int p1), (3, .int x3)]) hx hb dX2_isInRing_26 rfl hl (by decide) rfl (fun ls hl => ?_)
            refine lv_iload_n hx hb dX2_isInRing_27 rfl (lv_at hl 0 rfl) ?_
            refine lv_iload_n hx hb dX2_isInRing_28 rfl (lv_at hl 2 rfl) ?_
            refine lv_icmp_ne (tgt := 34) hx hb dX2_isInRing_29 (by decide) (fun hc => ?_) (fun hc => ?_)
            · have h := if_f hc h
              refine lv_iinc (v := (x3 + (1 : Int32))) (lv' := [(3, .int (x3 + (1 : Int32))), (2, .int (v_target (Int32.toNatClampNeg x2))), (0, .ref qt), (1, .int p1)]) hx hb dX2_isInRing_34 hl (k := 3) rfl rfl (by decide) rfl (fun ls hl => ?_)
              refine lv_goto (tgt := 4) hx hb dX2_isInRing_37 (by decide) ?_
              exact ih4 (v_target (Int32.toNatClampNeg x2)) (x3 + (1 : Int32)) H locs ls hP hD hS (lv_sub hl [2, 3, 1, 0] rfl) h
            · have h := if_t hc h
              refine lv_iconst (v := 1) hx hb dX2_isInRing_32 (by decide) ?_
              cases h
              rw [hQQ]
              exact gw_zret hx hb hr hlocks (by decide) hP hD hS dX2_isInRing_33
  have h := hf
  unfold f_X2_isInRing at h
  refine gw_start hP hD hS (fun H locs hP hD hS => ?_)
  refine lv_iload_n hx hb dX2_isInRing_0 rfl (lv_at hl 1 rfl) ?_
  refine lv_istore_n (lv' := [(2, .int p1), (0, .ref qt), (1, .int p1)]) hx hb dX2_isInRing_1 rfl hl (by decide) rfl (fun ls hl => ?_)
  refine lv_iconst (v := 0) hx hb dX2_isInRing_2 (by decide) ?_
  refine lv_istore_n (lv' := [(3, .int (0 : Int32)), (2, .int p1), (0, .ref qt), (1, .int p1)]) hx hb dX2_isInRing_3 rfl hl (by decide) rfl (fun ls hl => ?_)
  exact hL4 FU p1 (0 : Int32) H locs ls hP hD hS (lv_sub hl [2, 3, 1, 0] rfl) h
theorem hdV_X2_isInRing : yX2_isInRing.cls = RX2 ∧ yX2_isInRing.cls ≠ "java/lang/invoke/MethodHandle" ∧ yX2_isInRing.cls ≠ "java/lang/invoke/VarHandle" ∧ (parseMethodDescriptor yX2_isInRing.desc).map (fun d => d.parameters.length) = some 1 := by decide +kernel
def L_X2_bestOf_2 (v_order : (Nat → Int32)) (p1 : Int32) (p2 : Int32) : Nat → Int32 → Option (Int32)
  | 0, _ => none
  | n + 1, x3 => (if (6 : Int32) ≤ x3 then (some (-6 : Int32)) else (bd1 (f_X2_placeAt v_order p1 x3) (fun r11 => (if r11 < (0 : Int32) then ((L_X2_bestOf_2 v_order p1 p2 n) (x3 + (1 : Int32))) else (if ((p2 >>> (r11 &&& 31)) &&& (1 : Int32)) = (1 : Int32) then (some r11) else ((L_X2_bestOf_2 v_order p1 p2 n) (x3 + (1 : Int32))))))))
def f_X2_bestOf (v_order : (Nat → Int32)) (p1 : Int32) (p2 : Int32) : Option (Int32) := (L_X2_bestOf_2 v_order p1 p2 FU (0 : Int32))
abbrev rm_X2_bestOf : Room := { frames := 1, cells := 0, slots := 0, locals := 23 }
set_option maxHeartbeats 4000000 in
set_option maxRecDepth 100000 in
theorem C_X2_bestOf (l : Launch) (D : va_G) (cI cJ cZ : ClassId) (sz : Nat) (qt qt_order qt_gets qt_target : Nat) (v_order : (Nat → Int32)) (p1 : Int32) (p2 : Int32) (r : Int32) (hf : f_X2_bestOf v_order p1 p2 = some r) : Met l yX2_bestOf wsX2_bestOf rm_X2_bestOf (PR D cI cJ cZ [(qt, .inr (1, [.ref qt_order, .ref qt_gets, .ref qt_target])), (qt_order, .inl (cI, 36, .inl v_order))] sz [.ref qt, .int p1, .int p2]) (QI D (va_A [(qt, .inr (1, [.ref qt_order, .ref qt_gets, .ref qt_target])), (qt_order, .inl (cI, 36, .inl v_order))] sz) r [(qt, .inr (1, [.ref qt_order, .ref qt_gets, .ref qt_target])), (qt_order, .inl (cI, 36, .inl v_order))]) 0 0 (va_A [(qt, .inr (1, [.ref qt_order, .ref qt_gets, .ref qt_target])), (qt_order, .inl (cI, 36, .inl v_order))] sz) := by
  refine Met.ofW (cc := cX2_bestOf) (maxL := 5) (ret := (some .int)) (by decide) rfl ?_
  intro p e s m args below meth c s₁ B hml hv
  obtain ⟨hav, hsz, hP, hD0, hE⟩ := hv
  have hx := B.exec
  have hb := B.bytes
  have hr := B.returns
  have hts := atoms_spec (ws := wsX2_bestOf) B.pre
  have hown : s.vm.findClass RX2 = some m.cls := findClass_of_methodNamed B.named
  have hlocks := B.notSynchronized
  subst hsz
  have hD := hD0.self (sz := s.heap.size)
  generalize hAe : va_A [(qt, .inr (1, [.ref qt_order, .ref qt_gets, .ref qt_target])), (qt_order, .inl (cI, 36, .inl v_order))] s.heap.size = A at hD ⊢
  have hA : ∀ q : Nat, s.heap.size ≤ q → A q := fun q h => by rw [← hAe]; exact Or.inr h
  have hS : va_S A s.heap s.heap [] := va_S.rf
  have hl := lv_entry ([.ref qt, .int p1, .int p2]) (n := 5) (Nat.le_of_ble_eq_true rfl)
  have hfr : entryFrame m args 5 = entryFrame m ([.ref qt, .int p1, .int p2] : List Value).toArray 5 := by rw [hav]
  rw [hfr, lg_entry_eq]
  generalize (lg_sl ([.ref qt, .int p1, .int p2]) ++ List.replicate (5 - (lg_sl ([.ref qt, .int p1, .int p2])).length) Slot.unset).toArray = ls at hl ⊢
  have hl : lv_has ls 5 [(0, .ref qt), (1, .int p1), (2, .int p2)] := hl
  obtain ⟨QQ, hQQ⟩ : ∃ QQ, QQ = MQ below (QI D A r [(qt, .inr (1, [.ref qt_order, .ref qt_gets, .ref qt_target])), (qt_order, .inl (cI, 36, .inl v_order))]) args s 0 0 A := ⟨_, rfl⟩
  show W p l e rm_X2_bestOf s m args below meth c s.heap [] 0 0 _ _
  rw [← hQQ]
  have hL2 : ∀ (n2 : Nat), ∀ (x3 : Int32) (H : Heap) (locs : List Loc) (ls : Array Slot), va_P D vwCl [(qt, .inr (1, [.ref qt_order, .ref qt_gets, .ref qt_target])), (qt_order, .inl (cI, 36, .inl v_order))] H → va_D A [(qt, .inr (1, [.ref qt_order, .ref qt_gets, .ref qt_target])), (qt_order, .inl (cI, 36, .inl v_order))] → va_S A s.heap H locs → lv_has ls 5 [(0, .ref qt), (1, .int p1), (2, .int p2), (3, .int x3)] → L_X2_bestOf_2 v_order p1 p2 n2 x3 = some r → W p l e rm_X2_bestOf s m args below meth c H locs 0 0 QQ (F0 m 2 ls []) := by
    intro n2
    induction n2 with
    | zero =>
      intro x3 H locs ls hP hD hS hl h
      have h : none = some r := h
      cases h
    | succ n2 ih2 =>
      intro x3 H locs ls hP hD hS hl h
      rw [L_X2_bestOf_2.eq_2] at h
      refine lv_iload_n hx hb dX2_bestOf_2 rfl (lv_at hl 3 rfl) ?_
      refine lv_bipush (v := 6) hx hb dX2_bestOf_3 (by decide) ?_
      refine lv_icmp_ge (tgt := 40) hx hb dX2_bestOf_5 (by decide) (fun hc => ?_) (fun hc => ?_)
      · have h := if_t hc h
        refine lv_bipush (v := -6) hx hb dX2_bestOf_40 (by decide) ?_
        cases h
        rw [hQQ]
        exact gw_iret hx hb hr hlocks hP hD hS dX2_bestOf_42
      · have h := if_f hc h
        refine lv_aload_n hx hb dX2_bestOf_8 rfl (lv_at hl 0 rfl) ?_
        refine lv_iload_n hx hb dX2_bestOf_9 rfl (lv_at hl 1 rfl) ?_
        refine lv_iload_n hx hb dX2_bestOf_10 rfl (lv_at hl 3 rfl) ?_
        obtain ⟨r11, hc11, h⟩ := bd1_some h
        refine gw_ci (wr := []) (w2 := [(qt, .inr (1, [.ref qt_order, .ref qt_gets, .ref qt_target])), (qt_order, .inl (cI, 36, .inl v_order))]) (gw_rV (n := 2) ⟨hx, hb, hml, hown, hts⟩ (C_X2_placeAt l D cI cJ cZ H.size qt qt_order qt_gets qt_target v_order p1 x3 r11 hc11) gX2_bestOf_X2_placeAt rfl rfl rfl hdV_X2_placeAt ⟨Nat.le_of_ble_eq_true rfl, Nat.le_of_ble_eq_true rfl⟩ hE (hP.sub [0, 1] rfl) (hD.sub [0, 1] (by decide) rfl) 1 rfl 0 rfl rfl hl.1 (rest := []) rfl (Nat.le_of_ble_eq_true rfl) dX2_bestOf_11 ⟨Nat.zero_le _, Nat.zero_le _⟩) hP hD hS hA [0, 1] [] rfl rfl rfl (by decide) rfl (fun H locs hP hD hS => ?_)
        refine lv_istore (lv' := [(4, .int r11), (0, .ref qt), (1, .int p1), (2, .int p2), (3, .int x3)]) hx hb dX2_bestOf_14 hl (by decide) rfl (fun ls hl => ?_)
        refine lv_iload hx hb dX2_bestOf_16 (lv_at hl 0 rfl) ?_
        refine lv_if_lt (tgt := 34) hx hb dX2_bestOf_18 (by decide) (fun hc => ?_) (fun hc => ?_)
        · have h := if_t hc h
          refine lv_iinc (v := (x3 + (1 : Int32))) (lv' := [(3, .int (x3 + (1 : Int32))), (4, .int r11), (0, .ref qt), (1, .int p1), (2, .int p2)]) hx hb dX2_bestOf_34 hl (k := 4) rfl rfl (by decide) rfl (fun ls hl => ?_)
          refine lv_goto (tgt := 2) hx hb dX2_bestOf_37 (by decide) ?_
          exact ih2 (x3 + (1 : Int32)) H locs ls hP hD hS (lv_sub hl [2, 3, 4, 0] rfl) h
        · have h := if_f hc h
          refine lv_iload_n hx hb dX2_bestOf_21 rfl (lv_at hl 3 rfl) ?_
          refine lv_iload hx hb dX2_bestOf_22 (lv_at hl 0 rfl) ?_
          refine lv_ishr hx hb dX2_bestOf_24 ?_
          refine lv_iconst (v := 1) hx hb dX2_bestOf_25 (by decide) ?_
          refine lv_iand hx hb dX2_bestOf_26 ?_
          refine lv_iconst (v := 1) hx hb dX2_bestOf_27 (by decide) ?_
          refine lv_icmp_ne (tgt := 34) hx hb dX2_bestOf_28 (by decide) (fun hc => ?_) (fun hc => ?_)
          · have h := if_f hc h
            refine lv_iinc (v := (x3 + (1 : Int32))) (lv' := [(3, .int (x3 + (1 : Int32))), (4, .int r11), (0, .ref qt), (1, .int p1), (2, .int p2)]) hx hb dX2_bestOf_34 hl (k := 4) rfl rfl (by decide) rfl (fun ls hl => ?_)
            refine lv_goto (tgt := 2) hx hb dX2_bestOf_37 (by decide) ?_
            exact ih2 (x3 + (1 : Int32)) H locs ls hP hD hS (lv_sub hl [2, 3, 4, 0] rfl) h
          · have h := if_t hc h
            refine lv_iload hx hb dX2_bestOf_31 (lv_at hl 0 rfl) ?_
            cases h
            rw [hQQ]
            exact gw_iret hx hb hr hlocks hP hD hS dX2_bestOf_33
  have h := hf
  unfold f_X2_bestOf at h
  refine gw_start hP hD hS (fun H locs hP hD hS => ?_)
  refine lv_iconst (v := 0) hx hb dX2_bestOf_0 (by decide) ?_
  refine lv_istore_n (lv' := [(3, .int (0 : Int32)), (0, .ref qt), (1, .int p1), (2, .int p2)]) hx hb dX2_bestOf_1 rfl hl (by decide) rfl (fun ls hl => ?_)
  exact hL2 FU (0 : Int32) H locs ls hP hD hS (lv_sub hl [1, 2, 3, 0] rfl) h
theorem hdV_X2_bestOf : yX2_bestOf.cls = RX2 ∧ yX2_bestOf.cls ≠ "java/lang/invoke/MethodHandle" ∧ yX2_bestOf.cls ≠ "java/lang/invoke/VarHandle" ∧ (parseMethodDescriptor yX2_bestOf.desc).map (fun d => d.parameters.length) = some 2 := by decide +kernel
def L_X2_makeRings_46 (v_order : (Nat → Int32)) (rec5 : (Nat → Int32) → (Nat → Int32) → Int32 → Int32 → Option ((Nat → Int32) × (Nat → Int32))) : Nat → (Nat → Int32) → (Nat → Int32) → Int32 → Int32 → Int32 → Int32 → Option ((Nat → Int32) × (Nat → Int32))
  | 0, _, _, _, _, _, _ => none
  | n + 1, v_gets, v_target, x1, x2, x3, x4 => (if (6 : Int32) ≤ x4 then (rec5 v_gets v_target (x1 &&& (x3 ^^^ (-1 : Int32))) (x2 + (1 : Int32))) else (if ((x1 >>> (x4 &&& 31)) &&& (1 : Int32)) = (1 : Int32) then (bd1 (f_X2_isInRing v_target x4) (fun r66 => (if r66 = (0 : Int32) then ((L_X2_makeRings_46 v_order rec5 n) v_gets v_target x1 x2 x3 (x4 + (1 : Int32))) else (gin x4 6 (gin x4 6 ((L_X2_makeRings_46 v_order rec5 n) (upd v_gets (Int32.toNatClampNeg x4) (v_target (Int32.toNatClampNeg x4))) v_target x1 x2 (x3 ||| ((1 : Int32) <<< (x4 &&& 31))) (x4 + (1 : Int32)))))))) else ((L_X2_makeRings_46 v_order rec5 n) v_gets v_target x1 x2 x3 (x4 + (1 : Int32)))))
def L_X2_makeRings_17 (v_order : (Nat → Int32)) (rec5 : (Nat → Int32) → (Nat → Int32) → Int32 → Int32 → Option ((Nat → Int32) × (Nat → Int32))) : Nat → (Nat → Int32) → (Nat → Int32) → Int32 → Int32 → Int32 → Option ((Nat → Int32) × (Nat → Int32))
  | 0, _, _, _, _, _ => none
  | n + 1, v_gets, v_target, x1, x2, x3 => (if (6 : Int32) ≤ x3 then (L_X2_makeRings_46 v_order rec5 FU v_gets v_target x1 x2 (0 : Int32) (0 : Int32)) else (bd1 (f_X2_bestOf v_order x3 x1) (fun r31 => (gin x3 6 ((L_X2_makeRings_17 v_order rec5 n) v_gets (upd v_target (Int32.toNatClampNeg x3) r31) x1 x2 (x3 + (1 : Int32)))))))
def L_X2_makeRings_5 (v_order : (Nat → Int32)) : Nat → (Nat → Int32) → (Nat → Int32) → Int32 → Int32 → Option ((Nat → Int32) × (Nat → Int32))
  | 0, _, _, _, _ => none
  | n + 1, v_gets, v_target, x1, x2 => (if (6 : Int32) ≤ x2 then (some (v_gets, v_target)) else (if x1 = (0 : Int32) then (some (v_gets, v_target)) else (L_X2_makeRings_17 v_order (L_X2_makeRings_5 v_order n) FU v_gets v_target x1 x2 (0 : Int32))))
def f_X2_makeRings (v_order : (Nat → Int32)) (v_gets : (Nat → Int32)) (v_target : (Nat → Int32)) : Option ((Nat → Int32) × (Nat → Int32)) := (L_X2_makeRings_5 v_order FU v_gets v_target (63 : Int32) (0 : Int32))
abbrev rm_X2_makeRings : Room := { frames := 2, cells := 0, slots := 0, locals := 47 }
set_option maxHeartbeats 4000000 in
set_option maxRecDepth 100000 in
theorem C_X2_makeRings (l : Launch) (D : va_G) (cI cJ cZ : ClassId) (sz : Nat) (qt qt_order qt_gets qt_target : Nat) (v_order : (Nat → Int32)) (v_gets : (Nat → Int32)) (v_target : (Nat → Int32)) (w_gets : (Nat → Int32)) (w_target : (Nat → Int32)) (hf : f_X2_makeRings v_order v_gets v_target = some (w_gets, w_target)) : Met l yX2_makeRings wsX2_makeRings rm_X2_makeRings (PR D cI cJ cZ [(qt, .inr (1, [.ref qt_order, .ref qt_gets, .ref qt_target])), (qt_order, .inl (cI, 36, .inl v_order)), (qt_gets, .inl (cI, 6, .inl v_gets)), (qt_target, .inl (cI, 6, .inl v_target))] sz [.ref qt]) (QV D (va_A [(qt, .inr (1, [.ref qt_order, .ref qt_gets, .ref qt_target])), (qt_order, .inl (cI, 36, .inl v_order)), (qt_gets, .inl (cI, 6, .inl v_gets)), (qt_target, .inl (cI, 6, .inl v_target))] sz) [(qt, .inr (1, [.ref qt_order, .ref qt_gets, .ref qt_target])), (qt_order, .inl (cI, 36, .inl v_order)), (qt_gets, .inl (cI, 6, .inl w_gets)), (qt_target, .inl (cI, 6, .inl w_target))]) 0 0 (va_A [(qt, .inr (1, [.ref qt_order, .ref qt_gets, .ref qt_target])), (qt_order, .inl (cI, 36, .inl v_order)), (qt_gets, .inl (cI, 6, .inl v_gets)), (qt_target, .inl (cI, 6, .inl v_target))] sz) := by
  refine Met.ofW (cc := cX2_makeRings) (maxL := 5) (ret := none) (by decide) rfl ?_
  intro p e s m args below meth c s₁ B hml hv
  obtain ⟨hav, hsz, hP, hD0, hE⟩ := hv
  have hx := B.exec
  have hb := B.bytes
  have hr := B.returns
  have hts := atoms_spec (ws := wsX2_makeRings) B.pre
  have hown : s.vm.findClass RX2 = some m.cls := findClass_of_methodNamed B.named
  have hlocks := B.notSynchronized
  subst hsz
  have hD := hD0.self (sz := s.heap.size)
  generalize hAe : va_A [(qt, .inr (1, [.ref qt_order, .ref qt_gets, .ref qt_target])), (qt_order, .inl (cI, 36, .inl v_order)), (qt_gets, .inl (cI, 6, .inl v_gets)), (qt_target, .inl (cI, 6, .inl v_target))] s.heap.size = A at hD ⊢
  have hA : ∀ q : Nat, s.heap.size ≤ q → A q := fun q h => by rw [← hAe]; exact Or.inr h
  have hS : va_S A s.heap s.heap [] := va_S.rf
  have hl := lv_entry ([.ref qt]) (n := 5) (Nat.le_of_ble_eq_true rfl)
  have hfr : entryFrame m args 5 = entryFrame m ([.ref qt] : List Value).toArray 5 := by rw [hav]
  rw [hfr, lg_entry_eq]
  generalize (lg_sl ([.ref qt]) ++ List.replicate (5 - (lg_sl ([.ref qt])).length) Slot.unset).toArray = ls at hl ⊢
  have hl : lv_has ls 5 [(0, .ref qt)] := hl
  obtain ⟨QQ, hQQ⟩ : ∃ QQ, QQ = MQ below (QV D A [(qt, .inr (1, [.ref qt_order, .ref qt_gets, .ref qt_target])), (qt_order, .inl (cI, 36, .inl v_order)), (qt_gets, .inl (cI, 6, .inl w_gets)), (qt_target, .inl (cI, 6, .inl w_target))]) args s 0 0 A := ⟨_, rfl⟩
  show W p l e rm_X2_makeRings s m args below meth c s.heap [] 0 0 _ _
  rw [← hQQ]
  have hL5 : ∀ (n5 : Nat), ∀ (v_gets : (Nat → Int32)) (v_target : (Nat → Int32)) (x1 : Int32) (x2 : Int32) (H : Heap) (locs : List Loc) (ls : Array Slot), va_P D vwCl [(qt, .inr (1, [.ref qt_order, .ref qt_gets, .ref qt_target])), (qt_order, .inl (cI, 36, .inl v_order)), (qt_gets, .inl (cI, 6, .inl v_gets)), (qt_target, .inl (cI, 6, .inl v_target))] H → va_D A [(qt, .inr (1, [.ref qt_order, .ref qt_gets, .ref qt_target])), (qt_order, .inl (cI, 36, .inl v_order)), (qt_gets, .inl (cI, 6, .inl v_gets)), (qt_target, .inl (cI, 6, .inl v_target))] → va_S A s.heap H locs → lv_has ls 5 [(0, .ref qt), (1, .int x1), (2, .int x2)] → L_X2_makeRings_5 v_order n5 v_gets v_target x1 x2 = some (w_gets, w_target) → W p l e rm_X2_makeRings s m args below meth c H locs 0 0 QQ (F0 m 5 ls []) := by
    intro n5
    induction n5 with
    | zero =>
      intro v_gets v_target x1 x2 H locs ls hP hD hS hl h
      have h : none = some (w_gets, w_target) := h
      cases h
    | succ n5 ih5 =>
      have hL46 : ∀ (n46 : Nat), ∀ (v_gets : (Nat → Int32)) (v_target : (Nat → Int32)) (x1 : Int32) (x2 : Int32) (x3 : Int32) (x4 : Int32) (H : Heap) (locs : List Loc) (ls : Array Slot), va_P D vwCl [(qt, .inr (1, [.ref qt_order, .ref qt_gets, .ref qt_target])), (qt_order, .inl (cI, 36, .inl v_order)), (qt_gets, .inl (cI, 6, .inl v_gets)), (qt_target, .inl (cI, 6, .inl v_target))] H → va_D A [(qt, .inr (1, [.ref qt_order, .ref qt_gets, .ref qt_target])), (qt_order, .inl (cI, 36, .inl v_order)), (qt_gets, .inl (cI, 6, .inl v_gets)), (qt_target, .inl (cI, 6, .inl v_target))] → va_S A s.heap H locs → lv_has ls 5 [(0, .ref qt), (1, .int x1), (2, .int x2), (3, .int x3), (4, .int x4)] → L_X2_makeRings_46 v_order (L_X2_makeRings_5 v_order n5) n46 v_gets v_target x1 x2 x3 x4 = some (w_gets, w_target) → W p l e rm_X2_makeRings s m args below meth c H locs 0 0 QQ (F0 m 46 ls []) := by
        intro n46
        induction n46 with
        | zero =>
          intro v_gets v_target x1 x2 x3 x4 H locs ls hP hD hS hl h
          have h : none = some (w_gets, w_target) := h
          cases h
        | succ n46 ih46 =>
          intro v_gets v_target x1 x2 x3 x4 H locs ls hP hD hS hl h
          rw [L_X2_makeRings_46.eq_2] at h
          refine lv_iload hx hb dX2_makeRings_46 (lv_at hl 4 rfl) ?_
          refine lv_bipush (v := 6) hx hb dX2_makeRings_48 (by decide) ?_
          refine lv_icmp_ge (tgt := 99) hx hb dX2_makeRings_50 (by decide) (fun hc => ?_) (fun hc => ?_)
          · have h := if_t hc h
            refine lv_iload_n hx hb dX2_makeRings_99 rfl (lv_at hl 1 rfl) ?_
            refine lv_iload_n hx hb dX2_makeRings_100 rfl (lv_at hl 3 rfl) ?_
            refine lv_iconst (v := -1) hx hb dX2_makeRings_101 (by decide) ?_
            refine lv_ixor hx hb dX2_makeRings_102 ?_
            refine lv_iand hx hb dX2_makeRings_103 ?_
            refine lv_istore_n (lv' := [(1, .int (x1 &&& (x3 ^^^ (-1 : Int32)))), (0, .ref qt), (2, .int x2), (3, .int x3), (4, .int x4)]) hx hb dX2_makeRings_104 rfl hl (by decide) rfl (fun ls hl => ?_)
            refine lv_iinc (v := (x2 + (1 : Int32))) (lv' := [(2, .int (x2 + (1 : Int32))), (1, .int (x1 &&& (x3 ^^^ (-1 : Int32)))), (0, .ref qt), (3, .int x3), (4, .int x4)]) hx hb dX2_makeRings_105 hl (k := 2) rfl rfl (by decide) rfl (fun ls hl => ?_)
            refine lv_goto (tgt := 5) hx hb dX2_makeRings_108 (by decide) ?_
            exact ih5 v_gets v_target (x1 &&& (x3 ^^^ (-1 : Int32))) (x2 + (1 : Int32)) H locs ls hP hD hS (lv_sub hl [2, 1, 0] rfl) h
          · have h := if_f hc h
            refine lv_iload_n hx hb dX2_makeRings_53 rfl (lv_at hl 1 rfl) ?_
            refine lv_iload hx hb dX2_makeRings_54 (lv_at hl 4 rfl) ?_
            refine lv_ishr hx hb dX2_makeRings_56 ?_
            refine lv_iconst (v := 1) hx hb dX2_makeRings_57 (by decide) ?_
            refine lv_iand hx hb dX2_makeRings_58 ?_
            refine lv_iconst (v := 1) hx hb dX2_makeRings_59 (by decide) ?_
            refine lv_icmp_ne (tgt := 93) hx hb dX2_makeRings_60 (by decide) (fun hc => ?_) (fun hc => ?_)
            · have h := if_f hc h
              refine lv_iinc (v := (x4 + (1 : Int32))) (lv' := [(4, .int (x4 + (1 : Int32))), (0, .ref qt), (1, .int x1), (2, .int x2), (3, .int x3)]) hx hb dX2_makeRings_93 hl (k := 4) rfl rfl (by decide) rfl (fun ls hl => ?_)
              refine lv_goto (tgt := 46) hx hb dX2_makeRings_96 (by decide) ?_
              exact ih46 v_gets v_target x1 x2 x3 (x4 + (1 : Int32)) H locs ls hP hD hS (lv_sub hl [1, 2, 3, 4, 0] rfl) h
            · have h := if_t hc h
              refine lv_aload_n hx hb dX2_makeRings_63 rfl (lv_at hl 0 rfl) ?_
              refine lv_iload hx hb dX2_makeRings_64 (lv_at hl 4 rfl) ?_
              obtain ⟨r66, hc66, h⟩ := bd1_some h
              refine gw_ci (wr := [(qt_order, .inl (cI, 36, .inl v_order)), (qt_gets, .inl (cI, 6, .inl v_gets))]) (w2 := [(qt_order, .inl (cI, 36, .inl v_order)), (qt_gets, .inl (cI, 6, .inl v_gets)), (qt, .inr (1, [.ref qt_order, .ref qt_gets, .ref qt_target])), (qt_target, .inl (cI, 6, .inl v_target))]) (gw_rV (n := 1) ⟨hx, hb, hml, hown, hts⟩ (C_X2_isInRing l D cI cJ cZ H.size qt qt_order qt_gets qt_target v_target x4 r66 hc66) gX2_makeRings_X2_isInRing rfl rfl rfl hdV_X2_isInRing ⟨Nat.le_of_ble_eq_true rfl, Nat.le_of_ble_eq_true rfl⟩ hE (hP.sub [0, 3] rfl) (hD.sub [0, 3] (by decide) rfl) 1 rfl 0 rfl rfl hl.1 (rest := []) rfl (Nat.le_of_ble_eq_true rfl) dX2_makeRings_66 ⟨Nat.zero_le _, Nat.zero_le _⟩) hP hD hS hA [0, 3] [1, 2] rfl rfl rfl (by decide) rfl (fun H locs hP hD hS => ?_)
              refine lv_if_eq (tgt := 93) hx hb dX2_makeRings_69 (by decide) (fun hc => ?_) (fun hc => ?_)
              · have h := if_t hc h
                refine lv_iinc (v := (x4 + (1 : Int32))) (lv' := [(4, .int (x4 + (1 : Int32))), (0, .ref qt), (1, .int x1), (2, .int x2), (3, .int x3)]) hx hb dX2_makeRings_93 hl (k := 4) rfl rfl (by decide) rfl (fun ls hl => ?_)
                refine lv_goto (tgt := 46) hx hb dX2_makeRings_96 (by decide) ?_
                exact ih46 v_gets v_target x1 x2 x3 (x4 + (1 : Int32)) H locs ls (hP.sub [2, 0, 1, 3] rfl) (hD.sub [2, 0, 1, 3] (by decide) rfl) hS (lv_sub hl [1, 2, 3, 4, 0] rfl) h
              · have h := if_f hc h
                refine lv_aload_n hx hb dX2_makeRings_72 rfl (lv_at hl 0 rfl) ?_
                refine va_get (D := D) (ci := 1) (C := RX2) (T := TX2) (N := 3) hx hb hts (fun _ hw => (List.mem_cons_of_mem _ (List.mem_append_right _ hw))) hown hE.1 hP 2 rfl rfl 1 (by decide) (hts (.fieldLink RX2 15 "GlobeCrown$Places" "gets" "[I") (List.mem_cons_of_mem _ (List.mem_append_left _ (List.mem_of_getElem? (i := 1) rfl)))) (fun _ h9 => h9) rfl dX2_makeRings_73 ?_
                refine lv_iload hx hb dX2_makeRings_76 (lv_at hl 4 rfl) ?_
                refine lv_aload_n hx hb dX2_makeRings_78 rfl (lv_at hl 0 rfl) ?_
                refine va_get (D := D) (ci := 1) (C := RX2) (T := TX2) (N := 3) hx hb hts (fun _ hw => (List.mem_cons_of_mem _ (List.mem_append_right _ hw))) hown hE.1 hP 2 rfl rfl 2 (by decide) (hts (.fieldLink RX2 18 "GlobeCrown$Places" "target" "[I") (List.mem_cons_of_mem _ (List.mem_append_left _ (List.mem_of_getElem? (i := 0) rfl)))) (fun _ h9 => h9) rfl dX2_makeRings_79 ?_
                refine lv_iload hx hb dX2_makeRings_82 (lv_at hl 4 rfl) ?_
                obtain ⟨hg, h⟩ := gin_some h
                refine va_iald hx hb hE.1 hP 3 0 rfl rfl hg dX2_makeRings_84 ?_
                obtain ⟨hg, h⟩ := gin_some h
                refine va_iast hx hb hE.1 hP hD hS 1 0 rfl rfl hg dX2_makeRings_85 (fun H locs (hP : va_P D vwCl [(qt_order, .inl (cI, 36, .inl v_order)), (qt_gets, .inl (cI, 6, .inl (upd v_gets (Int32.toNatClampNeg x4) (v_target (Int32.toNatClampNeg x4))))), (qt, .inr (1, [.ref qt_order, .ref qt_gets, .ref qt_target])), (qt_target, .inl (cI, 6, .inl v_target))] H) (hD : va_D A [(qt_order, .inl (cI, 36, .inl v_order)), (qt_gets, .inl (cI, 6, .inl (upd v_gets (Int32.toNatClampNeg x4) (v_target (Int32.toNatClampNeg x4))))), (qt, .inr (1, [.ref qt_order, .ref qt_gets, .ref qt_target])), (qt_target, .inl (cI, 6, .inl v_target))]) hS => ?_)
                refine lv_iload_n hx hb dX2_makeRings_86 rfl (lv_at hl 3 rfl) ?_
                refine lv_iconst (v := 1) hx hb dX2_makeRings_87 (by decide) ?_
                refine lv_iload hx hb dX2_makeRings_88 (lv_at hl 4 rfl) ?_
                refine lv_ishl hx hb dX2_makeRings_90 ?_
                refine lv_ior hx hb dX2_makeRings_91 ?_
                refine lv_istore_n (lv' := [(3, .int (x3 ||| ((1 : Int32) <<< (x4 &&& 31)))), (0, .ref qt), (1, .int x1), (2, .int x2), (4, .int x4)]) hx hb dX2_makeRings_92 rfl hl (by decide) rfl (fun ls hl => ?_)
                refine lv_iinc (v := (x4 + (1 : Int32))) (lv' := [(4, .int (x4 + (1 : Int32))), (3, .int (x3 ||| ((1 : Int32) <<< (x4 &&& 31)))), (0, .ref qt), (1, .int x1), (2, .int x2)]) hx hb dX2_makeRings_93 hl (k := 4) rfl rfl (by decide) rfl (fun ls hl => ?_)
                refine lv_goto (tgt := 46) hx hb dX2_makeRings_96 (by decide) ?_
                exact ih46 (upd v_gets (Int32.toNatClampNeg x4) (v_target (Int32.toNatClampNeg x4))) v_target x1 x2 (x3 ||| ((1 : Int32) <<< (x4 &&& 31))) (x4 + (1 : Int32)) H locs ls (hP.sub [2, 0, 1, 3] rfl) (hD.sub [2, 0, 1, 3] (by decide) rfl) hS (lv_sub hl [2, 3, 4, 1, 0] rfl) h
      have hL17 : ∀ (n17 : Nat), ∀ (v_gets : (Nat → Int32)) (v_target : (Nat → Int32)) (x1 : Int32) (x2 : Int32) (x3 : Int32) (H : Heap) (locs : List Loc) (ls : Array Slot), va_P D vwCl [(qt, .inr (1, [.ref qt_order, .ref qt_gets, .ref qt_target])), (qt_order, .inl (cI, 36, .inl v_order)), (qt_gets, .inl (cI, 6, .inl v_gets)), (qt_target, .inl (cI, 6, .inl v_target))] H → va_D A [(qt, .inr (1, [.ref qt_order, .ref qt_gets, .ref qt_target])), (qt_order, .inl (cI, 36, .inl v_order)), (qt_gets, .inl (cI, 6, .inl v_gets)), (qt_target, .inl (cI, 6, .inl v_target))] → va_S A s.heap H locs → lv_has ls 5 [(0, .ref qt), (1, .int x1), (2, .int x2), (3, .int x3)] → L_X2_makeRings_17 v_order (L_X2_makeRings_5 v_order n5) n17 v_gets v_target x1 x2 x3 = some (w_gets, w_target) → W p l e rm_X2_makeRings s m args below meth c H locs 0 0 QQ (F0 m 17 ls []) := by
        intro n17
        induction n17 with
        | zero =>
          intro v_gets v_target x1 x2 x3 H locs ls hP hD hS hl h
          have h : none = some (w_gets, w_target) := h
          cases h
        | succ n17 ih17 =>
          intro v_gets v_target x1 x2 x3 H locs ls hP hD hS hl h
          rw [L_X2_makeRings_17.eq_2] at h
          refine lv_iload_n hx hb dX2_makeRings_17 rfl (lv_at hl 3 rfl) ?_
          refine lv_bipush (v := 6) hx hb dX2_makeRings_18 (by decide) ?_
          refine lv_icmp_ge (tgt := 41) hx hb dX2_makeRings_20 (by decide) (fun hc => ?_) (fun hc => ?_)
          · have h := if_t hc h
            refine lv_iconst (v := 0) hx hb dX2_makeRings_41 (by decide) ?_
            refine lv_istore_n (lv' := [(3, .int (0 : Int32)), (0, .ref qt), (1, .int x1), (2, .int x2)]) hx hb dX2_makeRings_42 rfl hl (by decide) rfl (fun ls hl => ?_)
            refine lv_iconst (v := 0) hx hb dX2_makeRings_43 (by decide) ?_
            refine lv_istore (lv' := [(4, .int (0 : Int32)), (3, .int (0 : Int32)), (0, .ref qt), (1, .int x1), (2, .int x2)]) hx hb dX2_makeRings_44 hl (by decide) rfl (fun ls hl => ?_)
            exact hL46 FU v_gets v_target x1 x2 (0 : Int32) (0 : Int32) H locs ls hP hD hS (lv_sub hl [2, 3, 4, 1, 0] rfl) h
          · have h := if_f hc h
            refine lv_aload_n hx hb dX2_makeRings_23 rfl (lv_at hl 0 rfl) ?_
            refine va_get (D := D) (ci := 1) (C := RX2) (T := TX2) (N := 3) hx hb hts (fun _ hw => (List.mem_cons_of_mem _ (List.mem_append_right _ hw))) hown hE.1 hP 0 rfl rfl 2 (by decide) (hts (.fieldLink RX2 18 "GlobeCrown$Places" "target" "[I") (List.mem_cons_of_mem _ (List.mem_append_left _ (List.mem_of_getElem? (i := 0) rfl)))) (fun _ h9 => h9) rfl dX2_makeRings_24 ?_
            refine lv_iload_n hx hb dX2_makeRings_27 rfl (lv_at hl 3 rfl) ?_
            refine lv_aload_n hx hb dX2_makeRings_28 rfl (lv_at hl 0 rfl) ?_
            refine lv_iload_n hx hb dX2_makeRings_29 rfl (lv_at hl 3 rfl) ?_
            refine lv_iload_n hx hb dX2_makeRings_30 rfl (lv_at hl 1 rfl) ?_
            obtain ⟨r31, hc31, h⟩ := bd1_some h
            refine gw_ci (wr := [(qt_gets, .inl (cI, 6, .inl v_gets)), (qt_target, .inl (cI, 6, .inl v_target))]) (w2 := [(qt_gets, .inl (cI, 6, .inl v_gets)), (qt_target, .inl (cI, 6, .inl v_target)), (qt, .inr (1, [.ref qt_order, .ref qt_gets, .ref qt_target])), (qt_order, .inl (cI, 36, .inl v_order))]) (gw_rV (n := 2) ⟨hx, hb, hml, hown, hts⟩ (C_X2_bestOf l D cI cJ cZ H.size qt qt_order qt_gets qt_target v_order x3 x1 r31 hc31) gX2_makeRings_X2_bestOf rfl rfl rfl hdV_X2_bestOf ⟨Nat.le_of_ble_eq_true rfl, Nat.le_of_ble_eq_true rfl⟩ hE (hP.sub [0, 1] rfl) (hD.sub [0, 1] (by decide) rfl) 1 rfl 0 rfl rfl hl.1 (rest := [.int x3, .ref qt_target]) rfl (Nat.le_of_ble_eq_true rfl) dX2_makeRings_31 ⟨Nat.zero_le _, Nat.zero_le _⟩) hP hD hS hA [0, 1] [2, 3] rfl rfl rfl (by decide) rfl (fun H locs hP hD hS => ?_)
            obtain ⟨hg, h⟩ := gin_some h
            refine va_iast hx hb hE.1 hP hD hS 1 0 rfl rfl hg dX2_makeRings_34 (fun H locs (hP : va_P D vwCl [(qt_gets, .inl (cI, 6, .inl v_gets)), (qt_target, .inl (cI, 6, .inl (upd v_target (Int32.toNatClampNeg x3) r31))), (qt, .inr (1, [.ref qt_order, .ref qt_gets, .ref qt_target])), (qt_order, .inl (cI, 36, .inl v_order))] H) (hD : va_D A [(qt_gets, .inl (cI, 6, .inl v_gets)), (qt_target, .inl (cI, 6, .inl (upd v_target (Int32.toNatClampNeg x3) r31))), (qt, .inr (1, [.ref qt_order, .ref qt_gets, .ref qt_target])), (qt_order, .inl (cI, 36, .inl v_order))]) hS => ?_)
            refine lv_iinc (v := (x3 + (1 : Int32))) (lv' := [(3, .int (x3 + (1 : Int32))), (0, .ref qt), (1, .int x1), (2, .int x2)]) hx hb dX2_makeRings_35 hl (k := 3) rfl rfl (by decide) rfl (fun ls hl => ?_)
            refine lv_goto (tgt := 17) hx hb dX2_makeRings_38 (by decide) ?_
            exact ih17 v_gets (upd v_target (Int32.toNatClampNeg x3) r31) x1 x2 (x3 + (1 : Int32)) H locs ls (hP.sub [2, 3, 0, 1] rfl) (hD.sub [2, 3, 0, 1] (by decide) rfl) hS (lv_sub hl [1, 2, 3, 0] rfl) h
      intro v_gets v_target x1 x2 H locs ls hP hD hS hl h
      rw [L_X2_makeRings_5.eq_2] at h
      refine lv_iload_n hx hb dX2_makeRings_5 rfl (lv_at hl 2 rfl) ?_
      refine lv_bipush (v := 6) hx hb dX2_makeRings_6 (by decide) ?_
      refine lv_icmp_ge (tgt := 111) hx hb dX2_makeRings_8 (by decide) (fun hc => ?_) (fun hc => ?_)
      · have h := if_t hc h
        cases h
        rw [hQQ]
        exact gw_vret hx hb hr hlocks hP hD hS dX2_makeRings_111
      · have h := if_f hc h
        refine lv_iload_n hx hb dX2_makeRings_11 rfl (lv_at hl 1 rfl) ?_
        refine lv_if_eq (tgt := 111) hx hb dX2_makeRings_12 (by decide) (fun hc => ?_) (fun hc => ?_)
        · have h := if_t hc h
          cases h
          rw [hQQ]
          exact gw_vret hx hb hr hlocks hP hD hS dX2_makeRings_111
        · have h := if_f hc h
          refine lv_iconst (v := 0) hx hb dX2_makeRings_15 (by decide) ?_
          refine lv_istore_n (lv' := [(3, .int (0 : Int32)), (0, .ref qt), (1, .int x1), (2, .int x2)]) hx hb dX2_makeRings_16 rfl hl (by decide) rfl (fun ls hl => ?_)
          exact hL17 FU v_gets v_target x1 x2 (0 : Int32) H locs ls hP hD hS (lv_sub hl [1, 2, 3, 0] rfl) h
  have h := hf
  unfold f_X2_makeRings at h
  refine gw_start hP hD hS (fun H locs hP hD hS => ?_)
  refine lv_bipush (v := 63) hx hb dX2_makeRings_0 (by decide) ?_
  refine lv_istore_n (lv' := [(1, .int (63 : Int32)), (0, .ref qt)]) hx hb dX2_makeRings_2 rfl hl (by decide) rfl (fun ls hl => ?_)
  refine lv_iconst (v := 0) hx hb dX2_makeRings_3 (by decide) ?_
  refine lv_istore_n (lv' := [(2, .int (0 : Int32)), (1, .int (63 : Int32)), (0, .ref qt)]) hx hb dX2_makeRings_4 rfl hl (by decide) rfl (fun ls hl => ?_)
  exact hL5 FU v_gets v_target (63 : Int32) (0 : Int32) H locs ls hP hD hS (lv_sub hl [2, 1, 0] rfl) h
theorem hdV_X2_makeRings : yX2_makeRings.cls = RX2 ∧ yX2_makeRings.cls ≠ "java/lang/invoke/MethodHandle" ∧ yX2_makeRings.cls ≠ "java/lang/invoke/VarHandle" ∧ (parseMethodDescriptor yX2_makeRings.desc).map (fun d => d.parameters.length) = some 0 := by decide +kernel
def L_X2_moved_4 (v_gets : (Nat → Int32)) : Nat → Int32 → Int32 → Option (Int32)
  | 0, _, _ => none
  | n + 1, x1, x2 => (if (6 : Int32) ≤ x2 then (some x1) else (gin x2 6 (if (v_gets (Int32.toNatClampNeg x2)) = x2 then ((L_X2_moved_4 v_gets n) x1 (x2 + (1 : Int32))) else ((L_X2_moved_4 v_gets n) (x1 + (1 : Int32)) (x2 + (1 : Int32))))))
def f_X2_moved (v_gets : (Nat → Int32)) : Option (Int32) := (L_X2_moved_4 v_gets FU (0 : Int32) (0 : Int32))
abbrev rm_X2_moved : Room := { frames := 0, cells := 0, slots := 0, locals := 0 }
set_option maxHeartbeats 4000000 in
set_option maxRecDepth 100000 in
theorem C_X2_moved (l : Launch) (D : va_G) (cI cJ cZ : ClassId) (sz : Nat) (qt qt_order qt_gets qt_target : Nat) (v_gets : (Nat → Int32)) (r : Int32) (hf : f_X2_moved v_gets = some r) : Met l yX2_moved wsX2_moved rm_X2_moved (PR D cI cJ cZ [(qt, .inr (1, [.ref qt_order, .ref qt_gets, .ref qt_target])), (qt_gets, .inl (cI, 6, .inl v_gets))] sz [.ref qt]) (QI D (va_A [(qt, .inr (1, [.ref qt_order, .ref qt_gets, .ref qt_target])), (qt_gets, .inl (cI, 6, .inl v_gets))] sz) r [(qt, .inr (1, [.ref qt_order, .ref qt_gets, .ref qt_target])), (qt_gets, .inl (cI, 6, .inl v_gets))]) 0 0 (va_A [(qt, .inr (1, [.ref qt_order, .ref qt_gets, .ref qt_target])), (qt_gets, .inl (cI, 6, .inl v_gets))] sz) := by
  refine Met.ofW (cc := cX2_moved) (maxL := 3) (ret := (some .int)) (by decide) rfl ?_
  intro p e s m args below meth c s₁ B hml hv
  obtain ⟨hav, hsz, hP, hD0, hE⟩ := hv
  have hx := B.exec
  have hb := B.bytes
  have hr := B.returns
  have hts := atoms_spec (ws := wsX2_moved) B.pre
  have hown : s.vm.findClass RX2 = some m.cls := findClass_of_methodNamed B.named
  have hlocks := B.notSynchronized
  subst hsz
  have hD := hD0.self (sz := s.heap.size)
  generalize hAe : va_A [(qt, .inr (1, [.ref qt_order, .ref qt_gets, .ref qt_target])), (qt_gets, .inl (cI, 6, .inl v_gets))] s.heap.size = A at hD ⊢
  have hA : ∀ q : Nat, s.heap.size ≤ q → A q := fun q h => by rw [← hAe]; exact Or.inr h
  have hS : va_S A s.heap s.heap [] := va_S.rf
  have hl := lv_entry ([.ref qt]) (n := 3) (Nat.le_of_ble_eq_true rfl)
  have hfr : entryFrame m args 3 = entryFrame m ([.ref qt] : List Value).toArray 3 := by rw [hav]
  rw [hfr, lg_entry_eq]
  generalize (lg_sl ([.ref qt]) ++ List.replicate (3 - (lg_sl ([.ref qt])).length) Slot.unset).toArray = ls at hl ⊢
  have hl : lv_has ls 3 [(0, .ref qt)] := hl
  obtain ⟨QQ, hQQ⟩ : ∃ QQ, QQ = MQ below (QI D A r [(qt, .inr (1, [.ref qt_order, .ref qt_gets, .ref qt_target])), (qt_gets, .inl (cI, 6, .inl v_gets))]) args s 0 0 A := ⟨_, rfl⟩
  show W p l e rm_X2_moved s m args below meth c s.heap [] 0 0 _ _
  rw [← hQQ]
  have hL4 : ∀ (n4 : Nat), ∀ (x1 : Int32) (x2 : Int32) (H : Heap) (locs : List Loc) (ls : Array Slot), va_P D vwCl [(qt, .inr (1, [.ref qt_order, .ref qt_gets, .ref qt_target])), (qt_gets, .inl (cI, 6, .inl v_gets))] H → va_D A [(qt, .inr (1, [.ref qt_order, .ref qt_gets, .ref qt_target])), (qt_gets, .inl (cI, 6, .inl v_gets))] → va_S A s.heap H locs → lv_has ls 3 [(0, .ref qt), (1, .int x1), (2, .int x2)] → L_X2_moved_4 v_gets n4 x1 x2 = some r → W p l e rm_X2_moved s m args below meth c H locs 0 0 QQ (F0 m 4 ls []) := by
    intro n4
    induction n4 with
    | zero =>
      intro x1 x2 H locs ls hP hD hS hl h
      have h : none = some r := h
      cases h
    | succ n4 ih4 =>
      intro x1 x2 H locs ls hP hD hS hl h
      rw [L_X2_moved_4.eq_2] at h
      refine lv_iload_n hx hb dX2_moved_4 rfl (lv_at hl 2 rfl) ?_
      refine lv_bipush (v := 6) hx hb dX2_moved_5 (by decide) ?_
      refine lv_icmp_ge (tgt := 29) hx hb dX2_moved_7 (by decide) (fun hc => ?_) (fun hc => ?_)
      · have h := if_t hc h
        refine lv_iload_n hx hb dX2_moved_29 rfl (lv_at hl 1 rfl) ?_
        cases h
        rw [hQQ]
        exact gw_iret hx hb hr hlocks hP hD hS dX2_moved_30
      · have h := if_f hc h
        refine lv_aload_n hx hb dX2_moved_10 rfl (lv_at hl 0 rfl) ?_
        refine va_get (D := D) (ci := 1) (C := RX2) (T := TX2) (N := 3) hx hb hts (fun _ hw => (List.mem_cons_of_mem _ (List.mem_append_right _ hw))) hown hE.1 hP 0 rfl rfl 1 (by decide) (hts (.fieldLink RX2 15 "GlobeCrown$Places" "gets" "[I") (List.mem_cons_of_mem _ (List.mem_append_left _ (List.mem_of_getElem? (i := 0) rfl)))) (fun _ h9 => h9) rfl dX2_moved_11 ?_
        refine lv_iload_n hx hb dX2_moved_14 rfl (lv_at hl 2 rfl) ?_
        obtain ⟨hg, h⟩ := gin_some h
        refine va_iald hx hb hE.1 hP 1 0 rfl rfl hg dX2_moved_15 ?_
        refine lv_iload_n hx hb dX2_moved_16 rfl (lv_at hl 2 rfl) ?_
        refine lv_icmp_eq (tgt := 23) hx hb dX2_moved_17 (by decide) (fun hc => ?_) (fun hc => ?_)
        · have h := if_t hc h
          refine lv_iinc (v := (x2 + (1 : Int32))) (lv' := [(2, .int (x2 + (1 : Int32))), (0, .ref qt), (1, .int x1)]) hx hb dX2_moved_23 hl (k := 2) rfl rfl (by decide) rfl (fun ls hl => ?_)
          refine lv_goto (tgt := 4) hx hb dX2_moved_26 (by decide) ?_
          exact ih4 x1 (x2 + (1 : Int32)) H locs ls hP hD hS (lv_sub hl [1, 2, 0] rfl) h
        · have h := if_f hc h
          refine lv_iinc (v := (x1 + (1 : Int32))) (lv' := [(1, .int (x1 + (1 : Int32))), (0, .ref qt), (2, .int x2)]) hx hb dX2_moved_20 hl (k := 1) rfl rfl (by decide) rfl (fun ls hl => ?_)
          refine lv_iinc (v := (x2 + (1 : Int32))) (lv' := [(2, .int (x2 + (1 : Int32))), (1, .int (x1 + (1 : Int32))), (0, .ref qt)]) hx hb dX2_moved_23 hl (k := 2) rfl rfl (by decide) rfl (fun ls hl => ?_)
          refine lv_goto (tgt := 4) hx hb dX2_moved_26 (by decide) ?_
          exact ih4 (x1 + (1 : Int32)) (x2 + (1 : Int32)) H locs ls hP hD hS (lv_sub hl [2, 1, 0] rfl) h
  have h := hf
  unfold f_X2_moved at h
  refine gw_start hP hD hS (fun H locs hP hD hS => ?_)
  refine lv_iconst (v := 0) hx hb dX2_moved_0 (by decide) ?_
  refine lv_istore_n (lv' := [(1, .int (0 : Int32)), (0, .ref qt)]) hx hb dX2_moved_1 rfl hl (by decide) rfl (fun ls hl => ?_)
  refine lv_iconst (v := 0) hx hb dX2_moved_2 (by decide) ?_
  refine lv_istore_n (lv' := [(2, .int (0 : Int32)), (1, .int (0 : Int32)), (0, .ref qt)]) hx hb dX2_moved_3 rfl hl (by decide) rfl (fun ls hl => ?_)
  exact hL4 FU (0 : Int32) (0 : Int32) H locs ls hP hD hS (lv_sub hl [2, 1, 0] rfl) h
theorem hdV_X2_moved : yX2_moved.cls = RX2 ∧ yX2_moved.cls ≠ "java/lang/invoke/MethodHandle" ∧ yX2_moved.cls ≠ "java/lang/invoke/VarHandle" ∧ (parseMethodDescriptor yX2_moved.desc).map (fun d => d.parameters.length) = some 0 := by decide +kernel
