def L_X6_freeBits_4 (v_water : (Nat → Int32)) (v_there : Int32) : Nat → Int32 → Int32 → Option (Int32)
  | 0, _, _ => none
  | n + 1, x1, x2 => (if (8 : Int32) ≤ x2 then (some x1) else (bd1 (f_X6_isFree v_water v_there x2) (fun r12 => (if r12 = (0 : Int32) then ((L_X6_freeBits_4 v_water v_there n) x1 (x2 + (1 : Int32))) else ((L_X6_freeBits_4 v_water v_there n) (x1 ||| ((1 : Int32) <<< (x2 &&& 31))) (x2 + (1 : Int32)))))))
def f_X6_freeBits (v_water : (Nat → Int32)) (v_there : Int32) : Option (Int32) := (L_X6_freeBits_4 v_water v_there FU (0 : Int32) (0 : Int32))
abbrev rm_X6_freeBits : Room := { frames := 2, cells := 0, slots := 0, locals := 42 }
set_option maxHeartbeats 4000000 in
set_option maxRecDepth 100000 in
theorem C_X6_freeBits (l : Launch) (D : va_G) (cI cJ cZ : ClassId) (sz : Nat) (qt qt_water qt_flakes qt_flying qt_leaks qt_cloudy qt_content qt_in : Nat) (v_water : (Nat → Int32)) (v_there : Int32) (v_music : Int32) (v_taxes : Int32) (v_hour : Int32) (r : Int32) (hf : f_X6_freeBits v_water v_there = some r) : Met l yX6_freeBits wsX6_freeBits rm_X6_freeBits (PR D cI cJ cZ [(qt, .inr (5, [.ref qt_water, .ref qt_flakes, .ref qt_flying, .ref qt_leaks, .ref qt_cloudy, .ref qt_content, .ref qt_in, .int v_there, .int v_music, .int v_taxes, .int v_hour])), (qt_water, .inl (cI, 8, .inl v_water))] sz [.ref qt]) (QI D (va_A [(qt, .inr (5, [.ref qt_water, .ref qt_flakes, .ref qt_flying, .ref qt_leaks, .ref qt_cloudy, .ref qt_content, .ref qt_in, .int v_there, .int v_music, .int v_taxes, .int v_hour])), (qt_water, .inl (cI, 8, .inl v_water))] sz) r [(qt, .inr (5, [.ref qt_water, .ref qt_flakes, .ref qt_flying, .ref qt_leaks, .ref qt_cloudy, .ref qt_content, .ref qt_in, .int v_there, .int v_music, .int v_taxes, .int v_hour])), (qt_water, .inl (cI, 8, .inl v_water))]) 0 0 (va_A [(qt, .inr (5, [.ref qt_water, .ref qt_flakes, .ref qt_flying, .ref qt_leaks, .ref qt_cloudy, .ref qt_content, .ref qt_in, .int v_there, .int v_music, .int v_taxes, .int v_hour])), (qt_water, .inl (cI, 8, .inl v_water))] sz) := by
  refine Met.ofW (cc := cX6_freeBits) (maxL := 3) (ret := (some .int)) (by decide) rfl ?_
  intro p e s m args below meth c s₁ B hml hv
  obtain ⟨hav, hsz, hP, hD0, hE⟩ := hv
  have hx := B.exec
  have hb := B.bytes
  have hr := B.returns
  have hts := atoms_spec (ws := wsX6_freeBits) B.pre
  have hown : s.vm.findClass RX6 = some m.cls := findClass_of_methodNamed B.named
  have hlocks := B.notSynchronized
  subst hsz
  have hD := hD0.self (sz := s.heap.size)
  generalize hAe : va_A [(qt, .inr (5, [.ref qt_water, .ref qt_flakes, .ref qt_flying, .ref qt_leaks, .ref qt_cloudy, .ref qt_content, .ref qt_in, .int v_there, .int v_music, .int v_taxes, .int v_hour])), (qt_water, .inl (cI, 8, .inl v_water))] s.heap.size = A at hD ⊢
  have hA : ∀ q : Nat, s.heap.size ≤ q → A q := fun q h => by rw [← hAe]; exact Or.inr h
  have hS : va_S A s.heap s.heap [] := va_S.rf
  have hl := lv_entry ([.ref qt]) (n := 3) (Nat.le_of_ble_eq_true rfl)
  have hfr : entryFrame m args 3 = entryFrame m ([.ref qt] : List Value).toArray 3 := by rw [hav]
  rw [hfr, lg_entry_eq]
  generalize (lg_sl ([.ref qt]) ++ List.replicate (3 - (lg_sl ([.ref qt])).length) Slot.unset).toArray = ls at hl ⊢
  have hl : lv_has ls 3 [(0, .ref qt)] := hl
  obtain ⟨QQ, hQQ⟩ : ∃ QQ, QQ = MQ below (QI D A r [(qt, .inr (5, [.ref qt_water, .ref qt_flakes, .ref qt_flying, .ref qt_leaks, .ref qt_cloudy, .ref qt_content, .ref qt_in, .int v_there, .int v_music, .int v_taxes, .int v_hour])), (qt_water, .inl (cI, 8, .inl v_water))]) args s 0 0 A := ⟨_, rfl⟩
  show W p l e rm_X6_freeBits s m args below meth c s.heap [] 0 0 _ _
  rw [← hQQ]
  have hL4 : ∀ (n4 : Nat), ∀ (x1 : Int32) (x2 : Int32) (H : Heap) (locs : List Loc) (ls : Array Slot), va_P D vwCl [(qt, .inr (5, [.ref qt_water, .ref qt_flakes, .ref qt_flying, .ref qt_leaks, .ref qt_cloudy, .ref qt_content, .ref qt_in, .int v_there, .int v_music, .int v_taxes, .int v_hour])), (qt_water, .inl (cI, 8, .inl v_water))] H → va_D A [(qt, .inr (5, [.ref qt_water, .ref qt_flakes, .ref qt_flying, .ref qt_leaks, .ref qt_cloudy, .ref qt_content, .ref qt_in, .int v_there, .int v_music, .int v_taxes, .int v_hour])), (qt_water, .inl (cI, 8, .inl v_water))] → va_S A s.heap H locs → lv_has ls 3 [(0, .ref qt), (1, .int x1), (2, .int x2)] → L_X6_freeBits_4 v_water v_there n4 x1 x2 = some r → W p l e rm_X6_freeBits s m args below meth c H locs 0 0 QQ (F0 m 4 ls []) := by
    intro n4
    induction n4 with
    | zero =>
      intro x1 x2 H locs ls hP hD hS hl h
      have h : none = some r := h
      cases h
    | succ n4 ih4 =>
      intro x1 x2 H locs ls hP hD hS hl h
      rw [L_X6_freeBits_4.eq_2] at h
      refine lv_iload_n hx hb dX6_freeBits_4 rfl (lv_at hl 2 rfl) ?_
      refine lv_bipush (v := 8) hx hb dX6_freeBits_5 (by decide) ?_
      refine lv_icmp_ge (tgt := 30) hx hb dX6_freeBits_7 (by decide) (fun hc => ?_) (fun hc => ?_)
      · have h := if_t hc h
        refine lv_iload_n hx hb dX6_freeBits_30 rfl (lv_at hl 1 rfl) ?_
        cases h
        rw [hQQ]
        exact gw_iret hx hb hr hlocks hP hD hS dX6_freeBits_31
      · have h := if_f hc h
        refine lv_aload_n hx hb dX6_freeBits_10 rfl (lv_at hl 0 rfl) ?_
        refine lv_iload_n hx hb dX6_freeBits_11 rfl (lv_at hl 2 rfl) ?_
        obtain ⟨r12, hc12, h⟩ := bd1_some h
        refine gw_ci (wr := []) (w2 := [(qt, .inr (5, [.ref qt_water, .ref qt_flakes, .ref qt_flying, .ref qt_leaks, .ref qt_cloudy, .ref qt_content, .ref qt_in, .int v_there, .int v_music, .int v_taxes, .int v_hour])), (qt_water, .inl (cI, 8, .inl v_water))]) (gw_rV (n := 1) ⟨hx, hb, hml, hown, hts⟩ (C_X6_isFree l D cI cJ cZ H.size qt qt_water qt_flakes qt_flying qt_leaks qt_cloudy qt_content qt_in v_water v_there v_music v_taxes v_hour x2 r12 hc12) gX6_freeBits_X6_isFree rfl rfl rfl hdV_X6_isFree ⟨Nat.le_of_ble_eq_true rfl, Nat.le_of_ble_eq_true rfl⟩ hE (hP.sub [0, 1] rfl) (hD.sub [0, 1] (by decide) rfl) 5 rfl 0 rfl rfl hl.1 (rest := []) rfl (Nat.le_of_ble_eq_true rfl) dX6_freeBits_12 ⟨Nat.zero_le _, Nat.zero_le _⟩) hP hD hS hA [0, 1] [] rfl rfl rfl (by decide) rfl (fun H locs hP hD hS => ?_)
        refine lv_if_eq (tgt := 24) hx hb dX6_freeBits_15 (by decide) (fun hc => ?_) (fun hc => ?_)
        · have h := if_t hc h
          refine lv_iinc (v := (x2 + (1 : Int32))) (lv' := [(2, .int (x2 + (1 : Int32))), (0, .ref qt), (1, .int x1)]) hx hb dX6_freeBits_24 hl (k := 2) rfl rfl (by decide) rfl (fun ls hl => ?_)
          refine lv_goto (tgt := 4) hx hb dX6_freeBits_27 (by decide) ?_
          exact ih4 x1 (x2 + (1 : Int32)) H locs ls hP hD hS (lv_sub hl [1, 2, 0] rfl) h
        · have h := if_f hc h
          refine lv_iload_n hx hb dX6_freeBits_18 rfl (lv_at hl 1 rfl) ?_
          refine lv_iconst (v := 1) hx hb dX6_freeBits_19 (by decide) ?_
          refine lv_iload_n hx hb dX6_freeBits_20 rfl (lv_at hl 2 rfl) ?_
          refine lv_ishl hx hb dX6_freeBits_21 ?_
          refine lv_ior hx hb dX6_freeBits_22 ?_
          refine lv_istore_n (lv' := [(1, .int (x1 ||| ((1 : Int32) <<< (x2 &&& 31)))), (0, .ref qt), (2, .int x2)]) hx hb dX6_freeBits_23 rfl hl (by decide) rfl (fun ls hl => ?_)
          refine lv_iinc (v := (x2 + (1 : Int32))) (lv' := [(2, .int (x2 + (1 : Int32))), (1, .int (x1 ||| ((1 : Int32) <<< (x2 &&& 31)))), (0, .ref qt)]) hx hb dX6_freeBits_24 hl (k := 2) rfl rfl (by decide) rfl (fun ls hl => ?_)
          refine lv_goto (tgt := 4) hx hb dX6_freeBits_27 (by decide) ?_
          exact ih4 (x1 ||| ((1 : Int32) <<< (x2 &&& 31))) (x2 + (1 : Int32)) H locs ls hP hD hS (lv_sub hl [2, 1, 0] rfl) h
  have h := hf
  unfold f_X6_freeBits at h
  refine gw_start hP hD hS (fun H locs hP hD hS => ?_)
  refine lv_iconst (v := 0) hx hb dX6_freeBits_0 (by decide) ?_
  refine lv_istore_n (lv' := [(1, .int (0 : Int32)), (0, .ref qt)]) hx hb dX6_freeBits_1 rfl hl (by decide) rfl (fun ls hl => ?_)
  refine lv_iconst (v := 0) hx hb dX6_freeBits_2 (by decide) ?_
  refine lv_istore_n (lv' := [(2, .int (0 : Int32)), (1, .int (0 : Int32)), (0, .ref qt)]) hx hb dX6_freeBits_3 rfl hl (by decide) rfl (fun ls hl => ?_)
  exact hL4 FU (0 : Int32) (0 : Int32) H locs ls hP hD hS (lv_sub hl [2, 1, 0] rfl) h
theorem hdV_X6_freeBits : yX6_freeBits.cls = RX6 ∧ yX6_freeBits.cls ≠ "java/lang/invoke/MethodHandle" ∧ yX6_freeBits.cls ≠ "java/lang/invoke/VarHandle" ∧ (parseMethodDescriptor yX6_freeBits.desc).map (fun d => d.parameters.length) = some 0 := by decide +kernel
def L_X6_shake_2 (v_water : (Nat → Int32)) (v_flakes : (Nat → Int32)) (v_content : (Nat → Int32)) (v_in : (Nat → Int32)) (v_there : Int32) (p1 : Int32) (p2 : Int32) : Nat → (Nat → Int32) → Int32 → Int32 → Option ((Nat → Int32) × Int32)
  | 0, _, _, _ => none
  | n + 1, v_flying, v_taxes, x3 => (if (8 : Int32) ≤ x3 then (some (v_flying, v_taxes)) else (bd1 (f_X6_isWithin v_in v_there x3 p1) (fun r11 => (if r11 = (0 : Int32) then ((L_X6_shake_2 v_water v_flakes v_content v_in v_there p1 p2 n) v_flying v_taxes (x3 + (1 : Int32))) else (bd1 (f_X6_isFree v_water v_there x3) (fun r19 => (if r19 = (0 : Int32) then (gin x3 8 (gin x3 8 (gin x3 8 (gin x3 8 ((L_X6_shake_2 v_water v_flakes v_content v_in v_there p1 p2 n) (upd v_flying (Int32.toNatClampNeg x3) (jmin (v_flakes (Int32.toNatClampNeg x3)) ((v_flying (Int32.toNatClampNeg x3)) + ((10 : Int32) * p2)))) (v_taxes + (v_content (Int32.toNatClampNeg x3))) (x3 + (1 : Int32))))))) else ((L_X6_shake_2 v_water v_flakes v_content v_in v_there p1 p2 n) v_flying v_taxes (x3 + (1 : Int32))))))))))
def f_X6_shake (v_water : (Nat → Int32)) (v_flakes : (Nat → Int32)) (v_flying : (Nat → Int32)) (v_content : (Nat → Int32)) (v_in : (Nat → Int32)) (v_there : Int32) (v_taxes : Int32) (p1 : Int32) (p2 : Int32) : Option ((Nat → Int32) × Int32) := (L_X6_shake_2 v_water v_flakes v_content v_in v_there p1 p2 FU v_flying v_taxes (0 : Int32))
abbrev rm_X6_shake : Room := { frames := 2, cells := 0, slots := 0, locals := 45 }
set_option maxHeartbeats 4000000 in
set_option maxRecDepth 100000 in
theorem C_X6_shake (l : Launch) (D : va_G) (cI cJ cZ : ClassId) (sz : Nat) (qt qt_water qt_flakes qt_flying qt_leaks qt_cloudy qt_content qt_in : Nat) (v_water : (Nat → Int32)) (v_flakes : (Nat → Int32)) (v_flying : (Nat → Int32)) (v_content : (Nat → Int32)) (v_in : (Nat → Int32)) (v_there : Int32) (v_music : Int32) (v_taxes : Int32) (v_hour : Int32) (p1 : Int32) (p2 : Int32) (w_flying : (Nat → Int32)) (w_taxes : Int32) (hf : f_X6_shake v_water v_flakes v_flying v_content v_in v_there v_taxes p1 p2 = some (w_flying, w_taxes)) : Met l yX6_shake wsX6_shake rm_X6_shake (PR D cI cJ cZ [(qt, .inr (5, [.ref qt_water, .ref qt_flakes, .ref qt_flying, .ref qt_leaks, .ref qt_cloudy, .ref qt_content, .ref qt_in, .int v_there, .int v_music, .int v_taxes, .int v_hour])), (qt_water, .inl (cI, 8, .inl v_water)), (qt_flakes, .inl (cI, 8, .inl v_flakes)), (qt_flying, .inl (cI, 8, .inl v_flying)), (qt_content, .inl (cI, 8, .inl v_content)), (qt_in, .inl (cI, 8, .inl v_in))] sz [.ref qt, .int p1, .int p2]) (QV D (va_A [(qt, .inr (5, [.ref qt_water, .ref qt_flakes, .ref qt_flying, .ref qt_leaks, .ref qt_cloudy, .ref qt_content, .ref qt_in, .int v_there, .int v_music, .int v_taxes, .int v_hour])), (qt_water, .inl (cI, 8, .inl v_water)), (qt_flakes, .inl (cI, 8, .inl v_flakes)), (qt_flying, .inl (cI, 8, .inl v_flying)), (qt_content, .inl (cI, 8, .inl v_content)), (qt_in, .inl (cI, 8, .inl v_in))] sz) [(qt, .inr (5, [.ref qt_water, .ref qt_flakes, .ref qt_flying, .ref qt_leaks, .ref qt_cloudy, .ref qt_content, .ref qt_in, .int v_there, .int v_music, .int w_taxes, .int v_hour])), (qt_water, .inl (cI, 8, .inl v_water)), (qt_flakes, .inl (cI, 8, .inl v_flakes)), (qt_flying, .inl (cI, 8, .inl w_flying)), (qt_content, .inl (cI, 8, .inl v_content)), (qt_in, .inl (cI, 8, .inl v_in))]) 0 0 (va_A [(qt, .inr (5, [.ref qt_water, .ref qt_flakes, .ref qt_flying, .ref qt_leaks, .ref qt_cloudy, .ref qt_content, .ref qt_in, .int v_there, .int v_music, .int v_taxes, .int v_hour])), (qt_water, .inl (cI, 8, .inl v_water)), (qt_flakes, .inl (cI, 8, .inl v_flakes)), (qt_flying, .inl (cI, 8, .inl v_flying)), (qt_content, .inl (cI, 8, .inl v_content)), (qt_in, .inl (cI, 8, .inl v_in))] sz) := by
  refine Met.ofW (cc := cX6_shake) (maxL := 4) (ret := none) (by decide) rfl ?_
  intro p e s m args below meth c s₁ B hml hv
  obtain ⟨hav, hsz, hP, hD0, hE⟩ := hv
  have hx := B.exec
  have hb := B.bytes
  have hr := B.returns
  have hts := atoms_spec (ws := wsX6_shake) B.pre
  have hown : s.vm.findClass RX6 = some m.cls := findClass_of_methodNamed B.named
  have hlocks := B.notSynchronized
  subst hsz
  have hD := hD0.self (sz := s.heap.size)
  generalize hAe : va_A [(qt, .inr (5, [.ref qt_water, .ref qt_flakes, .ref qt_flying, .ref qt_leaks, .ref qt_cloudy, .ref qt_content, .ref qt_in, .int v_there, .int v_music, .int v_taxes, .int v_hour])), (qt_water, .inl (cI, 8, .inl v_water)), (qt_flakes, .inl (cI, 8, .inl v_flakes)), (qt_flying, .inl (cI, 8, .inl v_flying)), (qt_content, .inl (cI, 8, .inl v_content)), (qt_in, .inl (cI, 8, .inl v_in))] s.heap.size = A at hD ⊢
  have hA : ∀ q : Nat, s.heap.size ≤ q → A q := fun q h => by rw [← hAe]; exact Or.inr h
  have hS : va_S A s.heap s.heap [] := va_S.rf
  have hl := lv_entry ([.ref qt, .int p1, .int p2]) (n := 4) (Nat.le_of_ble_eq_true rfl)
  have hfr : entryFrame m args 4 = entryFrame m ([.ref qt, .int p1, .int p2] : List Value).toArray 4 := by rw [hav]
  rw [hfr, lg_entry_eq]
  generalize (lg_sl ([.ref qt, .int p1, .int p2]) ++ List.replicate (4 - (lg_sl ([.ref qt, .int p1, .int p2])).length) Slot.unset).toArray = ls at hl ⊢
  have hl : lv_has ls 4 [(0, .ref qt), (1, .int p1), (2, .int p2)] := hl
  obtain ⟨QQ, hQQ⟩ : ∃ QQ, QQ = MQ below (QV D A [(qt, .inr (5, [.ref qt_water, .ref qt_flakes, .ref qt_flying, .ref qt_leaks, .ref qt_cloudy, .ref qt_content, .ref qt_in, .int v_there, .int v_music, .int w_taxes, .int v_hour])), (qt_water, .inl (cI, 8, .inl v_water)), (qt_flakes, .inl (cI, 8, .inl v_flakes)), (qt_flying, .inl (cI, 8, .inl w_flying)), (qt_content, .inl (cI, 8, .inl v_content)), (qt_in, .inl (cI, 8, .inl v_in))]) args s 0 0 A := ⟨_, rfl⟩
  show W p l e rm_X6_shake s m args below meth c s.heap [] 0 0 _ _
  rw [← hQQ]
  have hL2 : ∀ (n2 : Nat), ∀ (v_flying : (Nat → Int32)) (v_taxes : Int32) (x3 : Int32) (H : Heap) (locs : List Loc) (ls : Array Slot), va_P D vwCl [(qt, .inr (5, [.ref qt_water, .ref qt_flakes, .ref qt_flying, .ref qt_leaks, .ref qt_cloudy, .ref qt_content, .ref qt_in, .int v_there, .int v_music, .int v_taxes, .int v_hour])), (qt_water, .inl (cI, 8, .inl v_water)), (qt_flakes, .inl (cI, 8, .inl v_flakes)), (qt_flying, .inl (cI, 8, .inl v_flying)), (qt_content, .inl (cI, 8, .inl v_content)), (qt_in, .inl (cI, 8, .inl v_in))] H → va_D A [(qt, .inr (5, [.ref qt_water, .ref qt_flakes, .ref qt_flying, .ref qt_leaks, .ref qt_cloudy, .ref qt_content, .ref qt_in, .int v_there, .int v_music, .int v_taxes, .int v_hour])), (qt_water, .inl (cI, 8, .inl v_water)), (qt_flakes, .inl (cI, 8, .inl v_flakes)), (qt_flying, .inl (cI, 8, .inl v_flying)), (qt_content, .inl (cI, 8, .inl v_content)), (qt_in, .inl (cI, 8, .inl v_in))] → va_S A s.heap H locs → lv_has ls 4 [(0, .ref qt), (1, .int p1), (2, .int p2), (3, .int x3)] → L_X6_shake_2 v_water v_flakes v_content v_in v_there p1 p2 n2 v_flying v_taxes x3 = some (w_flying, w_taxes) → W p l e rm_X6_shake s m args below meth c H locs 0 0 QQ (F0 m 2 ls []) := by
    intro n2
    induction n2 with
    | zero =>
      intro v_flying v_taxes x3 H locs ls hP hD hS hl h
      have h : none = some (w_flying, w_taxes) := h
      cases h
    | succ n2 ih2 =>
      intro v_flying v_taxes x3 H locs ls hP hD hS hl h
      rw [L_X6_shake_2.eq_2] at h
      refine lv_iload_n hx hb dX6_shake_2 rfl (lv_at hl 3 rfl) ?_
      refine lv_bipush (v := 8) hx hb dX6_shake_3 (by decide) ?_
      refine lv_icmp_ge (tgt := 72) hx hb dX6_shake_5 (by decide) (fun hc => ?_) (fun hc => ?_)
      · have h := if_t hc h
        cases h
        rw [hQQ]
        exact gw_vret hx hb hr hlocks hP hD hS dX6_shake_72
      · have h := if_f hc h
        refine lv_aload_n hx hb dX6_shake_8 rfl (lv_at hl 0 rfl) ?_
        refine lv_iload_n hx hb dX6_shake_9 rfl (lv_at hl 3 rfl) ?_
        refine lv_iload_n hx hb dX6_shake_10 rfl (lv_at hl 1 rfl) ?_
        obtain ⟨r11, hc11, h⟩ := bd1_some h
        refine gw_ci (wr := [(qt_water, .inl (cI, 8, .inl v_water)), (qt_flakes, .inl (cI, 8, .inl v_flakes)), (qt_flying, .inl (cI, 8, .inl v_flying)), (qt_content, .inl (cI, 8, .inl v_content))]) (w2 := [(qt_water, .inl (cI, 8, .inl v_water)), (qt_flakes, .inl (cI, 8, .inl v_flakes)), (qt_flying, .inl (cI, 8, .inl v_flying)), (qt_content, .inl (cI, 8, .inl v_content)), (qt, .inr (5, [.ref qt_water, .ref qt_flakes, .ref qt_flying, .ref qt_leaks, .ref qt_cloudy, .ref qt_content, .ref qt_in, .int v_there, .int v_music, .int v_taxes, .int v_hour])), (qt_in, .inl (cI, 8, .inl v_in))]) (gw_rV (n := 2) ⟨hx, hb, hml, hown, hts⟩ (C_X6_isWithin l D cI cJ cZ H.size qt qt_water qt_flakes qt_flying qt_leaks qt_cloudy qt_content qt_in v_in v_there v_music v_taxes v_hour x3 p1 r11 hc11) gX6_shake_X6_isWithin rfl rfl rfl hdV_X6_isWithin ⟨Nat.le_of_ble_eq_true rfl, Nat.le_of_ble_eq_true rfl⟩ hE (hP.sub [0, 5] rfl) (hD.sub [0, 5] (by decide) rfl) 5 rfl 0 rfl rfl hl.1 (rest := []) rfl (Nat.le_of_ble_eq_true rfl) dX6_shake_11 ⟨Nat.zero_le _, Nat.zero_le _⟩) hP hD hS hA [0, 5] [1, 2, 3, 4] rfl rfl rfl (by decide) rfl (fun H locs hP hD hS => ?_)
        refine lv_if_eq (tgt := 66) hx hb dX6_shake_14 (by decide) (fun hc => ?_) (fun hc => ?_)
        · have h := if_t hc h
          refine lv_iinc (v := (x3 + (1 : Int32))) (lv' := [(3, .int (x3 + (1 : Int32))), (0, .ref qt), (1, .int p1), (2, .int p2)]) hx hb dX6_shake_66 hl (k := 3) rfl rfl (by decide) rfl (fun ls hl => ?_)
          refine lv_goto (tgt := 2) hx hb dX6_shake_69 (by decide) ?_
          exact ih2 v_flying v_taxes (x3 + (1 : Int32)) H locs ls (hP.sub [4, 0, 1, 2, 3, 5] rfl) (hD.sub [4, 0, 1, 2, 3, 5] (by decide) rfl) hS (lv_sub hl [1, 2, 3, 0] rfl) h
        · have h := if_f hc h
          refine lv_aload_n hx hb dX6_shake_17 rfl (lv_at hl 0 rfl) ?_
          refine lv_iload_n hx hb dX6_shake_18 rfl (lv_at hl 3 rfl) ?_
          obtain ⟨r19, hc19, h⟩ := bd1_some h
          refine gw_ci (wr := [(qt_flakes, .inl (cI, 8, .inl v_flakes)), (qt_flying, .inl (cI, 8, .inl v_flying)), (qt_content, .inl (cI, 8, .inl v_content)), (qt_in, .inl (cI, 8, .inl v_in))]) (w2 := [(qt_flakes, .inl (cI, 8, .inl v_flakes)), (qt_flying, .inl (cI, 8, .inl v_flying)), (qt_content, .inl (cI, 8, .inl v_content)), (qt_in, .inl (cI, 8, .inl v_in)), (qt, .inr (5, [.ref qt_water, .ref qt_flakes, .ref qt_flying, .ref qt_leaks, .ref qt_cloudy, .ref qt_content, .ref qt_in, .int v_there, .int v_music, .int v_taxes, .int v_hour])), (qt_water, .inl (cI, 8, .inl v_water))]) (gw_rV (n := 1) ⟨hx, hb, hml, hown, hts⟩ (C_X6_isFree l D cI cJ cZ H.size qt qt_water qt_flakes qt_flying qt_leaks qt_cloudy qt_content qt_in v_water v_there v_music v_taxes v_hour x3 r19 hc19) gX6_shake_X6_isFree rfl rfl rfl hdV_X6_isFree ⟨Nat.le_of_ble_eq_true rfl, Nat.le_of_ble_eq_true rfl⟩ hE (hP.sub [4, 0] rfl) (hD.sub [4, 0] (by decide) rfl) 5 rfl 0 rfl rfl hl.1 (rest := []) rfl (Nat.le_of_ble_eq_true rfl) dX6_shake_19 ⟨Nat.zero_le _, Nat.zero_le _⟩) hP hD hS hA [4, 0] [1, 2, 3, 5] rfl rfl rfl (by decide) rfl (fun H locs hP hD hS => ?_)
          refine lv_if_ne (tgt := 66) hx hb dX6_shake_22 (by decide) (fun hc => ?_) (fun hc => ?_)
          · have h := if_f hc h
            refine lv_iinc (v := (x3 + (1 : Int32))) (lv' := [(3, .int (x3 + (1 : Int32))), (0, .ref qt), (1, .int p1), (2, .int p2)]) hx hb dX6_shake_66 hl (k := 3) rfl rfl (by decide) rfl (fun ls hl => ?_)
            refine lv_goto (tgt := 2) hx hb dX6_shake_69 (by decide) ?_
            exact ih2 v_flying v_taxes (x3 + (1 : Int32)) H locs ls (hP.sub [4, 5, 0, 1, 2, 3] rfl) (hD.sub [4, 5, 0, 1, 2, 3] (by decide) rfl) hS (lv_sub hl [1, 2, 3, 0] rfl) h
          · have h := if_t hc h
            refine lv_aload_n hx hb dX6_shake_25 rfl (lv_at hl 0 rfl) ?_
            refine va_get (D := D) (ci := 5) (C := RX6) (T := TX6) (N := 11) hx hb hts (fun _ hw => (List.mem_cons_of_mem _ (List.mem_append_right _ hw))) hown hE.1 hP 4 rfl rfl 2 (by decide) (hts (.fieldLink RX6 18 "GlobeCrown$Shelf" "flying" "[I") (List.mem_cons_of_mem _ (List.mem_append_left _ (List.mem_of_getElem? (i := 0) rfl)))) (fun _ h9 => h9) rfl dX6_shake_26 ?_
            refine lv_iload_n hx hb dX6_shake_29 rfl (lv_at hl 3 rfl) ?_
            refine lv_aload_n hx hb dX6_shake_30 rfl (lv_at hl 0 rfl) ?_
            refine va_get (D := D) (ci := 5) (C := RX6) (T := TX6) (N := 11) hx hb hts (fun _ hw => (List.mem_cons_of_mem _ (List.mem_append_right _ hw))) hown hE.1 hP 4 rfl rfl 1 (by decide) (hts (.fieldLink RX6 15 "GlobeCrown$Shelf" "flakes" "[I") (List.mem_cons_of_mem _ (List.mem_append_left _ (List.mem_of_getElem? (i := 1) rfl)))) (fun _ h9 => h9) rfl dX6_shake_31 ?_
            refine lv_iload_n hx hb dX6_shake_34 rfl (lv_at hl 3 rfl) ?_
            obtain ⟨hg, h⟩ := gin_some h
            refine va_iald hx hb hE.1 hP 0 0 rfl rfl hg dX6_shake_35 ?_
            refine lv_aload_n hx hb dX6_shake_36 rfl (lv_at hl 0 rfl) ?_
            refine va_get (D := D) (ci := 5) (C := RX6) (T := TX6) (N := 11) hx hb hts (fun _ hw => (List.mem_cons_of_mem _ (List.mem_append_right _ hw))) hown hE.1 hP 4 rfl rfl 2 (by decide) (hts (.fieldLink RX6 18 "GlobeCrown$Shelf" "flying" "[I") (List.mem_cons_of_mem _ (List.mem_append_left _ (List.mem_of_getElem? (i := 0) rfl)))) (fun _ h9 => h9) rfl dX6_shake_37 ?_
            refine lv_iload_n hx hb dX6_shake_40 rfl (lv_at hl 3 rfl) ?_
            obtain ⟨hg, h⟩ := gin_some h
            refine va_iald hx hb hE.1 hP 1 0 rfl rfl hg dX6_shake_41 ?_
            refine lv_bipush (v := 10) hx hb dX6_shake_42 (by decide) ?_
            refine lv_iload_n hx hb dX6_shake_44 rfl (lv_at hl 2 rfl) ?_
            refine lv_imul hx hb dX6_shake_45 ?_
            refine lv_iadd hx hb dX6_shake_46 ?_
            refine gw_min hx hb (hml.trans hl.1.symm) hown (hts (.methodLink RX6 69 Lib.Math.min.name) (List.mem_cons_of_mem _ (List.mem_append_left _ (List.mem_of_getElem? (i := 2) rfl)))) (hts (.static Lib.Math.min.name) (List.mem_cons_of_mem _ (List.mem_append_left _ (List.mem_of_getElem? (i := 3) rfl)))) (hts (.initialized "java/lang/Math") (List.mem_cons_of_mem _ (List.mem_append_left _ (List.mem_of_getElem? (i := 4) rfl)))) (hts (.code Lib.Math.min.name Lib.Math.min.code 2 (some .int)) (List.mem_cons_of_mem _ (List.mem_append_left _ (List.mem_of_getElem? (i := 5) rfl)))) (Nat.le_of_ble_eq_true rfl) (Nat.le_of_ble_eq_true rfl) (Nat.zero_le _) (Nat.zero_le _) dX6_shake_47 ?_
            obtain ⟨hg, h⟩ := gin_some h
            refine va_iast hx hb hE.1 hP hD hS 1 0 rfl rfl hg dX6_shake_50 (fun H locs (hP : va_P D vwCl [(qt_flakes, .inl (cI, 8, .inl v_flakes)), (qt_flying, .inl (cI, 8, .inl (upd v_flying (Int32.toNatClampNeg x3) (jmin (v_flakes (Int32.toNatClampNeg x3)) ((v_flying (Int32.toNatClampNeg x3)) + ((10 : Int32) * p2)))))), (qt_content, .inl (cI, 8, .inl v_content)), (qt_in, .inl (cI, 8, .inl v_in)), (qt, .inr (5, [.ref qt_water, .ref qt_flakes, .ref qt_flying, .ref qt_leaks, .ref qt_cloudy, .ref qt_content, .ref qt_in, .int v_there, .int v_music, .int v_taxes, .int v_hour])), (qt_water, .inl (cI, 8, .inl v_water))] H) (hD : va_D A [(qt_flakes, .inl (cI, 8, .inl v_flakes)), (qt_flying, .inl (cI, 8, .inl (upd v_flying (Int32.toNatClampNeg x3) (jmin (v_flakes (Int32.toNatClampNeg x3)) ((v_flying (Int32.toNatClampNeg x3)) + ((10 : Int32) * p2)))))), (qt_content, .inl (cI, 8, .inl v_content)), (qt_in, .inl (cI, 8, .inl v_in)), (qt, .inr (5, [.ref qt_water, .ref qt_flakes, .ref qt_flying, .ref qt_leaks, .ref qt_cloudy, .ref qt_content, .ref qt_in, .int v_there, .int v_music, .int v_taxes, .int v_hour])), (qt_water, .inl (cI, 8, .inl v_water))]) hS => ?_)
            refine lv_aload_n hx hb dX6_shake_51 rfl (lv_at hl 0 rfl) ?_
            refine lv_dup hx hb dX6_shake_52 rfl ?_
            refine va_get (D := D) (ci := 5) (C := RX6) (T := TX6) (N := 11) hx hb hts (fun _ hw => (List.mem_cons_of_mem _ (List.mem_append_right _ hw))) hown hE.1 hP 4 rfl rfl 9 (by decide) (hts (.fieldLink RX6 46 "GlobeCrown$Shelf" "taxes" "I") (List.mem_cons_of_mem _ (List.mem_append_left _ (List.mem_of_getElem? (i := 6) rfl)))) (fun _ h9 => h9) rfl dX6_shake_53 ?_
            refine lv_aload_n hx hb dX6_shake_56 rfl (lv_at hl 0 rfl) ?_
            refine va_get (D := D) (ci := 5) (C := RX6) (T := TX6) (N := 11) hx hb hts (fun _ hw => (List.mem_cons_of_mem _ (List.mem_append_right _ hw))) hown hE.1 hP 4 rfl rfl 5 (by decide) (hts (.fieldLink RX6 27 "GlobeCrown$Shelf" "content" "[I") (List.mem_cons_of_mem _ (List.mem_append_left _ (List.mem_of_getElem? (i := 7) rfl)))) (fun _ h9 => h9) rfl dX6_shake_57 ?_
            refine lv_iload_n hx hb dX6_shake_60 rfl (lv_at hl 3 rfl) ?_
            obtain ⟨hg, h⟩ := gin_some h
            refine va_iald hx hb hE.1 hP 2 0 rfl rfl hg dX6_shake_61 ?_
            refine lv_iadd hx hb dX6_shake_62 ?_
            refine va_put (D := D) (ci := 5) (v := .int (v_taxes + (v_content (Int32.toNatClampNeg x3)))) (ty := .int) (C := RX6) (T := TX6) (N := 11) hx hb hts (fun _ hw => (List.mem_cons_of_mem _ (List.mem_append_right _ hw))) tyX6 tyX6_ok nmX6 hown hE.1 hP hD hS 4 rfl rfl 9 (by decide) (hts (.fieldLink RX6 46 "GlobeCrown$Shelf" "taxes" "I") (List.mem_cons_of_mem _ (List.mem_append_left _ (List.mem_of_getElem? (i := 6) rfl)))) (fun _ h9 => h9) rfl (tyX6_ok 9 (by decide)) rfl rfl (Nat.le_of_ble_eq_true rfl) dX6_shake_63 (fun H locs (hP : va_P D vwCl [(qt_flakes, .inl (cI, 8, .inl v_flakes)), (qt_flying, .inl (cI, 8, .inl (upd v_flying (Int32.toNatClampNeg x3) (jmin (v_flakes (Int32.toNatClampNeg x3)) ((v_flying (Int32.toNatClampNeg x3)) + ((10 : Int32) * p2)))))), (qt_content, .inl (cI, 8, .inl v_content)), (qt_in, .inl (cI, 8, .inl v_in)), (qt, .inr (5, [.ref qt_water, .ref qt_flakes, .ref qt_flying, .ref qt_leaks, .ref qt_cloudy, .ref qt_content, .ref qt_in, .int v_there, .int v_music, .int (v_taxes + (v_content (Int32.toNatClampNeg x3))), .int v_hour])), (qt_water, .inl (cI, 8, .inl v_water))] H) (hD : va_D A [(qt_flakes, .inl (cI, 8, .inl v_flakes)), (qt_flying, .inl (cI, 8, .inl (upd v_flying (Int32.toNatClampNeg x3) (jmin (v_flakes (Int32.toNatClampNeg x3)) ((v_flying (Int32.toNatClampNeg x3)) + ((10 : Int32) * p2)))))), (qt_content, .inl (cI, 8, .inl v_content)), (qt_in, .inl (cI, 8, .inl v_in)), (qt, .inr (5, [.ref qt_water, .ref qt_flakes, .ref qt_flying, .ref qt_leaks, .ref qt_cloudy, .ref qt_content, .ref qt_in, .int v_there, .int v_music, .int (v_taxes + (v_content (Int32.toNatClampNeg x3))), .int v_hour])), (qt_water, .inl (cI, 8, .inl v_water))]) hS => ?_)
            refine lv_iinc (v := (x3 + (1 : Int32))) (lv' := [(3, .int (x3 + (1 : Int32))), (0, .ref qt), (1, .int p1), (2, .int p2)]) hx hb dX6_shake_66 hl (k := 3) rfl rfl (by decide) rfl (fun ls hl => ?_)
            refine lv_goto (tgt := 2) hx hb dX6_shake_69 (by decide) ?_
            exact ih2 (upd v_flying (Int32.toNatClampNeg x3) (jmin (v_flakes (Int32.toNatClampNeg x3)) ((v_flying (Int32.toNatClampNeg x3)) + ((10 : Int32) * p2)))) (v_taxes + (v_content (Int32.toNatClampNeg x3))) (x3 + (1 : Int32)) H locs ls (hP.sub [4, 5, 0, 1, 2, 3] rfl) (hD.sub [4, 5, 0, 1, 2, 3] (by decide) rfl) hS (lv_sub hl [1, 2, 3, 0] rfl) h
  have h := hf
  unfold f_X6_shake at h
  refine gw_start hP hD hS (fun H locs hP hD hS => ?_)
  refine lv_iconst (v := 0) hx hb dX6_shake_0 (by decide) ?_
  refine lv_istore_n (lv' := [(3, .int (0 : Int32)), (0, .ref qt), (1, .int p1), (2, .int p2)]) hx hb dX6_shake_1 rfl hl (by decide) rfl (fun ls hl => ?_)
  exact hL2 FU v_flying v_taxes (0 : Int32) H locs ls hP hD hS (lv_sub hl [1, 2, 3, 0] rfl) h
theorem hdV_X6_shake : yX6_shake.cls = RX6 ∧ yX6_shake.cls ≠ "java/lang/invoke/MethodHandle" ∧ yX6_shake.cls ≠ "java/lang/invoke/VarHandle" ∧ (parseMethodDescriptor yX6_shake.desc).map (fun d => d.parameters.length) = some 2 := by decide +kernel
def L_X6_drop_11 (p1 : Int32) : Nat → (Nat → Int32) → Int32 → Int32 → Option ((Nat → Int32) × Int32)
  | 0, _, _, _ => none
  | n + 1, v_in, v_there, x2 => (if (8 : Int32) ≤ x2 then (some (v_in, (v_there &&& (((1 : Int32) <<< (p1 &&& 31)) ^^^ (-1 : Int32))))) else (bd1 (f_X6_has v_there x2) (fun r19 => (if r19 = (0 : Int32) then ((L_X6_drop_11 p1 n) v_in v_there (x2 + (1 : Int32))) else (gin x2 8 (if (v_in (Int32.toNatClampNeg x2)) = p1 then (gin p1 8 (gin x2 8 ((L_X6_drop_11 p1 n) (upd v_in (Int32.toNatClampNeg x2) (v_in (Int32.toNatClampNeg p1))) v_there (x2 + (1 : Int32))))) else ((L_X6_drop_11 p1 n) v_in v_there (x2 + (1 : Int32)))))))))
def f_X6_drop (v_in : (Nat → Int32)) (v_there : Int32) (p1 : Int32) : Option ((Nat → Int32) × Int32) := (bd1 (f_X6_has v_there p1) (fun r2 => (if r2 = (0 : Int32) then (some (v_in, v_there)) else (L_X6_drop_11 p1 FU v_in v_there (0 : Int32)))))
abbrev rm_X6_drop : Room := { frames := 1, cells := 0, slots := 0, locals := 21 }
set_option maxHeartbeats 4000000 in
set_option maxRecDepth 100000 in
theorem C_X6_drop (l : Launch) (D : va_G) (cI cJ cZ : ClassId) (sz : Nat) (qt qt_water qt_flakes qt_flying qt_leaks qt_cloudy qt_content qt_in : Nat) (v_in : (Nat → Int32)) (v_there : Int32) (v_music : Int32) (v_taxes : Int32) (v_hour : Int32) (p1 : Int32) (w_in : (Nat → Int32)) (w_there : Int32) (hf : f_X6_drop v_in v_there p1 = some (w_in, w_there)) : Met l yX6_drop wsX6_drop rm_X6_drop (PR D cI cJ cZ [(qt, .inr (5, [.ref qt_water, .ref qt_flakes, .ref qt_flying, .ref qt_leaks, .ref qt_cloudy, .ref qt_content, .ref qt_in, .int v_there, .int v_music, .int v_taxes, .int v_hour])), (qt_in, .inl (cI, 8, .inl v_in))] sz [.ref qt, .int p1]) (QV D (va_A [(qt, .inr (5, [.ref qt_water, .ref qt_flakes, .ref qt_flying, .ref qt_leaks, .ref qt_cloudy, .ref qt_content, .ref qt_in, .int v_there, .int v_music, .int v_taxes, .int v_hour])), (qt_in, .inl (cI, 8, .inl v_in))] sz) [(qt, .inr (5, [.ref qt_water, .ref qt_flakes, .ref qt_flying, .ref qt_leaks, .ref qt_cloudy, .ref qt_content, .ref qt_in, .int w_there, .int v_music, .int v_taxes, .int v_hour])), (qt_in, .inl (cI, 8, .inl w_in))]) 0 0 (va_A [(qt, .inr (5, [.ref qt_water, .ref qt_flakes, .ref qt_flying, .ref qt_leaks, .ref qt_cloudy, .ref qt_content, .ref qt_in, .int v_there, .int v_music, .int v_taxes, .int v_hour])), (qt_in, .inl (cI, 8, .inl v_in))] sz) := by
  refine Met.ofW (cc := cX6_drop) (maxL := 3) (ret := none) (by decide) rfl ?_
  intro p e s m args below meth c s₁ B hml hv
  obtain ⟨hav, hsz, hP, hD0, hE⟩ := hv
  have hx := B.exec
  have hb := B.bytes
  have hr := B.returns
  have hts := atoms_spec (ws := wsX6_drop) B.pre
  have hown : s.vm.findClass RX6 = some m.cls := findClass_of_methodNamed B.named
  have hlocks := B.notSynchronized
  subst hsz
  have hD := hD0.self (sz := s.heap.size)
  generalize hAe : va_A [(qt, .inr (5, [.ref qt_water, .ref qt_flakes, .ref qt_flying, .ref qt_leaks, .ref qt_cloudy, .ref qt_content, .ref qt_in, .int v_there, .int v_music, .int v_taxes, .int v_hour])), (qt_in, .inl (cI, 8, .inl v_in))] s.heap.size = A at hD ⊢
  have hA : ∀ q : Nat, s.heap.size ≤ q → A q := fun q h => by rw [← hAe]; exact Or.inr h
  have hS : va_S A s.heap s.heap [] := va_S.rf
  have hl := lv_entry ([.ref qt, .int p1]) (n := 3) (Nat.le_of_ble_eq_true rfl)
  have hfr : entryFrame m args 3 = entryFrame m ([.ref qt, .int p1] : List Value).toArray 3 := by rw [hav]
  rw [hfr, lg_entry_eq]
  generalize (lg_sl ([.ref qt, .int p1]) ++ List.replicate (3 - (lg_sl ([.ref qt, .int p1])).length) Slot.unset).toArray = ls at hl ⊢
  have hl : lv_has ls 3 [(0, .ref qt), (1, .int p1)] := hl
  obtain ⟨QQ, hQQ⟩ : ∃ QQ, QQ = MQ below (QV D A [(qt, .inr (5, [.ref qt_water, .ref qt_flakes, .ref qt_flying, .ref qt_leaks, .ref qt_cloudy, .ref qt_content, .ref qt_in, .int w_there, .int v_music, .int v_taxes, .int v_hour])), (qt_in, .inl (cI, 8, .inl w_in))]) args s 0 0 A := ⟨_, rfl⟩
  show W p l e rm_X6_drop s m args below meth c s.heap [] 0 0 _ _
  rw [← hQQ]
  have hL11 : ∀ (n11 : Nat), ∀ (v_in : (Nat → Int32)) (v_there : Int32) (x2 : Int32) (H : Heap) (locs : List Loc) (ls : Array Slot), va_P D vwCl [(qt, .inr (5, [.ref qt_water, .ref qt_flakes, .ref qt_flying, .ref qt_leaks, .ref qt_cloudy, .ref qt_content, .ref qt_in, .int v_there, .int v_music, .int v_taxes, .int v_hour])), (qt_in, .inl (cI, 8, .inl v_in))] H → va_D A [(qt, .inr (5, [.ref qt_water, .ref qt_flakes, .ref qt_flying, .ref qt_leaks, .ref qt_cloudy, .ref qt_content, .ref qt_in, .int v_there, .int v_music, .int v_taxes, .int v_hour])), (qt_in, .inl (cI, 8, .inl v_in))] → va_S A s.heap H locs → lv_has ls 3 [(0, .ref qt), (1, .int p1), (2, .int x2)] → L_X6_drop_11 p1 n11 v_in v_there x2 = some (w_in, w_there) → W p l e rm_X6_drop s m args below meth c H locs 0 0 QQ (F0 m 11 ls []) := by
    intro n11
    induction n11 with
    | zero =>
      intro v_in v_there x2 H locs ls hP hD hS hl h
      have h : none = some (w_in, w_there) := h
      cases h
    | succ n11 ih11 =>
      intro v_in v_there x2 H locs ls hP hD hS hl h
      rw [L_X6_drop_11.eq_2] at h
      refine lv_iload_n hx hb dX6_drop_11 rfl (lv_at hl 2 rfl) ?_
      refine lv_bipush (v := 8) hx hb dX6_drop_12 (by decide) ?_
      refine lv_icmp_ge (tgt := 53) hx hb dX6_drop_14 (by decide) (fun hc => ?_) (fun hc => ?_)
      · have h := if_t hc h
        refine lv_aload_n hx hb dX6_drop_53 rfl (lv_at hl 0 rfl) ?_
        refine lv_dup hx hb dX6_drop_54 rfl ?_
        refine va_get (D := D) (ci := 5) (C := RX6) (T := TX6) (N := 11) hx hb hts (fun _ hw => (List.mem_cons_of_mem _ (List.mem_append_right _ hw))) hown hE.1 hP 0 rfl rfl 7 (by decide) (hts (.fieldLink RX6 39 "GlobeCrown$Shelf" "there" "I") (List.mem_cons_of_mem _ (List.mem_append_left _ (List.mem_of_getElem? (i := 1) rfl)))) (fun _ h9 => h9) rfl dX6_drop_55 ?_
        refine lv_iconst (v := 1) hx hb dX6_drop_58 (by decide) ?_
        refine lv_iload_n hx hb dX6_drop_59 rfl (lv_at hl 1 rfl) ?_
        refine lv_ishl hx hb dX6_drop_60 ?_
        refine lv_iconst (v := -1) hx hb dX6_drop_61 (by decide) ?_
        refine lv_ixor hx hb dX6_drop_62 ?_
        refine lv_iand hx hb dX6_drop_63 ?_
        refine va_put (D := D) (ci := 5) (v := .int (v_there &&& (((1 : Int32) <<< (p1 &&& 31)) ^^^ (-1 : Int32)))) (ty := .int) (C := RX6) (T := TX6) (N := 11) hx hb hts (fun _ hw => (List.mem_cons_of_mem _ (List.mem_append_right _ hw))) tyX6 tyX6_ok nmX6 hown hE.1 hP hD hS 0 rfl rfl 7 (by decide) (hts (.fieldLink RX6 39 "GlobeCrown$Shelf" "there" "I") (List.mem_cons_of_mem _ (List.mem_append_left _ (List.mem_of_getElem? (i := 1) rfl)))) (fun _ h9 => h9) rfl (tyX6_ok 7 (by decide)) rfl rfl (Nat.le_of_ble_eq_true rfl) dX6_drop_64 (fun H locs (hP : va_P D vwCl [(qt, .inr (5, [.ref qt_water, .ref qt_flakes, .ref qt_flying, .ref qt_leaks, .ref qt_cloudy, .ref qt_content, .ref qt_in, .int (v_there &&& (((1 : Int32) <<< (p1 &&& 31)) ^^^ (-1 : Int32))), .int v_music, .int v_taxes, .int v_hour])), (qt_in, .inl (cI, 8, .inl v_in))] H) (hD : va_D A [(qt, .inr (5, [.ref qt_water, .ref qt_flakes, .ref qt_flying, .ref qt_leaks, .ref qt_cloudy, .ref qt_content, .ref qt_in, .int (v_there &&& (((1 : Int32) <<< (p1 &&& 31)) ^^^ (-1 : Int32))), .int v_music, .int v_taxes, .int v_hour])), (qt_in, .inl (cI, 8, .inl v_in))]) hS => ?_)
        cases h
        rw [hQQ]
        exact gw_vret hx hb hr hlocks hP hD hS dX6_drop_67
      · have h := if_f hc h
        refine lv_aload_n hx hb dX6_drop_17 rfl (lv_at hl 0 rfl) ?_
        refine lv_iload_n hx hb dX6_drop_18 rfl (lv_at hl 2 rfl) ?_
        obtain ⟨r19, hc19, h⟩ := bd1_some h
        refine gw_ci (wr := [(qt_in, .inl (cI, 8, .inl v_in))]) (w2 := [(qt_in, .inl (cI, 8, .inl v_in)), (qt, .inr (5, [.ref qt_water, .ref qt_flakes, .ref qt_flying, .ref qt_leaks, .ref qt_cloudy, .ref qt_content, .ref qt_in, .int v_there, .int v_music, .int v_taxes, .int v_hour]))]) (gw_rV (n := 1) ⟨hx, hb, hml, hown, hts⟩ (C_X6_has l D cI cJ cZ H.size qt qt_water qt_flakes qt_flying qt_leaks qt_cloudy qt_content qt_in v_there v_music v_taxes v_hour x2 r19 hc19) gX6_drop_X6_has rfl rfl rfl hdV_X6_has ⟨Nat.le_of_ble_eq_true rfl, Nat.le_of_ble_eq_true rfl⟩ hE (hP.sub [0] rfl) (hD.sub [0] (by decide) rfl) 5 rfl 0 rfl rfl hl.1 (rest := []) rfl (Nat.le_of_ble_eq_true rfl) dX6_drop_19 ⟨Nat.zero_le _, Nat.zero_le _⟩) hP hD hS hA [0] [1] rfl rfl rfl (by decide) rfl (fun H locs hP hD hS => ?_)
        refine lv_if_eq (tgt := 47) hx hb dX6_drop_22 (by decide) (fun hc => ?_) (fun hc => ?_)
        · have h := if_t hc h
          refine lv_iinc (v := (x2 + (1 : Int32))) (lv' := [(2, .int (x2 + (1 : Int32))), (0, .ref qt), (1, .int p1)]) hx hb dX6_drop_47 hl (k := 2) rfl rfl (by decide) rfl (fun ls hl => ?_)
          refine lv_goto (tgt := 11) hx hb dX6_drop_50 (by decide) ?_
          exact ih11 v_in v_there (x2 + (1 : Int32)) H locs ls (hP.sub [1, 0] rfl) (hD.sub [1, 0] (by decide) rfl) hS (lv_sub hl [1, 2, 0] rfl) h
        · have h := if_f hc h
          refine lv_aload_n hx hb dX6_drop_25 rfl (lv_at hl 0 rfl) ?_
          refine va_get (D := D) (ci := 5) (C := RX6) (T := TX6) (N := 11) hx hb hts (fun _ hw => (List.mem_cons_of_mem _ (List.mem_append_right _ hw))) hown hE.1 hP 1 rfl rfl 6 (by decide) (hts (.fieldLink RX6 30 "GlobeCrown$Shelf" "in" "[I") (List.mem_cons_of_mem _ (List.mem_append_left _ (List.mem_of_getElem? (i := 0) rfl)))) (fun _ h9 => h9) rfl dX6_drop_26 ?_
          refine lv_iload_n hx hb dX6_drop_29 rfl (lv_at hl 2 rfl) ?_
          obtain ⟨hg, h⟩ := gin_some h
          refine va_iald hx hb hE.1 hP 0 0 rfl rfl hg dX6_drop_30 ?_
          refine lv_iload_n hx hb dX6_drop_31 rfl (lv_at hl 1 rfl) ?_
          refine lv_icmp_ne (tgt := 47) hx hb dX6_drop_32 (by decide) (fun hc => ?_) (fun hc => ?_)
          · have h := if_f hc h
            refine lv_iinc (v := (x2 + (1 : Int32))) (lv' := [(2, .int (x2 + (1 : Int32))), (0, .ref qt), (1, .int p1)]) hx hb dX6_drop_47 hl (k := 2) rfl rfl (by decide) rfl (fun ls hl => ?_)
            refine lv_goto (tgt := 11) hx hb dX6_drop_50 (by decide) ?_
            exact ih11 v_in v_there (x2 + (1 : Int32)) H locs ls (hP.sub [1, 0] rfl) (hD.sub [1, 0] (by decide) rfl) hS (lv_sub hl [1, 2, 0] rfl) h
          · have h := if_t hc h
            refine lv_aload_n hx hb dX6_drop_35 rfl (lv_at hl 0 rfl) ?_
            refine va_get (D := D) (ci := 5) (C := RX6) (T := TX6) (N := 11) hx hb hts (fun _ hw => (List.mem_cons_of_mem _ (List.mem_append_right _ hw))) hown hE.1 hP 1 rfl rfl 6 (by decide) (hts (.fieldLink RX6 30 "GlobeCrown$Shelf" "in" "[I") (List.mem_cons_of_mem _ (List.mem_append_left _ (List.mem_of_getElem? (i := 0) rfl)))) (fun _ h9 => h9) rfl dX6_drop_36 ?_
            refine lv_iload_n hx hb dX6_drop_39 rfl (lv_at hl 2 rfl) ?_
            refine lv_aload_n hx hb dX6_drop_40 rfl (lv_at hl 0 rfl) ?_
            refine va_get (D := D) (ci := 5) (C := RX6) (T := TX6) (N := 11) hx hb hts (fun _ hw => (List.mem_cons_of_mem _ (List.mem_append_right _ hw))) hown hE.1 hP 1 rfl rfl 6 (by decide) (hts (.fieldLink RX6 30 "GlobeCrown$Shelf" "in" "[I") (List.mem_cons_of_mem _ (List.mem_append_left _ (List.mem_of_getElem? (i := 0) rfl)))) (fun _ h9 => h9) rfl dX6_drop_41 ?_
            refine lv_iload_n hx hb dX6_drop_44 rfl (lv_at hl 1 rfl) ?_
            obtain ⟨hg, h⟩ := gin_some h
            refine va_iald hx hb hE.1 hP 0 0 rfl rfl hg dX6_drop_45 ?_
            obtain ⟨hg, h⟩ := gin_some h
            refine va_iast hx hb hE.1 hP hD hS 0 0 rfl rfl hg dX6_drop_46 (fun H locs (hP : va_P D vwCl [(qt_in, .inl (cI, 8, .inl (upd v_in (Int32.toNatClampNeg x2) (v_in (Int32.toNatClampNeg p1))))), (qt, .inr (5, [.ref qt_water, .ref qt_flakes, .ref qt_flying, .ref qt_leaks, .ref qt_cloudy, .ref qt_content, .ref qt_in, .int v_there, .int v_music, .int v_taxes, .int v_hour]))] H) (hD : va_D A [(qt_in, .inl (cI, 8, .inl (upd v_in (Int32.toNatClampNeg x2) (v_in (Int32.toNatClampNeg p1))))), (qt, .inr (5, [.ref qt_water, .ref qt_flakes, .ref qt_flying, .ref qt_leaks, .ref qt_cloudy, .ref qt_content, .ref qt_in, .int v_there, .int v_music, .int v_taxes, .int v_hour]))]) hS => ?_)
            refine lv_iinc (v := (x2 + (1 : Int32))) (lv' := [(2, .int (x2 + (1 : Int32))), (0, .ref qt), (1, .int p1)]) hx hb dX6_drop_47 hl (k := 2) rfl rfl (by decide) rfl (fun ls hl => ?_)
            refine lv_goto (tgt := 11) hx hb dX6_drop_50 (by decide) ?_
            exact ih11 (upd v_in (Int32.toNatClampNeg x2) (v_in (Int32.toNatClampNeg p1))) v_there (x2 + (1 : Int32)) H locs ls (hP.sub [1, 0] rfl) (hD.sub [1, 0] (by decide) rfl) hS (lv_sub hl [1, 2, 0] rfl) h
  have h := hf
  unfold f_X6_drop at h
  refine gw_start hP hD hS (fun H locs hP hD hS => ?_)
  refine lv_aload_n hx hb dX6_drop_0 rfl (lv_at hl 0 rfl) ?_
  refine lv_iload_n hx hb dX6_drop_1 rfl (lv_at hl 1 rfl) ?_
  obtain ⟨r2, hc2, h⟩ := bd1_some h
  refine gw_ci (wr := [(qt_in, .inl (cI, 8, .inl v_in))]) (w2 := [(qt_in, .inl (cI, 8, .inl v_in)), (qt, .inr (5, [.ref qt_water, .ref qt_flakes, .ref qt_flying, .ref qt_leaks, .ref qt_cloudy, .ref qt_content, .ref qt_in, .int v_there, .int v_music, .int v_taxes, .int v_hour]))]) (gw_rV (n := 1) ⟨hx, hb, hml, hown, hts⟩ (C_X6_has l D cI cJ cZ H.size qt qt_water qt_flakes qt_flying qt_leaks qt_cloudy qt_content qt_in v_there v_music v_taxes v_hour p1 r2 hc2) gX6_drop_X6_has rfl rfl rfl hdV_X6_has ⟨Nat.le_of_ble_eq_true rfl, Nat.le_of_ble_eq_true rfl⟩ hE (hP.sub [0] rfl) (hD.sub [0] (by decide) rfl) 5 rfl 0 rfl rfl hl.1 (rest := []) rfl (Nat.le_of_ble_eq_true rfl) dX6_drop_2 ⟨Nat.zero_le _, Nat.zero_le _⟩) hP hD hS hA [0] [1] rfl rfl rfl (by decide) rfl (fun H locs hP hD hS => ?_)
  refine lv_if_ne (tgt := 9) hx hb dX6_drop_5 (by decide) (fun hc => ?_) (fun hc => ?_)
  · have h := if_f hc h
    refine lv_iconst (v := 0) hx hb dX6_drop_9 (by decide) ?_
    refine lv_istore_n (lv' := [(2, .int (0 : Int32)), (0, .ref qt), (1, .int p1)]) hx hb dX6_drop_10 rfl hl (by decide) rfl (fun ls hl => ?_)
    exact hL11 FU v_in v_there (0 : Int32) H locs ls (hP.sub [1, 0] rfl) (hD.sub [1, 0] (by decide) rfl) hS (lv_sub hl [1, 2, 0] rfl) h
  · have h := if_t hc h
    cases h
    rw [hQQ]
    exact gw_vret hx hb hr hlocks (hP.sub [1, 0] rfl) (hD.sub [1, 0] (by decide) rfl) hS dX6_drop_8
theorem hdV_X6_drop : yX6_drop.cls = RX6 ∧ yX6_drop.cls ≠ "java/lang/invoke/MethodHandle" ∧ yX6_drop.cls ≠ "java/lang/invoke/VarHandle" ∧ (parseMethodDescriptor yX6_drop.desc).map (fun d => d.parameters.length) = some 1 := by decide +kernel
def B_X6_passHour_79 (v_leaks : (Nat → Int32)) (v_there : Int32) (v_music : Int32) (rec2 : (Nat → Int32) → (Nat → Int32) → (Nat → Int32) → Int32 → Int32 → Option ((Nat → Int32) × (Nat → Int32) × (Nat → Int32) × Int32)) (v_water : (Nat → Int32)) (v_flying : (Nat → Int32)) (v_content : (Nat → Int32)) (v_hour : Int32) (x1 : Int32) : Option ((Nat → Int32) × (Nat → Int32) × (Nat → Int32) × Int32) := (gin x1 8 (gin x1 8 (gin x1 8 (gin x1 8 (gin x1 8 (rec2 (upd v_water (Int32.toNatClampNeg x1) (jmax (0 : Int32) ((v_water (Int32.toNatClampNeg x1)) - (v_leaks (Int32.toNatClampNeg x1))))) (upd v_flying (Int32.toNatClampNeg x1) (jmax (0 : Int32) ((v_flying (Int32.toNatClampNeg x1)) - (7 : Int32)))) v_content v_hour (x1 + (1 : Int32))))))))
def L_X6_passHour_2 (v_leaks : (Nat → Int32)) (v_there : Int32) (v_music : Int32) : Nat → (Nat → Int32) → (Nat → Int32) → (Nat → Int32) → Int32 → Int32 → Option ((Nat → Int32) × (Nat → Int32) × (Nat → Int32) × Int32)
  | 0, _, _, _, _, _ => none
  | n + 1, v_water, v_flying, v_content, v_hour, x1 => (if (8 : Int32) ≤ x1 then (some (v_water, v_flying, v_content, (v_hour + (1 : Int32)))) else (bd1 (f_X6_has v_there x1) (fun r10 => (if r10 = (0 : Int32) then ((L_X6_passHour_2 v_leaks v_there v_music n) v_water v_flying v_content v_hour (x1 + (1 : Int32))) else (gin x1 8 (if (v_flying (Int32.toNatClampNeg x1)) ≤ (0 : Int32) then (if ((v_music >>> (x1 &&& 31)) &&& (1 : Int32)) = (0 : Int32) then (gin x1 8 (gin x1 8 (B_X6_passHour_79 v_leaks v_there v_music (L_X6_passHour_2 v_leaks v_there v_music n) v_water v_flying (upd v_content (Int32.toNatClampNeg x1) (jmax (0 : Int32) ((v_content (Int32.toNatClampNeg x1)) - (1 : Int32)))) v_hour x1))) else (B_X6_passHour_79 v_leaks v_there v_music (L_X6_passHour_2 v_leaks v_there v_music n) v_water v_flying v_content v_hour x1)) else (gin x1 8 (gin x1 8 (B_X6_passHour_79 v_leaks v_there v_music (L_X6_passHour_2 v_leaks v_there v_music n) v_water v_flying (upd v_content (Int32.toNatClampNeg x1) (jmin (9 : Int32) ((v_content (Int32.toNatClampNeg x1)) + (1 : Int32)))) v_hour x1)))))))))
def f_X6_passHour (v_water : (Nat → Int32)) (v_flying : (Nat → Int32)) (v_leaks : (Nat → Int32)) (v_content : (Nat → Int32)) (v_there : Int32) (v_music : Int32) (v_hour : Int32) : Option ((Nat → Int32) × (Nat → Int32) × (Nat → Int32) × Int32) := (L_X6_passHour_2 v_leaks v_there v_music FU v_water v_flying v_content v_hour (0 : Int32))
abbrev rm_X6_passHour : Room := { frames := 1, cells := 0, slots := 0, locals := 26 }
set_option maxHeartbeats 4000000 in
set_option maxRecDepth 100000 in
theorem C_X6_passHour (l : Launch) (D : va_G) (cI cJ cZ : ClassId) (sz : Nat) (qt qt_water qt_flakes qt_flying qt_leaks qt_cloudy qt_content qt_in : Nat) (v_water : (Nat → Int32)) (v_flying : (Nat → Int32)) (v_leaks : (Nat → Int32)) (v_content : (Nat → Int32)) (v_there : Int32) (v_music : Int32) (v_taxes : Int32) (v_hour : Int32) (w_water : (Nat → Int32)) (w_flying : (Nat → Int32)) (w_content : (Nat → Int32)) (w_hour : Int32) (hf : f_X6_passHour v_water v_flying v_leaks v_content v_there v_music v_hour = some (w_water, w_flying, w_content, w_hour)) : Met l yX6_passHour wsX6_passHour rm_X6_passHour (PR D cI cJ cZ [(qt, .inr (5, [.ref qt_water, .ref qt_flakes, .ref qt_flying, .ref qt_leaks, .ref qt_cloudy, .ref qt_content, .ref qt_in, .int v_there, .int v_music, .int v_taxes, .int v_hour])), (qt_water, .inl (cI, 8, .inl v_water)), (qt_flying, .inl (cI, 8, .inl v_flying)), (qt_leaks, .inl (cI, 8, .inl v_leaks)), (qt_content, .inl (cI, 8, .inl v_content))] sz [.ref qt]) (QV D (va_A [(qt, .inr (5, [.ref qt_water, .ref qt_flakes, .ref qt_flying, .ref qt_leaks, .ref qt_cloudy, .ref qt_content, .ref qt_in, .int v_there, .int v_music, .int v_taxes, .int v_hour])), (qt_water, .inl (cI, 8, .inl v_water)), (qt_flying, .inl (cI, 8, .inl v_flying)), (qt_leaks, .inl (cI, 8, .inl v_leaks)), (qt_content, .inl (cI, 8, .inl v_content))] sz) [(qt, .inr (5, [.ref qt_water, .ref qt_flakes, .ref qt_flying, .ref qt_leaks, .ref qt_cloudy, .ref qt_content, .ref qt_in, .int v_there, .int v_music, .int v_taxes, .int w_hour])), (qt_water, .inl (cI, 8, .inl w_water)), (qt_flying, .inl (cI, 8, .inl w_flying)), (qt_leaks, .inl (cI, 8, .inl v_leaks)), (qt_content, .inl (cI, 8, .inl w_content))]) 0 0 (va_A [(qt, .inr (5, [.ref qt_water, .ref qt_flakes, .ref qt_flying, .ref qt_leaks, .ref qt_cloudy, .ref qt_content, .ref qt_in, .int v_there, .int v_music, .int v_taxes, .int v_hour])), (qt_water, .inl (cI, 8, .inl v_water)), (qt_flying, .inl (cI, 8, .inl v_flying)), (qt_leaks, .inl (cI, 8, .inl v_leaks)), (qt_content, .inl (cI, 8, .inl v_content))] sz) := by
  refine Met.ofW (cc := cX6_passHour) (maxL := 2) (ret := none) (by decide) rfl ?_
  intro p e s m args below meth c s₁ B hml hv
  obtain ⟨hav, hsz, hP, hD0, hE⟩ := hv
  have hx := B.exec
  have hb := B.bytes
  have hr := B.returns
  have hts := atoms_spec (ws := wsX6_passHour) B.pre
  have hown : s.vm.findClass RX6 = some m.cls := findClass_of_methodNamed B.named
  have hlocks := B.notSynchronized
  subst hsz
  have hD := hD0.self (sz := s.heap.size)
  generalize hAe : va_A [(qt, .inr (5, [.ref qt_water, .ref qt_flakes, .ref qt_flying, .ref qt_leaks, .ref qt_cloudy, .ref qt_content, .ref qt_in, .int v_there, .int v_music, .int v_taxes, .int v_hour])), (qt_water, .inl (cI, 8, .inl v_water)), (qt_flying, .inl (cI, 8, .inl v_flying)), (qt_leaks, .inl (cI, 8, .inl v_leaks)), (qt_content, .inl (cI, 8, .inl v_content))] s.heap.size = A at hD ⊢
  have hA : ∀ q : Nat, s.heap.size ≤ q → A q := fun q h => by rw [← hAe]; exact Or.inr h
  have hS : va_S A s.heap s.heap [] := va_S.rf
  have hl := lv_entry ([.ref qt]) (n := 2) (Nat.le_of_ble_eq_true rfl)
  have hfr : entryFrame m args 2 = entryFrame m ([.ref qt] : List Value).toArray 2 := by rw [hav]
  rw [hfr, lg_entry_eq]
  generalize (lg_sl ([.ref qt]) ++ List.replicate (2 - (lg_sl ([.ref qt])).length) Slot.unset).toArray = ls at hl ⊢
  have hl : lv_has ls 2 [(0, .ref qt)] := hl
  obtain ⟨QQ, hQQ⟩ : ∃ QQ, QQ = MQ below (QV D A [(qt, .inr (5, [.ref qt_water, .ref qt_flakes, .ref qt_flying, .ref qt_leaks, .ref qt_cloudy, .ref qt_content, .ref qt_in, .int v_there, .int v_music, .int v_taxes, .int w_hour])), (qt_water, .inl (cI, 8, .inl w_water)), (qt_flying, .inl (cI, 8, .inl w_flying)), (qt_leaks, .inl (cI, 8, .inl v_leaks)), (qt_content, .inl (cI, 8, .inl w_content))]) args s 0 0 A := ⟨_, rfl⟩
  show W p l e rm_X6_passHour s m args below meth c s.heap [] 0 0 _ _
  rw [← hQQ]
  have hL2 : ∀ (n2 : Nat), ∀ (v_water : (Nat → Int32)) (v_flying : (Nat → Int32)) (v_content : (Nat → Int32)) (v_hour : Int32) (x1 : Int32) (H : Heap) (locs : List Loc) (ls : Array Slot), va_P D vwCl [(qt, .inr (5, [.ref qt_water, .ref qt_flakes, .ref qt_flying, .ref qt_leaks, .ref qt_cloudy, .ref qt_content, .ref qt_in, .int v_there, .int v_music, .int v_taxes, .int v_hour])), (qt_water, .inl (cI, 8, .inl v_water)), (qt_flying, .inl (cI, 8, .inl v_flying)), (qt_leaks, .inl (cI, 8, .inl v_leaks)), (qt_content, .inl (cI, 8, .inl v_content))] H → va_D A [(qt, .inr (5, [.ref qt_water, .ref qt_flakes, .ref qt_flying, .ref qt_leaks, .ref qt_cloudy, .ref qt_content, .ref qt_in, .int v_there, .int v_music, .int v_taxes, .int v_hour])), (qt_water, .inl (cI, 8, .inl v_water)), (qt_flying, .inl (cI, 8, .inl v_flying)), (qt_leaks, .inl (cI, 8, .inl v_leaks)), (qt_content, .inl (cI, 8, .inl v_content))] → va_S A s.heap H locs → lv_has ls 2 [(0, .ref qt), (1, .int x1)] → L_X6_passHour_2 v_leaks v_there v_music n2 v_water v_flying v_content v_hour x1 = some (w_water, w_flying, w_content, w_hour) → W p l e rm_X6_passHour s m args below meth c H locs 0 0 QQ (F0 m 2 ls []) := by
    intro n2
    induction n2 with
    | zero =>
      intro v_water v_flying v_content v_hour x1 H locs ls hP hD hS hl h
      have h : none = some (w_water, w_flying, w_content, w_hour) := h
      cases h
    | succ n2 ih2 =>
      have hB79 : ∀ (v_water : (Nat → Int32)) (v_flying : (Nat → Int32)) (v_content : (Nat → Int32)) (v_hour : Int32) (x1 : Int32) (H : Heap) (locs : List Loc) (ls : Array Slot), va_P D vwCl [(qt, .inr (5, [.ref qt_water, .ref qt_flakes, .ref qt_flying, .ref qt_leaks, .ref qt_cloudy, .ref qt_content, .ref qt_in, .int v_there, .int v_music, .int v_taxes, .int v_hour])), (qt_water, .inl (cI, 8, .inl v_water)), (qt_flying, .inl (cI, 8, .inl v_flying)), (qt_leaks, .inl (cI, 8, .inl v_leaks)), (qt_content, .inl (cI, 8, .inl v_content))] H → va_D A [(qt, .inr (5, [.ref qt_water, .ref qt_flakes, .ref qt_flying, .ref qt_leaks, .ref qt_cloudy, .ref qt_content, .ref qt_in, .int v_there, .int v_music, .int v_taxes, .int v_hour])), (qt_water, .inl (cI, 8, .inl v_water)), (qt_flying, .inl (cI, 8, .inl v_flying)), (qt_leaks, .inl (cI, 8, .inl v_leaks)), (qt_content, .inl (cI, 8, .inl v_content))] → va_S A s.heap H locs → lv_has ls 2 [(0, .ref qt), (1, .int x1)] → B_X6_passHour_79 v_leaks v_there v_music (L_X6_passHour_2 v_leaks v_there v_music n2) v_water v_flying v_content v_hour x1 = some (w_water, w_flying, w_content, w_hour) → W p l e rm_X6_passHour s m args below meth c H locs 0 0 QQ (F0 m 79 ls []) := by
        intro v_water v_flying v_content v_hour x1 H locs ls hP hD hS hl h
        unfold B_X6_passHour_79 at h
        refine lv_aload_n hx hb dX6_passHour_79 rfl (lv_at hl 0 rfl) ?_
        refine va_get (D := D) (ci := 5) (C := RX6) (T := TX6) (N := 11) hx hb hts (fun _ hw => (List.mem_cons_of_mem _ (List.mem_append_right _ hw))) hown hE.1 hP 0 rfl rfl 2 (by decide) (hts (.fieldLink RX6 18 "GlobeCrown$Shelf" "flying" "[I") (List.mem_cons_of_mem _ (List.mem_append_left _ (List.mem_of_getElem? (i := 0) rfl)))) (fun _ h9 => h9) rfl dX6_passHour_80 ?_
        refine lv_iload_n hx hb dX6_passHour_83 rfl (lv_at hl 1 rfl) ?_
        refine lv_iconst (v := 0) hx hb dX6_passHour_84 (by decide) ?_
        refine lv_aload_n hx hb dX6_passHour_85 rfl (lv_at hl 0 rfl) ?_
        refine va_get (D := D) (ci := 5) (C := RX6) (T := TX6) (N := 11) hx hb hts (fun _ hw => (List.mem_cons_of_mem _ (List.mem_append_right _ hw))) hown hE.1 hP 0 rfl rfl 2 (by decide) (hts (.fieldLink RX6 18 "GlobeCrown$Shelf" "flying" "[I") (List.mem_cons_of_mem _ (List.mem_append_left _ (List.mem_of_getElem? (i := 0) rfl)))) (fun _ h9 => h9) rfl dX6_passHour_86 ?_
        refine lv_iload_n hx hb dX6_passHour_89 rfl (lv_at hl 1 rfl) ?_
        obtain ⟨hg, h⟩ := gin_some h
        refine va_iald hx hb hE.1 hP 2 0 rfl rfl hg dX6_passHour_90 ?_
        refine lv_bipush (v := 7) hx hb dX6_passHour_91 (by decide) ?_
        refine lv_isub hx hb dX6_passHour_93 ?_
        refine gw_max hx hb (hml.trans hl.1.symm) hown (hts (.methodLink RX6 83 Lib.Math.max.name) (List.mem_cons_of_mem _ (List.mem_append_left _ (List.mem_of_getElem? (i := 7) rfl)))) (hts (.static Lib.Math.max.name) (List.mem_cons_of_mem _ (List.mem_append_left _ (List.mem_of_getElem? (i := 8) rfl)))) (hts (.initialized "java/lang/Math") (List.mem_cons_of_mem _ (List.mem_append_left _ (List.mem_of_getElem? (i := 4) rfl)))) (hts (.code Lib.Math.max.name Lib.Math.max.code 2 (some .int)) (List.mem_cons_of_mem _ (List.mem_append_left _ (List.mem_of_getElem? (i := 9) rfl)))) (Nat.le_of_ble_eq_true rfl) (Nat.le_of_ble_eq_true rfl) (Nat.zero_le _) (Nat.zero_le _) dX6_passHour_94 ?_
        obtain ⟨hg, h⟩ := gin_some h
        refine va_iast hx hb hE.1 hP hD hS 2 0 rfl rfl hg dX6_passHour_97 (fun H locs (hP : va_P D vwCl [(qt, .inr (5, [.ref qt_water, .ref qt_flakes, .ref qt_flying, .ref qt_leaks, .ref qt_cloudy, .ref qt_content, .ref qt_in, .int v_there, .int v_music, .int v_taxes, .int v_hour])), (qt_water, .inl (cI, 8, .inl v_water)), (qt_flying, .inl (cI, 8, .inl (upd v_flying (Int32.toNatClampNeg x1) (jmax (0 : Int32) ((v_flying (Int32.toNatClampNeg x1)) - (7 : Int32)))))), (qt_leaks, .inl (cI, 8, .inl v_leaks)), (qt_content, .inl (cI, 8, .inl v_content))] H) (hD : va_D A [(qt, .inr (5, [.ref qt_water, .ref qt_flakes, .ref qt_flying, .ref qt_leaks, .ref qt_cloudy, .ref qt_content, .ref qt_in, .int v_there, .int v_music, .int v_taxes, .int v_hour])), (qt_water, .inl (cI, 8, .inl v_water)), (qt_flying, .inl (cI, 8, .inl (upd v_flying (Int32.toNatClampNeg x1) (jmax (0 : Int32) ((v_flying (Int32.toNatClampNeg x1)) - (7 : Int32)))))), (qt_leaks, .inl (cI, 8, .inl v_leaks)), (qt_content, .inl (cI, 8, .inl v_content))]) hS => ?_)
        refine lv_aload_n hx hb dX6_passHour_98 rfl (lv_at hl 0 rfl) ?_
        refine va_get (D := D) (ci := 5) (C := RX6) (T := TX6) (N := 11) hx hb hts (fun _ hw => (List.mem_cons_of_mem _ (List.mem_append_right _ hw))) hown hE.1 hP 0 rfl rfl 0 (by decide) (hts (.fieldLink RX6 9 "GlobeCrown$Shelf" "water" "[I") (List.mem_cons_of_mem _ (List.mem_append_left _ (List.mem_of_getElem? (i := 10) rfl)))) (fun _ h9 => h9) rfl dX6_passHour_99 ?_
        refine lv_iload_n hx hb dX6_passHour_102 rfl (lv_at hl 1 rfl) ?_
        refine lv_iconst (v := 0) hx hb dX6_passHour_103 (by decide) ?_
        refine lv_aload_n hx hb dX6_passHour_104 rfl (lv_at hl 0 rfl) ?_
        refine va_get (D := D) (ci := 5) (C := RX6) (T := TX6) (N := 11) hx hb hts (fun _ hw => (List.mem_cons_of_mem _ (List.mem_append_right _ hw))) hown hE.1 hP 0 rfl rfl 0 (by decide) (hts (.fieldLink RX6 9 "GlobeCrown$Shelf" "water" "[I") (List.mem_cons_of_mem _ (List.mem_append_left _ (List.mem_of_getElem? (i := 10) rfl)))) (fun _ h9 => h9) rfl dX6_passHour_105 ?_
        refine lv_iload_n hx hb dX6_passHour_108 rfl (lv_at hl 1 rfl) ?_
        obtain ⟨hg, h⟩ := gin_some h
        refine va_iald hx hb hE.1 hP 1 0 rfl rfl hg dX6_passHour_109 ?_
        refine lv_aload_n hx hb dX6_passHour_110 rfl (lv_at hl 0 rfl) ?_
        refine va_get (D := D) (ci := 5) (C := RX6) (T := TX6) (N := 11) hx hb hts (fun _ hw => (List.mem_cons_of_mem _ (List.mem_append_right _ hw))) hown hE.1 hP 0 rfl rfl 3 (by decide) (hts (.fieldLink RX6 21 "GlobeCrown$Shelf" "leaks" "[I") (List.mem_cons_of_mem _ (List.mem_append_left _ (List.mem_of_getElem? (i := 11) rfl)))) (fun _ h9 => h9) rfl dX6_passHour_111 ?_
        refine lv_iload_n hx hb dX6_passHour_114 rfl (lv_at hl 1 rfl) ?_
        obtain ⟨hg, h⟩ := gin_some h
        refine va_iald hx hb hE.1 hP 3 0 rfl rfl hg dX6_passHour_115 ?_
        refine lv_isub hx hb dX6_passHour_116 ?_
        refine gw_max hx hb (hml.trans hl.1.symm) hown (hts (.methodLink RX6 83 Lib.Math.max.name) (List.mem_cons_of_mem _ (List.mem_append_left _ (List.mem_of_getElem? (i := 7) rfl)))) (hts (.static Lib.Math.max.name) (List.mem_cons_of_mem _ (List.mem_append_left _ (List.mem_of_getElem? (i := 8) rfl)))) (hts (.initialized "java/lang/Math") (List.mem_cons_of_mem _ (List.mem_append_left _ (List.mem_of_getElem? (i := 4) rfl)))) (hts (.code Lib.Math.max.name Lib.Math.max.code 2 (some .int)) (List.mem_cons_of_mem _ (List.mem_append_left _ (List.mem_of_getElem? (i := 9) rfl)))) (Nat.le_of_ble_eq_true rfl) (Nat.le_of_ble_eq_true rfl) (Nat.zero_le _) (Nat.zero_le _) dX6_passHour_117 ?_
        obtain ⟨hg, h⟩ := gin_some h
        refine va_iast hx hb hE.1 hP hD hS 1 0 rfl rfl hg dX6_passHour_120 (fun H locs (hP : va_P D vwCl [(qt, .inr (5, [.ref qt_water, .ref qt_flakes, .ref qt_flying, .ref qt_leaks, .ref qt_cloudy, .ref qt_content, .ref qt_in, .int v_there, .int v_music, .int v_taxes, .int v_hour])), (qt_water, .inl (cI, 8, .inl (upd v_water (Int32.toNatClampNeg x1) (jmax (0 : Int32) ((v_water (Int32.toNatClampNeg x1)) - (v_leaks (Int32.toNatClampNeg x1))))))), (qt_flying, .inl (cI, 8, .inl (upd v_flying (Int32.toNatClampNeg x1) (jmax (0 : Int32) ((v_flying (Int32.toNatClampNeg x1)) - (7 : Int32)))))), (qt_leaks, .inl (cI, 8, .inl v_leaks)), (qt_content, .inl (cI, 8, .inl v_content))] H) (hD : va_D A [(qt, .inr (5, [.ref qt_water, .ref qt_flakes, .ref qt_flying, .ref qt_leaks, .ref qt_cloudy, .ref qt_content, .ref qt_in, .int v_there, .int v_music, .int v_taxes, .int v_hour])), (qt_water, .inl (cI, 8, .inl (upd v_water (Int32.toNatClampNeg x1) (jmax (0 : Int32) ((v_water (Int32.toNatClampNeg x1)) - (v_leaks (Int32.toNatClampNeg x1))))))), (qt_flying, .inl (cI, 8, .inl (upd v_flying (Int32.toNatClampNeg x1) (jmax (0 : Int32) ((v_flying (Int32.toNatClampNeg x1)) - (7 : Int32)))))), (qt_leaks, .inl (cI, 8, .inl v_leaks)), (qt_content, .inl (cI, 8, .inl v_content))]) hS => ?_)
        refine lv_iinc (v := (x1 + (1 : Int32))) (lv' := [(1, .int (x1 + (1 : Int32))), (0, .ref qt)]) hx hb dX6_passHour_121 hl (k := 1) rfl rfl (by decide) rfl (fun ls hl => ?_)
        refine lv_goto (tgt := 2) hx hb dX6_passHour_124 (by decide) ?_
        exact ih2 (upd v_water (Int32.toNatClampNeg x1) (jmax (0 : Int32) ((v_water (Int32.toNatClampNeg x1)) - (v_leaks (Int32.toNatClampNeg x1))))) (upd v_flying (Int32.toNatClampNeg x1) (jmax (0 : Int32) ((v_flying (Int32.toNatClampNeg x1)) - (7 : Int32)))) v_content v_hour (x1 + (1 : Int32)) H locs ls hP hD hS (lv_sub hl [1, 0] rfl) h
      intro v_water v_flying v_content v_hour x1 H locs ls hP hD hS hl h
      rw [L_X6_passHour_2.eq_2] at h
      refine lv_iload_n hx hb dX6_passHour_2 rfl (lv_at hl 1 rfl) ?_
      refine lv_bipush (v := 8) hx hb dX6_passHour_3 (by decide) ?_
      refine lv_icmp_ge (tgt := 127) hx hb dX6_passHour_5 (by decide) (fun hc => ?_) (fun hc => ?_)
      · have h := if_t hc h
        refine lv_aload_n hx hb dX6_passHour_127 rfl (lv_at hl 0 rfl) ?_
        refine lv_dup hx hb dX6_passHour_128 rfl ?_
        refine va_get (D := D) (ci := 5) (C := RX6) (T := TX6) (N := 11) hx hb hts (fun _ hw => (List.mem_cons_of_mem _ (List.mem_append_right _ hw))) hown hE.1 hP 0 rfl rfl 10 (by decide) (hts (.fieldLink RX6 49 "GlobeCrown$Shelf" "hour" "I") (List.mem_cons_of_mem _ (List.mem_append_left _ (List.mem_of_getElem? (i := 12) rfl)))) (fun _ h9 => h9) rfl dX6_passHour_129 ?_
        refine lv_iconst (v := 1) hx hb dX6_passHour_132 (by decide) ?_
        refine lv_iadd hx hb dX6_passHour_133 ?_
        refine va_put (D := D) (ci := 5) (v := .int (v_hour + (1 : Int32))) (ty := .int) (C := RX6) (T := TX6) (N := 11) hx hb hts (fun _ hw => (List.mem_cons_of_mem _ (List.mem_append_right _ hw))) tyX6 tyX6_ok nmX6 hown hE.1 hP hD hS 0 rfl rfl 10 (by decide) (hts (.fieldLink RX6 49 "GlobeCrown$Shelf" "hour" "I") (List.mem_cons_of_mem _ (List.mem_append_left _ (List.mem_of_getElem? (i := 12) rfl)))) (fun _ h9 => h9) rfl (tyX6_ok 10 (by decide)) rfl rfl (Nat.le_of_ble_eq_true rfl) dX6_passHour_134 (fun H locs (hP : va_P D vwCl [(qt, .inr (5, [.ref qt_water, .ref qt_flakes, .ref qt_flying, .ref qt_leaks, .ref qt_cloudy, .ref qt_content, .ref qt_in, .int v_there, .int v_music, .int v_taxes, .int (v_hour + (1 : Int32))])), (qt_water, .inl (cI, 8, .inl v_water)), (qt_flying, .inl (cI, 8, .inl v_flying)), (qt_leaks, .inl (cI, 8, .inl v_leaks)), (qt_content, .inl (cI, 8, .inl v_content))] H) (hD : va_D A [(qt, .inr (5, [.ref qt_water, .ref qt_flakes, .ref qt_flying, .ref qt_leaks, .ref qt_cloudy, .ref qt_content, .ref qt_in, .int v_there, .int v_music, .int v_taxes, .int (v_hour + (1 : Int32))])), (qt_water, .inl (cI, 8, .inl v_water)), (qt_flying, .inl (cI, 8, .inl v_flying)), (qt_leaks, .inl (cI, 8, .inl v_leaks)), (qt_content, .inl (cI, 8, .inl v_content))]) hS => ?_)
        cases h
        rw [hQQ]
        exact gw_vret hx hb hr hlocks hP hD hS dX6_passHour_137
      · have h := if_f hc h
        refine lv_aload_n hx hb dX6_passHour_8 rfl (lv_at hl 0 rfl) ?_
        refine lv_iload_n hx hb dX6_passHour_9 rfl (lv_at hl 1 rfl) ?_
        obtain ⟨r10, hc10, h⟩ := bd1_some h
        refine gw_ci (wr := [(qt_water, .inl (cI, 8, .inl v_water)), (qt_flying, .inl (cI, 8, .inl v_flying)), (qt_leaks, .inl (cI, 8, .inl v_leaks)), (qt_content, .inl (cI, 8, .inl v_content))]) (w2 := [(qt_water, .inl (cI, 8, .inl v_water)), (qt_flying, .inl (cI, 8, .inl v_flying)), (qt_leaks, .inl (cI, 8, .inl v_leaks)), (qt_content, .inl (cI, 8, .inl v_content)), (qt, .inr (5, [.ref qt_water, .ref qt_flakes, .ref qt_flying, .ref qt_leaks, .ref qt_cloudy, .ref qt_content, .ref qt_in, .int v_there, .int v_music, .int v_taxes, .int v_hour]))]) (gw_rV (n := 1) ⟨hx, hb, hml, hown, hts⟩ (C_X6_has l D cI cJ cZ H.size qt qt_water qt_flakes qt_flying qt_leaks qt_cloudy qt_content qt_in v_there v_music v_taxes v_hour x1 r10 hc10) gX6_passHour_X6_has rfl rfl rfl hdV_X6_has ⟨Nat.le_of_ble_eq_true rfl, Nat.le_of_ble_eq_true rfl⟩ hE (hP.sub [0] rfl) (hD.sub [0] (by decide) rfl) 5 rfl 0 rfl rfl hl.1 (rest := []) rfl (Nat.le_of_ble_eq_true rfl) dX6_passHour_10 ⟨Nat.zero_le _, Nat.zero_le _⟩) hP hD hS hA [0] [1, 2, 3, 4] rfl rfl rfl (by decide) rfl (fun H locs hP hD hS => ?_)
        refine lv_if_ne (tgt := 19) hx hb dX6_passHour_13 (by decide) (fun hc => ?_) (fun hc => ?_)
        · have h := if_f hc h
          refine lv_aload_n hx hb dX6_passHour_19 rfl (lv_at hl 0 rfl) ?_
          refine va_get (D := D) (ci := 5) (C := RX6) (T := TX6) (N := 11) hx hb hts (fun _ hw => (List.mem_cons_of_mem _ (List.mem_append_right _ hw))) hown hE.1 hP 4 rfl rfl 2 (by decide) (hts (.fieldLink RX6 18 "GlobeCrown$Shelf" "flying" "[I") (List.mem_cons_of_mem _ (List.mem_append_left _ (List.mem_of_getElem? (i := 0) rfl)))) (fun _ h9 => h9) rfl dX6_passHour_20 ?_
          refine lv_iload_n hx hb dX6_passHour_23 rfl (lv_at hl 1 rfl) ?_
          obtain ⟨hg, h⟩ := gin_some h
          refine va_iald hx hb hE.1 hP 1 0 rfl rfl hg dX6_passHour_24 ?_
          refine lv_if_le (tgt := 50) hx hb dX6_passHour_25 (by decide) (fun hc => ?_) (fun hc => ?_)
          · have h := if_t hc h
            refine lv_aload_n hx hb dX6_passHour_50 rfl (lv_at hl 0 rfl) ?_
            refine va_get (D := D) (ci := 5) (C := RX6) (T := TX6) (N := 11) hx hb hts (fun _ hw => (List.mem_cons_of_mem _ (List.mem_append_right _ hw))) hown hE.1 hP 4 rfl rfl 8 (by decide) (hts (.fieldLink RX6 43 "GlobeCrown$Shelf" "music" "I") (List.mem_cons_of_mem _ (List.mem_append_left _ (List.mem_of_getElem? (i := 6) rfl)))) (fun _ h9 => h9) rfl dX6_passHour_51 ?_
            refine lv_iload_n hx hb dX6_passHour_54 rfl (lv_at hl 1 rfl) ?_
            refine lv_ishr hx hb dX6_passHour_55 ?_
            refine lv_iconst (v := 1) hx hb dX6_passHour_56 (by decide) ?_
            refine lv_iand hx hb dX6_passHour_57 ?_
            refine lv_if_ne (tgt := 79) hx hb dX6_passHour_58 (by decide) (fun hc => ?_) (fun hc => ?_)
            · have h := if_f hc h
              exact hB79 v_water v_flying v_content v_hour x1 H locs ls (hP.sub [4, 0, 1, 2, 3] rfl) (hD.sub [4, 0, 1, 2, 3] (by decide) rfl) hS hl h
            · have h := if_t hc h
              refine lv_aload_n hx hb dX6_passHour_61 rfl (lv_at hl 0 rfl) ?_
              refine va_get (D := D) (ci := 5) (C := RX6) (T := TX6) (N := 11) hx hb hts (fun _ hw => (List.mem_cons_of_mem _ (List.mem_append_right _ hw))) hown hE.1 hP 4 rfl rfl 5 (by decide) (hts (.fieldLink RX6 27 "GlobeCrown$Shelf" "content" "[I") (List.mem_cons_of_mem _ (List.mem_append_left _ (List.mem_of_getElem? (i := 1) rfl)))) (fun _ h9 => h9) rfl dX6_passHour_62 ?_
              refine lv_iload_n hx hb dX6_passHour_65 rfl (lv_at hl 1 rfl) ?_
              refine lv_iconst (v := 0) hx hb dX6_passHour_66 (by decide) ?_
              refine lv_aload_n hx hb dX6_passHour_67 rfl (lv_at hl 0 rfl) ?_
              refine va_get (D := D) (ci := 5) (C := RX6) (T := TX6) (N := 11) hx hb hts (fun _ hw => (List.mem_cons_of_mem _ (List.mem_append_right _ hw))) hown hE.1 hP 4 rfl rfl 5 (by decide) (hts (.fieldLink RX6 27 "GlobeCrown$Shelf" "content" "[I") (List.mem_cons_of_mem _ (List.mem_append_left _ (List.mem_of_getElem? (i := 1) rfl)))) (fun _ h9 => h9) rfl dX6_passHour_68 ?_
              refine lv_iload_n hx hb dX6_passHour_71 rfl (lv_at hl 1 rfl) ?_
              obtain ⟨hg, h⟩ := gin_some h
              refine va_iald hx hb hE.1 hP 3 0 rfl rfl hg dX6_passHour_72 ?_
              refine lv_iconst (v := 1) hx hb dX6_passHour_73 (by decide) ?_
              refine lv_isub hx hb dX6_passHour_74 ?_
              refine gw_max hx hb (hml.trans hl.1.symm) hown (hts (.methodLink RX6 83 Lib.Math.max.name) (List.mem_cons_of_mem _ (List.mem_append_left _ (List.mem_of_getElem? (i := 7) rfl)))) (hts (.static Lib.Math.max.name) (List.mem_cons_of_mem _ (List.mem_append_left _ (List.mem_of_getElem? (i := 8) rfl)))) (hts (.initialized "java/lang/Math") (List.mem_cons_of_mem _ (List.mem_append_left _ (List.mem_of_getElem? (i := 4) rfl)))) (hts (.code Lib.Math.max.name Lib.Math.max.code 2 (some .int)) (List.mem_cons_of_mem _ (List.mem_append_left _ (List.mem_of_getElem? (i := 9) rfl)))) (Nat.le_of_ble_eq_true rfl) (Nat.le_of_ble_eq_true rfl) (Nat.zero_le _) (Nat.zero_le _) dX6_passHour_75 ?_
              obtain ⟨hg, h⟩ := gin_some h
              refine va_iast hx hb hE.1 hP hD hS 3 0 rfl rfl hg dX6_passHour_78 (fun H locs (hP : va_P D vwCl [(qt_water, .inl (cI, 8, .inl v_water)), (qt_flying, .inl (cI, 8, .inl v_flying)), (qt_leaks, .inl (cI, 8, .inl v_leaks)), (qt_content, .inl (cI, 8, .inl (upd v_content (Int32.toNatClampNeg x1) (jmax (0 : Int32) ((v_content (Int32.toNatClampNeg x1)) - (1 : Int32)))))), (qt, .inr (5, [.ref qt_water, .ref qt_flakes, .ref qt_flying, .ref qt_leaks, .ref qt_cloudy, .ref qt_content, .ref qt_in, .int v_there, .int v_music, .int v_taxes, .int v_hour]))] H) (hD : va_D A [(qt_water, .inl (cI, 8, .inl v_water)), (qt_flying, .inl (cI, 8, .inl v_flying)), (qt_leaks, .inl (cI, 8, .inl v_leaks)), (qt_content, .inl (cI, 8, .inl (upd v_content (Int32.toNatClampNeg x1) (jmax (0 : Int32) ((v_content (Int32.toNatClampNeg x1)) - (1 : Int32)))))), (qt, .inr (5, [.ref qt_water, .ref qt_flakes, .ref qt_flying, .ref qt_leaks, .ref qt_cloudy, .ref qt_content, .ref qt_in, .int v_there, .int v_music, .int v_taxes, .int v_hour]))]) hS => ?_)
              exact hB79 v_water v_flying (upd v_content (Int32.toNatClampNeg x1) (jmax (0 : Int32) ((v_content (Int32.toNatClampNeg x1)) - (1 : Int32)))) v_hour x1 H locs ls (hP.sub [4, 0, 1, 2, 3] rfl) (hD.sub [4, 0, 1, 2, 3] (by decide) rfl) hS hl h
          · have h := if_f hc h
            refine lv_aload_n hx hb dX6_passHour_28 rfl (lv_at hl 0 rfl) ?_
            refine va_get (D := D) (ci := 5) (C := RX6) (T := TX6) (N := 11) hx hb hts (fun _ hw => (List.mem_cons_of_mem _ (List.mem_append_right _ hw))) hown hE.1 hP 4 rfl rfl 5 (by decide) (hts (.fieldLink RX6 27 "GlobeCrown$Shelf" "content" "[I") (List.mem_cons_of_mem _ (List.mem_append_left _ (List.mem_of_getElem? (i := 1) rfl)))) (fun _ h9 => h9) rfl dX6_passHour_29 ?_
            refine lv_iload_n hx hb dX6_passHour_32 rfl (lv_at hl 1 rfl) ?_
            refine lv_bipush (v := 9) hx hb dX6_passHour_33 (by decide) ?_
            refine lv_aload_n hx hb dX6_passHour_35 rfl (lv_at hl 0 rfl) ?_
            refine va_get (D := D) (ci := 5) (C := RX6) (T := TX6) (N := 11) hx hb hts (fun _ hw => (List.mem_cons_of_mem _ (List.mem_append_right _ hw))) hown hE.1 hP 4 rfl rfl 5 (by decide) (hts (.fieldLink RX6 27 "GlobeCrown$Shelf" "content" "[I") (List.mem_cons_of_mem _ (List.mem_append_left _ (List.mem_of_getElem? (i := 1) rfl)))) (fun _ h9 => h9) rfl dX6_passHour_36 ?_
            refine lv_iload_n hx hb dX6_passHour_39 rfl (lv_at hl 1 rfl) ?_
            obtain ⟨hg, h⟩ := gin_some h
            refine va_iald hx hb hE.1 hP 3 0 rfl rfl hg dX6_passHour_40 ?_
            refine lv_iconst (v := 1) hx hb dX6_passHour_41 (by decide) ?_
            refine lv_iadd hx hb dX6_passHour_42 ?_
            refine gw_min hx hb (hml.trans hl.1.symm) hown (hts (.methodLink RX6 69 Lib.Math.min.name) (List.mem_cons_of_mem _ (List.mem_append_left _ (List.mem_of_getElem? (i := 2) rfl)))) (hts (.static Lib.Math.min.name) (List.mem_cons_of_mem _ (List.mem_append_left _ (List.mem_of_getElem? (i := 3) rfl)))) (hts (.initialized "java/lang/Math") (List.mem_cons_of_mem _ (List.mem_append_left _ (List.mem_of_getElem? (i := 4) rfl)))) (hts (.code Lib.Math.min.name Lib.Math.min.code 2 (some .int)) (List.mem_cons_of_mem _ (List.mem_append_left _ (List.mem_of_getElem? (i := 5) rfl)))) (Nat.le_of_ble_eq_true rfl) (Nat.le_of_ble_eq_true rfl) (Nat.zero_le _) (Nat.zero_le _) dX6_passHour_43 ?_
            obtain ⟨hg, h⟩ := gin_some h
            refine va_iast hx hb hE.1 hP hD hS 3 0 rfl rfl hg dX6_passHour_46 (fun H locs (hP : va_P D vwCl [(qt_water, .inl (cI, 8, .inl v_water)), (qt_flying, .inl (cI, 8, .inl v_flying)), (qt_leaks, .inl (cI, 8, .inl v_leaks)), (qt_content, .inl (cI, 8, .inl (upd v_content (Int32.toNatClampNeg x1) (jmin (9 : Int32) ((v_content (Int32.toNatClampNeg x1)) + (1 : Int32)))))), (qt, .inr (5, [.ref qt_water, .ref qt_flakes, .ref qt_flying, .ref qt_leaks, .ref qt_cloudy, .ref qt_content, .ref qt_in, .int v_there, .int v_music, .int v_taxes, .int v_hour]))] H) (hD : va_D A [(qt_water, .inl (cI, 8, .inl v_water)), (qt_flying, .inl (cI, 8, .inl v_flying)), (qt_leaks, .inl (cI, 8, .inl v_leaks)), (qt_content, .inl (cI, 8, .inl (upd v_content (Int32.toNatClampNeg x1) (jmin (9 : Int32) ((v_content (Int32.toNatClampNeg x1)) + (1 : Int32)))))), (qt, .inr (5, [.ref qt_water, .ref qt_flakes, .ref qt_flying, .ref qt_leaks, .ref qt_cloudy, .ref qt_content, .ref qt_in, .int v_there, .int v_music, .int v_taxes, .int v_hour]))]) hS => ?_)
            refine lv_goto (tgt := 79) hx hb dX6_passHour_47 (by decide) ?_
            exact hB79 v_water v_flying (upd v_content (Int32.toNatClampNeg x1) (jmin (9 : Int32) ((v_content (Int32.toNatClampNeg x1)) + (1 : Int32)))) v_hour x1 H locs ls (hP.sub [4, 0, 1, 2, 3] rfl) (hD.sub [4, 0, 1, 2, 3] (by decide) rfl) hS hl h
        · have h := if_t hc h
          refine lv_goto (tgt := 121) hx hb dX6_passHour_16 (by decide) ?_
          refine lv_iinc (v := (x1 + (1 : Int32))) (lv' := [(1, .int (x1 + (1 : Int32))), (0, .ref qt)]) hx hb dX6_passHour_121 hl (k := 1) rfl rfl (by decide) rfl (fun ls hl => ?_)
          refine lv_goto (tgt := 2) hx hb dX6_passHour_124 (by decide) ?_
          exact ih2 v_water v_flying v_content v_hour (x1 + (1 : Int32)) H locs ls (hP.sub [4, 0, 1, 2, 3] rfl) (hD.sub [4, 0, 1, 2, 3] (by decide) rfl) hS (lv_sub hl [1, 0] rfl) h
  have h := hf
  unfold f_X6_passHour at h
  refine gw_start hP hD hS (fun H locs hP hD hS => ?_)
  refine lv_iconst (v := 0) hx hb dX6_passHour_0 (by decide) ?_
  refine lv_istore_n (lv' := [(1, .int (0 : Int32)), (0, .ref qt)]) hx hb dX6_passHour_1 rfl hl (by decide) rfl (fun ls hl => ?_)
  exact hL2 FU v_water v_flying v_content v_hour (0 : Int32) H locs ls hP hD hS (lv_sub hl [1, 0] rfl) h
theorem hdV_X6_passHour : yX6_passHour.cls = RX6 ∧ yX6_passHour.cls ≠ "java/lang/invoke/MethodHandle" ∧ yX6_passHour.cls ≠ "java/lang/invoke/VarHandle" ∧ (parseMethodDescriptor yX6_passHour.desc).map (fun d => d.parameters.length) = some 0 := by decide +kernel
def f_X6_perform (v_water : (Nat → Int32)) (v_flakes : (Nat → Int32)) (v_flying : (Nat → Int32)) (v_leaks : (Nat → Int32)) (v_cloudy : (Nat → Int32)) (v_content : (Nat → Int32)) (v_in : (Nat → Int32)) (v_there : Int32) (v_music : Int32) (v_taxes : Int32) (v_hour : Int32) (p1 : Int32) (p2 : Int32) (p3 : Int32) : Option ((Nat → Int32) × (Nat → Int32) × (Nat → Int32) × (Nat → Int32) × (Nat → Int32) × Int32 × Int32 × Int32) := (if p1 = (46 : Int32) then (bd4 (f_X6_passHour v_water v_flying v_leaks v_content v_there v_music v_hour) (fun u7v_water u7v_flying u7v_content u7v_hour => (some (u7v_water, u7v_flying, v_cloudy, u7v_content, v_in, v_there, v_taxes, u7v_hour)))) else (bd1 (f_X6_has v_there p2) (fun r13 => (if r13 = (0 : Int32) then (some (v_water, v_flying, v_cloudy, v_content, v_in, v_there, v_taxes, v_hour)) else (if p1 = (35 : Int32) then (bd2 (f_X6_drop v_in v_there p2) (fun u153v_in u153v_there => (some (v_water, v_flying, v_cloudy, v_content, u153v_in, u153v_there, v_taxes, v_hour)))) else (if p1 = (43 : Int32) then (gin p2 8 (gin p2 8 (gin p2 8 (some ((upd v_water (Int32.toNatClampNeg p2) (99 : Int32)), v_flying, (upd v_cloudy (Int32.toNatClampNeg p2) (jmin (9 : Int32) ((v_cloudy (Int32.toNatClampNeg p2)) + (1 : Int32)))), v_content, v_in, v_there, v_taxes, v_hour))))) else (if p1 = (47 : Int32) then (gin p2 8 (some (v_water, v_flying, (upd v_cloudy (Int32.toNatClampNeg p2) (0 : Int32)), v_content, v_in, v_there, v_taxes, v_hour))) else (if p1 = (61 : Int32) then (gin p2 8 (some ((upd v_water (Int32.toNatClampNeg p2) (99 : Int32)), v_flying, v_cloudy, v_content, v_in, v_there, v_taxes, v_hour))) else (if p1 = (62 : Int32) then (gin p2 8 (some (v_water, v_flying, v_cloudy, v_content, (upd v_in (Int32.toNatClampNeg p2) p3), v_there, v_taxes, v_hour))) else (if p1 = (94 : Int32) then (gin p2 8 (some (v_water, v_flying, v_cloudy, v_content, (upd v_in (Int32.toNatClampNeg p2) (-1 : Int32)), v_there, v_taxes, v_hour))) else (bd2 (f_X6_shake v_water v_flakes v_flying v_content v_in v_there v_taxes p2 (p1 - (48 : Int32))) (fun u165v_flying u165v_taxes => (some (v_water, u165v_flying, v_cloudy, v_content, v_in, v_there, u165v_taxes, v_hour))))))))))))))
abbrev rm_X6_perform : Room := { frames := 3, cells := 0, slots := 0, locals := 68 }
set_option maxHeartbeats 4000000 in
set_option maxRecDepth 100000 in
theorem C_X6_perform (l : Launch) (D : va_G) (cI cJ cZ : ClassId) (sz : Nat) (qt qt_water qt_flakes qt_flying qt_leaks qt_cloudy qt_content qt_in : Nat) (v_water : (Nat → Int32)) (v_flakes : (Nat → Int32)) (v_flying : (Nat → Int32)) (v_leaks : (Nat → Int32)) (v_cloudy : (Nat → Int32)) (v_content : (Nat → Int32)) (v_in : (Nat → Int32)) (v_there : Int32) (v_music : Int32) (v_taxes : Int32) (v_hour : Int32) (p1 : Int32) (p2 : Int32) (p3 : Int32) (w_water : (Nat → Int32)) (w_flying : (Nat → Int32)) (w_cloudy : (Nat → Int32)) (w_content : (Nat → Int32)) (w_in : (Nat → Int32)) (w_there : Int32) (w_taxes : Int32) (w_hour : Int32) (hf : f_X6_perform v_water v_flakes v_flying v_leaks v_cloudy v_content v_in v_there v_music v_taxes v_hour p1 p2 p3 = some (w_water, w_flying, w_cloudy, w_content, w_in, w_there, w_taxes, w_hour)) : Met l yX6_perform wsX6_perform rm_X6_perform (PR D cI cJ cZ [(qt, .inr (5, [.ref qt_water, .ref qt_flakes, .ref qt_flying, .ref qt_leaks, .ref qt_cloudy, .ref qt_content, .ref qt_in, .int v_there, .int v_music, .int v_taxes, .int v_hour])), (qt_water, .inl (cI, 8, .inl v_water)), (qt_flakes, .inl (cI, 8, .inl v_flakes)), (qt_flying, .inl (cI, 8, .inl v_flying)), (qt_leaks, .inl (cI, 8, .inl v_leaks)), (qt_cloudy, .inl (cI, 8, .inl v_cloudy)), (qt_content, .inl (cI, 8, .inl v_content)), (qt_in, .inl (cI, 8, .inl v_in))] sz [.ref qt, .int p1, .int p2, .int p3]) (QV D (va_A [(qt, .inr (5, [.ref qt_water, .ref qt_flakes, .ref qt_flying, .ref qt_leaks, .ref qt_cloudy, .ref qt_content, .ref qt_in, .int v_there, .int v_music, .int v_taxes, .int v_hour])), (qt_water, .inl (cI, 8, .inl v_water)), (qt_flakes, .inl (cI, 8, .inl v_flakes)), (qt_flying, .inl (cI, 8, .inl v_flying)), (qt_leaks, .inl (cI, 8, .inl v_leaks)), (qt_cloudy, .inl (cI, 8, .inl v_cloudy)), (qt_content, .inl (cI, 8, .inl v_content)), (qt_in, .inl (cI, 8, .inl v_in))] sz) [(qt, .inr (5, [.ref qt_water, .ref qt_flakes, .ref qt_flying, .ref qt_leaks, .ref qt_cloudy, .ref qt_content, .ref qt_in, .int w_there, .int v_music, .int w_taxes, .int w_hour])), (qt_water, .inl (cI, 8, .inl w_water)), (qt_flakes, .inl (cI, 8, .inl v_flakes)), (qt_flying, .inl (cI, 8, .inl w_flying)), (qt_leaks, .inl (cI, 8, .inl v_leaks)), (qt_cloudy, .inl (cI, 8, .inl w_cloudy)), (qt_content, .inl (cI, 8, .inl w_content)), (qt_in, .inl (cI, 8, .inl w_in))]) 0 0 (va_A [(qt, .inr (5, [.ref qt_water, .ref qt_flakes, .ref qt_flying, .ref qt_leaks, .ref qt_cloudy, .ref qt_content, .ref qt_in, .int v_there, .int v_music, .int v_taxes, .int v_hour])), (qt_water, .inl (cI, 8, .inl v_water)), (qt_flakes, .inl (cI, 8, .inl v_flakes)), (qt_flying, .inl (cI, 8, .inl v_flying)), (qt_leaks, .inl (cI, 8, .inl v_leaks)), (qt_cloudy, .inl (cI, 8, .inl v_cloudy)), (qt_content, .inl (cI, 8, .inl v_content)), (qt_in, .inl (cI, 8, .inl v_in))] sz) := by
  refine Met.ofW (cc := cX6_perform) (maxL := 4) (ret := none) (by decide) rfl ?_
  intro p e s m args below meth c s₁ B hml hv
  obtain ⟨hav, hsz, hP, hD0, hE⟩ := hv
  have hx := B.exec
  have hb := B.bytes
  have hr := B.returns
  have hts := atoms_spec (ws := wsX6_perform) B.pre
  have hown : s.vm.findClass RX6 = some m.cls := findClass_of_methodNamed B.named
  have hlocks := B.notSynchronized
  subst hsz
  have hD := hD0.self (sz := s.heap.size)
  generalize hAe : va_A [(qt, .inr (5, [.ref qt_water, .ref qt_flakes, .ref qt_flying, .ref qt_leaks, .ref qt_cloudy, .ref qt_content, .ref qt_in, .int v_there, .int v_music, .int v_taxes, .int v_hour])), (qt_water, .inl (cI, 8, .inl v_water)), (qt_flakes, .inl (cI, 8, .inl v_flakes)), (qt_flying, .inl (cI, 8, .inl v_flying)), (qt_leaks, .inl (cI, 8, .inl v_leaks)), (qt_cloudy, .inl (cI, 8, .inl v_cloudy)), (qt_content, .inl (cI, 8, .inl v_content)), (qt_in, .inl (cI, 8, .inl v_in))] s.heap.size = A at hD ⊢
  have hA : ∀ q : Nat, s.heap.size ≤ q → A q := fun q h => by rw [← hAe]; exact Or.inr h
  have hS : va_S A s.heap s.heap [] := va_S.rf
  have hl := lv_entry ([.ref qt, .int p1, .int p2, .int p3]) (n := 4) (Nat.le_of_ble_eq_true rfl)
  have hfr : entryFrame m args 4 = entryFrame m ([.ref qt, .int p1, .int p2, .int p3] : List Value).toArray 4 := by rw [hav]
  rw [hfr, lg_entry_eq]
  generalize (lg_sl ([.ref qt, .int p1, .int p2, .int p3]) ++ List.replicate (4 - (lg_sl ([.ref qt, .int p1, .int p2, .int p3])).length) Slot.unset).toArray = ls at hl ⊢
  have hl : lv_has ls 4 [(0, .ref qt), (1, .int p1), (2, .int p2), (3, .int p3)] := hl
  obtain ⟨QQ, hQQ⟩ : ∃ QQ, QQ = MQ below (QV D A [(qt, .inr (5, [.ref qt_water, .ref qt_flakes, .ref qt_flying, .ref qt_leaks, .ref qt_cloudy, .ref qt_content, .ref qt_in, .int w_there, .int v_music, .int w_taxes, .int w_hour])), (qt_water, .inl (cI, 8, .inl w_water)), (qt_flakes, .inl (cI, 8, .inl v_flakes)), (qt_flying, .inl (cI, 8, .inl w_flying)), (qt_leaks, .inl (cI, 8, .inl v_leaks)), (qt_cloudy, .inl (cI, 8, .inl w_cloudy)), (qt_content, .inl (cI, 8, .inl w_content)), (qt_in, .inl (cI, 8, .inl w_in))]) args s 0 0 A := ⟨_, rfl⟩
  show W p l e rm_X6_perform s m args below meth c s.heap [] 0 0 _ _
  rw [← hQQ]
  have h := hf
  unfold f_X6_perform at h
  refine gw_start hP hD hS (fun H locs hP hD hS => ?_)
  refine lv_iload_n hx hb dX6_perform_0 rfl (lv_at hl 1 rfl) ?_
  refine lv_bipush (v := 46) hx hb dX6_perform_1 (by decide) ?_
  refine lv_icmp_ne (tgt := 11) hx hb dX6_perform_3 (by decide) (fun hc => ?_) (fun hc => ?_)
  · have h := if_f hc h
    refine lv_aload_n hx hb dX6_perform_11 rfl (lv_at hl 0 rfl) ?_
    refine lv_iload_n hx hb dX6_perform_12 rfl (lv_at hl 2 rfl) ?_
    obtain ⟨r13, hc13, h⟩ := bd1_some h
    refine gw_ci (wr := [(qt_water, .inl (cI, 8, .inl v_water)), (qt_flakes, .inl (cI, 8, .inl v_flakes)), (qt_flying, .inl (cI, 8, .inl v_flying)), (qt_leaks, .inl (cI, 8, .inl v_leaks)), (qt_cloudy, .inl (cI, 8, .inl v_cloudy)), (qt_content, .inl (cI, 8, .inl v_content)), (qt_in, .inl (cI, 8, .inl v_in))]) (w2 := [(qt_water, .inl (cI, 8, .inl v_water)), (qt_flakes, .inl (cI, 8, .inl v_flakes)), (qt_flying, .inl (cI, 8, .inl v_flying)), (qt_leaks, .inl (cI, 8, .inl v_leaks)), (qt_cloudy, .inl (cI, 8, .inl v_cloudy)), (qt_content, .inl (cI, 8, .inl v_content)), (qt_in, .inl (cI, 8, .inl v_in)), (qt, .inr (5, [.ref qt_water, .ref qt_flakes, .ref qt_flying, .ref qt_leaks, .ref qt_cloudy, .ref qt_content, .ref qt_in, .int v_there, .int v_music, .int v_taxes, .int v_hour]))]) (gw_rV (n := 1) ⟨hx, hb, hml, hown, hts⟩ (C_X6_has l D cI cJ cZ H.size qt qt_water qt_flakes qt_flying qt_leaks qt_cloudy qt_content qt_in v_there v_music v_taxes v_hour p2 r13 hc13) gX6_perform_X6_has rfl rfl rfl hdV_X6_has ⟨Nat.le_of_ble_eq_true rfl, Nat.le_of_ble_eq_true rfl⟩ hE (hP.sub [0] rfl) (hD.sub [0] (by decide) rfl) 5 rfl 0 rfl rfl hl.1 (rest := []) rfl (Nat.le_of_ble_eq_true rfl) dX6_perform_13 ⟨Nat.zero_le _, Nat.zero_le _⟩) hP hD hS hA [0] [1, 2, 3, 4, 5, 6, 7] rfl rfl rfl (by decide) rfl (fun H locs hP hD hS => ?_)
    refine lv_if_ne (tgt := 20) hx hb dX6_perform_16 (by decide) (fun hc => ?_) (fun hc => ?_)
    · have h := if_f hc h
      refine lv_iload_n hx hb dX6_perform_20 rfl (lv_at hl 1 rfl) ?_
      by_cases hk35 : p1 = (35 : Int32)
      · have h := if_t hk35 h
        refine lv_lookup (off := 130) (tgt := 151) hx hb dX6_perform_21 (by decide) (by rw [hk35]; decide) (by decide) ?_
        refine lv_aload_n hx hb dX6_perform_151 rfl (lv_at hl 0 rfl) ?_
        refine lv_iload_n hx hb dX6_perform_152 rfl (lv_at hl 2 rfl) ?_
        obtain ⟨u153v_in, u153v_there, hc153, h⟩ := bd2_some h
        refine gw_cv (wr := [(qt_water, .inl (cI, 8, .inl v_water)), (qt_flakes, .inl (cI, 8, .inl v_flakes)), (qt_flying, .inl (cI, 8, .inl v_flying)), (qt_leaks, .inl (cI, 8, .inl v_leaks)), (qt_cloudy, .inl (cI, 8, .inl v_cloudy)), (qt_content, .inl (cI, 8, .inl v_content))]) (w2 := [(qt_water, .inl (cI, 8, .inl v_water)), (qt_flakes, .inl (cI, 8, .inl v_flakes)), (qt_flying, .inl (cI, 8, .inl v_flying)), (qt_leaks, .inl (cI, 8, .inl v_leaks)), (qt_cloudy, .inl (cI, 8, .inl v_cloudy)), (qt_content, .inl (cI, 8, .inl v_content)), (qt, .inr (5, [.ref qt_water, .ref qt_flakes, .ref qt_flying, .ref qt_leaks, .ref qt_cloudy, .ref qt_content, .ref qt_in, .int u153v_there, .int v_music, .int v_taxes, .int v_hour])), (qt_in, .inl (cI, 8, .inl u153v_in))]) (gw_rV (n := 1) ⟨hx, hb, hml, hown, hts⟩ (C_X6_drop l D cI cJ cZ H.size qt qt_water qt_flakes qt_flying qt_leaks qt_cloudy qt_content qt_in v_in v_there v_music v_taxes v_hour p2 u153v_in u153v_there hc153) gX6_perform_X6_drop rfl rfl rfl hdV_X6_drop ⟨Nat.le_of_ble_eq_true rfl, Nat.le_of_ble_eq_true rfl⟩ hE (hP.sub [7, 6] rfl) (hD.sub [7, 6] (by decide) rfl) 5 rfl 0 rfl rfl hl.1 (rest := []) rfl (Nat.le_of_ble_eq_true rfl) dX6_perform_153 ⟨Nat.zero_le _, Nat.zero_le _⟩) hP hD hS hA [7, 6] [0, 1, 2, 3, 4, 5] rfl rfl rfl (by decide) rfl (fun H locs hP hD hS => ?_)
        refine lv_goto (tgt := 168) hx hb dX6_perform_156 (by decide) ?_
        cases h
        rw [hQQ]
        exact gw_vret hx hb hr hlocks (hP.sub [6, 0, 1, 2, 3, 4, 5, 7] rfl) (hD.sub [6, 0, 1, 2, 3, 4, 5, 7] (by decide) rfl) hS dX6_perform_168
      · have h := if_f hk35 h
        by_cases hk43 : p1 = (43 : Int32)
        · have h := if_t hk43 h
          refine lv_lookup (off := 79) (tgt := 100) hx hb dX6_perform_21 (by decide) (by rw [hk43]; decide) (by decide) ?_
          refine lv_aload_n hx hb dX6_perform_100 rfl (lv_at hl 0 rfl) ?_
          refine va_get (D := D) (ci := 5) (C := RX6) (T := TX6) (N := 11) hx hb hts (fun _ hw => (List.mem_cons_of_mem _ (List.mem_append_right _ hw))) hown hE.1 hP 7 rfl rfl 0 (by decide) (hts (.fieldLink RX6 9 "GlobeCrown$Shelf" "water" "[I") (List.mem_cons_of_mem _ (List.mem_append_left _ (List.mem_append_left _ (List.mem_of_getElem? (i := 1) rfl))))) (fun _ h9 => h9) rfl dX6_perform_101 ?_
          refine lv_iload_n hx hb dX6_perform_104 rfl (lv_at hl 2 rfl) ?_
          refine lv_bipush (v := 99) hx hb dX6_perform_105 (by decide) ?_
          obtain ⟨hg, h⟩ := gin_some h
          refine va_iast hx hb hE.1 hP hD hS 0 0 rfl rfl hg dX6_perform_107 (fun H locs (hP : va_P D vwCl [(qt_water, .inl (cI, 8, .inl (upd v_water (Int32.toNatClampNeg p2) (99 : Int32)))), (qt_flakes, .inl (cI, 8, .inl v_flakes)), (qt_flying, .inl (cI, 8, .inl v_flying)), (qt_leaks, .inl (cI, 8, .inl v_leaks)), (qt_cloudy, .inl (cI, 8, .inl v_cloudy)), (qt_content, .inl (cI, 8, .inl v_content)), (qt_in, .inl (cI, 8, .inl v_in)), (qt, .inr (5, [.ref qt_water, .ref qt_flakes, .ref qt_flying, .ref qt_leaks, .ref qt_cloudy, .ref qt_content, .ref qt_in, .int v_there, .int v_music, .int v_taxes, .int v_hour]))] H) (hD : va_D A [(qt_water, .inl (cI, 8, .inl (upd v_water (Int32.toNatClampNeg p2) (99 : Int32)))), (qt_flakes, .inl (cI, 8, .inl v_flakes)), (qt_flying, .inl (cI, 8, .inl v_flying)), (qt_leaks, .inl (cI, 8, .inl v_leaks)), (qt_cloudy, .inl (cI, 8, .inl v_cloudy)), (qt_content, .inl (cI, 8, .inl v_content)), (qt_in, .inl (cI, 8, .inl v_in)), (qt, .inr (5, [.ref qt_water, .ref qt_flakes, .ref qt_flying, .ref qt_leaks, .ref qt_cloudy, .ref qt_content, .ref qt_in, .int v_there, .int v_music, .int v_taxes, .int v_hour]))]) hS => ?_)
          refine lv_aload_n hx hb dX6_perform_108 rfl (lv_at hl 0 rfl) ?_
          refine va_get (D := D) (ci := 5) (C := RX6) (T := TX6) (N := 11) hx hb hts (fun _ hw => (List.mem_cons_of_mem _ (List.mem_append_right _ hw))) hown hE.1 hP 7 rfl rfl 4 (by decide) (hts (.fieldLink RX6 24 "GlobeCrown$Shelf" "cloudy" "[I") (List.mem_cons_of_mem _ (List.mem_append_left _ (List.mem_append_left _ (List.mem_of_getElem? (i := 2) rfl))))) (fun _ h9 => h9) rfl dX6_perform_109 ?_
          refine lv_iload_n hx hb dX6_perform_112 rfl (lv_at hl 2 rfl) ?_
          refine lv_bipush (v := 9) hx hb dX6_perform_113 (by decide) ?_
          refine lv_aload_n hx hb dX6_perform_115 rfl (lv_at hl 0 rfl) ?_
          refine va_get (D := D) (ci := 5) (C := RX6) (T := TX6) (N := 11) hx hb hts (fun _ hw => (List.mem_cons_of_mem _ (List.mem_append_right _ hw))) hown hE.1 hP 7 rfl rfl 4 (by decide) (hts (.fieldLink RX6 24 "GlobeCrown$Shelf" "cloudy" "[I") (List.mem_cons_of_mem _ (List.mem_append_left _ (List.mem_append_left _ (List.mem_of_getElem? (i := 2) rfl))))) (fun _ h9 => h9) rfl dX6_perform_116 ?_
          refine lv_iload_n hx hb dX6_perform_119 rfl (lv_at hl 2 rfl) ?_
          obtain ⟨hg, h⟩ := gin_some h
          refine va_iald hx hb hE.1 hP 4 0 rfl rfl hg dX6_perform_120 ?_
          refine lv_iconst (v := 1) hx hb dX6_perform_121 (by decide) ?_
          refine lv_iadd hx hb dX6_perform_122 ?_
          refine gw_min hx hb (hml.trans hl.1.symm) hown (hts (.methodLink RX6 69 Lib.Math.min.name) (List.mem_cons_of_mem _ (List.mem_append_left _ (List.mem_append_left _ (List.mem_of_getElem? (i := 3) rfl))))) (hts (.static Lib.Math.min.name) (List.mem_cons_of_mem _ (List.mem_append_left _ (List.mem_append_left _ (List.mem_of_getElem? (i := 4) rfl))))) (hts (.initialized "java/lang/Math") (List.mem_cons_of_mem _ (List.mem_append_left _ (List.mem_append_left _ (List.mem_of_getElem? (i := 5) rfl))))) (hts (.code Lib.Math.min.name Lib.Math.min.code 2 (some .int)) (List.mem_cons_of_mem _ (List.mem_append_left _ (List.mem_append_left _ (List.mem_of_getElem? (i := 6) rfl))))) (Nat.le_of_ble_eq_true rfl) (Nat.le_of_ble_eq_true rfl) (Nat.zero_le _) (Nat.zero_le _) dX6_perform_123 ?_
          obtain ⟨hg, h⟩ := gin_some h
          refine va_iast hx hb hE.1 hP hD hS 4 0 rfl rfl hg dX6_perform_126 (fun H locs (hP : va_P D vwCl [(qt_water, .inl (cI, 8, .inl (upd v_water (Int32.toNatClampNeg p2) (99 : Int32)))), (qt_flakes, .inl (cI, 8, .inl v_flakes)), (qt_flying, .inl (cI, 8, .inl v_flying)), (qt_leaks, .inl (cI, 8, .inl v_leaks)), (qt_cloudy, .inl (cI, 8, .inl (upd v_cloudy (Int32.toNatClampNeg p2) (jmin (9 : Int32) ((v_cloudy (Int32.toNatClampNeg p2)) + (1 : Int32)))))), (qt_content, .inl (cI, 8, .inl v_content)), (qt_in, .inl (cI, 8, .inl v_in)), (qt, .inr (5, [.ref qt_water, .ref qt_flakes, .ref qt_flying, .ref qt_leaks, .ref qt_cloudy, .ref qt_content, .ref qt_in, .int v_there, .int v_music, .int v_taxes, .int v_hour]))] H) (hD : va_D A [(qt_water, .inl (cI, 8, .inl (upd v_water (Int32.toNatClampNeg p2) (99 : Int32)))), (qt_flakes, .inl (cI, 8, .inl v_flakes)), (qt_flying, .inl (cI, 8, .inl v_flying)), (qt_leaks, .inl (cI, 8, .inl v_leaks)), (qt_cloudy, .inl (cI, 8, .inl (upd v_cloudy (Int32.toNatClampNeg p2) (jmin (9 : Int32) ((v_cloudy (Int32.toNatClampNeg p2)) + (1 : Int32)))))), (qt_content, .inl (cI, 8, .inl v_content)), (qt_in, .inl (cI, 8, .inl v_in)), (qt, .inr (5, [.ref qt_water, .ref qt_flakes, .ref qt_flying, .ref qt_leaks, .ref qt_cloudy, .ref qt_content, .ref qt_in, .int v_there, .int v_music, .int v_taxes, .int v_hour]))]) hS => ?_)
          refine lv_goto (tgt := 168) hx hb dX6_perform_127 (by decide) ?_
          cases h
          rw [hQQ]
          exact gw_vret hx hb hr hlocks (hP.sub [7, 0, 1, 2, 3, 4, 5, 6] rfl) (hD.sub [7, 0, 1, 2, 3, 4, 5, 6] (by decide) rfl) hS dX6_perform_168
        · have h := if_f hk43 h
          by_cases hk47 : p1 = (47 : Int32)
          · have h := if_t hk47 h
            refine lv_lookup (off := 120) (tgt := 141) hx hb dX6_perform_21 (by decide) (by rw [hk47]; decide) (by decide) ?_
            refine lv_aload_n hx hb dX6_perform_141 rfl (lv_at hl 0 rfl) ?_
            refine va_get (D := D) (ci := 5) (C := RX6) (T := TX6) (N := 11) hx hb hts (fun _ hw => (List.mem_cons_of_mem _ (List.mem_append_right _ hw))) hown hE.1 hP 7 rfl rfl 4 (by decide) (hts (.fieldLink RX6 24 "GlobeCrown$Shelf" "cloudy" "[I") (List.mem_cons_of_mem _ (List.mem_append_left _ (List.mem_append_left _ (List.mem_of_getElem? (i := 2) rfl))))) (fun _ h9 => h9) rfl dX6_perform_142 ?_
            refine lv_iload_n hx hb dX6_perform_145 rfl (lv_at hl 2 rfl) ?_
            refine lv_iconst (v := 0) hx hb dX6_perform_146 (by decide) ?_
            obtain ⟨hg, h⟩ := gin_some h
            refine va_iast hx hb hE.1 hP hD hS 4 0 rfl rfl hg dX6_perform_147 (fun H locs (hP : va_P D vwCl [(qt_water, .inl (cI, 8, .inl v_water)), (qt_flakes, .inl (cI, 8, .inl v_flakes)), (qt_flying, .inl (cI, 8, .inl v_flying)), (qt_leaks, .inl (cI, 8, .inl v_leaks)), (qt_cloudy, .inl (cI, 8, .inl (upd v_cloudy (Int32.toNatClampNeg p2) (0 : Int32)))), (qt_content, .inl (cI, 8, .inl v_content)), (qt_in, .inl (cI, 8, .inl v_in)), (qt, .inr (5, [.ref qt_water, .ref qt_flakes, .ref qt_flying, .ref qt_leaks, .ref qt_cloudy, .ref qt_content, .ref qt_in, .int v_there, .int v_music, .int v_taxes, .int v_hour]))] H) (hD : va_D A [(qt_water, .inl (cI, 8, .inl v_water)), (qt_flakes, .inl (cI, 8, .inl v_flakes)), (qt_flying, .inl (cI, 8, .inl v_flying)), (qt_leaks, .inl (cI, 8, .inl v_leaks)), (qt_cloudy, .inl (cI, 8, .inl (upd v_cloudy (Int32.toNatClampNeg p2) (0 : Int32)))), (qt_content, .inl (cI, 8, .inl v_content)), (qt_in, .inl (cI, 8, .inl v_in)), (qt, .inr (5, [.ref qt_water, .ref qt_flakes, .ref qt_flying, .ref qt_leaks, .ref qt_cloudy, .ref qt_content, .ref qt_in, .int v_there, .int v_music, .int v_taxes, .int v_hour]))]) hS => ?_)
            refine lv_goto (tgt := 168) hx hb dX6_perform_148 (by decide) ?_
            cases h
            rw [hQQ]
            exact gw_vret hx hb hr hlocks (hP.sub [7, 0, 1, 2, 3, 4, 5, 6] rfl) (hD.sub [7, 0, 1, 2, 3, 4, 5, 6] (by decide) rfl) hS dX6_perform_168
          · have h := if_f hk47 h
            by_cases hk61 : p1 = (61 : Int32)
            · have h := if_t hk61 h
              refine lv_lookup (off := 109) (tgt := 130) hx hb dX6_perform_21 (by decide) (by rw [hk61]; decide) (by decide) ?_
              refine lv_aload_n hx hb dX6_perform_130 rfl (lv_at hl 0 rfl) ?_
              refine va_get (D := D) (ci := 5) (C := RX6) (T := TX6) (N := 11) hx hb hts (fun _ hw => (List.mem_cons_of_mem _ (List.mem_append_right _ hw))) hown hE.1 hP 7 rfl rfl 0 (by decide) (hts (.fieldLink RX6 9 "GlobeCrown$Shelf" "water" "[I") (List.mem_cons_of_mem _ (List.mem_append_left _ (List.mem_append_left _ (List.mem_of_getElem? (i := 1) rfl))))) (fun _ h9 => h9) rfl dX6_perform_131 ?_
              refine lv_iload_n hx hb dX6_perform_134 rfl (lv_at hl 2 rfl) ?_
              refine lv_bipush (v := 99) hx hb dX6_perform_135 (by decide) ?_
              obtain ⟨hg, h⟩ := gin_some h
              refine va_iast hx hb hE.1 hP hD hS 0 0 rfl rfl hg dX6_perform_137 (fun H locs (hP : va_P D vwCl [(qt_water, .inl (cI, 8, .inl (upd v_water (Int32.toNatClampNeg p2) (99 : Int32)))), (qt_flakes, .inl (cI, 8, .inl v_flakes)), (qt_flying, .inl (cI, 8, .inl v_flying)), (qt_leaks, .inl (cI, 8, .inl v_leaks)), (qt_cloudy, .inl (cI, 8, .inl v_cloudy)), (qt_content, .inl (cI, 8, .inl v_content)), (qt_in, .inl (cI, 8, .inl v_in)), (qt, .inr (5, [.ref qt_water, .ref qt_flakes, .ref qt_flying, .ref qt_leaks, .ref qt_cloudy, .ref qt_content, .ref qt_in, .int v_there, .int v_music, .int v_taxes, .int v_hour]))] H) (hD : va_D A [(qt_water, .inl (cI, 8, .inl (upd v_water (Int32.toNatClampNeg p2) (99 : Int32)))), (qt_flakes, .inl (cI, 8, .inl v_flakes)), (qt_flying, .inl (cI, 8, .inl v_flying)), (qt_leaks, .inl (cI, 8, .inl v_leaks)), (qt_cloudy, .inl (cI, 8, .inl v_cloudy)), (qt_content, .inl (cI, 8, .inl v_content)), (qt_in, .inl (cI, 8, .inl v_in)), (qt, .inr (5, [.ref qt_water, .ref qt_flakes, .ref qt_flying, .ref qt_leaks, .ref qt_cloudy, .ref qt_content, .ref qt_in, .int v_there, .int v_music, .int v_taxes, .int v_hour]))]) hS => ?_)
              refine lv_goto (tgt := 168) hx hb dX6_perform_138 (by decide) ?_
              cases h
              rw [hQQ]
              exact gw_vret hx hb hr hlocks (hP.sub [7, 0, 1, 2, 3, 4, 5, 6] rfl) (hD.sub [7, 0, 1, 2, 3, 4, 5, 6] (by decide) rfl) hS dX6_perform_168
            · have h := if_f hk61 h
              by_cases hk62 : p1 = (62 : Int32)
              · have h := if_t hk62 h
                refine lv_lookup (off := 59) (tgt := 80) hx hb dX6_perform_21 (by decide) (by rw [hk62]; decide) (by decide) ?_
                refine lv_aload_n hx hb dX6_perform_80 rfl (lv_at hl 0 rfl) ?_
                refine va_get (D := D) (ci := 5) (C := RX6) (T := TX6) (N := 11) hx hb hts (fun _ hw => (List.mem_cons_of_mem _ (List.mem_append_right _ hw))) hown hE.1 hP 7 rfl rfl 6 (by decide) (hts (.fieldLink RX6 30 "GlobeCrown$Shelf" "in" "[I") (List.mem_cons_of_mem _ (List.mem_append_left _ (List.mem_append_left _ (List.mem_of_getElem? (i := 0) rfl))))) (fun _ h9 => h9) rfl dX6_perform_81 ?_
                refine lv_iload_n hx hb dX6_perform_84 rfl (lv_at hl 2 rfl) ?_
                refine lv_iload_n hx hb dX6_perform_85 rfl (lv_at hl 3 rfl) ?_
                obtain ⟨hg, h⟩ := gin_some h
                refine va_iast hx hb hE.1 hP hD hS 6 0 rfl rfl hg dX6_perform_86 (fun H locs (hP : va_P D vwCl [(qt_water, .inl (cI, 8, .inl v_water)), (qt_flakes, .inl (cI, 8, .inl v_flakes)), (qt_flying, .inl (cI, 8, .inl v_flying)), (qt_leaks, .inl (cI, 8, .inl v_leaks)), (qt_cloudy, .inl (cI, 8, .inl v_cloudy)), (qt_content, .inl (cI, 8, .inl v_content)), (qt_in, .inl (cI, 8, .inl (upd v_in (Int32.toNatClampNeg p2) p3))), (qt, .inr (5, [.ref qt_water, .ref qt_flakes, .ref qt_flying, .ref qt_leaks, .ref qt_cloudy, .ref qt_content, .ref qt_in, .int v_there, .int v_music, .int v_taxes, .int v_hour]))] H) (hD : va_D A [(qt_water, .inl (cI, 8, .inl v_water)), (qt_flakes, .inl (cI, 8, .inl v_flakes)), (qt_flying, .inl (cI, 8, .inl v_flying)), (qt_leaks, .inl (cI, 8, .inl v_leaks)), (qt_cloudy, .inl (cI, 8, .inl v_cloudy)), (qt_content, .inl (cI, 8, .inl v_content)), (qt_in, .inl (cI, 8, .inl (upd v_in (Int32.toNatClampNeg p2) p3))), (qt, .inr (5, [.ref qt_water, .ref qt_flakes, .ref qt_flying, .ref qt_leaks, .ref qt_cloudy, .ref qt_content, .ref qt_in, .int v_there, .int v_music, .int v_taxes, .int v_hour]))]) hS => ?_)
                refine lv_goto (tgt := 168) hx hb dX6_perform_87 (by decide) ?_
                cases h
                rw [hQQ]
                exact gw_vret hx hb hr hlocks (hP.sub [7, 0, 1, 2, 3, 4, 5, 6] rfl) (hD.sub [7, 0, 1, 2, 3, 4, 5, 6] (by decide) rfl) hS dX6_perform_168
              · have h := if_f hk62 h
                by_cases hk94 : p1 = (94 : Int32)
                · have h := if_t hk94 h
                  refine lv_lookup (off := 69) (tgt := 90) hx hb dX6_perform_21 (by decide) (by rw [hk94]; decide) (by decide) ?_
                  refine lv_aload_n hx hb dX6_perform_90 rfl (lv_at hl 0 rfl) ?_
                  refine va_get (D := D) (ci := 5) (C := RX6) (T := TX6) (N := 11) hx hb hts (fun _ hw => (List.mem_cons_of_mem _ (List.mem_append_right _ hw))) hown hE.1 hP 7 rfl rfl 6 (by decide) (hts (.fieldLink RX6 30 "GlobeCrown$Shelf" "in" "[I") (List.mem_cons_of_mem _ (List.mem_append_left _ (List.mem_append_left _ (List.mem_of_getElem? (i := 0) rfl))))) (fun _ h9 => h9) rfl dX6_perform_91 ?_
                  refine lv_iload_n hx hb dX6_perform_94 rfl (lv_at hl 2 rfl) ?_
                  refine lv_iconst (v := -1) hx hb dX6_perform_95 (by decide) ?_
                  obtain ⟨hg, h⟩ := gin_some h
                  refine va_iast hx hb hE.1 hP hD hS 6 0 rfl rfl hg dX6_perform_96 (fun H locs (hP : va_P D vwCl [(qt_water, .inl (cI, 8, .inl v_water)), (qt_flakes, .inl (cI, 8, .inl v_flakes)), (qt_flying, .inl (cI, 8, .inl v_flying)), (qt_leaks, .inl (cI, 8, .inl v_leaks)), (qt_cloudy, .inl (cI, 8, .inl v_cloudy)), (qt_content, .inl (cI, 8, .inl v_content)), (qt_in, .inl (cI, 8, .inl (upd v_in (Int32.toNatClampNeg p2) (-1 : Int32)))), (qt, .inr (5, [.ref qt_water, .ref qt_flakes, .ref qt_flying, .ref qt_leaks, .ref qt_cloudy, .ref qt_content, .ref qt_in, .int v_there, .int v_music, .int v_taxes, .int v_hour]))] H) (hD : va_D A [(qt_water, .inl (cI, 8, .inl v_water)), (qt_flakes, .inl (cI, 8, .inl v_flakes)), (qt_flying, .inl (cI, 8, .inl v_flying)), (qt_leaks, .inl (cI, 8, .inl v_leaks)), (qt_cloudy, .inl (cI, 8, .inl v_cloudy)), (qt_content, .inl (cI, 8, .inl v_content)), (qt_in, .inl (cI, 8, .inl (upd v_in (Int32.toNatClampNeg p2) (-1 : Int32)))), (qt, .inr (5, [.ref qt_water, .ref qt_flakes, .ref qt_flying, .ref qt_leaks, .ref qt_cloudy, .ref qt_content, .ref qt_in, .int v_there, .int v_music, .int v_taxes, .int v_hour]))]) hS => ?_)
                  refine lv_goto (tgt := 168) hx hb dX6_perform_97 (by decide) ?_
                  cases h
                  rw [hQQ]
                  exact gw_vret hx hb hr hlocks (hP.sub [7, 0, 1, 2, 3, 4, 5, 6] rfl) (hD.sub [7, 0, 1, 2, 3, 4, 5, 6] (by decide) rfl) hS dX6_perform_168
                · have h := if_f hk94 h
                  refine lv_lookup (off := 138) (tgt := 159) hx hb dX6_perform_21 (by decide) (by show Op.lookupswitch.offset [(35, 130), (43, 79), (47, 120), (61, 109), (62, 59), (94, 69)] 138 _ = _; rw [lv_osw hk35 (by decide), lv_osw hk43 (by decide), lv_osw hk47 (by decide), lv_osw hk61 (by decide), lv_osw hk62 (by decide), lv_osw hk94 (by decide)]; rfl) (by decide) ?_
                  refine lv_aload_n hx hb dX6_perform_159 rfl (lv_at hl 0 rfl) ?_
                  refine lv_iload_n hx hb dX6_perform_160 rfl (lv_at hl 2 rfl) ?_
                  refine lv_iload_n hx hb dX6_perform_161 rfl (lv_at hl 1 rfl) ?_
                  refine lv_bipush (v := 48) hx hb dX6_perform_162 (by decide) ?_
                  refine lv_isub hx hb dX6_perform_164 ?_
                  obtain ⟨u165v_flying, u165v_taxes, hc165, h⟩ := bd2_some h
                  refine gw_cv (wr := [(qt_leaks, .inl (cI, 8, .inl v_leaks)), (qt_cloudy, .inl (cI, 8, .inl v_cloudy))]) (w2 := [(qt_leaks, .inl (cI, 8, .inl v_leaks)), (qt_cloudy, .inl (cI, 8, .inl v_cloudy)), (qt, .inr (5, [.ref qt_water, .ref qt_flakes, .ref qt_flying, .ref qt_leaks, .ref qt_cloudy, .ref qt_content, .ref qt_in, .int v_there, .int v_music, .int u165v_taxes, .int v_hour])), (qt_water, .inl (cI, 8, .inl v_water)), (qt_flakes, .inl (cI, 8, .inl v_flakes)), (qt_flying, .inl (cI, 8, .inl u165v_flying)), (qt_content, .inl (cI, 8, .inl v_content)), (qt_in, .inl (cI, 8, .inl v_in))]) (gw_rV (n := 2) ⟨hx, hb, hml, hown, hts⟩ (C_X6_shake l D cI cJ cZ H.size qt qt_water qt_flakes qt_flying qt_leaks qt_cloudy qt_content qt_in v_water v_flakes v_flying v_content v_in v_there v_music v_taxes v_hour p2 (p1 - (48 : Int32)) u165v_flying u165v_taxes hc165) gX6_perform_X6_shake rfl rfl rfl hdV_X6_shake ⟨Nat.le_of_ble_eq_true rfl, Nat.le_of_ble_eq_true rfl⟩ hE (hP.sub [7, 0, 1, 2, 5, 6] rfl) (hD.sub [7, 0, 1, 2, 5, 6] (by decide) rfl) 5 rfl 0 rfl rfl hl.1 (rest := []) rfl (Nat.le_of_ble_eq_true rfl) dX6_perform_165 ⟨Nat.zero_le _, Nat.zero_le _⟩) hP hD hS hA [7, 0, 1, 2, 5, 6] [3, 4] rfl rfl rfl (by decide) rfl (fun H locs hP hD hS => ?_)
                  cases h
                  rw [hQQ]
                  exact gw_vret hx hb hr hlocks (hP.sub [2, 3, 4, 5, 0, 1, 6, 7] rfl) (hD.sub [2, 3, 4, 5, 0, 1, 6, 7] (by decide) rfl) hS dX6_perform_168
    · have h := if_t hc h
      cases h
      rw [hQQ]
      exact gw_vret hx hb hr hlocks (hP.sub [7, 0, 1, 2, 3, 4, 5, 6] rfl) (hD.sub [7, 0, 1, 2, 3, 4, 5, 6] (by decide) rfl) hS dX6_perform_19
  · have h := if_t hc h
    refine lv_aload_n hx hb dX6_perform_6 rfl (lv_at hl 0 rfl) ?_
    obtain ⟨u7v_water, u7v_flying, u7v_content, u7v_hour, hc7, h⟩ := bd4_some h
    refine gw_cv (wr := [(qt_flakes, .inl (cI, 8, .inl v_flakes)), (qt_cloudy, .inl (cI, 8, .inl v_cloudy)), (qt_in, .inl (cI, 8, .inl v_in))]) (w2 := [(qt_flakes, .inl (cI, 8, .inl v_flakes)), (qt_cloudy, .inl (cI, 8, .inl v_cloudy)), (qt_in, .inl (cI, 8, .inl v_in)), (qt, .inr (5, [.ref qt_water, .ref qt_flakes, .ref qt_flying, .ref qt_leaks, .ref qt_cloudy, .ref qt_content, .ref qt_in, .int v_there, .int v_music, .int v_taxes, .int u7v_hour])), (qt_water, .inl (cI, 8, .inl u7v_water)), (qt_flying, .inl (cI, 8, .inl u7v_flying)), (qt_leaks, .inl (cI, 8, .inl v_leaks)), (qt_content, .inl (cI, 8, .inl u7v_content))]) (gw_rV (n := 0) ⟨hx, hb, hml, hown, hts⟩ (C_X6_passHour l D cI cJ cZ H.size qt qt_water qt_flakes qt_flying qt_leaks qt_cloudy qt_content qt_in v_water v_flying v_leaks v_content v_there v_music v_taxes v_hour u7v_water u7v_flying u7v_content u7v_hour hc7) gX6_perform_X6_passHour rfl rfl rfl hdV_X6_passHour ⟨Nat.le_of_ble_eq_true rfl, Nat.le_of_ble_eq_true rfl⟩ hE (hP.sub [0, 1, 3, 4, 6] rfl) (hD.sub [0, 1, 3, 4, 6] (by decide) rfl) 5 rfl 0 rfl rfl hl.1 (rest := []) rfl (Nat.le_of_ble_eq_true rfl) dX6_perform_7 ⟨Nat.zero_le _, Nat.zero_le _⟩) hP hD hS hA [0, 1, 3, 4, 6] [2, 5, 7] rfl rfl rfl (by decide) rfl (fun H locs hP hD hS => ?_)
    cases h
    rw [hQQ]
    exact gw_vret hx hb hr hlocks (hP.sub [3, 4, 0, 5, 6, 1, 7, 2] rfl) (hD.sub [3, 4, 0, 5, 6, 1, 7, 2] (by decide) rfl) hS dX6_perform_10
theorem hdV_X6_perform : yX6_perform.cls = RX6 ∧ yX6_perform.cls ≠ "java/lang/invoke/MethodHandle" ∧ yX6_perform.cls ≠ "java/lang/invoke/VarHandle" ∧ (parseMethodDescriptor yX6_perform.desc).map (fun d => d.parameters.length) = some 3 := by decide +kernel
def B_J6_numberOfTrailingZeros_0f7a4_62 (x0 : Int32) (x1 : Int32) : Option (Int32) := (if x0 ≤ (4 : Int32) then (some (x1 + (jushr x0 (1 : Int32)))) else (some ((x1 + (2 : Int32)) + (jushr (jushr x0 (2 : Int32)) (1 : Int32)))))
def B_J6_numberOfTrailingZeros_0f7a4_49 (x0 : Int32) (x1 : Int32) : Option (Int32) := (if x0 ≤ (16 : Int32) then (B_J6_numberOfTrailingZeros_0f7a4_62 x0 x1) else (B_J6_numberOfTrailingZeros_0f7a4_62 (jushr x0 (4 : Int32)) (x1 + (4 : Int32))))
def B_J6_numberOfTrailingZeros_0f7a4_34 (x0 : Int32) (x1 : Int32) : Option (Int32) := (if x0 ≤ (256 : Int32) then (B_J6_numberOfTrailingZeros_0f7a4_49 x0 x1) else (B_J6_numberOfTrailingZeros_0f7a4_49 (jushr x0 (8 : Int32)) (x1 + (8 : Int32))))
def f_J6_numberOfTrailingZeros_0f7a4 (p0 : Int32) : Option (Int32) := (if (0 : Int32) < ((p0 ^^^ (-1 : Int32)) &&& (p0 - (1 : Int32))) then (if ((p0 ^^^ (-1 : Int32)) &&& (p0 - (1 : Int32))) ≤ (65536 : Int32) then (B_J6_numberOfTrailingZeros_0f7a4_34 ((p0 ^^^ (-1 : Int32)) &&& (p0 - (1 : Int32))) (1 : Int32)) else (B_J6_numberOfTrailingZeros_0f7a4_34 (jushr ((p0 ^^^ (-1 : Int32)) &&& (p0 - (1 : Int32))) (16 : Int32)) ((1 : Int32) + (16 : Int32)))) else (some (((p0 ^^^ (-1 : Int32)) &&& (p0 - (1 : Int32))) &&& (32 : Int32))))
abbrev rm_J6_numberOfTrailingZeros_0f7a4 : Room := { frames := 0, cells := 0, slots := 0, locals := 0 }
set_option maxHeartbeats 4000000 in
set_option maxRecDepth 100000 in
theorem C_J6_numberOfTrailingZeros_0f7a4 (l : Launch) (D : va_G) (cI cJ cZ : ClassId) (sz : Nat) (p0 : Int32) (r : Int32) (hf : f_J6_numberOfTrailingZeros_0f7a4 p0 = some r) : Met l yJ6_numberOfTrailingZeros_0f7a4 wsJ6_numberOfTrailingZeros_0f7a4 rm_J6_numberOfTrailingZeros_0f7a4 (PR D cI cJ cZ [] sz [.int p0]) (QI D (va_A [] sz) r []) 0 0 (va_A [] sz) := by
  refine Met.ofW (cc := cJ6_numberOfTrailingZeros_0f7a4) (maxL := 2) (ret := (some .int)) (by decide) rfl ?_
  intro p e s m args below meth c s₁ B hml hv
  obtain ⟨hav, hsz, hP, hD0, hE⟩ := hv
  have hx := B.exec
  have hb := B.bytes
  have hr := B.returns
  have hts := atoms_spec (ws := wsJ6_numberOfTrailingZeros_0f7a4) B.pre
  have hown : s.vm.findClass RJ6 = some m.cls := findClass_of_methodNamed B.named
  have hlocks := B.notSynchronized
  subst hsz
  have hD := hD0.self (sz := s.heap.size)
  generalize hAe : va_A [] s.heap.size = A at hD ⊢
  have hA : ∀ q : Nat, s.heap.size ≤ q → A q := fun q h => by rw [← hAe]; exact Or.inr h
  have hS : va_S A s.heap s.heap [] := va_S.rf
  have hl := lv_entry ([.int p0]) (n := 2) (Nat.le_of_ble_eq_true rfl)
  have hfr : entryFrame m args 2 = entryFrame m ([.int p0] : List Value).toArray 2 := by rw [hav]
  rw [hfr, lg_entry_eq]
  generalize (lg_sl ([.int p0]) ++ List.replicate (2 - (lg_sl ([.int p0])).length) Slot.unset).toArray = ls at hl ⊢
  have hl : lv_has ls 2 [(0, .int p0)] := hl
  obtain ⟨QQ, hQQ⟩ : ∃ QQ, QQ = MQ below (QI D A r []) args s 0 0 A := ⟨_, rfl⟩
  show W p l e rm_J6_numberOfTrailingZeros_0f7a4 s m args below meth c s.heap [] 0 0 _ _
  rw [← hQQ]
  have hB62 : ∀ (x0 : Int32) (x1 : Int32) (H : Heap) (locs : List Loc) (ls : Array Slot), va_P D vwCl [] H → va_D A [] → va_S A s.heap H locs → lv_has ls 2 [(0, .int x0), (1, .int x1)] → B_J6_numberOfTrailingZeros_0f7a4_62 x0 x1 = some r → W p l e rm_J6_numberOfTrailingZeros_0f7a4 s m args below meth c H locs 0 0 QQ (F0 m 62 ls []) := by
    intro x0 x1 H locs ls hP hD hS hl h
    unfold B_J6_numberOfTrailingZeros_0f7a4_62 at h
    refine lv_iload_n hx hb dJ6_numberOfTrailingZeros_0f7a4_62 rfl (lv_at hl 0 rfl) ?_
    refine lv_iconst (v := 4) hx hb dJ6_numberOfTrailingZeros_0f7a4_63 (by decide) ?_
    refine lv_icmp_le (tgt := 74) hx hb dJ6_numberOfTrailingZeros_0f7a4_64 (by decide) (fun hc => ?_) (fun hc => ?_)
    · have h := if_t hc h
      refine lv_iload_n hx hb dJ6_numberOfTrailingZeros_0f7a4_74 rfl (lv_at hl 1 rfl) ?_
      refine lv_iload_n hx hb dJ6_numberOfTrailingZeros_0f7a4_75 rfl (lv_at hl 0 rfl) ?_
      refine lv_iconst (v := 1) hx hb dJ6_numberOfTrailingZeros_0f7a4_76 (by decide) ?_
      refine lv_iushr (v := (jushr x0 (1 : Int32))) hx hb dJ6_numberOfTrailingZeros_0f7a4_77 rfl ?_
      refine lv_iadd hx hb dJ6_numberOfTrailingZeros_0f7a4_78 ?_
      cases h
      rw [hQQ]
      exact gw_iret hx hb hr hlocks hP hD hS dJ6_numberOfTrailingZeros_0f7a4_79
    · have h := if_f hc h
      refine lv_iinc (v := (x1 + (2 : Int32))) (lv' := [(1, .int (x1 + (2 : Int32))), (0, .int x0)]) hx hb dJ6_numberOfTrailingZeros_0f7a4_67 hl (k := 1) rfl rfl (by decide) rfl (fun ls hl => ?_)
      refine lv_iload_n hx hb dJ6_numberOfTrailingZeros_0f7a4_70 rfl (lv_at hl 1 rfl) ?_
      refine lv_iconst (v := 2) hx hb dJ6_numberOfTrailingZeros_0f7a4_71 (by decide) ?_
      refine lv_iushr (v := (jushr x0 (2 : Int32))) hx hb dJ6_numberOfTrailingZeros_0f7a4_72 rfl ?_
      refine lv_istore_n (lv' := [(0, .int (jushr x0 (2 : Int32))), (1, .int (x1 + (2 : Int32)))]) hx hb dJ6_numberOfTrailingZeros_0f7a4_73 rfl hl (by decide) rfl (fun ls hl => ?_)
      refine lv_iload_n hx hb dJ6_numberOfTrailingZeros_0f7a4_74 rfl (lv_at hl 1 rfl) ?_
      refine lv_iload_n hx hb dJ6_numberOfTrailingZeros_0f7a4_75 rfl (lv_at hl 0 rfl) ?_
      refine lv_iconst (v := 1) hx hb dJ6_numberOfTrailingZeros_0f7a4_76 (by decide) ?_
      refine lv_iushr (v := (jushr (jushr x0 (2 : Int32)) (1 : Int32))) hx hb dJ6_numberOfTrailingZeros_0f7a4_77 rfl ?_
      refine lv_iadd hx hb dJ6_numberOfTrailingZeros_0f7a4_78 ?_
      cases h
      rw [hQQ]
      exact gw_iret hx hb hr hlocks hP hD hS dJ6_numberOfTrailingZeros_0f7a4_79
  have hB49 : ∀ (x0 : Int32) (x1 : Int32) (H : Heap) (locs : List Loc) (ls : Array Slot), va_P D vwCl [] H → va_D A [] → va_S A s.heap H locs → lv_has ls 2 [(0, .int x0), (1, .int x1)] → B_J6_numberOfTrailingZeros_0f7a4_49 x0 x1 = some r → W p l e rm_J6_numberOfTrailingZeros_0f7a4 s m args below meth c H locs 0 0 QQ (F0 m 49 ls []) := by
    intro x0 x1 H locs ls hP hD hS hl h
    unfold B_J6_numberOfTrailingZeros_0f7a4_49 at h
    refine lv_iload_n hx hb dJ6_numberOfTrailingZeros_0f7a4_49 rfl (lv_at hl 0 rfl) ?_
    refine lv_bipush (v := 16) hx hb dJ6_numberOfTrailingZeros_0f7a4_50 (by decide) ?_
    refine lv_icmp_le (tgt := 62) hx hb dJ6_numberOfTrailingZeros_0f7a4_52 (by decide) (fun hc => ?_) (fun hc => ?_)
    · have h := if_t hc h
      exact hB62 x0 x1 H locs ls hP hD hS hl h
    · have h := if_f hc h
      refine lv_iinc (v := (x1 + (4 : Int32))) (lv' := [(1, .int (x1 + (4 : Int32))), (0, .int x0)]) hx hb dJ6_numberOfTrailingZeros_0f7a4_55 hl (k := 1) rfl rfl (by decide) rfl (fun ls hl => ?_)
      refine lv_iload_n hx hb dJ6_numberOfTrailingZeros_0f7a4_58 rfl (lv_at hl 1 rfl) ?_
      refine lv_iconst (v := 4) hx hb dJ6_numberOfTrailingZeros_0f7a4_59 (by decide) ?_
      refine lv_iushr (v := (jushr x0 (4 : Int32))) hx hb dJ6_numberOfTrailingZeros_0f7a4_60 rfl ?_
      refine lv_istore_n (lv' := [(0, .int (jushr x0 (4 : Int32))), (1, .int (x1 + (4 : Int32)))]) hx hb dJ6_numberOfTrailingZeros_0f7a4_61 rfl hl (by decide) rfl (fun ls hl => ?_)
      exact hB62 (jushr x0 (4 : Int32)) (x1 + (4 : Int32)) H locs ls hP hD hS hl h
  have hB34 : ∀ (x0 : Int32) (x1 : Int32) (H : Heap) (locs : List Loc) (ls : Array Slot), va_P D vwCl [] H → va_D A [] → va_S A s.heap H locs → lv_has ls 2 [(0, .int x0), (1, .int x1)] → B_J6_numberOfTrailingZeros_0f7a4_34 x0 x1 = some r → W p l e rm_J6_numberOfTrailingZeros_0f7a4 s m args below meth c H locs 0 0 QQ (F0 m 34 ls []) := by
    intro x0 x1 H locs ls hP hD hS hl h
    unfold B_J6_numberOfTrailingZeros_0f7a4_34 at h
    refine lv_iload_n hx hb dJ6_numberOfTrailingZeros_0f7a4_34 rfl (lv_at hl 0 rfl) ?_
    refine lv_sipush (v := 256) hx hb dJ6_numberOfTrailingZeros_0f7a4_35 (by decide) ?_
    refine lv_icmp_le (tgt := 49) hx hb dJ6_numberOfTrailingZeros_0f7a4_38 (by decide) (fun hc => ?_) (fun hc => ?_)
    · have h := if_t hc h
      exact hB49 x0 x1 H locs ls hP hD hS hl h
    · have h := if_f hc h
      refine lv_iinc (v := (x1 + (8 : Int32))) (lv' := [(1, .int (x1 + (8 : Int32))), (0, .int x0)]) hx hb dJ6_numberOfTrailingZeros_0f7a4_41 hl (k := 1) rfl rfl (by decide) rfl (fun ls hl => ?_)
      refine lv_iload_n hx hb dJ6_numberOfTrailingZeros_0f7a4_44 rfl (lv_at hl 1 rfl) ?_
      refine lv_bipush (v := 8) hx hb dJ6_numberOfTrailingZeros_0f7a4_45 (by decide) ?_
      refine lv_iushr (v := (jushr x0 (8 : Int32))) hx hb dJ6_numberOfTrailingZeros_0f7a4_47 rfl ?_
      refine lv_istore_n (lv' := [(0, .int (jushr x0 (8 : Int32))), (1, .int (x1 + (8 : Int32)))]) hx hb dJ6_numberOfTrailingZeros_0f7a4_48 rfl hl (by decide) rfl (fun ls hl => ?_)
      exact hB49 (jushr x0 (8 : Int32)) (x1 + (8 : Int32)) H locs ls hP hD hS hl h
  have h := hf
  unfold f_J6_numberOfTrailingZeros_0f7a4 at h
  refine gw_start hP hD hS (fun H locs hP hD hS => ?_)
  refine lv_iload_n hx hb dJ6_numberOfTrailingZeros_0f7a4_0 rfl (lv_at hl 0 rfl) ?_
  refine lv_iconst (v := -1) hx hb dJ6_numberOfTrailingZeros_0f7a4_1 (by decide) ?_
  refine lv_ixor hx hb dJ6_numberOfTrailingZeros_0f7a4_2 ?_
  refine lv_iload_n hx hb dJ6_numberOfTrailingZeros_0f7a4_3 rfl (lv_at hl 0 rfl) ?_
  refine lv_iconst (v := 1) hx hb dJ6_numberOfTrailingZeros_0f7a4_4 (by decide) ?_
  refine lv_isub hx hb dJ6_numberOfTrailingZeros_0f7a4_5 ?_
  refine lv_iand hx hb dJ6_numberOfTrailingZeros_0f7a4_6 ?_
  refine lv_istore_n (lv' := [(0, .int ((p0 ^^^ (-1 : Int32)) &&& (p0 - (1 : Int32))))]) hx hb dJ6_numberOfTrailingZeros_0f7a4_7 rfl hl (by decide) rfl (fun ls hl => ?_)
  refine lv_iload_n hx hb dJ6_numberOfTrailingZeros_0f7a4_8 rfl (lv_at hl 0 rfl) ?_
  refine lv_if_gt (tgt := 17) hx hb dJ6_numberOfTrailingZeros_0f7a4_9 (by decide) (fun hc => ?_) (fun hc => ?_)
  · have h := if_t hc h
    refine lv_iconst (v := 1) hx hb dJ6_numberOfTrailingZeros_0f7a4_17 (by decide) ?_
    refine lv_istore_n (lv' := [(1, .int (1 : Int32)), (0, .int ((p0 ^^^ (-1 : Int32)) &&& (p0 - (1 : Int32))))]) hx hb dJ6_numberOfTrailingZeros_0f7a4_18 rfl hl (by decide) rfl (fun ls hl => ?_)
    refine lv_iload_n hx hb dJ6_numberOfTrailingZeros_0f7a4_19 rfl (lv_at hl 1 rfl) ?_
    refine lv_ldcw hx hb hown (hts (.constant RJ6 264 (65536)) (List.mem_cons_of_mem _ (List.mem_of_getElem? (i := 0) rfl))) dJ6_numberOfTrailingZeros_0f7a4_20 ?_
    refine lv_icmp_le (tgt := 34) hx hb dJ6_numberOfTrailingZeros_0f7a4_23 (by decide) (fun hc => ?_) (fun hc => ?_)
    · have h := if_t hc h
      exact hB34 ((p0 ^^^ (-1 : Int32)) &&& (p0 - (1 : Int32))) (1 : Int32) H locs ls hP hD hS (lv_sub hl [1, 0] rfl) h
    · have h := if_f hc h
      refine lv_iinc (v := ((1 : Int32) + (16 : Int32))) (lv' := [(1, .int ((1 : Int32) + (16 : Int32))), (0, .int ((p0 ^^^ (-1 : Int32)) &&& (p0 - (1 : Int32))))]) hx hb dJ6_numberOfTrailingZeros_0f7a4_26 hl (k := 0) rfl rfl (by decide) rfl (fun ls hl => ?_)
      refine lv_iload_n hx hb dJ6_numberOfTrailingZeros_0f7a4_29 rfl (lv_at hl 1 rfl) ?_
      refine lv_bipush (v := 16) hx hb dJ6_numberOfTrailingZeros_0f7a4_30 (by decide) ?_
      refine lv_iushr (v := (jushr ((p0 ^^^ (-1 : Int32)) &&& (p0 - (1 : Int32))) (16 : Int32))) hx hb dJ6_numberOfTrailingZeros_0f7a4_32 rfl ?_
      refine lv_istore_n (lv' := [(0, .int (jushr ((p0 ^^^ (-1 : Int32)) &&& (p0 - (1 : Int32))) (16 : Int32))), (1, .int ((1 : Int32) + (16 : Int32)))]) hx hb dJ6_numberOfTrailingZeros_0f7a4_33 rfl hl (by decide) rfl (fun ls hl => ?_)
      exact hB34 (jushr ((p0 ^^^ (-1 : Int32)) &&& (p0 - (1 : Int32))) (16 : Int32)) ((1 : Int32) + (16 : Int32)) H locs ls hP hD hS hl h
  · have h := if_f hc h
    refine lv_iload_n hx hb dJ6_numberOfTrailingZeros_0f7a4_12 rfl (lv_at hl 0 rfl) ?_
    refine lv_bipush (v := 32) hx hb dJ6_numberOfTrailingZeros_0f7a4_13 (by decide) ?_
    refine lv_iand hx hb dJ6_numberOfTrailingZeros_0f7a4_15 ?_
    cases h
    rw [hQQ]
    exact gw_iret hx hb hr hlocks hP hD hS dJ6_numberOfTrailingZeros_0f7a4_16
theorem hdS_J6_numberOfTrailingZeros_0f7a4 : yJ6_numberOfTrailingZeros_0f7a4.cls ≠ "java/lang/invoke/MethodHandle" ∧ yJ6_numberOfTrailingZeros_0f7a4.cls ≠ "java/lang/invoke/VarHandle" ∧ (parseMethodDescriptor yJ6_numberOfTrailingZeros_0f7a4.desc).map (fun d => d.parameters.length) = some 1 := by decide +kernel
def B_X4_attempt_98 (v_shelf_flakes : (Nat → Int32)) (v_shelf_leaks : (Nat → Int32)) (v_shelf_music : Int32) (p1 : Int32) (p2 : Int32) (p3 : Int32) (v_shelf_water : (Nat → Int32)) (v_shelf_flying : (Nat → Int32)) (v_shelf_cloudy : (Nat → Int32)) (v_shelf_content : (Nat → Int32)) (v_shelf_in : (Nat → Int32)) (v_shelf_there : Int32) (v_shelf_taxes : Int32) (v_shelf_hour : Int32) (v_acts : Int32) (v_badAct : Int32) (v_reason : Int32) (v_freeAct : Int32) (v_freeGlobe : Int32) : Option ((Nat → Int32) × (Nat → Int32) × (Nat → Int32) × (Nat → Int32) × (Nat → Int32) × Int32 × Int32 × Int32 × Int32 × Int32 × Int32 × Int32 × Int32) := (some (v_shelf_water, v_shelf_flying, v_shelf_cloudy, v_shelf_content, v_shelf_in, v_shelf_there, v_shelf_taxes, v_shelf_hour, (v_acts + (1 : Int32)), v_badAct, v_reason, v_freeAct, v_freeGlobe))
def f_X4_attempt (v_shelf_water : (Nat → Int32)) (v_shelf_flakes : (Nat → Int32)) (v_shelf_flying : (Nat → Int32)) (v_shelf_leaks : (Nat → Int32)) (v_shelf_cloudy : (Nat → Int32)) (v_shelf_content : (Nat → Int32)) (v_shelf_in : (Nat → Int32)) (v_shelf_there : Int32) (v_shelf_music : Int32) (v_shelf_taxes : Int32) (v_shelf_hour : Int32) (v_acts : Int32) (v_badAct : Int32) (v_reason : Int32) (v_freeAct : Int32) (v_freeGlobe : Int32) (p1 : Int32) (p2 : Int32) (p3 : Int32) : Option ((Nat → Int32) × (Nat → Int32) × (Nat → Int32) × (Nat → Int32) × (Nat → Int32) × Int32 × Int32 × Int32 × Int32 × Int32 × Int32 × Int32 × Int32) := (bd1 (f_X6_refusal v_shelf_water v_shelf_cloudy v_shelf_in v_shelf_there v_shelf_hour p1 p2 p3) (fun r7 => (if r7 = (-6 : Int32) then (bd1 (f_X6_freeBits v_shelf_water v_shelf_there) (fun r38 => (bd8 (f_X6_perform v_shelf_water v_shelf_flakes v_shelf_flying v_shelf_leaks v_shelf_cloudy v_shelf_content v_shelf_in v_shelf_there v_shelf_music v_shelf_taxes v_shelf_hour p1 p2 p3) (fun u50v_shelf_water u50v_shelf_flying u50v_shelf_cloudy u50v_shelf_content u50v_shelf_in u50v_shelf_there u50v_shelf_taxes u50v_shelf_hour => (bd1 (f_X6_freeBits u50v_shelf_water u50v_shelf_there) (fun r57 => (if (r57 &&& (r38 ^^^ (-1 : Int32))) = (0 : Int32) then (B_X4_attempt_98 v_shelf_flakes v_shelf_leaks v_shelf_music p1 p2 p3 u50v_shelf_water u50v_shelf_flying u50v_shelf_cloudy u50v_shelf_content u50v_shelf_in u50v_shelf_there u50v_shelf_taxes u50v_shelf_hour v_acts v_badAct v_reason v_freeAct v_freeGlobe) else (if v_freeAct = (-6 : Int32) then (bd1 (f_J6_numberOfTrailingZeros_0f7a4 (r57 &&& (r38 ^^^ (-1 : Int32)))) (fun r92 => (B_X4_attempt_98 v_shelf_flakes v_shelf_leaks v_shelf_music p1 p2 p3 u50v_shelf_water u50v_shelf_flying u50v_shelf_cloudy u50v_shelf_content u50v_shelf_in u50v_shelf_there u50v_shelf_taxes u50v_shelf_hour v_acts v_badAct v_reason v_acts r92))) else (B_X4_attempt_98 v_shelf_flakes v_shelf_leaks v_shelf_music p1 p2 p3 u50v_shelf_water u50v_shelf_flying u50v_shelf_cloudy u50v_shelf_content u50v_shelf_in u50v_shelf_there u50v_shelf_taxes u50v_shelf_hour v_acts v_badAct v_reason v_freeAct v_freeGlobe))))))))) else (some (v_shelf_water, v_shelf_flying, v_shelf_cloudy, v_shelf_content, v_shelf_in, v_shelf_there, v_shelf_taxes, v_shelf_hour, v_acts, v_acts, r7, v_freeAct, v_freeGlobe)))))
abbrev rm_X4_attempt : Room := { frames := 4, cells := 0, slots := 0, locals := 91 }
set_option maxHeartbeats 4000000 in
set_option maxRecDepth 100000 in
theorem C_X4_attempt (l : Launch) (D : va_G) (cI cJ cZ : ClassId) (sz : Nat) (qt qt_shelf qt_shelf_water qt_shelf_flakes qt_shelf_flying qt_shelf_leaks qt_shelf_cloudy qt_shelf_content qt_shelf_in : Nat) (v_shelf_water : (Nat → Int32)) (v_shelf_flakes : (Nat → Int32)) (v_shelf_flying : (Nat → Int32)) (v_shelf_leaks : (Nat → Int32)) (v_shelf_cloudy : (Nat → Int32)) (v_shelf_content : (Nat → Int32)) (v_shelf_in : (Nat → Int32)) (v_shelf_there : Int32) (v_shelf_music : Int32) (v_shelf_taxes : Int32) (v_shelf_hour : Int32) (v_hasFault : Int32) (v_acts : Int32) (v_badAct : Int32) (v_reason : Int32) (v_freeAct : Int32) (v_freeGlobe : Int32) (p1 : Int32) (p2 : Int32) (p3 : Int32) (w_shelf_water : (Nat → Int32)) (w_shelf_flying : (Nat → Int32)) (w_shelf_cloudy : (Nat → Int32)) (w_shelf_content : (Nat → Int32)) (w_shelf_in : (Nat → Int32)) (w_shelf_there : Int32) (w_shelf_taxes : Int32) (w_shelf_hour : Int32) (w_acts : Int32) (w_badAct : Int32) (w_reason : Int32) (w_freeAct : Int32) (w_freeGlobe : Int32) (hf : f_X4_attempt v_shelf_water v_shelf_flakes v_shelf_flying v_shelf_leaks v_shelf_cloudy v_shelf_content v_shelf_in v_shelf_there v_shelf_music v_shelf_taxes v_shelf_hour v_acts v_badAct v_reason v_freeAct v_freeGlobe p1 p2 p3 = some (w_shelf_water, w_shelf_flying, w_shelf_cloudy, w_shelf_content, w_shelf_in, w_shelf_there, w_shelf_taxes, w_shelf_hour, w_acts, w_badAct, w_reason, w_freeAct, w_freeGlobe)) : Met l yX4_attempt wsX4_attempt rm_X4_attempt (PR D cI cJ cZ [(qt, .inr (3, [.ref qt_shelf, .int v_hasFault, .int v_acts, .int v_badAct, .int v_reason, .int v_freeAct, .int v_freeGlobe])), (qt_shelf, .inr (5, [.ref qt_shelf_water, .ref qt_shelf_flakes, .ref qt_shelf_flying, .ref qt_shelf_leaks, .ref qt_shelf_cloudy, .ref qt_shelf_content, .ref qt_shelf_in, .int v_shelf_there, .int v_shelf_music, .int v_shelf_taxes, .int v_shelf_hour])), (qt_shelf_water, .inl (cI, 8, .inl v_shelf_water)), (qt_shelf_flakes, .inl (cI, 8, .inl v_shelf_flakes)), (qt_shelf_flying, .inl (cI, 8, .inl v_shelf_flying)), (qt_shelf_leaks, .inl (cI, 8, .inl v_shelf_leaks)), (qt_shelf_cloudy, .inl (cI, 8, .inl v_shelf_cloudy)), (qt_shelf_content, .inl (cI, 8, .inl v_shelf_content)), (qt_shelf_in, .inl (cI, 8, .inl v_shelf_in))] sz [.ref qt, .int p1, .int p2, .int p3]) (QV D (va_A [(qt, .inr (3, [.ref qt_shelf, .int v_hasFault, .int v_acts, .int v_badAct, .int v_reason, .int v_freeAct, .int v_freeGlobe])), (qt_shelf, .inr (5, [.ref qt_shelf_water, .ref qt_shelf_flakes, .ref qt_shelf_flying, .ref qt_shelf_leaks, .ref qt_shelf_cloudy, .ref qt_shelf_content, .ref qt_shelf_in, .int v_shelf_there, .int v_shelf_music, .int v_shelf_taxes, .int v_shelf_hour])), (qt_shelf_water, .inl (cI, 8, .inl v_shelf_water)), (qt_shelf_flakes, .inl (cI, 8, .inl v_shelf_flakes)), (qt_shelf_flying, .inl (cI, 8, .inl v_shelf_flying)), (qt_shelf_leaks, .inl (cI, 8, .inl v_shelf_leaks)), (qt_shelf_cloudy, .inl (cI, 8, .inl v_shelf_cloudy)), (qt_shelf_content, .inl (cI, 8, .inl v_shelf_content)), (qt_shelf_in, .inl (cI, 8, .inl v_shelf_in))] sz) [(qt, .inr (3, [.ref qt_shelf, .int v_hasFault, .int w_acts, .int w_badAct, .int w_reason, .int w_freeAct, .int w_freeGlobe])), (qt_shelf, .inr (5, [.ref qt_shelf_water, .ref qt_shelf_flakes, .ref qt_shelf_flying, .ref qt_shelf_leaks, .ref qt_shelf_cloudy, .ref qt_shelf_content, .ref qt_shelf_in, .int w_shelf_there, .int v_shelf_music, .int w_shelf_taxes, .int w_shelf_hour])), (qt_shelf_water, .inl (cI, 8, .inl w_shelf_water)), (qt_shelf_flakes, .inl (cI, 8, .inl v_shelf_flakes)), (qt_shelf_flying, .inl (cI, 8, .inl w_shelf_flying)), (qt_shelf_leaks, .inl (cI, 8, .inl v_shelf_leaks)), (qt_shelf_cloudy, .inl (cI, 8, .inl w_shelf_cloudy)), (qt_shelf_content, .inl (cI, 8, .inl w_shelf_content)), (qt_shelf_in, .inl (cI, 8, .inl w_shelf_in))]) 0 0 (va_A [(qt, .inr (3, [.ref qt_shelf, .int v_hasFault, .int v_acts, .int v_badAct, .int v_reason, .int v_freeAct, .int v_freeGlobe])), (qt_shelf, .inr (5, [.ref qt_shelf_water, .ref qt_shelf_flakes, .ref qt_shelf_flying, .ref qt_shelf_leaks, .ref qt_shelf_cloudy, .ref qt_shelf_content, .ref qt_shelf_in, .int v_shelf_there, .int v_shelf_music, .int v_shelf_taxes, .int v_shelf_hour])), (qt_shelf_water, .inl (cI, 8, .inl v_shelf_water)), (qt_shelf_flakes, .inl (cI, 8, .inl v_shelf_flakes)), (qt_shelf_flying, .inl (cI, 8, .inl v_shelf_flying)), (qt_shelf_leaks, .inl (cI, 8, .inl v_shelf_leaks)), (qt_shelf_cloudy, .inl (cI, 8, .inl v_shelf_cloudy)), (qt_shelf_content, .inl (cI, 8, .inl v_shelf_content)), (qt_shelf_in, .inl (cI, 8, .inl v_shelf_in))] sz) := by
  refine Met.ofW (cc := cX4_attempt) (maxL := 7) (ret := none) (by decide) rfl ?_
  intro p e s m args below meth c s₁ B hml hv
  obtain ⟨hav, hsz, hP, hD0, hE⟩ := hv
  have hx := B.exec
  have hb := B.bytes
  have hr := B.returns
  have hts := atoms_spec (ws := wsX4_attempt) B.pre
  have hown : s.vm.findClass RX4 = some m.cls := findClass_of_methodNamed B.named
  have hlocks := B.notSynchronized
  subst hsz
  have hD := hD0.self (sz := s.heap.size)
  generalize hAe : va_A [(qt, .inr (3, [.ref qt_shelf, .int v_hasFault, .int v_acts, .int v_badAct, .int v_reason, .int v_freeAct, .int v_freeGlobe])), (qt_shelf, .inr (5, [.ref qt_shelf_water, .ref qt_shelf_flakes, .ref qt_shelf_flying, .ref qt_shelf_leaks, .ref qt_shelf_cloudy, .ref qt_shelf_content, .ref qt_shelf_in, .int v_shelf_there, .int v_shelf_music, .int v_shelf_taxes, .int v_shelf_hour])), (qt_shelf_water, .inl (cI, 8, .inl v_shelf_water)), (qt_shelf_flakes, .inl (cI, 8, .inl v_shelf_flakes)), (qt_shelf_flying, .inl (cI, 8, .inl v_shelf_flying)), (qt_shelf_leaks, .inl (cI, 8, .inl v_shelf_leaks)), (qt_shelf_cloudy, .inl (cI, 8, .inl v_shelf_cloudy)), (qt_shelf_content, .inl (cI, 8, .inl v_shelf_content)), (qt_shelf_in, .inl (cI, 8, .inl v_shelf_in))] s.heap.size = A at hD ⊢
  have hA : ∀ q : Nat, s.heap.size ≤ q → A q := fun q h => by rw [← hAe]; exact Or.inr h
  have hS : va_S A s.heap s.heap [] := va_S.rf
  have hl := lv_entry ([.ref qt, .int p1, .int p2, .int p3]) (n := 7) (Nat.le_of_ble_eq_true rfl)
  have hfr : entryFrame m args 7 = entryFrame m ([.ref qt, .int p1, .int p2, .int p3] : List Value).toArray 7 := by rw [hav]
  rw [hfr, lg_entry_eq]
  generalize (lg_sl ([.ref qt, .int p1, .int p2, .int p3]) ++ List.replicate (7 - (lg_sl ([.ref qt, .int p1, .int p2, .int p3])).length) Slot.unset).toArray = ls at hl ⊢
  have hl : lv_has ls 7 [(0, .ref qt), (1, .int p1), (2, .int p2), (3, .int p3)] := hl
  obtain ⟨QQ, hQQ⟩ : ∃ QQ, QQ = MQ below (QV D A [(qt, .inr (3, [.ref qt_shelf, .int v_hasFault, .int w_acts, .int w_badAct, .int w_reason, .int w_freeAct, .int w_freeGlobe])), (qt_shelf, .inr (5, [.ref qt_shelf_water, .ref qt_shelf_flakes, .ref qt_shelf_flying, .ref qt_shelf_leaks, .ref qt_shelf_cloudy, .ref qt_shelf_content, .ref qt_shelf_in, .int w_shelf_there, .int v_shelf_music, .int w_shelf_taxes, .int w_shelf_hour])), (qt_shelf_water, .inl (cI, 8, .inl w_shelf_water)), (qt_shelf_flakes, .inl (cI, 8, .inl v_shelf_flakes)), (qt_shelf_flying, .inl (cI, 8, .inl w_shelf_flying)), (qt_shelf_leaks, .inl (cI, 8, .inl v_shelf_leaks)), (qt_shelf_cloudy, .inl (cI, 8, .inl w_shelf_cloudy)), (qt_shelf_content, .inl (cI, 8, .inl w_shelf_content)), (qt_shelf_in, .inl (cI, 8, .inl w_shelf_in))]) args s 0 0 A := ⟨_, rfl⟩
  show W p l e rm_X4_attempt s m args below meth c s.heap [] 0 0 _ _
  rw [← hQQ]
  have hB98 : ∀ (v_shelf_water : (Nat → Int32)) (v_shelf_flying : (Nat → Int32)) (v_shelf_cloudy : (Nat → Int32)) (v_shelf_content : (Nat → Int32)) (v_shelf_in : (Nat → Int32)) (v_shelf_there : Int32) (v_shelf_taxes : Int32) (v_shelf_hour : Int32) (v_acts : Int32) (v_badAct : Int32) (v_reason : Int32) (v_freeAct : Int32) (v_freeGlobe : Int32) (H : Heap) (locs : List Loc) (ls : Array Slot), va_P D vwCl [(qt, .inr (3, [.ref qt_shelf, .int v_hasFault, .int v_acts, .int v_badAct, .int v_reason, .int v_freeAct, .int v_freeGlobe])), (qt_shelf, .inr (5, [.ref qt_shelf_water, .ref qt_shelf_flakes, .ref qt_shelf_flying, .ref qt_shelf_leaks, .ref qt_shelf_cloudy, .ref qt_shelf_content, .ref qt_shelf_in, .int v_shelf_there, .int v_shelf_music, .int v_shelf_taxes, .int v_shelf_hour])), (qt_shelf_water, .inl (cI, 8, .inl v_shelf_water)), (qt_shelf_flakes, .inl (cI, 8, .inl v_shelf_flakes)), (qt_shelf_flying, .inl (cI, 8, .inl v_shelf_flying)), (qt_shelf_leaks, .inl (cI, 8, .inl v_shelf_leaks)), (qt_shelf_cloudy, .inl (cI, 8, .inl v_shelf_cloudy)), (qt_shelf_content, .inl (cI, 8, .inl v_shelf_content)), (qt_shelf_in, .inl (cI, 8, .inl v_shelf_in))] H → va_D A [(qt, .inr (3, [.ref qt_shelf, .int v_hasFault, .int v_acts, .int v_badAct, .int v_reason, .int v_freeAct, .int v_freeGlobe])), (qt_shelf, .inr (5, [.ref qt_shelf_water, .ref qt_shelf_flakes, .ref qt_shelf_flying, .ref qt_shelf_leaks, .ref qt_shelf_cloudy, .ref qt_shelf_content, .ref qt_shelf_in, .int v_shelf_there, .int v_shelf_music, .int v_shelf_taxes, .int v_shelf_hour])), (qt_shelf_water, .inl (cI, 8, .inl v_shelf_water)), (qt_shelf_flakes, .inl (cI, 8, .inl v_shelf_flakes)), (qt_shelf_flying, .inl (cI, 8, .inl v_shelf_flying)), (qt_shelf_leaks, .inl (cI, 8, .inl v_shelf_leaks)), (qt_shelf_cloudy, .inl (cI, 8, .inl v_shelf_cloudy)), (qt_shelf_content, .inl (cI, 8, .inl v_shelf_content)), (qt_shelf_in, .inl (cI, 8, .inl v_shelf_in))] → va_S A s.heap H locs → lv_has ls 7 [(0, .ref qt)] → B_X4_attempt_98 v_shelf_flakes v_shelf_leaks v_shelf_music p1 p2 p3 v_shelf_water v_shelf_flying v_shelf_cloudy v_shelf_content v_shelf_in v_shelf_there v_shelf_taxes v_shelf_hour v_acts v_badAct v_reason v_freeAct v_freeGlobe = some (w_shelf_water, w_shelf_flying, w_shelf_cloudy, w_shelf_content, w_shelf_in, w_shelf_there, w_shelf_taxes, w_shelf_hour, w_acts, w_badAct, w_reason, w_freeAct, w_freeGlobe) → W p l e rm_X4_attempt s m args below meth c H locs 0 0 QQ (F0 m 98 ls []) := by
    intro v_shelf_water v_shelf_flying v_shelf_cloudy v_shelf_content v_shelf_in v_shelf_there v_shelf_taxes v_shelf_hour v_acts v_badAct v_reason v_freeAct v_freeGlobe H locs ls hP hD hS hl h
    unfold B_X4_attempt_98 at h
    refine lv_aload_n hx hb dX4_attempt_98 rfl (lv_at hl 0 rfl) ?_
    refine lv_dup hx hb dX4_attempt_99 rfl ?_
    refine va_get (D := D) (ci := 3) (C := RX4) (T := TX4) (N := 7) hx hb hts (fun _ hw => (List.mem_cons_of_mem _ (List.mem_append_left _ (List.mem_append_right _ hw)))) hown hE.1 hP 0 rfl rfl 2 (by decide) (hts (.fieldLink RX4 32 "GlobeCrown$Reign" "acts" "I") (List.mem_cons_of_mem _ (List.mem_append_left _ (List.mem_append_left _ (List.mem_append_left _ (List.mem_of_getElem? (i := 1) rfl)))))) (fun _ h9 => h9) rfl dX4_attempt_100 ?_
    refine lv_iconst (v := 1) hx hb dX4_attempt_103 (by decide) ?_
    refine lv_iadd hx hb dX4_attempt_104 ?_
    refine va_put (D := D) (ci := 3) (v := .int (v_acts + (1 : Int32))) (ty := .int) (C := RX4) (T := TX4) (N := 7) hx hb hts (fun _ hw => (List.mem_cons_of_mem _ (List.mem_append_left _ (List.mem_append_right _ hw)))) tyX4 tyX4_ok nmX4 hown hE.1 hP hD hS 0 rfl rfl 2 (by decide) (hts (.fieldLink RX4 32 "GlobeCrown$Reign" "acts" "I") (List.mem_cons_of_mem _ (List.mem_append_left _ (List.mem_append_left _ (List.mem_append_left _ (List.mem_of_getElem? (i := 1) rfl)))))) (fun _ h9 => h9) rfl (tyX4_ok 2 (by decide)) rfl rfl (Nat.le_of_ble_eq_true rfl) dX4_attempt_105 (fun H locs (hP : va_P D vwCl [(qt, .inr (3, [.ref qt_shelf, .int v_hasFault, .int (v_acts + (1 : Int32)), .int v_badAct, .int v_reason, .int v_freeAct, .int v_freeGlobe])), (qt_shelf, .inr (5, [.ref qt_shelf_water, .ref qt_shelf_flakes, .ref qt_shelf_flying, .ref qt_shelf_leaks, .ref qt_shelf_cloudy, .ref qt_shelf_content, .ref qt_shelf_in, .int v_shelf_there, .int v_shelf_music, .int v_shelf_taxes, .int v_shelf_hour])), (qt_shelf_water, .inl (cI, 8, .inl v_shelf_water)), (qt_shelf_flakes, .inl (cI, 8, .inl v_shelf_flakes)), (qt_shelf_flying, .inl (cI, 8, .inl v_shelf_flying)), (qt_shelf_leaks, .inl (cI, 8, .inl v_shelf_leaks)), (qt_shelf_cloudy, .inl (cI, 8, .inl v_shelf_cloudy)), (qt_shelf_content, .inl (cI, 8, .inl v_shelf_content)), (qt_shelf_in, .inl (cI, 8, .inl v_shelf_in))] H) (hD : va_D A [(qt, .inr (3, [.ref qt_shelf, .int v_hasFault, .int (v_acts + (1 : Int32)), .int v_badAct, .int v_reason, .int v_freeAct, .int v_freeGlobe])), (qt_shelf, .inr (5, [.ref qt_shelf_water, .ref qt_shelf_flakes, .ref qt_shelf_flying, .ref qt_shelf_leaks, .ref qt_shelf_cloudy, .ref qt_shelf_content, .ref qt_shelf_in, .int v_shelf_there, .int v_shelf_music, .int v_shelf_taxes, .int v_shelf_hour])), (qt_shelf_water, .inl (cI, 8, .inl v_shelf_water)), (qt_shelf_flakes, .inl (cI, 8, .inl v_shelf_flakes)), (qt_shelf_flying, .inl (cI, 8, .inl v_shelf_flying)), (qt_shelf_leaks, .inl (cI, 8, .inl v_shelf_leaks)), (qt_shelf_cloudy, .inl (cI, 8, .inl v_shelf_cloudy)), (qt_shelf_content, .inl (cI, 8, .inl v_shelf_content)), (qt_shelf_in, .inl (cI, 8, .inl v_shelf_in))]) hS => ?_)
    cases h
    rw [hQQ]
    exact gw_vret hx hb hr hlocks hP hD hS dX4_attempt_108
  have h := hf
  unfold f_X4_attempt at h
  refine gw_start hP hD hS (fun H locs hP hD hS => ?_)
  refine lv_aload_n hx hb dX4_attempt_0 rfl (lv_at hl 0 rfl) ?_
  refine va_get (D := D) (ci := 3) (C := RX4) (T := TX4) (N := 7) hx hb hts (fun _ hw => (List.mem_cons_of_mem _ (List.mem_append_left _ (List.mem_append_right _ hw)))) hown hE.1 hP 0 rfl rfl 0 (by decide) (hts (.fieldLink RX4 12 "GlobeCrown$Reign" "shelf" "LGlobeCrown$Shelf;") (List.mem_cons_of_mem _ (List.mem_append_left _ (List.mem_append_left _ (List.mem_append_left _ (List.mem_of_getElem? (i := 0) rfl)))))) (fun _ h9 => h9) rfl dX4_attempt_1 ?_
  refine lv_iload_n hx hb dX4_attempt_4 rfl (lv_at hl 1 rfl) ?_
  refine lv_iload_n hx hb dX4_attempt_5 rfl (lv_at hl 2 rfl) ?_
  refine lv_iload_n hx hb dX4_attempt_6 rfl (lv_at hl 3 rfl) ?_
  obtain ⟨r7, hc7, h⟩ := bd1_some h
  refine gw_ci (wr := [(qt, .inr (3, [.ref qt_shelf, .int v_hasFault, .int v_acts, .int v_badAct, .int v_reason, .int v_freeAct, .int v_freeGlobe])), (qt_shelf_flakes, .inl (cI, 8, .inl v_shelf_flakes)), (qt_shelf_flying, .inl (cI, 8, .inl v_shelf_flying)), (qt_shelf_leaks, .inl (cI, 8, .inl v_shelf_leaks)), (qt_shelf_content, .inl (cI, 8, .inl v_shelf_content))]) (w2 := [(qt, .inr (3, [.ref qt_shelf, .int v_hasFault, .int v_acts, .int v_badAct, .int v_reason, .int v_freeAct, .int v_freeGlobe])), (qt_shelf_flakes, .inl (cI, 8, .inl v_shelf_flakes)), (qt_shelf_flying, .inl (cI, 8, .inl v_shelf_flying)), (qt_shelf_leaks, .inl (cI, 8, .inl v_shelf_leaks)), (qt_shelf_content, .inl (cI, 8, .inl v_shelf_content)), (qt_shelf, .inr (5, [.ref qt_shelf_water, .ref qt_shelf_flakes, .ref qt_shelf_flying, .ref qt_shelf_leaks, .ref qt_shelf_cloudy, .ref qt_shelf_content, .ref qt_shelf_in, .int v_shelf_there, .int v_shelf_music, .int v_shelf_taxes, .int v_shelf_hour])), (qt_shelf_water, .inl (cI, 8, .inl v_shelf_water)), (qt_shelf_cloudy, .inl (cI, 8, .inl v_shelf_cloudy)), (qt_shelf_in, .inl (cI, 8, .inl v_shelf_in))]) (gw_rV (n := 3) ⟨hx, hb, hml, hown, hts⟩ (C_X6_refusal l D cI cJ cZ H.size qt_shelf qt_shelf_water qt_shelf_flakes qt_shelf_flying qt_shelf_leaks qt_shelf_cloudy qt_shelf_content qt_shelf_in v_shelf_water v_shelf_cloudy v_shelf_in v_shelf_there v_shelf_music v_shelf_taxes v_shelf_hour p1 p2 p3 r7 hc7) gX4_attempt_X6_refusal rfl rfl rfl hdV_X6_refusal ⟨Nat.le_of_ble_eq_true rfl, Nat.le_of_ble_eq_true rfl⟩ hE (hP.sub [1, 2, 6, 8] rfl) (hD.sub [1, 2, 6, 8] (by decide) rfl) 5 rfl 0 rfl rfl hl.1 (rest := []) rfl (Nat.le_of_ble_eq_true rfl) dX4_attempt_7 ⟨Nat.zero_le _, Nat.zero_le _⟩) hP hD hS hA [1, 2, 6, 8] [0, 3, 4, 5, 7] rfl rfl rfl (by decide) rfl (fun H locs hP hD hS => ?_)
  refine lv_istore (lv' := [(4, .int r7), (0, .ref qt), (1, .int p1), (2, .int p2), (3, .int p3)]) hx hb dX4_attempt_10 hl (by decide) rfl (fun ls hl => ?_)
  refine lv_iload hx hb dX4_attempt_12 (lv_at hl 0 rfl) ?_
  refine lv_bipush (v := -6) hx hb dX4_attempt_14 (by decide) ?_
  refine lv_icmp_eq (tgt := 34) hx hb dX4_attempt_16 (by decide) (fun hc => ?_) (fun hc => ?_)
  · have h := if_t hc h
    refine lv_aload_n hx hb dX4_attempt_34 rfl (lv_at hl 1 rfl) ?_
    refine va_get (D := D) (ci := 3) (C := RX4) (T := TX4) (N := 7) hx hb hts (fun _ hw => (List.mem_cons_of_mem _ (List.mem_append_left _ (List.mem_append_right _ hw)))) hown hE.1 hP 0 rfl rfl 0 (by decide) (hts (.fieldLink RX4 12 "GlobeCrown$Reign" "shelf" "LGlobeCrown$Shelf;") (List.mem_cons_of_mem _ (List.mem_append_left _ (List.mem_append_left _ (List.mem_append_left _ (List.mem_of_getElem? (i := 0) rfl)))))) (fun _ h9 => h9) rfl dX4_attempt_35 ?_
    obtain ⟨r38, hc38, h⟩ := bd1_some h
    refine gw_ci (wr := [(qt, .inr (3, [.ref qt_shelf, .int v_hasFault, .int v_acts, .int v_badAct, .int v_reason, .int v_freeAct, .int v_freeGlobe])), (qt_shelf_flakes, .inl (cI, 8, .inl v_shelf_flakes)), (qt_shelf_flying, .inl (cI, 8, .inl v_shelf_flying)), (qt_shelf_leaks, .inl (cI, 8, .inl v_shelf_leaks)), (qt_shelf_content, .inl (cI, 8, .inl v_shelf_content)), (qt_shelf_cloudy, .inl (cI, 8, .inl v_shelf_cloudy)), (qt_shelf_in, .inl (cI, 8, .inl v_shelf_in))]) (w2 := [(qt, .inr (3, [.ref qt_shelf, .int v_hasFault, .int v_acts, .int v_badAct, .int v_reason, .int v_freeAct, .int v_freeGlobe])), (qt_shelf_flakes, .inl (cI, 8, .inl v_shelf_flakes)), (qt_shelf_flying, .inl (cI, 8, .inl v_shelf_flying)), (qt_shelf_leaks, .inl (cI, 8, .inl v_shelf_leaks)), (qt_shelf_content, .inl (cI, 8, .inl v_shelf_content)), (qt_shelf_cloudy, .inl (cI, 8, .inl v_shelf_cloudy)), (qt_shelf_in, .inl (cI, 8, .inl v_shelf_in)), (qt_shelf, .inr (5, [.ref qt_shelf_water, .ref qt_shelf_flakes, .ref qt_shelf_flying, .ref qt_shelf_leaks, .ref qt_shelf_cloudy, .ref qt_shelf_content, .ref qt_shelf_in, .int v_shelf_there, .int v_shelf_music, .int v_shelf_taxes, .int v_shelf_hour])), (qt_shelf_water, .inl (cI, 8, .inl v_shelf_water))]) (gw_rV (n := 0) ⟨hx, hb, hml, hown, hts⟩ (C_X6_freeBits l D cI cJ cZ H.size qt_shelf qt_shelf_water qt_shelf_flakes qt_shelf_flying qt_shelf_leaks qt_shelf_cloudy qt_shelf_content qt_shelf_in v_shelf_water v_shelf_there v_shelf_music v_shelf_taxes v_shelf_hour r38 hc38) gX4_attempt_X6_freeBits rfl rfl rfl hdV_X6_freeBits ⟨Nat.le_of_ble_eq_true rfl, Nat.le_of_ble_eq_true rfl⟩ hE (hP.sub [5, 6] rfl) (hD.sub [5, 6] (by decide) rfl) 5 rfl 0 rfl rfl hl.1 (rest := []) rfl (Nat.le_of_ble_eq_true rfl) dX4_attempt_38 ⟨Nat.zero_le _, Nat.zero_le _⟩) hP hD hS hA [5, 6] [0, 1, 2, 3, 4, 7, 8] rfl rfl rfl (by decide) rfl (fun H locs hP hD hS => ?_)
    refine lv_istore (lv' := [(5, .int r38), (4, .int r7), (0, .ref qt), (1, .int p1), (2, .int p2), (3, .int p3)]) hx hb dX4_attempt_41 hl (by decide) rfl (fun ls hl => ?_)
    refine lv_aload_n hx hb dX4_attempt_43 rfl (lv_at hl 2 rfl) ?_
    refine va_get (D := D) (ci := 3) (C := RX4) (T := TX4) (N := 7) hx hb hts (fun _ hw => (List.mem_cons_of_mem _ (List.mem_append_left _ (List.mem_append_right _ hw)))) hown hE.1 hP 0 rfl rfl 0 (by decide) (hts (.fieldLink RX4 12 "GlobeCrown$Reign" "shelf" "LGlobeCrown$Shelf;") (List.mem_cons_of_mem _ (List.mem_append_left _ (List.mem_append_left _ (List.mem_append_left _ (List.mem_of_getElem? (i := 0) rfl)))))) (fun _ h9 => h9) rfl dX4_attempt_44 ?_
    refine lv_iload_n hx hb dX4_attempt_47 rfl (lv_at hl 3 rfl) ?_
    refine lv_iload_n hx hb dX4_attempt_48 rfl (lv_at hl 4 rfl) ?_
    refine lv_iload_n hx hb dX4_attempt_49 rfl (lv_at hl 5 rfl) ?_
    obtain ⟨u50v_shelf_water, u50v_shelf_flying, u50v_shelf_cloudy, u50v_shelf_content, u50v_shelf_in, u50v_shelf_there, u50v_shelf_taxes, u50v_shelf_hour, hc50, h⟩ := bd8_some h
    refine gw_cv (wr := [(qt, .inr (3, [.ref qt_shelf, .int v_hasFault, .int v_acts, .int v_badAct, .int v_reason, .int v_freeAct, .int v_freeGlobe]))]) (w2 := [(qt, .inr (3, [.ref qt_shelf, .int v_hasFault, .int v_acts, .int v_badAct, .int v_reason, .int v_freeAct, .int v_freeGlobe])), (qt_shelf, .inr (5, [.ref qt_shelf_water, .ref qt_shelf_flakes, .ref qt_shelf_flying, .ref qt_shelf_leaks, .ref qt_shelf_cloudy, .ref qt_shelf_content, .ref qt_shelf_in, .int u50v_shelf_there, .int v_shelf_music, .int u50v_shelf_taxes, .int u50v_shelf_hour])), (qt_shelf_water, .inl (cI, 8, .inl u50v_shelf_water)), (qt_shelf_flakes, .inl (cI, 8, .inl v_shelf_flakes)), (qt_shelf_flying, .inl (cI, 8, .inl u50v_shelf_flying)), (qt_shelf_leaks, .inl (cI, 8, .inl v_shelf_leaks)), (qt_shelf_cloudy, .inl (cI, 8, .inl u50v_shelf_cloudy)), (qt_shelf_content, .inl (cI, 8, .inl u50v_shelf_content)), (qt_shelf_in, .inl (cI, 8, .inl u50v_shelf_in))]) (gw_rV (n := 3) ⟨hx, hb, hml, hown, hts⟩ (C_X6_perform l D cI cJ cZ H.size qt_shelf qt_shelf_water qt_shelf_flakes qt_shelf_flying qt_shelf_leaks qt_shelf_cloudy qt_shelf_content qt_shelf_in v_shelf_water v_shelf_flakes v_shelf_flying v_shelf_leaks v_shelf_cloudy v_shelf_content v_shelf_in v_shelf_there v_shelf_music v_shelf_taxes v_shelf_hour p1 p2 p3 u50v_shelf_water u50v_shelf_flying u50v_shelf_cloudy u50v_shelf_content u50v_shelf_in u50v_shelf_there u50v_shelf_taxes u50v_shelf_hour hc50) gX4_attempt_X6_perform rfl rfl rfl hdV_X6_perform ⟨Nat.le_of_ble_eq_true rfl, Nat.le_of_ble_eq_true rfl⟩ hE (hP.sub [7, 8, 1, 2, 3, 5, 4, 6] rfl) (hD.sub [7, 8, 1, 2, 3, 5, 4, 6] (by decide) rfl) 5 rfl 0 rfl rfl hl.1 (rest := []) rfl (Nat.le_of_ble_eq_true rfl) dX4_attempt_50 ⟨Nat.zero_le _, Nat.zero_le _⟩) hP hD hS hA [7, 8, 1, 2, 3, 5, 4, 6] [0] rfl rfl rfl (by decide) rfl (fun H locs hP hD hS => ?_)
    refine lv_aload_n hx hb dX4_attempt_53 rfl (lv_at hl 2 rfl) ?_
    refine va_get (D := D) (ci := 3) (C := RX4) (T := TX4) (N := 7) hx hb hts (fun _ hw => (List.mem_cons_of_mem _ (List.mem_append_left _ (List.mem_append_right _ hw)))) hown hE.1 hP 0 rfl rfl 0 (by decide) (hts (.fieldLink RX4 12 "GlobeCrown$Reign" "shelf" "LGlobeCrown$Shelf;") (List.mem_cons_of_mem _ (List.mem_append_left _ (List.mem_append_left _ (List.mem_append_left _ (List.mem_of_getElem? (i := 0) rfl)))))) (fun _ h9 => h9) rfl dX4_attempt_54 ?_
    obtain ⟨r57, hc57, h⟩ := bd1_some h
    refine gw_ci (wr := [(qt, .inr (3, [.ref qt_shelf, .int v_hasFault, .int v_acts, .int v_badAct, .int v_reason, .int v_freeAct, .int v_freeGlobe])), (qt_shelf_flakes, .inl (cI, 8, .inl v_shelf_flakes)), (qt_shelf_flying, .inl (cI, 8, .inl u50v_shelf_flying)), (qt_shelf_leaks, .inl (cI, 8, .inl v_shelf_leaks)), (qt_shelf_cloudy, .inl (cI, 8, .inl u50v_shelf_cloudy)), (qt_shelf_content, .inl (cI, 8, .inl u50v_shelf_content)), (qt_shelf_in, .inl (cI, 8, .inl u50v_shelf_in))]) (w2 := [(qt, .inr (3, [.ref qt_shelf, .int v_hasFault, .int v_acts, .int v_badAct, .int v_reason, .int v_freeAct, .int v_freeGlobe])), (qt_shelf_flakes, .inl (cI, 8, .inl v_shelf_flakes)), (qt_shelf_flying, .inl (cI, 8, .inl u50v_shelf_flying)), (qt_shelf_leaks, .inl (cI, 8, .inl v_shelf_leaks)), (qt_shelf_cloudy, .inl (cI, 8, .inl u50v_shelf_cloudy)), (qt_shelf_content, .inl (cI, 8, .inl u50v_shelf_content)), (qt_shelf_in, .inl (cI, 8, .inl u50v_shelf_in)), (qt_shelf, .inr (5, [.ref qt_shelf_water, .ref qt_shelf_flakes, .ref qt_shelf_flying, .ref qt_shelf_leaks, .ref qt_shelf_cloudy, .ref qt_shelf_content, .ref qt_shelf_in, .int u50v_shelf_there, .int v_shelf_music, .int u50v_shelf_taxes, .int u50v_shelf_hour])), (qt_shelf_water, .inl (cI, 8, .inl u50v_shelf_water))]) (gw_rV (n := 0) ⟨hx, hb, hml, hown, hts⟩ (C_X6_freeBits l D cI cJ cZ H.size qt_shelf qt_shelf_water qt_shelf_flakes qt_shelf_flying qt_shelf_leaks qt_shelf_cloudy qt_shelf_content qt_shelf_in u50v_shelf_water u50v_shelf_there v_shelf_music u50v_shelf_taxes u50v_shelf_hour r57 hc57) gX4_attempt_X6_freeBits rfl rfl rfl hdV_X6_freeBits ⟨Nat.le_of_ble_eq_true rfl, Nat.le_of_ble_eq_true rfl⟩ hE (hP.sub [1, 2] rfl) (hD.sub [1, 2] (by decide) rfl) 5 rfl 0 rfl rfl hl.1 (rest := []) rfl (Nat.le_of_ble_eq_true rfl) dX4_attempt_57 ⟨Nat.zero_le _, Nat.zero_le _⟩) hP hD hS hA [1, 2] [0, 3, 4, 5, 6, 7, 8] rfl rfl rfl (by decide) rfl (fun H locs hP hD hS => ?_)
    refine lv_iload hx hb dX4_attempt_60 (lv_at hl 0 rfl) ?_
    refine lv_iconst (v := -1) hx hb dX4_attempt_62 (by decide) ?_
    refine lv_ixor hx hb dX4_attempt_63 ?_
    refine lv_iand hx hb dX4_attempt_64 ?_
    refine lv_istore (lv' := [(6, .int (r57 &&& (r38 ^^^ (-1 : Int32)))), (5, .int r38), (4, .int r7), (0, .ref qt), (1, .int p1), (2, .int p2), (3, .int p3)]) hx hb dX4_attempt_65 hl (by decide) rfl (fun ls hl => ?_)
    refine lv_iload hx hb dX4_attempt_67 (lv_at hl 0 rfl) ?_
    refine lv_if_eq (tgt := 98) hx hb dX4_attempt_69 (by decide) (fun hc => ?_) (fun hc => ?_)
    · have h := if_t hc h
      exact hB98 u50v_shelf_water u50v_shelf_flying u50v_shelf_cloudy u50v_shelf_content u50v_shelf_in u50v_shelf_there u50v_shelf_taxes u50v_shelf_hour v_acts v_badAct v_reason v_freeAct v_freeGlobe H locs ls (hP.sub [0, 7, 8, 1, 2, 3, 4, 5, 6] rfl) (hD.sub [0, 7, 8, 1, 2, 3, 4, 5, 6] (by decide) rfl) hS (lv_sub hl [3] rfl) h
    · have h := if_f hc h
      refine lv_aload_n hx hb dX4_attempt_72 rfl (lv_at hl 3 rfl) ?_
      refine va_get (D := D) (ci := 3) (C := RX4) (T := TX4) (N := 7) hx hb hts (fun _ hw => (List.mem_cons_of_mem _ (List.mem_append_left _ (List.mem_append_right _ hw)))) hown hE.1 hP 0 rfl rfl 5 (by decide) (hts (.fieldLink RX4 42 "GlobeCrown$Reign" "freeAct" "I") (List.mem_cons_of_mem _ (List.mem_append_left _ (List.mem_append_left _ (List.mem_append_left _ (List.mem_of_getElem? (i := 4) rfl)))))) (fun _ h9 => h9) rfl dX4_attempt_73 ?_
      refine lv_bipush (v := -6) hx hb dX4_attempt_76 (by decide) ?_
      refine lv_icmp_ne (tgt := 98) hx hb dX4_attempt_78 (by decide) (fun hc => ?_) (fun hc => ?_)
      · have h := if_f hc h
        exact hB98 u50v_shelf_water u50v_shelf_flying u50v_shelf_cloudy u50v_shelf_content u50v_shelf_in u50v_shelf_there u50v_shelf_taxes u50v_shelf_hour v_acts v_badAct v_reason v_freeAct v_freeGlobe H locs ls (hP.sub [0, 7, 8, 1, 2, 3, 4, 5, 6] rfl) (hD.sub [0, 7, 8, 1, 2, 3, 4, 5, 6] (by decide) rfl) hS (lv_sub hl [3] rfl) h
      · have h := if_t hc h
        refine lv_aload_n hx hb dX4_attempt_81 rfl (lv_at hl 3 rfl) ?_
        refine lv_aload_n hx hb dX4_attempt_82 rfl (lv_at hl 3 rfl) ?_
        refine va_get (D := D) (ci := 3) (C := RX4) (T := TX4) (N := 7) hx hb hts (fun _ hw => (List.mem_cons_of_mem _ (List.mem_append_left _ (List.mem_append_right _ hw)))) hown hE.1 hP 0 rfl rfl 2 (by decide) (hts (.fieldLink RX4 32 "GlobeCrown$Reign" "acts" "I") (List.mem_cons_of_mem _ (List.mem_append_left _ (List.mem_append_left _ (List.mem_append_left _ (List.mem_of_getElem? (i := 1) rfl)))))) (fun _ h9 => h9) rfl dX4_attempt_83 ?_
        refine va_put (D := D) (ci := 3) (v := .int v_acts) (ty := .int) (C := RX4) (T := TX4) (N := 7) hx hb hts (fun _ hw => (List.mem_cons_of_mem _ (List.mem_append_left _ (List.mem_append_right _ hw)))) tyX4 tyX4_ok nmX4 hown hE.1 hP hD hS 0 rfl rfl 5 (by decide) (hts (.fieldLink RX4 42 "GlobeCrown$Reign" "freeAct" "I") (List.mem_cons_of_mem _ (List.mem_append_left _ (List.mem_append_left _ (List.mem_append_left _ (List.mem_of_getElem? (i := 4) rfl)))))) (fun _ h9 => h9) rfl (tyX4_ok 5 (by decide)) rfl rfl (Nat.le_of_ble_eq_true rfl) dX4_attempt_86 (fun H locs (hP : va_P D vwCl [(qt, .inr (3, [.ref qt_shelf, .int v_hasFault, .int v_acts, .int v_badAct, .int v_reason, .int v_acts, .int v_freeGlobe])), (qt_shelf_flakes, .inl (cI, 8, .inl v_shelf_flakes)), (qt_shelf_flying, .inl (cI, 8, .inl u50v_shelf_flying)), (qt_shelf_leaks, .inl (cI, 8, .inl v_shelf_leaks)), (qt_shelf_cloudy, .inl (cI, 8, .inl u50v_shelf_cloudy)), (qt_shelf_content, .inl (cI, 8, .inl u50v_shelf_content)), (qt_shelf_in, .inl (cI, 8, .inl u50v_shelf_in)), (qt_shelf, .inr (5, [.ref qt_shelf_water, .ref qt_shelf_flakes, .ref qt_shelf_flying, .ref qt_shelf_leaks, .ref qt_shelf_cloudy, .ref qt_shelf_content, .ref qt_shelf_in, .int u50v_shelf_there, .int v_shelf_music, .int u50v_shelf_taxes, .int u50v_shelf_hour])), (qt_shelf_water, .inl (cI, 8, .inl u50v_shelf_water))] H) (hD : va_D A [(qt, .inr (3, [.ref qt_shelf, .int v_hasFault, .int v_acts, .int v_badAct, .int v_reason, .int v_acts, .int v_freeGlobe])), (qt_shelf_flakes, .inl (cI, 8, .inl v_shelf_flakes)), (qt_shelf_flying, .inl (cI, 8, .inl u50v_shelf_flying)), (qt_shelf_leaks, .inl (cI, 8, .inl v_shelf_leaks)), (qt_shelf_cloudy, .inl (cI, 8, .inl u50v_shelf_cloudy)), (qt_shelf_content, .inl (cI, 8, .inl u50v_shelf_content)), (qt_shelf_in, .inl (cI, 8, .inl u50v_shelf_in)), (qt_shelf, .inr (5, [.ref qt_shelf_water, .ref qt_shelf_flakes, .ref qt_shelf_flying, .ref qt_shelf_leaks, .ref qt_shelf_cloudy, .ref qt_shelf_content, .ref qt_shelf_in, .int u50v_shelf_there, .int v_shelf_music, .int u50v_shelf_taxes, .int u50v_shelf_hour])), (qt_shelf_water, .inl (cI, 8, .inl u50v_shelf_water))]) hS => ?_)
        refine lv_aload_n hx hb dX4_attempt_89 rfl (lv_at hl 3 rfl) ?_
        refine lv_iload hx hb dX4_attempt_90 (lv_at hl 0 rfl) ?_
        obtain ⟨r92, hc92, h⟩ := bd1_some h
        refine gw_ci (wr := [(qt, .inr (3, [.ref qt_shelf, .int v_hasFault, .int v_acts, .int v_badAct, .int v_reason, .int v_acts, .int v_freeGlobe])), (qt_shelf_flakes, .inl (cI, 8, .inl v_shelf_flakes)), (qt_shelf_flying, .inl (cI, 8, .inl u50v_shelf_flying)), (qt_shelf_leaks, .inl (cI, 8, .inl v_shelf_leaks)), (qt_shelf_cloudy, .inl (cI, 8, .inl u50v_shelf_cloudy)), (qt_shelf_content, .inl (cI, 8, .inl u50v_shelf_content)), (qt_shelf_in, .inl (cI, 8, .inl u50v_shelf_in)), (qt_shelf, .inr (5, [.ref qt_shelf_water, .ref qt_shelf_flakes, .ref qt_shelf_flying, .ref qt_shelf_leaks, .ref qt_shelf_cloudy, .ref qt_shelf_content, .ref qt_shelf_in, .int u50v_shelf_there, .int v_shelf_music, .int u50v_shelf_taxes, .int u50v_shelf_hour])), (qt_shelf_water, .inl (cI, 8, .inl u50v_shelf_water))]) (w2 := [(qt, .inr (3, [.ref qt_shelf, .int v_hasFault, .int v_acts, .int v_badAct, .int v_reason, .int v_acts, .int v_freeGlobe])), (qt_shelf_flakes, .inl (cI, 8, .inl v_shelf_flakes)), (qt_shelf_flying, .inl (cI, 8, .inl u50v_shelf_flying)), (qt_shelf_leaks, .inl (cI, 8, .inl v_shelf_leaks)), (qt_shelf_cloudy, .inl (cI, 8, .inl u50v_shelf_cloudy)), (qt_shelf_content, .inl (cI, 8, .inl u50v_shelf_content)), (qt_shelf_in, .inl (cI, 8, .inl u50v_shelf_in)), (qt_shelf, .inr (5, [.ref qt_shelf_water, .ref qt_shelf_flakes, .ref qt_shelf_flying, .ref qt_shelf_leaks, .ref qt_shelf_cloudy, .ref qt_shelf_content, .ref qt_shelf_in, .int u50v_shelf_there, .int v_shelf_music, .int u50v_shelf_taxes, .int u50v_shelf_hour])), (qt_shelf_water, .inl (cI, 8, .inl u50v_shelf_water))]) (gw_rS (n := 1) ⟨hx, hb, hml, hown, hts⟩ (C_J6_numberOfTrailingZeros_0f7a4 l D cI cJ cZ H.size (r57 &&& (r38 ^^^ (-1 : Int32))) r92 hc92) gX4_attempt_J6_numberOfTrailingZeros_0f7a4 rfl rfl rfl hdS_J6_numberOfTrailingZeros_0f7a4 ⟨Nat.le_of_ble_eq_true rfl, Nat.le_of_ble_eq_true rfl⟩ hE (hP.sub [] rfl) (hD.sub [] (by decide) rfl) rfl hl.1 (rest := [.ref qt]) rfl (Nat.le_of_ble_eq_true rfl) dX4_attempt_92 ⟨Nat.zero_le _, Nat.zero_le _⟩) hP hD hS hA [] [0, 1, 2, 3, 4, 5, 6, 7, 8] rfl rfl rfl (by decide) rfl (fun H locs hP hD hS => ?_)
        refine va_put (D := D) (ci := 3) (v := .int r92) (ty := .int) (C := RX4) (T := TX4) (N := 7) hx hb hts (fun _ hw => (List.mem_cons_of_mem _ (List.mem_append_left _ (List.mem_append_right _ hw)))) tyX4 tyX4_ok nmX4 hown hE.1 hP hD hS 0 rfl rfl 6 (by decide) (hts (.fieldLink RX4 45 "GlobeCrown$Reign" "freeGlobe" "I") (List.mem_cons_of_mem _ (List.mem_append_left _ (List.mem_append_left _ (List.mem_append_left _ (List.mem_of_getElem? (i := 5) rfl)))))) (fun _ h9 => h9) rfl (tyX4_ok 6 (by decide)) rfl rfl (Nat.le_of_ble_eq_true rfl) dX4_attempt_95 (fun H locs (hP : va_P D vwCl [(qt, .inr (3, [.ref qt_shelf, .int v_hasFault, .int v_acts, .int v_badAct, .int v_reason, .int v_acts, .int r92])), (qt_shelf_flakes, .inl (cI, 8, .inl v_shelf_flakes)), (qt_shelf_flying, .inl (cI, 8, .inl u50v_shelf_flying)), (qt_shelf_leaks, .inl (cI, 8, .inl v_shelf_leaks)), (qt_shelf_cloudy, .inl (cI, 8, .inl u50v_shelf_cloudy)), (qt_shelf_content, .inl (cI, 8, .inl u50v_shelf_content)), (qt_shelf_in, .inl (cI, 8, .inl u50v_shelf_in)), (qt_shelf, .inr (5, [.ref qt_shelf_water, .ref qt_shelf_flakes, .ref qt_shelf_flying, .ref qt_shelf_leaks, .ref qt_shelf_cloudy, .ref qt_shelf_content, .ref qt_shelf_in, .int u50v_shelf_there, .int v_shelf_music, .int u50v_shelf_taxes, .int u50v_shelf_hour])), (qt_shelf_water, .inl (cI, 8, .inl u50v_shelf_water))] H) (hD : va_D A [(qt, .inr (3, [.ref qt_shelf, .int v_hasFault, .int v_acts, .int v_badAct, .int v_reason, .int v_acts, .int r92])), (qt_shelf_flakes, .inl (cI, 8, .inl v_shelf_flakes)), (qt_shelf_flying, .inl (cI, 8, .inl u50v_shelf_flying)), (qt_shelf_leaks, .inl (cI, 8, .inl v_shelf_leaks)), (qt_shelf_cloudy, .inl (cI, 8, .inl u50v_shelf_cloudy)), (qt_shelf_content, .inl (cI, 8, .inl u50v_shelf_content)), (qt_shelf_in, .inl (cI, 8, .inl u50v_shelf_in)), (qt_shelf, .inr (5, [.ref qt_shelf_water, .ref qt_shelf_flakes, .ref qt_shelf_flying, .ref qt_shelf_leaks, .ref qt_shelf_cloudy, .ref qt_shelf_content, .ref qt_shelf_in, .int u50v_shelf_there, .int v_shelf_music, .int u50v_shelf_taxes, .int u50v_shelf_hour])), (qt_shelf_water, .inl (cI, 8, .inl u50v_shelf_water))]) hS => ?_)
        exact hB98 u50v_shelf_water u50v_shelf_flying u50v_shelf_cloudy u50v_shelf_content u50v_shelf_in u50v_shelf_there u50v_shelf_taxes u50v_shelf_hour v_acts v_badAct v_reason v_acts r92 H locs ls (hP.sub [0, 7, 8, 1, 2, 3, 4, 5, 6] rfl) (hD.sub [0, 7, 8, 1, 2, 3, 4, 5, 6] (by decide) rfl) hS (lv_sub hl [3] rfl) h
  · have h := if_f hc h
    refine lv_aload_n hx hb dX4_attempt_19 rfl (lv_at hl 1 rfl) ?_
    refine lv_aload_n hx hb dX4_attempt_20 rfl (lv_at hl 1 rfl) ?_
    refine va_get (D := D) (ci := 3) (C := RX4) (T := TX4) (N := 7) hx hb hts (fun _ hw => (List.mem_cons_of_mem _ (List.mem_append_left _ (List.mem_append_right _ hw)))) hown hE.1 hP 0 rfl rfl 2 (by decide) (hts (.fieldLink RX4 32 "GlobeCrown$Reign" "acts" "I") (List.mem_cons_of_mem _ (List.mem_append_left _ (List.mem_append_left _ (List.mem_append_left _ (List.mem_of_getElem? (i := 1) rfl)))))) (fun _ h9 => h9) rfl dX4_attempt_21 ?_
    refine va_put (D := D) (ci := 3) (v := .int v_acts) (ty := .int) (C := RX4) (T := TX4) (N := 7) hx hb hts (fun _ hw => (List.mem_cons_of_mem _ (List.mem_append_left _ (List.mem_append_right _ hw)))) tyX4 tyX4_ok nmX4 hown hE.1 hP hD hS 0 rfl rfl 3 (by decide) (hts (.fieldLink RX4 36 "GlobeCrown$Reign" "badAct" "I") (List.mem_cons_of_mem _ (List.mem_append_left _ (List.mem_append_left _ (List.mem_append_left _ (List.mem_of_getElem? (i := 2) rfl)))))) (fun _ h9 => h9) rfl (tyX4_ok 3 (by decide)) rfl rfl (Nat.le_of_ble_eq_true rfl) dX4_attempt_24 (fun H locs (hP : va_P D vwCl [(qt, .inr (3, [.ref qt_shelf, .int v_hasFault, .int v_acts, .int v_acts, .int v_reason, .int v_freeAct, .int v_freeGlobe])), (qt_shelf_flakes, .inl (cI, 8, .inl v_shelf_flakes)), (qt_shelf_flying, .inl (cI, 8, .inl v_shelf_flying)), (qt_shelf_leaks, .inl (cI, 8, .inl v_shelf_leaks)), (qt_shelf_content, .inl (cI, 8, .inl v_shelf_content)), (qt_shelf, .inr (5, [.ref qt_shelf_water, .ref qt_shelf_flakes, .ref qt_shelf_flying, .ref qt_shelf_leaks, .ref qt_shelf_cloudy, .ref qt_shelf_content, .ref qt_shelf_in, .int v_shelf_there, .int v_shelf_music, .int v_shelf_taxes, .int v_shelf_hour])), (qt_shelf_water, .inl (cI, 8, .inl v_shelf_water)), (qt_shelf_cloudy, .inl (cI, 8, .inl v_shelf_cloudy)), (qt_shelf_in, .inl (cI, 8, .inl v_shelf_in))] H) (hD : va_D A [(qt, .inr (3, [.ref qt_shelf, .int v_hasFault, .int v_acts, .int v_acts, .int v_reason, .int v_freeAct, .int v_freeGlobe])), (qt_shelf_flakes, .inl (cI, 8, .inl v_shelf_flakes)), (qt_shelf_flying, .inl (cI, 8, .inl v_shelf_flying)), (qt_shelf_leaks, .inl (cI, 8, .inl v_shelf_leaks)), (qt_shelf_content, .inl (cI, 8, .inl v_shelf_content)), (qt_shelf, .inr (5, [.ref qt_shelf_water, .ref qt_shelf_flakes, .ref qt_shelf_flying, .ref qt_shelf_leaks, .ref qt_shelf_cloudy, .ref qt_shelf_content, .ref qt_shelf_in, .int v_shelf_there, .int v_shelf_music, .int v_shelf_taxes, .int v_shelf_hour])), (qt_shelf_water, .inl (cI, 8, .inl v_shelf_water)), (qt_shelf_cloudy, .inl (cI, 8, .inl v_shelf_cloudy)), (qt_shelf_in, .inl (cI, 8, .inl v_shelf_in))]) hS => ?_)
    refine lv_aload_n hx hb dX4_attempt_27 rfl (lv_at hl 1 rfl) ?_
    refine lv_iload hx hb dX4_attempt_28 (lv_at hl 0 rfl) ?_
    refine va_put (D := D) (ci := 3) (v := .int r7) (ty := .int) (C := RX4) (T := TX4) (N := 7) hx hb hts (fun _ hw => (List.mem_cons_of_mem _ (List.mem_append_left _ (List.mem_append_right _ hw)))) tyX4 tyX4_ok nmX4 hown hE.1 hP hD hS 0 rfl rfl 4 (by decide) (hts (.fieldLink RX4 39 "GlobeCrown$Reign" "reason" "I") (List.mem_cons_of_mem _ (List.mem_append_left _ (List.mem_append_left _ (List.mem_append_left _ (List.mem_of_getElem? (i := 3) rfl)))))) (fun _ h9 => h9) rfl (tyX4_ok 4 (by decide)) rfl rfl (Nat.le_of_ble_eq_true rfl) dX4_attempt_30 (fun H locs (hP : va_P D vwCl [(qt, .inr (3, [.ref qt_shelf, .int v_hasFault, .int v_acts, .int v_acts, .int r7, .int v_freeAct, .int v_freeGlobe])), (qt_shelf_flakes, .inl (cI, 8, .inl v_shelf_flakes)), (qt_shelf_flying, .inl (cI, 8, .inl v_shelf_flying)), (qt_shelf_leaks, .inl (cI, 8, .inl v_shelf_leaks)), (qt_shelf_content, .inl (cI, 8, .inl v_shelf_content)), (qt_shelf, .inr (5, [.ref qt_shelf_water, .ref qt_shelf_flakes, .ref qt_shelf_flying, .ref qt_shelf_leaks, .ref qt_shelf_cloudy, .ref qt_shelf_content, .ref qt_shelf_in, .int v_shelf_there, .int v_shelf_music, .int v_shelf_taxes, .int v_shelf_hour])), (qt_shelf_water, .inl (cI, 8, .inl v_shelf_water)), (qt_shelf_cloudy, .inl (cI, 8, .inl v_shelf_cloudy)), (qt_shelf_in, .inl (cI, 8, .inl v_shelf_in))] H) (hD : va_D A [(qt, .inr (3, [.ref qt_shelf, .int v_hasFault, .int v_acts, .int v_acts, .int r7, .int v_freeAct, .int v_freeGlobe])), (qt_shelf_flakes, .inl (cI, 8, .inl v_shelf_flakes)), (qt_shelf_flying, .inl (cI, 8, .inl v_shelf_flying)), (qt_shelf_leaks, .inl (cI, 8, .inl v_shelf_leaks)), (qt_shelf_content, .inl (cI, 8, .inl v_shelf_content)), (qt_shelf, .inr (5, [.ref qt_shelf_water, .ref qt_shelf_flakes, .ref qt_shelf_flying, .ref qt_shelf_leaks, .ref qt_shelf_cloudy, .ref qt_shelf_content, .ref qt_shelf_in, .int v_shelf_there, .int v_shelf_music, .int v_shelf_taxes, .int v_shelf_hour])), (qt_shelf_water, .inl (cI, 8, .inl v_shelf_water)), (qt_shelf_cloudy, .inl (cI, 8, .inl v_shelf_cloudy)), (qt_shelf_in, .inl (cI, 8, .inl v_shelf_in))]) hS => ?_)
    cases h
    rw [hQQ]
    exact gw_vret hx hb hr hlocks (hP.sub [0, 5, 6, 1, 2, 3, 7, 4, 8] rfl) (hD.sub [0, 5, 6, 1, 2, 3, 7, 4, 8] (by decide) rfl) hS dX4_attempt_33
theorem hdV_X4_attempt : yX4_attempt.cls = RX4 ∧ yX4_attempt.cls ≠ "java/lang/invoke/MethodHandle" ∧ yX4_attempt.cls ≠ "java/lang/invoke/VarHandle" ∧ (parseMethodDescriptor yX4_attempt.desc).map (fun d => d.parameters.length) = some 3 := by decide +kernel
