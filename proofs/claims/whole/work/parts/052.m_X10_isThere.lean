def f_X10_isThere (v_book : (Nat → Int32)) (p1 : Int32) : Option (Int32) := (bd1 (f_X10_in p1 (0 : Int32) (7 : Int32)) (fun r4 => (if r4 = (0 : Int32) then (some (0 : Int32)) else (bd1 (f_X10_has (v_book (Int32.toNatClampNeg (40 : Int32))) p1) (fun r18 => (if r18 = (0 : Int32) then (some (0 : Int32)) else (some (1 : Int32))))))))
abbrev rm_X10_isThere : Room := { frames := 1, cells := 0, slots := 0, locals := 22 }
set_option maxHeartbeats 4000000 in
set_option maxRecDepth 100000 in
theorem C_X10_isThere (l : Launch) (D : va_G) (cI cJ cZ : ClassId) (sz : Nat) (qt qt_book qt_now qt_flakes qt_leaks qt_ranks qt_sight qt_pad qt_gets qt_counts qt_worth qt_ways qt_image qt_isKept : Nat) (v_book : (Nat → Int32)) (v_music : Int32) (v_sights : Int32) (v_signs : Int32) (v_freeAt : Int32) (v_freeWho : Int32) (v_reason : Int32) (v_acts : Int32) (p1 : Int32) (r : Int32) (hf : f_X10_isThere v_book p1 = some r) : Met l yX10_isThere wsX10_isThere rm_X10_isThere (PR D cI cJ cZ [(qt, .inr (9, [.ref qt_book, .ref qt_now, .ref qt_flakes, .ref qt_leaks, .int v_music, .ref qt_ranks, .int v_sights, .ref qt_sight, .int v_signs, .ref qt_pad, .int v_freeAt, .int v_freeWho, .int v_reason, .int v_acts, .ref qt_gets, .ref qt_counts, .ref qt_worth, .ref qt_ways, .ref qt_image, .ref qt_isKept])), (qt_book, .inl (cI, 43, .inl v_book))] sz [.ref qt, .int p1]) (QI D (va_A [(qt, .inr (9, [.ref qt_book, .ref qt_now, .ref qt_flakes, .ref qt_leaks, .int v_music, .ref qt_ranks, .int v_sights, .ref qt_sight, .int v_signs, .ref qt_pad, .int v_freeAt, .int v_freeWho, .int v_reason, .int v_acts, .ref qt_gets, .ref qt_counts, .ref qt_worth, .ref qt_ways, .ref qt_image, .ref qt_isKept])), (qt_book, .inl (cI, 43, .inl v_book))] sz) r [(qt, .inr (9, [.ref qt_book, .ref qt_now, .ref qt_flakes, .ref qt_leaks, .int v_music, .ref qt_ranks, .int v_sights, .ref qt_sight, .int v_signs, .ref qt_pad, .int v_freeAt, .int v_freeWho, .int v_reason, .int v_acts, .ref qt_gets, .ref qt_counts, .ref qt_worth, .ref qt_ways, .ref qt_image, .ref qt_isKept])), (qt_book, .inl (cI, 43, .inl v_book))]) 0 0 (va_A [(qt, .inr (9, [.ref qt_book, .ref qt_now, .ref qt_flakes, .ref qt_leaks, .int v_music, .ref qt_ranks, .int v_sights, .ref qt_sight, .int v_signs, .ref qt_pad, .int v_freeAt, .int v_freeWho, .int v_reason, .int v_acts, .ref qt_gets, .ref qt_counts, .ref qt_worth, .ref qt_ways, .ref qt_image, .ref qt_isKept])), (qt_book, .inl (cI, 43, .inl v_book))] sz) := by
  refine Met.ofW (cc := cX10_isThere) (maxL := 2) (ret := (some .boolean)) (by decide) rfl ?_
  intro p e s m args below meth c s₁ B hml hv
  obtain ⟨hav, hsz, hP, hD0, hE⟩ := hv
  have hx := B.exec
  have hb := B.bytes
  have hr := B.returns
  have hts := atoms_spec (ws := wsX10_isThere) B.pre
  have hown : s.vm.findClass RX10 = some m.cls := findClass_of_methodNamed B.named
  have hlocks := B.notSynchronized
  subst hsz
  have hD := hD0.self (sz := s.heap.size)
  generalize hAe : va_A [(qt, .inr (9, [.ref qt_book, .ref qt_now, .ref qt_flakes, .ref qt_leaks, .int v_music, .ref qt_ranks, .int v_sights, .ref qt_sight, .int v_signs, .ref qt_pad, .int v_freeAt, .int v_freeWho, .int v_reason, .int v_acts, .ref qt_gets, .ref qt_counts, .ref qt_worth, .ref qt_ways, .ref qt_image, .ref qt_isKept])), (qt_book, .inl (cI, 43, .inl v_book))] s.heap.size = A at hD ⊢
  have hA : ∀ q : Nat, s.heap.size ≤ q → A q := fun q h => by rw [← hAe]; exact Or.inr h
  have hS : va_S A s.heap s.heap [] := va_S.rf
  have hl := lv_entry ([.ref qt, .int p1]) (n := 2) (Nat.le_of_ble_eq_true rfl)
  have hfr : entryFrame m args 2 = entryFrame m ([.ref qt, .int p1] : List Value).toArray 2 := by rw [hav]
  rw [hfr, lg_entry_eq]
  generalize (lg_sl ([.ref qt, .int p1]) ++ List.replicate (2 - (lg_sl ([.ref qt, .int p1])).length) Slot.unset).toArray = ls at hl ⊢
  have hl : lv_has ls 2 [(0, .ref qt), (1, .int p1)] := hl
  obtain ⟨QQ, hQQ⟩ : ∃ QQ, QQ = MQ below (QI D A r [(qt, .inr (9, [.ref qt_book, .ref qt_now, .ref qt_flakes, .ref qt_leaks, .int v_music, .ref qt_ranks, .int v_sights, .ref qt_sight, .int v_signs, .ref qt_pad, .int v_freeAt, .int v_freeWho, .int v_reason, .int v_acts, .ref qt_gets, .ref qt_counts, .ref qt_worth, .ref qt_ways, .ref qt_image, .ref qt_isKept])), (qt_book, .inl (cI, 43, .inl v_book))]) args s 0 0 A := ⟨_, rfl⟩
  show W p l e rm_X10_isThere s m args below meth c s.heap [] 0 0 _ _
  rw [← hQQ]
  have h := hf
  unfold f_X10_isThere at h
  refine gw_start hP hD hS (fun H locs hP hD hS => ?_)
  refine lv_iload_n hx hb dX10_isThere_0 rfl (lv_at hl 1 rfl) ?_
  refine lv_iconst (v := 0) hx hb dX10_isThere_1 (by decide) ?_
  refine lv_bipush (v := 7) hx hb dX10_isThere_2 (by decide) ?_
  obtain ⟨r4, hc4, h⟩ := bd1_some h
  refine gw_ci (wr := [(qt, .inr (9, [.ref qt_book, .ref qt_now, .ref qt_flakes, .ref qt_leaks, .int v_music, .ref qt_ranks, .int v_sights, .ref qt_sight, .int v_signs, .ref qt_pad, .int v_freeAt, .int v_freeWho, .int v_reason, .int v_acts, .ref qt_gets, .ref qt_counts, .ref qt_worth, .ref qt_ways, .ref qt_image, .ref qt_isKept])), (qt_book, .inl (cI, 43, .inl v_book))]) (w2 := [(qt, .inr (9, [.ref qt_book, .ref qt_now, .ref qt_flakes, .ref qt_leaks, .int v_music, .ref qt_ranks, .int v_sights, .ref qt_sight, .int v_signs, .ref qt_pad, .int v_freeAt, .int v_freeWho, .int v_reason, .int v_acts, .ref qt_gets, .ref qt_counts, .ref qt_worth, .ref qt_ways, .ref qt_image, .ref qt_isKept])), (qt_book, .inl (cI, 43, .inl v_book))]) (gw_rS (n := 3) ⟨hx, hb, hml, hown, hts⟩ (C_X10_in l D cI cJ cZ H.size p1 (0 : Int32) (7 : Int32) r4 hc4) gX10_isThere_X10_in rfl rfl rfl hdS_X10_in ⟨Nat.le_of_ble_eq_true rfl, Nat.le_of_ble_eq_true rfl⟩ hE (hP.sub [] rfl) (hD.sub [] (by decide) rfl) rfl hl.1 (rest := []) rfl (Nat.le_of_ble_eq_true rfl) dX10_isThere_4 ⟨Nat.zero_le _, Nat.zero_le _⟩) hP hD hS hA [] [0, 1] rfl rfl rfl (by decide) rfl (fun H locs hP hD hS => ?_)
  refine lv_if_eq (tgt := 28) hx hb dX10_isThere_7 (by decide) (fun hc => ?_) (fun hc => ?_)
  · have h := if_t hc h
    refine lv_iconst (v := 0) hx hb dX10_isThere_28 (by decide) ?_
    cases h
    rw [hQQ]
    exact gw_zret hx hb hr hlocks (by decide) hP hD hS dX10_isThere_29
  · have h := if_f hc h
    refine lv_aload_n hx hb dX10_isThere_10 rfl (lv_at hl 0 rfl) ?_
    refine va_get (D := D) (ci := 9) (C := RX10) (T := TX10) (N := 20) hx hb hts (fun _ hw => (List.mem_cons_of_mem _ (List.mem_append_right _ hw))) hown hE.1 hP 0 rfl rfl 0 (by decide) (hts (.fieldLink RX10 7 "GlobeCrownModel" "book" "[I") (List.mem_cons_of_mem _ (List.mem_append_left _ (List.mem_of_getElem? (i := 0) rfl)))) (fun _ h9 => h9) rfl dX10_isThere_11 ?_
    refine lv_bipush (v := 40) hx hb dX10_isThere_14 (by decide) ?_
    refine va_iald hx hb hE.1 hP 1 0 rfl rfl (jinb_in (by decide)) dX10_isThere_16 ?_
    refine lv_iload_n hx hb dX10_isThere_17 rfl (lv_at hl 1 rfl) ?_
    obtain ⟨r18, hc18, h⟩ := bd1_some h
    refine gw_ci (wr := [(qt, .inr (9, [.ref qt_book, .ref qt_now, .ref qt_flakes, .ref qt_leaks, .int v_music, .ref qt_ranks, .int v_sights, .ref qt_sight, .int v_signs, .ref qt_pad, .int v_freeAt, .int v_freeWho, .int v_reason, .int v_acts, .ref qt_gets, .ref qt_counts, .ref qt_worth, .ref qt_ways, .ref qt_image, .ref qt_isKept])), (qt_book, .inl (cI, 43, .inl v_book))]) (w2 := [(qt, .inr (9, [.ref qt_book, .ref qt_now, .ref qt_flakes, .ref qt_leaks, .int v_music, .ref qt_ranks, .int v_sights, .ref qt_sight, .int v_signs, .ref qt_pad, .int v_freeAt, .int v_freeWho, .int v_reason, .int v_acts, .ref qt_gets, .ref qt_counts, .ref qt_worth, .ref qt_ways, .ref qt_image, .ref qt_isKept])), (qt_book, .inl (cI, 43, .inl v_book))]) (gw_rS (n := 2) ⟨hx, hb, hml, hown, hts⟩ (C_X10_has l D cI cJ cZ H.size (v_book (Int32.toNatClampNeg (40 : Int32))) p1 r18 hc18) gX10_isThere_X10_has rfl rfl rfl hdS_X10_has ⟨Nat.le_of_ble_eq_true rfl, Nat.le_of_ble_eq_true rfl⟩ hE (hP.sub [] rfl) (hD.sub [] (by decide) rfl) rfl hl.1 (rest := []) rfl (Nat.le_of_ble_eq_true rfl) dX10_isThere_18 ⟨Nat.zero_le _, Nat.zero_le _⟩) hP hD hS hA [] [0, 1] rfl rfl rfl (by decide) rfl (fun H locs hP hD hS => ?_)
    refine lv_if_eq (tgt := 28) hx hb dX10_isThere_21 (by decide) (fun hc => ?_) (fun hc => ?_)
    · have h := if_t hc h
      refine lv_iconst (v := 0) hx hb dX10_isThere_28 (by decide) ?_
      cases h
      rw [hQQ]
      exact gw_zret hx hb hr hlocks (by decide) hP hD hS dX10_isThere_29
    · have h := if_f hc h
      refine lv_iconst (v := 1) hx hb dX10_isThere_24 (by decide) ?_
      refine lv_goto (tgt := 29) hx hb dX10_isThere_25 (by decide) ?_
      cases h
      rw [hQQ]
      exact gw_zret hx hb hr hlocks (by decide) hP hD hS dX10_isThere_29
theorem hdV_X10_isThere : yX10_isThere.cls = RX10 ∧ yX10_isThere.cls ≠ "java/lang/invoke/MethodHandle" ∧ yX10_isThere.cls ≠ "java/lang/invoke/VarHandle" ∧ (parseMethodDescriptor yX10_isThere.desc).map (fun d => d.parameters.length) = some 1 := by decide +kernel
def B_X10_isWithin_24 (v_now : (Nat → Int32)) (p1 : Int32) (p2 : Int32) (x3 : Int32) : Option (Int32) := (if x3 = p2 then (some (1 : Int32)) else (some (0 : Int32)))
def L_X10_isWithin_2 (v_now : (Nat → Int32)) (p1 : Int32) (p2 : Int32) : Nat → Int32 → Option (Int32)
  | 0, _ => none
  | n + 1, x3 => (if x3 < (0 : Int32) then (B_X10_isWithin_24 v_now p1 p2 x3) else (if x3 = p2 then (B_X10_isWithin_24 v_now p1 p2 x3) else (gin ((32 : Int32) + x3) 43 ((L_X10_isWithin_2 v_now p1 p2 n) (v_now (Int32.toNatClampNeg ((32 : Int32) + x3)))))))
def f_X10_isWithin (v_now : (Nat → Int32)) (p1 : Int32) (p2 : Int32) : Option (Int32) := (L_X10_isWithin_2 v_now p1 p2 FU p1)
abbrev rm_X10_isWithin : Room := { frames := 0, cells := 0, slots := 0, locals := 0 }
set_option maxHeartbeats 4000000 in
set_option maxRecDepth 100000 in
theorem C_X10_isWithin (l : Launch) (D : va_G) (cI cJ cZ : ClassId) (sz : Nat) (qt qt_book qt_now qt_flakes qt_leaks qt_ranks qt_sight qt_pad qt_gets qt_counts qt_worth qt_ways qt_image qt_isKept : Nat) (v_now : (Nat → Int32)) (v_music : Int32) (v_sights : Int32) (v_signs : Int32) (v_freeAt : Int32) (v_freeWho : Int32) (v_reason : Int32) (v_acts : Int32) (p1 : Int32) (p2 : Int32) (r : Int32) (hf : f_X10_isWithin v_now p1 p2 = some r) : Met l yX10_isWithin wsX10_isWithin rm_X10_isWithin (PR D cI cJ cZ [(qt, .inr (9, [.ref qt_book, .ref qt_now, .ref qt_flakes, .ref qt_leaks, .int v_music, .ref qt_ranks, .int v_sights, .ref qt_sight, .int v_signs, .ref qt_pad, .int v_freeAt, .int v_freeWho, .int v_reason, .int v_acts, .ref qt_gets, .ref qt_counts, .ref qt_worth, .ref qt_ways, .ref qt_image, .ref qt_isKept])), (qt_now, .inl (cI, 43, .inl v_now))] sz [.ref qt, .int p1, .int p2]) (QI D (va_A [(qt, .inr (9, [.ref qt_book, .ref qt_now, .ref qt_flakes, .ref qt_leaks, .int v_music, .ref qt_ranks, .int v_sights, .ref qt_sight, .int v_signs, .ref qt_pad, .int v_freeAt, .int v_freeWho, .int v_reason, .int v_acts, .ref qt_gets, .ref qt_counts, .ref qt_worth, .ref qt_ways, .ref qt_image, .ref qt_isKept])), (qt_now, .inl (cI, 43, .inl v_now))] sz) r [(qt, .inr (9, [.ref qt_book, .ref qt_now, .ref qt_flakes, .ref qt_leaks, .int v_music, .ref qt_ranks, .int v_sights, .ref qt_sight, .int v_signs, .ref qt_pad, .int v_freeAt, .int v_freeWho, .int v_reason, .int v_acts, .ref qt_gets, .ref qt_counts, .ref qt_worth, .ref qt_ways, .ref qt_image, .ref qt_isKept])), (qt_now, .inl (cI, 43, .inl v_now))]) 0 0 (va_A [(qt, .inr (9, [.ref qt_book, .ref qt_now, .ref qt_flakes, .ref qt_leaks, .int v_music, .ref qt_ranks, .int v_sights, .ref qt_sight, .int v_signs, .ref qt_pad, .int v_freeAt, .int v_freeWho, .int v_reason, .int v_acts, .ref qt_gets, .ref qt_counts, .ref qt_worth, .ref qt_ways, .ref qt_image, .ref qt_isKept])), (qt_now, .inl (cI, 43, .inl v_now))] sz) := by
  refine Met.ofW (cc := cX10_isWithin) (maxL := 4) (ret := (some .boolean)) (by decide) rfl ?_
  intro p e s m args below meth c s₁ B hml hv
  obtain ⟨hav, hsz, hP, hD0, hE⟩ := hv
  have hx := B.exec
  have hb := B.bytes
  have hr := B.returns
  have hts := atoms_spec (ws := wsX10_isWithin) B.pre
  have hown : s.vm.findClass RX10 = some m.cls := findClass_of_methodNamed B.named
  have hlocks := B.notSynchronized
  subst hsz
  have hD := hD0.self (sz := s.heap.size)
  generalize hAe : va_A [(qt, .inr (9, [.ref qt_book, .ref qt_now, .ref qt_flakes, .ref qt_leaks, .int v_music, .ref qt_ranks, .int v_sights, .ref qt_sight, .int v_signs, .ref qt_pad, .int v_freeAt, .int v_freeWho, .int v_reason, .int v_acts, .ref qt_gets, .ref qt_counts, .ref qt_worth, .ref qt_ways, .ref qt_image, .ref qt_isKept])), (qt_now, .inl (cI, 43, .inl v_now))] s.heap.size = A at hD ⊢
  have hA : ∀ q : Nat, s.heap.size ≤ q → A q := fun q h => by rw [← hAe]; exact Or.inr h
  have hS : va_S A s.heap s.heap [] := va_S.rf
  have hl := lv_entry ([.ref qt, .int p1, .int p2]) (n := 4) (Nat.le_of_ble_eq_true rfl)
  have hfr : entryFrame m args 4 = entryFrame m ([.ref qt, .int p1, .int p2] : List Value).toArray 4 := by rw [hav]
  rw [hfr, lg_entry_eq]
  generalize (lg_sl ([.ref qt, .int p1, .int p2]) ++ List.replicate (4 - (lg_sl ([.ref qt, .int p1, .int p2])).length) Slot.unset).toArray = ls at hl ⊢
  have hl : lv_has ls 4 [(0, .ref qt), (1, .int p1), (2, .int p2)] := hl
  obtain ⟨QQ, hQQ⟩ : ∃ QQ, QQ = MQ below (QI D A r [(qt, .inr (9, [.ref qt_book, .ref qt_now, .ref qt_flakes, .ref qt_leaks, .int v_music, .ref qt_ranks, .int v_sights, .ref qt_sight, .int v_signs, .ref qt_pad, .int v_freeAt, .int v_freeWho, .int v_reason, .int v_acts, .ref qt_gets, .ref qt_counts, .ref qt_worth, .ref qt_ways, .ref qt_image, .ref qt_isKept])), (qt_now, .inl (cI, 43, .inl v_now))]) args s 0 0 A := ⟨_, rfl⟩
  show W p l e rm_X10_isWithin s m args below meth c s.heap [] 0 0 _ _
  rw [← hQQ]
  have hB24 : ∀ (x3 : Int32) (H : Heap) (locs : List Loc) (ls : Array Slot), va_P D vwCl [(qt, .inr (9, [.ref qt_book, .ref qt_now, .ref qt_flakes, .ref qt_leaks, .int v_music, .ref qt_ranks, .int v_sights, .ref qt_sight, .int v_signs, .ref qt_pad, .int v_freeAt, .int v_freeWho, .int v_reason, .int v_acts, .ref qt_gets, .ref qt_counts, .ref qt_worth, .ref qt_ways, .ref qt_image, .ref qt_isKept])), (qt_now, .inl (cI, 43, .inl v_now))] H → va_D A [(qt, .inr (9, [.ref qt_book, .ref qt_now, .ref qt_flakes, .ref qt_leaks, .int v_music, .ref qt_ranks, .int v_sights, .ref qt_sight, .int v_signs, .ref qt_pad, .int v_freeAt, .int v_freeWho, .int v_reason, .int v_acts, .ref qt_gets, .ref qt_counts, .ref qt_worth, .ref qt_ways, .ref qt_image, .ref qt_isKept])), (qt_now, .inl (cI, 43, .inl v_now))] → va_S A s.heap H locs → lv_has ls 4 [(2, .int p2), (3, .int x3)] → B_X10_isWithin_24 v_now p1 p2 x3 = some r → W p l e rm_X10_isWithin s m args below meth c H locs 0 0 QQ (F0 m 24 ls []) := by
    intro x3 H locs ls hP hD hS hl h
    unfold B_X10_isWithin_24 at h
    refine lv_iload_n hx hb dX10_isWithin_24 rfl (lv_at hl 1 rfl) ?_
    refine lv_iload_n hx hb dX10_isWithin_25 rfl (lv_at hl 0 rfl) ?_
    refine lv_icmp_ne (tgt := 33) hx hb dX10_isWithin_26 (by decide) (fun hc => ?_) (fun hc => ?_)
    · have h := if_f hc h
      refine lv_iconst (v := 0) hx hb dX10_isWithin_33 (by decide) ?_
      cases h
      rw [hQQ]
      exact gw_zret hx hb hr hlocks (by decide) hP hD hS dX10_isWithin_34
    · have h := if_t hc h
      refine lv_iconst (v := 1) hx hb dX10_isWithin_29 (by decide) ?_
      refine lv_goto (tgt := 34) hx hb dX10_isWithin_30 (by decide) ?_
      cases h
      rw [hQQ]
      exact gw_zret hx hb hr hlocks (by decide) hP hD hS dX10_isWithin_34
  have hL2 : ∀ (n2 : Nat), ∀ (x3 : Int32) (H : Heap) (locs : List Loc) (ls : Array Slot), va_P D vwCl [(qt, .inr (9, [.ref qt_book, .ref qt_now, .ref qt_flakes, .ref qt_leaks, .int v_music, .ref qt_ranks, .int v_sights, .ref qt_sight, .int v_signs, .ref qt_pad, .int v_freeAt, .int v_freeWho, .int v_reason, .int v_acts, .ref qt_gets, .ref qt_counts, .ref qt_worth, .ref qt_ways, .ref qt_image, .ref qt_isKept])), (qt_now, .inl (cI, 43, .inl v_now))] H → va_D A [(qt, .inr (9, [.ref qt_book, .ref qt_now, .ref qt_flakes, .ref qt_leaks, .int v_music, .ref qt_ranks, .int v_sights, .ref qt_sight, .int v_signs, .ref qt_pad, .int v_freeAt, .int v_freeWho, .int v_reason, .int v_acts, .ref qt_gets, .ref qt_counts, .ref qt_worth, .ref qt_ways, .ref qt_image, .ref qt_isKept])), (qt_now, .inl (cI, 43, .inl v_now))] → va_S A s.heap H locs → lv_has ls 4 [(0, .ref qt), (2, .int p2), (3, .int x3)] → L_X10_isWithin_2 v_now p1 p2 n2 x3 = some r → W p l e rm_X10_isWithin s m args below meth c H locs 0 0 QQ (F0 m 2 ls []) := by
    intro n2
    induction n2 with
    | zero =>
      intro x3 H locs ls hP hD hS hl h
      have h : none = some r := h
      cases h
    | succ n2 ih2 =>
      intro x3 H locs ls hP hD hS hl h
      rw [L_X10_isWithin_2.eq_2] at h
      refine lv_iload_n hx hb dX10_isWithin_2 rfl (lv_at hl 2 rfl) ?_
      refine lv_if_lt (tgt := 24) hx hb dX10_isWithin_3 (by decide) (fun hc => ?_) (fun hc => ?_)
      · have h := if_t hc h
        exact hB24 x3 H locs ls hP hD hS (lv_sub hl [1, 2] rfl) h
      · have h := if_f hc h
        refine lv_iload_n hx hb dX10_isWithin_6 rfl (lv_at hl 2 rfl) ?_
        refine lv_iload_n hx hb dX10_isWithin_7 rfl (lv_at hl 1 rfl) ?_
        refine lv_icmp_eq (tgt := 24) hx hb dX10_isWithin_8 (by decide) (fun hc => ?_) (fun hc => ?_)
        · have h := if_t hc h
          exact hB24 x3 H locs ls hP hD hS (lv_sub hl [1, 2] rfl) h
        · have h := if_f hc h
          refine lv_aload_n hx hb dX10_isWithin_11 rfl (lv_at hl 0 rfl) ?_
          refine va_get (D := D) (ci := 9) (C := RX10) (T := TX10) (N := 20) hx hb hts (fun _ hw => (List.mem_cons_of_mem _ (List.mem_append_right _ hw))) hown hE.1 hP 0 rfl rfl 1 (by decide) (hts (.fieldLink RX10 13 "GlobeCrownModel" "now" "[I") (List.mem_cons_of_mem _ (List.mem_append_left _ (List.mem_of_getElem? (i := 0) rfl)))) (fun _ h9 => h9) rfl dX10_isWithin_12 ?_
          refine lv_bipush (v := 32) hx hb dX10_isWithin_15 (by decide) ?_
          refine lv_iload_n hx hb dX10_isWithin_17 rfl (lv_at hl 2 rfl) ?_
          refine lv_iadd hx hb dX10_isWithin_18 ?_
          obtain ⟨hg, h⟩ := gin_some h
          refine va_iald hx hb hE.1 hP 1 0 rfl rfl hg dX10_isWithin_19 ?_
          refine lv_istore_n (lv' := [(3, .int (v_now (Int32.toNatClampNeg ((32 : Int32) + x3)))), (0, .ref qt), (2, .int p2)]) hx hb dX10_isWithin_20 rfl hl (by decide) rfl (fun ls hl => ?_)
          refine lv_goto (tgt := 2) hx hb dX10_isWithin_21 (by decide) ?_
          exact ih2 (v_now (Int32.toNatClampNeg ((32 : Int32) + x3))) H locs ls hP hD hS (lv_sub hl [1, 2, 0] rfl) h
  have h := hf
  unfold f_X10_isWithin at h
  refine gw_start hP hD hS (fun H locs hP hD hS => ?_)
  refine lv_iload_n hx hb dX10_isWithin_0 rfl (lv_at hl 1 rfl) ?_
  refine lv_istore_n (lv' := [(3, .int p1), (0, .ref qt), (1, .int p1), (2, .int p2)]) hx hb dX10_isWithin_1 rfl hl (by decide) rfl (fun ls hl => ?_)
  exact hL2 FU p1 H locs ls hP hD hS (lv_sub hl [1, 3, 0] rfl) h
theorem hdV_X10_isWithin : yX10_isWithin.cls = RX10 ∧ yX10_isWithin.cls ≠ "java/lang/invoke/MethodHandle" ∧ yX10_isWithin.cls ≠ "java/lang/invoke/VarHandle" ∧ (parseMethodDescriptor yX10_isWithin.desc).map (fun d => d.parameters.length) = some 2 := by decide +kernel
def B_X10_globe_173 (p1 : Int32) (p2 : Int32) (p3 : Int32) (p4 : Int32) (p5 : Int32) (v_book : (Nat → Int32)) (v_flakes : (Nat → Int32)) (v_leaks : (Nat → Int32)) (v_music : Int32) (s0 : Int32) (s1 : Int32) : Option (Int32 × (Nat → Int32) × (Nat → Int32) × (Nat → Int32) × Int32) := (bd1 (f_X10_bits (v_book (Int32.toNatClampNeg (40 : Int32)))) (fun r184 => (some (r184, v_book, v_flakes, v_leaks, (s1 ||| s0)))))
def B_X10_globe_76 (p1 : Int32) (p2 : Int32) (p3 : Int32) (p4 : Int32) (p5 : Int32) (v_book : (Nat → Int32)) (v_flakes : (Nat → Int32)) (v_leaks : (Nat → Int32)) (v_music : Int32) (s0 : Int32) (s1 : Int32) : Option (Int32 × (Nat → Int32) × (Nat → Int32) × (Nat → Int32) × Int32) := (gin s1 43 (gin p1 43 (gin ((8 : Int32) + p1) 43 (gin ((16 : Int32) + p1) 43 (gin ((24 : Int32) + p1) 43 (gin p1 8 (gin p1 8 (if p5 = (0 : Int32) then (B_X10_globe_173 p1 p2 p3 p4 p5 (upd (upd (upd (upd (upd (upd v_book (Int32.toNatClampNeg s1) s0) (Int32.toNatClampNeg p1) p2) (Int32.toNatClampNeg ((8 : Int32) + p1)) (0 : Int32)) (Int32.toNatClampNeg ((16 : Int32) + p1)) (0 : Int32)) (Int32.toNatClampNeg ((24 : Int32) + p1)) (5 : Int32)) (Int32.toNatClampNeg (40 : Int32)) (((upd (upd (upd (upd (upd v_book (Int32.toNatClampNeg s1) s0) (Int32.toNatClampNeg p1) p2) (Int32.toNatClampNeg ((8 : Int32) + p1)) (0 : Int32)) (Int32.toNatClampNeg ((16 : Int32) + p1)) (0 : Int32)) (Int32.toNatClampNeg ((24 : Int32) + p1)) (5 : Int32)) (Int32.toNatClampNeg (40 : Int32))) ||| ((1 : Int32) <<< (p1 &&& 31)))) (upd v_flakes (Int32.toNatClampNeg p1) p3) (upd v_leaks (Int32.toNatClampNeg p1) p4) (v_music &&& (((1 : Int32) <<< (p1 &&& 31)) ^^^ (-1 : Int32))) (0 : Int32) (v_music &&& (((1 : Int32) <<< (p1 &&& 31)) ^^^ (-1 : Int32)))) else (B_X10_globe_173 p1 p2 p3 p4 p5 (upd (upd (upd (upd (upd (upd v_book (Int32.toNatClampNeg s1) s0) (Int32.toNatClampNeg p1) p2) (Int32.toNatClampNeg ((8 : Int32) + p1)) (0 : Int32)) (Int32.toNatClampNeg ((16 : Int32) + p1)) (0 : Int32)) (Int32.toNatClampNeg ((24 : Int32) + p1)) (5 : Int32)) (Int32.toNatClampNeg (40 : Int32)) (((upd (upd (upd (upd (upd v_book (Int32.toNatClampNeg s1) s0) (Int32.toNatClampNeg p1) p2) (Int32.toNatClampNeg ((8 : Int32) + p1)) (0 : Int32)) (Int32.toNatClampNeg ((16 : Int32) + p1)) (0 : Int32)) (Int32.toNatClampNeg ((24 : Int32) + p1)) (5 : Int32)) (Int32.toNatClampNeg (40 : Int32))) ||| ((1 : Int32) <<< (p1 &&& 31)))) (upd v_flakes (Int32.toNatClampNeg p1) p3) (upd v_leaks (Int32.toNatClampNeg p1) p4) (v_music &&& (((1 : Int32) <<< (p1 &&& 31)) ^^^ (-1 : Int32))) ((1 : Int32) <<< (p1 &&& 31)) (v_music &&& (((1 : Int32) <<< (p1 &&& 31)) ^^^ (-1 : Int32))))))))))))
def f_X10_globe (v_book : (Nat → Int32)) (v_flakes : (Nat → Int32)) (v_leaks : (Nat → Int32)) (v_music : Int32) (p1 : Int32) (p2 : Int32) (p3 : Int32) (p4 : Int32) (p5 : Int32) : Option (Int32 × (Nat → Int32) × (Nat → Int32) × (Nat → Int32) × Int32) := (bd1 (f_X10_in p1 (0 : Int32) (7 : Int32)) (fun r4 => (if r4 = (0 : Int32) then (some ((-1 : Int32), v_book, v_flakes, v_leaks, v_music)) else (bd1 (f_X10_in p2 (0 : Int32) (99 : Int32)) (fun r16 => (if r16 = (0 : Int32) then (some ((-2 : Int32), v_book, v_flakes, v_leaks, v_music)) else (bd1 (f_X10_in p3 (0 : Int32) (99 : Int32)) (fun r26 => (if r26 = (0 : Int32) then (some ((-2 : Int32), v_book, v_flakes, v_leaks, v_music)) else (bd1 (f_X10_in p4 (0 : Int32) (9 : Int32)) (fun r37 => (if r37 = (0 : Int32) then (some ((-2 : Int32), v_book, v_flakes, v_leaks, v_music)) else (bd1 (f_X10_isThere v_book p1) (fun r56 => (if r56 = (0 : Int32) then (B_X10_globe_76 p1 p2 p3 p4 p5 v_book v_flakes v_leaks v_music (-6 : Int32) ((32 : Int32) + p1)) else (gin ((32 : Int32) + p1) 43 (B_X10_globe_76 p1 p2 p3 p4 p5 v_book v_flakes v_leaks v_music (v_book (Int32.toNatClampNeg ((32 : Int32) + p1))) ((32 : Int32) + p1))))))))))))))))))
abbrev rm_X10_globe : Room := { frames := 2, cells := 0, slots := 0, locals := 43 }
set_option maxHeartbeats 4000000 in
set_option maxRecDepth 100000 in
theorem C_X10_globe (l : Launch) (D : va_G) (cI cJ cZ : ClassId) (sz : Nat) (qt qt_book qt_now qt_flakes qt_leaks qt_ranks qt_sight qt_pad qt_gets qt_counts qt_worth qt_ways qt_image qt_isKept : Nat) (v_book : (Nat → Int32)) (v_flakes : (Nat → Int32)) (v_leaks : (Nat → Int32)) (v_music : Int32) (v_sights : Int32) (v_signs : Int32) (v_freeAt : Int32) (v_freeWho : Int32) (v_reason : Int32) (v_acts : Int32) (p1 : Int32) (p2 : Int32) (p3 : Int32) (p4 : Int32) (p5 : Int32) (r : Int32) (w_book : (Nat → Int32)) (w_flakes : (Nat → Int32)) (w_leaks : (Nat → Int32)) (w_music : Int32) (hf : f_X10_globe v_book v_flakes v_leaks v_music p1 p2 p3 p4 p5 = some (r, w_book, w_flakes, w_leaks, w_music)) : Met l yX10_globe wsX10_globe rm_X10_globe (PR D cI cJ cZ [(qt, .inr (9, [.ref qt_book, .ref qt_now, .ref qt_flakes, .ref qt_leaks, .int v_music, .ref qt_ranks, .int v_sights, .ref qt_sight, .int v_signs, .ref qt_pad, .int v_freeAt, .int v_freeWho, .int v_reason, .int v_acts, .ref qt_gets, .ref qt_counts, .ref qt_worth, .ref qt_ways, .ref qt_image, .ref qt_isKept])), (qt_book, .inl (cI, 43, .inl v_book)), (qt_flakes, .inl (cI, 8, .inl v_flakes)), (qt_leaks, .inl (cI, 8, .inl v_leaks))] sz [.ref qt, .int p1, .int p2, .int p3, .int p4, .int p5]) (QI D (va_A [(qt, .inr (9, [.ref qt_book, .ref qt_now, .ref qt_flakes, .ref qt_leaks, .int v_music, .ref qt_ranks, .int v_sights, .ref qt_sight, .int v_signs, .ref qt_pad, .int v_freeAt, .int v_freeWho, .int v_reason, .int v_acts, .ref qt_gets, .ref qt_counts, .ref qt_worth, .ref qt_ways, .ref qt_image, .ref qt_isKept])), (qt_book, .inl (cI, 43, .inl v_book)), (qt_flakes, .inl (cI, 8, .inl v_flakes)), (qt_leaks, .inl (cI, 8, .inl v_leaks))] sz) r [(qt, .inr (9, [.ref qt_book, .ref qt_now, .ref qt_flakes, .ref qt_leaks, .int w_music, .ref qt_ranks, .int v_sights, .ref qt_sight, .int v_signs, .ref qt_pad, .int v_freeAt, .int v_freeWho, .int v_reason, .int v_acts, .ref qt_gets, .ref qt_counts, .ref qt_worth, .ref qt_ways, .ref qt_image, .ref qt_isKept])), (qt_book, .inl (cI, 43, .inl w_book)), (qt_flakes, .inl (cI, 8, .inl w_flakes)), (qt_leaks, .inl (cI, 8, .inl w_leaks))]) 0 0 (va_A [(qt, .inr (9, [.ref qt_book, .ref qt_now, .ref qt_flakes, .ref qt_leaks, .int v_music, .ref qt_ranks, .int v_sights, .ref qt_sight, .int v_signs, .ref qt_pad, .int v_freeAt, .int v_freeWho, .int v_reason, .int v_acts, .ref qt_gets, .ref qt_counts, .ref qt_worth, .ref qt_ways, .ref qt_image, .ref qt_isKept])), (qt_book, .inl (cI, 43, .inl v_book)), (qt_flakes, .inl (cI, 8, .inl v_flakes)), (qt_leaks, .inl (cI, 8, .inl v_leaks))] sz) := by
  refine Met.ofW (cc := cX10_globe) (maxL := 6) (ret := (some .int)) (by decide) rfl ?_
  intro p e s m args below meth c s₁ B hml hv
  obtain ⟨hav, hsz, hP, hD0, hE⟩ := hv
  have hx := B.exec
  have hb := B.bytes
  have hr := B.returns
  have hts := atoms_spec (ws := wsX10_globe) B.pre
  have hown : s.vm.findClass RX10 = some m.cls := findClass_of_methodNamed B.named
  have hlocks := B.notSynchronized
  subst hsz
  have hD := hD0.self (sz := s.heap.size)
  generalize hAe : va_A [(qt, .inr (9, [.ref qt_book, .ref qt_now, .ref qt_flakes, .ref qt_leaks, .int v_music, .ref qt_ranks, .int v_sights, .ref qt_sight, .int v_signs, .ref qt_pad, .int v_freeAt, .int v_freeWho, .int v_reason, .int v_acts, .ref qt_gets, .ref qt_counts, .ref qt_worth, .ref qt_ways, .ref qt_image, .ref qt_isKept])), (qt_book, .inl (cI, 43, .inl v_book)), (qt_flakes, .inl (cI, 8, .inl v_flakes)), (qt_leaks, .inl (cI, 8, .inl v_leaks))] s.heap.size = A at hD ⊢
  have hA : ∀ q : Nat, s.heap.size ≤ q → A q := fun q h => by rw [← hAe]; exact Or.inr h
  have hS : va_S A s.heap s.heap [] := va_S.rf
  have hl := lv_entry ([.ref qt, .int p1, .int p2, .int p3, .int p4, .int p5]) (n := 6) (Nat.le_of_ble_eq_true rfl)
  have hfr : entryFrame m args 6 = entryFrame m ([.ref qt, .int p1, .int p2, .int p3, .int p4, .int p5] : List Value).toArray 6 := by rw [hav]
  rw [hfr, lg_entry_eq]
  generalize (lg_sl ([.ref qt, .int p1, .int p2, .int p3, .int p4, .int p5]) ++ List.replicate (6 - (lg_sl ([.ref qt, .int p1, .int p2, .int p3, .int p4, .int p5])).length) Slot.unset).toArray = ls at hl ⊢
  have hl : lv_has ls 6 [(0, .ref qt), (1, .int p1), (2, .int p2), (3, .int p3), (4, .int p4), (5, .int p5)] := hl
  obtain ⟨QQ, hQQ⟩ : ∃ QQ, QQ = MQ below (QI D A r [(qt, .inr (9, [.ref qt_book, .ref qt_now, .ref qt_flakes, .ref qt_leaks, .int w_music, .ref qt_ranks, .int v_sights, .ref qt_sight, .int v_signs, .ref qt_pad, .int v_freeAt, .int v_freeWho, .int v_reason, .int v_acts, .ref qt_gets, .ref qt_counts, .ref qt_worth, .ref qt_ways, .ref qt_image, .ref qt_isKept])), (qt_book, .inl (cI, 43, .inl w_book)), (qt_flakes, .inl (cI, 8, .inl w_flakes)), (qt_leaks, .inl (cI, 8, .inl w_leaks))]) args s 0 0 A := ⟨_, rfl⟩
  show W p l e rm_X10_globe s m args below meth c s.heap [] 0 0 _ _
  rw [← hQQ]
  have hB173 : ∀ (v_book : (Nat → Int32)) (v_flakes : (Nat → Int32)) (v_leaks : (Nat → Int32)) (v_music : Int32) (s0 : Int32) (s1 : Int32) (H : Heap) (locs : List Loc) (ls : Array Slot), va_P D vwCl [(qt, .inr (9, [.ref qt_book, .ref qt_now, .ref qt_flakes, .ref qt_leaks, .int v_music, .ref qt_ranks, .int v_sights, .ref qt_sight, .int v_signs, .ref qt_pad, .int v_freeAt, .int v_freeWho, .int v_reason, .int v_acts, .ref qt_gets, .ref qt_counts, .ref qt_worth, .ref qt_ways, .ref qt_image, .ref qt_isKept])), (qt_book, .inl (cI, 43, .inl v_book)), (qt_flakes, .inl (cI, 8, .inl v_flakes)), (qt_leaks, .inl (cI, 8, .inl v_leaks))] H → va_D A [(qt, .inr (9, [.ref qt_book, .ref qt_now, .ref qt_flakes, .ref qt_leaks, .int v_music, .ref qt_ranks, .int v_sights, .ref qt_sight, .int v_signs, .ref qt_pad, .int v_freeAt, .int v_freeWho, .int v_reason, .int v_acts, .ref qt_gets, .ref qt_counts, .ref qt_worth, .ref qt_ways, .ref qt_image, .ref qt_isKept])), (qt_book, .inl (cI, 43, .inl v_book)), (qt_flakes, .inl (cI, 8, .inl v_flakes)), (qt_leaks, .inl (cI, 8, .inl v_leaks))] → va_S A s.heap H locs → lv_has ls 6 [(0, .ref qt)] → B_X10_globe_173 p1 p2 p3 p4 p5 v_book v_flakes v_leaks v_music s0 s1 = some (r, w_book, w_flakes, w_leaks, w_music) → W p l e rm_X10_globe s m args below meth c H locs 0 0 QQ (F0 m 173 ls [.int s0, .int s1, .ref qt]) := by
    intro v_book v_flakes v_leaks v_music s0 s1 H locs ls hP hD hS hl h
    unfold B_X10_globe_173 at h
    refine lv_ior hx hb dX10_globe_173 ?_
    refine va_put (D := D) (ci := 9) (v := .int (s1 ||| s0)) (ty := .int) (C := RX10) (T := TX10) (N := 20) hx hb hts (fun _ hw => (List.mem_cons_of_mem _ (List.mem_append_right _ hw))) tyX10 tyX10_ok nmX10 hown hE.1 hP hD hS 0 rfl rfl 4 (by decide) (hts (.fieldLink RX10 63 "GlobeCrownModel" "music" "I") (List.mem_cons_of_mem _ (List.mem_append_left _ (List.mem_of_getElem? (i := 3) rfl)))) (fun _ h9 => h9) rfl (tyX10_ok 4 (by decide)) rfl rfl (Nat.le_of_ble_eq_true rfl) dX10_globe_174 (fun H locs (hP : va_P D vwCl [(qt, .inr (9, [.ref qt_book, .ref qt_now, .ref qt_flakes, .ref qt_leaks, .int (s1 ||| s0), .ref qt_ranks, .int v_sights, .ref qt_sight, .int v_signs, .ref qt_pad, .int v_freeAt, .int v_freeWho, .int v_reason, .int v_acts, .ref qt_gets, .ref qt_counts, .ref qt_worth, .ref qt_ways, .ref qt_image, .ref qt_isKept])), (qt_book, .inl (cI, 43, .inl v_book)), (qt_flakes, .inl (cI, 8, .inl v_flakes)), (qt_leaks, .inl (cI, 8, .inl v_leaks))] H) (hD : va_D A [(qt, .inr (9, [.ref qt_book, .ref qt_now, .ref qt_flakes, .ref qt_leaks, .int (s1 ||| s0), .ref qt_ranks, .int v_sights, .ref qt_sight, .int v_signs, .ref qt_pad, .int v_freeAt, .int v_freeWho, .int v_reason, .int v_acts, .ref qt_gets, .ref qt_counts, .ref qt_worth, .ref qt_ways, .ref qt_image, .ref qt_isKept])), (qt_book, .inl (cI, 43, .inl v_book)), (qt_flakes, .inl (cI, 8, .inl v_flakes)), (qt_leaks, .inl (cI, 8, .inl v_leaks))]) hS => ?_)
    refine lv_aload_n hx hb dX10_globe_177 rfl (lv_at hl 0 rfl) ?_
    refine va_get (D := D) (ci := 9) (C := RX10) (T := TX10) (N := 20) hx hb hts (fun _ hw => (List.mem_cons_of_mem _ (List.mem_append_right _ hw))) hown hE.1 hP 0 rfl rfl 0 (by decide) (hts (.fieldLink RX10 7 "GlobeCrownModel" "book" "[I") (List.mem_cons_of_mem _ (List.mem_append_left _ (List.mem_of_getElem? (i := 0) rfl)))) (fun _ h9 => h9) rfl dX10_globe_178 ?_
    refine lv_bipush (v := 40) hx hb dX10_globe_181 (by decide) ?_
    refine va_iald hx hb hE.1 hP 1 0 rfl rfl (jinb_in (by decide)) dX10_globe_183 ?_
    obtain ⟨r184, hc184, h⟩ := bd1_some h
    refine gw_ci (wr := [(qt, .inr (9, [.ref qt_book, .ref qt_now, .ref qt_flakes, .ref qt_leaks, .int (s1 ||| s0), .ref qt_ranks, .int v_sights, .ref qt_sight, .int v_signs, .ref qt_pad, .int v_freeAt, .int v_freeWho, .int v_reason, .int v_acts, .ref qt_gets, .ref qt_counts, .ref qt_worth, .ref qt_ways, .ref qt_image, .ref qt_isKept])), (qt_book, .inl (cI, 43, .inl v_book)), (qt_flakes, .inl (cI, 8, .inl v_flakes)), (qt_leaks, .inl (cI, 8, .inl v_leaks))]) (w2 := [(qt, .inr (9, [.ref qt_book, .ref qt_now, .ref qt_flakes, .ref qt_leaks, .int (s1 ||| s0), .ref qt_ranks, .int v_sights, .ref qt_sight, .int v_signs, .ref qt_pad, .int v_freeAt, .int v_freeWho, .int v_reason, .int v_acts, .ref qt_gets, .ref qt_counts, .ref qt_worth, .ref qt_ways, .ref qt_image, .ref qt_isKept])), (qt_book, .inl (cI, 43, .inl v_book)), (qt_flakes, .inl (cI, 8, .inl v_flakes)), (qt_leaks, .inl (cI, 8, .inl v_leaks))]) (gw_rS (n := 1) ⟨hx, hb, hml, hown, hts⟩ (C_X10_bits l D cI cJ cZ H.size (v_book (Int32.toNatClampNeg (40 : Int32))) r184 hc184) gX10_globe_X10_bits rfl rfl rfl hdS_X10_bits ⟨Nat.le_of_ble_eq_true rfl, Nat.le_of_ble_eq_true rfl⟩ hE (hP.sub [] rfl) (hD.sub [] (by decide) rfl) rfl hl.1 (rest := []) rfl (Nat.le_of_ble_eq_true rfl) dX10_globe_184 ⟨Nat.zero_le _, Nat.zero_le _⟩) hP hD hS hA [] [0, 1, 2, 3] rfl rfl rfl (by decide) rfl (fun H locs hP hD hS => ?_)
    cases h
    rw [hQQ]
    exact gw_iret hx hb hr hlocks hP hD hS dX10_globe_187
  have hB76 : ∀ (v_book : (Nat → Int32)) (v_flakes : (Nat → Int32)) (v_leaks : (Nat → Int32)) (v_music : Int32) (s0 : Int32) (s1 : Int32) (H : Heap) (locs : List Loc) (ls : Array Slot), va_P D vwCl [(qt, .inr (9, [.ref qt_book, .ref qt_now, .ref qt_flakes, .ref qt_leaks, .int v_music, .ref qt_ranks, .int v_sights, .ref qt_sight, .int v_signs, .ref qt_pad, .int v_freeAt, .int v_freeWho, .int v_reason, .int v_acts, .ref qt_gets, .ref qt_counts, .ref qt_worth, .ref qt_ways, .ref qt_image, .ref qt_isKept])), (qt_book, .inl (cI, 43, .inl v_book)), (qt_flakes, .inl (cI, 8, .inl v_flakes)), (qt_leaks, .inl (cI, 8, .inl v_leaks))] H → va_D A [(qt, .inr (9, [.ref qt_book, .ref qt_now, .ref qt_flakes, .ref qt_leaks, .int v_music, .ref qt_ranks, .int v_sights, .ref qt_sight, .int v_signs, .ref qt_pad, .int v_freeAt, .int v_freeWho, .int v_reason, .int v_acts, .ref qt_gets, .ref qt_counts, .ref qt_worth, .ref qt_ways, .ref qt_image, .ref qt_isKept])), (qt_book, .inl (cI, 43, .inl v_book)), (qt_flakes, .inl (cI, 8, .inl v_flakes)), (qt_leaks, .inl (cI, 8, .inl v_leaks))] → va_S A s.heap H locs → lv_has ls 6 [(0, .ref qt), (1, .int p1), (2, .int p2), (3, .int p3), (4, .int p4), (5, .int p5)] → B_X10_globe_76 p1 p2 p3 p4 p5 v_book v_flakes v_leaks v_music s0 s1 = some (r, w_book, w_flakes, w_leaks, w_music) → W p l e rm_X10_globe s m args below meth c H locs 0 0 QQ (F0 m 76 ls [.int s0, .int s1, .ref qt_book]) := by
    intro v_book v_flakes v_leaks v_music s0 s1 H locs ls hP hD hS hl h
    unfold B_X10_globe_76 at h
    obtain ⟨hg, h⟩ := gin_some h
    refine va_iast hx hb hE.1 hP hD hS 1 0 rfl rfl hg dX10_globe_76 (fun H locs (hP : va_P D vwCl [(qt, .inr (9, [.ref qt_book, .ref qt_now, .ref qt_flakes, .ref qt_leaks, .int v_music, .ref qt_ranks, .int v_sights, .ref qt_sight, .int v_signs, .ref qt_pad, .int v_freeAt, .int v_freeWho, .int v_reason, .int v_acts, .ref qt_gets, .ref qt_counts, .ref qt_worth, .ref qt_ways, .ref qt_image, .ref qt_isKept])), (qt_book, .inl (cI, 43, .inl (upd v_book (Int32.toNatClampNeg s1) s0))), (qt_flakes, .inl (cI, 8, .inl v_flakes)), (qt_leaks, .inl (cI, 8, .inl v_leaks))] H) (hD : va_D A [(qt, .inr (9, [.ref qt_book, .ref qt_now, .ref qt_flakes, .ref qt_leaks, .int v_music, .ref qt_ranks, .int v_sights, .ref qt_sight, .int v_signs, .ref qt_pad, .int v_freeAt, .int v_freeWho, .int v_reason, .int v_acts, .ref qt_gets, .ref qt_counts, .ref qt_worth, .ref qt_ways, .ref qt_image, .ref qt_isKept])), (qt_book, .inl (cI, 43, .inl (upd v_book (Int32.toNatClampNeg s1) s0))), (qt_flakes, .inl (cI, 8, .inl v_flakes)), (qt_leaks, .inl (cI, 8, .inl v_leaks))]) hS => ?_)
    refine lv_aload_n hx hb dX10_globe_77 rfl (lv_at hl 0 rfl) ?_
    refine va_get (D := D) (ci := 9) (C := RX10) (T := TX10) (N := 20) hx hb hts (fun _ hw => (List.mem_cons_of_mem _ (List.mem_append_right _ hw))) hown hE.1 hP 0 rfl rfl 0 (by decide) (hts (.fieldLink RX10 7 "GlobeCrownModel" "book" "[I") (List.mem_cons_of_mem _ (List.mem_append_left _ (List.mem_of_getElem? (i := 0) rfl)))) (fun _ h9 => h9) rfl dX10_globe_78 ?_
    refine lv_iload_n hx hb dX10_globe_81 rfl (lv_at hl 1 rfl) ?_
    refine lv_iload_n hx hb dX10_globe_82 rfl (lv_at hl 2 rfl) ?_
    obtain ⟨hg, h⟩ := gin_some h
    refine va_iast hx hb hE.1 hP hD hS 1 0 rfl rfl hg dX10_globe_83 (fun H locs (hP : va_P D vwCl [(qt, .inr (9, [.ref qt_book, .ref qt_now, .ref qt_flakes, .ref qt_leaks, .int v_music, .ref qt_ranks, .int v_sights, .ref qt_sight, .int v_signs, .ref qt_pad, .int v_freeAt, .int v_freeWho, .int v_reason, .int v_acts, .ref qt_gets, .ref qt_counts, .ref qt_worth, .ref qt_ways, .ref qt_image, .ref qt_isKept])), (qt_book, .inl (cI, 43, .inl (upd (upd v_book (Int32.toNatClampNeg s1) s0) (Int32.toNatClampNeg p1) p2))), (qt_flakes, .inl (cI, 8, .inl v_flakes)), (qt_leaks, .inl (cI, 8, .inl v_leaks))] H) (hD : va_D A [(qt, .inr (9, [.ref qt_book, .ref qt_now, .ref qt_flakes, .ref qt_leaks, .int v_music, .ref qt_ranks, .int v_sights, .ref qt_sight, .int v_signs, .ref qt_pad, .int v_freeAt, .int v_freeWho, .int v_reason, .int v_acts, .ref qt_gets, .ref qt_counts, .ref qt_worth, .ref qt_ways, .ref qt_image, .ref qt_isKept])), (qt_book, .inl (cI, 43, .inl (upd (upd v_book (Int32.toNatClampNeg s1) s0) (Int32.toNatClampNeg p1) p2))), (qt_flakes, .inl (cI, 8, .inl v_flakes)), (qt_leaks, .inl (cI, 8, .inl v_leaks))]) hS => ?_)
    refine lv_aload_n hx hb dX10_globe_84 rfl (lv_at hl 0 rfl) ?_
    refine va_get (D := D) (ci := 9) (C := RX10) (T := TX10) (N := 20) hx hb hts (fun _ hw => (List.mem_cons_of_mem _ (List.mem_append_right _ hw))) hown hE.1 hP 0 rfl rfl 0 (by decide) (hts (.fieldLink RX10 7 "GlobeCrownModel" "book" "[I") (List.mem_cons_of_mem _ (List.mem_append_left _ (List.mem_of_getElem? (i := 0) rfl)))) (fun _ h9 => h9) rfl dX10_globe_85 ?_
    refine lv_bipush (v := 8) hx hb dX10_globe_88 (by decide) ?_
    refine lv_iload_n hx hb dX10_globe_90 rfl (lv_at hl 1 rfl) ?_
    refine lv_iadd hx hb dX10_globe_91 ?_
    refine lv_iconst (v := 0) hx hb dX10_globe_92 (by decide) ?_
    obtain ⟨hg, h⟩ := gin_some h
    refine va_iast hx hb hE.1 hP hD hS 1 0 rfl rfl hg dX10_globe_93 (fun H locs (hP : va_P D vwCl [(qt, .inr (9, [.ref qt_book, .ref qt_now, .ref qt_flakes, .ref qt_leaks, .int v_music, .ref qt_ranks, .int v_sights, .ref qt_sight, .int v_signs, .ref qt_pad, .int v_freeAt, .int v_freeWho, .int v_reason, .int v_acts, .ref qt_gets, .ref qt_counts, .ref qt_worth, .ref qt_ways, .ref qt_image, .ref qt_isKept])), (qt_book, .inl (cI, 43, .inl (upd (upd (upd v_book (Int32.toNatClampNeg s1) s0) (Int32.toNatClampNeg p1) p2) (Int32.toNatClampNeg ((8 : Int32) + p1)) (0 : Int32)))), (qt_flakes, .inl (cI, 8, .inl v_flakes)), (qt_leaks, .inl (cI, 8, .inl v_leaks))] H) (hD : va_D A [(qt, .inr (9, [.ref qt_book, .ref qt_now, .ref qt_flakes, .ref qt_leaks, .int v_music, .ref qt_ranks, .int v_sights, .ref qt_sight, .int v_signs, .ref qt_pad, .int v_freeAt, .int v_freeWho, .int v_reason, .int v_acts, .ref qt_gets, .ref qt_counts, .ref qt_worth, .ref qt_ways, .ref qt_image, .ref qt_isKept])), (qt_book, .inl (cI, 43, .inl (upd (upd (upd v_book (Int32.toNatClampNeg s1) s0) (Int32.toNatClampNeg p1) p2) (Int32.toNatClampNeg ((8 : Int32) + p1)) (0 : Int32)))), (qt_flakes, .inl (cI, 8, .inl v_flakes)), (qt_leaks, .inl (cI, 8, .inl v_leaks))]) hS => ?_)
    refine lv_aload_n hx hb dX10_globe_94 rfl (lv_at hl 0 rfl) ?_
    refine va_get (D := D) (ci := 9) (C := RX10) (T := TX10) (N := 20) hx hb hts (fun _ hw => (List.mem_cons_of_mem _ (List.mem_append_right _ hw))) hown hE.1 hP 0 rfl rfl 0 (by decide) (hts (.fieldLink RX10 7 "GlobeCrownModel" "book" "[I") (List.mem_cons_of_mem _ (List.mem_append_left _ (List.mem_of_getElem? (i := 0) rfl)))) (fun _ h9 => h9) rfl dX10_globe_95 ?_
    refine lv_bipush (v := 16) hx hb dX10_globe_98 (by decide) ?_
    refine lv_iload_n hx hb dX10_globe_100 rfl (lv_at hl 1 rfl) ?_
    refine lv_iadd hx hb dX10_globe_101 ?_
    refine lv_iconst (v := 0) hx hb dX10_globe_102 (by decide) ?_
    obtain ⟨hg, h⟩ := gin_some h
    refine va_iast hx hb hE.1 hP hD hS 1 0 rfl rfl hg dX10_globe_103 (fun H locs (hP : va_P D vwCl [(qt, .inr (9, [.ref qt_book, .ref qt_now, .ref qt_flakes, .ref qt_leaks, .int v_music, .ref qt_ranks, .int v_sights, .ref qt_sight, .int v_signs, .ref qt_pad, .int v_freeAt, .int v_freeWho, .int v_reason, .int v_acts, .ref qt_gets, .ref qt_counts, .ref qt_worth, .ref qt_ways, .ref qt_image, .ref qt_isKept])), (qt_book, .inl (cI, 43, .inl (upd (upd (upd (upd v_book (Int32.toNatClampNeg s1) s0) (Int32.toNatClampNeg p1) p2) (Int32.toNatClampNeg ((8 : Int32) + p1)) (0 : Int32)) (Int32.toNatClampNeg ((16 : Int32) + p1)) (0 : Int32)))), (qt_flakes, .inl (cI, 8, .inl v_flakes)), (qt_leaks, .inl (cI, 8, .inl v_leaks))] H) (hD : va_D A [(qt, .inr (9, [.ref qt_book, .ref qt_now, .ref qt_flakes, .ref qt_leaks, .int v_music, .ref qt_ranks, .int v_sights, .ref qt_sight, .int v_signs, .ref qt_pad, .int v_freeAt, .int v_freeWho, .int v_reason, .int v_acts, .ref qt_gets, .ref qt_counts, .ref qt_worth, .ref qt_ways, .ref qt_image, .ref qt_isKept])), (qt_book, .inl (cI, 43, .inl (upd (upd (upd (upd v_book (Int32.toNatClampNeg s1) s0) (Int32.toNatClampNeg p1) p2) (Int32.toNatClampNeg ((8 : Int32) + p1)) (0 : Int32)) (Int32.toNatClampNeg ((16 : Int32) + p1)) (0 : Int32)))), (qt_flakes, .inl (cI, 8, .inl v_flakes)), (qt_leaks, .inl (cI, 8, .inl v_leaks))]) hS => ?_)
    refine lv_aload_n hx hb dX10_globe_104 rfl (lv_at hl 0 rfl) ?_
    refine va_get (D := D) (ci := 9) (C := RX10) (T := TX10) (N := 20) hx hb hts (fun _ hw => (List.mem_cons_of_mem _ (List.mem_append_right _ hw))) hown hE.1 hP 0 rfl rfl 0 (by decide) (hts (.fieldLink RX10 7 "GlobeCrownModel" "book" "[I") (List.mem_cons_of_mem _ (List.mem_append_left _ (List.mem_of_getElem? (i := 0) rfl)))) (fun _ h9 => h9) rfl dX10_globe_105 ?_
    refine lv_bipush (v := 24) hx hb dX10_globe_108 (by decide) ?_
    refine lv_iload_n hx hb dX10_globe_110 rfl (lv_at hl 1 rfl) ?_
    refine lv_iadd hx hb dX10_globe_111 ?_
    refine lv_iconst (v := 5) hx hb dX10_globe_112 (by decide) ?_
    obtain ⟨hg, h⟩ := gin_some h
    refine va_iast hx hb hE.1 hP hD hS 1 0 rfl rfl hg dX10_globe_113 (fun H locs (hP : va_P D vwCl [(qt, .inr (9, [.ref qt_book, .ref qt_now, .ref qt_flakes, .ref qt_leaks, .int v_music, .ref qt_ranks, .int v_sights, .ref qt_sight, .int v_signs, .ref qt_pad, .int v_freeAt, .int v_freeWho, .int v_reason, .int v_acts, .ref qt_gets, .ref qt_counts, .ref qt_worth, .ref qt_ways, .ref qt_image, .ref qt_isKept])), (qt_book, .inl (cI, 43, .inl (upd (upd (upd (upd (upd v_book (Int32.toNatClampNeg s1) s0) (Int32.toNatClampNeg p1) p2) (Int32.toNatClampNeg ((8 : Int32) + p1)) (0 : Int32)) (Int32.toNatClampNeg ((16 : Int32) + p1)) (0 : Int32)) (Int32.toNatClampNeg ((24 : Int32) + p1)) (5 : Int32)))), (qt_flakes, .inl (cI, 8, .inl v_flakes)), (qt_leaks, .inl (cI, 8, .inl v_leaks))] H) (hD : va_D A [(qt, .inr (9, [.ref qt_book, .ref qt_now, .ref qt_flakes, .ref qt_leaks, .int v_music, .ref qt_ranks, .int v_sights, .ref qt_sight, .int v_signs, .ref qt_pad, .int v_freeAt, .int v_freeWho, .int v_reason, .int v_acts, .ref qt_gets, .ref qt_counts, .ref qt_worth, .ref qt_ways, .ref qt_image, .ref qt_isKept])), (qt_book, .inl (cI, 43, .inl (upd (upd (upd (upd (upd v_book (Int32.toNatClampNeg s1) s0) (Int32.toNatClampNeg p1) p2) (Int32.toNatClampNeg ((8 : Int32) + p1)) (0 : Int32)) (Int32.toNatClampNeg ((16 : Int32) + p1)) (0 : Int32)) (Int32.toNatClampNeg ((24 : Int32) + p1)) (5 : Int32)))), (qt_flakes, .inl (cI, 8, .inl v_flakes)), (qt_leaks, .inl (cI, 8, .inl v_leaks))]) hS => ?_)
    refine lv_aload_n hx hb dX10_globe_114 rfl (lv_at hl 0 rfl) ?_
    refine va_get (D := D) (ci := 9) (C := RX10) (T := TX10) (N := 20) hx hb hts (fun _ hw => (List.mem_cons_of_mem _ (List.mem_append_right _ hw))) hown hE.1 hP 0 rfl rfl 0 (by decide) (hts (.fieldLink RX10 7 "GlobeCrownModel" "book" "[I") (List.mem_cons_of_mem _ (List.mem_append_left _ (List.mem_of_getElem? (i := 0) rfl)))) (fun _ h9 => h9) rfl dX10_globe_115 ?_
    refine lv_bipush (v := 40) hx hb dX10_globe_118 (by decide) ?_
    refine lv_dup2_11 hx hb dX10_globe_120 rfl rfl ?_
    refine va_iald hx hb hE.1 hP 1 0 rfl rfl (jinb_in (by decide)) dX10_globe_121 ?_
    refine lv_iconst (v := 1) hx hb dX10_globe_122 (by decide) ?_
    refine lv_iload_n hx hb dX10_globe_123 rfl (lv_at hl 1 rfl) ?_
    refine lv_ishl hx hb dX10_globe_124 ?_
    refine lv_ior hx hb dX10_globe_125 ?_
    refine va_iast hx hb hE.1 hP hD hS 1 0 rfl rfl (jinb_in (by decide)) dX10_globe_126 (fun H locs (hP : va_P D vwCl [(qt, .inr (9, [.ref qt_book, .ref qt_now, .ref qt_flakes, .ref qt_leaks, .int v_music, .ref qt_ranks, .int v_sights, .ref qt_sight, .int v_signs, .ref qt_pad, .int v_freeAt, .int v_freeWho, .int v_reason, .int v_acts, .ref qt_gets, .ref qt_counts, .ref qt_worth, .ref qt_ways, .ref qt_image, .ref qt_isKept])), (qt_book, .inl (cI, 43, .inl (upd (upd (upd (upd (upd (upd v_book (Int32.toNatClampNeg s1) s0) (Int32.toNatClampNeg p1) p2) (Int32.toNatClampNeg ((8 : Int32) + p1)) (0 : Int32)) (Int32.toNatClampNeg ((16 : Int32) + p1)) (0 : Int32)) (Int32.toNatClampNeg ((24 : Int32) + p1)) (5 : Int32)) (Int32.toNatClampNeg (40 : Int32)) (((upd (upd (upd (upd (upd v_book (Int32.toNatClampNeg s1) s0) (Int32.toNatClampNeg p1) p2) (Int32.toNatClampNeg ((8 : Int32) + p1)) (0 : Int32)) (Int32.toNatClampNeg ((16 : Int32) + p1)) (0 : Int32)) (Int32.toNatClampNeg ((24 : Int32) + p1)) (5 : Int32)) (Int32.toNatClampNeg (40 : Int32))) ||| ((1 : Int32) <<< (p1 &&& 31)))))), (qt_flakes, .inl (cI, 8, .inl v_flakes)), (qt_leaks, .inl (cI, 8, .inl v_leaks))] H) (hD : va_D A [(qt, .inr (9, [.ref qt_book, .ref qt_now, .ref qt_flakes, .ref qt_leaks, .int v_music, .ref qt_ranks, .int v_sights, .ref qt_sight, .int v_signs, .ref qt_pad, .int v_freeAt, .int v_freeWho, .int v_reason, .int v_acts, .ref qt_gets, .ref qt_counts, .ref qt_worth, .ref qt_ways, .ref qt_image, .ref qt_isKept])), (qt_book, .inl (cI, 43, .inl (upd (upd (upd (upd (upd (upd v_book (Int32.toNatClampNeg s1) s0) (Int32.toNatClampNeg p1) p2) (Int32.toNatClampNeg ((8 : Int32) + p1)) (0 : Int32)) (Int32.toNatClampNeg ((16 : Int32) + p1)) (0 : Int32)) (Int32.toNatClampNeg ((24 : Int32) + p1)) (5 : Int32)) (Int32.toNatClampNeg (40 : Int32)) (((upd (upd (upd (upd (upd v_book (Int32.toNatClampNeg s1) s0) (Int32.toNatClampNeg p1) p2) (Int32.toNatClampNeg ((8 : Int32) + p1)) (0 : Int32)) (Int32.toNatClampNeg ((16 : Int32) + p1)) (0 : Int32)) (Int32.toNatClampNeg ((24 : Int32) + p1)) (5 : Int32)) (Int32.toNatClampNeg (40 : Int32))) ||| ((1 : Int32) <<< (p1 &&& 31)))))), (qt_flakes, .inl (cI, 8, .inl v_flakes)), (qt_leaks, .inl (cI, 8, .inl v_leaks))]) hS => ?_)
    refine lv_aload_n hx hb dX10_globe_127 rfl (lv_at hl 0 rfl) ?_
    refine va_get (D := D) (ci := 9) (C := RX10) (T := TX10) (N := 20) hx hb hts (fun _ hw => (List.mem_cons_of_mem _ (List.mem_append_right _ hw))) hown hE.1 hP 0 rfl rfl 2 (by decide) (hts (.fieldLink RX10 16 "GlobeCrownModel" "flakes" "[I") (List.mem_cons_of_mem _ (List.mem_append_left _ (List.mem_of_getElem? (i := 1) rfl)))) (fun _ h9 => h9) rfl dX10_globe_128 ?_
    refine lv_iload_n hx hb dX10_globe_131 rfl (lv_at hl 1 rfl) ?_
    refine lv_iload_n hx hb dX10_globe_132 rfl (lv_at hl 3 rfl) ?_
    obtain ⟨hg, h⟩ := gin_some h
    refine va_iast hx hb hE.1 hP hD hS 2 0 rfl rfl hg dX10_globe_133 (fun H locs (hP : va_P D vwCl [(qt, .inr (9, [.ref qt_book, .ref qt_now, .ref qt_flakes, .ref qt_leaks, .int v_music, .ref qt_ranks, .int v_sights, .ref qt_sight, .int v_signs, .ref qt_pad, .int v_freeAt, .int v_freeWho, .int v_reason, .int v_acts, .ref qt_gets, .ref qt_counts, .ref qt_worth, .ref qt_ways, .ref qt_image, .ref qt_isKept])), (qt_book, .inl (cI, 43, .inl (upd (upd (upd (upd (upd (upd v_book (Int32.toNatClampNeg s1) s0) (Int32.toNatClampNeg p1) p2) (Int32.toNatClampNeg ((8 : Int32) + p1)) (0 : Int32)) (Int32.toNatClampNeg ((16 : Int32) + p1)) (0 : Int32)) (Int32.toNatClampNeg ((24 : Int32) + p1)) (5 : Int32)) (Int32.toNatClampNeg (40 : Int32)) (((upd (upd (upd (upd (upd v_book (Int32.toNatClampNeg s1) s0) (Int32.toNatClampNeg p1) p2) (Int32.toNatClampNeg ((8 : Int32) + p1)) (0 : Int32)) (Int32.toNatClampNeg ((16 : Int32) + p1)) (0 : Int32)) (Int32.toNatClampNeg ((24 : Int32) + p1)) (5 : Int32)) (Int32.toNatClampNeg (40 : Int32))) ||| ((1 : Int32) <<< (p1 &&& 31)))))), (qt_flakes, .inl (cI, 8, .inl (upd v_flakes (Int32.toNatClampNeg p1) p3))), (qt_leaks, .inl (cI, 8, .inl v_leaks))] H) (hD : va_D A [(qt, .inr (9, [.ref qt_book, .ref qt_now, .ref qt_flakes, .ref qt_leaks, .int v_music, .ref qt_ranks, .int v_sights, .ref qt_sight, .int v_signs, .ref qt_pad, .int v_freeAt, .int v_freeWho, .int v_reason, .int v_acts, .ref qt_gets, .ref qt_counts, .ref qt_worth, .ref qt_ways, .ref qt_image, .ref qt_isKept])), (qt_book, .inl (cI, 43, .inl (upd (upd (upd (upd (upd (upd v_book (Int32.toNatClampNeg s1) s0) (Int32.toNatClampNeg p1) p2) (Int32.toNatClampNeg ((8 : Int32) + p1)) (0 : Int32)) (Int32.toNatClampNeg ((16 : Int32) + p1)) (0 : Int32)) (Int32.toNatClampNeg ((24 : Int32) + p1)) (5 : Int32)) (Int32.toNatClampNeg (40 : Int32)) (((upd (upd (upd (upd (upd v_book (Int32.toNatClampNeg s1) s0) (Int32.toNatClampNeg p1) p2) (Int32.toNatClampNeg ((8 : Int32) + p1)) (0 : Int32)) (Int32.toNatClampNeg ((16 : Int32) + p1)) (0 : Int32)) (Int32.toNatClampNeg ((24 : Int32) + p1)) (5 : Int32)) (Int32.toNatClampNeg (40 : Int32))) ||| ((1 : Int32) <<< (p1 &&& 31)))))), (qt_flakes, .inl (cI, 8, .inl (upd v_flakes (Int32.toNatClampNeg p1) p3))), (qt_leaks, .inl (cI, 8, .inl v_leaks))]) hS => ?_)
    refine lv_aload_n hx hb dX10_globe_134 rfl (lv_at hl 0 rfl) ?_
    refine va_get (D := D) (ci := 9) (C := RX10) (T := TX10) (N := 20) hx hb hts (fun _ hw => (List.mem_cons_of_mem _ (List.mem_append_right _ hw))) hown hE.1 hP 0 rfl rfl 3 (by decide) (hts (.fieldLink RX10 19 "GlobeCrownModel" "leaks" "[I") (List.mem_cons_of_mem _ (List.mem_append_left _ (List.mem_of_getElem? (i := 2) rfl)))) (fun _ h9 => h9) rfl dX10_globe_135 ?_
    refine lv_iload_n hx hb dX10_globe_138 rfl (lv_at hl 1 rfl) ?_
    refine lv_iload hx hb dX10_globe_139 (lv_at hl 4 rfl) ?_
    obtain ⟨hg, h⟩ := gin_some h
    refine va_iast hx hb hE.1 hP hD hS 3 0 rfl rfl hg dX10_globe_141 (fun H locs (hP : va_P D vwCl [(qt, .inr (9, [.ref qt_book, .ref qt_now, .ref qt_flakes, .ref qt_leaks, .int v_music, .ref qt_ranks, .int v_sights, .ref qt_sight, .int v_signs, .ref qt_pad, .int v_freeAt, .int v_freeWho, .int v_reason, .int v_acts, .ref qt_gets, .ref qt_counts, .ref qt_worth, .ref qt_ways, .ref qt_image, .ref qt_isKept])), (qt_book, .inl (cI, 43, .inl (upd (upd (upd (upd (upd (upd v_book (Int32.toNatClampNeg s1) s0) (Int32.toNatClampNeg p1) p2) (Int32.toNatClampNeg ((8 : Int32) + p1)) (0 : Int32)) (Int32.toNatClampNeg ((16 : Int32) + p1)) (0 : Int32)) (Int32.toNatClampNeg ((24 : Int32) + p1)) (5 : Int32)) (Int32.toNatClampNeg (40 : Int32)) (((upd (upd (upd (upd (upd v_book (Int32.toNatClampNeg s1) s0) (Int32.toNatClampNeg p1) p2) (Int32.toNatClampNeg ((8 : Int32) + p1)) (0 : Int32)) (Int32.toNatClampNeg ((16 : Int32) + p1)) (0 : Int32)) (Int32.toNatClampNeg ((24 : Int32) + p1)) (5 : Int32)) (Int32.toNatClampNeg (40 : Int32))) ||| ((1 : Int32) <<< (p1 &&& 31)))))), (qt_flakes, .inl (cI, 8, .inl (upd v_flakes (Int32.toNatClampNeg p1) p3))), (qt_leaks, .inl (cI, 8, .inl (upd v_leaks (Int32.toNatClampNeg p1) p4)))] H) (hD : va_D A [(qt, .inr (9, [.ref qt_book, .ref qt_now, .ref qt_flakes, .ref qt_leaks, .int v_music, .ref qt_ranks, .int v_sights, .ref qt_sight, .int v_signs, .ref qt_pad, .int v_freeAt, .int v_freeWho, .int v_reason, .int v_acts, .ref qt_gets, .ref qt_counts, .ref qt_worth, .ref qt_ways, .ref qt_image, .ref qt_isKept])), (qt_book, .inl (cI, 43, .inl (upd (upd (upd (upd (upd (upd v_book (Int32.toNatClampNeg s1) s0) (Int32.toNatClampNeg p1) p2) (Int32.toNatClampNeg ((8 : Int32) + p1)) (0 : Int32)) (Int32.toNatClampNeg ((16 : Int32) + p1)) (0 : Int32)) (Int32.toNatClampNeg ((24 : Int32) + p1)) (5 : Int32)) (Int32.toNatClampNeg (40 : Int32)) (((upd (upd (upd (upd (upd v_book (Int32.toNatClampNeg s1) s0) (Int32.toNatClampNeg p1) p2) (Int32.toNatClampNeg ((8 : Int32) + p1)) (0 : Int32)) (Int32.toNatClampNeg ((16 : Int32) + p1)) (0 : Int32)) (Int32.toNatClampNeg ((24 : Int32) + p1)) (5 : Int32)) (Int32.toNatClampNeg (40 : Int32))) ||| ((1 : Int32) <<< (p1 &&& 31)))))), (qt_flakes, .inl (cI, 8, .inl (upd v_flakes (Int32.toNatClampNeg p1) p3))), (qt_leaks, .inl (cI, 8, .inl (upd v_leaks (Int32.toNatClampNeg p1) p4)))]) hS => ?_)
    refine lv_aload_n hx hb dX10_globe_142 rfl (lv_at hl 0 rfl) ?_
    refine lv_dup hx hb dX10_globe_143 rfl ?_
    refine va_get (D := D) (ci := 9) (C := RX10) (T := TX10) (N := 20) hx hb hts (fun _ hw => (List.mem_cons_of_mem _ (List.mem_append_right _ hw))) hown hE.1 hP 0 rfl rfl 4 (by decide) (hts (.fieldLink RX10 63 "GlobeCrownModel" "music" "I") (List.mem_cons_of_mem _ (List.mem_append_left _ (List.mem_of_getElem? (i := 3) rfl)))) (fun _ h9 => h9) rfl dX10_globe_144 ?_
    refine lv_iconst (v := 1) hx hb dX10_globe_147 (by decide) ?_
    refine lv_iload_n hx hb dX10_globe_148 rfl (lv_at hl 1 rfl) ?_
    refine lv_ishl hx hb dX10_globe_149 ?_
    refine lv_iconst (v := -1) hx hb dX10_globe_150 (by decide) ?_
    refine lv_ixor hx hb dX10_globe_151 ?_
    refine lv_iand hx hb dX10_globe_152 ?_
    refine va_put (D := D) (ci := 9) (v := .int (v_music &&& (((1 : Int32) <<< (p1 &&& 31)) ^^^ (-1 : Int32)))) (ty := .int) (C := RX10) (T := TX10) (N := 20) hx hb hts (fun _ hw => (List.mem_cons_of_mem _ (List.mem_append_right _ hw))) tyX10 tyX10_ok nmX10 hown hE.1 hP hD hS 0 rfl rfl 4 (by decide) (hts (.fieldLink RX10 63 "GlobeCrownModel" "music" "I") (List.mem_cons_of_mem _ (List.mem_append_left _ (List.mem_of_getElem? (i := 3) rfl)))) (fun _ h9 => h9) rfl (tyX10_ok 4 (by decide)) rfl rfl (Nat.le_of_ble_eq_true rfl) dX10_globe_153 (fun H locs (hP : va_P D vwCl [(qt, .inr (9, [.ref qt_book, .ref qt_now, .ref qt_flakes, .ref qt_leaks, .int (v_music &&& (((1 : Int32) <<< (p1 &&& 31)) ^^^ (-1 : Int32))), .ref qt_ranks, .int v_sights, .ref qt_sight, .int v_signs, .ref qt_pad, .int v_freeAt, .int v_freeWho, .int v_reason, .int v_acts, .ref qt_gets, .ref qt_counts, .ref qt_worth, .ref qt_ways, .ref qt_image, .ref qt_isKept])), (qt_book, .inl (cI, 43, .inl (upd (upd (upd (upd (upd (upd v_book (Int32.toNatClampNeg s1) s0) (Int32.toNatClampNeg p1) p2) (Int32.toNatClampNeg ((8 : Int32) + p1)) (0 : Int32)) (Int32.toNatClampNeg ((16 : Int32) + p1)) (0 : Int32)) (Int32.toNatClampNeg ((24 : Int32) + p1)) (5 : Int32)) (Int32.toNatClampNeg (40 : Int32)) (((upd (upd (upd (upd (upd v_book (Int32.toNatClampNeg s1) s0) (Int32.toNatClampNeg p1) p2) (Int32.toNatClampNeg ((8 : Int32) + p1)) (0 : Int32)) (Int32.toNatClampNeg ((16 : Int32) + p1)) (0 : Int32)) (Int32.toNatClampNeg ((24 : Int32) + p1)) (5 : Int32)) (Int32.toNatClampNeg (40 : Int32))) ||| ((1 : Int32) <<< (p1 &&& 31)))))), (qt_flakes, .inl (cI, 8, .inl (upd v_flakes (Int32.toNatClampNeg p1) p3))), (qt_leaks, .inl (cI, 8, .inl (upd v_leaks (Int32.toNatClampNeg p1) p4)))] H) (hD : va_D A [(qt, .inr (9, [.ref qt_book, .ref qt_now, .ref qt_flakes, .ref qt_leaks, .int (v_music &&& (((1 : Int32) <<< (p1 &&& 31)) ^^^ (-1 : Int32))), .ref qt_ranks, .int v_sights, .ref qt_sight, .int v_signs, .ref qt_pad, .int v_freeAt, .int v_freeWho, .int v_reason, .int v_acts, .ref qt_gets, .ref qt_counts, .ref qt_worth, .ref qt_ways, .ref qt_image, .ref qt_isKept])), (qt_book, .inl (cI, 43, .inl (upd (upd (upd (upd (upd (upd v_book (Int32.toNatClampNeg s1) s0) (Int32.toNatClampNeg p1) p2) (Int32.toNatClampNeg ((8 : Int32) + p1)) (0 : Int32)) (Int32.toNatClampNeg ((16 : Int32) + p1)) (0 : Int32)) (Int32.toNatClampNeg ((24 : Int32) + p1)) (5 : Int32)) (Int32.toNatClampNeg (40 : Int32)) (((upd (upd (upd (upd (upd v_book (Int32.toNatClampNeg s1) s0) (Int32.toNatClampNeg p1) p2) (Int32.toNatClampNeg ((8 : Int32) + p1)) (0 : Int32)) (Int32.toNatClampNeg ((16 : Int32) + p1)) (0 : Int32)) (Int32.toNatClampNeg ((24 : Int32) + p1)) (5 : Int32)) (Int32.toNatClampNeg (40 : Int32))) ||| ((1 : Int32) <<< (p1 &&& 31)))))), (qt_flakes, .inl (cI, 8, .inl (upd v_flakes (Int32.toNatClampNeg p1) p3))), (qt_leaks, .inl (cI, 8, .inl (upd v_leaks (Int32.toNatClampNeg p1) p4)))]) hS => ?_)
    refine lv_aload_n hx hb dX10_globe_156 rfl (lv_at hl 0 rfl) ?_
    refine lv_dup hx hb dX10_globe_157 rfl ?_
    refine va_get (D := D) (ci := 9) (C := RX10) (T := TX10) (N := 20) hx hb hts (fun _ hw => (List.mem_cons_of_mem _ (List.mem_append_right _ hw))) hown hE.1 hP 0 rfl rfl 4 (by decide) (hts (.fieldLink RX10 63 "GlobeCrownModel" "music" "I") (List.mem_cons_of_mem _ (List.mem_append_left _ (List.mem_of_getElem? (i := 3) rfl)))) (fun _ h9 => h9) rfl dX10_globe_158 ?_
    refine lv_iload hx hb dX10_globe_161 (lv_at hl 5 rfl) ?_
    refine lv_if_eq (tgt := 172) hx hb dX10_globe_163 (by decide) (fun hc => ?_) (fun hc => ?_)
    · have h := if_t hc h
      refine lv_iconst (v := 0) hx hb dX10_globe_172 (by decide) ?_
      exact hB173 (upd (upd (upd (upd (upd (upd v_book (Int32.toNatClampNeg s1) s0) (Int32.toNatClampNeg p1) p2) (Int32.toNatClampNeg ((8 : Int32) + p1)) (0 : Int32)) (Int32.toNatClampNeg ((16 : Int32) + p1)) (0 : Int32)) (Int32.toNatClampNeg ((24 : Int32) + p1)) (5 : Int32)) (Int32.toNatClampNeg (40 : Int32)) (((upd (upd (upd (upd (upd v_book (Int32.toNatClampNeg s1) s0) (Int32.toNatClampNeg p1) p2) (Int32.toNatClampNeg ((8 : Int32) + p1)) (0 : Int32)) (Int32.toNatClampNeg ((16 : Int32) + p1)) (0 : Int32)) (Int32.toNatClampNeg ((24 : Int32) + p1)) (5 : Int32)) (Int32.toNatClampNeg (40 : Int32))) ||| ((1 : Int32) <<< (p1 &&& 31)))) (upd v_flakes (Int32.toNatClampNeg p1) p3) (upd v_leaks (Int32.toNatClampNeg p1) p4) (v_music &&& (((1 : Int32) <<< (p1 &&& 31)) ^^^ (-1 : Int32))) (0 : Int32) (v_music &&& (((1 : Int32) <<< (p1 &&& 31)) ^^^ (-1 : Int32))) H locs ls hP hD hS (lv_sub hl [0] rfl) h
    · have h := if_f hc h
      refine lv_iconst (v := 1) hx hb dX10_globe_166 (by decide) ?_
      refine lv_iload_n hx hb dX10_globe_167 rfl (lv_at hl 1 rfl) ?_
      refine lv_ishl hx hb dX10_globe_168 ?_
      refine lv_goto (tgt := 173) hx hb dX10_globe_169 (by decide) ?_
      exact hB173 (upd (upd (upd (upd (upd (upd v_book (Int32.toNatClampNeg s1) s0) (Int32.toNatClampNeg p1) p2) (Int32.toNatClampNeg ((8 : Int32) + p1)) (0 : Int32)) (Int32.toNatClampNeg ((16 : Int32) + p1)) (0 : Int32)) (Int32.toNatClampNeg ((24 : Int32) + p1)) (5 : Int32)) (Int32.toNatClampNeg (40 : Int32)) (((upd (upd (upd (upd (upd v_book (Int32.toNatClampNeg s1) s0) (Int32.toNatClampNeg p1) p2) (Int32.toNatClampNeg ((8 : Int32) + p1)) (0 : Int32)) (Int32.toNatClampNeg ((16 : Int32) + p1)) (0 : Int32)) (Int32.toNatClampNeg ((24 : Int32) + p1)) (5 : Int32)) (Int32.toNatClampNeg (40 : Int32))) ||| ((1 : Int32) <<< (p1 &&& 31)))) (upd v_flakes (Int32.toNatClampNeg p1) p3) (upd v_leaks (Int32.toNatClampNeg p1) p4) (v_music &&& (((1 : Int32) <<< (p1 &&& 31)) ^^^ (-1 : Int32))) ((1 : Int32) <<< (p1 &&& 31)) (v_music &&& (((1 : Int32) <<< (p1 &&& 31)) ^^^ (-1 : Int32))) H locs ls hP hD hS (lv_sub hl [0] rfl) h
  have h := hf
  unfold f_X10_globe at h
  refine gw_start hP hD hS (fun H locs hP hD hS => ?_)
  refine lv_iload_n hx hb dX10_globe_0 rfl (lv_at hl 1 rfl) ?_
  refine lv_iconst (v := 0) hx hb dX10_globe_1 (by decide) ?_
  refine lv_bipush (v := 7) hx hb dX10_globe_2 (by decide) ?_
  obtain ⟨r4, hc4, h⟩ := bd1_some h
  refine gw_ci (wr := [(qt, .inr (9, [.ref qt_book, .ref qt_now, .ref qt_flakes, .ref qt_leaks, .int v_music, .ref qt_ranks, .int v_sights, .ref qt_sight, .int v_signs, .ref qt_pad, .int v_freeAt, .int v_freeWho, .int v_reason, .int v_acts, .ref qt_gets, .ref qt_counts, .ref qt_worth, .ref qt_ways, .ref qt_image, .ref qt_isKept])), (qt_book, .inl (cI, 43, .inl v_book)), (qt_flakes, .inl (cI, 8, .inl v_flakes)), (qt_leaks, .inl (cI, 8, .inl v_leaks))]) (w2 := [(qt, .inr (9, [.ref qt_book, .ref qt_now, .ref qt_flakes, .ref qt_leaks, .int v_music, .ref qt_ranks, .int v_sights, .ref qt_sight, .int v_signs, .ref qt_pad, .int v_freeAt, .int v_freeWho, .int v_reason, .int v_acts, .ref qt_gets, .ref qt_counts, .ref qt_worth, .ref qt_ways, .ref qt_image, .ref qt_isKept])), (qt_book, .inl (cI, 43, .inl v_book)), (qt_flakes, .inl (cI, 8, .inl v_flakes)), (qt_leaks, .inl (cI, 8, .inl v_leaks))]) (gw_rS (n := 3) ⟨hx, hb, hml, hown, hts⟩ (C_X10_in l D cI cJ cZ H.size p1 (0 : Int32) (7 : Int32) r4 hc4) gX10_globe_X10_in rfl rfl rfl hdS_X10_in ⟨Nat.le_of_ble_eq_true rfl, Nat.le_of_ble_eq_true rfl⟩ hE (hP.sub [] rfl) (hD.sub [] (by decide) rfl) rfl hl.1 (rest := []) rfl (Nat.le_of_ble_eq_true rfl) dX10_globe_4 ⟨Nat.zero_le _, Nat.zero_le _⟩) hP hD hS hA [] [0, 1, 2, 3] rfl rfl rfl (by decide) rfl (fun H locs hP hD hS => ?_)
  refine lv_if_ne (tgt := 12) hx hb dX10_globe_7 (by decide) (fun hc => ?_) (fun hc => ?_)
  · have h := if_f hc h
    refine lv_iload_n hx hb dX10_globe_12 rfl (lv_at hl 2 rfl) ?_
    refine lv_iconst (v := 0) hx hb dX10_globe_13 (by decide) ?_
    refine lv_bipush (v := 99) hx hb dX10_globe_14 (by decide) ?_
    obtain ⟨r16, hc16, h⟩ := bd1_some h
    refine gw_ci (wr := [(qt, .inr (9, [.ref qt_book, .ref qt_now, .ref qt_flakes, .ref qt_leaks, .int v_music, .ref qt_ranks, .int v_sights, .ref qt_sight, .int v_signs, .ref qt_pad, .int v_freeAt, .int v_freeWho, .int v_reason, .int v_acts, .ref qt_gets, .ref qt_counts, .ref qt_worth, .ref qt_ways, .ref qt_image, .ref qt_isKept])), (qt_book, .inl (cI, 43, .inl v_book)), (qt_flakes, .inl (cI, 8, .inl v_flakes)), (qt_leaks, .inl (cI, 8, .inl v_leaks))]) (w2 := [(qt, .inr (9, [.ref qt_book, .ref qt_now, .ref qt_flakes, .ref qt_leaks, .int v_music, .ref qt_ranks, .int v_sights, .ref qt_sight, .int v_signs, .ref qt_pad, .int v_freeAt, .int v_freeWho, .int v_reason, .int v_acts, .ref qt_gets, .ref qt_counts, .ref qt_worth, .ref qt_ways, .ref qt_image, .ref qt_isKept])), (qt_book, .inl (cI, 43, .inl v_book)), (qt_flakes, .inl (cI, 8, .inl v_flakes)), (qt_leaks, .inl (cI, 8, .inl v_leaks))]) (gw_rS (n := 3) ⟨hx, hb, hml, hown, hts⟩ (C_X10_in l D cI cJ cZ H.size p2 (0 : Int32) (99 : Int32) r16 hc16) gX10_globe_X10_in rfl rfl rfl hdS_X10_in ⟨Nat.le_of_ble_eq_true rfl, Nat.le_of_ble_eq_true rfl⟩ hE (hP.sub [] rfl) (hD.sub [] (by decide) rfl) rfl hl.1 (rest := []) rfl (Nat.le_of_ble_eq_true rfl) dX10_globe_16 ⟨Nat.zero_le _, Nat.zero_le _⟩) hP hD hS hA [] [0, 1, 2, 3] rfl rfl rfl (by decide) rfl (fun H locs hP hD hS => ?_)
    refine lv_if_eq (tgt := 43) hx hb dX10_globe_19 (by decide) (fun hc => ?_) (fun hc => ?_)
    · have h := if_t hc h
      refine lv_bipush (v := -2) hx hb dX10_globe_43 (by decide) ?_
      cases h
      rw [hQQ]
      exact gw_iret hx hb hr hlocks hP hD hS dX10_globe_45
    · have h := if_f hc h
      refine lv_iload_n hx hb dX10_globe_22 rfl (lv_at hl 3 rfl) ?_
      refine lv_iconst (v := 0) hx hb dX10_globe_23 (by decide) ?_
      refine lv_bipush (v := 99) hx hb dX10_globe_24 (by decide) ?_
      obtain ⟨r26, hc26, h⟩ := bd1_some h
      refine gw_ci (wr := [(qt, .inr (9, [.ref qt_book, .ref qt_now, .ref qt_flakes, .ref qt_leaks, .int v_music, .ref qt_ranks, .int v_sights, .ref qt_sight, .int v_signs, .ref qt_pad, .int v_freeAt, .int v_freeWho, .int v_reason, .int v_acts, .ref qt_gets, .ref qt_counts, .ref qt_worth, .ref qt_ways, .ref qt_image, .ref qt_isKept])), (qt_book, .inl (cI, 43, .inl v_book)), (qt_flakes, .inl (cI, 8, .inl v_flakes)), (qt_leaks, .inl (cI, 8, .inl v_leaks))]) (w2 := [(qt, .inr (9, [.ref qt_book, .ref qt_now, .ref qt_flakes, .ref qt_leaks, .int v_music, .ref qt_ranks, .int v_sights, .ref qt_sight, .int v_signs, .ref qt_pad, .int v_freeAt, .int v_freeWho, .int v_reason, .int v_acts, .ref qt_gets, .ref qt_counts, .ref qt_worth, .ref qt_ways, .ref qt_image, .ref qt_isKept])), (qt_book, .inl (cI, 43, .inl v_book)), (qt_flakes, .inl (cI, 8, .inl v_flakes)), (qt_leaks, .inl (cI, 8, .inl v_leaks))]) (gw_rS (n := 3) ⟨hx, hb, hml, hown, hts⟩ (C_X10_in l D cI cJ cZ H.size p3 (0 : Int32) (99 : Int32) r26 hc26) gX10_globe_X10_in rfl rfl rfl hdS_X10_in ⟨Nat.le_of_ble_eq_true rfl, Nat.le_of_ble_eq_true rfl⟩ hE (hP.sub [] rfl) (hD.sub [] (by decide) rfl) rfl hl.1 (rest := []) rfl (Nat.le_of_ble_eq_true rfl) dX10_globe_26 ⟨Nat.zero_le _, Nat.zero_le _⟩) hP hD hS hA [] [0, 1, 2, 3] rfl rfl rfl (by decide) rfl (fun H locs hP hD hS => ?_)
      refine lv_if_eq (tgt := 43) hx hb dX10_globe_29 (by decide) (fun hc => ?_) (fun hc => ?_)
      · have h := if_t hc h
        refine lv_bipush (v := -2) hx hb dX10_globe_43 (by decide) ?_
        cases h
        rw [hQQ]
        exact gw_iret hx hb hr hlocks hP hD hS dX10_globe_45
      · have h := if_f hc h
        refine lv_iload hx hb dX10_globe_32 (lv_at hl 4 rfl) ?_
        refine lv_iconst (v := 0) hx hb dX10_globe_34 (by decide) ?_
        refine lv_bipush (v := 9) hx hb dX10_globe_35 (by decide) ?_
        obtain ⟨r37, hc37, h⟩ := bd1_some h
        refine gw_ci (wr := [(qt, .inr (9, [.ref qt_book, .ref qt_now, .ref qt_flakes, .ref qt_leaks, .int v_music, .ref qt_ranks, .int v_sights, .ref qt_sight, .int v_signs, .ref qt_pad, .int v_freeAt, .int v_freeWho, .int v_reason, .int v_acts, .ref qt_gets, .ref qt_counts, .ref qt_worth, .ref qt_ways, .ref qt_image, .ref qt_isKept])), (qt_book, .inl (cI, 43, .inl v_book)), (qt_flakes, .inl (cI, 8, .inl v_flakes)), (qt_leaks, .inl (cI, 8, .inl v_leaks))]) (w2 := [(qt, .inr (9, [.ref qt_book, .ref qt_now, .ref qt_flakes, .ref qt_leaks, .int v_music, .ref qt_ranks, .int v_sights, .ref qt_sight, .int v_signs, .ref qt_pad, .int v_freeAt, .int v_freeWho, .int v_reason, .int v_acts, .ref qt_gets, .ref qt_counts, .ref qt_worth, .ref qt_ways, .ref qt_image, .ref qt_isKept])), (qt_book, .inl (cI, 43, .inl v_book)), (qt_flakes, .inl (cI, 8, .inl v_flakes)), (qt_leaks, .inl (cI, 8, .inl v_leaks))]) (gw_rS (n := 3) ⟨hx, hb, hml, hown, hts⟩ (C_X10_in l D cI cJ cZ H.size p4 (0 : Int32) (9 : Int32) r37 hc37) gX10_globe_X10_in rfl rfl rfl hdS_X10_in ⟨Nat.le_of_ble_eq_true rfl, Nat.le_of_ble_eq_true rfl⟩ hE (hP.sub [] rfl) (hD.sub [] (by decide) rfl) rfl hl.1 (rest := []) rfl (Nat.le_of_ble_eq_true rfl) dX10_globe_37 ⟨Nat.zero_le _, Nat.zero_le _⟩) hP hD hS hA [] [0, 1, 2, 3] rfl rfl rfl (by decide) rfl (fun H locs hP hD hS => ?_)
        refine lv_if_ne (tgt := 46) hx hb dX10_globe_40 (by decide) (fun hc => ?_) (fun hc => ?_)
        · have h := if_f hc h
          refine lv_aload_n hx hb dX10_globe_46 rfl (lv_at hl 0 rfl) ?_
          refine va_get (D := D) (ci := 9) (C := RX10) (T := TX10) (N := 20) hx hb hts (fun _ hw => (List.mem_cons_of_mem _ (List.mem_append_right _ hw))) hown hE.1 hP 0 rfl rfl 0 (by decide) (hts (.fieldLink RX10 7 "GlobeCrownModel" "book" "[I") (List.mem_cons_of_mem _ (List.mem_append_left _ (List.mem_of_getElem? (i := 0) rfl)))) (fun _ h9 => h9) rfl dX10_globe_47 ?_
          refine lv_bipush (v := 32) hx hb dX10_globe_50 (by decide) ?_
          refine lv_iload_n hx hb dX10_globe_52 rfl (lv_at hl 1 rfl) ?_
          refine lv_iadd hx hb dX10_globe_53 ?_
          refine lv_aload_n hx hb dX10_globe_54 rfl (lv_at hl 0 rfl) ?_
          refine lv_iload_n hx hb dX10_globe_55 rfl (lv_at hl 1 rfl) ?_
          obtain ⟨r56, hc56, h⟩ := bd1_some h
          refine gw_ci (wr := [(qt_flakes, .inl (cI, 8, .inl v_flakes)), (qt_leaks, .inl (cI, 8, .inl v_leaks))]) (w2 := [(qt_flakes, .inl (cI, 8, .inl v_flakes)), (qt_leaks, .inl (cI, 8, .inl v_leaks)), (qt, .inr (9, [.ref qt_book, .ref qt_now, .ref qt_flakes, .ref qt_leaks, .int v_music, .ref qt_ranks, .int v_sights, .ref qt_sight, .int v_signs, .ref qt_pad, .int v_freeAt, .int v_freeWho, .int v_reason, .int v_acts, .ref qt_gets, .ref qt_counts, .ref qt_worth, .ref qt_ways, .ref qt_image, .ref qt_isKept])), (qt_book, .inl (cI, 43, .inl v_book))]) (gw_rV (n := 1) ⟨hx, hb, hml, hown, hts⟩ (C_X10_isThere l D cI cJ cZ H.size qt qt_book qt_now qt_flakes qt_leaks qt_ranks qt_sight qt_pad qt_gets qt_counts qt_worth qt_ways qt_image qt_isKept v_book v_music v_sights v_signs v_freeAt v_freeWho v_reason v_acts p1 r56 hc56) gX10_globe_X10_isThere rfl rfl rfl hdV_X10_isThere ⟨Nat.le_of_ble_eq_true rfl, Nat.le_of_ble_eq_true rfl⟩ hE (hP.sub [0, 1] rfl) (hD.sub [0, 1] (by decide) rfl) 9 rfl 0 rfl rfl hl.1 (rest := [.int ((32 : Int32) + p1), .ref qt_book]) rfl (Nat.le_of_ble_eq_true rfl) dX10_globe_56 ⟨Nat.zero_le _, Nat.zero_le _⟩) hP hD hS hA [0, 1] [2, 3] rfl rfl rfl (by decide) rfl (fun H locs hP hD hS => ?_)
          refine lv_if_eq (tgt := 74) hx hb dX10_globe_59 (by decide) (fun hc => ?_) (fun hc => ?_)
          · have h := if_t hc h
            refine lv_bipush (v := -6) hx hb dX10_globe_74 (by decide) ?_
            exact hB76 v_book v_flakes v_leaks v_music (-6 : Int32) ((32 : Int32) + p1) H locs ls (hP.sub [2, 3, 0, 1] rfl) (hD.sub [2, 3, 0, 1] (by decide) rfl) hS hl h
          · have h := if_f hc h
            refine lv_aload_n hx hb dX10_globe_62 rfl (lv_at hl 0 rfl) ?_
            refine va_get (D := D) (ci := 9) (C := RX10) (T := TX10) (N := 20) hx hb hts (fun _ hw => (List.mem_cons_of_mem _ (List.mem_append_right _ hw))) hown hE.1 hP 2 rfl rfl 0 (by decide) (hts (.fieldLink RX10 7 "GlobeCrownModel" "book" "[I") (List.mem_cons_of_mem _ (List.mem_append_left _ (List.mem_of_getElem? (i := 0) rfl)))) (fun _ h9 => h9) rfl dX10_globe_63 ?_
            refine lv_bipush (v := 32) hx hb dX10_globe_66 (by decide) ?_
            refine lv_iload_n hx hb dX10_globe_68 rfl (lv_at hl 1 rfl) ?_
            refine lv_iadd hx hb dX10_globe_69 ?_
            obtain ⟨hg, h⟩ := gin_some h
            refine va_iald hx hb hE.1 hP 3 0 rfl rfl hg dX10_globe_70 ?_
            refine lv_goto (tgt := 76) hx hb dX10_globe_71 (by decide) ?_
            exact hB76 v_book v_flakes v_leaks v_music (v_book (Int32.toNatClampNeg ((32 : Int32) + p1))) ((32 : Int32) + p1) H locs ls (hP.sub [2, 3, 0, 1] rfl) (hD.sub [2, 3, 0, 1] (by decide) rfl) hS hl h
        · have h := if_t hc h
          refine lv_bipush (v := -2) hx hb dX10_globe_43 (by decide) ?_
          cases h
          rw [hQQ]
          exact gw_iret hx hb hr hlocks hP hD hS dX10_globe_45
  · have h := if_t hc h
    refine lv_iconst (v := -1) hx hb dX10_globe_10 (by decide) ?_
    cases h
    rw [hQQ]
    exact gw_iret hx hb hr hlocks hP hD hS dX10_globe_11
theorem hdV_X10_globe : yX10_globe.cls = RX10 ∧ yX10_globe.cls ≠ "java/lang/invoke/MethodHandle" ∧ yX10_globe.cls ≠ "java/lang/invoke/VarHandle" ∧ (parseMethodDescriptor yX10_globe.desc).map (fun d => d.parameters.length) = some 5 := by decide +kernel
def f_X10_fly (v_book : (Nat → Int32)) (v_flakes : (Nat → Int32)) (p1 : Int32) (p2 : Int32) : Option (Int32 × (Nat → Int32)) := (bd1 (f_X10_isThere v_book p1) (fun r2 => (if r2 = (0 : Int32) then (some ((-1 : Int32), v_book)) else (gin p1 8 (bd1 (f_X10_in p2 (0 : Int32) (v_flakes (Int32.toNatClampNeg p1))) (fun r18 => (if r18 = (0 : Int32) then (some ((-2 : Int32), v_book)) else (gin ((8 : Int32) + p1) 43 (gin ((8 : Int32) + p1) 43 (some ((v_book (Int32.toNatClampNeg ((8 : Int32) + p1))), (upd v_book (Int32.toNatClampNeg ((8 : Int32) + p1)) p2))))))))))))
abbrev rm_X10_fly : Room := { frames := 2, cells := 0, slots := 0, locals := 43 }
set_option maxHeartbeats 4000000 in
set_option maxRecDepth 100000 in
theorem C_X10_fly (l : Launch) (D : va_G) (cI cJ cZ : ClassId) (sz : Nat) (qt qt_book qt_now qt_flakes qt_leaks qt_ranks qt_sight qt_pad qt_gets qt_counts qt_worth qt_ways qt_image qt_isKept : Nat) (v_book : (Nat → Int32)) (v_flakes : (Nat → Int32)) (v_music : Int32) (v_sights : Int32) (v_signs : Int32) (v_freeAt : Int32) (v_freeWho : Int32) (v_reason : Int32) (v_acts : Int32) (p1 : Int32) (p2 : Int32) (r : Int32) (w_book : (Nat → Int32)) (hf : f_X10_fly v_book v_flakes p1 p2 = some (r, w_book)) : Met l yX10_fly wsX10_fly rm_X10_fly (PR D cI cJ cZ [(qt, .inr (9, [.ref qt_book, .ref qt_now, .ref qt_flakes, .ref qt_leaks, .int v_music, .ref qt_ranks, .int v_sights, .ref qt_sight, .int v_signs, .ref qt_pad, .int v_freeAt, .int v_freeWho, .int v_reason, .int v_acts, .ref qt_gets, .ref qt_counts, .ref qt_worth, .ref qt_ways, .ref qt_image, .ref qt_isKept])), (qt_book, .inl (cI, 43, .inl v_book)), (qt_flakes, .inl (cI, 8, .inl v_flakes))] sz [.ref qt, .int p1, .int p2]) (QI D (va_A [(qt, .inr (9, [.ref qt_book, .ref qt_now, .ref qt_flakes, .ref qt_leaks, .int v_music, .ref qt_ranks, .int v_sights, .ref qt_sight, .int v_signs, .ref qt_pad, .int v_freeAt, .int v_freeWho, .int v_reason, .int v_acts, .ref qt_gets, .ref qt_counts, .ref qt_worth, .ref qt_ways, .ref qt_image, .ref qt_isKept])), (qt_book, .inl (cI, 43, .inl v_book)), (qt_flakes, .inl (cI, 8, .inl v_flakes))] sz) r [(qt, .inr (9, [.ref qt_book, .ref qt_now, .ref qt_flakes, .ref qt_leaks, .int v_music, .ref qt_ranks, .int v_sights, .ref qt_sight, .int v_signs, .ref qt_pad, .int v_freeAt, .int v_freeWho, .int v_reason, .int v_acts, .ref qt_gets, .ref qt_counts, .ref qt_worth, .ref qt_ways, .ref qt_image, .ref qt_isKept])), (qt_book, .inl (cI, 43, .inl w_book)), (qt_flakes, .inl (cI, 8, .inl v_flakes))]) 0 0 (va_A [(qt, .inr (9, [.ref qt_book, .ref qt_now, .ref qt_flakes, .ref qt_leaks, .int v_music, .ref qt_ranks, .int v_sights, .ref qt_sight, .int v_signs, .ref qt_pad, .int v_freeAt, .int v_freeWho, .int v_reason, .int v_acts, .ref qt_gets, .ref qt_counts, .ref qt_worth, .ref qt_ways, .ref qt_image, .ref qt_isKept])), (qt_book, .inl (cI, 43, .inl v_book)), (qt_flakes, .inl (cI, 8, .inl v_flakes))] sz) := by
  refine Met.ofW (cc := cX10_fly) (maxL := 4) (ret := (some .int)) (by decide) rfl ?_
  intro p e s m args below meth c s₁ B hml hv
  obtain ⟨hav, hsz, hP, hD0, hE⟩ := hv
  have hx := B.exec
  have hb := B.bytes
  have hr := B.returns
  have hts := atoms_spec (ws := wsX10_fly) B.pre
  have hown : s.vm.findClass RX10 = some m.cls := findClass_of_methodNamed B.named
  have hlocks := B.notSynchronized
  subst hsz
  have hD := hD0.self (sz := s.heap.size)
  generalize hAe : va_A [(qt, .inr (9, [.ref qt_book, .ref qt_now, .ref qt_flakes, .ref qt_leaks, .int v_music, .ref qt_ranks, .int v_sights, .ref qt_sight, .int v_signs, .ref qt_pad, .int v_freeAt, .int v_freeWho, .int v_reason, .int v_acts, .ref qt_gets, .ref qt_counts, .ref qt_worth, .ref qt_ways, .ref qt_image, .ref qt_isKept])), (qt_book, .inl (cI, 43, .inl v_book)), (qt_flakes, .inl (cI, 8, .inl v_flakes))] s.heap.size = A at hD ⊢
  have hA : ∀ q : Nat, s.heap.size ≤ q → A q := fun q h => by rw [← hAe]; exact Or.inr h
  have hS : va_S A s.heap s.heap [] := va_S.rf
  have hl := lv_entry ([.ref qt, .int p1, .int p2]) (n := 4) (Nat.le_of_ble_eq_true rfl)
  have hfr : entryFrame m args 4 = entryFrame m ([.ref qt, .int p1, .int p2] : List Value).toArray 4 := by rw [hav]
  rw [hfr, lg_entry_eq]
  generalize (lg_sl ([.ref qt, .int p1, .int p2]) ++ List.replicate (4 - (lg_sl ([.ref qt, .int p1, .int p2])).length) Slot.unset).toArray = ls at hl ⊢
  have hl : lv_has ls 4 [(0, .ref qt), (1, .int p1), (2, .int p2)] := hl
  obtain ⟨QQ, hQQ⟩ : ∃ QQ, QQ = MQ below (QI D A r [(qt, .inr (9, [.ref qt_book, .ref qt_now, .ref qt_flakes, .ref qt_leaks, .int v_music, .ref qt_ranks, .int v_sights, .ref qt_sight, .int v_signs, .ref qt_pad, .int v_freeAt, .int v_freeWho, .int v_reason, .int v_acts, .ref qt_gets, .ref qt_counts, .ref qt_worth, .ref qt_ways, .ref qt_image, .ref qt_isKept])), (qt_book, .inl (cI, 43, .inl w_book)), (qt_flakes, .inl (cI, 8, .inl v_flakes))]) args s 0 0 A := ⟨_, rfl⟩
  show W p l e rm_X10_fly s m args below meth c s.heap [] 0 0 _ _
  rw [← hQQ]
  have h := hf
  unfold f_X10_fly at h
  refine gw_start hP hD hS (fun H locs hP hD hS => ?_)
  refine lv_aload_n hx hb dX10_fly_0 rfl (lv_at hl 0 rfl) ?_
  refine lv_iload_n hx hb dX10_fly_1 rfl (lv_at hl 1 rfl) ?_
  obtain ⟨r2, hc2, h⟩ := bd1_some h
  refine gw_ci (wr := [(qt_flakes, .inl (cI, 8, .inl v_flakes))]) (w2 := [(qt_flakes, .inl (cI, 8, .inl v_flakes)), (qt, .inr (9, [.ref qt_book, .ref qt_now, .ref qt_flakes, .ref qt_leaks, .int v_music, .ref qt_ranks, .int v_sights, .ref qt_sight, .int v_signs, .ref qt_pad, .int v_freeAt, .int v_freeWho, .int v_reason, .int v_acts, .ref qt_gets, .ref qt_counts, .ref qt_worth, .ref qt_ways, .ref qt_image, .ref qt_isKept])), (qt_book, .inl (cI, 43, .inl v_book))]) (gw_rV (n := 1) ⟨hx, hb, hml, hown, hts⟩ (C_X10_isThere l D cI cJ cZ H.size qt qt_book qt_now qt_flakes qt_leaks qt_ranks qt_sight qt_pad qt_gets qt_counts qt_worth qt_ways qt_image qt_isKept v_book v_music v_sights v_signs v_freeAt v_freeWho v_reason v_acts p1 r2 hc2) gX10_fly_X10_isThere rfl rfl rfl hdV_X10_isThere ⟨Nat.le_of_ble_eq_true rfl, Nat.le_of_ble_eq_true rfl⟩ hE (hP.sub [0, 1] rfl) (hD.sub [0, 1] (by decide) rfl) 9 rfl 0 rfl rfl hl.1 (rest := []) rfl (Nat.le_of_ble_eq_true rfl) dX10_fly_2 ⟨Nat.zero_le _, Nat.zero_le _⟩) hP hD hS hA [0, 1] [2] rfl rfl rfl (by decide) rfl (fun H locs hP hD hS => ?_)
  refine lv_if_ne (tgt := 10) hx hb dX10_fly_5 (by decide) (fun hc => ?_) (fun hc => ?_)
  · have h := if_f hc h
    refine lv_iload_n hx hb dX10_fly_10 rfl (lv_at hl 2 rfl) ?_
    refine lv_iconst (v := 0) hx hb dX10_fly_11 (by decide) ?_
    refine lv_aload_n hx hb dX10_fly_12 rfl (lv_at hl 0 rfl) ?_
    refine va_get (D := D) (ci := 9) (C := RX10) (T := TX10) (N := 20) hx hb hts (fun _ hw => (List.mem_cons_of_mem _ (List.mem_append_right _ hw))) hown hE.1 hP 1 rfl rfl 2 (by decide) (hts (.fieldLink RX10 16 "GlobeCrownModel" "flakes" "[I") (List.mem_cons_of_mem _ (List.mem_append_left _ (List.mem_of_getElem? (i := 0) rfl)))) (fun _ h9 => h9) rfl dX10_fly_13 ?_
    refine lv_iload_n hx hb dX10_fly_16 rfl (lv_at hl 1 rfl) ?_
    obtain ⟨hg, h⟩ := gin_some h
    refine va_iald hx hb hE.1 hP 0 0 rfl rfl hg dX10_fly_17 ?_
    obtain ⟨r18, hc18, h⟩ := bd1_some h
    refine gw_ci (wr := [(qt_flakes, .inl (cI, 8, .inl v_flakes)), (qt, .inr (9, [.ref qt_book, .ref qt_now, .ref qt_flakes, .ref qt_leaks, .int v_music, .ref qt_ranks, .int v_sights, .ref qt_sight, .int v_signs, .ref qt_pad, .int v_freeAt, .int v_freeWho, .int v_reason, .int v_acts, .ref qt_gets, .ref qt_counts, .ref qt_worth, .ref qt_ways, .ref qt_image, .ref qt_isKept])), (qt_book, .inl (cI, 43, .inl v_book))]) (w2 := [(qt_flakes, .inl (cI, 8, .inl v_flakes)), (qt, .inr (9, [.ref qt_book, .ref qt_now, .ref qt_flakes, .ref qt_leaks, .int v_music, .ref qt_ranks, .int v_sights, .ref qt_sight, .int v_signs, .ref qt_pad, .int v_freeAt, .int v_freeWho, .int v_reason, .int v_acts, .ref qt_gets, .ref qt_counts, .ref qt_worth, .ref qt_ways, .ref qt_image, .ref qt_isKept])), (qt_book, .inl (cI, 43, .inl v_book))]) (gw_rS (n := 3) ⟨hx, hb, hml, hown, hts⟩ (C_X10_in l D cI cJ cZ H.size p2 (0 : Int32) (v_flakes (Int32.toNatClampNeg p1)) r18 hc18) gX10_fly_X10_in rfl rfl rfl hdS_X10_in ⟨Nat.le_of_ble_eq_true rfl, Nat.le_of_ble_eq_true rfl⟩ hE (hP.sub [] rfl) (hD.sub [] (by decide) rfl) rfl hl.1 (rest := []) rfl (Nat.le_of_ble_eq_true rfl) dX10_fly_18 ⟨Nat.zero_le _, Nat.zero_le _⟩) hP hD hS hA [] [0, 1, 2] rfl rfl rfl (by decide) rfl (fun H locs hP hD hS => ?_)
    refine lv_if_ne (tgt := 27) hx hb dX10_fly_21 (by decide) (fun hc => ?_) (fun hc => ?_)
    · have h := if_f hc h
      refine lv_aload_n hx hb dX10_fly_27 rfl (lv_at hl 0 rfl) ?_
      refine va_get (D := D) (ci := 9) (C := RX10) (T := TX10) (N := 20) hx hb hts (fun _ hw => (List.mem_cons_of_mem _ (List.mem_append_right _ hw))) hown hE.1 hP 1 rfl rfl 0 (by decide) (hts (.fieldLink RX10 7 "GlobeCrownModel" "book" "[I") (List.mem_cons_of_mem _ (List.mem_append_left _ (List.mem_of_getElem? (i := 1) rfl)))) (fun _ h9 => h9) rfl dX10_fly_28 ?_
      refine lv_bipush (v := 8) hx hb dX10_fly_31 (by decide) ?_
      refine lv_iload_n hx hb dX10_fly_33 rfl (lv_at hl 1 rfl) ?_
      refine lv_iadd hx hb dX10_fly_34 ?_
      obtain ⟨hg, h⟩ := gin_some h
      refine va_iald hx hb hE.1 hP 2 0 rfl rfl hg dX10_fly_35 ?_
      refine lv_istore_n (lv' := [(3, .int (v_book (Int32.toNatClampNeg ((8 : Int32) + p1)))), (0, .ref qt), (1, .int p1), (2, .int p2)]) hx hb dX10_fly_36 rfl hl (by decide) rfl (fun ls hl => ?_)
      refine lv_aload_n hx hb dX10_fly_37 rfl (lv_at hl 1 rfl) ?_
      refine va_get (D := D) (ci := 9) (C := RX10) (T := TX10) (N := 20) hx hb hts (fun _ hw => (List.mem_cons_of_mem _ (List.mem_append_right _ hw))) hown hE.1 hP 1 rfl rfl 0 (by decide) (hts (.fieldLink RX10 7 "GlobeCrownModel" "book" "[I") (List.mem_cons_of_mem _ (List.mem_append_left _ (List.mem_of_getElem? (i := 1) rfl)))) (fun _ h9 => h9) rfl dX10_fly_38 ?_
      refine lv_bipush (v := 8) hx hb dX10_fly_41 (by decide) ?_
      refine lv_iload_n hx hb dX10_fly_43 rfl (lv_at hl 2 rfl) ?_
      refine lv_iadd hx hb dX10_fly_44 ?_
      refine lv_iload_n hx hb dX10_fly_45 rfl (lv_at hl 3 rfl) ?_
      obtain ⟨hg, h⟩ := gin_some h
      refine va_iast hx hb hE.1 hP hD hS 2 0 rfl rfl hg dX10_fly_46 (fun H locs (hP : va_P D vwCl [(qt_flakes, .inl (cI, 8, .inl v_flakes)), (qt, .inr (9, [.ref qt_book, .ref qt_now, .ref qt_flakes, .ref qt_leaks, .int v_music, .ref qt_ranks, .int v_sights, .ref qt_sight, .int v_signs, .ref qt_pad, .int v_freeAt, .int v_freeWho, .int v_reason, .int v_acts, .ref qt_gets, .ref qt_counts, .ref qt_worth, .ref qt_ways, .ref qt_image, .ref qt_isKept])), (qt_book, .inl (cI, 43, .inl (upd v_book (Int32.toNatClampNeg ((8 : Int32) + p1)) p2)))] H) (hD : va_D A [(qt_flakes, .inl (cI, 8, .inl v_flakes)), (qt, .inr (9, [.ref qt_book, .ref qt_now, .ref qt_flakes, .ref qt_leaks, .int v_music, .ref qt_ranks, .int v_sights, .ref qt_sight, .int v_signs, .ref qt_pad, .int v_freeAt, .int v_freeWho, .int v_reason, .int v_acts, .ref qt_gets, .ref qt_counts, .ref qt_worth, .ref qt_ways, .ref qt_image, .ref qt_isKept])), (qt_book, .inl (cI, 43, .inl (upd v_book (Int32.toNatClampNeg ((8 : Int32) + p1)) p2)))]) hS => ?_)
      refine lv_iload_n hx hb dX10_fly_47 rfl (lv_at hl 0 rfl) ?_
      cases h
      rw [hQQ]
      exact gw_iret hx hb hr hlocks (hP.sub [1, 2, 0] rfl) (hD.sub [1, 2, 0] (by decide) rfl) hS dX10_fly_48
    · have h := if_t hc h
      refine lv_bipush (v := -2) hx hb dX10_fly_24 (by decide) ?_
      cases h
      rw [hQQ]
      exact gw_iret hx hb hr hlocks (hP.sub [1, 2, 0] rfl) (hD.sub [1, 2, 0] (by decide) rfl) hS dX10_fly_26
  · have h := if_t hc h
    refine lv_iconst (v := -1) hx hb dX10_fly_8 (by decide) ?_
    cases h
    rw [hQQ]
    exact gw_iret hx hb hr hlocks (hP.sub [1, 2, 0] rfl) (hD.sub [1, 2, 0] (by decide) rfl) hS dX10_fly_9
theorem hdV_X10_fly : yX10_fly.cls = RX10 ∧ yX10_fly.cls ≠ "java/lang/invoke/MethodHandle" ∧ yX10_fly.cls ≠ "java/lang/invoke/VarHandle" ∧ (parseMethodDescriptor yX10_fly.desc).map (fun d => d.parameters.length) = some 2 := by decide +kernel
def f_X10_mood (v_book : (Nat → Int32)) (p1 : Int32) (p2 : Int32) (p3 : Int32) : Option (Int32 × (Nat → Int32)) := (bd1 (f_X10_isThere v_book p1) (fun r2 => (if r2 = (0 : Int32) then (some ((-1 : Int32), v_book)) else (bd1 (f_X10_in p2 (0 : Int32) (9 : Int32)) (fun r14 => (if r14 = (0 : Int32) then (some ((-2 : Int32), v_book)) else (bd1 (f_X10_in p3 (0 : Int32) (9 : Int32)) (fun r24 => (if r24 = (0 : Int32) then (some ((-2 : Int32), v_book)) else (gin ((16 : Int32) + p1) 43 (gin ((24 : Int32) + p1) 43 (gin ((16 : Int32) + p1) 43 (gin ((24 : Int32) + p1) 43 (some ((((10 : Int32) * (v_book (Int32.toNatClampNeg ((16 : Int32) + p1)))) + (v_book (Int32.toNatClampNeg ((24 : Int32) + p1)))), (upd (upd v_book (Int32.toNatClampNeg ((16 : Int32) + p1)) p2) (Int32.toNatClampNeg ((24 : Int32) + p1)) p3))))))))))))))))
abbrev rm_X10_mood : Room := { frames := 2, cells := 0, slots := 0, locals := 43 }
set_option maxHeartbeats 4000000 in
set_option maxRecDepth 100000 in
theorem C_X10_mood (l : Launch) (D : va_G) (cI cJ cZ : ClassId) (sz : Nat) (qt qt_book qt_now qt_flakes qt_leaks qt_ranks qt_sight qt_pad qt_gets qt_counts qt_worth qt_ways qt_image qt_isKept : Nat) (v_book : (Nat → Int32)) (v_music : Int32) (v_sights : Int32) (v_signs : Int32) (v_freeAt : Int32) (v_freeWho : Int32) (v_reason : Int32) (v_acts : Int32) (p1 : Int32) (p2 : Int32) (p3 : Int32) (r : Int32) (w_book : (Nat → Int32)) (hf : f_X10_mood v_book p1 p2 p3 = some (r, w_book)) : Met l yX10_mood wsX10_mood rm_X10_mood (PR D cI cJ cZ [(qt, .inr (9, [.ref qt_book, .ref qt_now, .ref qt_flakes, .ref qt_leaks, .int v_music, .ref qt_ranks, .int v_sights, .ref qt_sight, .int v_signs, .ref qt_pad, .int v_freeAt, .int v_freeWho, .int v_reason, .int v_acts, .ref qt_gets, .ref qt_counts, .ref qt_worth, .ref qt_ways, .ref qt_image, .ref qt_isKept])), (qt_book, .inl (cI, 43, .inl v_book))] sz [.ref qt, .int p1, .int p2, .int p3]) (QI D (va_A [(qt, .inr (9, [.ref qt_book, .ref qt_now, .ref qt_flakes, .ref qt_leaks, .int v_music, .ref qt_ranks, .int v_sights, .ref qt_sight, .int v_signs, .ref qt_pad, .int v_freeAt, .int v_freeWho, .int v_reason, .int v_acts, .ref qt_gets, .ref qt_counts, .ref qt_worth, .ref qt_ways, .ref qt_image, .ref qt_isKept])), (qt_book, .inl (cI, 43, .inl v_book))] sz) r [(qt, .inr (9, [.ref qt_book, .ref qt_now, .ref qt_flakes, .ref qt_leaks, .int v_music, .ref qt_ranks, .int v_sights, .ref qt_sight, .int v_signs, .ref qt_pad, .int v_freeAt, .int v_freeWho, .int v_reason, .int v_acts, .ref qt_gets, .ref qt_counts, .ref qt_worth, .ref qt_ways, .ref qt_image, .ref qt_isKept])), (qt_book, .inl (cI, 43, .inl w_book))]) 0 0 (va_A [(qt, .inr (9, [.ref qt_book, .ref qt_now, .ref qt_flakes, .ref qt_leaks, .int v_music, .ref qt_ranks, .int v_sights, .ref qt_sight, .int v_signs, .ref qt_pad, .int v_freeAt, .int v_freeWho, .int v_reason, .int v_acts, .ref qt_gets, .ref qt_counts, .ref qt_worth, .ref qt_ways, .ref qt_image, .ref qt_isKept])), (qt_book, .inl (cI, 43, .inl v_book))] sz) := by
  refine Met.ofW (cc := cX10_mood) (maxL := 5) (ret := (some .int)) (by decide) rfl ?_
  intro p e s m args below meth c s₁ B hml hv
  obtain ⟨hav, hsz, hP, hD0, hE⟩ := hv
  have hx := B.exec
  have hb := B.bytes
  have hr := B.returns
  have hts := atoms_spec (ws := wsX10_mood) B.pre
  have hown : s.vm.findClass RX10 = some m.cls := findClass_of_methodNamed B.named
  have hlocks := B.notSynchronized
  subst hsz
  have hD := hD0.self (sz := s.heap.size)
  generalize hAe : va_A [(qt, .inr (9, [.ref qt_book, .ref qt_now, .ref qt_flakes, .ref qt_leaks, .int v_music, .ref qt_ranks, .int v_sights, .ref qt_sight, .int v_signs, .ref qt_pad, .int v_freeAt, .int v_freeWho, .int v_reason, .int v_acts, .ref qt_gets, .ref qt_counts, .ref qt_worth, .ref qt_ways, .ref qt_image, .ref qt_isKept])), (qt_book, .inl (cI, 43, .inl v_book))] s.heap.size = A at hD ⊢
  have hA : ∀ q : Nat, s.heap.size ≤ q → A q := fun q h => by rw [← hAe]; exact Or.inr h
  have hS : va_S A s.heap s.heap [] := va_S.rf
  have hl := lv_entry ([.ref qt, .int p1, .int p2, .int p3]) (n := 5) (Nat.le_of_ble_eq_true rfl)
  have hfr : entryFrame m args 5 = entryFrame m ([.ref qt, .int p1, .int p2, .int p3] : List Value).toArray 5 := by rw [hav]
  rw [hfr, lg_entry_eq]
  generalize (lg_sl ([.ref qt, .int p1, .int p2, .int p3]) ++ List.replicate (5 - (lg_sl ([.ref qt, .int p1, .int p2, .int p3])).length) Slot.unset).toArray = ls at hl ⊢
  have hl : lv_has ls 5 [(0, .ref qt), (1, .int p1), (2, .int p2), (3, .int p3)] := hl
  obtain ⟨QQ, hQQ⟩ : ∃ QQ, QQ = MQ below (QI D A r [(qt, .inr (9, [.ref qt_book, .ref qt_now, .ref qt_flakes, .ref qt_leaks, .int v_music, .ref qt_ranks, .int v_sights, .ref qt_sight, .int v_signs, .ref qt_pad, .int v_freeAt, .int v_freeWho, .int v_reason, .int v_acts, .ref qt_gets, .ref qt_counts, .ref qt_worth, .ref qt_ways, .ref qt_image, .ref qt_isKept])), (qt_book, .inl (cI, 43, .inl w_book))]) args s 0 0 A := ⟨_, rfl⟩
  show W p l e rm_X10_mood s m args below meth c s.heap [] 0 0 _ _
  rw [← hQQ]
  have h := hf
  unfold f_X10_mood at h
  refine gw_start hP hD hS (fun H locs hP hD hS => ?_)
  refine lv_aload_n hx hb dX10_mood_0 rfl (lv_at hl 0 rfl) ?_
  refine lv_iload_n hx hb dX10_mood_1 rfl (lv_at hl 1 rfl) ?_
  obtain ⟨r2, hc2, h⟩ := bd1_some h
  refine gw_ci (wr := []) (w2 := [(qt, .inr (9, [.ref qt_book, .ref qt_now, .ref qt_flakes, .ref qt_leaks, .int v_music, .ref qt_ranks, .int v_sights, .ref qt_sight, .int v_signs, .ref qt_pad, .int v_freeAt, .int v_freeWho, .int v_reason, .int v_acts, .ref qt_gets, .ref qt_counts, .ref qt_worth, .ref qt_ways, .ref qt_image, .ref qt_isKept])), (qt_book, .inl (cI, 43, .inl v_book))]) (gw_rV (n := 1) ⟨hx, hb, hml, hown, hts⟩ (C_X10_isThere l D cI cJ cZ H.size qt qt_book qt_now qt_flakes qt_leaks qt_ranks qt_sight qt_pad qt_gets qt_counts qt_worth qt_ways qt_image qt_isKept v_book v_music v_sights v_signs v_freeAt v_freeWho v_reason v_acts p1 r2 hc2) gX10_mood_X10_isThere rfl rfl rfl hdV_X10_isThere ⟨Nat.le_of_ble_eq_true rfl, Nat.le_of_ble_eq_true rfl⟩ hE (hP.sub [0, 1] rfl) (hD.sub [0, 1] (by decide) rfl) 9 rfl 0 rfl rfl hl.1 (rest := []) rfl (Nat.le_of_ble_eq_true rfl) dX10_mood_2 ⟨Nat.zero_le _, Nat.zero_le _⟩) hP hD hS hA [0, 1] [] rfl rfl rfl (by decide) rfl (fun H locs hP hD hS => ?_)
  refine lv_if_ne (tgt := 10) hx hb dX10_mood_5 (by decide) (fun hc => ?_) (fun hc => ?_)
  · have h := if_f hc h
    refine lv_iload_n hx hb dX10_mood_10 rfl (lv_at hl 2 rfl) ?_
    refine lv_iconst (v := 0) hx hb dX10_mood_11 (by decide) ?_
    refine lv_bipush (v := 9) hx hb dX10_mood_12 (by decide) ?_
    obtain ⟨r14, hc14, h⟩ := bd1_some h
    refine gw_ci (wr := [(qt, .inr (9, [.ref qt_book, .ref qt_now, .ref qt_flakes, .ref qt_leaks, .int v_music, .ref qt_ranks, .int v_sights, .ref qt_sight, .int v_signs, .ref qt_pad, .int v_freeAt, .int v_freeWho, .int v_reason, .int v_acts, .ref qt_gets, .ref qt_counts, .ref qt_worth, .ref qt_ways, .ref qt_image, .ref qt_isKept])), (qt_book, .inl (cI, 43, .inl v_book))]) (w2 := [(qt, .inr (9, [.ref qt_book, .ref qt_now, .ref qt_flakes, .ref qt_leaks, .int v_music, .ref qt_ranks, .int v_sights, .ref qt_sight, .int v_signs, .ref qt_pad, .int v_freeAt, .int v_freeWho, .int v_reason, .int v_acts, .ref qt_gets, .ref qt_counts, .ref qt_worth, .ref qt_ways, .ref qt_image, .ref qt_isKept])), (qt_book, .inl (cI, 43, .inl v_book))]) (gw_rS (n := 3) ⟨hx, hb, hml, hown, hts⟩ (C_X10_in l D cI cJ cZ H.size p2 (0 : Int32) (9 : Int32) r14 hc14) gX10_mood_X10_in rfl rfl rfl hdS_X10_in ⟨Nat.le_of_ble_eq_true rfl, Nat.le_of_ble_eq_true rfl⟩ hE (hP.sub [] rfl) (hD.sub [] (by decide) rfl) rfl hl.1 (rest := []) rfl (Nat.le_of_ble_eq_true rfl) dX10_mood_14 ⟨Nat.zero_le _, Nat.zero_le _⟩) hP hD hS hA [] [0, 1] rfl rfl rfl (by decide) rfl (fun H locs hP hD hS => ?_)
    refine lv_if_eq (tgt := 30) hx hb dX10_mood_17 (by decide) (fun hc => ?_) (fun hc => ?_)
    · have h := if_t hc h
      refine lv_bipush (v := -2) hx hb dX10_mood_30 (by decide) ?_
      cases h
      rw [hQQ]
      exact gw_iret hx hb hr hlocks hP hD hS dX10_mood_32
    · have h := if_f hc h
      refine lv_iload_n hx hb dX10_mood_20 rfl (lv_at hl 3 rfl) ?_
      refine lv_iconst (v := 0) hx hb dX10_mood_21 (by decide) ?_
      refine lv_bipush (v := 9) hx hb dX10_mood_22 (by decide) ?_
      obtain ⟨r24, hc24, h⟩ := bd1_some h
      refine gw_ci (wr := [(qt, .inr (9, [.ref qt_book, .ref qt_now, .ref qt_flakes, .ref qt_leaks, .int v_music, .ref qt_ranks, .int v_sights, .ref qt_sight, .int v_signs, .ref qt_pad, .int v_freeAt, .int v_freeWho, .int v_reason, .int v_acts, .ref qt_gets, .ref qt_counts, .ref qt_worth, .ref qt_ways, .ref qt_image, .ref qt_isKept])), (qt_book, .inl (cI, 43, .inl v_book))]) (w2 := [(qt, .inr (9, [.ref qt_book, .ref qt_now, .ref qt_flakes, .ref qt_leaks, .int v_music, .ref qt_ranks, .int v_sights, .ref qt_sight, .int v_signs, .ref qt_pad, .int v_freeAt, .int v_freeWho, .int v_reason, .int v_acts, .ref qt_gets, .ref qt_counts, .ref qt_worth, .ref qt_ways, .ref qt_image, .ref qt_isKept])), (qt_book, .inl (cI, 43, .inl v_book))]) (gw_rS (n := 3) ⟨hx, hb, hml, hown, hts⟩ (C_X10_in l D cI cJ cZ H.size p3 (0 : Int32) (9 : Int32) r24 hc24) gX10_mood_X10_in rfl rfl rfl hdS_X10_in ⟨Nat.le_of_ble_eq_true rfl, Nat.le_of_ble_eq_true rfl⟩ hE (hP.sub [] rfl) (hD.sub [] (by decide) rfl) rfl hl.1 (rest := []) rfl (Nat.le_of_ble_eq_true rfl) dX10_mood_24 ⟨Nat.zero_le _, Nat.zero_le _⟩) hP hD hS hA [] [0, 1] rfl rfl rfl (by decide) rfl (fun H locs hP hD hS => ?_)
      refine lv_if_ne (tgt := 33) hx hb dX10_mood_27 (by decide) (fun hc => ?_) (fun hc => ?_)
      · have h := if_f hc h
        refine lv_bipush (v := 10) hx hb dX10_mood_33 (by decide) ?_
        refine lv_aload_n hx hb dX10_mood_35 rfl (lv_at hl 0 rfl) ?_
        refine va_get (D := D) (ci := 9) (C := RX10) (T := TX10) (N := 20) hx hb hts (fun _ hw => (List.mem_cons_of_mem _ (List.mem_append_right _ hw))) hown hE.1 hP 0 rfl rfl 0 (by decide) (hts (.fieldLink RX10 7 "GlobeCrownModel" "book" "[I") (List.mem_cons_of_mem _ (List.mem_append_left _ (List.mem_of_getElem? (i := 0) rfl)))) (fun _ h9 => h9) rfl dX10_mood_36 ?_
        refine lv_bipush (v := 16) hx hb dX10_mood_39 (by decide) ?_
        refine lv_iload_n hx hb dX10_mood_41 rfl (lv_at hl 1 rfl) ?_
        refine lv_iadd hx hb dX10_mood_42 ?_
        obtain ⟨hg, h⟩ := gin_some h
        refine va_iald hx hb hE.1 hP 1 0 rfl rfl hg dX10_mood_43 ?_
        refine lv_imul hx hb dX10_mood_44 ?_
        refine lv_aload_n hx hb dX10_mood_45 rfl (lv_at hl 0 rfl) ?_
        refine va_get (D := D) (ci := 9) (C := RX10) (T := TX10) (N := 20) hx hb hts (fun _ hw => (List.mem_cons_of_mem _ (List.mem_append_right _ hw))) hown hE.1 hP 0 rfl rfl 0 (by decide) (hts (.fieldLink RX10 7 "GlobeCrownModel" "book" "[I") (List.mem_cons_of_mem _ (List.mem_append_left _ (List.mem_of_getElem? (i := 0) rfl)))) (fun _ h9 => h9) rfl dX10_mood_46 ?_
        refine lv_bipush (v := 24) hx hb dX10_mood_49 (by decide) ?_
        refine lv_iload_n hx hb dX10_mood_51 rfl (lv_at hl 1 rfl) ?_
        refine lv_iadd hx hb dX10_mood_52 ?_
        obtain ⟨hg, h⟩ := gin_some h
        refine va_iald hx hb hE.1 hP 1 0 rfl rfl hg dX10_mood_53 ?_
        refine lv_iadd hx hb dX10_mood_54 ?_
        refine lv_istore (lv' := [(4, .int (((10 : Int32) * (v_book (Int32.toNatClampNeg ((16 : Int32) + p1)))) + (v_book (Int32.toNatClampNeg ((24 : Int32) + p1))))), (0, .ref qt), (1, .int p1), (2, .int p2), (3, .int p3)]) hx hb dX10_mood_55 hl (by decide) rfl (fun ls hl => ?_)
        refine lv_aload_n hx hb dX10_mood_57 rfl (lv_at hl 1 rfl) ?_
        refine va_get (D := D) (ci := 9) (C := RX10) (T := TX10) (N := 20) hx hb hts (fun _ hw => (List.mem_cons_of_mem _ (List.mem_append_right _ hw))) hown hE.1 hP 0 rfl rfl 0 (by decide) (hts (.fieldLink RX10 7 "GlobeCrownModel" "book" "[I") (List.mem_cons_of_mem _ (List.mem_append_left _ (List.mem_of_getElem? (i := 0) rfl)))) (fun _ h9 => h9) rfl dX10_mood_58 ?_
        refine lv_bipush (v := 16) hx hb dX10_mood_61 (by decide) ?_
        refine lv_iload_n hx hb dX10_mood_63 rfl (lv_at hl 2 rfl) ?_
        refine lv_iadd hx hb dX10_mood_64 ?_
        refine lv_iload_n hx hb dX10_mood_65 rfl (lv_at hl 3 rfl) ?_
        obtain ⟨hg, h⟩ := gin_some h
        refine va_iast hx hb hE.1 hP hD hS 1 0 rfl rfl hg dX10_mood_66 (fun H locs (hP : va_P D vwCl [(qt, .inr (9, [.ref qt_book, .ref qt_now, .ref qt_flakes, .ref qt_leaks, .int v_music, .ref qt_ranks, .int v_sights, .ref qt_sight, .int v_signs, .ref qt_pad, .int v_freeAt, .int v_freeWho, .int v_reason, .int v_acts, .ref qt_gets, .ref qt_counts, .ref qt_worth, .ref qt_ways, .ref qt_image, .ref qt_isKept])), (qt_book, .inl (cI, 43, .inl (upd v_book (Int32.toNatClampNeg ((16 : Int32) + p1)) p2)))] H) (hD : va_D A [(qt, .inr (9, [.ref qt_book, .ref qt_now, .ref qt_flakes, .ref qt_leaks, .int v_music, .ref qt_ranks, .int v_sights, .ref qt_sight, .int v_signs, .ref qt_pad, .int v_freeAt, .int v_freeWho, .int v_reason, .int v_acts, .ref qt_gets, .ref qt_counts, .ref qt_worth, .ref qt_ways, .ref qt_image, .ref qt_isKept])), (qt_book, .inl (cI, 43, .inl (upd v_book (Int32.toNatClampNeg ((16 : Int32) + p1)) p2)))]) hS => ?_)
        refine lv_aload_n hx hb dX10_mood_67 rfl (lv_at hl 1 rfl) ?_
        refine va_get (D := D) (ci := 9) (C := RX10) (T := TX10) (N := 20) hx hb hts (fun _ hw => (List.mem_cons_of_mem _ (List.mem_append_right _ hw))) hown hE.1 hP 0 rfl rfl 0 (by decide) (hts (.fieldLink RX10 7 "GlobeCrownModel" "book" "[I") (List.mem_cons_of_mem _ (List.mem_append_left _ (List.mem_of_getElem? (i := 0) rfl)))) (fun _ h9 => h9) rfl dX10_mood_68 ?_
        refine lv_bipush (v := 24) hx hb dX10_mood_71 (by decide) ?_
        refine lv_iload_n hx hb dX10_mood_73 rfl (lv_at hl 2 rfl) ?_
        refine lv_iadd hx hb dX10_mood_74 ?_
        refine lv_iload_n hx hb dX10_mood_75 rfl (lv_at hl 4 rfl) ?_
        obtain ⟨hg, h⟩ := gin_some h
        refine va_iast hx hb hE.1 hP hD hS 1 0 rfl rfl hg dX10_mood_76 (fun H locs (hP : va_P D vwCl [(qt, .inr (9, [.ref qt_book, .ref qt_now, .ref qt_flakes, .ref qt_leaks, .int v_music, .ref qt_ranks, .int v_sights, .ref qt_sight, .int v_signs, .ref qt_pad, .int v_freeAt, .int v_freeWho, .int v_reason, .int v_acts, .ref qt_gets, .ref qt_counts, .ref qt_worth, .ref qt_ways, .ref qt_image, .ref qt_isKept])), (qt_book, .inl (cI, 43, .inl (upd (upd v_book (Int32.toNatClampNeg ((16 : Int32) + p1)) p2) (Int32.toNatClampNeg ((24 : Int32) + p1)) p3)))] H) (hD : va_D A [(qt, .inr (9, [.ref qt_book, .ref qt_now, .ref qt_flakes, .ref qt_leaks, .int v_music, .ref qt_ranks, .int v_sights, .ref qt_sight, .int v_signs, .ref qt_pad, .int v_freeAt, .int v_freeWho, .int v_reason, .int v_acts, .ref qt_gets, .ref qt_counts, .ref qt_worth, .ref qt_ways, .ref qt_image, .ref qt_isKept])), (qt_book, .inl (cI, 43, .inl (upd (upd v_book (Int32.toNatClampNeg ((16 : Int32) + p1)) p2) (Int32.toNatClampNeg ((24 : Int32) + p1)) p3)))]) hS => ?_)
        refine lv_iload hx hb dX10_mood_77 (lv_at hl 0 rfl) ?_
        cases h
        rw [hQQ]
        exact gw_iret hx hb hr hlocks hP hD hS dX10_mood_79
      · have h := if_t hc h
        refine lv_bipush (v := -2) hx hb dX10_mood_30 (by decide) ?_
        cases h
        rw [hQQ]
        exact gw_iret hx hb hr hlocks hP hD hS dX10_mood_32
  · have h := if_t hc h
    refine lv_iconst (v := -1) hx hb dX10_mood_8 (by decide) ?_
    cases h
    rw [hQQ]
    exact gw_iret hx hb hr hlocks hP hD hS dX10_mood_9
theorem hdV_X10_mood : yX10_mood.cls = RX10 ∧ yX10_mood.cls ≠ "java/lang/invoke/MethodHandle" ∧ yX10_mood.cls ≠ "java/lang/invoke/VarHandle" ∧ (parseMethodDescriptor yX10_mood.desc).map (fun d => d.parameters.length) = some 3 := by decide +kernel
def L_X10_asNow_2 (v_book : (Nat → Int32)) : Nat → (Nat → Int32) → Int32 → Int32 → Int32 → Option ((Nat → Int32) × Int32 × Int32)
  | 0, _, _, _, _ => none
  | n + 1, v_now, v_freeAt, v_freeWho, x1 => (if (43 : Int32) ≤ x1 then (some (v_now, (-6 : Int32), (-6 : Int32))) else (gin x1 43 (gin x1 43 ((L_X10_asNow_2 v_book n) (upd v_now (Int32.toNatClampNeg x1) (v_book (Int32.toNatClampNeg x1))) v_freeAt v_freeWho (x1 + (1 : Int32))))))
def f_X10_asNow (v_book : (Nat → Int32)) (v_now : (Nat → Int32)) (v_freeAt : Int32) (v_freeWho : Int32) : Option ((Nat → Int32) × Int32 × Int32) := (L_X10_asNow_2 v_book FU v_now v_freeAt v_freeWho (0 : Int32))
abbrev rm_X10_asNow : Room := { frames := 0, cells := 0, slots := 0, locals := 0 }
set_option maxHeartbeats 4000000 in
set_option maxRecDepth 100000 in
theorem C_X10_asNow (l : Launch) (D : va_G) (cI cJ cZ : ClassId) (sz : Nat) (qt qt_book qt_now qt_flakes qt_leaks qt_ranks qt_sight qt_pad qt_gets qt_counts qt_worth qt_ways qt_image qt_isKept : Nat) (v_book : (Nat → Int32)) (v_now : (Nat → Int32)) (v_music : Int32) (v_sights : Int32) (v_signs : Int32) (v_freeAt : Int32) (v_freeWho : Int32) (v_reason : Int32) (v_acts : Int32) (w_now : (Nat → Int32)) (w_freeAt : Int32) (w_freeWho : Int32) (hf : f_X10_asNow v_book v_now v_freeAt v_freeWho = some (w_now, w_freeAt, w_freeWho)) : Met l yX10_asNow wsX10_asNow rm_X10_asNow (PR D cI cJ cZ [(qt, .inr (9, [.ref qt_book, .ref qt_now, .ref qt_flakes, .ref qt_leaks, .int v_music, .ref qt_ranks, .int v_sights, .ref qt_sight, .int v_signs, .ref qt_pad, .int v_freeAt, .int v_freeWho, .int v_reason, .int v_acts, .ref qt_gets, .ref qt_counts, .ref qt_worth, .ref qt_ways, .ref qt_image, .ref qt_isKept])), (qt_book, .inl (cI, 43, .inl v_book)), (qt_now, .inl (cI, 43, .inl v_now))] sz [.ref qt]) (QV D (va_A [(qt, .inr (9, [.ref qt_book, .ref qt_now, .ref qt_flakes, .ref qt_leaks, .int v_music, .ref qt_ranks, .int v_sights, .ref qt_sight, .int v_signs, .ref qt_pad, .int v_freeAt, .int v_freeWho, .int v_reason, .int v_acts, .ref qt_gets, .ref qt_counts, .ref qt_worth, .ref qt_ways, .ref qt_image, .ref qt_isKept])), (qt_book, .inl (cI, 43, .inl v_book)), (qt_now, .inl (cI, 43, .inl v_now))] sz) [(qt, .inr (9, [.ref qt_book, .ref qt_now, .ref qt_flakes, .ref qt_leaks, .int v_music, .ref qt_ranks, .int v_sights, .ref qt_sight, .int v_signs, .ref qt_pad, .int w_freeAt, .int w_freeWho, .int v_reason, .int v_acts, .ref qt_gets, .ref qt_counts, .ref qt_worth, .ref qt_ways, .ref qt_image, .ref qt_isKept])), (qt_book, .inl (cI, 43, .inl v_book)), (qt_now, .inl (cI, 43, .inl w_now))]) 0 0 (va_A [(qt, .inr (9, [.ref qt_book, .ref qt_now, .ref qt_flakes, .ref qt_leaks, .int v_music, .ref qt_ranks, .int v_sights, .ref qt_sight, .int v_signs, .ref qt_pad, .int v_freeAt, .int v_freeWho, .int v_reason, .int v_acts, .ref qt_gets, .ref qt_counts, .ref qt_worth, .ref qt_ways, .ref qt_image, .ref qt_isKept])), (qt_book, .inl (cI, 43, .inl v_book)), (qt_now, .inl (cI, 43, .inl v_now))] sz) := by
  refine Met.ofW (cc := cX10_asNow) (maxL := 2) (ret := none) (by decide) rfl ?_
  intro p e s m args below meth c s₁ B hml hv
  obtain ⟨hav, hsz, hP, hD0, hE⟩ := hv
  have hx := B.exec
  have hb := B.bytes
  have hr := B.returns
  have hts := atoms_spec (ws := wsX10_asNow) B.pre
  have hown : s.vm.findClass RX10 = some m.cls := findClass_of_methodNamed B.named
  have hlocks := B.notSynchronized
  subst hsz
  have hD := hD0.self (sz := s.heap.size)
  generalize hAe : va_A [(qt, .inr (9, [.ref qt_book, .ref qt_now, .ref qt_flakes, .ref qt_leaks, .int v_music, .ref qt_ranks, .int v_sights, .ref qt_sight, .int v_signs, .ref qt_pad, .int v_freeAt, .int v_freeWho, .int v_reason, .int v_acts, .ref qt_gets, .ref qt_counts, .ref qt_worth, .ref qt_ways, .ref qt_image, .ref qt_isKept])), (qt_book, .inl (cI, 43, .inl v_book)), (qt_now, .inl (cI, 43, .inl v_now))] s.heap.size = A at hD ⊢
  have hA : ∀ q : Nat, s.heap.size ≤ q → A q := fun q h => by rw [← hAe]; exact Or.inr h
  have hS : va_S A s.heap s.heap [] := va_S.rf
  have hl := lv_entry ([.ref qt]) (n := 2) (Nat.le_of_ble_eq_true rfl)
  have hfr : entryFrame m args 2 = entryFrame m ([.ref qt] : List Value).toArray 2 := by rw [hav]
  rw [hfr, lg_entry_eq]
  generalize (lg_sl ([.ref qt]) ++ List.replicate (2 - (lg_sl ([.ref qt])).length) Slot.unset).toArray = ls at hl ⊢
  have hl : lv_has ls 2 [(0, .ref qt)] := hl
  obtain ⟨QQ, hQQ⟩ : ∃ QQ, QQ = MQ below (QV D A [(qt, .inr (9, [.ref qt_book, .ref qt_now, .ref qt_flakes, .ref qt_leaks, .int v_music, .ref qt_ranks, .int v_sights, .ref qt_sight, .int v_signs, .ref qt_pad, .int w_freeAt, .int w_freeWho, .int v_reason, .int v_acts, .ref qt_gets, .ref qt_counts, .ref qt_worth, .ref qt_ways, .ref qt_image, .ref qt_isKept])), (qt_book, .inl (cI, 43, .inl v_book)), (qt_now, .inl (cI, 43, .inl w_now))]) args s 0 0 A := ⟨_, rfl⟩
  show W p l e rm_X10_asNow s m args below meth c s.heap [] 0 0 _ _
  rw [← hQQ]
  have hL2 : ∀ (n2 : Nat), ∀ (v_now : (Nat → Int32)) (v_freeAt : Int32) (v_freeWho : Int32) (x1 : Int32) (H : Heap) (locs : List Loc) (ls : Array Slot), va_P D vwCl [(qt, .inr (9, [.ref qt_book, .ref qt_now, .ref qt_flakes, .ref qt_leaks, .int v_music, .ref qt_ranks, .int v_sights, .ref qt_sight, .int v_signs, .ref qt_pad, .int v_freeAt, .int v_freeWho, .int v_reason, .int v_acts, .ref qt_gets, .ref qt_counts, .ref qt_worth, .ref qt_ways, .ref qt_image, .ref qt_isKept])), (qt_book, .inl (cI, 43, .inl v_book)), (qt_now, .inl (cI, 43, .inl v_now))] H → va_D A [(qt, .inr (9, [.ref qt_book, .ref qt_now, .ref qt_flakes, .ref qt_leaks, .int v_music, .ref qt_ranks, .int v_sights, .ref qt_sight, .int v_signs, .ref qt_pad, .int v_freeAt, .int v_freeWho, .int v_reason, .int v_acts, .ref qt_gets, .ref qt_counts, .ref qt_worth, .ref qt_ways, .ref qt_image, .ref qt_isKept])), (qt_book, .inl (cI, 43, .inl v_book)), (qt_now, .inl (cI, 43, .inl v_now))] → va_S A s.heap H locs → lv_has ls 2 [(0, .ref qt), (1, .int x1)] → L_X10_asNow_2 v_book n2 v_now v_freeAt v_freeWho x1 = some (w_now, w_freeAt, w_freeWho) → W p l e rm_X10_asNow s m args below meth c H locs 0 0 QQ (F0 m 2 ls []) := by
    intro n2
    induction n2 with
    | zero =>
      intro v_now v_freeAt v_freeWho x1 H locs ls hP hD hS hl h
      have h : none = some (w_now, w_freeAt, w_freeWho) := h
      cases h
    | succ n2 ih2 =>
      intro v_now v_freeAt v_freeWho x1 H locs ls hP hD hS hl h
      rw [L_X10_asNow_2.eq_2] at h
      refine lv_iload_n hx hb dX10_asNow_2 rfl (lv_at hl 1 rfl) ?_
      refine lv_bipush (v := 43) hx hb dX10_asNow_3 (by decide) ?_
      refine lv_icmp_ge (tgt := 26) hx hb dX10_asNow_5 (by decide) (fun hc => ?_) (fun hc => ?_)
      · have h := if_t hc h
        refine lv_aload_n hx hb dX10_asNow_26 rfl (lv_at hl 0 rfl) ?_
        refine lv_bipush (v := -6) hx hb dX10_asNow_27 (by decide) ?_
        refine va_put (D := D) (ci := 9) (v := .int (-6 : Int32)) (ty := .int) (C := RX10) (T := TX10) (N := 20) hx hb hts (fun _ hw => (List.mem_cons_of_mem _ (List.mem_append_right _ hw))) tyX10 tyX10_ok nmX10 hown hE.1 hP hD hS 0 rfl rfl 10 (by decide) (hts (.fieldLink RX10 87 "GlobeCrownModel" "freeAt" "I") (List.mem_cons_of_mem _ (List.mem_append_left _ (List.mem_of_getElem? (i := 2) rfl)))) (fun _ h9 => h9) rfl (tyX10_ok 10 (by decide)) rfl rfl (Nat.le_of_ble_eq_true rfl) dX10_asNow_29 (fun H locs (hP : va_P D vwCl [(qt, .inr (9, [.ref qt_book, .ref qt_now, .ref qt_flakes, .ref qt_leaks, .int v_music, .ref qt_ranks, .int v_sights, .ref qt_sight, .int v_signs, .ref qt_pad, .int (-6 : Int32), .int v_freeWho, .int v_reason, .int v_acts, .ref qt_gets, .ref qt_counts, .ref qt_worth, .ref qt_ways, .ref qt_image, .ref qt_isKept])), (qt_book, .inl (cI, 43, .inl v_book)), (qt_now, .inl (cI, 43, .inl v_now))] H) (hD : va_D A [(qt, .inr (9, [.ref qt_book, .ref qt_now, .ref qt_flakes, .ref qt_leaks, .int v_music, .ref qt_ranks, .int v_sights, .ref qt_sight, .int v_signs, .ref qt_pad, .int (-6 : Int32), .int v_freeWho, .int v_reason, .int v_acts, .ref qt_gets, .ref qt_counts, .ref qt_worth, .ref qt_ways, .ref qt_image, .ref qt_isKept])), (qt_book, .inl (cI, 43, .inl v_book)), (qt_now, .inl (cI, 43, .inl v_now))]) hS => ?_)
        refine lv_aload_n hx hb dX10_asNow_32 rfl (lv_at hl 0 rfl) ?_
        refine lv_bipush (v := -6) hx hb dX10_asNow_33 (by decide) ?_
        refine va_put (D := D) (ci := 9) (v := .int (-6 : Int32)) (ty := .int) (C := RX10) (T := TX10) (N := 20) hx hb hts (fun _ hw => (List.mem_cons_of_mem _ (List.mem_append_right _ hw))) tyX10 tyX10_ok nmX10 hown hE.1 hP hD hS 0 rfl rfl 11 (by decide) (hts (.fieldLink RX10 90 "GlobeCrownModel" "freeWho" "I") (List.mem_cons_of_mem _ (List.mem_append_left _ (List.mem_of_getElem? (i := 3) rfl)))) (fun _ h9 => h9) rfl (tyX10_ok 11 (by decide)) rfl rfl (Nat.le_of_ble_eq_true rfl) dX10_asNow_35 (fun H locs (hP : va_P D vwCl [(qt, .inr (9, [.ref qt_book, .ref qt_now, .ref qt_flakes, .ref qt_leaks, .int v_music, .ref qt_ranks, .int v_sights, .ref qt_sight, .int v_signs, .ref qt_pad, .int (-6 : Int32), .int (-6 : Int32), .int v_reason, .int v_acts, .ref qt_gets, .ref qt_counts, .ref qt_worth, .ref qt_ways, .ref qt_image, .ref qt_isKept])), (qt_book, .inl (cI, 43, .inl v_book)), (qt_now, .inl (cI, 43, .inl v_now))] H) (hD : va_D A [(qt, .inr (9, [.ref qt_book, .ref qt_now, .ref qt_flakes, .ref qt_leaks, .int v_music, .ref qt_ranks, .int v_sights, .ref qt_sight, .int v_signs, .ref qt_pad, .int (-6 : Int32), .int (-6 : Int32), .int v_reason, .int v_acts, .ref qt_gets, .ref qt_counts, .ref qt_worth, .ref qt_ways, .ref qt_image, .ref qt_isKept])), (qt_book, .inl (cI, 43, .inl v_book)), (qt_now, .inl (cI, 43, .inl v_now))]) hS => ?_)
        cases h
        rw [hQQ]
        exact gw_vret hx hb hr hlocks hP hD hS dX10_asNow_38
      · have h := if_f hc h
        refine lv_aload_n hx hb dX10_asNow_8 rfl (lv_at hl 0 rfl) ?_
        refine va_get (D := D) (ci := 9) (C := RX10) (T := TX10) (N := 20) hx hb hts (fun _ hw => (List.mem_cons_of_mem _ (List.mem_append_right _ hw))) hown hE.1 hP 0 rfl rfl 1 (by decide) (hts (.fieldLink RX10 13 "GlobeCrownModel" "now" "[I") (List.mem_cons_of_mem _ (List.mem_append_left _ (List.mem_of_getElem? (i := 0) rfl)))) (fun _ h9 => h9) rfl dX10_asNow_9 ?_
        refine lv_iload_n hx hb dX10_asNow_12 rfl (lv_at hl 1 rfl) ?_
        refine lv_aload_n hx hb dX10_asNow_13 rfl (lv_at hl 0 rfl) ?_
        refine va_get (D := D) (ci := 9) (C := RX10) (T := TX10) (N := 20) hx hb hts (fun _ hw => (List.mem_cons_of_mem _ (List.mem_append_right _ hw))) hown hE.1 hP 0 rfl rfl 0 (by decide) (hts (.fieldLink RX10 7 "GlobeCrownModel" "book" "[I") (List.mem_cons_of_mem _ (List.mem_append_left _ (List.mem_of_getElem? (i := 1) rfl)))) (fun _ h9 => h9) rfl dX10_asNow_14 ?_
        refine lv_iload_n hx hb dX10_asNow_17 rfl (lv_at hl 1 rfl) ?_
        obtain ⟨hg, h⟩ := gin_some h
        refine va_iald hx hb hE.1 hP 1 0 rfl rfl hg dX10_asNow_18 ?_
        obtain ⟨hg, h⟩ := gin_some h
        refine va_iast hx hb hE.1 hP hD hS 2 0 rfl rfl hg dX10_asNow_19 (fun H locs (hP : va_P D vwCl [(qt, .inr (9, [.ref qt_book, .ref qt_now, .ref qt_flakes, .ref qt_leaks, .int v_music, .ref qt_ranks, .int v_sights, .ref qt_sight, .int v_signs, .ref qt_pad, .int v_freeAt, .int v_freeWho, .int v_reason, .int v_acts, .ref qt_gets, .ref qt_counts, .ref qt_worth, .ref qt_ways, .ref qt_image, .ref qt_isKept])), (qt_book, .inl (cI, 43, .inl v_book)), (qt_now, .inl (cI, 43, .inl (upd v_now (Int32.toNatClampNeg x1) (v_book (Int32.toNatClampNeg x1)))))] H) (hD : va_D A [(qt, .inr (9, [.ref qt_book, .ref qt_now, .ref qt_flakes, .ref qt_leaks, .int v_music, .ref qt_ranks, .int v_sights, .ref qt_sight, .int v_signs, .ref qt_pad, .int v_freeAt, .int v_freeWho, .int v_reason, .int v_acts, .ref qt_gets, .ref qt_counts, .ref qt_worth, .ref qt_ways, .ref qt_image, .ref qt_isKept])), (qt_book, .inl (cI, 43, .inl v_book)), (qt_now, .inl (cI, 43, .inl (upd v_now (Int32.toNatClampNeg x1) (v_book (Int32.toNatClampNeg x1)))))]) hS => ?_)
        refine lv_iinc (v := (x1 + (1 : Int32))) (lv' := [(1, .int (x1 + (1 : Int32))), (0, .ref qt)]) hx hb dX10_asNow_20 hl (k := 1) rfl rfl (by decide) rfl (fun ls hl => ?_)
        refine lv_goto (tgt := 2) hx hb dX10_asNow_23 (by decide) ?_
        exact ih2 (upd v_now (Int32.toNatClampNeg x1) (v_book (Int32.toNatClampNeg x1))) v_freeAt v_freeWho (x1 + (1 : Int32)) H locs ls hP hD hS (lv_sub hl [1, 0] rfl) h
  have h := hf
  unfold f_X10_asNow at h
  refine gw_start hP hD hS (fun H locs hP hD hS => ?_)
  refine lv_iconst (v := 0) hx hb dX10_asNow_0 (by decide) ?_
  refine lv_istore_n (lv' := [(1, .int (0 : Int32)), (0, .ref qt)]) hx hb dX10_asNow_1 rfl hl (by decide) rfl (fun ls hl => ?_)
  exact hL2 FU v_now v_freeAt v_freeWho (0 : Int32) H locs ls hP hD hS (lv_sub hl [1, 0] rfl) h
theorem hdV_X10_asNow : yX10_asNow.cls = RX10 ∧ yX10_asNow.cls ≠ "java/lang/invoke/MethodHandle" ∧ yX10_asNow.cls ≠ "java/lang/invoke/VarHandle" ∧ (parseMethodDescriptor yX10_asNow.desc).map (fun d => d.parameters.length) = some 0 := by decide +kernel
def B_X10_put_71 (p1 : Int32) (p2 : Int32) (v_book : (Nat → Int32)) (v_now : (Nat → Int32)) (v_freeAt : Int32) (v_freeWho : Int32) (x3 : Int32) (s0 : Int32) (s1 : Int32) : Option (Int32 × (Nat → Int32) × (Nat → Int32) × Int32 × Int32) := (gin s1 43 (some (x3, (upd v_book (Int32.toNatClampNeg s1) s0), v_now, v_freeAt, v_freeWho)))
def B_X10_put_43 (p1 : Int32) (p2 : Int32) (v_book : (Nat → Int32)) (v_now : (Nat → Int32)) (v_freeAt : Int32) (v_freeWho : Int32) : Option (Int32 × (Nat → Int32) × (Nat → Int32) × Int32 × Int32) := (gin ((32 : Int32) + p1) 43 (if (0 : Int32) ≤ p2 then (B_X10_put_71 p1 p2 v_book v_now v_freeAt v_freeWho (v_book (Int32.toNatClampNeg ((32 : Int32) + p1))) p2 ((32 : Int32) + p1)) else (B_X10_put_71 p1 p2 v_book v_now v_freeAt v_freeWho (v_book (Int32.toNatClampNeg ((32 : Int32) + p1))) (-6 : Int32) ((32 : Int32) + p1))))
def B_X10_put_23 (p1 : Int32) (p2 : Int32) (v_book : (Nat → Int32)) (v_now : (Nat → Int32)) (v_freeAt : Int32) (v_freeWho : Int32) : Option (Int32 × (Nat → Int32) × (Nat → Int32) × Int32 × Int32) := (bd3 (f_X10_asNow v_book v_now v_freeAt v_freeWho) (fun u24v_now u24v_freeAt u24v_freeWho => (if p2 < (0 : Int32) then (B_X10_put_43 p1 p2 v_book u24v_now u24v_freeAt u24v_freeWho) else (bd1 (f_X10_isWithin u24v_now p2 p1) (fun r34 => (if r34 = (0 : Int32) then (B_X10_put_43 p1 p2 v_book u24v_now u24v_freeAt u24v_freeWho) else (some ((-3 : Int32), v_book, u24v_now, u24v_freeAt, u24v_freeWho))))))))
def f_X10_put (v_book : (Nat → Int32)) (v_now : (Nat → Int32)) (v_freeAt : Int32) (v_freeWho : Int32) (p1 : Int32) (p2 : Int32) : Option (Int32 × (Nat → Int32) × (Nat → Int32) × Int32 × Int32) := (bd1 (f_X10_isThere v_book p1) (fun r2 => (if r2 = (0 : Int32) then (some ((-1 : Int32), v_book, v_now, v_freeAt, v_freeWho)) else (if p2 = (-1 : Int32) then (B_X10_put_23 p1 p2 v_book v_now v_freeAt v_freeWho) else (bd1 (f_X10_isThere v_book p2) (fun r15 => (if r15 = (0 : Int32) then (some ((-1 : Int32), v_book, v_now, v_freeAt, v_freeWho)) else (B_X10_put_23 p1 p2 v_book v_now v_freeAt v_freeWho))))))))
abbrev rm_X10_put : Room := { frames := 2, cells := 0, slots := 0, locals := 43 }
set_option maxHeartbeats 4000000 in
set_option maxRecDepth 100000 in
theorem C_X10_put (l : Launch) (D : va_G) (cI cJ cZ : ClassId) (sz : Nat) (qt qt_book qt_now qt_flakes qt_leaks qt_ranks qt_sight qt_pad qt_gets qt_counts qt_worth qt_ways qt_image qt_isKept : Nat) (v_book : (Nat → Int32)) (v_now : (Nat → Int32)) (v_music : Int32) (v_sights : Int32) (v_signs : Int32) (v_freeAt : Int32) (v_freeWho : Int32) (v_reason : Int32) (v_acts : Int32) (p1 : Int32) (p2 : Int32) (r : Int32) (w_book : (Nat → Int32)) (w_now : (Nat → Int32)) (w_freeAt : Int32) (w_freeWho : Int32) (hf : f_X10_put v_book v_now v_freeAt v_freeWho p1 p2 = some (r, w_book, w_now, w_freeAt, w_freeWho)) : Met l yX10_put wsX10_put rm_X10_put (PR D cI cJ cZ [(qt, .inr (9, [.ref qt_book, .ref qt_now, .ref qt_flakes, .ref qt_leaks, .int v_music, .ref qt_ranks, .int v_sights, .ref qt_sight, .int v_signs, .ref qt_pad, .int v_freeAt, .int v_freeWho, .int v_reason, .int v_acts, .ref qt_gets, .ref qt_counts, .ref qt_worth, .ref qt_ways, .ref qt_image, .ref qt_isKept])), (qt_book, .inl (cI, 43, .inl v_book)), (qt_now, .inl (cI, 43, .inl v_now))] sz [.ref qt, .int p1, .int p2]) (QI D (va_A [(qt, .inr (9, [.ref qt_book, .ref qt_now, .ref qt_flakes, .ref qt_leaks, .int v_music, .ref qt_ranks, .int v_sights, .ref qt_sight, .int v_signs, .ref qt_pad, .int v_freeAt, .int v_freeWho, .int v_reason, .int v_acts, .ref qt_gets, .ref qt_counts, .ref qt_worth, .ref qt_ways, .ref qt_image, .ref qt_isKept])), (qt_book, .inl (cI, 43, .inl v_book)), (qt_now, .inl (cI, 43, .inl v_now))] sz) r [(qt, .inr (9, [.ref qt_book, .ref qt_now, .ref qt_flakes, .ref qt_leaks, .int v_music, .ref qt_ranks, .int v_sights, .ref qt_sight, .int v_signs, .ref qt_pad, .int w_freeAt, .int w_freeWho, .int v_reason, .int v_acts, .ref qt_gets, .ref qt_counts, .ref qt_worth, .ref qt_ways, .ref qt_image, .ref qt_isKept])), (qt_book, .inl (cI, 43, .inl w_book)), (qt_now, .inl (cI, 43, .inl w_now))]) 0 0 (va_A [(qt, .inr (9, [.ref qt_book, .ref qt_now, .ref qt_flakes, .ref qt_leaks, .int v_music, .ref qt_ranks, .int v_sights, .ref qt_sight, .int v_signs, .ref qt_pad, .int v_freeAt, .int v_freeWho, .int v_reason, .int v_acts, .ref qt_gets, .ref qt_counts, .ref qt_worth, .ref qt_ways, .ref qt_image, .ref qt_isKept])), (qt_book, .inl (cI, 43, .inl v_book)), (qt_now, .inl (cI, 43, .inl v_now))] sz) := by
  refine Met.ofW (cc := cX10_put) (maxL := 4) (ret := (some .int)) (by decide) rfl ?_
  intro p e s m args below meth c s₁ B hml hv
  obtain ⟨hav, hsz, hP, hD0, hE⟩ := hv
  have hx := B.exec
  have hb := B.bytes
  have hr := B.returns
  have hts := atoms_spec (ws := wsX10_put) B.pre
  have hown : s.vm.findClass RX10 = some m.cls := findClass_of_methodNamed B.named
  have hlocks := B.notSynchronized
  subst hsz
  have hD := hD0.self (sz := s.heap.size)
  generalize hAe : va_A [(qt, .inr (9, [.ref qt_book, .ref qt_now, .ref qt_flakes, .ref qt_leaks, .int v_music, .ref qt_ranks, .int v_sights, .ref qt_sight, .int v_signs, .ref qt_pad, .int v_freeAt, .int v_freeWho, .int v_reason, .int v_acts, .ref qt_gets, .ref qt_counts, .ref qt_worth, .ref qt_ways, .ref qt_image, .ref qt_isKept])), (qt_book, .inl (cI, 43, .inl v_book)), (qt_now, .inl (cI, 43, .inl v_now))] s.heap.size = A at hD ⊢
  have hA : ∀ q : Nat, s.heap.size ≤ q → A q := fun q h => by rw [← hAe]; exact Or.inr h
  have hS : va_S A s.heap s.heap [] := va_S.rf
  have hl := lv_entry ([.ref qt, .int p1, .int p2]) (n := 4) (Nat.le_of_ble_eq_true rfl)
  have hfr : entryFrame m args 4 = entryFrame m ([.ref qt, .int p1, .int p2] : List Value).toArray 4 := by rw [hav]
  rw [hfr, lg_entry_eq]
  generalize (lg_sl ([.ref qt, .int p1, .int p2]) ++ List.replicate (4 - (lg_sl ([.ref qt, .int p1, .int p2])).length) Slot.unset).toArray = ls at hl ⊢
  have hl : lv_has ls 4 [(0, .ref qt), (1, .int p1), (2, .int p2)] := hl
  obtain ⟨QQ, hQQ⟩ : ∃ QQ, QQ = MQ below (QI D A r [(qt, .inr (9, [.ref qt_book, .ref qt_now, .ref qt_flakes, .ref qt_leaks, .int v_music, .ref qt_ranks, .int v_sights, .ref qt_sight, .int v_signs, .ref qt_pad, .int w_freeAt, .int w_freeWho, .int v_reason, .int v_acts, .ref qt_gets, .ref qt_counts, .ref qt_worth, .ref qt_ways, .ref qt_image, .ref qt_isKept])), (qt_book, .inl (cI, 43, .inl w_book)), (qt_now, .inl (cI, 43, .inl w_now))]) args s 0 0 A := ⟨_, rfl⟩
  show W p l e rm_X10_put s m args below meth c s.heap [] 0 0 _ _
  rw [← hQQ]
  have hB71 : ∀ (v_book : (Nat → Int32)) (v_now : (Nat → Int32)) (v_freeAt : Int32) (v_freeWho : Int32) (x3 : Int32) (s0 : Int32) (s1 : Int32) (H : Heap) (locs : List Loc) (ls : Array Slot), va_P D vwCl [(qt, .inr (9, [.ref qt_book, .ref qt_now, .ref qt_flakes, .ref qt_leaks, .int v_music, .ref qt_ranks, .int v_sights, .ref qt_sight, .int v_signs, .ref qt_pad, .int v_freeAt, .int v_freeWho, .int v_reason, .int v_acts, .ref qt_gets, .ref qt_counts, .ref qt_worth, .ref qt_ways, .ref qt_image, .ref qt_isKept])), (qt_book, .inl (cI, 43, .inl v_book)), (qt_now, .inl (cI, 43, .inl v_now))] H → va_D A [(qt, .inr (9, [.ref qt_book, .ref qt_now, .ref qt_flakes, .ref qt_leaks, .int v_music, .ref qt_ranks, .int v_sights, .ref qt_sight, .int v_signs, .ref qt_pad, .int v_freeAt, .int v_freeWho, .int v_reason, .int v_acts, .ref qt_gets, .ref qt_counts, .ref qt_worth, .ref qt_ways, .ref qt_image, .ref qt_isKept])), (qt_book, .inl (cI, 43, .inl v_book)), (qt_now, .inl (cI, 43, .inl v_now))] → va_S A s.heap H locs → lv_has ls 4 [(3, .int x3)] → B_X10_put_71 p1 p2 v_book v_now v_freeAt v_freeWho x3 s0 s1 = some (r, w_book, w_now, w_freeAt, w_freeWho) → W p l e rm_X10_put s m args below meth c H locs 0 0 QQ (F0 m 71 ls [.int s0, .int s1, .ref qt_book]) := by
    intro v_book v_now v_freeAt v_freeWho x3 s0 s1 H locs ls hP hD hS hl h
    unfold B_X10_put_71 at h
    obtain ⟨hg, h⟩ := gin_some h
    refine va_iast hx hb hE.1 hP hD hS 1 0 rfl rfl hg dX10_put_71 (fun H locs (hP : va_P D vwCl [(qt, .inr (9, [.ref qt_book, .ref qt_now, .ref qt_flakes, .ref qt_leaks, .int v_music, .ref qt_ranks, .int v_sights, .ref qt_sight, .int v_signs, .ref qt_pad, .int v_freeAt, .int v_freeWho, .int v_reason, .int v_acts, .ref qt_gets, .ref qt_counts, .ref qt_worth, .ref qt_ways, .ref qt_image, .ref qt_isKept])), (qt_book, .inl (cI, 43, .inl (upd v_book (Int32.toNatClampNeg s1) s0))), (qt_now, .inl (cI, 43, .inl v_now))] H) (hD : va_D A [(qt, .inr (9, [.ref qt_book, .ref qt_now, .ref qt_flakes, .ref qt_leaks, .int v_music, .ref qt_ranks, .int v_sights, .ref qt_sight, .int v_signs, .ref qt_pad, .int v_freeAt, .int v_freeWho, .int v_reason, .int v_acts, .ref qt_gets, .ref qt_counts, .ref qt_worth, .ref qt_ways, .ref qt_image, .ref qt_isKept])), (qt_book, .inl (cI, 43, .inl (upd v_book (Int32.toNatClampNeg s1) s0))), (qt_now, .inl (cI, 43, .inl v_now))]) hS => ?_)
    refine lv_iload_n hx hb dX10_put_72 rfl (lv_at hl 0 rfl) ?_
    cases h
    rw [hQQ]
    exact gw_iret hx hb hr hlocks hP hD hS dX10_put_73
  have hB43 : ∀ (v_book : (Nat → Int32)) (v_now : (Nat → Int32)) (v_freeAt : Int32) (v_freeWho : Int32) (H : Heap) (locs : List Loc) (ls : Array Slot), va_P D vwCl [(qt, .inr (9, [.ref qt_book, .ref qt_now, .ref qt_flakes, .ref qt_leaks, .int v_music, .ref qt_ranks, .int v_sights, .ref qt_sight, .int v_signs, .ref qt_pad, .int v_freeAt, .int v_freeWho, .int v_reason, .int v_acts, .ref qt_gets, .ref qt_counts, .ref qt_worth, .ref qt_ways, .ref qt_image, .ref qt_isKept])), (qt_book, .inl (cI, 43, .inl v_book)), (qt_now, .inl (cI, 43, .inl v_now))] H → va_D A [(qt, .inr (9, [.ref qt_book, .ref qt_now, .ref qt_flakes, .ref qt_leaks, .int v_music, .ref qt_ranks, .int v_sights, .ref qt_sight, .int v_signs, .ref qt_pad, .int v_freeAt, .int v_freeWho, .int v_reason, .int v_acts, .ref qt_gets, .ref qt_counts, .ref qt_worth, .ref qt_ways, .ref qt_image, .ref qt_isKept])), (qt_book, .inl (cI, 43, .inl v_book)), (qt_now, .inl (cI, 43, .inl v_now))] → va_S A s.heap H locs → lv_has ls 4 [(0, .ref qt), (1, .int p1), (2, .int p2)] → B_X10_put_43 p1 p2 v_book v_now v_freeAt v_freeWho = some (r, w_book, w_now, w_freeAt, w_freeWho) → W p l e rm_X10_put s m args below meth c H locs 0 0 QQ (F0 m 43 ls []) := by
    intro v_book v_now v_freeAt v_freeWho H locs ls hP hD hS hl h
    unfold B_X10_put_43 at h
    refine lv_aload_n hx hb dX10_put_43 rfl (lv_at hl 0 rfl) ?_
    refine va_get (D := D) (ci := 9) (C := RX10) (T := TX10) (N := 20) hx hb hts (fun _ hw => (List.mem_cons_of_mem _ (List.mem_append_right _ hw))) hown hE.1 hP 0 rfl rfl 0 (by decide) (hts (.fieldLink RX10 7 "GlobeCrownModel" "book" "[I") (List.mem_cons_of_mem _ (List.mem_append_left _ (List.mem_of_getElem? (i := 0) rfl)))) (fun _ h9 => h9) rfl dX10_put_44 ?_
    refine lv_bipush (v := 32) hx hb dX10_put_47 (by decide) ?_
    refine lv_iload_n hx hb dX10_put_49 rfl (lv_at hl 1 rfl) ?_
    refine lv_iadd hx hb dX10_put_50 ?_
    obtain ⟨hg, h⟩ := gin_some h
    refine va_iald hx hb hE.1 hP 1 0 rfl rfl hg dX10_put_51 ?_
    refine lv_istore_n (lv' := [(3, .int (v_book (Int32.toNatClampNeg ((32 : Int32) + p1)))), (0, .ref qt), (1, .int p1), (2, .int p2)]) hx hb dX10_put_52 rfl hl (by decide) rfl (fun ls hl => ?_)
    refine lv_aload_n hx hb dX10_put_53 rfl (lv_at hl 1 rfl) ?_
    refine va_get (D := D) (ci := 9) (C := RX10) (T := TX10) (N := 20) hx hb hts (fun _ hw => (List.mem_cons_of_mem _ (List.mem_append_right _ hw))) hown hE.1 hP 0 rfl rfl 0 (by decide) (hts (.fieldLink RX10 7 "GlobeCrownModel" "book" "[I") (List.mem_cons_of_mem _ (List.mem_append_left _ (List.mem_of_getElem? (i := 0) rfl)))) (fun _ h9 => h9) rfl dX10_put_54 ?_
    refine lv_bipush (v := 32) hx hb dX10_put_57 (by decide) ?_
    refine lv_iload_n hx hb dX10_put_59 rfl (lv_at hl 2 rfl) ?_
    refine lv_iadd hx hb dX10_put_60 ?_
    refine lv_iload_n hx hb dX10_put_61 rfl (lv_at hl 3 rfl) ?_
    refine lv_if_ge (tgt := 70) hx hb dX10_put_62 (by decide) (fun hc => ?_) (fun hc => ?_)
    · have h := if_t hc h
      refine lv_iload_n hx hb dX10_put_70 rfl (lv_at hl 3 rfl) ?_
      exact hB71 v_book v_now v_freeAt v_freeWho (v_book (Int32.toNatClampNeg ((32 : Int32) + p1))) p2 ((32 : Int32) + p1) H locs ls hP hD hS (lv_sub hl [0] rfl) h
    · have h := if_f hc h
      refine lv_bipush (v := -6) hx hb dX10_put_65 (by decide) ?_
      refine lv_goto (tgt := 71) hx hb dX10_put_67 (by decide) ?_
      exact hB71 v_book v_now v_freeAt v_freeWho (v_book (Int32.toNatClampNeg ((32 : Int32) + p1))) (-6 : Int32) ((32 : Int32) + p1) H locs ls hP hD hS (lv_sub hl [0] rfl) h
  have hB23 : ∀ (v_book : (Nat → Int32)) (v_now : (Nat → Int32)) (v_freeAt : Int32) (v_freeWho : Int32) (H : Heap) (locs : List Loc) (ls : Array Slot), va_P D vwCl [(qt, .inr (9, [.ref qt_book, .ref qt_now, .ref qt_flakes, .ref qt_leaks, .int v_music, .ref qt_ranks, .int v_sights, .ref qt_sight, .int v_signs, .ref qt_pad, .int v_freeAt, .int v_freeWho, .int v_reason, .int v_acts, .ref qt_gets, .ref qt_counts, .ref qt_worth, .ref qt_ways, .ref qt_image, .ref qt_isKept])), (qt_book, .inl (cI, 43, .inl v_book)), (qt_now, .inl (cI, 43, .inl v_now))] H → va_D A [(qt, .inr (9, [.ref qt_book, .ref qt_now, .ref qt_flakes, .ref qt_leaks, .int v_music, .ref qt_ranks, .int v_sights, .ref qt_sight, .int v_signs, .ref qt_pad, .int v_freeAt, .int v_freeWho, .int v_reason, .int v_acts, .ref qt_gets, .ref qt_counts, .ref qt_worth, .ref qt_ways, .ref qt_image, .ref qt_isKept])), (qt_book, .inl (cI, 43, .inl v_book)), (qt_now, .inl (cI, 43, .inl v_now))] → va_S A s.heap H locs → lv_has ls 4 [(0, .ref qt), (1, .int p1), (2, .int p2)] → B_X10_put_23 p1 p2 v_book v_now v_freeAt v_freeWho = some (r, w_book, w_now, w_freeAt, w_freeWho) → W p l e rm_X10_put s m args below meth c H locs 0 0 QQ (F0 m 23 ls []) := by
    intro v_book v_now v_freeAt v_freeWho H locs ls hP hD hS hl h
    unfold B_X10_put_23 at h
    refine lv_aload_n hx hb dX10_put_23 rfl (lv_at hl 0 rfl) ?_
    obtain ⟨u24v_now, u24v_freeAt, u24v_freeWho, hc24, h⟩ := bd3_some h
    refine gw_cv (wr := []) (w2 := [(qt, .inr (9, [.ref qt_book, .ref qt_now, .ref qt_flakes, .ref qt_leaks, .int v_music, .ref qt_ranks, .int v_sights, .ref qt_sight, .int v_signs, .ref qt_pad, .int u24v_freeAt, .int u24v_freeWho, .int v_reason, .int v_acts, .ref qt_gets, .ref qt_counts, .ref qt_worth, .ref qt_ways, .ref qt_image, .ref qt_isKept])), (qt_book, .inl (cI, 43, .inl v_book)), (qt_now, .inl (cI, 43, .inl u24v_now))]) (gw_rV (n := 0) ⟨hx, hb, hml, hown, hts⟩ (C_X10_asNow l D cI cJ cZ H.size qt qt_book qt_now qt_flakes qt_leaks qt_ranks qt_sight qt_pad qt_gets qt_counts qt_worth qt_ways qt_image qt_isKept v_book v_now v_music v_sights v_signs v_freeAt v_freeWho v_reason v_acts u24v_now u24v_freeAt u24v_freeWho hc24) gX10_put_X10_asNow rfl rfl rfl hdV_X10_asNow ⟨Nat.le_of_ble_eq_true rfl, Nat.le_of_ble_eq_true rfl⟩ hE (hP.sub [0, 1, 2] rfl) (hD.sub [0, 1, 2] (by decide) rfl) 9 rfl 0 rfl rfl hl.1 (rest := []) rfl (Nat.le_of_ble_eq_true rfl) dX10_put_24 ⟨Nat.zero_le _, Nat.zero_le _⟩) hP hD hS hA [0, 1, 2] [] rfl rfl rfl (by decide) rfl (fun H locs hP hD hS => ?_)
    refine lv_iload_n hx hb dX10_put_27 rfl (lv_at hl 2 rfl) ?_
    refine lv_if_lt (tgt := 43) hx hb dX10_put_28 (by decide) (fun hc => ?_) (fun hc => ?_)
    · have h := if_t hc h
      exact hB43 v_book u24v_now u24v_freeAt u24v_freeWho H locs ls hP hD hS hl h
    · have h := if_f hc h
      refine lv_aload_n hx hb dX10_put_31 rfl (lv_at hl 0 rfl) ?_
      refine lv_iload_n hx hb dX10_put_32 rfl (lv_at hl 2 rfl) ?_
      refine lv_iload_n hx hb dX10_put_33 rfl (lv_at hl 1 rfl) ?_
      obtain ⟨r34, hc34, h⟩ := bd1_some h
      refine gw_ci (wr := [(qt_book, .inl (cI, 43, .inl v_book))]) (w2 := [(qt_book, .inl (cI, 43, .inl v_book)), (qt, .inr (9, [.ref qt_book, .ref qt_now, .ref qt_flakes, .ref qt_leaks, .int v_music, .ref qt_ranks, .int v_sights, .ref qt_sight, .int v_signs, .ref qt_pad, .int u24v_freeAt, .int u24v_freeWho, .int v_reason, .int v_acts, .ref qt_gets, .ref qt_counts, .ref qt_worth, .ref qt_ways, .ref qt_image, .ref qt_isKept])), (qt_now, .inl (cI, 43, .inl u24v_now))]) (gw_rV (n := 2) ⟨hx, hb, hml, hown, hts⟩ (C_X10_isWithin l D cI cJ cZ H.size qt qt_book qt_now qt_flakes qt_leaks qt_ranks qt_sight qt_pad qt_gets qt_counts qt_worth qt_ways qt_image qt_isKept u24v_now v_music v_sights v_signs u24v_freeAt u24v_freeWho v_reason v_acts p2 p1 r34 hc34) gX10_put_X10_isWithin rfl rfl rfl hdV_X10_isWithin ⟨Nat.le_of_ble_eq_true rfl, Nat.le_of_ble_eq_true rfl⟩ hE (hP.sub [0, 2] rfl) (hD.sub [0, 2] (by decide) rfl) 9 rfl 0 rfl rfl hl.1 (rest := []) rfl (Nat.le_of_ble_eq_true rfl) dX10_put_34 ⟨Nat.zero_le _, Nat.zero_le _⟩) hP hD hS hA [0, 2] [1] rfl rfl rfl (by decide) rfl (fun H locs hP hD hS => ?_)
      refine lv_if_eq (tgt := 43) hx hb dX10_put_37 (by decide) (fun hc => ?_) (fun hc => ?_)
      · have h := if_t hc h
        exact hB43 v_book u24v_now u24v_freeAt u24v_freeWho H locs ls (hP.sub [1, 0, 2] rfl) (hD.sub [1, 0, 2] (by decide) rfl) hS hl h
      · have h := if_f hc h
        refine lv_bipush (v := -3) hx hb dX10_put_40 (by decide) ?_
        cases h
        rw [hQQ]
        exact gw_iret hx hb hr hlocks (hP.sub [1, 0, 2] rfl) (hD.sub [1, 0, 2] (by decide) rfl) hS dX10_put_42
  have h := hf
  unfold f_X10_put at h
  refine gw_start hP hD hS (fun H locs hP hD hS => ?_)
  refine lv_aload_n hx hb dX10_put_0 rfl (lv_at hl 0 rfl) ?_
  refine lv_iload_n hx hb dX10_put_1 rfl (lv_at hl 1 rfl) ?_
  obtain ⟨r2, hc2, h⟩ := bd1_some h
  refine gw_ci (wr := [(qt_now, .inl (cI, 43, .inl v_now))]) (w2 := [(qt_now, .inl (cI, 43, .inl v_now)), (qt, .inr (9, [.ref qt_book, .ref qt_now, .ref qt_flakes, .ref qt_leaks, .int v_music, .ref qt_ranks, .int v_sights, .ref qt_sight, .int v_signs, .ref qt_pad, .int v_freeAt, .int v_freeWho, .int v_reason, .int v_acts, .ref qt_gets, .ref qt_counts, .ref qt_worth, .ref qt_ways, .ref qt_image, .ref qt_isKept])), (qt_book, .inl (cI, 43, .inl v_book))]) (gw_rV (n := 1) ⟨hx, hb, hml, hown, hts⟩ (C_X10_isThere l D cI cJ cZ H.size qt qt_book qt_now qt_flakes qt_leaks qt_ranks qt_sight qt_pad qt_gets qt_counts qt_worth qt_ways qt_image qt_isKept v_book v_music v_sights v_signs v_freeAt v_freeWho v_reason v_acts p1 r2 hc2) gX10_put_X10_isThere rfl rfl rfl hdV_X10_isThere ⟨Nat.le_of_ble_eq_true rfl, Nat.le_of_ble_eq_true rfl⟩ hE (hP.sub [0, 1] rfl) (hD.sub [0, 1] (by decide) rfl) 9 rfl 0 rfl rfl hl.1 (rest := []) rfl (Nat.le_of_ble_eq_true rfl) dX10_put_2 ⟨Nat.zero_le _, Nat.zero_le _⟩) hP hD hS hA [0, 1] [2] rfl rfl rfl (by decide) rfl (fun H locs hP hD hS => ?_)
  refine lv_if_eq (tgt := 21) hx hb dX10_put_5 (by decide) (fun hc => ?_) (fun hc => ?_)
  · have h := if_t hc h
    refine lv_iconst (v := -1) hx hb dX10_put_21 (by decide) ?_
    cases h
    rw [hQQ]
    exact gw_iret hx hb hr hlocks (hP.sub [1, 2, 0] rfl) (hD.sub [1, 2, 0] (by decide) rfl) hS dX10_put_22
  · have h := if_f hc h
    refine lv_iload_n hx hb dX10_put_8 rfl (lv_at hl 2 rfl) ?_
    refine lv_iconst (v := -1) hx hb dX10_put_9 (by decide) ?_
    refine lv_icmp_eq (tgt := 23) hx hb dX10_put_10 (by decide) (fun hc => ?_) (fun hc => ?_)
    · have h := if_t hc h
      exact hB23 v_book v_now v_freeAt v_freeWho H locs ls (hP.sub [1, 2, 0] rfl) (hD.sub [1, 2, 0] (by decide) rfl) hS hl h
    · have h := if_f hc h
      refine lv_aload_n hx hb dX10_put_13 rfl (lv_at hl 0 rfl) ?_
      refine lv_iload_n hx hb dX10_put_14 rfl (lv_at hl 2 rfl) ?_
      obtain ⟨r15, hc15, h⟩ := bd1_some h
      refine gw_ci (wr := [(qt_now, .inl (cI, 43, .inl v_now))]) (w2 := [(qt_now, .inl (cI, 43, .inl v_now)), (qt, .inr (9, [.ref qt_book, .ref qt_now, .ref qt_flakes, .ref qt_leaks, .int v_music, .ref qt_ranks, .int v_sights, .ref qt_sight, .int v_signs, .ref qt_pad, .int v_freeAt, .int v_freeWho, .int v_reason, .int v_acts, .ref qt_gets, .ref qt_counts, .ref qt_worth, .ref qt_ways, .ref qt_image, .ref qt_isKept])), (qt_book, .inl (cI, 43, .inl v_book))]) (gw_rV (n := 1) ⟨hx, hb, hml, hown, hts⟩ (C_X10_isThere l D cI cJ cZ H.size qt qt_book qt_now qt_flakes qt_leaks qt_ranks qt_sight qt_pad qt_gets qt_counts qt_worth qt_ways qt_image qt_isKept v_book v_music v_sights v_signs v_freeAt v_freeWho v_reason v_acts p2 r15 hc15) gX10_put_X10_isThere rfl rfl rfl hdV_X10_isThere ⟨Nat.le_of_ble_eq_true rfl, Nat.le_of_ble_eq_true rfl⟩ hE (hP.sub [1, 2] rfl) (hD.sub [1, 2] (by decide) rfl) 9 rfl 0 rfl rfl hl.1 (rest := []) rfl (Nat.le_of_ble_eq_true rfl) dX10_put_15 ⟨Nat.zero_le _, Nat.zero_le _⟩) hP hD hS hA [1, 2] [0] rfl rfl rfl (by decide) rfl (fun H locs hP hD hS => ?_)
      refine lv_if_ne (tgt := 23) hx hb dX10_put_18 (by decide) (fun hc => ?_) (fun hc => ?_)
      · have h := if_f hc h
        exact hB23 v_book v_now v_freeAt v_freeWho H locs ls (hP.sub [1, 2, 0] rfl) (hD.sub [1, 2, 0] (by decide) rfl) hS hl h
      · have h := if_t hc h
        refine lv_iconst (v := -1) hx hb dX10_put_21 (by decide) ?_
        cases h
        rw [hQQ]
        exact gw_iret hx hb hr hlocks (hP.sub [1, 2, 0] rfl) (hD.sub [1, 2, 0] (by decide) rfl) hS dX10_put_22
theorem hdV_X10_put : yX10_put.cls = RX10 ∧ yX10_put.cls ≠ "java/lang/invoke/MethodHandle" ∧ yX10_put.cls ≠ "java/lang/invoke/VarHandle" ∧ (parseMethodDescriptor yX10_put.desc).map (fun d => d.parameters.length) = some 2 := by decide +kernel
def f_X10_say (v_signs : Int32) (v_pad : (Nat → Int32)) (p1 : Int32) : Option (Int32 × Int32 × (Nat → Int32)) := (bd1 (f_X10_in p1 (33 : Int32) (126 : Int32)) (fun r5 => (if r5 = (0 : Int32) then (some ((-2 : Int32), v_signs, v_pad)) else (if v_signs = (60 : Int32) then (some ((-4 : Int32), v_signs, v_pad)) else (gin v_signs 60 (some ((v_signs + (1 : Int32)), (v_signs + (1 : Int32)), (upd v_pad (Int32.toNatClampNeg v_signs) p1))))))))
abbrev rm_X10_say : Room := { frames := 1, cells := 0, slots := 0, locals := 22 }
set_option maxHeartbeats 4000000 in
set_option maxRecDepth 100000 in
theorem C_X10_say (l : Launch) (D : va_G) (cI cJ cZ : ClassId) (sz : Nat) (qt qt_book qt_now qt_flakes qt_leaks qt_ranks qt_sight qt_pad qt_gets qt_counts qt_worth qt_ways qt_image qt_isKept : Nat) (v_music : Int32) (v_sights : Int32) (v_signs : Int32) (v_pad : (Nat → Int32)) (v_freeAt : Int32) (v_freeWho : Int32) (v_reason : Int32) (v_acts : Int32) (p1 : Int32) (r : Int32) (w_signs : Int32) (w_pad : (Nat → Int32)) (hf : f_X10_say v_signs v_pad p1 = some (r, w_signs, w_pad)) : Met l yX10_say wsX10_say rm_X10_say (PR D cI cJ cZ [(qt, .inr (9, [.ref qt_book, .ref qt_now, .ref qt_flakes, .ref qt_leaks, .int v_music, .ref qt_ranks, .int v_sights, .ref qt_sight, .int v_signs, .ref qt_pad, .int v_freeAt, .int v_freeWho, .int v_reason, .int v_acts, .ref qt_gets, .ref qt_counts, .ref qt_worth, .ref qt_ways, .ref qt_image, .ref qt_isKept])), (qt_pad, .inl (cI, 60, .inl v_pad))] sz [.ref qt, .int p1]) (QI D (va_A [(qt, .inr (9, [.ref qt_book, .ref qt_now, .ref qt_flakes, .ref qt_leaks, .int v_music, .ref qt_ranks, .int v_sights, .ref qt_sight, .int v_signs, .ref qt_pad, .int v_freeAt, .int v_freeWho, .int v_reason, .int v_acts, .ref qt_gets, .ref qt_counts, .ref qt_worth, .ref qt_ways, .ref qt_image, .ref qt_isKept])), (qt_pad, .inl (cI, 60, .inl v_pad))] sz) r [(qt, .inr (9, [.ref qt_book, .ref qt_now, .ref qt_flakes, .ref qt_leaks, .int v_music, .ref qt_ranks, .int v_sights, .ref qt_sight, .int w_signs, .ref qt_pad, .int v_freeAt, .int v_freeWho, .int v_reason, .int v_acts, .ref qt_gets, .ref qt_counts, .ref qt_worth, .ref qt_ways, .ref qt_image, .ref qt_isKept])), (qt_pad, .inl (cI, 60, .inl w_pad))]) 0 0 (va_A [(qt, .inr (9, [.ref qt_book, .ref qt_now, .ref qt_flakes, .ref qt_leaks, .int v_music, .ref qt_ranks, .int v_sights, .ref qt_sight, .int v_signs, .ref qt_pad, .int v_freeAt, .int v_freeWho, .int v_reason, .int v_acts, .ref qt_gets, .ref qt_counts, .ref qt_worth, .ref qt_ways, .ref qt_image, .ref qt_isKept])), (qt_pad, .inl (cI, 60, .inl v_pad))] sz) := by
  refine Met.ofW (cc := cX10_say) (maxL := 2) (ret := (some .int)) (by decide) rfl ?_
  intro p e s m args below meth c s₁ B hml hv
  obtain ⟨hav, hsz, hP, hD0, hE⟩ := hv
  have hx := B.exec
  have hb := B.bytes
  have hr := B.returns
  have hts := atoms_spec (ws := wsX10_say) B.pre
  have hown : s.vm.findClass RX10 = some m.cls := findClass_of_methodNamed B.named
  have hlocks := B.notSynchronized
  subst hsz
  have hD := hD0.self (sz := s.heap.size)
  generalize hAe : va_A [(qt, .inr (9, [.ref qt_book, .ref qt_now, .ref qt_flakes, .ref qt_leaks, .int v_music, .ref qt_ranks, .int v_sights, .ref qt_sight, .int v_signs, .ref qt_pad, .int v_freeAt, .int v_freeWho, .int v_reason, .int v_acts, .ref qt_gets, .ref qt_counts, .ref qt_worth, .ref qt_ways, .ref qt_image, .ref qt_isKept])), (qt_pad, .inl (cI, 60, .inl v_pad))] s.heap.size = A at hD ⊢
  have hA : ∀ q : Nat, s.heap.size ≤ q → A q := fun q h => by rw [← hAe]; exact Or.inr h
  have hS : va_S A s.heap s.heap [] := va_S.rf
  have hl := lv_entry ([.ref qt, .int p1]) (n := 2) (Nat.le_of_ble_eq_true rfl)
  have hfr : entryFrame m args 2 = entryFrame m ([.ref qt, .int p1] : List Value).toArray 2 := by rw [hav]
  rw [hfr, lg_entry_eq]
  generalize (lg_sl ([.ref qt, .int p1]) ++ List.replicate (2 - (lg_sl ([.ref qt, .int p1])).length) Slot.unset).toArray = ls at hl ⊢
  have hl : lv_has ls 2 [(0, .ref qt), (1, .int p1)] := hl
  obtain ⟨QQ, hQQ⟩ : ∃ QQ, QQ = MQ below (QI D A r [(qt, .inr (9, [.ref qt_book, .ref qt_now, .ref qt_flakes, .ref qt_leaks, .int v_music, .ref qt_ranks, .int v_sights, .ref qt_sight, .int w_signs, .ref qt_pad, .int v_freeAt, .int v_freeWho, .int v_reason, .int v_acts, .ref qt_gets, .ref qt_counts, .ref qt_worth, .ref qt_ways, .ref qt_image, .ref qt_isKept])), (qt_pad, .inl (cI, 60, .inl w_pad))]) args s 0 0 A := ⟨_, rfl⟩
  show W p l e rm_X10_say s m args below meth c s.heap [] 0 0 _ _
  rw [← hQQ]
  have h := hf
  unfold f_X10_say at h
  refine gw_start hP hD hS (fun H locs hP hD hS => ?_)
  refine lv_iload_n hx hb dX10_say_0 rfl (lv_at hl 1 rfl) ?_
  refine lv_bipush (v := 33) hx hb dX10_say_1 (by decide) ?_
  refine lv_bipush (v := 126) hx hb dX10_say_3 (by decide) ?_
  obtain ⟨r5, hc5, h⟩ := bd1_some h
  refine gw_ci (wr := [(qt, .inr (9, [.ref qt_book, .ref qt_now, .ref qt_flakes, .ref qt_leaks, .int v_music, .ref qt_ranks, .int v_sights, .ref qt_sight, .int v_signs, .ref qt_pad, .int v_freeAt, .int v_freeWho, .int v_reason, .int v_acts, .ref qt_gets, .ref qt_counts, .ref qt_worth, .ref qt_ways, .ref qt_image, .ref qt_isKept])), (qt_pad, .inl (cI, 60, .inl v_pad))]) (w2 := [(qt, .inr (9, [.ref qt_book, .ref qt_now, .ref qt_flakes, .ref qt_leaks, .int v_music, .ref qt_ranks, .int v_sights, .ref qt_sight, .int v_signs, .ref qt_pad, .int v_freeAt, .int v_freeWho, .int v_reason, .int v_acts, .ref qt_gets, .ref qt_counts, .ref qt_worth, .ref qt_ways, .ref qt_image, .ref qt_isKept])), (qt_pad, .inl (cI, 60, .inl v_pad))]) (gw_rS (n := 3) ⟨hx, hb, hml, hown, hts⟩ (C_X10_in l D cI cJ cZ H.size p1 (33 : Int32) (126 : Int32) r5 hc5) gX10_say_X10_in rfl rfl rfl hdS_X10_in ⟨Nat.le_of_ble_eq_true rfl, Nat.le_of_ble_eq_true rfl⟩ hE (hP.sub [] rfl) (hD.sub [] (by decide) rfl) rfl hl.1 (rest := []) rfl (Nat.le_of_ble_eq_true rfl) dX10_say_5 ⟨Nat.zero_le _, Nat.zero_le _⟩) hP hD hS hA [] [0, 1] rfl rfl rfl (by decide) rfl (fun H locs hP hD hS => ?_)
  refine lv_if_ne (tgt := 14) hx hb dX10_say_8 (by decide) (fun hc => ?_) (fun hc => ?_)
  · have h := if_f hc h
    refine lv_aload_n hx hb dX10_say_14 rfl (lv_at hl 0 rfl) ?_
    refine va_get (D := D) (ci := 9) (C := RX10) (T := TX10) (N := 20) hx hb hts (fun _ hw => (List.mem_cons_of_mem _ (List.mem_append_right _ hw))) hown hE.1 hP 0 rfl rfl 8 (by decide) (hts (.fieldLink RX10 77 "GlobeCrownModel" "signs" "I") (List.mem_cons_of_mem _ (List.mem_append_left _ (List.mem_of_getElem? (i := 0) rfl)))) (fun _ h9 => h9) rfl dX10_say_15 ?_
    refine lv_bipush (v := 60) hx hb dX10_say_18 (by decide) ?_
    refine lv_icmp_ne (tgt := 26) hx hb dX10_say_20 (by decide) (fun hc => ?_) (fun hc => ?_)
    · have h := if_f hc h
      refine lv_aload_n hx hb dX10_say_26 rfl (lv_at hl 0 rfl) ?_
      refine va_get (D := D) (ci := 9) (C := RX10) (T := TX10) (N := 20) hx hb hts (fun _ hw => (List.mem_cons_of_mem _ (List.mem_append_right _ hw))) hown hE.1 hP 0 rfl rfl 9 (by decide) (hts (.fieldLink RX10 28 "GlobeCrownModel" "pad" "[I") (List.mem_cons_of_mem _ (List.mem_append_left _ (List.mem_of_getElem? (i := 1) rfl)))) (fun _ h9 => h9) rfl dX10_say_27 ?_
      refine lv_aload_n hx hb dX10_say_30 rfl (lv_at hl 0 rfl) ?_
      refine va_get (D := D) (ci := 9) (C := RX10) (T := TX10) (N := 20) hx hb hts (fun _ hw => (List.mem_cons_of_mem _ (List.mem_append_right _ hw))) hown hE.1 hP 0 rfl rfl 8 (by decide) (hts (.fieldLink RX10 77 "GlobeCrownModel" "signs" "I") (List.mem_cons_of_mem _ (List.mem_append_left _ (List.mem_of_getElem? (i := 0) rfl)))) (fun _ h9 => h9) rfl dX10_say_31 ?_
      refine lv_iload_n hx hb dX10_say_34 rfl (lv_at hl 1 rfl) ?_
      obtain ⟨hg, h⟩ := gin_some h
      refine va_iast hx hb hE.1 hP hD hS 1 0 rfl rfl hg dX10_say_35 (fun H locs (hP : va_P D vwCl [(qt, .inr (9, [.ref qt_book, .ref qt_now, .ref qt_flakes, .ref qt_leaks, .int v_music, .ref qt_ranks, .int v_sights, .ref qt_sight, .int v_signs, .ref qt_pad, .int v_freeAt, .int v_freeWho, .int v_reason, .int v_acts, .ref qt_gets, .ref qt_counts, .ref qt_worth, .ref qt_ways, .ref qt_image, .ref qt_isKept])), (qt_pad, .inl (cI, 60, .inl (upd v_pad (Int32.toNatClampNeg v_signs) p1)))] H) (hD : va_D A [(qt, .inr (9, [.ref qt_book, .ref qt_now, .ref qt_flakes, .ref qt_leaks, .int v_music, .ref qt_ranks, .int v_sights, .ref qt_sight, .int v_signs, .ref qt_pad, .int v_freeAt, .int v_freeWho, .int v_reason, .int v_acts, .ref qt_gets, .ref qt_counts, .ref qt_worth, .ref qt_ways, .ref qt_image, .ref qt_isKept])), (qt_pad, .inl (cI, 60, .inl (upd v_pad (Int32.toNatClampNeg v_signs) p1)))]) hS => ?_)
      refine lv_aload_n hx hb dX10_say_36 rfl (lv_at hl 0 rfl) ?_
      refine lv_dup hx hb dX10_say_37 rfl ?_
      refine va_get (D := D) (ci := 9) (C := RX10) (T := TX10) (N := 20) hx hb hts (fun _ hw => (List.mem_cons_of_mem _ (List.mem_append_right _ hw))) hown hE.1 hP 0 rfl rfl 8 (by decide) (hts (.fieldLink RX10 77 "GlobeCrownModel" "signs" "I") (List.mem_cons_of_mem _ (List.mem_append_left _ (List.mem_of_getElem? (i := 0) rfl)))) (fun _ h9 => h9) rfl dX10_say_38 ?_
      refine lv_iconst (v := 1) hx hb dX10_say_41 (by decide) ?_
      refine lv_iadd hx hb dX10_say_42 ?_
      refine va_put (D := D) (ci := 9) (v := .int (v_signs + (1 : Int32))) (ty := .int) (C := RX10) (T := TX10) (N := 20) hx hb hts (fun _ hw => (List.mem_cons_of_mem _ (List.mem_append_right _ hw))) tyX10 tyX10_ok nmX10 hown hE.1 hP hD hS 0 rfl rfl 8 (by decide) (hts (.fieldLink RX10 77 "GlobeCrownModel" "signs" "I") (List.mem_cons_of_mem _ (List.mem_append_left _ (List.mem_of_getElem? (i := 0) rfl)))) (fun _ h9 => h9) rfl (tyX10_ok 8 (by decide)) rfl rfl (Nat.le_of_ble_eq_true rfl) dX10_say_43 (fun H locs (hP : va_P D vwCl [(qt, .inr (9, [.ref qt_book, .ref qt_now, .ref qt_flakes, .ref qt_leaks, .int v_music, .ref qt_ranks, .int v_sights, .ref qt_sight, .int (v_signs + (1 : Int32)), .ref qt_pad, .int v_freeAt, .int v_freeWho, .int v_reason, .int v_acts, .ref qt_gets, .ref qt_counts, .ref qt_worth, .ref qt_ways, .ref qt_image, .ref qt_isKept])), (qt_pad, .inl (cI, 60, .inl (upd v_pad (Int32.toNatClampNeg v_signs) p1)))] H) (hD : va_D A [(qt, .inr (9, [.ref qt_book, .ref qt_now, .ref qt_flakes, .ref qt_leaks, .int v_music, .ref qt_ranks, .int v_sights, .ref qt_sight, .int (v_signs + (1 : Int32)), .ref qt_pad, .int v_freeAt, .int v_freeWho, .int v_reason, .int v_acts, .ref qt_gets, .ref qt_counts, .ref qt_worth, .ref qt_ways, .ref qt_image, .ref qt_isKept])), (qt_pad, .inl (cI, 60, .inl (upd v_pad (Int32.toNatClampNeg v_signs) p1)))]) hS => ?_)
      refine lv_aload_n hx hb dX10_say_46 rfl (lv_at hl 0 rfl) ?_
      refine va_get (D := D) (ci := 9) (C := RX10) (T := TX10) (N := 20) hx hb hts (fun _ hw => (List.mem_cons_of_mem _ (List.mem_append_right _ hw))) hown hE.1 hP 0 rfl rfl 8 (by decide) (hts (.fieldLink RX10 77 "GlobeCrownModel" "signs" "I") (List.mem_cons_of_mem _ (List.mem_append_left _ (List.mem_of_getElem? (i := 0) rfl)))) (fun _ h9 => h9) rfl dX10_say_47 ?_
      cases h
      rw [hQQ]
      exact gw_iret hx hb hr hlocks hP hD hS dX10_say_50
    · have h := if_t hc h
      refine lv_bipush (v := -4) hx hb dX10_say_23 (by decide) ?_
      cases h
      rw [hQQ]
      exact gw_iret hx hb hr hlocks hP hD hS dX10_say_25
  · have h := if_t hc h
    refine lv_bipush (v := -2) hx hb dX10_say_11 (by decide) ?_
    cases h
    rw [hQQ]
    exact gw_iret hx hb hr hlocks hP hD hS dX10_say_13
theorem hdV_X10_say : yX10_say.cls = RX10 ∧ yX10_say.cls ≠ "java/lang/invoke/MethodHandle" ∧ yX10_say.cls ≠ "java/lang/invoke/VarHandle" ∧ (parseMethodDescriptor yX10_say.desc).map (fun d => d.parameters.length) = some 1 := by decide +kernel
def f_X10_wipe (v_signs : Int32) : Option (Int32 × Int32) := (some (v_signs, (0 : Int32)))
abbrev rm_X10_wipe : Room := { frames := 0, cells := 0, slots := 0, locals := 0 }
set_option maxHeartbeats 4000000 in
set_option maxRecDepth 100000 in
theorem C_X10_wipe (l : Launch) (D : va_G) (cI cJ cZ : ClassId) (sz : Nat) (qt qt_book qt_now qt_flakes qt_leaks qt_ranks qt_sight qt_pad qt_gets qt_counts qt_worth qt_ways qt_image qt_isKept : Nat) (v_music : Int32) (v_sights : Int32) (v_signs : Int32) (v_freeAt : Int32) (v_freeWho : Int32) (v_reason : Int32) (v_acts : Int32) (r : Int32) (w_signs : Int32) (hf : f_X10_wipe v_signs = some (r, w_signs)) : Met l yX10_wipe wsX10_wipe rm_X10_wipe (PR D cI cJ cZ [(qt, .inr (9, [.ref qt_book, .ref qt_now, .ref qt_flakes, .ref qt_leaks, .int v_music, .ref qt_ranks, .int v_sights, .ref qt_sight, .int v_signs, .ref qt_pad, .int v_freeAt, .int v_freeWho, .int v_reason, .int v_acts, .ref qt_gets, .ref qt_counts, .ref qt_worth, .ref qt_ways, .ref qt_image, .ref qt_isKept]))] sz [.ref qt]) (QI D (va_A [(qt, .inr (9, [.ref qt_book, .ref qt_now, .ref qt_flakes, .ref qt_leaks, .int v_music, .ref qt_ranks, .int v_sights, .ref qt_sight, .int v_signs, .ref qt_pad, .int v_freeAt, .int v_freeWho, .int v_reason, .int v_acts, .ref qt_gets, .ref qt_counts, .ref qt_worth, .ref qt_ways, .ref qt_image, .ref qt_isKept]))] sz) r [(qt, .inr (9, [.ref qt_book, .ref qt_now, .ref qt_flakes, .ref qt_leaks, .int v_music, .ref qt_ranks, .int v_sights, .ref qt_sight, .int w_signs, .ref qt_pad, .int v_freeAt, .int v_freeWho, .int v_reason, .int v_acts, .ref qt_gets, .ref qt_counts, .ref qt_worth, .ref qt_ways, .ref qt_image, .ref qt_isKept]))]) 0 0 (va_A [(qt, .inr (9, [.ref qt_book, .ref qt_now, .ref qt_flakes, .ref qt_leaks, .int v_music, .ref qt_ranks, .int v_sights, .ref qt_sight, .int v_signs, .ref qt_pad, .int v_freeAt, .int v_freeWho, .int v_reason, .int v_acts, .ref qt_gets, .ref qt_counts, .ref qt_worth, .ref qt_ways, .ref qt_image, .ref qt_isKept]))] sz) := by
  refine Met.ofW (cc := cX10_wipe) (maxL := 2) (ret := (some .int)) (by decide) rfl ?_
  intro p e s m args below meth c s₁ B hml hv
  obtain ⟨hav, hsz, hP, hD0, hE⟩ := hv
  have hx := B.exec
  have hb := B.bytes
  have hr := B.returns
  have hts := atoms_spec (ws := wsX10_wipe) B.pre
  have hown : s.vm.findClass RX10 = some m.cls := findClass_of_methodNamed B.named
  have hlocks := B.notSynchronized
  subst hsz
  have hD := hD0.self (sz := s.heap.size)
  generalize hAe : va_A [(qt, .inr (9, [.ref qt_book, .ref qt_now, .ref qt_flakes, .ref qt_leaks, .int v_music, .ref qt_ranks, .int v_sights, .ref qt_sight, .int v_signs, .ref qt_pad, .int v_freeAt, .int v_freeWho, .int v_reason, .int v_acts, .ref qt_gets, .ref qt_counts, .ref qt_worth, .ref qt_ways, .ref qt_image, .ref qt_isKept]))] s.heap.size = A at hD ⊢
  have hA : ∀ q : Nat, s.heap.size ≤ q → A q := fun q h => by rw [← hAe]; exact Or.inr h
  have hS : va_S A s.heap s.heap [] := va_S.rf
  have hl := lv_entry ([.ref qt]) (n := 2) (Nat.le_of_ble_eq_true rfl)
  have hfr : entryFrame m args 2 = entryFrame m ([.ref qt] : List Value).toArray 2 := by rw [hav]
  rw [hfr, lg_entry_eq]
  generalize (lg_sl ([.ref qt]) ++ List.replicate (2 - (lg_sl ([.ref qt])).length) Slot.unset).toArray = ls at hl ⊢
  have hl : lv_has ls 2 [(0, .ref qt)] := hl
  obtain ⟨QQ, hQQ⟩ : ∃ QQ, QQ = MQ below (QI D A r [(qt, .inr (9, [.ref qt_book, .ref qt_now, .ref qt_flakes, .ref qt_leaks, .int v_music, .ref qt_ranks, .int v_sights, .ref qt_sight, .int w_signs, .ref qt_pad, .int v_freeAt, .int v_freeWho, .int v_reason, .int v_acts, .ref qt_gets, .ref qt_counts, .ref qt_worth, .ref qt_ways, .ref qt_image, .ref qt_isKept]))]) args s 0 0 A := ⟨_, rfl⟩
  show W p l e rm_X10_wipe s m args below meth c s.heap [] 0 0 _ _
  rw [← hQQ]
  have h := hf
  unfold f_X10_wipe at h
  refine gw_start hP hD hS (fun H locs hP hD hS => ?_)
  refine lv_aload_n hx hb dX10_wipe_0 rfl (lv_at hl 0 rfl) ?_
  refine va_get (D := D) (ci := 9) (C := RX10) (T := TX10) (N := 20) hx hb hts (fun _ hw => (List.mem_cons_of_mem _ (List.mem_append_right _ hw))) hown hE.1 hP 0 rfl rfl 8 (by decide) (hts (.fieldLink RX10 77 "GlobeCrownModel" "signs" "I") (List.mem_cons_of_mem _ (List.mem_append_left _ (List.mem_of_getElem? (i := 0) rfl)))) (fun _ h9 => h9) rfl dX10_wipe_1 ?_
  refine lv_istore_n (lv' := [(1, .int v_signs), (0, .ref qt)]) hx hb dX10_wipe_4 rfl hl (by decide) rfl (fun ls hl => ?_)
  refine lv_aload_n hx hb dX10_wipe_5 rfl (lv_at hl 1 rfl) ?_
  refine lv_iconst (v := 0) hx hb dX10_wipe_6 (by decide) ?_
  refine va_put (D := D) (ci := 9) (v := .int (0 : Int32)) (ty := .int) (C := RX10) (T := TX10) (N := 20) hx hb hts (fun _ hw => (List.mem_cons_of_mem _ (List.mem_append_right _ hw))) tyX10 tyX10_ok nmX10 hown hE.1 hP hD hS 0 rfl rfl 8 (by decide) (hts (.fieldLink RX10 77 "GlobeCrownModel" "signs" "I") (List.mem_cons_of_mem _ (List.mem_append_left _ (List.mem_of_getElem? (i := 0) rfl)))) (fun _ h9 => h9) rfl (tyX10_ok 8 (by decide)) rfl rfl (Nat.le_of_ble_eq_true rfl) dX10_wipe_7 (fun H locs (hP : va_P D vwCl [(qt, .inr (9, [.ref qt_book, .ref qt_now, .ref qt_flakes, .ref qt_leaks, .int v_music, .ref qt_ranks, .int v_sights, .ref qt_sight, .int (0 : Int32), .ref qt_pad, .int v_freeAt, .int v_freeWho, .int v_reason, .int v_acts, .ref qt_gets, .ref qt_counts, .ref qt_worth, .ref qt_ways, .ref qt_image, .ref qt_isKept]))] H) (hD : va_D A [(qt, .inr (9, [.ref qt_book, .ref qt_now, .ref qt_flakes, .ref qt_leaks, .int v_music, .ref qt_ranks, .int v_sights, .ref qt_sight, .int (0 : Int32), .ref qt_pad, .int v_freeAt, .int v_freeWho, .int v_reason, .int v_acts, .ref qt_gets, .ref qt_counts, .ref qt_worth, .ref qt_ways, .ref qt_image, .ref qt_isKept]))]) hS => ?_)
  refine lv_iload_n hx hb dX10_wipe_10 rfl (lv_at hl 0 rfl) ?_
  cases h
  rw [hQQ]
  exact gw_iret hx hb hr hlocks hP hD hS dX10_wipe_11
theorem hdV_X10_wipe : yX10_wipe.cls = RX10 ∧ yX10_wipe.cls ≠ "java/lang/invoke/MethodHandle" ∧ yX10_wipe.cls ≠ "java/lang/invoke/VarHandle" ∧ (parseMethodDescriptor yX10_wipe.desc).map (fun d => d.parameters.length) = some 0 := by decide +kernel
def f_X10_isVerb (p0 : Int32) : Option (Int32) := (bd1 (f_X10_in p0 (49 : Int32) (57 : Int32)) (fun r5 => (if r5 = (0 : Int32) then (if p0 = (43 : Int32) then (some (1 : Int32)) else (if p0 = (61 : Int32) then (some (1 : Int32)) else (if p0 = (47 : Int32) then (some (1 : Int32)) else (if p0 = (62 : Int32) then (some (1 : Int32)) else (if p0 = (94 : Int32) then (some (1 : Int32)) else (if p0 = (35 : Int32) then (some (1 : Int32)) else (some (0 : Int32)))))))) else (some (1 : Int32)))))
abbrev rm_X10_isVerb : Room := { frames := 1, cells := 0, slots := 0, locals := 22 }
set_option maxHeartbeats 4000000 in
set_option maxRecDepth 100000 in
theorem C_X10_isVerb (l : Launch) (D : va_G) (cI cJ cZ : ClassId) (sz : Nat) (p0 : Int32) (r : Int32) (hf : f_X10_isVerb p0 = some r) : Met l yX10_isVerb wsX10_isVerb rm_X10_isVerb (PR D cI cJ cZ [] sz [.int p0]) (QI D (va_A [] sz) r []) 0 0 (va_A [] sz) := by
  refine Met.ofW (cc := cX10_isVerb) (maxL := 1) (ret := (some .boolean)) (by decide) rfl ?_
  intro p e s m args below meth c s₁ B hml hv
  obtain ⟨hav, hsz, hP, hD0, hE⟩ := hv
  have hx := B.exec
  have hb := B.bytes
  have hr := B.returns
  have hts := atoms_spec (ws := wsX10_isVerb) B.pre
  have hown : s.vm.findClass RX10 = some m.cls := findClass_of_methodNamed B.named
  have hlocks := B.notSynchronized
  subst hsz
  have hD := hD0.self (sz := s.heap.size)
  generalize hAe : va_A [] s.heap.size = A at hD ⊢
  have hA : ∀ q : Nat, s.heap.size ≤ q → A q := fun q h => by rw [← hAe]; exact Or.inr h
  have hS : va_S A s.heap s.heap [] := va_S.rf
  have hl := lv_entry ([.int p0]) (n := 1) (Nat.le_of_ble_eq_true rfl)
  have hfr : entryFrame m args 1 = entryFrame m ([.int p0] : List Value).toArray 1 := by rw [hav]
  rw [hfr, lg_entry_eq]
  generalize (lg_sl ([.int p0]) ++ List.replicate (1 - (lg_sl ([.int p0])).length) Slot.unset).toArray = ls at hl ⊢
  have hl : lv_has ls 1 [(0, .int p0)] := hl
  obtain ⟨QQ, hQQ⟩ : ∃ QQ, QQ = MQ below (QI D A r []) args s 0 0 A := ⟨_, rfl⟩
  show W p l e rm_X10_isVerb s m args below meth c s.heap [] 0 0 _ _
  rw [← hQQ]
  have h := hf
  unfold f_X10_isVerb at h
  refine gw_start hP hD hS (fun H locs hP hD hS => ?_)
  refine lv_iload_n hx hb dX10_isVerb_0 rfl (lv_at hl 0 rfl) ?_
  refine lv_bipush (v := 49) hx hb dX10_isVerb_1 (by decide) ?_
  refine lv_bipush (v := 57) hx hb dX10_isVerb_3 (by decide) ?_
  obtain ⟨r5, hc5, h⟩ := bd1_some h
  refine gw_ci (wr := []) (w2 := []) (gw_rS (n := 3) ⟨hx, hb, hml, hown, hts⟩ (C_X10_in l D cI cJ cZ H.size p0 (49 : Int32) (57 : Int32) r5 hc5) gX10_isVerb_X10_in rfl rfl rfl hdS_X10_in ⟨Nat.le_of_ble_eq_true rfl, Nat.le_of_ble_eq_true rfl⟩ hE (hP.sub [] rfl) (hD.sub [] (by decide) rfl) rfl hl.1 (rest := []) rfl (Nat.le_of_ble_eq_true rfl) dX10_isVerb_5 ⟨Nat.zero_le _, Nat.zero_le _⟩) hP hD hS hA [] [] rfl rfl rfl (by decide) rfl (fun H locs hP hD hS => ?_)
  refine lv_if_ne (tgt := 47) hx hb dX10_isVerb_8 (by decide) (fun hc => ?_) (fun hc => ?_)
  · have h := if_f hc h
    refine lv_iconst (v := 1) hx hb dX10_isVerb_47 (by decide) ?_
    refine lv_goto (tgt := 52) hx hb dX10_isVerb_48 (by decide) ?_
    cases h
    rw [hQQ]
    exact gw_zret hx hb hr hlocks (by decide) hP hD hS dX10_isVerb_52
  · have h := if_t hc h
    refine lv_iload_n hx hb dX10_isVerb_11 rfl (lv_at hl 0 rfl) ?_
    refine lv_bipush (v := 43) hx hb dX10_isVerb_12 (by decide) ?_
    refine lv_icmp_eq (tgt := 47) hx hb dX10_isVerb_14 (by decide) (fun hc => ?_) (fun hc => ?_)
    · have h := if_t hc h
      refine lv_iconst (v := 1) hx hb dX10_isVerb_47 (by decide) ?_
      refine lv_goto (tgt := 52) hx hb dX10_isVerb_48 (by decide) ?_
      cases h
      rw [hQQ]
      exact gw_zret hx hb hr hlocks (by decide) hP hD hS dX10_isVerb_52
    · have h := if_f hc h
      refine lv_iload_n hx hb dX10_isVerb_17 rfl (lv_at hl 0 rfl) ?_
      refine lv_bipush (v := 61) hx hb dX10_isVerb_18 (by decide) ?_
      refine lv_icmp_eq (tgt := 47) hx hb dX10_isVerb_20 (by decide) (fun hc => ?_) (fun hc => ?_)
      · have h := if_t hc h
        refine lv_iconst (v := 1) hx hb dX10_isVerb_47 (by decide) ?_
        refine lv_goto (tgt := 52) hx hb dX10_isVerb_48 (by decide) ?_
        cases h
        rw [hQQ]
        exact gw_zret hx hb hr hlocks (by decide) hP hD hS dX10_isVerb_52
      · have h := if_f hc h
        refine lv_iload_n hx hb dX10_isVerb_23 rfl (lv_at hl 0 rfl) ?_
        refine lv_bipush (v := 47) hx hb dX10_isVerb_24 (by decide) ?_
        refine lv_icmp_eq (tgt := 47) hx hb dX10_isVerb_26 (by decide) (fun hc => ?_) (fun hc => ?_)
        · have h := if_t hc h
          refine lv_iconst (v := 1) hx hb dX10_isVerb_47 (by decide) ?_
          refine lv_goto (tgt := 52) hx hb dX10_isVerb_48 (by decide) ?_
          cases h
          rw [hQQ]
          exact gw_zret hx hb hr hlocks (by decide) hP hD hS dX10_isVerb_52
        · have h := if_f hc h
          refine lv_iload_n hx hb dX10_isVerb_29 rfl (lv_at hl 0 rfl) ?_
          refine lv_bipush (v := 62) hx hb dX10_isVerb_30 (by decide) ?_
          refine lv_icmp_eq (tgt := 47) hx hb dX10_isVerb_32 (by decide) (fun hc => ?_) (fun hc => ?_)
          · have h := if_t hc h
            refine lv_iconst (v := 1) hx hb dX10_isVerb_47 (by decide) ?_
            refine lv_goto (tgt := 52) hx hb dX10_isVerb_48 (by decide) ?_
            cases h
            rw [hQQ]
            exact gw_zret hx hb hr hlocks (by decide) hP hD hS dX10_isVerb_52
          · have h := if_f hc h
            refine lv_iload_n hx hb dX10_isVerb_35 rfl (lv_at hl 0 rfl) ?_
            refine lv_bipush (v := 94) hx hb dX10_isVerb_36 (by decide) ?_
            refine lv_icmp_eq (tgt := 47) hx hb dX10_isVerb_38 (by decide) (fun hc => ?_) (fun hc => ?_)
            · have h := if_t hc h
              refine lv_iconst (v := 1) hx hb dX10_isVerb_47 (by decide) ?_
              refine lv_goto (tgt := 52) hx hb dX10_isVerb_48 (by decide) ?_
              cases h
              rw [hQQ]
              exact gw_zret hx hb hr hlocks (by decide) hP hD hS dX10_isVerb_52
            · have h := if_f hc h
              refine lv_iload_n hx hb dX10_isVerb_41 rfl (lv_at hl 0 rfl) ?_
              refine lv_bipush (v := 35) hx hb dX10_isVerb_42 (by decide) ?_
              refine lv_icmp_ne (tgt := 51) hx hb dX10_isVerb_44 (by decide) (fun hc => ?_) (fun hc => ?_)
              · have h := if_f hc h
                refine lv_iconst (v := 0) hx hb dX10_isVerb_51 (by decide) ?_
                cases h
                rw [hQQ]
                exact gw_zret hx hb hr hlocks (by decide) hP hD hS dX10_isVerb_52
              · have h := if_t hc h
                refine lv_iconst (v := 1) hx hb dX10_isVerb_47 (by decide) ?_
                refine lv_goto (tgt := 52) hx hb dX10_isVerb_48 (by decide) ?_
                cases h
                rw [hQQ]
                exact gw_zret hx hb hr hlocks (by decide) hP hD hS dX10_isVerb_52
theorem hdS_X10_isVerb : yX10_isVerb.cls ≠ "java/lang/invoke/MethodHandle" ∧ yX10_isVerb.cls ≠ "java/lang/invoke/VarHandle" ∧ (parseMethodDescriptor yX10_isVerb.desc).map (fun d => d.parameters.length) = some 1 := by decide +kernel
