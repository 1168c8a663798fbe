def B_X10_faultOf_88 (v_signs : Int32) (v_pad : (Nat → Int32)) (rec4 : Int32 → Int32 → Option (Int32)) (x1 : Int32) (x2 : Int32) (x3 : Int32) : Option (Int32) := (if x1 = (1 : Int32) then (if x3 = (62 : Int32) then (rec4 (2 : Int32) (x2 + (1 : Int32))) else (rec4 (0 : Int32) (x2 + (1 : Int32)))) else (rec4 (0 : Int32) (x2 + (1 : Int32))))
def B_X10_faultOf_66 (v_signs : Int32) (v_pad : (Nat → Int32)) (rec4 : Int32 → Int32 → Option (Int32)) (x1 : Int32) (x2 : Int32) (x3 : Int32) (x4 : Int32) (s0 : Int32) : Option (Int32) := (if s0 = (0 : Int32) then (some x2) else (if x1 = (0 : Int32) then (if x4 = (0 : Int32) then (B_X10_faultOf_88 v_signs v_pad rec4 x1 x2 x3) else (rec4 (1 : Int32) (x2 + (1 : Int32)))) else (B_X10_faultOf_88 v_signs v_pad rec4 x1 x2 x3)))
def B_X10_faultOf_44 (v_signs : Int32) (v_pad : (Nat → Int32)) (rec4 : Int32 → Int32 → Option (Int32)) (x1 : Int32) (x2 : Int32) (x3 : Int32) (x4 : Int32) : Option (Int32) := (B_X10_faultOf_66 v_signs v_pad rec4 x1 x2 x3 x4 (1 : Int32))
def L_X10_faultOf_4 (v_signs : Int32) (v_pad : (Nat → Int32)) : Nat → Int32 → Int32 → Option (Int32)
  | 0, _, _ => none
  | n + 1, x1, x2 => (if v_signs ≤ x2 then (if x1 = (0 : Int32) then (some (-6 : Int32)) else (some v_signs)) else (gin x2 60 (bd1 (f_X10_in (v_pad (Int32.toNatClampNeg x2)) (65 : Int32) (72 : Int32)) (fun r24 => (if x1 = (0 : Int32) then (if r24 = (0 : Int32) then (if (v_pad (Int32.toNatClampNeg x2)) = (46 : Int32) then (B_X10_faultOf_44 v_signs v_pad (L_X10_faultOf_4 v_signs v_pad n) x1 x2 (v_pad (Int32.toNatClampNeg x2)) r24) else (B_X10_faultOf_66 v_signs v_pad (L_X10_faultOf_4 v_signs v_pad n) x1 x2 (v_pad (Int32.toNatClampNeg x2)) r24 (0 : Int32))) else (B_X10_faultOf_44 v_signs v_pad (L_X10_faultOf_4 v_signs v_pad n) x1 x2 (v_pad (Int32.toNatClampNeg x2)) r24)) else (if x1 = (1 : Int32) then (bd1 (f_X10_isVerb (v_pad (Int32.toNatClampNeg x2))) (fun r58 => (B_X10_faultOf_66 v_signs v_pad (L_X10_faultOf_4 v_signs v_pad n) x1 x2 (v_pad (Int32.toNatClampNeg x2)) r24 r58))) else (B_X10_faultOf_66 v_signs v_pad (L_X10_faultOf_4 v_signs v_pad n) x1 x2 (v_pad (Int32.toNatClampNeg x2)) r24 r24)))))))
def f_X10_faultOf (v_signs : Int32) (v_pad : (Nat → Int32)) : Option (Int32) := (L_X10_faultOf_4 v_signs v_pad FU (0 : Int32) (0 : Int32))
abbrev rm_X10_faultOf : Room := { frames := 2, cells := 0, slots := 0, locals := 42 }
set_option maxHeartbeats 4000000 in
set_option maxRecDepth 100000 in
theorem C_X10_faultOf (l : Launch) (D : va_G) (cI cJ cZ : ClassId) (sz : Nat) (qt qt_book qt_now qt_flakes qt_leaks qt_ranks qt_sight qt_pad qt_gets qt_counts qt_worth qt_ways qt_image qt_isKept : Nat) (v_music : Int32) (v_sights : Int32) (v_signs : Int32) (v_pad : (Nat → Int32)) (v_freeAt : Int32) (v_freeWho : Int32) (v_reason : Int32) (v_acts : Int32) (r : Int32) (hf : f_X10_faultOf v_signs v_pad = some r) : Met l yX10_faultOf wsX10_faultOf rm_X10_faultOf (PR D cI cJ cZ [(qt, .inr (9, [.ref qt_book, .ref qt_now, .ref qt_flakes, .ref qt_leaks, .int v_music, .ref qt_ranks, .int v_sights, .ref qt_sight, .int v_signs, .ref qt_pad, .int v_freeAt, .int v_freeWho, .int v_reason, .int v_acts, .ref qt_gets, .ref qt_counts, .ref qt_worth, .ref qt_ways, .ref qt_image, .ref qt_isKept])), (qt_pad, .inl (cI, 60, .inl v_pad))] sz [.ref qt]) (QI D (va_A [(qt, .inr (9, [.ref qt_book, .ref qt_now, .ref qt_flakes, .ref qt_leaks, .int v_music, .ref qt_ranks, .int v_sights, .ref qt_sight, .int v_signs, .ref qt_pad, .int v_freeAt, .int v_freeWho, .int v_reason, .int v_acts, .ref qt_gets, .ref qt_counts, .ref qt_worth, .ref qt_ways, .ref qt_image, .ref qt_isKept])), (qt_pad, .inl (cI, 60, .inl v_pad))] sz) r [(qt, .inr (9, [.ref qt_book, .ref qt_now, .ref qt_flakes, .ref qt_leaks, .int v_music, .ref qt_ranks, .int v_sights, .ref qt_sight, .int v_signs, .ref qt_pad, .int v_freeAt, .int v_freeWho, .int v_reason, .int v_acts, .ref qt_gets, .ref qt_counts, .ref qt_worth, .ref qt_ways, .ref qt_image, .ref qt_isKept])), (qt_pad, .inl (cI, 60, .inl v_pad))]) 0 0 (va_A [(qt, .inr (9, [.ref qt_book, .ref qt_now, .ref qt_flakes, .ref qt_leaks, .int v_music, .ref qt_ranks, .int v_sights, .ref qt_sight, .int v_signs, .ref qt_pad, .int v_freeAt, .int v_freeWho, .int v_reason, .int v_acts, .ref qt_gets, .ref qt_counts, .ref qt_worth, .ref qt_ways, .ref qt_image, .ref qt_isKept])), (qt_pad, .inl (cI, 60, .inl v_pad))] sz) := by
  refine Met.ofW (cc := cX10_faultOf) (maxL := 6) (ret := (some .int)) (by decide) rfl ?_
  intro p e s m args below meth c s₁ B hml hv
  obtain ⟨hav, hsz, hP, hD0, hE⟩ := hv
  have hx := B.exec
  have hb := B.bytes
  have hr := B.returns
  have hts := atoms_spec (ws := wsX10_faultOf) B.pre
  have hown : s.vm.findClass RX10 = some m.cls := findClass_of_methodNamed B.named
  have hlocks := B.notSynchronized
  subst hsz
  have hD := hD0.self (sz := s.heap.size)
  generalize hAe : va_A [(qt, .inr (9, [.ref qt_book, .ref qt_now, .ref qt_flakes, .ref qt_leaks, .int v_music, .ref qt_ranks, .int v_sights, .ref qt_sight, .int v_signs, .ref qt_pad, .int v_freeAt, .int v_freeWho, .int v_reason, .int v_acts, .ref qt_gets, .ref qt_counts, .ref qt_worth, .ref qt_ways, .ref qt_image, .ref qt_isKept])), (qt_pad, .inl (cI, 60, .inl v_pad))] s.heap.size = A at hD ⊢
  have hA : ∀ q : Nat, s.heap.size ≤ q → A q := fun q h => by rw [← hAe]; exact Or.inr h
  have hS : va_S A s.heap s.heap [] := va_S.rf
  have hl := lv_entry ([.ref qt]) (n := 6) (Nat.le_of_ble_eq_true rfl)
  have hfr : entryFrame m args 6 = entryFrame m ([.ref qt] : List Value).toArray 6 := by rw [hav]
  rw [hfr, lg_entry_eq]
  generalize (lg_sl ([.ref qt]) ++ List.replicate (6 - (lg_sl ([.ref qt])).length) Slot.unset).toArray = ls at hl ⊢
  have hl : lv_has ls 6 [(0, .ref qt)] := hl
  obtain ⟨QQ, hQQ⟩ : ∃ QQ, QQ = MQ below (QI D A r [(qt, .inr (9, [.ref qt_book, .ref qt_now, .ref qt_flakes, .ref qt_leaks, .int v_music, .ref qt_ranks, .int v_sights, .ref qt_sight, .int v_signs, .ref qt_pad, .int v_freeAt, .int v_freeWho, .int v_reason, .int v_acts, .ref qt_gets, .ref qt_counts, .ref qt_worth, .ref qt_ways, .ref qt_image, .ref qt_isKept])), (qt_pad, .inl (cI, 60, .inl v_pad))]) args s 0 0 A := ⟨_, rfl⟩
  show W p l e rm_X10_faultOf s m args below meth c s.heap [] 0 0 _ _
  rw [← hQQ]
  have hL4 : ∀ (n4 : Nat), ∀ (x1 : Int32) (x2 : Int32) (H : Heap) (locs : List Loc) (ls : Array Slot), va_P D vwCl [(qt, .inr (9, [.ref qt_book, .ref qt_now, .ref qt_flakes, .ref qt_leaks, .int v_music, .ref qt_ranks, .int v_sights, .ref qt_sight, .int v_signs, .ref qt_pad, .int v_freeAt, .int v_freeWho, .int v_reason, .int v_acts, .ref qt_gets, .ref qt_counts, .ref qt_worth, .ref qt_ways, .ref qt_image, .ref qt_isKept])), (qt_pad, .inl (cI, 60, .inl v_pad))] H → va_D A [(qt, .inr (9, [.ref qt_book, .ref qt_now, .ref qt_flakes, .ref qt_leaks, .int v_music, .ref qt_ranks, .int v_sights, .ref qt_sight, .int v_signs, .ref qt_pad, .int v_freeAt, .int v_freeWho, .int v_reason, .int v_acts, .ref qt_gets, .ref qt_counts, .ref qt_worth, .ref qt_ways, .ref qt_image, .ref qt_isKept])), (qt_pad, .inl (cI, 60, .inl v_pad))] → va_S A s.heap H locs → lv_has ls 6 [(0, .ref qt), (1, .int x1), (2, .int x2)] → L_X10_faultOf_4 v_signs v_pad n4 x1 x2 = some r → W p l e rm_X10_faultOf s m args below meth c H locs 0 0 QQ (F0 m 4 ls []) := by
    intro n4
    induction n4 with
    | zero =>
      intro x1 x2 H locs ls hP hD hS hl h
      have h : none = some r := h
      cases h
    | succ n4 ih4 =>
      have hB88 : ∀ (x1 : Int32) (x2 : Int32) (x3 : Int32) (H : Heap) (locs : List Loc) (ls : Array Slot), va_P D vwCl [(qt, .inr (9, [.ref qt_book, .ref qt_now, .ref qt_flakes, .ref qt_leaks, .int v_music, .ref qt_ranks, .int v_sights, .ref qt_sight, .int v_signs, .ref qt_pad, .int v_freeAt, .int v_freeWho, .int v_reason, .int v_acts, .ref qt_gets, .ref qt_counts, .ref qt_worth, .ref qt_ways, .ref qt_image, .ref qt_isKept])), (qt_pad, .inl (cI, 60, .inl v_pad))] H → va_D A [(qt, .inr (9, [.ref qt_book, .ref qt_now, .ref qt_flakes, .ref qt_leaks, .int v_music, .ref qt_ranks, .int v_sights, .ref qt_sight, .int v_signs, .ref qt_pad, .int v_freeAt, .int v_freeWho, .int v_reason, .int v_acts, .ref qt_gets, .ref qt_counts, .ref qt_worth, .ref qt_ways, .ref qt_image, .ref qt_isKept])), (qt_pad, .inl (cI, 60, .inl v_pad))] → va_S A s.heap H locs → lv_has ls 6 [(0, .ref qt), (1, .int x1), (2, .int x2), (3, .int x3)] → B_X10_faultOf_88 v_signs v_pad (L_X10_faultOf_4 v_signs v_pad n4) x1 x2 x3 = some r → W p l e rm_X10_faultOf s m args below meth c H locs 0 0 QQ (F0 m 88 ls []) := by
        intro x1 x2 x3 H locs ls hP hD hS hl h
        unfold B_X10_faultOf_88 at h
        refine lv_iload_n hx hb dX10_faultOf_88 rfl (lv_at hl 1 rfl) ?_
        refine lv_iconst (v := 1) hx hb dX10_faultOf_89 (by decide) ?_
        refine lv_icmp_ne (tgt := 103) hx hb dX10_faultOf_90 (by decide) (fun hc => ?_) (fun hc => ?_)
        · have h := if_f hc h
          refine lv_iconst (v := 0) hx hb dX10_faultOf_103 (by decide) ?_
          refine lv_istore_n (lv' := [(1, .int (0 : Int32)), (0, .ref qt), (2, .int x2), (3, .int x3)]) hx hb dX10_faultOf_104 rfl hl (by decide) rfl (fun ls hl => ?_)
          refine lv_iinc (v := (x2 + (1 : Int32))) (lv' := [(2, .int (x2 + (1 : Int32))), (1, .int (0 : Int32)), (0, .ref qt), (3, .int x3)]) hx hb dX10_faultOf_105 hl (k := 2) rfl rfl (by decide) rfl (fun ls hl => ?_)
          refine lv_goto (tgt := 4) hx hb dX10_faultOf_108 (by decide) ?_
          exact ih4 (0 : Int32) (x2 + (1 : Int32)) H locs ls hP hD hS (lv_sub hl [2, 1, 0] rfl) h
        · have h := if_t hc h
          refine lv_iload_n hx hb dX10_faultOf_93 rfl (lv_at hl 3 rfl) ?_
          refine lv_bipush (v := 62) hx hb dX10_faultOf_94 (by decide) ?_
          refine lv_icmp_ne (tgt := 103) hx hb dX10_faultOf_96 (by decide) (fun hc => ?_) (fun hc => ?_)
          · have h := if_f hc h
            refine lv_iconst (v := 0) hx hb dX10_faultOf_103 (by decide) ?_
            refine lv_istore_n (lv' := [(1, .int (0 : Int32)), (0, .ref qt), (2, .int x2), (3, .int x3)]) hx hb dX10_faultOf_104 rfl hl (by decide) rfl (fun ls hl => ?_)
            refine lv_iinc (v := (x2 + (1 : Int32))) (lv' := [(2, .int (x2 + (1 : Int32))), (1, .int (0 : Int32)), (0, .ref qt), (3, .int x3)]) hx hb dX10_faultOf_105 hl (k := 2) rfl rfl (by decide) rfl (fun ls hl => ?_)
            refine lv_goto (tgt := 4) hx hb dX10_faultOf_108 (by decide) ?_
            exact ih4 (0 : Int32) (x2 + (1 : Int32)) H locs ls hP hD hS (lv_sub hl [2, 1, 0] rfl) h
          · have h := if_t hc h
            refine lv_iconst (v := 2) hx hb dX10_faultOf_99 (by decide) ?_
            refine lv_goto (tgt := 104) hx hb dX10_faultOf_100 (by decide) ?_
            refine lv_istore_n (lv' := [(1, .int (2 : Int32)), (0, .ref qt), (2, .int x2), (3, .int x3)]) hx hb dX10_faultOf_104 rfl hl (by decide) rfl (fun ls hl => ?_)
            refine lv_iinc (v := (x2 + (1 : Int32))) (lv' := [(2, .int (x2 + (1 : Int32))), (1, .int (2 : Int32)), (0, .ref qt), (3, .int x3)]) hx hb dX10_faultOf_105 hl (k := 2) rfl rfl (by decide) rfl (fun ls hl => ?_)
            refine lv_goto (tgt := 4) hx hb dX10_faultOf_108 (by decide) ?_
            exact ih4 (2 : Int32) (x2 + (1 : Int32)) H locs ls hP hD hS (lv_sub hl [2, 1, 0] rfl) h
      have hB66 : ∀ (x1 : Int32) (x2 : Int32) (x3 : Int32) (x4 : Int32) (s0 : Int32) (H : Heap) (locs : List Loc) (ls : Array Slot), va_P D vwCl [(qt, .inr (9, [.ref qt_book, .ref qt_now, .ref qt_flakes, .ref qt_leaks, .int v_music, .ref qt_ranks, .int v_sights, .ref qt_sight, .int v_signs, .ref qt_pad, .int v_freeAt, .int v_freeWho, .int v_reason, .int v_acts, .ref qt_gets, .ref qt_counts, .ref qt_worth, .ref qt_ways, .ref qt_image, .ref qt_isKept])), (qt_pad, .inl (cI, 60, .inl v_pad))] H → va_D A [(qt, .inr (9, [.ref qt_book, .ref qt_now, .ref qt_flakes, .ref qt_leaks, .int v_music, .ref qt_ranks, .int v_sights, .ref qt_sight, .int v_signs, .ref qt_pad, .int v_freeAt, .int v_freeWho, .int v_reason, .int v_acts, .ref qt_gets, .ref qt_counts, .ref qt_worth, .ref qt_ways, .ref qt_image, .ref qt_isKept])), (qt_pad, .inl (cI, 60, .inl v_pad))] → va_S A s.heap H locs → lv_has ls 6 [(0, .ref qt), (1, .int x1), (2, .int x2), (3, .int x3), (4, .int x4)] → B_X10_faultOf_66 v_signs v_pad (L_X10_faultOf_4 v_signs v_pad n4) x1 x2 x3 x4 s0 = some r → W p l e rm_X10_faultOf s m args below meth c H locs 0 0 QQ (F0 m 66 ls [.int s0]) := by
        intro x1 x2 x3 x4 s0 H locs ls hP hD hS hl h
        unfold B_X10_faultOf_66 at h
        refine lv_istore (lv' := [(5, .int s0), (0, .ref qt), (1, .int x1), (2, .int x2), (3, .int x3), (4, .int x4)]) hx hb dX10_faultOf_66 hl (by decide) rfl (fun ls hl => ?_)
        refine lv_iload hx hb dX10_faultOf_68 (lv_at hl 0 rfl) ?_
        refine lv_if_ne (tgt := 75) hx hb dX10_faultOf_70 (by decide) (fun hc => ?_) (fun hc => ?_)
        · have h := if_f hc h
          refine lv_iload_n hx hb dX10_faultOf_75 rfl (lv_at hl 2 rfl) ?_
          refine lv_if_ne (tgt := 88) hx hb dX10_faultOf_76 (by decide) (fun hc => ?_) (fun hc => ?_)
          · have h := if_f hc h
            exact hB88 x1 x2 x3 H locs ls hP hD hS (lv_sub hl [1, 2, 3, 4] rfl) h
          · have h := if_t hc h
            refine lv_iload hx hb dX10_faultOf_79 (lv_at hl 5 rfl) ?_
            refine lv_if_eq (tgt := 88) hx hb dX10_faultOf_81 (by decide) (fun hc => ?_) (fun hc => ?_)
            · have h := if_t hc h
              exact hB88 x1 x2 x3 H locs ls hP hD hS (lv_sub hl [1, 2, 3, 4] rfl) h
            · have h := if_f hc h
              refine lv_iconst (v := 1) hx hb dX10_faultOf_84 (by decide) ?_
              refine lv_goto (tgt := 104) hx hb dX10_faultOf_85 (by decide) ?_
              refine lv_istore_n (lv' := [(1, .int (1 : Int32)), (5, .int s0), (0, .ref qt), (2, .int x2), (3, .int x3), (4, .int x4)]) hx hb dX10_faultOf_104 rfl hl (by decide) rfl (fun ls hl => ?_)
              refine lv_iinc (v := (x2 + (1 : Int32))) (lv' := [(2, .int (x2 + (1 : Int32))), (1, .int (1 : Int32)), (5, .int s0), (0, .ref qt), (3, .int x3), (4, .int x4)]) hx hb dX10_faultOf_105 hl (k := 3) rfl rfl (by decide) rfl (fun ls hl => ?_)
              refine lv_goto (tgt := 4) hx hb dX10_faultOf_108 (by decide) ?_
              exact ih4 (1 : Int32) (x2 + (1 : Int32)) H locs ls hP hD hS (lv_sub hl [3, 1, 0] rfl) h
        · have h := if_t hc h
          refine lv_iload_n hx hb dX10_faultOf_73 rfl (lv_at hl 3 rfl) ?_
          cases h
          rw [hQQ]
          exact gw_iret hx hb hr hlocks hP hD hS dX10_faultOf_74
      have hB44 : ∀ (x1 : Int32) (x2 : Int32) (x3 : Int32) (x4 : Int32) (H : Heap) (locs : List Loc) (ls : Array Slot), va_P D vwCl [(qt, .inr (9, [.ref qt_book, .ref qt_now, .ref qt_flakes, .ref qt_leaks, .int v_music, .ref qt_ranks, .int v_sights, .ref qt_sight, .int v_signs, .ref qt_pad, .int v_freeAt, .int v_freeWho, .int v_reason, .int v_acts, .ref qt_gets, .ref qt_counts, .ref qt_worth, .ref qt_ways, .ref qt_image, .ref qt_isKept])), (qt_pad, .inl (cI, 60, .inl v_pad))] H → va_D A [(qt, .inr (9, [.ref qt_book, .ref qt_now, .ref qt_flakes, .ref qt_leaks, .int v_music, .ref qt_ranks, .int v_sights, .ref qt_sight, .int v_signs, .ref qt_pad, .int v_freeAt, .int v_freeWho, .int v_reason, .int v_acts, .ref qt_gets, .ref qt_counts, .ref qt_worth, .ref qt_ways, .ref qt_image, .ref qt_isKept])), (qt_pad, .inl (cI, 60, .inl v_pad))] → va_S A s.heap H locs → lv_has ls 6 [(0, .ref qt), (1, .int x1), (2, .int x2), (3, .int x3), (4, .int x4)] → B_X10_faultOf_44 v_signs v_pad (L_X10_faultOf_4 v_signs v_pad n4) x1 x2 x3 x4 = some r → W p l e rm_X10_faultOf s m args below meth c H locs 0 0 QQ (F0 m 44 ls []) := by
        intro x1 x2 x3 x4 H locs ls hP hD hS hl h
        unfold B_X10_faultOf_44 at h
        refine lv_iconst (v := 1) hx hb dX10_faultOf_44 (by decide) ?_
        refine lv_goto (tgt := 66) hx hb dX10_faultOf_45 (by decide) ?_
        exact hB66 x1 x2 x3 x4 (1 : Int32) H locs ls hP hD hS hl h
      intro x1 x2 H locs ls hP hD hS hl h
      rw [L_X10_faultOf_4.eq_2] at h
      refine lv_iload_n hx hb dX10_faultOf_4 rfl (lv_at hl 2 rfl) ?_
      refine lv_aload_n hx hb dX10_faultOf_5 rfl (lv_at hl 0 rfl) ?_
      refine va_get (D := D) (ci := 9) (C := RX10) (T := TX10) (N := 20) hx hb hts (fun _ hw => (List.mem_cons_of_mem _ (List.mem_append_right _ hw))) hown hE.1 hP 0 rfl rfl 8 (by decide) (hts (.fieldLink RX10 77 "GlobeCrownModel" "signs" "I") (List.mem_cons_of_mem _ (List.mem_append_left _ (List.mem_of_getElem? (i := 0) rfl)))) (fun _ h9 => h9) rfl dX10_faultOf_6 ?_
      refine lv_icmp_ge (tgt := 111) hx hb dX10_faultOf_9 (by decide) (fun hc => ?_) (fun hc => ?_)
      · have h := if_t hc h
        refine lv_iload_n hx hb dX10_faultOf_111 rfl (lv_at hl 1 rfl) ?_
        refine lv_if_ne (tgt := 120) hx hb dX10_faultOf_112 (by decide) (fun hc => ?_) (fun hc => ?_)
        · have h := if_f hc h
          refine lv_aload_n hx hb dX10_faultOf_120 rfl (lv_at hl 0 rfl) ?_
          refine va_get (D := D) (ci := 9) (C := RX10) (T := TX10) (N := 20) hx hb hts (fun _ hw => (List.mem_cons_of_mem _ (List.mem_append_right _ hw))) hown hE.1 hP 0 rfl rfl 8 (by decide) (hts (.fieldLink RX10 77 "GlobeCrownModel" "signs" "I") (List.mem_cons_of_mem _ (List.mem_append_left _ (List.mem_of_getElem? (i := 0) rfl)))) (fun _ h9 => h9) rfl dX10_faultOf_121 ?_
          cases h
          rw [hQQ]
          exact gw_iret hx hb hr hlocks hP hD hS dX10_faultOf_124
        · have h := if_t hc h
          refine lv_bipush (v := -6) hx hb dX10_faultOf_115 (by decide) ?_
          refine lv_goto (tgt := 124) hx hb dX10_faultOf_117 (by decide) ?_
          cases h
          rw [hQQ]
          exact gw_iret hx hb hr hlocks hP hD hS dX10_faultOf_124
      · have h := if_f hc h
        refine lv_aload_n hx hb dX10_faultOf_12 rfl (lv_at hl 0 rfl) ?_
        refine va_get (D := D) (ci := 9) (C := RX10) (T := TX10) (N := 20) hx hb hts (fun _ hw => (List.mem_cons_of_mem _ (List.mem_append_right _ hw))) hown hE.1 hP 0 rfl rfl 9 (by decide) (hts (.fieldLink RX10 28 "GlobeCrownModel" "pad" "[I") (List.mem_cons_of_mem _ (List.mem_append_left _ (List.mem_of_getElem? (i := 1) rfl)))) (fun _ h9 => h9) rfl dX10_faultOf_13 ?_
        refine lv_iload_n hx hb dX10_faultOf_16 rfl (lv_at hl 2 rfl) ?_
        obtain ⟨hg, h⟩ := gin_some h
        refine va_iald hx hb hE.1 hP 1 0 rfl rfl hg dX10_faultOf_17 ?_
        refine lv_istore_n (lv' := [(3, .int (v_pad (Int32.toNatClampNeg x2))), (0, .ref qt), (1, .int x1), (2, .int x2)]) hx hb dX10_faultOf_18 rfl hl (by decide) rfl (fun ls hl => ?_)
        refine lv_iload_n hx hb dX10_faultOf_19 rfl (lv_at hl 0 rfl) ?_
        refine lv_bipush (v := 65) hx hb dX10_faultOf_20 (by decide) ?_
        refine lv_bipush (v := 72) hx hb dX10_faultOf_22 (by decide) ?_
        obtain ⟨r24, hc24, h⟩ := bd1_some h
        refine gw_ci (wr := [(qt, .inr (9, [.ref qt_book, .ref qt_now, .ref qt_flakes, .ref qt_leaks, .int v_music, .ref qt_ranks, .int v_sights, .ref qt_sight, .int v_signs, .ref qt_pad, .int v_freeAt, .int v_freeWho, .int v_reason, .int v_acts, .ref qt_gets, .ref qt_counts, .ref qt_worth, .ref qt_ways, .ref qt_image, .ref qt_isKept])), (qt_pad, .inl (cI, 60, .inl v_pad))]) (w2 := [(qt, .inr (9, [.ref qt_book, .ref qt_now, .ref qt_flakes, .ref qt_leaks, .int v_music, .ref qt_ranks, .int v_sights, .ref qt_sight, .int v_signs, .ref qt_pad, .int v_freeAt, .int v_freeWho, .int v_reason, .int v_acts, .ref qt_gets, .ref qt_counts, .ref qt_worth, .ref qt_ways, .ref qt_image, .ref qt_isKept])), (qt_pad, .inl (cI, 60, .inl v_pad))]) (gw_rS (n := 3) ⟨hx, hb, hml, hown, hts⟩ (C_X10_in l D cI cJ cZ H.size (v_pad (Int32.toNatClampNeg x2)) (65 : Int32) (72 : Int32) r24 hc24) gX10_faultOf_X10_in rfl rfl rfl hdS_X10_in ⟨Nat.le_of_ble_eq_true rfl, Nat.le_of_ble_eq_true rfl⟩ hE (hP.sub [] rfl) (hD.sub [] (by decide) rfl) rfl hl.1 (rest := []) rfl (Nat.le_of_ble_eq_true rfl) dX10_faultOf_24 ⟨Nat.zero_le _, Nat.zero_le _⟩) hP hD hS hA [] [0, 1] rfl rfl rfl (by decide) rfl (fun H locs hP hD hS => ?_)
        refine lv_istore (lv' := [(4, .int r24), (3, .int (v_pad (Int32.toNatClampNeg x2))), (0, .ref qt), (1, .int x1), (2, .int x2)]) hx hb dX10_faultOf_27 hl (by decide) rfl (fun ls hl => ?_)
        refine lv_iload_n hx hb dX10_faultOf_29 rfl (lv_at hl 3 rfl) ?_
        refine lv_if_ne (tgt := 52) hx hb dX10_faultOf_30 (by decide) (fun hc => ?_) (fun hc => ?_)
        · have h := if_f hc h
          refine lv_iload_n hx hb dX10_faultOf_52 rfl (lv_at hl 3 rfl) ?_
          refine lv_iconst (v := 1) hx hb dX10_faultOf_53 (by decide) ?_
          refine lv_icmp_ne (tgt := 64) hx hb dX10_faultOf_54 (by decide) (fun hc => ?_) (fun hc => ?_)
          · have h := if_f hc h
            refine lv_iload hx hb dX10_faultOf_64 (lv_at hl 0 rfl) ?_
            exact hB66 x1 x2 (v_pad (Int32.toNatClampNeg x2)) r24 r24 H locs ls hP hD hS (lv_sub hl [2, 3, 4, 1, 0] rfl) h
          · have h := if_t hc h
            refine lv_iload_n hx hb dX10_faultOf_57 rfl (lv_at hl 1 rfl) ?_
            obtain ⟨r58, hc58, h⟩ := bd1_some h
            refine gw_ci (wr := [(qt, .inr (9, [.ref qt_book, .ref qt_now, .ref qt_flakes, .ref qt_leaks, .int v_music, .ref qt_ranks, .int v_sights, .ref qt_sight, .int v_signs, .ref qt_pad, .int v_freeAt, .int v_freeWho, .int v_reason, .int v_acts, .ref qt_gets, .ref qt_counts, .ref qt_worth, .ref qt_ways, .ref qt_image, .ref qt_isKept])), (qt_pad, .inl (cI, 60, .inl v_pad))]) (w2 := [(qt, .inr (9, [.ref qt_book, .ref qt_now, .ref qt_flakes, .ref qt_leaks, .int v_music, .ref qt_ranks, .int v_sights, .ref qt_sight, .int v_signs, .ref qt_pad, .int v_freeAt, .int v_freeWho, .int v_reason, .int v_acts, .ref qt_gets, .ref qt_counts, .ref qt_worth, .ref qt_ways, .ref qt_image, .ref qt_isKept])), (qt_pad, .inl (cI, 60, .inl v_pad))]) (gw_rS (n := 1) ⟨hx, hb, hml, hown, hts⟩ (C_X10_isVerb l D cI cJ cZ H.size (v_pad (Int32.toNatClampNeg x2)) r58 hc58) gX10_faultOf_X10_isVerb rfl rfl rfl hdS_X10_isVerb ⟨Nat.le_of_ble_eq_true rfl, Nat.le_of_ble_eq_true rfl⟩ hE (hP.sub [] rfl) (hD.sub [] (by decide) rfl) rfl hl.1 (rest := []) rfl (Nat.le_of_ble_eq_true rfl) dX10_faultOf_58 ⟨Nat.zero_le _, Nat.zero_le _⟩) hP hD hS hA [] [0, 1] rfl rfl rfl (by decide) rfl (fun H locs hP hD hS => ?_)
            refine lv_goto (tgt := 66) hx hb dX10_faultOf_61 (by decide) ?_
            exact hB66 x1 x2 (v_pad (Int32.toNatClampNeg x2)) r24 r58 H locs ls hP hD hS (lv_sub hl [2, 3, 4, 1, 0] rfl) h
        · have h := if_t hc h
          refine lv_iload hx hb dX10_faultOf_33 (lv_at hl 0 rfl) ?_
          refine lv_if_ne (tgt := 44) hx hb dX10_faultOf_35 (by decide) (fun hc => ?_) (fun hc => ?_)
          · have h := if_f hc h
            exact hB44 x1 x2 (v_pad (Int32.toNatClampNeg x2)) r24 H locs ls hP hD hS (lv_sub hl [2, 3, 4, 1, 0] rfl) h
          · have h := if_t hc h
            refine lv_iload_n hx hb dX10_faultOf_38 rfl (lv_at hl 1 rfl) ?_
            refine lv_bipush (v := 46) hx hb dX10_faultOf_39 (by decide) ?_
            refine lv_icmp_ne (tgt := 48) hx hb dX10_faultOf_41 (by decide) (fun hc => ?_) (fun hc => ?_)
            · have h := if_f hc h
              refine lv_iconst (v := 0) hx hb dX10_faultOf_48 (by decide) ?_
              refine lv_goto (tgt := 66) hx hb dX10_faultOf_49 (by decide) ?_
              exact hB66 x1 x2 (v_pad (Int32.toNatClampNeg x2)) r24 (0 : Int32) H locs ls hP hD hS (lv_sub hl [2, 3, 4, 1, 0] rfl) h
            · have h := if_t hc h
              exact hB44 x1 x2 (v_pad (Int32.toNatClampNeg x2)) r24 H locs ls hP hD hS (lv_sub hl [2, 3, 4, 1, 0] rfl) h
  have h := hf
  unfold f_X10_faultOf at h
  refine gw_start hP hD hS (fun H locs hP hD hS => ?_)
  refine lv_iconst (v := 0) hx hb dX10_faultOf_0 (by decide) ?_
  refine lv_istore_n (lv' := [(1, .int (0 : Int32)), (0, .ref qt)]) hx hb dX10_faultOf_1 rfl hl (by decide) rfl (fun ls hl => ?_)
  refine lv_iconst (v := 0) hx hb dX10_faultOf_2 (by decide) ?_
  refine lv_istore_n (lv' := [(2, .int (0 : Int32)), (1, .int (0 : Int32)), (0, .ref qt)]) hx hb dX10_faultOf_3 rfl hl (by decide) rfl (fun ls hl => ?_)
  exact hL4 FU (0 : Int32) (0 : Int32) H locs ls hP hD hS (lv_sub hl [2, 1, 0] rfl) h
theorem hdV_X10_faultOf : yX10_faultOf.cls = RX10 ∧ yX10_faultOf.cls ≠ "java/lang/invoke/MethodHandle" ∧ yX10_faultOf.cls ≠ "java/lang/invoke/VarHandle" ∧ (parseMethodDescriptor yX10_faultOf.desc).map (fun d => d.parameters.length) = some 0 := by decide +kernel
def f_X10_fault (v_signs : Int32) (v_pad : (Nat → Int32)) : Option (Int32) := (bd1 (f_X10_faultOf v_signs v_pad) (fun r1 => (some r1)))
abbrev rm_X10_fault : Room := { frames := 3, cells := 0, slots := 0, locals := 67 }
set_option maxHeartbeats 4000000 in
set_option maxRecDepth 100000 in
theorem C_X10_fault (l : Launch) (D : va_G) (cI cJ cZ : ClassId) (sz : Nat) (qt qt_book qt_now qt_flakes qt_leaks qt_ranks qt_sight qt_pad qt_gets qt_counts qt_worth qt_ways qt_image qt_isKept : Nat) (v_music : Int32) (v_sights : Int32) (v_signs : Int32) (v_pad : (Nat → Int32)) (v_freeAt : Int32) (v_freeWho : Int32) (v_reason : Int32) (v_acts : Int32) (r : Int32) (hf : f_X10_fault v_signs v_pad = some r) : Met l yX10_fault wsX10_fault rm_X10_fault (PR D cI cJ cZ [(qt, .inr (9, [.ref qt_book, .ref qt_now, .ref qt_flakes, .ref qt_leaks, .int v_music, .ref qt_ranks, .int v_sights, .ref qt_sight, .int v_signs, .ref qt_pad, .int v_freeAt, .int v_freeWho, .int v_reason, .int v_acts, .ref qt_gets, .ref qt_counts, .ref qt_worth, .ref qt_ways, .ref qt_image, .ref qt_isKept])), (qt_pad, .inl (cI, 60, .inl v_pad))] sz [.ref qt]) (QI D (va_A [(qt, .inr (9, [.ref qt_book, .ref qt_now, .ref qt_flakes, .ref qt_leaks, .int v_music, .ref qt_ranks, .int v_sights, .ref qt_sight, .int v_signs, .ref qt_pad, .int v_freeAt, .int v_freeWho, .int v_reason, .int v_acts, .ref qt_gets, .ref qt_counts, .ref qt_worth, .ref qt_ways, .ref qt_image, .ref qt_isKept])), (qt_pad, .inl (cI, 60, .inl v_pad))] sz) r [(qt, .inr (9, [.ref qt_book, .ref qt_now, .ref qt_flakes, .ref qt_leaks, .int v_music, .ref qt_ranks, .int v_sights, .ref qt_sight, .int v_signs, .ref qt_pad, .int v_freeAt, .int v_freeWho, .int v_reason, .int v_acts, .ref qt_gets, .ref qt_counts, .ref qt_worth, .ref qt_ways, .ref qt_image, .ref qt_isKept])), (qt_pad, .inl (cI, 60, .inl v_pad))]) 0 0 (va_A [(qt, .inr (9, [.ref qt_book, .ref qt_now, .ref qt_flakes, .ref qt_leaks, .int v_music, .ref qt_ranks, .int v_sights, .ref qt_sight, .int v_signs, .ref qt_pad, .int v_freeAt, .int v_freeWho, .int v_reason, .int v_acts, .ref qt_gets, .ref qt_counts, .ref qt_worth, .ref qt_ways, .ref qt_image, .ref qt_isKept])), (qt_pad, .inl (cI, 60, .inl v_pad))] sz) := by
  refine Met.ofW (cc := cX10_fault) (maxL := 1) (ret := (some .int)) (by decide) rfl ?_
  intro p e s m args below meth c s₁ B hml hv
  obtain ⟨hav, hsz, hP, hD0, hE⟩ := hv
  have hx := B.exec
  have hb := B.bytes
  have hr := B.returns
  have hts := atoms_spec (ws := wsX10_fault) B.pre
  have hown : s.vm.findClass RX10 = some m.cls := findClass_of_methodNamed B.named
  have hlocks := B.notSynchronized
  subst hsz
  have hD := hD0.self (sz := s.heap.size)
  generalize hAe : va_A [(qt, .inr (9, [.ref qt_book, .ref qt_now, .ref qt_flakes, .ref qt_leaks, .int v_music, .ref qt_ranks, .int v_sights, .ref qt_sight, .int v_signs, .ref qt_pad, .int v_freeAt, .int v_freeWho, .int v_reason, .int v_acts, .ref qt_gets, .ref qt_counts, .ref qt_worth, .ref qt_ways, .ref qt_image, .ref qt_isKept])), (qt_pad, .inl (cI, 60, .inl v_pad))] s.heap.size = A at hD ⊢
  have hA : ∀ q : Nat, s.heap.size ≤ q → A q := fun q h => by rw [← hAe]; exact Or.inr h
  have hS : va_S A s.heap s.heap [] := va_S.rf
  have hl := lv_entry ([.ref qt]) (n := 1) (Nat.le_of_ble_eq_true rfl)
  have hfr : entryFrame m args 1 = entryFrame m ([.ref qt] : List Value).toArray 1 := by rw [hav]
  rw [hfr, lg_entry_eq]
  generalize (lg_sl ([.ref qt]) ++ List.replicate (1 - (lg_sl ([.ref qt])).length) Slot.unset).toArray = ls at hl ⊢
  have hl : lv_has ls 1 [(0, .ref qt)] := hl
  obtain ⟨QQ, hQQ⟩ : ∃ QQ, QQ = MQ below (QI D A r [(qt, .inr (9, [.ref qt_book, .ref qt_now, .ref qt_flakes, .ref qt_leaks, .int v_music, .ref qt_ranks, .int v_sights, .ref qt_sight, .int v_signs, .ref qt_pad, .int v_freeAt, .int v_freeWho, .int v_reason, .int v_acts, .ref qt_gets, .ref qt_counts, .ref qt_worth, .ref qt_ways, .ref qt_image, .ref qt_isKept])), (qt_pad, .inl (cI, 60, .inl v_pad))]) args s 0 0 A := ⟨_, rfl⟩
  show W p l e rm_X10_fault s m args below meth c s.heap [] 0 0 _ _
  rw [← hQQ]
  have h := hf
  unfold f_X10_fault at h
  refine gw_start hP hD hS (fun H locs hP hD hS => ?_)
  refine lv_aload_n hx hb dX10_fault_0 rfl (lv_at hl 0 rfl) ?_
  obtain ⟨r1, hc1, h⟩ := bd1_some h
  refine gw_ci (wr := []) (w2 := [(qt, .inr (9, [.ref qt_book, .ref qt_now, .ref qt_flakes, .ref qt_leaks, .int v_music, .ref qt_ranks, .int v_sights, .ref qt_sight, .int v_signs, .ref qt_pad, .int v_freeAt, .int v_freeWho, .int v_reason, .int v_acts, .ref qt_gets, .ref qt_counts, .ref qt_worth, .ref qt_ways, .ref qt_image, .ref qt_isKept])), (qt_pad, .inl (cI, 60, .inl v_pad))]) (gw_rV (n := 0) ⟨hx, hb, hml, hown, hts⟩ (C_X10_faultOf l D cI cJ cZ H.size qt qt_book qt_now qt_flakes qt_leaks qt_ranks qt_sight qt_pad qt_gets qt_counts qt_worth qt_ways qt_image qt_isKept v_music v_sights v_signs v_pad v_freeAt v_freeWho v_reason v_acts r1 hc1) gX10_fault_X10_faultOf rfl rfl rfl hdV_X10_faultOf ⟨Nat.le_of_ble_eq_true rfl, Nat.le_of_ble_eq_true rfl⟩ hE (hP.sub [0, 1] rfl) (hD.sub [0, 1] (by decide) rfl) 9 rfl 0 rfl rfl hl.1 (rest := []) rfl (Nat.le_of_ble_eq_true rfl) dX10_fault_1 ⟨Nat.zero_le _, Nat.zero_le _⟩) hP hD hS hA [0, 1] [] rfl rfl rfl (by decide) rfl (fun H locs hP hD hS => ?_)
  cases h
  rw [hQQ]
  exact gw_iret hx hb hr hlocks hP hD hS dX10_fault_4
theorem hdV_X10_fault : yX10_fault.cls = RX10 ∧ yX10_fault.cls ≠ "java/lang/invoke/MethodHandle" ∧ yX10_fault.cls ≠ "java/lang/invoke/VarHandle" ∧ (parseMethodDescriptor yX10_fault.desc).map (fun d => d.parameters.length) = some 0 := by decide +kernel
def f_X10_stands (v_now : (Nat → Int32)) (p1 : Int32) : Option (Int32) := (bd1 (f_X10_has (v_now (Int32.toNatClampNeg (40 : Int32))) p1) (fun r8 => (gbl r8 (some r8))))
abbrev rm_X10_stands : Room := { frames := 1, cells := 0, slots := 0, locals := 21 }
set_option maxHeartbeats 4000000 in
set_option maxRecDepth 100000 in
theorem C_X10_stands (l : Launch) (D : va_G) (cI cJ cZ : ClassId) (sz : Nat) (qt qt_book qt_now qt_flakes qt_leaks qt_ranks qt_sight qt_pad qt_gets qt_counts qt_worth qt_ways qt_image qt_isKept : Nat) (v_now : (Nat → Int32)) (v_music : Int32) (v_sights : Int32) (v_signs : Int32) (v_freeAt : Int32) (v_freeWho : Int32) (v_reason : Int32) (v_acts : Int32) (p1 : Int32) (r : Int32) (hf : f_X10_stands v_now p1 = some r) : Met l yX10_stands wsX10_stands rm_X10_stands (PR D cI cJ cZ [(qt, .inr (9, [.ref qt_book, .ref qt_now, .ref qt_flakes, .ref qt_leaks, .int v_music, .ref qt_ranks, .int v_sights, .ref qt_sight, .int v_signs, .ref qt_pad, .int v_freeAt, .int v_freeWho, .int v_reason, .int v_acts, .ref qt_gets, .ref qt_counts, .ref qt_worth, .ref qt_ways, .ref qt_image, .ref qt_isKept])), (qt_now, .inl (cI, 43, .inl v_now))] sz [.ref qt, .int p1]) (QI D (va_A [(qt, .inr (9, [.ref qt_book, .ref qt_now, .ref qt_flakes, .ref qt_leaks, .int v_music, .ref qt_ranks, .int v_sights, .ref qt_sight, .int v_signs, .ref qt_pad, .int v_freeAt, .int v_freeWho, .int v_reason, .int v_acts, .ref qt_gets, .ref qt_counts, .ref qt_worth, .ref qt_ways, .ref qt_image, .ref qt_isKept])), (qt_now, .inl (cI, 43, .inl v_now))] sz) r [(qt, .inr (9, [.ref qt_book, .ref qt_now, .ref qt_flakes, .ref qt_leaks, .int v_music, .ref qt_ranks, .int v_sights, .ref qt_sight, .int v_signs, .ref qt_pad, .int v_freeAt, .int v_freeWho, .int v_reason, .int v_acts, .ref qt_gets, .ref qt_counts, .ref qt_worth, .ref qt_ways, .ref qt_image, .ref qt_isKept])), (qt_now, .inl (cI, 43, .inl v_now))]) 0 0 (va_A [(qt, .inr (9, [.ref qt_book, .ref qt_now, .ref qt_flakes, .ref qt_leaks, .int v_music, .ref qt_ranks, .int v_sights, .ref qt_sight, .int v_signs, .ref qt_pad, .int v_freeAt, .int v_freeWho, .int v_reason, .int v_acts, .ref qt_gets, .ref qt_counts, .ref qt_worth, .ref qt_ways, .ref qt_image, .ref qt_isKept])), (qt_now, .inl (cI, 43, .inl v_now))] sz) := by
  refine Met.ofW (cc := cX10_stands) (maxL := 2) (ret := (some .boolean)) (by decide) rfl ?_
  intro p e s m args below meth c s₁ B hml hv
  obtain ⟨hav, hsz, hP, hD0, hE⟩ := hv
  have hx := B.exec
  have hb := B.bytes
  have hr := B.returns
  have hts := atoms_spec (ws := wsX10_stands) B.pre
  have hown : s.vm.findClass RX10 = some m.cls := findClass_of_methodNamed B.named
  have hlocks := B.notSynchronized
  subst hsz
  have hD := hD0.self (sz := s.heap.size)
  generalize hAe : va_A [(qt, .inr (9, [.ref qt_book, .ref qt_now, .ref qt_flakes, .ref qt_leaks, .int v_music, .ref qt_ranks, .int v_sights, .ref qt_sight, .int v_signs, .ref qt_pad, .int v_freeAt, .int v_freeWho, .int v_reason, .int v_acts, .ref qt_gets, .ref qt_counts, .ref qt_worth, .ref qt_ways, .ref qt_image, .ref qt_isKept])), (qt_now, .inl (cI, 43, .inl v_now))] s.heap.size = A at hD ⊢
  have hA : ∀ q : Nat, s.heap.size ≤ q → A q := fun q h => by rw [← hAe]; exact Or.inr h
  have hS : va_S A s.heap s.heap [] := va_S.rf
  have hl := lv_entry ([.ref qt, .int p1]) (n := 2) (Nat.le_of_ble_eq_true rfl)
  have hfr : entryFrame m args 2 = entryFrame m ([.ref qt, .int p1] : List Value).toArray 2 := by rw [hav]
  rw [hfr, lg_entry_eq]
  generalize (lg_sl ([.ref qt, .int p1]) ++ List.replicate (2 - (lg_sl ([.ref qt, .int p1])).length) Slot.unset).toArray = ls at hl ⊢
  have hl : lv_has ls 2 [(0, .ref qt), (1, .int p1)] := hl
  obtain ⟨QQ, hQQ⟩ : ∃ QQ, QQ = MQ below (QI D A r [(qt, .inr (9, [.ref qt_book, .ref qt_now, .ref qt_flakes, .ref qt_leaks, .int v_music, .ref qt_ranks, .int v_sights, .ref qt_sight, .int v_signs, .ref qt_pad, .int v_freeAt, .int v_freeWho, .int v_reason, .int v_acts, .ref qt_gets, .ref qt_counts, .ref qt_worth, .ref qt_ways, .ref qt_image, .ref qt_isKept])), (qt_now, .inl (cI, 43, .inl v_now))]) args s 0 0 A := ⟨_, rfl⟩
  show W p l e rm_X10_stands s m args below meth c s.heap [] 0 0 _ _
  rw [← hQQ]
  have h := hf
  unfold f_X10_stands at h
  refine gw_start hP hD hS (fun H locs hP hD hS => ?_)
  refine lv_aload_n hx hb dX10_stands_0 rfl (lv_at hl 0 rfl) ?_
  refine va_get (D := D) (ci := 9) (C := RX10) (T := TX10) (N := 20) hx hb hts (fun _ hw => (List.mem_cons_of_mem _ (List.mem_append_right _ hw))) hown hE.1 hP 0 rfl rfl 1 (by decide) (hts (.fieldLink RX10 13 "GlobeCrownModel" "now" "[I") (List.mem_cons_of_mem _ (List.mem_append_left _ (List.mem_of_getElem? (i := 0) rfl)))) (fun _ h9 => h9) rfl dX10_stands_1 ?_
  refine lv_bipush (v := 40) hx hb dX10_stands_4 (by decide) ?_
  refine va_iald hx hb hE.1 hP 1 0 rfl rfl (jinb_in (by decide)) dX10_stands_6 ?_
  refine lv_iload_n hx hb dX10_stands_7 rfl (lv_at hl 1 rfl) ?_
  obtain ⟨r8, hc8, h⟩ := bd1_some h
  refine gw_ci (wr := [(qt, .inr (9, [.ref qt_book, .ref qt_now, .ref qt_flakes, .ref qt_leaks, .int v_music, .ref qt_ranks, .int v_sights, .ref qt_sight, .int v_signs, .ref qt_pad, .int v_freeAt, .int v_freeWho, .int v_reason, .int v_acts, .ref qt_gets, .ref qt_counts, .ref qt_worth, .ref qt_ways, .ref qt_image, .ref qt_isKept])), (qt_now, .inl (cI, 43, .inl v_now))]) (w2 := [(qt, .inr (9, [.ref qt_book, .ref qt_now, .ref qt_flakes, .ref qt_leaks, .int v_music, .ref qt_ranks, .int v_sights, .ref qt_sight, .int v_signs, .ref qt_pad, .int v_freeAt, .int v_freeWho, .int v_reason, .int v_acts, .ref qt_gets, .ref qt_counts, .ref qt_worth, .ref qt_ways, .ref qt_image, .ref qt_isKept])), (qt_now, .inl (cI, 43, .inl v_now))]) (gw_rS (n := 2) ⟨hx, hb, hml, hown, hts⟩ (C_X10_has l D cI cJ cZ H.size (v_now (Int32.toNatClampNeg (40 : Int32))) p1 r8 hc8) gX10_stands_X10_has rfl rfl rfl hdS_X10_has ⟨Nat.le_of_ble_eq_true rfl, Nat.le_of_ble_eq_true rfl⟩ hE (hP.sub [] rfl) (hD.sub [] (by decide) rfl) rfl hl.1 (rest := []) rfl (Nat.le_of_ble_eq_true rfl) dX10_stands_8 ⟨Nat.zero_le _, Nat.zero_le _⟩) hP hD hS hA [] [0, 1] rfl rfl rfl (by decide) rfl (fun H locs hP hD hS => ?_)
  obtain ⟨hz, h⟩ := gbl_some h
  cases h
  rw [hQQ]
  exact gw_zret hx hb hr hlocks hz hP hD hS dX10_stands_11
theorem hdV_X10_stands : yX10_stands.cls = RX10 ∧ yX10_stands.cls ≠ "java/lang/invoke/MethodHandle" ∧ yX10_stands.cls ≠ "java/lang/invoke/VarHandle" ∧ (parseMethodDescriptor yX10_stands.desc).map (fun d => d.parameters.length) = some 1 := by decide +kernel
def f_X10_isFree (v_now : (Nat → Int32)) (p1 : Int32) : Option (Int32) := (gin p1 43 (if (v_now (Int32.toNatClampNeg p1)) = (0 : Int32) then (some (1 : Int32)) else (some (0 : Int32))))
abbrev rm_X10_isFree : Room := { frames := 0, cells := 0, slots := 0, locals := 0 }
set_option maxHeartbeats 4000000 in
set_option maxRecDepth 100000 in
theorem C_X10_isFree (l : Launch) (D : va_G) (cI cJ cZ : ClassId) (sz : Nat) (qt qt_book qt_now qt_flakes qt_leaks qt_ranks qt_sight qt_pad qt_gets qt_counts qt_worth qt_ways qt_image qt_isKept : Nat) (v_now : (Nat → Int32)) (v_music : Int32) (v_sights : Int32) (v_signs : Int32) (v_freeAt : Int32) (v_freeWho : Int32) (v_reason : Int32) (v_acts : Int32) (p1 : Int32) (r : Int32) (hf : f_X10_isFree v_now p1 = some r) : Met l yX10_isFree wsX10_isFree rm_X10_isFree (PR D cI cJ cZ [(qt, .inr (9, [.ref qt_book, .ref qt_now, .ref qt_flakes, .ref qt_leaks, .int v_music, .ref qt_ranks, .int v_sights, .ref qt_sight, .int v_signs, .ref qt_pad, .int v_freeAt, .int v_freeWho, .int v_reason, .int v_acts, .ref qt_gets, .ref qt_counts, .ref qt_worth, .ref qt_ways, .ref qt_image, .ref qt_isKept])), (qt_now, .inl (cI, 43, .inl v_now))] sz [.ref qt, .int p1]) (QI D (va_A [(qt, .inr (9, [.ref qt_book, .ref qt_now, .ref qt_flakes, .ref qt_leaks, .int v_music, .ref qt_ranks, .int v_sights, .ref qt_sight, .int v_signs, .ref qt_pad, .int v_freeAt, .int v_freeWho, .int v_reason, .int v_acts, .ref qt_gets, .ref qt_counts, .ref qt_worth, .ref qt_ways, .ref qt_image, .ref qt_isKept])), (qt_now, .inl (cI, 43, .inl v_now))] sz) r [(qt, .inr (9, [.ref qt_book, .ref qt_now, .ref qt_flakes, .ref qt_leaks, .int v_music, .ref qt_ranks, .int v_sights, .ref qt_sight, .int v_signs, .ref qt_pad, .int v_freeAt, .int v_freeWho, .int v_reason, .int v_acts, .ref qt_gets, .ref qt_counts, .ref qt_worth, .ref qt_ways, .ref qt_image, .ref qt_isKept])), (qt_now, .inl (cI, 43, .inl v_now))]) 0 0 (va_A [(qt, .inr (9, [.ref qt_book, .ref qt_now, .ref qt_flakes, .ref qt_leaks, .int v_music, .ref qt_ranks, .int v_sights, .ref qt_sight, .int v_signs, .ref qt_pad, .int v_freeAt, .int v_freeWho, .int v_reason, .int v_acts, .ref qt_gets, .ref qt_counts, .ref qt_worth, .ref qt_ways, .ref qt_image, .ref qt_isKept])), (qt_now, .inl (cI, 43, .inl v_now))] sz) := by
  refine Met.ofW (cc := cX10_isFree) (maxL := 2) (ret := (some .boolean)) (by decide) rfl ?_
  intro p e s m args below meth c s₁ B hml hv
  obtain ⟨hav, hsz, hP, hD0, hE⟩ := hv
  have hx := B.exec
  have hb := B.bytes
  have hr := B.returns
  have hts := atoms_spec (ws := wsX10_isFree) B.pre
  have hown : s.vm.findClass RX10 = some m.cls := findClass_of_methodNamed B.named
  have hlocks := B.notSynchronized
  subst hsz
  have hD := hD0.self (sz := s.heap.size)
  generalize hAe : va_A [(qt, .inr (9, [.ref qt_book, .ref qt_now, .ref qt_flakes, .ref qt_leaks, .int v_music, .ref qt_ranks, .int v_sights, .ref qt_sight, .int v_signs, .ref qt_pad, .int v_freeAt, .int v_freeWho, .int v_reason, .int v_acts, .ref qt_gets, .ref qt_counts, .ref qt_worth, .ref qt_ways, .ref qt_image, .ref qt_isKept])), (qt_now, .inl (cI, 43, .inl v_now))] s.heap.size = A at hD ⊢
  have hA : ∀ q : Nat, s.heap.size ≤ q → A q := fun q h => by rw [← hAe]; exact Or.inr h
  have hS : va_S A s.heap s.heap [] := va_S.rf
  have hl := lv_entry ([.ref qt, .int p1]) (n := 2) (Nat.le_of_ble_eq_true rfl)
  have hfr : entryFrame m args 2 = entryFrame m ([.ref qt, .int p1] : List Value).toArray 2 := by rw [hav]
  rw [hfr, lg_entry_eq]
  generalize (lg_sl ([.ref qt, .int p1]) ++ List.replicate (2 - (lg_sl ([.ref qt, .int p1])).length) Slot.unset).toArray = ls at hl ⊢
  have hl : lv_has ls 2 [(0, .ref qt), (1, .int p1)] := hl
  obtain ⟨QQ, hQQ⟩ : ∃ QQ, QQ = MQ below (QI D A r [(qt, .inr (9, [.ref qt_book, .ref qt_now, .ref qt_flakes, .ref qt_leaks, .int v_music, .ref qt_ranks, .int v_sights, .ref qt_sight, .int v_signs, .ref qt_pad, .int v_freeAt, .int v_freeWho, .int v_reason, .int v_acts, .ref qt_gets, .ref qt_counts, .ref qt_worth, .ref qt_ways, .ref qt_image, .ref qt_isKept])), (qt_now, .inl (cI, 43, .inl v_now))]) args s 0 0 A := ⟨_, rfl⟩
  show W p l e rm_X10_isFree s m args below meth c s.heap [] 0 0 _ _
  rw [← hQQ]
  have h := hf
  unfold f_X10_isFree at h
  refine gw_start hP hD hS (fun H locs hP hD hS => ?_)
  refine lv_aload_n hx hb dX10_isFree_0 rfl (lv_at hl 0 rfl) ?_
  refine va_get (D := D) (ci := 9) (C := RX10) (T := TX10) (N := 20) hx hb hts (fun _ hw => (List.mem_cons_of_mem _ (List.mem_append_right _ hw))) hown hE.1 hP 0 rfl rfl 1 (by decide) (hts (.fieldLink RX10 13 "GlobeCrownModel" "now" "[I") (List.mem_cons_of_mem _ (List.mem_append_left _ (List.mem_of_getElem? (i := 0) rfl)))) (fun _ h9 => h9) rfl dX10_isFree_1 ?_
  refine lv_iload_n hx hb dX10_isFree_4 rfl (lv_at hl 1 rfl) ?_
  obtain ⟨hg, h⟩ := gin_some h
  refine va_iald hx hb hE.1 hP 1 0 rfl rfl hg dX10_isFree_5 ?_
  refine lv_if_ne (tgt := 13) hx hb dX10_isFree_6 (by decide) (fun hc => ?_) (fun hc => ?_)
  · have h := if_f hc h
    refine lv_iconst (v := 0) hx hb dX10_isFree_13 (by decide) ?_
    cases h
    rw [hQQ]
    exact gw_zret hx hb hr hlocks (by decide) hP hD hS dX10_isFree_14
  · have h := if_t hc h
    refine lv_iconst (v := 1) hx hb dX10_isFree_9 (by decide) ?_
    refine lv_goto (tgt := 14) hx hb dX10_isFree_10 (by decide) ?_
    cases h
    rw [hQQ]
    exact gw_zret hx hb hr hlocks (by decide) hP hD hS dX10_isFree_14
theorem hdV_X10_isFree : yX10_isFree.cls = RX10 ∧ yX10_isFree.cls ≠ "java/lang/invoke/MethodHandle" ∧ yX10_isFree.cls ≠ "java/lang/invoke/VarHandle" ∧ (parseMethodDescriptor yX10_isFree.desc).map (fun d => d.parameters.length) = some 1 := by decide +kernel
def L_X10_freeOnes_4 (v_now : (Nat → Int32)) : Nat → Int32 → Int32 → Option (Int32)
  | 0, _, _ => none
  | n + 1, x1, x2 => (if (8 : Int32) ≤ x2 then (some x1) else (bd1 (f_X10_stands v_now x2) (fun r13 => (if r13 = (0 : Int32) then ((L_X10_freeOnes_4 v_now n) (x1 ||| (0 : Int32)) (x2 + (1 : Int32))) else (bd1 (f_X10_isFree v_now x2) (fun r21 => (if r21 = (0 : Int32) then ((L_X10_freeOnes_4 v_now n) (x1 ||| (0 : Int32)) (x2 + (1 : Int32))) else ((L_X10_freeOnes_4 v_now n) (x1 ||| ((1 : Int32) <<< (x2 &&& 31))) (x2 + (1 : Int32))))))))))
def f_X10_freeOnes (v_now : (Nat → Int32)) : Option (Int32) := (L_X10_freeOnes_4 v_now FU (0 : Int32) (0 : Int32))
abbrev rm_X10_freeOnes : Room := { frames := 2, cells := 0, slots := 0, locals := 42 }
set_option maxHeartbeats 4000000 in
set_option maxRecDepth 100000 in
theorem C_X10_freeOnes (l : Launch) (D : va_G) (cI cJ cZ : ClassId) (sz : Nat) (qt qt_book qt_now qt_flakes qt_leaks qt_ranks qt_sight qt_pad qt_gets qt_counts qt_worth qt_ways qt_image qt_isKept : Nat) (v_now : (Nat → Int32)) (v_music : Int32) (v_sights : Int32) (v_signs : Int32) (v_freeAt : Int32) (v_freeWho : Int32) (v_reason : Int32) (v_acts : Int32) (r : Int32) (hf : f_X10_freeOnes v_now = some r) : Met l yX10_freeOnes wsX10_freeOnes rm_X10_freeOnes (PR D cI cJ cZ [(qt, .inr (9, [.ref qt_book, .ref qt_now, .ref qt_flakes, .ref qt_leaks, .int v_music, .ref qt_ranks, .int v_sights, .ref qt_sight, .int v_signs, .ref qt_pad, .int v_freeAt, .int v_freeWho, .int v_reason, .int v_acts, .ref qt_gets, .ref qt_counts, .ref qt_worth, .ref qt_ways, .ref qt_image, .ref qt_isKept])), (qt_now, .inl (cI, 43, .inl v_now))] sz [.ref qt]) (QI D (va_A [(qt, .inr (9, [.ref qt_book, .ref qt_now, .ref qt_flakes, .ref qt_leaks, .int v_music, .ref qt_ranks, .int v_sights, .ref qt_sight, .int v_signs, .ref qt_pad, .int v_freeAt, .int v_freeWho, .int v_reason, .int v_acts, .ref qt_gets, .ref qt_counts, .ref qt_worth, .ref qt_ways, .ref qt_image, .ref qt_isKept])), (qt_now, .inl (cI, 43, .inl v_now))] sz) r [(qt, .inr (9, [.ref qt_book, .ref qt_now, .ref qt_flakes, .ref qt_leaks, .int v_music, .ref qt_ranks, .int v_sights, .ref qt_sight, .int v_signs, .ref qt_pad, .int v_freeAt, .int v_freeWho, .int v_reason, .int v_acts, .ref qt_gets, .ref qt_counts, .ref qt_worth, .ref qt_ways, .ref qt_image, .ref qt_isKept])), (qt_now, .inl (cI, 43, .inl v_now))]) 0 0 (va_A [(qt, .inr (9, [.ref qt_book, .ref qt_now, .ref qt_flakes, .ref qt_leaks, .int v_music, .ref qt_ranks, .int v_sights, .ref qt_sight, .int v_signs, .ref qt_pad, .int v_freeAt, .int v_freeWho, .int v_reason, .int v_acts, .ref qt_gets, .ref qt_counts, .ref qt_worth, .ref qt_ways, .ref qt_image, .ref qt_isKept])), (qt_now, .inl (cI, 43, .inl v_now))] sz) := by
  refine Met.ofW (cc := cX10_freeOnes) (maxL := 3) (ret := (some .int)) (by decide) rfl ?_
  intro p e s m args below meth c s₁ B hml hv
  obtain ⟨hav, hsz, hP, hD0, hE⟩ := hv
  have hx := B.exec
  have hb := B.bytes
  have hr := B.returns
  have hts := atoms_spec (ws := wsX10_freeOnes) B.pre
  have hown : s.vm.findClass RX10 = some m.cls := findClass_of_methodNamed B.named
  have hlocks := B.notSynchronized
  subst hsz
  have hD := hD0.self (sz := s.heap.size)
  generalize hAe : va_A [(qt, .inr (9, [.ref qt_book, .ref qt_now, .ref qt_flakes, .ref qt_leaks, .int v_music, .ref qt_ranks, .int v_sights, .ref qt_sight, .int v_signs, .ref qt_pad, .int v_freeAt, .int v_freeWho, .int v_reason, .int v_acts, .ref qt_gets, .ref qt_counts, .ref qt_worth, .ref qt_ways, .ref qt_image, .ref qt_isKept])), (qt_now, .inl (cI, 43, .inl v_now))] s.heap.size = A at hD ⊢
  have hA : ∀ q : Nat, s.heap.size ≤ q → A q := fun q h => by rw [← hAe]; exact Or.inr h
  have hS : va_S A s.heap s.heap [] := va_S.rf
  have hl := lv_entry ([.ref qt]) (n := 3) (Nat.le_of_ble_eq_true rfl)
  have hfr : entryFrame m args 3 = entryFrame m ([.ref qt] : List Value).toArray 3 := by rw [hav]
  rw [hfr, lg_entry_eq]
  generalize (lg_sl ([.ref qt]) ++ List.replicate (3 - (lg_sl ([.ref qt])).length) Slot.unset).toArray = ls at hl ⊢
  have hl : lv_has ls 3 [(0, .ref qt)] := hl
  obtain ⟨QQ, hQQ⟩ : ∃ QQ, QQ = MQ below (QI D A r [(qt, .inr (9, [.ref qt_book, .ref qt_now, .ref qt_flakes, .ref qt_leaks, .int v_music, .ref qt_ranks, .int v_sights, .ref qt_sight, .int v_signs, .ref qt_pad, .int v_freeAt, .int v_freeWho, .int v_reason, .int v_acts, .ref qt_gets, .ref qt_counts, .ref qt_worth, .ref qt_ways, .ref qt_image, .ref qt_isKept])), (qt_now, .inl (cI, 43, .inl v_now))]) args s 0 0 A := ⟨_, rfl⟩
  show W p l e rm_X10_freeOnes s m args below meth c s.heap [] 0 0 _ _
  rw [← hQQ]
  have hL4 : ∀ (n4 : Nat), ∀ (x1 : Int32) (x2 : Int32) (H : Heap) (locs : List Loc) (ls : Array Slot), va_P D vwCl [(qt, .inr (9, [.ref qt_book, .ref qt_now, .ref qt_flakes, .ref qt_leaks, .int v_music, .ref qt_ranks, .int v_sights, .ref qt_sight, .int v_signs, .ref qt_pad, .int v_freeAt, .int v_freeWho, .int v_reason, .int v_acts, .ref qt_gets, .ref qt_counts, .ref qt_worth, .ref qt_ways, .ref qt_image, .ref qt_isKept])), (qt_now, .inl (cI, 43, .inl v_now))] H → va_D A [(qt, .inr (9, [.ref qt_book, .ref qt_now, .ref qt_flakes, .ref qt_leaks, .int v_music, .ref qt_ranks, .int v_sights, .ref qt_sight, .int v_signs, .ref qt_pad, .int v_freeAt, .int v_freeWho, .int v_reason, .int v_acts, .ref qt_gets, .ref qt_counts, .ref qt_worth, .ref qt_ways, .ref qt_image, .ref qt_isKept])), (qt_now, .inl (cI, 43, .inl v_now))] → va_S A s.heap H locs → lv_has ls 3 [(0, .ref qt), (1, .int x1), (2, .int x2)] → L_X10_freeOnes_4 v_now n4 x1 x2 = some r → W p l e rm_X10_freeOnes s m args below meth c H locs 0 0 QQ (F0 m 4 ls []) := by
    intro n4
    induction n4 with
    | zero =>
      intro x1 x2 H locs ls hP hD hS hl h
      have h : none = some r := h
      cases h
    | succ n4 ih4 =>
      intro x1 x2 H locs ls hP hD hS hl h
      rw [L_X10_freeOnes_4.eq_2] at h
      refine lv_iload_n hx hb dX10_freeOnes_4 rfl (lv_at hl 2 rfl) ?_
      refine lv_bipush (v := 8) hx hb dX10_freeOnes_5 (by decide) ?_
      refine lv_icmp_ge (tgt := 42) hx hb dX10_freeOnes_7 (by decide) (fun hc => ?_) (fun hc => ?_)
      · have h := if_t hc h
        refine lv_iload_n hx hb dX10_freeOnes_42 rfl (lv_at hl 1 rfl) ?_
        cases h
        rw [hQQ]
        exact gw_iret hx hb hr hlocks hP hD hS dX10_freeOnes_43
      · have h := if_f hc h
        refine lv_iload_n hx hb dX10_freeOnes_10 rfl (lv_at hl 1 rfl) ?_
        refine lv_aload_n hx hb dX10_freeOnes_11 rfl (lv_at hl 0 rfl) ?_
        refine lv_iload_n hx hb dX10_freeOnes_12 rfl (lv_at hl 2 rfl) ?_
        obtain ⟨r13, hc13, h⟩ := bd1_some h
        refine gw_ci (wr := []) (w2 := [(qt, .inr (9, [.ref qt_book, .ref qt_now, .ref qt_flakes, .ref qt_leaks, .int v_music, .ref qt_ranks, .int v_sights, .ref qt_sight, .int v_signs, .ref qt_pad, .int v_freeAt, .int v_freeWho, .int v_reason, .int v_acts, .ref qt_gets, .ref qt_counts, .ref qt_worth, .ref qt_ways, .ref qt_image, .ref qt_isKept])), (qt_now, .inl (cI, 43, .inl v_now))]) (gw_rV (n := 1) ⟨hx, hb, hml, hown, hts⟩ (C_X10_stands l D cI cJ cZ H.size qt qt_book qt_now qt_flakes qt_leaks qt_ranks qt_sight qt_pad qt_gets qt_counts qt_worth qt_ways qt_image qt_isKept v_now v_music v_sights v_signs v_freeAt v_freeWho v_reason v_acts x2 r13 hc13) gX10_freeOnes_X10_stands rfl rfl rfl hdV_X10_stands ⟨Nat.le_of_ble_eq_true rfl, Nat.le_of_ble_eq_true rfl⟩ hE (hP.sub [0, 1] rfl) (hD.sub [0, 1] (by decide) rfl) 9 rfl 0 rfl rfl hl.1 (rest := [.int x1]) rfl (Nat.le_of_ble_eq_true rfl) dX10_freeOnes_13 ⟨Nat.zero_le _, Nat.zero_le _⟩) hP hD hS hA [0, 1] [] rfl rfl rfl (by decide) rfl (fun H locs hP hD hS => ?_)
        refine lv_if_eq (tgt := 33) hx hb dX10_freeOnes_16 (by decide) (fun hc => ?_) (fun hc => ?_)
        · have h := if_t hc h
          refine lv_iconst (v := 0) hx hb dX10_freeOnes_33 (by decide) ?_
          refine lv_ior hx hb dX10_freeOnes_34 ?_
          refine lv_istore_n (lv' := [(1, .int (x1 ||| (0 : Int32))), (0, .ref qt), (2, .int x2)]) hx hb dX10_freeOnes_35 rfl hl (by decide) rfl (fun ls hl => ?_)
          refine lv_iinc (v := (x2 + (1 : Int32))) (lv' := [(2, .int (x2 + (1 : Int32))), (1, .int (x1 ||| (0 : Int32))), (0, .ref qt)]) hx hb dX10_freeOnes_36 hl (k := 2) rfl rfl (by decide) rfl (fun ls hl => ?_)
          refine lv_goto (tgt := 4) hx hb dX10_freeOnes_39 (by decide) ?_
          exact ih4 (x1 ||| (0 : Int32)) (x2 + (1 : Int32)) H locs ls hP hD hS (lv_sub hl [2, 1, 0] rfl) h
        · have h := if_f hc h
          refine lv_aload_n hx hb dX10_freeOnes_19 rfl (lv_at hl 0 rfl) ?_
          refine lv_iload_n hx hb dX10_freeOnes_20 rfl (lv_at hl 2 rfl) ?_
          obtain ⟨r21, hc21, h⟩ := bd1_some h
          refine gw_ci (wr := []) (w2 := [(qt, .inr (9, [.ref qt_book, .ref qt_now, .ref qt_flakes, .ref qt_leaks, .int v_music, .ref qt_ranks, .int v_sights, .ref qt_sight, .int v_signs, .ref qt_pad, .int v_freeAt, .int v_freeWho, .int v_reason, .int v_acts, .ref qt_gets, .ref qt_counts, .ref qt_worth, .ref qt_ways, .ref qt_image, .ref qt_isKept])), (qt_now, .inl (cI, 43, .inl v_now))]) (gw_rV (n := 1) ⟨hx, hb, hml, hown, hts⟩ (C_X10_isFree l D cI cJ cZ H.size qt qt_book qt_now qt_flakes qt_leaks qt_ranks qt_sight qt_pad qt_gets qt_counts qt_worth qt_ways qt_image qt_isKept v_now v_music v_sights v_signs v_freeAt v_freeWho v_reason v_acts x2 r21 hc21) gX10_freeOnes_X10_isFree rfl rfl rfl hdV_X10_isFree ⟨Nat.le_of_ble_eq_true rfl, Nat.le_of_ble_eq_true rfl⟩ hE (hP.sub [0, 1] rfl) (hD.sub [0, 1] (by decide) rfl) 9 rfl 0 rfl rfl hl.1 (rest := [.int x1]) rfl (Nat.le_of_ble_eq_true rfl) dX10_freeOnes_21 ⟨Nat.zero_le _, Nat.zero_le _⟩) hP hD hS hA [0, 1] [] rfl rfl rfl (by decide) rfl (fun H locs hP hD hS => ?_)
          refine lv_if_eq (tgt := 33) hx hb dX10_freeOnes_24 (by decide) (fun hc => ?_) (fun hc => ?_)
          · have h := if_t hc h
            refine lv_iconst (v := 0) hx hb dX10_freeOnes_33 (by decide) ?_
            refine lv_ior hx hb dX10_freeOnes_34 ?_
            refine lv_istore_n (lv' := [(1, .int (x1 ||| (0 : Int32))), (0, .ref qt), (2, .int x2)]) hx hb dX10_freeOnes_35 rfl hl (by decide) rfl (fun ls hl => ?_)
            refine lv_iinc (v := (x2 + (1 : Int32))) (lv' := [(2, .int (x2 + (1 : Int32))), (1, .int (x1 ||| (0 : Int32))), (0, .ref qt)]) hx hb dX10_freeOnes_36 hl (k := 2) rfl rfl (by decide) rfl (fun ls hl => ?_)
            refine lv_goto (tgt := 4) hx hb dX10_freeOnes_39 (by decide) ?_
            exact ih4 (x1 ||| (0 : Int32)) (x2 + (1 : Int32)) H locs ls hP hD hS (lv_sub hl [2, 1, 0] rfl) h
          · have h := if_f hc h
            refine lv_iconst (v := 1) hx hb dX10_freeOnes_27 (by decide) ?_
            refine lv_iload_n hx hb dX10_freeOnes_28 rfl (lv_at hl 2 rfl) ?_
            refine lv_ishl hx hb dX10_freeOnes_29 ?_
            refine lv_goto (tgt := 34) hx hb dX10_freeOnes_30 (by decide) ?_
            refine lv_ior hx hb dX10_freeOnes_34 ?_
            refine lv_istore_n (lv' := [(1, .int (x1 ||| ((1 : Int32) <<< (x2 &&& 31)))), (0, .ref qt), (2, .int x2)]) hx hb dX10_freeOnes_35 rfl hl (by decide) rfl (fun ls hl => ?_)
            refine lv_iinc (v := (x2 + (1 : Int32))) (lv' := [(2, .int (x2 + (1 : Int32))), (1, .int (x1 ||| ((1 : Int32) <<< (x2 &&& 31)))), (0, .ref qt)]) hx hb dX10_freeOnes_36 hl (k := 2) rfl rfl (by decide) rfl (fun ls hl => ?_)
            refine lv_goto (tgt := 4) hx hb dX10_freeOnes_39 (by decide) ?_
            exact ih4 (x1 ||| ((1 : Int32) <<< (x2 &&& 31))) (x2 + (1 : Int32)) H locs ls hP hD hS (lv_sub hl [2, 1, 0] rfl) h
  have h := hf
  unfold f_X10_freeOnes at h
  refine gw_start hP hD hS (fun H locs hP hD hS => ?_)
  refine lv_iconst (v := 0) hx hb dX10_freeOnes_0 (by decide) ?_
  refine lv_istore_n (lv' := [(1, .int (0 : Int32)), (0, .ref qt)]) hx hb dX10_freeOnes_1 rfl hl (by decide) rfl (fun ls hl => ?_)
  refine lv_iconst (v := 0) hx hb dX10_freeOnes_2 (by decide) ?_
  refine lv_istore_n (lv' := [(2, .int (0 : Int32)), (1, .int (0 : Int32)), (0, .ref qt)]) hx hb dX10_freeOnes_3 rfl hl (by decide) rfl (fun ls hl => ?_)
  exact hL4 FU (0 : Int32) (0 : Int32) H locs ls hP hD hS (lv_sub hl [2, 1, 0] rfl) h
theorem hdV_X10_freeOnes : yX10_freeOnes.cls = RX10 ∧ yX10_freeOnes.cls ≠ "java/lang/invoke/MethodHandle" ∧ yX10_freeOnes.cls ≠ "java/lang/invoke/VarHandle" ∧ (parseMethodDescriptor yX10_freeOnes.desc).map (fun d => d.parameters.length) = some 0 := by decide +kernel
def L_X10_snow_4 (v_now : (Nat → Int32)) : Nat → Int32 → Int32 → Option (Int32)
  | 0, _, _ => none
  | n + 1, x1, x2 => (if (8 : Int32) ≤ x2 then (some x1) else (bd1 (f_X10_stands v_now x2) (fun r13 => (if r13 = (0 : Int32) then ((L_X10_snow_4 v_now n) (x1 ||| (0 : Int32)) (x2 + (1 : Int32))) else (gin ((8 : Int32) + x2) 43 (if (v_now (Int32.toNatClampNeg ((8 : Int32) + x2))) ≤ (0 : Int32) then ((L_X10_snow_4 v_now n) (x1 ||| (0 : Int32)) (x2 + (1 : Int32))) else ((L_X10_snow_4 v_now n) (x1 ||| ((1 : Int32) <<< (x2 &&& 31))) (x2 + (1 : Int32)))))))))
def f_X10_snow (v_now : (Nat → Int32)) : Option (Int32) := (L_X10_snow_4 v_now FU (0 : Int32) (0 : Int32))
abbrev rm_X10_snow : Room := { frames := 2, cells := 0, slots := 0, locals := 42 }
set_option maxHeartbeats 4000000 in
set_option maxRecDepth 100000 in
theorem C_X10_snow (l : Launch) (D : va_G) (cI cJ cZ : ClassId) (sz : Nat) (qt qt_book qt_now qt_flakes qt_leaks qt_ranks qt_sight qt_pad qt_gets qt_counts qt_worth qt_ways qt_image qt_isKept : Nat) (v_now : (Nat → Int32)) (v_music : Int32) (v_sights : Int32) (v_signs : Int32) (v_freeAt : Int32) (v_freeWho : Int32) (v_reason : Int32) (v_acts : Int32) (r : Int32) (hf : f_X10_snow v_now = some r) : Met l yX10_snow wsX10_snow rm_X10_snow (PR D cI cJ cZ [(qt, .inr (9, [.ref qt_book, .ref qt_now, .ref qt_flakes, .ref qt_leaks, .int v_music, .ref qt_ranks, .int v_sights, .ref qt_sight, .int v_signs, .ref qt_pad, .int v_freeAt, .int v_freeWho, .int v_reason, .int v_acts, .ref qt_gets, .ref qt_counts, .ref qt_worth, .ref qt_ways, .ref qt_image, .ref qt_isKept])), (qt_now, .inl (cI, 43, .inl v_now))] sz [.ref qt]) (QI D (va_A [(qt, .inr (9, [.ref qt_book, .ref qt_now, .ref qt_flakes, .ref qt_leaks, .int v_music, .ref qt_ranks, .int v_sights, .ref qt_sight, .int v_signs, .ref qt_pad, .int v_freeAt, .int v_freeWho, .int v_reason, .int v_acts, .ref qt_gets, .ref qt_counts, .ref qt_worth, .ref qt_ways, .ref qt_image, .ref qt_isKept])), (qt_now, .inl (cI, 43, .inl v_now))] sz) r [(qt, .inr (9, [.ref qt_book, .ref qt_now, .ref qt_flakes, .ref qt_leaks, .int v_music, .ref qt_ranks, .int v_sights, .ref qt_sight, .int v_signs, .ref qt_pad, .int v_freeAt, .int v_freeWho, .int v_reason, .int v_acts, .ref qt_gets, .ref qt_counts, .ref qt_worth, .ref qt_ways, .ref qt_image, .ref qt_isKept])), (qt_now, .inl (cI, 43, .inl v_now))]) 0 0 (va_A [(qt, .inr (9, [.ref qt_book, .ref qt_now, .ref qt_flakes, .ref qt_leaks, .int v_music, .ref qt_ranks, .int v_sights, .ref qt_sight, .int v_signs, .ref qt_pad, .int v_freeAt, .int v_freeWho, .int v_reason, .int v_acts, .ref qt_gets, .ref qt_counts, .ref qt_worth, .ref qt_ways, .ref qt_image, .ref qt_isKept])), (qt_now, .inl (cI, 43, .inl v_now))] sz) := by
  refine Met.ofW (cc := cX10_snow) (maxL := 3) (ret := (some .int)) (by decide) rfl ?_
  intro p e s m args below meth c s₁ B hml hv
  obtain ⟨hav, hsz, hP, hD0, hE⟩ := hv
  have hx := B.exec
  have hb := B.bytes
  have hr := B.returns
  have hts := atoms_spec (ws := wsX10_snow) B.pre
  have hown : s.vm.findClass RX10 = some m.cls := findClass_of_methodNamed B.named
  have hlocks := B.notSynchronized
  subst hsz
  have hD := hD0.self (sz := s.heap.size)
  generalize hAe : va_A [(qt, .inr (9, [.ref qt_book, .ref qt_now, .ref qt_flakes, .ref qt_leaks, .int v_music, .ref qt_ranks, .int v_sights, .ref qt_sight, .int v_signs, .ref qt_pad, .int v_freeAt, .int v_freeWho, .int v_reason, .int v_acts, .ref qt_gets, .ref qt_counts, .ref qt_worth, .ref qt_ways, .ref qt_image, .ref qt_isKept])), (qt_now, .inl (cI, 43, .inl v_now))] s.heap.size = A at hD ⊢
  have hA : ∀ q : Nat, s.heap.size ≤ q → A q := fun q h => by rw [← hAe]; exact Or.inr h
  have hS : va_S A s.heap s.heap [] := va_S.rf
  have hl := lv_entry ([.ref qt]) (n := 3) (Nat.le_of_ble_eq_true rfl)
  have hfr : entryFrame m args 3 = entryFrame m ([.ref qt] : List Value).toArray 3 := by rw [hav]
  rw [hfr, lg_entry_eq]
  generalize (lg_sl ([.ref qt]) ++ List.replicate (3 - (lg_sl ([.ref qt])).length) Slot.unset).toArray = ls at hl ⊢
  have hl : lv_has ls 3 [(0, .ref qt)] := hl
  obtain ⟨QQ, hQQ⟩ : ∃ QQ, QQ = MQ below (QI D A r [(qt, .inr (9, [.ref qt_book, .ref qt_now, .ref qt_flakes, .ref qt_leaks, .int v_music, .ref qt_ranks, .int v_sights, .ref qt_sight, .int v_signs, .ref qt_pad, .int v_freeAt, .int v_freeWho, .int v_reason, .int v_acts, .ref qt_gets, .ref qt_counts, .ref qt_worth, .ref qt_ways, .ref qt_image, .ref qt_isKept])), (qt_now, .inl (cI, 43, .inl v_now))]) args s 0 0 A := ⟨_, rfl⟩
  show W p l e rm_X10_snow s m args below meth c s.heap [] 0 0 _ _
  rw [← hQQ]
  have hL4 : ∀ (n4 : Nat), ∀ (x1 : Int32) (x2 : Int32) (H : Heap) (locs : List Loc) (ls : Array Slot), va_P D vwCl [(qt, .inr (9, [.ref qt_book, .ref qt_now, .ref qt_flakes, .ref qt_leaks, .int v_music, .ref qt_ranks, .int v_sights, .ref qt_sight, .int v_signs, .ref qt_pad, .int v_freeAt, .int v_freeWho, .int v_reason, .int v_acts, .ref qt_gets, .ref qt_counts, .ref qt_worth, .ref qt_ways, .ref qt_image, .ref qt_isKept])), (qt_now, .inl (cI, 43, .inl v_now))] H → va_D A [(qt, .inr (9, [.ref qt_book, .ref qt_now, .ref qt_flakes, .ref qt_leaks, .int v_music, .ref qt_ranks, .int v_sights, .ref qt_sight, .int v_signs, .ref qt_pad, .int v_freeAt, .int v_freeWho, .int v_reason, .int v_acts, .ref qt_gets, .ref qt_counts, .ref qt_worth, .ref qt_ways, .ref qt_image, .ref qt_isKept])), (qt_now, .inl (cI, 43, .inl v_now))] → va_S A s.heap H locs → lv_has ls 3 [(0, .ref qt), (1, .int x1), (2, .int x2)] → L_X10_snow_4 v_now n4 x1 x2 = some r → W p l e rm_X10_snow s m args below meth c H locs 0 0 QQ (F0 m 4 ls []) := by
    intro n4
    induction n4 with
    | zero =>
      intro x1 x2 H locs ls hP hD hS hl h
      have h : none = some r := h
      cases h
    | succ n4 ih4 =>
      intro x1 x2 H locs ls hP hD hS hl h
      rw [L_X10_snow_4.eq_2] at h
      refine lv_iload_n hx hb dX10_snow_4 rfl (lv_at hl 2 rfl) ?_
      refine lv_bipush (v := 8) hx hb dX10_snow_5 (by decide) ?_
      refine lv_icmp_ge (tgt := 46) hx hb dX10_snow_7 (by decide) (fun hc => ?_) (fun hc => ?_)
      · have h := if_t hc h
        refine lv_iload_n hx hb dX10_snow_46 rfl (lv_at hl 1 rfl) ?_
        cases h
        rw [hQQ]
        exact gw_iret hx hb hr hlocks hP hD hS dX10_snow_47
      · have h := if_f hc h
        refine lv_iload_n hx hb dX10_snow_10 rfl (lv_at hl 1 rfl) ?_
        refine lv_aload_n hx hb dX10_snow_11 rfl (lv_at hl 0 rfl) ?_
        refine lv_iload_n hx hb dX10_snow_12 rfl (lv_at hl 2 rfl) ?_
        obtain ⟨r13, hc13, h⟩ := bd1_some h
        refine gw_ci (wr := []) (w2 := [(qt, .inr (9, [.ref qt_book, .ref qt_now, .ref qt_flakes, .ref qt_leaks, .int v_music, .ref qt_ranks, .int v_sights, .ref qt_sight, .int v_signs, .ref qt_pad, .int v_freeAt, .int v_freeWho, .int v_reason, .int v_acts, .ref qt_gets, .ref qt_counts, .ref qt_worth, .ref qt_ways, .ref qt_image, .ref qt_isKept])), (qt_now, .inl (cI, 43, .inl v_now))]) (gw_rV (n := 1) ⟨hx, hb, hml, hown, hts⟩ (C_X10_stands l D cI cJ cZ H.size qt qt_book qt_now qt_flakes qt_leaks qt_ranks qt_sight qt_pad qt_gets qt_counts qt_worth qt_ways qt_image qt_isKept v_now v_music v_sights v_signs v_freeAt v_freeWho v_reason v_acts x2 r13 hc13) gX10_snow_X10_stands rfl rfl rfl hdV_X10_stands ⟨Nat.le_of_ble_eq_true rfl, Nat.le_of_ble_eq_true rfl⟩ hE (hP.sub [0, 1] rfl) (hD.sub [0, 1] (by decide) rfl) 9 rfl 0 rfl rfl hl.1 (rest := [.int x1]) rfl (Nat.le_of_ble_eq_true rfl) dX10_snow_13 ⟨Nat.zero_le _, Nat.zero_le _⟩) hP hD hS hA [0, 1] [] rfl rfl rfl (by decide) rfl (fun H locs hP hD hS => ?_)
        refine lv_if_eq (tgt := 37) hx hb dX10_snow_16 (by decide) (fun hc => ?_) (fun hc => ?_)
        · have h := if_t hc h
          refine lv_iconst (v := 0) hx hb dX10_snow_37 (by decide) ?_
          refine lv_ior hx hb dX10_snow_38 ?_
          refine lv_istore_n (lv' := [(1, .int (x1 ||| (0 : Int32))), (0, .ref qt), (2, .int x2)]) hx hb dX10_snow_39 rfl hl (by decide) rfl (fun ls hl => ?_)
          refine lv_iinc (v := (x2 + (1 : Int32))) (lv' := [(2, .int (x2 + (1 : Int32))), (1, .int (x1 ||| (0 : Int32))), (0, .ref qt)]) hx hb dX10_snow_40 hl (k := 2) rfl rfl (by decide) rfl (fun ls hl => ?_)
          refine lv_goto (tgt := 4) hx hb dX10_snow_43 (by decide) ?_
          exact ih4 (x1 ||| (0 : Int32)) (x2 + (1 : Int32)) H locs ls hP hD hS (lv_sub hl [2, 1, 0] rfl) h
        · have h := if_f hc h
          refine lv_aload_n hx hb dX10_snow_19 rfl (lv_at hl 0 rfl) ?_
          refine va_get (D := D) (ci := 9) (C := RX10) (T := TX10) (N := 20) hx hb hts (fun _ hw => (List.mem_cons_of_mem _ (List.mem_append_right _ hw))) hown hE.1 hP 0 rfl rfl 1 (by decide) (hts (.fieldLink RX10 13 "GlobeCrownModel" "now" "[I") (List.mem_cons_of_mem _ (List.mem_append_left _ (List.mem_of_getElem? (i := 0) rfl)))) (fun _ h9 => h9) rfl dX10_snow_20 ?_
          refine lv_bipush (v := 8) hx hb dX10_snow_23 (by decide) ?_
          refine lv_iload_n hx hb dX10_snow_25 rfl (lv_at hl 2 rfl) ?_
          refine lv_iadd hx hb dX10_snow_26 ?_
          obtain ⟨hg, h⟩ := gin_some h
          refine va_iald hx hb hE.1 hP 1 0 rfl rfl hg dX10_snow_27 ?_
          refine lv_if_le (tgt := 37) hx hb dX10_snow_28 (by decide) (fun hc => ?_) (fun hc => ?_)
          · have h := if_t hc h
            refine lv_iconst (v := 0) hx hb dX10_snow_37 (by decide) ?_
            refine lv_ior hx hb dX10_snow_38 ?_
            refine lv_istore_n (lv' := [(1, .int (x1 ||| (0 : Int32))), (0, .ref qt), (2, .int x2)]) hx hb dX10_snow_39 rfl hl (by decide) rfl (fun ls hl => ?_)
            refine lv_iinc (v := (x2 + (1 : Int32))) (lv' := [(2, .int (x2 + (1 : Int32))), (1, .int (x1 ||| (0 : Int32))), (0, .ref qt)]) hx hb dX10_snow_40 hl (k := 2) rfl rfl (by decide) rfl (fun ls hl => ?_)
            refine lv_goto (tgt := 4) hx hb dX10_snow_43 (by decide) ?_
            exact ih4 (x1 ||| (0 : Int32)) (x2 + (1 : Int32)) H locs ls hP hD hS (lv_sub hl [2, 1, 0] rfl) h
          · have h := if_f hc h
            refine lv_iconst (v := 1) hx hb dX10_snow_31 (by decide) ?_
            refine lv_iload_n hx hb dX10_snow_32 rfl (lv_at hl 2 rfl) ?_
            refine lv_ishl hx hb dX10_snow_33 ?_
            refine lv_goto (tgt := 38) hx hb dX10_snow_34 (by decide) ?_
            refine lv_ior hx hb dX10_snow_38 ?_
            refine lv_istore_n (lv' := [(1, .int (x1 ||| ((1 : Int32) <<< (x2 &&& 31)))), (0, .ref qt), (2, .int x2)]) hx hb dX10_snow_39 rfl hl (by decide) rfl (fun ls hl => ?_)
            refine lv_iinc (v := (x2 + (1 : Int32))) (lv' := [(2, .int (x2 + (1 : Int32))), (1, .int (x1 ||| ((1 : Int32) <<< (x2 &&& 31)))), (0, .ref qt)]) hx hb dX10_snow_40 hl (k := 2) rfl rfl (by decide) rfl (fun ls hl => ?_)
            refine lv_goto (tgt := 4) hx hb dX10_snow_43 (by decide) ?_
            exact ih4 (x1 ||| ((1 : Int32) <<< (x2 &&& 31))) (x2 + (1 : Int32)) H locs ls hP hD hS (lv_sub hl [2, 1, 0] rfl) h
  have h := hf
  unfold f_X10_snow at h
  refine gw_start hP hD hS (fun H locs hP hD hS => ?_)
  refine lv_iconst (v := 0) hx hb dX10_snow_0 (by decide) ?_
  refine lv_istore_n (lv' := [(1, .int (0 : Int32)), (0, .ref qt)]) hx hb dX10_snow_1 rfl hl (by decide) rfl (fun ls hl => ?_)
  refine lv_iconst (v := 0) hx hb dX10_snow_2 (by decide) ?_
  refine lv_istore_n (lv' := [(2, .int (0 : Int32)), (1, .int (0 : Int32)), (0, .ref qt)]) hx hb dX10_snow_3 rfl hl (by decide) rfl (fun ls hl => ?_)
  exact hL4 FU (0 : Int32) (0 : Int32) H locs ls hP hD hS (lv_sub hl [2, 1, 0] rfl) h
theorem hdV_X10_snow : yX10_snow.cls = RX10 ∧ yX10_snow.cls ≠ "java/lang/invoke/MethodHandle" ∧ yX10_snow.cls ≠ "java/lang/invoke/VarHandle" ∧ (parseMethodDescriptor yX10_snow.desc).map (fun d => d.parameters.length) = some 0 := by decide +kernel
def B_X10_shake_99 (v_flakes : (Nat → Int32)) (p1 : Int32) (p2 : Int32) (rec22 : (Nat → Int32) → Int32 → Option (Int32 × (Nat → Int32))) (v_now : (Nat → Int32)) (x3 : Int32) (s0 : Int32) (s1 : Int32) : Option (Int32 × (Nat → Int32)) := (gin s1 43 (gin ((24 : Int32) + x3) 43 (rec22 (upd (upd v_now (Int32.toNatClampNeg s1) s0) (Int32.toNatClampNeg (41 : Int32)) (((upd v_now (Int32.toNatClampNeg s1) s0) (Int32.toNatClampNeg (41 : Int32))) + ((upd v_now (Int32.toNatClampNeg s1) s0) (Int32.toNatClampNeg ((24 : Int32) + x3))))) (x3 + (1 : Int32)))))
def L_X10_shake_22 (v_flakes : (Nat → Int32)) (p1 : Int32) (p2 : Int32) : Nat → (Nat → Int32) → Int32 → Option (Int32 × (Nat → Int32))
  | 0, _, _ => none
  | n + 1, v_now, x3 => (if (8 : Int32) ≤ x3 then (some ((0 : Int32), v_now)) else (bd1 (f_X10_stands v_now x3) (fun r30 => (if r30 = (0 : Int32) then ((L_X10_shake_22 v_flakes p1 p2 n) v_now (x3 + (1 : Int32))) else (bd1 (f_X10_isFree v_now x3) (fun r38 => (if r38 = (0 : Int32) then (bd1 (f_X10_isWithin v_now x3 p1) (fun r47 => (if r47 = (0 : Int32) then ((L_X10_shake_22 v_flakes p1 p2 n) v_now (x3 + (1 : Int32))) else (gin ((8 : Int32) + x3) 43 (gin x3 8 (if ((v_now (Int32.toNatClampNeg ((8 : Int32) + x3))) + ((10 : Int32) * p2)) ≤ (v_flakes (Int32.toNatClampNeg x3)) then (B_X10_shake_99 v_flakes p1 p2 (L_X10_shake_22 v_flakes p1 p2 n) v_now x3 ((v_now (Int32.toNatClampNeg ((8 : Int32) + x3))) + ((10 : Int32) * p2)) ((8 : Int32) + x3)) else (gin x3 8 (B_X10_shake_99 v_flakes p1 p2 (L_X10_shake_22 v_flakes p1 p2 n) v_now x3 (v_flakes (Int32.toNatClampNeg x3)) ((8 : Int32) + x3))))))))) else ((L_X10_shake_22 v_flakes p1 p2 n) v_now (x3 + (1 : Int32))))))))))
def f_X10_shake (v_now : (Nat → Int32)) (v_flakes : (Nat → Int32)) (p1 : Int32) (p2 : Int32) : Option (Int32 × (Nat → Int32)) := (bd1 (f_X10_stands v_now p1) (fun r2 => (if r2 = (0 : Int32) then (some ((1 : Int32), v_now)) else (bd1 (f_X10_isFree v_now p1) (fun r12 => (if r12 = (0 : Int32) then (L_X10_shake_22 v_flakes p1 p2 FU v_now (0 : Int32)) else (some ((2 : Int32), v_now))))))))
abbrev rm_X10_shake : Room := { frames := 2, cells := 0, slots := 0, locals := 42 }
set_option maxHeartbeats 4000000 in
set_option maxRecDepth 100000 in
theorem C_X10_shake (l : Launch) (D : va_G) (cI cJ cZ : ClassId) (sz : Nat) (qt qt_book qt_now qt_flakes qt_leaks qt_ranks qt_sight qt_pad qt_gets qt_counts qt_worth qt_ways qt_image qt_isKept : Nat) (v_now : (Nat → Int32)) (v_flakes : (Nat → Int32)) (v_music : Int32) (v_sights : Int32) (v_signs : Int32) (v_freeAt : Int32) (v_freeWho : Int32) (v_reason : Int32) (v_acts : Int32) (p1 : Int32) (p2 : Int32) (r : Int32) (w_now : (Nat → Int32)) (hf : f_X10_shake v_now v_flakes p1 p2 = some (r, w_now)) : Met l yX10_shake wsX10_shake rm_X10_shake (PR D cI cJ cZ [(qt, .inr (9, [.ref qt_book, .ref qt_now, .ref qt_flakes, .ref qt_leaks, .int v_music, .ref qt_ranks, .int v_sights, .ref qt_sight, .int v_signs, .ref qt_pad, .int v_freeAt, .int v_freeWho, .int v_reason, .int v_acts, .ref qt_gets, .ref qt_counts, .ref qt_worth, .ref qt_ways, .ref qt_image, .ref qt_isKept])), (qt_now, .inl (cI, 43, .inl v_now)), (qt_flakes, .inl (cI, 8, .inl v_flakes))] sz [.ref qt, .int p1, .int p2]) (QI D (va_A [(qt, .inr (9, [.ref qt_book, .ref qt_now, .ref qt_flakes, .ref qt_leaks, .int v_music, .ref qt_ranks, .int v_sights, .ref qt_sight, .int v_signs, .ref qt_pad, .int v_freeAt, .int v_freeWho, .int v_reason, .int v_acts, .ref qt_gets, .ref qt_counts, .ref qt_worth, .ref qt_ways, .ref qt_image, .ref qt_isKept])), (qt_now, .inl (cI, 43, .inl v_now)), (qt_flakes, .inl (cI, 8, .inl v_flakes))] sz) r [(qt, .inr (9, [.ref qt_book, .ref qt_now, .ref qt_flakes, .ref qt_leaks, .int v_music, .ref qt_ranks, .int v_sights, .ref qt_sight, .int v_signs, .ref qt_pad, .int v_freeAt, .int v_freeWho, .int v_reason, .int v_acts, .ref qt_gets, .ref qt_counts, .ref qt_worth, .ref qt_ways, .ref qt_image, .ref qt_isKept])), (qt_now, .inl (cI, 43, .inl w_now)), (qt_flakes, .inl (cI, 8, .inl v_flakes))]) 0 0 (va_A [(qt, .inr (9, [.ref qt_book, .ref qt_now, .ref qt_flakes, .ref qt_leaks, .int v_music, .ref qt_ranks, .int v_sights, .ref qt_sight, .int v_signs, .ref qt_pad, .int v_freeAt, .int v_freeWho, .int v_reason, .int v_acts, .ref qt_gets, .ref qt_counts, .ref qt_worth, .ref qt_ways, .ref qt_image, .ref qt_isKept])), (qt_now, .inl (cI, 43, .inl v_now)), (qt_flakes, .inl (cI, 8, .inl v_flakes))] sz) := by
  refine Met.ofW (cc := cX10_shake) (maxL := 5) (ret := (some .int)) (by decide) rfl ?_
  intro p e s m args below meth c s₁ B hml hv
  obtain ⟨hav, hsz, hP, hD0, hE⟩ := hv
  have hx := B.exec
  have hb := B.bytes
  have hr := B.returns
  have hts := atoms_spec (ws := wsX10_shake) B.pre
  have hown : s.vm.findClass RX10 = some m.cls := findClass_of_methodNamed B.named
  have hlocks := B.notSynchronized
  subst hsz
  have hD := hD0.self (sz := s.heap.size)
  generalize hAe : va_A [(qt, .inr (9, [.ref qt_book, .ref qt_now, .ref qt_flakes, .ref qt_leaks, .int v_music, .ref qt_ranks, .int v_sights, .ref qt_sight, .int v_signs, .ref qt_pad, .int v_freeAt, .int v_freeWho, .int v_reason, .int v_acts, .ref qt_gets, .ref qt_counts, .ref qt_worth, .ref qt_ways, .ref qt_image, .ref qt_isKept])), (qt_now, .inl (cI, 43, .inl v_now)), (qt_flakes, .inl (cI, 8, .inl v_flakes))] s.heap.size = A at hD ⊢
  have hA : ∀ q : Nat, s.heap.size ≤ q → A q := fun q h => by rw [← hAe]; exact Or.inr h
  have hS : va_S A s.heap s.heap [] := va_S.rf
  have hl := lv_entry ([.ref qt, .int p1, .int p2]) (n := 5) (Nat.le_of_ble_eq_true rfl)
  have hfr : entryFrame m args 5 = entryFrame m ([.ref qt, .int p1, .int p2] : List Value).toArray 5 := by rw [hav]
  rw [hfr, lg_entry_eq]
  generalize (lg_sl ([.ref qt, .int p1, .int p2]) ++ List.replicate (5 - (lg_sl ([.ref qt, .int p1, .int p2])).length) Slot.unset).toArray = ls at hl ⊢
  have hl : lv_has ls 5 [(0, .ref qt), (1, .int p1), (2, .int p2)] := hl
  obtain ⟨QQ, hQQ⟩ : ∃ QQ, QQ = MQ below (QI D A r [(qt, .inr (9, [.ref qt_book, .ref qt_now, .ref qt_flakes, .ref qt_leaks, .int v_music, .ref qt_ranks, .int v_sights, .ref qt_sight, .int v_signs, .ref qt_pad, .int v_freeAt, .int v_freeWho, .int v_reason, .int v_acts, .ref qt_gets, .ref qt_counts, .ref qt_worth, .ref qt_ways, .ref qt_image, .ref qt_isKept])), (qt_now, .inl (cI, 43, .inl w_now)), (qt_flakes, .inl (cI, 8, .inl v_flakes))]) args s 0 0 A := ⟨_, rfl⟩
  show W p l e rm_X10_shake s m args below meth c s.heap [] 0 0 _ _
  rw [← hQQ]
  have hL22 : ∀ (n22 : Nat), ∀ (v_now : (Nat → Int32)) (x3 : Int32) (H : Heap) (locs : List Loc) (ls : Array Slot), va_P D vwCl [(qt, .inr (9, [.ref qt_book, .ref qt_now, .ref qt_flakes, .ref qt_leaks, .int v_music, .ref qt_ranks, .int v_sights, .ref qt_sight, .int v_signs, .ref qt_pad, .int v_freeAt, .int v_freeWho, .int v_reason, .int v_acts, .ref qt_gets, .ref qt_counts, .ref qt_worth, .ref qt_ways, .ref qt_image, .ref qt_isKept])), (qt_now, .inl (cI, 43, .inl v_now)), (qt_flakes, .inl (cI, 8, .inl v_flakes))] H → va_D A [(qt, .inr (9, [.ref qt_book, .ref qt_now, .ref qt_flakes, .ref qt_leaks, .int v_music, .ref qt_ranks, .int v_sights, .ref qt_sight, .int v_signs, .ref qt_pad, .int v_freeAt, .int v_freeWho, .int v_reason, .int v_acts, .ref qt_gets, .ref qt_counts, .ref qt_worth, .ref qt_ways, .ref qt_image, .ref qt_isKept])), (qt_now, .inl (cI, 43, .inl v_now)), (qt_flakes, .inl (cI, 8, .inl v_flakes))] → va_S A s.heap H locs → lv_has ls 5 [(0, .ref qt), (1, .int p1), (2, .int p2), (3, .int x3)] → L_X10_shake_22 v_flakes p1 p2 n22 v_now x3 = some (r, w_now) → W p l e rm_X10_shake s m args below meth c H locs 0 0 QQ (F0 m 22 ls []) := by
    intro n22
    induction n22 with
    | zero =>
      intro v_now x3 H locs ls hP hD hS hl h
      have h : none = some (r, w_now) := h
      cases h
    | succ n22 ih22 =>
      have hB99 : ∀ (v_now : (Nat → Int32)) (x3 : Int32) (s0 : Int32) (s1 : Int32) (H : Heap) (locs : List Loc) (ls : Array Slot), va_P D vwCl [(qt, .inr (9, [.ref qt_book, .ref qt_now, .ref qt_flakes, .ref qt_leaks, .int v_music, .ref qt_ranks, .int v_sights, .ref qt_sight, .int v_signs, .ref qt_pad, .int v_freeAt, .int v_freeWho, .int v_reason, .int v_acts, .ref qt_gets, .ref qt_counts, .ref qt_worth, .ref qt_ways, .ref qt_image, .ref qt_isKept])), (qt_now, .inl (cI, 43, .inl v_now)), (qt_flakes, .inl (cI, 8, .inl v_flakes))] H → va_D A [(qt, .inr (9, [.ref qt_book, .ref qt_now, .ref qt_flakes, .ref qt_leaks, .int v_music, .ref qt_ranks, .int v_sights, .ref qt_sight, .int v_signs, .ref qt_pad, .int v_freeAt, .int v_freeWho, .int v_reason, .int v_acts, .ref qt_gets, .ref qt_counts, .ref qt_worth, .ref qt_ways, .ref qt_image, .ref qt_isKept])), (qt_now, .inl (cI, 43, .inl v_now)), (qt_flakes, .inl (cI, 8, .inl v_flakes))] → va_S A s.heap H locs → lv_has ls 5 [(0, .ref qt), (1, .int p1), (2, .int p2), (3, .int x3)] → B_X10_shake_99 v_flakes p1 p2 (L_X10_shake_22 v_flakes p1 p2 n22) v_now x3 s0 s1 = some (r, w_now) → W p l e rm_X10_shake s m args below meth c H locs 0 0 QQ (F0 m 99 ls [.int s0, .int s1, .ref qt_now]) := by
        intro v_now x3 s0 s1 H locs ls hP hD hS hl h
        unfold B_X10_shake_99 at h
        obtain ⟨hg, h⟩ := gin_some h
        refine va_iast hx hb hE.1 hP hD hS 1 0 rfl rfl hg dX10_shake_99 (fun H locs (hP : va_P D vwCl [(qt, .inr (9, [.ref qt_book, .ref qt_now, .ref qt_flakes, .ref qt_leaks, .int v_music, .ref qt_ranks, .int v_sights, .ref qt_sight, .int v_signs, .ref qt_pad, .int v_freeAt, .int v_freeWho, .int v_reason, .int v_acts, .ref qt_gets, .ref qt_counts, .ref qt_worth, .ref qt_ways, .ref qt_image, .ref qt_isKept])), (qt_now, .inl (cI, 43, .inl (upd v_now (Int32.toNatClampNeg s1) s0))), (qt_flakes, .inl (cI, 8, .inl v_flakes))] H) (hD : va_D A [(qt, .inr (9, [.ref qt_book, .ref qt_now, .ref qt_flakes, .ref qt_leaks, .int v_music, .ref qt_ranks, .int v_sights, .ref qt_sight, .int v_signs, .ref qt_pad, .int v_freeAt, .int v_freeWho, .int v_reason, .int v_acts, .ref qt_gets, .ref qt_counts, .ref qt_worth, .ref qt_ways, .ref qt_image, .ref qt_isKept])), (qt_now, .inl (cI, 43, .inl (upd v_now (Int32.toNatClampNeg s1) s0))), (qt_flakes, .inl (cI, 8, .inl v_flakes))]) hS => ?_)
        refine lv_aload_n hx hb dX10_shake_100 rfl (lv_at hl 0 rfl) ?_
        refine va_get (D := D) (ci := 9) (C := RX10) (T := TX10) (N := 20) hx hb hts (fun _ hw => (List.mem_cons_of_mem _ (List.mem_append_right _ hw))) hown hE.1 hP 0 rfl rfl 1 (by decide) (hts (.fieldLink RX10 13 "GlobeCrownModel" "now" "[I") (List.mem_cons_of_mem _ (List.mem_append_left _ (List.mem_of_getElem? (i := 0) rfl)))) (fun _ h9 => h9) rfl dX10_shake_101 ?_
        refine lv_bipush (v := 41) hx hb dX10_shake_104 (by decide) ?_
        refine lv_dup2_11 hx hb dX10_shake_106 rfl rfl ?_
        refine va_iald hx hb hE.1 hP 1 0 rfl rfl (jinb_in (by decide)) dX10_shake_107 ?_
        refine lv_aload_n hx hb dX10_shake_108 rfl (lv_at hl 0 rfl) ?_
        refine va_get (D := D) (ci := 9) (C := RX10) (T := TX10) (N := 20) hx hb hts (fun _ hw => (List.mem_cons_of_mem _ (List.mem_append_right _ hw))) hown hE.1 hP 0 rfl rfl 1 (by decide) (hts (.fieldLink RX10 13 "GlobeCrownModel" "now" "[I") (List.mem_cons_of_mem _ (List.mem_append_left _ (List.mem_of_getElem? (i := 0) rfl)))) (fun _ h9 => h9) rfl dX10_shake_109 ?_
        refine lv_bipush (v := 24) hx hb dX10_shake_112 (by decide) ?_
        refine lv_iload_n hx hb dX10_shake_114 rfl (lv_at hl 3 rfl) ?_
        refine lv_iadd hx hb dX10_shake_115 ?_
        obtain ⟨hg, h⟩ := gin_some h
        refine va_iald hx hb hE.1 hP 1 0 rfl rfl hg dX10_shake_116 ?_
        refine lv_iadd hx hb dX10_shake_117 ?_
        refine va_iast hx hb hE.1 hP hD hS 1 0 rfl rfl (jinb_in (by decide)) dX10_shake_118 (fun H locs (hP : va_P D vwCl [(qt, .inr (9, [.ref qt_book, .ref qt_now, .ref qt_flakes, .ref qt_leaks, .int v_music, .ref qt_ranks, .int v_sights, .ref qt_sight, .int v_signs, .ref qt_pad, .int v_freeAt, .int v_freeWho, .int v_reason, .int v_acts, .ref qt_gets, .ref qt_counts, .ref qt_worth, .ref qt_ways, .ref qt_image, .ref qt_isKept])), (qt_now, .inl (cI, 43, .inl (upd (upd v_now (Int32.toNatClampNeg s1) s0) (Int32.toNatClampNeg (41 : Int32)) (((upd v_now (Int32.toNatClampNeg s1) s0) (Int32.toNatClampNeg (41 : Int32))) + ((upd v_now (Int32.toNatClampNeg s1) s0) (Int32.toNatClampNeg ((24 : Int32) + x3))))))), (qt_flakes, .inl (cI, 8, .inl v_flakes))] H) (hD : va_D A [(qt, .inr (9, [.ref qt_book, .ref qt_now, .ref qt_flakes, .ref qt_leaks, .int v_music, .ref qt_ranks, .int v_sights, .ref qt_sight, .int v_signs, .ref qt_pad, .int v_freeAt, .int v_freeWho, .int v_reason, .int v_acts, .ref qt_gets, .ref qt_counts, .ref qt_worth, .ref qt_ways, .ref qt_image, .ref qt_isKept])), (qt_now, .inl (cI, 43, .inl (upd (upd v_now (Int32.toNatClampNeg s1) s0) (Int32.toNatClampNeg (41 : Int32)) (((upd v_now (Int32.toNatClampNeg s1) s0) (Int32.toNatClampNeg (41 : Int32))) + ((upd v_now (Int32.toNatClampNeg s1) s0) (Int32.toNatClampNeg ((24 : Int32) + x3))))))), (qt_flakes, .inl (cI, 8, .inl v_flakes))]) hS => ?_)
        refine lv_iinc (v := (x3 + (1 : Int32))) (lv' := [(3, .int (x3 + (1 : Int32))), (0, .ref qt), (1, .int p1), (2, .int p2)]) hx hb dX10_shake_119 hl (k := 3) rfl rfl (by decide) rfl (fun ls hl => ?_)
        refine lv_goto (tgt := 22) hx hb dX10_shake_122 (by decide) ?_
        exact ih22 (upd (upd v_now (Int32.toNatClampNeg s1) s0) (Int32.toNatClampNeg (41 : Int32)) (((upd v_now (Int32.toNatClampNeg s1) s0) (Int32.toNatClampNeg (41 : Int32))) + ((upd v_now (Int32.toNatClampNeg s1) s0) (Int32.toNatClampNeg ((24 : Int32) + x3))))) (x3 + (1 : Int32)) H locs ls hP hD hS (lv_sub hl [1, 2, 3, 0] rfl) h
      intro v_now x3 H locs ls hP hD hS hl h
      rw [L_X10_shake_22.eq_2] at h
      refine lv_iload_n hx hb dX10_shake_22 rfl (lv_at hl 3 rfl) ?_
      refine lv_bipush (v := 8) hx hb dX10_shake_23 (by decide) ?_
      refine lv_icmp_ge (tgt := 125) hx hb dX10_shake_25 (by decide) (fun hc => ?_) (fun hc => ?_)
      · have h := if_t hc h
        refine lv_iconst (v := 0) hx hb dX10_shake_125 (by decide) ?_
        cases h
        rw [hQQ]
        exact gw_iret hx hb hr hlocks hP hD hS dX10_shake_126
      · have h := if_f hc h
        refine lv_aload_n hx hb dX10_shake_28 rfl (lv_at hl 0 rfl) ?_
        refine lv_iload_n hx hb dX10_shake_29 rfl (lv_at hl 3 rfl) ?_
        obtain ⟨r30, hc30, h⟩ := bd1_some h
        refine gw_ci (wr := [(qt_flakes, .inl (cI, 8, .inl v_flakes))]) (w2 := [(qt_flakes, .inl (cI, 8, .inl v_flakes)), (qt, .inr (9, [.ref qt_book, .ref qt_now, .ref qt_flakes, .ref qt_leaks, .int v_music, .ref qt_ranks, .int v_sights, .ref qt_sight, .int v_signs, .ref qt_pad, .int v_freeAt, .int v_freeWho, .int v_reason, .int v_acts, .ref qt_gets, .ref qt_counts, .ref qt_worth, .ref qt_ways, .ref qt_image, .ref qt_isKept])), (qt_now, .inl (cI, 43, .inl v_now))]) (gw_rV (n := 1) ⟨hx, hb, hml, hown, hts⟩ (C_X10_stands l D cI cJ cZ H.size qt qt_book qt_now qt_flakes qt_leaks qt_ranks qt_sight qt_pad qt_gets qt_counts qt_worth qt_ways qt_image qt_isKept v_now v_music v_sights v_signs v_freeAt v_freeWho v_reason v_acts x3 r30 hc30) gX10_shake_X10_stands rfl rfl rfl hdV_X10_stands ⟨Nat.le_of_ble_eq_true rfl, Nat.le_of_ble_eq_true rfl⟩ hE (hP.sub [0, 1] rfl) (hD.sub [0, 1] (by decide) rfl) 9 rfl 0 rfl rfl hl.1 (rest := []) rfl (Nat.le_of_ble_eq_true rfl) dX10_shake_30 ⟨Nat.zero_le _, Nat.zero_le _⟩) hP hD hS hA [0, 1] [2] rfl rfl rfl (by decide) rfl (fun H locs hP hD hS => ?_)
        refine lv_if_eq (tgt := 119) hx hb dX10_shake_33 (by decide) (fun hc => ?_) (fun hc => ?_)
        · have h := if_t hc h
          refine lv_iinc (v := (x3 + (1 : Int32))) (lv' := [(3, .int (x3 + (1 : Int32))), (0, .ref qt), (1, .int p1), (2, .int p2)]) hx hb dX10_shake_119 hl (k := 3) rfl rfl (by decide) rfl (fun ls hl => ?_)
          refine lv_goto (tgt := 22) hx hb dX10_shake_122 (by decide) ?_
          exact ih22 v_now (x3 + (1 : Int32)) H locs ls (hP.sub [1, 2, 0] rfl) (hD.sub [1, 2, 0] (by decide) rfl) hS (lv_sub hl [1, 2, 3, 0] rfl) h
        · have h := if_f hc h
          refine lv_aload_n hx hb dX10_shake_36 rfl (lv_at hl 0 rfl) ?_
          refine lv_iload_n hx hb dX10_shake_37 rfl (lv_at hl 3 rfl) ?_
          obtain ⟨r38, hc38, h⟩ := bd1_some h
          refine gw_ci (wr := [(qt_flakes, .inl (cI, 8, .inl v_flakes))]) (w2 := [(qt_flakes, .inl (cI, 8, .inl v_flakes)), (qt, .inr (9, [.ref qt_book, .ref qt_now, .ref qt_flakes, .ref qt_leaks, .int v_music, .ref qt_ranks, .int v_sights, .ref qt_sight, .int v_signs, .ref qt_pad, .int v_freeAt, .int v_freeWho, .int v_reason, .int v_acts, .ref qt_gets, .ref qt_counts, .ref qt_worth, .ref qt_ways, .ref qt_image, .ref qt_isKept])), (qt_now, .inl (cI, 43, .inl v_now))]) (gw_rV (n := 1) ⟨hx, hb, hml, hown, hts⟩ (C_X10_isFree l D cI cJ cZ H.size qt qt_book qt_now qt_flakes qt_leaks qt_ranks qt_sight qt_pad qt_gets qt_counts qt_worth qt_ways qt_image qt_isKept v_now v_music v_sights v_signs v_freeAt v_freeWho v_reason v_acts x3 r38 hc38) gX10_shake_X10_isFree rfl rfl rfl hdV_X10_isFree ⟨Nat.le_of_ble_eq_true rfl, Nat.le_of_ble_eq_true rfl⟩ hE (hP.sub [1, 2] rfl) (hD.sub [1, 2] (by decide) rfl) 9 rfl 0 rfl rfl hl.1 (rest := []) rfl (Nat.le_of_ble_eq_true rfl) dX10_shake_38 ⟨Nat.zero_le _, Nat.zero_le _⟩) hP hD hS hA [1, 2] [0] rfl rfl rfl (by decide) rfl (fun H locs hP hD hS => ?_)
          refine lv_if_ne (tgt := 119) hx hb dX10_shake_41 (by decide) (fun hc => ?_) (fun hc => ?_)
          · have h := if_f hc h
            refine lv_iinc (v := (x3 + (1 : Int32))) (lv' := [(3, .int (x3 + (1 : Int32))), (0, .ref qt), (1, .int p1), (2, .int p2)]) hx hb dX10_shake_119 hl (k := 3) rfl rfl (by decide) rfl (fun ls hl => ?_)
            refine lv_goto (tgt := 22) hx hb dX10_shake_122 (by decide) ?_
            exact ih22 v_now (x3 + (1 : Int32)) H locs ls (hP.sub [1, 2, 0] rfl) (hD.sub [1, 2, 0] (by decide) rfl) hS (lv_sub hl [1, 2, 3, 0] rfl) h
          · have h := if_t hc h
            refine lv_aload_n hx hb dX10_shake_44 rfl (lv_at hl 0 rfl) ?_
            refine lv_iload_n hx hb dX10_shake_45 rfl (lv_at hl 3 rfl) ?_
            refine lv_iload_n hx hb dX10_shake_46 rfl (lv_at hl 1 rfl) ?_
            obtain ⟨r47, hc47, h⟩ := bd1_some h
            refine gw_ci (wr := [(qt_flakes, .inl (cI, 8, .inl v_flakes))]) (w2 := [(qt_flakes, .inl (cI, 8, .inl v_flakes)), (qt, .inr (9, [.ref qt_book, .ref qt_now, .ref qt_flakes, .ref qt_leaks, .int v_music, .ref qt_ranks, .int v_sights, .ref qt_sight, .int v_signs, .ref qt_pad, .int v_freeAt, .int v_freeWho, .int v_reason, .int v_acts, .ref qt_gets, .ref qt_counts, .ref qt_worth, .ref qt_ways, .ref qt_image, .ref qt_isKept])), (qt_now, .inl (cI, 43, .inl v_now))]) (gw_rV (n := 2) ⟨hx, hb, hml, hown, hts⟩ (C_X10_isWithin l D cI cJ cZ H.size qt qt_book qt_now qt_flakes qt_leaks qt_ranks qt_sight qt_pad qt_gets qt_counts qt_worth qt_ways qt_image qt_isKept v_now v_music v_sights v_signs v_freeAt v_freeWho v_reason v_acts x3 p1 r47 hc47) gX10_shake_X10_isWithin rfl rfl rfl hdV_X10_isWithin ⟨Nat.le_of_ble_eq_true rfl, Nat.le_of_ble_eq_true rfl⟩ hE (hP.sub [1, 2] rfl) (hD.sub [1, 2] (by decide) rfl) 9 rfl 0 rfl rfl hl.1 (rest := []) rfl (Nat.le_of_ble_eq_true rfl) dX10_shake_47 ⟨Nat.zero_le _, Nat.zero_le _⟩) hP hD hS hA [1, 2] [0] rfl rfl rfl (by decide) rfl (fun H locs hP hD hS => ?_)
            refine lv_if_eq (tgt := 119) hx hb dX10_shake_50 (by decide) (fun hc => ?_) (fun hc => ?_)
            · have h := if_t hc h
              refine lv_iinc (v := (x3 + (1 : Int32))) (lv' := [(3, .int (x3 + (1 : Int32))), (0, .ref qt), (1, .int p1), (2, .int p2)]) hx hb dX10_shake_119 hl (k := 3) rfl rfl (by decide) rfl (fun ls hl => ?_)
              refine lv_goto (tgt := 22) hx hb dX10_shake_122 (by decide) ?_
              exact ih22 v_now (x3 + (1 : Int32)) H locs ls (hP.sub [1, 2, 0] rfl) (hD.sub [1, 2, 0] (by decide) rfl) hS (lv_sub hl [1, 2, 3, 0] rfl) h
            · have h := if_f hc h
              refine lv_aload_n hx hb dX10_shake_53 rfl (lv_at hl 0 rfl) ?_
              refine va_get (D := D) (ci := 9) (C := RX10) (T := TX10) (N := 20) hx hb hts (fun _ hw => (List.mem_cons_of_mem _ (List.mem_append_right _ hw))) hown hE.1 hP 1 rfl rfl 1 (by decide) (hts (.fieldLink RX10 13 "GlobeCrownModel" "now" "[I") (List.mem_cons_of_mem _ (List.mem_append_left _ (List.mem_of_getElem? (i := 0) rfl)))) (fun _ h9 => h9) rfl dX10_shake_54 ?_
              refine lv_bipush (v := 8) hx hb dX10_shake_57 (by decide) ?_
              refine lv_iload_n hx hb dX10_shake_59 rfl (lv_at hl 3 rfl) ?_
              refine lv_iadd hx hb dX10_shake_60 ?_
              obtain ⟨hg, h⟩ := gin_some h
              refine va_iald hx hb hE.1 hP 2 0 rfl rfl hg dX10_shake_61 ?_
              refine lv_bipush (v := 10) hx hb dX10_shake_62 (by decide) ?_
              refine lv_iload_n hx hb dX10_shake_64 rfl (lv_at hl 2 rfl) ?_
              refine lv_imul hx hb dX10_shake_65 ?_
              refine lv_iadd hx hb dX10_shake_66 ?_
              refine lv_istore (lv' := [(4, .int ((v_now (Int32.toNatClampNeg ((8 : Int32) + x3))) + ((10 : Int32) * p2))), (0, .ref qt), (1, .int p1), (2, .int p2), (3, .int x3)]) hx hb dX10_shake_67 hl (by decide) rfl (fun ls hl => ?_)
              refine lv_aload_n hx hb dX10_shake_69 rfl (lv_at hl 1 rfl) ?_
              refine va_get (D := D) (ci := 9) (C := RX10) (T := TX10) (N := 20) hx hb hts (fun _ hw => (List.mem_cons_of_mem _ (List.mem_append_right _ hw))) hown hE.1 hP 1 rfl rfl 1 (by decide) (hts (.fieldLink RX10 13 "GlobeCrownModel" "now" "[I") (List.mem_cons_of_mem _ (List.mem_append_left _ (List.mem_of_getElem? (i := 0) rfl)))) (fun _ h9 => h9) rfl dX10_shake_70 ?_
              refine lv_bipush (v := 8) hx hb dX10_shake_73 (by decide) ?_
              refine lv_iload_n hx hb dX10_shake_75 rfl (lv_at hl 4 rfl) ?_
              refine lv_iadd hx hb dX10_shake_76 ?_
              refine lv_iload hx hb dX10_shake_77 (lv_at hl 0 rfl) ?_
              refine lv_aload_n hx hb dX10_shake_79 rfl (lv_at hl 1 rfl) ?_
              refine va_get (D := D) (ci := 9) (C := RX10) (T := TX10) (N := 20) hx hb hts (fun _ hw => (List.mem_cons_of_mem _ (List.mem_append_right _ hw))) hown hE.1 hP 1 rfl rfl 2 (by decide) (hts (.fieldLink RX10 16 "GlobeCrownModel" "flakes" "[I") (List.mem_cons_of_mem _ (List.mem_append_left _ (List.mem_of_getElem? (i := 1) rfl)))) (fun _ h9 => h9) rfl dX10_shake_80 ?_
              refine lv_iload_n hx hb dX10_shake_83 rfl (lv_at hl 4 rfl) ?_
              obtain ⟨hg, h⟩ := gin_some h
              refine va_iald hx hb hE.1 hP 0 0 rfl rfl hg dX10_shake_84 ?_
              refine lv_icmp_le (tgt := 97) hx hb dX10_shake_85 (by decide) (fun hc => ?_) (fun hc => ?_)
              · have h := if_t hc h
                refine lv_iload hx hb dX10_shake_97 (lv_at hl 0 rfl) ?_
                exact hB99 v_now x3 ((v_now (Int32.toNatClampNeg ((8 : Int32) + x3))) + ((10 : Int32) * p2)) ((8 : Int32) + x3) H locs ls (hP.sub [1, 2, 0] rfl) (hD.sub [1, 2, 0] (by decide) rfl) hS (lv_sub hl [1, 2, 3, 4] rfl) h
              · have h := if_f hc h
                refine lv_aload_n hx hb dX10_shake_88 rfl (lv_at hl 1 rfl) ?_
                refine va_get (D := D) (ci := 9) (C := RX10) (T := TX10) (N := 20) hx hb hts (fun _ hw => (List.mem_cons_of_mem _ (List.mem_append_right _ hw))) hown hE.1 hP 1 rfl rfl 2 (by decide) (hts (.fieldLink RX10 16 "GlobeCrownModel" "flakes" "[I") (List.mem_cons_of_mem _ (List.mem_append_left _ (List.mem_of_getElem? (i := 1) rfl)))) (fun _ h9 => h9) rfl dX10_shake_89 ?_
                refine lv_iload_n hx hb dX10_shake_92 rfl (lv_at hl 4 rfl) ?_
                obtain ⟨hg, h⟩ := gin_some h
                refine va_iald hx hb hE.1 hP 0 0 rfl rfl hg dX10_shake_93 ?_
                refine lv_goto (tgt := 99) hx hb dX10_shake_94 (by decide) ?_
                exact hB99 v_now x3 (v_flakes (Int32.toNatClampNeg x3)) ((8 : Int32) + x3) H locs ls (hP.sub [1, 2, 0] rfl) (hD.sub [1, 2, 0] (by decide) rfl) hS (lv_sub hl [1, 2, 3, 4] rfl) h
  have h := hf
  unfold f_X10_shake at h
  refine gw_start hP hD hS (fun H locs hP hD hS => ?_)
  refine lv_aload_n hx hb dX10_shake_0 rfl (lv_at hl 0 rfl) ?_
  refine lv_iload_n hx hb dX10_shake_1 rfl (lv_at hl 1 rfl) ?_
  obtain ⟨r2, hc2, h⟩ := bd1_some h
  refine gw_ci (wr := [(qt_flakes, .inl (cI, 8, .inl v_flakes))]) (w2 := [(qt_flakes, .inl (cI, 8, .inl v_flakes)), (qt, .inr (9, [.ref qt_book, .ref qt_now, .ref qt_flakes, .ref qt_leaks, .int v_music, .ref qt_ranks, .int v_sights, .ref qt_sight, .int v_signs, .ref qt_pad, .int v_freeAt, .int v_freeWho, .int v_reason, .int v_acts, .ref qt_gets, .ref qt_counts, .ref qt_worth, .ref qt_ways, .ref qt_image, .ref qt_isKept])), (qt_now, .inl (cI, 43, .inl v_now))]) (gw_rV (n := 1) ⟨hx, hb, hml, hown, hts⟩ (C_X10_stands l D cI cJ cZ H.size qt qt_book qt_now qt_flakes qt_leaks qt_ranks qt_sight qt_pad qt_gets qt_counts qt_worth qt_ways qt_image qt_isKept v_now v_music v_sights v_signs v_freeAt v_freeWho v_reason v_acts p1 r2 hc2) gX10_shake_X10_stands rfl rfl rfl hdV_X10_stands ⟨Nat.le_of_ble_eq_true rfl, Nat.le_of_ble_eq_true rfl⟩ hE (hP.sub [0, 1] rfl) (hD.sub [0, 1] (by decide) rfl) 9 rfl 0 rfl rfl hl.1 (rest := []) rfl (Nat.le_of_ble_eq_true rfl) dX10_shake_2 ⟨Nat.zero_le _, Nat.zero_le _⟩) hP hD hS hA [0, 1] [2] rfl rfl rfl (by decide) rfl (fun H locs hP hD hS => ?_)
  refine lv_if_ne (tgt := 10) hx hb dX10_shake_5 (by decide) (fun hc => ?_) (fun hc => ?_)
  · have h := if_f hc h
    refine lv_aload_n hx hb dX10_shake_10 rfl (lv_at hl 0 rfl) ?_
    refine lv_iload_n hx hb dX10_shake_11 rfl (lv_at hl 1 rfl) ?_
    obtain ⟨r12, hc12, h⟩ := bd1_some h
    refine gw_ci (wr := [(qt_flakes, .inl (cI, 8, .inl v_flakes))]) (w2 := [(qt_flakes, .inl (cI, 8, .inl v_flakes)), (qt, .inr (9, [.ref qt_book, .ref qt_now, .ref qt_flakes, .ref qt_leaks, .int v_music, .ref qt_ranks, .int v_sights, .ref qt_sight, .int v_signs, .ref qt_pad, .int v_freeAt, .int v_freeWho, .int v_reason, .int v_acts, .ref qt_gets, .ref qt_counts, .ref qt_worth, .ref qt_ways, .ref qt_image, .ref qt_isKept])), (qt_now, .inl (cI, 43, .inl v_now))]) (gw_rV (n := 1) ⟨hx, hb, hml, hown, hts⟩ (C_X10_isFree l D cI cJ cZ H.size qt qt_book qt_now qt_flakes qt_leaks qt_ranks qt_sight qt_pad qt_gets qt_counts qt_worth qt_ways qt_image qt_isKept v_now v_music v_sights v_signs v_freeAt v_freeWho v_reason v_acts p1 r12 hc12) gX10_shake_X10_isFree rfl rfl rfl hdV_X10_isFree ⟨Nat.le_of_ble_eq_true rfl, Nat.le_of_ble_eq_true rfl⟩ hE (hP.sub [1, 2] rfl) (hD.sub [1, 2] (by decide) rfl) 9 rfl 0 rfl rfl hl.1 (rest := []) rfl (Nat.le_of_ble_eq_true rfl) dX10_shake_12 ⟨Nat.zero_le _, Nat.zero_le _⟩) hP hD hS hA [1, 2] [0] rfl rfl rfl (by decide) rfl (fun H locs hP hD hS => ?_)
    refine lv_if_eq (tgt := 20) hx hb dX10_shake_15 (by decide) (fun hc => ?_) (fun hc => ?_)
    · have h := if_t hc h
      refine lv_iconst (v := 0) hx hb dX10_shake_20 (by decide) ?_
      refine lv_istore_n (lv' := [(3, .int (0 : Int32)), (0, .ref qt), (1, .int p1), (2, .int p2)]) hx hb dX10_shake_21 rfl hl (by decide) rfl (fun ls hl => ?_)
      exact hL22 FU v_now (0 : Int32) H locs ls (hP.sub [1, 2, 0] rfl) (hD.sub [1, 2, 0] (by decide) rfl) hS (lv_sub hl [1, 2, 3, 0] rfl) h
    · have h := if_f hc h
      refine lv_iconst (v := 2) hx hb dX10_shake_18 (by decide) ?_
      cases h
      rw [hQQ]
      exact gw_iret hx hb hr hlocks (hP.sub [1, 2, 0] rfl) (hD.sub [1, 2, 0] (by decide) rfl) hS dX10_shake_19
  · have h := if_t hc h
    refine lv_iconst (v := 1) hx hb dX10_shake_8 (by decide) ?_
    cases h
    rw [hQQ]
    exact gw_iret hx hb hr hlocks (hP.sub [1, 2, 0] rfl) (hD.sub [1, 2, 0] (by decide) rfl) hS dX10_shake_9
theorem hdV_X10_shake : yX10_shake.cls = RX10 ∧ yX10_shake.cls ≠ "java/lang/invoke/MethodHandle" ∧ yX10_shake.cls ≠ "java/lang/invoke/VarHandle" ∧ (parseMethodDescriptor yX10_shake.desc).map (fun d => d.parameters.length) = some 2 := by decide +kernel
def B_X10_pour_60 (p1 : Int32) (p2 : Int32) (v_now : (Nat → Int32)) (s0 : Int32) (s1 : Int32) (s2 : Int32) : Option (Int32 × (Nat → Int32)) := (gin s2 43 (some ((0 : Int32), (upd v_now (Int32.toNatClampNeg s2) (s1 + s0)))))
def f_X10_pour (v_now : (Nat → Int32)) (p1 : Int32) (p2 : Int32) : Option (Int32 × (Nat → Int32)) := (bd1 (f_X10_stands v_now p1) (fun r2 => (if r2 = (0 : Int32) then (some ((1 : Int32), v_now)) else (gin p1 43 (if (v_now (Int32.toNatClampNeg p1)) = (99 : Int32) then (some ((5 : Int32), v_now)) else (gin p1 43 (gin ((16 : Int32) + p1) 43 (gin ((16 : Int32) + p1) 43 (if (9 : Int32) ≤ ((upd v_now (Int32.toNatClampNeg p1) (99 : Int32)) (Int32.toNatClampNeg ((16 : Int32) + p1))) then (B_X10_pour_60 p1 p2 (upd v_now (Int32.toNatClampNeg p1) (99 : Int32)) (0 : Int32) ((upd v_now (Int32.toNatClampNeg p1) (99 : Int32)) (Int32.toNatClampNeg ((16 : Int32) + p1))) ((16 : Int32) + p1)) else (B_X10_pour_60 p1 p2 (upd v_now (Int32.toNatClampNeg p1) (99 : Int32)) p2 ((upd v_now (Int32.toNatClampNeg p1) (99 : Int32)) (Int32.toNatClampNeg ((16 : Int32) + p1))) ((16 : Int32) + p1)))))))))))
abbrev rm_X10_pour : Room := { frames := 2, cells := 0, slots := 0, locals := 42 }
set_option maxHeartbeats 4000000 in
set_option maxRecDepth 100000 in
theorem C_X10_pour (l : Launch) (D : va_G) (cI cJ cZ : ClassId) (sz : Nat) (qt qt_book qt_now qt_flakes qt_leaks qt_ranks qt_sight qt_pad qt_gets qt_counts qt_worth qt_ways qt_image qt_isKept : Nat) (v_now : (Nat → Int32)) (v_music : Int32) (v_sights : Int32) (v_signs : Int32) (v_freeAt : Int32) (v_freeWho : Int32) (v_reason : Int32) (v_acts : Int32) (p1 : Int32) (p2 : Int32) (r : Int32) (w_now : (Nat → Int32)) (hf : f_X10_pour v_now p1 p2 = some (r, w_now)) : Met l yX10_pour wsX10_pour rm_X10_pour (PR D cI cJ cZ [(qt, .inr (9, [.ref qt_book, .ref qt_now, .ref qt_flakes, .ref qt_leaks, .int v_music, .ref qt_ranks, .int v_sights, .ref qt_sight, .int v_signs, .ref qt_pad, .int v_freeAt, .int v_freeWho, .int v_reason, .int v_acts, .ref qt_gets, .ref qt_counts, .ref qt_worth, .ref qt_ways, .ref qt_image, .ref qt_isKept])), (qt_now, .inl (cI, 43, .inl v_now))] sz [.ref qt, .int p1, .int p2]) (QI D (va_A [(qt, .inr (9, [.ref qt_book, .ref qt_now, .ref qt_flakes, .ref qt_leaks, .int v_music, .ref qt_ranks, .int v_sights, .ref qt_sight, .int v_signs, .ref qt_pad, .int v_freeAt, .int v_freeWho, .int v_reason, .int v_acts, .ref qt_gets, .ref qt_counts, .ref qt_worth, .ref qt_ways, .ref qt_image, .ref qt_isKept])), (qt_now, .inl (cI, 43, .inl v_now))] sz) r [(qt, .inr (9, [.ref qt_book, .ref qt_now, .ref qt_flakes, .ref qt_leaks, .int v_music, .ref qt_ranks, .int v_sights, .ref qt_sight, .int v_signs, .ref qt_pad, .int v_freeAt, .int v_freeWho, .int v_reason, .int v_acts, .ref qt_gets, .ref qt_counts, .ref qt_worth, .ref qt_ways, .ref qt_image, .ref qt_isKept])), (qt_now, .inl (cI, 43, .inl w_now))]) 0 0 (va_A [(qt, .inr (9, [.ref qt_book, .ref qt_now, .ref qt_flakes, .ref qt_leaks, .int v_music, .ref qt_ranks, .int v_sights, .ref qt_sight, .int v_signs, .ref qt_pad, .int v_freeAt, .int v_freeWho, .int v_reason, .int v_acts, .ref qt_gets, .ref qt_counts, .ref qt_worth, .ref qt_ways, .ref qt_image, .ref qt_isKept])), (qt_now, .inl (cI, 43, .inl v_now))] sz) := by
  refine Met.ofW (cc := cX10_pour) (maxL := 3) (ret := (some .int)) (by decide) rfl ?_
  intro p e s m args below meth c s₁ B hml hv
  obtain ⟨hav, hsz, hP, hD0, hE⟩ := hv
  have hx := B.exec
  have hb := B.bytes
  have hr := B.returns
  have hts := atoms_spec (ws := wsX10_pour) B.pre
  have hown : s.vm.findClass RX10 = some m.cls := findClass_of_methodNamed B.named
  have hlocks := B.notSynchronized
  subst hsz
  have hD := hD0.self (sz := s.heap.size)
  generalize hAe : va_A [(qt, .inr (9, [.ref qt_book, .ref qt_now, .ref qt_flakes, .ref qt_leaks, .int v_music, .ref qt_ranks, .int v_sights, .ref qt_sight, .int v_signs, .ref qt_pad, .int v_freeAt, .int v_freeWho, .int v_reason, .int v_acts, .ref qt_gets, .ref qt_counts, .ref qt_worth, .ref qt_ways, .ref qt_image, .ref qt_isKept])), (qt_now, .inl (cI, 43, .inl v_now))] s.heap.size = A at hD ⊢
  have hA : ∀ q : Nat, s.heap.size ≤ q → A q := fun q h => by rw [← hAe]; exact Or.inr h
  have hS : va_S A s.heap s.heap [] := va_S.rf
  have hl := lv_entry ([.ref qt, .int p1, .int p2]) (n := 3) (Nat.le_of_ble_eq_true rfl)
  have hfr : entryFrame m args 3 = entryFrame m ([.ref qt, .int p1, .int p2] : List Value).toArray 3 := by rw [hav]
  rw [hfr, lg_entry_eq]
  generalize (lg_sl ([.ref qt, .int p1, .int p2]) ++ List.replicate (3 - (lg_sl ([.ref qt, .int p1, .int p2])).length) Slot.unset).toArray = ls at hl ⊢
  have hl : lv_has ls 3 [(0, .ref qt), (1, .int p1), (2, .int p2)] := hl
  obtain ⟨QQ, hQQ⟩ : ∃ QQ, QQ = MQ below (QI D A r [(qt, .inr (9, [.ref qt_book, .ref qt_now, .ref qt_flakes, .ref qt_leaks, .int v_music, .ref qt_ranks, .int v_sights, .ref qt_sight, .int v_signs, .ref qt_pad, .int v_freeAt, .int v_freeWho, .int v_reason, .int v_acts, .ref qt_gets, .ref qt_counts, .ref qt_worth, .ref qt_ways, .ref qt_image, .ref qt_isKept])), (qt_now, .inl (cI, 43, .inl w_now))]) args s 0 0 A := ⟨_, rfl⟩
  show W p l e rm_X10_pour s m args below meth c s.heap [] 0 0 _ _
  rw [← hQQ]
  have hB60 : ∀ (v_now : (Nat → Int32)) (s0 : Int32) (s1 : Int32) (s2 : Int32) (H : Heap) (locs : List Loc) (ls : Array Slot), va_P D vwCl [(qt, .inr (9, [.ref qt_book, .ref qt_now, .ref qt_flakes, .ref qt_leaks, .int v_music, .ref qt_ranks, .int v_sights, .ref qt_sight, .int v_signs, .ref qt_pad, .int v_freeAt, .int v_freeWho, .int v_reason, .int v_acts, .ref qt_gets, .ref qt_counts, .ref qt_worth, .ref qt_ways, .ref qt_image, .ref qt_isKept])), (qt_now, .inl (cI, 43, .inl v_now))] H → va_D A [(qt, .inr (9, [.ref qt_book, .ref qt_now, .ref qt_flakes, .ref qt_leaks, .int v_music, .ref qt_ranks, .int v_sights, .ref qt_sight, .int v_signs, .ref qt_pad, .int v_freeAt, .int v_freeWho, .int v_reason, .int v_acts, .ref qt_gets, .ref qt_counts, .ref qt_worth, .ref qt_ways, .ref qt_image, .ref qt_isKept])), (qt_now, .inl (cI, 43, .inl v_now))] → va_S A s.heap H locs → lv_has ls 3 [] → B_X10_pour_60 p1 p2 v_now s0 s1 s2 = some (r, w_now) → W p l e rm_X10_pour s m args below meth c H locs 0 0 QQ (F0 m 60 ls [.int s0, .int s1, .int s2, .ref qt_now]) := by
    intro v_now s0 s1 s2 H locs ls hP hD hS hl h
    unfold B_X10_pour_60 at h
    refine lv_iadd hx hb dX10_pour_60 ?_
    obtain ⟨hg, h⟩ := gin_some h
    refine va_iast hx hb hE.1 hP hD hS 1 0 rfl rfl hg dX10_pour_61 (fun H locs (hP : va_P D vwCl [(qt, .inr (9, [.ref qt_book, .ref qt_now, .ref qt_flakes, .ref qt_leaks, .int v_music, .ref qt_ranks, .int v_sights, .ref qt_sight, .int v_signs, .ref qt_pad, .int v_freeAt, .int v_freeWho, .int v_reason, .int v_acts, .ref qt_gets, .ref qt_counts, .ref qt_worth, .ref qt_ways, .ref qt_image, .ref qt_isKept])), (qt_now, .inl (cI, 43, .inl (upd v_now (Int32.toNatClampNeg s2) (s1 + s0))))] H) (hD : va_D A [(qt, .inr (9, [.ref qt_book, .ref qt_now, .ref qt_flakes, .ref qt_leaks, .int v_music, .ref qt_ranks, .int v_sights, .ref qt_sight, .int v_signs, .ref qt_pad, .int v_freeAt, .int v_freeWho, .int v_reason, .int v_acts, .ref qt_gets, .ref qt_counts, .ref qt_worth, .ref qt_ways, .ref qt_image, .ref qt_isKept])), (qt_now, .inl (cI, 43, .inl (upd v_now (Int32.toNatClampNeg s2) (s1 + s0))))]) hS => ?_)
    refine lv_iconst (v := 0) hx hb dX10_pour_62 (by decide) ?_
    cases h
    rw [hQQ]
    exact gw_iret hx hb hr hlocks hP hD hS dX10_pour_63
  have h := hf
  unfold f_X10_pour at h
  refine gw_start hP hD hS (fun H locs hP hD hS => ?_)
  refine lv_aload_n hx hb dX10_pour_0 rfl (lv_at hl 0 rfl) ?_
  refine lv_iload_n hx hb dX10_pour_1 rfl (lv_at hl 1 rfl) ?_
  obtain ⟨r2, hc2, h⟩ := bd1_some h
  refine gw_ci (wr := []) (w2 := [(qt, .inr (9, [.ref qt_book, .ref qt_now, .ref qt_flakes, .ref qt_leaks, .int v_music, .ref qt_ranks, .int v_sights, .ref qt_sight, .int v_signs, .ref qt_pad, .int v_freeAt, .int v_freeWho, .int v_reason, .int v_acts, .ref qt_gets, .ref qt_counts, .ref qt_worth, .ref qt_ways, .ref qt_image, .ref qt_isKept])), (qt_now, .inl (cI, 43, .inl v_now))]) (gw_rV (n := 1) ⟨hx, hb, hml, hown, hts⟩ (C_X10_stands l D cI cJ cZ H.size qt qt_book qt_now qt_flakes qt_leaks qt_ranks qt_sight qt_pad qt_gets qt_counts qt_worth qt_ways qt_image qt_isKept v_now v_music v_sights v_signs v_freeAt v_freeWho v_reason v_acts p1 r2 hc2) gX10_pour_X10_stands rfl rfl rfl hdV_X10_stands ⟨Nat.le_of_ble_eq_true rfl, Nat.le_of_ble_eq_true rfl⟩ hE (hP.sub [0, 1] rfl) (hD.sub [0, 1] (by decide) rfl) 9 rfl 0 rfl rfl hl.1 (rest := []) rfl (Nat.le_of_ble_eq_true rfl) dX10_pour_2 ⟨Nat.zero_le _, Nat.zero_le _⟩) hP hD hS hA [0, 1] [] rfl rfl rfl (by decide) rfl (fun H locs hP hD hS => ?_)
  refine lv_if_ne (tgt := 10) hx hb dX10_pour_5 (by decide) (fun hc => ?_) (fun hc => ?_)
  · have h := if_f hc h
    refine lv_aload_n hx hb dX10_pour_10 rfl (lv_at hl 0 rfl) ?_
    refine va_get (D := D) (ci := 9) (C := RX10) (T := TX10) (N := 20) hx hb hts (fun _ hw => (List.mem_cons_of_mem _ (List.mem_append_right _ hw))) hown hE.1 hP 0 rfl rfl 1 (by decide) (hts (.fieldLink RX10 13 "GlobeCrownModel" "now" "[I") (List.mem_cons_of_mem _ (List.mem_append_left _ (List.mem_of_getElem? (i := 0) rfl)))) (fun _ h9 => h9) rfl dX10_pour_11 ?_
    refine lv_iload_n hx hb dX10_pour_14 rfl (lv_at hl 1 rfl) ?_
    obtain ⟨hg, h⟩ := gin_some h
    refine va_iald hx hb hE.1 hP 1 0 rfl rfl hg dX10_pour_15 ?_
    refine lv_bipush (v := 99) hx hb dX10_pour_16 (by decide) ?_
    refine lv_icmp_ne (tgt := 23) hx hb dX10_pour_18 (by decide) (fun hc => ?_) (fun hc => ?_)
    · have h := if_f hc h
      refine lv_aload_n hx hb dX10_pour_23 rfl (lv_at hl 0 rfl) ?_
      refine va_get (D := D) (ci := 9) (C := RX10) (T := TX10) (N := 20) hx hb hts (fun _ hw => (List.mem_cons_of_mem _ (List.mem_append_right _ hw))) hown hE.1 hP 0 rfl rfl 1 (by decide) (hts (.fieldLink RX10 13 "GlobeCrownModel" "now" "[I") (List.mem_cons_of_mem _ (List.mem_append_left _ (List.mem_of_getElem? (i := 0) rfl)))) (fun _ h9 => h9) rfl dX10_pour_24 ?_
      refine lv_iload_n hx hb dX10_pour_27 rfl (lv_at hl 1 rfl) ?_
      refine lv_bipush (v := 99) hx hb dX10_pour_28 (by decide) ?_
      obtain ⟨hg, h⟩ := gin_some h
      refine va_iast hx hb hE.1 hP hD hS 1 0 rfl rfl hg dX10_pour_30 (fun H locs (hP : va_P D vwCl [(qt, .inr (9, [.ref qt_book, .ref qt_now, .ref qt_flakes, .ref qt_leaks, .int v_music, .ref qt_ranks, .int v_sights, .ref qt_sight, .int v_signs, .ref qt_pad, .int v_freeAt, .int v_freeWho, .int v_reason, .int v_acts, .ref qt_gets, .ref qt_counts, .ref qt_worth, .ref qt_ways, .ref qt_image, .ref qt_isKept])), (qt_now, .inl (cI, 43, .inl (upd v_now (Int32.toNatClampNeg p1) (99 : Int32))))] H) (hD : va_D A [(qt, .inr (9, [.ref qt_book, .ref qt_now, .ref qt_flakes, .ref qt_leaks, .int v_music, .ref qt_ranks, .int v_sights, .ref qt_sight, .int v_signs, .ref qt_pad, .int v_freeAt, .int v_freeWho, .int v_reason, .int v_acts, .ref qt_gets, .ref qt_counts, .ref qt_worth, .ref qt_ways, .ref qt_image, .ref qt_isKept])), (qt_now, .inl (cI, 43, .inl (upd v_now (Int32.toNatClampNeg p1) (99 : Int32))))]) hS => ?_)
      refine lv_aload_n hx hb dX10_pour_31 rfl (lv_at hl 0 rfl) ?_
      refine va_get (D := D) (ci := 9) (C := RX10) (T := TX10) (N := 20) hx hb hts (fun _ hw => (List.mem_cons_of_mem _ (List.mem_append_right _ hw))) hown hE.1 hP 0 rfl rfl 1 (by decide) (hts (.fieldLink RX10 13 "GlobeCrownModel" "now" "[I") (List.mem_cons_of_mem _ (List.mem_append_left _ (List.mem_of_getElem? (i := 0) rfl)))) (fun _ h9 => h9) rfl dX10_pour_32 ?_
      refine lv_bipush (v := 16) hx hb dX10_pour_35 (by decide) ?_
      refine lv_iload_n hx hb dX10_pour_37 rfl (lv_at hl 1 rfl) ?_
      refine lv_iadd hx hb dX10_pour_38 ?_
      refine lv_dup2_11 hx hb dX10_pour_39 rfl rfl ?_
      obtain ⟨hg, h⟩ := gin_some h
      refine va_iald hx hb hE.1 hP 1 0 rfl rfl hg dX10_pour_40 ?_
      refine lv_aload_n hx hb dX10_pour_41 rfl (lv_at hl 0 rfl) ?_
      refine va_get (D := D) (ci := 9) (C := RX10) (T := TX10) (N := 20) hx hb hts (fun _ hw => (List.mem_cons_of_mem _ (List.mem_append_right _ hw))) hown hE.1 hP 0 rfl rfl 1 (by decide) (hts (.fieldLink RX10 13 "GlobeCrownModel" "now" "[I") (List.mem_cons_of_mem _ (List.mem_append_left _ (List.mem_of_getElem? (i := 0) rfl)))) (fun _ h9 => h9) rfl dX10_pour_42 ?_
      refine lv_bipush (v := 16) hx hb dX10_pour_45 (by decide) ?_
      refine lv_iload_n hx hb dX10_pour_47 rfl (lv_at hl 1 rfl) ?_
      refine lv_iadd hx hb dX10_pour_48 ?_
      obtain ⟨hg, h⟩ := gin_some h
      refine va_iald hx hb hE.1 hP 1 0 rfl rfl hg dX10_pour_49 ?_
      refine lv_bipush (v := 9) hx hb dX10_pour_50 (by decide) ?_
      refine lv_icmp_ge (tgt := 59) hx hb dX10_pour_52 (by decide) (fun hc => ?_) (fun hc => ?_)
      · have h := if_t hc h
        refine lv_iconst (v := 0) hx hb dX10_pour_59 (by decide) ?_
        exact hB60 (upd v_now (Int32.toNatClampNeg p1) (99 : Int32)) (0 : Int32) ((upd v_now (Int32.toNatClampNeg p1) (99 : Int32)) (Int32.toNatClampNeg ((16 : Int32) + p1))) ((16 : Int32) + p1) H locs ls hP hD hS (lv_sub hl [] rfl) h
      · have h := if_f hc h
        refine lv_iload_n hx hb dX10_pour_55 rfl (lv_at hl 2 rfl) ?_
        refine lv_goto (tgt := 60) hx hb dX10_pour_56 (by decide) ?_
        exact hB60 (upd v_now (Int32.toNatClampNeg p1) (99 : Int32)) p2 ((upd v_now (Int32.toNatClampNeg p1) (99 : Int32)) (Int32.toNatClampNeg ((16 : Int32) + p1))) ((16 : Int32) + p1) H locs ls hP hD hS (lv_sub hl [] rfl) h
    · have h := if_t hc h
      refine lv_iconst (v := 5) hx hb dX10_pour_21 (by decide) ?_
      cases h
      rw [hQQ]
      exact gw_iret hx hb hr hlocks hP hD hS dX10_pour_22
  · have h := if_t hc h
    refine lv_iconst (v := 1) hx hb dX10_pour_8 (by decide) ?_
    cases h
    rw [hQQ]
    exact gw_iret hx hb hr hlocks hP hD hS dX10_pour_9
theorem hdV_X10_pour : yX10_pour.cls = RX10 ∧ yX10_pour.cls ≠ "java/lang/invoke/MethodHandle" ∧ yX10_pour.cls ≠ "java/lang/invoke/VarHandle" ∧ (parseMethodDescriptor yX10_pour.desc).map (fun d => d.parameters.length) = some 2 := by decide +kernel
def f_X10_wipeOff (v_now : (Nat → Int32)) (p1 : Int32) : Option (Int32 × (Nat → Int32)) := (bd1 (f_X10_stands v_now p1) (fun r2 => (if r2 = (0 : Int32) then (some ((1 : Int32), v_now)) else (gin ((16 : Int32) + p1) 43 (if (v_now (Int32.toNatClampNeg ((16 : Int32) + p1))) = (0 : Int32) then (some ((5 : Int32), v_now)) else (gin ((16 : Int32) + p1) 43 (some ((0 : Int32), (upd v_now (Int32.toNatClampNeg ((16 : Int32) + p1)) (0 : Int32))))))))))
abbrev rm_X10_wipeOff : Room := { frames := 2, cells := 0, slots := 0, locals := 42 }
set_option maxHeartbeats 4000000 in
set_option maxRecDepth 100000 in
theorem C_X10_wipeOff (l : Launch) (D : va_G) (cI cJ cZ : ClassId) (sz : Nat) (qt qt_book qt_now qt_flakes qt_leaks qt_ranks qt_sight qt_pad qt_gets qt_counts qt_worth qt_ways qt_image qt_isKept : Nat) (v_now : (Nat → Int32)) (v_music : Int32) (v_sights : Int32) (v_signs : Int32) (v_freeAt : Int32) (v_freeWho : Int32) (v_reason : Int32) (v_acts : Int32) (p1 : Int32) (r : Int32) (w_now : (Nat → Int32)) (hf : f_X10_wipeOff v_now p1 = some (r, w_now)) : Met l yX10_wipeOff wsX10_wipeOff rm_X10_wipeOff (PR D cI cJ cZ [(qt, .inr (9, [.ref qt_book, .ref qt_now, .ref qt_flakes, .ref qt_leaks, .int v_music, .ref qt_ranks, .int v_sights, .ref qt_sight, .int v_signs, .ref qt_pad, .int v_freeAt, .int v_freeWho, .int v_reason, .int v_acts, .ref qt_gets, .ref qt_counts, .ref qt_worth, .ref qt_ways, .ref qt_image, .ref qt_isKept])), (qt_now, .inl (cI, 43, .inl v_now))] sz [.ref qt, .int p1]) (QI D (va_A [(qt, .inr (9, [.ref qt_book, .ref qt_now, .ref qt_flakes, .ref qt_leaks, .int v_music, .ref qt_ranks, .int v_sights, .ref qt_sight, .int v_signs, .ref qt_pad, .int v_freeAt, .int v_freeWho, .int v_reason, .int v_acts, .ref qt_gets, .ref qt_counts, .ref qt_worth, .ref qt_ways, .ref qt_image, .ref qt_isKept])), (qt_now, .inl (cI, 43, .inl v_now))] sz) r [(qt, .inr (9, [.ref qt_book, .ref qt_now, .ref qt_flakes, .ref qt_leaks, .int v_music, .ref qt_ranks, .int v_sights, .ref qt_sight, .int v_signs, .ref qt_pad, .int v_freeAt, .int v_freeWho, .int v_reason, .int v_acts, .ref qt_gets, .ref qt_counts, .ref qt_worth, .ref qt_ways, .ref qt_image, .ref qt_isKept])), (qt_now, .inl (cI, 43, .inl w_now))]) 0 0 (va_A [(qt, .inr (9, [.ref qt_book, .ref qt_now, .ref qt_flakes, .ref qt_leaks, .int v_music, .ref qt_ranks, .int v_sights, .ref qt_sight, .int v_signs, .ref qt_pad, .int v_freeAt, .int v_freeWho, .int v_reason, .int v_acts, .ref qt_gets, .ref qt_counts, .ref qt_worth, .ref qt_ways, .ref qt_image, .ref qt_isKept])), (qt_now, .inl (cI, 43, .inl v_now))] sz) := by
  refine Met.ofW (cc := cX10_wipeOff) (maxL := 2) (ret := (some .int)) (by decide) rfl ?_
  intro p e s m args below meth c s₁ B hml hv
  obtain ⟨hav, hsz, hP, hD0, hE⟩ := hv
  have hx := B.exec
  have hb := B.bytes
  have hr := B.returns
  have hts := atoms_spec (ws := wsX10_wipeOff) B.pre
  have hown : s.vm.findClass RX10 = some m.cls := findClass_of_methodNamed B.named
  have hlocks := B.notSynchronized
  subst hsz
  have hD := hD0.self (sz := s.heap.size)
  generalize hAe : va_A [(qt, .inr (9, [.ref qt_book, .ref qt_now, .ref qt_flakes, .ref qt_leaks, .int v_music, .ref qt_ranks, .int v_sights, .ref qt_sight, .int v_signs, .ref qt_pad, .int v_freeAt, .int v_freeWho, .int v_reason, .int v_acts, .ref qt_gets, .ref qt_counts, .ref qt_worth, .ref qt_ways, .ref qt_image, .ref qt_isKept])), (qt_now, .inl (cI, 43, .inl v_now))] s.heap.size = A at hD ⊢
  have hA : ∀ q : Nat, s.heap.size ≤ q → A q := fun q h => by rw [← hAe]; exact Or.inr h
  have hS : va_S A s.heap s.heap [] := va_S.rf
  have hl := lv_entry ([.ref qt, .int p1]) (n := 2) (Nat.le_of_ble_eq_true rfl)
  have hfr : entryFrame m args 2 = entryFrame m ([.ref qt, .int p1] : List Value).toArray 2 := by rw [hav]
  rw [hfr, lg_entry_eq]
  generalize (lg_sl ([.ref qt, .int p1]) ++ List.replicate (2 - (lg_sl ([.ref qt, .int p1])).length) Slot.unset).toArray = ls at hl ⊢
  have hl : lv_has ls 2 [(0, .ref qt), (1, .int p1)] := hl
  obtain ⟨QQ, hQQ⟩ : ∃ QQ, QQ = MQ below (QI D A r [(qt, .inr (9, [.ref qt_book, .ref qt_now, .ref qt_flakes, .ref qt_leaks, .int v_music, .ref qt_ranks, .int v_sights, .ref qt_sight, .int v_signs, .ref qt_pad, .int v_freeAt, .int v_freeWho, .int v_reason, .int v_acts, .ref qt_gets, .ref qt_counts, .ref qt_worth, .ref qt_ways, .ref qt_image, .ref qt_isKept])), (qt_now, .inl (cI, 43, .inl w_now))]) args s 0 0 A := ⟨_, rfl⟩
  show W p l e rm_X10_wipeOff s m args below meth c s.heap [] 0 0 _ _
  rw [← hQQ]
  have h := hf
  unfold f_X10_wipeOff at h
  refine gw_start hP hD hS (fun H locs hP hD hS => ?_)
  refine lv_aload_n hx hb dX10_wipeOff_0 rfl (lv_at hl 0 rfl) ?_
  refine lv_iload_n hx hb dX10_wipeOff_1 rfl (lv_at hl 1 rfl) ?_
  obtain ⟨r2, hc2, h⟩ := bd1_some h
  refine gw_ci (wr := []) (w2 := [(qt, .inr (9, [.ref qt_book, .ref qt_now, .ref qt_flakes, .ref qt_leaks, .int v_music, .ref qt_ranks, .int v_sights, .ref qt_sight, .int v_signs, .ref qt_pad, .int v_freeAt, .int v_freeWho, .int v_reason, .int v_acts, .ref qt_gets, .ref qt_counts, .ref qt_worth, .ref qt_ways, .ref qt_image, .ref qt_isKept])), (qt_now, .inl (cI, 43, .inl v_now))]) (gw_rV (n := 1) ⟨hx, hb, hml, hown, hts⟩ (C_X10_stands l D cI cJ cZ H.size qt qt_book qt_now qt_flakes qt_leaks qt_ranks qt_sight qt_pad qt_gets qt_counts qt_worth qt_ways qt_image qt_isKept v_now v_music v_sights v_signs v_freeAt v_freeWho v_reason v_acts p1 r2 hc2) gX10_wipeOff_X10_stands rfl rfl rfl hdV_X10_stands ⟨Nat.le_of_ble_eq_true rfl, Nat.le_of_ble_eq_true rfl⟩ hE (hP.sub [0, 1] rfl) (hD.sub [0, 1] (by decide) rfl) 9 rfl 0 rfl rfl hl.1 (rest := []) rfl (Nat.le_of_ble_eq_true rfl) dX10_wipeOff_2 ⟨Nat.zero_le _, Nat.zero_le _⟩) hP hD hS hA [0, 1] [] rfl rfl rfl (by decide) rfl (fun H locs hP hD hS => ?_)
  refine lv_if_ne (tgt := 10) hx hb dX10_wipeOff_5 (by decide) (fun hc => ?_) (fun hc => ?_)
  · have h := if_f hc h
    refine lv_aload_n hx hb dX10_wipeOff_10 rfl (lv_at hl 0 rfl) ?_
    refine va_get (D := D) (ci := 9) (C := RX10) (T := TX10) (N := 20) hx hb hts (fun _ hw => (List.mem_cons_of_mem _ (List.mem_append_right _ hw))) hown hE.1 hP 0 rfl rfl 1 (by decide) (hts (.fieldLink RX10 13 "GlobeCrownModel" "now" "[I") (List.mem_cons_of_mem _ (List.mem_append_left _ (List.mem_of_getElem? (i := 0) rfl)))) (fun _ h9 => h9) rfl dX10_wipeOff_11 ?_
    refine lv_bipush (v := 16) hx hb dX10_wipeOff_14 (by decide) ?_
    refine lv_iload_n hx hb dX10_wipeOff_16 rfl (lv_at hl 1 rfl) ?_
    refine lv_iadd hx hb dX10_wipeOff_17 ?_
    obtain ⟨hg, h⟩ := gin_some h
    refine va_iald hx hb hE.1 hP 1 0 rfl rfl hg dX10_wipeOff_18 ?_
    refine lv_if_ne (tgt := 24) hx hb dX10_wipeOff_19 (by decide) (fun hc => ?_) (fun hc => ?_)
    · have h := if_f hc h
      refine lv_aload_n hx hb dX10_wipeOff_24 rfl (lv_at hl 0 rfl) ?_
      refine va_get (D := D) (ci := 9) (C := RX10) (T := TX10) (N := 20) hx hb hts (fun _ hw => (List.mem_cons_of_mem _ (List.mem_append_right _ hw))) hown hE.1 hP 0 rfl rfl 1 (by decide) (hts (.fieldLink RX10 13 "GlobeCrownModel" "now" "[I") (List.mem_cons_of_mem _ (List.mem_append_left _ (List.mem_of_getElem? (i := 0) rfl)))) (fun _ h9 => h9) rfl dX10_wipeOff_25 ?_
      refine lv_bipush (v := 16) hx hb dX10_wipeOff_28 (by decide) ?_
      refine lv_iload_n hx hb dX10_wipeOff_30 rfl (lv_at hl 1 rfl) ?_
      refine lv_iadd hx hb dX10_wipeOff_31 ?_
      refine lv_iconst (v := 0) hx hb dX10_wipeOff_32 (by decide) ?_
      obtain ⟨hg, h⟩ := gin_some h
      refine va_iast hx hb hE.1 hP hD hS 1 0 rfl rfl hg dX10_wipeOff_33 (fun H locs (hP : va_P D vwCl [(qt, .inr (9, [.ref qt_book, .ref qt_now, .ref qt_flakes, .ref qt_leaks, .int v_music, .ref qt_ranks, .int v_sights, .ref qt_sight, .int v_signs, .ref qt_pad, .int v_freeAt, .int v_freeWho, .int v_reason, .int v_acts, .ref qt_gets, .ref qt_counts, .ref qt_worth, .ref qt_ways, .ref qt_image, .ref qt_isKept])), (qt_now, .inl (cI, 43, .inl (upd v_now (Int32.toNatClampNeg ((16 : Int32) + p1)) (0 : Int32))))] H) (hD : va_D A [(qt, .inr (9, [.ref qt_book, .ref qt_now, .ref qt_flakes, .ref qt_leaks, .int v_music, .ref qt_ranks, .int v_sights, .ref qt_sight, .int v_signs, .ref qt_pad, .int v_freeAt, .int v_freeWho, .int v_reason, .int v_acts, .ref qt_gets, .ref qt_counts, .ref qt_worth, .ref qt_ways, .ref qt_image, .ref qt_isKept])), (qt_now, .inl (cI, 43, .inl (upd v_now (Int32.toNatClampNeg ((16 : Int32) + p1)) (0 : Int32))))]) hS => ?_)
      refine lv_iconst (v := 0) hx hb dX10_wipeOff_34 (by decide) ?_
      cases h
      rw [hQQ]
      exact gw_iret hx hb hr hlocks hP hD hS dX10_wipeOff_35
    · have h := if_t hc h
      refine lv_iconst (v := 5) hx hb dX10_wipeOff_22 (by decide) ?_
      cases h
      rw [hQQ]
      exact gw_iret hx hb hr hlocks hP hD hS dX10_wipeOff_23
  · have h := if_t hc h
    refine lv_iconst (v := 1) hx hb dX10_wipeOff_8 (by decide) ?_
    cases h
    rw [hQQ]
    exact gw_iret hx hb hr hlocks hP hD hS dX10_wipeOff_9
theorem hdV_X10_wipeOff : yX10_wipeOff.cls = RX10 ∧ yX10_wipeOff.cls ≠ "java/lang/invoke/MethodHandle" ∧ yX10_wipeOff.cls ≠ "java/lang/invoke/VarHandle" ∧ (parseMethodDescriptor yX10_wipeOff.desc).map (fun d => d.parameters.length) = some 1 := by decide +kernel
def B_X10_move_52 (p1 : Int32) (p2 : Int32) (v_now : (Nat → Int32)) : Option (Int32 × (Nat → Int32)) := (gin ((32 : Int32) + p1) 43 (some ((0 : Int32), (upd v_now (Int32.toNatClampNeg ((32 : Int32) + p1)) p2))))
def B_X10_move_22 (p1 : Int32) (p2 : Int32) (v_now : (Nat → Int32)) : Option (Int32 × (Nat → Int32)) := (gin ((32 : Int32) + p1) 43 (if (v_now (Int32.toNatClampNeg ((32 : Int32) + p1))) = p2 then (some ((3 : Int32), v_now)) else (if p2 < (0 : Int32) then (B_X10_move_52 p1 p2 v_now) else (bd1 (f_X10_isWithin v_now p2 p1) (fun r44 => (if r44 = (0 : Int32) then (B_X10_move_52 p1 p2 v_now) else (some ((4 : Int32), v_now))))))))
def f_X10_move (v_now : (Nat → Int32)) (p1 : Int32) (p2 : Int32) : Option (Int32 × (Nat → Int32)) := (bd1 (f_X10_stands v_now p1) (fun r2 => (if r2 = (0 : Int32) then (some ((1 : Int32), v_now)) else (if p2 < (0 : Int32) then (B_X10_move_22 p1 p2 v_now) else (bd1 (f_X10_stands v_now p2) (fun r14 => (if r14 = (0 : Int32) then (some ((1 : Int32), v_now)) else (B_X10_move_22 p1 p2 v_now))))))))
abbrev rm_X10_move : Room := { frames := 2, cells := 0, slots := 0, locals := 42 }
set_option maxHeartbeats 4000000 in
set_option maxRecDepth 100000 in
theorem C_X10_move (l : Launch) (D : va_G) (cI cJ cZ : ClassId) (sz : Nat) (qt qt_book qt_now qt_flakes qt_leaks qt_ranks qt_sight qt_pad qt_gets qt_counts qt_worth qt_ways qt_image qt_isKept : Nat) (v_now : (Nat → Int32)) (v_music : Int32) (v_sights : Int32) (v_signs : Int32) (v_freeAt : Int32) (v_freeWho : Int32) (v_reason : Int32) (v_acts : Int32) (p1 : Int32) (p2 : Int32) (r : Int32) (w_now : (Nat → Int32)) (hf : f_X10_move v_now p1 p2 = some (r, w_now)) : Met l yX10_move wsX10_move rm_X10_move (PR D cI cJ cZ [(qt, .inr (9, [.ref qt_book, .ref qt_now, .ref qt_flakes, .ref qt_leaks, .int v_music, .ref qt_ranks, .int v_sights, .ref qt_sight, .int v_signs, .ref qt_pad, .int v_freeAt, .int v_freeWho, .int v_reason, .int v_acts, .ref qt_gets, .ref qt_counts, .ref qt_worth, .ref qt_ways, .ref qt_image, .ref qt_isKept])), (qt_now, .inl (cI, 43, .inl v_now))] sz [.ref qt, .int p1, .int p2]) (QI D (va_A [(qt, .inr (9, [.ref qt_book, .ref qt_now, .ref qt_flakes, .ref qt_leaks, .int v_music, .ref qt_ranks, .int v_sights, .ref qt_sight, .int v_signs, .ref qt_pad, .int v_freeAt, .int v_freeWho, .int v_reason, .int v_acts, .ref qt_gets, .ref qt_counts, .ref qt_worth, .ref qt_ways, .ref qt_image, .ref qt_isKept])), (qt_now, .inl (cI, 43, .inl v_now))] sz) r [(qt, .inr (9, [.ref qt_book, .ref qt_now, .ref qt_flakes, .ref qt_leaks, .int v_music, .ref qt_ranks, .int v_sights, .ref qt_sight, .int v_signs, .ref qt_pad, .int v_freeAt, .int v_freeWho, .int v_reason, .int v_acts, .ref qt_gets, .ref qt_counts, .ref qt_worth, .ref qt_ways, .ref qt_image, .ref qt_isKept])), (qt_now, .inl (cI, 43, .inl w_now))]) 0 0 (va_A [(qt, .inr (9, [.ref qt_book, .ref qt_now, .ref qt_flakes, .ref qt_leaks, .int v_music, .ref qt_ranks, .int v_sights, .ref qt_sight, .int v_signs, .ref qt_pad, .int v_freeAt, .int v_freeWho, .int v_reason, .int v_acts, .ref qt_gets, .ref qt_counts, .ref qt_worth, .ref qt_ways, .ref qt_image, .ref qt_isKept])), (qt_now, .inl (cI, 43, .inl v_now))] sz) := by
  refine Met.ofW (cc := cX10_move) (maxL := 3) (ret := (some .int)) (by decide) rfl ?_
  intro p e s m args below meth c s₁ B hml hv
  obtain ⟨hav, hsz, hP, hD0, hE⟩ := hv
  have hx := B.exec
  have hb := B.bytes
  have hr := B.returns
  have hts := atoms_spec (ws := wsX10_move) B.pre
  have hown : s.vm.findClass RX10 = some m.cls := findClass_of_methodNamed B.named
  have hlocks := B.notSynchronized
  subst hsz
  have hD := hD0.self (sz := s.heap.size)
  generalize hAe : va_A [(qt, .inr (9, [.ref qt_book, .ref qt_now, .ref qt_flakes, .ref qt_leaks, .int v_music, .ref qt_ranks, .int v_sights, .ref qt_sight, .int v_signs, .ref qt_pad, .int v_freeAt, .int v_freeWho, .int v_reason, .int v_acts, .ref qt_gets, .ref qt_counts, .ref qt_worth, .ref qt_ways, .ref qt_image, .ref qt_isKept])), (qt_now, .inl (cI, 43, .inl v_now))] s.heap.size = A at hD ⊢
  have hA : ∀ q : Nat, s.heap.size ≤ q → A q := fun q h => by rw [← hAe]; exact Or.inr h
  have hS : va_S A s.heap s.heap [] := va_S.rf
  have hl := lv_entry ([.ref qt, .int p1, .int p2]) (n := 3) (Nat.le_of_ble_eq_true rfl)
  have hfr : entryFrame m args 3 = entryFrame m ([.ref qt, .int p1, .int p2] : List Value).toArray 3 := by rw [hav]
  rw [hfr, lg_entry_eq]
  generalize (lg_sl ([.ref qt, .int p1, .int p2]) ++ List.replicate (3 - (lg_sl ([.ref qt, .int p1, .int p2])).length) Slot.unset).toArray = ls at hl ⊢
  have hl : lv_has ls 3 [(0, .ref qt), (1, .int p1), (2, .int p2)] := hl
  obtain ⟨QQ, hQQ⟩ : ∃ QQ, QQ = MQ below (QI D A r [(qt, .inr (9, [.ref qt_book, .ref qt_now, .ref qt_flakes, .ref qt_leaks, .int v_music, .ref qt_ranks, .int v_sights, .ref qt_sight, .int v_signs, .ref qt_pad, .int v_freeAt, .int v_freeWho, .int v_reason, .int v_acts, .ref qt_gets, .ref qt_counts, .ref qt_worth, .ref qt_ways, .ref qt_image, .ref qt_isKept])), (qt_now, .inl (cI, 43, .inl w_now))]) args s 0 0 A := ⟨_, rfl⟩
  show W p l e rm_X10_move s m args below meth c s.heap [] 0 0 _ _
  rw [← hQQ]
  have hB52 : ∀ (v_now : (Nat → Int32)) (H : Heap) (locs : List Loc) (ls : Array Slot), va_P D vwCl [(qt, .inr (9, [.ref qt_book, .ref qt_now, .ref qt_flakes, .ref qt_leaks, .int v_music, .ref qt_ranks, .int v_sights, .ref qt_sight, .int v_signs, .ref qt_pad, .int v_freeAt, .int v_freeWho, .int v_reason, .int v_acts, .ref qt_gets, .ref qt_counts, .ref qt_worth, .ref qt_ways, .ref qt_image, .ref qt_isKept])), (qt_now, .inl (cI, 43, .inl v_now))] H → va_D A [(qt, .inr (9, [.ref qt_book, .ref qt_now, .ref qt_flakes, .ref qt_leaks, .int v_music, .ref qt_ranks, .int v_sights, .ref qt_sight, .int v_signs, .ref qt_pad, .int v_freeAt, .int v_freeWho, .int v_reason, .int v_acts, .ref qt_gets, .ref qt_counts, .ref qt_worth, .ref qt_ways, .ref qt_image, .ref qt_isKept])), (qt_now, .inl (cI, 43, .inl v_now))] → va_S A s.heap H locs → lv_has ls 3 [(0, .ref qt), (1, .int p1), (2, .int p2)] → B_X10_move_52 p1 p2 v_now = some (r, w_now) → W p l e rm_X10_move s m args below meth c H locs 0 0 QQ (F0 m 52 ls []) := by
    intro v_now H locs ls hP hD hS hl h
    unfold B_X10_move_52 at h
    refine lv_aload_n hx hb dX10_move_52 rfl (lv_at hl 0 rfl) ?_
    refine va_get (D := D) (ci := 9) (C := RX10) (T := TX10) (N := 20) hx hb hts (fun _ hw => (List.mem_cons_of_mem _ (List.mem_append_right _ hw))) hown hE.1 hP 0 rfl rfl 1 (by decide) (hts (.fieldLink RX10 13 "GlobeCrownModel" "now" "[I") (List.mem_cons_of_mem _ (List.mem_append_left _ (List.mem_of_getElem? (i := 0) rfl)))) (fun _ h9 => h9) rfl dX10_move_53 ?_
    refine lv_bipush (v := 32) hx hb dX10_move_56 (by decide) ?_
    refine lv_iload_n hx hb dX10_move_58 rfl (lv_at hl 1 rfl) ?_
    refine lv_iadd hx hb dX10_move_59 ?_
    refine lv_iload_n hx hb dX10_move_60 rfl (lv_at hl 2 rfl) ?_
    obtain ⟨hg, h⟩ := gin_some h
    refine va_iast hx hb hE.1 hP hD hS 1 0 rfl rfl hg dX10_move_61 (fun H locs (hP : va_P D vwCl [(qt, .inr (9, [.ref qt_book, .ref qt_now, .ref qt_flakes, .ref qt_leaks, .int v_music, .ref qt_ranks, .int v_sights, .ref qt_sight, .int v_signs, .ref qt_pad, .int v_freeAt, .int v_freeWho, .int v_reason, .int v_acts, .ref qt_gets, .ref qt_counts, .ref qt_worth, .ref qt_ways, .ref qt_image, .ref qt_isKept])), (qt_now, .inl (cI, 43, .inl (upd v_now (Int32.toNatClampNeg ((32 : Int32) + p1)) p2)))] H) (hD : va_D A [(qt, .inr (9, [.ref qt_book, .ref qt_now, .ref qt_flakes, .ref qt_leaks, .int v_music, .ref qt_ranks, .int v_sights, .ref qt_sight, .int v_signs, .ref qt_pad, .int v_freeAt, .int v_freeWho, .int v_reason, .int v_acts, .ref qt_gets, .ref qt_counts, .ref qt_worth, .ref qt_ways, .ref qt_image, .ref qt_isKept])), (qt_now, .inl (cI, 43, .inl (upd v_now (Int32.toNatClampNeg ((32 : Int32) + p1)) p2)))]) hS => ?_)
    refine lv_iconst (v := 0) hx hb dX10_move_62 (by decide) ?_
    cases h
    rw [hQQ]
    exact gw_iret hx hb hr hlocks hP hD hS dX10_move_63
  have hB22 : ∀ (v_now : (Nat → Int32)) (H : Heap) (locs : List Loc) (ls : Array Slot), va_P D vwCl [(qt, .inr (9, [.ref qt_book, .ref qt_now, .ref qt_flakes, .ref qt_leaks, .int v_music, .ref qt_ranks, .int v_sights, .ref qt_sight, .int v_signs, .ref qt_pad, .int v_freeAt, .int v_freeWho, .int v_reason, .int v_acts, .ref qt_gets, .ref qt_counts, .ref qt_worth, .ref qt_ways, .ref qt_image, .ref qt_isKept])), (qt_now, .inl (cI, 43, .inl v_now))] H → va_D A [(qt, .inr (9, [.ref qt_book, .ref qt_now, .ref qt_flakes, .ref qt_leaks, .int v_music, .ref qt_ranks, .int v_sights, .ref qt_sight, .int v_signs, .ref qt_pad, .int v_freeAt, .int v_freeWho, .int v_reason, .int v_acts, .ref qt_gets, .ref qt_counts, .ref qt_worth, .ref qt_ways, .ref qt_image, .ref qt_isKept])), (qt_now, .inl (cI, 43, .inl v_now))] → va_S A s.heap H locs → lv_has ls 3 [(0, .ref qt), (1, .int p1), (2, .int p2)] → B_X10_move_22 p1 p2 v_now = some (r, w_now) → W p l e rm_X10_move s m args below meth c H locs 0 0 QQ (F0 m 22 ls []) := by
    intro v_now H locs ls hP hD hS hl h
    unfold B_X10_move_22 at h
    refine lv_aload_n hx hb dX10_move_22 rfl (lv_at hl 0 rfl) ?_
    refine va_get (D := D) (ci := 9) (C := RX10) (T := TX10) (N := 20) hx hb hts (fun _ hw => (List.mem_cons_of_mem _ (List.mem_append_right _ hw))) hown hE.1 hP 0 rfl rfl 1 (by decide) (hts (.fieldLink RX10 13 "GlobeCrownModel" "now" "[I") (List.mem_cons_of_mem _ (List.mem_append_left _ (List.mem_of_getElem? (i := 0) rfl)))) (fun _ h9 => h9) rfl dX10_move_23 ?_
    refine lv_bipush (v := 32) hx hb dX10_move_26 (by decide) ?_
    refine lv_iload_n hx hb dX10_move_28 rfl (lv_at hl 1 rfl) ?_
    refine lv_iadd hx hb dX10_move_29 ?_
    obtain ⟨hg, h⟩ := gin_some h
    refine va_iald hx hb hE.1 hP 1 0 rfl rfl hg dX10_move_30 ?_
    refine lv_iload_n hx hb dX10_move_31 rfl (lv_at hl 2 rfl) ?_
    refine lv_icmp_ne (tgt := 37) hx hb dX10_move_32 (by decide) (fun hc => ?_) (fun hc => ?_)
    · have h := if_f hc h
      refine lv_iload_n hx hb dX10_move_37 rfl (lv_at hl 2 rfl) ?_
      refine lv_if_lt (tgt := 52) hx hb dX10_move_38 (by decide) (fun hc => ?_) (fun hc => ?_)
      · have h := if_t hc h
        exact hB52 v_now H locs ls hP hD hS hl h
      · have h := if_f hc h
        refine lv_aload_n hx hb dX10_move_41 rfl (lv_at hl 0 rfl) ?_
        refine lv_iload_n hx hb dX10_move_42 rfl (lv_at hl 2 rfl) ?_
        refine lv_iload_n hx hb dX10_move_43 rfl (lv_at hl 1 rfl) ?_
        obtain ⟨r44, hc44, h⟩ := bd1_some h
        refine gw_ci (wr := []) (w2 := [(qt, .inr (9, [.ref qt_book, .ref qt_now, .ref qt_flakes, .ref qt_leaks, .int v_music, .ref qt_ranks, .int v_sights, .ref qt_sight, .int v_signs, .ref qt_pad, .int v_freeAt, .int v_freeWho, .int v_reason, .int v_acts, .ref qt_gets, .ref qt_counts, .ref qt_worth, .ref qt_ways, .ref qt_image, .ref qt_isKept])), (qt_now, .inl (cI, 43, .inl v_now))]) (gw_rV (n := 2) ⟨hx, hb, hml, hown, hts⟩ (C_X10_isWithin l D cI cJ cZ H.size qt qt_book qt_now qt_flakes qt_leaks qt_ranks qt_sight qt_pad qt_gets qt_counts qt_worth qt_ways qt_image qt_isKept v_now v_music v_sights v_signs v_freeAt v_freeWho v_reason v_acts p2 p1 r44 hc44) gX10_move_X10_isWithin rfl rfl rfl hdV_X10_isWithin ⟨Nat.le_of_ble_eq_true rfl, Nat.le_of_ble_eq_true rfl⟩ hE (hP.sub [0, 1] rfl) (hD.sub [0, 1] (by decide) rfl) 9 rfl 0 rfl rfl hl.1 (rest := []) rfl (Nat.le_of_ble_eq_true rfl) dX10_move_44 ⟨Nat.zero_le _, Nat.zero_le _⟩) hP hD hS hA [0, 1] [] rfl rfl rfl (by decide) rfl (fun H locs hP hD hS => ?_)
        refine lv_if_eq (tgt := 52) hx hb dX10_move_47 (by decide) (fun hc => ?_) (fun hc => ?_)
        · have h := if_t hc h
          exact hB52 v_now H locs ls hP hD hS hl h
        · have h := if_f hc h
          refine lv_iconst (v := 4) hx hb dX10_move_50 (by decide) ?_
          cases h
          rw [hQQ]
          exact gw_iret hx hb hr hlocks hP hD hS dX10_move_51
    · have h := if_t hc h
      refine lv_iconst (v := 3) hx hb dX10_move_35 (by decide) ?_
      cases h
      rw [hQQ]
      exact gw_iret hx hb hr hlocks hP hD hS dX10_move_36
  have h := hf
  unfold f_X10_move at h
  refine gw_start hP hD hS (fun H locs hP hD hS => ?_)
  refine lv_aload_n hx hb dX10_move_0 rfl (lv_at hl 0 rfl) ?_
  refine lv_iload_n hx hb dX10_move_1 rfl (lv_at hl 1 rfl) ?_
  obtain ⟨r2, hc2, h⟩ := bd1_some h
  refine gw_ci (wr := []) (w2 := [(qt, .inr (9, [.ref qt_book, .ref qt_now, .ref qt_flakes, .ref qt_leaks, .int v_music, .ref qt_ranks, .int v_sights, .ref qt_sight, .int v_signs, .ref qt_pad, .int v_freeAt, .int v_freeWho, .int v_reason, .int v_acts, .ref qt_gets, .ref qt_counts, .ref qt_worth, .ref qt_ways, .ref qt_image, .ref qt_isKept])), (qt_now, .inl (cI, 43, .inl v_now))]) (gw_rV (n := 1) ⟨hx, hb, hml, hown, hts⟩ (C_X10_stands l D cI cJ cZ H.size qt qt_book qt_now qt_flakes qt_leaks qt_ranks qt_sight qt_pad qt_gets qt_counts qt_worth qt_ways qt_image qt_isKept v_now v_music v_sights v_signs v_freeAt v_freeWho v_reason v_acts p1 r2 hc2) gX10_move_X10_stands rfl rfl rfl hdV_X10_stands ⟨Nat.le_of_ble_eq_true rfl, Nat.le_of_ble_eq_true rfl⟩ hE (hP.sub [0, 1] rfl) (hD.sub [0, 1] (by decide) rfl) 9 rfl 0 rfl rfl hl.1 (rest := []) rfl (Nat.le_of_ble_eq_true rfl) dX10_move_2 ⟨Nat.zero_le _, Nat.zero_le _⟩) hP hD hS hA [0, 1] [] rfl rfl rfl (by decide) rfl (fun H locs hP hD hS => ?_)
  refine lv_if_eq (tgt := 20) hx hb dX10_move_5 (by decide) (fun hc => ?_) (fun hc => ?_)
  · have h := if_t hc h
    refine lv_iconst (v := 1) hx hb dX10_move_20 (by decide) ?_
    cases h
    rw [hQQ]
    exact gw_iret hx hb hr hlocks hP hD hS dX10_move_21
  · have h := if_f hc h
    refine lv_iload_n hx hb dX10_move_8 rfl (lv_at hl 2 rfl) ?_
    refine lv_if_lt (tgt := 22) hx hb dX10_move_9 (by decide) (fun hc => ?_) (fun hc => ?_)
    · have h := if_t hc h
      exact hB22 v_now H locs ls hP hD hS hl h
    · have h := if_f hc h
      refine lv_aload_n hx hb dX10_move_12 rfl (lv_at hl 0 rfl) ?_
      refine lv_iload_n hx hb dX10_move_13 rfl (lv_at hl 2 rfl) ?_
      obtain ⟨r14, hc14, h⟩ := bd1_some h
      refine gw_ci (wr := []) (w2 := [(qt, .inr (9, [.ref qt_book, .ref qt_now, .ref qt_flakes, .ref qt_leaks, .int v_music, .ref qt_ranks, .int v_sights, .ref qt_sight, .int v_signs, .ref qt_pad, .int v_freeAt, .int v_freeWho, .int v_reason, .int v_acts, .ref qt_gets, .ref qt_counts, .ref qt_worth, .ref qt_ways, .ref qt_image, .ref qt_isKept])), (qt_now, .inl (cI, 43, .inl v_now))]) (gw_rV (n := 1) ⟨hx, hb, hml, hown, hts⟩ (C_X10_stands l D cI cJ cZ H.size qt qt_book qt_now qt_flakes qt_leaks qt_ranks qt_sight qt_pad qt_gets qt_counts qt_worth qt_ways qt_image qt_isKept v_now v_music v_sights v_signs v_freeAt v_freeWho v_reason v_acts p2 r14 hc14) gX10_move_X10_stands rfl rfl rfl hdV_X10_stands ⟨Nat.le_of_ble_eq_true rfl, Nat.le_of_ble_eq_true rfl⟩ hE (hP.sub [0, 1] rfl) (hD.sub [0, 1] (by decide) rfl) 9 rfl 0 rfl rfl hl.1 (rest := []) rfl (Nat.le_of_ble_eq_true rfl) dX10_move_14 ⟨Nat.zero_le _, Nat.zero_le _⟩) hP hD hS hA [0, 1] [] rfl rfl rfl (by decide) rfl (fun H locs hP hD hS => ?_)
      refine lv_if_ne (tgt := 22) hx hb dX10_move_17 (by decide) (fun hc => ?_) (fun hc => ?_)
      · have h := if_f hc h
        exact hB22 v_now H locs ls hP hD hS hl h
      · have h := if_t hc h
        refine lv_iconst (v := 1) hx hb dX10_move_20 (by decide) ?_
        cases h
        rw [hQQ]
        exact gw_iret hx hb hr hlocks hP hD hS dX10_move_21
theorem hdV_X10_move : yX10_move.cls = RX10 ∧ yX10_move.cls ≠ "java/lang/invoke/MethodHandle" ∧ yX10_move.cls ≠ "java/lang/invoke/VarHandle" ∧ (parseMethodDescriptor yX10_move.desc).map (fun d => d.parameters.length) = some 2 := by decide +kernel
def B_X10_drop_60 (p1 : Int32) (rec12 : (Nat → Int32) → Int32 → Option (Int32 × (Nat → Int32))) (v_now : (Nat → Int32)) (x2 : Int32) (s0 : Int32) (s1 : Int32) : Option (Int32 × (Nat → Int32)) := (gin s1 43 (rec12 (upd v_now (Int32.toNatClampNeg s1) s0) (x2 + (1 : Int32))))
def L_X10_drop_12 (p1 : Int32) : Nat → (Nat → Int32) → Int32 → Option (Int32 × (Nat → Int32))
  | 0, _, _ => none
  | n + 1, v_now, x2 => (if (8 : Int32) ≤ x2 then (gin ((32 : Int32) + p1) 43 (some ((0 : Int32), (upd (upd v_now (Int32.toNatClampNeg (40 : Int32)) ((v_now (Int32.toNatClampNeg (40 : Int32))) &&& (((1 : Int32) <<< (p1 &&& 31)) ^^^ (-1 : Int32)))) (Int32.toNatClampNeg ((32 : Int32) + p1)) (-6 : Int32))))) else (gin ((32 : Int32) + x2) 43 (if (v_now (Int32.toNatClampNeg ((32 : Int32) + x2))) = p1 then (gin ((32 : Int32) + p1) 43 (B_X10_drop_60 p1 (L_X10_drop_12 p1 n) v_now x2 (v_now (Int32.toNatClampNeg ((32 : Int32) + p1))) ((32 : Int32) + x2))) else (gin ((32 : Int32) + x2) 43 (B_X10_drop_60 p1 (L_X10_drop_12 p1 n) v_now x2 (v_now (Int32.toNatClampNeg ((32 : Int32) + x2))) ((32 : Int32) + x2))))))
def f_X10_drop (v_now : (Nat → Int32)) (p1 : Int32) : Option (Int32 × (Nat → Int32)) := (bd1 (f_X10_stands v_now p1) (fun r2 => (if r2 = (0 : Int32) then (some ((1 : Int32), v_now)) else (L_X10_drop_12 p1 FU v_now (0 : Int32)))))
abbrev rm_X10_drop : Room := { frames := 2, cells := 0, slots := 0, locals := 42 }
set_option maxHeartbeats 4000000 in
set_option maxRecDepth 100000 in
theorem C_X10_drop (l : Launch) (D : va_G) (cI cJ cZ : ClassId) (sz : Nat) (qt qt_book qt_now qt_flakes qt_leaks qt_ranks qt_sight qt_pad qt_gets qt_counts qt_worth qt_ways qt_image qt_isKept : Nat) (v_now : (Nat → Int32)) (v_music : Int32) (v_sights : Int32) (v_signs : Int32) (v_freeAt : Int32) (v_freeWho : Int32) (v_reason : Int32) (v_acts : Int32) (p1 : Int32) (r : Int32) (w_now : (Nat → Int32)) (hf : f_X10_drop v_now p1 = some (r, w_now)) : Met l yX10_drop wsX10_drop rm_X10_drop (PR D cI cJ cZ [(qt, .inr (9, [.ref qt_book, .ref qt_now, .ref qt_flakes, .ref qt_leaks, .int v_music, .ref qt_ranks, .int v_sights, .ref qt_sight, .int v_signs, .ref qt_pad, .int v_freeAt, .int v_freeWho, .int v_reason, .int v_acts, .ref qt_gets, .ref qt_counts, .ref qt_worth, .ref qt_ways, .ref qt_image, .ref qt_isKept])), (qt_now, .inl (cI, 43, .inl v_now))] sz [.ref qt, .int p1]) (QI D (va_A [(qt, .inr (9, [.ref qt_book, .ref qt_now, .ref qt_flakes, .ref qt_leaks, .int v_music, .ref qt_ranks, .int v_sights, .ref qt_sight, .int v_signs, .ref qt_pad, .int v_freeAt, .int v_freeWho, .int v_reason, .int v_acts, .ref qt_gets, .ref qt_counts, .ref qt_worth, .ref qt_ways, .ref qt_image, .ref qt_isKept])), (qt_now, .inl (cI, 43, .inl v_now))] sz) r [(qt, .inr (9, [.ref qt_book, .ref qt_now, .ref qt_flakes, .ref qt_leaks, .int v_music, .ref qt_ranks, .int v_sights, .ref qt_sight, .int v_signs, .ref qt_pad, .int v_freeAt, .int v_freeWho, .int v_reason, .int v_acts, .ref qt_gets, .ref qt_counts, .ref qt_worth, .ref qt_ways, .ref qt_image, .ref qt_isKept])), (qt_now, .inl (cI, 43, .inl w_now))]) 0 0 (va_A [(qt, .inr (9, [.ref qt_book, .ref qt_now, .ref qt_flakes, .ref qt_leaks, .int v_music, .ref qt_ranks, .int v_sights, .ref qt_sight, .int v_signs, .ref qt_pad, .int v_freeAt, .int v_freeWho, .int v_reason, .int v_acts, .ref qt_gets, .ref qt_counts, .ref qt_worth, .ref qt_ways, .ref qt_image, .ref qt_isKept])), (qt_now, .inl (cI, 43, .inl v_now))] sz) := by
  refine Met.ofW (cc := cX10_drop) (maxL := 3) (ret := (some .int)) (by decide) rfl ?_
  intro p e s m args below meth c s₁ B hml hv
  obtain ⟨hav, hsz, hP, hD0, hE⟩ := hv
  have hx := B.exec
  have hb := B.bytes
  have hr := B.returns
  have hts := atoms_spec (ws := wsX10_drop) B.pre
  have hown : s.vm.findClass RX10 = some m.cls := findClass_of_methodNamed B.named
  have hlocks := B.notSynchronized
  subst hsz
  have hD := hD0.self (sz := s.heap.size)
  generalize hAe : va_A [(qt, .inr (9, [.ref qt_book, .ref qt_now, .ref qt_flakes, .ref qt_leaks, .int v_music, .ref qt_ranks, .int v_sights, .ref qt_sight, .int v_signs, .ref qt_pad, .int v_freeAt, .int v_freeWho, .int v_reason, .int v_acts, .ref qt_gets, .ref qt_counts, .ref qt_worth, .ref qt_ways, .ref qt_image, .ref qt_isKept])), (qt_now, .inl (cI, 43, .inl v_now))] s.heap.size = A at hD ⊢
  have hA : ∀ q : Nat, s.heap.size ≤ q → A q := fun q h => by rw [← hAe]; exact Or.inr h
  have hS : va_S A s.heap s.heap [] := va_S.rf
  have hl := lv_entry ([.ref qt, .int p1]) (n := 3) (Nat.le_of_ble_eq_true rfl)
  have hfr : entryFrame m args 3 = entryFrame m ([.ref qt, .int p1] : List Value).toArray 3 := by rw [hav]
  rw [hfr, lg_entry_eq]
  generalize (lg_sl ([.ref qt, .int p1]) ++ List.replicate (3 - (lg_sl ([.ref qt, .int p1])).length) Slot.unset).toArray = ls at hl ⊢
  have hl : lv_has ls 3 [(0, .ref qt), (1, .int p1)] := hl
  obtain ⟨QQ, hQQ⟩ : ∃ QQ, QQ = MQ below (QI D A r [(qt, .inr (9, [.ref qt_book, .ref qt_now, .ref qt_flakes, .ref qt_leaks, .int v_music, .ref qt_ranks, .int v_sights, .ref qt_sight, .int v_signs, .ref qt_pad, .int v_freeAt, .int v_freeWho, .int v_reason, .int v_acts, .ref qt_gets, .ref qt_counts, .ref qt_worth, .ref qt_ways, .ref qt_image, .ref qt_isKept])), (qt_now, .inl (cI, 43, .inl w_now))]) args s 0 0 A := ⟨_, rfl⟩
  show W p l e rm_X10_drop s m args below meth c s.heap [] 0 0 _ _
  rw [← hQQ]
  have hL12 : ∀ (n12 : Nat), ∀ (v_now : (Nat → Int32)) (x2 : Int32) (H : Heap) (locs : List Loc) (ls : Array Slot), va_P D vwCl [(qt, .inr (9, [.ref qt_book, .ref qt_now, .ref qt_flakes, .ref qt_leaks, .int v_music, .ref qt_ranks, .int v_sights, .ref qt_sight, .int v_signs, .ref qt_pad, .int v_freeAt, .int v_freeWho, .int v_reason, .int v_acts, .ref qt_gets, .ref qt_counts, .ref qt_worth, .ref qt_ways, .ref qt_image, .ref qt_isKept])), (qt_now, .inl (cI, 43, .inl v_now))] H → va_D A [(qt, .inr (9, [.ref qt_book, .ref qt_now, .ref qt_flakes, .ref qt_leaks, .int v_music, .ref qt_ranks, .int v_sights, .ref qt_sight, .int v_signs, .ref qt_pad, .int v_freeAt, .int v_freeWho, .int v_reason, .int v_acts, .ref qt_gets, .ref qt_counts, .ref qt_worth, .ref qt_ways, .ref qt_image, .ref qt_isKept])), (qt_now, .inl (cI, 43, .inl v_now))] → va_S A s.heap H locs → lv_has ls 3 [(0, .ref qt), (1, .int p1), (2, .int x2)] → L_X10_drop_12 p1 n12 v_now x2 = some (r, w_now) → W p l e rm_X10_drop s m args below meth c H locs 0 0 QQ (F0 m 12 ls []) := by
    intro n12
    induction n12 with
    | zero =>
      intro v_now x2 H locs ls hP hD hS hl h
      have h : none = some (r, w_now) := h
      cases h
    | succ n12 ih12 =>
      have hB60 : ∀ (v_now : (Nat → Int32)) (x2 : Int32) (s0 : Int32) (s1 : Int32) (H : Heap) (locs : List Loc) (ls : Array Slot), va_P D vwCl [(qt, .inr (9, [.ref qt_book, .ref qt_now, .ref qt_flakes, .ref qt_leaks, .int v_music, .ref qt_ranks, .int v_sights, .ref qt_sight, .int v_signs, .ref qt_pad, .int v_freeAt, .int v_freeWho, .int v_reason, .int v_acts, .ref qt_gets, .ref qt_counts, .ref qt_worth, .ref qt_ways, .ref qt_image, .ref qt_isKept])), (qt_now, .inl (cI, 43, .inl v_now))] H → va_D A [(qt, .inr (9, [.ref qt_book, .ref qt_now, .ref qt_flakes, .ref qt_leaks, .int v_music, .ref qt_ranks, .int v_sights, .ref qt_sight, .int v_signs, .ref qt_pad, .int v_freeAt, .int v_freeWho, .int v_reason, .int v_acts, .ref qt_gets, .ref qt_counts, .ref qt_worth, .ref qt_ways, .ref qt_image, .ref qt_isKept])), (qt_now, .inl (cI, 43, .inl v_now))] → va_S A s.heap H locs → lv_has ls 3 [(0, .ref qt), (1, .int p1), (2, .int x2)] → B_X10_drop_60 p1 (L_X10_drop_12 p1 n12) v_now x2 s0 s1 = some (r, w_now) → W p l e rm_X10_drop s m args below meth c H locs 0 0 QQ (F0 m 60 ls [.int s0, .int s1, .ref qt_now]) := by
        intro v_now x2 s0 s1 H locs ls hP hD hS hl h
        unfold B_X10_drop_60 at h
        obtain ⟨hg, h⟩ := gin_some h
        refine va_iast hx hb hE.1 hP hD hS 1 0 rfl rfl hg dX10_drop_60 (fun H locs (hP : va_P D vwCl [(qt, .inr (9, [.ref qt_book, .ref qt_now, .ref qt_flakes, .ref qt_leaks, .int v_music, .ref qt_ranks, .int v_sights, .ref qt_sight, .int v_signs, .ref qt_pad, .int v_freeAt, .int v_freeWho, .int v_reason, .int v_acts, .ref qt_gets, .ref qt_counts, .ref qt_worth, .ref qt_ways, .ref qt_image, .ref qt_isKept])), (qt_now, .inl (cI, 43, .inl (upd v_now (Int32.toNatClampNeg s1) s0)))] H) (hD : va_D A [(qt, .inr (9, [.ref qt_book, .ref qt_now, .ref qt_flakes, .ref qt_leaks, .int v_music, .ref qt_ranks, .int v_sights, .ref qt_sight, .int v_signs, .ref qt_pad, .int v_freeAt, .int v_freeWho, .int v_reason, .int v_acts, .ref qt_gets, .ref qt_counts, .ref qt_worth, .ref qt_ways, .ref qt_image, .ref qt_isKept])), (qt_now, .inl (cI, 43, .inl (upd v_now (Int32.toNatClampNeg s1) s0)))]) hS => ?_)
        refine lv_iinc (v := (x2 + (1 : Int32))) (lv' := [(2, .int (x2 + (1 : Int32))), (0, .ref qt), (1, .int p1)]) hx hb dX10_drop_61 hl (k := 2) rfl rfl (by decide) rfl (fun ls hl => ?_)
        refine lv_goto (tgt := 12) hx hb dX10_drop_64 (by decide) ?_
        exact ih12 (upd v_now (Int32.toNatClampNeg s1) s0) (x2 + (1 : Int32)) H locs ls hP hD hS (lv_sub hl [1, 2, 0] rfl) h
      intro v_now x2 H locs ls hP hD hS hl h
      rw [L_X10_drop_12.eq_2] at h
      refine lv_iload_n hx hb dX10_drop_12 rfl (lv_at hl 2 rfl) ?_
      refine lv_bipush (v := 8) hx hb dX10_drop_13 (by decide) ?_
      refine lv_icmp_ge (tgt := 67) hx hb dX10_drop_15 (by decide) (fun hc => ?_) (fun hc => ?_)
      · have h := if_t hc h
        refine lv_aload_n hx hb dX10_drop_67 rfl (lv_at hl 0 rfl) ?_
        refine va_get (D := D) (ci := 9) (C := RX10) (T := TX10) (N := 20) hx hb hts (fun _ hw => (List.mem_cons_of_mem _ (List.mem_append_right _ hw))) hown hE.1 hP 0 rfl rfl 1 (by decide) (hts (.fieldLink RX10 13 "GlobeCrownModel" "now" "[I") (List.mem_cons_of_mem _ (List.mem_append_left _ (List.mem_of_getElem? (i := 0) rfl)))) (fun _ h9 => h9) rfl dX10_drop_68 ?_
        refine lv_bipush (v := 40) hx hb dX10_drop_71 (by decide) ?_
        refine lv_dup2_11 hx hb dX10_drop_73 rfl rfl ?_
        refine va_iald hx hb hE.1 hP 1 0 rfl rfl (jinb_in (by decide)) dX10_drop_74 ?_
        refine lv_iconst (v := 1) hx hb dX10_drop_75 (by decide) ?_
        refine lv_iload_n hx hb dX10_drop_76 rfl (lv_at hl 1 rfl) ?_
        refine lv_ishl hx hb dX10_drop_77 ?_
        refine lv_iconst (v := -1) hx hb dX10_drop_78 (by decide) ?_
        refine lv_ixor hx hb dX10_drop_79 ?_
        refine lv_iand hx hb dX10_drop_80 ?_
        refine va_iast hx hb hE.1 hP hD hS 1 0 rfl rfl (jinb_in (by decide)) dX10_drop_81 (fun H locs (hP : va_P D vwCl [(qt, .inr (9, [.ref qt_book, .ref qt_now, .ref qt_flakes, .ref qt_leaks, .int v_music, .ref qt_ranks, .int v_sights, .ref qt_sight, .int v_signs, .ref qt_pad, .int v_freeAt, .int v_freeWho, .int v_reason, .int v_acts, .ref qt_gets, .ref qt_counts, .ref qt_worth, .ref qt_ways, .ref qt_image, .ref qt_isKept])), (qt_now, .inl (cI, 43, .inl (upd v_now (Int32.toNatClampNeg (40 : Int32)) ((v_now (Int32.toNatClampNeg (40 : Int32))) &&& (((1 : Int32) <<< (p1 &&& 31)) ^^^ (-1 : Int32))))))] H) (hD : va_D A [(qt, .inr (9, [.ref qt_book, .ref qt_now, .ref qt_flakes, .ref qt_leaks, .int v_music, .ref qt_ranks, .int v_sights, .ref qt_sight, .int v_signs, .ref qt_pad, .int v_freeAt, .int v_freeWho, .int v_reason, .int v_acts, .ref qt_gets, .ref qt_counts, .ref qt_worth, .ref qt_ways, .ref qt_image, .ref qt_isKept])), (qt_now, .inl (cI, 43, .inl (upd v_now (Int32.toNatClampNeg (40 : Int32)) ((v_now (Int32.toNatClampNeg (40 : Int32))) &&& (((1 : Int32) <<< (p1 &&& 31)) ^^^ (-1 : Int32))))))]) hS => ?_)
        refine lv_aload_n hx hb dX10_drop_82 rfl (lv_at hl 0 rfl) ?_
        refine va_get (D := D) (ci := 9) (C := RX10) (T := TX10) (N := 20) hx hb hts (fun _ hw => (List.mem_cons_of_mem _ (List.mem_append_right _ hw))) hown hE.1 hP 0 rfl rfl 1 (by decide) (hts (.fieldLink RX10 13 "GlobeCrownModel" "now" "[I") (List.mem_cons_of_mem _ (List.mem_append_left _ (List.mem_of_getElem? (i := 0) rfl)))) (fun _ h9 => h9) rfl dX10_drop_83 ?_
        refine lv_bipush (v := 32) hx hb dX10_drop_86 (by decide) ?_
        refine lv_iload_n hx hb dX10_drop_88 rfl (lv_at hl 1 rfl) ?_
        refine lv_iadd hx hb dX10_drop_89 ?_
        refine lv_bipush (v := -6) hx hb dX10_drop_90 (by decide) ?_
        obtain ⟨hg, h⟩ := gin_some h
        refine va_iast hx hb hE.1 hP hD hS 1 0 rfl rfl hg dX10_drop_92 (fun H locs (hP : va_P D vwCl [(qt, .inr (9, [.ref qt_book, .ref qt_now, .ref qt_flakes, .ref qt_leaks, .int v_music, .ref qt_ranks, .int v_sights, .ref qt_sight, .int v_signs, .ref qt_pad, .int v_freeAt, .int v_freeWho, .int v_reason, .int v_acts, .ref qt_gets, .ref qt_counts, .ref qt_worth, .ref qt_ways, .ref qt_image, .ref qt_isKept])), (qt_now, .inl (cI, 43, .inl (upd (upd v_now (Int32.toNatClampNeg (40 : Int32)) ((v_now (Int32.toNatClampNeg (40 : Int32))) &&& (((1 : Int32) <<< (p1 &&& 31)) ^^^ (-1 : Int32)))) (Int32.toNatClampNeg ((32 : Int32) + p1)) (-6 : Int32))))] H) (hD : va_D A [(qt, .inr (9, [.ref qt_book, .ref qt_now, .ref qt_flakes, .ref qt_leaks, .int v_music, .ref qt_ranks, .int v_sights, .ref qt_sight, .int v_signs, .ref qt_pad, .int v_freeAt, .int v_freeWho, .int v_reason, .int v_acts, .ref qt_gets, .ref qt_counts, .ref qt_worth, .ref qt_ways, .ref qt_image, .ref qt_isKept])), (qt_now, .inl (cI, 43, .inl (upd (upd v_now (Int32.toNatClampNeg (40 : Int32)) ((v_now (Int32.toNatClampNeg (40 : Int32))) &&& (((1 : Int32) <<< (p1 &&& 31)) ^^^ (-1 : Int32)))) (Int32.toNatClampNeg ((32 : Int32) + p1)) (-6 : Int32))))]) hS => ?_)
        refine lv_iconst (v := 0) hx hb dX10_drop_93 (by decide) ?_
        cases h
        rw [hQQ]
        exact gw_iret hx hb hr hlocks hP hD hS dX10_drop_94
      · have h := if_f hc h
        refine lv_aload_n hx hb dX10_drop_18 rfl (lv_at hl 0 rfl) ?_
        refine va_get (D := D) (ci := 9) (C := RX10) (T := TX10) (N := 20) hx hb hts (fun _ hw => (List.mem_cons_of_mem _ (List.mem_append_right _ hw))) hown hE.1 hP 0 rfl rfl 1 (by decide) (hts (.fieldLink RX10 13 "GlobeCrownModel" "now" "[I") (List.mem_cons_of_mem _ (List.mem_append_left _ (List.mem_of_getElem? (i := 0) rfl)))) (fun _ h9 => h9) rfl dX10_drop_19 ?_
        refine lv_bipush (v := 32) hx hb dX10_drop_22 (by decide) ?_
        refine lv_iload_n hx hb dX10_drop_24 rfl (lv_at hl 2 rfl) ?_
        refine lv_iadd hx hb dX10_drop_25 ?_
        refine lv_aload_n hx hb dX10_drop_26 rfl (lv_at hl 0 rfl) ?_
        refine va_get (D := D) (ci := 9) (C := RX10) (T := TX10) (N := 20) hx hb hts (fun _ hw => (List.mem_cons_of_mem _ (List.mem_append_right _ hw))) hown hE.1 hP 0 rfl rfl 1 (by decide) (hts (.fieldLink RX10 13 "GlobeCrownModel" "now" "[I") (List.mem_cons_of_mem _ (List.mem_append_left _ (List.mem_of_getElem? (i := 0) rfl)))) (fun _ h9 => h9) rfl dX10_drop_27 ?_
        refine lv_bipush (v := 32) hx hb dX10_drop_30 (by decide) ?_
        refine lv_iload_n hx hb dX10_drop_32 rfl (lv_at hl 2 rfl) ?_
        refine lv_iadd hx hb dX10_drop_33 ?_
        obtain ⟨hg, h⟩ := gin_some h
        refine va_iald hx hb hE.1 hP 1 0 rfl rfl hg dX10_drop_34 ?_
        refine lv_iload_n hx hb dX10_drop_35 rfl (lv_at hl 1 rfl) ?_
        refine lv_icmp_ne (tgt := 51) hx hb dX10_drop_36 (by decide) (fun hc => ?_) (fun hc => ?_)
        · have h := if_f hc h
          refine lv_aload_n hx hb dX10_drop_51 rfl (lv_at hl 0 rfl) ?_
          refine va_get (D := D) (ci := 9) (C := RX10) (T := TX10) (N := 20) hx hb hts (fun _ hw => (List.mem_cons_of_mem _ (List.mem_append_right _ hw))) hown hE.1 hP 0 rfl rfl 1 (by decide) (hts (.fieldLink RX10 13 "GlobeCrownModel" "now" "[I") (List.mem_cons_of_mem _ (List.mem_append_left _ (List.mem_of_getElem? (i := 0) rfl)))) (fun _ h9 => h9) rfl dX10_drop_52 ?_
          refine lv_bipush (v := 32) hx hb dX10_drop_55 (by decide) ?_
          refine lv_iload_n hx hb dX10_drop_57 rfl (lv_at hl 2 rfl) ?_
          refine lv_iadd hx hb dX10_drop_58 ?_
          obtain ⟨hg, h⟩ := gin_some h
          refine va_iald hx hb hE.1 hP 1 0 rfl rfl hg dX10_drop_59 ?_
          exact hB60 v_now x2 (v_now (Int32.toNatClampNeg ((32 : Int32) + x2))) ((32 : Int32) + x2) H locs ls hP hD hS hl h
        · have h := if_t hc h
          refine lv_aload_n hx hb dX10_drop_39 rfl (lv_at hl 0 rfl) ?_
          refine va_get (D := D) (ci := 9) (C := RX10) (T := TX10) (N := 20) hx hb hts (fun _ hw => (List.mem_cons_of_mem _ (List.mem_append_right _ hw))) hown hE.1 hP 0 rfl rfl 1 (by decide) (hts (.fieldLink RX10 13 "GlobeCrownModel" "now" "[I") (List.mem_cons_of_mem _ (List.mem_append_left _ (List.mem_of_getElem? (i := 0) rfl)))) (fun _ h9 => h9) rfl dX10_drop_40 ?_
          refine lv_bipush (v := 32) hx hb dX10_drop_43 (by decide) ?_
          refine lv_iload_n hx hb dX10_drop_45 rfl (lv_at hl 1 rfl) ?_
          refine lv_iadd hx hb dX10_drop_46 ?_
          obtain ⟨hg, h⟩ := gin_some h
          refine va_iald hx hb hE.1 hP 1 0 rfl rfl hg dX10_drop_47 ?_
          refine lv_goto (tgt := 60) hx hb dX10_drop_48 (by decide) ?_
          exact hB60 v_now x2 (v_now (Int32.toNatClampNeg ((32 : Int32) + p1))) ((32 : Int32) + x2) H locs ls hP hD hS hl h
  have h := hf
  unfold f_X10_drop at h
  refine gw_start hP hD hS (fun H locs hP hD hS => ?_)
  refine lv_aload_n hx hb dX10_drop_0 rfl (lv_at hl 0 rfl) ?_
  refine lv_iload_n hx hb dX10_drop_1 rfl (lv_at hl 1 rfl) ?_
  obtain ⟨r2, hc2, h⟩ := bd1_some h
  refine gw_ci (wr := []) (w2 := [(qt, .inr (9, [.ref qt_book, .ref qt_now, .ref qt_flakes, .ref qt_leaks, .int v_music, .ref qt_ranks, .int v_sights, .ref qt_sight, .int v_signs, .ref qt_pad, .int v_freeAt, .int v_freeWho, .int v_reason, .int v_acts, .ref qt_gets, .ref qt_counts, .ref qt_worth, .ref qt_ways, .ref qt_image, .ref qt_isKept])), (qt_now, .inl (cI, 43, .inl v_now))]) (gw_rV (n := 1) ⟨hx, hb, hml, hown, hts⟩ (C_X10_stands l D cI cJ cZ H.size qt qt_book qt_now qt_flakes qt_leaks qt_ranks qt_sight qt_pad qt_gets qt_counts qt_worth qt_ways qt_image qt_isKept v_now v_music v_sights v_signs v_freeAt v_freeWho v_reason v_acts p1 r2 hc2) gX10_drop_X10_stands rfl rfl rfl hdV_X10_stands ⟨Nat.le_of_ble_eq_true rfl, Nat.le_of_ble_eq_true rfl⟩ hE (hP.sub [0, 1] rfl) (hD.sub [0, 1] (by decide) rfl) 9 rfl 0 rfl rfl hl.1 (rest := []) rfl (Nat.le_of_ble_eq_true rfl) dX10_drop_2 ⟨Nat.zero_le _, Nat.zero_le _⟩) hP hD hS hA [0, 1] [] rfl rfl rfl (by decide) rfl (fun H locs hP hD hS => ?_)
  refine lv_if_ne (tgt := 10) hx hb dX10_drop_5 (by decide) (fun hc => ?_) (fun hc => ?_)
  · have h := if_f hc h
    refine lv_iconst (v := 0) hx hb dX10_drop_10 (by decide) ?_
    refine lv_istore_n (lv' := [(2, .int (0 : Int32)), (0, .ref qt), (1, .int p1)]) hx hb dX10_drop_11 rfl hl (by decide) rfl (fun ls hl => ?_)
    exact hL12 FU v_now (0 : Int32) H locs ls hP hD hS (lv_sub hl [1, 2, 0] rfl) h
  · have h := if_t hc h
    refine lv_iconst (v := 1) hx hb dX10_drop_8 (by decide) ?_
    cases h
    rw [hQQ]
    exact gw_iret hx hb hr hlocks hP hD hS dX10_drop_9
theorem hdV_X10_drop : yX10_drop.cls = RX10 ∧ yX10_drop.cls ≠ "java/lang/invoke/MethodHandle" ∧ yX10_drop.cls ≠ "java/lang/invoke/VarHandle" ∧ (parseMethodDescriptor yX10_drop.desc).map (fun d => d.parameters.length) = some 1 := by decide +kernel
