def B_X10_rank_46 (p1 : Int32) (p2 : Int32) (v_ranks : (Nat → Int32)) (x3 : Int32) : Option (Int32 × (Nat → Int32)) := (if x3 = (63 : Int32) then (if p2 ≤ (999999 : Int32) then (gin p1 6 (gin p1 6 (some ((v_ranks (Int32.toNatClampNeg p1)), (upd v_ranks (Int32.toNatClampNeg p1) p2))))) else (some ((-2 : Int32), v_ranks))) else (some ((-2 : Int32), v_ranks)))
def L_X10_rank_16 (p1 : Int32) (p2 : Int32) : Nat → (Nat → Int32) → Int32 → Int32 → Option (Int32 × (Nat → Int32))
  | 0, _, _, _ => none
  | n + 1, v_ranks, x3, x4 => (if (6 : Int32) ≤ x4 then (B_X10_rank_46 p1 p2 v_ranks x3) else (if p2 < (0 : Int32) then (B_X10_rank_46 p1 p2 v_ranks x3) else (bd1 (f_X10_digit p2 x4 (6 : Int32)) (fun r34 => ((L_X10_rank_16 p1 p2 n) v_ranks (x3 ||| ((1 : Int32) <<< (r34 &&& 31))) (x4 + (1 : Int32)))))))
def f_X10_rank (v_ranks : (Nat → Int32)) (p1 : Int32) (p2 : Int32) : Option (Int32 × (Nat → Int32)) := (bd1 (f_X10_in p1 (0 : Int32) (5 : Int32)) (fun r3 => (if r3 = (0 : Int32) then (some ((-1 : Int32), v_ranks)) else (L_X10_rank_16 p1 p2 FU v_ranks (0 : Int32) (0 : Int32)))))
abbrev rm_X10_rank : Room := { frames := 1, cells := 0, slots := 0, locals := 24 }
set_option maxHeartbeats 4000000 in
set_option maxRecDepth 100000 in
theorem C_X10_rank (l : Launch) (D : va_G) (cI cJ cZ : ClassId) (sz : Nat) (qt qt_book qt_now qt_flakes qt_leaks qt_ranks qt_sight qt_pad qt_gets qt_counts qt_worth qt_ways qt_image qt_isKept : Nat) (v_music : Int32) (v_ranks : (Nat → Int32)) (v_sights : Int32) (v_signs : Int32) (v_freeAt : Int32) (v_freeWho : Int32) (v_reason : Int32) (v_acts : Int32) (p1 : Int32) (p2 : Int32) (r : Int32) (w_ranks : (Nat → Int32)) (hf : f_X10_rank v_ranks p1 p2 = some (r, w_ranks)) : Met l yX10_rank wsX10_rank rm_X10_rank (PR D cI cJ cZ [(qt, .inr (9, [.ref qt_book, .ref qt_now, .ref qt_flakes, .ref qt_leaks, .int v_music, .ref qt_ranks, .int v_sights, .ref qt_sight, .int v_signs, .ref qt_pad, .int v_freeAt, .int v_freeWho, .int v_reason, .int v_acts, .ref qt_gets, .ref qt_counts, .ref qt_worth, .ref qt_ways, .ref qt_image, .ref qt_isKept])), (qt_ranks, .inl (cI, 6, .inl v_ranks))] sz [.ref qt, .int p1, .int p2]) (QI D (va_A [(qt, .inr (9, [.ref qt_book, .ref qt_now, .ref qt_flakes, .ref qt_leaks, .int v_music, .ref qt_ranks, .int v_sights, .ref qt_sight, .int v_signs, .ref qt_pad, .int v_freeAt, .int v_freeWho, .int v_reason, .int v_acts, .ref qt_gets, .ref qt_counts, .ref qt_worth, .ref qt_ways, .ref qt_image, .ref qt_isKept])), (qt_ranks, .inl (cI, 6, .inl v_ranks))] sz) r [(qt, .inr (9, [.ref qt_book, .ref qt_now, .ref qt_flakes, .ref qt_leaks, .int v_music, .ref qt_ranks, .int v_sights, .ref qt_sight, .int v_signs, .ref qt_pad, .int v_freeAt, .int v_freeWho, .int v_reason, .int v_acts, .ref qt_gets, .ref qt_counts, .ref qt_worth, .ref qt_ways, .ref qt_image, .ref qt_isKept])), (qt_ranks, .inl (cI, 6, .inl w_ranks))]) 0 0 (va_A [(qt, .inr (9, [.ref qt_book, .ref qt_now, .ref qt_flakes, .ref qt_leaks, .int v_music, .ref qt_ranks, .int v_sights, .ref qt_sight, .int v_signs, .ref qt_pad, .int v_freeAt, .int v_freeWho, .int v_reason, .int v_acts, .ref qt_gets, .ref qt_counts, .ref qt_worth, .ref qt_ways, .ref qt_image, .ref qt_isKept])), (qt_ranks, .inl (cI, 6, .inl v_ranks))] sz) := by
  refine Met.ofW (cc := cX10_rank) (maxL := 5) (ret := (some .int)) (by decide) rfl ?_
  intro p e s m args below meth c s₁ B hml hv
  obtain ⟨hav, hsz, hP, hD0, hE⟩ := hv
  have hx := B.exec
  have hb := B.bytes
  have hr := B.returns
  have hts := atoms_spec (ws := wsX10_rank) B.pre
  have hown : s.vm.findClass RX10 = some m.cls := findClass_of_methodNamed B.named
  have hlocks := B.notSynchronized
  subst hsz
  have hD := hD0.self (sz := s.heap.size)
  generalize hAe : va_A [(qt, .inr (9, [.ref qt_book, .ref qt_now, .ref qt_flakes, .ref qt_leaks, .int v_music, .ref qt_ranks, .int v_sights, .ref qt_sight, .int v_signs, .ref qt_pad, .int v_freeAt, .int v_freeWho, .int v_reason, .int v_acts, .ref qt_gets, .ref qt_counts, .ref qt_worth, .ref qt_ways, .ref qt_image, .ref qt_isKept])), (qt_ranks, .inl (cI, 6, .inl v_ranks))] s.heap.size = A at hD ⊢
  have hA : ∀ q : Nat, s.heap.size ≤ q → A q := fun q h => by rw [← hAe]; exact Or.inr h
  have hS : va_S A s.heap s.heap [] := va_S.rf
  have hl := lv_entry ([.ref qt, .int p1, .int p2]) (n := 5) (Nat.le_of_ble_eq_true rfl)
  have hfr : entryFrame m args 5 = entryFrame m ([.ref qt, .int p1, .int p2] : List Value).toArray 5 := by rw [hav]
  rw [hfr, lg_entry_eq]
  generalize (lg_sl ([.ref qt, .int p1, .int p2]) ++ List.replicate (5 - (lg_sl ([.ref qt, .int p1, .int p2])).length) Slot.unset).toArray = ls at hl ⊢
  have hl : lv_has ls 5 [(0, .ref qt), (1, .int p1), (2, .int p2)] := hl
  obtain ⟨QQ, hQQ⟩ : ∃ QQ, QQ = MQ below (QI D A r [(qt, .inr (9, [.ref qt_book, .ref qt_now, .ref qt_flakes, .ref qt_leaks, .int v_music, .ref qt_ranks, .int v_sights, .ref qt_sight, .int v_signs, .ref qt_pad, .int v_freeAt, .int v_freeWho, .int v_reason, .int v_acts, .ref qt_gets, .ref qt_counts, .ref qt_worth, .ref qt_ways, .ref qt_image, .ref qt_isKept])), (qt_ranks, .inl (cI, 6, .inl w_ranks))]) args s 0 0 A := ⟨_, rfl⟩
  show W p l e rm_X10_rank s m args below meth c s.heap [] 0 0 _ _
  rw [← hQQ]
  have hB46 : ∀ (v_ranks : (Nat → Int32)) (x3 : Int32) (H : Heap) (locs : List Loc) (ls : Array Slot), va_P D vwCl [(qt, .inr (9, [.ref qt_book, .ref qt_now, .ref qt_flakes, .ref qt_leaks, .int v_music, .ref qt_ranks, .int v_sights, .ref qt_sight, .int v_signs, .ref qt_pad, .int v_freeAt, .int v_freeWho, .int v_reason, .int v_acts, .ref qt_gets, .ref qt_counts, .ref qt_worth, .ref qt_ways, .ref qt_image, .ref qt_isKept])), (qt_ranks, .inl (cI, 6, .inl v_ranks))] H → va_D A [(qt, .inr (9, [.ref qt_book, .ref qt_now, .ref qt_flakes, .ref qt_leaks, .int v_music, .ref qt_ranks, .int v_sights, .ref qt_sight, .int v_signs, .ref qt_pad, .int v_freeAt, .int v_freeWho, .int v_reason, .int v_acts, .ref qt_gets, .ref qt_counts, .ref qt_worth, .ref qt_ways, .ref qt_image, .ref qt_isKept])), (qt_ranks, .inl (cI, 6, .inl v_ranks))] → va_S A s.heap H locs → lv_has ls 5 [(0, .ref qt), (1, .int p1), (2, .int p2), (3, .int x3)] → B_X10_rank_46 p1 p2 v_ranks x3 = some (r, w_ranks) → W p l e rm_X10_rank s m args below meth c H locs 0 0 QQ (F0 m 46 ls []) := by
    intro v_ranks x3 H locs ls hP hD hS hl h
    unfold B_X10_rank_46 at h
    refine lv_iload_n hx hb dX10_rank_46 rfl (lv_at hl 3 rfl) ?_
    refine lv_bipush (v := 63) hx hb dX10_rank_47 (by decide) ?_
    refine lv_icmp_ne (tgt := 58) hx hb dX10_rank_49 (by decide) (fun hc => ?_) (fun hc => ?_)
    · have h := if_f hc h
      refine lv_bipush (v := -2) hx hb dX10_rank_58 (by decide) ?_
      cases h
      rw [hQQ]
      exact gw_iret hx hb hr hlocks hP hD hS dX10_rank_60
    · have h := if_t hc h
      refine lv_iload_n hx hb dX10_rank_52 rfl (lv_at hl 2 rfl) ?_
      refine lv_ldc hx hb hown (hts (.constant RX10 145 (999999)) (List.mem_cons_of_mem _ (List.mem_append_left _ (List.mem_of_getElem? (i := 0) rfl)))) dX10_rank_53 ?_
      refine lv_icmp_le (tgt := 61) hx hb dX10_rank_55 (by decide) (fun hc => ?_) (fun hc => ?_)
      · have h := if_t hc h
        refine lv_aload_n hx hb dX10_rank_61 rfl (lv_at hl 0 rfl) ?_
        refine va_get (D := D) (ci := 9) (C := RX10) (T := TX10) (N := 20) hx hb hts (fun _ hw => (List.mem_cons_of_mem _ (List.mem_append_right _ hw))) hown hE.1 hP 0 rfl rfl 5 (by decide) (hts (.fieldLink RX10 22 "GlobeCrownModel" "ranks" "[I") (List.mem_cons_of_mem _ (List.mem_append_left _ (List.mem_of_getElem? (i := 1) rfl)))) (fun _ h9 => h9) rfl dX10_rank_62 ?_
        refine lv_iload_n hx hb dX10_rank_65 rfl (lv_at hl 1 rfl) ?_
        obtain ⟨hg, h⟩ := gin_some h
        refine va_iald hx hb hE.1 hP 1 0 rfl rfl hg dX10_rank_66 ?_
        refine lv_istore (lv' := [(4, .int (v_ranks (Int32.toNatClampNeg p1))), (0, .ref qt), (1, .int p1), (2, .int p2), (3, .int x3)]) hx hb dX10_rank_67 hl (by decide) rfl (fun ls hl => ?_)
        refine lv_aload_n hx hb dX10_rank_69 rfl (lv_at hl 1 rfl) ?_
        refine va_get (D := D) (ci := 9) (C := RX10) (T := TX10) (N := 20) hx hb hts (fun _ hw => (List.mem_cons_of_mem _ (List.mem_append_right _ hw))) hown hE.1 hP 0 rfl rfl 5 (by decide) (hts (.fieldLink RX10 22 "GlobeCrownModel" "ranks" "[I") (List.mem_cons_of_mem _ (List.mem_append_left _ (List.mem_of_getElem? (i := 1) rfl)))) (fun _ h9 => h9) rfl dX10_rank_70 ?_
        refine lv_iload_n hx hb dX10_rank_73 rfl (lv_at hl 2 rfl) ?_
        refine lv_iload_n hx hb dX10_rank_74 rfl (lv_at hl 3 rfl) ?_
        obtain ⟨hg, h⟩ := gin_some h
        refine va_iast hx hb hE.1 hP hD hS 1 0 rfl rfl hg dX10_rank_75 (fun H locs (hP : va_P D vwCl [(qt, .inr (9, [.ref qt_book, .ref qt_now, .ref qt_flakes, .ref qt_leaks, .int v_music, .ref qt_ranks, .int v_sights, .ref qt_sight, .int v_signs, .ref qt_pad, .int v_freeAt, .int v_freeWho, .int v_reason, .int v_acts, .ref qt_gets, .ref qt_counts, .ref qt_worth, .ref qt_ways, .ref qt_image, .ref qt_isKept])), (qt_ranks, .inl (cI, 6, .inl (upd v_ranks (Int32.toNatClampNeg p1) p2)))] H) (hD : va_D A [(qt, .inr (9, [.ref qt_book, .ref qt_now, .ref qt_flakes, .ref qt_leaks, .int v_music, .ref qt_ranks, .int v_sights, .ref qt_sight, .int v_signs, .ref qt_pad, .int v_freeAt, .int v_freeWho, .int v_reason, .int v_acts, .ref qt_gets, .ref qt_counts, .ref qt_worth, .ref qt_ways, .ref qt_image, .ref qt_isKept])), (qt_ranks, .inl (cI, 6, .inl (upd v_ranks (Int32.toNatClampNeg p1) p2)))]) hS => ?_)
        refine lv_iload hx hb dX10_rank_76 (lv_at hl 0 rfl) ?_
        cases h
        rw [hQQ]
        exact gw_iret hx hb hr hlocks hP hD hS dX10_rank_78
      · have h := if_f hc h
        refine lv_bipush (v := -2) hx hb dX10_rank_58 (by decide) ?_
        cases h
        rw [hQQ]
        exact gw_iret hx hb hr hlocks hP hD hS dX10_rank_60
  have hL16 : ∀ (n16 : Nat), ∀ (v_ranks : (Nat → Int32)) (x3 : Int32) (x4 : Int32) (H : Heap) (locs : List Loc) (ls : Array Slot), va_P D vwCl [(qt, .inr (9, [.ref qt_book, .ref qt_now, .ref qt_flakes, .ref qt_leaks, .int v_music, .ref qt_ranks, .int v_sights, .ref qt_sight, .int v_signs, .ref qt_pad, .int v_freeAt, .int v_freeWho, .int v_reason, .int v_acts, .ref qt_gets, .ref qt_counts, .ref qt_worth, .ref qt_ways, .ref qt_image, .ref qt_isKept])), (qt_ranks, .inl (cI, 6, .inl v_ranks))] H → va_D A [(qt, .inr (9, [.ref qt_book, .ref qt_now, .ref qt_flakes, .ref qt_leaks, .int v_music, .ref qt_ranks, .int v_sights, .ref qt_sight, .int v_signs, .ref qt_pad, .int v_freeAt, .int v_freeWho, .int v_reason, .int v_acts, .ref qt_gets, .ref qt_counts, .ref qt_worth, .ref qt_ways, .ref qt_image, .ref qt_isKept])), (qt_ranks, .inl (cI, 6, .inl v_ranks))] → va_S A s.heap H locs → lv_has ls 5 [(0, .ref qt), (1, .int p1), (2, .int p2), (3, .int x3), (4, .int x4)] → L_X10_rank_16 p1 p2 n16 v_ranks x3 x4 = some (r, w_ranks) → W p l e rm_X10_rank s m args below meth c H locs 0 0 QQ (F0 m 16 ls []) := by
    intro n16
    induction n16 with
    | zero =>
      intro v_ranks x3 x4 H locs ls hP hD hS hl h
      have h : none = some (r, w_ranks) := h
      cases h
    | succ n16 ih16 =>
      intro v_ranks x3 x4 H locs ls hP hD hS hl h
      rw [L_X10_rank_16.eq_2] at h
      refine lv_iload hx hb dX10_rank_16 (lv_at hl 4 rfl) ?_
      refine lv_bipush (v := 6) hx hb dX10_rank_18 (by decide) ?_
      refine lv_icmp_ge (tgt := 46) hx hb dX10_rank_20 (by decide) (fun hc => ?_) (fun hc => ?_)
      · have h := if_t hc h
        exact hB46 v_ranks x3 H locs ls hP hD hS (lv_sub hl [0, 1, 2, 3] rfl) h
      · have h := if_f hc h
        refine lv_iload_n hx hb dX10_rank_23 rfl (lv_at hl 2 rfl) ?_
        refine lv_if_lt (tgt := 46) hx hb dX10_rank_24 (by decide) (fun hc => ?_) (fun hc => ?_)
        · have h := if_t hc h
          exact hB46 v_ranks x3 H locs ls hP hD hS (lv_sub hl [0, 1, 2, 3] rfl) h
        · have h := if_f hc h
          refine lv_iload_n hx hb dX10_rank_27 rfl (lv_at hl 3 rfl) ?_
          refine lv_iconst (v := 1) hx hb dX10_rank_28 (by decide) ?_
          refine lv_iload_n hx hb dX10_rank_29 rfl (lv_at hl 2 rfl) ?_
          refine lv_iload hx hb dX10_rank_30 (lv_at hl 4 rfl) ?_
          refine lv_bipush (v := 6) hx hb dX10_rank_32 (by decide) ?_
          obtain ⟨r34, hc34, h⟩ := bd1_some h
          refine gw_ci (wr := [(qt, .inr (9, [.ref qt_book, .ref qt_now, .ref qt_flakes, .ref qt_leaks, .int v_music, .ref qt_ranks, .int v_sights, .ref qt_sight, .int v_signs, .ref qt_pad, .int v_freeAt, .int v_freeWho, .int v_reason, .int v_acts, .ref qt_gets, .ref qt_counts, .ref qt_worth, .ref qt_ways, .ref qt_image, .ref qt_isKept])), (qt_ranks, .inl (cI, 6, .inl v_ranks))]) (w2 := [(qt, .inr (9, [.ref qt_book, .ref qt_now, .ref qt_flakes, .ref qt_leaks, .int v_music, .ref qt_ranks, .int v_sights, .ref qt_sight, .int v_signs, .ref qt_pad, .int v_freeAt, .int v_freeWho, .int v_reason, .int v_acts, .ref qt_gets, .ref qt_counts, .ref qt_worth, .ref qt_ways, .ref qt_image, .ref qt_isKept])), (qt_ranks, .inl (cI, 6, .inl v_ranks))]) (gw_rS (n := 3) ⟨hx, hb, hml, hown, hts⟩ (C_X10_digit l D cI cJ cZ H.size p2 x4 (6 : Int32) r34 hc34) gX10_rank_X10_digit rfl rfl rfl hdS_X10_digit ⟨Nat.le_of_ble_eq_true rfl, Nat.le_of_ble_eq_true rfl⟩ hE (hP.sub [] rfl) (hD.sub [] (by decide) rfl) rfl hl.1 (rest := [.int (1 : Int32), .int x3]) rfl (Nat.le_of_ble_eq_true rfl) dX10_rank_34 ⟨Nat.zero_le _, Nat.zero_le _⟩) hP hD hS hA [] [0, 1] rfl rfl rfl (by decide) rfl (fun H locs hP hD hS => ?_)
          refine lv_ishl hx hb dX10_rank_37 ?_
          refine lv_ior hx hb dX10_rank_38 ?_
          refine lv_istore_n (lv' := [(3, .int (x3 ||| ((1 : Int32) <<< (r34 &&& 31)))), (0, .ref qt), (1, .int p1), (2, .int p2), (4, .int x4)]) hx hb dX10_rank_39 rfl hl (by decide) rfl (fun ls hl => ?_)
          refine lv_iinc (v := (x4 + (1 : Int32))) (lv' := [(4, .int (x4 + (1 : Int32))), (3, .int (x3 ||| ((1 : Int32) <<< (r34 &&& 31)))), (0, .ref qt), (1, .int p1), (2, .int p2)]) hx hb dX10_rank_40 hl (k := 4) rfl rfl (by decide) rfl (fun ls hl => ?_)
          refine lv_goto (tgt := 16) hx hb dX10_rank_43 (by decide) ?_
          exact ih16 v_ranks (x3 ||| ((1 : Int32) <<< (r34 &&& 31))) (x4 + (1 : Int32)) H locs ls hP hD hS (lv_sub hl [2, 3, 4, 1, 0] rfl) h
  have h := hf
  unfold f_X10_rank at h
  refine gw_start hP hD hS (fun H locs hP hD hS => ?_)
  refine lv_iload_n hx hb dX10_rank_0 rfl (lv_at hl 1 rfl) ?_
  refine lv_iconst (v := 0) hx hb dX10_rank_1 (by decide) ?_
  refine lv_iconst (v := 5) hx hb dX10_rank_2 (by decide) ?_
  obtain ⟨r3, hc3, h⟩ := bd1_some h
  refine gw_ci (wr := [(qt, .inr (9, [.ref qt_book, .ref qt_now, .ref qt_flakes, .ref qt_leaks, .int v_music, .ref qt_ranks, .int v_sights, .ref qt_sight, .int v_signs, .ref qt_pad, .int v_freeAt, .int v_freeWho, .int v_reason, .int v_acts, .ref qt_gets, .ref qt_counts, .ref qt_worth, .ref qt_ways, .ref qt_image, .ref qt_isKept])), (qt_ranks, .inl (cI, 6, .inl v_ranks))]) (w2 := [(qt, .inr (9, [.ref qt_book, .ref qt_now, .ref qt_flakes, .ref qt_leaks, .int v_music, .ref qt_ranks, .int v_sights, .ref qt_sight, .int v_signs, .ref qt_pad, .int v_freeAt, .int v_freeWho, .int v_reason, .int v_acts, .ref qt_gets, .ref qt_counts, .ref qt_worth, .ref qt_ways, .ref qt_image, .ref qt_isKept])), (qt_ranks, .inl (cI, 6, .inl v_ranks))]) (gw_rS (n := 3) ⟨hx, hb, hml, hown, hts⟩ (C_X10_in l D cI cJ cZ H.size p1 (0 : Int32) (5 : Int32) r3 hc3) gX10_rank_X10_in rfl rfl rfl hdS_X10_in ⟨Nat.le_of_ble_eq_true rfl, Nat.le_of_ble_eq_true rfl⟩ hE (hP.sub [] rfl) (hD.sub [] (by decide) rfl) rfl hl.1 (rest := []) rfl (Nat.le_of_ble_eq_true rfl) dX10_rank_3 ⟨Nat.zero_le _, Nat.zero_le _⟩) hP hD hS hA [] [0, 1] rfl rfl rfl (by decide) rfl (fun H locs hP hD hS => ?_)
  refine lv_if_ne (tgt := 11) hx hb dX10_rank_6 (by decide) (fun hc => ?_) (fun hc => ?_)
  · have h := if_f hc h
    refine lv_iconst (v := 0) hx hb dX10_rank_11 (by decide) ?_
    refine lv_istore_n (lv' := [(3, .int (0 : Int32)), (0, .ref qt), (1, .int p1), (2, .int p2)]) hx hb dX10_rank_12 rfl hl (by decide) rfl (fun ls hl => ?_)
    refine lv_iconst (v := 0) hx hb dX10_rank_13 (by decide) ?_
    refine lv_istore (lv' := [(4, .int (0 : Int32)), (3, .int (0 : Int32)), (0, .ref qt), (1, .int p1), (2, .int p2)]) hx hb dX10_rank_14 hl (by decide) rfl (fun ls hl => ?_)
    exact hL16 FU v_ranks (0 : Int32) (0 : Int32) H locs ls hP hD hS (lv_sub hl [2, 3, 4, 1, 0] rfl) h
  · have h := if_t hc h
    refine lv_iconst (v := -1) hx hb dX10_rank_9 (by decide) ?_
    cases h
    rw [hQQ]
    exact gw_iret hx hb hr hlocks hP hD hS dX10_rank_10
theorem hdV_X10_rank : yX10_rank.cls = RX10 ∧ yX10_rank.cls ≠ "java/lang/invoke/MethodHandle" ∧ yX10_rank.cls ≠ "java/lang/invoke/VarHandle" ∧ (parseMethodDescriptor yX10_rank.desc).map (fun d => d.parameters.length) = some 2 := by decide +kernel
def L_X10_pointsTo_2 (v_ranks : (Nat → Int32)) (p1 : Int32) (p2 : Int32) : Nat → Int32 → Option (Int32)
  | 0, _ => none
  | n + 1, x3 => (gin p1 6 (bd1 (f_X10_digit (v_ranks (Int32.toNatClampNeg p1)) x3 (6 : Int32)) (fun r12 => (bd1 (f_X10_has p2 r12) (fun r15 => (if r15 = (0 : Int32) then ((L_X10_pointsTo_2 v_ranks p1 p2 n) (x3 + (1 : Int32))) else (gin p1 6 (bd1 (f_X10_digit (v_ranks (Int32.toNatClampNeg p1)) x3 (6 : Int32)) (fun r36 => (some r36))))))))))
def f_X10_pointsTo (v_ranks : (Nat → Int32)) (p1 : Int32) (p2 : Int32) : Option (Int32) := (L_X10_pointsTo_2 v_ranks p1 p2 FU (0 : Int32))
abbrev rm_X10_pointsTo : Room := { frames := 1, cells := 0, slots := 0, locals := 24 }
set_option maxHeartbeats 4000000 in
set_option maxRecDepth 100000 in
theorem C_X10_pointsTo (l : Launch) (D : va_G) (cI cJ cZ : ClassId) (sz : Nat) (qt qt_book qt_now qt_flakes qt_leaks qt_ranks qt_sight qt_pad qt_gets qt_counts qt_worth qt_ways qt_image qt_isKept : Nat) (v_music : Int32) (v_ranks : (Nat → Int32)) (v_sights : Int32) (v_signs : Int32) (v_freeAt : Int32) (v_freeWho : Int32) (v_reason : Int32) (v_acts : Int32) (p1 : Int32) (p2 : Int32) (r : Int32) (hf : f_X10_pointsTo v_ranks p1 p2 = some r) : Met l yX10_pointsTo wsX10_pointsTo rm_X10_pointsTo (PR D cI cJ cZ [(qt, .inr (9, [.ref qt_book, .ref qt_now, .ref qt_flakes, .ref qt_leaks, .int v_music, .ref qt_ranks, .int v_sights, .ref qt_sight, .int v_signs, .ref qt_pad, .int v_freeAt, .int v_freeWho, .int v_reason, .int v_acts, .ref qt_gets, .ref qt_counts, .ref qt_worth, .ref qt_ways, .ref qt_image, .ref qt_isKept])), (qt_ranks, .inl (cI, 6, .inl v_ranks))] sz [.ref qt, .int p1, .int p2]) (QI D (va_A [(qt, .inr (9, [.ref qt_book, .ref qt_now, .ref qt_flakes, .ref qt_leaks, .int v_music, .ref qt_ranks, .int v_sights, .ref qt_sight, .int v_signs, .ref qt_pad, .int v_freeAt, .int v_freeWho, .int v_reason, .int v_acts, .ref qt_gets, .ref qt_counts, .ref qt_worth, .ref qt_ways, .ref qt_image, .ref qt_isKept])), (qt_ranks, .inl (cI, 6, .inl v_ranks))] sz) r [(qt, .inr (9, [.ref qt_book, .ref qt_now, .ref qt_flakes, .ref qt_leaks, .int v_music, .ref qt_ranks, .int v_sights, .ref qt_sight, .int v_signs, .ref qt_pad, .int v_freeAt, .int v_freeWho, .int v_reason, .int v_acts, .ref qt_gets, .ref qt_counts, .ref qt_worth, .ref qt_ways, .ref qt_image, .ref qt_isKept])), (qt_ranks, .inl (cI, 6, .inl v_ranks))]) 0 0 (va_A [(qt, .inr (9, [.ref qt_book, .ref qt_now, .ref qt_flakes, .ref qt_leaks, .int v_music, .ref qt_ranks, .int v_sights, .ref qt_sight, .int v_signs, .ref qt_pad, .int v_freeAt, .int v_freeWho, .int v_reason, .int v_acts, .ref qt_gets, .ref qt_counts, .ref qt_worth, .ref qt_ways, .ref qt_image, .ref qt_isKept])), (qt_ranks, .inl (cI, 6, .inl v_ranks))] sz) := by
  refine Met.ofW (cc := cX10_pointsTo) (maxL := 4) (ret := (some .int)) (by decide) rfl ?_
  intro p e s m args below meth c s₁ B hml hv
  obtain ⟨hav, hsz, hP, hD0, hE⟩ := hv
  have hx := B.exec
  have hb := B.bytes
  have hr := B.returns
  have hts := atoms_spec (ws := wsX10_pointsTo) B.pre
  have hown : s.vm.findClass RX10 = some m.cls := findClass_of_methodNamed B.named
  have hlocks := B.notSynchronized
  subst hsz
  have hD := hD0.self (sz := s.heap.size)
  generalize hAe : va_A [(qt, .inr (9, [.ref qt_book, .ref qt_now, .ref qt_flakes, .ref qt_leaks, .int v_music, .ref qt_ranks, .int v_sights, .ref qt_sight, .int v_signs, .ref qt_pad, .int v_freeAt, .int v_freeWho, .int v_reason, .int v_acts, .ref qt_gets, .ref qt_counts, .ref qt_worth, .ref qt_ways, .ref qt_image, .ref qt_isKept])), (qt_ranks, .inl (cI, 6, .inl v_ranks))] s.heap.size = A at hD ⊢
  have hA : ∀ q : Nat, s.heap.size ≤ q → A q := fun q h => by rw [← hAe]; exact Or.inr h
  have hS : va_S A s.heap s.heap [] := va_S.rf
  have hl := lv_entry ([.ref qt, .int p1, .int p2]) (n := 4) (Nat.le_of_ble_eq_true rfl)
  have hfr : entryFrame m args 4 = entryFrame m ([.ref qt, .int p1, .int p2] : List Value).toArray 4 := by rw [hav]
  rw [hfr, lg_entry_eq]
  generalize (lg_sl ([.ref qt, .int p1, .int p2]) ++ List.replicate (4 - (lg_sl ([.ref qt, .int p1, .int p2])).length) Slot.unset).toArray = ls at hl ⊢
  have hl : lv_has ls 4 [(0, .ref qt), (1, .int p1), (2, .int p2)] := hl
  obtain ⟨QQ, hQQ⟩ : ∃ QQ, QQ = MQ below (QI D A r [(qt, .inr (9, [.ref qt_book, .ref qt_now, .ref qt_flakes, .ref qt_leaks, .int v_music, .ref qt_ranks, .int v_sights, .ref qt_sight, .int v_signs, .ref qt_pad, .int v_freeAt, .int v_freeWho, .int v_reason, .int v_acts, .ref qt_gets, .ref qt_counts, .ref qt_worth, .ref qt_ways, .ref qt_image, .ref qt_isKept])), (qt_ranks, .inl (cI, 6, .inl v_ranks))]) args s 0 0 A := ⟨_, rfl⟩
  show W p l e rm_X10_pointsTo s m args below meth c s.heap [] 0 0 _ _
  rw [← hQQ]
  have hL2 : ∀ (n2 : Nat), ∀ (x3 : Int32) (H : Heap) (locs : List Loc) (ls : Array Slot), va_P D vwCl [(qt, .inr (9, [.ref qt_book, .ref qt_now, .ref qt_flakes, .ref qt_leaks, .int v_music, .ref qt_ranks, .int v_sights, .ref qt_sight, .int v_signs, .ref qt_pad, .int v_freeAt, .int v_freeWho, .int v_reason, .int v_acts, .ref qt_gets, .ref qt_counts, .ref qt_worth, .ref qt_ways, .ref qt_image, .ref qt_isKept])), (qt_ranks, .inl (cI, 6, .inl v_ranks))] H → va_D A [(qt, .inr (9, [.ref qt_book, .ref qt_now, .ref qt_flakes, .ref qt_leaks, .int v_music, .ref qt_ranks, .int v_sights, .ref qt_sight, .int v_signs, .ref qt_pad, .int v_freeAt, .int v_freeWho, .int v_reason, .int v_acts, .ref qt_gets, .ref qt_counts, .ref qt_worth, .ref qt_ways, .ref qt_image, .ref qt_isKept])), (qt_ranks, .inl (cI, 6, .inl v_ranks))] → va_S A s.heap H locs → lv_has ls 4 [(0, .ref qt), (1, .int p1), (2, .int p2), (3, .int x3)] → L_X10_pointsTo_2 v_ranks p1 p2 n2 x3 = some r → W p l e rm_X10_pointsTo s m args below meth c H locs 0 0 QQ (F0 m 2 ls []) := by
    intro n2
    induction n2 with
    | zero =>
      intro x3 H locs ls hP hD hS hl h
      have h : none = some r := h
      cases h
    | succ n2 ih2 =>
      intro x3 H locs ls hP hD hS hl h
      rw [L_X10_pointsTo_2.eq_2] at h
      refine lv_iload_n hx hb dX10_pointsTo_2 rfl (lv_at hl 2 rfl) ?_
      refine lv_aload_n hx hb dX10_pointsTo_3 rfl (lv_at hl 0 rfl) ?_
      refine va_get (D := D) (ci := 9) (C := RX10) (T := TX10) (N := 20) hx hb hts (fun _ hw => (List.mem_cons_of_mem _ (List.mem_append_right _ hw))) hown hE.1 hP 0 rfl rfl 5 (by decide) (hts (.fieldLink RX10 22 "GlobeCrownModel" "ranks" "[I") (List.mem_cons_of_mem _ (List.mem_append_left _ (List.mem_of_getElem? (i := 0) rfl)))) (fun _ h9 => h9) rfl dX10_pointsTo_4 ?_
      refine lv_iload_n hx hb dX10_pointsTo_7 rfl (lv_at hl 1 rfl) ?_
      obtain ⟨hg, h⟩ := gin_some h
      refine va_iald hx hb hE.1 hP 1 0 rfl rfl hg dX10_pointsTo_8 ?_
      refine lv_iload_n hx hb dX10_pointsTo_9 rfl (lv_at hl 3 rfl) ?_
      refine lv_bipush (v := 6) hx hb dX10_pointsTo_10 (by decide) ?_
      obtain ⟨r12, hc12, h⟩ := bd1_some h
      refine gw_ci (wr := [(qt, .inr (9, [.ref qt_book, .ref qt_now, .ref qt_flakes, .ref qt_leaks, .int v_music, .ref qt_ranks, .int v_sights, .ref qt_sight, .int v_signs, .ref qt_pad, .int v_freeAt, .int v_freeWho, .int v_reason, .int v_acts, .ref qt_gets, .ref qt_counts, .ref qt_worth, .ref qt_ways, .ref qt_image, .ref qt_isKept])), (qt_ranks, .inl (cI, 6, .inl v_ranks))]) (w2 := [(qt, .inr (9, [.ref qt_book, .ref qt_now, .ref qt_flakes, .ref qt_leaks, .int v_music, .ref qt_ranks, .int v_sights, .ref qt_sight, .int v_signs, .ref qt_pad, .int v_freeAt, .int v_freeWho, .int v_reason, .int v_acts, .ref qt_gets, .ref qt_counts, .ref qt_worth, .ref qt_ways, .ref qt_image, .ref qt_isKept])), (qt_ranks, .inl (cI, 6, .inl v_ranks))]) (gw_rS (n := 3) ⟨hx, hb, hml, hown, hts⟩ (C_X10_digit l D cI cJ cZ H.size (v_ranks (Int32.toNatClampNeg p1)) x3 (6 : Int32) r12 hc12) gX10_pointsTo_X10_digit rfl rfl rfl hdS_X10_digit ⟨Nat.le_of_ble_eq_true rfl, Nat.le_of_ble_eq_true rfl⟩ hE (hP.sub [] rfl) (hD.sub [] (by decide) rfl) rfl hl.1 (rest := [.int p2]) rfl (Nat.le_of_ble_eq_true rfl) dX10_pointsTo_12 ⟨Nat.zero_le _, Nat.zero_le _⟩) hP hD hS hA [] [0, 1] rfl rfl rfl (by decide) rfl (fun H locs hP hD hS => ?_)
      obtain ⟨r15, hc15, h⟩ := bd1_some h
      refine gw_ci (wr := [(qt, .inr (9, [.ref qt_book, .ref qt_now, .ref qt_flakes, .ref qt_leaks, .int v_music, .ref qt_ranks, .int v_sights, .ref qt_sight, .int v_signs, .ref qt_pad, .int v_freeAt, .int v_freeWho, .int v_reason, .int v_acts, .ref qt_gets, .ref qt_counts, .ref qt_worth, .ref qt_ways, .ref qt_image, .ref qt_isKept])), (qt_ranks, .inl (cI, 6, .inl v_ranks))]) (w2 := [(qt, .inr (9, [.ref qt_book, .ref qt_now, .ref qt_flakes, .ref qt_leaks, .int v_music, .ref qt_ranks, .int v_sights, .ref qt_sight, .int v_signs, .ref qt_pad, .int v_freeAt, .int v_freeWho, .int v_reason, .int v_acts, .ref qt_gets, .ref qt_counts, .ref qt_worth, .ref qt_ways, .ref qt_image, .ref qt_isKept])), (qt_ranks, .inl (cI, 6, .inl v_ranks))]) (gw_rS (n := 2) ⟨hx, hb, hml, hown, hts⟩ (C_X10_has l D cI cJ cZ H.size p2 r12 r15 hc15) gX10_pointsTo_X10_has rfl rfl rfl hdS_X10_has ⟨Nat.le_of_ble_eq_true rfl, Nat.le_of_ble_eq_true rfl⟩ hE (hP.sub [] rfl) (hD.sub [] (by decide) rfl) rfl hl.1 (rest := []) rfl (Nat.le_of_ble_eq_true rfl) dX10_pointsTo_15 ⟨Nat.zero_le _, Nat.zero_le _⟩) hP hD hS hA [] [0, 1] rfl rfl rfl (by decide) rfl (fun H locs hP hD hS => ?_)
      refine lv_if_ne (tgt := 27) hx hb dX10_pointsTo_18 (by decide) (fun hc => ?_) (fun hc => ?_)
      · have h := if_f hc h
        refine lv_aload_n hx hb dX10_pointsTo_27 rfl (lv_at hl 0 rfl) ?_
        refine va_get (D := D) (ci := 9) (C := RX10) (T := TX10) (N := 20) hx hb hts (fun _ hw => (List.mem_cons_of_mem _ (List.mem_append_right _ hw))) hown hE.1 hP 0 rfl rfl 5 (by decide) (hts (.fieldLink RX10 22 "GlobeCrownModel" "ranks" "[I") (List.mem_cons_of_mem _ (List.mem_append_left _ (List.mem_of_getElem? (i := 0) rfl)))) (fun _ h9 => h9) rfl dX10_pointsTo_28 ?_
        refine lv_iload_n hx hb dX10_pointsTo_31 rfl (lv_at hl 1 rfl) ?_
        obtain ⟨hg, h⟩ := gin_some h
        refine va_iald hx hb hE.1 hP 1 0 rfl rfl hg dX10_pointsTo_32 ?_
        refine lv_iload_n hx hb dX10_pointsTo_33 rfl (lv_at hl 3 rfl) ?_
        refine lv_bipush (v := 6) hx hb dX10_pointsTo_34 (by decide) ?_
        obtain ⟨r36, hc36, h⟩ := bd1_some h
        refine gw_ci (wr := [(qt, .inr (9, [.ref qt_book, .ref qt_now, .ref qt_flakes, .ref qt_leaks, .int v_music, .ref qt_ranks, .int v_sights, .ref qt_sight, .int v_signs, .ref qt_pad, .int v_freeAt, .int v_freeWho, .int v_reason, .int v_acts, .ref qt_gets, .ref qt_counts, .ref qt_worth, .ref qt_ways, .ref qt_image, .ref qt_isKept])), (qt_ranks, .inl (cI, 6, .inl v_ranks))]) (w2 := [(qt, .inr (9, [.ref qt_book, .ref qt_now, .ref qt_flakes, .ref qt_leaks, .int v_music, .ref qt_ranks, .int v_sights, .ref qt_sight, .int v_signs, .ref qt_pad, .int v_freeAt, .int v_freeWho, .int v_reason, .int v_acts, .ref qt_gets, .ref qt_counts, .ref qt_worth, .ref qt_ways, .ref qt_image, .ref qt_isKept])), (qt_ranks, .inl (cI, 6, .inl v_ranks))]) (gw_rS (n := 3) ⟨hx, hb, hml, hown, hts⟩ (C_X10_digit l D cI cJ cZ H.size (v_ranks (Int32.toNatClampNeg p1)) x3 (6 : Int32) r36 hc36) gX10_pointsTo_X10_digit rfl rfl rfl hdS_X10_digit ⟨Nat.le_of_ble_eq_true rfl, Nat.le_of_ble_eq_true rfl⟩ hE (hP.sub [] rfl) (hD.sub [] (by decide) rfl) rfl hl.1 (rest := []) rfl (Nat.le_of_ble_eq_true rfl) dX10_pointsTo_36 ⟨Nat.zero_le _, Nat.zero_le _⟩) hP hD hS hA [] [0, 1] rfl rfl rfl (by decide) rfl (fun H locs hP hD hS => ?_)
        cases h
        rw [hQQ]
        exact gw_iret hx hb hr hlocks hP hD hS dX10_pointsTo_39
      · have h := if_t hc h
        refine lv_iinc (v := (x3 + (1 : Int32))) (lv' := [(3, .int (x3 + (1 : Int32))), (0, .ref qt), (1, .int p1), (2, .int p2)]) hx hb dX10_pointsTo_21 hl (k := 3) rfl rfl (by decide) rfl (fun ls hl => ?_)
        refine lv_goto (tgt := 2) hx hb dX10_pointsTo_24 (by decide) ?_
        exact ih2 (x3 + (1 : Int32)) H locs ls hP hD hS (lv_sub hl [1, 2, 3, 0] rfl) h
  have h := hf
  unfold f_X10_pointsTo at h
  refine gw_start hP hD hS (fun H locs hP hD hS => ?_)
  refine lv_iconst (v := 0) hx hb dX10_pointsTo_0 (by decide) ?_
  refine lv_istore_n (lv' := [(3, .int (0 : Int32)), (0, .ref qt), (1, .int p1), (2, .int p2)]) hx hb dX10_pointsTo_1 rfl hl (by decide) rfl (fun ls hl => ?_)
  exact hL2 FU (0 : Int32) H locs ls hP hD hS (lv_sub hl [1, 2, 3, 0] rfl) h
theorem hdV_X10_pointsTo : yX10_pointsTo.cls = RX10 ∧ yX10_pointsTo.cls ≠ "java/lang/invoke/MethodHandle" ∧ yX10_pointsTo.cls ≠ "java/lang/invoke/VarHandle" ∧ (parseMethodDescriptor yX10_pointsTo.desc).map (fun d => d.parameters.length) = some 2 := by decide +kernel
def L_X10_makeRings_46 (v_ranks : (Nat → Int32)) (rec3 : (Nat → Int32) → Int32 → Option ((Nat → Int32))) : Nat → (Nat → Int32) → Int32 → Int32 → Int32 → Option ((Nat → Int32))
  | 0, _, _, _, _ => none
  | n + 1, v_gets, x1, x2, x3 => (bd1 (f_X10_has x3 x2) (fun r48 => (if r48 = (0 : Int32) then (bd1 (f_X10_pointsTo v_ranks x2 x1) (fun r68 => (gin x2 6 (gin x2 6 ((L_X10_makeRings_46 v_ranks rec3 n) (upd v_gets (Int32.toNatClampNeg x2) r68) x1 ((upd v_gets (Int32.toNatClampNeg x2) r68) (Int32.toNatClampNeg x2)) (x3 ||| ((1 : Int32) <<< (x2 &&& 31)))))))) else (rec3 v_gets (x1 &&& (x3 ^^^ (-1 : Int32)))))))
def L_X10_makeRings_25 (v_ranks : (Nat → Int32)) (rec3 : (Nat → Int32) → Int32 → Option ((Nat → Int32))) : Nat → (Nat → Int32) → Int32 → Int32 → Int32 → Option ((Nat → Int32))
  | 0, _, _, _, _ => none
  | n + 1, v_gets, x1, x2, x3 => (if (6 : Int32) ≤ x3 then (L_X10_makeRings_46 v_ranks rec3 FU v_gets x1 x2 (0 : Int32)) else (bd1 (f_X10_pointsTo v_ranks x2 x1) (fun r34 => ((L_X10_makeRings_25 v_ranks rec3 n) v_gets x1 r34 (x3 + (1 : Int32))))))
def L_X10_makeRings_9 (v_ranks : (Nat → Int32)) (rec3 : (Nat → Int32) → Int32 → Option ((Nat → Int32))) : Nat → (Nat → Int32) → Int32 → Int32 → Option ((Nat → Int32))
  | 0, _, _, _ => none
  | n + 1, v_gets, x1, x2 => (bd1 (f_X10_has x1 x2) (fun r11 => (if r11 = (0 : Int32) then ((L_X10_makeRings_9 v_ranks rec3 n) v_gets x1 (x2 + (1 : Int32))) else (L_X10_makeRings_25 v_ranks rec3 FU v_gets x1 x2 (0 : Int32)))))
def L_X10_makeRings_3 (v_ranks : (Nat → Int32)) : Nat → (Nat → Int32) → Int32 → Option ((Nat → Int32))
  | 0, _, _ => none
  | n + 1, v_gets, x1 => (if x1 = (0 : Int32) then (some v_gets) else (L_X10_makeRings_9 v_ranks (L_X10_makeRings_3 v_ranks n) FU v_gets x1 (0 : Int32)))
def f_X10_makeRings (v_ranks : (Nat → Int32)) (v_gets : (Nat → Int32)) : Option ((Nat → Int32)) := (L_X10_makeRings_3 v_ranks FU v_gets (63 : Int32))
abbrev rm_X10_makeRings : Room := { frames := 2, cells := 0, slots := 0, locals := 47 }
set_option maxHeartbeats 4000000 in
set_option maxRecDepth 100000 in
theorem C_X10_makeRings (l : Launch) (D : va_G) (cI cJ cZ : ClassId) (sz : Nat) (qt qt_book qt_now qt_flakes qt_leaks qt_ranks qt_sight qt_pad qt_gets qt_counts qt_worth qt_ways qt_image qt_isKept : Nat) (v_music : Int32) (v_ranks : (Nat → Int32)) (v_sights : Int32) (v_signs : Int32) (v_freeAt : Int32) (v_freeWho : Int32) (v_reason : Int32) (v_acts : Int32) (v_gets : (Nat → Int32)) (w_gets : (Nat → Int32)) (hf : f_X10_makeRings v_ranks v_gets = some w_gets) : Met l yX10_makeRings wsX10_makeRings rm_X10_makeRings (PR D cI cJ cZ [(qt, .inr (9, [.ref qt_book, .ref qt_now, .ref qt_flakes, .ref qt_leaks, .int v_music, .ref qt_ranks, .int v_sights, .ref qt_sight, .int v_signs, .ref qt_pad, .int v_freeAt, .int v_freeWho, .int v_reason, .int v_acts, .ref qt_gets, .ref qt_counts, .ref qt_worth, .ref qt_ways, .ref qt_image, .ref qt_isKept])), (qt_ranks, .inl (cI, 6, .inl v_ranks)), (qt_gets, .inl (cI, 6, .inl v_gets))] sz [.ref qt]) (QV D (va_A [(qt, .inr (9, [.ref qt_book, .ref qt_now, .ref qt_flakes, .ref qt_leaks, .int v_music, .ref qt_ranks, .int v_sights, .ref qt_sight, .int v_signs, .ref qt_pad, .int v_freeAt, .int v_freeWho, .int v_reason, .int v_acts, .ref qt_gets, .ref qt_counts, .ref qt_worth, .ref qt_ways, .ref qt_image, .ref qt_isKept])), (qt_ranks, .inl (cI, 6, .inl v_ranks)), (qt_gets, .inl (cI, 6, .inl v_gets))] sz) [(qt, .inr (9, [.ref qt_book, .ref qt_now, .ref qt_flakes, .ref qt_leaks, .int v_music, .ref qt_ranks, .int v_sights, .ref qt_sight, .int v_signs, .ref qt_pad, .int v_freeAt, .int v_freeWho, .int v_reason, .int v_acts, .ref qt_gets, .ref qt_counts, .ref qt_worth, .ref qt_ways, .ref qt_image, .ref qt_isKept])), (qt_ranks, .inl (cI, 6, .inl v_ranks)), (qt_gets, .inl (cI, 6, .inl w_gets))]) 0 0 (va_A [(qt, .inr (9, [.ref qt_book, .ref qt_now, .ref qt_flakes, .ref qt_leaks, .int v_music, .ref qt_ranks, .int v_sights, .ref qt_sight, .int v_signs, .ref qt_pad, .int v_freeAt, .int v_freeWho, .int v_reason, .int v_acts, .ref qt_gets, .ref qt_counts, .ref qt_worth, .ref qt_ways, .ref qt_image, .ref qt_isKept])), (qt_ranks, .inl (cI, 6, .inl v_ranks)), (qt_gets, .inl (cI, 6, .inl v_gets))] sz) := by
  refine Met.ofW (cc := cX10_makeRings) (maxL := 4) (ret := none) (by decide) rfl ?_
  intro p e s m args below meth c s₁ B hml hv
  obtain ⟨hav, hsz, hP, hD0, hE⟩ := hv
  have hx := B.exec
  have hb := B.bytes
  have hr := B.returns
  have hts := atoms_spec (ws := wsX10_makeRings) B.pre
  have hown : s.vm.findClass RX10 = some m.cls := findClass_of_methodNamed B.named
  have hlocks := B.notSynchronized
  subst hsz
  have hD := hD0.self (sz := s.heap.size)
  generalize hAe : va_A [(qt, .inr (9, [.ref qt_book, .ref qt_now, .ref qt_flakes, .ref qt_leaks, .int v_music, .ref qt_ranks, .int v_sights, .ref qt_sight, .int v_signs, .ref qt_pad, .int v_freeAt, .int v_freeWho, .int v_reason, .int v_acts, .ref qt_gets, .ref qt_counts, .ref qt_worth, .ref qt_ways, .ref qt_image, .ref qt_isKept])), (qt_ranks, .inl (cI, 6, .inl v_ranks)), (qt_gets, .inl (cI, 6, .inl v_gets))] s.heap.size = A at hD ⊢
  have hA : ∀ q : Nat, s.heap.size ≤ q → A q := fun q h => by rw [← hAe]; exact Or.inr h
  have hS : va_S A s.heap s.heap [] := va_S.rf
  have hl := lv_entry ([.ref qt]) (n := 4) (Nat.le_of_ble_eq_true rfl)
  have hfr : entryFrame m args 4 = entryFrame m ([.ref qt] : List Value).toArray 4 := by rw [hav]
  rw [hfr, lg_entry_eq]
  generalize (lg_sl ([.ref qt]) ++ List.replicate (4 - (lg_sl ([.ref qt])).length) Slot.unset).toArray = ls at hl ⊢
  have hl : lv_has ls 4 [(0, .ref qt)] := hl
  obtain ⟨QQ, hQQ⟩ : ∃ QQ, QQ = MQ below (QV D A [(qt, .inr (9, [.ref qt_book, .ref qt_now, .ref qt_flakes, .ref qt_leaks, .int v_music, .ref qt_ranks, .int v_sights, .ref qt_sight, .int v_signs, .ref qt_pad, .int v_freeAt, .int v_freeWho, .int v_reason, .int v_acts, .ref qt_gets, .ref qt_counts, .ref qt_worth, .ref qt_ways, .ref qt_image, .ref qt_isKept])), (qt_ranks, .inl (cI, 6, .inl v_ranks)), (qt_gets, .inl (cI, 6, .inl w_gets))]) args s 0 0 A := ⟨_, rfl⟩
  show W p l e rm_X10_makeRings s m args below meth c s.heap [] 0 0 _ _
  rw [← hQQ]
  have hL3 : ∀ (n3 : Nat), ∀ (v_gets : (Nat → Int32)) (x1 : Int32) (H : Heap) (locs : List Loc) (ls : Array Slot), va_P D vwCl [(qt, .inr (9, [.ref qt_book, .ref qt_now, .ref qt_flakes, .ref qt_leaks, .int v_music, .ref qt_ranks, .int v_sights, .ref qt_sight, .int v_signs, .ref qt_pad, .int v_freeAt, .int v_freeWho, .int v_reason, .int v_acts, .ref qt_gets, .ref qt_counts, .ref qt_worth, .ref qt_ways, .ref qt_image, .ref qt_isKept])), (qt_ranks, .inl (cI, 6, .inl v_ranks)), (qt_gets, .inl (cI, 6, .inl v_gets))] H → va_D A [(qt, .inr (9, [.ref qt_book, .ref qt_now, .ref qt_flakes, .ref qt_leaks, .int v_music, .ref qt_ranks, .int v_sights, .ref qt_sight, .int v_signs, .ref qt_pad, .int v_freeAt, .int v_freeWho, .int v_reason, .int v_acts, .ref qt_gets, .ref qt_counts, .ref qt_worth, .ref qt_ways, .ref qt_image, .ref qt_isKept])), (qt_ranks, .inl (cI, 6, .inl v_ranks)), (qt_gets, .inl (cI, 6, .inl v_gets))] → va_S A s.heap H locs → lv_has ls 4 [(0, .ref qt), (1, .int x1)] → L_X10_makeRings_3 v_ranks n3 v_gets x1 = some w_gets → W p l e rm_X10_makeRings s m args below meth c H locs 0 0 QQ (F0 m 3 ls []) := by
    intro n3
    induction n3 with
    | zero =>
      intro v_gets x1 H locs ls hP hD hS hl h
      have h : none = some w_gets := h
      cases h
    | succ n3 ih3 =>
      have hL46 : ∀ (n46 : Nat), ∀ (v_gets : (Nat → Int32)) (x1 : Int32) (x2 : Int32) (x3 : Int32) (H : Heap) (locs : List Loc) (ls : Array Slot), va_P D vwCl [(qt, .inr (9, [.ref qt_book, .ref qt_now, .ref qt_flakes, .ref qt_leaks, .int v_music, .ref qt_ranks, .int v_sights, .ref qt_sight, .int v_signs, .ref qt_pad, .int v_freeAt, .int v_freeWho, .int v_reason, .int v_acts, .ref qt_gets, .ref qt_counts, .ref qt_worth, .ref qt_ways, .ref qt_image, .ref qt_isKept])), (qt_ranks, .inl (cI, 6, .inl v_ranks)), (qt_gets, .inl (cI, 6, .inl v_gets))] H → va_D A [(qt, .inr (9, [.ref qt_book, .ref qt_now, .ref qt_flakes, .ref qt_leaks, .int v_music, .ref qt_ranks, .int v_sights, .ref qt_sight, .int v_signs, .ref qt_pad, .int v_freeAt, .int v_freeWho, .int v_reason, .int v_acts, .ref qt_gets, .ref qt_counts, .ref qt_worth, .ref qt_ways, .ref qt_image, .ref qt_isKept])), (qt_ranks, .inl (cI, 6, .inl v_ranks)), (qt_gets, .inl (cI, 6, .inl v_gets))] → va_S A s.heap H locs → lv_has ls 4 [(0, .ref qt), (1, .int x1), (2, .int x2), (3, .int x3)] → L_X10_makeRings_46 v_ranks (L_X10_makeRings_3 v_ranks n3) n46 v_gets x1 x2 x3 = some w_gets → W p l e rm_X10_makeRings s m args below meth c H locs 0 0 QQ (F0 m 46 ls []) := by
        intro n46
        induction n46 with
        | zero =>
          intro v_gets x1 x2 x3 H locs ls hP hD hS hl h
          have h : none = some w_gets := h
          cases h
        | succ n46 ih46 =>
          intro v_gets x1 x2 x3 H locs ls hP hD hS hl h
          rw [L_X10_makeRings_46.eq_2] at h
          refine lv_iload_n hx hb dX10_makeRings_46 rfl (lv_at hl 3 rfl) ?_
          refine lv_iload_n hx hb dX10_makeRings_47 rfl (lv_at hl 2 rfl) ?_
          obtain ⟨r48, hc48, h⟩ := bd1_some h
          refine gw_ci (wr := [(qt, .inr (9, [.ref qt_book, .ref qt_now, .ref qt_flakes, .ref qt_leaks, .int v_music, .ref qt_ranks, .int v_sights, .ref qt_sight, .int v_signs, .ref qt_pad, .int v_freeAt, .int v_freeWho, .int v_reason, .int v_acts, .ref qt_gets, .ref qt_counts, .ref qt_worth, .ref qt_ways, .ref qt_image, .ref qt_isKept])), (qt_ranks, .inl (cI, 6, .inl v_ranks)), (qt_gets, .inl (cI, 6, .inl v_gets))]) (w2 := [(qt, .inr (9, [.ref qt_book, .ref qt_now, .ref qt_flakes, .ref qt_leaks, .int v_music, .ref qt_ranks, .int v_sights, .ref qt_sight, .int v_signs, .ref qt_pad, .int v_freeAt, .int v_freeWho, .int v_reason, .int v_acts, .ref qt_gets, .ref qt_counts, .ref qt_worth, .ref qt_ways, .ref qt_image, .ref qt_isKept])), (qt_ranks, .inl (cI, 6, .inl v_ranks)), (qt_gets, .inl (cI, 6, .inl v_gets))]) (gw_rS (n := 2) ⟨hx, hb, hml, hown, hts⟩ (C_X10_has l D cI cJ cZ H.size x3 x2 r48 hc48) gX10_makeRings_X10_has rfl rfl rfl hdS_X10_has ⟨Nat.le_of_ble_eq_true rfl, Nat.le_of_ble_eq_true rfl⟩ hE (hP.sub [] rfl) (hD.sub [] (by decide) rfl) rfl hl.1 (rest := []) rfl (Nat.le_of_ble_eq_true rfl) dX10_makeRings_48 ⟨Nat.zero_le _, Nat.zero_le _⟩) hP hD hS hA [] [0, 1, 2] rfl rfl rfl (by decide) rfl (fun H locs hP hD hS => ?_)
          refine lv_if_ne (tgt := 82) hx hb dX10_makeRings_51 (by decide) (fun hc => ?_) (fun hc => ?_)
          · have h := if_f hc h
            refine lv_iload_n hx hb dX10_makeRings_82 rfl (lv_at hl 1 rfl) ?_
            refine lv_iload_n hx hb dX10_makeRings_83 rfl (lv_at hl 3 rfl) ?_
            refine lv_iconst (v := -1) hx hb dX10_makeRings_84 (by decide) ?_
            refine lv_ixor hx hb dX10_makeRings_85 ?_
            refine lv_iand hx hb dX10_makeRings_86 ?_
            refine lv_istore_n (lv' := [(1, .int (x1 &&& (x3 ^^^ (-1 : Int32)))), (0, .ref qt), (2, .int x2), (3, .int x3)]) hx hb dX10_makeRings_87 rfl hl (by decide) rfl (fun ls hl => ?_)
            refine lv_goto (tgt := 3) hx hb dX10_makeRings_88 (by decide) ?_
            exact ih3 v_gets (x1 &&& (x3 ^^^ (-1 : Int32))) H locs ls hP hD hS (lv_sub hl [1, 0] rfl) h
          · have h := if_t hc h
            refine lv_iload_n hx hb dX10_makeRings_54 rfl (lv_at hl 3 rfl) ?_
            refine lv_iconst (v := 1) hx hb dX10_makeRings_55 (by decide) ?_
            refine lv_iload_n hx hb dX10_makeRings_56 rfl (lv_at hl 2 rfl) ?_
            refine lv_ishl hx hb dX10_makeRings_57 ?_
            refine lv_ior hx hb dX10_makeRings_58 ?_
            refine lv_istore_n (lv' := [(3, .int (x3 ||| ((1 : Int32) <<< (x2 &&& 31)))), (0, .ref qt), (1, .int x1), (2, .int x2)]) hx hb dX10_makeRings_59 rfl hl (by decide) rfl (fun ls hl => ?_)
            refine lv_aload_n hx hb dX10_makeRings_60 rfl (lv_at hl 1 rfl) ?_
            refine va_get (D := D) (ci := 9) (C := RX10) (T := TX10) (N := 20) hx hb hts (fun _ hw => (List.mem_cons_of_mem _ (List.mem_append_right _ hw))) hown hE.1 hP 0 rfl rfl 14 (by decide) (hts (.fieldLink RX10 31 "GlobeCrownModel" "gets" "[I") (List.mem_cons_of_mem _ (List.mem_append_left _ (List.mem_of_getElem? (i := 0) rfl)))) (fun _ h9 => h9) rfl dX10_makeRings_61 ?_
            refine lv_iload_n hx hb dX10_makeRings_64 rfl (lv_at hl 3 rfl) ?_
            refine lv_aload_n hx hb dX10_makeRings_65 rfl (lv_at hl 1 rfl) ?_
            refine lv_iload_n hx hb dX10_makeRings_66 rfl (lv_at hl 3 rfl) ?_
            refine lv_iload_n hx hb dX10_makeRings_67 rfl (lv_at hl 2 rfl) ?_
            obtain ⟨r68, hc68, h⟩ := bd1_some h
            refine gw_ci (wr := [(qt_gets, .inl (cI, 6, .inl v_gets))]) (w2 := [(qt_gets, .inl (cI, 6, .inl v_gets)), (qt, .inr (9, [.ref qt_book, .ref qt_now, .ref qt_flakes, .ref qt_leaks, .int v_music, .ref qt_ranks, .int v_sights, .ref qt_sight, .int v_signs, .ref qt_pad, .int v_freeAt, .int v_freeWho, .int v_reason, .int v_acts, .ref qt_gets, .ref qt_counts, .ref qt_worth, .ref qt_ways, .ref qt_image, .ref qt_isKept])), (qt_ranks, .inl (cI, 6, .inl v_ranks))]) (gw_rV (n := 2) ⟨hx, hb, hml, hown, hts⟩ (C_X10_pointsTo l D cI cJ cZ H.size qt qt_book qt_now qt_flakes qt_leaks qt_ranks qt_sight qt_pad qt_gets qt_counts qt_worth qt_ways qt_image qt_isKept v_music v_ranks v_sights v_signs v_freeAt v_freeWho v_reason v_acts x2 x1 r68 hc68) gX10_makeRings_X10_pointsTo rfl rfl rfl hdV_X10_pointsTo ⟨Nat.le_of_ble_eq_true rfl, Nat.le_of_ble_eq_true rfl⟩ hE (hP.sub [0, 1] rfl) (hD.sub [0, 1] (by decide) rfl) 9 rfl 0 rfl rfl hl.1 (rest := [.int x2, .ref qt_gets]) rfl (Nat.le_of_ble_eq_true rfl) dX10_makeRings_68 ⟨Nat.zero_le _, Nat.zero_le _⟩) hP hD hS hA [0, 1] [2] rfl rfl rfl (by decide) rfl (fun H locs hP hD hS => ?_)
            obtain ⟨hg, h⟩ := gin_some h
            refine va_iast hx hb hE.1 hP hD hS 0 0 rfl rfl hg dX10_makeRings_71 (fun H locs (hP : va_P D vwCl [(qt_gets, .inl (cI, 6, .inl (upd v_gets (Int32.toNatClampNeg x2) r68))), (qt, .inr (9, [.ref qt_book, .ref qt_now, .ref qt_flakes, .ref qt_leaks, .int v_music, .ref qt_ranks, .int v_sights, .ref qt_sight, .int v_signs, .ref qt_pad, .int v_freeAt, .int v_freeWho, .int v_reason, .int v_acts, .ref qt_gets, .ref qt_counts, .ref qt_worth, .ref qt_ways, .ref qt_image, .ref qt_isKept])), (qt_ranks, .inl (cI, 6, .inl v_ranks))] H) (hD : va_D A [(qt_gets, .inl (cI, 6, .inl (upd v_gets (Int32.toNatClampNeg x2) r68))), (qt, .inr (9, [.ref qt_book, .ref qt_now, .ref qt_flakes, .ref qt_leaks, .int v_music, .ref qt_ranks, .int v_sights, .ref qt_sight, .int v_signs, .ref qt_pad, .int v_freeAt, .int v_freeWho, .int v_reason, .int v_acts, .ref qt_gets, .ref qt_counts, .ref qt_worth, .ref qt_ways, .ref qt_image, .ref qt_isKept])), (qt_ranks, .inl (cI, 6, .inl v_ranks))]) hS => ?_)
            refine lv_aload_n hx hb dX10_makeRings_72 rfl (lv_at hl 1 rfl) ?_
            refine va_get (D := D) (ci := 9) (C := RX10) (T := TX10) (N := 20) hx hb hts (fun _ hw => (List.mem_cons_of_mem _ (List.mem_append_right _ hw))) hown hE.1 hP 1 rfl rfl 14 (by decide) (hts (.fieldLink RX10 31 "GlobeCrownModel" "gets" "[I") (List.mem_cons_of_mem _ (List.mem_append_left _ (List.mem_of_getElem? (i := 0) rfl)))) (fun _ h9 => h9) rfl dX10_makeRings_73 ?_
            refine lv_iload_n hx hb dX10_makeRings_76 rfl (lv_at hl 3 rfl) ?_
            obtain ⟨hg, h⟩ := gin_some h
            refine va_iald hx hb hE.1 hP 0 0 rfl rfl hg dX10_makeRings_77 ?_
            refine lv_istore_n (lv' := [(2, .int ((upd v_gets (Int32.toNatClampNeg x2) r68) (Int32.toNatClampNeg x2))), (3, .int (x3 ||| ((1 : Int32) <<< (x2 &&& 31)))), (0, .ref qt), (1, .int x1)]) hx hb dX10_makeRings_78 rfl hl (by decide) rfl (fun ls hl => ?_)
            refine lv_goto (tgt := 46) hx hb dX10_makeRings_79 (by decide) ?_
            exact ih46 (upd v_gets (Int32.toNatClampNeg x2) r68) x1 ((upd v_gets (Int32.toNatClampNeg x2) r68) (Int32.toNatClampNeg x2)) (x3 ||| ((1 : Int32) <<< (x2 &&& 31))) H locs ls (hP.sub [1, 2, 0] rfl) (hD.sub [1, 2, 0] (by decide) rfl) hS (lv_sub hl [2, 3, 0, 1] rfl) h
      have hL25 : ∀ (n25 : Nat), ∀ (v_gets : (Nat → Int32)) (x1 : Int32) (x2 : Int32) (x3 : Int32) (H : Heap) (locs : List Loc) (ls : Array Slot), va_P D vwCl [(qt, .inr (9, [.ref qt_book, .ref qt_now, .ref qt_flakes, .ref qt_leaks, .int v_music, .ref qt_ranks, .int v_sights, .ref qt_sight, .int v_signs, .ref qt_pad, .int v_freeAt, .int v_freeWho, .int v_reason, .int v_acts, .ref qt_gets, .ref qt_counts, .ref qt_worth, .ref qt_ways, .ref qt_image, .ref qt_isKept])), (qt_ranks, .inl (cI, 6, .inl v_ranks)), (qt_gets, .inl (cI, 6, .inl v_gets))] H → va_D A [(qt, .inr (9, [.ref qt_book, .ref qt_now, .ref qt_flakes, .ref qt_leaks, .int v_music, .ref qt_ranks, .int v_sights, .ref qt_sight, .int v_signs, .ref qt_pad, .int v_freeAt, .int v_freeWho, .int v_reason, .int v_acts, .ref qt_gets, .ref qt_counts, .ref qt_worth, .ref qt_ways, .ref qt_image, .ref qt_isKept])), (qt_ranks, .inl (cI, 6, .inl v_ranks)), (qt_gets, .inl (cI, 6, .inl v_gets))] → va_S A s.heap H locs → lv_has ls 4 [(0, .ref qt), (1, .int x1), (2, .int x2), (3, .int x3)] → L_X10_makeRings_25 v_ranks (L_X10_makeRings_3 v_ranks n3) n25 v_gets x1 x2 x3 = some w_gets → W p l e rm_X10_makeRings s m args below meth c H locs 0 0 QQ (F0 m 25 ls []) := by
        intro n25
        induction n25 with
        | zero =>
          intro v_gets x1 x2 x3 H locs ls hP hD hS hl h
          have h : none = some w_gets := h
          cases h
        | succ n25 ih25 =>
          intro v_gets x1 x2 x3 H locs ls hP hD hS hl h
          rw [L_X10_makeRings_25.eq_2] at h
          refine lv_iload_n hx hb dX10_makeRings_25 rfl (lv_at hl 3 rfl) ?_
          refine lv_bipush (v := 6) hx hb dX10_makeRings_26 (by decide) ?_
          refine lv_icmp_ge (tgt := 44) hx hb dX10_makeRings_28 (by decide) (fun hc => ?_) (fun hc => ?_)
          · have h := if_t hc h
            refine lv_iconst (v := 0) hx hb dX10_makeRings_44 (by decide) ?_
            refine lv_istore_n (lv' := [(3, .int (0 : Int32)), (0, .ref qt), (1, .int x1), (2, .int x2)]) hx hb dX10_makeRings_45 rfl hl (by decide) rfl (fun ls hl => ?_)
            exact hL46 FU v_gets x1 x2 (0 : Int32) H locs ls hP hD hS (lv_sub hl [1, 2, 3, 0] rfl) h
          · have h := if_f hc h
            refine lv_aload_n hx hb dX10_makeRings_31 rfl (lv_at hl 0 rfl) ?_
            refine lv_iload_n hx hb dX10_makeRings_32 rfl (lv_at hl 2 rfl) ?_
            refine lv_iload_n hx hb dX10_makeRings_33 rfl (lv_at hl 1 rfl) ?_
            obtain ⟨r34, hc34, h⟩ := bd1_some h
            refine gw_ci (wr := [(qt_gets, .inl (cI, 6, .inl v_gets))]) (w2 := [(qt_gets, .inl (cI, 6, .inl v_gets)), (qt, .inr (9, [.ref qt_book, .ref qt_now, .ref qt_flakes, .ref qt_leaks, .int v_music, .ref qt_ranks, .int v_sights, .ref qt_sight, .int v_signs, .ref qt_pad, .int v_freeAt, .int v_freeWho, .int v_reason, .int v_acts, .ref qt_gets, .ref qt_counts, .ref qt_worth, .ref qt_ways, .ref qt_image, .ref qt_isKept])), (qt_ranks, .inl (cI, 6, .inl v_ranks))]) (gw_rV (n := 2) ⟨hx, hb, hml, hown, hts⟩ (C_X10_pointsTo l D cI cJ cZ H.size qt qt_book qt_now qt_flakes qt_leaks qt_ranks qt_sight qt_pad qt_gets qt_counts qt_worth qt_ways qt_image qt_isKept v_music v_ranks v_sights v_signs v_freeAt v_freeWho v_reason v_acts x2 x1 r34 hc34) gX10_makeRings_X10_pointsTo rfl rfl rfl hdV_X10_pointsTo ⟨Nat.le_of_ble_eq_true rfl, Nat.le_of_ble_eq_true rfl⟩ hE (hP.sub [0, 1] rfl) (hD.sub [0, 1] (by decide) rfl) 9 rfl 0 rfl rfl hl.1 (rest := []) rfl (Nat.le_of_ble_eq_true rfl) dX10_makeRings_34 ⟨Nat.zero_le _, Nat.zero_le _⟩) hP hD hS hA [0, 1] [2] rfl rfl rfl (by decide) rfl (fun H locs hP hD hS => ?_)
            refine lv_istore_n (lv' := [(2, .int r34), (0, .ref qt), (1, .int x1), (3, .int x3)]) hx hb dX10_makeRings_37 rfl hl (by decide) rfl (fun ls hl => ?_)
            refine lv_iinc (v := (x3 + (1 : Int32))) (lv' := [(3, .int (x3 + (1 : Int32))), (2, .int r34), (0, .ref qt), (1, .int x1)]) hx hb dX10_makeRings_38 hl (k := 3) rfl rfl (by decide) rfl (fun ls hl => ?_)
            refine lv_goto (tgt := 25) hx hb dX10_makeRings_41 (by decide) ?_
            exact ih25 v_gets x1 r34 (x3 + (1 : Int32)) H locs ls (hP.sub [1, 2, 0] rfl) (hD.sub [1, 2, 0] (by decide) rfl) hS (lv_sub hl [2, 3, 1, 0] rfl) h
      have hL9 : ∀ (n9 : Nat), ∀ (v_gets : (Nat → Int32)) (x1 : Int32) (x2 : Int32) (H : Heap) (locs : List Loc) (ls : Array Slot), va_P D vwCl [(qt, .inr (9, [.ref qt_book, .ref qt_now, .ref qt_flakes, .ref qt_leaks, .int v_music, .ref qt_ranks, .int v_sights, .ref qt_sight, .int v_signs, .ref qt_pad, .int v_freeAt, .int v_freeWho, .int v_reason, .int v_acts, .ref qt_gets, .ref qt_counts, .ref qt_worth, .ref qt_ways, .ref qt_image, .ref qt_isKept])), (qt_ranks, .inl (cI, 6, .inl v_ranks)), (qt_gets, .inl (cI, 6, .inl v_gets))] H → va_D A [(qt, .inr (9, [.ref qt_book, .ref qt_now, .ref qt_flakes, .ref qt_leaks, .int v_music, .ref qt_ranks, .int v_sights, .ref qt_sight, .int v_signs, .ref qt_pad, .int v_freeAt, .int v_freeWho, .int v_reason, .int v_acts, .ref qt_gets, .ref qt_counts, .ref qt_worth, .ref qt_ways, .ref qt_image, .ref qt_isKept])), (qt_ranks, .inl (cI, 6, .inl v_ranks)), (qt_gets, .inl (cI, 6, .inl v_gets))] → va_S A s.heap H locs → lv_has ls 4 [(0, .ref qt), (1, .int x1), (2, .int x2)] → L_X10_makeRings_9 v_ranks (L_X10_makeRings_3 v_ranks n3) n9 v_gets x1 x2 = some w_gets → W p l e rm_X10_makeRings s m args below meth c H locs 0 0 QQ (F0 m 9 ls []) := by
        intro n9
        induction n9 with
        | zero =>
          intro v_gets x1 x2 H locs ls hP hD hS hl h
          have h : none = some w_gets := h
          cases h
        | succ n9 ih9 =>
          intro v_gets x1 x2 H locs ls hP hD hS hl h
          rw [L_X10_makeRings_9.eq_2] at h
          refine lv_iload_n hx hb dX10_makeRings_9 rfl (lv_at hl 1 rfl) ?_
          refine lv_iload_n hx hb dX10_makeRings_10 rfl (lv_at hl 2 rfl) ?_
          obtain ⟨r11, hc11, h⟩ := bd1_some h
          refine gw_ci (wr := [(qt, .inr (9, [.ref qt_book, .ref qt_now, .ref qt_flakes, .ref qt_leaks, .int v_music, .ref qt_ranks, .int v_sights, .ref qt_sight, .int v_signs, .ref qt_pad, .int v_freeAt, .int v_freeWho, .int v_reason, .int v_acts, .ref qt_gets, .ref qt_counts, .ref qt_worth, .ref qt_ways, .ref qt_image, .ref qt_isKept])), (qt_ranks, .inl (cI, 6, .inl v_ranks)), (qt_gets, .inl (cI, 6, .inl v_gets))]) (w2 := [(qt, .inr (9, [.ref qt_book, .ref qt_now, .ref qt_flakes, .ref qt_leaks, .int v_music, .ref qt_ranks, .int v_sights, .ref qt_sight, .int v_signs, .ref qt_pad, .int v_freeAt, .int v_freeWho, .int v_reason, .int v_acts, .ref qt_gets, .ref qt_counts, .ref qt_worth, .ref qt_ways, .ref qt_image, .ref qt_isKept])), (qt_ranks, .inl (cI, 6, .inl v_ranks)), (qt_gets, .inl (cI, 6, .inl v_gets))]) (gw_rS (n := 2) ⟨hx, hb, hml, hown, hts⟩ (C_X10_has l D cI cJ cZ H.size x1 x2 r11 hc11) gX10_makeRings_X10_has rfl rfl rfl hdS_X10_has ⟨Nat.le_of_ble_eq_true rfl, Nat.le_of_ble_eq_true rfl⟩ hE (hP.sub [] rfl) (hD.sub [] (by decide) rfl) rfl hl.1 (rest := []) rfl (Nat.le_of_ble_eq_true rfl) dX10_makeRings_11 ⟨Nat.zero_le _, Nat.zero_le _⟩) hP hD hS hA [] [0, 1, 2] rfl rfl rfl (by decide) rfl (fun H locs hP hD hS => ?_)
          refine lv_if_ne (tgt := 23) hx hb dX10_makeRings_14 (by decide) (fun hc => ?_) (fun hc => ?_)
          · have h := if_f hc h
            refine lv_iconst (v := 0) hx hb dX10_makeRings_23 (by decide) ?_
            refine lv_istore_n (lv' := [(3, .int (0 : Int32)), (0, .ref qt), (1, .int x1), (2, .int x2)]) hx hb dX10_makeRings_24 rfl hl (by decide) rfl (fun ls hl => ?_)
            exact hL25 FU v_gets x1 x2 (0 : Int32) H locs ls hP hD hS (lv_sub hl [1, 2, 3, 0] rfl) h
          · have h := if_t hc h
            refine lv_iinc (v := (x2 + (1 : Int32))) (lv' := [(2, .int (x2 + (1 : Int32))), (0, .ref qt), (1, .int x1)]) hx hb dX10_makeRings_17 hl (k := 2) rfl rfl (by decide) rfl (fun ls hl => ?_)
            refine lv_goto (tgt := 9) hx hb dX10_makeRings_20 (by decide) ?_
            exact ih9 v_gets x1 (x2 + (1 : Int32)) H locs ls hP hD hS (lv_sub hl [1, 2, 0] rfl) h
      intro v_gets x1 H locs ls hP hD hS hl h
      rw [L_X10_makeRings_3.eq_2] at h
      refine lv_iload_n hx hb dX10_makeRings_3 rfl (lv_at hl 1 rfl) ?_
      refine lv_if_eq (tgt := 91) hx hb dX10_makeRings_4 (by decide) (fun hc => ?_) (fun hc => ?_)
      · have h := if_t hc h
        cases h
        rw [hQQ]
        exact gw_vret hx hb hr hlocks hP hD hS dX10_makeRings_91
      · have h := if_f hc h
        refine lv_iconst (v := 0) hx hb dX10_makeRings_7 (by decide) ?_
        refine lv_istore_n (lv' := [(2, .int (0 : Int32)), (0, .ref qt), (1, .int x1)]) hx hb dX10_makeRings_8 rfl hl (by decide) rfl (fun ls hl => ?_)
        exact hL9 FU v_gets x1 (0 : Int32) H locs ls hP hD hS (lv_sub hl [1, 2, 0] rfl) h
  have h := hf
  unfold f_X10_makeRings at h
  refine gw_start hP hD hS (fun H locs hP hD hS => ?_)
  refine lv_bipush (v := 63) hx hb dX10_makeRings_0 (by decide) ?_
  refine lv_istore_n (lv' := [(1, .int (63 : Int32)), (0, .ref qt)]) hx hb dX10_makeRings_2 rfl hl (by decide) rfl (fun ls hl => ?_)
  exact hL3 FU v_gets (63 : Int32) H locs ls hP hD hS (lv_sub hl [1, 0] rfl) h
theorem hdV_X10_makeRings : yX10_makeRings.cls = RX10 ∧ yX10_makeRings.cls ≠ "java/lang/invoke/MethodHandle" ∧ yX10_makeRings.cls ≠ "java/lang/invoke/VarHandle" ∧ (parseMethodDescriptor yX10_makeRings.desc).map (fun d => d.parameters.length) = some 0 := by decide +kernel
def L_X10_change_19 (v_ranks : (Nat → Int32)) (p1 : Int32) : Nat → (Nat → Int32) → Int32 → Int32 → Option (Int32 × (Nat → Int32))
  | 0, _, _, _ => none
  | n + 1, v_gets, x2, x3 => (if (6 : Int32) ≤ x3 then (if (0 : Int32) ≤ p1 then (gin p1 6 (some ((v_gets (Int32.toNatClampNeg p1)), v_gets))) else (some (x2, v_gets))) else (gin x3 6 (if (v_gets (Int32.toNatClampNeg x3)) = x3 then ((L_X10_change_19 v_ranks p1 n) v_gets (x2 + (0 : Int32)) (x3 + (1 : Int32))) else ((L_X10_change_19 v_ranks p1 n) v_gets (x2 + (1 : Int32)) (x3 + (1 : Int32))))))
def f_X10_change (v_ranks : (Nat → Int32)) (v_gets : (Nat → Int32)) (p1 : Int32) : Option (Int32 × (Nat → Int32)) := (bd1 (f_X10_in p1 (-1 : Int32) (5 : Int32)) (fun r3 => (if r3 = (0 : Int32) then (some ((-1 : Int32), v_gets)) else (bd1 (f_X10_makeRings v_ranks v_gets) (fun u12v_gets => (L_X10_change_19 v_ranks p1 FU u12v_gets (0 : Int32) (0 : Int32)))))))
abbrev rm_X10_change : Room := { frames := 3, cells := 0, slots := 0, locals := 70 }
set_option maxHeartbeats 4000000 in
set_option maxRecDepth 100000 in
theorem C_X10_change (l : Launch) (D : va_G) (cI cJ cZ : ClassId) (sz : Nat) (qt qt_book qt_now qt_flakes qt_leaks qt_ranks qt_sight qt_pad qt_gets qt_counts qt_worth qt_ways qt_image qt_isKept : Nat) (v_music : Int32) (v_ranks : (Nat → Int32)) (v_sights : Int32) (v_signs : Int32) (v_freeAt : Int32) (v_freeWho : Int32) (v_reason : Int32) (v_acts : Int32) (v_gets : (Nat → Int32)) (p1 : Int32) (r : Int32) (w_gets : (Nat → Int32)) (hf : f_X10_change v_ranks v_gets p1 = some (r, w_gets)) : Met l yX10_change wsX10_change rm_X10_change (PR D cI cJ cZ [(qt, .inr (9, [.ref qt_book, .ref qt_now, .ref qt_flakes, .ref qt_leaks, .int v_music, .ref qt_ranks, .int v_sights, .ref qt_sight, .int v_signs, .ref qt_pad, .int v_freeAt, .int v_freeWho, .int v_reason, .int v_acts, .ref qt_gets, .ref qt_counts, .ref qt_worth, .ref qt_ways, .ref qt_image, .ref qt_isKept])), (qt_ranks, .inl (cI, 6, .inl v_ranks)), (qt_gets, .inl (cI, 6, .inl v_gets))] sz [.ref qt, .int p1]) (QI D (va_A [(qt, .inr (9, [.ref qt_book, .ref qt_now, .ref qt_flakes, .ref qt_leaks, .int v_music, .ref qt_ranks, .int v_sights, .ref qt_sight, .int v_signs, .ref qt_pad, .int v_freeAt, .int v_freeWho, .int v_reason, .int v_acts, .ref qt_gets, .ref qt_counts, .ref qt_worth, .ref qt_ways, .ref qt_image, .ref qt_isKept])), (qt_ranks, .inl (cI, 6, .inl v_ranks)), (qt_gets, .inl (cI, 6, .inl v_gets))] sz) r [(qt, .inr (9, [.ref qt_book, .ref qt_now, .ref qt_flakes, .ref qt_leaks, .int v_music, .ref qt_ranks, .int v_sights, .ref qt_sight, .int v_signs, .ref qt_pad, .int v_freeAt, .int v_freeWho, .int v_reason, .int v_acts, .ref qt_gets, .ref qt_counts, .ref qt_worth, .ref qt_ways, .ref qt_image, .ref qt_isKept])), (qt_ranks, .inl (cI, 6, .inl v_ranks)), (qt_gets, .inl (cI, 6, .inl w_gets))]) 0 0 (va_A [(qt, .inr (9, [.ref qt_book, .ref qt_now, .ref qt_flakes, .ref qt_leaks, .int v_music, .ref qt_ranks, .int v_sights, .ref qt_sight, .int v_signs, .ref qt_pad, .int v_freeAt, .int v_freeWho, .int v_reason, .int v_acts, .ref qt_gets, .ref qt_counts, .ref qt_worth, .ref qt_ways, .ref qt_image, .ref qt_isKept])), (qt_ranks, .inl (cI, 6, .inl v_ranks)), (qt_gets, .inl (cI, 6, .inl v_gets))] sz) := by
  refine Met.ofW (cc := cX10_change) (maxL := 4) (ret := (some .int)) (by decide) rfl ?_
  intro p e s m args below meth c s₁ B hml hv
  obtain ⟨hav, hsz, hP, hD0, hE⟩ := hv
  have hx := B.exec
  have hb := B.bytes
  have hr := B.returns
  have hts := atoms_spec (ws := wsX10_change) B.pre
  have hown : s.vm.findClass RX10 = some m.cls := findClass_of_methodNamed B.named
  have hlocks := B.notSynchronized
  subst hsz
  have hD := hD0.self (sz := s.heap.size)
  generalize hAe : va_A [(qt, .inr (9, [.ref qt_book, .ref qt_now, .ref qt_flakes, .ref qt_leaks, .int v_music, .ref qt_ranks, .int v_sights, .ref qt_sight, .int v_signs, .ref qt_pad, .int v_freeAt, .int v_freeWho, .int v_reason, .int v_acts, .ref qt_gets, .ref qt_counts, .ref qt_worth, .ref qt_ways, .ref qt_image, .ref qt_isKept])), (qt_ranks, .inl (cI, 6, .inl v_ranks)), (qt_gets, .inl (cI, 6, .inl v_gets))] s.heap.size = A at hD ⊢
  have hA : ∀ q : Nat, s.heap.size ≤ q → A q := fun q h => by rw [← hAe]; exact Or.inr h
  have hS : va_S A s.heap s.heap [] := va_S.rf
  have hl := lv_entry ([.ref qt, .int p1]) (n := 4) (Nat.le_of_ble_eq_true rfl)
  have hfr : entryFrame m args 4 = entryFrame m ([.ref qt, .int p1] : List Value).toArray 4 := by rw [hav]
  rw [hfr, lg_entry_eq]
  generalize (lg_sl ([.ref qt, .int p1]) ++ List.replicate (4 - (lg_sl ([.ref qt, .int p1])).length) Slot.unset).toArray = ls at hl ⊢
  have hl : lv_has ls 4 [(0, .ref qt), (1, .int p1)] := hl
  obtain ⟨QQ, hQQ⟩ : ∃ QQ, QQ = MQ below (QI D A r [(qt, .inr (9, [.ref qt_book, .ref qt_now, .ref qt_flakes, .ref qt_leaks, .int v_music, .ref qt_ranks, .int v_sights, .ref qt_sight, .int v_signs, .ref qt_pad, .int v_freeAt, .int v_freeWho, .int v_reason, .int v_acts, .ref qt_gets, .ref qt_counts, .ref qt_worth, .ref qt_ways, .ref qt_image, .ref qt_isKept])), (qt_ranks, .inl (cI, 6, .inl v_ranks)), (qt_gets, .inl (cI, 6, .inl w_gets))]) args s 0 0 A := ⟨_, rfl⟩
  show W p l e rm_X10_change s m args below meth c s.heap [] 0 0 _ _
  rw [← hQQ]
  have hL19 : ∀ (n19 : Nat), ∀ (v_gets : (Nat → Int32)) (x2 : Int32) (x3 : Int32) (H : Heap) (locs : List Loc) (ls : Array Slot), va_P D vwCl [(qt, .inr (9, [.ref qt_book, .ref qt_now, .ref qt_flakes, .ref qt_leaks, .int v_music, .ref qt_ranks, .int v_sights, .ref qt_sight, .int v_signs, .ref qt_pad, .int v_freeAt, .int v_freeWho, .int v_reason, .int v_acts, .ref qt_gets, .ref qt_counts, .ref qt_worth, .ref qt_ways, .ref qt_image, .ref qt_isKept])), (qt_ranks, .inl (cI, 6, .inl v_ranks)), (qt_gets, .inl (cI, 6, .inl v_gets))] H → va_D A [(qt, .inr (9, [.ref qt_book, .ref qt_now, .ref qt_flakes, .ref qt_leaks, .int v_music, .ref qt_ranks, .int v_sights, .ref qt_sight, .int v_signs, .ref qt_pad, .int v_freeAt, .int v_freeWho, .int v_reason, .int v_acts, .ref qt_gets, .ref qt_counts, .ref qt_worth, .ref qt_ways, .ref qt_image, .ref qt_isKept])), (qt_ranks, .inl (cI, 6, .inl v_ranks)), (qt_gets, .inl (cI, 6, .inl v_gets))] → va_S A s.heap H locs → lv_has ls 4 [(0, .ref qt), (1, .int p1), (2, .int x2), (3, .int x3)] → L_X10_change_19 v_ranks p1 n19 v_gets x2 x3 = some (r, w_gets) → W p l e rm_X10_change s m args below meth c H locs 0 0 QQ (F0 m 19 ls []) := by
    intro n19
    induction n19 with
    | zero =>
      intro v_gets x2 x3 H locs ls hP hD hS hl h
      have h : none = some (r, w_gets) := h
      cases h
    | succ n19 ih19 =>
      intro v_gets x2 x3 H locs ls hP hD hS hl h
      rw [L_X10_change_19.eq_2] at h
      refine lv_iload_n hx hb dX10_change_19 rfl (lv_at hl 3 rfl) ?_
      refine lv_bipush (v := 6) hx hb dX10_change_20 (by decide) ?_
      refine lv_icmp_ge (tgt := 49) hx hb dX10_change_22 (by decide) (fun hc => ?_) (fun hc => ?_)
      · have h := if_t hc h
        refine lv_iload_n hx hb dX10_change_49 rfl (lv_at hl 1 rfl) ?_
        refine lv_if_ge (tgt := 57) hx hb dX10_change_50 (by decide) (fun hc => ?_) (fun hc => ?_)
        · have h := if_t hc h
          refine lv_aload_n hx hb dX10_change_57 rfl (lv_at hl 0 rfl) ?_
          refine va_get (D := D) (ci := 9) (C := RX10) (T := TX10) (N := 20) hx hb hts (fun _ hw => (List.mem_cons_of_mem _ (List.mem_append_right _ hw))) hown hE.1 hP 0 rfl rfl 14 (by decide) (hts (.fieldLink RX10 31 "GlobeCrownModel" "gets" "[I") (List.mem_cons_of_mem _ (List.mem_append_left _ (List.mem_of_getElem? (i := 0) rfl)))) (fun _ h9 => h9) rfl dX10_change_58 ?_
          refine lv_iload_n hx hb dX10_change_61 rfl (lv_at hl 1 rfl) ?_
          obtain ⟨hg, h⟩ := gin_some h
          refine va_iald hx hb hE.1 hP 2 0 rfl rfl hg dX10_change_62 ?_
          cases h
          rw [hQQ]
          exact gw_iret hx hb hr hlocks hP hD hS dX10_change_63
        · have h := if_f hc h
          refine lv_iload_n hx hb dX10_change_53 rfl (lv_at hl 2 rfl) ?_
          refine lv_goto (tgt := 63) hx hb dX10_change_54 (by decide) ?_
          cases h
          rw [hQQ]
          exact gw_iret hx hb hr hlocks hP hD hS dX10_change_63
      · have h := if_f hc h
        refine lv_iload_n hx hb dX10_change_25 rfl (lv_at hl 2 rfl) ?_
        refine lv_aload_n hx hb dX10_change_26 rfl (lv_at hl 0 rfl) ?_
        refine va_get (D := D) (ci := 9) (C := RX10) (T := TX10) (N := 20) hx hb hts (fun _ hw => (List.mem_cons_of_mem _ (List.mem_append_right _ hw))) hown hE.1 hP 0 rfl rfl 14 (by decide) (hts (.fieldLink RX10 31 "GlobeCrownModel" "gets" "[I") (List.mem_cons_of_mem _ (List.mem_append_left _ (List.mem_of_getElem? (i := 0) rfl)))) (fun _ h9 => h9) rfl dX10_change_27 ?_
        refine lv_iload_n hx hb dX10_change_30 rfl (lv_at hl 3 rfl) ?_
        obtain ⟨hg, h⟩ := gin_some h
        refine va_iald hx hb hE.1 hP 2 0 rfl rfl hg dX10_change_31 ?_
        refine lv_iload_n hx hb dX10_change_32 rfl (lv_at hl 3 rfl) ?_
        refine lv_icmp_eq (tgt := 40) hx hb dX10_change_33 (by decide) (fun hc => ?_) (fun hc => ?_)
        · have h := if_t hc h
          refine lv_iconst (v := 0) hx hb dX10_change_40 (by decide) ?_
          refine lv_iadd hx hb dX10_change_41 ?_
          refine lv_istore_n (lv' := [(2, .int (x2 + (0 : Int32))), (0, .ref qt), (1, .int p1), (3, .int x3)]) hx hb dX10_change_42 rfl hl (by decide) rfl (fun ls hl => ?_)
          refine lv_iinc (v := (x3 + (1 : Int32))) (lv' := [(3, .int (x3 + (1 : Int32))), (2, .int (x2 + (0 : Int32))), (0, .ref qt), (1, .int p1)]) hx hb dX10_change_43 hl (k := 3) rfl rfl (by decide) rfl (fun ls hl => ?_)
          refine lv_goto (tgt := 19) hx hb dX10_change_46 (by decide) ?_
          exact ih19 v_gets (x2 + (0 : Int32)) (x3 + (1 : Int32)) H locs ls hP hD hS (lv_sub hl [2, 3, 1, 0] rfl) h
        · have h := if_f hc h
          refine lv_iconst (v := 1) hx hb dX10_change_36 (by decide) ?_
          refine lv_goto (tgt := 41) hx hb dX10_change_37 (by decide) ?_
          refine lv_iadd hx hb dX10_change_41 ?_
          refine lv_istore_n (lv' := [(2, .int (x2 + (1 : Int32))), (0, .ref qt), (1, .int p1), (3, .int x3)]) hx hb dX10_change_42 rfl hl (by decide) rfl (fun ls hl => ?_)
          refine lv_iinc (v := (x3 + (1 : Int32))) (lv' := [(3, .int (x3 + (1 : Int32))), (2, .int (x2 + (1 : Int32))), (0, .ref qt), (1, .int p1)]) hx hb dX10_change_43 hl (k := 3) rfl rfl (by decide) rfl (fun ls hl => ?_)
          refine lv_goto (tgt := 19) hx hb dX10_change_46 (by decide) ?_
          exact ih19 v_gets (x2 + (1 : Int32)) (x3 + (1 : Int32)) H locs ls hP hD hS (lv_sub hl [2, 3, 1, 0] rfl) h
  have h := hf
  unfold f_X10_change at h
  refine gw_start hP hD hS (fun H locs hP hD hS => ?_)
  refine lv_iload_n hx hb dX10_change_0 rfl (lv_at hl 1 rfl) ?_
  refine lv_iconst (v := -1) hx hb dX10_change_1 (by decide) ?_
  refine lv_iconst (v := 5) hx hb dX10_change_2 (by decide) ?_
  obtain ⟨r3, hc3, h⟩ := bd1_some h
  refine gw_ci (wr := [(qt, .inr (9, [.ref qt_book, .ref qt_now, .ref qt_flakes, .ref qt_leaks, .int v_music, .ref qt_ranks, .int v_sights, .ref qt_sight, .int v_signs, .ref qt_pad, .int v_freeAt, .int v_freeWho, .int v_reason, .int v_acts, .ref qt_gets, .ref qt_counts, .ref qt_worth, .ref qt_ways, .ref qt_image, .ref qt_isKept])), (qt_ranks, .inl (cI, 6, .inl v_ranks)), (qt_gets, .inl (cI, 6, .inl v_gets))]) (w2 := [(qt, .inr (9, [.ref qt_book, .ref qt_now, .ref qt_flakes, .ref qt_leaks, .int v_music, .ref qt_ranks, .int v_sights, .ref qt_sight, .int v_signs, .ref qt_pad, .int v_freeAt, .int v_freeWho, .int v_reason, .int v_acts, .ref qt_gets, .ref qt_counts, .ref qt_worth, .ref qt_ways, .ref qt_image, .ref qt_isKept])), (qt_ranks, .inl (cI, 6, .inl v_ranks)), (qt_gets, .inl (cI, 6, .inl v_gets))]) (gw_rS (n := 3) ⟨hx, hb, hml, hown, hts⟩ (C_X10_in l D cI cJ cZ H.size p1 (-1 : Int32) (5 : Int32) r3 hc3) gX10_change_X10_in rfl rfl rfl hdS_X10_in ⟨Nat.le_of_ble_eq_true rfl, Nat.le_of_ble_eq_true rfl⟩ hE (hP.sub [] rfl) (hD.sub [] (by decide) rfl) rfl hl.1 (rest := []) rfl (Nat.le_of_ble_eq_true rfl) dX10_change_3 ⟨Nat.zero_le _, Nat.zero_le _⟩) hP hD hS hA [] [0, 1, 2] rfl rfl rfl (by decide) rfl (fun H locs hP hD hS => ?_)
  refine lv_if_ne (tgt := 11) hx hb dX10_change_6 (by decide) (fun hc => ?_) (fun hc => ?_)
  · have h := if_f hc h
    refine lv_aload_n hx hb dX10_change_11 rfl (lv_at hl 0 rfl) ?_
    obtain ⟨u12v_gets, hc12, h⟩ := bd1_some h
    refine gw_cv (wr := []) (w2 := [(qt, .inr (9, [.ref qt_book, .ref qt_now, .ref qt_flakes, .ref qt_leaks, .int v_music, .ref qt_ranks, .int v_sights, .ref qt_sight, .int v_signs, .ref qt_pad, .int v_freeAt, .int v_freeWho, .int v_reason, .int v_acts, .ref qt_gets, .ref qt_counts, .ref qt_worth, .ref qt_ways, .ref qt_image, .ref qt_isKept])), (qt_ranks, .inl (cI, 6, .inl v_ranks)), (qt_gets, .inl (cI, 6, .inl u12v_gets))]) (gw_rV (n := 0) ⟨hx, hb, hml, hown, hts⟩ (C_X10_makeRings l D cI cJ cZ H.size qt qt_book qt_now qt_flakes qt_leaks qt_ranks qt_sight qt_pad qt_gets qt_counts qt_worth qt_ways qt_image qt_isKept v_music v_ranks v_sights v_signs v_freeAt v_freeWho v_reason v_acts v_gets u12v_gets hc12) gX10_change_X10_makeRings rfl rfl rfl hdV_X10_makeRings ⟨Nat.le_of_ble_eq_true rfl, Nat.le_of_ble_eq_true rfl⟩ hE (hP.sub [0, 1, 2] rfl) (hD.sub [0, 1, 2] (by decide) rfl) 9 rfl 0 rfl rfl hl.1 (rest := []) rfl (Nat.le_of_ble_eq_true rfl) dX10_change_12 ⟨Nat.zero_le _, Nat.zero_le _⟩) hP hD hS hA [0, 1, 2] [] rfl rfl rfl (by decide) rfl (fun H locs hP hD hS => ?_)
    refine lv_iconst (v := 0) hx hb dX10_change_15 (by decide) ?_
    refine lv_istore_n (lv' := [(2, .int (0 : Int32)), (0, .ref qt), (1, .int p1)]) hx hb dX10_change_16 rfl hl (by decide) rfl (fun ls hl => ?_)
    refine lv_iconst (v := 0) hx hb dX10_change_17 (by decide) ?_
    refine lv_istore_n (lv' := [(3, .int (0 : Int32)), (2, .int (0 : Int32)), (0, .ref qt), (1, .int p1)]) hx hb dX10_change_18 rfl hl (by decide) rfl (fun ls hl => ?_)
    exact hL19 FU u12v_gets (0 : Int32) (0 : Int32) H locs ls hP hD hS (lv_sub hl [2, 3, 1, 0] rfl) h
  · have h := if_t hc h
    refine lv_iconst (v := -1) hx hb dX10_change_9 (by decide) ?_
    cases h
    rw [hQQ]
    exact gw_iret hx hb hr hlocks hP hD hS dX10_change_10
theorem hdV_X10_change : yX10_change.cls = RX10 ∧ yX10_change.cls ≠ "java/lang/invoke/MethodHandle" ∧ yX10_change.cls ≠ "java/lang/invoke/VarHandle" ∧ (parseMethodDescriptor yX10_change.desc).map (fun d => d.parameters.length) = some 1 := by decide +kernel
def f_X10_seen (v_sights : Int32) (v_sight : (Nat → Int32)) (p1 : Int32) (p2 : Int32) : Option (Int32 × Int32 × (Nat → Int32)) := (bd1 (f_X10_in p1 (0 : Int32) (60 : Int32)) (fun r4 => (if r4 = (0 : Int32) then (some ((-2 : Int32), v_sights, v_sight)) else (bd1 (f_X10_in p2 (0 : Int32) (99 : Int32)) (fun r14 => (if r14 = (0 : Int32) then (some ((-2 : Int32), v_sights, v_sight)) else (if v_sights = (8 : Int32) then (some ((-4 : Int32), v_sights, v_sight)) else (gin ((2 : Int32) * v_sights) 16 (gin (((2 : Int32) * v_sights) + (1 : Int32)) 16 (some ((v_sights + (1 : Int32)), (v_sights + (1 : Int32)), (upd (upd v_sight (Int32.toNatClampNeg ((2 : Int32) * v_sights)) p1) (Int32.toNatClampNeg (((2 : Int32) * v_sights) + (1 : Int32))) p2))))))))))))
abbrev rm_X10_seen : Room := { frames := 1, cells := 0, slots := 0, locals := 22 }
set_option maxHeartbeats 4000000 in
set_option maxRecDepth 100000 in
theorem C_X10_seen (l : Launch) (D : va_G) (cI cJ cZ : ClassId) (sz : Nat) (qt qt_book qt_now qt_flakes qt_leaks qt_ranks qt_sight qt_pad qt_gets qt_counts qt_worth qt_ways qt_image qt_isKept : Nat) (v_music : Int32) (v_sights : Int32) (v_sight : (Nat → Int32)) (v_signs : Int32) (v_freeAt : Int32) (v_freeWho : Int32) (v_reason : Int32) (v_acts : Int32) (p1 : Int32) (p2 : Int32) (r : Int32) (w_sights : Int32) (w_sight : (Nat → Int32)) (hf : f_X10_seen v_sights v_sight p1 p2 = some (r, w_sights, w_sight)) : Met l yX10_seen wsX10_seen rm_X10_seen (PR D cI cJ cZ [(qt, .inr (9, [.ref qt_book, .ref qt_now, .ref qt_flakes, .ref qt_leaks, .int v_music, .ref qt_ranks, .int v_sights, .ref qt_sight, .int v_signs, .ref qt_pad, .int v_freeAt, .int v_freeWho, .int v_reason, .int v_acts, .ref qt_gets, .ref qt_counts, .ref qt_worth, .ref qt_ways, .ref qt_image, .ref qt_isKept])), (qt_sight, .inl (cI, 16, .inl v_sight))] sz [.ref qt, .int p1, .int p2]) (QI D (va_A [(qt, .inr (9, [.ref qt_book, .ref qt_now, .ref qt_flakes, .ref qt_leaks, .int v_music, .ref qt_ranks, .int v_sights, .ref qt_sight, .int v_signs, .ref qt_pad, .int v_freeAt, .int v_freeWho, .int v_reason, .int v_acts, .ref qt_gets, .ref qt_counts, .ref qt_worth, .ref qt_ways, .ref qt_image, .ref qt_isKept])), (qt_sight, .inl (cI, 16, .inl v_sight))] sz) r [(qt, .inr (9, [.ref qt_book, .ref qt_now, .ref qt_flakes, .ref qt_leaks, .int v_music, .ref qt_ranks, .int w_sights, .ref qt_sight, .int v_signs, .ref qt_pad, .int v_freeAt, .int v_freeWho, .int v_reason, .int v_acts, .ref qt_gets, .ref qt_counts, .ref qt_worth, .ref qt_ways, .ref qt_image, .ref qt_isKept])), (qt_sight, .inl (cI, 16, .inl w_sight))]) 0 0 (va_A [(qt, .inr (9, [.ref qt_book, .ref qt_now, .ref qt_flakes, .ref qt_leaks, .int v_music, .ref qt_ranks, .int v_sights, .ref qt_sight, .int v_signs, .ref qt_pad, .int v_freeAt, .int v_freeWho, .int v_reason, .int v_acts, .ref qt_gets, .ref qt_counts, .ref qt_worth, .ref qt_ways, .ref qt_image, .ref qt_isKept])), (qt_sight, .inl (cI, 16, .inl v_sight))] sz) := by
  refine Met.ofW (cc := cX10_seen) (maxL := 3) (ret := (some .int)) (by decide) rfl ?_
  intro p e s m args below meth c s₁ B hml hv
  obtain ⟨hav, hsz, hP, hD0, hE⟩ := hv
  have hx := B.exec
  have hb := B.bytes
  have hr := B.returns
  have hts := atoms_spec (ws := wsX10_seen) B.pre
  have hown : s.vm.findClass RX10 = some m.cls := findClass_of_methodNamed B.named
  have hlocks := B.notSynchronized
  subst hsz
  have hD := hD0.self (sz := s.heap.size)
  generalize hAe : va_A [(qt, .inr (9, [.ref qt_book, .ref qt_now, .ref qt_flakes, .ref qt_leaks, .int v_music, .ref qt_ranks, .int v_sights, .ref qt_sight, .int v_signs, .ref qt_pad, .int v_freeAt, .int v_freeWho, .int v_reason, .int v_acts, .ref qt_gets, .ref qt_counts, .ref qt_worth, .ref qt_ways, .ref qt_image, .ref qt_isKept])), (qt_sight, .inl (cI, 16, .inl v_sight))] s.heap.size = A at hD ⊢
  have hA : ∀ q : Nat, s.heap.size ≤ q → A q := fun q h => by rw [← hAe]; exact Or.inr h
  have hS : va_S A s.heap s.heap [] := va_S.rf
  have hl := lv_entry ([.ref qt, .int p1, .int p2]) (n := 3) (Nat.le_of_ble_eq_true rfl)
  have hfr : entryFrame m args 3 = entryFrame m ([.ref qt, .int p1, .int p2] : List Value).toArray 3 := by rw [hav]
  rw [hfr, lg_entry_eq]
  generalize (lg_sl ([.ref qt, .int p1, .int p2]) ++ List.replicate (3 - (lg_sl ([.ref qt, .int p1, .int p2])).length) Slot.unset).toArray = ls at hl ⊢
  have hl : lv_has ls 3 [(0, .ref qt), (1, .int p1), (2, .int p2)] := hl
  obtain ⟨QQ, hQQ⟩ : ∃ QQ, QQ = MQ below (QI D A r [(qt, .inr (9, [.ref qt_book, .ref qt_now, .ref qt_flakes, .ref qt_leaks, .int v_music, .ref qt_ranks, .int w_sights, .ref qt_sight, .int v_signs, .ref qt_pad, .int v_freeAt, .int v_freeWho, .int v_reason, .int v_acts, .ref qt_gets, .ref qt_counts, .ref qt_worth, .ref qt_ways, .ref qt_image, .ref qt_isKept])), (qt_sight, .inl (cI, 16, .inl w_sight))]) args s 0 0 A := ⟨_, rfl⟩
  show W p l e rm_X10_seen s m args below meth c s.heap [] 0 0 _ _
  rw [← hQQ]
  have h := hf
  unfold f_X10_seen at h
  refine gw_start hP hD hS (fun H locs hP hD hS => ?_)
  refine lv_iload_n hx hb dX10_seen_0 rfl (lv_at hl 1 rfl) ?_
  refine lv_iconst (v := 0) hx hb dX10_seen_1 (by decide) ?_
  refine lv_bipush (v := 60) hx hb dX10_seen_2 (by decide) ?_
  obtain ⟨r4, hc4, h⟩ := bd1_some h
  refine gw_ci (wr := [(qt, .inr (9, [.ref qt_book, .ref qt_now, .ref qt_flakes, .ref qt_leaks, .int v_music, .ref qt_ranks, .int v_sights, .ref qt_sight, .int v_signs, .ref qt_pad, .int v_freeAt, .int v_freeWho, .int v_reason, .int v_acts, .ref qt_gets, .ref qt_counts, .ref qt_worth, .ref qt_ways, .ref qt_image, .ref qt_isKept])), (qt_sight, .inl (cI, 16, .inl v_sight))]) (w2 := [(qt, .inr (9, [.ref qt_book, .ref qt_now, .ref qt_flakes, .ref qt_leaks, .int v_music, .ref qt_ranks, .int v_sights, .ref qt_sight, .int v_signs, .ref qt_pad, .int v_freeAt, .int v_freeWho, .int v_reason, .int v_acts, .ref qt_gets, .ref qt_counts, .ref qt_worth, .ref qt_ways, .ref qt_image, .ref qt_isKept])), (qt_sight, .inl (cI, 16, .inl v_sight))]) (gw_rS (n := 3) ⟨hx, hb, hml, hown, hts⟩ (C_X10_in l D cI cJ cZ H.size p1 (0 : Int32) (60 : Int32) r4 hc4) gX10_seen_X10_in rfl rfl rfl hdS_X10_in ⟨Nat.le_of_ble_eq_true rfl, Nat.le_of_ble_eq_true rfl⟩ hE (hP.sub [] rfl) (hD.sub [] (by decide) rfl) rfl hl.1 (rest := []) rfl (Nat.le_of_ble_eq_true rfl) dX10_seen_4 ⟨Nat.zero_le _, Nat.zero_le _⟩) hP hD hS hA [] [0, 1] rfl rfl rfl (by decide) rfl (fun H locs hP hD hS => ?_)
  refine lv_if_eq (tgt := 20) hx hb dX10_seen_7 (by decide) (fun hc => ?_) (fun hc => ?_)
  · have h := if_t hc h
    refine lv_bipush (v := -2) hx hb dX10_seen_20 (by decide) ?_
    cases h
    rw [hQQ]
    exact gw_iret hx hb hr hlocks hP hD hS dX10_seen_22
  · have h := if_f hc h
    refine lv_iload_n hx hb dX10_seen_10 rfl (lv_at hl 2 rfl) ?_
    refine lv_iconst (v := 0) hx hb dX10_seen_11 (by decide) ?_
    refine lv_bipush (v := 99) hx hb dX10_seen_12 (by decide) ?_
    obtain ⟨r14, hc14, h⟩ := bd1_some h
    refine gw_ci (wr := [(qt, .inr (9, [.ref qt_book, .ref qt_now, .ref qt_flakes, .ref qt_leaks, .int v_music, .ref qt_ranks, .int v_sights, .ref qt_sight, .int v_signs, .ref qt_pad, .int v_freeAt, .int v_freeWho, .int v_reason, .int v_acts, .ref qt_gets, .ref qt_counts, .ref qt_worth, .ref qt_ways, .ref qt_image, .ref qt_isKept])), (qt_sight, .inl (cI, 16, .inl v_sight))]) (w2 := [(qt, .inr (9, [.ref qt_book, .ref qt_now, .ref qt_flakes, .ref qt_leaks, .int v_music, .ref qt_ranks, .int v_sights, .ref qt_sight, .int v_signs, .ref qt_pad, .int v_freeAt, .int v_freeWho, .int v_reason, .int v_acts, .ref qt_gets, .ref qt_counts, .ref qt_worth, .ref qt_ways, .ref qt_image, .ref qt_isKept])), (qt_sight, .inl (cI, 16, .inl v_sight))]) (gw_rS (n := 3) ⟨hx, hb, hml, hown, hts⟩ (C_X10_in l D cI cJ cZ H.size p2 (0 : Int32) (99 : Int32) r14 hc14) gX10_seen_X10_in rfl rfl rfl hdS_X10_in ⟨Nat.le_of_ble_eq_true rfl, Nat.le_of_ble_eq_true rfl⟩ hE (hP.sub [] rfl) (hD.sub [] (by decide) rfl) rfl hl.1 (rest := []) rfl (Nat.le_of_ble_eq_true rfl) dX10_seen_14 ⟨Nat.zero_le _, Nat.zero_le _⟩) hP hD hS hA [] [0, 1] rfl rfl rfl (by decide) rfl (fun H locs hP hD hS => ?_)
    refine lv_if_ne (tgt := 23) hx hb dX10_seen_17 (by decide) (fun hc => ?_) (fun hc => ?_)
    · have h := if_f hc h
      refine lv_aload_n hx hb dX10_seen_23 rfl (lv_at hl 0 rfl) ?_
      refine va_get (D := D) (ci := 9) (C := RX10) (T := TX10) (N := 20) hx hb hts (fun _ hw => (List.mem_cons_of_mem _ (List.mem_append_right _ hw))) hown hE.1 hP 0 rfl rfl 6 (by decide) (hts (.fieldLink RX10 152 "GlobeCrownModel" "sights" "I") (List.mem_cons_of_mem _ (List.mem_append_left _ (List.mem_of_getElem? (i := 0) rfl)))) (fun _ h9 => h9) rfl dX10_seen_24 ?_
      refine lv_bipush (v := 8) hx hb dX10_seen_27 (by decide) ?_
      refine lv_icmp_ne (tgt := 35) hx hb dX10_seen_29 (by decide) (fun hc => ?_) (fun hc => ?_)
      · have h := if_f hc h
        refine lv_aload_n hx hb dX10_seen_35 rfl (lv_at hl 0 rfl) ?_
        refine va_get (D := D) (ci := 9) (C := RX10) (T := TX10) (N := 20) hx hb hts (fun _ hw => (List.mem_cons_of_mem _ (List.mem_append_right _ hw))) hown hE.1 hP 0 rfl rfl 7 (by decide) (hts (.fieldLink RX10 25 "GlobeCrownModel" "sight" "[I") (List.mem_cons_of_mem _ (List.mem_append_left _ (List.mem_of_getElem? (i := 1) rfl)))) (fun _ h9 => h9) rfl dX10_seen_36 ?_
        refine lv_iconst (v := 2) hx hb dX10_seen_39 (by decide) ?_
        refine lv_aload_n hx hb dX10_seen_40 rfl (lv_at hl 0 rfl) ?_
        refine va_get (D := D) (ci := 9) (C := RX10) (T := TX10) (N := 20) hx hb hts (fun _ hw => (List.mem_cons_of_mem _ (List.mem_append_right _ hw))) hown hE.1 hP 0 rfl rfl 6 (by decide) (hts (.fieldLink RX10 152 "GlobeCrownModel" "sights" "I") (List.mem_cons_of_mem _ (List.mem_append_left _ (List.mem_of_getElem? (i := 0) rfl)))) (fun _ h9 => h9) rfl dX10_seen_41 ?_
        refine lv_imul hx hb dX10_seen_44 ?_
        refine lv_iload_n hx hb dX10_seen_45 rfl (lv_at hl 1 rfl) ?_
        obtain ⟨hg, h⟩ := gin_some h
        refine va_iast hx hb hE.1 hP hD hS 1 0 rfl rfl hg dX10_seen_46 (fun H locs (hP : va_P D vwCl [(qt, .inr (9, [.ref qt_book, .ref qt_now, .ref qt_flakes, .ref qt_leaks, .int v_music, .ref qt_ranks, .int v_sights, .ref qt_sight, .int v_signs, .ref qt_pad, .int v_freeAt, .int v_freeWho, .int v_reason, .int v_acts, .ref qt_gets, .ref qt_counts, .ref qt_worth, .ref qt_ways, .ref qt_image, .ref qt_isKept])), (qt_sight, .inl (cI, 16, .inl (upd v_sight (Int32.toNatClampNeg ((2 : Int32) * v_sights)) p1)))] H) (hD : va_D A [(qt, .inr (9, [.ref qt_book, .ref qt_now, .ref qt_flakes, .ref qt_leaks, .int v_music, .ref qt_ranks, .int v_sights, .ref qt_sight, .int v_signs, .ref qt_pad, .int v_freeAt, .int v_freeWho, .int v_reason, .int v_acts, .ref qt_gets, .ref qt_counts, .ref qt_worth, .ref qt_ways, .ref qt_image, .ref qt_isKept])), (qt_sight, .inl (cI, 16, .inl (upd v_sight (Int32.toNatClampNeg ((2 : Int32) * v_sights)) p1)))]) hS => ?_)
        refine lv_aload_n hx hb dX10_seen_47 rfl (lv_at hl 0 rfl) ?_
        refine va_get (D := D) (ci := 9) (C := RX10) (T := TX10) (N := 20) hx hb hts (fun _ hw => (List.mem_cons_of_mem _ (List.mem_append_right _ hw))) hown hE.1 hP 0 rfl rfl 7 (by decide) (hts (.fieldLink RX10 25 "GlobeCrownModel" "sight" "[I") (List.mem_cons_of_mem _ (List.mem_append_left _ (List.mem_of_getElem? (i := 1) rfl)))) (fun _ h9 => h9) rfl dX10_seen_48 ?_
        refine lv_iconst (v := 2) hx hb dX10_seen_51 (by decide) ?_
        refine lv_aload_n hx hb dX10_seen_52 rfl (lv_at hl 0 rfl) ?_
        refine va_get (D := D) (ci := 9) (C := RX10) (T := TX10) (N := 20) hx hb hts (fun _ hw => (List.mem_cons_of_mem _ (List.mem_append_right _ hw))) hown hE.1 hP 0 rfl rfl 6 (by decide) (hts (.fieldLink RX10 152 "GlobeCrownModel" "sights" "I") (List.mem_cons_of_mem _ (List.mem_append_left _ (List.mem_of_getElem? (i := 0) rfl)))) (fun _ h9 => h9) rfl dX10_seen_53 ?_
        refine lv_imul hx hb dX10_seen_56 ?_
        refine lv_iconst (v := 1) hx hb dX10_seen_57 (by decide) ?_
        refine lv_iadd hx hb dX10_seen_58 ?_
        refine lv_iload_n hx hb dX10_seen_59 rfl (lv_at hl 2 rfl) ?_
        obtain ⟨hg, h⟩ := gin_some h
        refine va_iast hx hb hE.1 hP hD hS 1 0 rfl rfl hg dX10_seen_60 (fun H locs (hP : va_P D vwCl [(qt, .inr (9, [.ref qt_book, .ref qt_now, .ref qt_flakes, .ref qt_leaks, .int v_music, .ref qt_ranks, .int v_sights, .ref qt_sight, .int v_signs, .ref qt_pad, .int v_freeAt, .int v_freeWho, .int v_reason, .int v_acts, .ref qt_gets, .ref qt_counts, .ref qt_worth, .ref qt_ways, .ref qt_image, .ref qt_isKept])), (qt_sight, .inl (cI, 16, .inl (upd (upd v_sight (Int32.toNatClampNeg ((2 : Int32) * v_sights)) p1) (Int32.toNatClampNeg (((2 : Int32) * v_sights) + (1 : Int32))) p2)))] H) (hD : va_D A [(qt, .inr (9, [.ref qt_book, .ref qt_now, .ref qt_flakes, .ref qt_leaks, .int v_music, .ref qt_ranks, .int v_sights, .ref qt_sight, .int v_signs, .ref qt_pad, .int v_freeAt, .int v_freeWho, .int v_reason, .int v_acts, .ref qt_gets, .ref qt_counts, .ref qt_worth, .ref qt_ways, .ref qt_image, .ref qt_isKept])), (qt_sight, .inl (cI, 16, .inl (upd (upd v_sight (Int32.toNatClampNeg ((2 : Int32) * v_sights)) p1) (Int32.toNatClampNeg (((2 : Int32) * v_sights) + (1 : Int32))) p2)))]) hS => ?_)
        refine lv_aload_n hx hb dX10_seen_61 rfl (lv_at hl 0 rfl) ?_
        refine lv_dup hx hb dX10_seen_62 rfl ?_
        refine va_get (D := D) (ci := 9) (C := RX10) (T := TX10) (N := 20) hx hb hts (fun _ hw => (List.mem_cons_of_mem _ (List.mem_append_right _ hw))) hown hE.1 hP 0 rfl rfl 6 (by decide) (hts (.fieldLink RX10 152 "GlobeCrownModel" "sights" "I") (List.mem_cons_of_mem _ (List.mem_append_left _ (List.mem_of_getElem? (i := 0) rfl)))) (fun _ h9 => h9) rfl dX10_seen_63 ?_
        refine lv_iconst (v := 1) hx hb dX10_seen_66 (by decide) ?_
        refine lv_iadd hx hb dX10_seen_67 ?_
        refine va_put (D := D) (ci := 9) (v := .int (v_sights + (1 : Int32))) (ty := .int) (C := RX10) (T := TX10) (N := 20) hx hb hts (fun _ hw => (List.mem_cons_of_mem _ (List.mem_append_right _ hw))) tyX10 tyX10_ok nmX10 hown hE.1 hP hD hS 0 rfl rfl 6 (by decide) (hts (.fieldLink RX10 152 "GlobeCrownModel" "sights" "I") (List.mem_cons_of_mem _ (List.mem_append_left _ (List.mem_of_getElem? (i := 0) rfl)))) (fun _ h9 => h9) rfl (tyX10_ok 6 (by decide)) rfl rfl (Nat.le_of_ble_eq_true rfl) dX10_seen_68 (fun H locs (hP : va_P D vwCl [(qt, .inr (9, [.ref qt_book, .ref qt_now, .ref qt_flakes, .ref qt_leaks, .int v_music, .ref qt_ranks, .int (v_sights + (1 : Int32)), .ref qt_sight, .int v_signs, .ref qt_pad, .int v_freeAt, .int v_freeWho, .int v_reason, .int v_acts, .ref qt_gets, .ref qt_counts, .ref qt_worth, .ref qt_ways, .ref qt_image, .ref qt_isKept])), (qt_sight, .inl (cI, 16, .inl (upd (upd v_sight (Int32.toNatClampNeg ((2 : Int32) * v_sights)) p1) (Int32.toNatClampNeg (((2 : Int32) * v_sights) + (1 : Int32))) p2)))] H) (hD : va_D A [(qt, .inr (9, [.ref qt_book, .ref qt_now, .ref qt_flakes, .ref qt_leaks, .int v_music, .ref qt_ranks, .int (v_sights + (1 : Int32)), .ref qt_sight, .int v_signs, .ref qt_pad, .int v_freeAt, .int v_freeWho, .int v_reason, .int v_acts, .ref qt_gets, .ref qt_counts, .ref qt_worth, .ref qt_ways, .ref qt_image, .ref qt_isKept])), (qt_sight, .inl (cI, 16, .inl (upd (upd v_sight (Int32.toNatClampNeg ((2 : Int32) * v_sights)) p1) (Int32.toNatClampNeg (((2 : Int32) * v_sights) + (1 : Int32))) p2)))]) hS => ?_)
        refine lv_aload_n hx hb dX10_seen_71 rfl (lv_at hl 0 rfl) ?_
        refine va_get (D := D) (ci := 9) (C := RX10) (T := TX10) (N := 20) hx hb hts (fun _ hw => (List.mem_cons_of_mem _ (List.mem_append_right _ hw))) hown hE.1 hP 0 rfl rfl 6 (by decide) (hts (.fieldLink RX10 152 "GlobeCrownModel" "sights" "I") (List.mem_cons_of_mem _ (List.mem_append_left _ (List.mem_of_getElem? (i := 0) rfl)))) (fun _ h9 => h9) rfl dX10_seen_72 ?_
        cases h
        rw [hQQ]
        exact gw_iret hx hb hr hlocks hP hD hS dX10_seen_75
      · have h := if_t hc h
        refine lv_bipush (v := -4) hx hb dX10_seen_32 (by decide) ?_
        cases h
        rw [hQQ]
        exact gw_iret hx hb hr hlocks hP hD hS dX10_seen_34
    · have h := if_t hc h
      refine lv_bipush (v := -2) hx hb dX10_seen_20 (by decide) ?_
      cases h
      rw [hQQ]
      exact gw_iret hx hb hr hlocks hP hD hS dX10_seen_22
theorem hdV_X10_seen : yX10_seen.cls = RX10 ∧ yX10_seen.cls ≠ "java/lang/invoke/MethodHandle" ∧ yX10_seen.cls ≠ "java/lang/invoke/VarHandle" ∧ (parseMethodDescriptor yX10_seen.desc).map (fun d => d.parameters.length) = some 2 := by decide +kernel
def f_X10_forget (v_sights : Int32) : Option (Int32 × Int32) := (some (v_sights, (0 : Int32)))
abbrev rm_X10_forget : Room := { frames := 0, cells := 0, slots := 0, locals := 0 }
set_option maxHeartbeats 4000000 in
set_option maxRecDepth 100000 in
theorem C_X10_forget (l : Launch) (D : va_G) (cI cJ cZ : ClassId) (sz : Nat) (qt qt_book qt_now qt_flakes qt_leaks qt_ranks qt_sight qt_pad qt_gets qt_counts qt_worth qt_ways qt_image qt_isKept : Nat) (v_music : Int32) (v_sights : Int32) (v_signs : Int32) (v_freeAt : Int32) (v_freeWho : Int32) (v_reason : Int32) (v_acts : Int32) (r : Int32) (w_sights : Int32) (hf : f_X10_forget v_sights = some (r, w_sights)) : Met l yX10_forget wsX10_forget rm_X10_forget (PR D cI cJ cZ [(qt, .inr (9, [.ref qt_book, .ref qt_now, .ref qt_flakes, .ref qt_leaks, .int v_music, .ref qt_ranks, .int v_sights, .ref qt_sight, .int v_signs, .ref qt_pad, .int v_freeAt, .int v_freeWho, .int v_reason, .int v_acts, .ref qt_gets, .ref qt_counts, .ref qt_worth, .ref qt_ways, .ref qt_image, .ref qt_isKept]))] sz [.ref qt]) (QI D (va_A [(qt, .inr (9, [.ref qt_book, .ref qt_now, .ref qt_flakes, .ref qt_leaks, .int v_music, .ref qt_ranks, .int v_sights, .ref qt_sight, .int v_signs, .ref qt_pad, .int v_freeAt, .int v_freeWho, .int v_reason, .int v_acts, .ref qt_gets, .ref qt_counts, .ref qt_worth, .ref qt_ways, .ref qt_image, .ref qt_isKept]))] sz) r [(qt, .inr (9, [.ref qt_book, .ref qt_now, .ref qt_flakes, .ref qt_leaks, .int v_music, .ref qt_ranks, .int w_sights, .ref qt_sight, .int v_signs, .ref qt_pad, .int v_freeAt, .int v_freeWho, .int v_reason, .int v_acts, .ref qt_gets, .ref qt_counts, .ref qt_worth, .ref qt_ways, .ref qt_image, .ref qt_isKept]))]) 0 0 (va_A [(qt, .inr (9, [.ref qt_book, .ref qt_now, .ref qt_flakes, .ref qt_leaks, .int v_music, .ref qt_ranks, .int v_sights, .ref qt_sight, .int v_signs, .ref qt_pad, .int v_freeAt, .int v_freeWho, .int v_reason, .int v_acts, .ref qt_gets, .ref qt_counts, .ref qt_worth, .ref qt_ways, .ref qt_image, .ref qt_isKept]))] sz) := by
  refine Met.ofW (cc := cX10_forget) (maxL := 2) (ret := (some .int)) (by decide) rfl ?_
  intro p e s m args below meth c s₁ B hml hv
  obtain ⟨hav, hsz, hP, hD0, hE⟩ := hv
  have hx := B.exec
  have hb := B.bytes
  have hr := B.returns
  have hts := atoms_spec (ws := wsX10_forget) B.pre
  have hown : s.vm.findClass RX10 = some m.cls := findClass_of_methodNamed B.named
  have hlocks := B.notSynchronized
  subst hsz
  have hD := hD0.self (sz := s.heap.size)
  generalize hAe : va_A [(qt, .inr (9, [.ref qt_book, .ref qt_now, .ref qt_flakes, .ref qt_leaks, .int v_music, .ref qt_ranks, .int v_sights, .ref qt_sight, .int v_signs, .ref qt_pad, .int v_freeAt, .int v_freeWho, .int v_reason, .int v_acts, .ref qt_gets, .ref qt_counts, .ref qt_worth, .ref qt_ways, .ref qt_image, .ref qt_isKept]))] s.heap.size = A at hD ⊢
  have hA : ∀ q : Nat, s.heap.size ≤ q → A q := fun q h => by rw [← hAe]; exact Or.inr h
  have hS : va_S A s.heap s.heap [] := va_S.rf
  have hl := lv_entry ([.ref qt]) (n := 2) (Nat.le_of_ble_eq_true rfl)
  have hfr : entryFrame m args 2 = entryFrame m ([.ref qt] : List Value).toArray 2 := by rw [hav]
  rw [hfr, lg_entry_eq]
  generalize (lg_sl ([.ref qt]) ++ List.replicate (2 - (lg_sl ([.ref qt])).length) Slot.unset).toArray = ls at hl ⊢
  have hl : lv_has ls 2 [(0, .ref qt)] := hl
  obtain ⟨QQ, hQQ⟩ : ∃ QQ, QQ = MQ below (QI D A r [(qt, .inr (9, [.ref qt_book, .ref qt_now, .ref qt_flakes, .ref qt_leaks, .int v_music, .ref qt_ranks, .int w_sights, .ref qt_sight, .int v_signs, .ref qt_pad, .int v_freeAt, .int v_freeWho, .int v_reason, .int v_acts, .ref qt_gets, .ref qt_counts, .ref qt_worth, .ref qt_ways, .ref qt_image, .ref qt_isKept]))]) args s 0 0 A := ⟨_, rfl⟩
  show W p l e rm_X10_forget s m args below meth c s.heap [] 0 0 _ _
  rw [← hQQ]
  have h := hf
  unfold f_X10_forget at h
  refine gw_start hP hD hS (fun H locs hP hD hS => ?_)
  refine lv_aload_n hx hb dX10_forget_0 rfl (lv_at hl 0 rfl) ?_
  refine va_get (D := D) (ci := 9) (C := RX10) (T := TX10) (N := 20) hx hb hts (fun _ hw => (List.mem_cons_of_mem _ (List.mem_append_right _ hw))) hown hE.1 hP 0 rfl rfl 6 (by decide) (hts (.fieldLink RX10 152 "GlobeCrownModel" "sights" "I") (List.mem_cons_of_mem _ (List.mem_append_left _ (List.mem_of_getElem? (i := 0) rfl)))) (fun _ h9 => h9) rfl dX10_forget_1 ?_
  refine lv_istore_n (lv' := [(1, .int v_sights), (0, .ref qt)]) hx hb dX10_forget_4 rfl hl (by decide) rfl (fun ls hl => ?_)
  refine lv_aload_n hx hb dX10_forget_5 rfl (lv_at hl 1 rfl) ?_
  refine lv_iconst (v := 0) hx hb dX10_forget_6 (by decide) ?_
  refine va_put (D := D) (ci := 9) (v := .int (0 : Int32)) (ty := .int) (C := RX10) (T := TX10) (N := 20) hx hb hts (fun _ hw => (List.mem_cons_of_mem _ (List.mem_append_right _ hw))) tyX10 tyX10_ok nmX10 hown hE.1 hP hD hS 0 rfl rfl 6 (by decide) (hts (.fieldLink RX10 152 "GlobeCrownModel" "sights" "I") (List.mem_cons_of_mem _ (List.mem_append_left _ (List.mem_of_getElem? (i := 0) rfl)))) (fun _ h9 => h9) rfl (tyX10_ok 6 (by decide)) rfl rfl (Nat.le_of_ble_eq_true rfl) dX10_forget_7 (fun H locs (hP : va_P D vwCl [(qt, .inr (9, [.ref qt_book, .ref qt_now, .ref qt_flakes, .ref qt_leaks, .int v_music, .ref qt_ranks, .int (0 : Int32), .ref qt_sight, .int v_signs, .ref qt_pad, .int v_freeAt, .int v_freeWho, .int v_reason, .int v_acts, .ref qt_gets, .ref qt_counts, .ref qt_worth, .ref qt_ways, .ref qt_image, .ref qt_isKept]))] H) (hD : va_D A [(qt, .inr (9, [.ref qt_book, .ref qt_now, .ref qt_flakes, .ref qt_leaks, .int v_music, .ref qt_ranks, .int (0 : Int32), .ref qt_sight, .int v_signs, .ref qt_pad, .int v_freeAt, .int v_freeWho, .int v_reason, .int v_acts, .ref qt_gets, .ref qt_counts, .ref qt_worth, .ref qt_ways, .ref qt_image, .ref qt_isKept]))]) hS => ?_)
  refine lv_iload_n hx hb dX10_forget_10 rfl (lv_at hl 0 rfl) ?_
  cases h
  rw [hQQ]
  exact gw_iret hx hb hr hlocks hP hD hS dX10_forget_11
theorem hdV_X10_forget : yX10_forget.cls = RX10 ∧ yX10_forget.cls ≠ "java/lang/invoke/MethodHandle" ∧ yX10_forget.cls ≠ "java/lang/invoke/VarHandle" ∧ (parseMethodDescriptor yX10_forget.desc).map (fun d => d.parameters.length) = some 0 := by decide +kernel
def f_X10_flyingAt (p0 : Int32) (p1 : Int32) : Option (Int32) := (if (p1 - (jrem p0 (100 : Int32))) < (0 : Int32) then (some (0 : Int32)) else (if (0 : Int32) ≤ (((10 : Int32) * (p0 / (100 : Int32))) - ((7 : Int32) * (p1 - (jrem p0 (100 : Int32))))) then (some (((10 : Int32) * (p0 / (100 : Int32))) - ((7 : Int32) * (p1 - (jrem p0 (100 : Int32)))))) else (some (0 : Int32))))
abbrev rm_X10_flyingAt : Room := { frames := 0, cells := 0, slots := 0, locals := 0 }
set_option maxHeartbeats 4000000 in
set_option maxRecDepth 100000 in
theorem C_X10_flyingAt (l : Launch) (D : va_G) (cI cJ cZ : ClassId) (sz : Nat) (p0 : Int32) (p1 : Int32) (r : Int32) (hf : f_X10_flyingAt p0 p1 = some r) : Met l yX10_flyingAt wsX10_flyingAt rm_X10_flyingAt (PR D cI cJ cZ [] sz [.int p0, .int p1]) (QI D (va_A [] sz) r []) 0 0 (va_A [] sz) := by
  refine Met.ofW (cc := cX10_flyingAt) (maxL := 4) (ret := (some .int)) (by decide) rfl ?_
  intro p e s m args below meth c s₁ B hml hv
  obtain ⟨hav, hsz, hP, hD0, hE⟩ := hv
  have hx := B.exec
  have hb := B.bytes
  have hr := B.returns
  have hts := atoms_spec (ws := wsX10_flyingAt) B.pre
  have hown : s.vm.findClass RX10 = some m.cls := findClass_of_methodNamed B.named
  have hlocks := B.notSynchronized
  subst hsz
  have hD := hD0.self (sz := s.heap.size)
  generalize hAe : va_A [] s.heap.size = A at hD ⊢
  have hA : ∀ q : Nat, s.heap.size ≤ q → A q := fun q h => by rw [← hAe]; exact Or.inr h
  have hS : va_S A s.heap s.heap [] := va_S.rf
  have hl := lv_entry ([.int p0, .int p1]) (n := 4) (Nat.le_of_ble_eq_true rfl)
  have hfr : entryFrame m args 4 = entryFrame m ([.int p0, .int p1] : List Value).toArray 4 := by rw [hav]
  rw [hfr, lg_entry_eq]
  generalize (lg_sl ([.int p0, .int p1]) ++ List.replicate (4 - (lg_sl ([.int p0, .int p1])).length) Slot.unset).toArray = ls at hl ⊢
  have hl : lv_has ls 4 [(0, .int p0), (1, .int p1)] := hl
  obtain ⟨QQ, hQQ⟩ : ∃ QQ, QQ = MQ below (QI D A r []) args s 0 0 A := ⟨_, rfl⟩
  show W p l e rm_X10_flyingAt s m args below meth c s.heap [] 0 0 _ _
  rw [← hQQ]
  have h := hf
  unfold f_X10_flyingAt at h
  refine gw_start hP hD hS (fun H locs hP hD hS => ?_)
  refine lv_iload_n hx hb dX10_flyingAt_0 rfl (lv_at hl 1 rfl) ?_
  refine lv_iload_n hx hb dX10_flyingAt_1 rfl (lv_at hl 0 rfl) ?_
  refine lv_bipush (v := 100) hx hb dX10_flyingAt_2 (by decide) ?_
  refine gw_irem hx hb dX10_flyingAt_4 (by decide) ?_
  refine lv_isub hx hb dX10_flyingAt_5 ?_
  refine lv_istore_n (lv' := [(2, .int (p1 - (jrem p0 (100 : Int32)))), (0, .int p0), (1, .int p1)]) hx hb dX10_flyingAt_6 rfl hl (by decide) rfl (fun ls hl => ?_)
  refine lv_bipush (v := 10) hx hb dX10_flyingAt_7 (by decide) ?_
  refine lv_iload_n hx hb dX10_flyingAt_9 rfl (lv_at hl 1 rfl) ?_
  refine lv_bipush (v := 100) hx hb dX10_flyingAt_10 (by decide) ?_
  refine lv_idiv hx hb dX10_flyingAt_12 (by decide) ?_
  refine lv_imul hx hb dX10_flyingAt_13 ?_
  refine lv_bipush (v := 7) hx hb dX10_flyingAt_14 (by decide) ?_
  refine lv_iload_n hx hb dX10_flyingAt_16 rfl (lv_at hl 0 rfl) ?_
  refine lv_imul hx hb dX10_flyingAt_17 ?_
  refine lv_isub hx hb dX10_flyingAt_18 ?_
  refine lv_istore_n (lv' := [(3, .int (((10 : Int32) * (p0 / (100 : Int32))) - ((7 : Int32) * (p1 - (jrem p0 (100 : Int32)))))), (2, .int (p1 - (jrem p0 (100 : Int32)))), (0, .int p0), (1, .int p1)]) hx hb dX10_flyingAt_19 rfl hl (by decide) rfl (fun ls hl => ?_)
  refine lv_iload_n hx hb dX10_flyingAt_20 rfl (lv_at hl 1 rfl) ?_
  refine lv_if_lt (tgt := 28) hx hb dX10_flyingAt_21 (by decide) (fun hc => ?_) (fun hc => ?_)
  · have h := if_t hc h
    refine lv_iconst (v := 0) hx hb dX10_flyingAt_28 (by decide) ?_
    refine lv_goto (tgt := 33) hx hb dX10_flyingAt_29 (by decide) ?_
    cases h
    rw [hQQ]
    exact gw_iret hx hb hr hlocks hP hD hS dX10_flyingAt_33
  · have h := if_f hc h
    refine lv_iload_n hx hb dX10_flyingAt_24 rfl (lv_at hl 0 rfl) ?_
    refine lv_if_ge (tgt := 32) hx hb dX10_flyingAt_25 (by decide) (fun hc => ?_) (fun hc => ?_)
    · have h := if_t hc h
      refine lv_iload_n hx hb dX10_flyingAt_32 rfl (lv_at hl 0 rfl) ?_
      cases h
      rw [hQQ]
      exact gw_iret hx hb hr hlocks hP hD hS dX10_flyingAt_33
    · have h := if_f hc h
      refine lv_iconst (v := 0) hx hb dX10_flyingAt_28 (by decide) ?_
      refine lv_goto (tgt := 33) hx hb dX10_flyingAt_29 (by decide) ?_
      cases h
      rw [hQQ]
      exact gw_iret hx hb hr hlocks hP hD hS dX10_flyingAt_33
theorem hdS_X10_flyingAt : yX10_flyingAt.cls ≠ "java/lang/invoke/MethodHandle" ∧ yX10_flyingAt.cls ≠ "java/lang/invoke/VarHandle" ∧ (parseMethodDescriptor yX10_flyingAt.desc).map (fun d => d.parameters.length) = some 2 := by decide +kernel
def L_X10_isFit_30 (v_sights : Int32) (v_sight : (Nat → Int32)) (p1 : Int32) : Nat → Int32 → Int32 → Option (Int32)
  | 0, _, _ => none
  | n + 1, x2, x3 => (if v_sights ≤ x3 then (gbl x2 (some x2)) else (if x2 = (0 : Int32) then (gbl x2 (some x2)) else (gin ((2 : Int32) * x3) 16 (bd1 (f_X10_flyingAt p1 (v_sight (Int32.toNatClampNeg ((2 : Int32) * x3)))) (fun r51 => (gin (((2 : Int32) * x3) + (1 : Int32)) 16 (if r51 = (v_sight (Int32.toNatClampNeg (((2 : Int32) * x3) + (1 : Int32)))) then ((L_X10_isFit_30 v_sights v_sight p1 n) (1 : Int32) (x3 + (1 : Int32))) else ((L_X10_isFit_30 v_sights v_sight p1 n) (0 : Int32) (x3 + (1 : Int32))))))))))
def f_X10_isFit (v_sights : Int32) (v_sight : (Nat → Int32)) (p1 : Int32) : Option (Int32) := (bd1 (f_X10_in (p1 / (100 : Int32)) (1 : Int32) (9 : Int32)) (fun r7 => (if r7 = (0 : Int32) then (L_X10_isFit_30 v_sights v_sight p1 FU (0 : Int32) (0 : Int32)) else (if (21 : Int32) ≤ (jrem p1 (100 : Int32)) then (L_X10_isFit_30 v_sights v_sight p1 FU (0 : Int32) (0 : Int32)) else (L_X10_isFit_30 v_sights v_sight p1 FU (1 : Int32) (0 : Int32))))))
abbrev rm_X10_isFit : Room := { frames := 1, cells := 0, slots := 0, locals := 23 }
set_option maxHeartbeats 4000000 in
set_option maxRecDepth 100000 in
theorem C_X10_isFit (l : Launch) (D : va_G) (cI cJ cZ : ClassId) (sz : Nat) (qt qt_book qt_now qt_flakes qt_leaks qt_ranks qt_sight qt_pad qt_gets qt_counts qt_worth qt_ways qt_image qt_isKept : Nat) (v_music : Int32) (v_sights : Int32) (v_sight : (Nat → Int32)) (v_signs : Int32) (v_freeAt : Int32) (v_freeWho : Int32) (v_reason : Int32) (v_acts : Int32) (p1 : Int32) (r : Int32) (hf : f_X10_isFit v_sights v_sight p1 = some r) : Met l yX10_isFit wsX10_isFit rm_X10_isFit (PR D cI cJ cZ [(qt, .inr (9, [.ref qt_book, .ref qt_now, .ref qt_flakes, .ref qt_leaks, .int v_music, .ref qt_ranks, .int v_sights, .ref qt_sight, .int v_signs, .ref qt_pad, .int v_freeAt, .int v_freeWho, .int v_reason, .int v_acts, .ref qt_gets, .ref qt_counts, .ref qt_worth, .ref qt_ways, .ref qt_image, .ref qt_isKept])), (qt_sight, .inl (cI, 16, .inl v_sight))] sz [.ref qt, .int p1]) (QI D (va_A [(qt, .inr (9, [.ref qt_book, .ref qt_now, .ref qt_flakes, .ref qt_leaks, .int v_music, .ref qt_ranks, .int v_sights, .ref qt_sight, .int v_signs, .ref qt_pad, .int v_freeAt, .int v_freeWho, .int v_reason, .int v_acts, .ref qt_gets, .ref qt_counts, .ref qt_worth, .ref qt_ways, .ref qt_image, .ref qt_isKept])), (qt_sight, .inl (cI, 16, .inl v_sight))] sz) r [(qt, .inr (9, [.ref qt_book, .ref qt_now, .ref qt_flakes, .ref qt_leaks, .int v_music, .ref qt_ranks, .int v_sights, .ref qt_sight, .int v_signs, .ref qt_pad, .int v_freeAt, .int v_freeWho, .int v_reason, .int v_acts, .ref qt_gets, .ref qt_counts, .ref qt_worth, .ref qt_ways, .ref qt_image, .ref qt_isKept])), (qt_sight, .inl (cI, 16, .inl v_sight))]) 0 0 (va_A [(qt, .inr (9, [.ref qt_book, .ref qt_now, .ref qt_flakes, .ref qt_leaks, .int v_music, .ref qt_ranks, .int v_sights, .ref qt_sight, .int v_signs, .ref qt_pad, .int v_freeAt, .int v_freeWho, .int v_reason, .int v_acts, .ref qt_gets, .ref qt_counts, .ref qt_worth, .ref qt_ways, .ref qt_image, .ref qt_isKept])), (qt_sight, .inl (cI, 16, .inl v_sight))] sz) := by
  refine Met.ofW (cc := cX10_isFit) (maxL := 4) (ret := (some .boolean)) (by decide) rfl ?_
  intro p e s m args below meth c s₁ B hml hv
  obtain ⟨hav, hsz, hP, hD0, hE⟩ := hv
  have hx := B.exec
  have hb := B.bytes
  have hr := B.returns
  have hts := atoms_spec (ws := wsX10_isFit) B.pre
  have hown : s.vm.findClass RX10 = some m.cls := findClass_of_methodNamed B.named
  have hlocks := B.notSynchronized
  subst hsz
  have hD := hD0.self (sz := s.heap.size)
  generalize hAe : va_A [(qt, .inr (9, [.ref qt_book, .ref qt_now, .ref qt_flakes, .ref qt_leaks, .int v_music, .ref qt_ranks, .int v_sights, .ref qt_sight, .int v_signs, .ref qt_pad, .int v_freeAt, .int v_freeWho, .int v_reason, .int v_acts, .ref qt_gets, .ref qt_counts, .ref qt_worth, .ref qt_ways, .ref qt_image, .ref qt_isKept])), (qt_sight, .inl (cI, 16, .inl v_sight))] s.heap.size = A at hD ⊢
  have hA : ∀ q : Nat, s.heap.size ≤ q → A q := fun q h => by rw [← hAe]; exact Or.inr h
  have hS : va_S A s.heap s.heap [] := va_S.rf
  have hl := lv_entry ([.ref qt, .int p1]) (n := 4) (Nat.le_of_ble_eq_true rfl)
  have hfr : entryFrame m args 4 = entryFrame m ([.ref qt, .int p1] : List Value).toArray 4 := by rw [hav]
  rw [hfr, lg_entry_eq]
  generalize (lg_sl ([.ref qt, .int p1]) ++ List.replicate (4 - (lg_sl ([.ref qt, .int p1])).length) Slot.unset).toArray = ls at hl ⊢
  have hl : lv_has ls 4 [(0, .ref qt), (1, .int p1)] := hl
  obtain ⟨QQ, hQQ⟩ : ∃ QQ, QQ = MQ below (QI D A r [(qt, .inr (9, [.ref qt_book, .ref qt_now, .ref qt_flakes, .ref qt_leaks, .int v_music, .ref qt_ranks, .int v_sights, .ref qt_sight, .int v_signs, .ref qt_pad, .int v_freeAt, .int v_freeWho, .int v_reason, .int v_acts, .ref qt_gets, .ref qt_counts, .ref qt_worth, .ref qt_ways, .ref qt_image, .ref qt_isKept])), (qt_sight, .inl (cI, 16, .inl v_sight))]) args s 0 0 A := ⟨_, rfl⟩
  show W p l e rm_X10_isFit s m args below meth c s.heap [] 0 0 _ _
  rw [← hQQ]
  have hL30 : ∀ (n30 : Nat), ∀ (x2 : Int32) (x3 : Int32) (H : Heap) (locs : List Loc) (ls : Array Slot), va_P D vwCl [(qt, .inr (9, [.ref qt_book, .ref qt_now, .ref qt_flakes, .ref qt_leaks, .int v_music, .ref qt_ranks, .int v_sights, .ref qt_sight, .int v_signs, .ref qt_pad, .int v_freeAt, .int v_freeWho, .int v_reason, .int v_acts, .ref qt_gets, .ref qt_counts, .ref qt_worth, .ref qt_ways, .ref qt_image, .ref qt_isKept])), (qt_sight, .inl (cI, 16, .inl v_sight))] H → va_D A [(qt, .inr (9, [.ref qt_book, .ref qt_now, .ref qt_flakes, .ref qt_leaks, .int v_music, .ref qt_ranks, .int v_sights, .ref qt_sight, .int v_signs, .ref qt_pad, .int v_freeAt, .int v_freeWho, .int v_reason, .int v_acts, .ref qt_gets, .ref qt_counts, .ref qt_worth, .ref qt_ways, .ref qt_image, .ref qt_isKept])), (qt_sight, .inl (cI, 16, .inl v_sight))] → va_S A s.heap H locs → lv_has ls 4 [(0, .ref qt), (1, .int p1), (2, .int x2), (3, .int x3)] → L_X10_isFit_30 v_sights v_sight p1 n30 x2 x3 = some r → W p l e rm_X10_isFit s m args below meth c H locs 0 0 QQ (F0 m 30 ls []) := by
    intro n30
    induction n30 with
    | zero =>
      intro x2 x3 H locs ls hP hD hS hl h
      have h : none = some r := h
      cases h
    | succ n30 ih30 =>
      intro x2 x3 H locs ls hP hD hS hl h
      rw [L_X10_isFit_30.eq_2] at h
      refine lv_iload_n hx hb dX10_isFit_30 rfl (lv_at hl 3 rfl) ?_
      refine lv_aload_n hx hb dX10_isFit_31 rfl (lv_at hl 0 rfl) ?_
      refine va_get (D := D) (ci := 9) (C := RX10) (T := TX10) (N := 20) hx hb hts (fun _ hw => (List.mem_cons_of_mem _ (List.mem_append_right _ hw))) hown hE.1 hP 0 rfl rfl 6 (by decide) (hts (.fieldLink RX10 152 "GlobeCrownModel" "sights" "I") (List.mem_cons_of_mem _ (List.mem_append_left _ (List.mem_of_getElem? (i := 0) rfl)))) (fun _ h9 => h9) rfl dX10_isFit_32 ?_
      refine lv_icmp_ge (tgt := 79) hx hb dX10_isFit_35 (by decide) (fun hc => ?_) (fun hc => ?_)
      · have h := if_t hc h
        refine lv_iload_n hx hb dX10_isFit_79 rfl (lv_at hl 2 rfl) ?_
        obtain ⟨hz, h⟩ := gbl_some h
        cases h
        rw [hQQ]
        exact gw_zret hx hb hr hlocks hz hP hD hS dX10_isFit_80
      · have h := if_f hc h
        refine lv_iload_n hx hb dX10_isFit_38 rfl (lv_at hl 2 rfl) ?_
        refine lv_if_eq (tgt := 79) hx hb dX10_isFit_39 (by decide) (fun hc => ?_) (fun hc => ?_)
        · have h := if_t hc h
          refine lv_iload_n hx hb dX10_isFit_79 rfl (lv_at hl 2 rfl) ?_
          obtain ⟨hz, h⟩ := gbl_some h
          cases h
          rw [hQQ]
          exact gw_zret hx hb hr hlocks hz hP hD hS dX10_isFit_80
        · have h := if_f hc h
          refine lv_iload_n hx hb dX10_isFit_42 rfl (lv_at hl 1 rfl) ?_
          refine lv_aload_n hx hb dX10_isFit_43 rfl (lv_at hl 0 rfl) ?_
          refine va_get (D := D) (ci := 9) (C := RX10) (T := TX10) (N := 20) hx hb hts (fun _ hw => (List.mem_cons_of_mem _ (List.mem_append_right _ hw))) hown hE.1 hP 0 rfl rfl 7 (by decide) (hts (.fieldLink RX10 25 "GlobeCrownModel" "sight" "[I") (List.mem_cons_of_mem _ (List.mem_append_left _ (List.mem_of_getElem? (i := 1) rfl)))) (fun _ h9 => h9) rfl dX10_isFit_44 ?_
          refine lv_iconst (v := 2) hx hb dX10_isFit_47 (by decide) ?_
          refine lv_iload_n hx hb dX10_isFit_48 rfl (lv_at hl 3 rfl) ?_
          refine lv_imul hx hb dX10_isFit_49 ?_
          obtain ⟨hg, h⟩ := gin_some h
          refine va_iald hx hb hE.1 hP 1 0 rfl rfl hg dX10_isFit_50 ?_
          obtain ⟨r51, hc51, h⟩ := bd1_some h
          refine gw_ci (wr := [(qt, .inr (9, [.ref qt_book, .ref qt_now, .ref qt_flakes, .ref qt_leaks, .int v_music, .ref qt_ranks, .int v_sights, .ref qt_sight, .int v_signs, .ref qt_pad, .int v_freeAt, .int v_freeWho, .int v_reason, .int v_acts, .ref qt_gets, .ref qt_counts, .ref qt_worth, .ref qt_ways, .ref qt_image, .ref qt_isKept])), (qt_sight, .inl (cI, 16, .inl v_sight))]) (w2 := [(qt, .inr (9, [.ref qt_book, .ref qt_now, .ref qt_flakes, .ref qt_leaks, .int v_music, .ref qt_ranks, .int v_sights, .ref qt_sight, .int v_signs, .ref qt_pad, .int v_freeAt, .int v_freeWho, .int v_reason, .int v_acts, .ref qt_gets, .ref qt_counts, .ref qt_worth, .ref qt_ways, .ref qt_image, .ref qt_isKept])), (qt_sight, .inl (cI, 16, .inl v_sight))]) (gw_rS (n := 2) ⟨hx, hb, hml, hown, hts⟩ (C_X10_flyingAt l D cI cJ cZ H.size p1 (v_sight (Int32.toNatClampNeg ((2 : Int32) * x3))) r51 hc51) gX10_isFit_X10_flyingAt rfl rfl rfl hdS_X10_flyingAt ⟨Nat.le_of_ble_eq_true rfl, Nat.le_of_ble_eq_true rfl⟩ hE (hP.sub [] rfl) (hD.sub [] (by decide) rfl) rfl hl.1 (rest := []) rfl (Nat.le_of_ble_eq_true rfl) dX10_isFit_51 ⟨Nat.zero_le _, Nat.zero_le _⟩) hP hD hS hA [] [0, 1] rfl rfl rfl (by decide) rfl (fun H locs hP hD hS => ?_)
          refine lv_aload_n hx hb dX10_isFit_54 rfl (lv_at hl 0 rfl) ?_
          refine va_get (D := D) (ci := 9) (C := RX10) (T := TX10) (N := 20) hx hb hts (fun _ hw => (List.mem_cons_of_mem _ (List.mem_append_right _ hw))) hown hE.1 hP 0 rfl rfl 7 (by decide) (hts (.fieldLink RX10 25 "GlobeCrownModel" "sight" "[I") (List.mem_cons_of_mem _ (List.mem_append_left _ (List.mem_of_getElem? (i := 1) rfl)))) (fun _ h9 => h9) rfl dX10_isFit_55 ?_
          refine lv_iconst (v := 2) hx hb dX10_isFit_58 (by decide) ?_
          refine lv_iload_n hx hb dX10_isFit_59 rfl (lv_at hl 3 rfl) ?_
          refine lv_imul hx hb dX10_isFit_60 ?_
          refine lv_iconst (v := 1) hx hb dX10_isFit_61 (by decide) ?_
          refine lv_iadd hx hb dX10_isFit_62 ?_
          obtain ⟨hg, h⟩ := gin_some h
          refine va_iald hx hb hE.1 hP 1 0 rfl rfl hg dX10_isFit_63 ?_
          refine lv_icmp_ne (tgt := 71) hx hb dX10_isFit_64 (by decide) (fun hc => ?_) (fun hc => ?_)
          · have h := if_f hc h
            refine lv_iconst (v := 0) hx hb dX10_isFit_71 (by decide) ?_
            refine lv_istore_n (lv' := [(2, .int (0 : Int32)), (0, .ref qt), (1, .int p1), (3, .int x3)]) hx hb dX10_isFit_72 rfl hl (by decide) rfl (fun ls hl => ?_)
            refine lv_iinc (v := (x3 + (1 : Int32))) (lv' := [(3, .int (x3 + (1 : Int32))), (2, .int (0 : Int32)), (0, .ref qt), (1, .int p1)]) hx hb dX10_isFit_73 hl (k := 3) rfl rfl (by decide) rfl (fun ls hl => ?_)
            refine lv_goto (tgt := 30) hx hb dX10_isFit_76 (by decide) ?_
            exact ih30 (0 : Int32) (x3 + (1 : Int32)) H locs ls hP hD hS (lv_sub hl [2, 3, 1, 0] rfl) h
          · have h := if_t hc h
            refine lv_iconst (v := 1) hx hb dX10_isFit_67 (by decide) ?_
            refine lv_goto (tgt := 72) hx hb dX10_isFit_68 (by decide) ?_
            refine lv_istore_n (lv' := [(2, .int (1 : Int32)), (0, .ref qt), (1, .int p1), (3, .int x3)]) hx hb dX10_isFit_72 rfl hl (by decide) rfl (fun ls hl => ?_)
            refine lv_iinc (v := (x3 + (1 : Int32))) (lv' := [(3, .int (x3 + (1 : Int32))), (2, .int (1 : Int32)), (0, .ref qt), (1, .int p1)]) hx hb dX10_isFit_73 hl (k := 3) rfl rfl (by decide) rfl (fun ls hl => ?_)
            refine lv_goto (tgt := 30) hx hb dX10_isFit_76 (by decide) ?_
            exact ih30 (1 : Int32) (x3 + (1 : Int32)) H locs ls hP hD hS (lv_sub hl [2, 3, 1, 0] rfl) h
  have h := hf
  unfold f_X10_isFit at h
  refine gw_start hP hD hS (fun H locs hP hD hS => ?_)
  refine lv_iload_n hx hb dX10_isFit_0 rfl (lv_at hl 1 rfl) ?_
  refine lv_bipush (v := 100) hx hb dX10_isFit_1 (by decide) ?_
  refine lv_idiv hx hb dX10_isFit_3 (by decide) ?_
  refine lv_iconst (v := 1) hx hb dX10_isFit_4 (by decide) ?_
  refine lv_bipush (v := 9) hx hb dX10_isFit_5 (by decide) ?_
  obtain ⟨r7, hc7, h⟩ := bd1_some h
  refine gw_ci (wr := [(qt, .inr (9, [.ref qt_book, .ref qt_now, .ref qt_flakes, .ref qt_leaks, .int v_music, .ref qt_ranks, .int v_sights, .ref qt_sight, .int v_signs, .ref qt_pad, .int v_freeAt, .int v_freeWho, .int v_reason, .int v_acts, .ref qt_gets, .ref qt_counts, .ref qt_worth, .ref qt_ways, .ref qt_image, .ref qt_isKept])), (qt_sight, .inl (cI, 16, .inl v_sight))]) (w2 := [(qt, .inr (9, [.ref qt_book, .ref qt_now, .ref qt_flakes, .ref qt_leaks, .int v_music, .ref qt_ranks, .int v_sights, .ref qt_sight, .int v_signs, .ref qt_pad, .int v_freeAt, .int v_freeWho, .int v_reason, .int v_acts, .ref qt_gets, .ref qt_counts, .ref qt_worth, .ref qt_ways, .ref qt_image, .ref qt_isKept])), (qt_sight, .inl (cI, 16, .inl v_sight))]) (gw_rS (n := 3) ⟨hx, hb, hml, hown, hts⟩ (C_X10_in l D cI cJ cZ H.size (p1 / (100 : Int32)) (1 : Int32) (9 : Int32) r7 hc7) gX10_isFit_X10_in rfl rfl rfl hdS_X10_in ⟨Nat.le_of_ble_eq_true rfl, Nat.le_of_ble_eq_true rfl⟩ hE (hP.sub [] rfl) (hD.sub [] (by decide) rfl) rfl hl.1 (rest := []) rfl (Nat.le_of_ble_eq_true rfl) dX10_isFit_7 ⟨Nat.zero_le _, Nat.zero_le _⟩) hP hD hS hA [] [0, 1] rfl rfl rfl (by decide) rfl (fun H locs hP hD hS => ?_)
  refine lv_if_eq (tgt := 26) hx hb dX10_isFit_10 (by decide) (fun hc => ?_) (fun hc => ?_)
  · have h := if_t hc h
    refine lv_iconst (v := 0) hx hb dX10_isFit_26 (by decide) ?_
    refine lv_istore_n (lv' := [(2, .int (0 : Int32)), (0, .ref qt), (1, .int p1)]) hx hb dX10_isFit_27 rfl hl (by decide) rfl (fun ls hl => ?_)
    refine lv_iconst (v := 0) hx hb dX10_isFit_28 (by decide) ?_
    refine lv_istore_n (lv' := [(3, .int (0 : Int32)), (2, .int (0 : Int32)), (0, .ref qt), (1, .int p1)]) hx hb dX10_isFit_29 rfl hl (by decide) rfl (fun ls hl => ?_)
    exact hL30 FU (0 : Int32) (0 : Int32) H locs ls hP hD hS (lv_sub hl [2, 3, 1, 0] rfl) h
  · have h := if_f hc h
    refine lv_iload_n hx hb dX10_isFit_13 rfl (lv_at hl 1 rfl) ?_
    refine lv_bipush (v := 100) hx hb dX10_isFit_14 (by decide) ?_
    refine gw_irem hx hb dX10_isFit_16 (by decide) ?_
    refine lv_bipush (v := 21) hx hb dX10_isFit_17 (by decide) ?_
    refine lv_icmp_ge (tgt := 26) hx hb dX10_isFit_19 (by decide) (fun hc => ?_) (fun hc => ?_)
    · have h := if_t hc h
      refine lv_iconst (v := 0) hx hb dX10_isFit_26 (by decide) ?_
      refine lv_istore_n (lv' := [(2, .int (0 : Int32)), (0, .ref qt), (1, .int p1)]) hx hb dX10_isFit_27 rfl hl (by decide) rfl (fun ls hl => ?_)
      refine lv_iconst (v := 0) hx hb dX10_isFit_28 (by decide) ?_
      refine lv_istore_n (lv' := [(3, .int (0 : Int32)), (2, .int (0 : Int32)), (0, .ref qt), (1, .int p1)]) hx hb dX10_isFit_29 rfl hl (by decide) rfl (fun ls hl => ?_)
      exact hL30 FU (0 : Int32) (0 : Int32) H locs ls hP hD hS (lv_sub hl [2, 3, 1, 0] rfl) h
    · have h := if_f hc h
      refine lv_iconst (v := 1) hx hb dX10_isFit_22 (by decide) ?_
      refine lv_goto (tgt := 27) hx hb dX10_isFit_23 (by decide) ?_
      refine lv_istore_n (lv' := [(2, .int (1 : Int32)), (0, .ref qt), (1, .int p1)]) hx hb dX10_isFit_27 rfl hl (by decide) rfl (fun ls hl => ?_)
      refine lv_iconst (v := 0) hx hb dX10_isFit_28 (by decide) ?_
      refine lv_istore_n (lv' := [(3, .int (0 : Int32)), (2, .int (1 : Int32)), (0, .ref qt), (1, .int p1)]) hx hb dX10_isFit_29 rfl hl (by decide) rfl (fun ls hl => ?_)
      exact hL30 FU (1 : Int32) (0 : Int32) H locs ls hP hD hS (lv_sub hl [2, 3, 1, 0] rfl) h
theorem hdV_X10_isFit : yX10_isFit.cls = RX10 ∧ yX10_isFit.cls ≠ "java/lang/invoke/MethodHandle" ∧ yX10_isFit.cls ≠ "java/lang/invoke/VarHandle" ∧ (parseMethodDescriptor yX10_isFit.desc).map (fun d => d.parameters.length) = some 1 := by decide +kernel
def L_X10_who_5 (v_sights : Int32) (v_sight : (Nat → Int32)) (p1 : Int32) : Nat → Int32 → Int32 → Option (Int32)
  | 0, _, _ => none
  | n + 1, x2, x3 => (if (1000 : Int32) ≤ x3 then (if p1 = (-1 : Int32) then (some x2) else (some (-6 : Int32))) else (bd1 (f_X10_isFit v_sights v_sight x3) (fun r14 => (if r14 = (0 : Int32) then ((L_X10_who_5 v_sights v_sight p1 n) x2 (x3 + (1 : Int32))) else (if x2 = p1 then (some x3) else ((L_X10_who_5 v_sights v_sight p1 n) (x2 + (1 : Int32)) (x3 + (1 : Int32))))))))
def f_X10_who (v_sights : Int32) (v_sight : (Nat → Int32)) (p1 : Int32) : Option (Int32) := (L_X10_who_5 v_sights v_sight p1 FU (0 : Int32) (100 : Int32))
abbrev rm_X10_who : Room := { frames := 2, cells := 0, slots := 0, locals := 46 }
set_option maxHeartbeats 4000000 in
set_option maxRecDepth 100000 in
theorem C_X10_who (l : Launch) (D : va_G) (cI cJ cZ : ClassId) (sz : Nat) (qt qt_book qt_now qt_flakes qt_leaks qt_ranks qt_sight qt_pad qt_gets qt_counts qt_worth qt_ways qt_image qt_isKept : Nat) (v_music : Int32) (v_sights : Int32) (v_sight : (Nat → Int32)) (v_signs : Int32) (v_freeAt : Int32) (v_freeWho : Int32) (v_reason : Int32) (v_acts : Int32) (p1 : Int32) (r : Int32) (hf : f_X10_who v_sights v_sight p1 = some r) : Met l yX10_who wsX10_who rm_X10_who (PR D cI cJ cZ [(qt, .inr (9, [.ref qt_book, .ref qt_now, .ref qt_flakes, .ref qt_leaks, .int v_music, .ref qt_ranks, .int v_sights, .ref qt_sight, .int v_signs, .ref qt_pad, .int v_freeAt, .int v_freeWho, .int v_reason, .int v_acts, .ref qt_gets, .ref qt_counts, .ref qt_worth, .ref qt_ways, .ref qt_image, .ref qt_isKept])), (qt_sight, .inl (cI, 16, .inl v_sight))] sz [.ref qt, .int p1]) (QI D (va_A [(qt, .inr (9, [.ref qt_book, .ref qt_now, .ref qt_flakes, .ref qt_leaks, .int v_music, .ref qt_ranks, .int v_sights, .ref qt_sight, .int v_signs, .ref qt_pad, .int v_freeAt, .int v_freeWho, .int v_reason, .int v_acts, .ref qt_gets, .ref qt_counts, .ref qt_worth, .ref qt_ways, .ref qt_image, .ref qt_isKept])), (qt_sight, .inl (cI, 16, .inl v_sight))] sz) r [(qt, .inr (9, [.ref qt_book, .ref qt_now, .ref qt_flakes, .ref qt_leaks, .int v_music, .ref qt_ranks, .int v_sights, .ref qt_sight, .int v_signs, .ref qt_pad, .int v_freeAt, .int v_freeWho, .int v_reason, .int v_acts, .ref qt_gets, .ref qt_counts, .ref qt_worth, .ref qt_ways, .ref qt_image, .ref qt_isKept])), (qt_sight, .inl (cI, 16, .inl v_sight))]) 0 0 (va_A [(qt, .inr (9, [.ref qt_book, .ref qt_now, .ref qt_flakes, .ref qt_leaks, .int v_music, .ref qt_ranks, .int v_sights, .ref qt_sight, .int v_signs, .ref qt_pad, .int v_freeAt, .int v_freeWho, .int v_reason, .int v_acts, .ref qt_gets, .ref qt_counts, .ref qt_worth, .ref qt_ways, .ref qt_image, .ref qt_isKept])), (qt_sight, .inl (cI, 16, .inl v_sight))] sz) := by
  refine Met.ofW (cc := cX10_who) (maxL := 4) (ret := (some .int)) (by decide) rfl ?_
  intro p e s m args below meth c s₁ B hml hv
  obtain ⟨hav, hsz, hP, hD0, hE⟩ := hv
  have hx := B.exec
  have hb := B.bytes
  have hr := B.returns
  have hts := atoms_spec (ws := wsX10_who) B.pre
  have hown : s.vm.findClass RX10 = some m.cls := findClass_of_methodNamed B.named
  have hlocks := B.notSynchronized
  subst hsz
  have hD := hD0.self (sz := s.heap.size)
  generalize hAe : va_A [(qt, .inr (9, [.ref qt_book, .ref qt_now, .ref qt_flakes, .ref qt_leaks, .int v_music, .ref qt_ranks, .int v_sights, .ref qt_sight, .int v_signs, .ref qt_pad, .int v_freeAt, .int v_freeWho, .int v_reason, .int v_acts, .ref qt_gets, .ref qt_counts, .ref qt_worth, .ref qt_ways, .ref qt_image, .ref qt_isKept])), (qt_sight, .inl (cI, 16, .inl v_sight))] s.heap.size = A at hD ⊢
  have hA : ∀ q : Nat, s.heap.size ≤ q → A q := fun q h => by rw [← hAe]; exact Or.inr h
  have hS : va_S A s.heap s.heap [] := va_S.rf
  have hl := lv_entry ([.ref qt, .int p1]) (n := 4) (Nat.le_of_ble_eq_true rfl)
  have hfr : entryFrame m args 4 = entryFrame m ([.ref qt, .int p1] : List Value).toArray 4 := by rw [hav]
  rw [hfr, lg_entry_eq]
  generalize (lg_sl ([.ref qt, .int p1]) ++ List.replicate (4 - (lg_sl ([.ref qt, .int p1])).length) Slot.unset).toArray = ls at hl ⊢
  have hl : lv_has ls 4 [(0, .ref qt), (1, .int p1)] := hl
  obtain ⟨QQ, hQQ⟩ : ∃ QQ, QQ = MQ below (QI D A r [(qt, .inr (9, [.ref qt_book, .ref qt_now, .ref qt_flakes, .ref qt_leaks, .int v_music, .ref qt_ranks, .int v_sights, .ref qt_sight, .int v_signs, .ref qt_pad, .int v_freeAt, .int v_freeWho, .int v_reason, .int v_acts, .ref qt_gets, .ref qt_counts, .ref qt_worth, .ref qt_ways, .ref qt_image, .ref qt_isKept])), (qt_sight, .inl (cI, 16, .inl v_sight))]) args s 0 0 A := ⟨_, rfl⟩
  show W p l e rm_X10_who s m args below meth c s.heap [] 0 0 _ _
  rw [← hQQ]
  have hL5 : ∀ (n5 : Nat), ∀ (x2 : Int32) (x3 : Int32) (H : Heap) (locs : List Loc) (ls : Array Slot), va_P D vwCl [(qt, .inr (9, [.ref qt_book, .ref qt_now, .ref qt_flakes, .ref qt_leaks, .int v_music, .ref qt_ranks, .int v_sights, .ref qt_sight, .int v_signs, .ref qt_pad, .int v_freeAt, .int v_freeWho, .int v_reason, .int v_acts, .ref qt_gets, .ref qt_counts, .ref qt_worth, .ref qt_ways, .ref qt_image, .ref qt_isKept])), (qt_sight, .inl (cI, 16, .inl v_sight))] H → va_D A [(qt, .inr (9, [.ref qt_book, .ref qt_now, .ref qt_flakes, .ref qt_leaks, .int v_music, .ref qt_ranks, .int v_sights, .ref qt_sight, .int v_signs, .ref qt_pad, .int v_freeAt, .int v_freeWho, .int v_reason, .int v_acts, .ref qt_gets, .ref qt_counts, .ref qt_worth, .ref qt_ways, .ref qt_image, .ref qt_isKept])), (qt_sight, .inl (cI, 16, .inl v_sight))] → va_S A s.heap H locs → lv_has ls 4 [(0, .ref qt), (1, .int p1), (2, .int x2), (3, .int x3)] → L_X10_who_5 v_sights v_sight p1 n5 x2 x3 = some r → W p l e rm_X10_who s m args below meth c H locs 0 0 QQ (F0 m 5 ls []) := by
    intro n5
    induction n5 with
    | zero =>
      intro x2 x3 H locs ls hP hD hS hl h
      have h : none = some r := h
      cases h
    | succ n5 ih5 =>
      intro x2 x3 H locs ls hP hD hS hl h
      rw [L_X10_who_5.eq_2] at h
      refine lv_iload_n hx hb dX10_who_5 rfl (lv_at hl 3 rfl) ?_
      refine lv_sipush (v := 1000) hx hb dX10_who_6 (by decide) ?_
      refine lv_icmp_ge (tgt := 36) hx hb dX10_who_9 (by decide) (fun hc => ?_) (fun hc => ?_)
      · have h := if_t hc h
        refine lv_iload_n hx hb dX10_who_36 rfl (lv_at hl 1 rfl) ?_
        refine lv_iconst (v := -1) hx hb dX10_who_37 (by decide) ?_
        refine lv_icmp_ne (tgt := 45) hx hb dX10_who_38 (by decide) (fun hc => ?_) (fun hc => ?_)
        · have h := if_f hc h
          refine lv_bipush (v := -6) hx hb dX10_who_45 (by decide) ?_
          cases h
          rw [hQQ]
          exact gw_iret hx hb hr hlocks hP hD hS dX10_who_47
        · have h := if_t hc h
          refine lv_iload_n hx hb dX10_who_41 rfl (lv_at hl 2 rfl) ?_
          refine lv_goto (tgt := 47) hx hb dX10_who_42 (by decide) ?_
          cases h
          rw [hQQ]
          exact gw_iret hx hb hr hlocks hP hD hS dX10_who_47
      · have h := if_f hc h
        refine lv_aload_n hx hb dX10_who_12 rfl (lv_at hl 0 rfl) ?_
        refine lv_iload_n hx hb dX10_who_13 rfl (lv_at hl 3 rfl) ?_
        obtain ⟨r14, hc14, h⟩ := bd1_some h
        refine gw_ci (wr := []) (w2 := [(qt, .inr (9, [.ref qt_book, .ref qt_now, .ref qt_flakes, .ref qt_leaks, .int v_music, .ref qt_ranks, .int v_sights, .ref qt_sight, .int v_signs, .ref qt_pad, .int v_freeAt, .int v_freeWho, .int v_reason, .int v_acts, .ref qt_gets, .ref qt_counts, .ref qt_worth, .ref qt_ways, .ref qt_image, .ref qt_isKept])), (qt_sight, .inl (cI, 16, .inl v_sight))]) (gw_rV (n := 1) ⟨hx, hb, hml, hown, hts⟩ (C_X10_isFit l D cI cJ cZ H.size qt qt_book qt_now qt_flakes qt_leaks qt_ranks qt_sight qt_pad qt_gets qt_counts qt_worth qt_ways qt_image qt_isKept v_music v_sights v_sight v_signs v_freeAt v_freeWho v_reason v_acts x3 r14 hc14) gX10_who_X10_isFit rfl rfl rfl hdV_X10_isFit ⟨Nat.le_of_ble_eq_true rfl, Nat.le_of_ble_eq_true rfl⟩ hE (hP.sub [0, 1] rfl) (hD.sub [0, 1] (by decide) rfl) 9 rfl 0 rfl rfl hl.1 (rest := []) rfl (Nat.le_of_ble_eq_true rfl) dX10_who_14 ⟨Nat.zero_le _, Nat.zero_le _⟩) hP hD hS hA [0, 1] [] rfl rfl rfl (by decide) rfl (fun H locs hP hD hS => ?_)
        refine lv_if_eq (tgt := 30) hx hb dX10_who_17 (by decide) (fun hc => ?_) (fun hc => ?_)
        · have h := if_t hc h
          refine lv_iinc (v := (x3 + (1 : Int32))) (lv' := [(3, .int (x3 + (1 : Int32))), (0, .ref qt), (1, .int p1), (2, .int x2)]) hx hb dX10_who_30 hl (k := 3) rfl rfl (by decide) rfl (fun ls hl => ?_)
          refine lv_goto (tgt := 5) hx hb dX10_who_33 (by decide) ?_
          exact ih5 x2 (x3 + (1 : Int32)) H locs ls hP hD hS (lv_sub hl [1, 2, 3, 0] rfl) h
        · have h := if_f hc h
          refine lv_iload_n hx hb dX10_who_20 rfl (lv_at hl 2 rfl) ?_
          refine lv_iload_n hx hb dX10_who_21 rfl (lv_at hl 1 rfl) ?_
          refine lv_icmp_ne (tgt := 27) hx hb dX10_who_22 (by decide) (fun hc => ?_) (fun hc => ?_)
          · have h := if_f hc h
            refine lv_iinc (v := (x2 + (1 : Int32))) (lv' := [(2, .int (x2 + (1 : Int32))), (0, .ref qt), (1, .int p1), (3, .int x3)]) hx hb dX10_who_27 hl (k := 2) rfl rfl (by decide) rfl (fun ls hl => ?_)
            refine lv_iinc (v := (x3 + (1 : Int32))) (lv' := [(3, .int (x3 + (1 : Int32))), (2, .int (x2 + (1 : Int32))), (0, .ref qt), (1, .int p1)]) hx hb dX10_who_30 hl (k := 3) rfl rfl (by decide) rfl (fun ls hl => ?_)
            refine lv_goto (tgt := 5) hx hb dX10_who_33 (by decide) ?_
            exact ih5 (x2 + (1 : Int32)) (x3 + (1 : Int32)) H locs ls hP hD hS (lv_sub hl [2, 3, 1, 0] rfl) h
          · have h := if_t hc h
            refine lv_iload_n hx hb dX10_who_25 rfl (lv_at hl 3 rfl) ?_
            cases h
            rw [hQQ]
            exact gw_iret hx hb hr hlocks hP hD hS dX10_who_26
  have h := hf
  unfold f_X10_who at h
  refine gw_start hP hD hS (fun H locs hP hD hS => ?_)
  refine lv_iconst (v := 0) hx hb dX10_who_0 (by decide) ?_
  refine lv_istore_n (lv' := [(2, .int (0 : Int32)), (0, .ref qt), (1, .int p1)]) hx hb dX10_who_1 rfl hl (by decide) rfl (fun ls hl => ?_)
  refine lv_bipush (v := 100) hx hb dX10_who_2 (by decide) ?_
  refine lv_istore_n (lv' := [(3, .int (100 : Int32)), (2, .int (0 : Int32)), (0, .ref qt), (1, .int p1)]) hx hb dX10_who_4 rfl hl (by decide) rfl (fun ls hl => ?_)
  exact hL5 FU (0 : Int32) (100 : Int32) H locs ls hP hD hS (lv_sub hl [2, 3, 1, 0] rfl) h
theorem hdV_X10_who : yX10_who.cls = RX10 ∧ yX10_who.cls ≠ "java/lang/invoke/MethodHandle" ∧ yX10_who.cls ≠ "java/lang/invoke/VarHandle" ∧ (parseMethodDescriptor yX10_who.desc).map (fun d => d.parameters.length) = some 1 := by decide +kernel
