def f_X10_behind (v_book : (Nat → Int32)) (v_now : (Nat → Int32)) (v_flakes : (Nat → Int32)) (v_leaks : (Nat → Int32)) (v_music : Int32) (v_signs : Int32) (v_pad : (Nat → Int32)) (v_freeAt : Int32) (v_freeWho : Int32) (v_reason : Int32) (v_acts : Int32) (p1 : Int32) (p2 : Int32) : Option (Int32 × (Nat → Int32) × Int32 × Int32 × Int32 × Int32) := (bd1 (f_X10_isThere v_book p1) (fun r2 => (if r2 = (0 : Int32) then (some ((-1 : Int32), v_now, v_freeAt, v_freeWho, v_reason, v_acts)) else (bd1 (f_X10_in p2 (0 : Int32) (3 : Int32)) (fun r13 => (if r13 = (0 : Int32) then (some ((-2 : Int32), v_now, v_freeAt, v_freeWho, v_reason, v_acts)) else (bd6 (f_X10_barOfReigns v_book v_now v_flakes v_leaks v_music v_signs v_pad v_freeAt v_freeWho v_reason v_acts) (fun r23 u23v_now u23v_freeAt u23v_freeWho u23v_reason u23v_acts => (if (0 : Int32) ≤ r23 then (bd1 (f_X10_stands u23v_now p1) (fun r34 => (if r34 = (0 : Int32) then (some ((-6 : Int32), u23v_now, u23v_freeAt, u23v_freeWho, u23v_reason, u23v_acts)) else (if p2 = (0 : Int32) then (gin ((8 : Int32) + p1) 43 (some ((u23v_now (Int32.toNatClampNeg ((8 : Int32) + p1))), u23v_now, u23v_freeAt, u23v_freeWho, u23v_reason, u23v_acts))) else (if p2 = (1 : Int32) then (gin p1 43 (some ((u23v_now (Int32.toNatClampNeg p1)), u23v_now, u23v_freeAt, u23v_freeWho, u23v_reason, u23v_acts))) else (gin (((8 : Int32) * p2) + p1) 43 (some ((u23v_now (Int32.toNatClampNeg (((8 : Int32) * p2) + p1))), u23v_now, u23v_freeAt, u23v_freeWho, u23v_reason, u23v_acts)))))))) else (some ((-5 : Int32), u23v_now, u23v_freeAt, u23v_freeWho, u23v_reason, u23v_acts)))))))))))
abbrev rm_X10_behind : Room := { frames := 6, cells := 0, slots := 0, locals := 134 }
set_option maxHeartbeats 4000000 in
set_option maxRecDepth 100000 in
theorem C_X10_behind (l : Launch) (D : va_G) (cI cJ cZ : ClassId) (sz : Nat) (qt qt_book qt_now qt_flakes qt_leaks qt_ranks qt_sight qt_pad qt_gets qt_counts qt_worth qt_ways qt_image qt_isKept : Nat) (v_book : (Nat → Int32)) (v_now : (Nat → Int32)) (v_flakes : (Nat → Int32)) (v_leaks : (Nat → Int32)) (v_music : Int32) (v_sights : Int32) (v_signs : Int32) (v_pad : (Nat → Int32)) (v_freeAt : Int32) (v_freeWho : Int32) (v_reason : Int32) (v_acts : Int32) (p1 : Int32) (p2 : Int32) (r : Int32) (w_now : (Nat → Int32)) (w_freeAt : Int32) (w_freeWho : Int32) (w_reason : Int32) (w_acts : Int32) (hf : f_X10_behind v_book v_now v_flakes v_leaks v_music v_signs v_pad v_freeAt v_freeWho v_reason v_acts p1 p2 = some (r, w_now, w_freeAt, w_freeWho, w_reason, w_acts)) : Met l yX10_behind wsX10_behind rm_X10_behind (PR D cI cJ cZ [(qt, .inr (9, [.ref qt_book, .ref qt_now, .ref qt_flakes, .ref qt_leaks, .int v_music, .ref qt_ranks, .int v_sights, .ref qt_sight, .int v_signs, .ref qt_pad, .int v_freeAt, .int v_freeWho, .int v_reason, .int v_acts, .ref qt_gets, .ref qt_counts, .ref qt_worth, .ref qt_ways, .ref qt_image, .ref qt_isKept])), (qt_book, .inl (cI, 43, .inl v_book)), (qt_now, .inl (cI, 43, .inl v_now)), (qt_flakes, .inl (cI, 8, .inl v_flakes)), (qt_leaks, .inl (cI, 8, .inl v_leaks)), (qt_pad, .inl (cI, 60, .inl v_pad))] sz [.ref qt, .int p1, .int p2]) (QI D (va_A [(qt, .inr (9, [.ref qt_book, .ref qt_now, .ref qt_flakes, .ref qt_leaks, .int v_music, .ref qt_ranks, .int v_sights, .ref qt_sight, .int v_signs, .ref qt_pad, .int v_freeAt, .int v_freeWho, .int v_reason, .int v_acts, .ref qt_gets, .ref qt_counts, .ref qt_worth, .ref qt_ways, .ref qt_image, .ref qt_isKept])), (qt_book, .inl (cI, 43, .inl v_book)), (qt_now, .inl (cI, 43, .inl v_now)), (qt_flakes, .inl (cI, 8, .inl v_flakes)), (qt_leaks, .inl (cI, 8, .inl v_leaks)), (qt_pad, .inl (cI, 60, .inl v_pad))] sz) r [(qt, .inr (9, [.ref qt_book, .ref qt_now, .ref qt_flakes, .ref qt_leaks, .int v_music, .ref qt_ranks, .int v_sights, .ref qt_sight, .int v_signs, .ref qt_pad, .int w_freeAt, .int w_freeWho, .int w_reason, .int w_acts, .ref qt_gets, .ref qt_counts, .ref qt_worth, .ref qt_ways, .ref qt_image, .ref qt_isKept])), (qt_book, .inl (cI, 43, .inl v_book)), (qt_now, .inl (cI, 43, .inl w_now)), (qt_flakes, .inl (cI, 8, .inl v_flakes)), (qt_leaks, .inl (cI, 8, .inl v_leaks)), (qt_pad, .inl (cI, 60, .inl v_pad))]) 0 0 (va_A [(qt, .inr (9, [.ref qt_book, .ref qt_now, .ref qt_flakes, .ref qt_leaks, .int v_music, .ref qt_ranks, .int v_sights, .ref qt_sight, .int v_signs, .ref qt_pad, .int v_freeAt, .int v_freeWho, .int v_reason, .int v_acts, .ref qt_gets, .ref qt_counts, .ref qt_worth, .ref qt_ways, .ref qt_image, .ref qt_isKept])), (qt_book, .inl (cI, 43, .inl v_book)), (qt_now, .inl (cI, 43, .inl v_now)), (qt_flakes, .inl (cI, 8, .inl v_flakes)), (qt_leaks, .inl (cI, 8, .inl v_leaks)), (qt_pad, .inl (cI, 60, .inl v_pad))] sz) := by
  refine Met.ofW (cc := cX10_behind) (maxL := 3) (ret := (some .int)) (by decide) rfl ?_
  intro p e s m args below meth c s₁ B hml hv
  obtain ⟨hav, hsz, hP, hD0, hE⟩ := hv
  have hx := B.exec
  have hb := B.bytes
  have hr := B.returns
  have hts := atoms_spec (ws := wsX10_behind) B.pre
  have hown : s.vm.findClass RX10 = some m.cls := findClass_of_methodNamed B.named
  have hlocks := B.notSynchronized
  subst hsz
  have hD := hD0.self (sz := s.heap.size)
  generalize hAe : va_A [(qt, .inr (9, [.ref qt_book, .ref qt_now, .ref qt_flakes, .ref qt_leaks, .int v_music, .ref qt_ranks, .int v_sights, .ref qt_sight, .int v_signs, .ref qt_pad, .int v_freeAt, .int v_freeWho, .int v_reason, .int v_acts, .ref qt_gets, .ref qt_counts, .ref qt_worth, .ref qt_ways, .ref qt_image, .ref qt_isKept])), (qt_book, .inl (cI, 43, .inl v_book)), (qt_now, .inl (cI, 43, .inl v_now)), (qt_flakes, .inl (cI, 8, .inl v_flakes)), (qt_leaks, .inl (cI, 8, .inl v_leaks)), (qt_pad, .inl (cI, 60, .inl v_pad))] s.heap.size = A at hD ⊢
  have hA : ∀ q : Nat, s.heap.size ≤ q → A q := fun q h => by rw [← hAe]; exact Or.inr h
  have hS : va_S A s.heap s.heap [] := va_S.rf
  have hl := lv_entry ([.ref qt, .int p1, .int p2]) (n := 3) (Nat.le_of_ble_eq_true rfl)
  have hfr : entryFrame m args 3 = entryFrame m ([.ref qt, .int p1, .int p2] : List Value).toArray 3 := by rw [hav]
  rw [hfr, lg_entry_eq]
  generalize (lg_sl ([.ref qt, .int p1, .int p2]) ++ List.replicate (3 - (lg_sl ([.ref qt, .int p1, .int p2])).length) Slot.unset).toArray = ls at hl ⊢
  have hl : lv_has ls 3 [(0, .ref qt), (1, .int p1), (2, .int p2)] := hl
  obtain ⟨QQ, hQQ⟩ : ∃ QQ, QQ = MQ below (QI D A r [(qt, .inr (9, [.ref qt_book, .ref qt_now, .ref qt_flakes, .ref qt_leaks, .int v_music, .ref qt_ranks, .int v_sights, .ref qt_sight, .int v_signs, .ref qt_pad, .int w_freeAt, .int w_freeWho, .int w_reason, .int w_acts, .ref qt_gets, .ref qt_counts, .ref qt_worth, .ref qt_ways, .ref qt_image, .ref qt_isKept])), (qt_book, .inl (cI, 43, .inl v_book)), (qt_now, .inl (cI, 43, .inl w_now)), (qt_flakes, .inl (cI, 8, .inl v_flakes)), (qt_leaks, .inl (cI, 8, .inl v_leaks)), (qt_pad, .inl (cI, 60, .inl v_pad))]) args s 0 0 A := ⟨_, rfl⟩
  show W p l e rm_X10_behind s m args below meth c s.heap [] 0 0 _ _
  rw [← hQQ]
  have h := hf
  unfold f_X10_behind at h
  refine gw_start hP hD hS (fun H locs hP hD hS => ?_)
  refine lv_aload_n hx hb dX10_behind_0 rfl (lv_at hl 0 rfl) ?_
  refine lv_iload_n hx hb dX10_behind_1 rfl (lv_at hl 1 rfl) ?_
  obtain ⟨r2, hc2, h⟩ := bd1_some h
  refine gw_ci (wr := [(qt_now, .inl (cI, 43, .inl v_now)), (qt_flakes, .inl (cI, 8, .inl v_flakes)), (qt_leaks, .inl (cI, 8, .inl v_leaks)), (qt_pad, .inl (cI, 60, .inl v_pad))]) (w2 := [(qt_now, .inl (cI, 43, .inl v_now)), (qt_flakes, .inl (cI, 8, .inl v_flakes)), (qt_leaks, .inl (cI, 8, .inl v_leaks)), (qt_pad, .inl (cI, 60, .inl v_pad)), (qt, .inr (9, [.ref qt_book, .ref qt_now, .ref qt_flakes, .ref qt_leaks, .int v_music, .ref qt_ranks, .int v_sights, .ref qt_sight, .int v_signs, .ref qt_pad, .int v_freeAt, .int v_freeWho, .int v_reason, .int v_acts, .ref qt_gets, .ref qt_counts, .ref qt_worth, .ref qt_ways, .ref qt_image, .ref qt_isKept])), (qt_book, .inl (cI, 43, .inl v_book))]) (gw_rV (n := 1) ⟨hx, hb, hml, hown, hts⟩ (C_X10_isThere l D cI cJ cZ H.size qt qt_book qt_now qt_flakes qt_leaks qt_ranks qt_sight qt_pad qt_gets qt_counts qt_worth qt_ways qt_image qt_isKept v_book v_music v_sights v_signs v_freeAt v_freeWho v_reason v_acts p1 r2 hc2) gX10_behind_X10_isThere rfl rfl rfl hdV_X10_isThere ⟨Nat.le_of_ble_eq_true rfl, Nat.le_of_ble_eq_true rfl⟩ hE (hP.sub [0, 1] rfl) (hD.sub [0, 1] (by decide) rfl) 9 rfl 0 rfl rfl hl.1 (rest := []) rfl (Nat.le_of_ble_eq_true rfl) dX10_behind_2 ⟨Nat.zero_le _, Nat.zero_le _⟩) hP hD hS hA [0, 1] [2, 3, 4, 5] rfl rfl rfl (by decide) rfl (fun H locs hP hD hS => ?_)
  refine lv_if_ne (tgt := 10) hx hb dX10_behind_5 (by decide) (fun hc => ?_) (fun hc => ?_)
  · have h := if_f hc h
    refine lv_iload_n hx hb dX10_behind_10 rfl (lv_at hl 2 rfl) ?_
    refine lv_iconst (v := 0) hx hb dX10_behind_11 (by decide) ?_
    refine lv_iconst (v := 3) hx hb dX10_behind_12 (by decide) ?_
    obtain ⟨r13, hc13, h⟩ := bd1_some h
    refine gw_ci (wr := [(qt_now, .inl (cI, 43, .inl v_now)), (qt_flakes, .inl (cI, 8, .inl v_flakes)), (qt_leaks, .inl (cI, 8, .inl v_leaks)), (qt_pad, .inl (cI, 60, .inl v_pad)), (qt, .inr (9, [.ref qt_book, .ref qt_now, .ref qt_flakes, .ref qt_leaks, .int v_music, .ref qt_ranks, .int v_sights, .ref qt_sight, .int v_signs, .ref qt_pad, .int v_freeAt, .int v_freeWho, .int v_reason, .int v_acts, .ref qt_gets, .ref qt_counts, .ref qt_worth, .ref qt_ways, .ref qt_image, .ref qt_isKept])), (qt_book, .inl (cI, 43, .inl v_book))]) (w2 := [(qt_now, .inl (cI, 43, .inl v_now)), (qt_flakes, .inl (cI, 8, .inl v_flakes)), (qt_leaks, .inl (cI, 8, .inl v_leaks)), (qt_pad, .inl (cI, 60, .inl v_pad)), (qt, .inr (9, [.ref qt_book, .ref qt_now, .ref qt_flakes, .ref qt_leaks, .int v_music, .ref qt_ranks, .int v_sights, .ref qt_sight, .int v_signs, .ref qt_pad, .int v_freeAt, .int v_freeWho, .int v_reason, .int v_acts, .ref qt_gets, .ref qt_counts, .ref qt_worth, .ref qt_ways, .ref qt_image, .ref qt_isKept])), (qt_book, .inl (cI, 43, .inl v_book))]) (gw_rS (n := 3) ⟨hx, hb, hml, hown, hts⟩ (C_X10_in l D cI cJ cZ H.size p2 (0 : Int32) (3 : Int32) r13 hc13) gX10_behind_X10_in rfl rfl rfl hdS_X10_in ⟨Nat.le_of_ble_eq_true rfl, Nat.le_of_ble_eq_true rfl⟩ hE (hP.sub [] rfl) (hD.sub [] (by decide) rfl) rfl hl.1 (rest := []) rfl (Nat.le_of_ble_eq_true rfl) dX10_behind_13 ⟨Nat.zero_le _, Nat.zero_le _⟩) hP hD hS hA [] [0, 1, 2, 3, 4, 5] rfl rfl rfl (by decide) rfl (fun H locs hP hD hS => ?_)
    refine lv_if_ne (tgt := 22) hx hb dX10_behind_16 (by decide) (fun hc => ?_) (fun hc => ?_)
    · have h := if_f hc h
      refine lv_aload_n hx hb dX10_behind_22 rfl (lv_at hl 0 rfl) ?_
      obtain ⟨r23, u23v_now, u23v_freeAt, u23v_freeWho, u23v_reason, u23v_acts, hc23, h⟩ := bd6_some h
      refine gw_ci (wr := []) (w2 := [(qt, .inr (9, [.ref qt_book, .ref qt_now, .ref qt_flakes, .ref qt_leaks, .int v_music, .ref qt_ranks, .int v_sights, .ref qt_sight, .int v_signs, .ref qt_pad, .int u23v_freeAt, .int u23v_freeWho, .int u23v_reason, .int u23v_acts, .ref qt_gets, .ref qt_counts, .ref qt_worth, .ref qt_ways, .ref qt_image, .ref qt_isKept])), (qt_book, .inl (cI, 43, .inl v_book)), (qt_now, .inl (cI, 43, .inl u23v_now)), (qt_flakes, .inl (cI, 8, .inl v_flakes)), (qt_leaks, .inl (cI, 8, .inl v_leaks)), (qt_pad, .inl (cI, 60, .inl v_pad))]) (gw_rV (n := 0) ⟨hx, hb, hml, hown, hts⟩ (C_X10_barOfReigns l D cI cJ cZ H.size qt qt_book qt_now qt_flakes qt_leaks qt_ranks qt_sight qt_pad qt_gets qt_counts qt_worth qt_ways qt_image qt_isKept v_book v_now v_flakes v_leaks v_music v_sights v_signs v_pad v_freeAt v_freeWho v_reason v_acts r23 u23v_now u23v_freeAt u23v_freeWho u23v_reason u23v_acts hc23) gX10_behind_X10_barOfReigns rfl rfl rfl hdV_X10_barOfReigns ⟨Nat.le_of_ble_eq_true rfl, Nat.le_of_ble_eq_true rfl⟩ hE (hP.sub [4, 5, 0, 1, 2, 3] rfl) (hD.sub [4, 5, 0, 1, 2, 3] (by decide) rfl) 9 rfl 0 rfl rfl hl.1 (rest := []) rfl (Nat.le_of_ble_eq_true rfl) dX10_behind_23 ⟨Nat.zero_le _, Nat.zero_le _⟩) hP hD hS hA [4, 5, 0, 1, 2, 3] [] rfl rfl rfl (by decide) rfl (fun H locs hP hD hS => ?_)
      refine lv_if_ge (tgt := 32) hx hb dX10_behind_26 (by decide) (fun hc => ?_) (fun hc => ?_)
      · have h := if_t hc h
        refine lv_aload_n hx hb dX10_behind_32 rfl (lv_at hl 0 rfl) ?_
        refine lv_iload_n hx hb dX10_behind_33 rfl (lv_at hl 1 rfl) ?_
        obtain ⟨r34, hc34, h⟩ := bd1_some h
        refine gw_ci (wr := [(qt_book, .inl (cI, 43, .inl v_book)), (qt_flakes, .inl (cI, 8, .inl v_flakes)), (qt_leaks, .inl (cI, 8, .inl v_leaks)), (qt_pad, .inl (cI, 60, .inl v_pad))]) (w2 := [(qt_book, .inl (cI, 43, .inl v_book)), (qt_flakes, .inl (cI, 8, .inl v_flakes)), (qt_leaks, .inl (cI, 8, .inl v_leaks)), (qt_pad, .inl (cI, 60, .inl v_pad)), (qt, .inr (9, [.ref qt_book, .ref qt_now, .ref qt_flakes, .ref qt_leaks, .int v_music, .ref qt_ranks, .int v_sights, .ref qt_sight, .int v_signs, .ref qt_pad, .int u23v_freeAt, .int u23v_freeWho, .int u23v_reason, .int u23v_acts, .ref qt_gets, .ref qt_counts, .ref qt_worth, .ref qt_ways, .ref qt_image, .ref qt_isKept])), (qt_now, .inl (cI, 43, .inl u23v_now))]) (gw_rV (n := 1) ⟨hx, hb, hml, hown, hts⟩ (C_X10_stands l D cI cJ cZ H.size qt qt_book qt_now qt_flakes qt_leaks qt_ranks qt_sight qt_pad qt_gets qt_counts qt_worth qt_ways qt_image qt_isKept u23v_now v_music v_sights v_signs u23v_freeAt u23v_freeWho u23v_reason u23v_acts p1 r34 hc34) gX10_behind_X10_stands rfl rfl rfl hdV_X10_stands ⟨Nat.le_of_ble_eq_true rfl, Nat.le_of_ble_eq_true rfl⟩ hE (hP.sub [0, 2] rfl) (hD.sub [0, 2] (by decide) rfl) 9 rfl 0 rfl rfl hl.1 (rest := []) rfl (Nat.le_of_ble_eq_true rfl) dX10_behind_34 ⟨Nat.zero_le _, Nat.zero_le _⟩) hP hD hS hA [0, 2] [1, 3, 4, 5] rfl rfl rfl (by decide) rfl (fun H locs hP hD hS => ?_)
        refine lv_if_ne (tgt := 43) hx hb dX10_behind_37 (by decide) (fun hc => ?_) (fun hc => ?_)
        · have h := if_f hc h
          refine lv_iload_n hx hb dX10_behind_43 rfl (lv_at hl 2 rfl) ?_
          refine lv_if_ne (tgt := 59) hx hb dX10_behind_44 (by decide) (fun hc => ?_) (fun hc => ?_)
          · have h := if_f hc h
            refine lv_iload_n hx hb dX10_behind_59 rfl (lv_at hl 2 rfl) ?_
            refine lv_iconst (v := 1) hx hb dX10_behind_60 (by decide) ?_
            refine lv_icmp_ne (tgt := 73) hx hb dX10_behind_61 (by decide) (fun hc => ?_) (fun hc => ?_)
            · have h := if_f hc h
              refine lv_aload_n hx hb dX10_behind_73 rfl (lv_at hl 0 rfl) ?_
              refine va_get (D := D) (ci := 9) (C := RX10) (T := TX10) (N := 20) hx hb hts (fun _ hw => (List.mem_cons_of_mem _ (List.mem_append_right _ hw))) hown hE.1 hP 4 rfl rfl 1 (by decide) (hts (.fieldLink RX10 13 "GlobeCrownModel" "now" "[I") (List.mem_cons_of_mem _ (List.mem_append_left _ (List.mem_append_left _ (List.mem_of_getElem? (i := 0) rfl))))) (fun _ h9 => h9) rfl dX10_behind_74 ?_
              refine lv_bipush (v := 8) hx hb dX10_behind_77 (by decide) ?_
              refine lv_iload_n hx hb dX10_behind_79 rfl (lv_at hl 2 rfl) ?_
              refine lv_imul hx hb dX10_behind_80 ?_
              refine lv_iload_n hx hb dX10_behind_81 rfl (lv_at hl 1 rfl) ?_
              refine lv_iadd hx hb dX10_behind_82 ?_
              obtain ⟨hg, h⟩ := gin_some h
              refine va_iald hx hb hE.1 hP 5 0 rfl rfl hg dX10_behind_83 ?_
              cases h
              rw [hQQ]
              exact gw_iret hx hb hr hlocks (hP.sub [4, 0, 5, 1, 2, 3] rfl) (hD.sub [4, 0, 5, 1, 2, 3] (by decide) rfl) hS dX10_behind_84
            · have h := if_t hc h
              refine lv_aload_n hx hb dX10_behind_64 rfl (lv_at hl 0 rfl) ?_
              refine va_get (D := D) (ci := 9) (C := RX10) (T := TX10) (N := 20) hx hb hts (fun _ hw => (List.mem_cons_of_mem _ (List.mem_append_right _ hw))) hown hE.1 hP 4 rfl rfl 1 (by decide) (hts (.fieldLink RX10 13 "GlobeCrownModel" "now" "[I") (List.mem_cons_of_mem _ (List.mem_append_left _ (List.mem_append_left _ (List.mem_of_getElem? (i := 0) rfl))))) (fun _ h9 => h9) rfl dX10_behind_65 ?_
              refine lv_iload_n hx hb dX10_behind_68 rfl (lv_at hl 1 rfl) ?_
              obtain ⟨hg, h⟩ := gin_some h
              refine va_iald hx hb hE.1 hP 5 0 rfl rfl hg dX10_behind_69 ?_
              refine lv_goto (tgt := 84) hx hb dX10_behind_70 (by decide) ?_
              cases h
              rw [hQQ]
              exact gw_iret hx hb hr hlocks (hP.sub [4, 0, 5, 1, 2, 3] rfl) (hD.sub [4, 0, 5, 1, 2, 3] (by decide) rfl) hS dX10_behind_84
          · have h := if_t hc h
            refine lv_aload_n hx hb dX10_behind_47 rfl (lv_at hl 0 rfl) ?_
            refine va_get (D := D) (ci := 9) (C := RX10) (T := TX10) (N := 20) hx hb hts (fun _ hw => (List.mem_cons_of_mem _ (List.mem_append_right _ hw))) hown hE.1 hP 4 rfl rfl 1 (by decide) (hts (.fieldLink RX10 13 "GlobeCrownModel" "now" "[I") (List.mem_cons_of_mem _ (List.mem_append_left _ (List.mem_append_left _ (List.mem_of_getElem? (i := 0) rfl))))) (fun _ h9 => h9) rfl dX10_behind_48 ?_
            refine lv_bipush (v := 8) hx hb dX10_behind_51 (by decide) ?_
            refine lv_iload_n hx hb dX10_behind_53 rfl (lv_at hl 1 rfl) ?_
            refine lv_iadd hx hb dX10_behind_54 ?_
            obtain ⟨hg, h⟩ := gin_some h
            refine va_iald hx hb hE.1 hP 5 0 rfl rfl hg dX10_behind_55 ?_
            refine lv_goto (tgt := 84) hx hb dX10_behind_56 (by decide) ?_
            cases h
            rw [hQQ]
            exact gw_iret hx hb hr hlocks (hP.sub [4, 0, 5, 1, 2, 3] rfl) (hD.sub [4, 0, 5, 1, 2, 3] (by decide) rfl) hS dX10_behind_84
        · have h := if_t hc h
          refine lv_bipush (v := -6) hx hb dX10_behind_40 (by decide) ?_
          cases h
          rw [hQQ]
          exact gw_iret hx hb hr hlocks (hP.sub [4, 0, 5, 1, 2, 3] rfl) (hD.sub [4, 0, 5, 1, 2, 3] (by decide) rfl) hS dX10_behind_42
      · have h := if_f hc h
        refine lv_bipush (v := -5) hx hb dX10_behind_29 (by decide) ?_
        cases h
        rw [hQQ]
        exact gw_iret hx hb hr hlocks hP hD hS dX10_behind_31
    · have h := if_t hc h
      refine lv_bipush (v := -2) hx hb dX10_behind_19 (by decide) ?_
      cases h
      rw [hQQ]
      exact gw_iret hx hb hr hlocks (hP.sub [4, 5, 0, 1, 2, 3] rfl) (hD.sub [4, 5, 0, 1, 2, 3] (by decide) rfl) hS dX10_behind_21
  · have h := if_t hc h
    refine lv_iconst (v := -1) hx hb dX10_behind_8 (by decide) ?_
    cases h
    rw [hQQ]
    exact gw_iret hx hb hr hlocks (hP.sub [4, 5, 0, 1, 2, 3] rfl) (hD.sub [4, 5, 0, 1, 2, 3] (by decide) rfl) hS dX10_behind_9
theorem hdV_X10_behind : yX10_behind.cls = RX10 ∧ yX10_behind.cls ≠ "java/lang/invoke/MethodHandle" ∧ yX10_behind.cls ≠ "java/lang/invoke/VarHandle" ∧ (parseMethodDescriptor yX10_behind.desc).map (fun d => d.parameters.length) = some 2 := by decide +kernel
def f_X10_then (v_book : (Nat → Int32)) (v_now : (Nat → Int32)) (v_flakes : (Nat → Int32)) (v_leaks : (Nat → Int32)) (v_music : Int32) (v_signs : Int32) (v_pad : (Nat → Int32)) (v_freeAt : Int32) (v_freeWho : Int32) (v_reason : Int32) (v_acts : Int32) (p1 : Int32) : Option (Int32 × (Nat → Int32) × Int32 × Int32 × Int32 × Int32) := (bd1 (f_X10_in p1 (0 : Int32) (5 : Int32)) (fun r3 => (if r3 = (0 : Int32) then (some ((-2 : Int32), v_now, v_freeAt, v_freeWho, v_reason, v_acts)) else (bd6 (f_X10_barOfReigns v_book v_now v_flakes v_leaks v_music v_signs v_pad v_freeAt v_freeWho v_reason v_acts) (fun r13 u13v_now u13v_freeAt u13v_freeWho u13v_reason u13v_acts => (if (0 : Int32) ≤ r13 then (if p1 = (0 : Int32) then (bd1 (f_X10_snow u13v_now) (fun r53 => (some (r53, u13v_now, u13v_freeAt, u13v_freeWho, u13v_reason, u13v_acts)))) else (if p1 = (1 : Int32) then (bd1 (f_X10_freeOnes u13v_now) (fun r58 => (some (r58, u13v_now, u13v_freeAt, u13v_freeWho, u13v_reason, u13v_acts)))) else (if p1 = (2 : Int32) then (gin ((39 : Int32) + p1) 43 (some ((u13v_now (Int32.toNatClampNeg ((39 : Int32) + p1))), u13v_now, u13v_freeAt, u13v_freeWho, u13v_reason, u13v_acts))) else (if p1 = (3 : Int32) then (gin ((39 : Int32) + p1) 43 (some ((u13v_now (Int32.toNatClampNeg ((39 : Int32) + p1))), u13v_now, u13v_freeAt, u13v_freeWho, u13v_reason, u13v_acts))) else (if p1 = (4 : Int32) then (some (u13v_freeAt, u13v_now, u13v_freeAt, u13v_freeWho, u13v_reason, u13v_acts)) else (some (u13v_freeWho, u13v_now, u13v_freeAt, u13v_freeWho, u13v_reason, u13v_acts))))))) else (some ((-5 : Int32), u13v_now, u13v_freeAt, u13v_freeWho, u13v_reason, u13v_acts))))))))
abbrev rm_X10_then : Room := { frames := 6, cells := 0, slots := 0, locals := 134 }
set_option maxHeartbeats 4000000 in
set_option maxRecDepth 100000 in
theorem C_X10_then (l : Launch) (D : va_G) (cI cJ cZ : ClassId) (sz : Nat) (qt qt_book qt_now qt_flakes qt_leaks qt_ranks qt_sight qt_pad qt_gets qt_counts qt_worth qt_ways qt_image qt_isKept : Nat) (v_book : (Nat → Int32)) (v_now : (Nat → Int32)) (v_flakes : (Nat → Int32)) (v_leaks : (Nat → Int32)) (v_music : Int32) (v_sights : Int32) (v_signs : Int32) (v_pad : (Nat → Int32)) (v_freeAt : Int32) (v_freeWho : Int32) (v_reason : Int32) (v_acts : Int32) (p1 : Int32) (r : Int32) (w_now : (Nat → Int32)) (w_freeAt : Int32) (w_freeWho : Int32) (w_reason : Int32) (w_acts : Int32) (hf : f_X10_then v_book v_now v_flakes v_leaks v_music v_signs v_pad v_freeAt v_freeWho v_reason v_acts p1 = some (r, w_now, w_freeAt, w_freeWho, w_reason, w_acts)) : Met l yX10_then wsX10_then rm_X10_then (PR D cI cJ cZ [(qt, .inr (9, [.ref qt_book, .ref qt_now, .ref qt_flakes, .ref qt_leaks, .int v_music, .ref qt_ranks, .int v_sights, .ref qt_sight, .int v_signs, .ref qt_pad, .int v_freeAt, .int v_freeWho, .int v_reason, .int v_acts, .ref qt_gets, .ref qt_counts, .ref qt_worth, .ref qt_ways, .ref qt_image, .ref qt_isKept])), (qt_book, .inl (cI, 43, .inl v_book)), (qt_now, .inl (cI, 43, .inl v_now)), (qt_flakes, .inl (cI, 8, .inl v_flakes)), (qt_leaks, .inl (cI, 8, .inl v_leaks)), (qt_pad, .inl (cI, 60, .inl v_pad))] sz [.ref qt, .int p1]) (QI D (va_A [(qt, .inr (9, [.ref qt_book, .ref qt_now, .ref qt_flakes, .ref qt_leaks, .int v_music, .ref qt_ranks, .int v_sights, .ref qt_sight, .int v_signs, .ref qt_pad, .int v_freeAt, .int v_freeWho, .int v_reason, .int v_acts, .ref qt_gets, .ref qt_counts, .ref qt_worth, .ref qt_ways, .ref qt_image, .ref qt_isKept])), (qt_book, .inl (cI, 43, .inl v_book)), (qt_now, .inl (cI, 43, .inl v_now)), (qt_flakes, .inl (cI, 8, .inl v_flakes)), (qt_leaks, .inl (cI, 8, .inl v_leaks)), (qt_pad, .inl (cI, 60, .inl v_pad))] sz) r [(qt, .inr (9, [.ref qt_book, .ref qt_now, .ref qt_flakes, .ref qt_leaks, .int v_music, .ref qt_ranks, .int v_sights, .ref qt_sight, .int v_signs, .ref qt_pad, .int w_freeAt, .int w_freeWho, .int w_reason, .int w_acts, .ref qt_gets, .ref qt_counts, .ref qt_worth, .ref qt_ways, .ref qt_image, .ref qt_isKept])), (qt_book, .inl (cI, 43, .inl v_book)), (qt_now, .inl (cI, 43, .inl w_now)), (qt_flakes, .inl (cI, 8, .inl v_flakes)), (qt_leaks, .inl (cI, 8, .inl v_leaks)), (qt_pad, .inl (cI, 60, .inl v_pad))]) 0 0 (va_A [(qt, .inr (9, [.ref qt_book, .ref qt_now, .ref qt_flakes, .ref qt_leaks, .int v_music, .ref qt_ranks, .int v_sights, .ref qt_sight, .int v_signs, .ref qt_pad, .int v_freeAt, .int v_freeWho, .int v_reason, .int v_acts, .ref qt_gets, .ref qt_counts, .ref qt_worth, .ref qt_ways, .ref qt_image, .ref qt_isKept])), (qt_book, .inl (cI, 43, .inl v_book)), (qt_now, .inl (cI, 43, .inl v_now)), (qt_flakes, .inl (cI, 8, .inl v_flakes)), (qt_leaks, .inl (cI, 8, .inl v_leaks)), (qt_pad, .inl (cI, 60, .inl v_pad))] sz) := by
  refine Met.ofW (cc := cX10_then) (maxL := 2) (ret := (some .int)) (by decide) rfl ?_
  intro p e s m args below meth c s₁ B hml hv
  obtain ⟨hav, hsz, hP, hD0, hE⟩ := hv
  have hx := B.exec
  have hb := B.bytes
  have hr := B.returns
  have hts := atoms_spec (ws := wsX10_then) B.pre
  have hown : s.vm.findClass RX10 = some m.cls := findClass_of_methodNamed B.named
  have hlocks := B.notSynchronized
  subst hsz
  have hD := hD0.self (sz := s.heap.size)
  generalize hAe : va_A [(qt, .inr (9, [.ref qt_book, .ref qt_now, .ref qt_flakes, .ref qt_leaks, .int v_music, .ref qt_ranks, .int v_sights, .ref qt_sight, .int v_signs, .ref qt_pad, .int v_freeAt, .int v_freeWho, .int v_reason, .int v_acts, .ref qt_gets, .ref qt_counts, .ref qt_worth, .ref qt_ways, .ref qt_image, .ref qt_isKept])), (qt_book, .inl (cI, 43, .inl v_book)), (qt_now, .inl (cI, 43, .inl v_now)), (qt_flakes, .inl (cI, 8, .inl v_flakes)), (qt_leaks, .inl (cI, 8, .inl v_leaks)), (qt_pad, .inl (cI, 60, .inl v_pad))] s.heap.size = A at hD ⊢
  have hA : ∀ q : Nat, s.heap.size ≤ q → A q := fun q h => by rw [← hAe]; exact Or.inr h
  have hS : va_S A s.heap s.heap [] := va_S.rf
  have hl := lv_entry ([.ref qt, .int p1]) (n := 2) (Nat.le_of_ble_eq_true rfl)
  have hfr : entryFrame m args 2 = entryFrame m ([.ref qt, .int p1] : List Value).toArray 2 := by rw [hav]
  rw [hfr, lg_entry_eq]
  generalize (lg_sl ([.ref qt, .int p1]) ++ List.replicate (2 - (lg_sl ([.ref qt, .int p1])).length) Slot.unset).toArray = ls at hl ⊢
  have hl : lv_has ls 2 [(0, .ref qt), (1, .int p1)] := hl
  obtain ⟨QQ, hQQ⟩ : ∃ QQ, QQ = MQ below (QI D A r [(qt, .inr (9, [.ref qt_book, .ref qt_now, .ref qt_flakes, .ref qt_leaks, .int v_music, .ref qt_ranks, .int v_sights, .ref qt_sight, .int v_signs, .ref qt_pad, .int w_freeAt, .int w_freeWho, .int w_reason, .int w_acts, .ref qt_gets, .ref qt_counts, .ref qt_worth, .ref qt_ways, .ref qt_image, .ref qt_isKept])), (qt_book, .inl (cI, 43, .inl v_book)), (qt_now, .inl (cI, 43, .inl w_now)), (qt_flakes, .inl (cI, 8, .inl v_flakes)), (qt_leaks, .inl (cI, 8, .inl v_leaks)), (qt_pad, .inl (cI, 60, .inl v_pad))]) args s 0 0 A := ⟨_, rfl⟩
  show W p l e rm_X10_then s m args below meth c s.heap [] 0 0 _ _
  rw [← hQQ]
  have h := hf
  unfold f_X10_then at h
  refine gw_start hP hD hS (fun H locs hP hD hS => ?_)
  refine lv_iload_n hx hb dX10_then_0 rfl (lv_at hl 1 rfl) ?_
  refine lv_iconst (v := 0) hx hb dX10_then_1 (by decide) ?_
  refine lv_iconst (v := 5) hx hb dX10_then_2 (by decide) ?_
  obtain ⟨r3, hc3, h⟩ := bd1_some h
  refine gw_ci (wr := [(qt, .inr (9, [.ref qt_book, .ref qt_now, .ref qt_flakes, .ref qt_leaks, .int v_music, .ref qt_ranks, .int v_sights, .ref qt_sight, .int v_signs, .ref qt_pad, .int v_freeAt, .int v_freeWho, .int v_reason, .int v_acts, .ref qt_gets, .ref qt_counts, .ref qt_worth, .ref qt_ways, .ref qt_image, .ref qt_isKept])), (qt_book, .inl (cI, 43, .inl v_book)), (qt_now, .inl (cI, 43, .inl v_now)), (qt_flakes, .inl (cI, 8, .inl v_flakes)), (qt_leaks, .inl (cI, 8, .inl v_leaks)), (qt_pad, .inl (cI, 60, .inl v_pad))]) (w2 := [(qt, .inr (9, [.ref qt_book, .ref qt_now, .ref qt_flakes, .ref qt_leaks, .int v_music, .ref qt_ranks, .int v_sights, .ref qt_sight, .int v_signs, .ref qt_pad, .int v_freeAt, .int v_freeWho, .int v_reason, .int v_acts, .ref qt_gets, .ref qt_counts, .ref qt_worth, .ref qt_ways, .ref qt_image, .ref qt_isKept])), (qt_book, .inl (cI, 43, .inl v_book)), (qt_now, .inl (cI, 43, .inl v_now)), (qt_flakes, .inl (cI, 8, .inl v_flakes)), (qt_leaks, .inl (cI, 8, .inl v_leaks)), (qt_pad, .inl (cI, 60, .inl v_pad))]) (gw_rS (n := 3) ⟨hx, hb, hml, hown, hts⟩ (C_X10_in l D cI cJ cZ H.size p1 (0 : Int32) (5 : Int32) r3 hc3) gX10_then_X10_in rfl rfl rfl hdS_X10_in ⟨Nat.le_of_ble_eq_true rfl, Nat.le_of_ble_eq_true rfl⟩ hE (hP.sub [] rfl) (hD.sub [] (by decide) rfl) rfl hl.1 (rest := []) rfl (Nat.le_of_ble_eq_true rfl) dX10_then_3 ⟨Nat.zero_le _, Nat.zero_le _⟩) hP hD hS hA [] [0, 1, 2, 3, 4, 5] rfl rfl rfl (by decide) rfl (fun H locs hP hD hS => ?_)
  refine lv_if_ne (tgt := 12) hx hb dX10_then_6 (by decide) (fun hc => ?_) (fun hc => ?_)
  · have h := if_f hc h
    refine lv_aload_n hx hb dX10_then_12 rfl (lv_at hl 0 rfl) ?_
    obtain ⟨r13, u13v_now, u13v_freeAt, u13v_freeWho, u13v_reason, u13v_acts, hc13, h⟩ := bd6_some h
    refine gw_ci (wr := []) (w2 := [(qt, .inr (9, [.ref qt_book, .ref qt_now, .ref qt_flakes, .ref qt_leaks, .int v_music, .ref qt_ranks, .int v_sights, .ref qt_sight, .int v_signs, .ref qt_pad, .int u13v_freeAt, .int u13v_freeWho, .int u13v_reason, .int u13v_acts, .ref qt_gets, .ref qt_counts, .ref qt_worth, .ref qt_ways, .ref qt_image, .ref qt_isKept])), (qt_book, .inl (cI, 43, .inl v_book)), (qt_now, .inl (cI, 43, .inl u13v_now)), (qt_flakes, .inl (cI, 8, .inl v_flakes)), (qt_leaks, .inl (cI, 8, .inl v_leaks)), (qt_pad, .inl (cI, 60, .inl v_pad))]) (gw_rV (n := 0) ⟨hx, hb, hml, hown, hts⟩ (C_X10_barOfReigns l D cI cJ cZ H.size qt qt_book qt_now qt_flakes qt_leaks qt_ranks qt_sight qt_pad qt_gets qt_counts qt_worth qt_ways qt_image qt_isKept v_book v_now v_flakes v_leaks v_music v_sights v_signs v_pad v_freeAt v_freeWho v_reason v_acts r13 u13v_now u13v_freeAt u13v_freeWho u13v_reason u13v_acts hc13) gX10_then_X10_barOfReigns rfl rfl rfl hdV_X10_barOfReigns ⟨Nat.le_of_ble_eq_true rfl, Nat.le_of_ble_eq_true rfl⟩ hE (hP.sub [0, 1, 2, 3, 4, 5] rfl) (hD.sub [0, 1, 2, 3, 4, 5] (by decide) rfl) 9 rfl 0 rfl rfl hl.1 (rest := []) rfl (Nat.le_of_ble_eq_true rfl) dX10_then_13 ⟨Nat.zero_le _, Nat.zero_le _⟩) hP hD hS hA [0, 1, 2, 3, 4, 5] [] rfl rfl rfl (by decide) rfl (fun H locs hP hD hS => ?_)
    refine lv_if_ge (tgt := 22) hx hb dX10_then_16 (by decide) (fun hc => ?_) (fun hc => ?_)
    · have h := if_t hc h
      refine lv_iload_n hx hb dX10_then_22 rfl (lv_at hl 1 rfl) ?_
      by_cases hk0 : p1 = (0 : Int32)
      · have h := if_t hk0 h
        refine lv_tableIn (off := 29) (tgt := 52) hx hb dX10_then_23 (by rw [hk0]; decide) (by rw [hk0]; decide) (by rw [hk0]; decide) (by decide) ?_
        refine lv_aload_n hx hb dX10_then_52 rfl (lv_at hl 0 rfl) ?_
        obtain ⟨r53, hc53, h⟩ := bd1_some h
        refine gw_ci (wr := [(qt_book, .inl (cI, 43, .inl v_book)), (qt_flakes, .inl (cI, 8, .inl v_flakes)), (qt_leaks, .inl (cI, 8, .inl v_leaks)), (qt_pad, .inl (cI, 60, .inl v_pad))]) (w2 := [(qt_book, .inl (cI, 43, .inl v_book)), (qt_flakes, .inl (cI, 8, .inl v_flakes)), (qt_leaks, .inl (cI, 8, .inl v_leaks)), (qt_pad, .inl (cI, 60, .inl v_pad)), (qt, .inr (9, [.ref qt_book, .ref qt_now, .ref qt_flakes, .ref qt_leaks, .int v_music, .ref qt_ranks, .int v_sights, .ref qt_sight, .int v_signs, .ref qt_pad, .int u13v_freeAt, .int u13v_freeWho, .int u13v_reason, .int u13v_acts, .ref qt_gets, .ref qt_counts, .ref qt_worth, .ref qt_ways, .ref qt_image, .ref qt_isKept])), (qt_now, .inl (cI, 43, .inl u13v_now))]) (gw_rV (n := 0) ⟨hx, hb, hml, hown, hts⟩ (C_X10_snow l D cI cJ cZ H.size qt qt_book qt_now qt_flakes qt_leaks qt_ranks qt_sight qt_pad qt_gets qt_counts qt_worth qt_ways qt_image qt_isKept u13v_now v_music v_sights v_signs u13v_freeAt u13v_freeWho u13v_reason u13v_acts r53 hc53) gX10_then_X10_snow rfl rfl rfl hdV_X10_snow ⟨Nat.le_of_ble_eq_true rfl, Nat.le_of_ble_eq_true rfl⟩ hE (hP.sub [0, 2] rfl) (hD.sub [0, 2] (by decide) rfl) 9 rfl 0 rfl rfl hl.1 (rest := []) rfl (Nat.le_of_ble_eq_true rfl) dX10_then_53 ⟨Nat.zero_le _, Nat.zero_le _⟩) hP hD hS hA [0, 2] [1, 3, 4, 5] rfl rfl rfl (by decide) rfl (fun H locs hP hD hS => ?_)
        cases h
        rw [hQQ]
        exact gw_iret hx hb hr hlocks (hP.sub [4, 0, 5, 1, 2, 3] rfl) (hD.sub [4, 0, 5, 1, 2, 3] (by decide) rfl) hS dX10_then_56
      · have h := if_f hk0 h
        by_cases hk1 : p1 = (1 : Int32)
        · have h := if_t hk1 h
          refine lv_tableIn (off := 34) (tgt := 57) hx hb dX10_then_23 (by rw [hk1]; decide) (by rw [hk1]; decide) (by rw [hk1]; decide) (by decide) ?_
          refine lv_aload_n hx hb dX10_then_57 rfl (lv_at hl 0 rfl) ?_
          obtain ⟨r58, hc58, h⟩ := bd1_some h
          refine gw_ci (wr := [(qt_book, .inl (cI, 43, .inl v_book)), (qt_flakes, .inl (cI, 8, .inl v_flakes)), (qt_leaks, .inl (cI, 8, .inl v_leaks)), (qt_pad, .inl (cI, 60, .inl v_pad))]) (w2 := [(qt_book, .inl (cI, 43, .inl v_book)), (qt_flakes, .inl (cI, 8, .inl v_flakes)), (qt_leaks, .inl (cI, 8, .inl v_leaks)), (qt_pad, .inl (cI, 60, .inl v_pad)), (qt, .inr (9, [.ref qt_book, .ref qt_now, .ref qt_flakes, .ref qt_leaks, .int v_music, .ref qt_ranks, .int v_sights, .ref qt_sight, .int v_signs, .ref qt_pad, .int u13v_freeAt, .int u13v_freeWho, .int u13v_reason, .int u13v_acts, .ref qt_gets, .ref qt_counts, .ref qt_worth, .ref qt_ways, .ref qt_image, .ref qt_isKept])), (qt_now, .inl (cI, 43, .inl u13v_now))]) (gw_rV (n := 0) ⟨hx, hb, hml, hown, hts⟩ (C_X10_freeOnes l D cI cJ cZ H.size qt qt_book qt_now qt_flakes qt_leaks qt_ranks qt_sight qt_pad qt_gets qt_counts qt_worth qt_ways qt_image qt_isKept u13v_now v_music v_sights v_signs u13v_freeAt u13v_freeWho u13v_reason u13v_acts r58 hc58) gX10_then_X10_freeOnes rfl rfl rfl hdV_X10_freeOnes ⟨Nat.le_of_ble_eq_true rfl, Nat.le_of_ble_eq_true rfl⟩ hE (hP.sub [0, 2] rfl) (hD.sub [0, 2] (by decide) rfl) 9 rfl 0 rfl rfl hl.1 (rest := []) rfl (Nat.le_of_ble_eq_true rfl) dX10_then_58 ⟨Nat.zero_le _, Nat.zero_le _⟩) hP hD hS hA [0, 2] [1, 3, 4, 5] rfl rfl rfl (by decide) rfl (fun H locs hP hD hS => ?_)
          cases h
          rw [hQQ]
          exact gw_iret hx hb hr hlocks (hP.sub [4, 0, 5, 1, 2, 3] rfl) (hD.sub [4, 0, 5, 1, 2, 3] (by decide) rfl) hS dX10_then_61
        · have h := if_f hk1 h
          by_cases hk2 : p1 = (2 : Int32)
          · have h := if_t hk2 h
            refine lv_tableIn (off := 39) (tgt := 62) hx hb dX10_then_23 (by rw [hk2]; decide) (by rw [hk2]; decide) (by rw [hk2]; decide) (by decide) ?_
            refine lv_aload_n hx hb dX10_then_62 rfl (lv_at hl 0 rfl) ?_
            refine va_get (D := D) (ci := 9) (C := RX10) (T := TX10) (N := 20) hx hb hts (fun _ hw => (List.mem_cons_of_mem _ (List.mem_append_right _ hw))) hown hE.1 hP 0 rfl rfl 1 (by decide) (hts (.fieldLink RX10 13 "GlobeCrownModel" "now" "[I") (List.mem_cons_of_mem _ (List.mem_append_left _ (List.mem_append_left _ (List.mem_of_getElem? (i := 0) rfl))))) (fun _ h9 => h9) rfl dX10_then_63 ?_
            refine lv_bipush (v := 39) hx hb dX10_then_66 (by decide) ?_
            refine lv_iload_n hx hb dX10_then_68 rfl (lv_at hl 1 rfl) ?_
            refine lv_iadd hx hb dX10_then_69 ?_
            obtain ⟨hg, h⟩ := gin_some h
            refine va_iald hx hb hE.1 hP 2 0 rfl rfl hg dX10_then_70 ?_
            cases h
            rw [hQQ]
            exact gw_iret hx hb hr hlocks hP hD hS dX10_then_71
          · have h := if_f hk2 h
            by_cases hk3 : p1 = (3 : Int32)
            · have h := if_t hk3 h
              refine lv_tableIn (off := 39) (tgt := 62) hx hb dX10_then_23 (by rw [hk3]; decide) (by rw [hk3]; decide) (by rw [hk3]; decide) (by decide) ?_
              refine lv_aload_n hx hb dX10_then_62 rfl (lv_at hl 0 rfl) ?_
              refine va_get (D := D) (ci := 9) (C := RX10) (T := TX10) (N := 20) hx hb hts (fun _ hw => (List.mem_cons_of_mem _ (List.mem_append_right _ hw))) hown hE.1 hP 0 rfl rfl 1 (by decide) (hts (.fieldLink RX10 13 "GlobeCrownModel" "now" "[I") (List.mem_cons_of_mem _ (List.mem_append_left _ (List.mem_append_left _ (List.mem_of_getElem? (i := 0) rfl))))) (fun _ h9 => h9) rfl dX10_then_63 ?_
              refine lv_bipush (v := 39) hx hb dX10_then_66 (by decide) ?_
              refine lv_iload_n hx hb dX10_then_68 rfl (lv_at hl 1 rfl) ?_
              refine lv_iadd hx hb dX10_then_69 ?_
              obtain ⟨hg, h⟩ := gin_some h
              refine va_iald hx hb hE.1 hP 2 0 rfl rfl hg dX10_then_70 ?_
              cases h
              rw [hQQ]
              exact gw_iret hx hb hr hlocks hP hD hS dX10_then_71
            · have h := if_f hk3 h
              refine lv_tableOut (tgt := 72) hx hb dX10_then_23 (by have e0 := lv_neT hk0 (a := 0) (by decide); have e1 := lv_neT hk1 (a := 1) (by decide); have e2 := lv_neT hk2 (a := 2) (by decide); have e3 := lv_neT hk3 (a := 3) (by decide); omega) (by decide) ?_
              refine lv_iload_n hx hb dX10_then_72 rfl (lv_at hl 1 rfl) ?_
              refine lv_iconst (v := 4) hx hb dX10_then_73 (by decide) ?_
              refine lv_icmp_ne (tgt := 84) hx hb dX10_then_74 (by decide) (fun hc => ?_) (fun hc => ?_)
              · have h := if_f hc h
                refine lv_aload_n hx hb dX10_then_84 rfl (lv_at hl 0 rfl) ?_
                refine va_get (D := D) (ci := 9) (C := RX10) (T := TX10) (N := 20) hx hb hts (fun _ hw => (List.mem_cons_of_mem _ (List.mem_append_right _ hw))) hown hE.1 hP 0 rfl rfl 11 (by decide) (hts (.fieldLink RX10 90 "GlobeCrownModel" "freeWho" "I") (List.mem_cons_of_mem _ (List.mem_append_left _ (List.mem_append_left _ (List.mem_of_getElem? (i := 2) rfl))))) (fun _ h9 => h9) rfl dX10_then_85 ?_
                cases h
                rw [hQQ]
                exact gw_iret hx hb hr hlocks hP hD hS dX10_then_88
              · have h := if_t hc h
                refine lv_aload_n hx hb dX10_then_77 rfl (lv_at hl 0 rfl) ?_
                refine va_get (D := D) (ci := 9) (C := RX10) (T := TX10) (N := 20) hx hb hts (fun _ hw => (List.mem_cons_of_mem _ (List.mem_append_right _ hw))) hown hE.1 hP 0 rfl rfl 10 (by decide) (hts (.fieldLink RX10 87 "GlobeCrownModel" "freeAt" "I") (List.mem_cons_of_mem _ (List.mem_append_left _ (List.mem_append_left _ (List.mem_of_getElem? (i := 1) rfl))))) (fun _ h9 => h9) rfl dX10_then_78 ?_
                refine lv_goto (tgt := 88) hx hb dX10_then_81 (by decide) ?_
                cases h
                rw [hQQ]
                exact gw_iret hx hb hr hlocks hP hD hS dX10_then_88
    · have h := if_f hc h
      refine lv_bipush (v := -5) hx hb dX10_then_19 (by decide) ?_
      cases h
      rw [hQQ]
      exact gw_iret hx hb hr hlocks hP hD hS dX10_then_21
  · have h := if_t hc h
    refine lv_bipush (v := -2) hx hb dX10_then_9 (by decide) ?_
    cases h
    rw [hQQ]
    exact gw_iret hx hb hr hlocks hP hD hS dX10_then_11
theorem hdV_X10_then : yX10_then.cls = RX10 ∧ yX10_then.cls ≠ "java/lang/invoke/MethodHandle" ∧ yX10_then.cls ≠ "java/lang/invoke/VarHandle" ∧ (parseMethodDescriptor yX10_then.desc).map (fun d => d.parameters.length) = some 1 := by decide +kernel
def L_X10_look_38 (v_book : (Nat → Int32)) (p1 : Int32) (p2 : Int32) : Nat → Int32 → Int32 → Int32 → Option (Int32)
  | 0, _, _, _ => none
  | n + 1, x3, x4, x5 => (if x5 < (0 : Int32) then (if p2 = (1 : Int32) then (some x4) else (if (0 : Int32) ≤ x3 then (some x3) else (some (0 : Int32)))) else (gin ((16 : Int32) + x5) 43 (gin ((32 : Int32) + x5) 43 ((L_X10_look_38 v_book p1 p2 n) (x3 - ((10 : Int32) * (v_book (Int32.toNatClampNeg ((16 : Int32) + x5))))) (x4 + (1 : Int32)) (v_book (Int32.toNatClampNeg ((32 : Int32) + x5)))))))
def f_X10_look (v_book : (Nat → Int32)) (p1 : Int32) (p2 : Int32) : Option (Int32) := (bd1 (f_X10_isThere v_book p1) (fun r2 => (if r2 = (0 : Int32) then (some (-1 : Int32)) else (bd1 (f_X10_in p2 (0 : Int32) (1 : Int32)) (fun r13 => (if r13 = (0 : Int32) then (some (-2 : Int32)) else (gin ((8 : Int32) + p1) 43 (L_X10_look_38 v_book p1 p2 FU (v_book (Int32.toNatClampNeg ((8 : Int32) + p1))) (-1 : Int32) p1))))))))
abbrev rm_X10_look : Room := { frames := 2, cells := 0, slots := 0, locals := 43 }
set_option maxHeartbeats 4000000 in
set_option maxRecDepth 100000 in
theorem C_X10_look (l : Launch) (D : va_G) (cI cJ cZ : ClassId) (sz : Nat) (qt qt_book qt_now qt_flakes qt_leaks qt_ranks qt_sight qt_pad qt_gets qt_counts qt_worth qt_ways qt_image qt_isKept : Nat) (v_book : (Nat → Int32)) (v_music : Int32) (v_sights : Int32) (v_signs : Int32) (v_freeAt : Int32) (v_freeWho : Int32) (v_reason : Int32) (v_acts : Int32) (p1 : Int32) (p2 : Int32) (r : Int32) (hf : f_X10_look v_book p1 p2 = some r) : Met l yX10_look wsX10_look rm_X10_look (PR D cI cJ cZ [(qt, .inr (9, [.ref qt_book, .ref qt_now, .ref qt_flakes, .ref qt_leaks, .int v_music, .ref qt_ranks, .int v_sights, .ref qt_sight, .int v_signs, .ref qt_pad, .int v_freeAt, .int v_freeWho, .int v_reason, .int v_acts, .ref qt_gets, .ref qt_counts, .ref qt_worth, .ref qt_ways, .ref qt_image, .ref qt_isKept])), (qt_book, .inl (cI, 43, .inl v_book))] sz [.ref qt, .int p1, .int p2]) (QI D (va_A [(qt, .inr (9, [.ref qt_book, .ref qt_now, .ref qt_flakes, .ref qt_leaks, .int v_music, .ref qt_ranks, .int v_sights, .ref qt_sight, .int v_signs, .ref qt_pad, .int v_freeAt, .int v_freeWho, .int v_reason, .int v_acts, .ref qt_gets, .ref qt_counts, .ref qt_worth, .ref qt_ways, .ref qt_image, .ref qt_isKept])), (qt_book, .inl (cI, 43, .inl v_book))] sz) r [(qt, .inr (9, [.ref qt_book, .ref qt_now, .ref qt_flakes, .ref qt_leaks, .int v_music, .ref qt_ranks, .int v_sights, .ref qt_sight, .int v_signs, .ref qt_pad, .int v_freeAt, .int v_freeWho, .int v_reason, .int v_acts, .ref qt_gets, .ref qt_counts, .ref qt_worth, .ref qt_ways, .ref qt_image, .ref qt_isKept])), (qt_book, .inl (cI, 43, .inl v_book))]) 0 0 (va_A [(qt, .inr (9, [.ref qt_book, .ref qt_now, .ref qt_flakes, .ref qt_leaks, .int v_music, .ref qt_ranks, .int v_sights, .ref qt_sight, .int v_signs, .ref qt_pad, .int v_freeAt, .int v_freeWho, .int v_reason, .int v_acts, .ref qt_gets, .ref qt_counts, .ref qt_worth, .ref qt_ways, .ref qt_image, .ref qt_isKept])), (qt_book, .inl (cI, 43, .inl v_book))] sz) := by
  refine Met.ofW (cc := cX10_look) (maxL := 6) (ret := (some .int)) (by decide) rfl ?_
  intro p e s m args below meth c s₁ B hml hv
  obtain ⟨hav, hsz, hP, hD0, hE⟩ := hv
  have hx := B.exec
  have hb := B.bytes
  have hr := B.returns
  have hts := atoms_spec (ws := wsX10_look) B.pre
  have hown : s.vm.findClass RX10 = some m.cls := findClass_of_methodNamed B.named
  have hlocks := B.notSynchronized
  subst hsz
  have hD := hD0.self (sz := s.heap.size)
  generalize hAe : va_A [(qt, .inr (9, [.ref qt_book, .ref qt_now, .ref qt_flakes, .ref qt_leaks, .int v_music, .ref qt_ranks, .int v_sights, .ref qt_sight, .int v_signs, .ref qt_pad, .int v_freeAt, .int v_freeWho, .int v_reason, .int v_acts, .ref qt_gets, .ref qt_counts, .ref qt_worth, .ref qt_ways, .ref qt_image, .ref qt_isKept])), (qt_book, .inl (cI, 43, .inl v_book))] s.heap.size = A at hD ⊢
  have hA : ∀ q : Nat, s.heap.size ≤ q → A q := fun q h => by rw [← hAe]; exact Or.inr h
  have hS : va_S A s.heap s.heap [] := va_S.rf
  have hl := lv_entry ([.ref qt, .int p1, .int p2]) (n := 6) (Nat.le_of_ble_eq_true rfl)
  have hfr : entryFrame m args 6 = entryFrame m ([.ref qt, .int p1, .int p2] : List Value).toArray 6 := by rw [hav]
  rw [hfr, lg_entry_eq]
  generalize (lg_sl ([.ref qt, .int p1, .int p2]) ++ List.replicate (6 - (lg_sl ([.ref qt, .int p1, .int p2])).length) Slot.unset).toArray = ls at hl ⊢
  have hl : lv_has ls 6 [(0, .ref qt), (1, .int p1), (2, .int p2)] := hl
  obtain ⟨QQ, hQQ⟩ : ∃ QQ, QQ = MQ below (QI D A r [(qt, .inr (9, [.ref qt_book, .ref qt_now, .ref qt_flakes, .ref qt_leaks, .int v_music, .ref qt_ranks, .int v_sights, .ref qt_sight, .int v_signs, .ref qt_pad, .int v_freeAt, .int v_freeWho, .int v_reason, .int v_acts, .ref qt_gets, .ref qt_counts, .ref qt_worth, .ref qt_ways, .ref qt_image, .ref qt_isKept])), (qt_book, .inl (cI, 43, .inl v_book))]) args s 0 0 A := ⟨_, rfl⟩
  show W p l e rm_X10_look s m args below meth c s.heap [] 0 0 _ _
  rw [← hQQ]
  have hL38 : ∀ (n38 : Nat), ∀ (x3 : Int32) (x4 : Int32) (x5 : Int32) (H : Heap) (locs : List Loc) (ls : Array Slot), va_P D vwCl [(qt, .inr (9, [.ref qt_book, .ref qt_now, .ref qt_flakes, .ref qt_leaks, .int v_music, .ref qt_ranks, .int v_sights, .ref qt_sight, .int v_signs, .ref qt_pad, .int v_freeAt, .int v_freeWho, .int v_reason, .int v_acts, .ref qt_gets, .ref qt_counts, .ref qt_worth, .ref qt_ways, .ref qt_image, .ref qt_isKept])), (qt_book, .inl (cI, 43, .inl v_book))] H → va_D A [(qt, .inr (9, [.ref qt_book, .ref qt_now, .ref qt_flakes, .ref qt_leaks, .int v_music, .ref qt_ranks, .int v_sights, .ref qt_sight, .int v_signs, .ref qt_pad, .int v_freeAt, .int v_freeWho, .int v_reason, .int v_acts, .ref qt_gets, .ref qt_counts, .ref qt_worth, .ref qt_ways, .ref qt_image, .ref qt_isKept])), (qt_book, .inl (cI, 43, .inl v_book))] → va_S A s.heap H locs → lv_has ls 6 [(0, .ref qt), (2, .int p2), (3, .int x3), (4, .int x4), (5, .int x5)] → L_X10_look_38 v_book p1 p2 n38 x3 x4 x5 = some r → W p l e rm_X10_look s m args below meth c H locs 0 0 QQ (F0 m 38 ls []) := by
    intro n38
    induction n38 with
    | zero =>
      intro x3 x4 x5 H locs ls hP hD hS hl h
      have h : none = some r := h
      cases h
    | succ n38 ih38 =>
      intro x3 x4 x5 H locs ls hP hD hS hl h
      rw [L_X10_look_38.eq_2] at h
      refine lv_iload hx hb dX10_look_38 (lv_at hl 4 rfl) ?_
      refine lv_if_lt (tgt := 77) hx hb dX10_look_40 (by decide) (fun hc => ?_) (fun hc => ?_)
      · have h := if_t hc h
        refine lv_iload_n hx hb dX10_look_77 rfl (lv_at hl 1 rfl) ?_
        refine lv_iconst (v := 1) hx hb dX10_look_78 (by decide) ?_
        refine lv_icmp_ne (tgt := 87) hx hb dX10_look_79 (by decide) (fun hc => ?_) (fun hc => ?_)
        · have h := if_f hc h
          refine lv_iload_n hx hb dX10_look_87 rfl (lv_at hl 2 rfl) ?_
          refine lv_if_ge (tgt := 95) hx hb dX10_look_88 (by decide) (fun hc => ?_) (fun hc => ?_)
          · have h := if_t hc h
            refine lv_iload_n hx hb dX10_look_95 rfl (lv_at hl 2 rfl) ?_
            cases h
            rw [hQQ]
            exact gw_iret hx hb hr hlocks hP hD hS dX10_look_96
          · have h := if_f hc h
            refine lv_iconst (v := 0) hx hb dX10_look_91 (by decide) ?_
            refine lv_goto (tgt := 96) hx hb dX10_look_92 (by decide) ?_
            cases h
            rw [hQQ]
            exact gw_iret hx hb hr hlocks hP hD hS dX10_look_96
        · have h := if_t hc h
          refine lv_iload hx hb dX10_look_82 (lv_at hl 3 rfl) ?_
          refine lv_goto (tgt := 96) hx hb dX10_look_84 (by decide) ?_
          cases h
          rw [hQQ]
          exact gw_iret hx hb hr hlocks hP hD hS dX10_look_96
      · have h := if_f hc h
        refine lv_iload_n hx hb dX10_look_43 rfl (lv_at hl 2 rfl) ?_
        refine lv_bipush (v := 10) hx hb dX10_look_44 (by decide) ?_
        refine lv_aload_n hx hb dX10_look_46 rfl (lv_at hl 0 rfl) ?_
        refine va_get (D := D) (ci := 9) (C := RX10) (T := TX10) (N := 20) hx hb hts (fun _ hw => (List.mem_cons_of_mem _ (List.mem_append_right _ hw))) hown hE.1 hP 0 rfl rfl 0 (by decide) (hts (.fieldLink RX10 7 "GlobeCrownModel" "book" "[I") (List.mem_cons_of_mem _ (List.mem_append_left _ (List.mem_of_getElem? (i := 0) rfl)))) (fun _ h9 => h9) rfl dX10_look_47 ?_
        refine lv_bipush (v := 16) hx hb dX10_look_50 (by decide) ?_
        refine lv_iload hx hb dX10_look_52 (lv_at hl 4 rfl) ?_
        refine lv_iadd hx hb dX10_look_54 ?_
        obtain ⟨hg, h⟩ := gin_some h
        refine va_iald hx hb hE.1 hP 1 0 rfl rfl hg dX10_look_55 ?_
        refine lv_imul hx hb dX10_look_56 ?_
        refine lv_isub hx hb dX10_look_57 ?_
        refine lv_istore_n (lv' := [(3, .int (x3 - ((10 : Int32) * (v_book (Int32.toNatClampNeg ((16 : Int32) + x5)))))), (0, .ref qt), (2, .int p2), (4, .int x4), (5, .int x5)]) hx hb dX10_look_58 rfl hl (by decide) rfl (fun ls hl => ?_)
        refine lv_iinc (v := (x4 + (1 : Int32))) (lv' := [(4, .int (x4 + (1 : Int32))), (3, .int (x3 - ((10 : Int32) * (v_book (Int32.toNatClampNeg ((16 : Int32) + x5)))))), (0, .ref qt), (2, .int p2), (5, .int x5)]) hx hb dX10_look_59 hl (k := 3) rfl rfl (by decide) rfl (fun ls hl => ?_)
        refine lv_aload_n hx hb dX10_look_62 rfl (lv_at hl 2 rfl) ?_
        refine va_get (D := D) (ci := 9) (C := RX10) (T := TX10) (N := 20) hx hb hts (fun _ hw => (List.mem_cons_of_mem _ (List.mem_append_right _ hw))) hown hE.1 hP 0 rfl rfl 0 (by decide) (hts (.fieldLink RX10 7 "GlobeCrownModel" "book" "[I") (List.mem_cons_of_mem _ (List.mem_append_left _ (List.mem_of_getElem? (i := 0) rfl)))) (fun _ h9 => h9) rfl dX10_look_63 ?_
        refine lv_bipush (v := 32) hx hb dX10_look_66 (by decide) ?_
        refine lv_iload hx hb dX10_look_68 (lv_at hl 4 rfl) ?_
        refine lv_iadd hx hb dX10_look_70 ?_
        obtain ⟨hg, h⟩ := gin_some h
        refine va_iald hx hb hE.1 hP 1 0 rfl rfl hg dX10_look_71 ?_
        refine lv_istore (lv' := [(5, .int (v_book (Int32.toNatClampNeg ((32 : Int32) + x5)))), (4, .int (x4 + (1 : Int32))), (3, .int (x3 - ((10 : Int32) * (v_book (Int32.toNatClampNeg ((16 : Int32) + x5)))))), (0, .ref qt), (2, .int p2)]) hx hb dX10_look_72 hl (by decide) rfl (fun ls hl => ?_)
        refine lv_goto (tgt := 38) hx hb dX10_look_74 (by decide) ?_
        exact ih38 (x3 - ((10 : Int32) * (v_book (Int32.toNatClampNeg ((16 : Int32) + x5))))) (x4 + (1 : Int32)) (v_book (Int32.toNatClampNeg ((32 : Int32) + x5))) H locs ls hP hD hS (lv_sub hl [3, 4, 2, 1, 0] rfl) h
  have h := hf
  unfold f_X10_look at h
  refine gw_start hP hD hS (fun H locs hP hD hS => ?_)
  refine lv_aload_n hx hb dX10_look_0 rfl (lv_at hl 0 rfl) ?_
  refine lv_iload_n hx hb dX10_look_1 rfl (lv_at hl 1 rfl) ?_
  obtain ⟨r2, hc2, h⟩ := bd1_some h
  refine gw_ci (wr := []) (w2 := [(qt, .inr (9, [.ref qt_book, .ref qt_now, .ref qt_flakes, .ref qt_leaks, .int v_music, .ref qt_ranks, .int v_sights, .ref qt_sight, .int v_signs, .ref qt_pad, .int v_freeAt, .int v_freeWho, .int v_reason, .int v_acts, .ref qt_gets, .ref qt_counts, .ref qt_worth, .ref qt_ways, .ref qt_image, .ref qt_isKept])), (qt_book, .inl (cI, 43, .inl v_book))]) (gw_rV (n := 1) ⟨hx, hb, hml, hown, hts⟩ (C_X10_isThere l D cI cJ cZ H.size qt qt_book qt_now qt_flakes qt_leaks qt_ranks qt_sight qt_pad qt_gets qt_counts qt_worth qt_ways qt_image qt_isKept v_book v_music v_sights v_signs v_freeAt v_freeWho v_reason v_acts p1 r2 hc2) gX10_look_X10_isThere rfl rfl rfl hdV_X10_isThere ⟨Nat.le_of_ble_eq_true rfl, Nat.le_of_ble_eq_true rfl⟩ hE (hP.sub [0, 1] rfl) (hD.sub [0, 1] (by decide) rfl) 9 rfl 0 rfl rfl hl.1 (rest := []) rfl (Nat.le_of_ble_eq_true rfl) dX10_look_2 ⟨Nat.zero_le _, Nat.zero_le _⟩) hP hD hS hA [0, 1] [] rfl rfl rfl (by decide) rfl (fun H locs hP hD hS => ?_)
  refine lv_if_ne (tgt := 10) hx hb dX10_look_5 (by decide) (fun hc => ?_) (fun hc => ?_)
  · have h := if_f hc h
    refine lv_iload_n hx hb dX10_look_10 rfl (lv_at hl 2 rfl) ?_
    refine lv_iconst (v := 0) hx hb dX10_look_11 (by decide) ?_
    refine lv_iconst (v := 1) hx hb dX10_look_12 (by decide) ?_
    obtain ⟨r13, hc13, h⟩ := bd1_some h
    refine gw_ci (wr := [(qt, .inr (9, [.ref qt_book, .ref qt_now, .ref qt_flakes, .ref qt_leaks, .int v_music, .ref qt_ranks, .int v_sights, .ref qt_sight, .int v_signs, .ref qt_pad, .int v_freeAt, .int v_freeWho, .int v_reason, .int v_acts, .ref qt_gets, .ref qt_counts, .ref qt_worth, .ref qt_ways, .ref qt_image, .ref qt_isKept])), (qt_book, .inl (cI, 43, .inl v_book))]) (w2 := [(qt, .inr (9, [.ref qt_book, .ref qt_now, .ref qt_flakes, .ref qt_leaks, .int v_music, .ref qt_ranks, .int v_sights, .ref qt_sight, .int v_signs, .ref qt_pad, .int v_freeAt, .int v_freeWho, .int v_reason, .int v_acts, .ref qt_gets, .ref qt_counts, .ref qt_worth, .ref qt_ways, .ref qt_image, .ref qt_isKept])), (qt_book, .inl (cI, 43, .inl v_book))]) (gw_rS (n := 3) ⟨hx, hb, hml, hown, hts⟩ (C_X10_in l D cI cJ cZ H.size p2 (0 : Int32) (1 : Int32) r13 hc13) gX10_look_X10_in rfl rfl rfl hdS_X10_in ⟨Nat.le_of_ble_eq_true rfl, Nat.le_of_ble_eq_true rfl⟩ hE (hP.sub [] rfl) (hD.sub [] (by decide) rfl) rfl hl.1 (rest := []) rfl (Nat.le_of_ble_eq_true rfl) dX10_look_13 ⟨Nat.zero_le _, Nat.zero_le _⟩) hP hD hS hA [] [0, 1] rfl rfl rfl (by decide) rfl (fun H locs hP hD hS => ?_)
    refine lv_if_ne (tgt := 22) hx hb dX10_look_16 (by decide) (fun hc => ?_) (fun hc => ?_)
    · have h := if_f hc h
      refine lv_aload_n hx hb dX10_look_22 rfl (lv_at hl 0 rfl) ?_
      refine va_get (D := D) (ci := 9) (C := RX10) (T := TX10) (N := 20) hx hb hts (fun _ hw => (List.mem_cons_of_mem _ (List.mem_append_right _ hw))) hown hE.1 hP 0 rfl rfl 0 (by decide) (hts (.fieldLink RX10 7 "GlobeCrownModel" "book" "[I") (List.mem_cons_of_mem _ (List.mem_append_left _ (List.mem_of_getElem? (i := 0) rfl)))) (fun _ h9 => h9) rfl dX10_look_23 ?_
      refine lv_bipush (v := 8) hx hb dX10_look_26 (by decide) ?_
      refine lv_iload_n hx hb dX10_look_28 rfl (lv_at hl 1 rfl) ?_
      refine lv_iadd hx hb dX10_look_29 ?_
      obtain ⟨hg, h⟩ := gin_some h
      refine va_iald hx hb hE.1 hP 1 0 rfl rfl hg dX10_look_30 ?_
      refine lv_istore_n (lv' := [(3, .int (v_book (Int32.toNatClampNeg ((8 : Int32) + p1)))), (0, .ref qt), (1, .int p1), (2, .int p2)]) hx hb dX10_look_31 rfl hl (by decide) rfl (fun ls hl => ?_)
      refine lv_iconst (v := -1) hx hb dX10_look_32 (by decide) ?_
      refine lv_istore (lv' := [(4, .int (-1 : Int32)), (3, .int (v_book (Int32.toNatClampNeg ((8 : Int32) + p1)))), (0, .ref qt), (1, .int p1), (2, .int p2)]) hx hb dX10_look_33 hl (by decide) rfl (fun ls hl => ?_)
      refine lv_iload_n hx hb dX10_look_35 rfl (lv_at hl 3 rfl) ?_
      refine lv_istore (lv' := [(5, .int p1), (4, .int (-1 : Int32)), (3, .int (v_book (Int32.toNatClampNeg ((8 : Int32) + p1)))), (0, .ref qt), (1, .int p1), (2, .int p2)]) hx hb dX10_look_36 hl (by decide) rfl (fun ls hl => ?_)
      exact hL38 FU (v_book (Int32.toNatClampNeg ((8 : Int32) + p1))) (-1 : Int32) p1 H locs ls hP hD hS (lv_sub hl [3, 5, 2, 1, 0] rfl) h
    · have h := if_t hc h
      refine lv_bipush (v := -2) hx hb dX10_look_19 (by decide) ?_
      cases h
      rw [hQQ]
      exact gw_iret hx hb hr hlocks hP hD hS dX10_look_21
  · have h := if_t hc h
    refine lv_iconst (v := -1) hx hb dX10_look_8 (by decide) ?_
    cases h
    rw [hQQ]
    exact gw_iret hx hb hr hlocks hP hD hS dX10_look_9
theorem hdV_X10_look : yX10_look.cls = RX10 ∧ yX10_look.cls ≠ "java/lang/invoke/MethodHandle" ∧ yX10_look.cls ≠ "java/lang/invoke/VarHandle" ∧ (parseMethodDescriptor yX10_look.desc).map (fun d => d.parameters.length) = some 2 := by decide +kernel
def B_X10_just_155 (v_book : (Nat → Int32)) (p1 : Int32) (p2 : Int32) (rec49 : (Nat → Int32) → Int32 → Int32 → Int32 → Int32 → Int32 → Option (Int32 × (Nat → Int32) × Int32 × Int32)) (v_now : (Nat → Int32)) (v_freeAt : Int32) (v_freeWho : Int32) (x3 : Int32) (x4 : Int32) (x5 : Int32) (s0 : Int32) : Option (Int32 × (Nat → Int32) × Int32 × Int32) := (if s0 = (0 : Int32) then (rec49 v_now v_freeAt v_freeWho x3 x4 (x5 + (1 : Int32))) else (if x4 < (0 : Int32) then (rec49 v_now v_freeAt v_freeWho x3 x5 (x5 + (1 : Int32))) else (bd1 (f_X10_bits x5) (fun r169 => (bd1 (f_X10_bits x4) (fun r174 => (if r174 ≤ r169 then (rec49 v_now v_freeAt v_freeWho x3 x4 (x5 + (1 : Int32))) else (rec49 v_now v_freeAt v_freeWho x3 x5 (x5 + (1 : Int32))))))))))
def B_X10_just_154 (v_book : (Nat → Int32)) (p1 : Int32) (p2 : Int32) (rec49 : (Nat → Int32) → Int32 → Int32 → Int32 → Int32 → Int32 → Option (Int32 × (Nat → Int32) × Int32 × Int32)) (v_now : (Nat → Int32)) (v_freeAt : Int32) (v_freeWho : Int32) (x3 : Int32) (x4 : Int32) (x5 : Int32) : Option (Int32 × (Nat → Int32) × Int32 × Int32) := (B_X10_just_155 v_book p1 p2 rec49 v_now v_freeAt v_freeWho x3 x4 x5 (0 : Int32))
def L_X10_just_73 (v_book : (Nat → Int32)) (p1 : Int32) (p2 : Int32) (rec49 : (Nat → Int32) → Int32 → Int32 → Int32 → Int32 → Int32 → Option (Int32 × (Nat → Int32) × Int32 × Int32)) (rec63 : (Nat → Int32) → Int32 → Int32 → Int32 → Int32 → Int32 → Int32 → Int32 → Option (Int32 × (Nat → Int32) × Int32 × Int32)) : Nat → (Nat → Int32) → Int32 → Int32 → Int32 → Int32 → Int32 → Int32 → Int32 → Int32 → Option (Int32 × (Nat → Int32) × Int32 × Int32)
  | 0, _, _, _, _, _, _, _, _, _ => none
  | n + 1, v_now, v_freeAt, v_freeWho, x3, x4, x5, x6, x7, x8 => (if (8 : Int32) ≤ x8 then (rec63 v_now v_freeAt v_freeWho x3 x4 x5 x6 (x7 + (1 : Int32))) else (bd1 (f_X10_has x3 x7) (fun r85 => (if r85 = (0 : Int32) then ((L_X10_just_73 v_book p1 p2 rec49 rec63 n) v_now v_freeAt v_freeWho x3 x4 x5 (x6 ||| (0 : Int32)) x7 (x8 + (1 : Int32))) else (bd1 (f_X10_has x5 x8) (fun r95 => (if r95 = (0 : Int32) then ((L_X10_just_73 v_book p1 p2 rec49 rec63 n) v_now v_freeAt v_freeWho x3 x4 x5 (x6 ||| (0 : Int32)) x7 (x8 + (1 : Int32))) else (bd1 (f_X10_isWithin v_now x7 x8) (fun r106 => (if r106 = (0 : Int32) then ((L_X10_just_73 v_book p1 p2 rec49 rec63 n) v_now v_freeAt v_freeWho x3 x4 x5 (x6 ||| (0 : Int32)) x7 (x8 + (1 : Int32))) else ((L_X10_just_73 v_book p1 p2 rec49 rec63 n) v_now v_freeAt v_freeWho x3 x4 x5 (x6 ||| ((1 : Int32) <<< (x7 &&& 31))) x7 (x8 + (1 : Int32)))))))))))))
def L_X10_just_63 (v_book : (Nat → Int32)) (p1 : Int32) (p2 : Int32) (rec49 : (Nat → Int32) → Int32 → Int32 → Int32 → Int32 → Int32 → Option (Int32 × (Nat → Int32) × Int32 × Int32)) : Nat → (Nat → Int32) → Int32 → Int32 → Int32 → Int32 → Int32 → Int32 → Int32 → Option (Int32 × (Nat → Int32) × Int32 × Int32)
  | 0, _, _, _, _, _, _, _, _ => none
  | n + 1, v_now, v_freeAt, v_freeWho, x3, x4, x5, x6, x7 => (if (8 : Int32) ≤ x7 then (if (x5 &&& (x3 ^^^ (-1 : Int32))) = (0 : Int32) then (if x6 = p1 then (B_X10_just_155 v_book p1 p2 rec49 v_now v_freeAt v_freeWho x3 x4 x5 (1 : Int32)) else (B_X10_just_154 v_book p1 p2 rec49 v_now v_freeAt v_freeWho x3 x4 x5)) else (B_X10_just_154 v_book p1 p2 rec49 v_now v_freeAt v_freeWho x3 x4 x5)) else (L_X10_just_73 v_book p1 p2 rec49 (L_X10_just_63 v_book p1 p2 rec49 n) FU v_now v_freeAt v_freeWho x3 x4 x5 x6 x7 (0 : Int32)))
def L_X10_just_49 (v_book : (Nat → Int32)) (p1 : Int32) (p2 : Int32) : Nat → (Nat → Int32) → Int32 → Int32 → Int32 → Int32 → Int32 → Option (Int32 × (Nat → Int32) × Int32 × Int32)
  | 0, _, _, _, _, _, _ => none
  | n + 1, v_now, v_freeAt, v_freeWho, x3, x4, x5 => (if (256 : Int32) ≤ x5 then (if x4 < (0 : Int32) then (some (x4, v_now, v_freeAt, v_freeWho)) else (if p2 = (1 : Int32) then (some (x4, v_now, v_freeAt, v_freeWho)) else (bd1 (f_X10_bits x4) (fun r212 => (some (r212, v_now, v_freeAt, v_freeWho)))))) else (L_X10_just_63 v_book p1 p2 (L_X10_just_49 v_book p1 p2 n) FU v_now v_freeAt v_freeWho x3 x4 x5 (0 : Int32) (0 : Int32)))
def f_X10_just (v_book : (Nat → Int32)) (v_now : (Nat → Int32)) (v_freeAt : Int32) (v_freeWho : Int32) (p1 : Int32) (p2 : Int32) : Option (Int32 × (Nat → Int32) × Int32 × Int32) := (bd1 (f_X10_in p1 (0 : Int32) (255 : Int32)) (fun r5 => (if r5 = (0 : Int32) then (some ((-2 : Int32), v_now, v_freeAt, v_freeWho)) else (bd1 (f_X10_in p2 (0 : Int32) (1 : Int32)) (fun r14 => (if r14 = (0 : Int32) then (some ((-2 : Int32), v_now, v_freeAt, v_freeWho)) else (bd3 (f_X10_asNow v_book v_now v_freeAt v_freeWho) (fun u24v_now u24v_freeAt u24v_freeWho => (bd1 (f_X10_freeOnes u24v_now) (fun r35 => (L_X10_just_49 v_book p1 p2 FU u24v_now u24v_freeAt u24v_freeWho ((u24v_now (Int32.toNatClampNeg (40 : Int32))) &&& (r35 ^^^ (-1 : Int32))) (-6 : Int32) (0 : Int32))))))))))))
abbrev rm_X10_just : Room := { frames := 3, cells := 0, slots := 0, locals := 64 }
set_option maxHeartbeats 4000000 in
set_option maxRecDepth 100000 in
theorem C_X10_just (l : Launch) (D : va_G) (cI cJ cZ : ClassId) (sz : Nat) (qt qt_book qt_now qt_flakes qt_leaks qt_ranks qt_sight qt_pad qt_gets qt_counts qt_worth qt_ways qt_image qt_isKept : Nat) (v_book : (Nat → Int32)) (v_now : (Nat → Int32)) (v_music : Int32) (v_sights : Int32) (v_signs : Int32) (v_freeAt : Int32) (v_freeWho : Int32) (v_reason : Int32) (v_acts : Int32) (p1 : Int32) (p2 : Int32) (r : Int32) (w_now : (Nat → Int32)) (w_freeAt : Int32) (w_freeWho : Int32) (hf : f_X10_just v_book v_now v_freeAt v_freeWho p1 p2 = some (r, w_now, w_freeAt, w_freeWho)) : Met l yX10_just wsX10_just rm_X10_just (PR D cI cJ cZ [(qt, .inr (9, [.ref qt_book, .ref qt_now, .ref qt_flakes, .ref qt_leaks, .int v_music, .ref qt_ranks, .int v_sights, .ref qt_sight, .int v_signs, .ref qt_pad, .int v_freeAt, .int v_freeWho, .int v_reason, .int v_acts, .ref qt_gets, .ref qt_counts, .ref qt_worth, .ref qt_ways, .ref qt_image, .ref qt_isKept])), (qt_book, .inl (cI, 43, .inl v_book)), (qt_now, .inl (cI, 43, .inl v_now))] sz [.ref qt, .int p1, .int p2]) (QI D (va_A [(qt, .inr (9, [.ref qt_book, .ref qt_now, .ref qt_flakes, .ref qt_leaks, .int v_music, .ref qt_ranks, .int v_sights, .ref qt_sight, .int v_signs, .ref qt_pad, .int v_freeAt, .int v_freeWho, .int v_reason, .int v_acts, .ref qt_gets, .ref qt_counts, .ref qt_worth, .ref qt_ways, .ref qt_image, .ref qt_isKept])), (qt_book, .inl (cI, 43, .inl v_book)), (qt_now, .inl (cI, 43, .inl v_now))] sz) r [(qt, .inr (9, [.ref qt_book, .ref qt_now, .ref qt_flakes, .ref qt_leaks, .int v_music, .ref qt_ranks, .int v_sights, .ref qt_sight, .int v_signs, .ref qt_pad, .int w_freeAt, .int w_freeWho, .int v_reason, .int v_acts, .ref qt_gets, .ref qt_counts, .ref qt_worth, .ref qt_ways, .ref qt_image, .ref qt_isKept])), (qt_book, .inl (cI, 43, .inl v_book)), (qt_now, .inl (cI, 43, .inl w_now))]) 0 0 (va_A [(qt, .inr (9, [.ref qt_book, .ref qt_now, .ref qt_flakes, .ref qt_leaks, .int v_music, .ref qt_ranks, .int v_sights, .ref qt_sight, .int v_signs, .ref qt_pad, .int v_freeAt, .int v_freeWho, .int v_reason, .int v_acts, .ref qt_gets, .ref qt_counts, .ref qt_worth, .ref qt_ways, .ref qt_image, .ref qt_isKept])), (qt_book, .inl (cI, 43, .inl v_book)), (qt_now, .inl (cI, 43, .inl v_now))] sz) := by
  refine Met.ofW (cc := cX10_just) (maxL := 9) (ret := (some .int)) (by decide) rfl ?_
  intro p e s m args below meth c s₁ B hml hv
  obtain ⟨hav, hsz, hP, hD0, hE⟩ := hv
  have hx := B.exec
  have hb := B.bytes
  have hr := B.returns
  have hts := atoms_spec (ws := wsX10_just) B.pre
  have hown : s.vm.findClass RX10 = some m.cls := findClass_of_methodNamed B.named
  have hlocks := B.notSynchronized
  subst hsz
  have hD := hD0.self (sz := s.heap.size)
  generalize hAe : va_A [(qt, .inr (9, [.ref qt_book, .ref qt_now, .ref qt_flakes, .ref qt_leaks, .int v_music, .ref qt_ranks, .int v_sights, .ref qt_sight, .int v_signs, .ref qt_pad, .int v_freeAt, .int v_freeWho, .int v_reason, .int v_acts, .ref qt_gets, .ref qt_counts, .ref qt_worth, .ref qt_ways, .ref qt_image, .ref qt_isKept])), (qt_book, .inl (cI, 43, .inl v_book)), (qt_now, .inl (cI, 43, .inl v_now))] s.heap.size = A at hD ⊢
  have hA : ∀ q : Nat, s.heap.size ≤ q → A q := fun q h => by rw [← hAe]; exact Or.inr h
  have hS : va_S A s.heap s.heap [] := va_S.rf
  have hl := lv_entry ([.ref qt, .int p1, .int p2]) (n := 9) (Nat.le_of_ble_eq_true rfl)
  have hfr : entryFrame m args 9 = entryFrame m ([.ref qt, .int p1, .int p2] : List Value).toArray 9 := by rw [hav]
  rw [hfr, lg_entry_eq]
  generalize (lg_sl ([.ref qt, .int p1, .int p2]) ++ List.replicate (9 - (lg_sl ([.ref qt, .int p1, .int p2])).length) Slot.unset).toArray = ls at hl ⊢
  have hl : lv_has ls 9 [(0, .ref qt), (1, .int p1), (2, .int p2)] := hl
  obtain ⟨QQ, hQQ⟩ : ∃ QQ, QQ = MQ below (QI D A r [(qt, .inr (9, [.ref qt_book, .ref qt_now, .ref qt_flakes, .ref qt_leaks, .int v_music, .ref qt_ranks, .int v_sights, .ref qt_sight, .int v_signs, .ref qt_pad, .int w_freeAt, .int w_freeWho, .int v_reason, .int v_acts, .ref qt_gets, .ref qt_counts, .ref qt_worth, .ref qt_ways, .ref qt_image, .ref qt_isKept])), (qt_book, .inl (cI, 43, .inl v_book)), (qt_now, .inl (cI, 43, .inl w_now))]) args s 0 0 A := ⟨_, rfl⟩
  show W p l e rm_X10_just s m args below meth c s.heap [] 0 0 _ _
  rw [← hQQ]
  have hL49 : ∀ (n49 : Nat), ∀ (v_now : (Nat → Int32)) (v_freeAt : Int32) (v_freeWho : Int32) (x3 : Int32) (x4 : Int32) (x5 : Int32) (H : Heap) (locs : List Loc) (ls : Array Slot), va_P D vwCl [(qt, .inr (9, [.ref qt_book, .ref qt_now, .ref qt_flakes, .ref qt_leaks, .int v_music, .ref qt_ranks, .int v_sights, .ref qt_sight, .int v_signs, .ref qt_pad, .int v_freeAt, .int v_freeWho, .int v_reason, .int v_acts, .ref qt_gets, .ref qt_counts, .ref qt_worth, .ref qt_ways, .ref qt_image, .ref qt_isKept])), (qt_book, .inl (cI, 43, .inl v_book)), (qt_now, .inl (cI, 43, .inl v_now))] H → va_D A [(qt, .inr (9, [.ref qt_book, .ref qt_now, .ref qt_flakes, .ref qt_leaks, .int v_music, .ref qt_ranks, .int v_sights, .ref qt_sight, .int v_signs, .ref qt_pad, .int v_freeAt, .int v_freeWho, .int v_reason, .int v_acts, .ref qt_gets, .ref qt_counts, .ref qt_worth, .ref qt_ways, .ref qt_image, .ref qt_isKept])), (qt_book, .inl (cI, 43, .inl v_book)), (qt_now, .inl (cI, 43, .inl v_now))] → va_S A s.heap H locs → lv_has ls 9 [(0, .ref qt), (1, .int p1), (2, .int p2), (3, .int x3), (4, .int x4), (5, .int x5)] → L_X10_just_49 v_book p1 p2 n49 v_now v_freeAt v_freeWho x3 x4 x5 = some (r, w_now, w_freeAt, w_freeWho) → W p l e rm_X10_just s m args below meth c H locs 0 0 QQ (F0 m 49 ls []) := by
    intro n49
    induction n49 with
    | zero =>
      intro v_now v_freeAt v_freeWho x3 x4 x5 H locs ls hP hD hS hl h
      have h : none = some (r, w_now, w_freeAt, w_freeWho) := h
      cases h
    | succ n49 ih49 =>
      have hB155 : ∀ (v_now : (Nat → Int32)) (v_freeAt : Int32) (v_freeWho : Int32) (x3 : Int32) (x4 : Int32) (x5 : Int32) (s0 : Int32) (H : Heap) (locs : List Loc) (ls : Array Slot), va_P D vwCl [(qt, .inr (9, [.ref qt_book, .ref qt_now, .ref qt_flakes, .ref qt_leaks, .int v_music, .ref qt_ranks, .int v_sights, .ref qt_sight, .int v_signs, .ref qt_pad, .int v_freeAt, .int v_freeWho, .int v_reason, .int v_acts, .ref qt_gets, .ref qt_counts, .ref qt_worth, .ref qt_ways, .ref qt_image, .ref qt_isKept])), (qt_book, .inl (cI, 43, .inl v_book)), (qt_now, .inl (cI, 43, .inl v_now))] H → va_D A [(qt, .inr (9, [.ref qt_book, .ref qt_now, .ref qt_flakes, .ref qt_leaks, .int v_music, .ref qt_ranks, .int v_sights, .ref qt_sight, .int v_signs, .ref qt_pad, .int v_freeAt, .int v_freeWho, .int v_reason, .int v_acts, .ref qt_gets, .ref qt_counts, .ref qt_worth, .ref qt_ways, .ref qt_image, .ref qt_isKept])), (qt_book, .inl (cI, 43, .inl v_book)), (qt_now, .inl (cI, 43, .inl v_now))] → va_S A s.heap H locs → lv_has ls 9 [(0, .ref qt), (1, .int p1), (2, .int p2), (3, .int x3), (4, .int x4), (5, .int x5)] → B_X10_just_155 v_book p1 p2 (L_X10_just_49 v_book p1 p2 n49) v_now v_freeAt v_freeWho x3 x4 x5 s0 = some (r, w_now, w_freeAt, w_freeWho) → W p l e rm_X10_just s m args below meth c H locs 0 0 QQ (F0 m 155 ls [.int s0]) := by
        intro v_now v_freeAt v_freeWho x3 x4 x5 s0 H locs ls hP hD hS hl h
        unfold B_X10_just_155 at h
        refine lv_istore (lv' := [(7, .int s0), (0, .ref qt), (1, .int p1), (2, .int p2), (3, .int x3), (4, .int x4), (5, .int x5)]) hx hb dX10_just_155 hl (by decide) rfl (fun ls hl => ?_)
        refine lv_iload hx hb dX10_just_157 (lv_at hl 0 rfl) ?_
        refine lv_if_eq (tgt := 185) hx hb dX10_just_159 (by decide) (fun hc => ?_) (fun hc => ?_)
        · have h := if_t hc h
          refine lv_iload hx hb dX10_just_185 (lv_at hl 5 rfl) ?_
          refine lv_istore (lv' := [(4, .int x4), (7, .int s0), (0, .ref qt), (1, .int p1), (2, .int p2), (3, .int x3), (5, .int x5)]) hx hb dX10_just_187 hl (by decide) rfl (fun ls hl => ?_)
          refine lv_iinc (v := (x5 + (1 : Int32))) (lv' := [(5, .int (x5 + (1 : Int32))), (4, .int x4), (7, .int s0), (0, .ref qt), (1, .int p1), (2, .int p2), (3, .int x3)]) hx hb dX10_just_189 hl (k := 6) rfl rfl (by decide) rfl (fun ls hl => ?_)
          refine lv_goto (tgt := 49) hx hb dX10_just_192 (by decide) ?_
          exact ih49 v_now v_freeAt v_freeWho x3 x4 (x5 + (1 : Int32)) H locs ls hP hD hS (lv_sub hl [3, 4, 5, 6, 1, 0] rfl) h
        · have h := if_f hc h
          refine lv_iload hx hb dX10_just_162 (lv_at hl 5 rfl) ?_
          refine lv_if_lt (tgt := 180) hx hb dX10_just_164 (by decide) (fun hc => ?_) (fun hc => ?_)
          · have h := if_t hc h
            refine lv_iload hx hb dX10_just_180 (lv_at hl 6 rfl) ?_
            refine lv_goto (tgt := 187) hx hb dX10_just_182 (by decide) ?_
            refine lv_istore (lv' := [(4, .int x5), (7, .int s0), (0, .ref qt), (1, .int p1), (2, .int p2), (3, .int x3), (5, .int x5)]) hx hb dX10_just_187 hl (by decide) rfl (fun ls hl => ?_)
            refine lv_iinc (v := (x5 + (1 : Int32))) (lv' := [(5, .int (x5 + (1 : Int32))), (4, .int x5), (7, .int s0), (0, .ref qt), (1, .int p1), (2, .int p2), (3, .int x3)]) hx hb dX10_just_189 hl (k := 6) rfl rfl (by decide) rfl (fun ls hl => ?_)
            refine lv_goto (tgt := 49) hx hb dX10_just_192 (by decide) ?_
            exact ih49 v_now v_freeAt v_freeWho x3 x5 (x5 + (1 : Int32)) H locs ls hP hD hS (lv_sub hl [3, 4, 5, 6, 1, 0] rfl) h
          · have h := if_f hc h
            refine lv_iload hx hb dX10_just_167 (lv_at hl 6 rfl) ?_
            obtain ⟨r169, hc169, h⟩ := bd1_some h
            refine gw_ci (wr := [(qt, .inr (9, [.ref qt_book, .ref qt_now, .ref qt_flakes, .ref qt_leaks, .int v_music, .ref qt_ranks, .int v_sights, .ref qt_sight, .int v_signs, .ref qt_pad, .int v_freeAt, .int v_freeWho, .int v_reason, .int v_acts, .ref qt_gets, .ref qt_counts, .ref qt_worth, .ref qt_ways, .ref qt_image, .ref qt_isKept])), (qt_book, .inl (cI, 43, .inl v_book)), (qt_now, .inl (cI, 43, .inl v_now))]) (w2 := [(qt, .inr (9, [.ref qt_book, .ref qt_now, .ref qt_flakes, .ref qt_leaks, .int v_music, .ref qt_ranks, .int v_sights, .ref qt_sight, .int v_signs, .ref qt_pad, .int v_freeAt, .int v_freeWho, .int v_reason, .int v_acts, .ref qt_gets, .ref qt_counts, .ref qt_worth, .ref qt_ways, .ref qt_image, .ref qt_isKept])), (qt_book, .inl (cI, 43, .inl v_book)), (qt_now, .inl (cI, 43, .inl v_now))]) (gw_rS (n := 1) ⟨hx, hb, hml, hown, hts⟩ (C_X10_bits l D cI cJ cZ H.size x5 r169 hc169) gX10_just_X10_bits rfl rfl rfl hdS_X10_bits ⟨Nat.le_of_ble_eq_true rfl, Nat.le_of_ble_eq_true rfl⟩ hE (hP.sub [] rfl) (hD.sub [] (by decide) rfl) rfl hl.1 (rest := []) rfl (Nat.le_of_ble_eq_true rfl) dX10_just_169 ⟨Nat.zero_le _, Nat.zero_le _⟩) hP hD hS hA [] [0, 1, 2] rfl rfl rfl (by decide) rfl (fun H locs hP hD hS => ?_)
            refine lv_iload hx hb dX10_just_172 (lv_at hl 5 rfl) ?_
            obtain ⟨r174, hc174, h⟩ := bd1_some h
            refine gw_ci (wr := [(qt, .inr (9, [.ref qt_book, .ref qt_now, .ref qt_flakes, .ref qt_leaks, .int v_music, .ref qt_ranks, .int v_sights, .ref qt_sight, .int v_signs, .ref qt_pad, .int v_freeAt, .int v_freeWho, .int v_reason, .int v_acts, .ref qt_gets, .ref qt_counts, .ref qt_worth, .ref qt_ways, .ref qt_image, .ref qt_isKept])), (qt_book, .inl (cI, 43, .inl v_book)), (qt_now, .inl (cI, 43, .inl v_now))]) (w2 := [(qt, .inr (9, [.ref qt_book, .ref qt_now, .ref qt_flakes, .ref qt_leaks, .int v_music, .ref qt_ranks, .int v_sights, .ref qt_sight, .int v_signs, .ref qt_pad, .int v_freeAt, .int v_freeWho, .int v_reason, .int v_acts, .ref qt_gets, .ref qt_counts, .ref qt_worth, .ref qt_ways, .ref qt_image, .ref qt_isKept])), (qt_book, .inl (cI, 43, .inl v_book)), (qt_now, .inl (cI, 43, .inl v_now))]) (gw_rS (n := 1) ⟨hx, hb, hml, hown, hts⟩ (C_X10_bits l D cI cJ cZ H.size x4 r174 hc174) gX10_just_X10_bits rfl rfl rfl hdS_X10_bits ⟨Nat.le_of_ble_eq_true rfl, Nat.le_of_ble_eq_true rfl⟩ hE (hP.sub [] rfl) (hD.sub [] (by decide) rfl) rfl hl.1 (rest := [.int r169]) rfl (Nat.le_of_ble_eq_true rfl) dX10_just_174 ⟨Nat.zero_le _, Nat.zero_le _⟩) hP hD hS hA [] [0, 1, 2] rfl rfl rfl (by decide) rfl (fun H locs hP hD hS => ?_)
            refine lv_icmp_ge (tgt := 185) hx hb dX10_just_177 (by decide) (fun hc => ?_) (fun hc => ?_)
            · have h := if_t hc h
              refine lv_iload hx hb dX10_just_185 (lv_at hl 5 rfl) ?_
              refine lv_istore (lv' := [(4, .int x4), (7, .int s0), (0, .ref qt), (1, .int p1), (2, .int p2), (3, .int x3), (5, .int x5)]) hx hb dX10_just_187 hl (by decide) rfl (fun ls hl => ?_)
              refine lv_iinc (v := (x5 + (1 : Int32))) (lv' := [(5, .int (x5 + (1 : Int32))), (4, .int x4), (7, .int s0), (0, .ref qt), (1, .int p1), (2, .int p2), (3, .int x3)]) hx hb dX10_just_189 hl (k := 6) rfl rfl (by decide) rfl (fun ls hl => ?_)
              refine lv_goto (tgt := 49) hx hb dX10_just_192 (by decide) ?_
              exact ih49 v_now v_freeAt v_freeWho x3 x4 (x5 + (1 : Int32)) H locs ls hP hD hS (lv_sub hl [3, 4, 5, 6, 1, 0] rfl) h
            · have h := if_f hc h
              refine lv_iload hx hb dX10_just_180 (lv_at hl 6 rfl) ?_
              refine lv_goto (tgt := 187) hx hb dX10_just_182 (by decide) ?_
              refine lv_istore (lv' := [(4, .int x5), (7, .int s0), (0, .ref qt), (1, .int p1), (2, .int p2), (3, .int x3), (5, .int x5)]) hx hb dX10_just_187 hl (by decide) rfl (fun ls hl => ?_)
              refine lv_iinc (v := (x5 + (1 : Int32))) (lv' := [(5, .int (x5 + (1 : Int32))), (4, .int x5), (7, .int s0), (0, .ref qt), (1, .int p1), (2, .int p2), (3, .int x3)]) hx hb dX10_just_189 hl (k := 6) rfl rfl (by decide) rfl (fun ls hl => ?_)
              refine lv_goto (tgt := 49) hx hb dX10_just_192 (by decide) ?_
              exact ih49 v_now v_freeAt v_freeWho x3 x5 (x5 + (1 : Int32)) H locs ls hP hD hS (lv_sub hl [3, 4, 5, 6, 1, 0] rfl) h
      have hB154 : ∀ (v_now : (Nat → Int32)) (v_freeAt : Int32) (v_freeWho : Int32) (x3 : Int32) (x4 : Int32) (x5 : Int32) (H : Heap) (locs : List Loc) (ls : Array Slot), va_P D vwCl [(qt, .inr (9, [.ref qt_book, .ref qt_now, .ref qt_flakes, .ref qt_leaks, .int v_music, .ref qt_ranks, .int v_sights, .ref qt_sight, .int v_signs, .ref qt_pad, .int v_freeAt, .int v_freeWho, .int v_reason, .int v_acts, .ref qt_gets, .ref qt_counts, .ref qt_worth, .ref qt_ways, .ref qt_image, .ref qt_isKept])), (qt_book, .inl (cI, 43, .inl v_book)), (qt_now, .inl (cI, 43, .inl v_now))] H → va_D A [(qt, .inr (9, [.ref qt_book, .ref qt_now, .ref qt_flakes, .ref qt_leaks, .int v_music, .ref qt_ranks, .int v_sights, .ref qt_sight, .int v_signs, .ref qt_pad, .int v_freeAt, .int v_freeWho, .int v_reason, .int v_acts, .ref qt_gets, .ref qt_counts, .ref qt_worth, .ref qt_ways, .ref qt_image, .ref qt_isKept])), (qt_book, .inl (cI, 43, .inl v_book)), (qt_now, .inl (cI, 43, .inl v_now))] → va_S A s.heap H locs → lv_has ls 9 [(0, .ref qt), (1, .int p1), (2, .int p2), (3, .int x3), (4, .int x4), (5, .int x5)] → B_X10_just_154 v_book p1 p2 (L_X10_just_49 v_book p1 p2 n49) v_now v_freeAt v_freeWho x3 x4 x5 = some (r, w_now, w_freeAt, w_freeWho) → W p l e rm_X10_just s m args below meth c H locs 0 0 QQ (F0 m 154 ls []) := by
        intro v_now v_freeAt v_freeWho x3 x4 x5 H locs ls hP hD hS hl h
        unfold B_X10_just_154 at h
        refine lv_iconst (v := 0) hx hb dX10_just_154 (by decide) ?_
        exact hB155 v_now v_freeAt v_freeWho x3 x4 x5 (0 : Int32) H locs ls hP hD hS hl h
      have hL63 : ∀ (n63 : Nat), ∀ (v_now : (Nat → Int32)) (v_freeAt : Int32) (v_freeWho : Int32) (x3 : Int32) (x4 : Int32) (x5 : Int32) (x6 : Int32) (x7 : Int32) (H : Heap) (locs : List Loc) (ls : Array Slot), va_P D vwCl [(qt, .inr (9, [.ref qt_book, .ref qt_now, .ref qt_flakes, .ref qt_leaks, .int v_music, .ref qt_ranks, .int v_sights, .ref qt_sight, .int v_signs, .ref qt_pad, .int v_freeAt, .int v_freeWho, .int v_reason, .int v_acts, .ref qt_gets, .ref qt_counts, .ref qt_worth, .ref qt_ways, .ref qt_image, .ref qt_isKept])), (qt_book, .inl (cI, 43, .inl v_book)), (qt_now, .inl (cI, 43, .inl v_now))] H → va_D A [(qt, .inr (9, [.ref qt_book, .ref qt_now, .ref qt_flakes, .ref qt_leaks, .int v_music, .ref qt_ranks, .int v_sights, .ref qt_sight, .int v_signs, .ref qt_pad, .int v_freeAt, .int v_freeWho, .int v_reason, .int v_acts, .ref qt_gets, .ref qt_counts, .ref qt_worth, .ref qt_ways, .ref qt_image, .ref qt_isKept])), (qt_book, .inl (cI, 43, .inl v_book)), (qt_now, .inl (cI, 43, .inl v_now))] → va_S A s.heap H locs → lv_has ls 9 [(0, .ref qt), (1, .int p1), (2, .int p2), (3, .int x3), (4, .int x4), (5, .int x5), (6, .int x6), (7, .int x7)] → L_X10_just_63 v_book p1 p2 (L_X10_just_49 v_book p1 p2 n49) n63 v_now v_freeAt v_freeWho x3 x4 x5 x6 x7 = some (r, w_now, w_freeAt, w_freeWho) → W p l e rm_X10_just s m args below meth c H locs 0 0 QQ (F0 m 63 ls []) := by
        intro n63
        induction n63 with
        | zero =>
          intro v_now v_freeAt v_freeWho x3 x4 x5 x6 x7 H locs ls hP hD hS hl h
          have h : none = some (r, w_now, w_freeAt, w_freeWho) := h
          cases h
        | succ n63 ih63 =>
          have hL73 : ∀ (n73 : Nat), ∀ (v_now : (Nat → Int32)) (v_freeAt : Int32) (v_freeWho : Int32) (x3 : Int32) (x4 : Int32) (x5 : Int32) (x6 : Int32) (x7 : Int32) (x8 : Int32) (H : Heap) (locs : List Loc) (ls : Array Slot), va_P D vwCl [(qt, .inr (9, [.ref qt_book, .ref qt_now, .ref qt_flakes, .ref qt_leaks, .int v_music, .ref qt_ranks, .int v_sights, .ref qt_sight, .int v_signs, .ref qt_pad, .int v_freeAt, .int v_freeWho, .int v_reason, .int v_acts, .ref qt_gets, .ref qt_counts, .ref qt_worth, .ref qt_ways, .ref qt_image, .ref qt_isKept])), (qt_book, .inl (cI, 43, .inl v_book)), (qt_now, .inl (cI, 43, .inl v_now))] H → va_D A [(qt, .inr (9, [.ref qt_book, .ref qt_now, .ref qt_flakes, .ref qt_leaks, .int v_music, .ref qt_ranks, .int v_sights, .ref qt_sight, .int v_signs, .ref qt_pad, .int v_freeAt, .int v_freeWho, .int v_reason, .int v_acts, .ref qt_gets, .ref qt_counts, .ref qt_worth, .ref qt_ways, .ref qt_image, .ref qt_isKept])), (qt_book, .inl (cI, 43, .inl v_book)), (qt_now, .inl (cI, 43, .inl v_now))] → va_S A s.heap H locs → lv_has ls 9 [(0, .ref qt), (1, .int p1), (2, .int p2), (3, .int x3), (4, .int x4), (5, .int x5), (6, .int x6), (7, .int x7), (8, .int x8)] → L_X10_just_73 v_book p1 p2 (L_X10_just_49 v_book p1 p2 n49) (L_X10_just_63 v_book p1 p2 (L_X10_just_49 v_book p1 p2 n49) n63) n73 v_now v_freeAt v_freeWho x3 x4 x5 x6 x7 x8 = some (r, w_now, w_freeAt, w_freeWho) → W p l e rm_X10_just s m args below meth c H locs 0 0 QQ (F0 m 73 ls []) := by
            intro n73
            induction n73 with
            | zero =>
              intro v_now v_freeAt v_freeWho x3 x4 x5 x6 x7 x8 H locs ls hP hD hS hl h
              have h : none = some (r, w_now, w_freeAt, w_freeWho) := h
              cases h
            | succ n73 ih73 =>
              intro v_now v_freeAt v_freeWho x3 x4 x5 x6 x7 x8 H locs ls hP hD hS hl h
              rw [L_X10_just_73.eq_2] at h
              refine lv_iload hx hb dX10_just_73 (lv_at hl 8 rfl) ?_
              refine lv_bipush (v := 8) hx hb dX10_just_75 (by decide) ?_
              refine lv_icmp_ge (tgt := 129) hx hb dX10_just_77 (by decide) (fun hc => ?_) (fun hc => ?_)
              · have h := if_t hc h
                refine lv_iinc (v := (x7 + (1 : Int32))) (lv' := [(7, .int (x7 + (1 : Int32))), (0, .ref qt), (1, .int p1), (2, .int p2), (3, .int x3), (4, .int x4), (5, .int x5), (6, .int x6), (8, .int x8)]) hx hb dX10_just_129 hl (k := 7) rfl rfl (by decide) rfl (fun ls hl => ?_)
                refine lv_goto (tgt := 63) hx hb dX10_just_132 (by decide) ?_
                exact ih63 v_now v_freeAt v_freeWho x3 x4 x5 x6 (x7 + (1 : Int32)) H locs ls hP hD hS (lv_sub hl [1, 2, 3, 4, 5, 6, 7, 0] rfl) h
              · have h := if_f hc h
                refine lv_iload hx hb dX10_just_80 (lv_at hl 6 rfl) ?_
                refine lv_iload_n hx hb dX10_just_82 rfl (lv_at hl 3 rfl) ?_
                refine lv_iload hx hb dX10_just_83 (lv_at hl 7 rfl) ?_
                obtain ⟨r85, hc85, h⟩ := bd1_some h
                refine gw_ci (wr := [(qt, .inr (9, [.ref qt_book, .ref qt_now, .ref qt_flakes, .ref qt_leaks, .int v_music, .ref qt_ranks, .int v_sights, .ref qt_sight, .int v_signs, .ref qt_pad, .int v_freeAt, .int v_freeWho, .int v_reason, .int v_acts, .ref qt_gets, .ref qt_counts, .ref qt_worth, .ref qt_ways, .ref qt_image, .ref qt_isKept])), (qt_book, .inl (cI, 43, .inl v_book)), (qt_now, .inl (cI, 43, .inl v_now))]) (w2 := [(qt, .inr (9, [.ref qt_book, .ref qt_now, .ref qt_flakes, .ref qt_leaks, .int v_music, .ref qt_ranks, .int v_sights, .ref qt_sight, .int v_signs, .ref qt_pad, .int v_freeAt, .int v_freeWho, .int v_reason, .int v_acts, .ref qt_gets, .ref qt_counts, .ref qt_worth, .ref qt_ways, .ref qt_image, .ref qt_isKept])), (qt_book, .inl (cI, 43, .inl v_book)), (qt_now, .inl (cI, 43, .inl v_now))]) (gw_rS (n := 2) ⟨hx, hb, hml, hown, hts⟩ (C_X10_has l D cI cJ cZ H.size x3 x7 r85 hc85) gX10_just_X10_has rfl rfl rfl hdS_X10_has ⟨Nat.le_of_ble_eq_true rfl, Nat.le_of_ble_eq_true rfl⟩ hE (hP.sub [] rfl) (hD.sub [] (by decide) rfl) rfl hl.1 (rest := [.int x6]) rfl (Nat.le_of_ble_eq_true rfl) dX10_just_85 ⟨Nat.zero_le _, Nat.zero_le _⟩) hP hD hS hA [] [0, 1, 2] rfl rfl rfl (by decide) rfl (fun H locs hP hD hS => ?_)
                refine lv_if_eq (tgt := 119) hx hb dX10_just_88 (by decide) (fun hc => ?_) (fun hc => ?_)
                · have h := if_t hc h
                  refine lv_iconst (v := 0) hx hb dX10_just_119 (by decide) ?_
                  refine lv_ior hx hb dX10_just_120 ?_
                  refine lv_istore (lv' := [(6, .int (x6 ||| (0 : Int32))), (0, .ref qt), (1, .int p1), (2, .int p2), (3, .int x3), (4, .int x4), (5, .int x5), (7, .int x7), (8, .int x8)]) hx hb dX10_just_121 hl (by decide) rfl (fun ls hl => ?_)
                  refine lv_iinc (v := (x8 + (1 : Int32))) (lv' := [(8, .int (x8 + (1 : Int32))), (6, .int (x6 ||| (0 : Int32))), (0, .ref qt), (1, .int p1), (2, .int p2), (3, .int x3), (4, .int x4), (5, .int x5), (7, .int x7)]) hx hb dX10_just_123 hl (k := 8) rfl rfl (by decide) rfl (fun ls hl => ?_)
                  refine lv_goto (tgt := 73) hx hb dX10_just_126 (by decide) ?_
                  exact ih73 v_now v_freeAt v_freeWho x3 x4 x5 (x6 ||| (0 : Int32)) x7 (x8 + (1 : Int32)) H locs ls hP hD hS (lv_sub hl [2, 3, 4, 5, 6, 7, 1, 8, 0] rfl) h
                · have h := if_f hc h
                  refine lv_iload hx hb dX10_just_91 (lv_at hl 5 rfl) ?_
                  refine lv_iload hx hb dX10_just_93 (lv_at hl 8 rfl) ?_
                  obtain ⟨r95, hc95, h⟩ := bd1_some h
                  refine gw_ci (wr := [(qt, .inr (9, [.ref qt_book, .ref qt_now, .ref qt_flakes, .ref qt_leaks, .int v_music, .ref qt_ranks, .int v_sights, .ref qt_sight, .int v_signs, .ref qt_pad, .int v_freeAt, .int v_freeWho, .int v_reason, .int v_acts, .ref qt_gets, .ref qt_counts, .ref qt_worth, .ref qt_ways, .ref qt_image, .ref qt_isKept])), (qt_book, .inl (cI, 43, .inl v_book)), (qt_now, .inl (cI, 43, .inl v_now))]) (w2 := [(qt, .inr (9, [.ref qt_book, .ref qt_now, .ref qt_flakes, .ref qt_leaks, .int v_music, .ref qt_ranks, .int v_sights, .ref qt_sight, .int v_signs, .ref qt_pad, .int v_freeAt, .int v_freeWho, .int v_reason, .int v_acts, .ref qt_gets, .ref qt_counts, .ref qt_worth, .ref qt_ways, .ref qt_image, .ref qt_isKept])), (qt_book, .inl (cI, 43, .inl v_book)), (qt_now, .inl (cI, 43, .inl v_now))]) (gw_rS (n := 2) ⟨hx, hb, hml, hown, hts⟩ (C_X10_has l D cI cJ cZ H.size x5 x8 r95 hc95) gX10_just_X10_has rfl rfl rfl hdS_X10_has ⟨Nat.le_of_ble_eq_true rfl, Nat.le_of_ble_eq_true rfl⟩ hE (hP.sub [] rfl) (hD.sub [] (by decide) rfl) rfl hl.1 (rest := [.int x6]) rfl (Nat.le_of_ble_eq_true rfl) dX10_just_95 ⟨Nat.zero_le _, Nat.zero_le _⟩) hP hD hS hA [] [0, 1, 2] rfl rfl rfl (by decide) rfl (fun H locs hP hD hS => ?_)
                  refine lv_if_eq (tgt := 119) hx hb dX10_just_98 (by decide) (fun hc => ?_) (fun hc => ?_)
                  · have h := if_t hc h
                    refine lv_iconst (v := 0) hx hb dX10_just_119 (by decide) ?_
                    refine lv_ior hx hb dX10_just_120 ?_
                    refine lv_istore (lv' := [(6, .int (x6 ||| (0 : Int32))), (0, .ref qt), (1, .int p1), (2, .int p2), (3, .int x3), (4, .int x4), (5, .int x5), (7, .int x7), (8, .int x8)]) hx hb dX10_just_121 hl (by decide) rfl (fun ls hl => ?_)
                    refine lv_iinc (v := (x8 + (1 : Int32))) (lv' := [(8, .int (x8 + (1 : Int32))), (6, .int (x6 ||| (0 : Int32))), (0, .ref qt), (1, .int p1), (2, .int p2), (3, .int x3), (4, .int x4), (5, .int x5), (7, .int x7)]) hx hb dX10_just_123 hl (k := 8) rfl rfl (by decide) rfl (fun ls hl => ?_)
                    refine lv_goto (tgt := 73) hx hb dX10_just_126 (by decide) ?_
                    exact ih73 v_now v_freeAt v_freeWho x3 x4 x5 (x6 ||| (0 : Int32)) x7 (x8 + (1 : Int32)) H locs ls hP hD hS (lv_sub hl [2, 3, 4, 5, 6, 7, 1, 8, 0] rfl) h
                  · have h := if_f hc h
                    refine lv_aload_n hx hb dX10_just_101 rfl (lv_at hl 0 rfl) ?_
                    refine lv_iload hx hb dX10_just_102 (lv_at hl 7 rfl) ?_
                    refine lv_iload hx hb dX10_just_104 (lv_at hl 8 rfl) ?_
                    obtain ⟨r106, hc106, h⟩ := bd1_some h
                    refine gw_ci (wr := [(qt_book, .inl (cI, 43, .inl v_book))]) (w2 := [(qt_book, .inl (cI, 43, .inl v_book)), (qt, .inr (9, [.ref qt_book, .ref qt_now, .ref qt_flakes, .ref qt_leaks, .int v_music, .ref qt_ranks, .int v_sights, .ref qt_sight, .int v_signs, .ref qt_pad, .int v_freeAt, .int v_freeWho, .int v_reason, .int v_acts, .ref qt_gets, .ref qt_counts, .ref qt_worth, .ref qt_ways, .ref qt_image, .ref qt_isKept])), (qt_now, .inl (cI, 43, .inl v_now))]) (gw_rV (n := 2) ⟨hx, hb, hml, hown, hts⟩ (C_X10_isWithin l D cI cJ cZ H.size qt qt_book qt_now qt_flakes qt_leaks qt_ranks qt_sight qt_pad qt_gets qt_counts qt_worth qt_ways qt_image qt_isKept v_now v_music v_sights v_signs v_freeAt v_freeWho v_reason v_acts x7 x8 r106 hc106) gX10_just_X10_isWithin rfl rfl rfl hdV_X10_isWithin ⟨Nat.le_of_ble_eq_true rfl, Nat.le_of_ble_eq_true rfl⟩ hE (hP.sub [0, 2] rfl) (hD.sub [0, 2] (by decide) rfl) 9 rfl 0 rfl rfl hl.1 (rest := [.int x6]) rfl (Nat.le_of_ble_eq_true rfl) dX10_just_106 ⟨Nat.zero_le _, Nat.zero_le _⟩) hP hD hS hA [0, 2] [1] rfl rfl rfl (by decide) rfl (fun H locs hP hD hS => ?_)
                    refine lv_if_eq (tgt := 119) hx hb dX10_just_109 (by decide) (fun hc => ?_) (fun hc => ?_)
                    · have h := if_t hc h
                      refine lv_iconst (v := 0) hx hb dX10_just_119 (by decide) ?_
                      refine lv_ior hx hb dX10_just_120 ?_
                      refine lv_istore (lv' := [(6, .int (x6 ||| (0 : Int32))), (0, .ref qt), (1, .int p1), (2, .int p2), (3, .int x3), (4, .int x4), (5, .int x5), (7, .int x7), (8, .int x8)]) hx hb dX10_just_121 hl (by decide) rfl (fun ls hl => ?_)
                      refine lv_iinc (v := (x8 + (1 : Int32))) (lv' := [(8, .int (x8 + (1 : Int32))), (6, .int (x6 ||| (0 : Int32))), (0, .ref qt), (1, .int p1), (2, .int p2), (3, .int x3), (4, .int x4), (5, .int x5), (7, .int x7)]) hx hb dX10_just_123 hl (k := 8) rfl rfl (by decide) rfl (fun ls hl => ?_)
                      refine lv_goto (tgt := 73) hx hb dX10_just_126 (by decide) ?_
                      exact ih73 v_now v_freeAt v_freeWho x3 x4 x5 (x6 ||| (0 : Int32)) x7 (x8 + (1 : Int32)) H locs ls (hP.sub [1, 0, 2] rfl) (hD.sub [1, 0, 2] (by decide) rfl) hS (lv_sub hl [2, 3, 4, 5, 6, 7, 1, 8, 0] rfl) h
                    · have h := if_f hc h
                      refine lv_iconst (v := 1) hx hb dX10_just_112 (by decide) ?_
                      refine lv_iload hx hb dX10_just_113 (lv_at hl 7 rfl) ?_
                      refine lv_ishl hx hb dX10_just_115 ?_
                      refine lv_goto (tgt := 120) hx hb dX10_just_116 (by decide) ?_
                      refine lv_ior hx hb dX10_just_120 ?_
                      refine lv_istore (lv' := [(6, .int (x6 ||| ((1 : Int32) <<< (x7 &&& 31)))), (0, .ref qt), (1, .int p1), (2, .int p2), (3, .int x3), (4, .int x4), (5, .int x5), (7, .int x7), (8, .int x8)]) hx hb dX10_just_121 hl (by decide) rfl (fun ls hl => ?_)
                      refine lv_iinc (v := (x8 + (1 : Int32))) (lv' := [(8, .int (x8 + (1 : Int32))), (6, .int (x6 ||| ((1 : Int32) <<< (x7 &&& 31)))), (0, .ref qt), (1, .int p1), (2, .int p2), (3, .int x3), (4, .int x4), (5, .int x5), (7, .int x7)]) hx hb dX10_just_123 hl (k := 8) rfl rfl (by decide) rfl (fun ls hl => ?_)
                      refine lv_goto (tgt := 73) hx hb dX10_just_126 (by decide) ?_
                      exact ih73 v_now v_freeAt v_freeWho x3 x4 x5 (x6 ||| ((1 : Int32) <<< (x7 &&& 31))) x7 (x8 + (1 : Int32)) H locs ls (hP.sub [1, 0, 2] rfl) (hD.sub [1, 0, 2] (by decide) rfl) hS (lv_sub hl [2, 3, 4, 5, 6, 7, 1, 8, 0] rfl) h
          intro v_now v_freeAt v_freeWho x3 x4 x5 x6 x7 H locs ls hP hD hS hl h
          rw [L_X10_just_63.eq_2] at h
          refine lv_iload hx hb dX10_just_63 (lv_at hl 7 rfl) ?_
          refine lv_bipush (v := 8) hx hb dX10_just_65 (by decide) ?_
          refine lv_icmp_ge (tgt := 135) hx hb dX10_just_67 (by decide) (fun hc => ?_) (fun hc => ?_)
          · have h := if_t hc h
            refine lv_iload hx hb dX10_just_135 (lv_at hl 5 rfl) ?_
            refine lv_iload_n hx hb dX10_just_137 rfl (lv_at hl 3 rfl) ?_
            refine lv_iconst (v := -1) hx hb dX10_just_138 (by decide) ?_
            refine lv_ixor hx hb dX10_just_139 ?_
            refine lv_iand hx hb dX10_just_140 ?_
            refine lv_if_ne (tgt := 154) hx hb dX10_just_141 (by decide) (fun hc => ?_) (fun hc => ?_)
            · have h := if_f hc h
              exact hB154 v_now v_freeAt v_freeWho x3 x4 x5 H locs ls hP hD hS (lv_sub hl [0, 1, 2, 3, 4, 5] rfl) h
            · have h := if_t hc h
              refine lv_iload hx hb dX10_just_144 (lv_at hl 6 rfl) ?_
              refine lv_iload_n hx hb dX10_just_146 rfl (lv_at hl 1 rfl) ?_
              refine lv_icmp_ne (tgt := 154) hx hb dX10_just_147 (by decide) (fun hc => ?_) (fun hc => ?_)
              · have h := if_f hc h
                exact hB154 v_now v_freeAt v_freeWho x3 x4 x5 H locs ls hP hD hS (lv_sub hl [0, 1, 2, 3, 4, 5] rfl) h
              · have h := if_t hc h
                refine lv_iconst (v := 1) hx hb dX10_just_150 (by decide) ?_
                refine lv_goto (tgt := 155) hx hb dX10_just_151 (by decide) ?_
                exact hB155 v_now v_freeAt v_freeWho x3 x4 x5 (1 : Int32) H locs ls hP hD hS (lv_sub hl [0, 1, 2, 3, 4, 5] rfl) h
          · have h := if_f hc h
            refine lv_iconst (v := 0) hx hb dX10_just_70 (by decide) ?_
            refine lv_istore (lv' := [(8, .int (0 : Int32)), (0, .ref qt), (1, .int p1), (2, .int p2), (3, .int x3), (4, .int x4), (5, .int x5), (6, .int x6), (7, .int x7)]) hx hb dX10_just_71 hl (by decide) rfl (fun ls hl => ?_)
            exact hL73 FU v_now v_freeAt v_freeWho x3 x4 x5 x6 x7 (0 : Int32) H locs ls hP hD hS (lv_sub hl [1, 2, 3, 4, 5, 6, 7, 8, 0] rfl) h
      intro v_now v_freeAt v_freeWho x3 x4 x5 H locs ls hP hD hS hl h
      rw [L_X10_just_49.eq_2] at h
      refine lv_iload hx hb dX10_just_49 (lv_at hl 5 rfl) ?_
      refine lv_sipush (v := 256) hx hb dX10_just_51 (by decide) ?_
      refine lv_icmp_ge (tgt := 195) hx hb dX10_just_54 (by decide) (fun hc => ?_) (fun hc => ?_)
      · have h := if_t hc h
        refine lv_iload hx hb dX10_just_195 (lv_at hl 4 rfl) ?_
        refine lv_if_lt (tgt := 205) hx hb dX10_just_197 (by decide) (fun hc => ?_) (fun hc => ?_)
        · have h := if_t hc h
          refine lv_iload hx hb dX10_just_205 (lv_at hl 4 rfl) ?_
          refine lv_goto (tgt := 215) hx hb dX10_just_207 (by decide) ?_
          cases h
          rw [hQQ]
          exact gw_iret hx hb hr hlocks hP hD hS dX10_just_215
        · have h := if_f hc h
          refine lv_iload_n hx hb dX10_just_200 rfl (lv_at hl 2 rfl) ?_
          refine lv_iconst (v := 1) hx hb dX10_just_201 (by decide) ?_
          refine lv_icmp_ne (tgt := 210) hx hb dX10_just_202 (by decide) (fun hc => ?_) (fun hc => ?_)
          · have h := if_f hc h
            refine lv_iload hx hb dX10_just_210 (lv_at hl 4 rfl) ?_
            obtain ⟨r212, hc212, h⟩ := bd1_some h
            refine gw_ci (wr := [(qt, .inr (9, [.ref qt_book, .ref qt_now, .ref qt_flakes, .ref qt_leaks, .int v_music, .ref qt_ranks, .int v_sights, .ref qt_sight, .int v_signs, .ref qt_pad, .int v_freeAt, .int v_freeWho, .int v_reason, .int v_acts, .ref qt_gets, .ref qt_counts, .ref qt_worth, .ref qt_ways, .ref qt_image, .ref qt_isKept])), (qt_book, .inl (cI, 43, .inl v_book)), (qt_now, .inl (cI, 43, .inl v_now))]) (w2 := [(qt, .inr (9, [.ref qt_book, .ref qt_now, .ref qt_flakes, .ref qt_leaks, .int v_music, .ref qt_ranks, .int v_sights, .ref qt_sight, .int v_signs, .ref qt_pad, .int v_freeAt, .int v_freeWho, .int v_reason, .int v_acts, .ref qt_gets, .ref qt_counts, .ref qt_worth, .ref qt_ways, .ref qt_image, .ref qt_isKept])), (qt_book, .inl (cI, 43, .inl v_book)), (qt_now, .inl (cI, 43, .inl v_now))]) (gw_rS (n := 1) ⟨hx, hb, hml, hown, hts⟩ (C_X10_bits l D cI cJ cZ H.size x4 r212 hc212) gX10_just_X10_bits rfl rfl rfl hdS_X10_bits ⟨Nat.le_of_ble_eq_true rfl, Nat.le_of_ble_eq_true rfl⟩ hE (hP.sub [] rfl) (hD.sub [] (by decide) rfl) rfl hl.1 (rest := []) rfl (Nat.le_of_ble_eq_true rfl) dX10_just_212 ⟨Nat.zero_le _, Nat.zero_le _⟩) hP hD hS hA [] [0, 1, 2] rfl rfl rfl (by decide) rfl (fun H locs hP hD hS => ?_)
            cases h
            rw [hQQ]
            exact gw_iret hx hb hr hlocks hP hD hS dX10_just_215
          · have h := if_t hc h
            refine lv_iload hx hb dX10_just_205 (lv_at hl 4 rfl) ?_
            refine lv_goto (tgt := 215) hx hb dX10_just_207 (by decide) ?_
            cases h
            rw [hQQ]
            exact gw_iret hx hb hr hlocks hP hD hS dX10_just_215
      · have h := if_f hc h
        refine lv_iconst (v := 0) hx hb dX10_just_57 (by decide) ?_
        refine lv_istore (lv' := [(6, .int (0 : Int32)), (0, .ref qt), (1, .int p1), (2, .int p2), (3, .int x3), (4, .int x4), (5, .int x5)]) hx hb dX10_just_58 hl (by decide) rfl (fun ls hl => ?_)
        refine lv_iconst (v := 0) hx hb dX10_just_60 (by decide) ?_
        refine lv_istore (lv' := [(7, .int (0 : Int32)), (6, .int (0 : Int32)), (0, .ref qt), (1, .int p1), (2, .int p2), (3, .int x3), (4, .int x4), (5, .int x5)]) hx hb dX10_just_61 hl (by decide) rfl (fun ls hl => ?_)
        exact hL63 FU v_now v_freeAt v_freeWho x3 x4 x5 (0 : Int32) (0 : Int32) H locs ls hP hD hS (lv_sub hl [2, 3, 4, 5, 6, 7, 1, 0] rfl) h
  have h := hf
  unfold f_X10_just at h
  refine gw_start hP hD hS (fun H locs hP hD hS => ?_)
  refine lv_iload_n hx hb dX10_just_0 rfl (lv_at hl 1 rfl) ?_
  refine lv_iconst (v := 0) hx hb dX10_just_1 (by decide) ?_
  refine lv_sipush (v := 255) hx hb dX10_just_2 (by decide) ?_
  obtain ⟨r5, hc5, h⟩ := bd1_some h
  refine gw_ci (wr := [(qt, .inr (9, [.ref qt_book, .ref qt_now, .ref qt_flakes, .ref qt_leaks, .int v_music, .ref qt_ranks, .int v_sights, .ref qt_sight, .int v_signs, .ref qt_pad, .int v_freeAt, .int v_freeWho, .int v_reason, .int v_acts, .ref qt_gets, .ref qt_counts, .ref qt_worth, .ref qt_ways, .ref qt_image, .ref qt_isKept])), (qt_book, .inl (cI, 43, .inl v_book)), (qt_now, .inl (cI, 43, .inl v_now))]) (w2 := [(qt, .inr (9, [.ref qt_book, .ref qt_now, .ref qt_flakes, .ref qt_leaks, .int v_music, .ref qt_ranks, .int v_sights, .ref qt_sight, .int v_signs, .ref qt_pad, .int v_freeAt, .int v_freeWho, .int v_reason, .int v_acts, .ref qt_gets, .ref qt_counts, .ref qt_worth, .ref qt_ways, .ref qt_image, .ref qt_isKept])), (qt_book, .inl (cI, 43, .inl v_book)), (qt_now, .inl (cI, 43, .inl v_now))]) (gw_rS (n := 3) ⟨hx, hb, hml, hown, hts⟩ (C_X10_in l D cI cJ cZ H.size p1 (0 : Int32) (255 : Int32) r5 hc5) gX10_just_X10_in rfl rfl rfl hdS_X10_in ⟨Nat.le_of_ble_eq_true rfl, Nat.le_of_ble_eq_true rfl⟩ hE (hP.sub [] rfl) (hD.sub [] (by decide) rfl) rfl hl.1 (rest := []) rfl (Nat.le_of_ble_eq_true rfl) dX10_just_5 ⟨Nat.zero_le _, Nat.zero_le _⟩) hP hD hS hA [] [0, 1, 2] rfl rfl rfl (by decide) rfl (fun H locs hP hD hS => ?_)
  refine lv_if_eq (tgt := 20) hx hb dX10_just_8 (by decide) (fun hc => ?_) (fun hc => ?_)
  · have h := if_t hc h
    refine lv_bipush (v := -2) hx hb dX10_just_20 (by decide) ?_
    cases h
    rw [hQQ]
    exact gw_iret hx hb hr hlocks hP hD hS dX10_just_22
  · have h := if_f hc h
    refine lv_iload_n hx hb dX10_just_11 rfl (lv_at hl 2 rfl) ?_
    refine lv_iconst (v := 0) hx hb dX10_just_12 (by decide) ?_
    refine lv_iconst (v := 1) hx hb dX10_just_13 (by decide) ?_
    obtain ⟨r14, hc14, h⟩ := bd1_some h
    refine gw_ci (wr := [(qt, .inr (9, [.ref qt_book, .ref qt_now, .ref qt_flakes, .ref qt_leaks, .int v_music, .ref qt_ranks, .int v_sights, .ref qt_sight, .int v_signs, .ref qt_pad, .int v_freeAt, .int v_freeWho, .int v_reason, .int v_acts, .ref qt_gets, .ref qt_counts, .ref qt_worth, .ref qt_ways, .ref qt_image, .ref qt_isKept])), (qt_book, .inl (cI, 43, .inl v_book)), (qt_now, .inl (cI, 43, .inl v_now))]) (w2 := [(qt, .inr (9, [.ref qt_book, .ref qt_now, .ref qt_flakes, .ref qt_leaks, .int v_music, .ref qt_ranks, .int v_sights, .ref qt_sight, .int v_signs, .ref qt_pad, .int v_freeAt, .int v_freeWho, .int v_reason, .int v_acts, .ref qt_gets, .ref qt_counts, .ref qt_worth, .ref qt_ways, .ref qt_image, .ref qt_isKept])), (qt_book, .inl (cI, 43, .inl v_book)), (qt_now, .inl (cI, 43, .inl v_now))]) (gw_rS (n := 3) ⟨hx, hb, hml, hown, hts⟩ (C_X10_in l D cI cJ cZ H.size p2 (0 : Int32) (1 : Int32) r14 hc14) gX10_just_X10_in rfl rfl rfl hdS_X10_in ⟨Nat.le_of_ble_eq_true rfl, Nat.le_of_ble_eq_true rfl⟩ hE (hP.sub [] rfl) (hD.sub [] (by decide) rfl) rfl hl.1 (rest := []) rfl (Nat.le_of_ble_eq_true rfl) dX10_just_14 ⟨Nat.zero_le _, Nat.zero_le _⟩) hP hD hS hA [] [0, 1, 2] rfl rfl rfl (by decide) rfl (fun H locs hP hD hS => ?_)
    refine lv_if_ne (tgt := 23) hx hb dX10_just_17 (by decide) (fun hc => ?_) (fun hc => ?_)
    · have h := if_f hc h
      refine lv_aload_n hx hb dX10_just_23 rfl (lv_at hl 0 rfl) ?_
      obtain ⟨u24v_now, u24v_freeAt, u24v_freeWho, hc24, h⟩ := bd3_some h
      refine gw_cv (wr := []) (w2 := [(qt, .inr (9, [.ref qt_book, .ref qt_now, .ref qt_flakes, .ref qt_leaks, .int v_music, .ref qt_ranks, .int v_sights, .ref qt_sight, .int v_signs, .ref qt_pad, .int u24v_freeAt, .int u24v_freeWho, .int v_reason, .int v_acts, .ref qt_gets, .ref qt_counts, .ref qt_worth, .ref qt_ways, .ref qt_image, .ref qt_isKept])), (qt_book, .inl (cI, 43, .inl v_book)), (qt_now, .inl (cI, 43, .inl u24v_now))]) (gw_rV (n := 0) ⟨hx, hb, hml, hown, hts⟩ (C_X10_asNow l D cI cJ cZ H.size qt qt_book qt_now qt_flakes qt_leaks qt_ranks qt_sight qt_pad qt_gets qt_counts qt_worth qt_ways qt_image qt_isKept v_book v_now v_music v_sights v_signs v_freeAt v_freeWho v_reason v_acts u24v_now u24v_freeAt u24v_freeWho hc24) gX10_just_X10_asNow rfl rfl rfl hdV_X10_asNow ⟨Nat.le_of_ble_eq_true rfl, Nat.le_of_ble_eq_true rfl⟩ hE (hP.sub [0, 1, 2] rfl) (hD.sub [0, 1, 2] (by decide) rfl) 9 rfl 0 rfl rfl hl.1 (rest := []) rfl (Nat.le_of_ble_eq_true rfl) dX10_just_24 ⟨Nat.zero_le _, Nat.zero_le _⟩) hP hD hS hA [0, 1, 2] [] rfl rfl rfl (by decide) rfl (fun H locs hP hD hS => ?_)
      refine lv_aload_n hx hb dX10_just_27 rfl (lv_at hl 0 rfl) ?_
      refine va_get (D := D) (ci := 9) (C := RX10) (T := TX10) (N := 20) hx hb hts (fun _ hw => (List.mem_cons_of_mem _ (List.mem_append_right _ hw))) hown hE.1 hP 0 rfl rfl 1 (by decide) (hts (.fieldLink RX10 13 "GlobeCrownModel" "now" "[I") (List.mem_cons_of_mem _ (List.mem_append_left _ (List.mem_append_left _ (List.mem_of_getElem? (i := 0) rfl))))) (fun _ h9 => h9) rfl dX10_just_28 ?_
      refine lv_bipush (v := 40) hx hb dX10_just_31 (by decide) ?_
      refine va_iald hx hb hE.1 hP 2 0 rfl rfl (jinb_in (by decide)) dX10_just_33 ?_
      refine lv_aload_n hx hb dX10_just_34 rfl (lv_at hl 0 rfl) ?_
      obtain ⟨r35, hc35, h⟩ := bd1_some h
      refine gw_ci (wr := [(qt_book, .inl (cI, 43, .inl v_book))]) (w2 := [(qt_book, .inl (cI, 43, .inl v_book)), (qt, .inr (9, [.ref qt_book, .ref qt_now, .ref qt_flakes, .ref qt_leaks, .int v_music, .ref qt_ranks, .int v_sights, .ref qt_sight, .int v_signs, .ref qt_pad, .int u24v_freeAt, .int u24v_freeWho, .int v_reason, .int v_acts, .ref qt_gets, .ref qt_counts, .ref qt_worth, .ref qt_ways, .ref qt_image, .ref qt_isKept])), (qt_now, .inl (cI, 43, .inl u24v_now))]) (gw_rV (n := 0) ⟨hx, hb, hml, hown, hts⟩ (C_X10_freeOnes l D cI cJ cZ H.size qt qt_book qt_now qt_flakes qt_leaks qt_ranks qt_sight qt_pad qt_gets qt_counts qt_worth qt_ways qt_image qt_isKept u24v_now v_music v_sights v_signs u24v_freeAt u24v_freeWho v_reason v_acts r35 hc35) gX10_just_X10_freeOnes rfl rfl rfl hdV_X10_freeOnes ⟨Nat.le_of_ble_eq_true rfl, Nat.le_of_ble_eq_true rfl⟩ hE (hP.sub [0, 2] rfl) (hD.sub [0, 2] (by decide) rfl) 9 rfl 0 rfl rfl hl.1 (rest := [.int (u24v_now (Int32.toNatClampNeg (40 : Int32)))]) rfl (Nat.le_of_ble_eq_true rfl) dX10_just_35 ⟨Nat.zero_le _, Nat.zero_le _⟩) hP hD hS hA [0, 2] [1] rfl rfl rfl (by decide) rfl (fun H locs hP hD hS => ?_)
      refine lv_iconst (v := -1) hx hb dX10_just_38 (by decide) ?_
      refine lv_ixor hx hb dX10_just_39 ?_
      refine lv_iand hx hb dX10_just_40 ?_
      refine lv_istore_n (lv' := [(3, .int ((u24v_now (Int32.toNatClampNeg (40 : Int32))) &&& (r35 ^^^ (-1 : Int32)))), (0, .ref qt), (1, .int p1), (2, .int p2)]) hx hb dX10_just_41 rfl hl (by decide) rfl (fun ls hl => ?_)
      refine lv_bipush (v := -6) hx hb dX10_just_42 (by decide) ?_
      refine lv_istore (lv' := [(4, .int (-6 : Int32)), (3, .int ((u24v_now (Int32.toNatClampNeg (40 : Int32))) &&& (r35 ^^^ (-1 : Int32)))), (0, .ref qt), (1, .int p1), (2, .int p2)]) hx hb dX10_just_44 hl (by decide) rfl (fun ls hl => ?_)
      refine lv_iconst (v := 0) hx hb dX10_just_46 (by decide) ?_
      refine lv_istore (lv' := [(5, .int (0 : Int32)), (4, .int (-6 : Int32)), (3, .int ((u24v_now (Int32.toNatClampNeg (40 : Int32))) &&& (r35 ^^^ (-1 : Int32)))), (0, .ref qt), (1, .int p1), (2, .int p2)]) hx hb dX10_just_47 hl (by decide) rfl (fun ls hl => ?_)
      exact hL49 FU u24v_now u24v_freeAt u24v_freeWho ((u24v_now (Int32.toNatClampNeg (40 : Int32))) &&& (r35 ^^^ (-1 : Int32))) (-6 : Int32) (0 : Int32) H locs ls (hP.sub [1, 0, 2] rfl) (hD.sub [1, 0, 2] (by decide) rfl) hS (lv_sub hl [3, 4, 5, 2, 1, 0] rfl) h
    · have h := if_t hc h
      refine lv_bipush (v := -2) hx hb dX10_just_20 (by decide) ?_
      cases h
      rw [hQQ]
      exact gw_iret hx hb hr hlocks hP hD hS dX10_just_22
theorem hdV_X10_just : yX10_just.cls = RX10 ∧ yX10_just.cls ≠ "java/lang/invoke/MethodHandle" ∧ yX10_just.cls ≠ "java/lang/invoke/VarHandle" ∧ (parseMethodDescriptor yX10_just.desc).map (fun d => d.parameters.length) = some 2 := by decide +kernel
def B_X10_fill_75 (v_book : (Nat → Int32)) (v_leaks : (Nat → Int32)) (p1 : Int32) (rec17 : Int32 → Int32 → Option (Int32)) (rec34 : Int32 → Int32 → Int32 → Int32 → Option (Int32)) (x2 : Int32) (x3 : Int32) (x4 : Int32) (x5 : Int32) : Option (Int32) := (gin x3 8 (rec34 x2 x3 (x4 - (v_leaks (Int32.toNatClampNeg x3))) (x5 + (1 : Int32))))
def L_X10_fill_34 (v_book : (Nat → Int32)) (v_leaks : (Nat → Int32)) (p1 : Int32) (rec17 : Int32 → Int32 → Option (Int32)) : Nat → Int32 → Int32 → Int32 → Int32 → Option (Int32)
  | 0, _, _, _, _ => none
  | n + 1, x2, x3, x4, x5 => (if p1 ≤ x5 then (rec17 x2 (x3 + (1 : Int32))) else (bd1 (f_X10_isThere v_book x3) (fun r42 => (if r42 = (0 : Int32) then (rec17 x2 (x3 + (1 : Int32))) else (gin x3 43 (if (v_book (Int32.toNatClampNeg x3)) ≤ (0 : Int32) then (rec17 x2 (x3 + (1 : Int32))) else (gin x3 8 (if (v_leaks (Int32.toNatClampNeg x3)) < x4 then (B_X10_fill_75 v_book v_leaks p1 rec17 (L_X10_fill_34 v_book v_leaks p1 rec17 n) x2 x3 x4 x5) else (B_X10_fill_75 v_book v_leaks p1 rec17 (L_X10_fill_34 v_book v_leaks p1 rec17 n) (x2 + (1 : Int32)) x3 (99 : Int32) x5)))))))))
def L_X10_fill_17 (v_book : (Nat → Int32)) (v_leaks : (Nat → Int32)) (p1 : Int32) : Nat → Int32 → Int32 → Option (Int32)
  | 0, _, _ => none
  | n + 1, x2, x3 => (if (8 : Int32) ≤ x3 then (some x2) else (gin x3 43 (L_X10_fill_34 v_book v_leaks p1 (L_X10_fill_17 v_book v_leaks p1 n) FU x2 x3 (v_book (Int32.toNatClampNeg x3)) (0 : Int32))))
def f_X10_fill (v_book : (Nat → Int32)) (v_leaks : (Nat → Int32)) (p1 : Int32) : Option (Int32) := (bd1 (f_X10_in p1 (0 : Int32) (99 : Int32)) (fun r4 => (if r4 = (0 : Int32) then (some (-2 : Int32)) else (L_X10_fill_17 v_book v_leaks p1 FU (0 : Int32) (0 : Int32)))))
abbrev rm_X10_fill : Room := { frames := 2, cells := 0, slots := 0, locals := 43 }
set_option maxHeartbeats 4000000 in
set_option maxRecDepth 100000 in
theorem C_X10_fill (l : Launch) (D : va_G) (cI cJ cZ : ClassId) (sz : Nat) (qt qt_book qt_now qt_flakes qt_leaks qt_ranks qt_sight qt_pad qt_gets qt_counts qt_worth qt_ways qt_image qt_isKept : Nat) (v_book : (Nat → Int32)) (v_leaks : (Nat → Int32)) (v_music : Int32) (v_sights : Int32) (v_signs : Int32) (v_freeAt : Int32) (v_freeWho : Int32) (v_reason : Int32) (v_acts : Int32) (p1 : Int32) (r : Int32) (hf : f_X10_fill v_book v_leaks p1 = some r) : Met l yX10_fill wsX10_fill rm_X10_fill (PR D cI cJ cZ [(qt, .inr (9, [.ref qt_book, .ref qt_now, .ref qt_flakes, .ref qt_leaks, .int v_music, .ref qt_ranks, .int v_sights, .ref qt_sight, .int v_signs, .ref qt_pad, .int v_freeAt, .int v_freeWho, .int v_reason, .int v_acts, .ref qt_gets, .ref qt_counts, .ref qt_worth, .ref qt_ways, .ref qt_image, .ref qt_isKept])), (qt_book, .inl (cI, 43, .inl v_book)), (qt_leaks, .inl (cI, 8, .inl v_leaks))] sz [.ref qt, .int p1]) (QI D (va_A [(qt, .inr (9, [.ref qt_book, .ref qt_now, .ref qt_flakes, .ref qt_leaks, .int v_music, .ref qt_ranks, .int v_sights, .ref qt_sight, .int v_signs, .ref qt_pad, .int v_freeAt, .int v_freeWho, .int v_reason, .int v_acts, .ref qt_gets, .ref qt_counts, .ref qt_worth, .ref qt_ways, .ref qt_image, .ref qt_isKept])), (qt_book, .inl (cI, 43, .inl v_book)), (qt_leaks, .inl (cI, 8, .inl v_leaks))] sz) r [(qt, .inr (9, [.ref qt_book, .ref qt_now, .ref qt_flakes, .ref qt_leaks, .int v_music, .ref qt_ranks, .int v_sights, .ref qt_sight, .int v_signs, .ref qt_pad, .int v_freeAt, .int v_freeWho, .int v_reason, .int v_acts, .ref qt_gets, .ref qt_counts, .ref qt_worth, .ref qt_ways, .ref qt_image, .ref qt_isKept])), (qt_book, .inl (cI, 43, .inl v_book)), (qt_leaks, .inl (cI, 8, .inl v_leaks))]) 0 0 (va_A [(qt, .inr (9, [.ref qt_book, .ref qt_now, .ref qt_flakes, .ref qt_leaks, .int v_music, .ref qt_ranks, .int v_sights, .ref qt_sight, .int v_signs, .ref qt_pad, .int v_freeAt, .int v_freeWho, .int v_reason, .int v_acts, .ref qt_gets, .ref qt_counts, .ref qt_worth, .ref qt_ways, .ref qt_image, .ref qt_isKept])), (qt_book, .inl (cI, 43, .inl v_book)), (qt_leaks, .inl (cI, 8, .inl v_leaks))] sz) := by
  refine Met.ofW (cc := cX10_fill) (maxL := 6) (ret := (some .int)) (by decide) rfl ?_
  intro p e s m args below meth c s₁ B hml hv
  obtain ⟨hav, hsz, hP, hD0, hE⟩ := hv
  have hx := B.exec
  have hb := B.bytes
  have hr := B.returns
  have hts := atoms_spec (ws := wsX10_fill) B.pre
  have hown : s.vm.findClass RX10 = some m.cls := findClass_of_methodNamed B.named
  have hlocks := B.notSynchronized
  subst hsz
  have hD := hD0.self (sz := s.heap.size)
  generalize hAe : va_A [(qt, .inr (9, [.ref qt_book, .ref qt_now, .ref qt_flakes, .ref qt_leaks, .int v_music, .ref qt_ranks, .int v_sights, .ref qt_sight, .int v_signs, .ref qt_pad, .int v_freeAt, .int v_freeWho, .int v_reason, .int v_acts, .ref qt_gets, .ref qt_counts, .ref qt_worth, .ref qt_ways, .ref qt_image, .ref qt_isKept])), (qt_book, .inl (cI, 43, .inl v_book)), (qt_leaks, .inl (cI, 8, .inl v_leaks))] s.heap.size = A at hD ⊢
  have hA : ∀ q : Nat, s.heap.size ≤ q → A q := fun q h => by rw [← hAe]; exact Or.inr h
  have hS : va_S A s.heap s.heap [] := va_S.rf
  have hl := lv_entry ([.ref qt, .int p1]) (n := 6) (Nat.le_of_ble_eq_true rfl)
  have hfr : entryFrame m args 6 = entryFrame m ([.ref qt, .int p1] : List Value).toArray 6 := by rw [hav]
  rw [hfr, lg_entry_eq]
  generalize (lg_sl ([.ref qt, .int p1]) ++ List.replicate (6 - (lg_sl ([.ref qt, .int p1])).length) Slot.unset).toArray = ls at hl ⊢
  have hl : lv_has ls 6 [(0, .ref qt), (1, .int p1)] := hl
  obtain ⟨QQ, hQQ⟩ : ∃ QQ, QQ = MQ below (QI D A r [(qt, .inr (9, [.ref qt_book, .ref qt_now, .ref qt_flakes, .ref qt_leaks, .int v_music, .ref qt_ranks, .int v_sights, .ref qt_sight, .int v_signs, .ref qt_pad, .int v_freeAt, .int v_freeWho, .int v_reason, .int v_acts, .ref qt_gets, .ref qt_counts, .ref qt_worth, .ref qt_ways, .ref qt_image, .ref qt_isKept])), (qt_book, .inl (cI, 43, .inl v_book)), (qt_leaks, .inl (cI, 8, .inl v_leaks))]) args s 0 0 A := ⟨_, rfl⟩
  show W p l e rm_X10_fill s m args below meth c s.heap [] 0 0 _ _
  rw [← hQQ]
  have hL17 : ∀ (n17 : Nat), ∀ (x2 : Int32) (x3 : Int32) (H : Heap) (locs : List Loc) (ls : Array Slot), va_P D vwCl [(qt, .inr (9, [.ref qt_book, .ref qt_now, .ref qt_flakes, .ref qt_leaks, .int v_music, .ref qt_ranks, .int v_sights, .ref qt_sight, .int v_signs, .ref qt_pad, .int v_freeAt, .int v_freeWho, .int v_reason, .int v_acts, .ref qt_gets, .ref qt_counts, .ref qt_worth, .ref qt_ways, .ref qt_image, .ref qt_isKept])), (qt_book, .inl (cI, 43, .inl v_book)), (qt_leaks, .inl (cI, 8, .inl v_leaks))] H → va_D A [(qt, .inr (9, [.ref qt_book, .ref qt_now, .ref qt_flakes, .ref qt_leaks, .int v_music, .ref qt_ranks, .int v_sights, .ref qt_sight, .int v_signs, .ref qt_pad, .int v_freeAt, .int v_freeWho, .int v_reason, .int v_acts, .ref qt_gets, .ref qt_counts, .ref qt_worth, .ref qt_ways, .ref qt_image, .ref qt_isKept])), (qt_book, .inl (cI, 43, .inl v_book)), (qt_leaks, .inl (cI, 8, .inl v_leaks))] → va_S A s.heap H locs → lv_has ls 6 [(0, .ref qt), (1, .int p1), (2, .int x2), (3, .int x3)] → L_X10_fill_17 v_book v_leaks p1 n17 x2 x3 = some r → W p l e rm_X10_fill s m args below meth c H locs 0 0 QQ (F0 m 17 ls []) := by
    intro n17
    induction n17 with
    | zero =>
      intro x2 x3 H locs ls hP hD hS hl h
      have h : none = some r := h
      cases h
    | succ n17 ih17 =>
      have hL34 : ∀ (n34 : Nat), ∀ (x2 : Int32) (x3 : Int32) (x4 : Int32) (x5 : Int32) (H : Heap) (locs : List Loc) (ls : Array Slot), va_P D vwCl [(qt, .inr (9, [.ref qt_book, .ref qt_now, .ref qt_flakes, .ref qt_leaks, .int v_music, .ref qt_ranks, .int v_sights, .ref qt_sight, .int v_signs, .ref qt_pad, .int v_freeAt, .int v_freeWho, .int v_reason, .int v_acts, .ref qt_gets, .ref qt_counts, .ref qt_worth, .ref qt_ways, .ref qt_image, .ref qt_isKept])), (qt_book, .inl (cI, 43, .inl v_book)), (qt_leaks, .inl (cI, 8, .inl v_leaks))] H → va_D A [(qt, .inr (9, [.ref qt_book, .ref qt_now, .ref qt_flakes, .ref qt_leaks, .int v_music, .ref qt_ranks, .int v_sights, .ref qt_sight, .int v_signs, .ref qt_pad, .int v_freeAt, .int v_freeWho, .int v_reason, .int v_acts, .ref qt_gets, .ref qt_counts, .ref qt_worth, .ref qt_ways, .ref qt_image, .ref qt_isKept])), (qt_book, .inl (cI, 43, .inl v_book)), (qt_leaks, .inl (cI, 8, .inl v_leaks))] → va_S A s.heap H locs → lv_has ls 6 [(0, .ref qt), (1, .int p1), (2, .int x2), (3, .int x3), (4, .int x4), (5, .int x5)] → L_X10_fill_34 v_book v_leaks p1 (L_X10_fill_17 v_book v_leaks p1 n17) n34 x2 x3 x4 x5 = some r → W p l e rm_X10_fill s m args below meth c H locs 0 0 QQ (F0 m 34 ls []) := by
        intro n34
        induction n34 with
        | zero =>
          intro x2 x3 x4 x5 H locs ls hP hD hS hl h
          have h : none = some r := h
          cases h
        | succ n34 ih34 =>
          have hB75 : ∀ (x2 : Int32) (x3 : Int32) (x4 : Int32) (x5 : Int32) (H : Heap) (locs : List Loc) (ls : Array Slot), va_P D vwCl [(qt, .inr (9, [.ref qt_book, .ref qt_now, .ref qt_flakes, .ref qt_leaks, .int v_music, .ref qt_ranks, .int v_sights, .ref qt_sight, .int v_signs, .ref qt_pad, .int v_freeAt, .int v_freeWho, .int v_reason, .int v_acts, .ref qt_gets, .ref qt_counts, .ref qt_worth, .ref qt_ways, .ref qt_image, .ref qt_isKept])), (qt_book, .inl (cI, 43, .inl v_book)), (qt_leaks, .inl (cI, 8, .inl v_leaks))] H → va_D A [(qt, .inr (9, [.ref qt_book, .ref qt_now, .ref qt_flakes, .ref qt_leaks, .int v_music, .ref qt_ranks, .int v_sights, .ref qt_sight, .int v_signs, .ref qt_pad, .int v_freeAt, .int v_freeWho, .int v_reason, .int v_acts, .ref qt_gets, .ref qt_counts, .ref qt_worth, .ref qt_ways, .ref qt_image, .ref qt_isKept])), (qt_book, .inl (cI, 43, .inl v_book)), (qt_leaks, .inl (cI, 8, .inl v_leaks))] → va_S A s.heap H locs → lv_has ls 6 [(0, .ref qt), (1, .int p1), (2, .int x2), (3, .int x3), (4, .int x4), (5, .int x5)] → B_X10_fill_75 v_book v_leaks p1 (L_X10_fill_17 v_book v_leaks p1 n17) (L_X10_fill_34 v_book v_leaks p1 (L_X10_fill_17 v_book v_leaks p1 n17) n34) x2 x3 x4 x5 = some r → W p l e rm_X10_fill s m args below meth c H locs 0 0 QQ (F0 m 75 ls []) := by
            intro x2 x3 x4 x5 H locs ls hP hD hS hl h
            unfold B_X10_fill_75 at h
            refine lv_iload hx hb dX10_fill_75 (lv_at hl 4 rfl) ?_
            refine lv_aload_n hx hb dX10_fill_77 rfl (lv_at hl 0 rfl) ?_
            refine va_get (D := D) (ci := 9) (C := RX10) (T := TX10) (N := 20) hx hb hts (fun _ hw => (List.mem_cons_of_mem _ (List.mem_append_right _ hw))) hown hE.1 hP 0 rfl rfl 3 (by decide) (hts (.fieldLink RX10 19 "GlobeCrownModel" "leaks" "[I") (List.mem_cons_of_mem _ (List.mem_append_left _ (List.mem_of_getElem? (i := 1) rfl)))) (fun _ h9 => h9) rfl dX10_fill_78 ?_
            refine lv_iload_n hx hb dX10_fill_81 rfl (lv_at hl 3 rfl) ?_
            obtain ⟨hg, h⟩ := gin_some h
            refine va_iald hx hb hE.1 hP 2 0 rfl rfl hg dX10_fill_82 ?_
            refine lv_isub hx hb dX10_fill_83 ?_
            refine lv_istore (lv' := [(4, .int (x4 - (v_leaks (Int32.toNatClampNeg x3)))), (0, .ref qt), (1, .int p1), (2, .int x2), (3, .int x3), (5, .int x5)]) hx hb dX10_fill_84 hl (by decide) rfl (fun ls hl => ?_)
            refine lv_iinc (v := (x5 + (1 : Int32))) (lv' := [(5, .int (x5 + (1 : Int32))), (4, .int (x4 - (v_leaks (Int32.toNatClampNeg x3)))), (0, .ref qt), (1, .int p1), (2, .int x2), (3, .int x3)]) hx hb dX10_fill_86 hl (k := 5) rfl rfl (by decide) rfl (fun ls hl => ?_)
            refine lv_goto (tgt := 34) hx hb dX10_fill_89 (by decide) ?_
            exact ih34 x2 x3 (x4 - (v_leaks (Int32.toNatClampNeg x3))) (x5 + (1 : Int32)) H locs ls hP hD hS (lv_sub hl [2, 3, 4, 5, 1, 0] rfl) h
          intro x2 x3 x4 x5 H locs ls hP hD hS hl h
          rw [L_X10_fill_34.eq_2] at h
          refine lv_iload hx hb dX10_fill_34 (lv_at hl 5 rfl) ?_
          refine lv_iload_n hx hb dX10_fill_36 rfl (lv_at hl 1 rfl) ?_
          refine lv_icmp_ge (tgt := 92) hx hb dX10_fill_37 (by decide) (fun hc => ?_) (fun hc => ?_)
          · have h := if_t hc h
            refine lv_iinc (v := (x3 + (1 : Int32))) (lv' := [(3, .int (x3 + (1 : Int32))), (0, .ref qt), (1, .int p1), (2, .int x2), (4, .int x4), (5, .int x5)]) hx hb dX10_fill_92 hl (k := 3) rfl rfl (by decide) rfl (fun ls hl => ?_)
            refine lv_goto (tgt := 17) hx hb dX10_fill_95 (by decide) ?_
            exact ih17 x2 (x3 + (1 : Int32)) H locs ls hP hD hS (lv_sub hl [1, 2, 3, 0] rfl) h
          · have h := if_f hc h
            refine lv_aload_n hx hb dX10_fill_40 rfl (lv_at hl 0 rfl) ?_
            refine lv_iload_n hx hb dX10_fill_41 rfl (lv_at hl 3 rfl) ?_
            obtain ⟨r42, hc42, h⟩ := bd1_some h
            refine gw_ci (wr := [(qt_leaks, .inl (cI, 8, .inl v_leaks))]) (w2 := [(qt_leaks, .inl (cI, 8, .inl v_leaks)), (qt, .inr (9, [.ref qt_book, .ref qt_now, .ref qt_flakes, .ref qt_leaks, .int v_music, .ref qt_ranks, .int v_sights, .ref qt_sight, .int v_signs, .ref qt_pad, .int v_freeAt, .int v_freeWho, .int v_reason, .int v_acts, .ref qt_gets, .ref qt_counts, .ref qt_worth, .ref qt_ways, .ref qt_image, .ref qt_isKept])), (qt_book, .inl (cI, 43, .inl v_book))]) (gw_rV (n := 1) ⟨hx, hb, hml, hown, hts⟩ (C_X10_isThere l D cI cJ cZ H.size qt qt_book qt_now qt_flakes qt_leaks qt_ranks qt_sight qt_pad qt_gets qt_counts qt_worth qt_ways qt_image qt_isKept v_book v_music v_sights v_signs v_freeAt v_freeWho v_reason v_acts x3 r42 hc42) gX10_fill_X10_isThere rfl rfl rfl hdV_X10_isThere ⟨Nat.le_of_ble_eq_true rfl, Nat.le_of_ble_eq_true rfl⟩ hE (hP.sub [0, 1] rfl) (hD.sub [0, 1] (by decide) rfl) 9 rfl 0 rfl rfl hl.1 (rest := []) rfl (Nat.le_of_ble_eq_true rfl) dX10_fill_42 ⟨Nat.zero_le _, Nat.zero_le _⟩) hP hD hS hA [0, 1] [2] rfl rfl rfl (by decide) rfl (fun H locs hP hD hS => ?_)
            refine lv_if_eq (tgt := 92) hx hb dX10_fill_45 (by decide) (fun hc => ?_) (fun hc => ?_)
            · have h := if_t hc h
              refine lv_iinc (v := (x3 + (1 : Int32))) (lv' := [(3, .int (x3 + (1 : Int32))), (0, .ref qt), (1, .int p1), (2, .int x2), (4, .int x4), (5, .int x5)]) hx hb dX10_fill_92 hl (k := 3) rfl rfl (by decide) rfl (fun ls hl => ?_)
              refine lv_goto (tgt := 17) hx hb dX10_fill_95 (by decide) ?_
              exact ih17 x2 (x3 + (1 : Int32)) H locs ls (hP.sub [1, 2, 0] rfl) (hD.sub [1, 2, 0] (by decide) rfl) hS (lv_sub hl [1, 2, 3, 0] rfl) h
            · have h := if_f hc h
              refine lv_aload_n hx hb dX10_fill_48 rfl (lv_at hl 0 rfl) ?_
              refine va_get (D := D) (ci := 9) (C := RX10) (T := TX10) (N := 20) hx hb hts (fun _ hw => (List.mem_cons_of_mem _ (List.mem_append_right _ hw))) hown hE.1 hP 1 rfl rfl 0 (by decide) (hts (.fieldLink RX10 7 "GlobeCrownModel" "book" "[I") (List.mem_cons_of_mem _ (List.mem_append_left _ (List.mem_of_getElem? (i := 0) rfl)))) (fun _ h9 => h9) rfl dX10_fill_49 ?_
              refine lv_iload_n hx hb dX10_fill_52 rfl (lv_at hl 3 rfl) ?_
              obtain ⟨hg, h⟩ := gin_some h
              refine va_iald hx hb hE.1 hP 2 0 rfl rfl hg dX10_fill_53 ?_
              refine lv_if_le (tgt := 92) hx hb dX10_fill_54 (by decide) (fun hc => ?_) (fun hc => ?_)
              · have h := if_t hc h
                refine lv_iinc (v := (x3 + (1 : Int32))) (lv' := [(3, .int (x3 + (1 : Int32))), (0, .ref qt), (1, .int p1), (2, .int x2), (4, .int x4), (5, .int x5)]) hx hb dX10_fill_92 hl (k := 3) rfl rfl (by decide) rfl (fun ls hl => ?_)
                refine lv_goto (tgt := 17) hx hb dX10_fill_95 (by decide) ?_
                exact ih17 x2 (x3 + (1 : Int32)) H locs ls (hP.sub [1, 2, 0] rfl) (hD.sub [1, 2, 0] (by decide) rfl) hS (lv_sub hl [1, 2, 3, 0] rfl) h
              · have h := if_f hc h
                refine lv_iload hx hb dX10_fill_57 (lv_at hl 4 rfl) ?_
                refine lv_aload_n hx hb dX10_fill_59 rfl (lv_at hl 0 rfl) ?_
                refine va_get (D := D) (ci := 9) (C := RX10) (T := TX10) (N := 20) hx hb hts (fun _ hw => (List.mem_cons_of_mem _ (List.mem_append_right _ hw))) hown hE.1 hP 1 rfl rfl 3 (by decide) (hts (.fieldLink RX10 19 "GlobeCrownModel" "leaks" "[I") (List.mem_cons_of_mem _ (List.mem_append_left _ (List.mem_of_getElem? (i := 1) rfl)))) (fun _ h9 => h9) rfl dX10_fill_60 ?_
                refine lv_iload_n hx hb dX10_fill_63 rfl (lv_at hl 3 rfl) ?_
                obtain ⟨hg, h⟩ := gin_some h
                refine va_iald hx hb hE.1 hP 0 0 rfl rfl hg dX10_fill_64 ?_
                refine lv_icmp_gt (tgt := 75) hx hb dX10_fill_65 (by decide) (fun hc => ?_) (fun hc => ?_)
                · have h := if_t hc h
                  exact hB75 x2 x3 x4 x5 H locs ls (hP.sub [1, 2, 0] rfl) (hD.sub [1, 2, 0] (by decide) rfl) hS hl h
                · have h := if_f hc h
                  refine lv_bipush (v := 99) hx hb dX10_fill_68 (by decide) ?_
                  refine lv_istore (lv' := [(4, .int (99 : Int32)), (0, .ref qt), (1, .int p1), (2, .int x2), (3, .int x3), (5, .int x5)]) hx hb dX10_fill_70 hl (by decide) rfl (fun ls hl => ?_)
                  refine lv_iinc (v := (x2 + (1 : Int32))) (lv' := [(2, .int (x2 + (1 : Int32))), (4, .int (99 : Int32)), (0, .ref qt), (1, .int p1), (3, .int x3), (5, .int x5)]) hx hb dX10_fill_72 hl (k := 3) rfl rfl (by decide) rfl (fun ls hl => ?_)
                  exact hB75 (x2 + (1 : Int32)) x3 (99 : Int32) x5 H locs ls (hP.sub [1, 2, 0] rfl) (hD.sub [1, 2, 0] (by decide) rfl) hS (lv_sub hl [2, 3, 0, 4, 1, 5] rfl) h
      intro x2 x3 H locs ls hP hD hS hl h
      rw [L_X10_fill_17.eq_2] at h
      refine lv_iload_n hx hb dX10_fill_17 rfl (lv_at hl 3 rfl) ?_
      refine lv_bipush (v := 8) hx hb dX10_fill_18 (by decide) ?_
      refine lv_icmp_ge (tgt := 98) hx hb dX10_fill_20 (by decide) (fun hc => ?_) (fun hc => ?_)
      · have h := if_t hc h
        refine lv_iload_n hx hb dX10_fill_98 rfl (lv_at hl 2 rfl) ?_
        cases h
        rw [hQQ]
        exact gw_iret hx hb hr hlocks hP hD hS dX10_fill_99
      · have h := if_f hc h
        refine lv_aload_n hx hb dX10_fill_23 rfl (lv_at hl 0 rfl) ?_
        refine va_get (D := D) (ci := 9) (C := RX10) (T := TX10) (N := 20) hx hb hts (fun _ hw => (List.mem_cons_of_mem _ (List.mem_append_right _ hw))) hown hE.1 hP 0 rfl rfl 0 (by decide) (hts (.fieldLink RX10 7 "GlobeCrownModel" "book" "[I") (List.mem_cons_of_mem _ (List.mem_append_left _ (List.mem_of_getElem? (i := 0) rfl)))) (fun _ h9 => h9) rfl dX10_fill_24 ?_
        refine lv_iload_n hx hb dX10_fill_27 rfl (lv_at hl 3 rfl) ?_
        obtain ⟨hg, h⟩ := gin_some h
        refine va_iald hx hb hE.1 hP 1 0 rfl rfl hg dX10_fill_28 ?_
        refine lv_istore (lv' := [(4, .int (v_book (Int32.toNatClampNeg x3))), (0, .ref qt), (1, .int p1), (2, .int x2), (3, .int x3)]) hx hb dX10_fill_29 hl (by decide) rfl (fun ls hl => ?_)
        refine lv_iconst (v := 0) hx hb dX10_fill_31 (by decide) ?_
        refine lv_istore (lv' := [(5, .int (0 : Int32)), (4, .int (v_book (Int32.toNatClampNeg x3))), (0, .ref qt), (1, .int p1), (2, .int x2), (3, .int x3)]) hx hb dX10_fill_32 hl (by decide) rfl (fun ls hl => ?_)
        exact hL34 FU x2 x3 (v_book (Int32.toNatClampNeg x3)) (0 : Int32) H locs ls hP hD hS (lv_sub hl [2, 3, 4, 5, 1, 0] rfl) h
  have h := hf
  unfold f_X10_fill at h
  refine gw_start hP hD hS (fun H locs hP hD hS => ?_)
  refine lv_iload_n hx hb dX10_fill_0 rfl (lv_at hl 1 rfl) ?_
  refine lv_iconst (v := 0) hx hb dX10_fill_1 (by decide) ?_
  refine lv_bipush (v := 99) hx hb dX10_fill_2 (by decide) ?_
  obtain ⟨r4, hc4, h⟩ := bd1_some h
  refine gw_ci (wr := [(qt, .inr (9, [.ref qt_book, .ref qt_now, .ref qt_flakes, .ref qt_leaks, .int v_music, .ref qt_ranks, .int v_sights, .ref qt_sight, .int v_signs, .ref qt_pad, .int v_freeAt, .int v_freeWho, .int v_reason, .int v_acts, .ref qt_gets, .ref qt_counts, .ref qt_worth, .ref qt_ways, .ref qt_image, .ref qt_isKept])), (qt_book, .inl (cI, 43, .inl v_book)), (qt_leaks, .inl (cI, 8, .inl v_leaks))]) (w2 := [(qt, .inr (9, [.ref qt_book, .ref qt_now, .ref qt_flakes, .ref qt_leaks, .int v_music, .ref qt_ranks, .int v_sights, .ref qt_sight, .int v_signs, .ref qt_pad, .int v_freeAt, .int v_freeWho, .int v_reason, .int v_acts, .ref qt_gets, .ref qt_counts, .ref qt_worth, .ref qt_ways, .ref qt_image, .ref qt_isKept])), (qt_book, .inl (cI, 43, .inl v_book)), (qt_leaks, .inl (cI, 8, .inl v_leaks))]) (gw_rS (n := 3) ⟨hx, hb, hml, hown, hts⟩ (C_X10_in l D cI cJ cZ H.size p1 (0 : Int32) (99 : Int32) r4 hc4) gX10_fill_X10_in rfl rfl rfl hdS_X10_in ⟨Nat.le_of_ble_eq_true rfl, Nat.le_of_ble_eq_true rfl⟩ hE (hP.sub [] rfl) (hD.sub [] (by decide) rfl) rfl hl.1 (rest := []) rfl (Nat.le_of_ble_eq_true rfl) dX10_fill_4 ⟨Nat.zero_le _, Nat.zero_le _⟩) hP hD hS hA [] [0, 1, 2] rfl rfl rfl (by decide) rfl (fun H locs hP hD hS => ?_)
  refine lv_if_ne (tgt := 13) hx hb dX10_fill_7 (by decide) (fun hc => ?_) (fun hc => ?_)
  · have h := if_f hc h
    refine lv_iconst (v := 0) hx hb dX10_fill_13 (by decide) ?_
    refine lv_istore_n (lv' := [(2, .int (0 : Int32)), (0, .ref qt), (1, .int p1)]) hx hb dX10_fill_14 rfl hl (by decide) rfl (fun ls hl => ?_)
    refine lv_iconst (v := 0) hx hb dX10_fill_15 (by decide) ?_
    refine lv_istore_n (lv' := [(3, .int (0 : Int32)), (2, .int (0 : Int32)), (0, .ref qt), (1, .int p1)]) hx hb dX10_fill_16 rfl hl (by decide) rfl (fun ls hl => ?_)
    exact hL17 FU (0 : Int32) (0 : Int32) H locs ls hP hD hS (lv_sub hl [2, 3, 1, 0] rfl) h
  · have h := if_t hc h
    refine lv_bipush (v := -2) hx hb dX10_fill_10 (by decide) ?_
    cases h
    rw [hQQ]
    exact gw_iret hx hb hr hlocks hP hD hS dX10_fill_12
theorem hdV_X10_fill : yX10_fill.cls = RX10 ∧ yX10_fill.cls ≠ "java/lang/invoke/MethodHandle" ∧ yX10_fill.cls ≠ "java/lang/invoke/VarHandle" ∧ (parseMethodDescriptor yX10_fill.desc).map (fun d => d.parameters.length) = some 1 := by decide +kernel
def L_X10_digit_7 (p0 : Int32) (p1 : Int32) (p2 : Int32) : Nat → Int32 → Int32 → Option (Int32)
  | 0, _, _ => none
  | n + 1, x3, x4 => (if x4 ≤ p1 then (some (jrem x3 (10 : Int32))) else ((L_X10_digit_7 p0 p1 p2 n) (x3 / (10 : Int32)) (x4 + (-1 : Int32))))
def f_X10_digit (p0 : Int32) (p1 : Int32) (p2 : Int32) : Option (Int32) := (L_X10_digit_7 p0 p1 p2 FU p0 (p2 - (1 : Int32)))
abbrev rm_X10_digit : Room := { frames := 0, cells := 0, slots := 0, locals := 0 }
set_option maxHeartbeats 4000000 in
set_option maxRecDepth 100000 in
theorem C_X10_digit (l : Launch) (D : va_G) (cI cJ cZ : ClassId) (sz : Nat) (p0 : Int32) (p1 : Int32) (p2 : Int32) (r : Int32) (hf : f_X10_digit p0 p1 p2 = some r) : Met l yX10_digit wsX10_digit rm_X10_digit (PR D cI cJ cZ [] sz [.int p0, .int p1, .int p2]) (QI D (va_A [] sz) r []) 0 0 (va_A [] sz) := by
  refine Met.ofW (cc := cX10_digit) (maxL := 5) (ret := (some .int)) (by decide) rfl ?_
  intro p e s m args below meth c s₁ B hml hv
  obtain ⟨hav, hsz, hP, hD0, hE⟩ := hv
  have hx := B.exec
  have hb := B.bytes
  have hr := B.returns
  have hts := atoms_spec (ws := wsX10_digit) B.pre
  have hown : s.vm.findClass RX10 = some m.cls := findClass_of_methodNamed B.named
  have hlocks := B.notSynchronized
  subst hsz
  have hD := hD0.self (sz := s.heap.size)
  generalize hAe : va_A [] s.heap.size = A at hD ⊢
  have hA : ∀ q : Nat, s.heap.size ≤ q → A q := fun q h => by rw [← hAe]; exact Or.inr h
  have hS : va_S A s.heap s.heap [] := va_S.rf
  have hl := lv_entry ([.int p0, .int p1, .int p2]) (n := 5) (Nat.le_of_ble_eq_true rfl)
  have hfr : entryFrame m args 5 = entryFrame m ([.int p0, .int p1, .int p2] : List Value).toArray 5 := by rw [hav]
  rw [hfr, lg_entry_eq]
  generalize (lg_sl ([.int p0, .int p1, .int p2]) ++ List.replicate (5 - (lg_sl ([.int p0, .int p1, .int p2])).length) Slot.unset).toArray = ls at hl ⊢
  have hl : lv_has ls 5 [(0, .int p0), (1, .int p1), (2, .int p2)] := hl
  obtain ⟨QQ, hQQ⟩ : ∃ QQ, QQ = MQ below (QI D A r []) args s 0 0 A := ⟨_, rfl⟩
  show W p l e rm_X10_digit s m args below meth c s.heap [] 0 0 _ _
  rw [← hQQ]
  have hL7 : ∀ (n7 : Nat), ∀ (x3 : Int32) (x4 : Int32) (H : Heap) (locs : List Loc) (ls : Array Slot), va_P D vwCl [] H → va_D A [] → va_S A s.heap H locs → lv_has ls 5 [(1, .int p1), (3, .int x3), (4, .int x4)] → L_X10_digit_7 p0 p1 p2 n7 x3 x4 = some r → W p l e rm_X10_digit s m args below meth c H locs 0 0 QQ (F0 m 7 ls []) := by
    intro n7
    induction n7 with
    | zero =>
      intro x3 x4 H locs ls hP hD hS hl h
      have h : none = some r := h
      cases h
    | succ n7 ih7 =>
      intro x3 x4 H locs ls hP hD hS hl h
      rw [L_X10_digit_7.eq_2] at h
      refine lv_iload hx hb dX10_digit_7 (lv_at hl 2 rfl) ?_
      refine lv_iload_n hx hb dX10_digit_9 rfl (lv_at hl 0 rfl) ?_
      refine lv_icmp_le (tgt := 24) hx hb dX10_digit_10 (by decide) (fun hc => ?_) (fun hc => ?_)
      · have h := if_t hc h
        refine lv_iload_n hx hb dX10_digit_24 rfl (lv_at hl 1 rfl) ?_
        refine lv_bipush (v := 10) hx hb dX10_digit_25 (by decide) ?_
        refine gw_irem hx hb dX10_digit_27 (by decide) ?_
        cases h
        rw [hQQ]
        exact gw_iret hx hb hr hlocks hP hD hS dX10_digit_28
      · have h := if_f hc h
        refine lv_iload_n hx hb dX10_digit_13 rfl (lv_at hl 1 rfl) ?_
        refine lv_bipush (v := 10) hx hb dX10_digit_14 (by decide) ?_
        refine lv_idiv hx hb dX10_digit_16 (by decide) ?_
        refine lv_istore_n (lv' := [(3, .int (x3 / (10 : Int32))), (1, .int p1), (4, .int x4)]) hx hb dX10_digit_17 rfl hl (by decide) rfl (fun ls hl => ?_)
        refine lv_iinc (v := (x4 + (-1 : Int32))) (lv' := [(4, .int (x4 + (-1 : Int32))), (3, .int (x3 / (10 : Int32))), (1, .int p1)]) hx hb dX10_digit_18 hl (k := 2) rfl rfl (by decide) rfl (fun ls hl => ?_)
        refine lv_goto (tgt := 7) hx hb dX10_digit_21 (by decide) ?_
        exact ih7 (x3 / (10 : Int32)) (x4 + (-1 : Int32)) H locs ls hP hD hS (lv_sub hl [2, 1, 0] rfl) h
  have h := hf
  unfold f_X10_digit at h
  refine gw_start hP hD hS (fun H locs hP hD hS => ?_)
  refine lv_iload_n hx hb dX10_digit_0 rfl (lv_at hl 0 rfl) ?_
  refine lv_istore_n (lv' := [(3, .int p0), (0, .int p0), (1, .int p1), (2, .int p2)]) hx hb dX10_digit_1 rfl hl (by decide) rfl (fun ls hl => ?_)
  refine lv_iload_n hx hb dX10_digit_2 rfl (lv_at hl 3 rfl) ?_
  refine lv_iconst (v := 1) hx hb dX10_digit_3 (by decide) ?_
  refine lv_isub hx hb dX10_digit_4 ?_
  refine lv_istore (lv' := [(4, .int (p2 - (1 : Int32))), (3, .int p0), (0, .int p0), (1, .int p1), (2, .int p2)]) hx hb dX10_digit_5 hl (by decide) rfl (fun ls hl => ?_)
  exact hL7 FU p0 (p2 - (1 : Int32)) H locs ls hP hD hS (lv_sub hl [3, 1, 0] rfl) h
theorem hdS_X10_digit : yX10_digit.cls ≠ "java/lang/invoke/MethodHandle" ∧ yX10_digit.cls ≠ "java/lang/invoke/VarHandle" ∧ (parseMethodDescriptor yX10_digit.desc).map (fun d => d.parameters.length) = some 3 := by decide +kernel
def B_X10_vote_118 (v_book : (Nat → Int32)) (p1 : Int32) (p2 : Int32) (rec31 : Int32 → Int32 → Int32 → Option (Int32)) (x3 : Int32) (x5 : Int32) (x6 : Int32) (s0 : Int32) : Option (Int32) := (if x3 ≤ x6 then (rec31 x3 s0 (x5 + (1 : Int32))) else (rec31 x6 s0 (x5 + (1 : Int32))))
def L_X10_vote_44 (v_book : (Nat → Int32)) (p1 : Int32) (p2 : Int32) (rec31 : Int32 → Int32 → Int32 → Option (Int32)) : Nat → Int32 → Int32 → Int32 → Int32 → Int32 → Option (Int32)
  | 0, _, _, _, _, _ => none
  | n + 1, x3, x4, x5, x6, x7 => (if (8 : Int32) ≤ x7 then (if x3 ≤ x6 then (B_X10_vote_118 v_book p1 p2 rec31 x3 x5 x6 x4) else (B_X10_vote_118 v_book p1 p2 rec31 x3 x5 x6 x5)) else (bd1 (f_X10_digit p1 x7 (8 : Int32)) (fun r56 => (bd1 (f_X10_isThere v_book x7) (fun r66 => (if r66 = (0 : Int32) then ((L_X10_vote_44 v_book p1 p2 rec31 n) x3 x4 x5 (x6 + (0 : Int32)) (x7 + (1 : Int32))) else (if r56 ≤ x5 then ((L_X10_vote_44 v_book p1 p2 rec31 n) x3 x4 x5 (x6 + (x5 - r56)) (x7 + (1 : Int32))) else ((L_X10_vote_44 v_book p1 p2 rec31 n) x3 x4 x5 (x6 + (r56 - x5)) (x7 + (1 : Int32))))))))))
def L_X10_vote_31 (v_book : (Nat → Int32)) (p1 : Int32) (p2 : Int32) : Nat → Int32 → Int32 → Int32 → Option (Int32)
  | 0, _, _, _ => none
  | n + 1, x3, x4, x5 => (if (10 : Int32) ≤ x5 then (if p2 = (0 : Int32) then (some x4) else (some x3)) else (L_X10_vote_44 v_book p1 p2 (L_X10_vote_31 v_book p1 p2 n) FU x3 x4 x5 (0 : Int32) (0 : Int32)))
def f_X10_vote (v_book : (Nat → Int32)) (p1 : Int32) (p2 : Int32) : Option (Int32) := (bd1 (f_X10_in p1 (0 : Int32) (99999999 : Int32)) (fun r4 => (if r4 = (0 : Int32) then (some (-2 : Int32)) else (bd1 (f_X10_in p2 (0 : Int32) (1 : Int32)) (fun r13 => (if r13 = (0 : Int32) then (some (-2 : Int32)) else (L_X10_vote_31 v_book p1 p2 FU (1000000 : Int32) (0 : Int32) (0 : Int32))))))))
abbrev rm_X10_vote : Room := { frames := 2, cells := 0, slots := 0, locals := 43 }
set_option maxHeartbeats 4000000 in
set_option maxRecDepth 100000 in
theorem C_X10_vote (l : Launch) (D : va_G) (cI cJ cZ : ClassId) (sz : Nat) (qt qt_book qt_now qt_flakes qt_leaks qt_ranks qt_sight qt_pad qt_gets qt_counts qt_worth qt_ways qt_image qt_isKept : Nat) (v_book : (Nat → Int32)) (v_music : Int32) (v_sights : Int32) (v_signs : Int32) (v_freeAt : Int32) (v_freeWho : Int32) (v_reason : Int32) (v_acts : Int32) (p1 : Int32) (p2 : Int32) (r : Int32) (hf : f_X10_vote v_book p1 p2 = some r) : Met l yX10_vote wsX10_vote rm_X10_vote (PR D cI cJ cZ [(qt, .inr (9, [.ref qt_book, .ref qt_now, .ref qt_flakes, .ref qt_leaks, .int v_music, .ref qt_ranks, .int v_sights, .ref qt_sight, .int v_signs, .ref qt_pad, .int v_freeAt, .int v_freeWho, .int v_reason, .int v_acts, .ref qt_gets, .ref qt_counts, .ref qt_worth, .ref qt_ways, .ref qt_image, .ref qt_isKept])), (qt_book, .inl (cI, 43, .inl v_book))] sz [.ref qt, .int p1, .int p2]) (QI D (va_A [(qt, .inr (9, [.ref qt_book, .ref qt_now, .ref qt_flakes, .ref qt_leaks, .int v_music, .ref qt_ranks, .int v_sights, .ref qt_sight, .int v_signs, .ref qt_pad, .int v_freeAt, .int v_freeWho, .int v_reason, .int v_acts, .ref qt_gets, .ref qt_counts, .ref qt_worth, .ref qt_ways, .ref qt_image, .ref qt_isKept])), (qt_book, .inl (cI, 43, .inl v_book))] sz) r [(qt, .inr (9, [.ref qt_book, .ref qt_now, .ref qt_flakes, .ref qt_leaks, .int v_music, .ref qt_ranks, .int v_sights, .ref qt_sight, .int v_signs, .ref qt_pad, .int v_freeAt, .int v_freeWho, .int v_reason, .int v_acts, .ref qt_gets, .ref qt_counts, .ref qt_worth, .ref qt_ways, .ref qt_image, .ref qt_isKept])), (qt_book, .inl (cI, 43, .inl v_book))]) 0 0 (va_A [(qt, .inr (9, [.ref qt_book, .ref qt_now, .ref qt_flakes, .ref qt_leaks, .int v_music, .ref qt_ranks, .int v_sights, .ref qt_sight, .int v_signs, .ref qt_pad, .int v_freeAt, .int v_freeWho, .int v_reason, .int v_acts, .ref qt_gets, .ref qt_counts, .ref qt_worth, .ref qt_ways, .ref qt_image, .ref qt_isKept])), (qt_book, .inl (cI, 43, .inl v_book))] sz) := by
  refine Met.ofW (cc := cX10_vote) (maxL := 9) (ret := (some .int)) (by decide) rfl ?_
  intro p e s m args below meth c s₁ B hml hv
  obtain ⟨hav, hsz, hP, hD0, hE⟩ := hv
  have hx := B.exec
  have hb := B.bytes
  have hr := B.returns
  have hts := atoms_spec (ws := wsX10_vote) B.pre
  have hown : s.vm.findClass RX10 = some m.cls := findClass_of_methodNamed B.named
  have hlocks := B.notSynchronized
  subst hsz
  have hD := hD0.self (sz := s.heap.size)
  generalize hAe : va_A [(qt, .inr (9, [.ref qt_book, .ref qt_now, .ref qt_flakes, .ref qt_leaks, .int v_music, .ref qt_ranks, .int v_sights, .ref qt_sight, .int v_signs, .ref qt_pad, .int v_freeAt, .int v_freeWho, .int v_reason, .int v_acts, .ref qt_gets, .ref qt_counts, .ref qt_worth, .ref qt_ways, .ref qt_image, .ref qt_isKept])), (qt_book, .inl (cI, 43, .inl v_book))] s.heap.size = A at hD ⊢
  have hA : ∀ q : Nat, s.heap.size ≤ q → A q := fun q h => by rw [← hAe]; exact Or.inr h
  have hS : va_S A s.heap s.heap [] := va_S.rf
  have hl := lv_entry ([.ref qt, .int p1, .int p2]) (n := 9) (Nat.le_of_ble_eq_true rfl)
  have hfr : entryFrame m args 9 = entryFrame m ([.ref qt, .int p1, .int p2] : List Value).toArray 9 := by rw [hav]
  rw [hfr, lg_entry_eq]
  generalize (lg_sl ([.ref qt, .int p1, .int p2]) ++ List.replicate (9 - (lg_sl ([.ref qt, .int p1, .int p2])).length) Slot.unset).toArray = ls at hl ⊢
  have hl : lv_has ls 9 [(0, .ref qt), (1, .int p1), (2, .int p2)] := hl
  obtain ⟨QQ, hQQ⟩ : ∃ QQ, QQ = MQ below (QI D A r [(qt, .inr (9, [.ref qt_book, .ref qt_now, .ref qt_flakes, .ref qt_leaks, .int v_music, .ref qt_ranks, .int v_sights, .ref qt_sight, .int v_signs, .ref qt_pad, .int v_freeAt, .int v_freeWho, .int v_reason, .int v_acts, .ref qt_gets, .ref qt_counts, .ref qt_worth, .ref qt_ways, .ref qt_image, .ref qt_isKept])), (qt_book, .inl (cI, 43, .inl v_book))]) args s 0 0 A := ⟨_, rfl⟩
  show W p l e rm_X10_vote s m args below meth c s.heap [] 0 0 _ _
  rw [← hQQ]
  have hL31 : ∀ (n31 : Nat), ∀ (x3 : Int32) (x4 : Int32) (x5 : Int32) (H : Heap) (locs : List Loc) (ls : Array Slot), va_P D vwCl [(qt, .inr (9, [.ref qt_book, .ref qt_now, .ref qt_flakes, .ref qt_leaks, .int v_music, .ref qt_ranks, .int v_sights, .ref qt_sight, .int v_signs, .ref qt_pad, .int v_freeAt, .int v_freeWho, .int v_reason, .int v_acts, .ref qt_gets, .ref qt_counts, .ref qt_worth, .ref qt_ways, .ref qt_image, .ref qt_isKept])), (qt_book, .inl (cI, 43, .inl v_book))] H → va_D A [(qt, .inr (9, [.ref qt_book, .ref qt_now, .ref qt_flakes, .ref qt_leaks, .int v_music, .ref qt_ranks, .int v_sights, .ref qt_sight, .int v_signs, .ref qt_pad, .int v_freeAt, .int v_freeWho, .int v_reason, .int v_acts, .ref qt_gets, .ref qt_counts, .ref qt_worth, .ref qt_ways, .ref qt_image, .ref qt_isKept])), (qt_book, .inl (cI, 43, .inl v_book))] → va_S A s.heap H locs → lv_has ls 9 [(0, .ref qt), (1, .int p1), (2, .int p2), (3, .int x3), (4, .int x4), (5, .int x5)] → L_X10_vote_31 v_book p1 p2 n31 x3 x4 x5 = some r → W p l e rm_X10_vote s m args below meth c H locs 0 0 QQ (F0 m 31 ls []) := by
    intro n31
    induction n31 with
    | zero =>
      intro x3 x4 x5 H locs ls hP hD hS hl h
      have h : none = some r := h
      cases h
    | succ n31 ih31 =>
      have hB118 : ∀ (x3 : Int32) (x5 : Int32) (x6 : Int32) (s0 : Int32) (H : Heap) (locs : List Loc) (ls : Array Slot), va_P D vwCl [(qt, .inr (9, [.ref qt_book, .ref qt_now, .ref qt_flakes, .ref qt_leaks, .int v_music, .ref qt_ranks, .int v_sights, .ref qt_sight, .int v_signs, .ref qt_pad, .int v_freeAt, .int v_freeWho, .int v_reason, .int v_acts, .ref qt_gets, .ref qt_counts, .ref qt_worth, .ref qt_ways, .ref qt_image, .ref qt_isKept])), (qt_book, .inl (cI, 43, .inl v_book))] H → va_D A [(qt, .inr (9, [.ref qt_book, .ref qt_now, .ref qt_flakes, .ref qt_leaks, .int v_music, .ref qt_ranks, .int v_sights, .ref qt_sight, .int v_signs, .ref qt_pad, .int v_freeAt, .int v_freeWho, .int v_reason, .int v_acts, .ref qt_gets, .ref qt_counts, .ref qt_worth, .ref qt_ways, .ref qt_image, .ref qt_isKept])), (qt_book, .inl (cI, 43, .inl v_book))] → va_S A s.heap H locs → lv_has ls 9 [(0, .ref qt), (1, .int p1), (2, .int p2), (3, .int x3), (5, .int x5), (6, .int x6)] → B_X10_vote_118 v_book p1 p2 (L_X10_vote_31 v_book p1 p2 n31) x3 x5 x6 s0 = some r → W p l e rm_X10_vote s m args below meth c H locs 0 0 QQ (F0 m 118 ls [.int s0]) := by
        intro x3 x5 x6 s0 H locs ls hP hD hS hl h
        unfold B_X10_vote_118 at h
        refine lv_istore (lv' := [(4, .int s0), (0, .ref qt), (1, .int p1), (2, .int p2), (3, .int x3), (5, .int x5), (6, .int x6)]) hx hb dX10_vote_118 hl (by decide) rfl (fun ls hl => ?_)
        refine lv_iload hx hb dX10_vote_120 (lv_at hl 6 rfl) ?_
        refine lv_iload_n hx hb dX10_vote_122 rfl (lv_at hl 4 rfl) ?_
        refine lv_icmp_ge (tgt := 131) hx hb dX10_vote_123 (by decide) (fun hc => ?_) (fun hc => ?_)
        · have h := if_t hc h
          refine lv_iload_n hx hb dX10_vote_131 rfl (lv_at hl 4 rfl) ?_
          refine lv_istore_n (lv' := [(3, .int x3), (4, .int s0), (0, .ref qt), (1, .int p1), (2, .int p2), (5, .int x5), (6, .int x6)]) hx hb dX10_vote_132 rfl hl (by decide) rfl (fun ls hl => ?_)
          refine lv_iinc (v := (x5 + (1 : Int32))) (lv' := [(5, .int (x5 + (1 : Int32))), (3, .int x3), (4, .int s0), (0, .ref qt), (1, .int p1), (2, .int p2), (6, .int x6)]) hx hb dX10_vote_133 hl (k := 5) rfl rfl (by decide) rfl (fun ls hl => ?_)
          refine lv_goto (tgt := 31) hx hb dX10_vote_136 (by decide) ?_
          exact ih31 x3 s0 (x5 + (1 : Int32)) H locs ls hP hD hS (lv_sub hl [3, 4, 5, 1, 2, 0] rfl) h
        · have h := if_f hc h
          refine lv_iload hx hb dX10_vote_126 (lv_at hl 6 rfl) ?_
          refine lv_goto (tgt := 132) hx hb dX10_vote_128 (by decide) ?_
          refine lv_istore_n (lv' := [(3, .int x6), (4, .int s0), (0, .ref qt), (1, .int p1), (2, .int p2), (5, .int x5), (6, .int x6)]) hx hb dX10_vote_132 rfl hl (by decide) rfl (fun ls hl => ?_)
          refine lv_iinc (v := (x5 + (1 : Int32))) (lv' := [(5, .int (x5 + (1 : Int32))), (3, .int x6), (4, .int s0), (0, .ref qt), (1, .int p1), (2, .int p2), (6, .int x6)]) hx hb dX10_vote_133 hl (k := 5) rfl rfl (by decide) rfl (fun ls hl => ?_)
          refine lv_goto (tgt := 31) hx hb dX10_vote_136 (by decide) ?_
          exact ih31 x6 s0 (x5 + (1 : Int32)) H locs ls hP hD hS (lv_sub hl [3, 4, 5, 1, 2, 0] rfl) h
      have hL44 : ∀ (n44 : Nat), ∀ (x3 : Int32) (x4 : Int32) (x5 : Int32) (x6 : Int32) (x7 : Int32) (H : Heap) (locs : List Loc) (ls : Array Slot), va_P D vwCl [(qt, .inr (9, [.ref qt_book, .ref qt_now, .ref qt_flakes, .ref qt_leaks, .int v_music, .ref qt_ranks, .int v_sights, .ref qt_sight, .int v_signs, .ref qt_pad, .int v_freeAt, .int v_freeWho, .int v_reason, .int v_acts, .ref qt_gets, .ref qt_counts, .ref qt_worth, .ref qt_ways, .ref qt_image, .ref qt_isKept])), (qt_book, .inl (cI, 43, .inl v_book))] H → va_D A [(qt, .inr (9, [.ref qt_book, .ref qt_now, .ref qt_flakes, .ref qt_leaks, .int v_music, .ref qt_ranks, .int v_sights, .ref qt_sight, .int v_signs, .ref qt_pad, .int v_freeAt, .int v_freeWho, .int v_reason, .int v_acts, .ref qt_gets, .ref qt_counts, .ref qt_worth, .ref qt_ways, .ref qt_image, .ref qt_isKept])), (qt_book, .inl (cI, 43, .inl v_book))] → va_S A s.heap H locs → lv_has ls 9 [(0, .ref qt), (1, .int p1), (2, .int p2), (3, .int x3), (4, .int x4), (5, .int x5), (6, .int x6), (7, .int x7)] → L_X10_vote_44 v_book p1 p2 (L_X10_vote_31 v_book p1 p2 n31) n44 x3 x4 x5 x6 x7 = some r → W p l e rm_X10_vote s m args below meth c H locs 0 0 QQ (F0 m 44 ls []) := by
        intro n44
        induction n44 with
        | zero =>
          intro x3 x4 x5 x6 x7 H locs ls hP hD hS hl h
          have h : none = some r := h
          cases h
        | succ n44 ih44 =>
          intro x3 x4 x5 x6 x7 H locs ls hP hD hS hl h
          rw [L_X10_vote_44.eq_2] at h
          refine lv_iload hx hb dX10_vote_44 (lv_at hl 7 rfl) ?_
          refine lv_bipush (v := 8) hx hb dX10_vote_46 (by decide) ?_
          refine lv_icmp_ge (tgt := 105) hx hb dX10_vote_48 (by decide) (fun hc => ?_) (fun hc => ?_)
          · have h := if_t hc h
            refine lv_iload hx hb dX10_vote_105 (lv_at hl 6 rfl) ?_
            refine lv_iload_n hx hb dX10_vote_107 rfl (lv_at hl 3 rfl) ?_
            refine lv_icmp_ge (tgt := 116) hx hb dX10_vote_108 (by decide) (fun hc => ?_) (fun hc => ?_)
            · have h := if_t hc h
              refine lv_iload hx hb dX10_vote_116 (lv_at hl 4 rfl) ?_
              exact hB118 x3 x5 x6 x4 H locs ls hP hD hS (lv_sub hl [0, 1, 2, 3, 5, 6] rfl) h
            · have h := if_f hc h
              refine lv_iload hx hb dX10_vote_111 (lv_at hl 5 rfl) ?_
              refine lv_goto (tgt := 118) hx hb dX10_vote_113 (by decide) ?_
              exact hB118 x3 x5 x6 x5 H locs ls hP hD hS (lv_sub hl [0, 1, 2, 3, 5, 6] rfl) h
          · have h := if_f hc h
            refine lv_iload_n hx hb dX10_vote_51 rfl (lv_at hl 1 rfl) ?_
            refine lv_iload hx hb dX10_vote_52 (lv_at hl 7 rfl) ?_
            refine lv_bipush (v := 8) hx hb dX10_vote_54 (by decide) ?_
            obtain ⟨r56, hc56, h⟩ := bd1_some h
            refine gw_ci (wr := [(qt, .inr (9, [.ref qt_book, .ref qt_now, .ref qt_flakes, .ref qt_leaks, .int v_music, .ref qt_ranks, .int v_sights, .ref qt_sight, .int v_signs, .ref qt_pad, .int v_freeAt, .int v_freeWho, .int v_reason, .int v_acts, .ref qt_gets, .ref qt_counts, .ref qt_worth, .ref qt_ways, .ref qt_image, .ref qt_isKept])), (qt_book, .inl (cI, 43, .inl v_book))]) (w2 := [(qt, .inr (9, [.ref qt_book, .ref qt_now, .ref qt_flakes, .ref qt_leaks, .int v_music, .ref qt_ranks, .int v_sights, .ref qt_sight, .int v_signs, .ref qt_pad, .int v_freeAt, .int v_freeWho, .int v_reason, .int v_acts, .ref qt_gets, .ref qt_counts, .ref qt_worth, .ref qt_ways, .ref qt_image, .ref qt_isKept])), (qt_book, .inl (cI, 43, .inl v_book))]) (gw_rS (n := 3) ⟨hx, hb, hml, hown, hts⟩ (C_X10_digit l D cI cJ cZ H.size p1 x7 (8 : Int32) r56 hc56) gX10_vote_X10_digit rfl rfl rfl hdS_X10_digit ⟨Nat.le_of_ble_eq_true rfl, Nat.le_of_ble_eq_true rfl⟩ hE (hP.sub [] rfl) (hD.sub [] (by decide) rfl) rfl hl.1 (rest := []) rfl (Nat.le_of_ble_eq_true rfl) dX10_vote_56 ⟨Nat.zero_le _, Nat.zero_le _⟩) hP hD hS hA [] [0, 1] rfl rfl rfl (by decide) rfl (fun H locs hP hD hS => ?_)
            refine lv_istore (lv' := [(8, .int r56), (0, .ref qt), (1, .int p1), (2, .int p2), (3, .int x3), (4, .int x4), (5, .int x5), (6, .int x6), (7, .int x7)]) hx hb dX10_vote_59 hl (by decide) rfl (fun ls hl => ?_)
            refine lv_iload hx hb dX10_vote_61 (lv_at hl 7 rfl) ?_
            refine lv_aload_n hx hb dX10_vote_63 rfl (lv_at hl 1 rfl) ?_
            refine lv_iload hx hb dX10_vote_64 (lv_at hl 8 rfl) ?_
            obtain ⟨r66, hc66, h⟩ := bd1_some h
            refine gw_ci (wr := []) (w2 := [(qt, .inr (9, [.ref qt_book, .ref qt_now, .ref qt_flakes, .ref qt_leaks, .int v_music, .ref qt_ranks, .int v_sights, .ref qt_sight, .int v_signs, .ref qt_pad, .int v_freeAt, .int v_freeWho, .int v_reason, .int v_acts, .ref qt_gets, .ref qt_counts, .ref qt_worth, .ref qt_ways, .ref qt_image, .ref qt_isKept])), (qt_book, .inl (cI, 43, .inl v_book))]) (gw_rV (n := 1) ⟨hx, hb, hml, hown, hts⟩ (C_X10_isThere l D cI cJ cZ H.size qt qt_book qt_now qt_flakes qt_leaks qt_ranks qt_sight qt_pad qt_gets qt_counts qt_worth qt_ways qt_image qt_isKept v_book v_music v_sights v_signs v_freeAt v_freeWho v_reason v_acts x7 r66 hc66) gX10_vote_X10_isThere rfl rfl rfl hdV_X10_isThere ⟨Nat.le_of_ble_eq_true rfl, Nat.le_of_ble_eq_true rfl⟩ hE (hP.sub [0, 1] rfl) (hD.sub [0, 1] (by decide) rfl) 9 rfl 0 rfl rfl hl.1 (rest := [.int x6]) rfl (Nat.le_of_ble_eq_true rfl) dX10_vote_66 ⟨Nat.zero_le _, Nat.zero_le _⟩) hP hD hS hA [0, 1] [] rfl rfl rfl (by decide) rfl (fun H locs hP hD hS => ?_)
            refine lv_if_ne (tgt := 76) hx hb dX10_vote_69 (by decide) (fun hc => ?_) (fun hc => ?_)
            · have h := if_f hc h
              refine lv_iload hx hb dX10_vote_76 (lv_at hl 0 rfl) ?_
              refine lv_iload hx hb dX10_vote_78 (lv_at hl 6 rfl) ?_
              refine lv_icmp_le (tgt := 91) hx hb dX10_vote_80 (by decide) (fun hc => ?_) (fun hc => ?_)
              · have h := if_t hc h
                refine lv_iload hx hb dX10_vote_91 (lv_at hl 6 rfl) ?_
                refine lv_iload hx hb dX10_vote_93 (lv_at hl 0 rfl) ?_
                refine lv_isub hx hb dX10_vote_95 ?_
                refine lv_iadd hx hb dX10_vote_96 ?_
                refine lv_istore (lv' := [(6, .int (x6 + (x5 - r56))), (8, .int r56), (0, .ref qt), (1, .int p1), (2, .int p2), (3, .int x3), (4, .int x4), (5, .int x5), (7, .int x7)]) hx hb dX10_vote_97 hl (by decide) rfl (fun ls hl => ?_)
                refine lv_iinc (v := (x7 + (1 : Int32))) (lv' := [(7, .int (x7 + (1 : Int32))), (6, .int (x6 + (x5 - r56))), (8, .int r56), (0, .ref qt), (1, .int p1), (2, .int p2), (3, .int x3), (4, .int x4), (5, .int x5)]) hx hb dX10_vote_99 hl (k := 8) rfl rfl (by decide) rfl (fun ls hl => ?_)
                refine lv_goto (tgt := 44) hx hb dX10_vote_102 (by decide) ?_
                exact ih44 x3 x4 x5 (x6 + (x5 - r56)) (x7 + (1 : Int32)) H locs ls hP hD hS (lv_sub hl [3, 4, 5, 6, 7, 8, 1, 0] rfl) h
              · have h := if_f hc h
                refine lv_iload hx hb dX10_vote_83 (lv_at hl 0 rfl) ?_
                refine lv_iload hx hb dX10_vote_85 (lv_at hl 6 rfl) ?_
                refine lv_isub hx hb dX10_vote_87 ?_
                refine lv_goto (tgt := 96) hx hb dX10_vote_88 (by decide) ?_
                refine lv_iadd hx hb dX10_vote_96 ?_
                refine lv_istore (lv' := [(6, .int (x6 + (r56 - x5))), (8, .int r56), (0, .ref qt), (1, .int p1), (2, .int p2), (3, .int x3), (4, .int x4), (5, .int x5), (7, .int x7)]) hx hb dX10_vote_97 hl (by decide) rfl (fun ls hl => ?_)
                refine lv_iinc (v := (x7 + (1 : Int32))) (lv' := [(7, .int (x7 + (1 : Int32))), (6, .int (x6 + (r56 - x5))), (8, .int r56), (0, .ref qt), (1, .int p1), (2, .int p2), (3, .int x3), (4, .int x4), (5, .int x5)]) hx hb dX10_vote_99 hl (k := 8) rfl rfl (by decide) rfl (fun ls hl => ?_)
                refine lv_goto (tgt := 44) hx hb dX10_vote_102 (by decide) ?_
                exact ih44 x3 x4 x5 (x6 + (r56 - x5)) (x7 + (1 : Int32)) H locs ls hP hD hS (lv_sub hl [3, 4, 5, 6, 7, 8, 1, 0] rfl) h
            · have h := if_t hc h
              refine lv_iconst (v := 0) hx hb dX10_vote_72 (by decide) ?_
              refine lv_goto (tgt := 96) hx hb dX10_vote_73 (by decide) ?_
              refine lv_iadd hx hb dX10_vote_96 ?_
              refine lv_istore (lv' := [(6, .int (x6 + (0 : Int32))), (8, .int r56), (0, .ref qt), (1, .int p1), (2, .int p2), (3, .int x3), (4, .int x4), (5, .int x5), (7, .int x7)]) hx hb dX10_vote_97 hl (by decide) rfl (fun ls hl => ?_)
              refine lv_iinc (v := (x7 + (1 : Int32))) (lv' := [(7, .int (x7 + (1 : Int32))), (6, .int (x6 + (0 : Int32))), (8, .int r56), (0, .ref qt), (1, .int p1), (2, .int p2), (3, .int x3), (4, .int x4), (5, .int x5)]) hx hb dX10_vote_99 hl (k := 8) rfl rfl (by decide) rfl (fun ls hl => ?_)
              refine lv_goto (tgt := 44) hx hb dX10_vote_102 (by decide) ?_
              exact ih44 x3 x4 x5 (x6 + (0 : Int32)) (x7 + (1 : Int32)) H locs ls hP hD hS (lv_sub hl [3, 4, 5, 6, 7, 8, 1, 0] rfl) h
      intro x3 x4 x5 H locs ls hP hD hS hl h
      rw [L_X10_vote_31.eq_2] at h
      refine lv_iload hx hb dX10_vote_31 (lv_at hl 5 rfl) ?_
      refine lv_bipush (v := 10) hx hb dX10_vote_33 (by decide) ?_
      refine lv_icmp_ge (tgt := 139) hx hb dX10_vote_35 (by decide) (fun hc => ?_) (fun hc => ?_)
      · have h := if_t hc h
        refine lv_iload_n hx hb dX10_vote_139 rfl (lv_at hl 2 rfl) ?_
        refine lv_if_ne (tgt := 148) hx hb dX10_vote_140 (by decide) (fun hc => ?_) (fun hc => ?_)
        · have h := if_f hc h
          refine lv_iload_n hx hb dX10_vote_148 rfl (lv_at hl 3 rfl) ?_
          cases h
          rw [hQQ]
          exact gw_iret hx hb hr hlocks hP hD hS dX10_vote_149
        · have h := if_t hc h
          refine lv_iload hx hb dX10_vote_143 (lv_at hl 4 rfl) ?_
          refine lv_goto (tgt := 149) hx hb dX10_vote_145 (by decide) ?_
          cases h
          rw [hQQ]
          exact gw_iret hx hb hr hlocks hP hD hS dX10_vote_149
      · have h := if_f hc h
        refine lv_iconst (v := 0) hx hb dX10_vote_38 (by decide) ?_
        refine lv_istore (lv' := [(6, .int (0 : Int32)), (0, .ref qt), (1, .int p1), (2, .int p2), (3, .int x3), (4, .int x4), (5, .int x5)]) hx hb dX10_vote_39 hl (by decide) rfl (fun ls hl => ?_)
        refine lv_iconst (v := 0) hx hb dX10_vote_41 (by decide) ?_
        refine lv_istore (lv' := [(7, .int (0 : Int32)), (6, .int (0 : Int32)), (0, .ref qt), (1, .int p1), (2, .int p2), (3, .int x3), (4, .int x4), (5, .int x5)]) hx hb dX10_vote_42 hl (by decide) rfl (fun ls hl => ?_)
        exact hL44 FU x3 x4 x5 (0 : Int32) (0 : Int32) H locs ls hP hD hS (lv_sub hl [2, 3, 4, 5, 6, 7, 1, 0] rfl) h
  have h := hf
  unfold f_X10_vote at h
  refine gw_start hP hD hS (fun H locs hP hD hS => ?_)
  refine lv_iload_n hx hb dX10_vote_0 rfl (lv_at hl 1 rfl) ?_
  refine lv_iconst (v := 0) hx hb dX10_vote_1 (by decide) ?_
  refine lv_ldc hx hb hown (hts (.constant RX10 140 (99999999)) (List.mem_cons_of_mem _ (List.mem_append_left _ (List.mem_of_getElem? (i := 0) rfl)))) dX10_vote_2 ?_
  obtain ⟨r4, hc4, h⟩ := bd1_some h
  refine gw_ci (wr := [(qt, .inr (9, [.ref qt_book, .ref qt_now, .ref qt_flakes, .ref qt_leaks, .int v_music, .ref qt_ranks, .int v_sights, .ref qt_sight, .int v_signs, .ref qt_pad, .int v_freeAt, .int v_freeWho, .int v_reason, .int v_acts, .ref qt_gets, .ref qt_counts, .ref qt_worth, .ref qt_ways, .ref qt_image, .ref qt_isKept])), (qt_book, .inl (cI, 43, .inl v_book))]) (w2 := [(qt, .inr (9, [.ref qt_book, .ref qt_now, .ref qt_flakes, .ref qt_leaks, .int v_music, .ref qt_ranks, .int v_sights, .ref qt_sight, .int v_signs, .ref qt_pad, .int v_freeAt, .int v_freeWho, .int v_reason, .int v_acts, .ref qt_gets, .ref qt_counts, .ref qt_worth, .ref qt_ways, .ref qt_image, .ref qt_isKept])), (qt_book, .inl (cI, 43, .inl v_book))]) (gw_rS (n := 3) ⟨hx, hb, hml, hown, hts⟩ (C_X10_in l D cI cJ cZ H.size p1 (0 : Int32) (99999999 : Int32) r4 hc4) gX10_vote_X10_in rfl rfl rfl hdS_X10_in ⟨Nat.le_of_ble_eq_true rfl, Nat.le_of_ble_eq_true rfl⟩ hE (hP.sub [] rfl) (hD.sub [] (by decide) rfl) rfl hl.1 (rest := []) rfl (Nat.le_of_ble_eq_true rfl) dX10_vote_4 ⟨Nat.zero_le _, Nat.zero_le _⟩) hP hD hS hA [] [0, 1] rfl rfl rfl (by decide) rfl (fun H locs hP hD hS => ?_)
  refine lv_if_eq (tgt := 19) hx hb dX10_vote_7 (by decide) (fun hc => ?_) (fun hc => ?_)
  · have h := if_t hc h
    refine lv_bipush (v := -2) hx hb dX10_vote_19 (by decide) ?_
    cases h
    rw [hQQ]
    exact gw_iret hx hb hr hlocks hP hD hS dX10_vote_21
  · have h := if_f hc h
    refine lv_iload_n hx hb dX10_vote_10 rfl (lv_at hl 2 rfl) ?_
    refine lv_iconst (v := 0) hx hb dX10_vote_11 (by decide) ?_
    refine lv_iconst (v := 1) hx hb dX10_vote_12 (by decide) ?_
    obtain ⟨r13, hc13, h⟩ := bd1_some h
    refine gw_ci (wr := [(qt, .inr (9, [.ref qt_book, .ref qt_now, .ref qt_flakes, .ref qt_leaks, .int v_music, .ref qt_ranks, .int v_sights, .ref qt_sight, .int v_signs, .ref qt_pad, .int v_freeAt, .int v_freeWho, .int v_reason, .int v_acts, .ref qt_gets, .ref qt_counts, .ref qt_worth, .ref qt_ways, .ref qt_image, .ref qt_isKept])), (qt_book, .inl (cI, 43, .inl v_book))]) (w2 := [(qt, .inr (9, [.ref qt_book, .ref qt_now, .ref qt_flakes, .ref qt_leaks, .int v_music, .ref qt_ranks, .int v_sights, .ref qt_sight, .int v_signs, .ref qt_pad, .int v_freeAt, .int v_freeWho, .int v_reason, .int v_acts, .ref qt_gets, .ref qt_counts, .ref qt_worth, .ref qt_ways, .ref qt_image, .ref qt_isKept])), (qt_book, .inl (cI, 43, .inl v_book))]) (gw_rS (n := 3) ⟨hx, hb, hml, hown, hts⟩ (C_X10_in l D cI cJ cZ H.size p2 (0 : Int32) (1 : Int32) r13 hc13) gX10_vote_X10_in rfl rfl rfl hdS_X10_in ⟨Nat.le_of_ble_eq_true rfl, Nat.le_of_ble_eq_true rfl⟩ hE (hP.sub [] rfl) (hD.sub [] (by decide) rfl) rfl hl.1 (rest := []) rfl (Nat.le_of_ble_eq_true rfl) dX10_vote_13 ⟨Nat.zero_le _, Nat.zero_le _⟩) hP hD hS hA [] [0, 1] rfl rfl rfl (by decide) rfl (fun H locs hP hD hS => ?_)
    refine lv_if_ne (tgt := 22) hx hb dX10_vote_16 (by decide) (fun hc => ?_) (fun hc => ?_)
    · have h := if_f hc h
      refine lv_ldc hx hb hown (hts (.constant RX10 141 (1000000)) (List.mem_cons_of_mem _ (List.mem_append_left _ (List.mem_of_getElem? (i := 1) rfl)))) dX10_vote_22 ?_
      refine lv_istore_n (lv' := [(3, .int (1000000 : Int32)), (0, .ref qt), (1, .int p1), (2, .int p2)]) hx hb dX10_vote_24 rfl hl (by decide) rfl (fun ls hl => ?_)
      refine lv_iconst (v := 0) hx hb dX10_vote_25 (by decide) ?_
      refine lv_istore (lv' := [(4, .int (0 : Int32)), (3, .int (1000000 : Int32)), (0, .ref qt), (1, .int p1), (2, .int p2)]) hx hb dX10_vote_26 hl (by decide) rfl (fun ls hl => ?_)
      refine lv_iconst (v := 0) hx hb dX10_vote_28 (by decide) ?_
      refine lv_istore (lv' := [(5, .int (0 : Int32)), (4, .int (0 : Int32)), (3, .int (1000000 : Int32)), (0, .ref qt), (1, .int p1), (2, .int p2)]) hx hb dX10_vote_29 hl (by decide) rfl (fun ls hl => ?_)
      exact hL31 FU (1000000 : Int32) (0 : Int32) (0 : Int32) H locs ls hP hD hS (lv_sub hl [3, 4, 5, 2, 1, 0] rfl) h
    · have h := if_t hc h
      refine lv_bipush (v := -2) hx hb dX10_vote_19 (by decide) ?_
      cases h
      rw [hQQ]
      exact gw_iret hx hb hr hlocks hP hD hS dX10_vote_21
theorem hdV_X10_vote : yX10_vote.cls = RX10 ∧ yX10_vote.cls ≠ "java/lang/invoke/MethodHandle" ∧ yX10_vote.cls ≠ "java/lang/invoke/VarHandle" ∧ (parseMethodDescriptor yX10_vote.desc).map (fun d => d.parameters.length) = some 2 := by decide +kernel
