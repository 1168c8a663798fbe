def L_X10_restore_138 (v_image : (Nat → Int32)) (v_isKept : (Nat → Int32)) (p1 : Int32) : Nat → (Nat → Int32) → (Nat → Int32) → (Nat → Int32) → Int32 → (Nat → Int32) → Int32 → (Nat → Int32) → Int32 → Int32 → Option (Int32 × (Nat → Int32) × (Nat → Int32) × (Nat → Int32) × Int32 × (Nat → Int32) × Int32 × (Nat → Int32))
  | 0, _, _, _, _, _, _, _, _, _ => none
  | n + 1, v_book, v_flakes, v_leaks, v_music, v_ranks, v_sights, v_sight, x2, x3 => (if (16 : Int32) ≤ x3 then (gin (x2 + (90 : Int32)) 200 (gin (x2 + (91 : Int32)) 200 (some ((1 : Int32), v_book, v_flakes, v_leaks, (v_image (Int32.toNatClampNeg (x2 + (90 : Int32)))), v_ranks, (v_image (Int32.toNatClampNeg (x2 + (91 : Int32)))), v_sight)))) else (gin ((x2 + (65 : Int32)) + x3) 200 (gin x3 16 ((L_X10_restore_138 v_image v_isKept p1 n) v_book v_flakes v_leaks v_music v_ranks v_sights (upd v_sight (Int32.toNatClampNeg x3) (v_image (Int32.toNatClampNeg ((x2 + (65 : Int32)) + x3)))) x2 (x3 + (1 : Int32))))))
def L_X10_restore_107 (v_image : (Nat → Int32)) (v_isKept : (Nat → Int32)) (p1 : Int32) : Nat → (Nat → Int32) → (Nat → Int32) → (Nat → Int32) → Int32 → (Nat → Int32) → Int32 → (Nat → Int32) → Int32 → Int32 → Option (Int32 × (Nat → Int32) × (Nat → Int32) × (Nat → Int32) × Int32 × (Nat → Int32) × Int32 × (Nat → Int32))
  | 0, _, _, _, _, _, _, _, _, _ => none
  | n + 1, v_book, v_flakes, v_leaks, v_music, v_ranks, v_sights, v_sight, x2, x3 => (if (6 : Int32) ≤ x3 then (L_X10_restore_138 v_image v_isKept p1 FU v_book v_flakes v_leaks v_music v_ranks v_sights v_sight x2 (0 : Int32)) else (gin ((x2 + (59 : Int32)) + x3) 200 (gin x3 6 ((L_X10_restore_107 v_image v_isKept p1 n) v_book v_flakes v_leaks v_music (upd v_ranks (Int32.toNatClampNeg x3) (v_image (Int32.toNatClampNeg ((x2 + (59 : Int32)) + x3)))) v_sights v_sight x2 (x3 + (1 : Int32))))))
def L_X10_restore_59 (v_image : (Nat → Int32)) (v_isKept : (Nat → Int32)) (p1 : Int32) : Nat → (Nat → Int32) → (Nat → Int32) → (Nat → Int32) → Int32 → (Nat → Int32) → Int32 → (Nat → Int32) → Int32 → Int32 → Option (Int32 × (Nat → Int32) × (Nat → Int32) × (Nat → Int32) × Int32 × (Nat → Int32) × Int32 × (Nat → Int32))
  | 0, _, _, _, _, _, _, _, _, _ => none
  | n + 1, v_book, v_flakes, v_leaks, v_music, v_ranks, v_sights, v_sight, x2, x3 => (if (8 : Int32) ≤ x3 then (L_X10_restore_107 v_image v_isKept p1 FU v_book v_flakes v_leaks v_music v_ranks v_sights v_sight x2 (0 : Int32)) else (gin ((x2 + (43 : Int32)) + x3) 200 (gin x3 8 (gin ((x2 + (51 : Int32)) + x3) 200 (gin x3 8 ((L_X10_restore_59 v_image v_isKept p1 n) v_book (upd v_flakes (Int32.toNatClampNeg x3) (v_image (Int32.toNatClampNeg ((x2 + (43 : Int32)) + x3)))) (upd v_leaks (Int32.toNatClampNeg x3) (v_image (Int32.toNatClampNeg ((x2 + (51 : Int32)) + x3)))) v_music v_ranks v_sights v_sight x2 (x3 + (1 : Int32))))))))
def L_X10_restore_31 (v_image : (Nat → Int32)) (v_isKept : (Nat → Int32)) (p1 : Int32) : Nat → (Nat → Int32) → (Nat → Int32) → (Nat → Int32) → Int32 → (Nat → Int32) → Int32 → (Nat → Int32) → Int32 → Int32 → Option (Int32 × (Nat → Int32) × (Nat → Int32) × (Nat → Int32) × Int32 × (Nat → Int32) × Int32 × (Nat → Int32))
  | 0, _, _, _, _, _, _, _, _, _ => none
  | n + 1, v_book, v_flakes, v_leaks, v_music, v_ranks, v_sights, v_sight, x2, x3 => (if (43 : Int32) ≤ x3 then (L_X10_restore_59 v_image v_isKept p1 FU v_book v_flakes v_leaks v_music v_ranks v_sights v_sight x2 (0 : Int32)) else (gin (x2 + x3) 200 (gin x3 43 ((L_X10_restore_31 v_image v_isKept p1 n) (upd v_book (Int32.toNatClampNeg x3) (v_image (Int32.toNatClampNeg (x2 + x3)))) v_flakes v_leaks v_music v_ranks v_sights v_sight x2 (x3 + (1 : Int32))))))
def f_X10_restore (v_book : (Nat → Int32)) (v_flakes : (Nat → Int32)) (v_leaks : (Nat → Int32)) (v_music : Int32) (v_ranks : (Nat → Int32)) (v_sights : Int32) (v_sight : (Nat → Int32)) (v_image : (Nat → Int32)) (v_isKept : (Nat → Int32)) (p1 : Int32) : Option (Int32 × (Nat → Int32) × (Nat → Int32) × (Nat → Int32) × Int32 × (Nat → Int32) × Int32 × (Nat → Int32)) := (bd1 (f_X10_in p1 (0 : Int32) (1 : Int32)) (fun r3 => (if r3 = (0 : Int32) then (some ((-2 : Int32), v_book, v_flakes, v_leaks, v_music, v_ranks, v_sights, v_sight)) else (gin p1 2 (if (v_isKept (Int32.toNatClampNeg p1)) = (0 : Int32) then (some ((-3 : Int32), v_book, v_flakes, v_leaks, v_music, v_ranks, v_sights, v_sight)) else (L_X10_restore_31 v_image v_isKept p1 FU v_book v_flakes v_leaks v_music v_ranks v_sights v_sight ((100 : Int32) * p1) (0 : Int32)))))))
abbrev rm_X10_restore : Room := { frames := 1, cells := 0, slots := 0, locals := 22 }
set_option maxHeartbeats 4000000 in
set_option maxRecDepth 100000 in
theorem C_X10_restore (l : Launch) (D : va_G) (cI cJ cZ : ClassId) (sz : Nat) (qt qt_book qt_now qt_flakes qt_leaks qt_ranks qt_sight qt_pad qt_gets qt_counts qt_worth qt_ways qt_image qt_isKept : Nat) (v_book : (Nat → Int32)) (v_flakes : (Nat → Int32)) (v_leaks : (Nat → Int32)) (v_music : Int32) (v_ranks : (Nat → Int32)) (v_sights : Int32) (v_sight : (Nat → Int32)) (v_signs : Int32) (v_freeAt : Int32) (v_freeWho : Int32) (v_reason : Int32) (v_acts : Int32) (v_image : (Nat → Int32)) (v_isKept : (Nat → Int32)) (p1 : Int32) (r : Int32) (w_book : (Nat → Int32)) (w_flakes : (Nat → Int32)) (w_leaks : (Nat → Int32)) (w_music : Int32) (w_ranks : (Nat → Int32)) (w_sights : Int32) (w_sight : (Nat → Int32)) (hf : f_X10_restore v_book v_flakes v_leaks v_music v_ranks v_sights v_sight v_image v_isKept p1 = some (r, w_book, w_flakes, w_leaks, w_music, w_ranks, w_sights, w_sight)) : Met l yX10_restore wsX10_restore rm_X10_restore (PR D cI cJ cZ [(qt, .inr (9, [.ref qt_book, .ref qt_now, .ref qt_flakes, .ref qt_leaks, .int v_music, .ref qt_ranks, .int v_sights, .ref qt_sight, .int v_signs, .ref qt_pad, .int v_freeAt, .int v_freeWho, .int v_reason, .int v_acts, .ref qt_gets, .ref qt_counts, .ref qt_worth, .ref qt_ways, .ref qt_image, .ref qt_isKept])), (qt_book, .inl (cI, 43, .inl v_book)), (qt_flakes, .inl (cI, 8, .inl v_flakes)), (qt_leaks, .inl (cI, 8, .inl v_leaks)), (qt_ranks, .inl (cI, 6, .inl v_ranks)), (qt_sight, .inl (cI, 16, .inl v_sight)), (qt_image, .inl (cI, 200, .inl v_image)), (qt_isKept, .inl (cZ, 2, .inl v_isKept))] sz [.ref qt, .int p1]) (QI D (va_A [(qt, .inr (9, [.ref qt_book, .ref qt_now, .ref qt_flakes, .ref qt_leaks, .int v_music, .ref qt_ranks, .int v_sights, .ref qt_sight, .int v_signs, .ref qt_pad, .int v_freeAt, .int v_freeWho, .int v_reason, .int v_acts, .ref qt_gets, .ref qt_counts, .ref qt_worth, .ref qt_ways, .ref qt_image, .ref qt_isKept])), (qt_book, .inl (cI, 43, .inl v_book)), (qt_flakes, .inl (cI, 8, .inl v_flakes)), (qt_leaks, .inl (cI, 8, .inl v_leaks)), (qt_ranks, .inl (cI, 6, .inl v_ranks)), (qt_sight, .inl (cI, 16, .inl v_sight)), (qt_image, .inl (cI, 200, .inl v_image)), (qt_isKept, .inl (cZ, 2, .inl v_isKept))] sz) r [(qt, .inr (9, [.ref qt_book, .ref qt_now, .ref qt_flakes, .ref qt_leaks, .int w_music, .ref qt_ranks, .int w_sights, .ref qt_sight, .int v_signs, .ref qt_pad, .int v_freeAt, .int v_freeWho, .int v_reason, .int v_acts, .ref qt_gets, .ref qt_counts, .ref qt_worth, .ref qt_ways, .ref qt_image, .ref qt_isKept])), (qt_book, .inl (cI, 43, .inl w_book)), (qt_flakes, .inl (cI, 8, .inl w_flakes)), (qt_leaks, .inl (cI, 8, .inl w_leaks)), (qt_ranks, .inl (cI, 6, .inl w_ranks)), (qt_sight, .inl (cI, 16, .inl w_sight)), (qt_image, .inl (cI, 200, .inl v_image)), (qt_isKept, .inl (cZ, 2, .inl v_isKept))]) 0 0 (va_A [(qt, .inr (9, [.ref qt_book, .ref qt_now, .ref qt_flakes, .ref qt_leaks, .int v_music, .ref qt_ranks, .int v_sights, .ref qt_sight, .int v_signs, .ref qt_pad, .int v_freeAt, .int v_freeWho, .int v_reason, .int v_acts, .ref qt_gets, .ref qt_counts, .ref qt_worth, .ref qt_ways, .ref qt_image, .ref qt_isKept])), (qt_book, .inl (cI, 43, .inl v_book)), (qt_flakes, .inl (cI, 8, .inl v_flakes)), (qt_leaks, .inl (cI, 8, .inl v_leaks)), (qt_ranks, .inl (cI, 6, .inl v_ranks)), (qt_sight, .inl (cI, 16, .inl v_sight)), (qt_image, .inl (cI, 200, .inl v_image)), (qt_isKept, .inl (cZ, 2, .inl v_isKept))] sz) := by
  refine Met.ofW (cc := cX10_restore) (maxL := 4) (ret := (some .int)) (by decide) rfl ?_
  intro p e s m args below meth c s₁ B hml hv
  obtain ⟨hav, hsz, hP, hD0, hE⟩ := hv
  have hx := B.exec
  have hb := B.bytes
  have hr := B.returns
  have hts := atoms_spec (ws := wsX10_restore) B.pre
  have hown : s.vm.findClass RX10 = some m.cls := findClass_of_methodNamed B.named
  have hlocks := B.notSynchronized
  subst hsz
  have hD := hD0.self (sz := s.heap.size)
  generalize hAe : va_A [(qt, .inr (9, [.ref qt_book, .ref qt_now, .ref qt_flakes, .ref qt_leaks, .int v_music, .ref qt_ranks, .int v_sights, .ref qt_sight, .int v_signs, .ref qt_pad, .int v_freeAt, .int v_freeWho, .int v_reason, .int v_acts, .ref qt_gets, .ref qt_counts, .ref qt_worth, .ref qt_ways, .ref qt_image, .ref qt_isKept])), (qt_book, .inl (cI, 43, .inl v_book)), (qt_flakes, .inl (cI, 8, .inl v_flakes)), (qt_leaks, .inl (cI, 8, .inl v_leaks)), (qt_ranks, .inl (cI, 6, .inl v_ranks)), (qt_sight, .inl (cI, 16, .inl v_sight)), (qt_image, .inl (cI, 200, .inl v_image)), (qt_isKept, .inl (cZ, 2, .inl v_isKept))] s.heap.size = A at hD ⊢
  have hA : ∀ q : Nat, s.heap.size ≤ q → A q := fun q h => by rw [← hAe]; exact Or.inr h
  have hS : va_S A s.heap s.heap [] := va_S.rf
  have hl := lv_entry ([.ref qt, .int p1]) (n := 4) (Nat.le_of_ble_eq_true rfl)
  have hfr : entryFrame m args 4 = entryFrame m ([.ref qt, .int p1] : List Value).toArray 4 := by rw [hav]
  rw [hfr, lg_entry_eq]
  generalize (lg_sl ([.ref qt, .int p1]) ++ List.replicate (4 - (lg_sl ([.ref qt, .int p1])).length) Slot.unset).toArray = ls at hl ⊢
  have hl : lv_has ls 4 [(0, .ref qt), (1, .int p1)] := hl
  obtain ⟨QQ, hQQ⟩ : ∃ QQ, QQ = MQ below (QI D A r [(qt, .inr (9, [.ref qt_book, .ref qt_now, .ref qt_flakes, .ref qt_leaks, .int w_music, .ref qt_ranks, .int w_sights, .ref qt_sight, .int v_signs, .ref qt_pad, .int v_freeAt, .int v_freeWho, .int v_reason, .int v_acts, .ref qt_gets, .ref qt_counts, .ref qt_worth, .ref qt_ways, .ref qt_image, .ref qt_isKept])), (qt_book, .inl (cI, 43, .inl w_book)), (qt_flakes, .inl (cI, 8, .inl w_flakes)), (qt_leaks, .inl (cI, 8, .inl w_leaks)), (qt_ranks, .inl (cI, 6, .inl w_ranks)), (qt_sight, .inl (cI, 16, .inl w_sight)), (qt_image, .inl (cI, 200, .inl v_image)), (qt_isKept, .inl (cZ, 2, .inl v_isKept))]) args s 0 0 A := ⟨_, rfl⟩
  show W p l e rm_X10_restore s m args below meth c s.heap [] 0 0 _ _
  rw [← hQQ]
  have hL138 : ∀ (n138 : Nat), ∀ (v_book : (Nat → Int32)) (v_flakes : (Nat → Int32)) (v_leaks : (Nat → Int32)) (v_music : Int32) (v_ranks : (Nat → Int32)) (v_sights : Int32) (v_sight : (Nat → Int32)) (x2 : Int32) (x3 : Int32) (H : Heap) (locs : List Loc) (ls : Array Slot), va_P D vwCl [(qt, .inr (9, [.ref qt_book, .ref qt_now, .ref qt_flakes, .ref qt_leaks, .int v_music, .ref qt_ranks, .int v_sights, .ref qt_sight, .int v_signs, .ref qt_pad, .int v_freeAt, .int v_freeWho, .int v_reason, .int v_acts, .ref qt_gets, .ref qt_counts, .ref qt_worth, .ref qt_ways, .ref qt_image, .ref qt_isKept])), (qt_book, .inl (cI, 43, .inl v_book)), (qt_flakes, .inl (cI, 8, .inl v_flakes)), (qt_leaks, .inl (cI, 8, .inl v_leaks)), (qt_ranks, .inl (cI, 6, .inl v_ranks)), (qt_sight, .inl (cI, 16, .inl v_sight)), (qt_image, .inl (cI, 200, .inl v_image)), (qt_isKept, .inl (cZ, 2, .inl v_isKept))] H → va_D A [(qt, .inr (9, [.ref qt_book, .ref qt_now, .ref qt_flakes, .ref qt_leaks, .int v_music, .ref qt_ranks, .int v_sights, .ref qt_sight, .int v_signs, .ref qt_pad, .int v_freeAt, .int v_freeWho, .int v_reason, .int v_acts, .ref qt_gets, .ref qt_counts, .ref qt_worth, .ref qt_ways, .ref qt_image, .ref qt_isKept])), (qt_book, .inl (cI, 43, .inl v_book)), (qt_flakes, .inl (cI, 8, .inl v_flakes)), (qt_leaks, .inl (cI, 8, .inl v_leaks)), (qt_ranks, .inl (cI, 6, .inl v_ranks)), (qt_sight, .inl (cI, 16, .inl v_sight)), (qt_image, .inl (cI, 200, .inl v_image)), (qt_isKept, .inl (cZ, 2, .inl v_isKept))] → va_S A s.heap H locs → lv_has ls 4 [(0, .ref qt), (2, .int x2), (3, .int x3)] → L_X10_restore_138 v_image v_isKept p1 n138 v_book v_flakes v_leaks v_music v_ranks v_sights v_sight x2 x3 = some (r, w_book, w_flakes, w_leaks, w_music, w_ranks, w_sights, w_sight) → W p l e rm_X10_restore s m args below meth c H locs 0 0 QQ (F0 m 138 ls []) := by
    intro n138
    induction n138 with
    | zero =>
      intro v_book v_flakes v_leaks v_music v_ranks v_sights v_sight x2 x3 H locs ls hP hD hS hl h
      have h : none = some (r, w_book, w_flakes, w_leaks, w_music, w_ranks, w_sights, w_sight) := h
      cases h
    | succ n138 ih138 =>
      intro v_book v_flakes v_leaks v_music v_ranks v_sights v_sight x2 x3 H locs ls hP hD hS hl h
      rw [L_X10_restore_138.eq_2] at h
      refine lv_iload_n hx hb dX10_restore_138 rfl (lv_at hl 2 rfl) ?_
      refine lv_bipush (v := 16) hx hb dX10_restore_139 (by decide) ?_
      refine lv_icmp_ge (tgt := 167) hx hb dX10_restore_141 (by decide) (fun hc => ?_) (fun hc => ?_)
      · have h := if_t hc h
        refine lv_aload_n hx hb dX10_restore_167 rfl (lv_at hl 0 rfl) ?_
        refine lv_aload_n hx hb dX10_restore_168 rfl (lv_at hl 0 rfl) ?_
        refine va_get (D := D) (ci := 9) (C := RX10) (T := TX10) (N := 20) hx hb hts (fun _ hw => (List.mem_cons_of_mem _ (List.mem_append_right _ hw))) hown hE.1 hP 0 rfl rfl 18 (by decide) (hts (.fieldLink RX10 44 "GlobeCrownModel" "image" "[I") (List.mem_cons_of_mem _ (List.mem_append_left _ (List.mem_of_getElem? (i := 2) rfl)))) (fun _ h9 => h9) rfl dX10_restore_169 ?_
        refine lv_iload_n hx hb dX10_restore_172 rfl (lv_at hl 1 rfl) ?_
        refine lv_bipush (v := 90) hx hb dX10_restore_173 (by decide) ?_
        refine lv_iadd hx hb dX10_restore_175 ?_
        obtain ⟨hg, h⟩ := gin_some h
        refine va_iald hx hb hE.1 hP 6 0 rfl rfl hg dX10_restore_176 ?_
        refine va_put (D := D) (ci := 9) (v := .int (v_image (Int32.toNatClampNeg (x2 + (90 : Int32))))) (ty := .int) (C := RX10) (T := TX10) (N := 20) hx hb hts (fun _ hw => (List.mem_cons_of_mem _ (List.mem_append_right _ hw))) tyX10 tyX10_ok nmX10 hown hE.1 hP hD hS 0 rfl rfl 4 (by decide) (hts (.fieldLink RX10 63 "GlobeCrownModel" "music" "I") (List.mem_cons_of_mem _ (List.mem_append_left _ (List.mem_of_getElem? (i := 7) rfl)))) (fun _ h9 => h9) rfl (tyX10_ok 4 (by decide)) rfl rfl (Nat.le_of_ble_eq_true rfl) dX10_restore_177 (fun H locs (hP : va_P D vwCl [(qt, .inr (9, [.ref qt_book, .ref qt_now, .ref qt_flakes, .ref qt_leaks, .int (v_image (Int32.toNatClampNeg (x2 + (90 : Int32)))), .ref qt_ranks, .int v_sights, .ref qt_sight, .int v_signs, .ref qt_pad, .int v_freeAt, .int v_freeWho, .int v_reason, .int v_acts, .ref qt_gets, .ref qt_counts, .ref qt_worth, .ref qt_ways, .ref qt_image, .ref qt_isKept])), (qt_book, .inl (cI, 43, .inl v_book)), (qt_flakes, .inl (cI, 8, .inl v_flakes)), (qt_leaks, .inl (cI, 8, .inl v_leaks)), (qt_ranks, .inl (cI, 6, .inl v_ranks)), (qt_sight, .inl (cI, 16, .inl v_sight)), (qt_image, .inl (cI, 200, .inl v_image)), (qt_isKept, .inl (cZ, 2, .inl v_isKept))] H) (hD : va_D A [(qt, .inr (9, [.ref qt_book, .ref qt_now, .ref qt_flakes, .ref qt_leaks, .int (v_image (Int32.toNatClampNeg (x2 + (90 : Int32)))), .ref qt_ranks, .int v_sights, .ref qt_sight, .int v_signs, .ref qt_pad, .int v_freeAt, .int v_freeWho, .int v_reason, .int v_acts, .ref qt_gets, .ref qt_counts, .ref qt_worth, .ref qt_ways, .ref qt_image, .ref qt_isKept])), (qt_book, .inl (cI, 43, .inl v_book)), (qt_flakes, .inl (cI, 8, .inl v_flakes)), (qt_leaks, .inl (cI, 8, .inl v_leaks)), (qt_ranks, .inl (cI, 6, .inl v_ranks)), (qt_sight, .inl (cI, 16, .inl v_sight)), (qt_image, .inl (cI, 200, .inl v_image)), (qt_isKept, .inl (cZ, 2, .inl v_isKept))]) hS => ?_)
        refine lv_aload_n hx hb dX10_restore_180 rfl (lv_at hl 0 rfl) ?_
        refine lv_aload_n hx hb dX10_restore_181 rfl (lv_at hl 0 rfl) ?_
        refine va_get (D := D) (ci := 9) (C := RX10) (T := TX10) (N := 20) hx hb hts (fun _ hw => (List.mem_cons_of_mem _ (List.mem_append_right _ hw))) hown hE.1 hP 0 rfl rfl 18 (by decide) (hts (.fieldLink RX10 44 "GlobeCrownModel" "image" "[I") (List.mem_cons_of_mem _ (List.mem_append_left _ (List.mem_of_getElem? (i := 2) rfl)))) (fun _ h9 => h9) rfl dX10_restore_182 ?_
        refine lv_iload_n hx hb dX10_restore_185 rfl (lv_at hl 1 rfl) ?_
        refine lv_bipush (v := 91) hx hb dX10_restore_186 (by decide) ?_
        refine lv_iadd hx hb dX10_restore_188 ?_
        obtain ⟨hg, h⟩ := gin_some h
        refine va_iald hx hb hE.1 hP 6 0 rfl rfl hg dX10_restore_189 ?_
        refine va_put (D := D) (ci := 9) (v := .int (v_image (Int32.toNatClampNeg (x2 + (91 : Int32))))) (ty := .int) (C := RX10) (T := TX10) (N := 20) hx hb hts (fun _ hw => (List.mem_cons_of_mem _ (List.mem_append_right _ hw))) tyX10 tyX10_ok nmX10 hown hE.1 hP hD hS 0 rfl rfl 6 (by decide) (hts (.fieldLink RX10 152 "GlobeCrownModel" "sights" "I") (List.mem_cons_of_mem _ (List.mem_append_left _ (List.mem_of_getElem? (i := 8) rfl)))) (fun _ h9 => h9) rfl (tyX10_ok 6 (by decide)) rfl rfl (Nat.le_of_ble_eq_true rfl) dX10_restore_190 (fun H locs (hP : va_P D vwCl [(qt, .inr (9, [.ref qt_book, .ref qt_now, .ref qt_flakes, .ref qt_leaks, .int (v_image (Int32.toNatClampNeg (x2 + (90 : Int32)))), .ref qt_ranks, .int (v_image (Int32.toNatClampNeg (x2 + (91 : Int32)))), .ref qt_sight, .int v_signs, .ref qt_pad, .int v_freeAt, .int v_freeWho, .int v_reason, .int v_acts, .ref qt_gets, .ref qt_counts, .ref qt_worth, .ref qt_ways, .ref qt_image, .ref qt_isKept])), (qt_book, .inl (cI, 43, .inl v_book)), (qt_flakes, .inl (cI, 8, .inl v_flakes)), (qt_leaks, .inl (cI, 8, .inl v_leaks)), (qt_ranks, .inl (cI, 6, .inl v_ranks)), (qt_sight, .inl (cI, 16, .inl v_sight)), (qt_image, .inl (cI, 200, .inl v_image)), (qt_isKept, .inl (cZ, 2, .inl v_isKept))] H) (hD : va_D A [(qt, .inr (9, [.ref qt_book, .ref qt_now, .ref qt_flakes, .ref qt_leaks, .int (v_image (Int32.toNatClampNeg (x2 + (90 : Int32)))), .ref qt_ranks, .int (v_image (Int32.toNatClampNeg (x2 + (91 : Int32)))), .ref qt_sight, .int v_signs, .ref qt_pad, .int v_freeAt, .int v_freeWho, .int v_reason, .int v_acts, .ref qt_gets, .ref qt_counts, .ref qt_worth, .ref qt_ways, .ref qt_image, .ref qt_isKept])), (qt_book, .inl (cI, 43, .inl v_book)), (qt_flakes, .inl (cI, 8, .inl v_flakes)), (qt_leaks, .inl (cI, 8, .inl v_leaks)), (qt_ranks, .inl (cI, 6, .inl v_ranks)), (qt_sight, .inl (cI, 16, .inl v_sight)), (qt_image, .inl (cI, 200, .inl v_image)), (qt_isKept, .inl (cZ, 2, .inl v_isKept))]) hS => ?_)
        refine lv_iconst (v := 1) hx hb dX10_restore_193 (by decide) ?_
        cases h
        rw [hQQ]
        exact gw_iret hx hb hr hlocks hP hD hS dX10_restore_194
      · have h := if_f hc h
        refine lv_aload_n hx hb dX10_restore_144 rfl (lv_at hl 0 rfl) ?_
        refine va_get (D := D) (ci := 9) (C := RX10) (T := TX10) (N := 20) hx hb hts (fun _ hw => (List.mem_cons_of_mem _ (List.mem_append_right _ hw))) hown hE.1 hP 0 rfl rfl 7 (by decide) (hts (.fieldLink RX10 25 "GlobeCrownModel" "sight" "[I") (List.mem_cons_of_mem _ (List.mem_append_left _ (List.mem_of_getElem? (i := 6) rfl)))) (fun _ h9 => h9) rfl dX10_restore_145 ?_
        refine lv_iload_n hx hb dX10_restore_148 rfl (lv_at hl 2 rfl) ?_
        refine lv_aload_n hx hb dX10_restore_149 rfl (lv_at hl 0 rfl) ?_
        refine va_get (D := D) (ci := 9) (C := RX10) (T := TX10) (N := 20) hx hb hts (fun _ hw => (List.mem_cons_of_mem _ (List.mem_append_right _ hw))) hown hE.1 hP 0 rfl rfl 18 (by decide) (hts (.fieldLink RX10 44 "GlobeCrownModel" "image" "[I") (List.mem_cons_of_mem _ (List.mem_append_left _ (List.mem_of_getElem? (i := 2) rfl)))) (fun _ h9 => h9) rfl dX10_restore_150 ?_
        refine lv_iload_n hx hb dX10_restore_153 rfl (lv_at hl 1 rfl) ?_
        refine lv_bipush (v := 65) hx hb dX10_restore_154 (by decide) ?_
        refine lv_iadd hx hb dX10_restore_156 ?_
        refine lv_iload_n hx hb dX10_restore_157 rfl (lv_at hl 2 rfl) ?_
        refine lv_iadd hx hb dX10_restore_158 ?_
        obtain ⟨hg, h⟩ := gin_some h
        refine va_iald hx hb hE.1 hP 6 0 rfl rfl hg dX10_restore_159 ?_
        obtain ⟨hg, h⟩ := gin_some h
        refine va_iast hx hb hE.1 hP hD hS 5 0 rfl rfl hg dX10_restore_160 (fun H locs (hP : va_P D vwCl [(qt, .inr (9, [.ref qt_book, .ref qt_now, .ref qt_flakes, .ref qt_leaks, .int v_music, .ref qt_ranks, .int v_sights, .ref qt_sight, .int v_signs, .ref qt_pad, .int v_freeAt, .int v_freeWho, .int v_reason, .int v_acts, .ref qt_gets, .ref qt_counts, .ref qt_worth, .ref qt_ways, .ref qt_image, .ref qt_isKept])), (qt_book, .inl (cI, 43, .inl v_book)), (qt_flakes, .inl (cI, 8, .inl v_flakes)), (qt_leaks, .inl (cI, 8, .inl v_leaks)), (qt_ranks, .inl (cI, 6, .inl v_ranks)), (qt_sight, .inl (cI, 16, .inl (upd v_sight (Int32.toNatClampNeg x3) (v_image (Int32.toNatClampNeg ((x2 + (65 : Int32)) + x3)))))), (qt_image, .inl (cI, 200, .inl v_image)), (qt_isKept, .inl (cZ, 2, .inl v_isKept))] H) (hD : va_D A [(qt, .inr (9, [.ref qt_book, .ref qt_now, .ref qt_flakes, .ref qt_leaks, .int v_music, .ref qt_ranks, .int v_sights, .ref qt_sight, .int v_signs, .ref qt_pad, .int v_freeAt, .int v_freeWho, .int v_reason, .int v_acts, .ref qt_gets, .ref qt_counts, .ref qt_worth, .ref qt_ways, .ref qt_image, .ref qt_isKept])), (qt_book, .inl (cI, 43, .inl v_book)), (qt_flakes, .inl (cI, 8, .inl v_flakes)), (qt_leaks, .inl (cI, 8, .inl v_leaks)), (qt_ranks, .inl (cI, 6, .inl v_ranks)), (qt_sight, .inl (cI, 16, .inl (upd v_sight (Int32.toNatClampNeg x3) (v_image (Int32.toNatClampNeg ((x2 + (65 : Int32)) + x3)))))), (qt_image, .inl (cI, 200, .inl v_image)), (qt_isKept, .inl (cZ, 2, .inl v_isKept))]) hS => ?_)
        refine lv_iinc (v := (x3 + (1 : Int32))) (lv' := [(3, .int (x3 + (1 : Int32))), (0, .ref qt), (2, .int x2)]) hx hb dX10_restore_161 hl (k := 2) rfl rfl (by decide) rfl (fun ls hl => ?_)
        refine lv_goto (tgt := 138) hx hb dX10_restore_164 (by decide) ?_
        exact ih138 v_book v_flakes v_leaks v_music v_ranks v_sights (upd v_sight (Int32.toNatClampNeg x3) (v_image (Int32.toNatClampNeg ((x2 + (65 : Int32)) + x3)))) x2 (x3 + (1 : Int32)) H locs ls hP hD hS (lv_sub hl [1, 2, 0] rfl) h
  have hL107 : ∀ (n107 : Nat), ∀ (v_book : (Nat → Int32)) (v_flakes : (Nat → Int32)) (v_leaks : (Nat → Int32)) (v_music : Int32) (v_ranks : (Nat → Int32)) (v_sights : Int32) (v_sight : (Nat → Int32)) (x2 : Int32) (x3 : Int32) (H : Heap) (locs : List Loc) (ls : Array Slot), va_P D vwCl [(qt, .inr (9, [.ref qt_book, .ref qt_now, .ref qt_flakes, .ref qt_leaks, .int v_music, .ref qt_ranks, .int v_sights, .ref qt_sight, .int v_signs, .ref qt_pad, .int v_freeAt, .int v_freeWho, .int v_reason, .int v_acts, .ref qt_gets, .ref qt_counts, .ref qt_worth, .ref qt_ways, .ref qt_image, .ref qt_isKept])), (qt_book, .inl (cI, 43, .inl v_book)), (qt_flakes, .inl (cI, 8, .inl v_flakes)), (qt_leaks, .inl (cI, 8, .inl v_leaks)), (qt_ranks, .inl (cI, 6, .inl v_ranks)), (qt_sight, .inl (cI, 16, .inl v_sight)), (qt_image, .inl (cI, 200, .inl v_image)), (qt_isKept, .inl (cZ, 2, .inl v_isKept))] H → va_D A [(qt, .inr (9, [.ref qt_book, .ref qt_now, .ref qt_flakes, .ref qt_leaks, .int v_music, .ref qt_ranks, .int v_sights, .ref qt_sight, .int v_signs, .ref qt_pad, .int v_freeAt, .int v_freeWho, .int v_reason, .int v_acts, .ref qt_gets, .ref qt_counts, .ref qt_worth, .ref qt_ways, .ref qt_image, .ref qt_isKept])), (qt_book, .inl (cI, 43, .inl v_book)), (qt_flakes, .inl (cI, 8, .inl v_flakes)), (qt_leaks, .inl (cI, 8, .inl v_leaks)), (qt_ranks, .inl (cI, 6, .inl v_ranks)), (qt_sight, .inl (cI, 16, .inl v_sight)), (qt_image, .inl (cI, 200, .inl v_image)), (qt_isKept, .inl (cZ, 2, .inl v_isKept))] → va_S A s.heap H locs → lv_has ls 4 [(0, .ref qt), (2, .int x2), (3, .int x3)] → L_X10_restore_107 v_image v_isKept p1 n107 v_book v_flakes v_leaks v_music v_ranks v_sights v_sight x2 x3 = some (r, w_book, w_flakes, w_leaks, w_music, w_ranks, w_sights, w_sight) → W p l e rm_X10_restore s m args below meth c H locs 0 0 QQ (F0 m 107 ls []) := by
    intro n107
    induction n107 with
    | zero =>
      intro v_book v_flakes v_leaks v_music v_ranks v_sights v_sight x2 x3 H locs ls hP hD hS hl h
      have h : none = some (r, w_book, w_flakes, w_leaks, w_music, w_ranks, w_sights, w_sight) := h
      cases h
    | succ n107 ih107 =>
      intro v_book v_flakes v_leaks v_music v_ranks v_sights v_sight x2 x3 H locs ls hP hD hS hl h
      rw [L_X10_restore_107.eq_2] at h
      refine lv_iload_n hx hb dX10_restore_107 rfl (lv_at hl 2 rfl) ?_
      refine lv_bipush (v := 6) hx hb dX10_restore_108 (by decide) ?_
      refine lv_icmp_ge (tgt := 136) hx hb dX10_restore_110 (by decide) (fun hc => ?_) (fun hc => ?_)
      · have h := if_t hc h
        refine lv_iconst (v := 0) hx hb dX10_restore_136 (by decide) ?_
        refine lv_istore_n (lv' := [(3, .int (0 : Int32)), (0, .ref qt), (2, .int x2)]) hx hb dX10_restore_137 rfl hl (by decide) rfl (fun ls hl => ?_)
        exact hL138 FU v_book v_flakes v_leaks v_music v_ranks v_sights v_sight x2 (0 : Int32) H locs ls hP hD hS (lv_sub hl [1, 2, 0] rfl) h
      · have h := if_f hc h
        refine lv_aload_n hx hb dX10_restore_113 rfl (lv_at hl 0 rfl) ?_
        refine va_get (D := D) (ci := 9) (C := RX10) (T := TX10) (N := 20) hx hb hts (fun _ hw => (List.mem_cons_of_mem _ (List.mem_append_right _ hw))) hown hE.1 hP 0 rfl rfl 5 (by decide) (hts (.fieldLink RX10 22 "GlobeCrownModel" "ranks" "[I") (List.mem_cons_of_mem _ (List.mem_append_left _ (List.mem_of_getElem? (i := 5) rfl)))) (fun _ h9 => h9) rfl dX10_restore_114 ?_
        refine lv_iload_n hx hb dX10_restore_117 rfl (lv_at hl 2 rfl) ?_
        refine lv_aload_n hx hb dX10_restore_118 rfl (lv_at hl 0 rfl) ?_
        refine va_get (D := D) (ci := 9) (C := RX10) (T := TX10) (N := 20) hx hb hts (fun _ hw => (List.mem_cons_of_mem _ (List.mem_append_right _ hw))) hown hE.1 hP 0 rfl rfl 18 (by decide) (hts (.fieldLink RX10 44 "GlobeCrownModel" "image" "[I") (List.mem_cons_of_mem _ (List.mem_append_left _ (List.mem_of_getElem? (i := 2) rfl)))) (fun _ h9 => h9) rfl dX10_restore_119 ?_
        refine lv_iload_n hx hb dX10_restore_122 rfl (lv_at hl 1 rfl) ?_
        refine lv_bipush (v := 59) hx hb dX10_restore_123 (by decide) ?_
        refine lv_iadd hx hb dX10_restore_125 ?_
        refine lv_iload_n hx hb dX10_restore_126 rfl (lv_at hl 2 rfl) ?_
        refine lv_iadd hx hb dX10_restore_127 ?_
        obtain ⟨hg, h⟩ := gin_some h
        refine va_iald hx hb hE.1 hP 6 0 rfl rfl hg dX10_restore_128 ?_
        obtain ⟨hg, h⟩ := gin_some h
        refine va_iast hx hb hE.1 hP hD hS 4 0 rfl rfl hg dX10_restore_129 (fun H locs (hP : va_P D vwCl [(qt, .inr (9, [.ref qt_book, .ref qt_now, .ref qt_flakes, .ref qt_leaks, .int v_music, .ref qt_ranks, .int v_sights, .ref qt_sight, .int v_signs, .ref qt_pad, .int v_freeAt, .int v_freeWho, .int v_reason, .int v_acts, .ref qt_gets, .ref qt_counts, .ref qt_worth, .ref qt_ways, .ref qt_image, .ref qt_isKept])), (qt_book, .inl (cI, 43, .inl v_book)), (qt_flakes, .inl (cI, 8, .inl v_flakes)), (qt_leaks, .inl (cI, 8, .inl v_leaks)), (qt_ranks, .inl (cI, 6, .inl (upd v_ranks (Int32.toNatClampNeg x3) (v_image (Int32.toNatClampNeg ((x2 + (59 : Int32)) + x3)))))), (qt_sight, .inl (cI, 16, .inl v_sight)), (qt_image, .inl (cI, 200, .inl v_image)), (qt_isKept, .inl (cZ, 2, .inl v_isKept))] H) (hD : va_D A [(qt, .inr (9, [.ref qt_book, .ref qt_now, .ref qt_flakes, .ref qt_leaks, .int v_music, .ref qt_ranks, .int v_sights, .ref qt_sight, .int v_signs, .ref qt_pad, .int v_freeAt, .int v_freeWho, .int v_reason, .int v_acts, .ref qt_gets, .ref qt_counts, .ref qt_worth, .ref qt_ways, .ref qt_image, .ref qt_isKept])), (qt_book, .inl (cI, 43, .inl v_book)), (qt_flakes, .inl (cI, 8, .inl v_flakes)), (qt_leaks, .inl (cI, 8, .inl v_leaks)), (qt_ranks, .inl (cI, 6, .inl (upd v_ranks (Int32.toNatClampNeg x3) (v_image (Int32.toNatClampNeg ((x2 + (59 : Int32)) + x3)))))), (qt_sight, .inl (cI, 16, .inl v_sight)), (qt_image, .inl (cI, 200, .inl v_image)), (qt_isKept, .inl (cZ, 2, .inl v_isKept))]) hS => ?_)
        refine lv_iinc (v := (x3 + (1 : Int32))) (lv' := [(3, .int (x3 + (1 : Int32))), (0, .ref qt), (2, .int x2)]) hx hb dX10_restore_130 hl (k := 2) rfl rfl (by decide) rfl (fun ls hl => ?_)
        refine lv_goto (tgt := 107) hx hb dX10_restore_133 (by decide) ?_
        exact ih107 v_book v_flakes v_leaks v_music (upd v_ranks (Int32.toNatClampNeg x3) (v_image (Int32.toNatClampNeg ((x2 + (59 : Int32)) + x3)))) v_sights v_sight x2 (x3 + (1 : Int32)) H locs ls hP hD hS (lv_sub hl [1, 2, 0] rfl) h
  have hL59 : ∀ (n59 : Nat), ∀ (v_book : (Nat → Int32)) (v_flakes : (Nat → Int32)) (v_leaks : (Nat → Int32)) (v_music : Int32) (v_ranks : (Nat → Int32)) (v_sights : Int32) (v_sight : (Nat → Int32)) (x2 : Int32) (x3 : Int32) (H : Heap) (locs : List Loc) (ls : Array Slot), va_P D vwCl [(qt, .inr (9, [.ref qt_book, .ref qt_now, .ref qt_flakes, .ref qt_leaks, .int v_music, .ref qt_ranks, .int v_sights, .ref qt_sight, .int v_signs, .ref qt_pad, .int v_freeAt, .int v_freeWho, .int v_reason, .int v_acts, .ref qt_gets, .ref qt_counts, .ref qt_worth, .ref qt_ways, .ref qt_image, .ref qt_isKept])), (qt_book, .inl (cI, 43, .inl v_book)), (qt_flakes, .inl (cI, 8, .inl v_flakes)), (qt_leaks, .inl (cI, 8, .inl v_leaks)), (qt_ranks, .inl (cI, 6, .inl v_ranks)), (qt_sight, .inl (cI, 16, .inl v_sight)), (qt_image, .inl (cI, 200, .inl v_image)), (qt_isKept, .inl (cZ, 2, .inl v_isKept))] H → va_D A [(qt, .inr (9, [.ref qt_book, .ref qt_now, .ref qt_flakes, .ref qt_leaks, .int v_music, .ref qt_ranks, .int v_sights, .ref qt_sight, .int v_signs, .ref qt_pad, .int v_freeAt, .int v_freeWho, .int v_reason, .int v_acts, .ref qt_gets, .ref qt_counts, .ref qt_worth, .ref qt_ways, .ref qt_image, .ref qt_isKept])), (qt_book, .inl (cI, 43, .inl v_book)), (qt_flakes, .inl (cI, 8, .inl v_flakes)), (qt_leaks, .inl (cI, 8, .inl v_leaks)), (qt_ranks, .inl (cI, 6, .inl v_ranks)), (qt_sight, .inl (cI, 16, .inl v_sight)), (qt_image, .inl (cI, 200, .inl v_image)), (qt_isKept, .inl (cZ, 2, .inl v_isKept))] → va_S A s.heap H locs → lv_has ls 4 [(0, .ref qt), (2, .int x2), (3, .int x3)] → L_X10_restore_59 v_image v_isKept p1 n59 v_book v_flakes v_leaks v_music v_ranks v_sights v_sight x2 x3 = some (r, w_book, w_flakes, w_leaks, w_music, w_ranks, w_sights, w_sight) → W p l e rm_X10_restore s m args below meth c H locs 0 0 QQ (F0 m 59 ls []) := by
    intro n59
    induction n59 with
    | zero =>
      intro v_book v_flakes v_leaks v_music v_ranks v_sights v_sight x2 x3 H locs ls hP hD hS hl h
      have h : none = some (r, w_book, w_flakes, w_leaks, w_music, w_ranks, w_sights, w_sight) := h
      cases h
    | succ n59 ih59 =>
      intro v_book v_flakes v_leaks v_music v_ranks v_sights v_sight x2 x3 H locs ls hP hD hS hl h
      rw [L_X10_restore_59.eq_2] at h
      refine lv_iload_n hx hb dX10_restore_59 rfl (lv_at hl 2 rfl) ?_
      refine lv_bipush (v := 8) hx hb dX10_restore_60 (by decide) ?_
      refine lv_icmp_ge (tgt := 105) hx hb dX10_restore_62 (by decide) (fun hc => ?_) (fun hc => ?_)
      · have h := if_t hc h
        refine lv_iconst (v := 0) hx hb dX10_restore_105 (by decide) ?_
        refine lv_istore_n (lv' := [(3, .int (0 : Int32)), (0, .ref qt), (2, .int x2)]) hx hb dX10_restore_106 rfl hl (by decide) rfl (fun ls hl => ?_)
        exact hL107 FU v_book v_flakes v_leaks v_music v_ranks v_sights v_sight x2 (0 : Int32) H locs ls hP hD hS (lv_sub hl [1, 2, 0] rfl) h
      · have h := if_f hc h
        refine lv_aload_n hx hb dX10_restore_65 rfl (lv_at hl 0 rfl) ?_
        refine va_get (D := D) (ci := 9) (C := RX10) (T := TX10) (N := 20) hx hb hts (fun _ hw => (List.mem_cons_of_mem _ (List.mem_append_right _ hw))) hown hE.1 hP 0 rfl rfl 2 (by decide) (hts (.fieldLink RX10 16 "GlobeCrownModel" "flakes" "[I") (List.mem_cons_of_mem _ (List.mem_append_left _ (List.mem_of_getElem? (i := 3) rfl)))) (fun _ h9 => h9) rfl dX10_restore_66 ?_
        refine lv_iload_n hx hb dX10_restore_69 rfl (lv_at hl 2 rfl) ?_
        refine lv_aload_n hx hb dX10_restore_70 rfl (lv_at hl 0 rfl) ?_
        refine va_get (D := D) (ci := 9) (C := RX10) (T := TX10) (N := 20) hx hb hts (fun _ hw => (List.mem_cons_of_mem _ (List.mem_append_right _ hw))) hown hE.1 hP 0 rfl rfl 18 (by decide) (hts (.fieldLink RX10 44 "GlobeCrownModel" "image" "[I") (List.mem_cons_of_mem _ (List.mem_append_left _ (List.mem_of_getElem? (i := 2) rfl)))) (fun _ h9 => h9) rfl dX10_restore_71 ?_
        refine lv_iload_n hx hb dX10_restore_74 rfl (lv_at hl 1 rfl) ?_
        refine lv_bipush (v := 43) hx hb dX10_restore_75 (by decide) ?_
        refine lv_iadd hx hb dX10_restore_77 ?_
        refine lv_iload_n hx hb dX10_restore_78 rfl (lv_at hl 2 rfl) ?_
        refine lv_iadd hx hb dX10_restore_79 ?_
        obtain ⟨hg, h⟩ := gin_some h
        refine va_iald hx hb hE.1 hP 6 0 rfl rfl hg dX10_restore_80 ?_
        obtain ⟨hg, h⟩ := gin_some h
        refine va_iast hx hb hE.1 hP hD hS 2 0 rfl rfl hg dX10_restore_81 (fun H locs (hP : va_P D vwCl [(qt, .inr (9, [.ref qt_book, .ref qt_now, .ref qt_flakes, .ref qt_leaks, .int v_music, .ref qt_ranks, .int v_sights, .ref qt_sight, .int v_signs, .ref qt_pad, .int v_freeAt, .int v_freeWho, .int v_reason, .int v_acts, .ref qt_gets, .ref qt_counts, .ref qt_worth, .ref qt_ways, .ref qt_image, .ref qt_isKept])), (qt_book, .inl (cI, 43, .inl v_book)), (qt_flakes, .inl (cI, 8, .inl (upd v_flakes (Int32.toNatClampNeg x3) (v_image (Int32.toNatClampNeg ((x2 + (43 : Int32)) + x3)))))), (qt_leaks, .inl (cI, 8, .inl v_leaks)), (qt_ranks, .inl (cI, 6, .inl v_ranks)), (qt_sight, .inl (cI, 16, .inl v_sight)), (qt_image, .inl (cI, 200, .inl v_image)), (qt_isKept, .inl (cZ, 2, .inl v_isKept))] H) (hD : va_D A [(qt, .inr (9, [.ref qt_book, .ref qt_now, .ref qt_flakes, .ref qt_leaks, .int v_music, .ref qt_ranks, .int v_sights, .ref qt_sight, .int v_signs, .ref qt_pad, .int v_freeAt, .int v_freeWho, .int v_reason, .int v_acts, .ref qt_gets, .ref qt_counts, .ref qt_worth, .ref qt_ways, .ref qt_image, .ref qt_isKept])), (qt_book, .inl (cI, 43, .inl v_book)), (qt_flakes, .inl (cI, 8, .inl (upd v_flakes (Int32.toNatClampNeg x3) (v_image (Int32.toNatClampNeg ((x2 + (43 : Int32)) + x3)))))), (qt_leaks, .inl (cI, 8, .inl v_leaks)), (qt_ranks, .inl (cI, 6, .inl v_ranks)), (qt_sight, .inl (cI, 16, .inl v_sight)), (qt_image, .inl (cI, 200, .inl v_image)), (qt_isKept, .inl (cZ, 2, .inl v_isKept))]) hS => ?_)
        refine lv_aload_n hx hb dX10_restore_82 rfl (lv_at hl 0 rfl) ?_
        refine va_get (D := D) (ci := 9) (C := RX10) (T := TX10) (N := 20) hx hb hts (fun _ hw => (List.mem_cons_of_mem _ (List.mem_append_right _ hw))) hown hE.1 hP 0 rfl rfl 3 (by decide) (hts (.fieldLink RX10 19 "GlobeCrownModel" "leaks" "[I") (List.mem_cons_of_mem _ (List.mem_append_left _ (List.mem_of_getElem? (i := 4) rfl)))) (fun _ h9 => h9) rfl dX10_restore_83 ?_
        refine lv_iload_n hx hb dX10_restore_86 rfl (lv_at hl 2 rfl) ?_
        refine lv_aload_n hx hb dX10_restore_87 rfl (lv_at hl 0 rfl) ?_
        refine va_get (D := D) (ci := 9) (C := RX10) (T := TX10) (N := 20) hx hb hts (fun _ hw => (List.mem_cons_of_mem _ (List.mem_append_right _ hw))) hown hE.1 hP 0 rfl rfl 18 (by decide) (hts (.fieldLink RX10 44 "GlobeCrownModel" "image" "[I") (List.mem_cons_of_mem _ (List.mem_append_left _ (List.mem_of_getElem? (i := 2) rfl)))) (fun _ h9 => h9) rfl dX10_restore_88 ?_
        refine lv_iload_n hx hb dX10_restore_91 rfl (lv_at hl 1 rfl) ?_
        refine lv_bipush (v := 51) hx hb dX10_restore_92 (by decide) ?_
        refine lv_iadd hx hb dX10_restore_94 ?_
        refine lv_iload_n hx hb dX10_restore_95 rfl (lv_at hl 2 rfl) ?_
        refine lv_iadd hx hb dX10_restore_96 ?_
        obtain ⟨hg, h⟩ := gin_some h
        refine va_iald hx hb hE.1 hP 6 0 rfl rfl hg dX10_restore_97 ?_
        obtain ⟨hg, h⟩ := gin_some h
        refine va_iast hx hb hE.1 hP hD hS 3 0 rfl rfl hg dX10_restore_98 (fun H locs (hP : va_P D vwCl [(qt, .inr (9, [.ref qt_book, .ref qt_now, .ref qt_flakes, .ref qt_leaks, .int v_music, .ref qt_ranks, .int v_sights, .ref qt_sight, .int v_signs, .ref qt_pad, .int v_freeAt, .int v_freeWho, .int v_reason, .int v_acts, .ref qt_gets, .ref qt_counts, .ref qt_worth, .ref qt_ways, .ref qt_image, .ref qt_isKept])), (qt_book, .inl (cI, 43, .inl v_book)), (qt_flakes, .inl (cI, 8, .inl (upd v_flakes (Int32.toNatClampNeg x3) (v_image (Int32.toNatClampNeg ((x2 + (43 : Int32)) + x3)))))), (qt_leaks, .inl (cI, 8, .inl (upd v_leaks (Int32.toNatClampNeg x3) (v_image (Int32.toNatClampNeg ((x2 + (51 : Int32)) + x3)))))), (qt_ranks, .inl (cI, 6, .inl v_ranks)), (qt_sight, .inl (cI, 16, .inl v_sight)), (qt_image, .inl (cI, 200, .inl v_image)), (qt_isKept, .inl (cZ, 2, .inl v_isKept))] H) (hD : va_D A [(qt, .inr (9, [.ref qt_book, .ref qt_now, .ref qt_flakes, .ref qt_leaks, .int v_music, .ref qt_ranks, .int v_sights, .ref qt_sight, .int v_signs, .ref qt_pad, .int v_freeAt, .int v_freeWho, .int v_reason, .int v_acts, .ref qt_gets, .ref qt_counts, .ref qt_worth, .ref qt_ways, .ref qt_image, .ref qt_isKept])), (qt_book, .inl (cI, 43, .inl v_book)), (qt_flakes, .inl (cI, 8, .inl (upd v_flakes (Int32.toNatClampNeg x3) (v_image (Int32.toNatClampNeg ((x2 + (43 : Int32)) + x3)))))), (qt_leaks, .inl (cI, 8, .inl (upd v_leaks (Int32.toNatClampNeg x3) (v_image (Int32.toNatClampNeg ((x2 + (51 : Int32)) + x3)))))), (qt_ranks, .inl (cI, 6, .inl v_ranks)), (qt_sight, .inl (cI, 16, .inl v_sight)), (qt_image, .inl (cI, 200, .inl v_image)), (qt_isKept, .inl (cZ, 2, .inl v_isKept))]) hS => ?_)
        refine lv_iinc (v := (x3 + (1 : Int32))) (lv' := [(3, .int (x3 + (1 : Int32))), (0, .ref qt), (2, .int x2)]) hx hb dX10_restore_99 hl (k := 2) rfl rfl (by decide) rfl (fun ls hl => ?_)
        refine lv_goto (tgt := 59) hx hb dX10_restore_102 (by decide) ?_
        exact ih59 v_book (upd v_flakes (Int32.toNatClampNeg x3) (v_image (Int32.toNatClampNeg ((x2 + (43 : Int32)) + x3)))) (upd v_leaks (Int32.toNatClampNeg x3) (v_image (Int32.toNatClampNeg ((x2 + (51 : Int32)) + x3)))) v_music v_ranks v_sights v_sight x2 (x3 + (1 : Int32)) H locs ls hP hD hS (lv_sub hl [1, 2, 0] rfl) h
  have hL31 : ∀ (n31 : Nat), ∀ (v_book : (Nat → Int32)) (v_flakes : (Nat → Int32)) (v_leaks : (Nat → Int32)) (v_music : Int32) (v_ranks : (Nat → Int32)) (v_sights : Int32) (v_sight : (Nat → Int32)) (x2 : Int32) (x3 : Int32) (H : Heap) (locs : List Loc) (ls : Array Slot), va_P D vwCl [(qt, .inr (9, [.ref qt_book, .ref qt_now, .ref qt_flakes, .ref qt_leaks, .int v_music, .ref qt_ranks, .int v_sights, .ref qt_sight, .int v_signs, .ref qt_pad, .int v_freeAt, .int v_freeWho, .int v_reason, .int v_acts, .ref qt_gets, .ref qt_counts, .ref qt_worth, .ref qt_ways, .ref qt_image, .ref qt_isKept])), (qt_book, .inl (cI, 43, .inl v_book)), (qt_flakes, .inl (cI, 8, .inl v_flakes)), (qt_leaks, .inl (cI, 8, .inl v_leaks)), (qt_ranks, .inl (cI, 6, .inl v_ranks)), (qt_sight, .inl (cI, 16, .inl v_sight)), (qt_image, .inl (cI, 200, .inl v_image)), (qt_isKept, .inl (cZ, 2, .inl v_isKept))] H → va_D A [(qt, .inr (9, [.ref qt_book, .ref qt_now, .ref qt_flakes, .ref qt_leaks, .int v_music, .ref qt_ranks, .int v_sights, .ref qt_sight, .int v_signs, .ref qt_pad, .int v_freeAt, .int v_freeWho, .int v_reason, .int v_acts, .ref qt_gets, .ref qt_counts, .ref qt_worth, .ref qt_ways, .ref qt_image, .ref qt_isKept])), (qt_book, .inl (cI, 43, .inl v_book)), (qt_flakes, .inl (cI, 8, .inl v_flakes)), (qt_leaks, .inl (cI, 8, .inl v_leaks)), (qt_ranks, .inl (cI, 6, .inl v_ranks)), (qt_sight, .inl (cI, 16, .inl v_sight)), (qt_image, .inl (cI, 200, .inl v_image)), (qt_isKept, .inl (cZ, 2, .inl v_isKept))] → va_S A s.heap H locs → lv_has ls 4 [(0, .ref qt), (2, .int x2), (3, .int x3)] → L_X10_restore_31 v_image v_isKept p1 n31 v_book v_flakes v_leaks v_music v_ranks v_sights v_sight x2 x3 = some (r, w_book, w_flakes, w_leaks, w_music, w_ranks, w_sights, w_sight) → W p l e rm_X10_restore s m args below meth c H locs 0 0 QQ (F0 m 31 ls []) := by
    intro n31
    induction n31 with
    | zero =>
      intro v_book v_flakes v_leaks v_music v_ranks v_sights v_sight x2 x3 H locs ls hP hD hS hl h
      have h : none = some (r, w_book, w_flakes, w_leaks, w_music, w_ranks, w_sights, w_sight) := h
      cases h
    | succ n31 ih31 =>
      intro v_book v_flakes v_leaks v_music v_ranks v_sights v_sight x2 x3 H locs ls hP hD hS hl h
      rw [L_X10_restore_31.eq_2] at h
      refine lv_iload_n hx hb dX10_restore_31 rfl (lv_at hl 2 rfl) ?_
      refine lv_bipush (v := 43) hx hb dX10_restore_32 (by decide) ?_
      refine lv_icmp_ge (tgt := 57) hx hb dX10_restore_34 (by decide) (fun hc => ?_) (fun hc => ?_)
      · have h := if_t hc h
        refine lv_iconst (v := 0) hx hb dX10_restore_57 (by decide) ?_
        refine lv_istore_n (lv' := [(3, .int (0 : Int32)), (0, .ref qt), (2, .int x2)]) hx hb dX10_restore_58 rfl hl (by decide) rfl (fun ls hl => ?_)
        exact hL59 FU v_book v_flakes v_leaks v_music v_ranks v_sights v_sight x2 (0 : Int32) H locs ls hP hD hS (lv_sub hl [1, 2, 0] rfl) h
      · have h := if_f hc h
        refine lv_aload_n hx hb dX10_restore_37 rfl (lv_at hl 0 rfl) ?_
        refine va_get (D := D) (ci := 9) (C := RX10) (T := TX10) (N := 20) hx hb hts (fun _ hw => (List.mem_cons_of_mem _ (List.mem_append_right _ hw))) hown hE.1 hP 0 rfl rfl 0 (by decide) (hts (.fieldLink RX10 7 "GlobeCrownModel" "book" "[I") (List.mem_cons_of_mem _ (List.mem_append_left _ (List.mem_of_getElem? (i := 1) rfl)))) (fun _ h9 => h9) rfl dX10_restore_38 ?_
        refine lv_iload_n hx hb dX10_restore_41 rfl (lv_at hl 2 rfl) ?_
        refine lv_aload_n hx hb dX10_restore_42 rfl (lv_at hl 0 rfl) ?_
        refine va_get (D := D) (ci := 9) (C := RX10) (T := TX10) (N := 20) hx hb hts (fun _ hw => (List.mem_cons_of_mem _ (List.mem_append_right _ hw))) hown hE.1 hP 0 rfl rfl 18 (by decide) (hts (.fieldLink RX10 44 "GlobeCrownModel" "image" "[I") (List.mem_cons_of_mem _ (List.mem_append_left _ (List.mem_of_getElem? (i := 2) rfl)))) (fun _ h9 => h9) rfl dX10_restore_43 ?_
        refine lv_iload_n hx hb dX10_restore_46 rfl (lv_at hl 1 rfl) ?_
        refine lv_iload_n hx hb dX10_restore_47 rfl (lv_at hl 2 rfl) ?_
        refine lv_iadd hx hb dX10_restore_48 ?_
        obtain ⟨hg, h⟩ := gin_some h
        refine va_iald hx hb hE.1 hP 6 0 rfl rfl hg dX10_restore_49 ?_
        obtain ⟨hg, h⟩ := gin_some h
        refine va_iast hx hb hE.1 hP hD hS 1 0 rfl rfl hg dX10_restore_50 (fun H locs (hP : va_P D vwCl [(qt, .inr (9, [.ref qt_book, .ref qt_now, .ref qt_flakes, .ref qt_leaks, .int v_music, .ref qt_ranks, .int v_sights, .ref qt_sight, .int v_signs, .ref qt_pad, .int v_freeAt, .int v_freeWho, .int v_reason, .int v_acts, .ref qt_gets, .ref qt_counts, .ref qt_worth, .ref qt_ways, .ref qt_image, .ref qt_isKept])), (qt_book, .inl (cI, 43, .inl (upd v_book (Int32.toNatClampNeg x3) (v_image (Int32.toNatClampNeg (x2 + x3)))))), (qt_flakes, .inl (cI, 8, .inl v_flakes)), (qt_leaks, .inl (cI, 8, .inl v_leaks)), (qt_ranks, .inl (cI, 6, .inl v_ranks)), (qt_sight, .inl (cI, 16, .inl v_sight)), (qt_image, .inl (cI, 200, .inl v_image)), (qt_isKept, .inl (cZ, 2, .inl v_isKept))] H) (hD : va_D A [(qt, .inr (9, [.ref qt_book, .ref qt_now, .ref qt_flakes, .ref qt_leaks, .int v_music, .ref qt_ranks, .int v_sights, .ref qt_sight, .int v_signs, .ref qt_pad, .int v_freeAt, .int v_freeWho, .int v_reason, .int v_acts, .ref qt_gets, .ref qt_counts, .ref qt_worth, .ref qt_ways, .ref qt_image, .ref qt_isKept])), (qt_book, .inl (cI, 43, .inl (upd v_book (Int32.toNatClampNeg x3) (v_image (Int32.toNatClampNeg (x2 + x3)))))), (qt_flakes, .inl (cI, 8, .inl v_flakes)), (qt_leaks, .inl (cI, 8, .inl v_leaks)), (qt_ranks, .inl (cI, 6, .inl v_ranks)), (qt_sight, .inl (cI, 16, .inl v_sight)), (qt_image, .inl (cI, 200, .inl v_image)), (qt_isKept, .inl (cZ, 2, .inl v_isKept))]) hS => ?_)
        refine lv_iinc (v := (x3 + (1 : Int32))) (lv' := [(3, .int (x3 + (1 : Int32))), (0, .ref qt), (2, .int x2)]) hx hb dX10_restore_51 hl (k := 2) rfl rfl (by decide) rfl (fun ls hl => ?_)
        refine lv_goto (tgt := 31) hx hb dX10_restore_54 (by decide) ?_
        exact ih31 (upd v_book (Int32.toNatClampNeg x3) (v_image (Int32.toNatClampNeg (x2 + x3)))) v_flakes v_leaks v_music v_ranks v_sights v_sight x2 (x3 + (1 : Int32)) H locs ls hP hD hS (lv_sub hl [1, 2, 0] rfl) h
  have h := hf
  unfold f_X10_restore at h
  refine gw_start hP hD hS (fun H locs hP hD hS => ?_)
  refine lv_iload_n hx hb dX10_restore_0 rfl (lv_at hl 1 rfl) ?_
  refine lv_iconst (v := 0) hx hb dX10_restore_1 (by decide) ?_
  refine lv_iconst (v := 1) hx hb dX10_restore_2 (by decide) ?_
  obtain ⟨r3, hc3, h⟩ := bd1_some h
  refine gw_ci (wr := [(qt, .inr (9, [.ref qt_book, .ref qt_now, .ref qt_flakes, .ref qt_leaks, .int v_music, .ref qt_ranks, .int v_sights, .ref qt_sight, .int v_signs, .ref qt_pad, .int v_freeAt, .int v_freeWho, .int v_reason, .int v_acts, .ref qt_gets, .ref qt_counts, .ref qt_worth, .ref qt_ways, .ref qt_image, .ref qt_isKept])), (qt_book, .inl (cI, 43, .inl v_book)), (qt_flakes, .inl (cI, 8, .inl v_flakes)), (qt_leaks, .inl (cI, 8, .inl v_leaks)), (qt_ranks, .inl (cI, 6, .inl v_ranks)), (qt_sight, .inl (cI, 16, .inl v_sight)), (qt_image, .inl (cI, 200, .inl v_image)), (qt_isKept, .inl (cZ, 2, .inl v_isKept))]) (w2 := [(qt, .inr (9, [.ref qt_book, .ref qt_now, .ref qt_flakes, .ref qt_leaks, .int v_music, .ref qt_ranks, .int v_sights, .ref qt_sight, .int v_signs, .ref qt_pad, .int v_freeAt, .int v_freeWho, .int v_reason, .int v_acts, .ref qt_gets, .ref qt_counts, .ref qt_worth, .ref qt_ways, .ref qt_image, .ref qt_isKept])), (qt_book, .inl (cI, 43, .inl v_book)), (qt_flakes, .inl (cI, 8, .inl v_flakes)), (qt_leaks, .inl (cI, 8, .inl v_leaks)), (qt_ranks, .inl (cI, 6, .inl v_ranks)), (qt_sight, .inl (cI, 16, .inl v_sight)), (qt_image, .inl (cI, 200, .inl v_image)), (qt_isKept, .inl (cZ, 2, .inl v_isKept))]) (gw_rS (n := 3) ⟨hx, hb, hml, hown, hts⟩ (C_X10_in l D cI cJ cZ H.size p1 (0 : Int32) (1 : Int32) r3 hc3) gX10_restore_X10_in rfl rfl rfl hdS_X10_in ⟨Nat.le_of_ble_eq_true rfl, Nat.le_of_ble_eq_true rfl⟩ hE (hP.sub [] rfl) (hD.sub [] (by decide) rfl) rfl hl.1 (rest := []) rfl (Nat.le_of_ble_eq_true rfl) dX10_restore_3 ⟨Nat.zero_le _, Nat.zero_le _⟩) hP hD hS hA [] [0, 1, 2, 3, 4, 5, 6, 7] rfl rfl rfl (by decide) rfl (fun H locs hP hD hS => ?_)
  refine lv_if_ne (tgt := 12) hx hb dX10_restore_6 (by decide) (fun hc => ?_) (fun hc => ?_)
  · have h := if_f hc h
    refine lv_aload_n hx hb dX10_restore_12 rfl (lv_at hl 0 rfl) ?_
    refine va_get (D := D) (ci := 9) (C := RX10) (T := TX10) (N := 20) hx hb hts (fun _ hw => (List.mem_cons_of_mem _ (List.mem_append_right _ hw))) hown hE.1 hP 0 rfl rfl 19 (by decide) (hts (.fieldLink RX10 47 "GlobeCrownModel" "isKept" "[Z") (List.mem_cons_of_mem _ (List.mem_append_left _ (List.mem_of_getElem? (i := 0) rfl)))) (fun _ h9 => h9) rfl dX10_restore_13 ?_
    refine lv_iload_n hx hb dX10_restore_16 rfl (lv_at hl 1 rfl) ?_
    obtain ⟨hg, h⟩ := gin_some h
    refine va_zald hx hb hE.1 hP 7 2 rfl rfl hg dX10_restore_17 ?_
    refine lv_if_ne (tgt := 24) hx hb dX10_restore_18 (by decide) (fun hc => ?_) (fun hc => ?_)
    · have h := if_f hc h
      refine lv_bipush (v := 100) hx hb dX10_restore_24 (by decide) ?_
      refine lv_iload_n hx hb dX10_restore_26 rfl (lv_at hl 1 rfl) ?_
      refine lv_imul hx hb dX10_restore_27 ?_
      refine lv_istore_n (lv' := [(2, .int ((100 : Int32) * p1)), (0, .ref qt), (1, .int p1)]) hx hb dX10_restore_28 rfl hl (by decide) rfl (fun ls hl => ?_)
      refine lv_iconst (v := 0) hx hb dX10_restore_29 (by decide) ?_
      refine lv_istore_n (lv' := [(3, .int (0 : Int32)), (2, .int ((100 : Int32) * p1)), (0, .ref qt), (1, .int p1)]) hx hb dX10_restore_30 rfl hl (by decide) rfl (fun ls hl => ?_)
      exact hL31 FU v_book v_flakes v_leaks v_music v_ranks v_sights v_sight ((100 : Int32) * p1) (0 : Int32) H locs ls hP hD hS (lv_sub hl [2, 1, 0] rfl) h
    · have h := if_t hc h
      refine lv_bipush (v := -3) hx hb dX10_restore_21 (by decide) ?_
      cases h
      rw [hQQ]
      exact gw_iret hx hb hr hlocks hP hD hS dX10_restore_23
  · have h := if_t hc h
    refine lv_bipush (v := -2) hx hb dX10_restore_9 (by decide) ?_
    cases h
    rw [hQQ]
    exact gw_iret hx hb hr hlocks hP hD hS dX10_restore_11
theorem hdV_X10_restore : yX10_restore.cls = RX10 ∧ yX10_restore.cls ≠ "java/lang/invoke/MethodHandle" ∧ yX10_restore.cls ≠ "java/lang/invoke/VarHandle" ∧ (parseMethodDescriptor yX10_restore.desc).map (fun d => d.parameters.length) = some 1 := by decide +kernel
def f_X10_toldGlobe (v_book : (Nat → Int32)) (v_flakes : (Nat → Int32)) (v_leaks : (Nat → Int32)) (v_music : Int32) (p1 : Int32) (p2 : Int32) : Option (Int32) := (bd1 (f_X10_isThere v_book p1) (fun r2 => (if r2 = (0 : Int32) then (some (-2 : Int32)) else (if p2 = (0 : Int32) then (gin p1 43 (some (v_book (Int32.toNatClampNeg p1)))) else (if p2 = (1 : Int32) then (gin p1 8 (some (v_flakes (Int32.toNatClampNeg p1)))) else (if p2 = (2 : Int32) then (gin ((8 : Int32) + p1) 43 (some (v_book (Int32.toNatClampNeg ((8 : Int32) + p1))))) else (if p2 = (3 : Int32) then (gin p1 8 (some (v_leaks (Int32.toNatClampNeg p1)))) else (if p2 = (4 : Int32) then (gin ((16 : Int32) + p1) 43 (some (v_book (Int32.toNatClampNeg ((16 : Int32) + p1))))) else (if p2 = (5 : Int32) then (some ((v_music >>> (p1 &&& 31)) &&& (1 : Int32))) else (if p2 = (6 : Int32) then (gin ((24 : Int32) + p1) 43 (some (v_book (Int32.toNatClampNeg ((24 : Int32) + p1))))) else (if p2 = (7 : Int32) then (gin ((32 : Int32) + p1) 43 (some (v_book (Int32.toNatClampNeg ((32 : Int32) + p1))))) else (some (-2 : Int32)))))))))))))
abbrev rm_X10_toldGlobe : Room := { frames := 2, cells := 0, slots := 0, locals := 43 }
set_option maxHeartbeats 4000000 in
set_option maxRecDepth 100000 in
theorem C_X10_toldGlobe (l : Launch) (D : va_G) (cI cJ cZ : ClassId) (sz : Nat) (qt qt_book qt_now qt_flakes qt_leaks qt_ranks qt_sight qt_pad qt_gets qt_counts qt_worth qt_ways qt_image qt_isKept : Nat) (v_book : (Nat → Int32)) (v_flakes : (Nat → Int32)) (v_leaks : (Nat → Int32)) (v_music : Int32) (v_sights : Int32) (v_signs : Int32) (v_freeAt : Int32) (v_freeWho : Int32) (v_reason : Int32) (v_acts : Int32) (p1 : Int32) (p2 : Int32) (r : Int32) (hf : f_X10_toldGlobe v_book v_flakes v_leaks v_music p1 p2 = some r) : Met l yX10_toldGlobe wsX10_toldGlobe rm_X10_toldGlobe (PR D cI cJ cZ [(qt, .inr (9, [.ref qt_book, .ref qt_now, .ref qt_flakes, .ref qt_leaks, .int v_music, .ref qt_ranks, .int v_sights, .ref qt_sight, .int v_signs, .ref qt_pad, .int v_freeAt, .int v_freeWho, .int v_reason, .int v_acts, .ref qt_gets, .ref qt_counts, .ref qt_worth, .ref qt_ways, .ref qt_image, .ref qt_isKept])), (qt_book, .inl (cI, 43, .inl v_book)), (qt_flakes, .inl (cI, 8, .inl v_flakes)), (qt_leaks, .inl (cI, 8, .inl v_leaks))] sz [.ref qt, .int p1, .int p2]) (QI D (va_A [(qt, .inr (9, [.ref qt_book, .ref qt_now, .ref qt_flakes, .ref qt_leaks, .int v_music, .ref qt_ranks, .int v_sights, .ref qt_sight, .int v_signs, .ref qt_pad, .int v_freeAt, .int v_freeWho, .int v_reason, .int v_acts, .ref qt_gets, .ref qt_counts, .ref qt_worth, .ref qt_ways, .ref qt_image, .ref qt_isKept])), (qt_book, .inl (cI, 43, .inl v_book)), (qt_flakes, .inl (cI, 8, .inl v_flakes)), (qt_leaks, .inl (cI, 8, .inl v_leaks))] sz) r [(qt, .inr (9, [.ref qt_book, .ref qt_now, .ref qt_flakes, .ref qt_leaks, .int v_music, .ref qt_ranks, .int v_sights, .ref qt_sight, .int v_signs, .ref qt_pad, .int v_freeAt, .int v_freeWho, .int v_reason, .int v_acts, .ref qt_gets, .ref qt_counts, .ref qt_worth, .ref qt_ways, .ref qt_image, .ref qt_isKept])), (qt_book, .inl (cI, 43, .inl v_book)), (qt_flakes, .inl (cI, 8, .inl v_flakes)), (qt_leaks, .inl (cI, 8, .inl v_leaks))]) 0 0 (va_A [(qt, .inr (9, [.ref qt_book, .ref qt_now, .ref qt_flakes, .ref qt_leaks, .int v_music, .ref qt_ranks, .int v_sights, .ref qt_sight, .int v_signs, .ref qt_pad, .int v_freeAt, .int v_freeWho, .int v_reason, .int v_acts, .ref qt_gets, .ref qt_counts, .ref qt_worth, .ref qt_ways, .ref qt_image, .ref qt_isKept])), (qt_book, .inl (cI, 43, .inl v_book)), (qt_flakes, .inl (cI, 8, .inl v_flakes)), (qt_leaks, .inl (cI, 8, .inl v_leaks))] sz) := by
  refine Met.ofW (cc := cX10_toldGlobe) (maxL := 3) (ret := (some .int)) (by decide) rfl ?_
  intro p e s m args below meth c s₁ B hml hv
  obtain ⟨hav, hsz, hP, hD0, hE⟩ := hv
  have hx := B.exec
  have hb := B.bytes
  have hr := B.returns
  have hts := atoms_spec (ws := wsX10_toldGlobe) B.pre
  have hown : s.vm.findClass RX10 = some m.cls := findClass_of_methodNamed B.named
  have hlocks := B.notSynchronized
  subst hsz
  have hD := hD0.self (sz := s.heap.size)
  generalize hAe : va_A [(qt, .inr (9, [.ref qt_book, .ref qt_now, .ref qt_flakes, .ref qt_leaks, .int v_music, .ref qt_ranks, .int v_sights, .ref qt_sight, .int v_signs, .ref qt_pad, .int v_freeAt, .int v_freeWho, .int v_reason, .int v_acts, .ref qt_gets, .ref qt_counts, .ref qt_worth, .ref qt_ways, .ref qt_image, .ref qt_isKept])), (qt_book, .inl (cI, 43, .inl v_book)), (qt_flakes, .inl (cI, 8, .inl v_flakes)), (qt_leaks, .inl (cI, 8, .inl v_leaks))] s.heap.size = A at hD ⊢
  have hA : ∀ q : Nat, s.heap.size ≤ q → A q := fun q h => by rw [← hAe]; exact Or.inr h
  have hS : va_S A s.heap s.heap [] := va_S.rf
  have hl := lv_entry ([.ref qt, .int p1, .int p2]) (n := 3) (Nat.le_of_ble_eq_true rfl)
  have hfr : entryFrame m args 3 = entryFrame m ([.ref qt, .int p1, .int p2] : List Value).toArray 3 := by rw [hav]
  rw [hfr, lg_entry_eq]
  generalize (lg_sl ([.ref qt, .int p1, .int p2]) ++ List.replicate (3 - (lg_sl ([.ref qt, .int p1, .int p2])).length) Slot.unset).toArray = ls at hl ⊢
  have hl : lv_has ls 3 [(0, .ref qt), (1, .int p1), (2, .int p2)] := hl
  obtain ⟨QQ, hQQ⟩ : ∃ QQ, QQ = MQ below (QI D A r [(qt, .inr (9, [.ref qt_book, .ref qt_now, .ref qt_flakes, .ref qt_leaks, .int v_music, .ref qt_ranks, .int v_sights, .ref qt_sight, .int v_signs, .ref qt_pad, .int v_freeAt, .int v_freeWho, .int v_reason, .int v_acts, .ref qt_gets, .ref qt_counts, .ref qt_worth, .ref qt_ways, .ref qt_image, .ref qt_isKept])), (qt_book, .inl (cI, 43, .inl v_book)), (qt_flakes, .inl (cI, 8, .inl v_flakes)), (qt_leaks, .inl (cI, 8, .inl v_leaks))]) args s 0 0 A := ⟨_, rfl⟩
  show W p l e rm_X10_toldGlobe s m args below meth c s.heap [] 0 0 _ _
  rw [← hQQ]
  have h := hf
  unfold f_X10_toldGlobe at h
  refine gw_start hP hD hS (fun H locs hP hD hS => ?_)
  refine lv_aload_n hx hb dX10_toldGlobe_0 rfl (lv_at hl 0 rfl) ?_
  refine lv_iload_n hx hb dX10_toldGlobe_1 rfl (lv_at hl 1 rfl) ?_
  obtain ⟨r2, hc2, h⟩ := bd1_some h
  refine gw_ci (wr := [(qt_flakes, .inl (cI, 8, .inl v_flakes)), (qt_leaks, .inl (cI, 8, .inl v_leaks))]) (w2 := [(qt_flakes, .inl (cI, 8, .inl v_flakes)), (qt_leaks, .inl (cI, 8, .inl v_leaks)), (qt, .inr (9, [.ref qt_book, .ref qt_now, .ref qt_flakes, .ref qt_leaks, .int v_music, .ref qt_ranks, .int v_sights, .ref qt_sight, .int v_signs, .ref qt_pad, .int v_freeAt, .int v_freeWho, .int v_reason, .int v_acts, .ref qt_gets, .ref qt_counts, .ref qt_worth, .ref qt_ways, .ref qt_image, .ref qt_isKept])), (qt_book, .inl (cI, 43, .inl v_book))]) (gw_rV (n := 1) ⟨hx, hb, hml, hown, hts⟩ (C_X10_isThere l D cI cJ cZ H.size qt qt_book qt_now qt_flakes qt_leaks qt_ranks qt_sight qt_pad qt_gets qt_counts qt_worth qt_ways qt_image qt_isKept v_book v_music v_sights v_signs v_freeAt v_freeWho v_reason v_acts p1 r2 hc2) gX10_toldGlobe_X10_isThere rfl rfl rfl hdV_X10_isThere ⟨Nat.le_of_ble_eq_true rfl, Nat.le_of_ble_eq_true rfl⟩ hE (hP.sub [0, 1] rfl) (hD.sub [0, 1] (by decide) rfl) 9 rfl 0 rfl rfl hl.1 (rest := []) rfl (Nat.le_of_ble_eq_true rfl) dX10_toldGlobe_2 ⟨Nat.zero_le _, Nat.zero_le _⟩) hP hD hS hA [0, 1] [2, 3] rfl rfl rfl (by decide) rfl (fun H locs hP hD hS => ?_)
  refine lv_if_ne (tgt := 11) hx hb dX10_toldGlobe_5 (by decide) (fun hc => ?_) (fun hc => ?_)
  · have h := if_f hc h
    refine lv_iload_n hx hb dX10_toldGlobe_11 rfl (lv_at hl 2 rfl) ?_
    by_cases hk0 : p2 = (0 : Int32)
    · have h := if_t hk0 h
      refine lv_tableIn (off := 44) (tgt := 56) hx hb dX10_toldGlobe_12 (by rw [hk0]; decide) (by rw [hk0]; decide) (by rw [hk0]; decide) (by decide) ?_
      refine lv_aload_n hx hb dX10_toldGlobe_56 rfl (lv_at hl 0 rfl) ?_
      refine va_get (D := D) (ci := 9) (C := RX10) (T := TX10) (N := 20) hx hb hts (fun _ hw => (List.mem_cons_of_mem _ (List.mem_append_right _ hw))) hown hE.1 hP 2 rfl rfl 0 (by decide) (hts (.fieldLink RX10 7 "GlobeCrownModel" "book" "[I") (List.mem_cons_of_mem _ (List.mem_append_left _ (List.mem_of_getElem? (i := 0) rfl)))) (fun _ h9 => h9) rfl dX10_toldGlobe_57 ?_
      refine lv_iload_n hx hb dX10_toldGlobe_60 rfl (lv_at hl 1 rfl) ?_
      obtain ⟨hg, h⟩ := gin_some h
      refine va_iald hx hb hE.1 hP 3 0 rfl rfl hg dX10_toldGlobe_61 ?_
      cases h
      rw [hQQ]
      exact gw_iret hx hb hr hlocks (hP.sub [2, 3, 0, 1] rfl) (hD.sub [2, 3, 0, 1] (by decide) rfl) hS dX10_toldGlobe_62
    · have h := if_f hk0 h
      by_cases hk1 : p2 = (1 : Int32)
      · have h := if_t hk1 h
        refine lv_tableIn (off := 51) (tgt := 63) hx hb dX10_toldGlobe_12 (by rw [hk1]; decide) (by rw [hk1]; decide) (by rw [hk1]; decide) (by decide) ?_
        refine lv_aload_n hx hb dX10_toldGlobe_63 rfl (lv_at hl 0 rfl) ?_
        refine va_get (D := D) (ci := 9) (C := RX10) (T := TX10) (N := 20) hx hb hts (fun _ hw => (List.mem_cons_of_mem _ (List.mem_append_right _ hw))) hown hE.1 hP 2 rfl rfl 2 (by decide) (hts (.fieldLink RX10 16 "GlobeCrownModel" "flakes" "[I") (List.mem_cons_of_mem _ (List.mem_append_left _ (List.mem_of_getElem? (i := 1) rfl)))) (fun _ h9 => h9) rfl dX10_toldGlobe_64 ?_
        refine lv_iload_n hx hb dX10_toldGlobe_67 rfl (lv_at hl 1 rfl) ?_
        obtain ⟨hg, h⟩ := gin_some h
        refine va_iald hx hb hE.1 hP 0 0 rfl rfl hg dX10_toldGlobe_68 ?_
        cases h
        rw [hQQ]
        exact gw_iret hx hb hr hlocks (hP.sub [2, 3, 0, 1] rfl) (hD.sub [2, 3, 0, 1] (by decide) rfl) hS dX10_toldGlobe_69
      · have h := if_f hk1 h
        by_cases hk2 : p2 = (2 : Int32)
        · have h := if_t hk2 h
          refine lv_tableIn (off := 58) (tgt := 70) hx hb dX10_toldGlobe_12 (by rw [hk2]; decide) (by rw [hk2]; decide) (by rw [hk2]; decide) (by decide) ?_
          refine lv_aload_n hx hb dX10_toldGlobe_70 rfl (lv_at hl 0 rfl) ?_
          refine va_get (D := D) (ci := 9) (C := RX10) (T := TX10) (N := 20) hx hb hts (fun _ hw => (List.mem_cons_of_mem _ (List.mem_append_right _ hw))) hown hE.1 hP 2 rfl rfl 0 (by decide) (hts (.fieldLink RX10 7 "GlobeCrownModel" "book" "[I") (List.mem_cons_of_mem _ (List.mem_append_left _ (List.mem_of_getElem? (i := 0) rfl)))) (fun _ h9 => h9) rfl dX10_toldGlobe_71 ?_
          refine lv_bipush (v := 8) hx hb dX10_toldGlobe_74 (by decide) ?_
          refine lv_iload_n hx hb dX10_toldGlobe_76 rfl (lv_at hl 1 rfl) ?_
          refine lv_iadd hx hb dX10_toldGlobe_77 ?_
          obtain ⟨hg, h⟩ := gin_some h
          refine va_iald hx hb hE.1 hP 3 0 rfl rfl hg dX10_toldGlobe_78 ?_
          cases h
          rw [hQQ]
          exact gw_iret hx hb hr hlocks (hP.sub [2, 3, 0, 1] rfl) (hD.sub [2, 3, 0, 1] (by decide) rfl) hS dX10_toldGlobe_79
        · have h := if_f hk2 h
          by_cases hk3 : p2 = (3 : Int32)
          · have h := if_t hk3 h
            refine lv_tableIn (off := 68) (tgt := 80) hx hb dX10_toldGlobe_12 (by rw [hk3]; decide) (by rw [hk3]; decide) (by rw [hk3]; decide) (by decide) ?_
            refine lv_aload_n hx hb dX10_toldGlobe_80 rfl (lv_at hl 0 rfl) ?_
            refine va_get (D := D) (ci := 9) (C := RX10) (T := TX10) (N := 20) hx hb hts (fun _ hw => (List.mem_cons_of_mem _ (List.mem_append_right _ hw))) hown hE.1 hP 2 rfl rfl 3 (by decide) (hts (.fieldLink RX10 19 "GlobeCrownModel" "leaks" "[I") (List.mem_cons_of_mem _ (List.mem_append_left _ (List.mem_of_getElem? (i := 2) rfl)))) (fun _ h9 => h9) rfl dX10_toldGlobe_81 ?_
            refine lv_iload_n hx hb dX10_toldGlobe_84 rfl (lv_at hl 1 rfl) ?_
            obtain ⟨hg, h⟩ := gin_some h
            refine va_iald hx hb hE.1 hP 1 0 rfl rfl hg dX10_toldGlobe_85 ?_
            cases h
            rw [hQQ]
            exact gw_iret hx hb hr hlocks (hP.sub [2, 3, 0, 1] rfl) (hD.sub [2, 3, 0, 1] (by decide) rfl) hS dX10_toldGlobe_86
          · have h := if_f hk3 h
            by_cases hk4 : p2 = (4 : Int32)
            · have h := if_t hk4 h
              refine lv_tableIn (off := 75) (tgt := 87) hx hb dX10_toldGlobe_12 (by rw [hk4]; decide) (by rw [hk4]; decide) (by rw [hk4]; decide) (by decide) ?_
              refine lv_aload_n hx hb dX10_toldGlobe_87 rfl (lv_at hl 0 rfl) ?_
              refine va_get (D := D) (ci := 9) (C := RX10) (T := TX10) (N := 20) hx hb hts (fun _ hw => (List.mem_cons_of_mem _ (List.mem_append_right _ hw))) hown hE.1 hP 2 rfl rfl 0 (by decide) (hts (.fieldLink RX10 7 "GlobeCrownModel" "book" "[I") (List.mem_cons_of_mem _ (List.mem_append_left _ (List.mem_of_getElem? (i := 0) rfl)))) (fun _ h9 => h9) rfl dX10_toldGlobe_88 ?_
              refine lv_bipush (v := 16) hx hb dX10_toldGlobe_91 (by decide) ?_
              refine lv_iload_n hx hb dX10_toldGlobe_93 rfl (lv_at hl 1 rfl) ?_
              refine lv_iadd hx hb dX10_toldGlobe_94 ?_
              obtain ⟨hg, h⟩ := gin_some h
              refine va_iald hx hb hE.1 hP 3 0 rfl rfl hg dX10_toldGlobe_95 ?_
              cases h
              rw [hQQ]
              exact gw_iret hx hb hr hlocks (hP.sub [2, 3, 0, 1] rfl) (hD.sub [2, 3, 0, 1] (by decide) rfl) hS dX10_toldGlobe_96
            · have h := if_f hk4 h
              by_cases hk5 : p2 = (5 : Int32)
              · have h := if_t hk5 h
                refine lv_tableIn (off := 85) (tgt := 97) hx hb dX10_toldGlobe_12 (by rw [hk5]; decide) (by rw [hk5]; decide) (by rw [hk5]; decide) (by decide) ?_
                refine lv_aload_n hx hb dX10_toldGlobe_97 rfl (lv_at hl 0 rfl) ?_
                refine va_get (D := D) (ci := 9) (C := RX10) (T := TX10) (N := 20) hx hb hts (fun _ hw => (List.mem_cons_of_mem _ (List.mem_append_right _ hw))) hown hE.1 hP 2 rfl rfl 4 (by decide) (hts (.fieldLink RX10 63 "GlobeCrownModel" "music" "I") (List.mem_cons_of_mem _ (List.mem_append_left _ (List.mem_of_getElem? (i := 3) rfl)))) (fun _ h9 => h9) rfl dX10_toldGlobe_98 ?_
                refine lv_iload_n hx hb dX10_toldGlobe_101 rfl (lv_at hl 1 rfl) ?_
                refine lv_ishr hx hb dX10_toldGlobe_102 ?_
                refine lv_iconst (v := 1) hx hb dX10_toldGlobe_103 (by decide) ?_
                refine lv_iand hx hb dX10_toldGlobe_104 ?_
                cases h
                rw [hQQ]
                exact gw_iret hx hb hr hlocks (hP.sub [2, 3, 0, 1] rfl) (hD.sub [2, 3, 0, 1] (by decide) rfl) hS dX10_toldGlobe_105
              · have h := if_f hk5 h
                by_cases hk6 : p2 = (6 : Int32)
                · have h := if_t hk6 h
                  refine lv_tableIn (off := 94) (tgt := 106) hx hb dX10_toldGlobe_12 (by rw [hk6]; decide) (by rw [hk6]; decide) (by rw [hk6]; decide) (by decide) ?_
                  refine lv_aload_n hx hb dX10_toldGlobe_106 rfl (lv_at hl 0 rfl) ?_
                  refine va_get (D := D) (ci := 9) (C := RX10) (T := TX10) (N := 20) hx hb hts (fun _ hw => (List.mem_cons_of_mem _ (List.mem_append_right _ hw))) hown hE.1 hP 2 rfl rfl 0 (by decide) (hts (.fieldLink RX10 7 "GlobeCrownModel" "book" "[I") (List.mem_cons_of_mem _ (List.mem_append_left _ (List.mem_of_getElem? (i := 0) rfl)))) (fun _ h9 => h9) rfl dX10_toldGlobe_107 ?_
                  refine lv_bipush (v := 24) hx hb dX10_toldGlobe_110 (by decide) ?_
                  refine lv_iload_n hx hb dX10_toldGlobe_112 rfl (lv_at hl 1 rfl) ?_
                  refine lv_iadd hx hb dX10_toldGlobe_113 ?_
                  obtain ⟨hg, h⟩ := gin_some h
                  refine va_iald hx hb hE.1 hP 3 0 rfl rfl hg dX10_toldGlobe_114 ?_
                  cases h
                  rw [hQQ]
                  exact gw_iret hx hb hr hlocks (hP.sub [2, 3, 0, 1] rfl) (hD.sub [2, 3, 0, 1] (by decide) rfl) hS dX10_toldGlobe_115
                · have h := if_f hk6 h
                  refine lv_tableOut (tgt := 116) hx hb dX10_toldGlobe_12 (by have e0 := lv_neT hk0 (a := 0) (by decide); have e1 := lv_neT hk1 (a := 1) (by decide); have e2 := lv_neT hk2 (a := 2) (by decide); have e3 := lv_neT hk3 (a := 3) (by decide); have e4 := lv_neT hk4 (a := 4) (by decide); have e5 := lv_neT hk5 (a := 5) (by decide); have e6 := lv_neT hk6 (a := 6) (by decide); omega) (by decide) ?_
                  refine lv_iload_n hx hb dX10_toldGlobe_116 rfl (lv_at hl 2 rfl) ?_
                  refine lv_bipush (v := 7) hx hb dX10_toldGlobe_117 (by decide) ?_
                  refine lv_icmp_ne (tgt := 134) hx hb dX10_toldGlobe_119 (by decide) (fun hc => ?_) (fun hc => ?_)
                  · have h := if_f hc h
                    refine lv_bipush (v := -2) hx hb dX10_toldGlobe_134 (by decide) ?_
                    cases h
                    rw [hQQ]
                    exact gw_iret hx hb hr hlocks (hP.sub [2, 3, 0, 1] rfl) (hD.sub [2, 3, 0, 1] (by decide) rfl) hS dX10_toldGlobe_136
                  · have h := if_t hc h
                    refine lv_aload_n hx hb dX10_toldGlobe_122 rfl (lv_at hl 0 rfl) ?_
                    refine va_get (D := D) (ci := 9) (C := RX10) (T := TX10) (N := 20) hx hb hts (fun _ hw => (List.mem_cons_of_mem _ (List.mem_append_right _ hw))) hown hE.1 hP 2 rfl rfl 0 (by decide) (hts (.fieldLink RX10 7 "GlobeCrownModel" "book" "[I") (List.mem_cons_of_mem _ (List.mem_append_left _ (List.mem_of_getElem? (i := 0) rfl)))) (fun _ h9 => h9) rfl dX10_toldGlobe_123 ?_
                    refine lv_bipush (v := 32) hx hb dX10_toldGlobe_126 (by decide) ?_
                    refine lv_iload_n hx hb dX10_toldGlobe_128 rfl (lv_at hl 1 rfl) ?_
                    refine lv_iadd hx hb dX10_toldGlobe_129 ?_
                    obtain ⟨hg, h⟩ := gin_some h
                    refine va_iald hx hb hE.1 hP 3 0 rfl rfl hg dX10_toldGlobe_130 ?_
                    refine lv_goto (tgt := 136) hx hb dX10_toldGlobe_131 (by decide) ?_
                    cases h
                    rw [hQQ]
                    exact gw_iret hx hb hr hlocks (hP.sub [2, 3, 0, 1] rfl) (hD.sub [2, 3, 0, 1] (by decide) rfl) hS dX10_toldGlobe_136
  · have h := if_t hc h
    refine lv_bipush (v := -2) hx hb dX10_toldGlobe_8 (by decide) ?_
    cases h
    rw [hQQ]
    exact gw_iret hx hb hr hlocks (hP.sub [2, 3, 0, 1] rfl) (hD.sub [2, 3, 0, 1] (by decide) rfl) hS dX10_toldGlobe_10
theorem hdV_X10_toldGlobe : yX10_toldGlobe.cls = RX10 ∧ yX10_toldGlobe.cls ≠ "java/lang/invoke/MethodHandle" ∧ yX10_toldGlobe.cls ≠ "java/lang/invoke/VarHandle" ∧ (parseMethodDescriptor yX10_toldGlobe.desc).map (fun d => d.parameters.length) = some 2 := by decide +kernel
def f_X10_told (v_book : (Nat → Int32)) (v_now : (Nat → Int32)) (v_flakes : (Nat → Int32)) (v_leaks : (Nat → Int32)) (v_music : Int32) (v_ranks : (Nat → Int32)) (v_sights : Int32) (v_signs : Int32) (v_freeAt : Int32) (v_freeWho : Int32) (p1 : Int32) : Option (Int32 × (Nat → Int32) × Int32 × Int32) := (if p1 < (100 : Int32) then (if p1 < (10 : Int32) then (bd3 (f_X10_asNow v_book v_now v_freeAt v_freeWho) (fun u54v_now u54v_freeAt u54v_freeWho => (if p1 = (0 : Int32) then (some (v_signs, u54v_now, u54v_freeAt, u54v_freeWho)) else (if p1 = (1 : Int32) then (some ((v_book (Int32.toNatClampNeg (40 : Int32))), u54v_now, u54v_freeAt, u54v_freeWho)) else (if p1 = (2 : Int32) then (bd1 (f_X10_snow u54v_now) (fun r110 => (some (r110, u54v_now, u54v_freeAt, u54v_freeWho)))) else (if p1 = (3 : Int32) then (bd1 (f_X10_freeOnes u54v_now) (fun r115 => (some (r115, u54v_now, u54v_freeAt, u54v_freeWho)))) else (if p1 = (4 : Int32) then (gin ((37 : Int32) + p1) 43 (some ((v_book (Int32.toNatClampNeg ((37 : Int32) + p1))), u54v_now, u54v_freeAt, u54v_freeWho))) else (if p1 = (5 : Int32) then (gin ((37 : Int32) + p1) 43 (some ((v_book (Int32.toNatClampNeg ((37 : Int32) + p1))), u54v_now, u54v_freeAt, u54v_freeWho))) else (if p1 = (6 : Int32) then (some (v_sights, u54v_now, u54v_freeAt, u54v_freeWho)) else (some ((-2 : Int32), u54v_now, u54v_freeAt, u54v_freeWho))))))))))) else (bd1 (f_X10_toldGlobe v_book v_flakes v_leaks v_music ((p1 / (10 : Int32)) - (1 : Int32)) (jrem p1 (10 : Int32))) (fun r49 => (some (r49, v_now, v_freeAt, v_freeWho))))) else (bd1 (f_X10_in p1 (100 : Int32) (105 : Int32)) (fun r11 => (if r11 = (0 : Int32) then (some ((-2 : Int32), v_now, v_freeAt, v_freeWho)) else (gin (p1 - (100 : Int32)) 6 (some ((v_ranks (Int32.toNatClampNeg (p1 - (100 : Int32)))), v_now, v_freeAt, v_freeWho)))))))
abbrev rm_X10_told : Room := { frames := 3, cells := 0, slots := 0, locals := 65 }
set_option maxHeartbeats 4000000 in
set_option maxRecDepth 100000 in
theorem C_X10_told (l : Launch) (D : va_G) (cI cJ cZ : ClassId) (sz : Nat) (qt qt_book qt_now qt_flakes qt_leaks qt_ranks qt_sight qt_pad qt_gets qt_counts qt_worth qt_ways qt_image qt_isKept : Nat) (v_book : (Nat → Int32)) (v_now : (Nat → Int32)) (v_flakes : (Nat → Int32)) (v_leaks : (Nat → Int32)) (v_music : Int32) (v_ranks : (Nat → Int32)) (v_sights : Int32) (v_signs : Int32) (v_freeAt : Int32) (v_freeWho : Int32) (v_reason : Int32) (v_acts : Int32) (p1 : Int32) (r : Int32) (w_now : (Nat → Int32)) (w_freeAt : Int32) (w_freeWho : Int32) (hf : f_X10_told v_book v_now v_flakes v_leaks v_music v_ranks v_sights v_signs v_freeAt v_freeWho p1 = some (r, w_now, w_freeAt, w_freeWho)) : Met l yX10_told wsX10_told rm_X10_told (PR D cI cJ cZ [(qt, .inr (9, [.ref qt_book, .ref qt_now, .ref qt_flakes, .ref qt_leaks, .int v_music, .ref qt_ranks, .int v_sights, .ref qt_sight, .int v_signs, .ref qt_pad, .int v_freeAt, .int v_freeWho, .int v_reason, .int v_acts, .ref qt_gets, .ref qt_counts, .ref qt_worth, .ref qt_ways, .ref qt_image, .ref qt_isKept])), (qt_book, .inl (cI, 43, .inl v_book)), (qt_now, .inl (cI, 43, .inl v_now)), (qt_flakes, .inl (cI, 8, .inl v_flakes)), (qt_leaks, .inl (cI, 8, .inl v_leaks)), (qt_ranks, .inl (cI, 6, .inl v_ranks))] sz [.ref qt, .int p1]) (QI D (va_A [(qt, .inr (9, [.ref qt_book, .ref qt_now, .ref qt_flakes, .ref qt_leaks, .int v_music, .ref qt_ranks, .int v_sights, .ref qt_sight, .int v_signs, .ref qt_pad, .int v_freeAt, .int v_freeWho, .int v_reason, .int v_acts, .ref qt_gets, .ref qt_counts, .ref qt_worth, .ref qt_ways, .ref qt_image, .ref qt_isKept])), (qt_book, .inl (cI, 43, .inl v_book)), (qt_now, .inl (cI, 43, .inl v_now)), (qt_flakes, .inl (cI, 8, .inl v_flakes)), (qt_leaks, .inl (cI, 8, .inl v_leaks)), (qt_ranks, .inl (cI, 6, .inl v_ranks))] sz) r [(qt, .inr (9, [.ref qt_book, .ref qt_now, .ref qt_flakes, .ref qt_leaks, .int v_music, .ref qt_ranks, .int v_sights, .ref qt_sight, .int v_signs, .ref qt_pad, .int w_freeAt, .int w_freeWho, .int v_reason, .int v_acts, .ref qt_gets, .ref qt_counts, .ref qt_worth, .ref qt_ways, .ref qt_image, .ref qt_isKept])), (qt_book, .inl (cI, 43, .inl v_book)), (qt_now, .inl (cI, 43, .inl w_now)), (qt_flakes, .inl (cI, 8, .inl v_flakes)), (qt_leaks, .inl (cI, 8, .inl v_leaks)), (qt_ranks, .inl (cI, 6, .inl v_ranks))]) 0 0 (va_A [(qt, .inr (9, [.ref qt_book, .ref qt_now, .ref qt_flakes, .ref qt_leaks, .int v_music, .ref qt_ranks, .int v_sights, .ref qt_sight, .int v_signs, .ref qt_pad, .int v_freeAt, .int v_freeWho, .int v_reason, .int v_acts, .ref qt_gets, .ref qt_counts, .ref qt_worth, .ref qt_ways, .ref qt_image, .ref qt_isKept])), (qt_book, .inl (cI, 43, .inl v_book)), (qt_now, .inl (cI, 43, .inl v_now)), (qt_flakes, .inl (cI, 8, .inl v_flakes)), (qt_leaks, .inl (cI, 8, .inl v_leaks)), (qt_ranks, .inl (cI, 6, .inl v_ranks))] sz) := by
  refine Met.ofW (cc := cX10_told) (maxL := 2) (ret := (some .int)) (by decide) rfl ?_
  intro p e s m args below meth c s₁ B hml hv
  obtain ⟨hav, hsz, hP, hD0, hE⟩ := hv
  have hx := B.exec
  have hb := B.bytes
  have hr := B.returns
  have hts := atoms_spec (ws := wsX10_told) B.pre
  have hown : s.vm.findClass RX10 = some m.cls := findClass_of_methodNamed B.named
  have hlocks := B.notSynchronized
  subst hsz
  have hD := hD0.self (sz := s.heap.size)
  generalize hAe : va_A [(qt, .inr (9, [.ref qt_book, .ref qt_now, .ref qt_flakes, .ref qt_leaks, .int v_music, .ref qt_ranks, .int v_sights, .ref qt_sight, .int v_signs, .ref qt_pad, .int v_freeAt, .int v_freeWho, .int v_reason, .int v_acts, .ref qt_gets, .ref qt_counts, .ref qt_worth, .ref qt_ways, .ref qt_image, .ref qt_isKept])), (qt_book, .inl (cI, 43, .inl v_book)), (qt_now, .inl (cI, 43, .inl v_now)), (qt_flakes, .inl (cI, 8, .inl v_flakes)), (qt_leaks, .inl (cI, 8, .inl v_leaks)), (qt_ranks, .inl (cI, 6, .inl v_ranks))] s.heap.size = A at hD ⊢
  have hA : ∀ q : Nat, s.heap.size ≤ q → A q := fun q h => by rw [← hAe]; exact Or.inr h
  have hS : va_S A s.heap s.heap [] := va_S.rf
  have hl := lv_entry ([.ref qt, .int p1]) (n := 2) (Nat.le_of_ble_eq_true rfl)
  have hfr : entryFrame m args 2 = entryFrame m ([.ref qt, .int p1] : List Value).toArray 2 := by rw [hav]
  rw [hfr, lg_entry_eq]
  generalize (lg_sl ([.ref qt, .int p1]) ++ List.replicate (2 - (lg_sl ([.ref qt, .int p1])).length) Slot.unset).toArray = ls at hl ⊢
  have hl : lv_has ls 2 [(0, .ref qt), (1, .int p1)] := hl
  obtain ⟨QQ, hQQ⟩ : ∃ QQ, QQ = MQ below (QI D A r [(qt, .inr (9, [.ref qt_book, .ref qt_now, .ref qt_flakes, .ref qt_leaks, .int v_music, .ref qt_ranks, .int v_sights, .ref qt_sight, .int v_signs, .ref qt_pad, .int w_freeAt, .int w_freeWho, .int v_reason, .int v_acts, .ref qt_gets, .ref qt_counts, .ref qt_worth, .ref qt_ways, .ref qt_image, .ref qt_isKept])), (qt_book, .inl (cI, 43, .inl v_book)), (qt_now, .inl (cI, 43, .inl w_now)), (qt_flakes, .inl (cI, 8, .inl v_flakes)), (qt_leaks, .inl (cI, 8, .inl v_leaks)), (qt_ranks, .inl (cI, 6, .inl v_ranks))]) args s 0 0 A := ⟨_, rfl⟩
  show W p l e rm_X10_told s m args below meth c s.heap [] 0 0 _ _
  rw [← hQQ]
  have h := hf
  unfold f_X10_told at h
  refine gw_start hP hD hS (fun H locs hP hD hS => ?_)
  refine lv_iload_n hx hb dX10_told_0 rfl (lv_at hl 1 rfl) ?_
  refine lv_bipush (v := 100) hx hb dX10_told_1 (by decide) ?_
  refine lv_icmp_lt (tgt := 32) hx hb dX10_told_3 (by decide) (fun hc => ?_) (fun hc => ?_)
  · have h := if_t hc h
    refine lv_iload_n hx hb dX10_told_32 rfl (lv_at hl 1 rfl) ?_
    refine lv_bipush (v := 10) hx hb dX10_told_33 (by decide) ?_
    refine lv_icmp_lt (tgt := 53) hx hb dX10_told_35 (by decide) (fun hc => ?_) (fun hc => ?_)
    · have h := if_t hc h
      refine lv_aload_n hx hb dX10_told_53 rfl (lv_at hl 0 rfl) ?_
      obtain ⟨u54v_now, u54v_freeAt, u54v_freeWho, hc54, h⟩ := bd3_some h
      refine gw_cv (wr := [(qt_flakes, .inl (cI, 8, .inl v_flakes)), (qt_leaks, .inl (cI, 8, .inl v_leaks)), (qt_ranks, .inl (cI, 6, .inl v_ranks))]) (w2 := [(qt_flakes, .inl (cI, 8, .inl v_flakes)), (qt_leaks, .inl (cI, 8, .inl v_leaks)), (qt_ranks, .inl (cI, 6, .inl v_ranks)), (qt, .inr (9, [.ref qt_book, .ref qt_now, .ref qt_flakes, .ref qt_leaks, .int v_music, .ref qt_ranks, .int v_sights, .ref qt_sight, .int v_signs, .ref qt_pad, .int u54v_freeAt, .int u54v_freeWho, .int v_reason, .int v_acts, .ref qt_gets, .ref qt_counts, .ref qt_worth, .ref qt_ways, .ref qt_image, .ref qt_isKept])), (qt_book, .inl (cI, 43, .inl v_book)), (qt_now, .inl (cI, 43, .inl u54v_now))]) (gw_rV (n := 0) ⟨hx, hb, hml, hown, hts⟩ (C_X10_asNow l D cI cJ cZ H.size qt qt_book qt_now qt_flakes qt_leaks qt_ranks qt_sight qt_pad qt_gets qt_counts qt_worth qt_ways qt_image qt_isKept v_book v_now v_music v_sights v_signs v_freeAt v_freeWho v_reason v_acts u54v_now u54v_freeAt u54v_freeWho hc54) gX10_told_X10_asNow rfl rfl rfl hdV_X10_asNow ⟨Nat.le_of_ble_eq_true rfl, Nat.le_of_ble_eq_true rfl⟩ hE (hP.sub [0, 1, 2] rfl) (hD.sub [0, 1, 2] (by decide) rfl) 9 rfl 0 rfl rfl hl.1 (rest := []) rfl (Nat.le_of_ble_eq_true rfl) dX10_told_54 ⟨Nat.zero_le _, Nat.zero_le _⟩) hP hD hS hA [0, 1, 2] [3, 4, 5] rfl rfl rfl (by decide) rfl (fun H locs hP hD hS => ?_)
      refine lv_iload_n hx hb dX10_told_57 rfl (lv_at hl 1 rfl) ?_
      by_cases hk0 : p1 = (0 : Int32)
      · have h := if_t hk0 h
        refine lv_tableIn (off := 38) (tgt := 96) hx hb dX10_told_58 (by rw [hk0]; decide) (by rw [hk0]; decide) (by rw [hk0]; decide) (by decide) ?_
        refine lv_aload_n hx hb dX10_told_96 rfl (lv_at hl 0 rfl) ?_
        refine va_get (D := D) (ci := 9) (C := RX10) (T := TX10) (N := 20) hx hb hts (fun _ hw => (List.mem_cons_of_mem _ (List.mem_append_right _ hw))) hown hE.1 hP 3 rfl rfl 8 (by decide) (hts (.fieldLink RX10 77 "GlobeCrownModel" "signs" "I") (List.mem_cons_of_mem _ (List.mem_append_left _ (List.mem_append_left _ (List.mem_of_getElem? (i := 1) rfl))))) (fun _ h9 => h9) rfl dX10_told_97 ?_
        cases h
        rw [hQQ]
        exact gw_iret hx hb hr hlocks (hP.sub [3, 4, 5, 0, 1, 2] rfl) (hD.sub [3, 4, 5, 0, 1, 2] (by decide) rfl) hS dX10_told_100
      · have h := if_f hk0 h
        by_cases hk1 : p1 = (1 : Int32)
        · have h := if_t hk1 h
          refine lv_tableIn (off := 43) (tgt := 101) hx hb dX10_told_58 (by rw [hk1]; decide) (by rw [hk1]; decide) (by rw [hk1]; decide) (by decide) ?_
          refine lv_aload_n hx hb dX10_told_101 rfl (lv_at hl 0 rfl) ?_
          refine va_get (D := D) (ci := 9) (C := RX10) (T := TX10) (N := 20) hx hb hts (fun _ hw => (List.mem_cons_of_mem _ (List.mem_append_right _ hw))) hown hE.1 hP 3 rfl rfl 0 (by decide) (hts (.fieldLink RX10 7 "GlobeCrownModel" "book" "[I") (List.mem_cons_of_mem _ (List.mem_append_left _ (List.mem_append_left _ (List.mem_of_getElem? (i := 2) rfl))))) (fun _ h9 => h9) rfl dX10_told_102 ?_
          refine lv_bipush (v := 40) hx hb dX10_told_105 (by decide) ?_
          refine va_iald hx hb hE.1 hP 4 0 rfl rfl (jinb_in (by decide)) dX10_told_107 ?_
          cases h
          rw [hQQ]
          exact gw_iret hx hb hr hlocks (hP.sub [3, 4, 5, 0, 1, 2] rfl) (hD.sub [3, 4, 5, 0, 1, 2] (by decide) rfl) hS dX10_told_108
        · have h := if_f hk1 h
          by_cases hk2 : p1 = (2 : Int32)
          · have h := if_t hk2 h
            refine lv_tableIn (off := 51) (tgt := 109) hx hb dX10_told_58 (by rw [hk2]; decide) (by rw [hk2]; decide) (by rw [hk2]; decide) (by decide) ?_
            refine lv_aload_n hx hb dX10_told_109 rfl (lv_at hl 0 rfl) ?_
            obtain ⟨r110, hc110, h⟩ := bd1_some h
            refine gw_ci (wr := [(qt_flakes, .inl (cI, 8, .inl v_flakes)), (qt_leaks, .inl (cI, 8, .inl v_leaks)), (qt_ranks, .inl (cI, 6, .inl v_ranks)), (qt_book, .inl (cI, 43, .inl v_book))]) (w2 := [(qt_flakes, .inl (cI, 8, .inl v_flakes)), (qt_leaks, .inl (cI, 8, .inl v_leaks)), (qt_ranks, .inl (cI, 6, .inl v_ranks)), (qt_book, .inl (cI, 43, .inl v_book)), (qt, .inr (9, [.ref qt_book, .ref qt_now, .ref qt_flakes, .ref qt_leaks, .int v_music, .ref qt_ranks, .int v_sights, .ref qt_sight, .int v_signs, .ref qt_pad, .int u54v_freeAt, .int u54v_freeWho, .int v_reason, .int v_acts, .ref qt_gets, .ref qt_counts, .ref qt_worth, .ref qt_ways, .ref qt_image, .ref qt_isKept])), (qt_now, .inl (cI, 43, .inl u54v_now))]) (gw_rV (n := 0) ⟨hx, hb, hml, hown, hts⟩ (C_X10_snow l D cI cJ cZ H.size qt qt_book qt_now qt_flakes qt_leaks qt_ranks qt_sight qt_pad qt_gets qt_counts qt_worth qt_ways qt_image qt_isKept u54v_now v_music v_sights v_signs u54v_freeAt u54v_freeWho v_reason v_acts r110 hc110) gX10_told_X10_snow rfl rfl rfl hdV_X10_snow ⟨Nat.le_of_ble_eq_true rfl, Nat.le_of_ble_eq_true rfl⟩ hE (hP.sub [3, 5] rfl) (hD.sub [3, 5] (by decide) rfl) 9 rfl 0 rfl rfl hl.1 (rest := []) rfl (Nat.le_of_ble_eq_true rfl) dX10_told_110 ⟨Nat.zero_le _, Nat.zero_le _⟩) hP hD hS hA [3, 5] [0, 1, 2, 4] rfl rfl rfl (by decide) rfl (fun H locs hP hD hS => ?_)
            cases h
            rw [hQQ]
            exact gw_iret hx hb hr hlocks (hP.sub [4, 3, 5, 0, 1, 2] rfl) (hD.sub [4, 3, 5, 0, 1, 2] (by decide) rfl) hS dX10_told_113
          · have h := if_f hk2 h
            by_cases hk3 : p1 = (3 : Int32)
            · have h := if_t hk3 h
              refine lv_tableIn (off := 56) (tgt := 114) hx hb dX10_told_58 (by rw [hk3]; decide) (by rw [hk3]; decide) (by rw [hk3]; decide) (by decide) ?_
              refine lv_aload_n hx hb dX10_told_114 rfl (lv_at hl 0 rfl) ?_
              obtain ⟨r115, hc115, h⟩ := bd1_some h
              refine gw_ci (wr := [(qt_flakes, .inl (cI, 8, .inl v_flakes)), (qt_leaks, .inl (cI, 8, .inl v_leaks)), (qt_ranks, .inl (cI, 6, .inl v_ranks)), (qt_book, .inl (cI, 43, .inl v_book))]) (w2 := [(qt_flakes, .inl (cI, 8, .inl v_flakes)), (qt_leaks, .inl (cI, 8, .inl v_leaks)), (qt_ranks, .inl (cI, 6, .inl v_ranks)), (qt_book, .inl (cI, 43, .inl v_book)), (qt, .inr (9, [.ref qt_book, .ref qt_now, .ref qt_flakes, .ref qt_leaks, .int v_music, .ref qt_ranks, .int v_sights, .ref qt_sight, .int v_signs, .ref qt_pad, .int u54v_freeAt, .int u54v_freeWho, .int v_reason, .int v_acts, .ref qt_gets, .ref qt_counts, .ref qt_worth, .ref qt_ways, .ref qt_image, .ref qt_isKept])), (qt_now, .inl (cI, 43, .inl u54v_now))]) (gw_rV (n := 0) ⟨hx, hb, hml, hown, hts⟩ (C_X10_freeOnes l D cI cJ cZ H.size qt qt_book qt_now qt_flakes qt_leaks qt_ranks qt_sight qt_pad qt_gets qt_counts qt_worth qt_ways qt_image qt_isKept u54v_now v_music v_sights v_signs u54v_freeAt u54v_freeWho v_reason v_acts r115 hc115) gX10_told_X10_freeOnes rfl rfl rfl hdV_X10_freeOnes ⟨Nat.le_of_ble_eq_true rfl, Nat.le_of_ble_eq_true rfl⟩ hE (hP.sub [3, 5] rfl) (hD.sub [3, 5] (by decide) rfl) 9 rfl 0 rfl rfl hl.1 (rest := []) rfl (Nat.le_of_ble_eq_true rfl) dX10_told_115 ⟨Nat.zero_le _, Nat.zero_le _⟩) hP hD hS hA [3, 5] [0, 1, 2, 4] rfl rfl rfl (by decide) rfl (fun H locs hP hD hS => ?_)
              cases h
              rw [hQQ]
              exact gw_iret hx hb hr hlocks (hP.sub [4, 3, 5, 0, 1, 2] rfl) (hD.sub [4, 3, 5, 0, 1, 2] (by decide) rfl) hS dX10_told_118
            · have h := if_f hk3 h
              by_cases hk4 : p1 = (4 : Int32)
              · have h := if_t hk4 h
                refine lv_tableIn (off := 61) (tgt := 119) hx hb dX10_told_58 (by rw [hk4]; decide) (by rw [hk4]; decide) (by rw [hk4]; decide) (by decide) ?_
                refine lv_aload_n hx hb dX10_told_119 rfl (lv_at hl 0 rfl) ?_
                refine va_get (D := D) (ci := 9) (C := RX10) (T := TX10) (N := 20) hx hb hts (fun _ hw => (List.mem_cons_of_mem _ (List.mem_append_right _ hw))) hown hE.1 hP 3 rfl rfl 0 (by decide) (hts (.fieldLink RX10 7 "GlobeCrownModel" "book" "[I") (List.mem_cons_of_mem _ (List.mem_append_left _ (List.mem_append_left _ (List.mem_of_getElem? (i := 2) rfl))))) (fun _ h9 => h9) rfl dX10_told_120 ?_
                refine lv_bipush (v := 37) hx hb dX10_told_123 (by decide) ?_
                refine lv_iload_n hx hb dX10_told_125 rfl (lv_at hl 1 rfl) ?_
                refine lv_iadd hx hb dX10_told_126 ?_
                obtain ⟨hg, h⟩ := gin_some h
                refine va_iald hx hb hE.1 hP 4 0 rfl rfl hg dX10_told_127 ?_
                cases h
                rw [hQQ]
                exact gw_iret hx hb hr hlocks (hP.sub [3, 4, 5, 0, 1, 2] rfl) (hD.sub [3, 4, 5, 0, 1, 2] (by decide) rfl) hS dX10_told_128
              · have h := if_f hk4 h
                by_cases hk5 : p1 = (5 : Int32)
                · have h := if_t hk5 h
                  refine lv_tableIn (off := 61) (tgt := 119) hx hb dX10_told_58 (by rw [hk5]; decide) (by rw [hk5]; decide) (by rw [hk5]; decide) (by decide) ?_
                  refine lv_aload_n hx hb dX10_told_119 rfl (lv_at hl 0 rfl) ?_
                  refine va_get (D := D) (ci := 9) (C := RX10) (T := TX10) (N := 20) hx hb hts (fun _ hw => (List.mem_cons_of_mem _ (List.mem_append_right _ hw))) hown hE.1 hP 3 rfl rfl 0 (by decide) (hts (.fieldLink RX10 7 "GlobeCrownModel" "book" "[I") (List.mem_cons_of_mem _ (List.mem_append_left _ (List.mem_append_left _ (List.mem_of_getElem? (i := 2) rfl))))) (fun _ h9 => h9) rfl dX10_told_120 ?_
                  refine lv_bipush (v := 37) hx hb dX10_told_123 (by decide) ?_
                  refine lv_iload_n hx hb dX10_told_125 rfl (lv_at hl 1 rfl) ?_
                  refine lv_iadd hx hb dX10_told_126 ?_
                  obtain ⟨hg, h⟩ := gin_some h
                  refine va_iald hx hb hE.1 hP 4 0 rfl rfl hg dX10_told_127 ?_
                  cases h
                  rw [hQQ]
                  exact gw_iret hx hb hr hlocks (hP.sub [3, 4, 5, 0, 1, 2] rfl) (hD.sub [3, 4, 5, 0, 1, 2] (by decide) rfl) hS dX10_told_128
                · have h := if_f hk5 h
                  refine lv_tableOut (tgt := 129) hx hb dX10_told_58 (by have e0 := lv_neT hk0 (a := 0) (by decide); have e1 := lv_neT hk1 (a := 1) (by decide); have e2 := lv_neT hk2 (a := 2) (by decide); have e3 := lv_neT hk3 (a := 3) (by decide); have e4 := lv_neT hk4 (a := 4) (by decide); have e5 := lv_neT hk5 (a := 5) (by decide); omega) (by decide) ?_
                  refine lv_iload_n hx hb dX10_told_129 rfl (lv_at hl 1 rfl) ?_
                  refine lv_bipush (v := 6) hx hb dX10_told_130 (by decide) ?_
                  refine lv_icmp_ne (tgt := 142) hx hb dX10_told_132 (by decide) (fun hc => ?_) (fun hc => ?_)
                  · have h := if_f hc h
                    refine lv_bipush (v := -2) hx hb dX10_told_142 (by decide) ?_
                    cases h
                    rw [hQQ]
                    exact gw_iret hx hb hr hlocks (hP.sub [3, 4, 5, 0, 1, 2] rfl) (hD.sub [3, 4, 5, 0, 1, 2] (by decide) rfl) hS dX10_told_144
                  · have h := if_t hc h
                    refine lv_aload_n hx hb dX10_told_135 rfl (lv_at hl 0 rfl) ?_
                    refine va_get (D := D) (ci := 9) (C := RX10) (T := TX10) (N := 20) hx hb hts (fun _ hw => (List.mem_cons_of_mem _ (List.mem_append_right _ hw))) hown hE.1 hP 3 rfl rfl 6 (by decide) (hts (.fieldLink RX10 152 "GlobeCrownModel" "sights" "I") (List.mem_cons_of_mem _ (List.mem_append_left _ (List.mem_append_left _ (List.mem_of_getElem? (i := 3) rfl))))) (fun _ h9 => h9) rfl dX10_told_136 ?_
                    refine lv_goto (tgt := 144) hx hb dX10_told_139 (by decide) ?_
                    cases h
                    rw [hQQ]
                    exact gw_iret hx hb hr hlocks (hP.sub [3, 4, 5, 0, 1, 2] rfl) (hD.sub [3, 4, 5, 0, 1, 2] (by decide) rfl) hS dX10_told_144
    · have h := if_f hc h
      refine lv_aload_n hx hb dX10_told_38 rfl (lv_at hl 0 rfl) ?_
      refine lv_iload_n hx hb dX10_told_39 rfl (lv_at hl 1 rfl) ?_
      refine lv_bipush (v := 10) hx hb dX10_told_40 (by decide) ?_
      refine lv_idiv hx hb dX10_told_42 (by decide) ?_
      refine lv_iconst (v := 1) hx hb dX10_told_43 (by decide) ?_
      refine lv_isub hx hb dX10_told_44 ?_
      refine lv_iload_n hx hb dX10_told_45 rfl (lv_at hl 1 rfl) ?_
      refine lv_bipush (v := 10) hx hb dX10_told_46 (by decide) ?_
      refine gw_irem hx hb dX10_told_48 (by decide) ?_
      obtain ⟨r49, hc49, h⟩ := bd1_some h
      refine gw_ci (wr := [(qt_now, .inl (cI, 43, .inl v_now)), (qt_ranks, .inl (cI, 6, .inl v_ranks))]) (w2 := [(qt_now, .inl (cI, 43, .inl v_now)), (qt_ranks, .inl (cI, 6, .inl v_ranks)), (qt, .inr (9, [.ref qt_book, .ref qt_now, .ref qt_flakes, .ref qt_leaks, .int v_music, .ref qt_ranks, .int v_sights, .ref qt_sight, .int v_signs, .ref qt_pad, .int v_freeAt, .int v_freeWho, .int v_reason, .int v_acts, .ref qt_gets, .ref qt_counts, .ref qt_worth, .ref qt_ways, .ref qt_image, .ref qt_isKept])), (qt_book, .inl (cI, 43, .inl v_book)), (qt_flakes, .inl (cI, 8, .inl v_flakes)), (qt_leaks, .inl (cI, 8, .inl v_leaks))]) (gw_rV (n := 2) ⟨hx, hb, hml, hown, hts⟩ (C_X10_toldGlobe l D cI cJ cZ H.size qt qt_book qt_now qt_flakes qt_leaks qt_ranks qt_sight qt_pad qt_gets qt_counts qt_worth qt_ways qt_image qt_isKept v_book v_flakes v_leaks v_music v_sights v_signs v_freeAt v_freeWho v_reason v_acts ((p1 / (10 : Int32)) - (1 : Int32)) (jrem p1 (10 : Int32)) r49 hc49) gX10_told_X10_toldGlobe rfl rfl rfl hdV_X10_toldGlobe ⟨Nat.le_of_ble_eq_true rfl, Nat.le_of_ble_eq_true rfl⟩ hE (hP.sub [0, 1, 3, 4] rfl) (hD.sub [0, 1, 3, 4] (by decide) rfl) 9 rfl 0 rfl rfl hl.1 (rest := []) rfl (Nat.le_of_ble_eq_true rfl) dX10_told_49 ⟨Nat.zero_le _, Nat.zero_le _⟩) hP hD hS hA [0, 1, 3, 4] [2, 5] rfl rfl rfl (by decide) rfl (fun H locs hP hD hS => ?_)
      cases h
      rw [hQQ]
      exact gw_iret hx hb hr hlocks (hP.sub [2, 3, 0, 4, 5, 1] rfl) (hD.sub [2, 3, 0, 4, 5, 1] (by decide) rfl) hS dX10_told_52
  · have h := if_f hc h
    refine lv_iload_n hx hb dX10_told_6 rfl (lv_at hl 1 rfl) ?_
    refine lv_bipush (v := 100) hx hb dX10_told_7 (by decide) ?_
    refine lv_bipush (v := 105) hx hb dX10_told_9 (by decide) ?_
    obtain ⟨r11, hc11, h⟩ := bd1_some h
    refine gw_ci (wr := [(qt, .inr (9, [.ref qt_book, .ref qt_now, .ref qt_flakes, .ref qt_leaks, .int v_music, .ref qt_ranks, .int v_sights, .ref qt_sight, .int v_signs, .ref qt_pad, .int v_freeAt, .int v_freeWho, .int v_reason, .int v_acts, .ref qt_gets, .ref qt_counts, .ref qt_worth, .ref qt_ways, .ref qt_image, .ref qt_isKept])), (qt_book, .inl (cI, 43, .inl v_book)), (qt_now, .inl (cI, 43, .inl v_now)), (qt_flakes, .inl (cI, 8, .inl v_flakes)), (qt_leaks, .inl (cI, 8, .inl v_leaks)), (qt_ranks, .inl (cI, 6, .inl v_ranks))]) (w2 := [(qt, .inr (9, [.ref qt_book, .ref qt_now, .ref qt_flakes, .ref qt_leaks, .int v_music, .ref qt_ranks, .int v_sights, .ref qt_sight, .int v_signs, .ref qt_pad, .int v_freeAt, .int v_freeWho, .int v_reason, .int v_acts, .ref qt_gets, .ref qt_counts, .ref qt_worth, .ref qt_ways, .ref qt_image, .ref qt_isKept])), (qt_book, .inl (cI, 43, .inl v_book)), (qt_now, .inl (cI, 43, .inl v_now)), (qt_flakes, .inl (cI, 8, .inl v_flakes)), (qt_leaks, .inl (cI, 8, .inl v_leaks)), (qt_ranks, .inl (cI, 6, .inl v_ranks))]) (gw_rS (n := 3) ⟨hx, hb, hml, hown, hts⟩ (C_X10_in l D cI cJ cZ H.size p1 (100 : Int32) (105 : Int32) r11 hc11) gX10_told_X10_in rfl rfl rfl hdS_X10_in ⟨Nat.le_of_ble_eq_true rfl, Nat.le_of_ble_eq_true rfl⟩ hE (hP.sub [] rfl) (hD.sub [] (by decide) rfl) rfl hl.1 (rest := []) rfl (Nat.le_of_ble_eq_true rfl) dX10_told_11 ⟨Nat.zero_le _, Nat.zero_le _⟩) hP hD hS hA [] [0, 1, 2, 3, 4, 5] rfl rfl rfl (by decide) rfl (fun H locs hP hD hS => ?_)
    refine lv_if_eq (tgt := 29) hx hb dX10_told_14 (by decide) (fun hc => ?_) (fun hc => ?_)
    · have h := if_t hc h
      refine lv_bipush (v := -2) hx hb dX10_told_29 (by decide) ?_
      cases h
      rw [hQQ]
      exact gw_iret hx hb hr hlocks hP hD hS dX10_told_31
    · have h := if_f hc h
      refine lv_aload_n hx hb dX10_told_17 rfl (lv_at hl 0 rfl) ?_
      refine va_get (D := D) (ci := 9) (C := RX10) (T := TX10) (N := 20) hx hb hts (fun _ hw => (List.mem_cons_of_mem _ (List.mem_append_right _ hw))) hown hE.1 hP 0 rfl rfl 5 (by decide) (hts (.fieldLink RX10 22 "GlobeCrownModel" "ranks" "[I") (List.mem_cons_of_mem _ (List.mem_append_left _ (List.mem_append_left _ (List.mem_of_getElem? (i := 0) rfl))))) (fun _ h9 => h9) rfl dX10_told_18 ?_
      refine lv_iload_n hx hb dX10_told_21 rfl (lv_at hl 1 rfl) ?_
      refine lv_bipush (v := 100) hx hb dX10_told_22 (by decide) ?_
      refine lv_isub hx hb dX10_told_24 ?_
      obtain ⟨hg, h⟩ := gin_some h
      refine va_iald hx hb hE.1 hP 5 0 rfl rfl hg dX10_told_25 ?_
      refine lv_goto (tgt := 31) hx hb dX10_told_26 (by decide) ?_
      cases h
      rw [hQQ]
      exact gw_iret hx hb hr hlocks hP hD hS dX10_told_31
theorem hdV_X10_told : yX10_told.cls = RX10 ∧ yX10_told.cls ≠ "java/lang/invoke/MethodHandle" ∧ yX10_told.cls ≠ "java/lang/invoke/VarHandle" ∧ (parseMethodDescriptor yX10_told.desc).map (fun d => d.parameters.length) = some 1 := by decide +kernel
