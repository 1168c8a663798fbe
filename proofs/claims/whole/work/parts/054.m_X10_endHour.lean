def B_X10_endHour_216 (v_leaks : (Nat → Int32)) (v_music : Int32) (rec29 : (Nat → Int32) → Int32 → Option (Int32 × (Nat → Int32))) (v_now : (Nat → Int32)) (x1 : Int32) (s0 : Int32) (s1 : Int32) (s2 : Int32) : Option (Int32 × (Nat → Int32)) := (gin s2 43 (rec29 (upd v_now (Int32.toNatClampNeg s2) (s1 - s0)) (x1 + (1 : Int32))))
def B_X10_endHour_179 (v_leaks : (Nat → Int32)) (v_music : Int32) (rec29 : (Nat → Int32) → Int32 → Option (Int32 × (Nat → Int32))) (v_now : (Nat → Int32)) (x1 : Int32) : Option (Int32 × (Nat → Int32)) := (gin x1 43 (gin x1 43 (gin x1 8 (if (v_now (Int32.toNatClampNeg x1)) ≤ (v_leaks (Int32.toNatClampNeg x1)) then (gin x1 43 (B_X10_endHour_216 v_leaks v_music rec29 v_now x1 (v_now (Int32.toNatClampNeg x1)) (v_now (Int32.toNatClampNeg x1)) x1)) else (gin x1 8 (B_X10_endHour_216 v_leaks v_music rec29 v_now x1 (v_leaks (Int32.toNatClampNeg x1)) (v_now (Int32.toNatClampNeg x1)) x1))))))
def B_X10_endHour_134 (v_leaks : (Nat → Int32)) (v_music : Int32) (rec29 : (Nat → Int32) → Int32 → Option (Int32 × (Nat → Int32))) (v_now : (Nat → Int32)) (x1 : Int32) (s0 : Int32) (s1 : Int32) (s2 : Int32) : Option (Int32 × (Nat → Int32)) := (gin s2 43 (B_X10_endHour_179 v_leaks v_music rec29 (upd v_now (Int32.toNatClampNeg s2) (s1 + s0)) x1))
def B_X10_endHour_177 (v_leaks : (Nat → Int32)) (v_music : Int32) (rec29 : (Nat → Int32) → Int32 → Option (Int32 × (Nat → Int32))) (v_now : (Nat → Int32)) (x1 : Int32) (s0 : Int32) (s1 : Int32) (s2 : Int32) : Option (Int32 × (Nat → Int32)) := (gin s2 43 (B_X10_endHour_179 v_leaks v_music rec29 (upd v_now (Int32.toNatClampNeg s2) (s1 - s0)) x1))
def B_X10_endHour_99 (v_leaks : (Nat → Int32)) (v_music : Int32) (rec29 : (Nat → Int32) → Int32 → Option (Int32 × (Nat → Int32))) (v_now : (Nat → Int32)) (x1 : Int32) (x2 : Int32) (s0 : Int32) (s1 : Int32) (s2 : Int32) : Option (Int32 × (Nat → Int32)) := (gin s2 43 (if x2 = (0 : Int32) then (bd1 (f_X10_has v_music x1) (fun r144 => (if r144 = (0 : Int32) then (gin ((24 : Int32) + x1) 43 (gin ((24 : Int32) + x1) 43 (if ((upd v_now (Int32.toNatClampNeg s2) (s1 - s0)) (Int32.toNatClampNeg ((24 : Int32) + x1))) ≤ (0 : Int32) then (B_X10_endHour_177 v_leaks v_music rec29 (upd v_now (Int32.toNatClampNeg s2) (s1 - s0)) x1 (0 : Int32) ((upd v_now (Int32.toNatClampNeg s2) (s1 - s0)) (Int32.toNatClampNeg ((24 : Int32) + x1))) ((24 : Int32) + x1)) else (B_X10_endHour_177 v_leaks v_music rec29 (upd v_now (Int32.toNatClampNeg s2) (s1 - s0)) x1 (1 : Int32) ((upd v_now (Int32.toNatClampNeg s2) (s1 - s0)) (Int32.toNatClampNeg ((24 : Int32) + x1))) ((24 : Int32) + x1))))) else (B_X10_endHour_179 v_leaks v_music rec29 (upd v_now (Int32.toNatClampNeg s2) (s1 - s0)) x1)))) else (gin ((24 : Int32) + x1) 43 (gin ((24 : Int32) + x1) 43 (if (9 : Int32) ≤ ((upd v_now (Int32.toNatClampNeg s2) (s1 - s0)) (Int32.toNatClampNeg ((24 : Int32) + x1))) then (B_X10_endHour_134 v_leaks v_music rec29 (upd v_now (Int32.toNatClampNeg s2) (s1 - s0)) x1 (0 : Int32) ((upd v_now (Int32.toNatClampNeg s2) (s1 - s0)) (Int32.toNatClampNeg ((24 : Int32) + x1))) ((24 : Int32) + x1)) else (B_X10_endHour_134 v_leaks v_music rec29 (upd v_now (Int32.toNatClampNeg s2) (s1 - s0)) x1 (1 : Int32) ((upd v_now (Int32.toNatClampNeg s2) (s1 - s0)) (Int32.toNatClampNeg ((24 : Int32) + x1))) ((24 : Int32) + x1)))))))
def B_X10_endHour_60 (v_leaks : (Nat → Int32)) (v_music : Int32) (rec29 : (Nat → Int32) → Int32 → Option (Int32 × (Nat → Int32))) (v_now : (Nat → Int32)) (x1 : Int32) (s0 : Int32) : Option (Int32 × (Nat → Int32)) := (gin ((8 : Int32) + x1) 43 (gin ((8 : Int32) + x1) 43 (if (v_now (Int32.toNatClampNeg ((8 : Int32) + x1))) ≤ (7 : Int32) then (gin ((8 : Int32) + x1) 43 (B_X10_endHour_99 v_leaks v_music rec29 v_now x1 s0 (v_now (Int32.toNatClampNeg ((8 : Int32) + x1))) (v_now (Int32.toNatClampNeg ((8 : Int32) + x1))) ((8 : Int32) + x1))) else (B_X10_endHour_99 v_leaks v_music rec29 v_now x1 s0 (7 : Int32) (v_now (Int32.toNatClampNeg ((8 : Int32) + x1))) ((8 : Int32) + x1)))))
def L_X10_endHour_29 (v_leaks : (Nat → Int32)) (v_music : Int32) : Nat → (Nat → Int32) → Int32 → Option (Int32 × (Nat → Int32))
  | 0, _, _ => none
  | n + 1, v_now, x1 => (if (8 : Int32) ≤ x1 then (some ((0 : Int32), v_now)) else (bd1 (f_X10_stands v_now x1) (fun r37 => (if r37 = (0 : Int32) then ((L_X10_endHour_29 v_leaks v_music n) v_now (x1 + (1 : Int32))) else (gin ((8 : Int32) + x1) 43 (if (v_now (Int32.toNatClampNeg ((8 : Int32) + x1))) ≤ (0 : Int32) then (B_X10_endHour_60 v_leaks v_music (L_X10_endHour_29 v_leaks v_music n) v_now x1 (0 : Int32)) else (B_X10_endHour_60 v_leaks v_music (L_X10_endHour_29 v_leaks v_music n) v_now x1 (1 : Int32))))))))
def f_X10_endHour (v_now : (Nat → Int32)) (v_leaks : (Nat → Int32)) (v_music : Int32) : Option (Int32 × (Nat → Int32)) := (if (v_now (Int32.toNatClampNeg (42 : Int32))) = (999 : Int32) then (some ((6 : Int32), v_now)) else (L_X10_endHour_29 v_leaks v_music FU (upd v_now (Int32.toNatClampNeg (42 : Int32)) ((v_now (Int32.toNatClampNeg (42 : Int32))) + (1 : Int32))) (0 : Int32)))
abbrev rm_X10_endHour : Room := { frames := 2, cells := 0, slots := 0, locals := 42 }
set_option maxHeartbeats 4000000 in
set_option maxRecDepth 100000 in
theorem C_X10_endHour (l : Launch) (D : va_G) (cI cJ cZ : ClassId) (sz : Nat) (qt qt_book qt_now qt_flakes qt_leaks qt_ranks qt_sight qt_pad qt_gets qt_counts qt_worth qt_ways qt_image qt_isKept : Nat) (v_now : (Nat → Int32)) (v_leaks : (Nat → Int32)) (v_music : Int32) (v_sights : Int32) (v_signs : Int32) (v_freeAt : Int32) (v_freeWho : Int32) (v_reason : Int32) (v_acts : Int32) (r : Int32) (w_now : (Nat → Int32)) (hf : f_X10_endHour v_now v_leaks v_music = some (r, w_now)) : Met l yX10_endHour wsX10_endHour rm_X10_endHour (PR D cI cJ cZ [(qt, .inr (9, [.ref qt_book, .ref qt_now, .ref qt_flakes, .ref qt_leaks, .int v_music, .ref qt_ranks, .int v_sights, .ref qt_sight, .int v_signs, .ref qt_pad, .int v_freeAt, .int v_freeWho, .int v_reason, .int v_acts, .ref qt_gets, .ref qt_counts, .ref qt_worth, .ref qt_ways, .ref qt_image, .ref qt_isKept])), (qt_now, .inl (cI, 43, .inl v_now)), (qt_leaks, .inl (cI, 8, .inl v_leaks))] sz [.ref qt]) (QI D (va_A [(qt, .inr (9, [.ref qt_book, .ref qt_now, .ref qt_flakes, .ref qt_leaks, .int v_music, .ref qt_ranks, .int v_sights, .ref qt_sight, .int v_signs, .ref qt_pad, .int v_freeAt, .int v_freeWho, .int v_reason, .int v_acts, .ref qt_gets, .ref qt_counts, .ref qt_worth, .ref qt_ways, .ref qt_image, .ref qt_isKept])), (qt_now, .inl (cI, 43, .inl v_now)), (qt_leaks, .inl (cI, 8, .inl v_leaks))] sz) r [(qt, .inr (9, [.ref qt_book, .ref qt_now, .ref qt_flakes, .ref qt_leaks, .int v_music, .ref qt_ranks, .int v_sights, .ref qt_sight, .int v_signs, .ref qt_pad, .int v_freeAt, .int v_freeWho, .int v_reason, .int v_acts, .ref qt_gets, .ref qt_counts, .ref qt_worth, .ref qt_ways, .ref qt_image, .ref qt_isKept])), (qt_now, .inl (cI, 43, .inl w_now)), (qt_leaks, .inl (cI, 8, .inl v_leaks))]) 0 0 (va_A [(qt, .inr (9, [.ref qt_book, .ref qt_now, .ref qt_flakes, .ref qt_leaks, .int v_music, .ref qt_ranks, .int v_sights, .ref qt_sight, .int v_signs, .ref qt_pad, .int v_freeAt, .int v_freeWho, .int v_reason, .int v_acts, .ref qt_gets, .ref qt_counts, .ref qt_worth, .ref qt_ways, .ref qt_image, .ref qt_isKept])), (qt_now, .inl (cI, 43, .inl v_now)), (qt_leaks, .inl (cI, 8, .inl v_leaks))] sz) := by
  refine Met.ofW (cc := cX10_endHour) (maxL := 3) (ret := (some .int)) (by decide) rfl ?_
  intro p e s m args below meth c s₁ B hml hv
  obtain ⟨hav, hsz, hP, hD0, hE⟩ := hv
  have hx := B.exec
  have hb := B.bytes
  have hr := B.returns
  have hts := atoms_spec (ws := wsX10_endHour) B.pre
  have hown : s.vm.findClass RX10 = some m.cls := findClass_of_methodNamed B.named
  have hlocks := B.notSynchronized
  subst hsz
  have hD := hD0.self (sz := s.heap.size)
  generalize hAe : va_A [(qt, .inr (9, [.ref qt_book, .ref qt_now, .ref qt_flakes, .ref qt_leaks, .int v_music, .ref qt_ranks, .int v_sights, .ref qt_sight, .int v_signs, .ref qt_pad, .int v_freeAt, .int v_freeWho, .int v_reason, .int v_acts, .ref qt_gets, .ref qt_counts, .ref qt_worth, .ref qt_ways, .ref qt_image, .ref qt_isKept])), (qt_now, .inl (cI, 43, .inl v_now)), (qt_leaks, .inl (cI, 8, .inl v_leaks))] s.heap.size = A at hD ⊢
  have hA : ∀ q : Nat, s.heap.size ≤ q → A q := fun q h => by rw [← hAe]; exact Or.inr h
  have hS : va_S A s.heap s.heap [] := va_S.rf
  have hl := lv_entry ([.ref qt]) (n := 3) (Nat.le_of_ble_eq_true rfl)
  have hfr : entryFrame m args 3 = entryFrame m ([.ref qt] : List Value).toArray 3 := by rw [hav]
  rw [hfr, lg_entry_eq]
  generalize (lg_sl ([.ref qt]) ++ List.replicate (3 - (lg_sl ([.ref qt])).length) Slot.unset).toArray = ls at hl ⊢
  have hl : lv_has ls 3 [(0, .ref qt)] := hl
  obtain ⟨QQ, hQQ⟩ : ∃ QQ, QQ = MQ below (QI D A r [(qt, .inr (9, [.ref qt_book, .ref qt_now, .ref qt_flakes, .ref qt_leaks, .int v_music, .ref qt_ranks, .int v_sights, .ref qt_sight, .int v_signs, .ref qt_pad, .int v_freeAt, .int v_freeWho, .int v_reason, .int v_acts, .ref qt_gets, .ref qt_counts, .ref qt_worth, .ref qt_ways, .ref qt_image, .ref qt_isKept])), (qt_now, .inl (cI, 43, .inl w_now)), (qt_leaks, .inl (cI, 8, .inl v_leaks))]) args s 0 0 A := ⟨_, rfl⟩
  show W p l e rm_X10_endHour s m args below meth c s.heap [] 0 0 _ _
  rw [← hQQ]
  have hL29 : ∀ (n29 : Nat), ∀ (v_now : (Nat → Int32)) (x1 : Int32) (H : Heap) (locs : List Loc) (ls : Array Slot), va_P D vwCl [(qt, .inr (9, [.ref qt_book, .ref qt_now, .ref qt_flakes, .ref qt_leaks, .int v_music, .ref qt_ranks, .int v_sights, .ref qt_sight, .int v_signs, .ref qt_pad, .int v_freeAt, .int v_freeWho, .int v_reason, .int v_acts, .ref qt_gets, .ref qt_counts, .ref qt_worth, .ref qt_ways, .ref qt_image, .ref qt_isKept])), (qt_now, .inl (cI, 43, .inl v_now)), (qt_leaks, .inl (cI, 8, .inl v_leaks))] H → va_D A [(qt, .inr (9, [.ref qt_book, .ref qt_now, .ref qt_flakes, .ref qt_leaks, .int v_music, .ref qt_ranks, .int v_sights, .ref qt_sight, .int v_signs, .ref qt_pad, .int v_freeAt, .int v_freeWho, .int v_reason, .int v_acts, .ref qt_gets, .ref qt_counts, .ref qt_worth, .ref qt_ways, .ref qt_image, .ref qt_isKept])), (qt_now, .inl (cI, 43, .inl v_now)), (qt_leaks, .inl (cI, 8, .inl v_leaks))] → va_S A s.heap H locs → lv_has ls 3 [(0, .ref qt), (1, .int x1)] → L_X10_endHour_29 v_leaks v_music n29 v_now x1 = some (r, w_now) → W p l e rm_X10_endHour s m args below meth c H locs 0 0 QQ (F0 m 29 ls []) := by
    intro n29
    induction n29 with
    | zero =>
      intro v_now x1 H locs ls hP hD hS hl h
      have h : none = some (r, w_now) := h
      cases h
    | succ n29 ih29 =>
      have hB216 : ∀ (v_now : (Nat → Int32)) (x1 : Int32) (s0 : Int32) (s1 : Int32) (s2 : Int32) (H : Heap) (locs : List Loc) (ls : Array Slot), va_P D vwCl [(qt, .inr (9, [.ref qt_book, .ref qt_now, .ref qt_flakes, .ref qt_leaks, .int v_music, .ref qt_ranks, .int v_sights, .ref qt_sight, .int v_signs, .ref qt_pad, .int v_freeAt, .int v_freeWho, .int v_reason, .int v_acts, .ref qt_gets, .ref qt_counts, .ref qt_worth, .ref qt_ways, .ref qt_image, .ref qt_isKept])), (qt_now, .inl (cI, 43, .inl v_now)), (qt_leaks, .inl (cI, 8, .inl v_leaks))] H → va_D A [(qt, .inr (9, [.ref qt_book, .ref qt_now, .ref qt_flakes, .ref qt_leaks, .int v_music, .ref qt_ranks, .int v_sights, .ref qt_sight, .int v_signs, .ref qt_pad, .int v_freeAt, .int v_freeWho, .int v_reason, .int v_acts, .ref qt_gets, .ref qt_counts, .ref qt_worth, .ref qt_ways, .ref qt_image, .ref qt_isKept])), (qt_now, .inl (cI, 43, .inl v_now)), (qt_leaks, .inl (cI, 8, .inl v_leaks))] → va_S A s.heap H locs → lv_has ls 3 [(0, .ref qt), (1, .int x1)] → B_X10_endHour_216 v_leaks v_music (L_X10_endHour_29 v_leaks v_music n29) v_now x1 s0 s1 s2 = some (r, w_now) → W p l e rm_X10_endHour s m args below meth c H locs 0 0 QQ (F0 m 216 ls [.int s0, .int s1, .int s2, .ref qt_now]) := by
        intro v_now x1 s0 s1 s2 H locs ls hP hD hS hl h
        unfold B_X10_endHour_216 at h
        refine lv_isub hx hb dX10_endHour_216 ?_
        obtain ⟨hg, h⟩ := gin_some h
        refine va_iast hx hb hE.1 hP hD hS 1 0 rfl rfl hg dX10_endHour_217 (fun H locs (hP : va_P D vwCl [(qt, .inr (9, [.ref qt_book, .ref qt_now, .ref qt_flakes, .ref qt_leaks, .int v_music, .ref qt_ranks, .int v_sights, .ref qt_sight, .int v_signs, .ref qt_pad, .int v_freeAt, .int v_freeWho, .int v_reason, .int v_acts, .ref qt_gets, .ref qt_counts, .ref qt_worth, .ref qt_ways, .ref qt_image, .ref qt_isKept])), (qt_now, .inl (cI, 43, .inl (upd v_now (Int32.toNatClampNeg s2) (s1 - s0)))), (qt_leaks, .inl (cI, 8, .inl v_leaks))] H) (hD : va_D A [(qt, .inr (9, [.ref qt_book, .ref qt_now, .ref qt_flakes, .ref qt_leaks, .int v_music, .ref qt_ranks, .int v_sights, .ref qt_sight, .int v_signs, .ref qt_pad, .int v_freeAt, .int v_freeWho, .int v_reason, .int v_acts, .ref qt_gets, .ref qt_counts, .ref qt_worth, .ref qt_ways, .ref qt_image, .ref qt_isKept])), (qt_now, .inl (cI, 43, .inl (upd v_now (Int32.toNatClampNeg s2) (s1 - s0)))), (qt_leaks, .inl (cI, 8, .inl v_leaks))]) hS => ?_)
        refine lv_iinc (v := (x1 + (1 : Int32))) (lv' := [(1, .int (x1 + (1 : Int32))), (0, .ref qt)]) hx hb dX10_endHour_218 hl (k := 1) rfl rfl (by decide) rfl (fun ls hl => ?_)
        refine lv_goto (tgt := 29) hx hb dX10_endHour_221 (by decide) ?_
        exact ih29 (upd v_now (Int32.toNatClampNeg s2) (s1 - s0)) (x1 + (1 : Int32)) H locs ls hP hD hS (lv_sub hl [1, 0] rfl) h
      have hB179 : ∀ (v_now : (Nat → Int32)) (x1 : Int32) (H : Heap) (locs : List Loc) (ls : Array Slot), va_P D vwCl [(qt, .inr (9, [.ref qt_book, .ref qt_now, .ref qt_flakes, .ref qt_leaks, .int v_music, .ref qt_ranks, .int v_sights, .ref qt_sight, .int v_signs, .ref qt_pad, .int v_freeAt, .int v_freeWho, .int v_reason, .int v_acts, .ref qt_gets, .ref qt_counts, .ref qt_worth, .ref qt_ways, .ref qt_image, .ref qt_isKept])), (qt_now, .inl (cI, 43, .inl v_now)), (qt_leaks, .inl (cI, 8, .inl v_leaks))] H → va_D A [(qt, .inr (9, [.ref qt_book, .ref qt_now, .ref qt_flakes, .ref qt_leaks, .int v_music, .ref qt_ranks, .int v_sights, .ref qt_sight, .int v_signs, .ref qt_pad, .int v_freeAt, .int v_freeWho, .int v_reason, .int v_acts, .ref qt_gets, .ref qt_counts, .ref qt_worth, .ref qt_ways, .ref qt_image, .ref qt_isKept])), (qt_now, .inl (cI, 43, .inl v_now)), (qt_leaks, .inl (cI, 8, .inl v_leaks))] → va_S A s.heap H locs → lv_has ls 3 [(0, .ref qt), (1, .int x1)] → B_X10_endHour_179 v_leaks v_music (L_X10_endHour_29 v_leaks v_music n29) v_now x1 = some (r, w_now) → W p l e rm_X10_endHour s m args below meth c H locs 0 0 QQ (F0 m 179 ls []) := by
        intro v_now x1 H locs ls hP hD hS hl h
        unfold B_X10_endHour_179 at h
        refine lv_aload_n hx hb dX10_endHour_179 rfl (lv_at hl 0 rfl) ?_
        refine va_get (D := D) (ci := 9) (C := RX10) (T := TX10) (N := 20) hx hb hts (fun _ hw => (List.mem_cons_of_mem _ (List.mem_append_right _ hw))) hown hE.1 hP 0 rfl rfl 1 (by decide) (hts (.fieldLink RX10 13 "GlobeCrownModel" "now" "[I") (List.mem_cons_of_mem _ (List.mem_append_left _ (List.mem_of_getElem? (i := 0) rfl)))) (fun _ h9 => h9) rfl dX10_endHour_180 ?_
        refine lv_iload_n hx hb dX10_endHour_183 rfl (lv_at hl 1 rfl) ?_
        refine lv_dup2_11 hx hb dX10_endHour_184 rfl rfl ?_
        obtain ⟨hg, h⟩ := gin_some h
        refine va_iald hx hb hE.1 hP 1 0 rfl rfl hg dX10_endHour_185 ?_
        refine lv_aload_n hx hb dX10_endHour_186 rfl (lv_at hl 0 rfl) ?_
        refine va_get (D := D) (ci := 9) (C := RX10) (T := TX10) (N := 20) hx hb hts (fun _ hw => (List.mem_cons_of_mem _ (List.mem_append_right _ hw))) hown hE.1 hP 0 rfl rfl 1 (by decide) (hts (.fieldLink RX10 13 "GlobeCrownModel" "now" "[I") (List.mem_cons_of_mem _ (List.mem_append_left _ (List.mem_of_getElem? (i := 0) rfl)))) (fun _ h9 => h9) rfl dX10_endHour_187 ?_
        refine lv_iload_n hx hb dX10_endHour_190 rfl (lv_at hl 1 rfl) ?_
        obtain ⟨hg, h⟩ := gin_some h
        refine va_iald hx hb hE.1 hP 1 0 rfl rfl hg dX10_endHour_191 ?_
        refine lv_aload_n hx hb dX10_endHour_192 rfl (lv_at hl 0 rfl) ?_
        refine va_get (D := D) (ci := 9) (C := RX10) (T := TX10) (N := 20) hx hb hts (fun _ hw => (List.mem_cons_of_mem _ (List.mem_append_right _ hw))) hown hE.1 hP 0 rfl rfl 3 (by decide) (hts (.fieldLink RX10 19 "GlobeCrownModel" "leaks" "[I") (List.mem_cons_of_mem _ (List.mem_append_left _ (List.mem_of_getElem? (i := 2) rfl)))) (fun _ h9 => h9) rfl dX10_endHour_193 ?_
        refine lv_iload_n hx hb dX10_endHour_196 rfl (lv_at hl 1 rfl) ?_
        obtain ⟨hg, h⟩ := gin_some h
        refine va_iald hx hb hE.1 hP 2 0 rfl rfl hg dX10_endHour_197 ?_
        refine lv_icmp_le (tgt := 210) hx hb dX10_endHour_198 (by decide) (fun hc => ?_) (fun hc => ?_)
        · have h := if_t hc h
          refine lv_aload_n hx hb dX10_endHour_210 rfl (lv_at hl 0 rfl) ?_
          refine va_get (D := D) (ci := 9) (C := RX10) (T := TX10) (N := 20) hx hb hts (fun _ hw => (List.mem_cons_of_mem _ (List.mem_append_right _ hw))) hown hE.1 hP 0 rfl rfl 1 (by decide) (hts (.fieldLink RX10 13 "GlobeCrownModel" "now" "[I") (List.mem_cons_of_mem _ (List.mem_append_left _ (List.mem_of_getElem? (i := 0) rfl)))) (fun _ h9 => h9) rfl dX10_endHour_211 ?_
          refine lv_iload_n hx hb dX10_endHour_214 rfl (lv_at hl 1 rfl) ?_
          obtain ⟨hg, h⟩ := gin_some h
          refine va_iald hx hb hE.1 hP 1 0 rfl rfl hg dX10_endHour_215 ?_
          exact hB216 v_now x1 (v_now (Int32.toNatClampNeg x1)) (v_now (Int32.toNatClampNeg x1)) x1 H locs ls hP hD hS hl h
        · have h := if_f hc h
          refine lv_aload_n hx hb dX10_endHour_201 rfl (lv_at hl 0 rfl) ?_
          refine va_get (D := D) (ci := 9) (C := RX10) (T := TX10) (N := 20) hx hb hts (fun _ hw => (List.mem_cons_of_mem _ (List.mem_append_right _ hw))) hown hE.1 hP 0 rfl rfl 3 (by decide) (hts (.fieldLink RX10 19 "GlobeCrownModel" "leaks" "[I") (List.mem_cons_of_mem _ (List.mem_append_left _ (List.mem_of_getElem? (i := 2) rfl)))) (fun _ h9 => h9) rfl dX10_endHour_202 ?_
          refine lv_iload_n hx hb dX10_endHour_205 rfl (lv_at hl 1 rfl) ?_
          obtain ⟨hg, h⟩ := gin_some h
          refine va_iald hx hb hE.1 hP 2 0 rfl rfl hg dX10_endHour_206 ?_
          refine lv_goto (tgt := 216) hx hb dX10_endHour_207 (by decide) ?_
          exact hB216 v_now x1 (v_leaks (Int32.toNatClampNeg x1)) (v_now (Int32.toNatClampNeg x1)) x1 H locs ls hP hD hS hl h
      have hB134 : ∀ (v_now : (Nat → Int32)) (x1 : Int32) (s0 : Int32) (s1 : Int32) (s2 : Int32) (H : Heap) (locs : List Loc) (ls : Array Slot), va_P D vwCl [(qt, .inr (9, [.ref qt_book, .ref qt_now, .ref qt_flakes, .ref qt_leaks, .int v_music, .ref qt_ranks, .int v_sights, .ref qt_sight, .int v_signs, .ref qt_pad, .int v_freeAt, .int v_freeWho, .int v_reason, .int v_acts, .ref qt_gets, .ref qt_counts, .ref qt_worth, .ref qt_ways, .ref qt_image, .ref qt_isKept])), (qt_now, .inl (cI, 43, .inl v_now)), (qt_leaks, .inl (cI, 8, .inl v_leaks))] H → va_D A [(qt, .inr (9, [.ref qt_book, .ref qt_now, .ref qt_flakes, .ref qt_leaks, .int v_music, .ref qt_ranks, .int v_sights, .ref qt_sight, .int v_signs, .ref qt_pad, .int v_freeAt, .int v_freeWho, .int v_reason, .int v_acts, .ref qt_gets, .ref qt_counts, .ref qt_worth, .ref qt_ways, .ref qt_image, .ref qt_isKept])), (qt_now, .inl (cI, 43, .inl v_now)), (qt_leaks, .inl (cI, 8, .inl v_leaks))] → va_S A s.heap H locs → lv_has ls 3 [(0, .ref qt), (1, .int x1)] → B_X10_endHour_134 v_leaks v_music (L_X10_endHour_29 v_leaks v_music n29) v_now x1 s0 s1 s2 = some (r, w_now) → W p l e rm_X10_endHour s m args below meth c H locs 0 0 QQ (F0 m 134 ls [.int s0, .int s1, .int s2, .ref qt_now]) := by
        intro v_now x1 s0 s1 s2 H locs ls hP hD hS hl h
        unfold B_X10_endHour_134 at h
        refine lv_iadd hx hb dX10_endHour_134 ?_
        obtain ⟨hg, h⟩ := gin_some h
        refine va_iast hx hb hE.1 hP hD hS 1 0 rfl rfl hg dX10_endHour_135 (fun H locs (hP : va_P D vwCl [(qt, .inr (9, [.ref qt_book, .ref qt_now, .ref qt_flakes, .ref qt_leaks, .int v_music, .ref qt_ranks, .int v_sights, .ref qt_sight, .int v_signs, .ref qt_pad, .int v_freeAt, .int v_freeWho, .int v_reason, .int v_acts, .ref qt_gets, .ref qt_counts, .ref qt_worth, .ref qt_ways, .ref qt_image, .ref qt_isKept])), (qt_now, .inl (cI, 43, .inl (upd v_now (Int32.toNatClampNeg s2) (s1 + s0)))), (qt_leaks, .inl (cI, 8, .inl v_leaks))] H) (hD : va_D A [(qt, .inr (9, [.ref qt_book, .ref qt_now, .ref qt_flakes, .ref qt_leaks, .int v_music, .ref qt_ranks, .int v_sights, .ref qt_sight, .int v_signs, .ref qt_pad, .int v_freeAt, .int v_freeWho, .int v_reason, .int v_acts, .ref qt_gets, .ref qt_counts, .ref qt_worth, .ref qt_ways, .ref qt_image, .ref qt_isKept])), (qt_now, .inl (cI, 43, .inl (upd v_now (Int32.toNatClampNeg s2) (s1 + s0)))), (qt_leaks, .inl (cI, 8, .inl v_leaks))]) hS => ?_)
        refine lv_goto (tgt := 179) hx hb dX10_endHour_136 (by decide) ?_
        exact hB179 (upd v_now (Int32.toNatClampNeg s2) (s1 + s0)) x1 H locs ls hP hD hS hl h
      have hB177 : ∀ (v_now : (Nat → Int32)) (x1 : Int32) (s0 : Int32) (s1 : Int32) (s2 : Int32) (H : Heap) (locs : List Loc) (ls : Array Slot), va_P D vwCl [(qt, .inr (9, [.ref qt_book, .ref qt_now, .ref qt_flakes, .ref qt_leaks, .int v_music, .ref qt_ranks, .int v_sights, .ref qt_sight, .int v_signs, .ref qt_pad, .int v_freeAt, .int v_freeWho, .int v_reason, .int v_acts, .ref qt_gets, .ref qt_counts, .ref qt_worth, .ref qt_ways, .ref qt_image, .ref qt_isKept])), (qt_now, .inl (cI, 43, .inl v_now)), (qt_leaks, .inl (cI, 8, .inl v_leaks))] H → va_D A [(qt, .inr (9, [.ref qt_book, .ref qt_now, .ref qt_flakes, .ref qt_leaks, .int v_music, .ref qt_ranks, .int v_sights, .ref qt_sight, .int v_signs, .ref qt_pad, .int v_freeAt, .int v_freeWho, .int v_reason, .int v_acts, .ref qt_gets, .ref qt_counts, .ref qt_worth, .ref qt_ways, .ref qt_image, .ref qt_isKept])), (qt_now, .inl (cI, 43, .inl v_now)), (qt_leaks, .inl (cI, 8, .inl v_leaks))] → va_S A s.heap H locs → lv_has ls 3 [(0, .ref qt), (1, .int x1)] → B_X10_endHour_177 v_leaks v_music (L_X10_endHour_29 v_leaks v_music n29) v_now x1 s0 s1 s2 = some (r, w_now) → W p l e rm_X10_endHour s m args below meth c H locs 0 0 QQ (F0 m 177 ls [.int s0, .int s1, .int s2, .ref qt_now]) := by
        intro v_now x1 s0 s1 s2 H locs ls hP hD hS hl h
        unfold B_X10_endHour_177 at h
        refine lv_isub hx hb dX10_endHour_177 ?_
        obtain ⟨hg, h⟩ := gin_some h
        refine va_iast hx hb hE.1 hP hD hS 1 0 rfl rfl hg dX10_endHour_178 (fun H locs (hP : va_P D vwCl [(qt, .inr (9, [.ref qt_book, .ref qt_now, .ref qt_flakes, .ref qt_leaks, .int v_music, .ref qt_ranks, .int v_sights, .ref qt_sight, .int v_signs, .ref qt_pad, .int v_freeAt, .int v_freeWho, .int v_reason, .int v_acts, .ref qt_gets, .ref qt_counts, .ref qt_worth, .ref qt_ways, .ref qt_image, .ref qt_isKept])), (qt_now, .inl (cI, 43, .inl (upd v_now (Int32.toNatClampNeg s2) (s1 - s0)))), (qt_leaks, .inl (cI, 8, .inl v_leaks))] H) (hD : va_D A [(qt, .inr (9, [.ref qt_book, .ref qt_now, .ref qt_flakes, .ref qt_leaks, .int v_music, .ref qt_ranks, .int v_sights, .ref qt_sight, .int v_signs, .ref qt_pad, .int v_freeAt, .int v_freeWho, .int v_reason, .int v_acts, .ref qt_gets, .ref qt_counts, .ref qt_worth, .ref qt_ways, .ref qt_image, .ref qt_isKept])), (qt_now, .inl (cI, 43, .inl (upd v_now (Int32.toNatClampNeg s2) (s1 - s0)))), (qt_leaks, .inl (cI, 8, .inl v_leaks))]) hS => ?_)
        exact hB179 (upd v_now (Int32.toNatClampNeg s2) (s1 - s0)) x1 H locs ls hP hD hS hl h
      have hB99 : ∀ (v_now : (Nat → Int32)) (x1 : Int32) (x2 : Int32) (s0 : Int32) (s1 : Int32) (s2 : Int32) (H : Heap) (locs : List Loc) (ls : Array Slot), va_P D vwCl [(qt, .inr (9, [.ref qt_book, .ref qt_now, .ref qt_flakes, .ref qt_leaks, .int v_music, .ref qt_ranks, .int v_sights, .ref qt_sight, .int v_signs, .ref qt_pad, .int v_freeAt, .int v_freeWho, .int v_reason, .int v_acts, .ref qt_gets, .ref qt_counts, .ref qt_worth, .ref qt_ways, .ref qt_image, .ref qt_isKept])), (qt_now, .inl (cI, 43, .inl v_now)), (qt_leaks, .inl (cI, 8, .inl v_leaks))] H → va_D A [(qt, .inr (9, [.ref qt_book, .ref qt_now, .ref qt_flakes, .ref qt_leaks, .int v_music, .ref qt_ranks, .int v_sights, .ref qt_sight, .int v_signs, .ref qt_pad, .int v_freeAt, .int v_freeWho, .int v_reason, .int v_acts, .ref qt_gets, .ref qt_counts, .ref qt_worth, .ref qt_ways, .ref qt_image, .ref qt_isKept])), (qt_now, .inl (cI, 43, .inl v_now)), (qt_leaks, .inl (cI, 8, .inl v_leaks))] → va_S A s.heap H locs → lv_has ls 3 [(0, .ref qt), (1, .int x1), (2, .int x2)] → B_X10_endHour_99 v_leaks v_music (L_X10_endHour_29 v_leaks v_music n29) v_now x1 x2 s0 s1 s2 = some (r, w_now) → W p l e rm_X10_endHour s m args below meth c H locs 0 0 QQ (F0 m 99 ls [.int s0, .int s1, .int s2, .ref qt_now]) := by
        intro v_now x1 x2 s0 s1 s2 H locs ls hP hD hS hl h
        unfold B_X10_endHour_99 at h
        refine lv_isub hx hb dX10_endHour_99 ?_
        obtain ⟨hg, h⟩ := gin_some h
        refine va_iast hx hb hE.1 hP hD hS 1 0 rfl rfl hg dX10_endHour_100 (fun H locs (hP : va_P D vwCl [(qt, .inr (9, [.ref qt_book, .ref qt_now, .ref qt_flakes, .ref qt_leaks, .int v_music, .ref qt_ranks, .int v_sights, .ref qt_sight, .int v_signs, .ref qt_pad, .int v_freeAt, .int v_freeWho, .int v_reason, .int v_acts, .ref qt_gets, .ref qt_counts, .ref qt_worth, .ref qt_ways, .ref qt_image, .ref qt_isKept])), (qt_now, .inl (cI, 43, .inl (upd v_now (Int32.toNatClampNeg s2) (s1 - s0)))), (qt_leaks, .inl (cI, 8, .inl v_leaks))] H) (hD : va_D A [(qt, .inr (9, [.ref qt_book, .ref qt_now, .ref qt_flakes, .ref qt_leaks, .int v_music, .ref qt_ranks, .int v_sights, .ref qt_sight, .int v_signs, .ref qt_pad, .int v_freeAt, .int v_freeWho, .int v_reason, .int v_acts, .ref qt_gets, .ref qt_counts, .ref qt_worth, .ref qt_ways, .ref qt_image, .ref qt_isKept])), (qt_now, .inl (cI, 43, .inl (upd v_now (Int32.toNatClampNeg s2) (s1 - s0)))), (qt_leaks, .inl (cI, 8, .inl v_leaks))]) hS => ?_)
        refine lv_iload_n hx hb dX10_endHour_101 rfl (lv_at hl 2 rfl) ?_
        refine lv_if_eq (tgt := 139) hx hb dX10_endHour_102 (by decide) (fun hc => ?_) (fun hc => ?_)
        · have h := if_t hc h
          refine lv_aload_n hx hb dX10_endHour_139 rfl (lv_at hl 0 rfl) ?_
          refine va_get (D := D) (ci := 9) (C := RX10) (T := TX10) (N := 20) hx hb hts (fun _ hw => (List.mem_cons_of_mem _ (List.mem_append_right _ hw))) hown hE.1 hP 0 rfl rfl 4 (by decide) (hts (.fieldLink RX10 63 "GlobeCrownModel" "music" "I") (List.mem_cons_of_mem _ (List.mem_append_left _ (List.mem_of_getElem? (i := 1) rfl)))) (fun _ h9 => h9) rfl dX10_endHour_140 ?_
          refine lv_iload_n hx hb dX10_endHour_143 rfl (lv_at hl 1 rfl) ?_
          obtain ⟨r144, hc144, h⟩ := bd1_some h
          refine gw_ci (wr := [(qt, .inr (9, [.ref qt_book, .ref qt_now, .ref qt_flakes, .ref qt_leaks, .int v_music, .ref qt_ranks, .int v_sights, .ref qt_sight, .int v_signs, .ref qt_pad, .int v_freeAt, .int v_freeWho, .int v_reason, .int v_acts, .ref qt_gets, .ref qt_counts, .ref qt_worth, .ref qt_ways, .ref qt_image, .ref qt_isKept])), (qt_now, .inl (cI, 43, .inl (upd v_now (Int32.toNatClampNeg s2) (s1 - s0)))), (qt_leaks, .inl (cI, 8, .inl v_leaks))]) (w2 := [(qt, .inr (9, [.ref qt_book, .ref qt_now, .ref qt_flakes, .ref qt_leaks, .int v_music, .ref qt_ranks, .int v_sights, .ref qt_sight, .int v_signs, .ref qt_pad, .int v_freeAt, .int v_freeWho, .int v_reason, .int v_acts, .ref qt_gets, .ref qt_counts, .ref qt_worth, .ref qt_ways, .ref qt_image, .ref qt_isKept])), (qt_now, .inl (cI, 43, .inl (upd v_now (Int32.toNatClampNeg s2) (s1 - s0)))), (qt_leaks, .inl (cI, 8, .inl v_leaks))]) (gw_rS (n := 2) ⟨hx, hb, hml, hown, hts⟩ (C_X10_has l D cI cJ cZ H.size v_music x1 r144 hc144) gX10_endHour_X10_has rfl rfl rfl hdS_X10_has ⟨Nat.le_of_ble_eq_true rfl, Nat.le_of_ble_eq_true rfl⟩ hE (hP.sub [] rfl) (hD.sub [] (by decide) rfl) rfl hl.1 (rest := []) rfl (Nat.le_of_ble_eq_true rfl) dX10_endHour_144 ⟨Nat.zero_le _, Nat.zero_le _⟩) hP hD hS hA [] [0, 1, 2] rfl rfl rfl (by decide) rfl (fun H locs hP hD hS => ?_)
          refine lv_if_ne (tgt := 179) hx hb dX10_endHour_147 (by decide) (fun hc => ?_) (fun hc => ?_)
          · have h := if_f hc h
            exact hB179 (upd v_now (Int32.toNatClampNeg s2) (s1 - s0)) x1 H locs ls hP hD hS (lv_sub hl [0, 1] rfl) h
          · have h := if_t hc h
            refine lv_aload_n hx hb dX10_endHour_150 rfl (lv_at hl 0 rfl) ?_
            refine va_get (D := D) (ci := 9) (C := RX10) (T := TX10) (N := 20) hx hb hts (fun _ hw => (List.mem_cons_of_mem _ (List.mem_append_right _ hw))) hown hE.1 hP 0 rfl rfl 1 (by decide) (hts (.fieldLink RX10 13 "GlobeCrownModel" "now" "[I") (List.mem_cons_of_mem _ (List.mem_append_left _ (List.mem_of_getElem? (i := 0) rfl)))) (fun _ h9 => h9) rfl dX10_endHour_151 ?_
            refine lv_bipush (v := 24) hx hb dX10_endHour_154 (by decide) ?_
            refine lv_iload_n hx hb dX10_endHour_156 rfl (lv_at hl 1 rfl) ?_
            refine lv_iadd hx hb dX10_endHour_157 ?_
            refine lv_dup2_11 hx hb dX10_endHour_158 rfl rfl ?_
            obtain ⟨hg, h⟩ := gin_some h
            refine va_iald hx hb hE.1 hP 1 0 rfl rfl hg dX10_endHour_159 ?_
            refine lv_aload_n hx hb dX10_endHour_160 rfl (lv_at hl 0 rfl) ?_
            refine va_get (D := D) (ci := 9) (C := RX10) (T := TX10) (N := 20) hx hb hts (fun _ hw => (List.mem_cons_of_mem _ (List.mem_append_right _ hw))) hown hE.1 hP 0 rfl rfl 1 (by decide) (hts (.fieldLink RX10 13 "GlobeCrownModel" "now" "[I") (List.mem_cons_of_mem _ (List.mem_append_left _ (List.mem_of_getElem? (i := 0) rfl)))) (fun _ h9 => h9) rfl dX10_endHour_161 ?_
            refine lv_bipush (v := 24) hx hb dX10_endHour_164 (by decide) ?_
            refine lv_iload_n hx hb dX10_endHour_166 rfl (lv_at hl 1 rfl) ?_
            refine lv_iadd hx hb dX10_endHour_167 ?_
            obtain ⟨hg, h⟩ := gin_some h
            refine va_iald hx hb hE.1 hP 1 0 rfl rfl hg dX10_endHour_168 ?_
            refine lv_if_le (tgt := 176) hx hb dX10_endHour_169 (by decide) (fun hc => ?_) (fun hc => ?_)
            · have h := if_t hc h
              refine lv_iconst (v := 0) hx hb dX10_endHour_176 (by decide) ?_
              exact hB177 (upd v_now (Int32.toNatClampNeg s2) (s1 - s0)) x1 (0 : Int32) ((upd v_now (Int32.toNatClampNeg s2) (s1 - s0)) (Int32.toNatClampNeg ((24 : Int32) + x1))) ((24 : Int32) + x1) H locs ls hP hD hS (lv_sub hl [0, 1] rfl) h
            · have h := if_f hc h
              refine lv_iconst (v := 1) hx hb dX10_endHour_172 (by decide) ?_
              refine lv_goto (tgt := 177) hx hb dX10_endHour_173 (by decide) ?_
              exact hB177 (upd v_now (Int32.toNatClampNeg s2) (s1 - s0)) x1 (1 : Int32) ((upd v_now (Int32.toNatClampNeg s2) (s1 - s0)) (Int32.toNatClampNeg ((24 : Int32) + x1))) ((24 : Int32) + x1) H locs ls hP hD hS (lv_sub hl [0, 1] rfl) h
        · have h := if_f hc h
          refine lv_aload_n hx hb dX10_endHour_105 rfl (lv_at hl 0 rfl) ?_
          refine va_get (D := D) (ci := 9) (C := RX10) (T := TX10) (N := 20) hx hb hts (fun _ hw => (List.mem_cons_of_mem _ (List.mem_append_right _ hw))) hown hE.1 hP 0 rfl rfl 1 (by decide) (hts (.fieldLink RX10 13 "GlobeCrownModel" "now" "[I") (List.mem_cons_of_mem _ (List.mem_append_left _ (List.mem_of_getElem? (i := 0) rfl)))) (fun _ h9 => h9) rfl dX10_endHour_106 ?_
          refine lv_bipush (v := 24) hx hb dX10_endHour_109 (by decide) ?_
          refine lv_iload_n hx hb dX10_endHour_111 rfl (lv_at hl 1 rfl) ?_
          refine lv_iadd hx hb dX10_endHour_112 ?_
          refine lv_dup2_11 hx hb dX10_endHour_113 rfl rfl ?_
          obtain ⟨hg, h⟩ := gin_some h
          refine va_iald hx hb hE.1 hP 1 0 rfl rfl hg dX10_endHour_114 ?_
          refine lv_aload_n hx hb dX10_endHour_115 rfl (lv_at hl 0 rfl) ?_
          refine va_get (D := D) (ci := 9) (C := RX10) (T := TX10) (N := 20) hx hb hts (fun _ hw => (List.mem_cons_of_mem _ (List.mem_append_right _ hw))) hown hE.1 hP 0 rfl rfl 1 (by decide) (hts (.fieldLink RX10 13 "GlobeCrownModel" "now" "[I") (List.mem_cons_of_mem _ (List.mem_append_left _ (List.mem_of_getElem? (i := 0) rfl)))) (fun _ h9 => h9) rfl dX10_endHour_116 ?_
          refine lv_bipush (v := 24) hx hb dX10_endHour_119 (by decide) ?_
          refine lv_iload_n hx hb dX10_endHour_121 rfl (lv_at hl 1 rfl) ?_
          refine lv_iadd hx hb dX10_endHour_122 ?_
          obtain ⟨hg, h⟩ := gin_some h
          refine va_iald hx hb hE.1 hP 1 0 rfl rfl hg dX10_endHour_123 ?_
          refine lv_bipush (v := 9) hx hb dX10_endHour_124 (by decide) ?_
          refine lv_icmp_ge (tgt := 133) hx hb dX10_endHour_126 (by decide) (fun hc => ?_) (fun hc => ?_)
          · have h := if_t hc h
            refine lv_iconst (v := 0) hx hb dX10_endHour_133 (by decide) ?_
            exact hB134 (upd v_now (Int32.toNatClampNeg s2) (s1 - s0)) x1 (0 : Int32) ((upd v_now (Int32.toNatClampNeg s2) (s1 - s0)) (Int32.toNatClampNeg ((24 : Int32) + x1))) ((24 : Int32) + x1) H locs ls hP hD hS (lv_sub hl [0, 1] rfl) h
          · have h := if_f hc h
            refine lv_iconst (v := 1) hx hb dX10_endHour_129 (by decide) ?_
            refine lv_goto (tgt := 134) hx hb dX10_endHour_130 (by decide) ?_
            exact hB134 (upd v_now (Int32.toNatClampNeg s2) (s1 - s0)) x1 (1 : Int32) ((upd v_now (Int32.toNatClampNeg s2) (s1 - s0)) (Int32.toNatClampNeg ((24 : Int32) + x1))) ((24 : Int32) + x1) H locs ls hP hD hS (lv_sub hl [0, 1] rfl) h
      have hB60 : ∀ (v_now : (Nat → Int32)) (x1 : Int32) (s0 : Int32) (H : Heap) (locs : List Loc) (ls : Array Slot), va_P D vwCl [(qt, .inr (9, [.ref qt_book, .ref qt_now, .ref qt_flakes, .ref qt_leaks, .int v_music, .ref qt_ranks, .int v_sights, .ref qt_sight, .int v_signs, .ref qt_pad, .int v_freeAt, .int v_freeWho, .int v_reason, .int v_acts, .ref qt_gets, .ref qt_counts, .ref qt_worth, .ref qt_ways, .ref qt_image, .ref qt_isKept])), (qt_now, .inl (cI, 43, .inl v_now)), (qt_leaks, .inl (cI, 8, .inl v_leaks))] H → va_D A [(qt, .inr (9, [.ref qt_book, .ref qt_now, .ref qt_flakes, .ref qt_leaks, .int v_music, .ref qt_ranks, .int v_sights, .ref qt_sight, .int v_signs, .ref qt_pad, .int v_freeAt, .int v_freeWho, .int v_reason, .int v_acts, .ref qt_gets, .ref qt_counts, .ref qt_worth, .ref qt_ways, .ref qt_image, .ref qt_isKept])), (qt_now, .inl (cI, 43, .inl v_now)), (qt_leaks, .inl (cI, 8, .inl v_leaks))] → va_S A s.heap H locs → lv_has ls 3 [(0, .ref qt), (1, .int x1)] → B_X10_endHour_60 v_leaks v_music (L_X10_endHour_29 v_leaks v_music n29) v_now x1 s0 = some (r, w_now) → W p l e rm_X10_endHour s m args below meth c H locs 0 0 QQ (F0 m 60 ls [.int s0]) := by
        intro v_now x1 s0 H locs ls hP hD hS hl h
        unfold B_X10_endHour_60 at h
        refine lv_istore_n (lv' := [(2, .int s0), (0, .ref qt), (1, .int x1)]) hx hb dX10_endHour_60 rfl hl (by decide) rfl (fun ls hl => ?_)
        refine lv_aload_n hx hb dX10_endHour_61 rfl (lv_at hl 1 rfl) ?_
        refine va_get (D := D) (ci := 9) (C := RX10) (T := TX10) (N := 20) hx hb hts (fun _ hw => (List.mem_cons_of_mem _ (List.mem_append_right _ hw))) hown hE.1 hP 0 rfl rfl 1 (by decide) (hts (.fieldLink RX10 13 "GlobeCrownModel" "now" "[I") (List.mem_cons_of_mem _ (List.mem_append_left _ (List.mem_of_getElem? (i := 0) rfl)))) (fun _ h9 => h9) rfl dX10_endHour_62 ?_
        refine lv_bipush (v := 8) hx hb dX10_endHour_65 (by decide) ?_
        refine lv_iload_n hx hb dX10_endHour_67 rfl (lv_at hl 2 rfl) ?_
        refine lv_iadd hx hb dX10_endHour_68 ?_
        refine lv_dup2_11 hx hb dX10_endHour_69 rfl rfl ?_
        obtain ⟨hg, h⟩ := gin_some h
        refine va_iald hx hb hE.1 hP 1 0 rfl rfl hg dX10_endHour_70 ?_
        refine lv_aload_n hx hb dX10_endHour_71 rfl (lv_at hl 1 rfl) ?_
        refine va_get (D := D) (ci := 9) (C := RX10) (T := TX10) (N := 20) hx hb hts (fun _ hw => (List.mem_cons_of_mem _ (List.mem_append_right _ hw))) hown hE.1 hP 0 rfl rfl 1 (by decide) (hts (.fieldLink RX10 13 "GlobeCrownModel" "now" "[I") (List.mem_cons_of_mem _ (List.mem_append_left _ (List.mem_of_getElem? (i := 0) rfl)))) (fun _ h9 => h9) rfl dX10_endHour_72 ?_
        refine lv_bipush (v := 8) hx hb dX10_endHour_75 (by decide) ?_
        refine lv_iload_n hx hb dX10_endHour_77 rfl (lv_at hl 2 rfl) ?_
        refine lv_iadd hx hb dX10_endHour_78 ?_
        obtain ⟨hg, h⟩ := gin_some h
        refine va_iald hx hb hE.1 hP 1 0 rfl rfl hg dX10_endHour_79 ?_
        refine lv_bipush (v := 7) hx hb dX10_endHour_80 (by decide) ?_
        refine lv_icmp_le (tgt := 90) hx hb dX10_endHour_82 (by decide) (fun hc => ?_) (fun hc => ?_)
        · have h := if_t hc h
          refine lv_aload_n hx hb dX10_endHour_90 rfl (lv_at hl 1 rfl) ?_
          refine va_get (D := D) (ci := 9) (C := RX10) (T := TX10) (N := 20) hx hb hts (fun _ hw => (List.mem_cons_of_mem _ (List.mem_append_right _ hw))) hown hE.1 hP 0 rfl rfl 1 (by decide) (hts (.fieldLink RX10 13 "GlobeCrownModel" "now" "[I") (List.mem_cons_of_mem _ (List.mem_append_left _ (List.mem_of_getElem? (i := 0) rfl)))) (fun _ h9 => h9) rfl dX10_endHour_91 ?_
          refine lv_bipush (v := 8) hx hb dX10_endHour_94 (by decide) ?_
          refine lv_iload_n hx hb dX10_endHour_96 rfl (lv_at hl 2 rfl) ?_
          refine lv_iadd hx hb dX10_endHour_97 ?_
          obtain ⟨hg, h⟩ := gin_some h
          refine va_iald hx hb hE.1 hP 1 0 rfl rfl hg dX10_endHour_98 ?_
          exact hB99 v_now x1 s0 (v_now (Int32.toNatClampNeg ((8 : Int32) + x1))) (v_now (Int32.toNatClampNeg ((8 : Int32) + x1))) ((8 : Int32) + x1) H locs ls hP hD hS (lv_sub hl [1, 2, 0] rfl) h
        · have h := if_f hc h
          refine lv_bipush (v := 7) hx hb dX10_endHour_85 (by decide) ?_
          refine lv_goto (tgt := 99) hx hb dX10_endHour_87 (by decide) ?_
          exact hB99 v_now x1 s0 (7 : Int32) (v_now (Int32.toNatClampNeg ((8 : Int32) + x1))) ((8 : Int32) + x1) H locs ls hP hD hS (lv_sub hl [1, 2, 0] rfl) h
      intro v_now x1 H locs ls hP hD hS hl h
      rw [L_X10_endHour_29.eq_2] at h
      refine lv_iload_n hx hb dX10_endHour_29 rfl (lv_at hl 1 rfl) ?_
      refine lv_bipush (v := 8) hx hb dX10_endHour_30 (by decide) ?_
      refine lv_icmp_ge (tgt := 224) hx hb dX10_endHour_32 (by decide) (fun hc => ?_) (fun hc => ?_)
      · have h := if_t hc h
        refine lv_iconst (v := 0) hx hb dX10_endHour_224 (by decide) ?_
        cases h
        rw [hQQ]
        exact gw_iret hx hb hr hlocks hP hD hS dX10_endHour_225
      · have h := if_f hc h
        refine lv_aload_n hx hb dX10_endHour_35 rfl (lv_at hl 0 rfl) ?_
        refine lv_iload_n hx hb dX10_endHour_36 rfl (lv_at hl 1 rfl) ?_
        obtain ⟨r37, hc37, h⟩ := bd1_some h
        refine gw_ci (wr := [(qt_leaks, .inl (cI, 8, .inl v_leaks))]) (w2 := [(qt_leaks, .inl (cI, 8, .inl v_leaks)), (qt, .inr (9, [.ref qt_book, .ref qt_now, .ref qt_flakes, .ref qt_leaks, .int v_music, .ref qt_ranks, .int v_sights, .ref qt_sight, .int v_signs, .ref qt_pad, .int v_freeAt, .int v_freeWho, .int v_reason, .int v_acts, .ref qt_gets, .ref qt_counts, .ref qt_worth, .ref qt_ways, .ref qt_image, .ref qt_isKept])), (qt_now, .inl (cI, 43, .inl v_now))]) (gw_rV (n := 1) ⟨hx, hb, hml, hown, hts⟩ (C_X10_stands l D cI cJ cZ H.size qt qt_book qt_now qt_flakes qt_leaks qt_ranks qt_sight qt_pad qt_gets qt_counts qt_worth qt_ways qt_image qt_isKept v_now v_music v_sights v_signs v_freeAt v_freeWho v_reason v_acts x1 r37 hc37) gX10_endHour_X10_stands rfl rfl rfl hdV_X10_stands ⟨Nat.le_of_ble_eq_true rfl, Nat.le_of_ble_eq_true rfl⟩ hE (hP.sub [0, 1] rfl) (hD.sub [0, 1] (by decide) rfl) 9 rfl 0 rfl rfl hl.1 (rest := []) rfl (Nat.le_of_ble_eq_true rfl) dX10_endHour_37 ⟨Nat.zero_le _, Nat.zero_le _⟩) hP hD hS hA [0, 1] [2] rfl rfl rfl (by decide) rfl (fun H locs hP hD hS => ?_)
        refine lv_if_eq (tgt := 218) hx hb dX10_endHour_40 (by decide) (fun hc => ?_) (fun hc => ?_)
        · have h := if_t hc h
          refine lv_iinc (v := (x1 + (1 : Int32))) (lv' := [(1, .int (x1 + (1 : Int32))), (0, .ref qt)]) hx hb dX10_endHour_218 hl (k := 1) rfl rfl (by decide) rfl (fun ls hl => ?_)
          refine lv_goto (tgt := 29) hx hb dX10_endHour_221 (by decide) ?_
          exact ih29 v_now (x1 + (1 : Int32)) H locs ls (hP.sub [1, 2, 0] rfl) (hD.sub [1, 2, 0] (by decide) rfl) hS (lv_sub hl [1, 0] rfl) h
        · have h := if_f hc h
          refine lv_aload_n hx hb dX10_endHour_43 rfl (lv_at hl 0 rfl) ?_
          refine va_get (D := D) (ci := 9) (C := RX10) (T := TX10) (N := 20) hx hb hts (fun _ hw => (List.mem_cons_of_mem _ (List.mem_append_right _ hw))) hown hE.1 hP 1 rfl rfl 1 (by decide) (hts (.fieldLink RX10 13 "GlobeCrownModel" "now" "[I") (List.mem_cons_of_mem _ (List.mem_append_left _ (List.mem_of_getElem? (i := 0) rfl)))) (fun _ h9 => h9) rfl dX10_endHour_44 ?_
          refine lv_bipush (v := 8) hx hb dX10_endHour_47 (by decide) ?_
          refine lv_iload_n hx hb dX10_endHour_49 rfl (lv_at hl 1 rfl) ?_
          refine lv_iadd hx hb dX10_endHour_50 ?_
          obtain ⟨hg, h⟩ := gin_some h
          refine va_iald hx hb hE.1 hP 2 0 rfl rfl hg dX10_endHour_51 ?_
          refine lv_if_le (tgt := 59) hx hb dX10_endHour_52 (by decide) (fun hc => ?_) (fun hc => ?_)
          · have h := if_t hc h
            refine lv_iconst (v := 0) hx hb dX10_endHour_59 (by decide) ?_
            exact hB60 v_now x1 (0 : Int32) H locs ls (hP.sub [1, 2, 0] rfl) (hD.sub [1, 2, 0] (by decide) rfl) hS hl h
          · have h := if_f hc h
            refine lv_iconst (v := 1) hx hb dX10_endHour_55 (by decide) ?_
            refine lv_goto (tgt := 60) hx hb dX10_endHour_56 (by decide) ?_
            exact hB60 v_now x1 (1 : Int32) H locs ls (hP.sub [1, 2, 0] rfl) (hD.sub [1, 2, 0] (by decide) rfl) hS hl h
  have h := hf
  unfold f_X10_endHour at h
  refine gw_start hP hD hS (fun H locs hP hD hS => ?_)
  refine lv_aload_n hx hb dX10_endHour_0 rfl (lv_at hl 0 rfl) ?_
  refine va_get (D := D) (ci := 9) (C := RX10) (T := TX10) (N := 20) hx hb hts (fun _ hw => (List.mem_cons_of_mem _ (List.mem_append_right _ hw))) hown hE.1 hP 0 rfl rfl 1 (by decide) (hts (.fieldLink RX10 13 "GlobeCrownModel" "now" "[I") (List.mem_cons_of_mem _ (List.mem_append_left _ (List.mem_of_getElem? (i := 0) rfl)))) (fun _ h9 => h9) rfl dX10_endHour_1 ?_
  refine lv_bipush (v := 42) hx hb dX10_endHour_4 (by decide) ?_
  refine va_iald hx hb hE.1 hP 1 0 rfl rfl (jinb_in (by decide)) dX10_endHour_6 ?_
  refine lv_sipush (v := 999) hx hb dX10_endHour_7 (by decide) ?_
  refine lv_icmp_ne (tgt := 16) hx hb dX10_endHour_10 (by decide) (fun hc => ?_) (fun hc => ?_)
  · have h := if_f hc h
    refine lv_aload_n hx hb dX10_endHour_16 rfl (lv_at hl 0 rfl) ?_
    refine va_get (D := D) (ci := 9) (C := RX10) (T := TX10) (N := 20) hx hb hts (fun _ hw => (List.mem_cons_of_mem _ (List.mem_append_right _ hw))) hown hE.1 hP 0 rfl rfl 1 (by decide) (hts (.fieldLink RX10 13 "GlobeCrownModel" "now" "[I") (List.mem_cons_of_mem _ (List.mem_append_left _ (List.mem_of_getElem? (i := 0) rfl)))) (fun _ h9 => h9) rfl dX10_endHour_17 ?_
    refine lv_bipush (v := 42) hx hb dX10_endHour_20 (by decide) ?_
    refine lv_dup2_11 hx hb dX10_endHour_22 rfl rfl ?_
    refine va_iald hx hb hE.1 hP 1 0 rfl rfl (jinb_in (by decide)) dX10_endHour_23 ?_
    refine lv_iconst (v := 1) hx hb dX10_endHour_24 (by decide) ?_
    refine lv_iadd hx hb dX10_endHour_25 ?_
    refine va_iast hx hb hE.1 hP hD hS 1 0 rfl rfl (jinb_in (by decide)) dX10_endHour_26 (fun H locs (hP : va_P D vwCl [(qt, .inr (9, [.ref qt_book, .ref qt_now, .ref qt_flakes, .ref qt_leaks, .int v_music, .ref qt_ranks, .int v_sights, .ref qt_sight, .int v_signs, .ref qt_pad, .int v_freeAt, .int v_freeWho, .int v_reason, .int v_acts, .ref qt_gets, .ref qt_counts, .ref qt_worth, .ref qt_ways, .ref qt_image, .ref qt_isKept])), (qt_now, .inl (cI, 43, .inl (upd v_now (Int32.toNatClampNeg (42 : Int32)) ((v_now (Int32.toNatClampNeg (42 : Int32))) + (1 : Int32))))), (qt_leaks, .inl (cI, 8, .inl v_leaks))] H) (hD : va_D A [(qt, .inr (9, [.ref qt_book, .ref qt_now, .ref qt_flakes, .ref qt_leaks, .int v_music, .ref qt_ranks, .int v_sights, .ref qt_sight, .int v_signs, .ref qt_pad, .int v_freeAt, .int v_freeWho, .int v_reason, .int v_acts, .ref qt_gets, .ref qt_counts, .ref qt_worth, .ref qt_ways, .ref qt_image, .ref qt_isKept])), (qt_now, .inl (cI, 43, .inl (upd v_now (Int32.toNatClampNeg (42 : Int32)) ((v_now (Int32.toNatClampNeg (42 : Int32))) + (1 : Int32))))), (qt_leaks, .inl (cI, 8, .inl v_leaks))]) hS => ?_)
    refine lv_iconst (v := 0) hx hb dX10_endHour_27 (by decide) ?_
    refine lv_istore_n (lv' := [(1, .int (0 : Int32)), (0, .ref qt)]) hx hb dX10_endHour_28 rfl hl (by decide) rfl (fun ls hl => ?_)
    exact hL29 FU (upd v_now (Int32.toNatClampNeg (42 : Int32)) ((v_now (Int32.toNatClampNeg (42 : Int32))) + (1 : Int32))) (0 : Int32) H locs ls hP hD hS (lv_sub hl [1, 0] rfl) h
  · have h := if_t hc h
    refine lv_bipush (v := 6) hx hb dX10_endHour_13 (by decide) ?_
    cases h
    rw [hQQ]
    exact gw_iret hx hb hr hlocks hP hD hS dX10_endHour_15
theorem hdV_X10_endHour : yX10_endHour.cls = RX10 ∧ yX10_endHour.cls ≠ "java/lang/invoke/MethodHandle" ∧ yX10_endHour.cls ≠ "java/lang/invoke/VarHandle" ∧ (parseMethodDescriptor yX10_endHour.desc).map (fun d => d.parameters.length) = some 0 := by decide +kernel
def f_X10_globeAct (v_now : (Nat → Int32)) (v_flakes : (Nat → Int32)) (p1 : Int32) (p2 : Int32) (p3 : Int32) : Option (Int32 × (Nat → Int32)) := (if p2 = (35 : Int32) then (bd2 (f_X10_drop v_now p1) (fun r90 u90v_now => (some (r90, u90v_now)))) else (if p2 = (43 : Int32) then (bd2 (f_X10_pour v_now p1 (1 : Int32)) (fun r63 u63v_now => (some (r63, u63v_now)))) else (if p2 = (47 : Int32) then (bd2 (f_X10_wipeOff v_now p1) (fun r76 u76v_now => (some (r76, u76v_now)))) else (if p2 = (61 : Int32) then (bd2 (f_X10_pour v_now p1 (0 : Int32)) (fun r70 u70v_now => (some (r70, u70v_now)))) else (if p2 = (62 : Int32) then (bd2 (f_X10_move v_now p1 (p3 - (65 : Int32))) (fun r100 u100v_now => (some (r100, u100v_now)))) else (if p2 = (94 : Int32) then (bd2 (f_X10_move v_now p1 (-6 : Int32)) (fun r84 u84v_now => (some (r84, u84v_now)))) else (bd2 (f_X10_shake v_now v_flakes p1 (p2 - (48 : Int32))) (fun r110 u110v_now => (some (r110, u110v_now))))))))))
abbrev rm_X10_globeAct : Room := { frames := 3, cells := 0, slots := 0, locals := 66 }
set_option maxHeartbeats 4000000 in
set_option maxRecDepth 100000 in
theorem C_X10_globeAct (l : Launch) (D : va_G) (cI cJ cZ : ClassId) (sz : Nat) (qt qt_book qt_now qt_flakes qt_leaks qt_ranks qt_sight qt_pad qt_gets qt_counts qt_worth qt_ways qt_image qt_isKept : Nat) (v_now : (Nat → Int32)) (v_flakes : (Nat → Int32)) (v_music : Int32) (v_sights : Int32) (v_signs : Int32) (v_freeAt : Int32) (v_freeWho : Int32) (v_reason : Int32) (v_acts : Int32) (p1 : Int32) (p2 : Int32) (p3 : Int32) (r : Int32) (w_now : (Nat → Int32)) (hf : f_X10_globeAct v_now v_flakes p1 p2 p3 = some (r, w_now)) : Met l yX10_globeAct wsX10_globeAct rm_X10_globeAct (PR D cI cJ cZ [(qt, .inr (9, [.ref qt_book, .ref qt_now, .ref qt_flakes, .ref qt_leaks, .int v_music, .ref qt_ranks, .int v_sights, .ref qt_sight, .int v_signs, .ref qt_pad, .int v_freeAt, .int v_freeWho, .int v_reason, .int v_acts, .ref qt_gets, .ref qt_counts, .ref qt_worth, .ref qt_ways, .ref qt_image, .ref qt_isKept])), (qt_now, .inl (cI, 43, .inl v_now)), (qt_flakes, .inl (cI, 8, .inl v_flakes))] sz [.ref qt, .int p1, .int p2, .int p3]) (QI D (va_A [(qt, .inr (9, [.ref qt_book, .ref qt_now, .ref qt_flakes, .ref qt_leaks, .int v_music, .ref qt_ranks, .int v_sights, .ref qt_sight, .int v_signs, .ref qt_pad, .int v_freeAt, .int v_freeWho, .int v_reason, .int v_acts, .ref qt_gets, .ref qt_counts, .ref qt_worth, .ref qt_ways, .ref qt_image, .ref qt_isKept])), (qt_now, .inl (cI, 43, .inl v_now)), (qt_flakes, .inl (cI, 8, .inl v_flakes))] sz) r [(qt, .inr (9, [.ref qt_book, .ref qt_now, .ref qt_flakes, .ref qt_leaks, .int v_music, .ref qt_ranks, .int v_sights, .ref qt_sight, .int v_signs, .ref qt_pad, .int v_freeAt, .int v_freeWho, .int v_reason, .int v_acts, .ref qt_gets, .ref qt_counts, .ref qt_worth, .ref qt_ways, .ref qt_image, .ref qt_isKept])), (qt_now, .inl (cI, 43, .inl w_now)), (qt_flakes, .inl (cI, 8, .inl v_flakes))]) 0 0 (va_A [(qt, .inr (9, [.ref qt_book, .ref qt_now, .ref qt_flakes, .ref qt_leaks, .int v_music, .ref qt_ranks, .int v_sights, .ref qt_sight, .int v_signs, .ref qt_pad, .int v_freeAt, .int v_freeWho, .int v_reason, .int v_acts, .ref qt_gets, .ref qt_counts, .ref qt_worth, .ref qt_ways, .ref qt_image, .ref qt_isKept])), (qt_now, .inl (cI, 43, .inl v_now)), (qt_flakes, .inl (cI, 8, .inl v_flakes))] sz) := by
  refine Met.ofW (cc := cX10_globeAct) (maxL := 4) (ret := (some .int)) (by decide) rfl ?_
  intro p e s m args below meth c s₁ B hml hv
  obtain ⟨hav, hsz, hP, hD0, hE⟩ := hv
  have hx := B.exec
  have hb := B.bytes
  have hr := B.returns
  have hts := atoms_spec (ws := wsX10_globeAct) B.pre
  have hown : s.vm.findClass RX10 = some m.cls := findClass_of_methodNamed B.named
  have hlocks := B.notSynchronized
  subst hsz
  have hD := hD0.self (sz := s.heap.size)
  generalize hAe : va_A [(qt, .inr (9, [.ref qt_book, .ref qt_now, .ref qt_flakes, .ref qt_leaks, .int v_music, .ref qt_ranks, .int v_sights, .ref qt_sight, .int v_signs, .ref qt_pad, .int v_freeAt, .int v_freeWho, .int v_reason, .int v_acts, .ref qt_gets, .ref qt_counts, .ref qt_worth, .ref qt_ways, .ref qt_image, .ref qt_isKept])), (qt_now, .inl (cI, 43, .inl v_now)), (qt_flakes, .inl (cI, 8, .inl v_flakes))] s.heap.size = A at hD ⊢
  have hA : ∀ q : Nat, s.heap.size ≤ q → A q := fun q h => by rw [← hAe]; exact Or.inr h
  have hS : va_S A s.heap s.heap [] := va_S.rf
  have hl := lv_entry ([.ref qt, .int p1, .int p2, .int p3]) (n := 4) (Nat.le_of_ble_eq_true rfl)
  have hfr : entryFrame m args 4 = entryFrame m ([.ref qt, .int p1, .int p2, .int p3] : List Value).toArray 4 := by rw [hav]
  rw [hfr, lg_entry_eq]
  generalize (lg_sl ([.ref qt, .int p1, .int p2, .int p3]) ++ List.replicate (4 - (lg_sl ([.ref qt, .int p1, .int p2, .int p3])).length) Slot.unset).toArray = ls at hl ⊢
  have hl : lv_has ls 4 [(0, .ref qt), (1, .int p1), (2, .int p2), (3, .int p3)] := hl
  obtain ⟨QQ, hQQ⟩ : ∃ QQ, QQ = MQ below (QI D A r [(qt, .inr (9, [.ref qt_book, .ref qt_now, .ref qt_flakes, .ref qt_leaks, .int v_music, .ref qt_ranks, .int v_sights, .ref qt_sight, .int v_signs, .ref qt_pad, .int v_freeAt, .int v_freeWho, .int v_reason, .int v_acts, .ref qt_gets, .ref qt_counts, .ref qt_worth, .ref qt_ways, .ref qt_image, .ref qt_isKept])), (qt_now, .inl (cI, 43, .inl w_now)), (qt_flakes, .inl (cI, 8, .inl v_flakes))]) args s 0 0 A := ⟨_, rfl⟩
  show W p l e rm_X10_globeAct s m args below meth c s.heap [] 0 0 _ _
  rw [← hQQ]
  have h := hf
  unfold f_X10_globeAct at h
  refine gw_start hP hD hS (fun H locs hP hD hS => ?_)
  refine lv_iload_n hx hb dX10_globeAct_0 rfl (lv_at hl 2 rfl) ?_
  by_cases hk35 : p2 = (35 : Int32)
  · have h := if_t hk35 h
    refine lv_lookup (off := 87) (tgt := 88) hx hb dX10_globeAct_1 (by decide) (by rw [hk35]; decide) (by decide) ?_
    refine lv_aload_n hx hb dX10_globeAct_88 rfl (lv_at hl 0 rfl) ?_
    refine lv_iload_n hx hb dX10_globeAct_89 rfl (lv_at hl 1 rfl) ?_
    obtain ⟨r90, u90v_now, hc90, h⟩ := bd2_some h
    refine gw_ci (wr := [(qt_flakes, .inl (cI, 8, .inl v_flakes))]) (w2 := [(qt_flakes, .inl (cI, 8, .inl v_flakes)), (qt, .inr (9, [.ref qt_book, .ref qt_now, .ref qt_flakes, .ref qt_leaks, .int v_music, .ref qt_ranks, .int v_sights, .ref qt_sight, .int v_signs, .ref qt_pad, .int v_freeAt, .int v_freeWho, .int v_reason, .int v_acts, .ref qt_gets, .ref qt_counts, .ref qt_worth, .ref qt_ways, .ref qt_image, .ref qt_isKept])), (qt_now, .inl (cI, 43, .inl u90v_now))]) (gw_rV (n := 1) ⟨hx, hb, hml, hown, hts⟩ (C_X10_drop l D cI cJ cZ H.size qt qt_book qt_now qt_flakes qt_leaks qt_ranks qt_sight qt_pad qt_gets qt_counts qt_worth qt_ways qt_image qt_isKept v_now v_music v_sights v_signs v_freeAt v_freeWho v_reason v_acts p1 r90 u90v_now hc90) gX10_globeAct_X10_drop rfl rfl rfl hdV_X10_drop ⟨Nat.le_of_ble_eq_true rfl, Nat.le_of_ble_eq_true rfl⟩ hE (hP.sub [0, 1] rfl) (hD.sub [0, 1] (by decide) rfl) 9 rfl 0 rfl rfl hl.1 (rest := []) rfl (Nat.le_of_ble_eq_true rfl) dX10_globeAct_90 ⟨Nat.zero_le _, Nat.zero_le _⟩) hP hD hS hA [0, 1] [2] rfl rfl rfl (by decide) rfl (fun H locs hP hD hS => ?_)
    cases h
    rw [hQQ]
    exact gw_iret hx hb hr hlocks (hP.sub [1, 2, 0] rfl) (hD.sub [1, 2, 0] (by decide) rfl) hS dX10_globeAct_93
  · have h := if_f hk35 h
    by_cases hk43 : p2 = (43 : Int32)
    · have h := if_t hk43 h
      refine lv_lookup (off := 59) (tgt := 60) hx hb dX10_globeAct_1 (by decide) (by rw [hk43]; decide) (by decide) ?_
      refine lv_aload_n hx hb dX10_globeAct_60 rfl (lv_at hl 0 rfl) ?_
      refine lv_iload_n hx hb dX10_globeAct_61 rfl (lv_at hl 1 rfl) ?_
      refine lv_iconst (v := 1) hx hb dX10_globeAct_62 (by decide) ?_
      obtain ⟨r63, u63v_now, hc63, h⟩ := bd2_some h
      refine gw_ci (wr := [(qt_flakes, .inl (cI, 8, .inl v_flakes))]) (w2 := [(qt_flakes, .inl (cI, 8, .inl v_flakes)), (qt, .inr (9, [.ref qt_book, .ref qt_now, .ref qt_flakes, .ref qt_leaks, .int v_music, .ref qt_ranks, .int v_sights, .ref qt_sight, .int v_signs, .ref qt_pad, .int v_freeAt, .int v_freeWho, .int v_reason, .int v_acts, .ref qt_gets, .ref qt_counts, .ref qt_worth, .ref qt_ways, .ref qt_image, .ref qt_isKept])), (qt_now, .inl (cI, 43, .inl u63v_now))]) (gw_rV (n := 2) ⟨hx, hb, hml, hown, hts⟩ (C_X10_pour l D cI cJ cZ H.size qt qt_book qt_now qt_flakes qt_leaks qt_ranks qt_sight qt_pad qt_gets qt_counts qt_worth qt_ways qt_image qt_isKept v_now v_music v_sights v_signs v_freeAt v_freeWho v_reason v_acts p1 (1 : Int32) r63 u63v_now hc63) gX10_globeAct_X10_pour rfl rfl rfl hdV_X10_pour ⟨Nat.le_of_ble_eq_true rfl, Nat.le_of_ble_eq_true rfl⟩ hE (hP.sub [0, 1] rfl) (hD.sub [0, 1] (by decide) rfl) 9 rfl 0 rfl rfl hl.1 (rest := []) rfl (Nat.le_of_ble_eq_true rfl) dX10_globeAct_63 ⟨Nat.zero_le _, Nat.zero_le _⟩) hP hD hS hA [0, 1] [2] rfl rfl rfl (by decide) rfl (fun H locs hP hD hS => ?_)
      cases h
      rw [hQQ]
      exact gw_iret hx hb hr hlocks (hP.sub [1, 2, 0] rfl) (hD.sub [1, 2, 0] (by decide) rfl) hS dX10_globeAct_66
    · have h := if_f hk43 h
      by_cases hk47 : p2 = (47 : Int32)
      · have h := if_t hk47 h
        refine lv_lookup (off := 73) (tgt := 74) hx hb dX10_globeAct_1 (by decide) (by rw [hk47]; decide) (by decide) ?_
        refine lv_aload_n hx hb dX10_globeAct_74 rfl (lv_at hl 0 rfl) ?_
        refine lv_iload_n hx hb dX10_globeAct_75 rfl (lv_at hl 1 rfl) ?_
        obtain ⟨r76, u76v_now, hc76, h⟩ := bd2_some h
        refine gw_ci (wr := [(qt_flakes, .inl (cI, 8, .inl v_flakes))]) (w2 := [(qt_flakes, .inl (cI, 8, .inl v_flakes)), (qt, .inr (9, [.ref qt_book, .ref qt_now, .ref qt_flakes, .ref qt_leaks, .int v_music, .ref qt_ranks, .int v_sights, .ref qt_sight, .int v_signs, .ref qt_pad, .int v_freeAt, .int v_freeWho, .int v_reason, .int v_acts, .ref qt_gets, .ref qt_counts, .ref qt_worth, .ref qt_ways, .ref qt_image, .ref qt_isKept])), (qt_now, .inl (cI, 43, .inl u76v_now))]) (gw_rV (n := 1) ⟨hx, hb, hml, hown, hts⟩ (C_X10_wipeOff l D cI cJ cZ H.size qt qt_book qt_now qt_flakes qt_leaks qt_ranks qt_sight qt_pad qt_gets qt_counts qt_worth qt_ways qt_image qt_isKept v_now v_music v_sights v_signs v_freeAt v_freeWho v_reason v_acts p1 r76 u76v_now hc76) gX10_globeAct_X10_wipeOff rfl rfl rfl hdV_X10_wipeOff ⟨Nat.le_of_ble_eq_true rfl, Nat.le_of_ble_eq_true rfl⟩ hE (hP.sub [0, 1] rfl) (hD.sub [0, 1] (by decide) rfl) 9 rfl 0 rfl rfl hl.1 (rest := []) rfl (Nat.le_of_ble_eq_true rfl) dX10_globeAct_76 ⟨Nat.zero_le _, Nat.zero_le _⟩) hP hD hS hA [0, 1] [2] rfl rfl rfl (by decide) rfl (fun H locs hP hD hS => ?_)
        cases h
        rw [hQQ]
        exact gw_iret hx hb hr hlocks (hP.sub [1, 2, 0] rfl) (hD.sub [1, 2, 0] (by decide) rfl) hS dX10_globeAct_79
      · have h := if_f hk47 h
        by_cases hk61 : p2 = (61 : Int32)
        · have h := if_t hk61 h
          refine lv_lookup (off := 66) (tgt := 67) hx hb dX10_globeAct_1 (by decide) (by rw [hk61]; decide) (by decide) ?_
          refine lv_aload_n hx hb dX10_globeAct_67 rfl (lv_at hl 0 rfl) ?_
          refine lv_iload_n hx hb dX10_globeAct_68 rfl (lv_at hl 1 rfl) ?_
          refine lv_iconst (v := 0) hx hb dX10_globeAct_69 (by decide) ?_
          obtain ⟨r70, u70v_now, hc70, h⟩ := bd2_some h
          refine gw_ci (wr := [(qt_flakes, .inl (cI, 8, .inl v_flakes))]) (w2 := [(qt_flakes, .inl (cI, 8, .inl v_flakes)), (qt, .inr (9, [.ref qt_book, .ref qt_now, .ref qt_flakes, .ref qt_leaks, .int v_music, .ref qt_ranks, .int v_sights, .ref qt_sight, .int v_signs, .ref qt_pad, .int v_freeAt, .int v_freeWho, .int v_reason, .int v_acts, .ref qt_gets, .ref qt_counts, .ref qt_worth, .ref qt_ways, .ref qt_image, .ref qt_isKept])), (qt_now, .inl (cI, 43, .inl u70v_now))]) (gw_rV (n := 2) ⟨hx, hb, hml, hown, hts⟩ (C_X10_pour l D cI cJ cZ H.size qt qt_book qt_now qt_flakes qt_leaks qt_ranks qt_sight qt_pad qt_gets qt_counts qt_worth qt_ways qt_image qt_isKept v_now v_music v_sights v_signs v_freeAt v_freeWho v_reason v_acts p1 (0 : Int32) r70 u70v_now hc70) gX10_globeAct_X10_pour rfl rfl rfl hdV_X10_pour ⟨Nat.le_of_ble_eq_true rfl, Nat.le_of_ble_eq_true rfl⟩ hE (hP.sub [0, 1] rfl) (hD.sub [0, 1] (by decide) rfl) 9 rfl 0 rfl rfl hl.1 (rest := []) rfl (Nat.le_of_ble_eq_true rfl) dX10_globeAct_70 ⟨Nat.zero_le _, Nat.zero_le _⟩) hP hD hS hA [0, 1] [2] rfl rfl rfl (by decide) rfl (fun H locs hP hD hS => ?_)
          cases h
          rw [hQQ]
          exact gw_iret hx hb hr hlocks (hP.sub [1, 2, 0] rfl) (hD.sub [1, 2, 0] (by decide) rfl) hS dX10_globeAct_73
        · have h := if_f hk61 h
          by_cases hk62 : p2 = (62 : Int32)
          · have h := if_t hk62 h
            refine lv_lookup (off := 93) (tgt := 94) hx hb dX10_globeAct_1 (by decide) (by rw [hk62]; decide) (by decide) ?_
            refine lv_aload_n hx hb dX10_globeAct_94 rfl (lv_at hl 0 rfl) ?_
            refine lv_iload_n hx hb dX10_globeAct_95 rfl (lv_at hl 1 rfl) ?_
            refine lv_iload_n hx hb dX10_globeAct_96 rfl (lv_at hl 3 rfl) ?_
            refine lv_bipush (v := 65) hx hb dX10_globeAct_97 (by decide) ?_
            refine lv_isub hx hb dX10_globeAct_99 ?_
            obtain ⟨r100, u100v_now, hc100, h⟩ := bd2_some h
            refine gw_ci (wr := [(qt_flakes, .inl (cI, 8, .inl v_flakes))]) (w2 := [(qt_flakes, .inl (cI, 8, .inl v_flakes)), (qt, .inr (9, [.ref qt_book, .ref qt_now, .ref qt_flakes, .ref qt_leaks, .int v_music, .ref qt_ranks, .int v_sights, .ref qt_sight, .int v_signs, .ref qt_pad, .int v_freeAt, .int v_freeWho, .int v_reason, .int v_acts, .ref qt_gets, .ref qt_counts, .ref qt_worth, .ref qt_ways, .ref qt_image, .ref qt_isKept])), (qt_now, .inl (cI, 43, .inl u100v_now))]) (gw_rV (n := 2) ⟨hx, hb, hml, hown, hts⟩ (C_X10_move l D cI cJ cZ H.size qt qt_book qt_now qt_flakes qt_leaks qt_ranks qt_sight qt_pad qt_gets qt_counts qt_worth qt_ways qt_image qt_isKept v_now v_music v_sights v_signs v_freeAt v_freeWho v_reason v_acts p1 (p3 - (65 : Int32)) r100 u100v_now hc100) gX10_globeAct_X10_move rfl rfl rfl hdV_X10_move ⟨Nat.le_of_ble_eq_true rfl, Nat.le_of_ble_eq_true rfl⟩ hE (hP.sub [0, 1] rfl) (hD.sub [0, 1] (by decide) rfl) 9 rfl 0 rfl rfl hl.1 (rest := []) rfl (Nat.le_of_ble_eq_true rfl) dX10_globeAct_100 ⟨Nat.zero_le _, Nat.zero_le _⟩) hP hD hS hA [0, 1] [2] rfl rfl rfl (by decide) rfl (fun H locs hP hD hS => ?_)
            cases h
            rw [hQQ]
            exact gw_iret hx hb hr hlocks (hP.sub [1, 2, 0] rfl) (hD.sub [1, 2, 0] (by decide) rfl) hS dX10_globeAct_103
          · have h := if_f hk62 h
            by_cases hk94 : p2 = (94 : Int32)
            · have h := if_t hk94 h
              refine lv_lookup (off := 79) (tgt := 80) hx hb dX10_globeAct_1 (by decide) (by rw [hk94]; decide) (by decide) ?_
              refine lv_aload_n hx hb dX10_globeAct_80 rfl (lv_at hl 0 rfl) ?_
              refine lv_iload_n hx hb dX10_globeAct_81 rfl (lv_at hl 1 rfl) ?_
              refine lv_bipush (v := -6) hx hb dX10_globeAct_82 (by decide) ?_
              obtain ⟨r84, u84v_now, hc84, h⟩ := bd2_some h
              refine gw_ci (wr := [(qt_flakes, .inl (cI, 8, .inl v_flakes))]) (w2 := [(qt_flakes, .inl (cI, 8, .inl v_flakes)), (qt, .inr (9, [.ref qt_book, .ref qt_now, .ref qt_flakes, .ref qt_leaks, .int v_music, .ref qt_ranks, .int v_sights, .ref qt_sight, .int v_signs, .ref qt_pad, .int v_freeAt, .int v_freeWho, .int v_reason, .int v_acts, .ref qt_gets, .ref qt_counts, .ref qt_worth, .ref qt_ways, .ref qt_image, .ref qt_isKept])), (qt_now, .inl (cI, 43, .inl u84v_now))]) (gw_rV (n := 2) ⟨hx, hb, hml, hown, hts⟩ (C_X10_move l D cI cJ cZ H.size qt qt_book qt_now qt_flakes qt_leaks qt_ranks qt_sight qt_pad qt_gets qt_counts qt_worth qt_ways qt_image qt_isKept v_now v_music v_sights v_signs v_freeAt v_freeWho v_reason v_acts p1 (-6 : Int32) r84 u84v_now hc84) gX10_globeAct_X10_move rfl rfl rfl hdV_X10_move ⟨Nat.le_of_ble_eq_true rfl, Nat.le_of_ble_eq_true rfl⟩ hE (hP.sub [0, 1] rfl) (hD.sub [0, 1] (by decide) rfl) 9 rfl 0 rfl rfl hl.1 (rest := []) rfl (Nat.le_of_ble_eq_true rfl) dX10_globeAct_84 ⟨Nat.zero_le _, Nat.zero_le _⟩) hP hD hS hA [0, 1] [2] rfl rfl rfl (by decide) rfl (fun H locs hP hD hS => ?_)
              cases h
              rw [hQQ]
              exact gw_iret hx hb hr hlocks (hP.sub [1, 2, 0] rfl) (hD.sub [1, 2, 0] (by decide) rfl) hS dX10_globeAct_87
            · have h := if_f hk94 h
              refine lv_lookup (off := 103) (tgt := 104) hx hb dX10_globeAct_1 (by decide) (by show Op.lookupswitch.offset [(35, 87), (43, 59), (47, 73), (61, 66), (62, 93), (94, 79)] 103 _ = _; rw [lv_osw hk35 (by decide), lv_osw hk43 (by decide), lv_osw hk47 (by decide), lv_osw hk61 (by decide), lv_osw hk62 (by decide), lv_osw hk94 (by decide)]; rfl) (by decide) ?_
              refine lv_aload_n hx hb dX10_globeAct_104 rfl (lv_at hl 0 rfl) ?_
              refine lv_iload_n hx hb dX10_globeAct_105 rfl (lv_at hl 1 rfl) ?_
              refine lv_iload_n hx hb dX10_globeAct_106 rfl (lv_at hl 2 rfl) ?_
              refine lv_bipush (v := 48) hx hb dX10_globeAct_107 (by decide) ?_
              refine lv_isub hx hb dX10_globeAct_109 ?_
              obtain ⟨r110, u110v_now, hc110, h⟩ := bd2_some h
              refine gw_ci (wr := []) (w2 := [(qt, .inr (9, [.ref qt_book, .ref qt_now, .ref qt_flakes, .ref qt_leaks, .int v_music, .ref qt_ranks, .int v_sights, .ref qt_sight, .int v_signs, .ref qt_pad, .int v_freeAt, .int v_freeWho, .int v_reason, .int v_acts, .ref qt_gets, .ref qt_counts, .ref qt_worth, .ref qt_ways, .ref qt_image, .ref qt_isKept])), (qt_now, .inl (cI, 43, .inl u110v_now)), (qt_flakes, .inl (cI, 8, .inl v_flakes))]) (gw_rV (n := 2) ⟨hx, hb, hml, hown, hts⟩ (C_X10_shake l D cI cJ cZ H.size qt qt_book qt_now qt_flakes qt_leaks qt_ranks qt_sight qt_pad qt_gets qt_counts qt_worth qt_ways qt_image qt_isKept v_now v_flakes v_music v_sights v_signs v_freeAt v_freeWho v_reason v_acts p1 (p2 - (48 : Int32)) r110 u110v_now hc110) gX10_globeAct_X10_shake rfl rfl rfl hdV_X10_shake ⟨Nat.le_of_ble_eq_true rfl, Nat.le_of_ble_eq_true rfl⟩ hE (hP.sub [0, 1, 2] rfl) (hD.sub [0, 1, 2] (by decide) rfl) 9 rfl 0 rfl rfl hl.1 (rest := []) rfl (Nat.le_of_ble_eq_true rfl) dX10_globeAct_110 ⟨Nat.zero_le _, Nat.zero_le _⟩) hP hD hS hA [0, 1, 2] [] rfl rfl rfl (by decide) rfl (fun H locs hP hD hS => ?_)
              cases h
              rw [hQQ]
              exact gw_iret hx hb hr hlocks hP hD hS dX10_globeAct_113
theorem hdV_X10_globeAct : yX10_globeAct.cls = RX10 ∧ yX10_globeAct.cls ≠ "java/lang/invoke/MethodHandle" ∧ yX10_globeAct.cls ≠ "java/lang/invoke/VarHandle" ∧ (parseMethodDescriptor yX10_globeAct.desc).map (fun d => d.parameters.length) = some 3 := by decide +kernel
def B_X10_goReigns_179 (v_book : (Nat → Int32)) (v_flakes : (Nat → Int32)) (v_leaks : (Nat → Int32)) (v_music : Int32) (v_signs : Int32) (v_pad : (Nat → Int32)) (rec11 : (Nat → Int32) → Int32 → Int32 → Int32 → Int32 → Int32 → Option (Int32 × (Nat → Int32) × Int32 × Int32 × Int32 × Int32)) (v_now : (Nat → Int32)) (v_freeAt : Int32) (v_freeWho : Int32) (v_reason : Int32) (v_acts : Int32) (x1 : Int32) : Option (Int32 × (Nat → Int32) × Int32 × Int32 × Int32 × Int32) := (rec11 v_now v_freeAt v_freeWho v_reason (v_acts + (1 : Int32)) x1)
def L_X10_goReigns_135 (v_book : (Nat → Int32)) (v_flakes : (Nat → Int32)) (v_leaks : (Nat → Int32)) (v_music : Int32) (v_signs : Int32) (v_pad : (Nat → Int32)) (rec11 : (Nat → Int32) → Int32 → Int32 → Int32 → Int32 → Int32 → Option (Int32 × (Nat → Int32) × Int32 × Int32 × Int32 × Int32)) : Nat → (Nat → Int32) → Int32 → Int32 → Int32 → Int32 → Int32 → Int32 → Int32 → Option (Int32 × (Nat → Int32) × Int32 × Int32 × Int32 × Int32)
  | 0, _, _, _, _, _, _, _, _ => none
  | n + 1, v_now, v_freeAt, v_freeWho, v_reason, v_acts, x1, x4, x5 => (if (8 : Int32) ≤ x5 then (B_X10_goReigns_179 v_book v_flakes v_leaks v_music v_signs v_pad rec11 v_now v_freeAt v_freeWho v_reason v_acts x1) else (if (0 : Int32) ≤ v_freeAt then (B_X10_goReigns_179 v_book v_flakes v_leaks v_music v_signs v_pad rec11 v_now v_freeAt v_freeWho v_reason v_acts x1) else (bd1 (f_X10_has x4 x5) (fun r153 => (if r153 = (0 : Int32) then ((L_X10_goReigns_135 v_book v_flakes v_leaks v_music v_signs v_pad rec11 n) v_now v_freeAt v_freeWho v_reason v_acts x1 x4 (x5 + (1 : Int32))) else ((L_X10_goReigns_135 v_book v_flakes v_leaks v_music v_signs v_pad rec11 n) v_now v_acts x5 v_reason v_acts x1 x4 (x5 + (1 : Int32))))))))
def B_X10_goReigns_110 (v_book : (Nat → Int32)) (v_flakes : (Nat → Int32)) (v_leaks : (Nat → Int32)) (v_music : Int32) (v_signs : Int32) (v_pad : (Nat → Int32)) (rec11 : (Nat → Int32) → Int32 → Int32 → Int32 → Int32 → Int32 → Option (Int32 × (Nat → Int32) × Int32 × Int32 × Int32 × Int32)) (v_now : (Nat → Int32)) (v_freeAt : Int32) (v_freeWho : Int32) (v_reason : Int32) (v_acts : Int32) (x1 : Int32) (x2 : Int32) : Option (Int32 × (Nat → Int32) × Int32 × Int32 × Int32 × Int32) := (if v_reason ≤ (0 : Int32) then (bd1 (f_X10_freeOnes v_now) (fun r123 => (L_X10_goReigns_135 v_book v_flakes v_leaks v_music v_signs v_pad rec11 FU v_now v_freeAt v_freeWho v_reason v_acts x1 (r123 &&& (x2 ^^^ (-1 : Int32))) (0 : Int32)))) else (some (v_acts, v_now, v_freeAt, v_freeWho, v_reason, v_acts)))
def B_X10_goReigns_108 (v_book : (Nat → Int32)) (v_flakes : (Nat → Int32)) (v_leaks : (Nat → Int32)) (v_music : Int32) (v_signs : Int32) (v_pad : (Nat → Int32)) (rec11 : (Nat → Int32) → Int32 → Int32 → Int32 → Int32 → Int32 → Option (Int32 × (Nat → Int32) × Int32 × Int32 × Int32 × Int32)) (v_now : (Nat → Int32)) (v_freeAt : Int32) (v_freeWho : Int32) (v_reason : Int32) (v_acts : Int32) (x2 : Int32) (s0 : Int32) (s1 : Int32) : Option (Int32 × (Nat → Int32) × Int32 × Int32 × Int32 × Int32) := (B_X10_goReigns_110 v_book v_flakes v_leaks v_music v_signs v_pad rec11 v_now v_freeAt v_freeWho v_reason v_acts (s1 + s0) x2)
def B_X10_goReigns_89 (v_book : (Nat → Int32)) (v_flakes : (Nat → Int32)) (v_leaks : (Nat → Int32)) (v_music : Int32) (v_signs : Int32) (v_pad : (Nat → Int32)) (rec11 : (Nat → Int32) → Int32 → Int32 → Int32 → Int32 → Int32 → Option (Int32 × (Nat → Int32) × Int32 × Int32 × Int32 × Int32)) (v_now : (Nat → Int32)) (v_freeAt : Int32) (v_freeWho : Int32) (v_reason : Int32) (v_acts : Int32) (x1 : Int32) (x2 : Int32) (x4 : Int32) (s0 : Int32) (s1 : Int32) (s2 : Int32) : Option (Int32 × (Nat → Int32) × Int32 × Int32 × Int32 × Int32) := (bd2 (f_X10_globeAct v_now v_flakes s2 s1 s0) (fun r89 u89v_now => (if x4 = (62 : Int32) then (B_X10_goReigns_108 v_book v_flakes v_leaks v_music v_signs v_pad rec11 u89v_now v_freeAt v_freeWho r89 v_acts x2 (3 : Int32) x1) else (B_X10_goReigns_108 v_book v_flakes v_leaks v_music v_signs v_pad rec11 u89v_now v_freeAt v_freeWho r89 v_acts x2 (2 : Int32) x1))))
def L_X10_goReigns_11 (v_book : (Nat → Int32)) (v_flakes : (Nat → Int32)) (v_leaks : (Nat → Int32)) (v_music : Int32) (v_signs : Int32) (v_pad : (Nat → Int32)) : Nat → (Nat → Int32) → Int32 → Int32 → Int32 → Int32 → Int32 → Option (Int32 × (Nat → Int32) × Int32 × Int32 × Int32 × Int32)
  | 0, _, _, _, _, _, _ => none
  | n + 1, v_now, v_freeAt, v_freeWho, v_reason, v_acts, x1 => (if v_signs ≤ x1 then (some ((-6 : Int32), v_now, v_freeAt, v_freeWho, v_reason, v_acts)) else (bd1 (f_X10_freeOnes v_now) (fun r20 => (gin x1 60 (if (v_pad (Int32.toNatClampNeg x1)) = (46 : Int32) then (bd2 (f_X10_endHour v_now v_leaks v_music) (fun r39 u39v_now => (B_X10_goReigns_110 v_book v_flakes v_leaks v_music v_signs v_pad (L_X10_goReigns_11 v_book v_flakes v_leaks v_music v_signs v_pad n) u39v_now v_freeAt v_freeWho r39 v_acts (x1 + (1 : Int32)) r20))) else (gin (x1 + (1 : Int32)) 60 (if (v_pad (Int32.toNatClampNeg (x1 + (1 : Int32)))) = (62 : Int32) then (gin (x1 + (2 : Int32)) 60 (B_X10_goReigns_89 v_book v_flakes v_leaks v_music v_signs v_pad (L_X10_goReigns_11 v_book v_flakes v_leaks v_music v_signs v_pad n) v_now v_freeAt v_freeWho v_reason v_acts x1 r20 (v_pad (Int32.toNatClampNeg (x1 + (1 : Int32)))) (v_pad (Int32.toNatClampNeg (x1 + (2 : Int32)))) (v_pad (Int32.toNatClampNeg (x1 + (1 : Int32)))) ((v_pad (Int32.toNatClampNeg x1)) - (65 : Int32)))) else (B_X10_goReigns_89 v_book v_flakes v_leaks v_music v_signs v_pad (L_X10_goReigns_11 v_book v_flakes v_leaks v_music v_signs v_pad n) v_now v_freeAt v_freeWho v_reason v_acts x1 r20 (v_pad (Int32.toNatClampNeg (x1 + (1 : Int32)))) (65 : Int32) (v_pad (Int32.toNatClampNeg (x1 + (1 : Int32)))) ((v_pad (Int32.toNatClampNeg x1)) - (65 : Int32))))))))))
def f_X10_goReigns (v_book : (Nat → Int32)) (v_now : (Nat → Int32)) (v_flakes : (Nat → Int32)) (v_leaks : (Nat → Int32)) (v_music : Int32) (v_signs : Int32) (v_pad : (Nat → Int32)) (v_freeAt : Int32) (v_freeWho : Int32) (v_reason : Int32) (v_acts : Int32) : Option (Int32 × (Nat → Int32) × Int32 × Int32 × Int32 × Int32) := (bd3 (f_X10_asNow v_book v_now v_freeAt v_freeWho) (fun u1v_now u1v_freeAt u1v_freeWho => (L_X10_goReigns_11 v_book v_flakes v_leaks v_music v_signs v_pad FU u1v_now u1v_freeAt u1v_freeWho v_reason (0 : Int32) (0 : Int32))))
abbrev rm_X10_goReigns : Room := { frames := 4, cells := 0, slots := 0, locals := 89 }
set_option maxHeartbeats 4000000 in
set_option maxRecDepth 100000 in
theorem C_X10_goReigns (l : Launch) (D : va_G) (cI cJ cZ : ClassId) (sz : Nat) (qt qt_book qt_now qt_flakes qt_leaks qt_ranks qt_sight qt_pad qt_gets qt_counts qt_worth qt_ways qt_image qt_isKept : Nat) (v_book : (Nat → Int32)) (v_now : (Nat → Int32)) (v_flakes : (Nat → Int32)) (v_leaks : (Nat → Int32)) (v_music : Int32) (v_sights : Int32) (v_signs : Int32) (v_pad : (Nat → Int32)) (v_freeAt : Int32) (v_freeWho : Int32) (v_reason : Int32) (v_acts : Int32) (r : Int32) (w_now : (Nat → Int32)) (w_freeAt : Int32) (w_freeWho : Int32) (w_reason : Int32) (w_acts : Int32) (hf : f_X10_goReigns v_book v_now v_flakes v_leaks v_music v_signs v_pad v_freeAt v_freeWho v_reason v_acts = some (r, w_now, w_freeAt, w_freeWho, w_reason, w_acts)) : Met l yX10_goReigns wsX10_goReigns rm_X10_goReigns (PR D cI cJ cZ [(qt, .inr (9, [.ref qt_book, .ref qt_now, .ref qt_flakes, .ref qt_leaks, .int v_music, .ref qt_ranks, .int v_sights, .ref qt_sight, .int v_signs, .ref qt_pad, .int v_freeAt, .int v_freeWho, .int v_reason, .int v_acts, .ref qt_gets, .ref qt_counts, .ref qt_worth, .ref qt_ways, .ref qt_image, .ref qt_isKept])), (qt_book, .inl (cI, 43, .inl v_book)), (qt_now, .inl (cI, 43, .inl v_now)), (qt_flakes, .inl (cI, 8, .inl v_flakes)), (qt_leaks, .inl (cI, 8, .inl v_leaks)), (qt_pad, .inl (cI, 60, .inl v_pad))] sz [.ref qt]) (QI D (va_A [(qt, .inr (9, [.ref qt_book, .ref qt_now, .ref qt_flakes, .ref qt_leaks, .int v_music, .ref qt_ranks, .int v_sights, .ref qt_sight, .int v_signs, .ref qt_pad, .int v_freeAt, .int v_freeWho, .int v_reason, .int v_acts, .ref qt_gets, .ref qt_counts, .ref qt_worth, .ref qt_ways, .ref qt_image, .ref qt_isKept])), (qt_book, .inl (cI, 43, .inl v_book)), (qt_now, .inl (cI, 43, .inl v_now)), (qt_flakes, .inl (cI, 8, .inl v_flakes)), (qt_leaks, .inl (cI, 8, .inl v_leaks)), (qt_pad, .inl (cI, 60, .inl v_pad))] sz) r [(qt, .inr (9, [.ref qt_book, .ref qt_now, .ref qt_flakes, .ref qt_leaks, .int v_music, .ref qt_ranks, .int v_sights, .ref qt_sight, .int v_signs, .ref qt_pad, .int w_freeAt, .int w_freeWho, .int w_reason, .int w_acts, .ref qt_gets, .ref qt_counts, .ref qt_worth, .ref qt_ways, .ref qt_image, .ref qt_isKept])), (qt_book, .inl (cI, 43, .inl v_book)), (qt_now, .inl (cI, 43, .inl w_now)), (qt_flakes, .inl (cI, 8, .inl v_flakes)), (qt_leaks, .inl (cI, 8, .inl v_leaks)), (qt_pad, .inl (cI, 60, .inl v_pad))]) 0 0 (va_A [(qt, .inr (9, [.ref qt_book, .ref qt_now, .ref qt_flakes, .ref qt_leaks, .int v_music, .ref qt_ranks, .int v_sights, .ref qt_sight, .int v_signs, .ref qt_pad, .int v_freeAt, .int v_freeWho, .int v_reason, .int v_acts, .ref qt_gets, .ref qt_counts, .ref qt_worth, .ref qt_ways, .ref qt_image, .ref qt_isKept])), (qt_book, .inl (cI, 43, .inl v_book)), (qt_now, .inl (cI, 43, .inl v_now)), (qt_flakes, .inl (cI, 8, .inl v_flakes)), (qt_leaks, .inl (cI, 8, .inl v_leaks)), (qt_pad, .inl (cI, 60, .inl v_pad))] sz) := by
  refine Met.ofW (cc := cX10_goReigns) (maxL := 6) (ret := (some .int)) (by decide) rfl ?_
  intro p e s m args below meth c s₁ B hml hv
  obtain ⟨hav, hsz, hP, hD0, hE⟩ := hv
  have hx := B.exec
  have hb := B.bytes
  have hr := B.returns
  have hts := atoms_spec (ws := wsX10_goReigns) B.pre
  have hown : s.vm.findClass RX10 = some m.cls := findClass_of_methodNamed B.named
  have hlocks := B.notSynchronized
  subst hsz
  have hD := hD0.self (sz := s.heap.size)
  generalize hAe : va_A [(qt, .inr (9, [.ref qt_book, .ref qt_now, .ref qt_flakes, .ref qt_leaks, .int v_music, .ref qt_ranks, .int v_sights, .ref qt_sight, .int v_signs, .ref qt_pad, .int v_freeAt, .int v_freeWho, .int v_reason, .int v_acts, .ref qt_gets, .ref qt_counts, .ref qt_worth, .ref qt_ways, .ref qt_image, .ref qt_isKept])), (qt_book, .inl (cI, 43, .inl v_book)), (qt_now, .inl (cI, 43, .inl v_now)), (qt_flakes, .inl (cI, 8, .inl v_flakes)), (qt_leaks, .inl (cI, 8, .inl v_leaks)), (qt_pad, .inl (cI, 60, .inl v_pad))] s.heap.size = A at hD ⊢
  have hA : ∀ q : Nat, s.heap.size ≤ q → A q := fun q h => by rw [← hAe]; exact Or.inr h
  have hS : va_S A s.heap s.heap [] := va_S.rf
  have hl := lv_entry ([.ref qt]) (n := 6) (Nat.le_of_ble_eq_true rfl)
  have hfr : entryFrame m args 6 = entryFrame m ([.ref qt] : List Value).toArray 6 := by rw [hav]
  rw [hfr, lg_entry_eq]
  generalize (lg_sl ([.ref qt]) ++ List.replicate (6 - (lg_sl ([.ref qt])).length) Slot.unset).toArray = ls at hl ⊢
  have hl : lv_has ls 6 [(0, .ref qt)] := hl
  obtain ⟨QQ, hQQ⟩ : ∃ QQ, QQ = MQ below (QI D A r [(qt, .inr (9, [.ref qt_book, .ref qt_now, .ref qt_flakes, .ref qt_leaks, .int v_music, .ref qt_ranks, .int v_sights, .ref qt_sight, .int v_signs, .ref qt_pad, .int w_freeAt, .int w_freeWho, .int w_reason, .int w_acts, .ref qt_gets, .ref qt_counts, .ref qt_worth, .ref qt_ways, .ref qt_image, .ref qt_isKept])), (qt_book, .inl (cI, 43, .inl v_book)), (qt_now, .inl (cI, 43, .inl w_now)), (qt_flakes, .inl (cI, 8, .inl v_flakes)), (qt_leaks, .inl (cI, 8, .inl v_leaks)), (qt_pad, .inl (cI, 60, .inl v_pad))]) args s 0 0 A := ⟨_, rfl⟩
  show W p l e rm_X10_goReigns s m args below meth c s.heap [] 0 0 _ _
  rw [← hQQ]
  have hL11 : ∀ (n11 : Nat), ∀ (v_now : (Nat → Int32)) (v_freeAt : Int32) (v_freeWho : Int32) (v_reason : Int32) (v_acts : Int32) (x1 : Int32) (H : Heap) (locs : List Loc) (ls : Array Slot), va_P D vwCl [(qt, .inr (9, [.ref qt_book, .ref qt_now, .ref qt_flakes, .ref qt_leaks, .int v_music, .ref qt_ranks, .int v_sights, .ref qt_sight, .int v_signs, .ref qt_pad, .int v_freeAt, .int v_freeWho, .int v_reason, .int v_acts, .ref qt_gets, .ref qt_counts, .ref qt_worth, .ref qt_ways, .ref qt_image, .ref qt_isKept])), (qt_book, .inl (cI, 43, .inl v_book)), (qt_now, .inl (cI, 43, .inl v_now)), (qt_flakes, .inl (cI, 8, .inl v_flakes)), (qt_leaks, .inl (cI, 8, .inl v_leaks)), (qt_pad, .inl (cI, 60, .inl v_pad))] H → va_D A [(qt, .inr (9, [.ref qt_book, .ref qt_now, .ref qt_flakes, .ref qt_leaks, .int v_music, .ref qt_ranks, .int v_sights, .ref qt_sight, .int v_signs, .ref qt_pad, .int v_freeAt, .int v_freeWho, .int v_reason, .int v_acts, .ref qt_gets, .ref qt_counts, .ref qt_worth, .ref qt_ways, .ref qt_image, .ref qt_isKept])), (qt_book, .inl (cI, 43, .inl v_book)), (qt_now, .inl (cI, 43, .inl v_now)), (qt_flakes, .inl (cI, 8, .inl v_flakes)), (qt_leaks, .inl (cI, 8, .inl v_leaks)), (qt_pad, .inl (cI, 60, .inl v_pad))] → va_S A s.heap H locs → lv_has ls 6 [(0, .ref qt), (1, .int x1)] → L_X10_goReigns_11 v_book v_flakes v_leaks v_music v_signs v_pad n11 v_now v_freeAt v_freeWho v_reason v_acts x1 = some (r, w_now, w_freeAt, w_freeWho, w_reason, w_acts) → W p l e rm_X10_goReigns s m args below meth c H locs 0 0 QQ (F0 m 11 ls []) := by
    intro n11
    induction n11 with
    | zero =>
      intro v_now v_freeAt v_freeWho v_reason v_acts x1 H locs ls hP hD hS hl h
      have h : none = some (r, w_now, w_freeAt, w_freeWho, w_reason, w_acts) := h
      cases h
    | succ n11 ih11 =>
      have hB179 : ∀ (v_now : (Nat → Int32)) (v_freeAt : Int32) (v_freeWho : Int32) (v_reason : Int32) (v_acts : Int32) (x1 : Int32) (H : Heap) (locs : List Loc) (ls : Array Slot), va_P D vwCl [(qt, .inr (9, [.ref qt_book, .ref qt_now, .ref qt_flakes, .ref qt_leaks, .int v_music, .ref qt_ranks, .int v_sights, .ref qt_sight, .int v_signs, .ref qt_pad, .int v_freeAt, .int v_freeWho, .int v_reason, .int v_acts, .ref qt_gets, .ref qt_counts, .ref qt_worth, .ref qt_ways, .ref qt_image, .ref qt_isKept])), (qt_book, .inl (cI, 43, .inl v_book)), (qt_now, .inl (cI, 43, .inl v_now)), (qt_flakes, .inl (cI, 8, .inl v_flakes)), (qt_leaks, .inl (cI, 8, .inl v_leaks)), (qt_pad, .inl (cI, 60, .inl v_pad))] H → va_D A [(qt, .inr (9, [.ref qt_book, .ref qt_now, .ref qt_flakes, .ref qt_leaks, .int v_music, .ref qt_ranks, .int v_sights, .ref qt_sight, .int v_signs, .ref qt_pad, .int v_freeAt, .int v_freeWho, .int v_reason, .int v_acts, .ref qt_gets, .ref qt_counts, .ref qt_worth, .ref qt_ways, .ref qt_image, .ref qt_isKept])), (qt_book, .inl (cI, 43, .inl v_book)), (qt_now, .inl (cI, 43, .inl v_now)), (qt_flakes, .inl (cI, 8, .inl v_flakes)), (qt_leaks, .inl (cI, 8, .inl v_leaks)), (qt_pad, .inl (cI, 60, .inl v_pad))] → va_S A s.heap H locs → lv_has ls 6 [(0, .ref qt), (1, .int x1)] → B_X10_goReigns_179 v_book v_flakes v_leaks v_music v_signs v_pad (L_X10_goReigns_11 v_book v_flakes v_leaks v_music v_signs v_pad n11) v_now v_freeAt v_freeWho v_reason v_acts x1 = some (r, w_now, w_freeAt, w_freeWho, w_reason, w_acts) → W p l e rm_X10_goReigns s m args below meth c H locs 0 0 QQ (F0 m 179 ls []) := by
        intro v_now v_freeAt v_freeWho v_reason v_acts x1 H locs ls hP hD hS hl h
        unfold B_X10_goReigns_179 at h
        refine lv_aload_n hx hb dX10_goReigns_179 rfl (lv_at hl 0 rfl) ?_
        refine lv_dup hx hb dX10_goReigns_180 rfl ?_
        refine va_get (D := D) (ci := 9) (C := RX10) (T := TX10) (N := 20) hx hb hts (fun _ hw => (List.mem_cons_of_mem _ (List.mem_append_right _ hw))) hown hE.1 hP 0 rfl rfl 13 (by decide) (hts (.fieldLink RX10 115 "GlobeCrownModel" "acts" "I") (List.mem_cons_of_mem _ (List.mem_append_left _ (List.mem_append_left _ (List.mem_of_getElem? (i := 0) rfl))))) (fun _ h9 => h9) rfl dX10_goReigns_181 ?_
        refine lv_iconst (v := 1) hx hb dX10_goReigns_184 (by decide) ?_
        refine lv_iadd hx hb dX10_goReigns_185 ?_
        refine va_put (D := D) (ci := 9) (v := .int (v_acts + (1 : Int32))) (ty := .int) (C := RX10) (T := TX10) (N := 20) hx hb hts (fun _ hw => (List.mem_cons_of_mem _ (List.mem_append_right _ hw))) tyX10 tyX10_ok nmX10 hown hE.1 hP hD hS 0 rfl rfl 13 (by decide) (hts (.fieldLink RX10 115 "GlobeCrownModel" "acts" "I") (List.mem_cons_of_mem _ (List.mem_append_left _ (List.mem_append_left _ (List.mem_of_getElem? (i := 0) rfl))))) (fun _ h9 => h9) rfl (tyX10_ok 13 (by decide)) rfl rfl (Nat.le_of_ble_eq_true rfl) dX10_goReigns_186 (fun H locs (hP : va_P D vwCl [(qt, .inr (9, [.ref qt_book, .ref qt_now, .ref qt_flakes, .ref qt_leaks, .int v_music, .ref qt_ranks, .int v_sights, .ref qt_sight, .int v_signs, .ref qt_pad, .int v_freeAt, .int v_freeWho, .int v_reason, .int (v_acts + (1 : Int32)), .ref qt_gets, .ref qt_counts, .ref qt_worth, .ref qt_ways, .ref qt_image, .ref qt_isKept])), (qt_book, .inl (cI, 43, .inl v_book)), (qt_now, .inl (cI, 43, .inl v_now)), (qt_flakes, .inl (cI, 8, .inl v_flakes)), (qt_leaks, .inl (cI, 8, .inl v_leaks)), (qt_pad, .inl (cI, 60, .inl v_pad))] H) (hD : va_D A [(qt, .inr (9, [.ref qt_book, .ref qt_now, .ref qt_flakes, .ref qt_leaks, .int v_music, .ref qt_ranks, .int v_sights, .ref qt_sight, .int v_signs, .ref qt_pad, .int v_freeAt, .int v_freeWho, .int v_reason, .int (v_acts + (1 : Int32)), .ref qt_gets, .ref qt_counts, .ref qt_worth, .ref qt_ways, .ref qt_image, .ref qt_isKept])), (qt_book, .inl (cI, 43, .inl v_book)), (qt_now, .inl (cI, 43, .inl v_now)), (qt_flakes, .inl (cI, 8, .inl v_flakes)), (qt_leaks, .inl (cI, 8, .inl v_leaks)), (qt_pad, .inl (cI, 60, .inl v_pad))]) hS => ?_)
        refine lv_goto (tgt := 11) hx hb dX10_goReigns_189 (by decide) ?_
        exact ih11 v_now v_freeAt v_freeWho v_reason (v_acts + (1 : Int32)) x1 H locs ls hP hD hS hl h
      have hL135 : ∀ (n135 : Nat), ∀ (v_now : (Nat → Int32)) (v_freeAt : Int32) (v_freeWho : Int32) (v_reason : Int32) (v_acts : Int32) (x1 : Int32) (x4 : Int32) (x5 : Int32) (H : Heap) (locs : List Loc) (ls : Array Slot), va_P D vwCl [(qt, .inr (9, [.ref qt_book, .ref qt_now, .ref qt_flakes, .ref qt_leaks, .int v_music, .ref qt_ranks, .int v_sights, .ref qt_sight, .int v_signs, .ref qt_pad, .int v_freeAt, .int v_freeWho, .int v_reason, .int v_acts, .ref qt_gets, .ref qt_counts, .ref qt_worth, .ref qt_ways, .ref qt_image, .ref qt_isKept])), (qt_book, .inl (cI, 43, .inl v_book)), (qt_now, .inl (cI, 43, .inl v_now)), (qt_flakes, .inl (cI, 8, .inl v_flakes)), (qt_leaks, .inl (cI, 8, .inl v_leaks)), (qt_pad, .inl (cI, 60, .inl v_pad))] H → va_D A [(qt, .inr (9, [.ref qt_book, .ref qt_now, .ref qt_flakes, .ref qt_leaks, .int v_music, .ref qt_ranks, .int v_sights, .ref qt_sight, .int v_signs, .ref qt_pad, .int v_freeAt, .int v_freeWho, .int v_reason, .int v_acts, .ref qt_gets, .ref qt_counts, .ref qt_worth, .ref qt_ways, .ref qt_image, .ref qt_isKept])), (qt_book, .inl (cI, 43, .inl v_book)), (qt_now, .inl (cI, 43, .inl v_now)), (qt_flakes, .inl (cI, 8, .inl v_flakes)), (qt_leaks, .inl (cI, 8, .inl v_leaks)), (qt_pad, .inl (cI, 60, .inl v_pad))] → va_S A s.heap H locs → lv_has ls 6 [(0, .ref qt), (1, .int x1), (4, .int x4), (5, .int x5)] → L_X10_goReigns_135 v_book v_flakes v_leaks v_music v_signs v_pad (L_X10_goReigns_11 v_book v_flakes v_leaks v_music v_signs v_pad n11) n135 v_now v_freeAt v_freeWho v_reason v_acts x1 x4 x5 = some (r, w_now, w_freeAt, w_freeWho, w_reason, w_acts) → W p l e rm_X10_goReigns s m args below meth c H locs 0 0 QQ (F0 m 135 ls []) := by
        intro n135
        induction n135 with
        | zero =>
          intro v_now v_freeAt v_freeWho v_reason v_acts x1 x4 x5 H locs ls hP hD hS hl h
          have h : none = some (r, w_now, w_freeAt, w_freeWho, w_reason, w_acts) := h
          cases h
        | succ n135 ih135 =>
          intro v_now v_freeAt v_freeWho v_reason v_acts x1 x4 x5 H locs ls hP hD hS hl h
          rw [L_X10_goReigns_135.eq_2] at h
          refine lv_iload hx hb dX10_goReigns_135 (lv_at hl 3 rfl) ?_
          refine lv_bipush (v := 8) hx hb dX10_goReigns_137 (by decide) ?_
          refine lv_icmp_ge (tgt := 179) hx hb dX10_goReigns_139 (by decide) (fun hc => ?_) (fun hc => ?_)
          · have h := if_t hc h
            exact hB179 v_now v_freeAt v_freeWho v_reason v_acts x1 H locs ls hP hD hS (lv_sub hl [0, 1] rfl) h
          · have h := if_f hc h
            refine lv_aload_n hx hb dX10_goReigns_142 rfl (lv_at hl 0 rfl) ?_
            refine va_get (D := D) (ci := 9) (C := RX10) (T := TX10) (N := 20) hx hb hts (fun _ hw => (List.mem_cons_of_mem _ (List.mem_append_right _ hw))) hown hE.1 hP 0 rfl rfl 10 (by decide) (hts (.fieldLink RX10 87 "GlobeCrownModel" "freeAt" "I") (List.mem_cons_of_mem _ (List.mem_append_left _ (List.mem_append_left _ (List.mem_of_getElem? (i := 4) rfl))))) (fun _ h9 => h9) rfl dX10_goReigns_143 ?_
            refine lv_if_ge (tgt := 179) hx hb dX10_goReigns_146 (by decide) (fun hc => ?_) (fun hc => ?_)
            · have h := if_t hc h
              exact hB179 v_now v_freeAt v_freeWho v_reason v_acts x1 H locs ls hP hD hS (lv_sub hl [0, 1] rfl) h
            · have h := if_f hc h
              refine lv_iload hx hb dX10_goReigns_149 (lv_at hl 2 rfl) ?_
              refine lv_iload hx hb dX10_goReigns_151 (lv_at hl 3 rfl) ?_
              obtain ⟨r153, hc153, h⟩ := bd1_some h
              refine gw_ci (wr := [(qt, .inr (9, [.ref qt_book, .ref qt_now, .ref qt_flakes, .ref qt_leaks, .int v_music, .ref qt_ranks, .int v_sights, .ref qt_sight, .int v_signs, .ref qt_pad, .int v_freeAt, .int v_freeWho, .int v_reason, .int v_acts, .ref qt_gets, .ref qt_counts, .ref qt_worth, .ref qt_ways, .ref qt_image, .ref qt_isKept])), (qt_book, .inl (cI, 43, .inl v_book)), (qt_now, .inl (cI, 43, .inl v_now)), (qt_flakes, .inl (cI, 8, .inl v_flakes)), (qt_leaks, .inl (cI, 8, .inl v_leaks)), (qt_pad, .inl (cI, 60, .inl v_pad))]) (w2 := [(qt, .inr (9, [.ref qt_book, .ref qt_now, .ref qt_flakes, .ref qt_leaks, .int v_music, .ref qt_ranks, .int v_sights, .ref qt_sight, .int v_signs, .ref qt_pad, .int v_freeAt, .int v_freeWho, .int v_reason, .int v_acts, .ref qt_gets, .ref qt_counts, .ref qt_worth, .ref qt_ways, .ref qt_image, .ref qt_isKept])), (qt_book, .inl (cI, 43, .inl v_book)), (qt_now, .inl (cI, 43, .inl v_now)), (qt_flakes, .inl (cI, 8, .inl v_flakes)), (qt_leaks, .inl (cI, 8, .inl v_leaks)), (qt_pad, .inl (cI, 60, .inl v_pad))]) (gw_rS (n := 2) ⟨hx, hb, hml, hown, hts⟩ (C_X10_has l D cI cJ cZ H.size x4 x5 r153 hc153) gX10_goReigns_X10_has rfl rfl rfl hdS_X10_has ⟨Nat.le_of_ble_eq_true rfl, Nat.le_of_ble_eq_true rfl⟩ hE (hP.sub [] rfl) (hD.sub [] (by decide) rfl) rfl hl.1 (rest := []) rfl (Nat.le_of_ble_eq_true rfl) dX10_goReigns_153 ⟨Nat.zero_le _, Nat.zero_le _⟩) hP hD hS hA [] [0, 1, 2, 3, 4, 5] rfl rfl rfl (by decide) rfl (fun H locs hP hD hS => ?_)
              refine lv_if_eq (tgt := 173) hx hb dX10_goReigns_156 (by decide) (fun hc => ?_) (fun hc => ?_)
              · have h := if_t hc h
                refine lv_iinc (v := (x5 + (1 : Int32))) (lv' := [(5, .int (x5 + (1 : Int32))), (0, .ref qt), (1, .int x1), (4, .int x4)]) hx hb dX10_goReigns_173 hl (k := 3) rfl rfl (by decide) rfl (fun ls hl => ?_)
                refine lv_goto (tgt := 135) hx hb dX10_goReigns_176 (by decide) ?_
                exact ih135 v_now v_freeAt v_freeWho v_reason v_acts x1 x4 (x5 + (1 : Int32)) H locs ls hP hD hS (lv_sub hl [1, 2, 3, 0] rfl) h
              · have h := if_f hc h
                refine lv_aload_n hx hb dX10_goReigns_159 rfl (lv_at hl 0 rfl) ?_
                refine lv_aload_n hx hb dX10_goReigns_160 rfl (lv_at hl 0 rfl) ?_
                refine va_get (D := D) (ci := 9) (C := RX10) (T := TX10) (N := 20) hx hb hts (fun _ hw => (List.mem_cons_of_mem _ (List.mem_append_right _ hw))) hown hE.1 hP 0 rfl rfl 13 (by decide) (hts (.fieldLink RX10 115 "GlobeCrownModel" "acts" "I") (List.mem_cons_of_mem _ (List.mem_append_left _ (List.mem_append_left _ (List.mem_of_getElem? (i := 0) rfl))))) (fun _ h9 => h9) rfl dX10_goReigns_161 ?_
                refine va_put (D := D) (ci := 9) (v := .int v_acts) (ty := .int) (C := RX10) (T := TX10) (N := 20) hx hb hts (fun _ hw => (List.mem_cons_of_mem _ (List.mem_append_right _ hw))) tyX10 tyX10_ok nmX10 hown hE.1 hP hD hS 0 rfl rfl 10 (by decide) (hts (.fieldLink RX10 87 "GlobeCrownModel" "freeAt" "I") (List.mem_cons_of_mem _ (List.mem_append_left _ (List.mem_append_left _ (List.mem_of_getElem? (i := 4) rfl))))) (fun _ h9 => h9) rfl (tyX10_ok 10 (by decide)) rfl rfl (Nat.le_of_ble_eq_true rfl) dX10_goReigns_164 (fun H locs (hP : va_P D vwCl [(qt, .inr (9, [.ref qt_book, .ref qt_now, .ref qt_flakes, .ref qt_leaks, .int v_music, .ref qt_ranks, .int v_sights, .ref qt_sight, .int v_signs, .ref qt_pad, .int v_acts, .int v_freeWho, .int v_reason, .int v_acts, .ref qt_gets, .ref qt_counts, .ref qt_worth, .ref qt_ways, .ref qt_image, .ref qt_isKept])), (qt_book, .inl (cI, 43, .inl v_book)), (qt_now, .inl (cI, 43, .inl v_now)), (qt_flakes, .inl (cI, 8, .inl v_flakes)), (qt_leaks, .inl (cI, 8, .inl v_leaks)), (qt_pad, .inl (cI, 60, .inl v_pad))] H) (hD : va_D A [(qt, .inr (9, [.ref qt_book, .ref qt_now, .ref qt_flakes, .ref qt_leaks, .int v_music, .ref qt_ranks, .int v_sights, .ref qt_sight, .int v_signs, .ref qt_pad, .int v_acts, .int v_freeWho, .int v_reason, .int v_acts, .ref qt_gets, .ref qt_counts, .ref qt_worth, .ref qt_ways, .ref qt_image, .ref qt_isKept])), (qt_book, .inl (cI, 43, .inl v_book)), (qt_now, .inl (cI, 43, .inl v_now)), (qt_flakes, .inl (cI, 8, .inl v_flakes)), (qt_leaks, .inl (cI, 8, .inl v_leaks)), (qt_pad, .inl (cI, 60, .inl v_pad))]) hS => ?_)
                refine lv_aload_n hx hb dX10_goReigns_167 rfl (lv_at hl 0 rfl) ?_
                refine lv_iload hx hb dX10_goReigns_168 (lv_at hl 3 rfl) ?_
                refine va_put (D := D) (ci := 9) (v := .int x5) (ty := .int) (C := RX10) (T := TX10) (N := 20) hx hb hts (fun _ hw => (List.mem_cons_of_mem _ (List.mem_append_right _ hw))) tyX10 tyX10_ok nmX10 hown hE.1 hP hD hS 0 rfl rfl 11 (by decide) (hts (.fieldLink RX10 90 "GlobeCrownModel" "freeWho" "I") (List.mem_cons_of_mem _ (List.mem_append_left _ (List.mem_append_left _ (List.mem_of_getElem? (i := 5) rfl))))) (fun _ h9 => h9) rfl (tyX10_ok 11 (by decide)) rfl rfl (Nat.le_of_ble_eq_true rfl) dX10_goReigns_170 (fun H locs (hP : va_P D vwCl [(qt, .inr (9, [.ref qt_book, .ref qt_now, .ref qt_flakes, .ref qt_leaks, .int v_music, .ref qt_ranks, .int v_sights, .ref qt_sight, .int v_signs, .ref qt_pad, .int v_acts, .int x5, .int v_reason, .int v_acts, .ref qt_gets, .ref qt_counts, .ref qt_worth, .ref qt_ways, .ref qt_image, .ref qt_isKept])), (qt_book, .inl (cI, 43, .inl v_book)), (qt_now, .inl (cI, 43, .inl v_now)), (qt_flakes, .inl (cI, 8, .inl v_flakes)), (qt_leaks, .inl (cI, 8, .inl v_leaks)), (qt_pad, .inl (cI, 60, .inl v_pad))] H) (hD : va_D A [(qt, .inr (9, [.ref qt_book, .ref qt_now, .ref qt_flakes, .ref qt_leaks, .int v_music, .ref qt_ranks, .int v_sights, .ref qt_sight, .int v_signs, .ref qt_pad, .int v_acts, .int x5, .int v_reason, .int v_acts, .ref qt_gets, .ref qt_counts, .ref qt_worth, .ref qt_ways, .ref qt_image, .ref qt_isKept])), (qt_book, .inl (cI, 43, .inl v_book)), (qt_now, .inl (cI, 43, .inl v_now)), (qt_flakes, .inl (cI, 8, .inl v_flakes)), (qt_leaks, .inl (cI, 8, .inl v_leaks)), (qt_pad, .inl (cI, 60, .inl v_pad))]) hS => ?_)
                refine lv_iinc (v := (x5 + (1 : Int32))) (lv' := [(5, .int (x5 + (1 : Int32))), (0, .ref qt), (1, .int x1), (4, .int x4)]) hx hb dX10_goReigns_173 hl (k := 3) rfl rfl (by decide) rfl (fun ls hl => ?_)
                refine lv_goto (tgt := 135) hx hb dX10_goReigns_176 (by decide) ?_
                exact ih135 v_now v_acts x5 v_reason v_acts x1 x4 (x5 + (1 : Int32)) H locs ls hP hD hS (lv_sub hl [1, 2, 3, 0] rfl) h
      have hB110 : ∀ (v_now : (Nat → Int32)) (v_freeAt : Int32) (v_freeWho : Int32) (v_reason : Int32) (v_acts : Int32) (x1 : Int32) (x2 : Int32) (H : Heap) (locs : List Loc) (ls : Array Slot), va_P D vwCl [(qt, .inr (9, [.ref qt_book, .ref qt_now, .ref qt_flakes, .ref qt_leaks, .int v_music, .ref qt_ranks, .int v_sights, .ref qt_sight, .int v_signs, .ref qt_pad, .int v_freeAt, .int v_freeWho, .int v_reason, .int v_acts, .ref qt_gets, .ref qt_counts, .ref qt_worth, .ref qt_ways, .ref qt_image, .ref qt_isKept])), (qt_book, .inl (cI, 43, .inl v_book)), (qt_now, .inl (cI, 43, .inl v_now)), (qt_flakes, .inl (cI, 8, .inl v_flakes)), (qt_leaks, .inl (cI, 8, .inl v_leaks)), (qt_pad, .inl (cI, 60, .inl v_pad))] H → va_D A [(qt, .inr (9, [.ref qt_book, .ref qt_now, .ref qt_flakes, .ref qt_leaks, .int v_music, .ref qt_ranks, .int v_sights, .ref qt_sight, .int v_signs, .ref qt_pad, .int v_freeAt, .int v_freeWho, .int v_reason, .int v_acts, .ref qt_gets, .ref qt_counts, .ref qt_worth, .ref qt_ways, .ref qt_image, .ref qt_isKept])), (qt_book, .inl (cI, 43, .inl v_book)), (qt_now, .inl (cI, 43, .inl v_now)), (qt_flakes, .inl (cI, 8, .inl v_flakes)), (qt_leaks, .inl (cI, 8, .inl v_leaks)), (qt_pad, .inl (cI, 60, .inl v_pad))] → va_S A s.heap H locs → lv_has ls 6 [(0, .ref qt), (1, .int x1), (2, .int x2)] → B_X10_goReigns_110 v_book v_flakes v_leaks v_music v_signs v_pad (L_X10_goReigns_11 v_book v_flakes v_leaks v_music v_signs v_pad n11) v_now v_freeAt v_freeWho v_reason v_acts x1 x2 = some (r, w_now, w_freeAt, w_freeWho, w_reason, w_acts) → W p l e rm_X10_goReigns s m args below meth c H locs 0 0 QQ (F0 m 110 ls []) := by
        intro v_now v_freeAt v_freeWho v_reason v_acts x1 x2 H locs ls hP hD hS hl h
        unfold B_X10_goReigns_110 at h
        refine lv_aload_n hx hb dX10_goReigns_110 rfl (lv_at hl 0 rfl) ?_
        refine va_get (D := D) (ci := 9) (C := RX10) (T := TX10) (N := 20) hx hb hts (fun _ hw => (List.mem_cons_of_mem _ (List.mem_append_right _ hw))) hown hE.1 hP 0 rfl rfl 12 (by decide) (hts (.fieldLink RX10 124 "GlobeCrownModel" "reason" "I") (List.mem_cons_of_mem _ (List.mem_append_left _ (List.mem_append_left _ (List.mem_of_getElem? (i := 3) rfl))))) (fun _ h9 => h9) rfl dX10_goReigns_111 ?_
        refine lv_if_le (tgt := 122) hx hb dX10_goReigns_114 (by decide) (fun hc => ?_) (fun hc => ?_)
        · have h := if_t hc h
          refine lv_aload_n hx hb dX10_goReigns_122 rfl (lv_at hl 0 rfl) ?_
          obtain ⟨r123, hc123, h⟩ := bd1_some h
          refine gw_ci (wr := [(qt_book, .inl (cI, 43, .inl v_book)), (qt_flakes, .inl (cI, 8, .inl v_flakes)), (qt_leaks, .inl (cI, 8, .inl v_leaks)), (qt_pad, .inl (cI, 60, .inl v_pad))]) (w2 := [(qt_book, .inl (cI, 43, .inl v_book)), (qt_flakes, .inl (cI, 8, .inl v_flakes)), (qt_leaks, .inl (cI, 8, .inl v_leaks)), (qt_pad, .inl (cI, 60, .inl v_pad)), (qt, .inr (9, [.ref qt_book, .ref qt_now, .ref qt_flakes, .ref qt_leaks, .int v_music, .ref qt_ranks, .int v_sights, .ref qt_sight, .int v_signs, .ref qt_pad, .int v_freeAt, .int v_freeWho, .int v_reason, .int v_acts, .ref qt_gets, .ref qt_counts, .ref qt_worth, .ref qt_ways, .ref qt_image, .ref qt_isKept])), (qt_now, .inl (cI, 43, .inl v_now))]) (gw_rV (n := 0) ⟨hx, hb, hml, hown, hts⟩ (C_X10_freeOnes l D cI cJ cZ H.size qt qt_book qt_now qt_flakes qt_leaks qt_ranks qt_sight qt_pad qt_gets qt_counts qt_worth qt_ways qt_image qt_isKept v_now v_music v_sights v_signs v_freeAt v_freeWho v_reason v_acts r123 hc123) gX10_goReigns_X10_freeOnes rfl rfl rfl hdV_X10_freeOnes ⟨Nat.le_of_ble_eq_true rfl, Nat.le_of_ble_eq_true rfl⟩ hE (hP.sub [0, 2] rfl) (hD.sub [0, 2] (by decide) rfl) 9 rfl 0 rfl rfl hl.1 (rest := []) rfl (Nat.le_of_ble_eq_true rfl) dX10_goReigns_123 ⟨Nat.zero_le _, Nat.zero_le _⟩) hP hD hS hA [0, 2] [1, 3, 4, 5] rfl rfl rfl (by decide) rfl (fun H locs hP hD hS => ?_)
          refine lv_iload_n hx hb dX10_goReigns_126 rfl (lv_at hl 2 rfl) ?_
          refine lv_iconst (v := -1) hx hb dX10_goReigns_127 (by decide) ?_
          refine lv_ixor hx hb dX10_goReigns_128 ?_
          refine lv_iand hx hb dX10_goReigns_129 ?_
          refine lv_istore (lv' := [(4, .int (r123 &&& (x2 ^^^ (-1 : Int32)))), (0, .ref qt), (1, .int x1), (2, .int x2)]) hx hb dX10_goReigns_130 hl (by decide) rfl (fun ls hl => ?_)
          refine lv_iconst (v := 0) hx hb dX10_goReigns_132 (by decide) ?_
          refine lv_istore (lv' := [(5, .int (0 : Int32)), (4, .int (r123 &&& (x2 ^^^ (-1 : Int32)))), (0, .ref qt), (1, .int x1), (2, .int x2)]) hx hb dX10_goReigns_133 hl (by decide) rfl (fun ls hl => ?_)
          exact hL135 FU v_now v_freeAt v_freeWho v_reason v_acts x1 (r123 &&& (x2 ^^^ (-1 : Int32))) (0 : Int32) H locs ls (hP.sub [4, 0, 5, 1, 2, 3] rfl) (hD.sub [4, 0, 5, 1, 2, 3] (by decide) rfl) hS (lv_sub hl [2, 3, 1, 0] rfl) h
        · have h := if_f hc h
          refine lv_aload_n hx hb dX10_goReigns_117 rfl (lv_at hl 0 rfl) ?_
          refine va_get (D := D) (ci := 9) (C := RX10) (T := TX10) (N := 20) hx hb hts (fun _ hw => (List.mem_cons_of_mem _ (List.mem_append_right _ hw))) hown hE.1 hP 0 rfl rfl 13 (by decide) (hts (.fieldLink RX10 115 "GlobeCrownModel" "acts" "I") (List.mem_cons_of_mem _ (List.mem_append_left _ (List.mem_append_left _ (List.mem_of_getElem? (i := 0) rfl))))) (fun _ h9 => h9) rfl dX10_goReigns_118 ?_
          cases h
          rw [hQQ]
          exact gw_iret hx hb hr hlocks hP hD hS dX10_goReigns_121
      have hB108 : ∀ (v_now : (Nat → Int32)) (v_freeAt : Int32) (v_freeWho : Int32) (v_reason : Int32) (v_acts : Int32) (x2 : Int32) (s0 : Int32) (s1 : Int32) (H : Heap) (locs : List Loc) (ls : Array Slot), va_P D vwCl [(qt, .inr (9, [.ref qt_book, .ref qt_now, .ref qt_flakes, .ref qt_leaks, .int v_music, .ref qt_ranks, .int v_sights, .ref qt_sight, .int v_signs, .ref qt_pad, .int v_freeAt, .int v_freeWho, .int v_reason, .int v_acts, .ref qt_gets, .ref qt_counts, .ref qt_worth, .ref qt_ways, .ref qt_image, .ref qt_isKept])), (qt_book, .inl (cI, 43, .inl v_book)), (qt_now, .inl (cI, 43, .inl v_now)), (qt_flakes, .inl (cI, 8, .inl v_flakes)), (qt_leaks, .inl (cI, 8, .inl v_leaks)), (qt_pad, .inl (cI, 60, .inl v_pad))] H → va_D A [(qt, .inr (9, [.ref qt_book, .ref qt_now, .ref qt_flakes, .ref qt_leaks, .int v_music, .ref qt_ranks, .int v_sights, .ref qt_sight, .int v_signs, .ref qt_pad, .int v_freeAt, .int v_freeWho, .int v_reason, .int v_acts, .ref qt_gets, .ref qt_counts, .ref qt_worth, .ref qt_ways, .ref qt_image, .ref qt_isKept])), (qt_book, .inl (cI, 43, .inl v_book)), (qt_now, .inl (cI, 43, .inl v_now)), (qt_flakes, .inl (cI, 8, .inl v_flakes)), (qt_leaks, .inl (cI, 8, .inl v_leaks)), (qt_pad, .inl (cI, 60, .inl v_pad))] → va_S A s.heap H locs → lv_has ls 6 [(0, .ref qt), (2, .int x2)] → B_X10_goReigns_108 v_book v_flakes v_leaks v_music v_signs v_pad (L_X10_goReigns_11 v_book v_flakes v_leaks v_music v_signs v_pad n11) v_now v_freeAt v_freeWho v_reason v_acts x2 s0 s1 = some (r, w_now, w_freeAt, w_freeWho, w_reason, w_acts) → W p l e rm_X10_goReigns s m args below meth c H locs 0 0 QQ (F0 m 108 ls [.int s0, .int s1]) := by
        intro v_now v_freeAt v_freeWho v_reason v_acts x2 s0 s1 H locs ls hP hD hS hl h
        unfold B_X10_goReigns_108 at h
        refine lv_iadd hx hb dX10_goReigns_108 ?_
        refine lv_istore_n (lv' := [(1, .int (s1 + s0)), (0, .ref qt), (2, .int x2)]) hx hb dX10_goReigns_109 rfl hl (by decide) rfl (fun ls hl => ?_)
        exact hB110 v_now v_freeAt v_freeWho v_reason v_acts (s1 + s0) x2 H locs ls hP hD hS (lv_sub hl [1, 0, 2] rfl) h
      have hB89 : ∀ (v_now : (Nat → Int32)) (v_freeAt : Int32) (v_freeWho : Int32) (v_reason : Int32) (v_acts : Int32) (x1 : Int32) (x2 : Int32) (x4 : Int32) (s0 : Int32) (s1 : Int32) (s2 : Int32) (H : Heap) (locs : List Loc) (ls : Array Slot), va_P D vwCl [(qt, .inr (9, [.ref qt_book, .ref qt_now, .ref qt_flakes, .ref qt_leaks, .int v_music, .ref qt_ranks, .int v_sights, .ref qt_sight, .int v_signs, .ref qt_pad, .int v_freeAt, .int v_freeWho, .int v_reason, .int v_acts, .ref qt_gets, .ref qt_counts, .ref qt_worth, .ref qt_ways, .ref qt_image, .ref qt_isKept])), (qt_book, .inl (cI, 43, .inl v_book)), (qt_now, .inl (cI, 43, .inl v_now)), (qt_flakes, .inl (cI, 8, .inl v_flakes)), (qt_leaks, .inl (cI, 8, .inl v_leaks)), (qt_pad, .inl (cI, 60, .inl v_pad))] H → va_D A [(qt, .inr (9, [.ref qt_book, .ref qt_now, .ref qt_flakes, .ref qt_leaks, .int v_music, .ref qt_ranks, .int v_sights, .ref qt_sight, .int v_signs, .ref qt_pad, .int v_freeAt, .int v_freeWho, .int v_reason, .int v_acts, .ref qt_gets, .ref qt_counts, .ref qt_worth, .ref qt_ways, .ref qt_image, .ref qt_isKept])), (qt_book, .inl (cI, 43, .inl v_book)), (qt_now, .inl (cI, 43, .inl v_now)), (qt_flakes, .inl (cI, 8, .inl v_flakes)), (qt_leaks, .inl (cI, 8, .inl v_leaks)), (qt_pad, .inl (cI, 60, .inl v_pad))] → va_S A s.heap H locs → lv_has ls 6 [(0, .ref qt), (1, .int x1), (2, .int x2), (4, .int x4)] → B_X10_goReigns_89 v_book v_flakes v_leaks v_music v_signs v_pad (L_X10_goReigns_11 v_book v_flakes v_leaks v_music v_signs v_pad n11) v_now v_freeAt v_freeWho v_reason v_acts x1 x2 x4 s0 s1 s2 = some (r, w_now, w_freeAt, w_freeWho, w_reason, w_acts) → W p l e rm_X10_goReigns s m args below meth c H locs 0 0 QQ (F0 m 89 ls [.int s0, .int s1, .int s2, .ref qt, .ref qt]) := by
        intro v_now v_freeAt v_freeWho v_reason v_acts x1 x2 x4 s0 s1 s2 H locs ls hP hD hS hl h
        unfold B_X10_goReigns_89 at h
        obtain ⟨r89, u89v_now, hc89, h⟩ := bd2_some h
        refine gw_ci (wr := [(qt_book, .inl (cI, 43, .inl v_book)), (qt_leaks, .inl (cI, 8, .inl v_leaks)), (qt_pad, .inl (cI, 60, .inl v_pad))]) (w2 := [(qt_book, .inl (cI, 43, .inl v_book)), (qt_leaks, .inl (cI, 8, .inl v_leaks)), (qt_pad, .inl (cI, 60, .inl v_pad)), (qt, .inr (9, [.ref qt_book, .ref qt_now, .ref qt_flakes, .ref qt_leaks, .int v_music, .ref qt_ranks, .int v_sights, .ref qt_sight, .int v_signs, .ref qt_pad, .int v_freeAt, .int v_freeWho, .int v_reason, .int v_acts, .ref qt_gets, .ref qt_counts, .ref qt_worth, .ref qt_ways, .ref qt_image, .ref qt_isKept])), (qt_now, .inl (cI, 43, .inl u89v_now)), (qt_flakes, .inl (cI, 8, .inl v_flakes))]) (gw_rV (n := 3) ⟨hx, hb, hml, hown, hts⟩ (C_X10_globeAct l D cI cJ cZ H.size qt qt_book qt_now qt_flakes qt_leaks qt_ranks qt_sight qt_pad qt_gets qt_counts qt_worth qt_ways qt_image qt_isKept v_now v_flakes v_music v_sights v_signs v_freeAt v_freeWho v_reason v_acts s2 s1 s0 r89 u89v_now hc89) gX10_goReigns_X10_globeAct rfl rfl rfl hdV_X10_globeAct ⟨Nat.le_of_ble_eq_true rfl, Nat.le_of_ble_eq_true rfl⟩ hE (hP.sub [0, 2, 3] rfl) (hD.sub [0, 2, 3] (by decide) rfl) 9 rfl 0 rfl rfl hl.1 (rest := [.ref qt]) rfl (Nat.le_of_ble_eq_true rfl) dX10_goReigns_89 ⟨Nat.zero_le _, Nat.zero_le _⟩) hP hD hS hA [0, 2, 3] [1, 4, 5] rfl rfl rfl (by decide) rfl (fun H locs hP hD hS => ?_)
        refine va_put (D := D) (ci := 9) (v := .int r89) (ty := .int) (C := RX10) (T := TX10) (N := 20) hx hb hts (fun _ hw => (List.mem_cons_of_mem _ (List.mem_append_right _ hw))) tyX10 tyX10_ok nmX10 hown hE.1 hP hD hS 3 rfl rfl 12 (by decide) (hts (.fieldLink RX10 124 "GlobeCrownModel" "reason" "I") (List.mem_cons_of_mem _ (List.mem_append_left _ (List.mem_append_left _ (List.mem_of_getElem? (i := 3) rfl))))) (fun _ h9 => h9) rfl (tyX10_ok 12 (by decide)) rfl rfl (Nat.le_of_ble_eq_true rfl) dX10_goReigns_92 (fun H locs (hP : va_P D vwCl [(qt_book, .inl (cI, 43, .inl v_book)), (qt_leaks, .inl (cI, 8, .inl v_leaks)), (qt_pad, .inl (cI, 60, .inl v_pad)), (qt, .inr (9, [.ref qt_book, .ref qt_now, .ref qt_flakes, .ref qt_leaks, .int v_music, .ref qt_ranks, .int v_sights, .ref qt_sight, .int v_signs, .ref qt_pad, .int v_freeAt, .int v_freeWho, .int r89, .int v_acts, .ref qt_gets, .ref qt_counts, .ref qt_worth, .ref qt_ways, .ref qt_image, .ref qt_isKept])), (qt_now, .inl (cI, 43, .inl u89v_now)), (qt_flakes, .inl (cI, 8, .inl v_flakes))] H) (hD : va_D A [(qt_book, .inl (cI, 43, .inl v_book)), (qt_leaks, .inl (cI, 8, .inl v_leaks)), (qt_pad, .inl (cI, 60, .inl v_pad)), (qt, .inr (9, [.ref qt_book, .ref qt_now, .ref qt_flakes, .ref qt_leaks, .int v_music, .ref qt_ranks, .int v_sights, .ref qt_sight, .int v_signs, .ref qt_pad, .int v_freeAt, .int v_freeWho, .int r89, .int v_acts, .ref qt_gets, .ref qt_counts, .ref qt_worth, .ref qt_ways, .ref qt_image, .ref qt_isKept])), (qt_now, .inl (cI, 43, .inl u89v_now)), (qt_flakes, .inl (cI, 8, .inl v_flakes))]) hS => ?_)
        refine lv_iload_n hx hb dX10_goReigns_95 rfl (lv_at hl 1 rfl) ?_
        refine lv_iload hx hb dX10_goReigns_96 (lv_at hl 3 rfl) ?_
        refine lv_bipush (v := 62) hx hb dX10_goReigns_98 (by decide) ?_
        refine lv_icmp_ne (tgt := 107) hx hb dX10_goReigns_100 (by decide) (fun hc => ?_) (fun hc => ?_)
        · have h := if_f hc h
          refine lv_iconst (v := 2) hx hb dX10_goReigns_107 (by decide) ?_
          exact hB108 u89v_now v_freeAt v_freeWho r89 v_acts x2 (2 : Int32) x1 H locs ls (hP.sub [3, 0, 4, 5, 1, 2] rfl) (hD.sub [3, 0, 4, 5, 1, 2] (by decide) rfl) hS (lv_sub hl [0, 2] rfl) h
        · have h := if_t hc h
          refine lv_iconst (v := 3) hx hb dX10_goReigns_103 (by decide) ?_
          refine lv_goto (tgt := 108) hx hb dX10_goReigns_104 (by decide) ?_
          exact hB108 u89v_now v_freeAt v_freeWho r89 v_acts x2 (3 : Int32) x1 H locs ls (hP.sub [3, 0, 4, 5, 1, 2] rfl) (hD.sub [3, 0, 4, 5, 1, 2] (by decide) rfl) hS (lv_sub hl [0, 2] rfl) h
      intro v_now v_freeAt v_freeWho v_reason v_acts x1 H locs ls hP hD hS hl h
      rw [L_X10_goReigns_11.eq_2] at h
      refine lv_iload_n hx hb dX10_goReigns_11 rfl (lv_at hl 1 rfl) ?_
      refine lv_aload_n hx hb dX10_goReigns_12 rfl (lv_at hl 0 rfl) ?_
      refine va_get (D := D) (ci := 9) (C := RX10) (T := TX10) (N := 20) hx hb hts (fun _ hw => (List.mem_cons_of_mem _ (List.mem_append_right _ hw))) hown hE.1 hP 0 rfl rfl 8 (by decide) (hts (.fieldLink RX10 77 "GlobeCrownModel" "signs" "I") (List.mem_cons_of_mem _ (List.mem_append_left _ (List.mem_append_left _ (List.mem_of_getElem? (i := 1) rfl))))) (fun _ h9 => h9) rfl dX10_goReigns_13 ?_
      refine lv_icmp_ge (tgt := 192) hx hb dX10_goReigns_16 (by decide) (fun hc => ?_) (fun hc => ?_)
      · have h := if_t hc h
        refine lv_bipush (v := -6) hx hb dX10_goReigns_192 (by decide) ?_
        cases h
        rw [hQQ]
        exact gw_iret hx hb hr hlocks hP hD hS dX10_goReigns_194
      · have h := if_f hc h
        refine lv_aload_n hx hb dX10_goReigns_19 rfl (lv_at hl 0 rfl) ?_
        obtain ⟨r20, hc20, h⟩ := bd1_some h
        refine gw_ci (wr := [(qt_book, .inl (cI, 43, .inl v_book)), (qt_flakes, .inl (cI, 8, .inl v_flakes)), (qt_leaks, .inl (cI, 8, .inl v_leaks)), (qt_pad, .inl (cI, 60, .inl v_pad))]) (w2 := [(qt_book, .inl (cI, 43, .inl v_book)), (qt_flakes, .inl (cI, 8, .inl v_flakes)), (qt_leaks, .inl (cI, 8, .inl v_leaks)), (qt_pad, .inl (cI, 60, .inl v_pad)), (qt, .inr (9, [.ref qt_book, .ref qt_now, .ref qt_flakes, .ref qt_leaks, .int v_music, .ref qt_ranks, .int v_sights, .ref qt_sight, .int v_signs, .ref qt_pad, .int v_freeAt, .int v_freeWho, .int v_reason, .int v_acts, .ref qt_gets, .ref qt_counts, .ref qt_worth, .ref qt_ways, .ref qt_image, .ref qt_isKept])), (qt_now, .inl (cI, 43, .inl v_now))]) (gw_rV (n := 0) ⟨hx, hb, hml, hown, hts⟩ (C_X10_freeOnes l D cI cJ cZ H.size qt qt_book qt_now qt_flakes qt_leaks qt_ranks qt_sight qt_pad qt_gets qt_counts qt_worth qt_ways qt_image qt_isKept v_now v_music v_sights v_signs v_freeAt v_freeWho v_reason v_acts r20 hc20) gX10_goReigns_X10_freeOnes rfl rfl rfl hdV_X10_freeOnes ⟨Nat.le_of_ble_eq_true rfl, Nat.le_of_ble_eq_true rfl⟩ hE (hP.sub [0, 2] rfl) (hD.sub [0, 2] (by decide) rfl) 9 rfl 0 rfl rfl hl.1 (rest := []) rfl (Nat.le_of_ble_eq_true rfl) dX10_goReigns_20 ⟨Nat.zero_le _, Nat.zero_le _⟩) hP hD hS hA [0, 2] [1, 3, 4, 5] rfl rfl rfl (by decide) rfl (fun H locs hP hD hS => ?_)
        refine lv_istore_n (lv' := [(2, .int r20), (0, .ref qt), (1, .int x1)]) hx hb dX10_goReigns_23 rfl hl (by decide) rfl (fun ls hl => ?_)
        refine lv_aload_n hx hb dX10_goReigns_24 rfl (lv_at hl 1 rfl) ?_
        refine va_get (D := D) (ci := 9) (C := RX10) (T := TX10) (N := 20) hx hb hts (fun _ hw => (List.mem_cons_of_mem _ (List.mem_append_right _ hw))) hown hE.1 hP 4 rfl rfl 9 (by decide) (hts (.fieldLink RX10 28 "GlobeCrownModel" "pad" "[I") (List.mem_cons_of_mem _ (List.mem_append_left _ (List.mem_append_left _ (List.mem_of_getElem? (i := 2) rfl))))) (fun _ h9 => h9) rfl dX10_goReigns_25 ?_
        refine lv_iload_n hx hb dX10_goReigns_28 rfl (lv_at hl 2 rfl) ?_
        obtain ⟨hg, h⟩ := gin_some h
        refine va_iald hx hb hE.1 hP 3 0 rfl rfl hg dX10_goReigns_29 ?_
        refine lv_istore_n (lv' := [(3, .int (v_pad (Int32.toNatClampNeg x1))), (2, .int r20), (0, .ref qt), (1, .int x1)]) hx hb dX10_goReigns_30 rfl hl (by decide) rfl (fun ls hl => ?_)
        refine lv_iload_n hx hb dX10_goReigns_31 rfl (lv_at hl 0 rfl) ?_
        refine lv_bipush (v := 46) hx hb dX10_goReigns_32 (by decide) ?_
        refine lv_icmp_ne (tgt := 51) hx hb dX10_goReigns_34 (by decide) (fun hc => ?_) (fun hc => ?_)
        · have h := if_f hc h
          refine lv_aload_n hx hb dX10_goReigns_51 rfl (lv_at hl 2 rfl) ?_
          refine va_get (D := D) (ci := 9) (C := RX10) (T := TX10) (N := 20) hx hb hts (fun _ hw => (List.mem_cons_of_mem _ (List.mem_append_right _ hw))) hown hE.1 hP 4 rfl rfl 9 (by decide) (hts (.fieldLink RX10 28 "GlobeCrownModel" "pad" "[I") (List.mem_cons_of_mem _ (List.mem_append_left _ (List.mem_append_left _ (List.mem_of_getElem? (i := 2) rfl))))) (fun _ h9 => h9) rfl dX10_goReigns_52 ?_
          refine lv_iload_n hx hb dX10_goReigns_55 rfl (lv_at hl 3 rfl) ?_
          refine lv_iconst (v := 1) hx hb dX10_goReigns_56 (by decide) ?_
          refine lv_iadd hx hb dX10_goReigns_57 ?_
          obtain ⟨hg, h⟩ := gin_some h
          refine va_iald hx hb hE.1 hP 3 0 rfl rfl hg dX10_goReigns_58 ?_
          refine lv_istore (lv' := [(4, .int (v_pad (Int32.toNatClampNeg (x1 + (1 : Int32))))), (3, .int (v_pad (Int32.toNatClampNeg x1))), (2, .int r20), (0, .ref qt), (1, .int x1)]) hx hb dX10_goReigns_59 hl (by decide) rfl (fun ls hl => ?_)
          refine lv_aload_n hx hb dX10_goReigns_61 rfl (lv_at hl 3 rfl) ?_
          refine lv_aload_n hx hb dX10_goReigns_62 rfl (lv_at hl 3 rfl) ?_
          refine lv_iload_n hx hb dX10_goReigns_63 rfl (lv_at hl 1 rfl) ?_
          refine lv_bipush (v := 65) hx hb dX10_goReigns_64 (by decide) ?_
          refine lv_isub hx hb dX10_goReigns_66 ?_
          refine lv_iload hx hb dX10_goReigns_67 (lv_at hl 0 rfl) ?_
          refine lv_iload hx hb dX10_goReigns_69 (lv_at hl 0 rfl) ?_
          refine lv_bipush (v := 62) hx hb dX10_goReigns_71 (by decide) ?_
          refine lv_icmp_ne (tgt := 87) hx hb dX10_goReigns_73 (by decide) (fun hc => ?_) (fun hc => ?_)
          · have h := if_f hc h
            refine lv_bipush (v := 65) hx hb dX10_goReigns_87 (by decide) ?_
            exact hB89 v_now v_freeAt v_freeWho v_reason v_acts x1 r20 (v_pad (Int32.toNatClampNeg (x1 + (1 : Int32)))) (65 : Int32) (v_pad (Int32.toNatClampNeg (x1 + (1 : Int32)))) ((v_pad (Int32.toNatClampNeg x1)) - (65 : Int32)) H locs ls (hP.sub [4, 0, 5, 1, 2, 3] rfl) (hD.sub [4, 0, 5, 1, 2, 3] (by decide) rfl) hS (lv_sub hl [3, 4, 2, 0] rfl) h
          · have h := if_t hc h
            refine lv_aload_n hx hb dX10_goReigns_76 rfl (lv_at hl 3 rfl) ?_
            refine va_get (D := D) (ci := 9) (C := RX10) (T := TX10) (N := 20) hx hb hts (fun _ hw => (List.mem_cons_of_mem _ (List.mem_append_right _ hw))) hown hE.1 hP 4 rfl rfl 9 (by decide) (hts (.fieldLink RX10 28 "GlobeCrownModel" "pad" "[I") (List.mem_cons_of_mem _ (List.mem_append_left _ (List.mem_append_left _ (List.mem_of_getElem? (i := 2) rfl))))) (fun _ h9 => h9) rfl dX10_goReigns_77 ?_
            refine lv_iload_n hx hb dX10_goReigns_80 rfl (lv_at hl 4 rfl) ?_
            refine lv_iconst (v := 2) hx hb dX10_goReigns_81 (by decide) ?_
            refine lv_iadd hx hb dX10_goReigns_82 ?_
            obtain ⟨hg, h⟩ := gin_some h
            refine va_iald hx hb hE.1 hP 3 0 rfl rfl hg dX10_goReigns_83 ?_
            refine lv_goto (tgt := 89) hx hb dX10_goReigns_84 (by decide) ?_
            exact hB89 v_now v_freeAt v_freeWho v_reason v_acts x1 r20 (v_pad (Int32.toNatClampNeg (x1 + (1 : Int32)))) (v_pad (Int32.toNatClampNeg (x1 + (2 : Int32)))) (v_pad (Int32.toNatClampNeg (x1 + (1 : Int32)))) ((v_pad (Int32.toNatClampNeg x1)) - (65 : Int32)) H locs ls (hP.sub [4, 0, 5, 1, 2, 3] rfl) (hD.sub [4, 0, 5, 1, 2, 3] (by decide) rfl) hS (lv_sub hl [3, 4, 2, 0] rfl) h
        · have h := if_t hc h
          refine lv_aload_n hx hb dX10_goReigns_37 rfl (lv_at hl 2 rfl) ?_
          refine lv_aload_n hx hb dX10_goReigns_38 rfl (lv_at hl 2 rfl) ?_
          obtain ⟨r39, u39v_now, hc39, h⟩ := bd2_some h
          refine gw_ci (wr := [(qt_book, .inl (cI, 43, .inl v_book)), (qt_flakes, .inl (cI, 8, .inl v_flakes)), (qt_pad, .inl (cI, 60, .inl v_pad))]) (w2 := [(qt_book, .inl (cI, 43, .inl v_book)), (qt_flakes, .inl (cI, 8, .inl v_flakes)), (qt_pad, .inl (cI, 60, .inl v_pad)), (qt, .inr (9, [.ref qt_book, .ref qt_now, .ref qt_flakes, .ref qt_leaks, .int v_music, .ref qt_ranks, .int v_sights, .ref qt_sight, .int v_signs, .ref qt_pad, .int v_freeAt, .int v_freeWho, .int v_reason, .int v_acts, .ref qt_gets, .ref qt_counts, .ref qt_worth, .ref qt_ways, .ref qt_image, .ref qt_isKept])), (qt_now, .inl (cI, 43, .inl u39v_now)), (qt_leaks, .inl (cI, 8, .inl v_leaks))]) (gw_rV (n := 0) ⟨hx, hb, hml, hown, hts⟩ (C_X10_endHour l D cI cJ cZ H.size qt qt_book qt_now qt_flakes qt_leaks qt_ranks qt_sight qt_pad qt_gets qt_counts qt_worth qt_ways qt_image qt_isKept v_now v_leaks v_music v_sights v_signs v_freeAt v_freeWho v_reason v_acts r39 u39v_now hc39) gX10_goReigns_X10_endHour rfl rfl rfl hdV_X10_endHour ⟨Nat.le_of_ble_eq_true rfl, Nat.le_of_ble_eq_true rfl⟩ hE (hP.sub [4, 5, 2] rfl) (hD.sub [4, 5, 2] (by decide) rfl) 9 rfl 0 rfl rfl hl.1 (rest := [.ref qt]) rfl (Nat.le_of_ble_eq_true rfl) dX10_goReigns_39 ⟨Nat.zero_le _, Nat.zero_le _⟩) hP hD hS hA [4, 5, 2] [0, 1, 3] rfl rfl rfl (by decide) rfl (fun H locs hP hD hS => ?_)
          refine va_put (D := D) (ci := 9) (v := .int r39) (ty := .int) (C := RX10) (T := TX10) (N := 20) hx hb hts (fun _ hw => (List.mem_cons_of_mem _ (List.mem_append_right _ hw))) tyX10 tyX10_ok nmX10 hown hE.1 hP hD hS 3 rfl rfl 12 (by decide) (hts (.fieldLink RX10 124 "GlobeCrownModel" "reason" "I") (List.mem_cons_of_mem _ (List.mem_append_left _ (List.mem_append_left _ (List.mem_of_getElem? (i := 3) rfl))))) (fun _ h9 => h9) rfl (tyX10_ok 12 (by decide)) rfl rfl (Nat.le_of_ble_eq_true rfl) dX10_goReigns_42 (fun H locs (hP : va_P D vwCl [(qt_book, .inl (cI, 43, .inl v_book)), (qt_flakes, .inl (cI, 8, .inl v_flakes)), (qt_pad, .inl (cI, 60, .inl v_pad)), (qt, .inr (9, [.ref qt_book, .ref qt_now, .ref qt_flakes, .ref qt_leaks, .int v_music, .ref qt_ranks, .int v_sights, .ref qt_sight, .int v_signs, .ref qt_pad, .int v_freeAt, .int v_freeWho, .int r39, .int v_acts, .ref qt_gets, .ref qt_counts, .ref qt_worth, .ref qt_ways, .ref qt_image, .ref qt_isKept])), (qt_now, .inl (cI, 43, .inl u39v_now)), (qt_leaks, .inl (cI, 8, .inl v_leaks))] H) (hD : va_D A [(qt_book, .inl (cI, 43, .inl v_book)), (qt_flakes, .inl (cI, 8, .inl v_flakes)), (qt_pad, .inl (cI, 60, .inl v_pad)), (qt, .inr (9, [.ref qt_book, .ref qt_now, .ref qt_flakes, .ref qt_leaks, .int v_music, .ref qt_ranks, .int v_sights, .ref qt_sight, .int v_signs, .ref qt_pad, .int v_freeAt, .int v_freeWho, .int r39, .int v_acts, .ref qt_gets, .ref qt_counts, .ref qt_worth, .ref qt_ways, .ref qt_image, .ref qt_isKept])), (qt_now, .inl (cI, 43, .inl u39v_now)), (qt_leaks, .inl (cI, 8, .inl v_leaks))]) hS => ?_)
          refine lv_iinc (v := (x1 + (1 : Int32))) (lv' := [(1, .int (x1 + (1 : Int32))), (3, .int (v_pad (Int32.toNatClampNeg x1))), (2, .int r20), (0, .ref qt)]) hx hb dX10_goReigns_45 hl (k := 3) rfl rfl (by decide) rfl (fun ls hl => ?_)
          refine lv_goto (tgt := 110) hx hb dX10_goReigns_48 (by decide) ?_
          exact hB110 u39v_now v_freeAt v_freeWho r39 v_acts (x1 + (1 : Int32)) r20 H locs ls (hP.sub [3, 0, 4, 1, 5, 2] rfl) (hD.sub [3, 0, 4, 1, 5, 2] (by decide) rfl) hS (lv_sub hl [3, 0, 2] rfl) h
  have h := hf
  unfold f_X10_goReigns at h
  refine gw_start hP hD hS (fun H locs hP hD hS => ?_)
  refine lv_aload_n hx hb dX10_goReigns_0 rfl (lv_at hl 0 rfl) ?_
  obtain ⟨u1v_now, u1v_freeAt, u1v_freeWho, hc1, h⟩ := bd3_some h
  refine gw_cv (wr := [(qt_flakes, .inl (cI, 8, .inl v_flakes)), (qt_leaks, .inl (cI, 8, .inl v_leaks)), (qt_pad, .inl (cI, 60, .inl v_pad))]) (w2 := [(qt_flakes, .inl (cI, 8, .inl v_flakes)), (qt_leaks, .inl (cI, 8, .inl v_leaks)), (qt_pad, .inl (cI, 60, .inl v_pad)), (qt, .inr (9, [.ref qt_book, .ref qt_now, .ref qt_flakes, .ref qt_leaks, .int v_music, .ref qt_ranks, .int v_sights, .ref qt_sight, .int v_signs, .ref qt_pad, .int u1v_freeAt, .int u1v_freeWho, .int v_reason, .int v_acts, .ref qt_gets, .ref qt_counts, .ref qt_worth, .ref qt_ways, .ref qt_image, .ref qt_isKept])), (qt_book, .inl (cI, 43, .inl v_book)), (qt_now, .inl (cI, 43, .inl u1v_now))]) (gw_rV (n := 0) ⟨hx, hb, hml, hown, hts⟩ (C_X10_asNow l D cI cJ cZ H.size qt qt_book qt_now qt_flakes qt_leaks qt_ranks qt_sight qt_pad qt_gets qt_counts qt_worth qt_ways qt_image qt_isKept v_book v_now v_music v_sights v_signs v_freeAt v_freeWho v_reason v_acts u1v_now u1v_freeAt u1v_freeWho hc1) gX10_goReigns_X10_asNow rfl rfl rfl hdV_X10_asNow ⟨Nat.le_of_ble_eq_true rfl, Nat.le_of_ble_eq_true rfl⟩ hE (hP.sub [0, 1, 2] rfl) (hD.sub [0, 1, 2] (by decide) rfl) 9 rfl 0 rfl rfl hl.1 (rest := []) rfl (Nat.le_of_ble_eq_true rfl) dX10_goReigns_1 ⟨Nat.zero_le _, Nat.zero_le _⟩) hP hD hS hA [0, 1, 2] [3, 4, 5] rfl rfl rfl (by decide) rfl (fun H locs hP hD hS => ?_)
  refine lv_aload_n hx hb dX10_goReigns_4 rfl (lv_at hl 0 rfl) ?_
  refine lv_iconst (v := 0) hx hb dX10_goReigns_5 (by decide) ?_
  refine va_put (D := D) (ci := 9) (v := .int (0 : Int32)) (ty := .int) (C := RX10) (T := TX10) (N := 20) hx hb hts (fun _ hw => (List.mem_cons_of_mem _ (List.mem_append_right _ hw))) tyX10 tyX10_ok nmX10 hown hE.1 hP hD hS 3 rfl rfl 13 (by decide) (hts (.fieldLink RX10 115 "GlobeCrownModel" "acts" "I") (List.mem_cons_of_mem _ (List.mem_append_left _ (List.mem_append_left _ (List.mem_of_getElem? (i := 0) rfl))))) (fun _ h9 => h9) rfl (tyX10_ok 13 (by decide)) rfl rfl (Nat.le_of_ble_eq_true rfl) dX10_goReigns_6 (fun H locs (hP : va_P D vwCl [(qt_flakes, .inl (cI, 8, .inl v_flakes)), (qt_leaks, .inl (cI, 8, .inl v_leaks)), (qt_pad, .inl (cI, 60, .inl v_pad)), (qt, .inr (9, [.ref qt_book, .ref qt_now, .ref qt_flakes, .ref qt_leaks, .int v_music, .ref qt_ranks, .int v_sights, .ref qt_sight, .int v_signs, .ref qt_pad, .int u1v_freeAt, .int u1v_freeWho, .int v_reason, .int (0 : Int32), .ref qt_gets, .ref qt_counts, .ref qt_worth, .ref qt_ways, .ref qt_image, .ref qt_isKept])), (qt_book, .inl (cI, 43, .inl v_book)), (qt_now, .inl (cI, 43, .inl u1v_now))] H) (hD : va_D A [(qt_flakes, .inl (cI, 8, .inl v_flakes)), (qt_leaks, .inl (cI, 8, .inl v_leaks)), (qt_pad, .inl (cI, 60, .inl v_pad)), (qt, .inr (9, [.ref qt_book, .ref qt_now, .ref qt_flakes, .ref qt_leaks, .int v_music, .ref qt_ranks, .int v_sights, .ref qt_sight, .int v_signs, .ref qt_pad, .int u1v_freeAt, .int u1v_freeWho, .int v_reason, .int (0 : Int32), .ref qt_gets, .ref qt_counts, .ref qt_worth, .ref qt_ways, .ref qt_image, .ref qt_isKept])), (qt_book, .inl (cI, 43, .inl v_book)), (qt_now, .inl (cI, 43, .inl u1v_now))]) hS => ?_)
  refine lv_iconst (v := 0) hx hb dX10_goReigns_9 (by decide) ?_
  refine lv_istore_n (lv' := [(1, .int (0 : Int32)), (0, .ref qt)]) hx hb dX10_goReigns_10 rfl hl (by decide) rfl (fun ls hl => ?_)
  exact hL11 FU u1v_now u1v_freeAt u1v_freeWho v_reason (0 : Int32) (0 : Int32) H locs ls (hP.sub [3, 4, 5, 0, 1, 2] rfl) (hD.sub [3, 4, 5, 0, 1, 2] (by decide) rfl) hS (lv_sub hl [1, 0] rfl) h
theorem hdV_X10_goReigns : yX10_goReigns.cls = RX10 ∧ yX10_goReigns.cls ≠ "java/lang/invoke/MethodHandle" ∧ yX10_goReigns.cls ≠ "java/lang/invoke/VarHandle" ∧ (parseMethodDescriptor yX10_goReigns.desc).map (fun d => d.parameters.length) = some 0 := by decide +kernel
def f_X10_judge (v_book : (Nat → Int32)) (v_now : (Nat → Int32)) (v_flakes : (Nat → Int32)) (v_leaks : (Nat → Int32)) (v_music : Int32) (v_signs : Int32) (v_pad : (Nat → Int32)) (v_freeAt : Int32) (v_freeWho : Int32) (v_reason : Int32) (v_acts : Int32) (p1 : Int32) : Option (Int32 × (Nat → Int32) × Int32 × Int32 × Int32 × Int32) := (bd1 (f_X10_in p1 (0 : Int32) (1 : Int32)) (fun r3 => (if r3 = (0 : Int32) then (some ((-2 : Int32), v_now, v_freeAt, v_freeWho, v_reason, v_acts)) else (bd1 (f_X10_faultOf v_signs v_pad) (fun r13 => (if r13 < (0 : Int32) then (bd6 (f_X10_goReigns v_book v_now v_flakes v_leaks v_music v_signs v_pad v_freeAt v_freeWho v_reason v_acts) (fun r23 u23v_now u23v_freeAt u23v_freeWho u23v_reason u23v_acts => (if r23 < (0 : Int32) then (some (r23, u23v_now, u23v_freeAt, u23v_freeWho, u23v_reason, u23v_acts)) else (if p1 = (0 : Int32) then (some (r23, u23v_now, u23v_freeAt, u23v_freeWho, u23v_reason, u23v_acts)) else (some (u23v_reason, u23v_now, u23v_freeAt, u23v_freeWho, u23v_reason, u23v_acts)))))) else (some ((-5 : Int32), v_now, v_freeAt, v_freeWho, v_reason, v_acts))))))))
abbrev rm_X10_judge : Room := { frames := 5, cells := 0, slots := 0, locals := 114 }
set_option maxHeartbeats 4000000 in
set_option maxRecDepth 100000 in
theorem C_X10_judge (l : Launch) (D : va_G) (cI cJ cZ : ClassId) (sz : Nat) (qt qt_book qt_now qt_flakes qt_leaks qt_ranks qt_sight qt_pad qt_gets qt_counts qt_worth qt_ways qt_image qt_isKept : Nat) (v_book : (Nat → Int32)) (v_now : (Nat → Int32)) (v_flakes : (Nat → Int32)) (v_leaks : (Nat → Int32)) (v_music : Int32) (v_sights : Int32) (v_signs : Int32) (v_pad : (Nat → Int32)) (v_freeAt : Int32) (v_freeWho : Int32) (v_reason : Int32) (v_acts : Int32) (p1 : Int32) (r : Int32) (w_now : (Nat → Int32)) (w_freeAt : Int32) (w_freeWho : Int32) (w_reason : Int32) (w_acts : Int32) (hf : f_X10_judge v_book v_now v_flakes v_leaks v_music v_signs v_pad v_freeAt v_freeWho v_reason v_acts p1 = some (r, w_now, w_freeAt, w_freeWho, w_reason, w_acts)) : Met l yX10_judge wsX10_judge rm_X10_judge (PR D cI cJ cZ [(qt, .inr (9, [.ref qt_book, .ref qt_now, .ref qt_flakes, .ref qt_leaks, .int v_music, .ref qt_ranks, .int v_sights, .ref qt_sight, .int v_signs, .ref qt_pad, .int v_freeAt, .int v_freeWho, .int v_reason, .int v_acts, .ref qt_gets, .ref qt_counts, .ref qt_worth, .ref qt_ways, .ref qt_image, .ref qt_isKept])), (qt_book, .inl (cI, 43, .inl v_book)), (qt_now, .inl (cI, 43, .inl v_now)), (qt_flakes, .inl (cI, 8, .inl v_flakes)), (qt_leaks, .inl (cI, 8, .inl v_leaks)), (qt_pad, .inl (cI, 60, .inl v_pad))] sz [.ref qt, .int p1]) (QI D (va_A [(qt, .inr (9, [.ref qt_book, .ref qt_now, .ref qt_flakes, .ref qt_leaks, .int v_music, .ref qt_ranks, .int v_sights, .ref qt_sight, .int v_signs, .ref qt_pad, .int v_freeAt, .int v_freeWho, .int v_reason, .int v_acts, .ref qt_gets, .ref qt_counts, .ref qt_worth, .ref qt_ways, .ref qt_image, .ref qt_isKept])), (qt_book, .inl (cI, 43, .inl v_book)), (qt_now, .inl (cI, 43, .inl v_now)), (qt_flakes, .inl (cI, 8, .inl v_flakes)), (qt_leaks, .inl (cI, 8, .inl v_leaks)), (qt_pad, .inl (cI, 60, .inl v_pad))] sz) r [(qt, .inr (9, [.ref qt_book, .ref qt_now, .ref qt_flakes, .ref qt_leaks, .int v_music, .ref qt_ranks, .int v_sights, .ref qt_sight, .int v_signs, .ref qt_pad, .int w_freeAt, .int w_freeWho, .int w_reason, .int w_acts, .ref qt_gets, .ref qt_counts, .ref qt_worth, .ref qt_ways, .ref qt_image, .ref qt_isKept])), (qt_book, .inl (cI, 43, .inl v_book)), (qt_now, .inl (cI, 43, .inl w_now)), (qt_flakes, .inl (cI, 8, .inl v_flakes)), (qt_leaks, .inl (cI, 8, .inl v_leaks)), (qt_pad, .inl (cI, 60, .inl v_pad))]) 0 0 (va_A [(qt, .inr (9, [.ref qt_book, .ref qt_now, .ref qt_flakes, .ref qt_leaks, .int v_music, .ref qt_ranks, .int v_sights, .ref qt_sight, .int v_signs, .ref qt_pad, .int v_freeAt, .int v_freeWho, .int v_reason, .int v_acts, .ref qt_gets, .ref qt_counts, .ref qt_worth, .ref qt_ways, .ref qt_image, .ref qt_isKept])), (qt_book, .inl (cI, 43, .inl v_book)), (qt_now, .inl (cI, 43, .inl v_now)), (qt_flakes, .inl (cI, 8, .inl v_flakes)), (qt_leaks, .inl (cI, 8, .inl v_leaks)), (qt_pad, .inl (cI, 60, .inl v_pad))] sz) := by
  refine Met.ofW (cc := cX10_judge) (maxL := 3) (ret := (some .int)) (by decide) rfl ?_
  intro p e s m args below meth c s₁ B hml hv
  obtain ⟨hav, hsz, hP, hD0, hE⟩ := hv
  have hx := B.exec
  have hb := B.bytes
  have hr := B.returns
  have hts := atoms_spec (ws := wsX10_judge) B.pre
  have hown : s.vm.findClass RX10 = some m.cls := findClass_of_methodNamed B.named
  have hlocks := B.notSynchronized
  subst hsz
  have hD := hD0.self (sz := s.heap.size)
  generalize hAe : va_A [(qt, .inr (9, [.ref qt_book, .ref qt_now, .ref qt_flakes, .ref qt_leaks, .int v_music, .ref qt_ranks, .int v_sights, .ref qt_sight, .int v_signs, .ref qt_pad, .int v_freeAt, .int v_freeWho, .int v_reason, .int v_acts, .ref qt_gets, .ref qt_counts, .ref qt_worth, .ref qt_ways, .ref qt_image, .ref qt_isKept])), (qt_book, .inl (cI, 43, .inl v_book)), (qt_now, .inl (cI, 43, .inl v_now)), (qt_flakes, .inl (cI, 8, .inl v_flakes)), (qt_leaks, .inl (cI, 8, .inl v_leaks)), (qt_pad, .inl (cI, 60, .inl v_pad))] s.heap.size = A at hD ⊢
  have hA : ∀ q : Nat, s.heap.size ≤ q → A q := fun q h => by rw [← hAe]; exact Or.inr h
  have hS : va_S A s.heap s.heap [] := va_S.rf
  have hl := lv_entry ([.ref qt, .int p1]) (n := 3) (Nat.le_of_ble_eq_true rfl)
  have hfr : entryFrame m args 3 = entryFrame m ([.ref qt, .int p1] : List Value).toArray 3 := by rw [hav]
  rw [hfr, lg_entry_eq]
  generalize (lg_sl ([.ref qt, .int p1]) ++ List.replicate (3 - (lg_sl ([.ref qt, .int p1])).length) Slot.unset).toArray = ls at hl ⊢
  have hl : lv_has ls 3 [(0, .ref qt), (1, .int p1)] := hl
  obtain ⟨QQ, hQQ⟩ : ∃ QQ, QQ = MQ below (QI D A r [(qt, .inr (9, [.ref qt_book, .ref qt_now, .ref qt_flakes, .ref qt_leaks, .int v_music, .ref qt_ranks, .int v_sights, .ref qt_sight, .int v_signs, .ref qt_pad, .int w_freeAt, .int w_freeWho, .int w_reason, .int w_acts, .ref qt_gets, .ref qt_counts, .ref qt_worth, .ref qt_ways, .ref qt_image, .ref qt_isKept])), (qt_book, .inl (cI, 43, .inl v_book)), (qt_now, .inl (cI, 43, .inl w_now)), (qt_flakes, .inl (cI, 8, .inl v_flakes)), (qt_leaks, .inl (cI, 8, .inl v_leaks)), (qt_pad, .inl (cI, 60, .inl v_pad))]) args s 0 0 A := ⟨_, rfl⟩
  show W p l e rm_X10_judge s m args below meth c s.heap [] 0 0 _ _
  rw [← hQQ]
  have h := hf
  unfold f_X10_judge at h
  refine gw_start hP hD hS (fun H locs hP hD hS => ?_)
  refine lv_iload_n hx hb dX10_judge_0 rfl (lv_at hl 1 rfl) ?_
  refine lv_iconst (v := 0) hx hb dX10_judge_1 (by decide) ?_
  refine lv_iconst (v := 1) hx hb dX10_judge_2 (by decide) ?_
  obtain ⟨r3, hc3, h⟩ := bd1_some h
  refine gw_ci (wr := [(qt, .inr (9, [.ref qt_book, .ref qt_now, .ref qt_flakes, .ref qt_leaks, .int v_music, .ref qt_ranks, .int v_sights, .ref qt_sight, .int v_signs, .ref qt_pad, .int v_freeAt, .int v_freeWho, .int v_reason, .int v_acts, .ref qt_gets, .ref qt_counts, .ref qt_worth, .ref qt_ways, .ref qt_image, .ref qt_isKept])), (qt_book, .inl (cI, 43, .inl v_book)), (qt_now, .inl (cI, 43, .inl v_now)), (qt_flakes, .inl (cI, 8, .inl v_flakes)), (qt_leaks, .inl (cI, 8, .inl v_leaks)), (qt_pad, .inl (cI, 60, .inl v_pad))]) (w2 := [(qt, .inr (9, [.ref qt_book, .ref qt_now, .ref qt_flakes, .ref qt_leaks, .int v_music, .ref qt_ranks, .int v_sights, .ref qt_sight, .int v_signs, .ref qt_pad, .int v_freeAt, .int v_freeWho, .int v_reason, .int v_acts, .ref qt_gets, .ref qt_counts, .ref qt_worth, .ref qt_ways, .ref qt_image, .ref qt_isKept])), (qt_book, .inl (cI, 43, .inl v_book)), (qt_now, .inl (cI, 43, .inl v_now)), (qt_flakes, .inl (cI, 8, .inl v_flakes)), (qt_leaks, .inl (cI, 8, .inl v_leaks)), (qt_pad, .inl (cI, 60, .inl v_pad))]) (gw_rS (n := 3) ⟨hx, hb, hml, hown, hts⟩ (C_X10_in l D cI cJ cZ H.size p1 (0 : Int32) (1 : Int32) r3 hc3) gX10_judge_X10_in rfl rfl rfl hdS_X10_in ⟨Nat.le_of_ble_eq_true rfl, Nat.le_of_ble_eq_true rfl⟩ hE (hP.sub [] rfl) (hD.sub [] (by decide) rfl) rfl hl.1 (rest := []) rfl (Nat.le_of_ble_eq_true rfl) dX10_judge_3 ⟨Nat.zero_le _, Nat.zero_le _⟩) hP hD hS hA [] [0, 1, 2, 3, 4, 5] rfl rfl rfl (by decide) rfl (fun H locs hP hD hS => ?_)
  refine lv_if_ne (tgt := 12) hx hb dX10_judge_6 (by decide) (fun hc => ?_) (fun hc => ?_)
  · have h := if_f hc h
    refine lv_aload_n hx hb dX10_judge_12 rfl (lv_at hl 0 rfl) ?_
    obtain ⟨r13, hc13, h⟩ := bd1_some h
    refine gw_ci (wr := [(qt_book, .inl (cI, 43, .inl v_book)), (qt_now, .inl (cI, 43, .inl v_now)), (qt_flakes, .inl (cI, 8, .inl v_flakes)), (qt_leaks, .inl (cI, 8, .inl v_leaks))]) (w2 := [(qt_book, .inl (cI, 43, .inl v_book)), (qt_now, .inl (cI, 43, .inl v_now)), (qt_flakes, .inl (cI, 8, .inl v_flakes)), (qt_leaks, .inl (cI, 8, .inl v_leaks)), (qt, .inr (9, [.ref qt_book, .ref qt_now, .ref qt_flakes, .ref qt_leaks, .int v_music, .ref qt_ranks, .int v_sights, .ref qt_sight, .int v_signs, .ref qt_pad, .int v_freeAt, .int v_freeWho, .int v_reason, .int v_acts, .ref qt_gets, .ref qt_counts, .ref qt_worth, .ref qt_ways, .ref qt_image, .ref qt_isKept])), (qt_pad, .inl (cI, 60, .inl v_pad))]) (gw_rV (n := 0) ⟨hx, hb, hml, hown, hts⟩ (C_X10_faultOf l D cI cJ cZ H.size qt qt_book qt_now qt_flakes qt_leaks qt_ranks qt_sight qt_pad qt_gets qt_counts qt_worth qt_ways qt_image qt_isKept v_music v_sights v_signs v_pad v_freeAt v_freeWho v_reason v_acts r13 hc13) gX10_judge_X10_faultOf rfl rfl rfl hdV_X10_faultOf ⟨Nat.le_of_ble_eq_true rfl, Nat.le_of_ble_eq_true rfl⟩ hE (hP.sub [0, 5] rfl) (hD.sub [0, 5] (by decide) rfl) 9 rfl 0 rfl rfl hl.1 (rest := []) rfl (Nat.le_of_ble_eq_true rfl) dX10_judge_13 ⟨Nat.zero_le _, Nat.zero_le _⟩) hP hD hS hA [0, 5] [1, 2, 3, 4] rfl rfl rfl (by decide) rfl (fun H locs hP hD hS => ?_)
    refine lv_if_lt (tgt := 22) hx hb dX10_judge_16 (by decide) (fun hc => ?_) (fun hc => ?_)
    · have h := if_t hc h
      refine lv_aload_n hx hb dX10_judge_22 rfl (lv_at hl 0 rfl) ?_
      obtain ⟨r23, u23v_now, u23v_freeAt, u23v_freeWho, u23v_reason, u23v_acts, hc23, h⟩ := bd6_some h
      refine gw_ci (wr := []) (w2 := [(qt, .inr (9, [.ref qt_book, .ref qt_now, .ref qt_flakes, .ref qt_leaks, .int v_music, .ref qt_ranks, .int v_sights, .ref qt_sight, .int v_signs, .ref qt_pad, .int u23v_freeAt, .int u23v_freeWho, .int u23v_reason, .int u23v_acts, .ref qt_gets, .ref qt_counts, .ref qt_worth, .ref qt_ways, .ref qt_image, .ref qt_isKept])), (qt_book, .inl (cI, 43, .inl v_book)), (qt_now, .inl (cI, 43, .inl u23v_now)), (qt_flakes, .inl (cI, 8, .inl v_flakes)), (qt_leaks, .inl (cI, 8, .inl v_leaks)), (qt_pad, .inl (cI, 60, .inl v_pad))]) (gw_rV (n := 0) ⟨hx, hb, hml, hown, hts⟩ (C_X10_goReigns l D cI cJ cZ H.size qt qt_book qt_now qt_flakes qt_leaks qt_ranks qt_sight qt_pad qt_gets qt_counts qt_worth qt_ways qt_image qt_isKept v_book v_now v_flakes v_leaks v_music v_sights v_signs v_pad v_freeAt v_freeWho v_reason v_acts r23 u23v_now u23v_freeAt u23v_freeWho u23v_reason u23v_acts hc23) gX10_judge_X10_goReigns rfl rfl rfl hdV_X10_goReigns ⟨Nat.le_of_ble_eq_true rfl, Nat.le_of_ble_eq_true rfl⟩ hE (hP.sub [4, 0, 1, 2, 3, 5] rfl) (hD.sub [4, 0, 1, 2, 3, 5] (by decide) rfl) 9 rfl 0 rfl rfl hl.1 (rest := []) rfl (Nat.le_of_ble_eq_true rfl) dX10_judge_23 ⟨Nat.zero_le _, Nat.zero_le _⟩) hP hD hS hA [4, 0, 1, 2, 3, 5] [] rfl rfl rfl (by decide) rfl (fun H locs hP hD hS => ?_)
      refine lv_istore_n (lv' := [(2, .int r23), (0, .ref qt), (1, .int p1)]) hx hb dX10_judge_26 rfl hl (by decide) rfl (fun ls hl => ?_)
      refine lv_iload_n hx hb dX10_judge_27 rfl (lv_at hl 0 rfl) ?_
      refine lv_if_lt (tgt := 35) hx hb dX10_judge_28 (by decide) (fun hc => ?_) (fun hc => ?_)
      · have h := if_t hc h
        refine lv_iload_n hx hb dX10_judge_35 rfl (lv_at hl 0 rfl) ?_
        refine lv_goto (tgt := 43) hx hb dX10_judge_36 (by decide) ?_
        cases h
        rw [hQQ]
        exact gw_iret hx hb hr hlocks hP hD hS dX10_judge_43
      · have h := if_f hc h
        refine lv_iload_n hx hb dX10_judge_31 rfl (lv_at hl 2 rfl) ?_
        refine lv_if_ne (tgt := 39) hx hb dX10_judge_32 (by decide) (fun hc => ?_) (fun hc => ?_)
        · have h := if_f hc h
          refine lv_aload_n hx hb dX10_judge_39 rfl (lv_at hl 1 rfl) ?_
          refine va_get (D := D) (ci := 9) (C := RX10) (T := TX10) (N := 20) hx hb hts (fun _ hw => (List.mem_cons_of_mem _ (List.mem_append_right _ hw))) hown hE.1 hP 0 rfl rfl 12 (by decide) (hts (.fieldLink RX10 124 "GlobeCrownModel" "reason" "I") (List.mem_cons_of_mem _ (List.mem_append_left _ (List.mem_append_left _ (List.mem_of_getElem? (i := 0) rfl))))) (fun _ h9 => h9) rfl dX10_judge_40 ?_
          cases h
          rw [hQQ]
          exact gw_iret hx hb hr hlocks hP hD hS dX10_judge_43
        · have h := if_t hc h
          refine lv_iload_n hx hb dX10_judge_35 rfl (lv_at hl 0 rfl) ?_
          refine lv_goto (tgt := 43) hx hb dX10_judge_36 (by decide) ?_
          cases h
          rw [hQQ]
          exact gw_iret hx hb hr hlocks hP hD hS dX10_judge_43
    · have h := if_f hc h
      refine lv_bipush (v := -5) hx hb dX10_judge_19 (by decide) ?_
      cases h
      rw [hQQ]
      exact gw_iret hx hb hr hlocks (hP.sub [4, 0, 1, 2, 3, 5] rfl) (hD.sub [4, 0, 1, 2, 3, 5] (by decide) rfl) hS dX10_judge_21
  · have h := if_t hc h
    refine lv_bipush (v := -2) hx hb dX10_judge_9 (by decide) ?_
    cases h
    rw [hQQ]
    exact gw_iret hx hb hr hlocks hP hD hS dX10_judge_11
theorem hdV_X10_judge : yX10_judge.cls = RX10 ∧ yX10_judge.cls ≠ "java/lang/invoke/MethodHandle" ∧ yX10_judge.cls ≠ "java/lang/invoke/VarHandle" ∧ (parseMethodDescriptor yX10_judge.desc).map (fun d => d.parameters.length) = some 1 := by decide +kernel
def f_X10_barOfReigns (v_book : (Nat → Int32)) (v_now : (Nat → Int32)) (v_flakes : (Nat → Int32)) (v_leaks : (Nat → Int32)) (v_music : Int32) (v_signs : Int32) (v_pad : (Nat → Int32)) (v_freeAt : Int32) (v_freeWho : Int32) (v_reason : Int32) (v_acts : Int32) : Option (Int32 × (Nat → Int32) × Int32 × Int32 × Int32 × Int32) := (bd1 (f_X10_faultOf v_signs v_pad) (fun r1 => (if (0 : Int32) ≤ r1 then (some ((-5 : Int32), v_now, v_freeAt, v_freeWho, v_reason, v_acts)) else (bd6 (f_X10_goReigns v_book v_now v_flakes v_leaks v_music v_signs v_pad v_freeAt v_freeWho v_reason v_acts) (fun r8 u8v_now u8v_freeAt u8v_freeWho u8v_reason u8v_acts => (if r8 < (0 : Int32) then (some ((0 : Int32), u8v_now, u8v_freeAt, u8v_freeWho, u8v_reason, u8v_acts)) else (some ((-5 : Int32), u8v_now, u8v_freeAt, u8v_freeWho, u8v_reason, u8v_acts))))))))
abbrev rm_X10_barOfReigns : Room := { frames := 5, cells := 0, slots := 0, locals := 114 }
set_option maxHeartbeats 4000000 in
set_option maxRecDepth 100000 in
theorem C_X10_barOfReigns (l : Launch) (D : va_G) (cI cJ cZ : ClassId) (sz : Nat) (qt qt_book qt_now qt_flakes qt_leaks qt_ranks qt_sight qt_pad qt_gets qt_counts qt_worth qt_ways qt_image qt_isKept : Nat) (v_book : (Nat → Int32)) (v_now : (Nat → Int32)) (v_flakes : (Nat → Int32)) (v_leaks : (Nat → Int32)) (v_music : Int32) (v_sights : Int32) (v_signs : Int32) (v_pad : (Nat → Int32)) (v_freeAt : Int32) (v_freeWho : Int32) (v_reason : Int32) (v_acts : Int32) (r : Int32) (w_now : (Nat → Int32)) (w_freeAt : Int32) (w_freeWho : Int32) (w_reason : Int32) (w_acts : Int32) (hf : f_X10_barOfReigns v_book v_now v_flakes v_leaks v_music v_signs v_pad v_freeAt v_freeWho v_reason v_acts = some (r, w_now, w_freeAt, w_freeWho, w_reason, w_acts)) : Met l yX10_barOfReigns wsX10_barOfReigns rm_X10_barOfReigns (PR D cI cJ cZ [(qt, .inr (9, [.ref qt_book, .ref qt_now, .ref qt_flakes, .ref qt_leaks, .int v_music, .ref qt_ranks, .int v_sights, .ref qt_sight, .int v_signs, .ref qt_pad, .int v_freeAt, .int v_freeWho, .int v_reason, .int v_acts, .ref qt_gets, .ref qt_counts, .ref qt_worth, .ref qt_ways, .ref qt_image, .ref qt_isKept])), (qt_book, .inl (cI, 43, .inl v_book)), (qt_now, .inl (cI, 43, .inl v_now)), (qt_flakes, .inl (cI, 8, .inl v_flakes)), (qt_leaks, .inl (cI, 8, .inl v_leaks)), (qt_pad, .inl (cI, 60, .inl v_pad))] sz [.ref qt]) (QI D (va_A [(qt, .inr (9, [.ref qt_book, .ref qt_now, .ref qt_flakes, .ref qt_leaks, .int v_music, .ref qt_ranks, .int v_sights, .ref qt_sight, .int v_signs, .ref qt_pad, .int v_freeAt, .int v_freeWho, .int v_reason, .int v_acts, .ref qt_gets, .ref qt_counts, .ref qt_worth, .ref qt_ways, .ref qt_image, .ref qt_isKept])), (qt_book, .inl (cI, 43, .inl v_book)), (qt_now, .inl (cI, 43, .inl v_now)), (qt_flakes, .inl (cI, 8, .inl v_flakes)), (qt_leaks, .inl (cI, 8, .inl v_leaks)), (qt_pad, .inl (cI, 60, .inl v_pad))] sz) r [(qt, .inr (9, [.ref qt_book, .ref qt_now, .ref qt_flakes, .ref qt_leaks, .int v_music, .ref qt_ranks, .int v_sights, .ref qt_sight, .int v_signs, .ref qt_pad, .int w_freeAt, .int w_freeWho, .int w_reason, .int w_acts, .ref qt_gets, .ref qt_counts, .ref qt_worth, .ref qt_ways, .ref qt_image, .ref qt_isKept])), (qt_book, .inl (cI, 43, .inl v_book)), (qt_now, .inl (cI, 43, .inl w_now)), (qt_flakes, .inl (cI, 8, .inl v_flakes)), (qt_leaks, .inl (cI, 8, .inl v_leaks)), (qt_pad, .inl (cI, 60, .inl v_pad))]) 0 0 (va_A [(qt, .inr (9, [.ref qt_book, .ref qt_now, .ref qt_flakes, .ref qt_leaks, .int v_music, .ref qt_ranks, .int v_sights, .ref qt_sight, .int v_signs, .ref qt_pad, .int v_freeAt, .int v_freeWho, .int v_reason, .int v_acts, .ref qt_gets, .ref qt_counts, .ref qt_worth, .ref qt_ways, .ref qt_image, .ref qt_isKept])), (qt_book, .inl (cI, 43, .inl v_book)), (qt_now, .inl (cI, 43, .inl v_now)), (qt_flakes, .inl (cI, 8, .inl v_flakes)), (qt_leaks, .inl (cI, 8, .inl v_leaks)), (qt_pad, .inl (cI, 60, .inl v_pad))] sz) := by
  refine Met.ofW (cc := cX10_barOfReigns) (maxL := 1) (ret := (some .int)) (by decide) rfl ?_
  intro p e s m args below meth c s₁ B hml hv
  obtain ⟨hav, hsz, hP, hD0, hE⟩ := hv
  have hx := B.exec
  have hb := B.bytes
  have hr := B.returns
  have hts := atoms_spec (ws := wsX10_barOfReigns) B.pre
  have hown : s.vm.findClass RX10 = some m.cls := findClass_of_methodNamed B.named
  have hlocks := B.notSynchronized
  subst hsz
  have hD := hD0.self (sz := s.heap.size)
  generalize hAe : va_A [(qt, .inr (9, [.ref qt_book, .ref qt_now, .ref qt_flakes, .ref qt_leaks, .int v_music, .ref qt_ranks, .int v_sights, .ref qt_sight, .int v_signs, .ref qt_pad, .int v_freeAt, .int v_freeWho, .int v_reason, .int v_acts, .ref qt_gets, .ref qt_counts, .ref qt_worth, .ref qt_ways, .ref qt_image, .ref qt_isKept])), (qt_book, .inl (cI, 43, .inl v_book)), (qt_now, .inl (cI, 43, .inl v_now)), (qt_flakes, .inl (cI, 8, .inl v_flakes)), (qt_leaks, .inl (cI, 8, .inl v_leaks)), (qt_pad, .inl (cI, 60, .inl v_pad))] s.heap.size = A at hD ⊢
  have hA : ∀ q : Nat, s.heap.size ≤ q → A q := fun q h => by rw [← hAe]; exact Or.inr h
  have hS : va_S A s.heap s.heap [] := va_S.rf
  have hl := lv_entry ([.ref qt]) (n := 1) (Nat.le_of_ble_eq_true rfl)
  have hfr : entryFrame m args 1 = entryFrame m ([.ref qt] : List Value).toArray 1 := by rw [hav]
  rw [hfr, lg_entry_eq]
  generalize (lg_sl ([.ref qt]) ++ List.replicate (1 - (lg_sl ([.ref qt])).length) Slot.unset).toArray = ls at hl ⊢
  have hl : lv_has ls 1 [(0, .ref qt)] := hl
  obtain ⟨QQ, hQQ⟩ : ∃ QQ, QQ = MQ below (QI D A r [(qt, .inr (9, [.ref qt_book, .ref qt_now, .ref qt_flakes, .ref qt_leaks, .int v_music, .ref qt_ranks, .int v_sights, .ref qt_sight, .int v_signs, .ref qt_pad, .int w_freeAt, .int w_freeWho, .int w_reason, .int w_acts, .ref qt_gets, .ref qt_counts, .ref qt_worth, .ref qt_ways, .ref qt_image, .ref qt_isKept])), (qt_book, .inl (cI, 43, .inl v_book)), (qt_now, .inl (cI, 43, .inl w_now)), (qt_flakes, .inl (cI, 8, .inl v_flakes)), (qt_leaks, .inl (cI, 8, .inl v_leaks)), (qt_pad, .inl (cI, 60, .inl v_pad))]) args s 0 0 A := ⟨_, rfl⟩
  show W p l e rm_X10_barOfReigns s m args below meth c s.heap [] 0 0 _ _
  rw [← hQQ]
  have h := hf
  unfold f_X10_barOfReigns at h
  refine gw_start hP hD hS (fun H locs hP hD hS => ?_)
  refine lv_aload_n hx hb dX10_barOfReigns_0 rfl (lv_at hl 0 rfl) ?_
  obtain ⟨r1, hc1, h⟩ := bd1_some h
  refine gw_ci (wr := [(qt_book, .inl (cI, 43, .inl v_book)), (qt_now, .inl (cI, 43, .inl v_now)), (qt_flakes, .inl (cI, 8, .inl v_flakes)), (qt_leaks, .inl (cI, 8, .inl v_leaks))]) (w2 := [(qt_book, .inl (cI, 43, .inl v_book)), (qt_now, .inl (cI, 43, .inl v_now)), (qt_flakes, .inl (cI, 8, .inl v_flakes)), (qt_leaks, .inl (cI, 8, .inl v_leaks)), (qt, .inr (9, [.ref qt_book, .ref qt_now, .ref qt_flakes, .ref qt_leaks, .int v_music, .ref qt_ranks, .int v_sights, .ref qt_sight, .int v_signs, .ref qt_pad, .int v_freeAt, .int v_freeWho, .int v_reason, .int v_acts, .ref qt_gets, .ref qt_counts, .ref qt_worth, .ref qt_ways, .ref qt_image, .ref qt_isKept])), (qt_pad, .inl (cI, 60, .inl v_pad))]) (gw_rV (n := 0) ⟨hx, hb, hml, hown, hts⟩ (C_X10_faultOf l D cI cJ cZ H.size qt qt_book qt_now qt_flakes qt_leaks qt_ranks qt_sight qt_pad qt_gets qt_counts qt_worth qt_ways qt_image qt_isKept v_music v_sights v_signs v_pad v_freeAt v_freeWho v_reason v_acts r1 hc1) gX10_barOfReigns_X10_faultOf rfl rfl rfl hdV_X10_faultOf ⟨Nat.le_of_ble_eq_true rfl, Nat.le_of_ble_eq_true rfl⟩ hE (hP.sub [0, 5] rfl) (hD.sub [0, 5] (by decide) rfl) 9 rfl 0 rfl rfl hl.1 (rest := []) rfl (Nat.le_of_ble_eq_true rfl) dX10_barOfReigns_1 ⟨Nat.zero_le _, Nat.zero_le _⟩) hP hD hS hA [0, 5] [1, 2, 3, 4] rfl rfl rfl (by decide) rfl (fun H locs hP hD hS => ?_)
  refine lv_if_ge (tgt := 14) hx hb dX10_barOfReigns_4 (by decide) (fun hc => ?_) (fun hc => ?_)
  · have h := if_t hc h
    refine lv_bipush (v := -5) hx hb dX10_barOfReigns_14 (by decide) ?_
    refine lv_goto (tgt := 20) hx hb dX10_barOfReigns_16 (by decide) ?_
    cases h
    rw [hQQ]
    exact gw_iret hx hb hr hlocks (hP.sub [4, 0, 1, 2, 3, 5] rfl) (hD.sub [4, 0, 1, 2, 3, 5] (by decide) rfl) hS dX10_barOfReigns_20
  · have h := if_f hc h
    refine lv_aload_n hx hb dX10_barOfReigns_7 rfl (lv_at hl 0 rfl) ?_
    obtain ⟨r8, u8v_now, u8v_freeAt, u8v_freeWho, u8v_reason, u8v_acts, hc8, h⟩ := bd6_some h
    refine gw_ci (wr := []) (w2 := [(qt, .inr (9, [.ref qt_book, .ref qt_now, .ref qt_flakes, .ref qt_leaks, .int v_music, .ref qt_ranks, .int v_sights, .ref qt_sight, .int v_signs, .ref qt_pad, .int u8v_freeAt, .int u8v_freeWho, .int u8v_reason, .int u8v_acts, .ref qt_gets, .ref qt_counts, .ref qt_worth, .ref qt_ways, .ref qt_image, .ref qt_isKept])), (qt_book, .inl (cI, 43, .inl v_book)), (qt_now, .inl (cI, 43, .inl u8v_now)), (qt_flakes, .inl (cI, 8, .inl v_flakes)), (qt_leaks, .inl (cI, 8, .inl v_leaks)), (qt_pad, .inl (cI, 60, .inl v_pad))]) (gw_rV (n := 0) ⟨hx, hb, hml, hown, hts⟩ (C_X10_goReigns l D cI cJ cZ H.size qt qt_book qt_now qt_flakes qt_leaks qt_ranks qt_sight qt_pad qt_gets qt_counts qt_worth qt_ways qt_image qt_isKept v_book v_now v_flakes v_leaks v_music v_sights v_signs v_pad v_freeAt v_freeWho v_reason v_acts r8 u8v_now u8v_freeAt u8v_freeWho u8v_reason u8v_acts hc8) gX10_barOfReigns_X10_goReigns rfl rfl rfl hdV_X10_goReigns ⟨Nat.le_of_ble_eq_true rfl, Nat.le_of_ble_eq_true rfl⟩ hE (hP.sub [4, 0, 1, 2, 3, 5] rfl) (hD.sub [4, 0, 1, 2, 3, 5] (by decide) rfl) 9 rfl 0 rfl rfl hl.1 (rest := []) rfl (Nat.le_of_ble_eq_true rfl) dX10_barOfReigns_8 ⟨Nat.zero_le _, Nat.zero_le _⟩) hP hD hS hA [4, 0, 1, 2, 3, 5] [] rfl rfl rfl (by decide) rfl (fun H locs hP hD hS => ?_)
    refine lv_if_lt (tgt := 19) hx hb dX10_barOfReigns_11 (by decide) (fun hc => ?_) (fun hc => ?_)
    · have h := if_t hc h
      refine lv_iconst (v := 0) hx hb dX10_barOfReigns_19 (by decide) ?_
      cases h
      rw [hQQ]
      exact gw_iret hx hb hr hlocks hP hD hS dX10_barOfReigns_20
    · have h := if_f hc h
      refine lv_bipush (v := -5) hx hb dX10_barOfReigns_14 (by decide) ?_
      refine lv_goto (tgt := 20) hx hb dX10_barOfReigns_16 (by decide) ?_
      cases h
      rw [hQQ]
      exact gw_iret hx hb hr hlocks hP hD hS dX10_barOfReigns_20
theorem hdV_X10_barOfReigns : yX10_barOfReigns.cls = RX10 ∧ yX10_barOfReigns.cls ≠ "java/lang/invoke/MethodHandle" ∧ yX10_barOfReigns.cls ≠ "java/lang/invoke/VarHandle" ∧ (parseMethodDescriptor yX10_barOfReigns.desc).map (fun d => d.parameters.length) = some 0 := by decide +kernel
def L_X10_done_12 (v_flakes : (Nat → Int32)) (v_leaks : (Nat → Int32)) (v_music : Int32) (v_pad : (Nat → Int32)) : Nat → (Nat → Int32) → (Nat → Int32) → Int32 → Int32 → Int32 → Int32 → Int32 → Int32 → Option (Int32 × (Nat → Int32) × (Nat → Int32) × Int32 × Int32 × Int32 × Int32 × Int32)
  | 0, _, _, _, _, _, _, _, _ => none
  | n + 1, v_book, v_now, v_signs, v_freeAt, v_freeWho, v_reason, v_acts, x1 => (if (43 : Int32) ≤ x1 then (some (v_acts, v_book, v_now, (0 : Int32), v_freeAt, v_freeWho, v_reason, v_acts)) else (gin x1 43 (gin x1 43 ((L_X10_done_12 v_flakes v_leaks v_music v_pad n) (upd v_book (Int32.toNatClampNeg x1) (v_now (Int32.toNatClampNeg x1))) v_now v_signs v_freeAt v_freeWho v_reason v_acts (x1 + (1 : Int32))))))
def f_X10_done (v_book : (Nat → Int32)) (v_now : (Nat → Int32)) (v_flakes : (Nat → Int32)) (v_leaks : (Nat → Int32)) (v_music : Int32) (v_signs : Int32) (v_pad : (Nat → Int32)) (v_freeAt : Int32) (v_freeWho : Int32) (v_reason : Int32) (v_acts : Int32) : Option (Int32 × (Nat → Int32) × (Nat → Int32) × Int32 × Int32 × Int32 × Int32 × Int32) := (bd6 (f_X10_barOfReigns v_book v_now v_flakes v_leaks v_music v_signs v_pad v_freeAt v_freeWho v_reason v_acts) (fun r1 u1v_now u1v_freeAt u1v_freeWho u1v_reason u1v_acts => (if (0 : Int32) ≤ r1 then (L_X10_done_12 v_flakes v_leaks v_music v_pad FU v_book u1v_now v_signs u1v_freeAt u1v_freeWho u1v_reason u1v_acts (0 : Int32)) else (some ((-5 : Int32), v_book, u1v_now, v_signs, u1v_freeAt, u1v_freeWho, u1v_reason, u1v_acts)))))
abbrev rm_X10_done : Room := { frames := 6, cells := 0, slots := 0, locals := 134 }
set_option maxHeartbeats 4000000 in
set_option maxRecDepth 100000 in
theorem C_X10_done (l : Launch) (D : va_G) (cI cJ cZ : ClassId) (sz : Nat) (qt qt_book qt_now qt_flakes qt_leaks qt_ranks qt_sight qt_pad qt_gets qt_counts qt_worth qt_ways qt_image qt_isKept : Nat) (v_book : (Nat → Int32)) (v_now : (Nat → Int32)) (v_flakes : (Nat → Int32)) (v_leaks : (Nat → Int32)) (v_music : Int32) (v_sights : Int32) (v_signs : Int32) (v_pad : (Nat → Int32)) (v_freeAt : Int32) (v_freeWho : Int32) (v_reason : Int32) (v_acts : Int32) (r : Int32) (w_book : (Nat → Int32)) (w_now : (Nat → Int32)) (w_signs : Int32) (w_freeAt : Int32) (w_freeWho : Int32) (w_reason : Int32) (w_acts : Int32) (hf : f_X10_done v_book v_now v_flakes v_leaks v_music v_signs v_pad v_freeAt v_freeWho v_reason v_acts = some (r, w_book, w_now, w_signs, w_freeAt, w_freeWho, w_reason, w_acts)) : Met l yX10_done wsX10_done rm_X10_done (PR D cI cJ cZ [(qt, .inr (9, [.ref qt_book, .ref qt_now, .ref qt_flakes, .ref qt_leaks, .int v_music, .ref qt_ranks, .int v_sights, .ref qt_sight, .int v_signs, .ref qt_pad, .int v_freeAt, .int v_freeWho, .int v_reason, .int v_acts, .ref qt_gets, .ref qt_counts, .ref qt_worth, .ref qt_ways, .ref qt_image, .ref qt_isKept])), (qt_book, .inl (cI, 43, .inl v_book)), (qt_now, .inl (cI, 43, .inl v_now)), (qt_flakes, .inl (cI, 8, .inl v_flakes)), (qt_leaks, .inl (cI, 8, .inl v_leaks)), (qt_pad, .inl (cI, 60, .inl v_pad))] sz [.ref qt]) (QI D (va_A [(qt, .inr (9, [.ref qt_book, .ref qt_now, .ref qt_flakes, .ref qt_leaks, .int v_music, .ref qt_ranks, .int v_sights, .ref qt_sight, .int v_signs, .ref qt_pad, .int v_freeAt, .int v_freeWho, .int v_reason, .int v_acts, .ref qt_gets, .ref qt_counts, .ref qt_worth, .ref qt_ways, .ref qt_image, .ref qt_isKept])), (qt_book, .inl (cI, 43, .inl v_book)), (qt_now, .inl (cI, 43, .inl v_now)), (qt_flakes, .inl (cI, 8, .inl v_flakes)), (qt_leaks, .inl (cI, 8, .inl v_leaks)), (qt_pad, .inl (cI, 60, .inl v_pad))] sz) r [(qt, .inr (9, [.ref qt_book, .ref qt_now, .ref qt_flakes, .ref qt_leaks, .int v_music, .ref qt_ranks, .int v_sights, .ref qt_sight, .int w_signs, .ref qt_pad, .int w_freeAt, .int w_freeWho, .int w_reason, .int w_acts, .ref qt_gets, .ref qt_counts, .ref qt_worth, .ref qt_ways, .ref qt_image, .ref qt_isKept])), (qt_book, .inl (cI, 43, .inl w_book)), (qt_now, .inl (cI, 43, .inl w_now)), (qt_flakes, .inl (cI, 8, .inl v_flakes)), (qt_leaks, .inl (cI, 8, .inl v_leaks)), (qt_pad, .inl (cI, 60, .inl v_pad))]) 0 0 (va_A [(qt, .inr (9, [.ref qt_book, .ref qt_now, .ref qt_flakes, .ref qt_leaks, .int v_music, .ref qt_ranks, .int v_sights, .ref qt_sight, .int v_signs, .ref qt_pad, .int v_freeAt, .int v_freeWho, .int v_reason, .int v_acts, .ref qt_gets, .ref qt_counts, .ref qt_worth, .ref qt_ways, .ref qt_image, .ref qt_isKept])), (qt_book, .inl (cI, 43, .inl v_book)), (qt_now, .inl (cI, 43, .inl v_now)), (qt_flakes, .inl (cI, 8, .inl v_flakes)), (qt_leaks, .inl (cI, 8, .inl v_leaks)), (qt_pad, .inl (cI, 60, .inl v_pad))] sz) := by
  refine Met.ofW (cc := cX10_done) (maxL := 2) (ret := (some .int)) (by decide) rfl ?_
  intro p e s m args below meth c s₁ B hml hv
  obtain ⟨hav, hsz, hP, hD0, hE⟩ := hv
  have hx := B.exec
  have hb := B.bytes
  have hr := B.returns
  have hts := atoms_spec (ws := wsX10_done) B.pre
  have hown : s.vm.findClass RX10 = some m.cls := findClass_of_methodNamed B.named
  have hlocks := B.notSynchronized
  subst hsz
  have hD := hD0.self (sz := s.heap.size)
  generalize hAe : va_A [(qt, .inr (9, [.ref qt_book, .ref qt_now, .ref qt_flakes, .ref qt_leaks, .int v_music, .ref qt_ranks, .int v_sights, .ref qt_sight, .int v_signs, .ref qt_pad, .int v_freeAt, .int v_freeWho, .int v_reason, .int v_acts, .ref qt_gets, .ref qt_counts, .ref qt_worth, .ref qt_ways, .ref qt_image, .ref qt_isKept])), (qt_book, .inl (cI, 43, .inl v_book)), (qt_now, .inl (cI, 43, .inl v_now)), (qt_flakes, .inl (cI, 8, .inl v_flakes)), (qt_leaks, .inl (cI, 8, .inl v_leaks)), (qt_pad, .inl (cI, 60, .inl v_pad))] s.heap.size = A at hD ⊢
  have hA : ∀ q : Nat, s.heap.size ≤ q → A q := fun q h => by rw [← hAe]; exact Or.inr h
  have hS : va_S A s.heap s.heap [] := va_S.rf
  have hl := lv_entry ([.ref qt]) (n := 2) (Nat.le_of_ble_eq_true rfl)
  have hfr : entryFrame m args 2 = entryFrame m ([.ref qt] : List Value).toArray 2 := by rw [hav]
  rw [hfr, lg_entry_eq]
  generalize (lg_sl ([.ref qt]) ++ List.replicate (2 - (lg_sl ([.ref qt])).length) Slot.unset).toArray = ls at hl ⊢
  have hl : lv_has ls 2 [(0, .ref qt)] := hl
  obtain ⟨QQ, hQQ⟩ : ∃ QQ, QQ = MQ below (QI D A r [(qt, .inr (9, [.ref qt_book, .ref qt_now, .ref qt_flakes, .ref qt_leaks, .int v_music, .ref qt_ranks, .int v_sights, .ref qt_sight, .int w_signs, .ref qt_pad, .int w_freeAt, .int w_freeWho, .int w_reason, .int w_acts, .ref qt_gets, .ref qt_counts, .ref qt_worth, .ref qt_ways, .ref qt_image, .ref qt_isKept])), (qt_book, .inl (cI, 43, .inl w_book)), (qt_now, .inl (cI, 43, .inl w_now)), (qt_flakes, .inl (cI, 8, .inl v_flakes)), (qt_leaks, .inl (cI, 8, .inl v_leaks)), (qt_pad, .inl (cI, 60, .inl v_pad))]) args s 0 0 A := ⟨_, rfl⟩
  show W p l e rm_X10_done s m args below meth c s.heap [] 0 0 _ _
  rw [← hQQ]
  have hL12 : ∀ (n12 : Nat), ∀ (v_book : (Nat → Int32)) (v_now : (Nat → Int32)) (v_signs : Int32) (v_freeAt : Int32) (v_freeWho : Int32) (v_reason : Int32) (v_acts : Int32) (x1 : Int32) (H : Heap) (locs : List Loc) (ls : Array Slot), va_P D vwCl [(qt, .inr (9, [.ref qt_book, .ref qt_now, .ref qt_flakes, .ref qt_leaks, .int v_music, .ref qt_ranks, .int v_sights, .ref qt_sight, .int v_signs, .ref qt_pad, .int v_freeAt, .int v_freeWho, .int v_reason, .int v_acts, .ref qt_gets, .ref qt_counts, .ref qt_worth, .ref qt_ways, .ref qt_image, .ref qt_isKept])), (qt_book, .inl (cI, 43, .inl v_book)), (qt_now, .inl (cI, 43, .inl v_now)), (qt_flakes, .inl (cI, 8, .inl v_flakes)), (qt_leaks, .inl (cI, 8, .inl v_leaks)), (qt_pad, .inl (cI, 60, .inl v_pad))] H → va_D A [(qt, .inr (9, [.ref qt_book, .ref qt_now, .ref qt_flakes, .ref qt_leaks, .int v_music, .ref qt_ranks, .int v_sights, .ref qt_sight, .int v_signs, .ref qt_pad, .int v_freeAt, .int v_freeWho, .int v_reason, .int v_acts, .ref qt_gets, .ref qt_counts, .ref qt_worth, .ref qt_ways, .ref qt_image, .ref qt_isKept])), (qt_book, .inl (cI, 43, .inl v_book)), (qt_now, .inl (cI, 43, .inl v_now)), (qt_flakes, .inl (cI, 8, .inl v_flakes)), (qt_leaks, .inl (cI, 8, .inl v_leaks)), (qt_pad, .inl (cI, 60, .inl v_pad))] → va_S A s.heap H locs → lv_has ls 2 [(0, .ref qt), (1, .int x1)] → L_X10_done_12 v_flakes v_leaks v_music v_pad n12 v_book v_now v_signs v_freeAt v_freeWho v_reason v_acts x1 = some (r, w_book, w_now, w_signs, w_freeAt, w_freeWho, w_reason, w_acts) → W p l e rm_X10_done s m args below meth c H locs 0 0 QQ (F0 m 12 ls []) := by
    intro n12
    induction n12 with
    | zero =>
      intro v_book v_now v_signs v_freeAt v_freeWho v_reason v_acts x1 H locs ls hP hD hS hl h
      have h : none = some (r, w_book, w_now, w_signs, w_freeAt, w_freeWho, w_reason, w_acts) := h
      cases h
    | succ n12 ih12 =>
      intro v_book v_now v_signs v_freeAt v_freeWho v_reason v_acts x1 H locs ls hP hD hS hl h
      rw [L_X10_done_12.eq_2] at h
      refine lv_iload_n hx hb dX10_done_12 rfl (lv_at hl 1 rfl) ?_
      refine lv_bipush (v := 43) hx hb dX10_done_13 (by decide) ?_
      refine lv_icmp_ge (tgt := 36) hx hb dX10_done_15 (by decide) (fun hc => ?_) (fun hc => ?_)
      · have h := if_t hc h
        refine lv_aload_n hx hb dX10_done_36 rfl (lv_at hl 0 rfl) ?_
        refine lv_iconst (v := 0) hx hb dX10_done_37 (by decide) ?_
        refine va_put (D := D) (ci := 9) (v := .int (0 : Int32)) (ty := .int) (C := RX10) (T := TX10) (N := 20) hx hb hts (fun _ hw => (List.mem_cons_of_mem _ (List.mem_append_right _ hw))) tyX10 tyX10_ok nmX10 hown hE.1 hP hD hS 0 rfl rfl 8 (by decide) (hts (.fieldLink RX10 77 "GlobeCrownModel" "signs" "I") (List.mem_cons_of_mem _ (List.mem_append_left _ (List.mem_append_left _ (List.mem_of_getElem? (i := 2) rfl))))) (fun _ h9 => h9) rfl (tyX10_ok 8 (by decide)) rfl rfl (Nat.le_of_ble_eq_true rfl) dX10_done_38 (fun H locs (hP : va_P D vwCl [(qt, .inr (9, [.ref qt_book, .ref qt_now, .ref qt_flakes, .ref qt_leaks, .int v_music, .ref qt_ranks, .int v_sights, .ref qt_sight, .int (0 : Int32), .ref qt_pad, .int v_freeAt, .int v_freeWho, .int v_reason, .int v_acts, .ref qt_gets, .ref qt_counts, .ref qt_worth, .ref qt_ways, .ref qt_image, .ref qt_isKept])), (qt_book, .inl (cI, 43, .inl v_book)), (qt_now, .inl (cI, 43, .inl v_now)), (qt_flakes, .inl (cI, 8, .inl v_flakes)), (qt_leaks, .inl (cI, 8, .inl v_leaks)), (qt_pad, .inl (cI, 60, .inl v_pad))] H) (hD : va_D A [(qt, .inr (9, [.ref qt_book, .ref qt_now, .ref qt_flakes, .ref qt_leaks, .int v_music, .ref qt_ranks, .int v_sights, .ref qt_sight, .int (0 : Int32), .ref qt_pad, .int v_freeAt, .int v_freeWho, .int v_reason, .int v_acts, .ref qt_gets, .ref qt_counts, .ref qt_worth, .ref qt_ways, .ref qt_image, .ref qt_isKept])), (qt_book, .inl (cI, 43, .inl v_book)), (qt_now, .inl (cI, 43, .inl v_now)), (qt_flakes, .inl (cI, 8, .inl v_flakes)), (qt_leaks, .inl (cI, 8, .inl v_leaks)), (qt_pad, .inl (cI, 60, .inl v_pad))]) hS => ?_)
        refine lv_aload_n hx hb dX10_done_41 rfl (lv_at hl 0 rfl) ?_
        refine va_get (D := D) (ci := 9) (C := RX10) (T := TX10) (N := 20) hx hb hts (fun _ hw => (List.mem_cons_of_mem _ (List.mem_append_right _ hw))) hown hE.1 hP 0 rfl rfl 13 (by decide) (hts (.fieldLink RX10 115 "GlobeCrownModel" "acts" "I") (List.mem_cons_of_mem _ (List.mem_append_left _ (List.mem_append_left _ (List.mem_of_getElem? (i := 3) rfl))))) (fun _ h9 => h9) rfl dX10_done_42 ?_
        cases h
        rw [hQQ]
        exact gw_iret hx hb hr hlocks hP hD hS dX10_done_45
      · have h := if_f hc h
        refine lv_aload_n hx hb dX10_done_18 rfl (lv_at hl 0 rfl) ?_
        refine va_get (D := D) (ci := 9) (C := RX10) (T := TX10) (N := 20) hx hb hts (fun _ hw => (List.mem_cons_of_mem _ (List.mem_append_right _ hw))) hown hE.1 hP 0 rfl rfl 0 (by decide) (hts (.fieldLink RX10 7 "GlobeCrownModel" "book" "[I") (List.mem_cons_of_mem _ (List.mem_append_left _ (List.mem_append_left _ (List.mem_of_getElem? (i := 0) rfl))))) (fun _ h9 => h9) rfl dX10_done_19 ?_
        refine lv_iload_n hx hb dX10_done_22 rfl (lv_at hl 1 rfl) ?_
        refine lv_aload_n hx hb dX10_done_23 rfl (lv_at hl 0 rfl) ?_
        refine va_get (D := D) (ci := 9) (C := RX10) (T := TX10) (N := 20) hx hb hts (fun _ hw => (List.mem_cons_of_mem _ (List.mem_append_right _ hw))) hown hE.1 hP 0 rfl rfl 1 (by decide) (hts (.fieldLink RX10 13 "GlobeCrownModel" "now" "[I") (List.mem_cons_of_mem _ (List.mem_append_left _ (List.mem_append_left _ (List.mem_of_getElem? (i := 1) rfl))))) (fun _ h9 => h9) rfl dX10_done_24 ?_
        refine lv_iload_n hx hb dX10_done_27 rfl (lv_at hl 1 rfl) ?_
        obtain ⟨hg, h⟩ := gin_some h
        refine va_iald hx hb hE.1 hP 2 0 rfl rfl hg dX10_done_28 ?_
        obtain ⟨hg, h⟩ := gin_some h
        refine va_iast hx hb hE.1 hP hD hS 1 0 rfl rfl hg dX10_done_29 (fun H locs (hP : va_P D vwCl [(qt, .inr (9, [.ref qt_book, .ref qt_now, .ref qt_flakes, .ref qt_leaks, .int v_music, .ref qt_ranks, .int v_sights, .ref qt_sight, .int v_signs, .ref qt_pad, .int v_freeAt, .int v_freeWho, .int v_reason, .int v_acts, .ref qt_gets, .ref qt_counts, .ref qt_worth, .ref qt_ways, .ref qt_image, .ref qt_isKept])), (qt_book, .inl (cI, 43, .inl (upd v_book (Int32.toNatClampNeg x1) (v_now (Int32.toNatClampNeg x1))))), (qt_now, .inl (cI, 43, .inl v_now)), (qt_flakes, .inl (cI, 8, .inl v_flakes)), (qt_leaks, .inl (cI, 8, .inl v_leaks)), (qt_pad, .inl (cI, 60, .inl v_pad))] H) (hD : va_D A [(qt, .inr (9, [.ref qt_book, .ref qt_now, .ref qt_flakes, .ref qt_leaks, .int v_music, .ref qt_ranks, .int v_sights, .ref qt_sight, .int v_signs, .ref qt_pad, .int v_freeAt, .int v_freeWho, .int v_reason, .int v_acts, .ref qt_gets, .ref qt_counts, .ref qt_worth, .ref qt_ways, .ref qt_image, .ref qt_isKept])), (qt_book, .inl (cI, 43, .inl (upd v_book (Int32.toNatClampNeg x1) (v_now (Int32.toNatClampNeg x1))))), (qt_now, .inl (cI, 43, .inl v_now)), (qt_flakes, .inl (cI, 8, .inl v_flakes)), (qt_leaks, .inl (cI, 8, .inl v_leaks)), (qt_pad, .inl (cI, 60, .inl v_pad))]) hS => ?_)
        refine lv_iinc (v := (x1 + (1 : Int32))) (lv' := [(1, .int (x1 + (1 : Int32))), (0, .ref qt)]) hx hb dX10_done_30 hl (k := 1) rfl rfl (by decide) rfl (fun ls hl => ?_)
        refine lv_goto (tgt := 12) hx hb dX10_done_33 (by decide) ?_
        exact ih12 (upd v_book (Int32.toNatClampNeg x1) (v_now (Int32.toNatClampNeg x1))) v_now v_signs v_freeAt v_freeWho v_reason v_acts (x1 + (1 : Int32)) H locs ls hP hD hS (lv_sub hl [1, 0] rfl) h
  have h := hf
  unfold f_X10_done at h
  refine gw_start hP hD hS (fun H locs hP hD hS => ?_)
  refine lv_aload_n hx hb dX10_done_0 rfl (lv_at hl 0 rfl) ?_
  obtain ⟨r1, u1v_now, u1v_freeAt, u1v_freeWho, u1v_reason, u1v_acts, hc1, h⟩ := bd6_some h
  refine gw_ci (wr := []) (w2 := [(qt, .inr (9, [.ref qt_book, .ref qt_now, .ref qt_flakes, .ref qt_leaks, .int v_music, .ref qt_ranks, .int v_sights, .ref qt_sight, .int v_signs, .ref qt_pad, .int u1v_freeAt, .int u1v_freeWho, .int u1v_reason, .int u1v_acts, .ref qt_gets, .ref qt_counts, .ref qt_worth, .ref qt_ways, .ref qt_image, .ref qt_isKept])), (qt_book, .inl (cI, 43, .inl v_book)), (qt_now, .inl (cI, 43, .inl u1v_now)), (qt_flakes, .inl (cI, 8, .inl v_flakes)), (qt_leaks, .inl (cI, 8, .inl v_leaks)), (qt_pad, .inl (cI, 60, .inl v_pad))]) (gw_rV (n := 0) ⟨hx, hb, hml, hown, hts⟩ (C_X10_barOfReigns l D cI cJ cZ H.size qt qt_book qt_now qt_flakes qt_leaks qt_ranks qt_sight qt_pad qt_gets qt_counts qt_worth qt_ways qt_image qt_isKept v_book v_now v_flakes v_leaks v_music v_sights v_signs v_pad v_freeAt v_freeWho v_reason v_acts r1 u1v_now u1v_freeAt u1v_freeWho u1v_reason u1v_acts hc1) gX10_done_X10_barOfReigns rfl rfl rfl hdV_X10_barOfReigns ⟨Nat.le_of_ble_eq_true rfl, Nat.le_of_ble_eq_true rfl⟩ hE (hP.sub [0, 1, 2, 3, 4, 5] rfl) (hD.sub [0, 1, 2, 3, 4, 5] (by decide) rfl) 9 rfl 0 rfl rfl hl.1 (rest := []) rfl (Nat.le_of_ble_eq_true rfl) dX10_done_1 ⟨Nat.zero_le _, Nat.zero_le _⟩) hP hD hS hA [0, 1, 2, 3, 4, 5] [] rfl rfl rfl (by decide) rfl (fun H locs hP hD hS => ?_)
  refine lv_if_ge (tgt := 10) hx hb dX10_done_4 (by decide) (fun hc => ?_) (fun hc => ?_)
  · have h := if_t hc h
    refine lv_iconst (v := 0) hx hb dX10_done_10 (by decide) ?_
    refine lv_istore_n (lv' := [(1, .int (0 : Int32)), (0, .ref qt)]) hx hb dX10_done_11 rfl hl (by decide) rfl (fun ls hl => ?_)
    exact hL12 FU v_book u1v_now v_signs u1v_freeAt u1v_freeWho u1v_reason u1v_acts (0 : Int32) H locs ls hP hD hS (lv_sub hl [1, 0] rfl) h
  · have h := if_f hc h
    refine lv_bipush (v := -5) hx hb dX10_done_7 (by decide) ?_
    cases h
    rw [hQQ]
    exact gw_iret hx hb hr hlocks hP hD hS dX10_done_9
theorem hdV_X10_done : yX10_done.cls = RX10 ∧ yX10_done.cls ≠ "java/lang/invoke/MethodHandle" ∧ yX10_done.cls ≠ "java/lang/invoke/VarHandle" ∧ (parseMethodDescriptor yX10_done.desc).map (fun d => d.parameters.length) = some 0 := by decide +kernel
