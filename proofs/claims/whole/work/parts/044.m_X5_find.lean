def L_X5_find_15 (vo1_hours : (Nat → Int32)) (vo1_flying : (Nat → Int32)) (vo1_size : Int32) (rec7 : (Nat → Int32) → Int32 → Int32 → Option ((Nat → Int32) × Int32)) : Nat → (Nat → Int32) → Int32 → Int32 → Int32 → Option ((Nat → Int32) × Int32)
  | 0, _, _, _, _ => none
  | n + 1, v_codes, v_size, x2, x3 => (if (20 : Int32) < x3 then (rec7 v_codes v_size (x2 + (1 : Int32))) else (if (189 : Int32) ≤ v_size then ((L_X5_find_15 vo1_hours vo1_flying vo1_size rec7 n) v_codes v_size x2 (x3 + (1 : Int32))) else (bd1 (f_X7_fit vo1_hours vo1_flying vo1_size x2 x3) (fun r34 => (if r34 = (0 : Int32) then ((L_X5_find_15 vo1_hours vo1_flying vo1_size rec7 n) v_codes v_size x2 (x3 + (1 : Int32))) else (gin v_size 189 ((L_X5_find_15 vo1_hours vo1_flying vo1_size rec7 n) (upd v_codes (Int32.toNatClampNeg v_size) (((100 : Int32) * x2) + x3)) (v_size + (1 : Int32)) x2 (x3 + (1 : Int32)))))))))
def L_X5_find_7 (vo1_hours : (Nat → Int32)) (vo1_flying : (Nat → Int32)) (vo1_size : Int32) : Nat → (Nat → Int32) → Int32 → Int32 → Option ((Nat → Int32) × Int32)
  | 0, _, _, _ => none
  | n + 1, v_codes, v_size, x2 => (if (9 : Int32) < x2 then (some (v_codes, v_size)) else (L_X5_find_15 vo1_hours vo1_flying vo1_size (L_X5_find_7 vo1_hours vo1_flying vo1_size n) FU v_codes v_size x2 (0 : Int32)))
def f_X5_find (v_codes : (Nat → Int32)) (v_size : Int32) (vo1_hours : (Nat → Int32)) (vo1_flying : (Nat → Int32)) (vo1_size : Int32) : Option ((Nat → Int32) × Int32) := (L_X5_find_7 vo1_hours vo1_flying vo1_size FU v_codes (0 : Int32) (1 : Int32))
abbrev rm_X5_find : Room := { frames := 3, cells := 0, slots := 0, locals := 71 }
set_option maxHeartbeats 4000000 in
set_option maxRecDepth 100000 in
theorem C_X5_find (l : Launch) (D : va_G) (cI cJ cZ : ClassId) (sz : Nat) (qt qt_codes qt_tally qo1 qo1_hours qo1_flying : Nat) (v_codes : (Nat → Int32)) (v_size : Int32) (vo1_hours : (Nat → Int32)) (vo1_flying : (Nat → Int32)) (vo1_size : Int32) (w_codes : (Nat → Int32)) (w_size : Int32) (hf : f_X5_find v_codes v_size vo1_hours vo1_flying vo1_size = some (w_codes, w_size)) : Met l yX5_find wsX5_find rm_X5_find (PR D cI cJ cZ [(qt, .inr (4, [.ref qt_codes, .ref qt_tally, .int v_size])), (qt_codes, .inl (cI, 189, .inl v_codes)), (qo1, .inr (6, [.ref qo1_hours, .ref qo1_flying, .int vo1_size])), (qo1_hours, .inl (cI, 8, .inl vo1_hours)), (qo1_flying, .inl (cI, 8, .inl vo1_flying))] sz [.ref qt, .ref qo1]) (QV D (va_A [(qt, .inr (4, [.ref qt_codes, .ref qt_tally, .int v_size])), (qt_codes, .inl (cI, 189, .inl v_codes)), (qo1, .inr (6, [.ref qo1_hours, .ref qo1_flying, .int vo1_size])), (qo1_hours, .inl (cI, 8, .inl vo1_hours)), (qo1_flying, .inl (cI, 8, .inl vo1_flying))] sz) [(qt, .inr (4, [.ref qt_codes, .ref qt_tally, .int w_size])), (qt_codes, .inl (cI, 189, .inl w_codes)), (qo1, .inr (6, [.ref qo1_hours, .ref qo1_flying, .int vo1_size])), (qo1_hours, .inl (cI, 8, .inl vo1_hours)), (qo1_flying, .inl (cI, 8, .inl vo1_flying))]) 0 0 (va_A [(qt, .inr (4, [.ref qt_codes, .ref qt_tally, .int v_size])), (qt_codes, .inl (cI, 189, .inl v_codes)), (qo1, .inr (6, [.ref qo1_hours, .ref qo1_flying, .int vo1_size])), (qo1_hours, .inl (cI, 8, .inl vo1_hours)), (qo1_flying, .inl (cI, 8, .inl vo1_flying))] sz) := by
  refine Met.ofW (cc := cX5_find) (maxL := 4) (ret := none) (by decide) rfl ?_
  intro p e s m args below meth c s₁ B hml hv
  obtain ⟨hav, hsz, hP, hD0, hE⟩ := hv
  have hx := B.exec
  have hb := B.bytes
  have hr := B.returns
  have hts := atoms_spec (ws := wsX5_find) B.pre
  have hown : s.vm.findClass RX5 = some m.cls := findClass_of_methodNamed B.named
  have hlocks := B.notSynchronized
  subst hsz
  have hD := hD0.self (sz := s.heap.size)
  generalize hAe : va_A [(qt, .inr (4, [.ref qt_codes, .ref qt_tally, .int v_size])), (qt_codes, .inl (cI, 189, .inl v_codes)), (qo1, .inr (6, [.ref qo1_hours, .ref qo1_flying, .int vo1_size])), (qo1_hours, .inl (cI, 8, .inl vo1_hours)), (qo1_flying, .inl (cI, 8, .inl vo1_flying))] s.heap.size = A at hD ⊢
  have hA : ∀ q : Nat, s.heap.size ≤ q → A q := fun q h => by rw [← hAe]; exact Or.inr h
  have hS : va_S A s.heap s.heap [] := va_S.rf
  have hl := lv_entry ([.ref qt, .ref qo1]) (n := 4) (Nat.le_of_ble_eq_true rfl)
  have hfr : entryFrame m args 4 = entryFrame m ([.ref qt, .ref qo1] : List Value).toArray 4 := by rw [hav]
  rw [hfr, lg_entry_eq]
  generalize (lg_sl ([.ref qt, .ref qo1]) ++ List.replicate (4 - (lg_sl ([.ref qt, .ref qo1])).length) Slot.unset).toArray = ls at hl ⊢
  have hl : lv_has ls 4 [(0, .ref qt), (1, .ref qo1)] := hl
  obtain ⟨QQ, hQQ⟩ : ∃ QQ, QQ = MQ below (QV D A [(qt, .inr (4, [.ref qt_codes, .ref qt_tally, .int w_size])), (qt_codes, .inl (cI, 189, .inl w_codes)), (qo1, .inr (6, [.ref qo1_hours, .ref qo1_flying, .int vo1_size])), (qo1_hours, .inl (cI, 8, .inl vo1_hours)), (qo1_flying, .inl (cI, 8, .inl vo1_flying))]) args s 0 0 A := ⟨_, rfl⟩
  show W p l e rm_X5_find s m args below meth c s.heap [] 0 0 _ _
  rw [← hQQ]
  have hL7 : ∀ (n7 : Nat), ∀ (v_codes : (Nat → Int32)) (v_size : Int32) (x2 : Int32) (H : Heap) (locs : List Loc) (ls : Array Slot), va_P D vwCl [(qt, .inr (4, [.ref qt_codes, .ref qt_tally, .int v_size])), (qt_codes, .inl (cI, 189, .inl v_codes)), (qo1, .inr (6, [.ref qo1_hours, .ref qo1_flying, .int vo1_size])), (qo1_hours, .inl (cI, 8, .inl vo1_hours)), (qo1_flying, .inl (cI, 8, .inl vo1_flying))] H → va_D A [(qt, .inr (4, [.ref qt_codes, .ref qt_tally, .int v_size])), (qt_codes, .inl (cI, 189, .inl v_codes)), (qo1, .inr (6, [.ref qo1_hours, .ref qo1_flying, .int vo1_size])), (qo1_hours, .inl (cI, 8, .inl vo1_hours)), (qo1_flying, .inl (cI, 8, .inl vo1_flying))] → va_S A s.heap H locs → lv_has ls 4 [(0, .ref qt), (1, .ref qo1), (2, .int x2)] → L_X5_find_7 vo1_hours vo1_flying vo1_size n7 v_codes v_size x2 = some (w_codes, w_size) → W p l e rm_X5_find s m args below meth c H locs 0 0 QQ (F0 m 7 ls []) := by
    intro n7
    induction n7 with
    | zero =>
      intro v_codes v_size x2 H locs ls hP hD hS hl h
      have h : none = some (w_codes, w_size) := h
      cases h
    | succ n7 ih7 =>
      have hL15 : ∀ (n15 : Nat), ∀ (v_codes : (Nat → Int32)) (v_size : Int32) (x2 : Int32) (x3 : Int32) (H : Heap) (locs : List Loc) (ls : Array Slot), va_P D vwCl [(qt, .inr (4, [.ref qt_codes, .ref qt_tally, .int v_size])), (qt_codes, .inl (cI, 189, .inl v_codes)), (qo1, .inr (6, [.ref qo1_hours, .ref qo1_flying, .int vo1_size])), (qo1_hours, .inl (cI, 8, .inl vo1_hours)), (qo1_flying, .inl (cI, 8, .inl vo1_flying))] H → va_D A [(qt, .inr (4, [.ref qt_codes, .ref qt_tally, .int v_size])), (qt_codes, .inl (cI, 189, .inl v_codes)), (qo1, .inr (6, [.ref qo1_hours, .ref qo1_flying, .int vo1_size])), (qo1_hours, .inl (cI, 8, .inl vo1_hours)), (qo1_flying, .inl (cI, 8, .inl vo1_flying))] → va_S A s.heap H locs → lv_has ls 4 [(0, .ref qt), (1, .ref qo1), (2, .int x2), (3, .int x3)] → L_X5_find_15 vo1_hours vo1_flying vo1_size (L_X5_find_7 vo1_hours vo1_flying vo1_size n7) n15 v_codes v_size x2 x3 = some (w_codes, w_size) → W p l e rm_X5_find s m args below meth c H locs 0 0 QQ (F0 m 15 ls []) := by
        intro n15
        induction n15 with
        | zero =>
          intro v_codes v_size x2 x3 H locs ls hP hD hS hl h
          have h : none = some (w_codes, w_size) := h
          cases h
        | succ n15 ih15 =>
          intro v_codes v_size x2 x3 H locs ls hP hD hS hl h
          rw [L_X5_find_15.eq_2] at h
          refine lv_iload_n hx hb dX5_find_15 rfl (lv_at hl 3 rfl) ?_
          refine lv_bipush (v := 20) hx hb dX5_find_16 (by decide) ?_
          refine lv_icmp_gt (tgt := 71) hx hb dX5_find_18 (by decide) (fun hc => ?_) (fun hc => ?_)
          · have h := if_t hc h
            refine lv_iinc (v := (x2 + (1 : Int32))) (lv' := [(2, .int (x2 + (1 : Int32))), (0, .ref qt), (1, .ref qo1), (3, .int x3)]) hx hb dX5_find_71 hl (k := 2) rfl rfl (by decide) rfl (fun ls hl => ?_)
            refine lv_goto (tgt := 7) hx hb dX5_find_74 (by decide) ?_
            exact ih7 v_codes v_size (x2 + (1 : Int32)) H locs ls hP hD hS (lv_sub hl [1, 2, 0] rfl) h
          · have h := if_f hc h
            refine lv_aload_n hx hb dX5_find_21 rfl (lv_at hl 0 rfl) ?_
            refine va_get (D := D) (ci := 4) (C := RX5) (T := TX5) (N := 3) hx hb hts (fun _ hw => (List.mem_cons_of_mem _ (List.mem_append_left _ (List.mem_append_right _ hw)))) hown hE.1 hP 0 rfl rfl 2 (by decide) (hts (.fieldLink RX5 24 "GlobeCrown$Shakers" "size" "I") (List.mem_cons_of_mem _ (List.mem_append_left _ (List.mem_append_left _ (List.mem_of_getElem? (i := 0) rfl))))) (fun _ h9 => h9) rfl dX5_find_22 ?_
            refine lv_sipush (v := 189) hx hb dX5_find_25 (by decide) ?_
            refine lv_icmp_ge (tgt := 65) hx hb dX5_find_28 (by decide) (fun hc => ?_) (fun hc => ?_)
            · have h := if_t hc h
              refine lv_iinc (v := (x3 + (1 : Int32))) (lv' := [(3, .int (x3 + (1 : Int32))), (0, .ref qt), (1, .ref qo1), (2, .int x2)]) hx hb dX5_find_65 hl (k := 3) rfl rfl (by decide) rfl (fun ls hl => ?_)
              refine lv_goto (tgt := 15) hx hb dX5_find_68 (by decide) ?_
              exact ih15 v_codes v_size x2 (x3 + (1 : Int32)) H locs ls hP hD hS (lv_sub hl [1, 2, 3, 0] rfl) h
            · have h := if_f hc h
              refine lv_aload_n hx hb dX5_find_31 rfl (lv_at hl 1 rfl) ?_
              refine lv_iload_n hx hb dX5_find_32 rfl (lv_at hl 2 rfl) ?_
              refine lv_iload_n hx hb dX5_find_33 rfl (lv_at hl 3 rfl) ?_
              obtain ⟨r34, hc34, h⟩ := bd1_some h
              refine gw_ci (wr := [(qt, .inr (4, [.ref qt_codes, .ref qt_tally, .int v_size])), (qt_codes, .inl (cI, 189, .inl v_codes))]) (w2 := [(qt, .inr (4, [.ref qt_codes, .ref qt_tally, .int v_size])), (qt_codes, .inl (cI, 189, .inl v_codes)), (qo1, .inr (6, [.ref qo1_hours, .ref qo1_flying, .int vo1_size])), (qo1_hours, .inl (cI, 8, .inl vo1_hours)), (qo1_flying, .inl (cI, 8, .inl vo1_flying))]) (gw_rV (n := 2) ⟨hx, hb, hml, hown, hts⟩ (C_X7_fit l D cI cJ cZ H.size qo1 qo1_hours qo1_flying vo1_hours vo1_flying vo1_size x2 x3 r34 hc34) gX5_find_X7_fit rfl rfl rfl hdV_X7_fit ⟨Nat.le_of_ble_eq_true rfl, Nat.le_of_ble_eq_true rfl⟩ hE (hP.sub [2, 3, 4] rfl) (hD.sub [2, 3, 4] (by decide) rfl) 6 rfl 0 rfl rfl hl.1 (rest := []) rfl (Nat.le_of_ble_eq_true rfl) dX5_find_34 ⟨Nat.zero_le _, Nat.zero_le _⟩) hP hD hS hA [2, 3, 4] [0, 1] rfl rfl rfl (by decide) rfl (fun H locs hP hD hS => ?_)
              refine lv_if_eq (tgt := 65) hx hb dX5_find_37 (by decide) (fun hc => ?_) (fun hc => ?_)
              · have h := if_t hc h
                refine lv_iinc (v := (x3 + (1 : Int32))) (lv' := [(3, .int (x3 + (1 : Int32))), (0, .ref qt), (1, .ref qo1), (2, .int x2)]) hx hb dX5_find_65 hl (k := 3) rfl rfl (by decide) rfl (fun ls hl => ?_)
                refine lv_goto (tgt := 15) hx hb dX5_find_68 (by decide) ?_
                exact ih15 v_codes v_size x2 (x3 + (1 : Int32)) H locs ls hP hD hS (lv_sub hl [1, 2, 3, 0] rfl) h
              · have h := if_f hc h
                refine lv_aload_n hx hb dX5_find_40 rfl (lv_at hl 0 rfl) ?_
                refine va_get (D := D) (ci := 4) (C := RX5) (T := TX5) (N := 3) hx hb hts (fun _ hw => (List.mem_cons_of_mem _ (List.mem_append_left _ (List.mem_append_right _ hw)))) hown hE.1 hP 0 rfl rfl 0 (by decide) (hts (.fieldLink RX5 9 "GlobeCrown$Shakers" "codes" "[I") (List.mem_cons_of_mem _ (List.mem_append_left _ (List.mem_append_left _ (List.mem_of_getElem? (i := 1) rfl))))) (fun _ h9 => h9) rfl dX5_find_41 ?_
                refine lv_aload_n hx hb dX5_find_44 rfl (lv_at hl 0 rfl) ?_
                refine va_get (D := D) (ci := 4) (C := RX5) (T := TX5) (N := 3) hx hb hts (fun _ hw => (List.mem_cons_of_mem _ (List.mem_append_left _ (List.mem_append_right _ hw)))) hown hE.1 hP 0 rfl rfl 2 (by decide) (hts (.fieldLink RX5 24 "GlobeCrown$Shakers" "size" "I") (List.mem_cons_of_mem _ (List.mem_append_left _ (List.mem_append_left _ (List.mem_of_getElem? (i := 0) rfl))))) (fun _ h9 => h9) rfl dX5_find_45 ?_
                refine lv_bipush (v := 100) hx hb dX5_find_48 (by decide) ?_
                refine lv_iload_n hx hb dX5_find_50 rfl (lv_at hl 2 rfl) ?_
                refine lv_imul hx hb dX5_find_51 ?_
                refine lv_iload_n hx hb dX5_find_52 rfl (lv_at hl 3 rfl) ?_
                refine lv_iadd hx hb dX5_find_53 ?_
                obtain ⟨hg, h⟩ := gin_some h
                refine va_iast hx hb hE.1 hP hD hS 1 0 rfl rfl hg dX5_find_54 (fun H locs (hP : va_P D vwCl [(qt, .inr (4, [.ref qt_codes, .ref qt_tally, .int v_size])), (qt_codes, .inl (cI, 189, .inl (upd v_codes (Int32.toNatClampNeg v_size) (((100 : Int32) * x2) + x3)))), (qo1, .inr (6, [.ref qo1_hours, .ref qo1_flying, .int vo1_size])), (qo1_hours, .inl (cI, 8, .inl vo1_hours)), (qo1_flying, .inl (cI, 8, .inl vo1_flying))] H) (hD : va_D A [(qt, .inr (4, [.ref qt_codes, .ref qt_tally, .int v_size])), (qt_codes, .inl (cI, 189, .inl (upd v_codes (Int32.toNatClampNeg v_size) (((100 : Int32) * x2) + x3)))), (qo1, .inr (6, [.ref qo1_hours, .ref qo1_flying, .int vo1_size])), (qo1_hours, .inl (cI, 8, .inl vo1_hours)), (qo1_flying, .inl (cI, 8, .inl vo1_flying))]) hS => ?_)
                refine lv_aload_n hx hb dX5_find_55 rfl (lv_at hl 0 rfl) ?_
                refine lv_dup hx hb dX5_find_56 rfl ?_
                refine va_get (D := D) (ci := 4) (C := RX5) (T := TX5) (N := 3) hx hb hts (fun _ hw => (List.mem_cons_of_mem _ (List.mem_append_left _ (List.mem_append_right _ hw)))) hown hE.1 hP 0 rfl rfl 2 (by decide) (hts (.fieldLink RX5 24 "GlobeCrown$Shakers" "size" "I") (List.mem_cons_of_mem _ (List.mem_append_left _ (List.mem_append_left _ (List.mem_of_getElem? (i := 0) rfl))))) (fun _ h9 => h9) rfl dX5_find_57 ?_
                refine lv_iconst (v := 1) hx hb dX5_find_60 (by decide) ?_
                refine lv_iadd hx hb dX5_find_61 ?_
                refine va_put (D := D) (ci := 4) (v := .int (v_size + (1 : Int32))) (ty := .int) (C := RX5) (T := TX5) (N := 3) hx hb hts (fun _ hw => (List.mem_cons_of_mem _ (List.mem_append_left _ (List.mem_append_right _ hw)))) tyX5 tyX5_ok nmX5 hown hE.1 hP hD hS 0 rfl rfl 2 (by decide) (hts (.fieldLink RX5 24 "GlobeCrown$Shakers" "size" "I") (List.mem_cons_of_mem _ (List.mem_append_left _ (List.mem_append_left _ (List.mem_of_getElem? (i := 0) rfl))))) (fun _ h9 => h9) rfl (tyX5_ok 2 (by decide)) rfl rfl (Nat.le_of_ble_eq_true rfl) dX5_find_62 (fun H locs (hP : va_P D vwCl [(qt, .inr (4, [.ref qt_codes, .ref qt_tally, .int (v_size + (1 : Int32))])), (qt_codes, .inl (cI, 189, .inl (upd v_codes (Int32.toNatClampNeg v_size) (((100 : Int32) * x2) + x3)))), (qo1, .inr (6, [.ref qo1_hours, .ref qo1_flying, .int vo1_size])), (qo1_hours, .inl (cI, 8, .inl vo1_hours)), (qo1_flying, .inl (cI, 8, .inl vo1_flying))] H) (hD : va_D A [(qt, .inr (4, [.ref qt_codes, .ref qt_tally, .int (v_size + (1 : Int32))])), (qt_codes, .inl (cI, 189, .inl (upd v_codes (Int32.toNatClampNeg v_size) (((100 : Int32) * x2) + x3)))), (qo1, .inr (6, [.ref qo1_hours, .ref qo1_flying, .int vo1_size])), (qo1_hours, .inl (cI, 8, .inl vo1_hours)), (qo1_flying, .inl (cI, 8, .inl vo1_flying))]) hS => ?_)
                refine lv_iinc (v := (x3 + (1 : Int32))) (lv' := [(3, .int (x3 + (1 : Int32))), (0, .ref qt), (1, .ref qo1), (2, .int x2)]) hx hb dX5_find_65 hl (k := 3) rfl rfl (by decide) rfl (fun ls hl => ?_)
                refine lv_goto (tgt := 15) hx hb dX5_find_68 (by decide) ?_
                exact ih15 (upd v_codes (Int32.toNatClampNeg v_size) (((100 : Int32) * x2) + x3)) (v_size + (1 : Int32)) x2 (x3 + (1 : Int32)) H locs ls hP hD hS (lv_sub hl [1, 2, 3, 0] rfl) h
      intro v_codes v_size x2 H locs ls hP hD hS hl h
      rw [L_X5_find_7.eq_2] at h
      refine lv_iload_n hx hb dX5_find_7 rfl (lv_at hl 2 rfl) ?_
      refine lv_bipush (v := 9) hx hb dX5_find_8 (by decide) ?_
      refine lv_icmp_gt (tgt := 77) hx hb dX5_find_10 (by decide) (fun hc => ?_) (fun hc => ?_)
      · have h := if_t hc h
        cases h
        rw [hQQ]
        exact gw_vret hx hb hr hlocks hP hD hS dX5_find_77
      · have h := if_f hc h
        refine lv_iconst (v := 0) hx hb dX5_find_13 (by decide) ?_
        refine lv_istore_n (lv' := [(3, .int (0 : Int32)), (0, .ref qt), (1, .ref qo1), (2, .int x2)]) hx hb dX5_find_14 rfl hl (by decide) rfl (fun ls hl => ?_)
        exact hL15 FU v_codes v_size x2 (0 : Int32) H locs ls hP hD hS (lv_sub hl [1, 2, 3, 0] rfl) h
  have h := hf
  unfold f_X5_find at h
  refine gw_start hP hD hS (fun H locs hP hD hS => ?_)
  refine lv_aload_n hx hb dX5_find_0 rfl (lv_at hl 0 rfl) ?_
  refine lv_iconst (v := 0) hx hb dX5_find_1 (by decide) ?_
  refine va_put (D := D) (ci := 4) (v := .int (0 : Int32)) (ty := .int) (C := RX5) (T := TX5) (N := 3) hx hb hts (fun _ hw => (List.mem_cons_of_mem _ (List.mem_append_left _ (List.mem_append_right _ hw)))) tyX5 tyX5_ok nmX5 hown hE.1 hP hD hS 0 rfl rfl 2 (by decide) (hts (.fieldLink RX5 24 "GlobeCrown$Shakers" "size" "I") (List.mem_cons_of_mem _ (List.mem_append_left _ (List.mem_append_left _ (List.mem_of_getElem? (i := 0) rfl))))) (fun _ h9 => h9) rfl (tyX5_ok 2 (by decide)) rfl rfl (Nat.le_of_ble_eq_true rfl) dX5_find_2 (fun H locs (hP : va_P D vwCl [(qt, .inr (4, [.ref qt_codes, .ref qt_tally, .int (0 : Int32)])), (qt_codes, .inl (cI, 189, .inl v_codes)), (qo1, .inr (6, [.ref qo1_hours, .ref qo1_flying, .int vo1_size])), (qo1_hours, .inl (cI, 8, .inl vo1_hours)), (qo1_flying, .inl (cI, 8, .inl vo1_flying))] H) (hD : va_D A [(qt, .inr (4, [.ref qt_codes, .ref qt_tally, .int (0 : Int32)])), (qt_codes, .inl (cI, 189, .inl v_codes)), (qo1, .inr (6, [.ref qo1_hours, .ref qo1_flying, .int vo1_size])), (qo1_hours, .inl (cI, 8, .inl vo1_hours)), (qo1_flying, .inl (cI, 8, .inl vo1_flying))]) hS => ?_)
  refine lv_iconst (v := 1) hx hb dX5_find_5 (by decide) ?_
  refine lv_istore_n (lv' := [(2, .int (1 : Int32)), (0, .ref qt), (1, .ref qo1)]) hx hb dX5_find_6 rfl hl (by decide) rfl (fun ls hl => ?_)
  exact hL7 FU v_codes (0 : Int32) (1 : Int32) H locs ls hP hD hS (lv_sub hl [1, 2, 0] rfl) h
theorem hdV_X5_find : yX5_find.cls = RX5 ∧ yX5_find.cls ≠ "java/lang/invoke/MethodHandle" ∧ yX5_find.cls ≠ "java/lang/invoke/VarHandle" ∧ (parseMethodDescriptor yX5_find.desc).map (fun d => d.parameters.length) = some 1 := by decide +kernel
def f_X5_code (v_codes : (Nat → Int32)) (v_size : Int32) (p1 : Int32) : Option (Int32) := (if p1 < (0 : Int32) then (some (-6 : Int32)) else (if v_size ≤ p1 then (some (-6 : Int32)) else (if (189 : Int32) ≤ p1 then (some (-6 : Int32)) else (gin p1 189 (some (v_codes (Int32.toNatClampNeg p1)))))))
abbrev rm_X5_code : Room := { frames := 0, cells := 0, slots := 0, locals := 0 }
set_option maxHeartbeats 4000000 in
set_option maxRecDepth 100000 in
theorem C_X5_code (l : Launch) (D : va_G) (cI cJ cZ : ClassId) (sz : Nat) (qt qt_codes qt_tally : Nat) (v_codes : (Nat → Int32)) (v_size : Int32) (p1 : Int32) (r : Int32) (hf : f_X5_code v_codes v_size p1 = some r) : Met l yX5_code wsX5_code rm_X5_code (PR D cI cJ cZ [(qt, .inr (4, [.ref qt_codes, .ref qt_tally, .int v_size])), (qt_codes, .inl (cI, 189, .inl v_codes))] sz [.ref qt, .int p1]) (QI D (va_A [(qt, .inr (4, [.ref qt_codes, .ref qt_tally, .int v_size])), (qt_codes, .inl (cI, 189, .inl v_codes))] sz) r [(qt, .inr (4, [.ref qt_codes, .ref qt_tally, .int v_size])), (qt_codes, .inl (cI, 189, .inl v_codes))]) 0 0 (va_A [(qt, .inr (4, [.ref qt_codes, .ref qt_tally, .int v_size])), (qt_codes, .inl (cI, 189, .inl v_codes))] sz) := by
  refine Met.ofW (cc := cX5_code) (maxL := 2) (ret := (some .int)) (by decide) rfl ?_
  intro p e s m args below meth c s₁ B hml hv
  obtain ⟨hav, hsz, hP, hD0, hE⟩ := hv
  have hx := B.exec
  have hb := B.bytes
  have hr := B.returns
  have hts := atoms_spec (ws := wsX5_code) B.pre
  have hown : s.vm.findClass RX5 = some m.cls := findClass_of_methodNamed B.named
  have hlocks := B.notSynchronized
  subst hsz
  have hD := hD0.self (sz := s.heap.size)
  generalize hAe : va_A [(qt, .inr (4, [.ref qt_codes, .ref qt_tally, .int v_size])), (qt_codes, .inl (cI, 189, .inl v_codes))] s.heap.size = A at hD ⊢
  have hA : ∀ q : Nat, s.heap.size ≤ q → A q := fun q h => by rw [← hAe]; exact Or.inr h
  have hS : va_S A s.heap s.heap [] := va_S.rf
  have hl := lv_entry ([.ref qt, .int p1]) (n := 2) (Nat.le_of_ble_eq_true rfl)
  have hfr : entryFrame m args 2 = entryFrame m ([.ref qt, .int p1] : List Value).toArray 2 := by rw [hav]
  rw [hfr, lg_entry_eq]
  generalize (lg_sl ([.ref qt, .int p1]) ++ List.replicate (2 - (lg_sl ([.ref qt, .int p1])).length) Slot.unset).toArray = ls at hl ⊢
  have hl : lv_has ls 2 [(0, .ref qt), (1, .int p1)] := hl
  obtain ⟨QQ, hQQ⟩ : ∃ QQ, QQ = MQ below (QI D A r [(qt, .inr (4, [.ref qt_codes, .ref qt_tally, .int v_size])), (qt_codes, .inl (cI, 189, .inl v_codes))]) args s 0 0 A := ⟨_, rfl⟩
  show W p l e rm_X5_code s m args below meth c s.heap [] 0 0 _ _
  rw [← hQQ]
  have h := hf
  unfold f_X5_code at h
  refine gw_start hP hD hS (fun H locs hP hD hS => ?_)
  refine lv_iload_n hx hb dX5_code_0 rfl (lv_at hl 1 rfl) ?_
  refine lv_if_lt (tgt := 28) hx hb dX5_code_1 (by decide) (fun hc => ?_) (fun hc => ?_)
  · have h := if_t hc h
    refine lv_bipush (v := -6) hx hb dX5_code_28 (by decide) ?_
    cases h
    rw [hQQ]
    exact gw_iret hx hb hr hlocks hP hD hS dX5_code_30
  · have h := if_f hc h
    refine lv_iload_n hx hb dX5_code_4 rfl (lv_at hl 1 rfl) ?_
    refine lv_aload_n hx hb dX5_code_5 rfl (lv_at hl 0 rfl) ?_
    refine va_get (D := D) (ci := 4) (C := RX5) (T := TX5) (N := 3) hx hb hts (fun _ hw => (List.mem_cons_of_mem _ (List.mem_append_right _ hw))) hown hE.1 hP 0 rfl rfl 2 (by decide) (hts (.fieldLink RX5 24 "GlobeCrown$Shakers" "size" "I") (List.mem_cons_of_mem _ (List.mem_append_left _ (List.mem_of_getElem? (i := 0) rfl)))) (fun _ h9 => h9) rfl dX5_code_6 ?_
    refine lv_icmp_ge (tgt := 28) hx hb dX5_code_9 (by decide) (fun hc => ?_) (fun hc => ?_)
    · have h := if_t hc h
      refine lv_bipush (v := -6) hx hb dX5_code_28 (by decide) ?_
      cases h
      rw [hQQ]
      exact gw_iret hx hb hr hlocks hP hD hS dX5_code_30
    · have h := if_f hc h
      refine lv_iload_n hx hb dX5_code_12 rfl (lv_at hl 1 rfl) ?_
      refine lv_sipush (v := 189) hx hb dX5_code_13 (by decide) ?_
      refine lv_icmp_ge (tgt := 28) hx hb dX5_code_16 (by decide) (fun hc => ?_) (fun hc => ?_)
      · have h := if_t hc h
        refine lv_bipush (v := -6) hx hb dX5_code_28 (by decide) ?_
        cases h
        rw [hQQ]
        exact gw_iret hx hb hr hlocks hP hD hS dX5_code_30
      · have h := if_f hc h
        refine lv_aload_n hx hb dX5_code_19 rfl (lv_at hl 0 rfl) ?_
        refine va_get (D := D) (ci := 4) (C := RX5) (T := TX5) (N := 3) hx hb hts (fun _ hw => (List.mem_cons_of_mem _ (List.mem_append_right _ hw))) hown hE.1 hP 0 rfl rfl 0 (by decide) (hts (.fieldLink RX5 9 "GlobeCrown$Shakers" "codes" "[I") (List.mem_cons_of_mem _ (List.mem_append_left _ (List.mem_of_getElem? (i := 1) rfl)))) (fun _ h9 => h9) rfl dX5_code_20 ?_
        refine lv_iload_n hx hb dX5_code_23 rfl (lv_at hl 1 rfl) ?_
        obtain ⟨hg, h⟩ := gin_some h
        refine va_iald hx hb hE.1 hP 1 0 rfl rfl hg dX5_code_24 ?_
        refine lv_goto (tgt := 30) hx hb dX5_code_25 (by decide) ?_
        cases h
        rw [hQQ]
        exact gw_iret hx hb hr hlocks hP hD hS dX5_code_30
theorem hdV_X5_code : yX5_code.cls = RX5 ∧ yX5_code.cls ≠ "java/lang/invoke/MethodHandle" ∧ yX5_code.cls ≠ "java/lang/invoke/VarHandle" ∧ (parseMethodDescriptor yX5_code.desc).map (fun d => d.parameters.length) = some 1 := by decide +kernel
def L_X5_leftAtMost_25 (v_codes : (Nat → Int32)) (v_size : Int32) (p1 : Int32) : Nat → (Nat → Int32) → Int32 → Int32 → Option (Int32 × (Nat → Int32))
  | 0, _, _, _ => none
  | n + 1, v_tally, x2, x3 => (if v_size ≤ x3 then (some (x2, v_tally)) else (if (189 : Int32) ≤ x3 then (some (x2, v_tally)) else (gin x3 189 (gin x3 189 (bd1 (f_X5_flyingAt ((v_codes (Int32.toNatClampNeg x3)) / (100 : Int32)) (jrem (v_codes (Int32.toNatClampNeg x3)) (100 : Int32)) p1) (fun r59 => (if r59 < (0 : Int32) then ((L_X5_leftAtMost_25 v_codes v_size p1 n) v_tally x2 (x3 + (1 : Int32))) else (if (99 : Int32) < r59 then ((L_X5_leftAtMost_25 v_codes v_size p1 n) v_tally x2 (x3 + (1 : Int32))) else (gin r59 100 (gin r59 100 (gin r59 100 ((L_X5_leftAtMost_25 v_codes v_size p1 n) (upd v_tally (Int32.toNatClampNeg r59) ((v_tally (Int32.toNatClampNeg r59)) + (1 : Int32))) (jmax x2 ((upd v_tally (Int32.toNatClampNeg r59) ((v_tally (Int32.toNatClampNeg r59)) + (1 : Int32))) (Int32.toNatClampNeg r59))) (x3 + (1 : Int32))))))))))))))
def L_X5_leftAtMost_2 (v_codes : (Nat → Int32)) (v_size : Int32) (p1 : Int32) : Nat → (Nat → Int32) → Int32 → Option (Int32 × (Nat → Int32))
  | 0, _, _ => none
  | n + 1, v_tally, x2 => (if (99 : Int32) < x2 then (L_X5_leftAtMost_25 v_codes v_size p1 FU v_tally (0 : Int32) (0 : Int32)) else (gin x2 100 ((L_X5_leftAtMost_2 v_codes v_size p1 n) (upd v_tally (Int32.toNatClampNeg x2) (0 : Int32)) (x2 + (1 : Int32)))))
def f_X5_leftAtMost (v_codes : (Nat → Int32)) (v_tally : (Nat → Int32)) (v_size : Int32) (p1 : Int32) : Option (Int32 × (Nat → Int32)) := (L_X5_leftAtMost_2 v_codes v_size p1 FU v_tally (0 : Int32))
abbrev rm_X5_leftAtMost : Room := { frames := 2, cells := 0, slots := 0, locals := 48 }
set_option maxHeartbeats 4000000 in
set_option maxRecDepth 100000 in
theorem C_X5_leftAtMost (l : Launch) (D : va_G) (cI cJ cZ : ClassId) (sz : Nat) (qt qt_codes qt_tally : Nat) (v_codes : (Nat → Int32)) (v_tally : (Nat → Int32)) (v_size : Int32) (p1 : Int32) (r : Int32) (w_tally : (Nat → Int32)) (hf : f_X5_leftAtMost v_codes v_tally v_size p1 = some (r, w_tally)) : Met l yX5_leftAtMost wsX5_leftAtMost rm_X5_leftAtMost (PR D cI cJ cZ [(qt, .inr (4, [.ref qt_codes, .ref qt_tally, .int v_size])), (qt_codes, .inl (cI, 189, .inl v_codes)), (qt_tally, .inl (cI, 100, .inl v_tally))] sz [.ref qt, .int p1]) (QI D (va_A [(qt, .inr (4, [.ref qt_codes, .ref qt_tally, .int v_size])), (qt_codes, .inl (cI, 189, .inl v_codes)), (qt_tally, .inl (cI, 100, .inl v_tally))] sz) r [(qt, .inr (4, [.ref qt_codes, .ref qt_tally, .int v_size])), (qt_codes, .inl (cI, 189, .inl v_codes)), (qt_tally, .inl (cI, 100, .inl w_tally))]) 0 0 (va_A [(qt, .inr (4, [.ref qt_codes, .ref qt_tally, .int v_size])), (qt_codes, .inl (cI, 189, .inl v_codes)), (qt_tally, .inl (cI, 100, .inl v_tally))] sz) := by
  refine Met.ofW (cc := cX5_leftAtMost) (maxL := 5) (ret := (some .int)) (by decide) rfl ?_
  intro p e s m args below meth c s₁ B hml hv
  obtain ⟨hav, hsz, hP, hD0, hE⟩ := hv
  have hx := B.exec
  have hb := B.bytes
  have hr := B.returns
  have hts := atoms_spec (ws := wsX5_leftAtMost) B.pre
  have hown : s.vm.findClass RX5 = some m.cls := findClass_of_methodNamed B.named
  have hlocks := B.notSynchronized
  subst hsz
  have hD := hD0.self (sz := s.heap.size)
  generalize hAe : va_A [(qt, .inr (4, [.ref qt_codes, .ref qt_tally, .int v_size])), (qt_codes, .inl (cI, 189, .inl v_codes)), (qt_tally, .inl (cI, 100, .inl v_tally))] s.heap.size = A at hD ⊢
  have hA : ∀ q : Nat, s.heap.size ≤ q → A q := fun q h => by rw [← hAe]; exact Or.inr h
  have hS : va_S A s.heap s.heap [] := va_S.rf
  have hl := lv_entry ([.ref qt, .int p1]) (n := 5) (Nat.le_of_ble_eq_true rfl)
  have hfr : entryFrame m args 5 = entryFrame m ([.ref qt, .int p1] : List Value).toArray 5 := by rw [hav]
  rw [hfr, lg_entry_eq]
  generalize (lg_sl ([.ref qt, .int p1]) ++ List.replicate (5 - (lg_sl ([.ref qt, .int p1])).length) Slot.unset).toArray = ls at hl ⊢
  have hl : lv_has ls 5 [(0, .ref qt), (1, .int p1)] := hl
  obtain ⟨QQ, hQQ⟩ : ∃ QQ, QQ = MQ below (QI D A r [(qt, .inr (4, [.ref qt_codes, .ref qt_tally, .int v_size])), (qt_codes, .inl (cI, 189, .inl v_codes)), (qt_tally, .inl (cI, 100, .inl w_tally))]) args s 0 0 A := ⟨_, rfl⟩
  show W p l e rm_X5_leftAtMost s m args below meth c s.heap [] 0 0 _ _
  rw [← hQQ]
  have hL25 : ∀ (n25 : Nat), ∀ (v_tally : (Nat → Int32)) (x2 : Int32) (x3 : Int32) (H : Heap) (locs : List Loc) (ls : Array Slot), va_P D vwCl [(qt, .inr (4, [.ref qt_codes, .ref qt_tally, .int v_size])), (qt_codes, .inl (cI, 189, .inl v_codes)), (qt_tally, .inl (cI, 100, .inl v_tally))] H → va_D A [(qt, .inr (4, [.ref qt_codes, .ref qt_tally, .int v_size])), (qt_codes, .inl (cI, 189, .inl v_codes)), (qt_tally, .inl (cI, 100, .inl v_tally))] → va_S A s.heap H locs → lv_has ls 5 [(0, .ref qt), (1, .int p1), (2, .int x2), (3, .int x3)] → L_X5_leftAtMost_25 v_codes v_size p1 n25 v_tally x2 x3 = some (r, w_tally) → W p l e rm_X5_leftAtMost s m args below meth c H locs 0 0 QQ (F0 m 25 ls []) := by
    intro n25
    induction n25 with
    | zero =>
      intro v_tally x2 x3 H locs ls hP hD hS hl h
      have h : none = some (r, w_tally) := h
      cases h
    | succ n25 ih25 =>
      intro v_tally x2 x3 H locs ls hP hD hS hl h
      rw [L_X5_leftAtMost_25.eq_2] at h
      refine lv_iload_n hx hb dX5_leftAtMost_25 rfl (lv_at hl 3 rfl) ?_
      refine lv_aload_n hx hb dX5_leftAtMost_26 rfl (lv_at hl 0 rfl) ?_
      refine va_get (D := D) (ci := 4) (C := RX5) (T := TX5) (N := 3) hx hb hts (fun _ hw => (List.mem_cons_of_mem _ (List.mem_append_right _ hw))) hown hE.1 hP 0 rfl rfl 2 (by decide) (hts (.fieldLink RX5 24 "GlobeCrown$Shakers" "size" "I") (List.mem_cons_of_mem _ (List.mem_append_left _ (List.mem_of_getElem? (i := 1) rfl)))) (fun _ h9 => h9) rfl dX5_leftAtMost_27 ?_
      refine lv_icmp_ge (tgt := 105) hx hb dX5_leftAtMost_30 (by decide) (fun hc => ?_) (fun hc => ?_)
      · have h := if_t hc h
        refine lv_iload_n hx hb dX5_leftAtMost_105 rfl (lv_at hl 2 rfl) ?_
        cases h
        rw [hQQ]
        exact gw_iret hx hb hr hlocks hP hD hS dX5_leftAtMost_106
      · have h := if_f hc h
        refine lv_iload_n hx hb dX5_leftAtMost_33 rfl (lv_at hl 3 rfl) ?_
        refine lv_sipush (v := 189) hx hb dX5_leftAtMost_34 (by decide) ?_
        refine lv_icmp_ge (tgt := 105) hx hb dX5_leftAtMost_37 (by decide) (fun hc => ?_) (fun hc => ?_)
        · have h := if_t hc h
          refine lv_iload_n hx hb dX5_leftAtMost_105 rfl (lv_at hl 2 rfl) ?_
          cases h
          rw [hQQ]
          exact gw_iret hx hb hr hlocks hP hD hS dX5_leftAtMost_106
        · have h := if_f hc h
          refine lv_aload_n hx hb dX5_leftAtMost_40 rfl (lv_at hl 0 rfl) ?_
          refine va_get (D := D) (ci := 4) (C := RX5) (T := TX5) (N := 3) hx hb hts (fun _ hw => (List.mem_cons_of_mem _ (List.mem_append_right _ hw))) hown hE.1 hP 0 rfl rfl 0 (by decide) (hts (.fieldLink RX5 9 "GlobeCrown$Shakers" "codes" "[I") (List.mem_cons_of_mem _ (List.mem_append_left _ (List.mem_of_getElem? (i := 2) rfl)))) (fun _ h9 => h9) rfl dX5_leftAtMost_41 ?_
          refine lv_iload_n hx hb dX5_leftAtMost_44 rfl (lv_at hl 3 rfl) ?_
          obtain ⟨hg, h⟩ := gin_some h
          refine va_iald hx hb hE.1 hP 1 0 rfl rfl hg dX5_leftAtMost_45 ?_
          refine lv_bipush (v := 100) hx hb dX5_leftAtMost_46 (by decide) ?_
          refine lv_idiv hx hb dX5_leftAtMost_48 (by decide) ?_
          refine lv_aload_n hx hb dX5_leftAtMost_49 rfl (lv_at hl 0 rfl) ?_
          refine va_get (D := D) (ci := 4) (C := RX5) (T := TX5) (N := 3) hx hb hts (fun _ hw => (List.mem_cons_of_mem _ (List.mem_append_right _ hw))) hown hE.1 hP 0 rfl rfl 0 (by decide) (hts (.fieldLink RX5 9 "GlobeCrown$Shakers" "codes" "[I") (List.mem_cons_of_mem _ (List.mem_append_left _ (List.mem_of_getElem? (i := 2) rfl)))) (fun _ h9 => h9) rfl dX5_leftAtMost_50 ?_
          refine lv_iload_n hx hb dX5_leftAtMost_53 rfl (lv_at hl 3 rfl) ?_
          obtain ⟨hg, h⟩ := gin_some h
          refine va_iald hx hb hE.1 hP 1 0 rfl rfl hg dX5_leftAtMost_54 ?_
          refine lv_bipush (v := 100) hx hb dX5_leftAtMost_55 (by decide) ?_
          refine gw_irem hx hb dX5_leftAtMost_57 (by decide) ?_
          refine lv_iload_n hx hb dX5_leftAtMost_58 rfl (lv_at hl 1 rfl) ?_
          obtain ⟨r59, hc59, h⟩ := bd1_some h
          refine gw_ci (wr := [(qt, .inr (4, [.ref qt_codes, .ref qt_tally, .int v_size])), (qt_codes, .inl (cI, 189, .inl v_codes)), (qt_tally, .inl (cI, 100, .inl v_tally))]) (w2 := [(qt, .inr (4, [.ref qt_codes, .ref qt_tally, .int v_size])), (qt_codes, .inl (cI, 189, .inl v_codes)), (qt_tally, .inl (cI, 100, .inl v_tally))]) (gw_rS (n := 3) ⟨hx, hb, hml, hown, hts⟩ (C_X5_flyingAt l D cI cJ cZ H.size ((v_codes (Int32.toNatClampNeg x3)) / (100 : Int32)) (jrem (v_codes (Int32.toNatClampNeg x3)) (100 : Int32)) p1 r59 hc59) gX5_leftAtMost_X5_flyingAt rfl rfl rfl hdS_X5_flyingAt ⟨Nat.le_of_ble_eq_true rfl, Nat.le_of_ble_eq_true rfl⟩ hE (hP.sub [] rfl) (hD.sub [] (by decide) rfl) rfl hl.1 (rest := []) rfl (Nat.le_of_ble_eq_true rfl) dX5_leftAtMost_59 ⟨Nat.zero_le _, Nat.zero_le _⟩) hP hD hS hA [] [0, 1, 2] rfl rfl rfl (by decide) rfl (fun H locs hP hD hS => ?_)
          refine lv_istore (lv' := [(4, .int r59), (0, .ref qt), (1, .int p1), (2, .int x2), (3, .int x3)]) hx hb dX5_leftAtMost_62 hl (by decide) rfl (fun ls hl => ?_)
          refine lv_iload hx hb dX5_leftAtMost_64 (lv_at hl 0 rfl) ?_
          refine lv_if_lt (tgt := 99) hx hb dX5_leftAtMost_66 (by decide) (fun hc => ?_) (fun hc => ?_)
          · have h := if_t hc h
            refine lv_iinc (v := (x3 + (1 : Int32))) (lv' := [(3, .int (x3 + (1 : Int32))), (4, .int r59), (0, .ref qt), (1, .int p1), (2, .int x2)]) hx hb dX5_leftAtMost_99 hl (k := 4) rfl rfl (by decide) rfl (fun ls hl => ?_)
            refine lv_goto (tgt := 25) hx hb dX5_leftAtMost_102 (by decide) ?_
            exact ih25 v_tally x2 (x3 + (1 : Int32)) H locs ls hP hD hS (lv_sub hl [2, 3, 4, 0] rfl) h
          · have h := if_f hc h
            refine lv_iload hx hb dX5_leftAtMost_69 (lv_at hl 0 rfl) ?_
            refine lv_bipush (v := 99) hx hb dX5_leftAtMost_71 (by decide) ?_
            refine lv_icmp_gt (tgt := 99) hx hb dX5_leftAtMost_73 (by decide) (fun hc => ?_) (fun hc => ?_)
            · have h := if_t hc h
              refine lv_iinc (v := (x3 + (1 : Int32))) (lv' := [(3, .int (x3 + (1 : Int32))), (4, .int r59), (0, .ref qt), (1, .int p1), (2, .int x2)]) hx hb dX5_leftAtMost_99 hl (k := 4) rfl rfl (by decide) rfl (fun ls hl => ?_)
              refine lv_goto (tgt := 25) hx hb dX5_leftAtMost_102 (by decide) ?_
              exact ih25 v_tally x2 (x3 + (1 : Int32)) H locs ls hP hD hS (lv_sub hl [2, 3, 4, 0] rfl) h
            · have h := if_f hc h
              refine lv_aload_n hx hb dX5_leftAtMost_76 rfl (lv_at hl 1 rfl) ?_
              refine va_get (D := D) (ci := 4) (C := RX5) (T := TX5) (N := 3) hx hb hts (fun _ hw => (List.mem_cons_of_mem _ (List.mem_append_right _ hw))) hown hE.1 hP 0 rfl rfl 1 (by decide) (hts (.fieldLink RX5 15 "GlobeCrown$Shakers" "tally" "[I") (List.mem_cons_of_mem _ (List.mem_append_left _ (List.mem_of_getElem? (i := 0) rfl)))) (fun _ h9 => h9) rfl dX5_leftAtMost_77 ?_
              refine lv_iload hx hb dX5_leftAtMost_80 (lv_at hl 0 rfl) ?_
              refine lv_dup2_11 hx hb dX5_leftAtMost_82 rfl rfl ?_
              obtain ⟨hg, h⟩ := gin_some h
              refine va_iald hx hb hE.1 hP 2 0 rfl rfl hg dX5_leftAtMost_83 ?_
              refine lv_iconst (v := 1) hx hb dX5_leftAtMost_84 (by decide) ?_
              refine lv_iadd hx hb dX5_leftAtMost_85 ?_
              obtain ⟨hg, h⟩ := gin_some h
              refine va_iast hx hb hE.1 hP hD hS 2 0 rfl rfl hg dX5_leftAtMost_86 (fun H locs (hP : va_P D vwCl [(qt, .inr (4, [.ref qt_codes, .ref qt_tally, .int v_size])), (qt_codes, .inl (cI, 189, .inl v_codes)), (qt_tally, .inl (cI, 100, .inl (upd v_tally (Int32.toNatClampNeg r59) ((v_tally (Int32.toNatClampNeg r59)) + (1 : Int32)))))] H) (hD : va_D A [(qt, .inr (4, [.ref qt_codes, .ref qt_tally, .int v_size])), (qt_codes, .inl (cI, 189, .inl v_codes)), (qt_tally, .inl (cI, 100, .inl (upd v_tally (Int32.toNatClampNeg r59) ((v_tally (Int32.toNatClampNeg r59)) + (1 : Int32)))))]) hS => ?_)
              refine lv_iload_n hx hb dX5_leftAtMost_87 rfl (lv_at hl 3 rfl) ?_
              refine lv_aload_n hx hb dX5_leftAtMost_88 rfl (lv_at hl 1 rfl) ?_
              refine va_get (D := D) (ci := 4) (C := RX5) (T := TX5) (N := 3) hx hb hts (fun _ hw => (List.mem_cons_of_mem _ (List.mem_append_right _ hw))) hown hE.1 hP 0 rfl rfl 1 (by decide) (hts (.fieldLink RX5 15 "GlobeCrown$Shakers" "tally" "[I") (List.mem_cons_of_mem _ (List.mem_append_left _ (List.mem_of_getElem? (i := 0) rfl)))) (fun _ h9 => h9) rfl dX5_leftAtMost_89 ?_
              refine lv_iload hx hb dX5_leftAtMost_92 (lv_at hl 0 rfl) ?_
              obtain ⟨hg, h⟩ := gin_some h
              refine va_iald hx hb hE.1 hP 2 0 rfl rfl hg dX5_leftAtMost_94 ?_
              refine gw_max hx hb (hml.trans hl.1.symm) hown (hts (.methodLink RX5 18 Lib.Math.max.name) (List.mem_cons_of_mem _ (List.mem_append_left _ (List.mem_of_getElem? (i := 3) rfl)))) (hts (.static Lib.Math.max.name) (List.mem_cons_of_mem _ (List.mem_append_left _ (List.mem_of_getElem? (i := 4) rfl)))) (hts (.initialized "java/lang/Math") (List.mem_cons_of_mem _ (List.mem_append_left _ (List.mem_of_getElem? (i := 5) rfl)))) (hts (.code Lib.Math.max.name Lib.Math.max.code 2 (some .int)) (List.mem_cons_of_mem _ (List.mem_append_left _ (List.mem_of_getElem? (i := 6) rfl)))) (Nat.le_of_ble_eq_true rfl) (Nat.le_of_ble_eq_true rfl) (Nat.zero_le _) (Nat.zero_le _) dX5_leftAtMost_95 ?_
              refine lv_istore_n (lv' := [(2, .int (jmax x2 ((upd v_tally (Int32.toNatClampNeg r59) ((v_tally (Int32.toNatClampNeg r59)) + (1 : Int32))) (Int32.toNatClampNeg r59)))), (4, .int r59), (0, .ref qt), (1, .int p1), (3, .int x3)]) hx hb dX5_leftAtMost_98 rfl hl (by decide) rfl (fun ls hl => ?_)
              refine lv_iinc (v := (x3 + (1 : Int32))) (lv' := [(3, .int (x3 + (1 : Int32))), (2, .int (jmax x2 ((upd v_tally (Int32.toNatClampNeg r59) ((v_tally (Int32.toNatClampNeg r59)) + (1 : Int32))) (Int32.toNatClampNeg r59)))), (4, .int r59), (0, .ref qt), (1, .int p1)]) hx hb dX5_leftAtMost_99 hl (k := 4) rfl rfl (by decide) rfl (fun ls hl => ?_)
              refine lv_goto (tgt := 25) hx hb dX5_leftAtMost_102 (by decide) ?_
              exact ih25 (upd v_tally (Int32.toNatClampNeg r59) ((v_tally (Int32.toNatClampNeg r59)) + (1 : Int32))) (jmax x2 ((upd v_tally (Int32.toNatClampNeg r59) ((v_tally (Int32.toNatClampNeg r59)) + (1 : Int32))) (Int32.toNatClampNeg r59))) (x3 + (1 : Int32)) H locs ls hP hD hS (lv_sub hl [3, 4, 1, 0] rfl) h
  have hL2 : ∀ (n2 : Nat), ∀ (v_tally : (Nat → Int32)) (x2 : Int32) (H : Heap) (locs : List Loc) (ls : Array Slot), va_P D vwCl [(qt, .inr (4, [.ref qt_codes, .ref qt_tally, .int v_size])), (qt_codes, .inl (cI, 189, .inl v_codes)), (qt_tally, .inl (cI, 100, .inl v_tally))] H → va_D A [(qt, .inr (4, [.ref qt_codes, .ref qt_tally, .int v_size])), (qt_codes, .inl (cI, 189, .inl v_codes)), (qt_tally, .inl (cI, 100, .inl v_tally))] → va_S A s.heap H locs → lv_has ls 5 [(0, .ref qt), (1, .int p1), (2, .int x2)] → L_X5_leftAtMost_2 v_codes v_size p1 n2 v_tally x2 = some (r, w_tally) → W p l e rm_X5_leftAtMost s m args below meth c H locs 0 0 QQ (F0 m 2 ls []) := by
    intro n2
    induction n2 with
    | zero =>
      intro v_tally x2 H locs ls hP hD hS hl h
      have h : none = some (r, w_tally) := h
      cases h
    | succ n2 ih2 =>
      intro v_tally x2 H locs ls hP hD hS hl h
      rw [L_X5_leftAtMost_2.eq_2] at h
      refine lv_iload_n hx hb dX5_leftAtMost_2 rfl (lv_at hl 2 rfl) ?_
      refine lv_bipush (v := 99) hx hb dX5_leftAtMost_3 (by decide) ?_
      refine lv_icmp_gt (tgt := 21) hx hb dX5_leftAtMost_5 (by decide) (fun hc => ?_) (fun hc => ?_)
      · have h := if_t hc h
        refine lv_iconst (v := 0) hx hb dX5_leftAtMost_21 (by decide) ?_
        refine lv_istore_n (lv' := [(2, .int (0 : Int32)), (0, .ref qt), (1, .int p1)]) hx hb dX5_leftAtMost_22 rfl hl (by decide) rfl (fun ls hl => ?_)
        refine lv_iconst (v := 0) hx hb dX5_leftAtMost_23 (by decide) ?_
        refine lv_istore_n (lv' := [(3, .int (0 : Int32)), (2, .int (0 : Int32)), (0, .ref qt), (1, .int p1)]) hx hb dX5_leftAtMost_24 rfl hl (by decide) rfl (fun ls hl => ?_)
        exact hL25 FU v_tally (0 : Int32) (0 : Int32) H locs ls hP hD hS (lv_sub hl [2, 3, 1, 0] rfl) h
      · have h := if_f hc h
        refine lv_aload_n hx hb dX5_leftAtMost_8 rfl (lv_at hl 0 rfl) ?_
        refine va_get (D := D) (ci := 4) (C := RX5) (T := TX5) (N := 3) hx hb hts (fun _ hw => (List.mem_cons_of_mem _ (List.mem_append_right _ hw))) hown hE.1 hP 0 rfl rfl 1 (by decide) (hts (.fieldLink RX5 15 "GlobeCrown$Shakers" "tally" "[I") (List.mem_cons_of_mem _ (List.mem_append_left _ (List.mem_of_getElem? (i := 0) rfl)))) (fun _ h9 => h9) rfl dX5_leftAtMost_9 ?_
        refine lv_iload_n hx hb dX5_leftAtMost_12 rfl (lv_at hl 2 rfl) ?_
        refine lv_iconst (v := 0) hx hb dX5_leftAtMost_13 (by decide) ?_
        obtain ⟨hg, h⟩ := gin_some h
        refine va_iast hx hb hE.1 hP hD hS 2 0 rfl rfl hg dX5_leftAtMost_14 (fun H locs (hP : va_P D vwCl [(qt, .inr (4, [.ref qt_codes, .ref qt_tally, .int v_size])), (qt_codes, .inl (cI, 189, .inl v_codes)), (qt_tally, .inl (cI, 100, .inl (upd v_tally (Int32.toNatClampNeg x2) (0 : Int32))))] H) (hD : va_D A [(qt, .inr (4, [.ref qt_codes, .ref qt_tally, .int v_size])), (qt_codes, .inl (cI, 189, .inl v_codes)), (qt_tally, .inl (cI, 100, .inl (upd v_tally (Int32.toNatClampNeg x2) (0 : Int32))))]) hS => ?_)
        refine lv_iinc (v := (x2 + (1 : Int32))) (lv' := [(2, .int (x2 + (1 : Int32))), (0, .ref qt), (1, .int p1)]) hx hb dX5_leftAtMost_15 hl (k := 2) rfl rfl (by decide) rfl (fun ls hl => ?_)
        refine lv_goto (tgt := 2) hx hb dX5_leftAtMost_18 (by decide) ?_
        exact ih2 (upd v_tally (Int32.toNatClampNeg x2) (0 : Int32)) (x2 + (1 : Int32)) H locs ls hP hD hS (lv_sub hl [1, 2, 0] rfl) h
  have h := hf
  unfold f_X5_leftAtMost at h
  refine gw_start hP hD hS (fun H locs hP hD hS => ?_)
  refine lv_iconst (v := 0) hx hb dX5_leftAtMost_0 (by decide) ?_
  refine lv_istore_n (lv' := [(2, .int (0 : Int32)), (0, .ref qt), (1, .int p1)]) hx hb dX5_leftAtMost_1 rfl hl (by decide) rfl (fun ls hl => ?_)
  exact hL2 FU v_tally (0 : Int32) H locs ls hP hD hS (lv_sub hl [1, 2, 0] rfl) h
theorem hdV_X5_leftAtMost : yX5_leftAtMost.cls = RX5 ∧ yX5_leftAtMost.cls ≠ "java/lang/invoke/MethodHandle" ∧ yX5_leftAtMost.cls ≠ "java/lang/invoke/VarHandle" ∧ (parseMethodDescriptor yX5_leftAtMost.desc).map (fun d => d.parameters.length) = some 1 := by decide +kernel
def B_X6_set_62 (p1 : Int32) (p2 : Int32) (p3 : Int32) (p4 : Int32) (p5 : Int32) (v_water : (Nat → Int32)) (v_flakes : (Nat → Int32)) (v_flying : (Nat → Int32)) (v_leaks : (Nat → Int32)) (v_cloudy : (Nat → Int32)) (v_content : (Nat → Int32)) (v_in : (Nat → Int32)) (v_there : Int32) (v_music : Int32) (s0 : Int32) : Option ((Nat → Int32) × (Nat → Int32) × (Nat → Int32) × (Nat → Int32) × (Nat → Int32) × (Nat → Int32) × (Nat → Int32) × Int32 × Int32) := (gin p1 8 (gin p1 8 (gin p1 8 (gin p1 8 (gin p1 8 (gin p1 8 (some ((upd v_water (Int32.toNatClampNeg p1) p2), (upd v_flakes (Int32.toNatClampNeg p1) p3), (upd v_flying (Int32.toNatClampNeg p1) (0 : Int32)), (upd v_leaks (Int32.toNatClampNeg p1) p4), (upd v_cloudy (Int32.toNatClampNeg p1) (0 : Int32)), (upd v_content (Int32.toNatClampNeg p1) (5 : Int32)), v_in, v_there, s0))))))))
def B_X6_set_23 (p1 : Int32) (p2 : Int32) (p3 : Int32) (p4 : Int32) (p5 : Int32) (v_water : (Nat → Int32)) (v_flakes : (Nat → Int32)) (v_flying : (Nat → Int32)) (v_leaks : (Nat → Int32)) (v_cloudy : (Nat → Int32)) (v_content : (Nat → Int32)) (v_in : (Nat → Int32)) (v_there : Int32) (v_music : Int32) : Option ((Nat → Int32) × (Nat → Int32) × (Nat → Int32) × (Nat → Int32) × (Nat → Int32) × (Nat → Int32) × (Nat → Int32) × Int32 × Int32) := (if p5 = (0 : Int32) then (B_X6_set_62 p1 p2 p3 p4 p5 v_water v_flakes v_flying v_leaks v_cloudy v_content v_in (v_there ||| ((1 : Int32) <<< (p1 &&& 31))) v_music (v_music &&& (((1 : Int32) <<< (p1 &&& 31)) ^^^ (-1 : Int32)))) else (B_X6_set_62 p1 p2 p3 p4 p5 v_water v_flakes v_flying v_leaks v_cloudy v_content v_in (v_there ||| ((1 : Int32) <<< (p1 &&& 31))) v_music (v_music ||| ((1 : Int32) <<< (p1 &&& 31)))))
def f_X6_set (v_water : (Nat → Int32)) (v_flakes : (Nat → Int32)) (v_flying : (Nat → Int32)) (v_leaks : (Nat → Int32)) (v_cloudy : (Nat → Int32)) (v_content : (Nat → Int32)) (v_in : (Nat → Int32)) (v_there : Int32) (v_music : Int32) (p1 : Int32) (p2 : Int32) (p3 : Int32) (p4 : Int32) (p5 : Int32) : Option ((Nat → Int32) × (Nat → Int32) × (Nat → Int32) × (Nat → Int32) × (Nat → Int32) × (Nat → Int32) × (Nat → Int32) × Int32 × Int32) := (bd1 (f_X9_isGlobe p1) (fun r1 => (if r1 = (0 : Int32) then (some (v_water, v_flakes, v_flying, v_leaks, v_cloudy, v_content, v_in, v_there, v_music)) else (bd1 (f_X6_has v_there p1) (fun r10 => (if r10 = (0 : Int32) then (gin p1 8 (B_X6_set_23 p1 p2 p3 p4 p5 v_water v_flakes v_flying v_leaks v_cloudy v_content (upd v_in (Int32.toNatClampNeg p1) (-1 : Int32)) v_there v_music)) else (B_X6_set_23 p1 p2 p3 p4 p5 v_water v_flakes v_flying v_leaks v_cloudy v_content v_in v_there v_music)))))))
abbrev rm_X6_set : Room := { frames := 1, cells := 0, slots := 0, locals := 21 }
set_option maxHeartbeats 4000000 in
set_option maxRecDepth 100000 in
theorem C_X6_set (l : Launch) (D : va_G) (cI cJ cZ : ClassId) (sz : Nat) (qt qt_water qt_flakes qt_flying qt_leaks qt_cloudy qt_content qt_in : Nat) (v_water : (Nat → Int32)) (v_flakes : (Nat → Int32)) (v_flying : (Nat → Int32)) (v_leaks : (Nat → Int32)) (v_cloudy : (Nat → Int32)) (v_content : (Nat → Int32)) (v_in : (Nat → Int32)) (v_there : Int32) (v_music : Int32) (v_taxes : Int32) (v_hour : Int32) (p1 : Int32) (p2 : Int32) (p3 : Int32) (p4 : Int32) (p5 : Int32) (w_water : (Nat → Int32)) (w_flakes : (Nat → Int32)) (w_flying : (Nat → Int32)) (w_leaks : (Nat → Int32)) (w_cloudy : (Nat → Int32)) (w_content : (Nat → Int32)) (w_in : (Nat → Int32)) (w_there : Int32) (w_music : Int32) (hf : f_X6_set v_water v_flakes v_flying v_leaks v_cloudy v_content v_in v_there v_music p1 p2 p3 p4 p5 = some (w_water, w_flakes, w_flying, w_leaks, w_cloudy, w_content, w_in, w_there, w_music)) : Met l yX6_set wsX6_set rm_X6_set (PR D cI cJ cZ [(qt, .inr (5, [.ref qt_water, .ref qt_flakes, .ref qt_flying, .ref qt_leaks, .ref qt_cloudy, .ref qt_content, .ref qt_in, .int v_there, .int v_music, .int v_taxes, .int v_hour])), (qt_water, .inl (cI, 8, .inl v_water)), (qt_flakes, .inl (cI, 8, .inl v_flakes)), (qt_flying, .inl (cI, 8, .inl v_flying)), (qt_leaks, .inl (cI, 8, .inl v_leaks)), (qt_cloudy, .inl (cI, 8, .inl v_cloudy)), (qt_content, .inl (cI, 8, .inl v_content)), (qt_in, .inl (cI, 8, .inl v_in))] sz [.ref qt, .int p1, .int p2, .int p3, .int p4, .int p5]) (QV D (va_A [(qt, .inr (5, [.ref qt_water, .ref qt_flakes, .ref qt_flying, .ref qt_leaks, .ref qt_cloudy, .ref qt_content, .ref qt_in, .int v_there, .int v_music, .int v_taxes, .int v_hour])), (qt_water, .inl (cI, 8, .inl v_water)), (qt_flakes, .inl (cI, 8, .inl v_flakes)), (qt_flying, .inl (cI, 8, .inl v_flying)), (qt_leaks, .inl (cI, 8, .inl v_leaks)), (qt_cloudy, .inl (cI, 8, .inl v_cloudy)), (qt_content, .inl (cI, 8, .inl v_content)), (qt_in, .inl (cI, 8, .inl v_in))] sz) [(qt, .inr (5, [.ref qt_water, .ref qt_flakes, .ref qt_flying, .ref qt_leaks, .ref qt_cloudy, .ref qt_content, .ref qt_in, .int w_there, .int w_music, .int v_taxes, .int v_hour])), (qt_water, .inl (cI, 8, .inl w_water)), (qt_flakes, .inl (cI, 8, .inl w_flakes)), (qt_flying, .inl (cI, 8, .inl w_flying)), (qt_leaks, .inl (cI, 8, .inl w_leaks)), (qt_cloudy, .inl (cI, 8, .inl w_cloudy)), (qt_content, .inl (cI, 8, .inl w_content)), (qt_in, .inl (cI, 8, .inl w_in))]) 0 0 (va_A [(qt, .inr (5, [.ref qt_water, .ref qt_flakes, .ref qt_flying, .ref qt_leaks, .ref qt_cloudy, .ref qt_content, .ref qt_in, .int v_there, .int v_music, .int v_taxes, .int v_hour])), (qt_water, .inl (cI, 8, .inl v_water)), (qt_flakes, .inl (cI, 8, .inl v_flakes)), (qt_flying, .inl (cI, 8, .inl v_flying)), (qt_leaks, .inl (cI, 8, .inl v_leaks)), (qt_cloudy, .inl (cI, 8, .inl v_cloudy)), (qt_content, .inl (cI, 8, .inl v_content)), (qt_in, .inl (cI, 8, .inl v_in))] sz) := by
  refine Met.ofW (cc := cX6_set) (maxL := 6) (ret := none) (by decide) rfl ?_
  intro p e s m args below meth c s₁ B hml hv
  obtain ⟨hav, hsz, hP, hD0, hE⟩ := hv
  have hx := B.exec
  have hb := B.bytes
  have hr := B.returns
  have hts := atoms_spec (ws := wsX6_set) B.pre
  have hown : s.vm.findClass RX6 = some m.cls := findClass_of_methodNamed B.named
  have hlocks := B.notSynchronized
  subst hsz
  have hD := hD0.self (sz := s.heap.size)
  generalize hAe : va_A [(qt, .inr (5, [.ref qt_water, .ref qt_flakes, .ref qt_flying, .ref qt_leaks, .ref qt_cloudy, .ref qt_content, .ref qt_in, .int v_there, .int v_music, .int v_taxes, .int v_hour])), (qt_water, .inl (cI, 8, .inl v_water)), (qt_flakes, .inl (cI, 8, .inl v_flakes)), (qt_flying, .inl (cI, 8, .inl v_flying)), (qt_leaks, .inl (cI, 8, .inl v_leaks)), (qt_cloudy, .inl (cI, 8, .inl v_cloudy)), (qt_content, .inl (cI, 8, .inl v_content)), (qt_in, .inl (cI, 8, .inl v_in))] s.heap.size = A at hD ⊢
  have hA : ∀ q : Nat, s.heap.size ≤ q → A q := fun q h => by rw [← hAe]; exact Or.inr h
  have hS : va_S A s.heap s.heap [] := va_S.rf
  have hl := lv_entry ([.ref qt, .int p1, .int p2, .int p3, .int p4, .int p5]) (n := 6) (Nat.le_of_ble_eq_true rfl)
  have hfr : entryFrame m args 6 = entryFrame m ([.ref qt, .int p1, .int p2, .int p3, .int p4, .int p5] : List Value).toArray 6 := by rw [hav]
  rw [hfr, lg_entry_eq]
  generalize (lg_sl ([.ref qt, .int p1, .int p2, .int p3, .int p4, .int p5]) ++ List.replicate (6 - (lg_sl ([.ref qt, .int p1, .int p2, .int p3, .int p4, .int p5])).length) Slot.unset).toArray = ls at hl ⊢
  have hl : lv_has ls 6 [(0, .ref qt), (1, .int p1), (2, .int p2), (3, .int p3), (4, .int p4), (5, .int p5)] := hl
  obtain ⟨QQ, hQQ⟩ : ∃ QQ, QQ = MQ below (QV D A [(qt, .inr (5, [.ref qt_water, .ref qt_flakes, .ref qt_flying, .ref qt_leaks, .ref qt_cloudy, .ref qt_content, .ref qt_in, .int w_there, .int w_music, .int v_taxes, .int v_hour])), (qt_water, .inl (cI, 8, .inl w_water)), (qt_flakes, .inl (cI, 8, .inl w_flakes)), (qt_flying, .inl (cI, 8, .inl w_flying)), (qt_leaks, .inl (cI, 8, .inl w_leaks)), (qt_cloudy, .inl (cI, 8, .inl w_cloudy)), (qt_content, .inl (cI, 8, .inl w_content)), (qt_in, .inl (cI, 8, .inl w_in))]) args s 0 0 A := ⟨_, rfl⟩
  show W p l e rm_X6_set s m args below meth c s.heap [] 0 0 _ _
  rw [← hQQ]
  have hB62 : ∀ (v_water : (Nat → Int32)) (v_flakes : (Nat → Int32)) (v_flying : (Nat → Int32)) (v_leaks : (Nat → Int32)) (v_cloudy : (Nat → Int32)) (v_content : (Nat → Int32)) (v_in : (Nat → Int32)) (v_there : Int32) (v_music : Int32) (s0 : Int32) (H : Heap) (locs : List Loc) (ls : Array Slot), va_P D vwCl [(qt, .inr (5, [.ref qt_water, .ref qt_flakes, .ref qt_flying, .ref qt_leaks, .ref qt_cloudy, .ref qt_content, .ref qt_in, .int v_there, .int v_music, .int v_taxes, .int v_hour])), (qt_water, .inl (cI, 8, .inl v_water)), (qt_flakes, .inl (cI, 8, .inl v_flakes)), (qt_flying, .inl (cI, 8, .inl v_flying)), (qt_leaks, .inl (cI, 8, .inl v_leaks)), (qt_cloudy, .inl (cI, 8, .inl v_cloudy)), (qt_content, .inl (cI, 8, .inl v_content)), (qt_in, .inl (cI, 8, .inl v_in))] H → va_D A [(qt, .inr (5, [.ref qt_water, .ref qt_flakes, .ref qt_flying, .ref qt_leaks, .ref qt_cloudy, .ref qt_content, .ref qt_in, .int v_there, .int v_music, .int v_taxes, .int v_hour])), (qt_water, .inl (cI, 8, .inl v_water)), (qt_flakes, .inl (cI, 8, .inl v_flakes)), (qt_flying, .inl (cI, 8, .inl v_flying)), (qt_leaks, .inl (cI, 8, .inl v_leaks)), (qt_cloudy, .inl (cI, 8, .inl v_cloudy)), (qt_content, .inl (cI, 8, .inl v_content)), (qt_in, .inl (cI, 8, .inl v_in))] → va_S A s.heap H locs → lv_has ls 6 [(0, .ref qt), (1, .int p1), (2, .int p2), (3, .int p3), (4, .int p4)] → B_X6_set_62 p1 p2 p3 p4 p5 v_water v_flakes v_flying v_leaks v_cloudy v_content v_in v_there v_music s0 = some (w_water, w_flakes, w_flying, w_leaks, w_cloudy, w_content, w_in, w_there, w_music) → W p l e rm_X6_set s m args below meth c H locs 0 0 QQ (F0 m 62 ls [.int s0, .ref qt]) := by
    intro v_water v_flakes v_flying v_leaks v_cloudy v_content v_in v_there v_music s0 H locs ls hP hD hS hl h
    unfold B_X6_set_62 at h
    refine va_put (D := D) (ci := 5) (v := .int s0) (ty := .int) (C := RX6) (T := TX6) (N := 11) hx hb hts (fun _ hw => (List.mem_cons_of_mem _ (List.mem_append_right _ hw))) tyX6 tyX6_ok nmX6 hown hE.1 hP hD hS 0 rfl rfl 8 (by decide) (hts (.fieldLink RX6 43 "GlobeCrown$Shelf" "music" "I") (List.mem_cons_of_mem _ (List.mem_append_left _ (List.mem_of_getElem? (i := 2) rfl)))) (fun _ h9 => h9) rfl (tyX6_ok 8 (by decide)) rfl rfl (Nat.le_of_ble_eq_true rfl) dX6_set_62 (fun H locs (hP : va_P D vwCl [(qt, .inr (5, [.ref qt_water, .ref qt_flakes, .ref qt_flying, .ref qt_leaks, .ref qt_cloudy, .ref qt_content, .ref qt_in, .int v_there, .int s0, .int v_taxes, .int v_hour])), (qt_water, .inl (cI, 8, .inl v_water)), (qt_flakes, .inl (cI, 8, .inl v_flakes)), (qt_flying, .inl (cI, 8, .inl v_flying)), (qt_leaks, .inl (cI, 8, .inl v_leaks)), (qt_cloudy, .inl (cI, 8, .inl v_cloudy)), (qt_content, .inl (cI, 8, .inl v_content)), (qt_in, .inl (cI, 8, .inl v_in))] H) (hD : va_D A [(qt, .inr (5, [.ref qt_water, .ref qt_flakes, .ref qt_flying, .ref qt_leaks, .ref qt_cloudy, .ref qt_content, .ref qt_in, .int v_there, .int s0, .int v_taxes, .int v_hour])), (qt_water, .inl (cI, 8, .inl v_water)), (qt_flakes, .inl (cI, 8, .inl v_flakes)), (qt_flying, .inl (cI, 8, .inl v_flying)), (qt_leaks, .inl (cI, 8, .inl v_leaks)), (qt_cloudy, .inl (cI, 8, .inl v_cloudy)), (qt_content, .inl (cI, 8, .inl v_content)), (qt_in, .inl (cI, 8, .inl v_in))]) hS => ?_)
    refine lv_aload_n hx hb dX6_set_65 rfl (lv_at hl 0 rfl) ?_
    refine va_get (D := D) (ci := 5) (C := RX6) (T := TX6) (N := 11) hx hb hts (fun _ hw => (List.mem_cons_of_mem _ (List.mem_append_right _ hw))) hown hE.1 hP 0 rfl rfl 0 (by decide) (hts (.fieldLink RX6 9 "GlobeCrown$Shelf" "water" "[I") (List.mem_cons_of_mem _ (List.mem_append_left _ (List.mem_of_getElem? (i := 3) rfl)))) (fun _ h9 => h9) rfl dX6_set_66 ?_
    refine lv_iload_n hx hb dX6_set_69 rfl (lv_at hl 1 rfl) ?_
    refine lv_iload_n hx hb dX6_set_70 rfl (lv_at hl 2 rfl) ?_
    obtain ⟨hg, h⟩ := gin_some h
    refine va_iast hx hb hE.1 hP hD hS 1 0 rfl rfl hg dX6_set_71 (fun H locs (hP : va_P D vwCl [(qt, .inr (5, [.ref qt_water, .ref qt_flakes, .ref qt_flying, .ref qt_leaks, .ref qt_cloudy, .ref qt_content, .ref qt_in, .int v_there, .int s0, .int v_taxes, .int v_hour])), (qt_water, .inl (cI, 8, .inl (upd v_water (Int32.toNatClampNeg p1) p2))), (qt_flakes, .inl (cI, 8, .inl v_flakes)), (qt_flying, .inl (cI, 8, .inl v_flying)), (qt_leaks, .inl (cI, 8, .inl v_leaks)), (qt_cloudy, .inl (cI, 8, .inl v_cloudy)), (qt_content, .inl (cI, 8, .inl v_content)), (qt_in, .inl (cI, 8, .inl v_in))] H) (hD : va_D A [(qt, .inr (5, [.ref qt_water, .ref qt_flakes, .ref qt_flying, .ref qt_leaks, .ref qt_cloudy, .ref qt_content, .ref qt_in, .int v_there, .int s0, .int v_taxes, .int v_hour])), (qt_water, .inl (cI, 8, .inl (upd v_water (Int32.toNatClampNeg p1) p2))), (qt_flakes, .inl (cI, 8, .inl v_flakes)), (qt_flying, .inl (cI, 8, .inl v_flying)), (qt_leaks, .inl (cI, 8, .inl v_leaks)), (qt_cloudy, .inl (cI, 8, .inl v_cloudy)), (qt_content, .inl (cI, 8, .inl v_content)), (qt_in, .inl (cI, 8, .inl v_in))]) hS => ?_)
    refine lv_aload_n hx hb dX6_set_72 rfl (lv_at hl 0 rfl) ?_
    refine va_get (D := D) (ci := 5) (C := RX6) (T := TX6) (N := 11) hx hb hts (fun _ hw => (List.mem_cons_of_mem _ (List.mem_append_right _ hw))) hown hE.1 hP 0 rfl rfl 1 (by decide) (hts (.fieldLink RX6 15 "GlobeCrown$Shelf" "flakes" "[I") (List.mem_cons_of_mem _ (List.mem_append_left _ (List.mem_of_getElem? (i := 4) rfl)))) (fun _ h9 => h9) rfl dX6_set_73 ?_
    refine lv_iload_n hx hb dX6_set_76 rfl (lv_at hl 1 rfl) ?_
    refine lv_iload_n hx hb dX6_set_77 rfl (lv_at hl 3 rfl) ?_
    obtain ⟨hg, h⟩ := gin_some h
    refine va_iast hx hb hE.1 hP hD hS 2 0 rfl rfl hg dX6_set_78 (fun H locs (hP : va_P D vwCl [(qt, .inr (5, [.ref qt_water, .ref qt_flakes, .ref qt_flying, .ref qt_leaks, .ref qt_cloudy, .ref qt_content, .ref qt_in, .int v_there, .int s0, .int v_taxes, .int v_hour])), (qt_water, .inl (cI, 8, .inl (upd v_water (Int32.toNatClampNeg p1) p2))), (qt_flakes, .inl (cI, 8, .inl (upd v_flakes (Int32.toNatClampNeg p1) p3))), (qt_flying, .inl (cI, 8, .inl v_flying)), (qt_leaks, .inl (cI, 8, .inl v_leaks)), (qt_cloudy, .inl (cI, 8, .inl v_cloudy)), (qt_content, .inl (cI, 8, .inl v_content)), (qt_in, .inl (cI, 8, .inl v_in))] H) (hD : va_D A [(qt, .inr (5, [.ref qt_water, .ref qt_flakes, .ref qt_flying, .ref qt_leaks, .ref qt_cloudy, .ref qt_content, .ref qt_in, .int v_there, .int s0, .int v_taxes, .int v_hour])), (qt_water, .inl (cI, 8, .inl (upd v_water (Int32.toNatClampNeg p1) p2))), (qt_flakes, .inl (cI, 8, .inl (upd v_flakes (Int32.toNatClampNeg p1) p3))), (qt_flying, .inl (cI, 8, .inl v_flying)), (qt_leaks, .inl (cI, 8, .inl v_leaks)), (qt_cloudy, .inl (cI, 8, .inl v_cloudy)), (qt_content, .inl (cI, 8, .inl v_content)), (qt_in, .inl (cI, 8, .inl v_in))]) hS => ?_)
    refine lv_aload_n hx hb dX6_set_79 rfl (lv_at hl 0 rfl) ?_
    refine va_get (D := D) (ci := 5) (C := RX6) (T := TX6) (N := 11) hx hb hts (fun _ hw => (List.mem_cons_of_mem _ (List.mem_append_right _ hw))) hown hE.1 hP 0 rfl rfl 3 (by decide) (hts (.fieldLink RX6 21 "GlobeCrown$Shelf" "leaks" "[I") (List.mem_cons_of_mem _ (List.mem_append_left _ (List.mem_of_getElem? (i := 5) rfl)))) (fun _ h9 => h9) rfl dX6_set_80 ?_
    refine lv_iload_n hx hb dX6_set_83 rfl (lv_at hl 1 rfl) ?_
    refine lv_iload hx hb dX6_set_84 (lv_at hl 4 rfl) ?_
    obtain ⟨hg, h⟩ := gin_some h
    refine va_iast hx hb hE.1 hP hD hS 4 0 rfl rfl hg dX6_set_86 (fun H locs (hP : va_P D vwCl [(qt, .inr (5, [.ref qt_water, .ref qt_flakes, .ref qt_flying, .ref qt_leaks, .ref qt_cloudy, .ref qt_content, .ref qt_in, .int v_there, .int s0, .int v_taxes, .int v_hour])), (qt_water, .inl (cI, 8, .inl (upd v_water (Int32.toNatClampNeg p1) p2))), (qt_flakes, .inl (cI, 8, .inl (upd v_flakes (Int32.toNatClampNeg p1) p3))), (qt_flying, .inl (cI, 8, .inl v_flying)), (qt_leaks, .inl (cI, 8, .inl (upd v_leaks (Int32.toNatClampNeg p1) p4))), (qt_cloudy, .inl (cI, 8, .inl v_cloudy)), (qt_content, .inl (cI, 8, .inl v_content)), (qt_in, .inl (cI, 8, .inl v_in))] H) (hD : va_D A [(qt, .inr (5, [.ref qt_water, .ref qt_flakes, .ref qt_flying, .ref qt_leaks, .ref qt_cloudy, .ref qt_content, .ref qt_in, .int v_there, .int s0, .int v_taxes, .int v_hour])), (qt_water, .inl (cI, 8, .inl (upd v_water (Int32.toNatClampNeg p1) p2))), (qt_flakes, .inl (cI, 8, .inl (upd v_flakes (Int32.toNatClampNeg p1) p3))), (qt_flying, .inl (cI, 8, .inl v_flying)), (qt_leaks, .inl (cI, 8, .inl (upd v_leaks (Int32.toNatClampNeg p1) p4))), (qt_cloudy, .inl (cI, 8, .inl v_cloudy)), (qt_content, .inl (cI, 8, .inl v_content)), (qt_in, .inl (cI, 8, .inl v_in))]) hS => ?_)
    refine lv_aload_n hx hb dX6_set_87 rfl (lv_at hl 0 rfl) ?_
    refine va_get (D := D) (ci := 5) (C := RX6) (T := TX6) (N := 11) hx hb hts (fun _ hw => (List.mem_cons_of_mem _ (List.mem_append_right _ hw))) hown hE.1 hP 0 rfl rfl 2 (by decide) (hts (.fieldLink RX6 18 "GlobeCrown$Shelf" "flying" "[I") (List.mem_cons_of_mem _ (List.mem_append_left _ (List.mem_of_getElem? (i := 6) rfl)))) (fun _ h9 => h9) rfl dX6_set_88 ?_
    refine lv_iload_n hx hb dX6_set_91 rfl (lv_at hl 1 rfl) ?_
    refine lv_iconst (v := 0) hx hb dX6_set_92 (by decide) ?_
    obtain ⟨hg, h⟩ := gin_some h
    refine va_iast hx hb hE.1 hP hD hS 3 0 rfl rfl hg dX6_set_93 (fun H locs (hP : va_P D vwCl [(qt, .inr (5, [.ref qt_water, .ref qt_flakes, .ref qt_flying, .ref qt_leaks, .ref qt_cloudy, .ref qt_content, .ref qt_in, .int v_there, .int s0, .int v_taxes, .int v_hour])), (qt_water, .inl (cI, 8, .inl (upd v_water (Int32.toNatClampNeg p1) p2))), (qt_flakes, .inl (cI, 8, .inl (upd v_flakes (Int32.toNatClampNeg p1) p3))), (qt_flying, .inl (cI, 8, .inl (upd v_flying (Int32.toNatClampNeg p1) (0 : Int32)))), (qt_leaks, .inl (cI, 8, .inl (upd v_leaks (Int32.toNatClampNeg p1) p4))), (qt_cloudy, .inl (cI, 8, .inl v_cloudy)), (qt_content, .inl (cI, 8, .inl v_content)), (qt_in, .inl (cI, 8, .inl v_in))] H) (hD : va_D A [(qt, .inr (5, [.ref qt_water, .ref qt_flakes, .ref qt_flying, .ref qt_leaks, .ref qt_cloudy, .ref qt_content, .ref qt_in, .int v_there, .int s0, .int v_taxes, .int v_hour])), (qt_water, .inl (cI, 8, .inl (upd v_water (Int32.toNatClampNeg p1) p2))), (qt_flakes, .inl (cI, 8, .inl (upd v_flakes (Int32.toNatClampNeg p1) p3))), (qt_flying, .inl (cI, 8, .inl (upd v_flying (Int32.toNatClampNeg p1) (0 : Int32)))), (qt_leaks, .inl (cI, 8, .inl (upd v_leaks (Int32.toNatClampNeg p1) p4))), (qt_cloudy, .inl (cI, 8, .inl v_cloudy)), (qt_content, .inl (cI, 8, .inl v_content)), (qt_in, .inl (cI, 8, .inl v_in))]) hS => ?_)
    refine lv_aload_n hx hb dX6_set_94 rfl (lv_at hl 0 rfl) ?_
    refine va_get (D := D) (ci := 5) (C := RX6) (T := TX6) (N := 11) hx hb hts (fun _ hw => (List.mem_cons_of_mem _ (List.mem_append_right _ hw))) hown hE.1 hP 0 rfl rfl 4 (by decide) (hts (.fieldLink RX6 24 "GlobeCrown$Shelf" "cloudy" "[I") (List.mem_cons_of_mem _ (List.mem_append_left _ (List.mem_of_getElem? (i := 7) rfl)))) (fun _ h9 => h9) rfl dX6_set_95 ?_
    refine lv_iload_n hx hb dX6_set_98 rfl (lv_at hl 1 rfl) ?_
    refine lv_iconst (v := 0) hx hb dX6_set_99 (by decide) ?_
    obtain ⟨hg, h⟩ := gin_some h
    refine va_iast hx hb hE.1 hP hD hS 5 0 rfl rfl hg dX6_set_100 (fun H locs (hP : va_P D vwCl [(qt, .inr (5, [.ref qt_water, .ref qt_flakes, .ref qt_flying, .ref qt_leaks, .ref qt_cloudy, .ref qt_content, .ref qt_in, .int v_there, .int s0, .int v_taxes, .int v_hour])), (qt_water, .inl (cI, 8, .inl (upd v_water (Int32.toNatClampNeg p1) p2))), (qt_flakes, .inl (cI, 8, .inl (upd v_flakes (Int32.toNatClampNeg p1) p3))), (qt_flying, .inl (cI, 8, .inl (upd v_flying (Int32.toNatClampNeg p1) (0 : Int32)))), (qt_leaks, .inl (cI, 8, .inl (upd v_leaks (Int32.toNatClampNeg p1) p4))), (qt_cloudy, .inl (cI, 8, .inl (upd v_cloudy (Int32.toNatClampNeg p1) (0 : Int32)))), (qt_content, .inl (cI, 8, .inl v_content)), (qt_in, .inl (cI, 8, .inl v_in))] H) (hD : va_D A [(qt, .inr (5, [.ref qt_water, .ref qt_flakes, .ref qt_flying, .ref qt_leaks, .ref qt_cloudy, .ref qt_content, .ref qt_in, .int v_there, .int s0, .int v_taxes, .int v_hour])), (qt_water, .inl (cI, 8, .inl (upd v_water (Int32.toNatClampNeg p1) p2))), (qt_flakes, .inl (cI, 8, .inl (upd v_flakes (Int32.toNatClampNeg p1) p3))), (qt_flying, .inl (cI, 8, .inl (upd v_flying (Int32.toNatClampNeg p1) (0 : Int32)))), (qt_leaks, .inl (cI, 8, .inl (upd v_leaks (Int32.toNatClampNeg p1) p4))), (qt_cloudy, .inl (cI, 8, .inl (upd v_cloudy (Int32.toNatClampNeg p1) (0 : Int32)))), (qt_content, .inl (cI, 8, .inl v_content)), (qt_in, .inl (cI, 8, .inl v_in))]) hS => ?_)
    refine lv_aload_n hx hb dX6_set_101 rfl (lv_at hl 0 rfl) ?_
    refine va_get (D := D) (ci := 5) (C := RX6) (T := TX6) (N := 11) hx hb hts (fun _ hw => (List.mem_cons_of_mem _ (List.mem_append_right _ hw))) hown hE.1 hP 0 rfl rfl 5 (by decide) (hts (.fieldLink RX6 27 "GlobeCrown$Shelf" "content" "[I") (List.mem_cons_of_mem _ (List.mem_append_left _ (List.mem_of_getElem? (i := 8) rfl)))) (fun _ h9 => h9) rfl dX6_set_102 ?_
    refine lv_iload_n hx hb dX6_set_105 rfl (lv_at hl 1 rfl) ?_
    refine lv_iconst (v := 5) hx hb dX6_set_106 (by decide) ?_
    obtain ⟨hg, h⟩ := gin_some h
    refine va_iast hx hb hE.1 hP hD hS 6 0 rfl rfl hg dX6_set_107 (fun H locs (hP : va_P D vwCl [(qt, .inr (5, [.ref qt_water, .ref qt_flakes, .ref qt_flying, .ref qt_leaks, .ref qt_cloudy, .ref qt_content, .ref qt_in, .int v_there, .int s0, .int v_taxes, .int v_hour])), (qt_water, .inl (cI, 8, .inl (upd v_water (Int32.toNatClampNeg p1) p2))), (qt_flakes, .inl (cI, 8, .inl (upd v_flakes (Int32.toNatClampNeg p1) p3))), (qt_flying, .inl (cI, 8, .inl (upd v_flying (Int32.toNatClampNeg p1) (0 : Int32)))), (qt_leaks, .inl (cI, 8, .inl (upd v_leaks (Int32.toNatClampNeg p1) p4))), (qt_cloudy, .inl (cI, 8, .inl (upd v_cloudy (Int32.toNatClampNeg p1) (0 : Int32)))), (qt_content, .inl (cI, 8, .inl (upd v_content (Int32.toNatClampNeg p1) (5 : Int32)))), (qt_in, .inl (cI, 8, .inl v_in))] H) (hD : va_D A [(qt, .inr (5, [.ref qt_water, .ref qt_flakes, .ref qt_flying, .ref qt_leaks, .ref qt_cloudy, .ref qt_content, .ref qt_in, .int v_there, .int s0, .int v_taxes, .int v_hour])), (qt_water, .inl (cI, 8, .inl (upd v_water (Int32.toNatClampNeg p1) p2))), (qt_flakes, .inl (cI, 8, .inl (upd v_flakes (Int32.toNatClampNeg p1) p3))), (qt_flying, .inl (cI, 8, .inl (upd v_flying (Int32.toNatClampNeg p1) (0 : Int32)))), (qt_leaks, .inl (cI, 8, .inl (upd v_leaks (Int32.toNatClampNeg p1) p4))), (qt_cloudy, .inl (cI, 8, .inl (upd v_cloudy (Int32.toNatClampNeg p1) (0 : Int32)))), (qt_content, .inl (cI, 8, .inl (upd v_content (Int32.toNatClampNeg p1) (5 : Int32)))), (qt_in, .inl (cI, 8, .inl v_in))]) hS => ?_)
    cases h
    rw [hQQ]
    exact gw_vret hx hb hr hlocks hP hD hS dX6_set_108
  have hB23 : ∀ (v_water : (Nat → Int32)) (v_flakes : (Nat → Int32)) (v_flying : (Nat → Int32)) (v_leaks : (Nat → Int32)) (v_cloudy : (Nat → Int32)) (v_content : (Nat → Int32)) (v_in : (Nat → Int32)) (v_there : Int32) (v_music : Int32) (H : Heap) (locs : List Loc) (ls : Array Slot), va_P D vwCl [(qt, .inr (5, [.ref qt_water, .ref qt_flakes, .ref qt_flying, .ref qt_leaks, .ref qt_cloudy, .ref qt_content, .ref qt_in, .int v_there, .int v_music, .int v_taxes, .int v_hour])), (qt_water, .inl (cI, 8, .inl v_water)), (qt_flakes, .inl (cI, 8, .inl v_flakes)), (qt_flying, .inl (cI, 8, .inl v_flying)), (qt_leaks, .inl (cI, 8, .inl v_leaks)), (qt_cloudy, .inl (cI, 8, .inl v_cloudy)), (qt_content, .inl (cI, 8, .inl v_content)), (qt_in, .inl (cI, 8, .inl v_in))] H → va_D A [(qt, .inr (5, [.ref qt_water, .ref qt_flakes, .ref qt_flying, .ref qt_leaks, .ref qt_cloudy, .ref qt_content, .ref qt_in, .int v_there, .int v_music, .int v_taxes, .int v_hour])), (qt_water, .inl (cI, 8, .inl v_water)), (qt_flakes, .inl (cI, 8, .inl v_flakes)), (qt_flying, .inl (cI, 8, .inl v_flying)), (qt_leaks, .inl (cI, 8, .inl v_leaks)), (qt_cloudy, .inl (cI, 8, .inl v_cloudy)), (qt_content, .inl (cI, 8, .inl v_content)), (qt_in, .inl (cI, 8, .inl v_in))] → va_S A s.heap H locs → lv_has ls 6 [(0, .ref qt), (1, .int p1), (2, .int p2), (3, .int p3), (4, .int p4), (5, .int p5)] → B_X6_set_23 p1 p2 p3 p4 p5 v_water v_flakes v_flying v_leaks v_cloudy v_content v_in v_there v_music = some (w_water, w_flakes, w_flying, w_leaks, w_cloudy, w_content, w_in, w_there, w_music) → W p l e rm_X6_set s m args below meth c H locs 0 0 QQ (F0 m 23 ls []) := by
    intro v_water v_flakes v_flying v_leaks v_cloudy v_content v_in v_there v_music H locs ls hP hD hS hl h
    unfold B_X6_set_23 at h
    refine lv_aload_n hx hb dX6_set_23 rfl (lv_at hl 0 rfl) ?_
    refine lv_dup hx hb dX6_set_24 rfl ?_
    refine va_get (D := D) (ci := 5) (C := RX6) (T := TX6) (N := 11) hx hb hts (fun _ hw => (List.mem_cons_of_mem _ (List.mem_append_right _ hw))) hown hE.1 hP 0 rfl rfl 7 (by decide) (hts (.fieldLink RX6 39 "GlobeCrown$Shelf" "there" "I") (List.mem_cons_of_mem _ (List.mem_append_left _ (List.mem_of_getElem? (i := 1) rfl)))) (fun _ h9 => h9) rfl dX6_set_25 ?_
    refine lv_iconst (v := 1) hx hb dX6_set_28 (by decide) ?_
    refine lv_iload_n hx hb dX6_set_29 rfl (lv_at hl 1 rfl) ?_
    refine lv_ishl hx hb dX6_set_30 ?_
    refine lv_ior hx hb dX6_set_31 ?_
    refine va_put (D := D) (ci := 5) (v := .int (v_there ||| ((1 : Int32) <<< (p1 &&& 31)))) (ty := .int) (C := RX6) (T := TX6) (N := 11) hx hb hts (fun _ hw => (List.mem_cons_of_mem _ (List.mem_append_right _ hw))) tyX6 tyX6_ok nmX6 hown hE.1 hP hD hS 0 rfl rfl 7 (by decide) (hts (.fieldLink RX6 39 "GlobeCrown$Shelf" "there" "I") (List.mem_cons_of_mem _ (List.mem_append_left _ (List.mem_of_getElem? (i := 1) rfl)))) (fun _ h9 => h9) rfl (tyX6_ok 7 (by decide)) rfl rfl (Nat.le_of_ble_eq_true rfl) dX6_set_32 (fun H locs (hP : va_P D vwCl [(qt, .inr (5, [.ref qt_water, .ref qt_flakes, .ref qt_flying, .ref qt_leaks, .ref qt_cloudy, .ref qt_content, .ref qt_in, .int (v_there ||| ((1 : Int32) <<< (p1 &&& 31))), .int v_music, .int v_taxes, .int v_hour])), (qt_water, .inl (cI, 8, .inl v_water)), (qt_flakes, .inl (cI, 8, .inl v_flakes)), (qt_flying, .inl (cI, 8, .inl v_flying)), (qt_leaks, .inl (cI, 8, .inl v_leaks)), (qt_cloudy, .inl (cI, 8, .inl v_cloudy)), (qt_content, .inl (cI, 8, .inl v_content)), (qt_in, .inl (cI, 8, .inl v_in))] H) (hD : va_D A [(qt, .inr (5, [.ref qt_water, .ref qt_flakes, .ref qt_flying, .ref qt_leaks, .ref qt_cloudy, .ref qt_content, .ref qt_in, .int (v_there ||| ((1 : Int32) <<< (p1 &&& 31))), .int v_music, .int v_taxes, .int v_hour])), (qt_water, .inl (cI, 8, .inl v_water)), (qt_flakes, .inl (cI, 8, .inl v_flakes)), (qt_flying, .inl (cI, 8, .inl v_flying)), (qt_leaks, .inl (cI, 8, .inl v_leaks)), (qt_cloudy, .inl (cI, 8, .inl v_cloudy)), (qt_content, .inl (cI, 8, .inl v_content)), (qt_in, .inl (cI, 8, .inl v_in))]) hS => ?_)
    refine lv_aload_n hx hb dX6_set_35 rfl (lv_at hl 0 rfl) ?_
    refine lv_iload hx hb dX6_set_36 (lv_at hl 5 rfl) ?_
    refine lv_if_eq (tgt := 52) hx hb dX6_set_38 (by decide) (fun hc => ?_) (fun hc => ?_)
    · have h := if_t hc h
      refine lv_aload_n hx hb dX6_set_52 rfl (lv_at hl 0 rfl) ?_
      refine va_get (D := D) (ci := 5) (C := RX6) (T := TX6) (N := 11) hx hb hts (fun _ hw => (List.mem_cons_of_mem _ (List.mem_append_right _ hw))) hown hE.1 hP 0 rfl rfl 8 (by decide) (hts (.fieldLink RX6 43 "GlobeCrown$Shelf" "music" "I") (List.mem_cons_of_mem _ (List.mem_append_left _ (List.mem_of_getElem? (i := 2) rfl)))) (fun _ h9 => h9) rfl dX6_set_53 ?_
      refine lv_iconst (v := 1) hx hb dX6_set_56 (by decide) ?_
      refine lv_iload_n hx hb dX6_set_57 rfl (lv_at hl 1 rfl) ?_
      refine lv_ishl hx hb dX6_set_58 ?_
      refine lv_iconst (v := -1) hx hb dX6_set_59 (by decide) ?_
      refine lv_ixor hx hb dX6_set_60 ?_
      refine lv_iand hx hb dX6_set_61 ?_
      exact hB62 v_water v_flakes v_flying v_leaks v_cloudy v_content v_in (v_there ||| ((1 : Int32) <<< (p1 &&& 31))) v_music (v_music &&& (((1 : Int32) <<< (p1 &&& 31)) ^^^ (-1 : Int32))) H locs ls hP hD hS (lv_sub hl [0, 1, 2, 3, 4] rfl) h
    · have h := if_f hc h
      refine lv_aload_n hx hb dX6_set_41 rfl (lv_at hl 0 rfl) ?_
      refine va_get (D := D) (ci := 5) (C := RX6) (T := TX6) (N := 11) hx hb hts (fun _ hw => (List.mem_cons_of_mem _ (List.mem_append_right _ hw))) hown hE.1 hP 0 rfl rfl 8 (by decide) (hts (.fieldLink RX6 43 "GlobeCrown$Shelf" "music" "I") (List.mem_cons_of_mem _ (List.mem_append_left _ (List.mem_of_getElem? (i := 2) rfl)))) (fun _ h9 => h9) rfl dX6_set_42 ?_
      refine lv_iconst (v := 1) hx hb dX6_set_45 (by decide) ?_
      refine lv_iload_n hx hb dX6_set_46 rfl (lv_at hl 1 rfl) ?_
      refine lv_ishl hx hb dX6_set_47 ?_
      refine lv_ior hx hb dX6_set_48 ?_
      refine lv_goto (tgt := 62) hx hb dX6_set_49 (by decide) ?_
      exact hB62 v_water v_flakes v_flying v_leaks v_cloudy v_content v_in (v_there ||| ((1 : Int32) <<< (p1 &&& 31))) v_music (v_music ||| ((1 : Int32) <<< (p1 &&& 31))) H locs ls hP hD hS (lv_sub hl [0, 1, 2, 3, 4] rfl) h
  have h := hf
  unfold f_X6_set at h
  refine gw_start hP hD hS (fun H locs hP hD hS => ?_)
  refine lv_iload_n hx hb dX6_set_0 rfl (lv_at hl 1 rfl) ?_
  obtain ⟨r1, hc1, h⟩ := bd1_some h
  refine gw_ci (wr := [(qt, .inr (5, [.ref qt_water, .ref qt_flakes, .ref qt_flying, .ref qt_leaks, .ref qt_cloudy, .ref qt_content, .ref qt_in, .int v_there, .int v_music, .int v_taxes, .int v_hour])), (qt_water, .inl (cI, 8, .inl v_water)), (qt_flakes, .inl (cI, 8, .inl v_flakes)), (qt_flying, .inl (cI, 8, .inl v_flying)), (qt_leaks, .inl (cI, 8, .inl v_leaks)), (qt_cloudy, .inl (cI, 8, .inl v_cloudy)), (qt_content, .inl (cI, 8, .inl v_content)), (qt_in, .inl (cI, 8, .inl v_in))]) (w2 := [(qt, .inr (5, [.ref qt_water, .ref qt_flakes, .ref qt_flying, .ref qt_leaks, .ref qt_cloudy, .ref qt_content, .ref qt_in, .int v_there, .int v_music, .int v_taxes, .int v_hour])), (qt_water, .inl (cI, 8, .inl v_water)), (qt_flakes, .inl (cI, 8, .inl v_flakes)), (qt_flying, .inl (cI, 8, .inl v_flying)), (qt_leaks, .inl (cI, 8, .inl v_leaks)), (qt_cloudy, .inl (cI, 8, .inl v_cloudy)), (qt_content, .inl (cI, 8, .inl v_content)), (qt_in, .inl (cI, 8, .inl v_in))]) (gw_rSN (n := 1) (host := RX9) ⟨hx, hb, hml, hown, hts⟩ (C_X9_isGlobe l D cI cJ cZ H.size p1 r1 hc1) gX6_set_X9_isGlobe_n56 rfl rfl rfl (by unfold nwL; simp) (List.mem_cons_of_mem _ (List.mem_append_left _ (List.mem_of_getElem? (i := 10) rfl))) (List.mem_cons_of_mem _ (List.mem_append_left _ (List.mem_of_getElem? (i := 9) rfl))) hdS_X9_isGlobe ⟨Nat.le_of_ble_eq_true rfl, Nat.le_of_ble_eq_true rfl⟩ hE (hP.sub [] rfl) (hD.sub [] (by decide) rfl) rfl hl.1 (rest := []) rfl (Nat.le_of_ble_eq_true rfl) dX6_set_1 ⟨Nat.zero_le _, Nat.zero_le _⟩) hP hD hS hA [] [0, 1, 2, 3, 4, 5, 6, 7] rfl rfl rfl (by decide) rfl (fun H locs hP hD hS => ?_)
  refine lv_if_ne (tgt := 8) hx hb dX6_set_4 (by decide) (fun hc => ?_) (fun hc => ?_)
  · have h := if_f hc h
    refine lv_aload_n hx hb dX6_set_8 rfl (lv_at hl 0 rfl) ?_
    refine lv_iload_n hx hb dX6_set_9 rfl (lv_at hl 1 rfl) ?_
    obtain ⟨r10, hc10, h⟩ := bd1_some h
    refine gw_ci (wr := [(qt_water, .inl (cI, 8, .inl v_water)), (qt_flakes, .inl (cI, 8, .inl v_flakes)), (qt_flying, .inl (cI, 8, .inl v_flying)), (qt_leaks, .inl (cI, 8, .inl v_leaks)), (qt_cloudy, .inl (cI, 8, .inl v_cloudy)), (qt_content, .inl (cI, 8, .inl v_content)), (qt_in, .inl (cI, 8, .inl v_in))]) (w2 := [(qt_water, .inl (cI, 8, .inl v_water)), (qt_flakes, .inl (cI, 8, .inl v_flakes)), (qt_flying, .inl (cI, 8, .inl v_flying)), (qt_leaks, .inl (cI, 8, .inl v_leaks)), (qt_cloudy, .inl (cI, 8, .inl v_cloudy)), (qt_content, .inl (cI, 8, .inl v_content)), (qt_in, .inl (cI, 8, .inl v_in)), (qt, .inr (5, [.ref qt_water, .ref qt_flakes, .ref qt_flying, .ref qt_leaks, .ref qt_cloudy, .ref qt_content, .ref qt_in, .int v_there, .int v_music, .int v_taxes, .int v_hour]))]) (gw_rV (n := 1) ⟨hx, hb, hml, hown, hts⟩ (C_X6_has l D cI cJ cZ H.size qt qt_water qt_flakes qt_flying qt_leaks qt_cloudy qt_content qt_in v_there v_music v_taxes v_hour p1 r10 hc10) gX6_set_X6_has rfl rfl rfl hdV_X6_has ⟨Nat.le_of_ble_eq_true rfl, Nat.le_of_ble_eq_true rfl⟩ hE (hP.sub [0] rfl) (hD.sub [0] (by decide) rfl) 5 rfl 0 rfl rfl hl.1 (rest := []) rfl (Nat.le_of_ble_eq_true rfl) dX6_set_10 ⟨Nat.zero_le _, Nat.zero_le _⟩) hP hD hS hA [0] [1, 2, 3, 4, 5, 6, 7] rfl rfl rfl (by decide) rfl (fun H locs hP hD hS => ?_)
    refine lv_if_ne (tgt := 23) hx hb dX6_set_13 (by decide) (fun hc => ?_) (fun hc => ?_)
    · have h := if_f hc h
      exact hB23 v_water v_flakes v_flying v_leaks v_cloudy v_content v_in v_there v_music H locs ls (hP.sub [7, 0, 1, 2, 3, 4, 5, 6] rfl) (hD.sub [7, 0, 1, 2, 3, 4, 5, 6] (by decide) rfl) hS hl h
    · have h := if_t hc h
      refine lv_aload_n hx hb dX6_set_16 rfl (lv_at hl 0 rfl) ?_
      refine va_get (D := D) (ci := 5) (C := RX6) (T := TX6) (N := 11) hx hb hts (fun _ hw => (List.mem_cons_of_mem _ (List.mem_append_right _ hw))) hown hE.1 hP 7 rfl rfl 6 (by decide) (hts (.fieldLink RX6 30 "GlobeCrown$Shelf" "in" "[I") (List.mem_cons_of_mem _ (List.mem_append_left _ (List.mem_of_getElem? (i := 0) rfl)))) (fun _ h9 => h9) rfl dX6_set_17 ?_
      refine lv_iload_n hx hb dX6_set_20 rfl (lv_at hl 1 rfl) ?_
      refine lv_iconst (v := -1) hx hb dX6_set_21 (by decide) ?_
      obtain ⟨hg, h⟩ := gin_some h
      refine va_iast hx hb hE.1 hP hD hS 6 0 rfl rfl hg dX6_set_22 (fun H locs (hP : va_P D vwCl [(qt_water, .inl (cI, 8, .inl v_water)), (qt_flakes, .inl (cI, 8, .inl v_flakes)), (qt_flying, .inl (cI, 8, .inl v_flying)), (qt_leaks, .inl (cI, 8, .inl v_leaks)), (qt_cloudy, .inl (cI, 8, .inl v_cloudy)), (qt_content, .inl (cI, 8, .inl v_content)), (qt_in, .inl (cI, 8, .inl (upd v_in (Int32.toNatClampNeg p1) (-1 : Int32)))), (qt, .inr (5, [.ref qt_water, .ref qt_flakes, .ref qt_flying, .ref qt_leaks, .ref qt_cloudy, .ref qt_content, .ref qt_in, .int v_there, .int v_music, .int v_taxes, .int v_hour]))] H) (hD : va_D A [(qt_water, .inl (cI, 8, .inl v_water)), (qt_flakes, .inl (cI, 8, .inl v_flakes)), (qt_flying, .inl (cI, 8, .inl v_flying)), (qt_leaks, .inl (cI, 8, .inl v_leaks)), (qt_cloudy, .inl (cI, 8, .inl v_cloudy)), (qt_content, .inl (cI, 8, .inl v_content)), (qt_in, .inl (cI, 8, .inl (upd v_in (Int32.toNatClampNeg p1) (-1 : Int32)))), (qt, .inr (5, [.ref qt_water, .ref qt_flakes, .ref qt_flying, .ref qt_leaks, .ref qt_cloudy, .ref qt_content, .ref qt_in, .int v_there, .int v_music, .int v_taxes, .int v_hour]))]) hS => ?_)
      exact hB23 v_water v_flakes v_flying v_leaks v_cloudy v_content (upd v_in (Int32.toNatClampNeg p1) (-1 : Int32)) v_there v_music H locs ls (hP.sub [7, 0, 1, 2, 3, 4, 5, 6] rfl) (hD.sub [7, 0, 1, 2, 3, 4, 5, 6] (by decide) rfl) hS hl h
  · have h := if_t hc h
    cases h
    rw [hQQ]
    exact gw_vret hx hb hr hlocks hP hD hS dX6_set_7
theorem hdV_X6_set : yX6_set.cls = RX6 ∧ yX6_set.cls ≠ "java/lang/invoke/MethodHandle" ∧ yX6_set.cls ≠ "java/lang/invoke/VarHandle" ∧ (parseMethodDescriptor yX6_set.desc).map (fun d => d.parameters.length) = some 5 := by decide +kernel
def f_X6_outer (v_in : (Nat → Int32)) (v_there : Int32) (p1 : Int32) : Option (Int32) := (bd1 (f_X6_has v_there p1) (fun r2 => (if r2 = (0 : Int32) then (some (-6 : Int32)) else (gin p1 8 (if (v_in (Int32.toNatClampNeg p1)) = (-1 : Int32) then (some (-6 : Int32)) else (gin p1 8 (some (v_in (Int32.toNatClampNeg p1)))))))))
abbrev rm_X6_outer : Room := { frames := 1, cells := 0, slots := 0, locals := 21 }
set_option maxHeartbeats 4000000 in
set_option maxRecDepth 100000 in
theorem C_X6_outer (l : Launch) (D : va_G) (cI cJ cZ : ClassId) (sz : Nat) (qt qt_water qt_flakes qt_flying qt_leaks qt_cloudy qt_content qt_in : Nat) (v_in : (Nat → Int32)) (v_there : Int32) (v_music : Int32) (v_taxes : Int32) (v_hour : Int32) (p1 : Int32) (r : Int32) (hf : f_X6_outer v_in v_there p1 = some r) : Met l yX6_outer wsX6_outer rm_X6_outer (PR D cI cJ cZ [(qt, .inr (5, [.ref qt_water, .ref qt_flakes, .ref qt_flying, .ref qt_leaks, .ref qt_cloudy, .ref qt_content, .ref qt_in, .int v_there, .int v_music, .int v_taxes, .int v_hour])), (qt_in, .inl (cI, 8, .inl v_in))] sz [.ref qt, .int p1]) (QI D (va_A [(qt, .inr (5, [.ref qt_water, .ref qt_flakes, .ref qt_flying, .ref qt_leaks, .ref qt_cloudy, .ref qt_content, .ref qt_in, .int v_there, .int v_music, .int v_taxes, .int v_hour])), (qt_in, .inl (cI, 8, .inl v_in))] sz) r [(qt, .inr (5, [.ref qt_water, .ref qt_flakes, .ref qt_flying, .ref qt_leaks, .ref qt_cloudy, .ref qt_content, .ref qt_in, .int v_there, .int v_music, .int v_taxes, .int v_hour])), (qt_in, .inl (cI, 8, .inl v_in))]) 0 0 (va_A [(qt, .inr (5, [.ref qt_water, .ref qt_flakes, .ref qt_flying, .ref qt_leaks, .ref qt_cloudy, .ref qt_content, .ref qt_in, .int v_there, .int v_music, .int v_taxes, .int v_hour])), (qt_in, .inl (cI, 8, .inl v_in))] sz) := by
  refine Met.ofW (cc := cX6_outer) (maxL := 2) (ret := (some .int)) (by decide) rfl ?_
  intro p e s m args below meth c s₁ B hml hv
  obtain ⟨hav, hsz, hP, hD0, hE⟩ := hv
  have hx := B.exec
  have hb := B.bytes
  have hr := B.returns
  have hts := atoms_spec (ws := wsX6_outer) B.pre
  have hown : s.vm.findClass RX6 = some m.cls := findClass_of_methodNamed B.named
  have hlocks := B.notSynchronized
  subst hsz
  have hD := hD0.self (sz := s.heap.size)
  generalize hAe : va_A [(qt, .inr (5, [.ref qt_water, .ref qt_flakes, .ref qt_flying, .ref qt_leaks, .ref qt_cloudy, .ref qt_content, .ref qt_in, .int v_there, .int v_music, .int v_taxes, .int v_hour])), (qt_in, .inl (cI, 8, .inl v_in))] s.heap.size = A at hD ⊢
  have hA : ∀ q : Nat, s.heap.size ≤ q → A q := fun q h => by rw [← hAe]; exact Or.inr h
  have hS : va_S A s.heap s.heap [] := va_S.rf
  have hl := lv_entry ([.ref qt, .int p1]) (n := 2) (Nat.le_of_ble_eq_true rfl)
  have hfr : entryFrame m args 2 = entryFrame m ([.ref qt, .int p1] : List Value).toArray 2 := by rw [hav]
  rw [hfr, lg_entry_eq]
  generalize (lg_sl ([.ref qt, .int p1]) ++ List.replicate (2 - (lg_sl ([.ref qt, .int p1])).length) Slot.unset).toArray = ls at hl ⊢
  have hl : lv_has ls 2 [(0, .ref qt), (1, .int p1)] := hl
  obtain ⟨QQ, hQQ⟩ : ∃ QQ, QQ = MQ below (QI D A r [(qt, .inr (5, [.ref qt_water, .ref qt_flakes, .ref qt_flying, .ref qt_leaks, .ref qt_cloudy, .ref qt_content, .ref qt_in, .int v_there, .int v_music, .int v_taxes, .int v_hour])), (qt_in, .inl (cI, 8, .inl v_in))]) args s 0 0 A := ⟨_, rfl⟩
  show W p l e rm_X6_outer s m args below meth c s.heap [] 0 0 _ _
  rw [← hQQ]
  have h := hf
  unfold f_X6_outer at h
  refine gw_start hP hD hS (fun H locs hP hD hS => ?_)
  refine lv_aload_n hx hb dX6_outer_0 rfl (lv_at hl 0 rfl) ?_
  refine lv_iload_n hx hb dX6_outer_1 rfl (lv_at hl 1 rfl) ?_
  obtain ⟨r2, hc2, h⟩ := bd1_some h
  refine gw_ci (wr := [(qt_in, .inl (cI, 8, .inl v_in))]) (w2 := [(qt_in, .inl (cI, 8, .inl v_in)), (qt, .inr (5, [.ref qt_water, .ref qt_flakes, .ref qt_flying, .ref qt_leaks, .ref qt_cloudy, .ref qt_content, .ref qt_in, .int v_there, .int v_music, .int v_taxes, .int v_hour]))]) (gw_rV (n := 1) ⟨hx, hb, hml, hown, hts⟩ (C_X6_has l D cI cJ cZ H.size qt qt_water qt_flakes qt_flying qt_leaks qt_cloudy qt_content qt_in v_there v_music v_taxes v_hour p1 r2 hc2) gX6_outer_X6_has rfl rfl rfl hdV_X6_has ⟨Nat.le_of_ble_eq_true rfl, Nat.le_of_ble_eq_true rfl⟩ hE (hP.sub [0] rfl) (hD.sub [0] (by decide) rfl) 5 rfl 0 rfl rfl hl.1 (rest := []) rfl (Nat.le_of_ble_eq_true rfl) dX6_outer_2 ⟨Nat.zero_le _, Nat.zero_le _⟩) hP hD hS hA [0] [1] rfl rfl rfl (by decide) rfl (fun H locs hP hD hS => ?_)
  refine lv_if_eq (tgt := 18) hx hb dX6_outer_5 (by decide) (fun hc => ?_) (fun hc => ?_)
  · have h := if_t hc h
    refine lv_bipush (v := -6) hx hb dX6_outer_18 (by decide) ?_
    refine lv_goto (tgt := 29) hx hb dX6_outer_20 (by decide) ?_
    cases h
    rw [hQQ]
    exact gw_iret hx hb hr hlocks (hP.sub [1, 0] rfl) (hD.sub [1, 0] (by decide) rfl) hS dX6_outer_29
  · have h := if_f hc h
    refine lv_aload_n hx hb dX6_outer_8 rfl (lv_at hl 0 rfl) ?_
    refine va_get (D := D) (ci := 5) (C := RX6) (T := TX6) (N := 11) hx hb hts (fun _ hw => (List.mem_cons_of_mem _ (List.mem_append_right _ hw))) hown hE.1 hP 1 rfl rfl 6 (by decide) (hts (.fieldLink RX6 30 "GlobeCrown$Shelf" "in" "[I") (List.mem_cons_of_mem _ (List.mem_append_left _ (List.mem_of_getElem? (i := 0) rfl)))) (fun _ h9 => h9) rfl dX6_outer_9 ?_
    refine lv_iload_n hx hb dX6_outer_12 rfl (lv_at hl 1 rfl) ?_
    obtain ⟨hg, h⟩ := gin_some h
    refine va_iald hx hb hE.1 hP 0 0 rfl rfl hg dX6_outer_13 ?_
    refine lv_iconst (v := -1) hx hb dX6_outer_14 (by decide) ?_
    refine lv_icmp_ne (tgt := 23) hx hb dX6_outer_15 (by decide) (fun hc => ?_) (fun hc => ?_)
    · have h := if_f hc h
      refine lv_aload_n hx hb dX6_outer_23 rfl (lv_at hl 0 rfl) ?_
      refine va_get (D := D) (ci := 5) (C := RX6) (T := TX6) (N := 11) hx hb hts (fun _ hw => (List.mem_cons_of_mem _ (List.mem_append_right _ hw))) hown hE.1 hP 1 rfl rfl 6 (by decide) (hts (.fieldLink RX6 30 "GlobeCrown$Shelf" "in" "[I") (List.mem_cons_of_mem _ (List.mem_append_left _ (List.mem_of_getElem? (i := 0) rfl)))) (fun _ h9 => h9) rfl dX6_outer_24 ?_
      refine lv_iload_n hx hb dX6_outer_27 rfl (lv_at hl 1 rfl) ?_
      obtain ⟨hg, h⟩ := gin_some h
      refine va_iald hx hb hE.1 hP 0 0 rfl rfl hg dX6_outer_28 ?_
      cases h
      rw [hQQ]
      exact gw_iret hx hb hr hlocks (hP.sub [1, 0] rfl) (hD.sub [1, 0] (by decide) rfl) hS dX6_outer_29
    · have h := if_t hc h
      refine lv_bipush (v := -6) hx hb dX6_outer_18 (by decide) ?_
      refine lv_goto (tgt := 29) hx hb dX6_outer_20 (by decide) ?_
      cases h
      rw [hQQ]
      exact gw_iret hx hb hr hlocks (hP.sub [1, 0] rfl) (hD.sub [1, 0] (by decide) rfl) hS dX6_outer_29
theorem hdV_X6_outer : yX6_outer.cls = RX6 ∧ yX6_outer.cls ≠ "java/lang/invoke/MethodHandle" ∧ yX6_outer.cls ≠ "java/lang/invoke/VarHandle" ∧ (parseMethodDescriptor yX6_outer.desc).map (fun d => d.parameters.length) = some 1 := by decide +kernel
def L_X6_bitsWithin_4 (v_in : (Nat → Int32)) (v_there : Int32) (p1 : Int32) : Nat → Int32 → Int32 → Option (Int32)
  | 0, _, _ => none
  | n + 1, x2, x3 => (if (8 : Int32) ≤ x3 then (some x2) else (bd1 (f_X6_isWithin v_in v_there x3 p1) (fun r13 => (if r13 = (0 : Int32) then ((L_X6_bitsWithin_4 v_in v_there p1 n) x2 (x3 + (1 : Int32))) else ((L_X6_bitsWithin_4 v_in v_there p1 n) (x2 ||| ((1 : Int32) <<< (x3 &&& 31))) (x3 + (1 : Int32)))))))
def f_X6_bitsWithin (v_in : (Nat → Int32)) (v_there : Int32) (p1 : Int32) : Option (Int32) := (L_X6_bitsWithin_4 v_in v_there p1 FU (0 : Int32) (0 : Int32))
abbrev rm_X6_bitsWithin : Room := { frames := 2, cells := 0, slots := 0, locals := 45 }
set_option maxHeartbeats 4000000 in
set_option maxRecDepth 100000 in
theorem C_X6_bitsWithin (l : Launch) (D : va_G) (cI cJ cZ : ClassId) (sz : Nat) (qt qt_water qt_flakes qt_flying qt_leaks qt_cloudy qt_content qt_in : Nat) (v_in : (Nat → Int32)) (v_there : Int32) (v_music : Int32) (v_taxes : Int32) (v_hour : Int32) (p1 : Int32) (r : Int32) (hf : f_X6_bitsWithin v_in v_there p1 = some r) : Met l yX6_bitsWithin wsX6_bitsWithin rm_X6_bitsWithin (PR D cI cJ cZ [(qt, .inr (5, [.ref qt_water, .ref qt_flakes, .ref qt_flying, .ref qt_leaks, .ref qt_cloudy, .ref qt_content, .ref qt_in, .int v_there, .int v_music, .int v_taxes, .int v_hour])), (qt_in, .inl (cI, 8, .inl v_in))] sz [.ref qt, .int p1]) (QI D (va_A [(qt, .inr (5, [.ref qt_water, .ref qt_flakes, .ref qt_flying, .ref qt_leaks, .ref qt_cloudy, .ref qt_content, .ref qt_in, .int v_there, .int v_music, .int v_taxes, .int v_hour])), (qt_in, .inl (cI, 8, .inl v_in))] sz) r [(qt, .inr (5, [.ref qt_water, .ref qt_flakes, .ref qt_flying, .ref qt_leaks, .ref qt_cloudy, .ref qt_content, .ref qt_in, .int v_there, .int v_music, .int v_taxes, .int v_hour])), (qt_in, .inl (cI, 8, .inl v_in))]) 0 0 (va_A [(qt, .inr (5, [.ref qt_water, .ref qt_flakes, .ref qt_flying, .ref qt_leaks, .ref qt_cloudy, .ref qt_content, .ref qt_in, .int v_there, .int v_music, .int v_taxes, .int v_hour])), (qt_in, .inl (cI, 8, .inl v_in))] sz) := by
  refine Met.ofW (cc := cX6_bitsWithin) (maxL := 4) (ret := (some .int)) (by decide) rfl ?_
  intro p e s m args below meth c s₁ B hml hv
  obtain ⟨hav, hsz, hP, hD0, hE⟩ := hv
  have hx := B.exec
  have hb := B.bytes
  have hr := B.returns
  have hts := atoms_spec (ws := wsX6_bitsWithin) B.pre
  have hown : s.vm.findClass RX6 = some m.cls := findClass_of_methodNamed B.named
  have hlocks := B.notSynchronized
  subst hsz
  have hD := hD0.self (sz := s.heap.size)
  generalize hAe : va_A [(qt, .inr (5, [.ref qt_water, .ref qt_flakes, .ref qt_flying, .ref qt_leaks, .ref qt_cloudy, .ref qt_content, .ref qt_in, .int v_there, .int v_music, .int v_taxes, .int v_hour])), (qt_in, .inl (cI, 8, .inl v_in))] s.heap.size = A at hD ⊢
  have hA : ∀ q : Nat, s.heap.size ≤ q → A q := fun q h => by rw [← hAe]; exact Or.inr h
  have hS : va_S A s.heap s.heap [] := va_S.rf
  have hl := lv_entry ([.ref qt, .int p1]) (n := 4) (Nat.le_of_ble_eq_true rfl)
  have hfr : entryFrame m args 4 = entryFrame m ([.ref qt, .int p1] : List Value).toArray 4 := by rw [hav]
  rw [hfr, lg_entry_eq]
  generalize (lg_sl ([.ref qt, .int p1]) ++ List.replicate (4 - (lg_sl ([.ref qt, .int p1])).length) Slot.unset).toArray = ls at hl ⊢
  have hl : lv_has ls 4 [(0, .ref qt), (1, .int p1)] := hl
  obtain ⟨QQ, hQQ⟩ : ∃ QQ, QQ = MQ below (QI D A r [(qt, .inr (5, [.ref qt_water, .ref qt_flakes, .ref qt_flying, .ref qt_leaks, .ref qt_cloudy, .ref qt_content, .ref qt_in, .int v_there, .int v_music, .int v_taxes, .int v_hour])), (qt_in, .inl (cI, 8, .inl v_in))]) args s 0 0 A := ⟨_, rfl⟩
  show W p l e rm_X6_bitsWithin s m args below meth c s.heap [] 0 0 _ _
  rw [← hQQ]
  have hL4 : ∀ (n4 : Nat), ∀ (x2 : Int32) (x3 : Int32) (H : Heap) (locs : List Loc) (ls : Array Slot), va_P D vwCl [(qt, .inr (5, [.ref qt_water, .ref qt_flakes, .ref qt_flying, .ref qt_leaks, .ref qt_cloudy, .ref qt_content, .ref qt_in, .int v_there, .int v_music, .int v_taxes, .int v_hour])), (qt_in, .inl (cI, 8, .inl v_in))] H → va_D A [(qt, .inr (5, [.ref qt_water, .ref qt_flakes, .ref qt_flying, .ref qt_leaks, .ref qt_cloudy, .ref qt_content, .ref qt_in, .int v_there, .int v_music, .int v_taxes, .int v_hour])), (qt_in, .inl (cI, 8, .inl v_in))] → va_S A s.heap H locs → lv_has ls 4 [(0, .ref qt), (1, .int p1), (2, .int x2), (3, .int x3)] → L_X6_bitsWithin_4 v_in v_there p1 n4 x2 x3 = some r → W p l e rm_X6_bitsWithin s m args below meth c H locs 0 0 QQ (F0 m 4 ls []) := by
    intro n4
    induction n4 with
    | zero =>
      intro x2 x3 H locs ls hP hD hS hl h
      have h : none = some r := h
      cases h
    | succ n4 ih4 =>
      intro x2 x3 H locs ls hP hD hS hl h
      rw [L_X6_bitsWithin_4.eq_2] at h
      refine lv_iload_n hx hb dX6_bitsWithin_4 rfl (lv_at hl 3 rfl) ?_
      refine lv_bipush (v := 8) hx hb dX6_bitsWithin_5 (by decide) ?_
      refine lv_icmp_ge (tgt := 31) hx hb dX6_bitsWithin_7 (by decide) (fun hc => ?_) (fun hc => ?_)
      · have h := if_t hc h
        refine lv_iload_n hx hb dX6_bitsWithin_31 rfl (lv_at hl 2 rfl) ?_
        cases h
        rw [hQQ]
        exact gw_iret hx hb hr hlocks hP hD hS dX6_bitsWithin_32
      · have h := if_f hc h
        refine lv_aload_n hx hb dX6_bitsWithin_10 rfl (lv_at hl 0 rfl) ?_
        refine lv_iload_n hx hb dX6_bitsWithin_11 rfl (lv_at hl 3 rfl) ?_
        refine lv_iload_n hx hb dX6_bitsWithin_12 rfl (lv_at hl 1 rfl) ?_
        obtain ⟨r13, hc13, h⟩ := bd1_some h
        refine gw_ci (wr := []) (w2 := [(qt, .inr (5, [.ref qt_water, .ref qt_flakes, .ref qt_flying, .ref qt_leaks, .ref qt_cloudy, .ref qt_content, .ref qt_in, .int v_there, .int v_music, .int v_taxes, .int v_hour])), (qt_in, .inl (cI, 8, .inl v_in))]) (gw_rV (n := 2) ⟨hx, hb, hml, hown, hts⟩ (C_X6_isWithin l D cI cJ cZ H.size qt qt_water qt_flakes qt_flying qt_leaks qt_cloudy qt_content qt_in v_in v_there v_music v_taxes v_hour x3 p1 r13 hc13) gX6_bitsWithin_X6_isWithin rfl rfl rfl hdV_X6_isWithin ⟨Nat.le_of_ble_eq_true rfl, Nat.le_of_ble_eq_true rfl⟩ hE (hP.sub [0, 1] rfl) (hD.sub [0, 1] (by decide) rfl) 5 rfl 0 rfl rfl hl.1 (rest := []) rfl (Nat.le_of_ble_eq_true rfl) dX6_bitsWithin_13 ⟨Nat.zero_le _, Nat.zero_le _⟩) hP hD hS hA [0, 1] [] rfl rfl rfl (by decide) rfl (fun H locs hP hD hS => ?_)
        refine lv_if_eq (tgt := 25) hx hb dX6_bitsWithin_16 (by decide) (fun hc => ?_) (fun hc => ?_)
        · have h := if_t hc h
          refine lv_iinc (v := (x3 + (1 : Int32))) (lv' := [(3, .int (x3 + (1 : Int32))), (0, .ref qt), (1, .int p1), (2, .int x2)]) hx hb dX6_bitsWithin_25 hl (k := 3) rfl rfl (by decide) rfl (fun ls hl => ?_)
          refine lv_goto (tgt := 4) hx hb dX6_bitsWithin_28 (by decide) ?_
          exact ih4 x2 (x3 + (1 : Int32)) H locs ls hP hD hS (lv_sub hl [1, 2, 3, 0] rfl) h
        · have h := if_f hc h
          refine lv_iload_n hx hb dX6_bitsWithin_19 rfl (lv_at hl 2 rfl) ?_
          refine lv_iconst (v := 1) hx hb dX6_bitsWithin_20 (by decide) ?_
          refine lv_iload_n hx hb dX6_bitsWithin_21 rfl (lv_at hl 3 rfl) ?_
          refine lv_ishl hx hb dX6_bitsWithin_22 ?_
          refine lv_ior hx hb dX6_bitsWithin_23 ?_
          refine lv_istore_n (lv' := [(2, .int (x2 ||| ((1 : Int32) <<< (x3 &&& 31)))), (0, .ref qt), (1, .int p1), (3, .int x3)]) hx hb dX6_bitsWithin_24 rfl hl (by decide) rfl (fun ls hl => ?_)
          refine lv_iinc (v := (x3 + (1 : Int32))) (lv' := [(3, .int (x3 + (1 : Int32))), (2, .int (x2 ||| ((1 : Int32) <<< (x3 &&& 31)))), (0, .ref qt), (1, .int p1)]) hx hb dX6_bitsWithin_25 hl (k := 3) rfl rfl (by decide) rfl (fun ls hl => ?_)
          refine lv_goto (tgt := 4) hx hb dX6_bitsWithin_28 (by decide) ?_
          exact ih4 (x2 ||| ((1 : Int32) <<< (x3 &&& 31))) (x3 + (1 : Int32)) H locs ls hP hD hS (lv_sub hl [2, 3, 1, 0] rfl) h
  have h := hf
  unfold f_X6_bitsWithin at h
  refine gw_start hP hD hS (fun H locs hP hD hS => ?_)
  refine lv_iconst (v := 0) hx hb dX6_bitsWithin_0 (by decide) ?_
  refine lv_istore_n (lv' := [(2, .int (0 : Int32)), (0, .ref qt), (1, .int p1)]) hx hb dX6_bitsWithin_1 rfl hl (by decide) rfl (fun ls hl => ?_)
  refine lv_iconst (v := 0) hx hb dX6_bitsWithin_2 (by decide) ?_
  refine lv_istore_n (lv' := [(3, .int (0 : Int32)), (2, .int (0 : Int32)), (0, .ref qt), (1, .int p1)]) hx hb dX6_bitsWithin_3 rfl hl (by decide) rfl (fun ls hl => ?_)
  exact hL4 FU (0 : Int32) (0 : Int32) H locs ls hP hD hS (lv_sub hl [2, 3, 1, 0] rfl) h
theorem hdV_X6_bitsWithin : yX6_bitsWithin.cls = RX6 ∧ yX6_bitsWithin.cls ≠ "java/lang/invoke/MethodHandle" ∧ yX6_bitsWithin.cls ≠ "java/lang/invoke/VarHandle" ∧ (parseMethodDescriptor yX6_bitsWithin.desc).map (fun d => d.parameters.length) = some 1 := by decide +kernel
def L_X6_bitsRound_4 (v_in : (Nat → Int32)) (v_there : Int32) (p1 : Int32) : Nat → Int32 → Int32 → Option (Int32)
  | 0, _, _ => none
  | n + 1, x2, x3 => (if (8 : Int32) ≤ x3 then (some x2) else (if x3 = p1 then ((L_X6_bitsRound_4 v_in v_there p1 n) x2 (x3 + (1 : Int32))) else (bd1 (f_X6_isWithin v_in v_there p1 x3) (fun r18 => (if r18 = (0 : Int32) then ((L_X6_bitsRound_4 v_in v_there p1 n) x2 (x3 + (1 : Int32))) else ((L_X6_bitsRound_4 v_in v_there p1 n) (x2 ||| ((1 : Int32) <<< (x3 &&& 31))) (x3 + (1 : Int32))))))))
def f_X6_bitsRound (v_in : (Nat → Int32)) (v_there : Int32) (p1 : Int32) : Option (Int32) := (L_X6_bitsRound_4 v_in v_there p1 FU (0 : Int32) (0 : Int32))
abbrev rm_X6_bitsRound : Room := { frames := 2, cells := 0, slots := 0, locals := 45 }
set_option maxHeartbeats 4000000 in
set_option maxRecDepth 100000 in
theorem C_X6_bitsRound (l : Launch) (D : va_G) (cI cJ cZ : ClassId) (sz : Nat) (qt qt_water qt_flakes qt_flying qt_leaks qt_cloudy qt_content qt_in : Nat) (v_in : (Nat → Int32)) (v_there : Int32) (v_music : Int32) (v_taxes : Int32) (v_hour : Int32) (p1 : Int32) (r : Int32) (hf : f_X6_bitsRound v_in v_there p1 = some r) : Met l yX6_bitsRound wsX6_bitsRound rm_X6_bitsRound (PR D cI cJ cZ [(qt, .inr (5, [.ref qt_water, .ref qt_flakes, .ref qt_flying, .ref qt_leaks, .ref qt_cloudy, .ref qt_content, .ref qt_in, .int v_there, .int v_music, .int v_taxes, .int v_hour])), (qt_in, .inl (cI, 8, .inl v_in))] sz [.ref qt, .int p1]) (QI D (va_A [(qt, .inr (5, [.ref qt_water, .ref qt_flakes, .ref qt_flying, .ref qt_leaks, .ref qt_cloudy, .ref qt_content, .ref qt_in, .int v_there, .int v_music, .int v_taxes, .int v_hour])), (qt_in, .inl (cI, 8, .inl v_in))] sz) r [(qt, .inr (5, [.ref qt_water, .ref qt_flakes, .ref qt_flying, .ref qt_leaks, .ref qt_cloudy, .ref qt_content, .ref qt_in, .int v_there, .int v_music, .int v_taxes, .int v_hour])), (qt_in, .inl (cI, 8, .inl v_in))]) 0 0 (va_A [(qt, .inr (5, [.ref qt_water, .ref qt_flakes, .ref qt_flying, .ref qt_leaks, .ref qt_cloudy, .ref qt_content, .ref qt_in, .int v_there, .int v_music, .int v_taxes, .int v_hour])), (qt_in, .inl (cI, 8, .inl v_in))] sz) := by
  refine Met.ofW (cc := cX6_bitsRound) (maxL := 4) (ret := (some .int)) (by decide) rfl ?_
  intro p e s m args below meth c s₁ B hml hv
  obtain ⟨hav, hsz, hP, hD0, hE⟩ := hv
  have hx := B.exec
  have hb := B.bytes
  have hr := B.returns
  have hts := atoms_spec (ws := wsX6_bitsRound) B.pre
  have hown : s.vm.findClass RX6 = some m.cls := findClass_of_methodNamed B.named
  have hlocks := B.notSynchronized
  subst hsz
  have hD := hD0.self (sz := s.heap.size)
  generalize hAe : va_A [(qt, .inr (5, [.ref qt_water, .ref qt_flakes, .ref qt_flying, .ref qt_leaks, .ref qt_cloudy, .ref qt_content, .ref qt_in, .int v_there, .int v_music, .int v_taxes, .int v_hour])), (qt_in, .inl (cI, 8, .inl v_in))] s.heap.size = A at hD ⊢
  have hA : ∀ q : Nat, s.heap.size ≤ q → A q := fun q h => by rw [← hAe]; exact Or.inr h
  have hS : va_S A s.heap s.heap [] := va_S.rf
  have hl := lv_entry ([.ref qt, .int p1]) (n := 4) (Nat.le_of_ble_eq_true rfl)
  have hfr : entryFrame m args 4 = entryFrame m ([.ref qt, .int p1] : List Value).toArray 4 := by rw [hav]
  rw [hfr, lg_entry_eq]
  generalize (lg_sl ([.ref qt, .int p1]) ++ List.replicate (4 - (lg_sl ([.ref qt, .int p1])).length) Slot.unset).toArray = ls at hl ⊢
  have hl : lv_has ls 4 [(0, .ref qt), (1, .int p1)] := hl
  obtain ⟨QQ, hQQ⟩ : ∃ QQ, QQ = MQ below (QI D A r [(qt, .inr (5, [.ref qt_water, .ref qt_flakes, .ref qt_flying, .ref qt_leaks, .ref qt_cloudy, .ref qt_content, .ref qt_in, .int v_there, .int v_music, .int v_taxes, .int v_hour])), (qt_in, .inl (cI, 8, .inl v_in))]) args s 0 0 A := ⟨_, rfl⟩
  show W p l e rm_X6_bitsRound s m args below meth c s.heap [] 0 0 _ _
  rw [← hQQ]
  have hL4 : ∀ (n4 : Nat), ∀ (x2 : Int32) (x3 : Int32) (H : Heap) (locs : List Loc) (ls : Array Slot), va_P D vwCl [(qt, .inr (5, [.ref qt_water, .ref qt_flakes, .ref qt_flying, .ref qt_leaks, .ref qt_cloudy, .ref qt_content, .ref qt_in, .int v_there, .int v_music, .int v_taxes, .int v_hour])), (qt_in, .inl (cI, 8, .inl v_in))] H → va_D A [(qt, .inr (5, [.ref qt_water, .ref qt_flakes, .ref qt_flying, .ref qt_leaks, .ref qt_cloudy, .ref qt_content, .ref qt_in, .int v_there, .int v_music, .int v_taxes, .int v_hour])), (qt_in, .inl (cI, 8, .inl v_in))] → va_S A s.heap H locs → lv_has ls 4 [(0, .ref qt), (1, .int p1), (2, .int x2), (3, .int x3)] → L_X6_bitsRound_4 v_in v_there p1 n4 x2 x3 = some r → W p l e rm_X6_bitsRound s m args below meth c H locs 0 0 QQ (F0 m 4 ls []) := by
    intro n4
    induction n4 with
    | zero =>
      intro x2 x3 H locs ls hP hD hS hl h
      have h : none = some r := h
      cases h
    | succ n4 ih4 =>
      intro x2 x3 H locs ls hP hD hS hl h
      rw [L_X6_bitsRound_4.eq_2] at h
      refine lv_iload_n hx hb dX6_bitsRound_4 rfl (lv_at hl 3 rfl) ?_
      refine lv_bipush (v := 8) hx hb dX6_bitsRound_5 (by decide) ?_
      refine lv_icmp_ge (tgt := 36) hx hb dX6_bitsRound_7 (by decide) (fun hc => ?_) (fun hc => ?_)
      · have h := if_t hc h
        refine lv_iload_n hx hb dX6_bitsRound_36 rfl (lv_at hl 2 rfl) ?_
        cases h
        rw [hQQ]
        exact gw_iret hx hb hr hlocks hP hD hS dX6_bitsRound_37
      · have h := if_f hc h
        refine lv_iload_n hx hb dX6_bitsRound_10 rfl (lv_at hl 3 rfl) ?_
        refine lv_iload_n hx hb dX6_bitsRound_11 rfl (lv_at hl 1 rfl) ?_
        refine lv_icmp_eq (tgt := 30) hx hb dX6_bitsRound_12 (by decide) (fun hc => ?_) (fun hc => ?_)
        · have h := if_t hc h
          refine lv_iinc (v := (x3 + (1 : Int32))) (lv' := [(3, .int (x3 + (1 : Int32))), (0, .ref qt), (1, .int p1), (2, .int x2)]) hx hb dX6_bitsRound_30 hl (k := 3) rfl rfl (by decide) rfl (fun ls hl => ?_)
          refine lv_goto (tgt := 4) hx hb dX6_bitsRound_33 (by decide) ?_
          exact ih4 x2 (x3 + (1 : Int32)) H locs ls hP hD hS (lv_sub hl [1, 2, 3, 0] rfl) h
        · have h := if_f hc h
          refine lv_aload_n hx hb dX6_bitsRound_15 rfl (lv_at hl 0 rfl) ?_
          refine lv_iload_n hx hb dX6_bitsRound_16 rfl (lv_at hl 1 rfl) ?_
          refine lv_iload_n hx hb dX6_bitsRound_17 rfl (lv_at hl 3 rfl) ?_
          obtain ⟨r18, hc18, h⟩ := bd1_some h
          refine gw_ci (wr := []) (w2 := [(qt, .inr (5, [.ref qt_water, .ref qt_flakes, .ref qt_flying, .ref qt_leaks, .ref qt_cloudy, .ref qt_content, .ref qt_in, .int v_there, .int v_music, .int v_taxes, .int v_hour])), (qt_in, .inl (cI, 8, .inl v_in))]) (gw_rV (n := 2) ⟨hx, hb, hml, hown, hts⟩ (C_X6_isWithin l D cI cJ cZ H.size qt qt_water qt_flakes qt_flying qt_leaks qt_cloudy qt_content qt_in v_in v_there v_music v_taxes v_hour p1 x3 r18 hc18) gX6_bitsRound_X6_isWithin rfl rfl rfl hdV_X6_isWithin ⟨Nat.le_of_ble_eq_true rfl, Nat.le_of_ble_eq_true rfl⟩ hE (hP.sub [0, 1] rfl) (hD.sub [0, 1] (by decide) rfl) 5 rfl 0 rfl rfl hl.1 (rest := []) rfl (Nat.le_of_ble_eq_true rfl) dX6_bitsRound_18 ⟨Nat.zero_le _, Nat.zero_le _⟩) hP hD hS hA [0, 1] [] rfl rfl rfl (by decide) rfl (fun H locs hP hD hS => ?_)
          refine lv_if_eq (tgt := 30) hx hb dX6_bitsRound_21 (by decide) (fun hc => ?_) (fun hc => ?_)
          · have h := if_t hc h
            refine lv_iinc (v := (x3 + (1 : Int32))) (lv' := [(3, .int (x3 + (1 : Int32))), (0, .ref qt), (1, .int p1), (2, .int x2)]) hx hb dX6_bitsRound_30 hl (k := 3) rfl rfl (by decide) rfl (fun ls hl => ?_)
            refine lv_goto (tgt := 4) hx hb dX6_bitsRound_33 (by decide) ?_
            exact ih4 x2 (x3 + (1 : Int32)) H locs ls hP hD hS (lv_sub hl [1, 2, 3, 0] rfl) h
          · have h := if_f hc h
            refine lv_iload_n hx hb dX6_bitsRound_24 rfl (lv_at hl 2 rfl) ?_
            refine lv_iconst (v := 1) hx hb dX6_bitsRound_25 (by decide) ?_
            refine lv_iload_n hx hb dX6_bitsRound_26 rfl (lv_at hl 3 rfl) ?_
            refine lv_ishl hx hb dX6_bitsRound_27 ?_
            refine lv_ior hx hb dX6_bitsRound_28 ?_
            refine lv_istore_n (lv' := [(2, .int (x2 ||| ((1 : Int32) <<< (x3 &&& 31)))), (0, .ref qt), (1, .int p1), (3, .int x3)]) hx hb dX6_bitsRound_29 rfl hl (by decide) rfl (fun ls hl => ?_)
            refine lv_iinc (v := (x3 + (1 : Int32))) (lv' := [(3, .int (x3 + (1 : Int32))), (2, .int (x2 ||| ((1 : Int32) <<< (x3 &&& 31)))), (0, .ref qt), (1, .int p1)]) hx hb dX6_bitsRound_30 hl (k := 3) rfl rfl (by decide) rfl (fun ls hl => ?_)
            refine lv_goto (tgt := 4) hx hb dX6_bitsRound_33 (by decide) ?_
            exact ih4 (x2 ||| ((1 : Int32) <<< (x3 &&& 31))) (x3 + (1 : Int32)) H locs ls hP hD hS (lv_sub hl [2, 3, 1, 0] rfl) h
  have h := hf
  unfold f_X6_bitsRound at h
  refine gw_start hP hD hS (fun H locs hP hD hS => ?_)
  refine lv_iconst (v := 0) hx hb dX6_bitsRound_0 (by decide) ?_
  refine lv_istore_n (lv' := [(2, .int (0 : Int32)), (0, .ref qt), (1, .int p1)]) hx hb dX6_bitsRound_1 rfl hl (by decide) rfl (fun ls hl => ?_)
  refine lv_iconst (v := 0) hx hb dX6_bitsRound_2 (by decide) ?_
  refine lv_istore_n (lv' := [(3, .int (0 : Int32)), (2, .int (0 : Int32)), (0, .ref qt), (1, .int p1)]) hx hb dX6_bitsRound_3 rfl hl (by decide) rfl (fun ls hl => ?_)
  exact hL4 FU (0 : Int32) (0 : Int32) H locs ls hP hD hS (lv_sub hl [2, 3, 1, 0] rfl) h
theorem hdV_X6_bitsRound : yX6_bitsRound.cls = RX6 ∧ yX6_bitsRound.cls ≠ "java/lang/invoke/MethodHandle" ∧ yX6_bitsRound.cls ≠ "java/lang/invoke/VarHandle" ∧ (parseMethodDescriptor yX6_bitsRound.desc).map (fun d => d.parameters.length) = some 1 := by decide +kernel
def L_X6_snowBits_4 (v_flying : (Nat → Int32)) (v_there : Int32) : Nat → Int32 → Int32 → Option (Int32)
  | 0, _, _ => none
  | n + 1, x1, x2 => (if (8 : Int32) ≤ x2 then (some x1) else (bd1 (f_X6_has v_there x2) (fun r12 => (if r12 = (0 : Int32) then ((L_X6_snowBits_4 v_flying v_there n) x1 (x2 + (1 : Int32))) else (gin x2 8 (if (v_flying (Int32.toNatClampNeg x2)) ≤ (0 : Int32) then ((L_X6_snowBits_4 v_flying v_there n) x1 (x2 + (1 : Int32))) else ((L_X6_snowBits_4 v_flying v_there n) (x1 ||| ((1 : Int32) <<< (x2 &&& 31))) (x2 + (1 : Int32)))))))))
def f_X6_snowBits (v_flying : (Nat → Int32)) (v_there : Int32) : Option (Int32) := (L_X6_snowBits_4 v_flying v_there FU (0 : Int32) (0 : Int32))
abbrev rm_X6_snowBits : Room := { frames := 1, cells := 0, slots := 0, locals := 21 }
set_option maxHeartbeats 4000000 in
set_option maxRecDepth 100000 in
theorem C_X6_snowBits (l : Launch) (D : va_G) (cI cJ cZ : ClassId) (sz : Nat) (qt qt_water qt_flakes qt_flying qt_leaks qt_cloudy qt_content qt_in : Nat) (v_flying : (Nat → Int32)) (v_there : Int32) (v_music : Int32) (v_taxes : Int32) (v_hour : Int32) (r : Int32) (hf : f_X6_snowBits v_flying v_there = some r) : Met l yX6_snowBits wsX6_snowBits rm_X6_snowBits (PR D cI cJ cZ [(qt, .inr (5, [.ref qt_water, .ref qt_flakes, .ref qt_flying, .ref qt_leaks, .ref qt_cloudy, .ref qt_content, .ref qt_in, .int v_there, .int v_music, .int v_taxes, .int v_hour])), (qt_flying, .inl (cI, 8, .inl v_flying))] sz [.ref qt]) (QI D (va_A [(qt, .inr (5, [.ref qt_water, .ref qt_flakes, .ref qt_flying, .ref qt_leaks, .ref qt_cloudy, .ref qt_content, .ref qt_in, .int v_there, .int v_music, .int v_taxes, .int v_hour])), (qt_flying, .inl (cI, 8, .inl v_flying))] sz) r [(qt, .inr (5, [.ref qt_water, .ref qt_flakes, .ref qt_flying, .ref qt_leaks, .ref qt_cloudy, .ref qt_content, .ref qt_in, .int v_there, .int v_music, .int v_taxes, .int v_hour])), (qt_flying, .inl (cI, 8, .inl v_flying))]) 0 0 (va_A [(qt, .inr (5, [.ref qt_water, .ref qt_flakes, .ref qt_flying, .ref qt_leaks, .ref qt_cloudy, .ref qt_content, .ref qt_in, .int v_there, .int v_music, .int v_taxes, .int v_hour])), (qt_flying, .inl (cI, 8, .inl v_flying))] sz) := by
  refine Met.ofW (cc := cX6_snowBits) (maxL := 3) (ret := (some .int)) (by decide) rfl ?_
  intro p e s m args below meth c s₁ B hml hv
  obtain ⟨hav, hsz, hP, hD0, hE⟩ := hv
  have hx := B.exec
  have hb := B.bytes
  have hr := B.returns
  have hts := atoms_spec (ws := wsX6_snowBits) B.pre
  have hown : s.vm.findClass RX6 = some m.cls := findClass_of_methodNamed B.named
  have hlocks := B.notSynchronized
  subst hsz
  have hD := hD0.self (sz := s.heap.size)
  generalize hAe : va_A [(qt, .inr (5, [.ref qt_water, .ref qt_flakes, .ref qt_flying, .ref qt_leaks, .ref qt_cloudy, .ref qt_content, .ref qt_in, .int v_there, .int v_music, .int v_taxes, .int v_hour])), (qt_flying, .inl (cI, 8, .inl v_flying))] s.heap.size = A at hD ⊢
  have hA : ∀ q : Nat, s.heap.size ≤ q → A q := fun q h => by rw [← hAe]; exact Or.inr h
  have hS : va_S A s.heap s.heap [] := va_S.rf
  have hl := lv_entry ([.ref qt]) (n := 3) (Nat.le_of_ble_eq_true rfl)
  have hfr : entryFrame m args 3 = entryFrame m ([.ref qt] : List Value).toArray 3 := by rw [hav]
  rw [hfr, lg_entry_eq]
  generalize (lg_sl ([.ref qt]) ++ List.replicate (3 - (lg_sl ([.ref qt])).length) Slot.unset).toArray = ls at hl ⊢
  have hl : lv_has ls 3 [(0, .ref qt)] := hl
  obtain ⟨QQ, hQQ⟩ : ∃ QQ, QQ = MQ below (QI D A r [(qt, .inr (5, [.ref qt_water, .ref qt_flakes, .ref qt_flying, .ref qt_leaks, .ref qt_cloudy, .ref qt_content, .ref qt_in, .int v_there, .int v_music, .int v_taxes, .int v_hour])), (qt_flying, .inl (cI, 8, .inl v_flying))]) args s 0 0 A := ⟨_, rfl⟩
  show W p l e rm_X6_snowBits s m args below meth c s.heap [] 0 0 _ _
  rw [← hQQ]
  have hL4 : ∀ (n4 : Nat), ∀ (x1 : Int32) (x2 : Int32) (H : Heap) (locs : List Loc) (ls : Array Slot), va_P D vwCl [(qt, .inr (5, [.ref qt_water, .ref qt_flakes, .ref qt_flying, .ref qt_leaks, .ref qt_cloudy, .ref qt_content, .ref qt_in, .int v_there, .int v_music, .int v_taxes, .int v_hour])), (qt_flying, .inl (cI, 8, .inl v_flying))] H → va_D A [(qt, .inr (5, [.ref qt_water, .ref qt_flakes, .ref qt_flying, .ref qt_leaks, .ref qt_cloudy, .ref qt_content, .ref qt_in, .int v_there, .int v_music, .int v_taxes, .int v_hour])), (qt_flying, .inl (cI, 8, .inl v_flying))] → va_S A s.heap H locs → lv_has ls 3 [(0, .ref qt), (1, .int x1), (2, .int x2)] → L_X6_snowBits_4 v_flying v_there n4 x1 x2 = some r → W p l e rm_X6_snowBits s m args below meth c H locs 0 0 QQ (F0 m 4 ls []) := by
    intro n4
    induction n4 with
    | zero =>
      intro x1 x2 H locs ls hP hD hS hl h
      have h : none = some r := h
      cases h
    | succ n4 ih4 =>
      intro x1 x2 H locs ls hP hD hS hl h
      rw [L_X6_snowBits_4.eq_2] at h
      refine lv_iload_n hx hb dX6_snowBits_4 rfl (lv_at hl 2 rfl) ?_
      refine lv_bipush (v := 8) hx hb dX6_snowBits_5 (by decide) ?_
      refine lv_icmp_ge (tgt := 39) hx hb dX6_snowBits_7 (by decide) (fun hc => ?_) (fun hc => ?_)
      · have h := if_t hc h
        refine lv_iload_n hx hb dX6_snowBits_39 rfl (lv_at hl 1 rfl) ?_
        cases h
        rw [hQQ]
        exact gw_iret hx hb hr hlocks hP hD hS dX6_snowBits_40
      · have h := if_f hc h
        refine lv_aload_n hx hb dX6_snowBits_10 rfl (lv_at hl 0 rfl) ?_
        refine lv_iload_n hx hb dX6_snowBits_11 rfl (lv_at hl 2 rfl) ?_
        obtain ⟨r12, hc12, h⟩ := bd1_some h
        refine gw_ci (wr := [(qt_flying, .inl (cI, 8, .inl v_flying))]) (w2 := [(qt_flying, .inl (cI, 8, .inl v_flying)), (qt, .inr (5, [.ref qt_water, .ref qt_flakes, .ref qt_flying, .ref qt_leaks, .ref qt_cloudy, .ref qt_content, .ref qt_in, .int v_there, .int v_music, .int v_taxes, .int v_hour]))]) (gw_rV (n := 1) ⟨hx, hb, hml, hown, hts⟩ (C_X6_has l D cI cJ cZ H.size qt qt_water qt_flakes qt_flying qt_leaks qt_cloudy qt_content qt_in v_there v_music v_taxes v_hour x2 r12 hc12) gX6_snowBits_X6_has rfl rfl rfl hdV_X6_has ⟨Nat.le_of_ble_eq_true rfl, Nat.le_of_ble_eq_true rfl⟩ hE (hP.sub [0] rfl) (hD.sub [0] (by decide) rfl) 5 rfl 0 rfl rfl hl.1 (rest := []) rfl (Nat.le_of_ble_eq_true rfl) dX6_snowBits_12 ⟨Nat.zero_le _, Nat.zero_le _⟩) hP hD hS hA [0] [1] rfl rfl rfl (by decide) rfl (fun H locs hP hD hS => ?_)
        refine lv_if_eq (tgt := 33) hx hb dX6_snowBits_15 (by decide) (fun hc => ?_) (fun hc => ?_)
        · have h := if_t hc h
          refine lv_iinc (v := (x2 + (1 : Int32))) (lv' := [(2, .int (x2 + (1 : Int32))), (0, .ref qt), (1, .int x1)]) hx hb dX6_snowBits_33 hl (k := 2) rfl rfl (by decide) rfl (fun ls hl => ?_)
          refine lv_goto (tgt := 4) hx hb dX6_snowBits_36 (by decide) ?_
          exact ih4 x1 (x2 + (1 : Int32)) H locs ls (hP.sub [1, 0] rfl) (hD.sub [1, 0] (by decide) rfl) hS (lv_sub hl [1, 2, 0] rfl) h
        · have h := if_f hc h
          refine lv_aload_n hx hb dX6_snowBits_18 rfl (lv_at hl 0 rfl) ?_
          refine va_get (D := D) (ci := 5) (C := RX6) (T := TX6) (N := 11) hx hb hts (fun _ hw => (List.mem_cons_of_mem _ (List.mem_append_right _ hw))) hown hE.1 hP 1 rfl rfl 2 (by decide) (hts (.fieldLink RX6 18 "GlobeCrown$Shelf" "flying" "[I") (List.mem_cons_of_mem _ (List.mem_append_left _ (List.mem_of_getElem? (i := 0) rfl)))) (fun _ h9 => h9) rfl dX6_snowBits_19 ?_
          refine lv_iload_n hx hb dX6_snowBits_22 rfl (lv_at hl 2 rfl) ?_
          obtain ⟨hg, h⟩ := gin_some h
          refine va_iald hx hb hE.1 hP 0 0 rfl rfl hg dX6_snowBits_23 ?_
          refine lv_if_le (tgt := 33) hx hb dX6_snowBits_24 (by decide) (fun hc => ?_) (fun hc => ?_)
          · have h := if_t hc h
            refine lv_iinc (v := (x2 + (1 : Int32))) (lv' := [(2, .int (x2 + (1 : Int32))), (0, .ref qt), (1, .int x1)]) hx hb dX6_snowBits_33 hl (k := 2) rfl rfl (by decide) rfl (fun ls hl => ?_)
            refine lv_goto (tgt := 4) hx hb dX6_snowBits_36 (by decide) ?_
            exact ih4 x1 (x2 + (1 : Int32)) H locs ls (hP.sub [1, 0] rfl) (hD.sub [1, 0] (by decide) rfl) hS (lv_sub hl [1, 2, 0] rfl) h
          · have h := if_f hc h
            refine lv_iload_n hx hb dX6_snowBits_27 rfl (lv_at hl 1 rfl) ?_
            refine lv_iconst (v := 1) hx hb dX6_snowBits_28 (by decide) ?_
            refine lv_iload_n hx hb dX6_snowBits_29 rfl (lv_at hl 2 rfl) ?_
            refine lv_ishl hx hb dX6_snowBits_30 ?_
            refine lv_ior hx hb dX6_snowBits_31 ?_
            refine lv_istore_n (lv' := [(1, .int (x1 ||| ((1 : Int32) <<< (x2 &&& 31)))), (0, .ref qt), (2, .int x2)]) hx hb dX6_snowBits_32 rfl hl (by decide) rfl (fun ls hl => ?_)
            refine lv_iinc (v := (x2 + (1 : Int32))) (lv' := [(2, .int (x2 + (1 : Int32))), (1, .int (x1 ||| ((1 : Int32) <<< (x2 &&& 31)))), (0, .ref qt)]) hx hb dX6_snowBits_33 hl (k := 2) rfl rfl (by decide) rfl (fun ls hl => ?_)
            refine lv_goto (tgt := 4) hx hb dX6_snowBits_36 (by decide) ?_
            exact ih4 (x1 ||| ((1 : Int32) <<< (x2 &&& 31))) (x2 + (1 : Int32)) H locs ls (hP.sub [1, 0] rfl) (hD.sub [1, 0] (by decide) rfl) hS (lv_sub hl [2, 1, 0] rfl) h
  have h := hf
  unfold f_X6_snowBits at h
  refine gw_start hP hD hS (fun H locs hP hD hS => ?_)
  refine lv_iconst (v := 0) hx hb dX6_snowBits_0 (by decide) ?_
  refine lv_istore_n (lv' := [(1, .int (0 : Int32)), (0, .ref qt)]) hx hb dX6_snowBits_1 rfl hl (by decide) rfl (fun ls hl => ?_)
  refine lv_iconst (v := 0) hx hb dX6_snowBits_2 (by decide) ?_
  refine lv_istore_n (lv' := [(2, .int (0 : Int32)), (1, .int (0 : Int32)), (0, .ref qt)]) hx hb dX6_snowBits_3 rfl hl (by decide) rfl (fun ls hl => ?_)
  exact hL4 FU (0 : Int32) (0 : Int32) H locs ls hP hD hS (lv_sub hl [2, 1, 0] rfl) h
theorem hdV_X6_snowBits : yX6_snowBits.cls = RX6 ∧ yX6_snowBits.cls ≠ "java/lang/invoke/MethodHandle" ∧ yX6_snowBits.cls ≠ "java/lang/invoke/VarHandle" ∧ (parseMethodDescriptor yX6_snowBits.desc).map (fun d => d.parameters.length) = some 0 := by decide +kernel
def L_X6_visible_14 (v_flying : (Nat → Int32)) (v_cloudy : (Nat → Int32)) (v_in : (Nat → Int32)) (v_there : Int32) (p1 : Int32) : Nat → Int32 → Int32 → Option (Int32)
  | 0, _, _ => none
  | n + 1, x2, x3 => (if (8 : Int32) ≤ x3 then (gin p1 8 (some (jmax (0 : Int32) ((v_flying (Int32.toNatClampNeg p1)) - x2)))) else (bd1 (f_X6_isWithin v_in v_there p1 x3) (fun r23 => (if r23 = (0 : Int32) then ((L_X6_visible_14 v_flying v_cloudy v_in v_there p1 n) x2 (x3 + (1 : Int32))) else (gin x3 8 ((L_X6_visible_14 v_flying v_cloudy v_in v_there p1 n) (x2 + ((10 : Int32) * (v_cloudy (Int32.toNatClampNeg x3)))) (x3 + (1 : Int32))))))))
def f_X6_visible (v_flying : (Nat → Int32)) (v_cloudy : (Nat → Int32)) (v_in : (Nat → Int32)) (v_there : Int32) (p1 : Int32) : Option (Int32) := (bd1 (f_X6_has v_there p1) (fun r2 => (if r2 = (0 : Int32) then (some (0 : Int32)) else (L_X6_visible_14 v_flying v_cloudy v_in v_there p1 FU (0 : Int32) (0 : Int32)))))
abbrev rm_X6_visible : Room := { frames := 2, cells := 0, slots := 0, locals := 45 }
set_option maxHeartbeats 4000000 in
set_option maxRecDepth 100000 in
theorem C_X6_visible (l : Launch) (D : va_G) (cI cJ cZ : ClassId) (sz : Nat) (qt qt_water qt_flakes qt_flying qt_leaks qt_cloudy qt_content qt_in : Nat) (v_flying : (Nat → Int32)) (v_cloudy : (Nat → Int32)) (v_in : (Nat → Int32)) (v_there : Int32) (v_music : Int32) (v_taxes : Int32) (v_hour : Int32) (p1 : Int32) (r : Int32) (hf : f_X6_visible v_flying v_cloudy v_in v_there p1 = some r) : Met l yX6_visible wsX6_visible rm_X6_visible (PR D cI cJ cZ [(qt, .inr (5, [.ref qt_water, .ref qt_flakes, .ref qt_flying, .ref qt_leaks, .ref qt_cloudy, .ref qt_content, .ref qt_in, .int v_there, .int v_music, .int v_taxes, .int v_hour])), (qt_flying, .inl (cI, 8, .inl v_flying)), (qt_cloudy, .inl (cI, 8, .inl v_cloudy)), (qt_in, .inl (cI, 8, .inl v_in))] sz [.ref qt, .int p1]) (QI D (va_A [(qt, .inr (5, [.ref qt_water, .ref qt_flakes, .ref qt_flying, .ref qt_leaks, .ref qt_cloudy, .ref qt_content, .ref qt_in, .int v_there, .int v_music, .int v_taxes, .int v_hour])), (qt_flying, .inl (cI, 8, .inl v_flying)), (qt_cloudy, .inl (cI, 8, .inl v_cloudy)), (qt_in, .inl (cI, 8, .inl v_in))] sz) r [(qt, .inr (5, [.ref qt_water, .ref qt_flakes, .ref qt_flying, .ref qt_leaks, .ref qt_cloudy, .ref qt_content, .ref qt_in, .int v_there, .int v_music, .int v_taxes, .int v_hour])), (qt_flying, .inl (cI, 8, .inl v_flying)), (qt_cloudy, .inl (cI, 8, .inl v_cloudy)), (qt_in, .inl (cI, 8, .inl v_in))]) 0 0 (va_A [(qt, .inr (5, [.ref qt_water, .ref qt_flakes, .ref qt_flying, .ref qt_leaks, .ref qt_cloudy, .ref qt_content, .ref qt_in, .int v_there, .int v_music, .int v_taxes, .int v_hour])), (qt_flying, .inl (cI, 8, .inl v_flying)), (qt_cloudy, .inl (cI, 8, .inl v_cloudy)), (qt_in, .inl (cI, 8, .inl v_in))] sz) := by
  refine Met.ofW (cc := cX6_visible) (maxL := 4) (ret := (some .int)) (by decide) rfl ?_
  intro p e s m args below meth c s₁ B hml hv
  obtain ⟨hav, hsz, hP, hD0, hE⟩ := hv
  have hx := B.exec
  have hb := B.bytes
  have hr := B.returns
  have hts := atoms_spec (ws := wsX6_visible) B.pre
  have hown : s.vm.findClass RX6 = some m.cls := findClass_of_methodNamed B.named
  have hlocks := B.notSynchronized
  subst hsz
  have hD := hD0.self (sz := s.heap.size)
  generalize hAe : va_A [(qt, .inr (5, [.ref qt_water, .ref qt_flakes, .ref qt_flying, .ref qt_leaks, .ref qt_cloudy, .ref qt_content, .ref qt_in, .int v_there, .int v_music, .int v_taxes, .int v_hour])), (qt_flying, .inl (cI, 8, .inl v_flying)), (qt_cloudy, .inl (cI, 8, .inl v_cloudy)), (qt_in, .inl (cI, 8, .inl v_in))] s.heap.size = A at hD ⊢
  have hA : ∀ q : Nat, s.heap.size ≤ q → A q := fun q h => by rw [← hAe]; exact Or.inr h
  have hS : va_S A s.heap s.heap [] := va_S.rf
  have hl := lv_entry ([.ref qt, .int p1]) (n := 4) (Nat.le_of_ble_eq_true rfl)
  have hfr : entryFrame m args 4 = entryFrame m ([.ref qt, .int p1] : List Value).toArray 4 := by rw [hav]
  rw [hfr, lg_entry_eq]
  generalize (lg_sl ([.ref qt, .int p1]) ++ List.replicate (4 - (lg_sl ([.ref qt, .int p1])).length) Slot.unset).toArray = ls at hl ⊢
  have hl : lv_has ls 4 [(0, .ref qt), (1, .int p1)] := hl
  obtain ⟨QQ, hQQ⟩ : ∃ QQ, QQ = MQ below (QI D A r [(qt, .inr (5, [.ref qt_water, .ref qt_flakes, .ref qt_flying, .ref qt_leaks, .ref qt_cloudy, .ref qt_content, .ref qt_in, .int v_there, .int v_music, .int v_taxes, .int v_hour])), (qt_flying, .inl (cI, 8, .inl v_flying)), (qt_cloudy, .inl (cI, 8, .inl v_cloudy)), (qt_in, .inl (cI, 8, .inl v_in))]) args s 0 0 A := ⟨_, rfl⟩
  show W p l e rm_X6_visible s m args below meth c s.heap [] 0 0 _ _
  rw [← hQQ]
  have hL14 : ∀ (n14 : Nat), ∀ (x2 : Int32) (x3 : Int32) (H : Heap) (locs : List Loc) (ls : Array Slot), va_P D vwCl [(qt, .inr (5, [.ref qt_water, .ref qt_flakes, .ref qt_flying, .ref qt_leaks, .ref qt_cloudy, .ref qt_content, .ref qt_in, .int v_there, .int v_music, .int v_taxes, .int v_hour])), (qt_flying, .inl (cI, 8, .inl v_flying)), (qt_cloudy, .inl (cI, 8, .inl v_cloudy)), (qt_in, .inl (cI, 8, .inl v_in))] H → va_D A [(qt, .inr (5, [.ref qt_water, .ref qt_flakes, .ref qt_flying, .ref qt_leaks, .ref qt_cloudy, .ref qt_content, .ref qt_in, .int v_there, .int v_music, .int v_taxes, .int v_hour])), (qt_flying, .inl (cI, 8, .inl v_flying)), (qt_cloudy, .inl (cI, 8, .inl v_cloudy)), (qt_in, .inl (cI, 8, .inl v_in))] → va_S A s.heap H locs → lv_has ls 4 [(0, .ref qt), (1, .int p1), (2, .int x2), (3, .int x3)] → L_X6_visible_14 v_flying v_cloudy v_in v_there p1 n14 x2 x3 = some r → W p l e rm_X6_visible s m args below meth c H locs 0 0 QQ (F0 m 14 ls []) := by
    intro n14
    induction n14 with
    | zero =>
      intro x2 x3 H locs ls hP hD hS hl h
      have h : none = some r := h
      cases h
    | succ n14 ih14 =>
      intro x2 x3 H locs ls hP hD hS hl h
      rw [L_X6_visible_14.eq_2] at h
      refine lv_iload_n hx hb dX6_visible_14 rfl (lv_at hl 3 rfl) ?_
      refine lv_bipush (v := 8) hx hb dX6_visible_15 (by decide) ?_
      refine lv_icmp_ge (tgt := 47) hx hb dX6_visible_17 (by decide) (fun hc => ?_) (fun hc => ?_)
      · have h := if_t hc h
        refine lv_iconst (v := 0) hx hb dX6_visible_47 (by decide) ?_
        refine lv_aload_n hx hb dX6_visible_48 rfl (lv_at hl 0 rfl) ?_
        refine va_get (D := D) (ci := 5) (C := RX6) (T := TX6) (N := 11) hx hb hts (fun _ hw => (List.mem_cons_of_mem _ (List.mem_append_right _ hw))) hown hE.1 hP 0 rfl rfl 2 (by decide) (hts (.fieldLink RX6 18 "GlobeCrown$Shelf" "flying" "[I") (List.mem_cons_of_mem _ (List.mem_append_left _ (List.mem_of_getElem? (i := 1) rfl)))) (fun _ h9 => h9) rfl dX6_visible_49 ?_
        refine lv_iload_n hx hb dX6_visible_52 rfl (lv_at hl 1 rfl) ?_
        obtain ⟨hg, h⟩ := gin_some h
        refine va_iald hx hb hE.1 hP 1 0 rfl rfl hg dX6_visible_53 ?_
        refine lv_iload_n hx hb dX6_visible_54 rfl (lv_at hl 2 rfl) ?_
        refine lv_isub hx hb dX6_visible_55 ?_
        refine gw_max hx hb (hml.trans hl.1.symm) hown (hts (.methodLink RX6 83 Lib.Math.max.name) (List.mem_cons_of_mem _ (List.mem_append_left _ (List.mem_of_getElem? (i := 2) rfl)))) (hts (.static Lib.Math.max.name) (List.mem_cons_of_mem _ (List.mem_append_left _ (List.mem_of_getElem? (i := 3) rfl)))) (hts (.initialized "java/lang/Math") (List.mem_cons_of_mem _ (List.mem_append_left _ (List.mem_of_getElem? (i := 4) rfl)))) (hts (.code Lib.Math.max.name Lib.Math.max.code 2 (some .int)) (List.mem_cons_of_mem _ (List.mem_append_left _ (List.mem_of_getElem? (i := 5) rfl)))) (Nat.le_of_ble_eq_true rfl) (Nat.le_of_ble_eq_true rfl) (Nat.zero_le _) (Nat.zero_le _) dX6_visible_56 ?_
        cases h
        rw [hQQ]
        exact gw_iret hx hb hr hlocks hP hD hS dX6_visible_59
      · have h := if_f hc h
        refine lv_aload_n hx hb dX6_visible_20 rfl (lv_at hl 0 rfl) ?_
        refine lv_iload_n hx hb dX6_visible_21 rfl (lv_at hl 1 rfl) ?_
        refine lv_iload_n hx hb dX6_visible_22 rfl (lv_at hl 3 rfl) ?_
        obtain ⟨r23, hc23, h⟩ := bd1_some h
        refine gw_ci (wr := [(qt_flying, .inl (cI, 8, .inl v_flying)), (qt_cloudy, .inl (cI, 8, .inl v_cloudy))]) (w2 := [(qt_flying, .inl (cI, 8, .inl v_flying)), (qt_cloudy, .inl (cI, 8, .inl v_cloudy)), (qt, .inr (5, [.ref qt_water, .ref qt_flakes, .ref qt_flying, .ref qt_leaks, .ref qt_cloudy, .ref qt_content, .ref qt_in, .int v_there, .int v_music, .int v_taxes, .int v_hour])), (qt_in, .inl (cI, 8, .inl v_in))]) (gw_rV (n := 2) ⟨hx, hb, hml, hown, hts⟩ (C_X6_isWithin l D cI cJ cZ H.size qt qt_water qt_flakes qt_flying qt_leaks qt_cloudy qt_content qt_in v_in v_there v_music v_taxes v_hour p1 x3 r23 hc23) gX6_visible_X6_isWithin rfl rfl rfl hdV_X6_isWithin ⟨Nat.le_of_ble_eq_true rfl, Nat.le_of_ble_eq_true rfl⟩ hE (hP.sub [0, 3] rfl) (hD.sub [0, 3] (by decide) rfl) 5 rfl 0 rfl rfl hl.1 (rest := []) rfl (Nat.le_of_ble_eq_true rfl) dX6_visible_23 ⟨Nat.zero_le _, Nat.zero_le _⟩) hP hD hS hA [0, 3] [1, 2] rfl rfl rfl (by decide) rfl (fun H locs hP hD hS => ?_)
        refine lv_if_eq (tgt := 41) hx hb dX6_visible_26 (by decide) (fun hc => ?_) (fun hc => ?_)
        · have h := if_t hc h
          refine lv_iinc (v := (x3 + (1 : Int32))) (lv' := [(3, .int (x3 + (1 : Int32))), (0, .ref qt), (1, .int p1), (2, .int x2)]) hx hb dX6_visible_41 hl (k := 3) rfl rfl (by decide) rfl (fun ls hl => ?_)
          refine lv_goto (tgt := 14) hx hb dX6_visible_44 (by decide) ?_
          exact ih14 x2 (x3 + (1 : Int32)) H locs ls (hP.sub [2, 0, 1, 3] rfl) (hD.sub [2, 0, 1, 3] (by decide) rfl) hS (lv_sub hl [1, 2, 3, 0] rfl) h
        · have h := if_f hc h
          refine lv_iload_n hx hb dX6_visible_29 rfl (lv_at hl 2 rfl) ?_
          refine lv_bipush (v := 10) hx hb dX6_visible_30 (by decide) ?_
          refine lv_aload_n hx hb dX6_visible_32 rfl (lv_at hl 0 rfl) ?_
          refine va_get (D := D) (ci := 5) (C := RX6) (T := TX6) (N := 11) hx hb hts (fun _ hw => (List.mem_cons_of_mem _ (List.mem_append_right _ hw))) hown hE.1 hP 2 rfl rfl 4 (by decide) (hts (.fieldLink RX6 24 "GlobeCrown$Shelf" "cloudy" "[I") (List.mem_cons_of_mem _ (List.mem_append_left _ (List.mem_of_getElem? (i := 0) rfl)))) (fun _ h9 => h9) rfl dX6_visible_33 ?_
          refine lv_iload_n hx hb dX6_visible_36 rfl (lv_at hl 3 rfl) ?_
          obtain ⟨hg, h⟩ := gin_some h
          refine va_iald hx hb hE.1 hP 1 0 rfl rfl hg dX6_visible_37 ?_
          refine lv_imul hx hb dX6_visible_38 ?_
          refine lv_iadd hx hb dX6_visible_39 ?_
          refine lv_istore_n (lv' := [(2, .int (x2 + ((10 : Int32) * (v_cloudy (Int32.toNatClampNeg x3))))), (0, .ref qt), (1, .int p1), (3, .int x3)]) hx hb dX6_visible_40 rfl hl (by decide) rfl (fun ls hl => ?_)
          refine lv_iinc (v := (x3 + (1 : Int32))) (lv' := [(3, .int (x3 + (1 : Int32))), (2, .int (x2 + ((10 : Int32) * (v_cloudy (Int32.toNatClampNeg x3))))), (0, .ref qt), (1, .int p1)]) hx hb dX6_visible_41 hl (k := 3) rfl rfl (by decide) rfl (fun ls hl => ?_)
          refine lv_goto (tgt := 14) hx hb dX6_visible_44 (by decide) ?_
          exact ih14 (x2 + ((10 : Int32) * (v_cloudy (Int32.toNatClampNeg x3)))) (x3 + (1 : Int32)) H locs ls (hP.sub [2, 0, 1, 3] rfl) (hD.sub [2, 0, 1, 3] (by decide) rfl) hS (lv_sub hl [2, 3, 1, 0] rfl) h
  have h := hf
  unfold f_X6_visible at h
  refine gw_start hP hD hS (fun H locs hP hD hS => ?_)
  refine lv_aload_n hx hb dX6_visible_0 rfl (lv_at hl 0 rfl) ?_
  refine lv_iload_n hx hb dX6_visible_1 rfl (lv_at hl 1 rfl) ?_
  obtain ⟨r2, hc2, h⟩ := bd1_some h
  refine gw_ci (wr := [(qt_flying, .inl (cI, 8, .inl v_flying)), (qt_cloudy, .inl (cI, 8, .inl v_cloudy)), (qt_in, .inl (cI, 8, .inl v_in))]) (w2 := [(qt_flying, .inl (cI, 8, .inl v_flying)), (qt_cloudy, .inl (cI, 8, .inl v_cloudy)), (qt_in, .inl (cI, 8, .inl v_in)), (qt, .inr (5, [.ref qt_water, .ref qt_flakes, .ref qt_flying, .ref qt_leaks, .ref qt_cloudy, .ref qt_content, .ref qt_in, .int v_there, .int v_music, .int v_taxes, .int v_hour]))]) (gw_rV (n := 1) ⟨hx, hb, hml, hown, hts⟩ (C_X6_has l D cI cJ cZ H.size qt qt_water qt_flakes qt_flying qt_leaks qt_cloudy qt_content qt_in v_there v_music v_taxes v_hour p1 r2 hc2) gX6_visible_X6_has rfl rfl rfl hdV_X6_has ⟨Nat.le_of_ble_eq_true rfl, Nat.le_of_ble_eq_true rfl⟩ hE (hP.sub [0] rfl) (hD.sub [0] (by decide) rfl) 5 rfl 0 rfl rfl hl.1 (rest := []) rfl (Nat.le_of_ble_eq_true rfl) dX6_visible_2 ⟨Nat.zero_le _, Nat.zero_le _⟩) hP hD hS hA [0] [1, 2, 3] rfl rfl rfl (by decide) rfl (fun H locs hP hD hS => ?_)
  refine lv_if_ne (tgt := 10) hx hb dX6_visible_5 (by decide) (fun hc => ?_) (fun hc => ?_)
  · have h := if_f hc h
    refine lv_iconst (v := 0) hx hb dX6_visible_10 (by decide) ?_
    refine lv_istore_n (lv' := [(2, .int (0 : Int32)), (0, .ref qt), (1, .int p1)]) hx hb dX6_visible_11 rfl hl (by decide) rfl (fun ls hl => ?_)
    refine lv_iconst (v := 0) hx hb dX6_visible_12 (by decide) ?_
    refine lv_istore_n (lv' := [(3, .int (0 : Int32)), (2, .int (0 : Int32)), (0, .ref qt), (1, .int p1)]) hx hb dX6_visible_13 rfl hl (by decide) rfl (fun ls hl => ?_)
    exact hL14 FU (0 : Int32) (0 : Int32) H locs ls (hP.sub [3, 0, 1, 2] rfl) (hD.sub [3, 0, 1, 2] (by decide) rfl) hS (lv_sub hl [2, 3, 1, 0] rfl) h
  · have h := if_t hc h
    refine lv_iconst (v := 0) hx hb dX6_visible_8 (by decide) ?_
    cases h
    rw [hQQ]
    exact gw_iret hx hb hr hlocks (hP.sub [3, 0, 1, 2] rfl) (hD.sub [3, 0, 1, 2] (by decide) rfl) hS dX6_visible_9
theorem hdV_X6_visible : yX6_visible.cls = RX6 ∧ yX6_visible.cls ≠ "java/lang/invoke/MethodHandle" ∧ yX6_visible.cls ≠ "java/lang/invoke/VarHandle" ∧ (parseMethodDescriptor yX6_visible.desc).map (fun d => d.parameters.length) = some 1 := by decide +kernel
def f_J6_bitCount_0f7a4 (p0 : Int32) : Option (Int32) := (some ((((((((p0 - ((jushr p0 (1 : Int32)) &&& (1431655765 : Int32))) &&& (858993459 : Int32)) + ((jushr (p0 - ((jushr p0 (1 : Int32)) &&& (1431655765 : Int32))) (2 : Int32)) &&& (858993459 : Int32))) + (jushr (((p0 - ((jushr p0 (1 : Int32)) &&& (1431655765 : Int32))) &&& (858993459 : Int32)) + ((jushr (p0 - ((jushr p0 (1 : Int32)) &&& (1431655765 : Int32))) (2 : Int32)) &&& (858993459 : Int32))) (4 : Int32))) &&& (252645135 : Int32)) + (jushr (((((p0 - ((jushr p0 (1 : Int32)) &&& (1431655765 : Int32))) &&& (858993459 : Int32)) + ((jushr (p0 - ((jushr p0 (1 : Int32)) &&& (1431655765 : Int32))) (2 : Int32)) &&& (858993459 : Int32))) + (jushr (((p0 - ((jushr p0 (1 : Int32)) &&& (1431655765 : Int32))) &&& (858993459 : Int32)) + ((jushr (p0 - ((jushr p0 (1 : Int32)) &&& (1431655765 : Int32))) (2 : Int32)) &&& (858993459 : Int32))) (4 : Int32))) &&& (252645135 : Int32)) (8 : Int32))) + (jushr ((((((p0 - ((jushr p0 (1 : Int32)) &&& (1431655765 : Int32))) &&& (858993459 : Int32)) + ((jushr (p0 - ((jushr p0 (1 : Int32)) &&& (1431655765 : Int32))) (2 : Int32)) &&& (858993459 : Int32))) + (jushr (((p0 - ((jushr p0 (1 : Int32)) &&& (1431655765 : Int32))) &&& (858993459 : Int32)) + ((jushr (p0 - ((jushr p0 (1 : Int32)) &&& (1431655765 : Int32))) (2 : Int32)) &&& (858993459 : Int32))) (4 : Int32))) &&& (252645135 : Int32)) + (jushr (((((p0 - ((jushr p0 (1 : Int32)) &&& (1431655765 : Int32))) &&& (858993459 : Int32)) + ((jushr (p0 - ((jushr p0 (1 : Int32)) &&& (1431655765 : Int32))) (2 : Int32)) &&& (858993459 : Int32))) + (jushr (((p0 - ((jushr p0 (1 : Int32)) &&& (1431655765 : Int32))) &&& (858993459 : Int32)) + ((jushr (p0 - ((jushr p0 (1 : Int32)) &&& (1431655765 : Int32))) (2 : Int32)) &&& (858993459 : Int32))) (4 : Int32))) &&& (252645135 : Int32)) (8 : Int32))) (16 : Int32))) &&& (63 : Int32)))
abbrev rm_J6_bitCount_0f7a4 : Room := { frames := 0, cells := 0, slots := 0, locals := 0 }
set_option maxHeartbeats 4000000 in
set_option maxRecDepth 100000 in
theorem C_J6_bitCount_0f7a4 (l : Launch) (D : va_G) (cI cJ cZ : ClassId) (sz : Nat) (p0 : Int32) (r : Int32) (hf : f_J6_bitCount_0f7a4 p0 = some r) : Met l yJ6_bitCount_0f7a4 wsJ6_bitCount_0f7a4 rm_J6_bitCount_0f7a4 (PR D cI cJ cZ [] sz [.int p0]) (QI D (va_A [] sz) r []) 0 0 (va_A [] sz) := by
  refine Met.ofW (cc := cJ6_bitCount_0f7a4) (maxL := 1) (ret := (some .int)) (by decide) rfl ?_
  intro p e s m args below meth c s₁ B hml hv
  obtain ⟨hav, hsz, hP, hD0, hE⟩ := hv
  have hx := B.exec
  have hb := B.bytes
  have hr := B.returns
  have hts := atoms_spec (ws := wsJ6_bitCount_0f7a4) B.pre
  have hown : s.vm.findClass RJ6 = some m.cls := findClass_of_methodNamed B.named
  have hlocks := B.notSynchronized
  subst hsz
  have hD := hD0.self (sz := s.heap.size)
  generalize hAe : va_A [] s.heap.size = A at hD ⊢
  have hA : ∀ q : Nat, s.heap.size ≤ q → A q := fun q h => by rw [← hAe]; exact Or.inr h
  have hS : va_S A s.heap s.heap [] := va_S.rf
  have hl := lv_entry ([.int p0]) (n := 1) (Nat.le_of_ble_eq_true rfl)
  have hfr : entryFrame m args 1 = entryFrame m ([.int p0] : List Value).toArray 1 := by rw [hav]
  rw [hfr, lg_entry_eq]
  generalize (lg_sl ([.int p0]) ++ List.replicate (1 - (lg_sl ([.int p0])).length) Slot.unset).toArray = ls at hl ⊢
  have hl : lv_has ls 1 [(0, .int p0)] := hl
  obtain ⟨QQ, hQQ⟩ : ∃ QQ, QQ = MQ below (QI D A r []) args s 0 0 A := ⟨_, rfl⟩
  show W p l e rm_J6_bitCount_0f7a4 s m args below meth c s.heap [] 0 0 _ _
  rw [← hQQ]
  have h := hf
  unfold f_J6_bitCount_0f7a4 at h
  refine gw_start hP hD hS (fun H locs hP hD hS => ?_)
  refine lv_iload_n hx hb dJ6_bitCount_0f7a4_0 rfl (lv_at hl 0 rfl) ?_
  refine lv_iload_n hx hb dJ6_bitCount_0f7a4_1 rfl (lv_at hl 0 rfl) ?_
  refine lv_iconst (v := 1) hx hb dJ6_bitCount_0f7a4_2 (by decide) ?_
  refine lv_iushr (v := (jushr p0 (1 : Int32))) hx hb dJ6_bitCount_0f7a4_3 rfl ?_
  refine lv_ldcw hx hb hown (hts (.constant RJ6 265 (1431655765)) (List.mem_cons_of_mem _ (List.mem_of_getElem? (i := 0) rfl))) dJ6_bitCount_0f7a4_4 ?_
  refine lv_iand hx hb dJ6_bitCount_0f7a4_7 ?_
  refine lv_isub hx hb dJ6_bitCount_0f7a4_8 ?_
  refine lv_istore_n (lv' := [(0, .int (p0 - ((jushr p0 (1 : Int32)) &&& (1431655765 : Int32))))]) hx hb dJ6_bitCount_0f7a4_9 rfl hl (by decide) rfl (fun ls hl => ?_)
  refine lv_iload_n hx hb dJ6_bitCount_0f7a4_10 rfl (lv_at hl 0 rfl) ?_
  refine lv_ldcw hx hb hown (hts (.constant RJ6 266 (858993459)) (List.mem_cons_of_mem _ (List.mem_of_getElem? (i := 1) rfl))) dJ6_bitCount_0f7a4_11 ?_
  refine lv_iand hx hb dJ6_bitCount_0f7a4_14 ?_
  refine lv_iload_n hx hb dJ6_bitCount_0f7a4_15 rfl (lv_at hl 0 rfl) ?_
  refine lv_iconst (v := 2) hx hb dJ6_bitCount_0f7a4_16 (by decide) ?_
  refine lv_iushr (v := (jushr (p0 - ((jushr p0 (1 : Int32)) &&& (1431655765 : Int32))) (2 : Int32))) hx hb dJ6_bitCount_0f7a4_17 rfl ?_
  refine lv_ldcw hx hb hown (hts (.constant RJ6 266 (858993459)) (List.mem_cons_of_mem _ (List.mem_of_getElem? (i := 1) rfl))) dJ6_bitCount_0f7a4_18 ?_
  refine lv_iand hx hb dJ6_bitCount_0f7a4_21 ?_
  refine lv_iadd hx hb dJ6_bitCount_0f7a4_22 ?_
  refine lv_istore_n (lv' := [(0, .int (((p0 - ((jushr p0 (1 : Int32)) &&& (1431655765 : Int32))) &&& (858993459 : Int32)) + ((jushr (p0 - ((jushr p0 (1 : Int32)) &&& (1431655765 : Int32))) (2 : Int32)) &&& (858993459 : Int32))))]) hx hb dJ6_bitCount_0f7a4_23 rfl hl (by decide) rfl (fun ls hl => ?_)
  refine lv_iload_n hx hb dJ6_bitCount_0f7a4_24 rfl (lv_at hl 0 rfl) ?_
  refine lv_iload_n hx hb dJ6_bitCount_0f7a4_25 rfl (lv_at hl 0 rfl) ?_
  refine lv_iconst (v := 4) hx hb dJ6_bitCount_0f7a4_26 (by decide) ?_
  refine lv_iushr (v := (jushr (((p0 - ((jushr p0 (1 : Int32)) &&& (1431655765 : Int32))) &&& (858993459 : Int32)) + ((jushr (p0 - ((jushr p0 (1 : Int32)) &&& (1431655765 : Int32))) (2 : Int32)) &&& (858993459 : Int32))) (4 : Int32))) hx hb dJ6_bitCount_0f7a4_27 rfl ?_
  refine lv_iadd hx hb dJ6_bitCount_0f7a4_28 ?_
  refine lv_ldcw hx hb hown (hts (.constant RJ6 267 (252645135)) (List.mem_cons_of_mem _ (List.mem_of_getElem? (i := 2) rfl))) dJ6_bitCount_0f7a4_29 ?_
  refine lv_iand hx hb dJ6_bitCount_0f7a4_32 ?_
  refine lv_istore_n (lv' := [(0, .int (((((p0 - ((jushr p0 (1 : Int32)) &&& (1431655765 : Int32))) &&& (858993459 : Int32)) + ((jushr (p0 - ((jushr p0 (1 : Int32)) &&& (1431655765 : Int32))) (2 : Int32)) &&& (858993459 : Int32))) + (jushr (((p0 - ((jushr p0 (1 : Int32)) &&& (1431655765 : Int32))) &&& (858993459 : Int32)) + ((jushr (p0 - ((jushr p0 (1 : Int32)) &&& (1431655765 : Int32))) (2 : Int32)) &&& (858993459 : Int32))) (4 : Int32))) &&& (252645135 : Int32)))]) hx hb dJ6_bitCount_0f7a4_33 rfl hl (by decide) rfl (fun ls hl => ?_)
  refine lv_iload_n hx hb dJ6_bitCount_0f7a4_34 rfl (lv_at hl 0 rfl) ?_
  refine lv_iload_n hx hb dJ6_bitCount_0f7a4_35 rfl (lv_at hl 0 rfl) ?_
  refine lv_bipush (v := 8) hx hb dJ6_bitCount_0f7a4_36 (by decide) ?_
  refine lv_iushr (v := (jushr (((((p0 - ((jushr p0 (1 : Int32)) &&& (1431655765 : Int32))) &&& (858993459 : Int32)) + ((jushr (p0 - ((jushr p0 (1 : Int32)) &&& (1431655765 : Int32))) (2 : Int32)) &&& (858993459 : Int32))) + (jushr (((p0 - ((jushr p0 (1 : Int32)) &&& (1431655765 : Int32))) &&& (858993459 : Int32)) + ((jushr (p0 - ((jushr p0 (1 : Int32)) &&& (1431655765 : Int32))) (2 : Int32)) &&& (858993459 : Int32))) (4 : Int32))) &&& (252645135 : Int32)) (8 : Int32))) hx hb dJ6_bitCount_0f7a4_38 rfl ?_
  refine lv_iadd hx hb dJ6_bitCount_0f7a4_39 ?_
  refine lv_istore_n (lv' := [(0, .int ((((((p0 - ((jushr p0 (1 : Int32)) &&& (1431655765 : Int32))) &&& (858993459 : Int32)) + ((jushr (p0 - ((jushr p0 (1 : Int32)) &&& (1431655765 : Int32))) (2 : Int32)) &&& (858993459 : Int32))) + (jushr (((p0 - ((jushr p0 (1 : Int32)) &&& (1431655765 : Int32))) &&& (858993459 : Int32)) + ((jushr (p0 - ((jushr p0 (1 : Int32)) &&& (1431655765 : Int32))) (2 : Int32)) &&& (858993459 : Int32))) (4 : Int32))) &&& (252645135 : Int32)) + (jushr (((((p0 - ((jushr p0 (1 : Int32)) &&& (1431655765 : Int32))) &&& (858993459 : Int32)) + ((jushr (p0 - ((jushr p0 (1 : Int32)) &&& (1431655765 : Int32))) (2 : Int32)) &&& (858993459 : Int32))) + (jushr (((p0 - ((jushr p0 (1 : Int32)) &&& (1431655765 : Int32))) &&& (858993459 : Int32)) + ((jushr (p0 - ((jushr p0 (1 : Int32)) &&& (1431655765 : Int32))) (2 : Int32)) &&& (858993459 : Int32))) (4 : Int32))) &&& (252645135 : Int32)) (8 : Int32))))]) hx hb dJ6_bitCount_0f7a4_40 rfl hl (by decide) rfl (fun ls hl => ?_)
  refine lv_iload_n hx hb dJ6_bitCount_0f7a4_41 rfl (lv_at hl 0 rfl) ?_
  refine lv_iload_n hx hb dJ6_bitCount_0f7a4_42 rfl (lv_at hl 0 rfl) ?_
  refine lv_bipush (v := 16) hx hb dJ6_bitCount_0f7a4_43 (by decide) ?_
  refine lv_iushr (v := (jushr ((((((p0 - ((jushr p0 (1 : Int32)) &&& (1431655765 : Int32))) &&& (858993459 : Int32)) + ((jushr (p0 - ((jushr p0 (1 : Int32)) &&& (1431655765 : Int32))) (2 : Int32)) &&& (858993459 : Int32))) + (jushr (((p0 - ((jushr p0 (1 : Int32)) &&& (1431655765 : Int32))) &&& (858993459 : Int32)) + ((jushr (p0 - ((jushr p0 (1 : Int32)) &&& (1431655765 : Int32))) (2 : Int32)) &&& (858993459 : Int32))) (4 : Int32))) &&& (252645135 : Int32)) + (jushr (((((p0 - ((jushr p0 (1 : Int32)) &&& (1431655765 : Int32))) &&& (858993459 : Int32)) + ((jushr (p0 - ((jushr p0 (1 : Int32)) &&& (1431655765 : Int32))) (2 : Int32)) &&& (858993459 : Int32))) + (jushr (((p0 - ((jushr p0 (1 : Int32)) &&& (1431655765 : Int32))) &&& (858993459 : Int32)) + ((jushr (p0 - ((jushr p0 (1 : Int32)) &&& (1431655765 : Int32))) (2 : Int32)) &&& (858993459 : Int32))) (4 : Int32))) &&& (252645135 : Int32)) (8 : Int32))) (16 : Int32))) hx hb dJ6_bitCount_0f7a4_45 rfl ?_
  refine lv_iadd hx hb dJ6_bitCount_0f7a4_46 ?_
  refine lv_istore_n (lv' := [(0, .int (((((((p0 - ((jushr p0 (1 : Int32)) &&& (1431655765 : Int32))) &&& (858993459 : Int32)) + ((jushr (p0 - ((jushr p0 (1 : Int32)) &&& (1431655765 : Int32))) (2 : Int32)) &&& (858993459 : Int32))) + (jushr (((p0 - ((jushr p0 (1 : Int32)) &&& (1431655765 : Int32))) &&& (858993459 : Int32)) + ((jushr (p0 - ((jushr p0 (1 : Int32)) &&& (1431655765 : Int32))) (2 : Int32)) &&& (858993459 : Int32))) (4 : Int32))) &&& (252645135 : Int32)) + (jushr (((((p0 - ((jushr p0 (1 : Int32)) &&& (1431655765 : Int32))) &&& (858993459 : Int32)) + ((jushr (p0 - ((jushr p0 (1 : Int32)) &&& (1431655765 : Int32))) (2 : Int32)) &&& (858993459 : Int32))) + (jushr (((p0 - ((jushr p0 (1 : Int32)) &&& (1431655765 : Int32))) &&& (858993459 : Int32)) + ((jushr (p0 - ((jushr p0 (1 : Int32)) &&& (1431655765 : Int32))) (2 : Int32)) &&& (858993459 : Int32))) (4 : Int32))) &&& (252645135 : Int32)) (8 : Int32))) + (jushr ((((((p0 - ((jushr p0 (1 : Int32)) &&& (1431655765 : Int32))) &&& (858993459 : Int32)) + ((jushr (p0 - ((jushr p0 (1 : Int32)) &&& (1431655765 : Int32))) (2 : Int32)) &&& (858993459 : Int32))) + (jushr (((p0 - ((jushr p0 (1 : Int32)) &&& (1431655765 : Int32))) &&& (858993459 : Int32)) + ((jushr (p0 - ((jushr p0 (1 : Int32)) &&& (1431655765 : Int32))) (2 : Int32)) &&& (858993459 : Int32))) (4 : Int32))) &&& (252645135 : Int32)) + (jushr (((((p0 - ((jushr p0 (1 : Int32)) &&& (1431655765 : Int32))) &&& (858993459 : Int32)) + ((jushr (p0 - ((jushr p0 (1 : Int32)) &&& (1431655765 : Int32))) (2 : Int32)) &&& (858993459 : Int32))) + (jushr (((p0 - ((jushr p0 (1 : Int32)) &&& (1431655765 : Int32))) &&& (858993459 : Int32)) + ((jushr (p0 - ((jushr p0 (1 : Int32)) &&& (1431655765 : Int32))) (2 : Int32)) &&& (858993459 : Int32))) (4 : Int32))) &&& (252645135 : Int32)) (8 : Int32))) (16 : Int32))))]) hx hb dJ6_bitCount_0f7a4_47 rfl hl (by decide) rfl (fun ls hl => ?_)
  refine lv_iload_n hx hb dJ6_bitCount_0f7a4_48 rfl (lv_at hl 0 rfl) ?_
  refine lv_bipush (v := 63) hx hb dJ6_bitCount_0f7a4_49 (by decide) ?_
  refine lv_iand hx hb dJ6_bitCount_0f7a4_51 ?_
  cases h
  rw [hQQ]
  exact gw_iret hx hb hr hlocks hP hD hS dJ6_bitCount_0f7a4_52
theorem hdS_J6_bitCount_0f7a4 : yJ6_bitCount_0f7a4.cls ≠ "java/lang/invoke/MethodHandle" ∧ yJ6_bitCount_0f7a4.cls ≠ "java/lang/invoke/VarHandle" ∧ (parseMethodDescriptor yJ6_bitCount_0f7a4.desc).map (fun d => d.parameters.length) = some 1 := by decide +kernel
def f_X6_depth (v_in : (Nat → Int32)) (v_there : Int32) (p1 : Int32) : Option (Int32) := (bd1 (f_X6_bitsRound v_in v_there p1) (fun r2 => (bd1 (f_J6_bitCount_0f7a4 r2) (fun r5 => (some r5)))))
abbrev rm_X6_depth : Room := { frames := 3, cells := 0, slots := 0, locals := 68 }
set_option maxHeartbeats 4000000 in
set_option maxRecDepth 100000 in
theorem C_X6_depth (l : Launch) (D : va_G) (cI cJ cZ : ClassId) (sz : Nat) (qt qt_water qt_flakes qt_flying qt_leaks qt_cloudy qt_content qt_in : Nat) (v_in : (Nat → Int32)) (v_there : Int32) (v_music : Int32) (v_taxes : Int32) (v_hour : Int32) (p1 : Int32) (r : Int32) (hf : f_X6_depth v_in v_there p1 = some r) : Met l yX6_depth wsX6_depth rm_X6_depth (PR D cI cJ cZ [(qt, .inr (5, [.ref qt_water, .ref qt_flakes, .ref qt_flying, .ref qt_leaks, .ref qt_cloudy, .ref qt_content, .ref qt_in, .int v_there, .int v_music, .int v_taxes, .int v_hour])), (qt_in, .inl (cI, 8, .inl v_in))] sz [.ref qt, .int p1]) (QI D (va_A [(qt, .inr (5, [.ref qt_water, .ref qt_flakes, .ref qt_flying, .ref qt_leaks, .ref qt_cloudy, .ref qt_content, .ref qt_in, .int v_there, .int v_music, .int v_taxes, .int v_hour])), (qt_in, .inl (cI, 8, .inl v_in))] sz) r [(qt, .inr (5, [.ref qt_water, .ref qt_flakes, .ref qt_flying, .ref qt_leaks, .ref qt_cloudy, .ref qt_content, .ref qt_in, .int v_there, .int v_music, .int v_taxes, .int v_hour])), (qt_in, .inl (cI, 8, .inl v_in))]) 0 0 (va_A [(qt, .inr (5, [.ref qt_water, .ref qt_flakes, .ref qt_flying, .ref qt_leaks, .ref qt_cloudy, .ref qt_content, .ref qt_in, .int v_there, .int v_music, .int v_taxes, .int v_hour])), (qt_in, .inl (cI, 8, .inl v_in))] sz) := by
  refine Met.ofW (cc := cX6_depth) (maxL := 2) (ret := (some .int)) (by decide) rfl ?_
  intro p e s m args below meth c s₁ B hml hv
  obtain ⟨hav, hsz, hP, hD0, hE⟩ := hv
  have hx := B.exec
  have hb := B.bytes
  have hr := B.returns
  have hts := atoms_spec (ws := wsX6_depth) B.pre
  have hown : s.vm.findClass RX6 = some m.cls := findClass_of_methodNamed B.named
  have hlocks := B.notSynchronized
  subst hsz
  have hD := hD0.self (sz := s.heap.size)
  generalize hAe : va_A [(qt, .inr (5, [.ref qt_water, .ref qt_flakes, .ref qt_flying, .ref qt_leaks, .ref qt_cloudy, .ref qt_content, .ref qt_in, .int v_there, .int v_music, .int v_taxes, .int v_hour])), (qt_in, .inl (cI, 8, .inl v_in))] s.heap.size = A at hD ⊢
  have hA : ∀ q : Nat, s.heap.size ≤ q → A q := fun q h => by rw [← hAe]; exact Or.inr h
  have hS : va_S A s.heap s.heap [] := va_S.rf
  have hl := lv_entry ([.ref qt, .int p1]) (n := 2) (Nat.le_of_ble_eq_true rfl)
  have hfr : entryFrame m args 2 = entryFrame m ([.ref qt, .int p1] : List Value).toArray 2 := by rw [hav]
  rw [hfr, lg_entry_eq]
  generalize (lg_sl ([.ref qt, .int p1]) ++ List.replicate (2 - (lg_sl ([.ref qt, .int p1])).length) Slot.unset).toArray = ls at hl ⊢
  have hl : lv_has ls 2 [(0, .ref qt), (1, .int p1)] := hl
  obtain ⟨QQ, hQQ⟩ : ∃ QQ, QQ = MQ below (QI D A r [(qt, .inr (5, [.ref qt_water, .ref qt_flakes, .ref qt_flying, .ref qt_leaks, .ref qt_cloudy, .ref qt_content, .ref qt_in, .int v_there, .int v_music, .int v_taxes, .int v_hour])), (qt_in, .inl (cI, 8, .inl v_in))]) args s 0 0 A := ⟨_, rfl⟩
  show W p l e rm_X6_depth s m args below meth c s.heap [] 0 0 _ _
  rw [← hQQ]
  have h := hf
  unfold f_X6_depth at h
  refine gw_start hP hD hS (fun H locs hP hD hS => ?_)
  refine lv_aload_n hx hb dX6_depth_0 rfl (lv_at hl 0 rfl) ?_
  refine lv_iload_n hx hb dX6_depth_1 rfl (lv_at hl 1 rfl) ?_
  obtain ⟨r2, hc2, h⟩ := bd1_some h
  refine gw_ci (wr := []) (w2 := [(qt, .inr (5, [.ref qt_water, .ref qt_flakes, .ref qt_flying, .ref qt_leaks, .ref qt_cloudy, .ref qt_content, .ref qt_in, .int v_there, .int v_music, .int v_taxes, .int v_hour])), (qt_in, .inl (cI, 8, .inl v_in))]) (gw_rV (n := 1) ⟨hx, hb, hml, hown, hts⟩ (C_X6_bitsRound l D cI cJ cZ H.size qt qt_water qt_flakes qt_flying qt_leaks qt_cloudy qt_content qt_in v_in v_there v_music v_taxes v_hour p1 r2 hc2) gX6_depth_X6_bitsRound rfl rfl rfl hdV_X6_bitsRound ⟨Nat.le_of_ble_eq_true rfl, Nat.le_of_ble_eq_true rfl⟩ hE (hP.sub [0, 1] rfl) (hD.sub [0, 1] (by decide) rfl) 5 rfl 0 rfl rfl hl.1 (rest := []) rfl (Nat.le_of_ble_eq_true rfl) dX6_depth_2 ⟨Nat.zero_le _, Nat.zero_le _⟩) hP hD hS hA [0, 1] [] rfl rfl rfl (by decide) rfl (fun H locs hP hD hS => ?_)
  obtain ⟨r5, hc5, h⟩ := bd1_some h
  refine gw_ci (wr := [(qt, .inr (5, [.ref qt_water, .ref qt_flakes, .ref qt_flying, .ref qt_leaks, .ref qt_cloudy, .ref qt_content, .ref qt_in, .int v_there, .int v_music, .int v_taxes, .int v_hour])), (qt_in, .inl (cI, 8, .inl v_in))]) (w2 := [(qt, .inr (5, [.ref qt_water, .ref qt_flakes, .ref qt_flying, .ref qt_leaks, .ref qt_cloudy, .ref qt_content, .ref qt_in, .int v_there, .int v_music, .int v_taxes, .int v_hour])), (qt_in, .inl (cI, 8, .inl v_in))]) (gw_rS (n := 1) ⟨hx, hb, hml, hown, hts⟩ (C_J6_bitCount_0f7a4 l D cI cJ cZ H.size r2 r5 hc5) gX6_depth_J6_bitCount_0f7a4 rfl rfl rfl hdS_J6_bitCount_0f7a4 ⟨Nat.le_of_ble_eq_true rfl, Nat.le_of_ble_eq_true rfl⟩ hE (hP.sub [] rfl) (hD.sub [] (by decide) rfl) rfl hl.1 (rest := []) rfl (Nat.le_of_ble_eq_true rfl) dX6_depth_5 ⟨Nat.zero_le _, Nat.zero_le _⟩) hP hD hS hA [] [0, 1] rfl rfl rfl (by decide) rfl (fun H locs hP hD hS => ?_)
  cases h
  rw [hQQ]
  exact gw_iret hx hb hr hlocks hP hD hS dX6_depth_8
theorem hdV_X6_depth : yX6_depth.cls = RX6 ∧ yX6_depth.cls ≠ "java/lang/invoke/MethodHandle" ∧ yX6_depth.cls ≠ "java/lang/invoke/VarHandle" ∧ (parseMethodDescriptor yX6_depth.desc).map (fun d => d.parameters.length) = some 1 := by decide +kernel
def L_X6_shakenFor_31 (v_water : (Nat → Int32)) (v_in : (Nat → Int32)) (v_there : Int32) (p1 : Int32) : Nat → Int32 → Int32 → Int32 → Int32 → Option (Int32)
  | 0, _, _, _, _ => none
  | n + 1, x2, x3, x4, x5 => (if (8 : Int32) ≤ x5 then (if (x4 &&& x2) = p1 then (some x3) else (some (-6 : Int32))) else (if ((p1 >>> (x5 &&& 31)) &&& (1 : Int32)) = (1 : Int32) then (bd1 (f_X6_bitsRound v_in v_there x5) (fun r51 => (if (r51 &&& p1) = (0 : Int32) then (bd1 (f_X6_bitsWithin v_in v_there x5) (fun r71 => ((L_X6_shakenFor_31 v_water v_in v_there p1 n) x2 (x3 ||| ((1 : Int32) <<< (x5 &&& 31))) (x4 ||| r71) (x5 + (1 : Int32))))) else ((L_X6_shakenFor_31 v_water v_in v_there p1 n) x2 x3 x4 (x5 + (1 : Int32)))))) else ((L_X6_shakenFor_31 v_water v_in v_there p1 n) x2 x3 x4 (x5 + (1 : Int32)))))
def f_X6_shakenFor (v_water : (Nat → Int32)) (v_in : (Nat → Int32)) (v_there : Int32) (p1 : Int32) : Option (Int32) := (bd1 (f_X6_freeBits v_water v_there) (fun r5 => (if (p1 &&& ((v_there &&& (r5 ^^^ (-1 : Int32))) ^^^ (-1 : Int32))) = (0 : Int32) then (L_X6_shakenFor_31 v_water v_in v_there p1 FU (v_there &&& (r5 ^^^ (-1 : Int32))) (0 : Int32) (0 : Int32) (0 : Int32)) else (some (-6 : Int32)))))
abbrev rm_X6_shakenFor : Room := { frames := 3, cells := 0, slots := 0, locals := 68 }
set_option maxHeartbeats 4000000 in
set_option maxRecDepth 100000 in
theorem C_X6_shakenFor (l : Launch) (D : va_G) (cI cJ cZ : ClassId) (sz : Nat) (qt qt_water qt_flakes qt_flying qt_leaks qt_cloudy qt_content qt_in : Nat) (v_water : (Nat → Int32)) (v_in : (Nat → Int32)) (v_there : Int32) (v_music : Int32) (v_taxes : Int32) (v_hour : Int32) (p1 : Int32) (r : Int32) (hf : f_X6_shakenFor v_water v_in v_there p1 = some r) : Met l yX6_shakenFor wsX6_shakenFor rm_X6_shakenFor (PR D cI cJ cZ [(qt, .inr (5, [.ref qt_water, .ref qt_flakes, .ref qt_flying, .ref qt_leaks, .ref qt_cloudy, .ref qt_content, .ref qt_in, .int v_there, .int v_music, .int v_taxes, .int v_hour])), (qt_water, .inl (cI, 8, .inl v_water)), (qt_in, .inl (cI, 8, .inl v_in))] sz [.ref qt, .int p1]) (QI D (va_A [(qt, .inr (5, [.ref qt_water, .ref qt_flakes, .ref qt_flying, .ref qt_leaks, .ref qt_cloudy, .ref qt_content, .ref qt_in, .int v_there, .int v_music, .int v_taxes, .int v_hour])), (qt_water, .inl (cI, 8, .inl v_water)), (qt_in, .inl (cI, 8, .inl v_in))] sz) r [(qt, .inr (5, [.ref qt_water, .ref qt_flakes, .ref qt_flying, .ref qt_leaks, .ref qt_cloudy, .ref qt_content, .ref qt_in, .int v_there, .int v_music, .int v_taxes, .int v_hour])), (qt_water, .inl (cI, 8, .inl v_water)), (qt_in, .inl (cI, 8, .inl v_in))]) 0 0 (va_A [(qt, .inr (5, [.ref qt_water, .ref qt_flakes, .ref qt_flying, .ref qt_leaks, .ref qt_cloudy, .ref qt_content, .ref qt_in, .int v_there, .int v_music, .int v_taxes, .int v_hour])), (qt_water, .inl (cI, 8, .inl v_water)), (qt_in, .inl (cI, 8, .inl v_in))] sz) := by
  refine Met.ofW (cc := cX6_shakenFor) (maxL := 6) (ret := (some .int)) (by decide) rfl ?_
  intro p e s m args below meth c s₁ B hml hv
  obtain ⟨hav, hsz, hP, hD0, hE⟩ := hv
  have hx := B.exec
  have hb := B.bytes
  have hr := B.returns
  have hts := atoms_spec (ws := wsX6_shakenFor) B.pre
  have hown : s.vm.findClass RX6 = some m.cls := findClass_of_methodNamed B.named
  have hlocks := B.notSynchronized
  subst hsz
  have hD := hD0.self (sz := s.heap.size)
  generalize hAe : va_A [(qt, .inr (5, [.ref qt_water, .ref qt_flakes, .ref qt_flying, .ref qt_leaks, .ref qt_cloudy, .ref qt_content, .ref qt_in, .int v_there, .int v_music, .int v_taxes, .int v_hour])), (qt_water, .inl (cI, 8, .inl v_water)), (qt_in, .inl (cI, 8, .inl v_in))] s.heap.size = A at hD ⊢
  have hA : ∀ q : Nat, s.heap.size ≤ q → A q := fun q h => by rw [← hAe]; exact Or.inr h
  have hS : va_S A s.heap s.heap [] := va_S.rf
  have hl := lv_entry ([.ref qt, .int p1]) (n := 6) (Nat.le_of_ble_eq_true rfl)
  have hfr : entryFrame m args 6 = entryFrame m ([.ref qt, .int p1] : List Value).toArray 6 := by rw [hav]
  rw [hfr, lg_entry_eq]
  generalize (lg_sl ([.ref qt, .int p1]) ++ List.replicate (6 - (lg_sl ([.ref qt, .int p1])).length) Slot.unset).toArray = ls at hl ⊢
  have hl : lv_has ls 6 [(0, .ref qt), (1, .int p1)] := hl
  obtain ⟨QQ, hQQ⟩ : ∃ QQ, QQ = MQ below (QI D A r [(qt, .inr (5, [.ref qt_water, .ref qt_flakes, .ref qt_flying, .ref qt_leaks, .ref qt_cloudy, .ref qt_content, .ref qt_in, .int v_there, .int v_music, .int v_taxes, .int v_hour])), (qt_water, .inl (cI, 8, .inl v_water)), (qt_in, .inl (cI, 8, .inl v_in))]) args s 0 0 A := ⟨_, rfl⟩
  show W p l e rm_X6_shakenFor s m args below meth c s.heap [] 0 0 _ _
  rw [← hQQ]
  have hL31 : ∀ (n31 : Nat), ∀ (x2 : Int32) (x3 : Int32) (x4 : Int32) (x5 : Int32) (H : Heap) (locs : List Loc) (ls : Array Slot), va_P D vwCl [(qt, .inr (5, [.ref qt_water, .ref qt_flakes, .ref qt_flying, .ref qt_leaks, .ref qt_cloudy, .ref qt_content, .ref qt_in, .int v_there, .int v_music, .int v_taxes, .int v_hour])), (qt_water, .inl (cI, 8, .inl v_water)), (qt_in, .inl (cI, 8, .inl v_in))] H → va_D A [(qt, .inr (5, [.ref qt_water, .ref qt_flakes, .ref qt_flying, .ref qt_leaks, .ref qt_cloudy, .ref qt_content, .ref qt_in, .int v_there, .int v_music, .int v_taxes, .int v_hour])), (qt_water, .inl (cI, 8, .inl v_water)), (qt_in, .inl (cI, 8, .inl v_in))] → va_S A s.heap H locs → lv_has ls 6 [(0, .ref qt), (1, .int p1), (2, .int x2), (3, .int x3), (4, .int x4), (5, .int x5)] → L_X6_shakenFor_31 v_water v_in v_there p1 n31 x2 x3 x4 x5 = some r → W p l e rm_X6_shakenFor s m args below meth c H locs 0 0 QQ (F0 m 31 ls []) := by
    intro n31
    induction n31 with
    | zero =>
      intro x2 x3 x4 x5 H locs ls hP hD hS hl h
      have h : none = some r := h
      cases h
    | succ n31 ih31 =>
      intro x2 x3 x4 x5 H locs ls hP hD hS hl h
      rw [L_X6_shakenFor_31.eq_2] at h
      refine lv_iload hx hb dX6_shakenFor_31 (lv_at hl 5 rfl) ?_
      refine lv_bipush (v := 8) hx hb dX6_shakenFor_33 (by decide) ?_
      refine lv_icmp_ge (tgt := 83) hx hb dX6_shakenFor_35 (by decide) (fun hc => ?_) (fun hc => ?_)
      · have h := if_t hc h
        refine lv_iload hx hb dX6_shakenFor_83 (lv_at hl 4 rfl) ?_
        refine lv_iload_n hx hb dX6_shakenFor_85 rfl (lv_at hl 2 rfl) ?_
        refine lv_iand hx hb dX6_shakenFor_86 ?_
        refine lv_iload_n hx hb dX6_shakenFor_87 rfl (lv_at hl 1 rfl) ?_
        refine lv_icmp_ne (tgt := 95) hx hb dX6_shakenFor_88 (by decide) (fun hc => ?_) (fun hc => ?_)
        · have h := if_f hc h
          refine lv_bipush (v := -6) hx hb dX6_shakenFor_95 (by decide) ?_
          cases h
          rw [hQQ]
          exact gw_iret hx hb hr hlocks hP hD hS dX6_shakenFor_97
        · have h := if_t hc h
          refine lv_iload_n hx hb dX6_shakenFor_91 rfl (lv_at hl 3 rfl) ?_
          refine lv_goto (tgt := 97) hx hb dX6_shakenFor_92 (by decide) ?_
          cases h
          rw [hQQ]
          exact gw_iret hx hb hr hlocks hP hD hS dX6_shakenFor_97
      · have h := if_f hc h
        refine lv_iload_n hx hb dX6_shakenFor_38 rfl (lv_at hl 1 rfl) ?_
        refine lv_iload hx hb dX6_shakenFor_39 (lv_at hl 5 rfl) ?_
        refine lv_ishr hx hb dX6_shakenFor_41 ?_
        refine lv_iconst (v := 1) hx hb dX6_shakenFor_42 (by decide) ?_
        refine lv_iand hx hb dX6_shakenFor_43 ?_
        refine lv_iconst (v := 1) hx hb dX6_shakenFor_44 (by decide) ?_
        refine lv_icmp_ne (tgt := 77) hx hb dX6_shakenFor_45 (by decide) (fun hc => ?_) (fun hc => ?_)
        · have h := if_f hc h
          refine lv_iinc (v := (x5 + (1 : Int32))) (lv' := [(5, .int (x5 + (1 : Int32))), (0, .ref qt), (1, .int p1), (2, .int x2), (3, .int x3), (4, .int x4)]) hx hb dX6_shakenFor_77 hl (k := 5) rfl rfl (by decide) rfl (fun ls hl => ?_)
          refine lv_goto (tgt := 31) hx hb dX6_shakenFor_80 (by decide) ?_
          exact ih31 x2 x3 x4 (x5 + (1 : Int32)) H locs ls hP hD hS (lv_sub hl [1, 2, 3, 4, 5, 0] rfl) h
        · have h := if_t hc h
          refine lv_aload_n hx hb dX6_shakenFor_48 rfl (lv_at hl 0 rfl) ?_
          refine lv_iload hx hb dX6_shakenFor_49 (lv_at hl 5 rfl) ?_
          obtain ⟨r51, hc51, h⟩ := bd1_some h
          refine gw_ci (wr := [(qt_water, .inl (cI, 8, .inl v_water))]) (w2 := [(qt_water, .inl (cI, 8, .inl v_water)), (qt, .inr (5, [.ref qt_water, .ref qt_flakes, .ref qt_flying, .ref qt_leaks, .ref qt_cloudy, .ref qt_content, .ref qt_in, .int v_there, .int v_music, .int v_taxes, .int v_hour])), (qt_in, .inl (cI, 8, .inl v_in))]) (gw_rV (n := 1) ⟨hx, hb, hml, hown, hts⟩ (C_X6_bitsRound l D cI cJ cZ H.size qt qt_water qt_flakes qt_flying qt_leaks qt_cloudy qt_content qt_in v_in v_there v_music v_taxes v_hour x5 r51 hc51) gX6_shakenFor_X6_bitsRound rfl rfl rfl hdV_X6_bitsRound ⟨Nat.le_of_ble_eq_true rfl, Nat.le_of_ble_eq_true rfl⟩ hE (hP.sub [0, 2] rfl) (hD.sub [0, 2] (by decide) rfl) 5 rfl 0 rfl rfl hl.1 (rest := []) rfl (Nat.le_of_ble_eq_true rfl) dX6_shakenFor_51 ⟨Nat.zero_le _, Nat.zero_le _⟩) hP hD hS hA [0, 2] [1] rfl rfl rfl (by decide) rfl (fun H locs hP hD hS => ?_)
          refine lv_iload_n hx hb dX6_shakenFor_54 rfl (lv_at hl 1 rfl) ?_
          refine lv_iand hx hb dX6_shakenFor_55 ?_
          refine lv_if_ne (tgt := 77) hx hb dX6_shakenFor_56 (by decide) (fun hc => ?_) (fun hc => ?_)
          · have h := if_f hc h
            refine lv_iinc (v := (x5 + (1 : Int32))) (lv' := [(5, .int (x5 + (1 : Int32))), (0, .ref qt), (1, .int p1), (2, .int x2), (3, .int x3), (4, .int x4)]) hx hb dX6_shakenFor_77 hl (k := 5) rfl rfl (by decide) rfl (fun ls hl => ?_)
            refine lv_goto (tgt := 31) hx hb dX6_shakenFor_80 (by decide) ?_
            exact ih31 x2 x3 x4 (x5 + (1 : Int32)) H locs ls (hP.sub [1, 0, 2] rfl) (hD.sub [1, 0, 2] (by decide) rfl) hS (lv_sub hl [1, 2, 3, 4, 5, 0] rfl) h
          · have h := if_t hc h
            refine lv_iload_n hx hb dX6_shakenFor_59 rfl (lv_at hl 3 rfl) ?_
            refine lv_iconst (v := 1) hx hb dX6_shakenFor_60 (by decide) ?_
            refine lv_iload hx hb dX6_shakenFor_61 (lv_at hl 5 rfl) ?_
            refine lv_ishl hx hb dX6_shakenFor_63 ?_
            refine lv_ior hx hb dX6_shakenFor_64 ?_
            refine lv_istore_n (lv' := [(3, .int (x3 ||| ((1 : Int32) <<< (x5 &&& 31)))), (0, .ref qt), (1, .int p1), (2, .int x2), (4, .int x4), (5, .int x5)]) hx hb dX6_shakenFor_65 rfl hl (by decide) rfl (fun ls hl => ?_)
            refine lv_iload hx hb dX6_shakenFor_66 (lv_at hl 4 rfl) ?_
            refine lv_aload_n hx hb dX6_shakenFor_68 rfl (lv_at hl 1 rfl) ?_
            refine lv_iload hx hb dX6_shakenFor_69 (lv_at hl 5 rfl) ?_
            obtain ⟨r71, hc71, h⟩ := bd1_some h
            refine gw_ci (wr := [(qt_water, .inl (cI, 8, .inl v_water))]) (w2 := [(qt_water, .inl (cI, 8, .inl v_water)), (qt, .inr (5, [.ref qt_water, .ref qt_flakes, .ref qt_flying, .ref qt_leaks, .ref qt_cloudy, .ref qt_content, .ref qt_in, .int v_there, .int v_music, .int v_taxes, .int v_hour])), (qt_in, .inl (cI, 8, .inl v_in))]) (gw_rV (n := 1) ⟨hx, hb, hml, hown, hts⟩ (C_X6_bitsWithin l D cI cJ cZ H.size qt qt_water qt_flakes qt_flying qt_leaks qt_cloudy qt_content qt_in v_in v_there v_music v_taxes v_hour x5 r71 hc71) gX6_shakenFor_X6_bitsWithin rfl rfl rfl hdV_X6_bitsWithin ⟨Nat.le_of_ble_eq_true rfl, Nat.le_of_ble_eq_true rfl⟩ hE (hP.sub [1, 2] rfl) (hD.sub [1, 2] (by decide) rfl) 5 rfl 0 rfl rfl hl.1 (rest := [.int x4]) rfl (Nat.le_of_ble_eq_true rfl) dX6_shakenFor_71 ⟨Nat.zero_le _, Nat.zero_le _⟩) hP hD hS hA [1, 2] [0] rfl rfl rfl (by decide) rfl (fun H locs hP hD hS => ?_)
            refine lv_ior hx hb dX6_shakenFor_74 ?_
            refine lv_istore (lv' := [(4, .int (x4 ||| r71)), (3, .int (x3 ||| ((1 : Int32) <<< (x5 &&& 31)))), (0, .ref qt), (1, .int p1), (2, .int x2), (5, .int x5)]) hx hb dX6_shakenFor_75 hl (by decide) rfl (fun ls hl => ?_)
            refine lv_iinc (v := (x5 + (1 : Int32))) (lv' := [(5, .int (x5 + (1 : Int32))), (4, .int (x4 ||| r71)), (3, .int (x3 ||| ((1 : Int32) <<< (x5 &&& 31)))), (0, .ref qt), (1, .int p1), (2, .int x2)]) hx hb dX6_shakenFor_77 hl (k := 5) rfl rfl (by decide) rfl (fun ls hl => ?_)
            refine lv_goto (tgt := 31) hx hb dX6_shakenFor_80 (by decide) ?_
            exact ih31 x2 (x3 ||| ((1 : Int32) <<< (x5 &&& 31))) (x4 ||| r71) (x5 + (1 : Int32)) H locs ls (hP.sub [1, 0, 2] rfl) (hD.sub [1, 0, 2] (by decide) rfl) hS (lv_sub hl [3, 4, 5, 2, 1, 0] rfl) h
  have h := hf
  unfold f_X6_shakenFor at h
  refine gw_start hP hD hS (fun H locs hP hD hS => ?_)
  refine lv_aload_n hx hb dX6_shakenFor_0 rfl (lv_at hl 0 rfl) ?_
  refine va_get (D := D) (ci := 5) (C := RX6) (T := TX6) (N := 11) hx hb hts (fun _ hw => (List.mem_cons_of_mem _ (List.mem_append_right _ hw))) hown hE.1 hP 0 rfl rfl 7 (by decide) (hts (.fieldLink RX6 39 "GlobeCrown$Shelf" "there" "I") (List.mem_cons_of_mem _ (List.mem_append_left _ (List.mem_append_left _ (List.mem_of_getElem? (i := 0) rfl))))) (fun _ h9 => h9) rfl dX6_shakenFor_1 ?_
  refine lv_aload_n hx hb dX6_shakenFor_4 rfl (lv_at hl 0 rfl) ?_
  obtain ⟨r5, hc5, h⟩ := bd1_some h
  refine gw_ci (wr := [(qt_in, .inl (cI, 8, .inl v_in))]) (w2 := [(qt_in, .inl (cI, 8, .inl v_in)), (qt, .inr (5, [.ref qt_water, .ref qt_flakes, .ref qt_flying, .ref qt_leaks, .ref qt_cloudy, .ref qt_content, .ref qt_in, .int v_there, .int v_music, .int v_taxes, .int v_hour])), (qt_water, .inl (cI, 8, .inl v_water))]) (gw_rV (n := 0) ⟨hx, hb, hml, hown, hts⟩ (C_X6_freeBits l D cI cJ cZ H.size qt qt_water qt_flakes qt_flying qt_leaks qt_cloudy qt_content qt_in v_water v_there v_music v_taxes v_hour r5 hc5) gX6_shakenFor_X6_freeBits rfl rfl rfl hdV_X6_freeBits ⟨Nat.le_of_ble_eq_true rfl, Nat.le_of_ble_eq_true rfl⟩ hE (hP.sub [0, 1] rfl) (hD.sub [0, 1] (by decide) rfl) 5 rfl 0 rfl rfl hl.1 (rest := [.int v_there]) rfl (Nat.le_of_ble_eq_true rfl) dX6_shakenFor_5 ⟨Nat.zero_le _, Nat.zero_le _⟩) hP hD hS hA [0, 1] [2] rfl rfl rfl (by decide) rfl (fun H locs hP hD hS => ?_)
  refine lv_iconst (v := -1) hx hb dX6_shakenFor_8 (by decide) ?_
  refine lv_ixor hx hb dX6_shakenFor_9 ?_
  refine lv_iand hx hb dX6_shakenFor_10 ?_
  refine lv_istore_n (lv' := [(2, .int (v_there &&& (r5 ^^^ (-1 : Int32)))), (0, .ref qt), (1, .int p1)]) hx hb dX6_shakenFor_11 rfl hl (by decide) rfl (fun ls hl => ?_)
  refine lv_iload_n hx hb dX6_shakenFor_12 rfl (lv_at hl 2 rfl) ?_
  refine lv_iload_n hx hb dX6_shakenFor_13 rfl (lv_at hl 0 rfl) ?_
  refine lv_iconst (v := -1) hx hb dX6_shakenFor_14 (by decide) ?_
  refine lv_ixor hx hb dX6_shakenFor_15 ?_
  refine lv_iand hx hb dX6_shakenFor_16 ?_
  refine lv_if_eq (tgt := 23) hx hb dX6_shakenFor_17 (by decide) (fun hc => ?_) (fun hc => ?_)
  · have h := if_t hc h
    refine lv_iconst (v := 0) hx hb dX6_shakenFor_23 (by decide) ?_
    refine lv_istore_n (lv' := [(3, .int (0 : Int32)), (2, .int (v_there &&& (r5 ^^^ (-1 : Int32)))), (0, .ref qt), (1, .int p1)]) hx hb dX6_shakenFor_24 rfl hl (by decide) rfl (fun ls hl => ?_)
    refine lv_iconst (v := 0) hx hb dX6_shakenFor_25 (by decide) ?_
    refine lv_istore (lv' := [(4, .int (0 : Int32)), (3, .int (0 : Int32)), (2, .int (v_there &&& (r5 ^^^ (-1 : Int32)))), (0, .ref qt), (1, .int p1)]) hx hb dX6_shakenFor_26 hl (by decide) rfl (fun ls hl => ?_)
    refine lv_iconst (v := 0) hx hb dX6_shakenFor_28 (by decide) ?_
    refine lv_istore (lv' := [(5, .int (0 : Int32)), (4, .int (0 : Int32)), (3, .int (0 : Int32)), (2, .int (v_there &&& (r5 ^^^ (-1 : Int32)))), (0, .ref qt), (1, .int p1)]) hx hb dX6_shakenFor_29 hl (by decide) rfl (fun ls hl => ?_)
    exact hL31 FU (v_there &&& (r5 ^^^ (-1 : Int32))) (0 : Int32) (0 : Int32) (0 : Int32) H locs ls (hP.sub [1, 2, 0] rfl) (hD.sub [1, 2, 0] (by decide) rfl) hS (lv_sub hl [4, 5, 3, 2, 1, 0] rfl) h
  · have h := if_f hc h
    refine lv_bipush (v := -6) hx hb dX6_shakenFor_20 (by decide) ?_
    cases h
    rw [hQQ]
    exact gw_iret hx hb hr hlocks (hP.sub [1, 2, 0] rfl) (hD.sub [1, 2, 0] (by decide) rfl) hS dX6_shakenFor_22
theorem hdV_X6_shakenFor : yX6_shakenFor.cls = RX6 ∧ yX6_shakenFor.cls ≠ "java/lang/invoke/MethodHandle" ∧ yX6_shakenFor.cls ≠ "java/lang/invoke/VarHandle" ∧ (parseMethodDescriptor yX6_shakenFor.desc).map (fun d => d.parameters.length) = some 1 := by decide +kernel
