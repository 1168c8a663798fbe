def B_X6_fillingsOf_47 (v_water : (Nat → Int32)) (v_leaks : (Nat → Int32)) (v_there : Int32) (p1 : Int32) (p2 : Int32) (rec23 : Int32 → Int32 → Int32 → Option (Int32)) (x3 : Int32) (x4 : Int32) (x5 : Int32) : Option (Int32) := (gin p1 8 (rec23 x3 (x4 - (v_leaks (Int32.toNatClampNeg p1))) (x5 + (1 : Int32))))
def L_X6_fillingsOf_23 (v_water : (Nat → Int32)) (v_leaks : (Nat → Int32)) (v_there : Int32) (p1 : Int32) (p2 : Int32) : Nat → Int32 → Int32 → Int32 → Option (Int32)
  | 0, _, _, _ => none
  | n + 1, x3, x4, x5 => (if p2 ≤ x5 then (some x3) else (gin p1 8 (if (v_leaks (Int32.toNatClampNeg p1)) < x4 then (B_X6_fillingsOf_47 v_water v_leaks v_there p1 p2 (L_X6_fillingsOf_23 v_water v_leaks v_there p1 p2 n) x3 x4 x5) else (B_X6_fillingsOf_47 v_water v_leaks v_there p1 p2 (L_X6_fillingsOf_23 v_water v_leaks v_there p1 p2 n) (x3 + (1 : Int32)) (99 : Int32) x5))))
def f_X6_fillingsOf (v_water : (Nat → Int32)) (v_leaks : (Nat → Int32)) (v_there : Int32) (p1 : Int32) (p2 : Int32) : Option (Int32) := (bd1 (f_X6_has v_there p1) (fun r2 => (if r2 = (0 : Int32) then (some (0 : Int32)) else (gin p1 8 (L_X6_fillingsOf_23 v_water v_leaks v_there p1 p2 FU (0 : Int32) (v_water (Int32.toNatClampNeg p1)) (0 : Int32))))))
abbrev rm_X6_fillingsOf : Room := { frames := 1, cells := 0, slots := 0, locals := 21 }
set_option maxHeartbeats 4000000 in
set_option maxRecDepth 100000 in
theorem C_X6_fillingsOf (l : Launch) (D : va_G) (cI cJ cZ : ClassId) (sz : Nat) (qt qt_water qt_flakes qt_flying qt_leaks qt_cloudy qt_content qt_in : Nat) (v_water : (Nat → Int32)) (v_leaks : (Nat → Int32)) (v_there : Int32) (v_music : Int32) (v_taxes : Int32) (v_hour : Int32) (p1 : Int32) (p2 : Int32) (r : Int32) (hf : f_X6_fillingsOf v_water v_leaks v_there p1 p2 = some r) : Met l yX6_fillingsOf wsX6_fillingsOf rm_X6_fillingsOf (PR D cI cJ cZ [(qt, .inr (5, [.ref qt_water, .ref qt_flakes, .ref qt_flying, .ref qt_leaks, .ref qt_cloudy, .ref qt_content, .ref qt_in, .int v_there, .int v_music, .int v_taxes, .int v_hour])), (qt_water, .inl (cI, 8, .inl v_water)), (qt_leaks, .inl (cI, 8, .inl v_leaks))] sz [.ref qt, .int p1, .int p2]) (QI D (va_A [(qt, .inr (5, [.ref qt_water, .ref qt_flakes, .ref qt_flying, .ref qt_leaks, .ref qt_cloudy, .ref qt_content, .ref qt_in, .int v_there, .int v_music, .int v_taxes, .int v_hour])), (qt_water, .inl (cI, 8, .inl v_water)), (qt_leaks, .inl (cI, 8, .inl v_leaks))] sz) r [(qt, .inr (5, [.ref qt_water, .ref qt_flakes, .ref qt_flying, .ref qt_leaks, .ref qt_cloudy, .ref qt_content, .ref qt_in, .int v_there, .int v_music, .int v_taxes, .int v_hour])), (qt_water, .inl (cI, 8, .inl v_water)), (qt_leaks, .inl (cI, 8, .inl v_leaks))]) 0 0 (va_A [(qt, .inr (5, [.ref qt_water, .ref qt_flakes, .ref qt_flying, .ref qt_leaks, .ref qt_cloudy, .ref qt_content, .ref qt_in, .int v_there, .int v_music, .int v_taxes, .int v_hour])), (qt_water, .inl (cI, 8, .inl v_water)), (qt_leaks, .inl (cI, 8, .inl v_leaks))] sz) := by
  refine Met.ofW (cc := cX6_fillingsOf) (maxL := 6) (ret := (some .int)) (by decide) rfl ?_
  intro p e s m args below meth c s₁ B hml hv
  obtain ⟨hav, hsz, hP, hD0, hE⟩ := hv
  have hx := B.exec
  have hb := B.bytes
  have hr := B.returns
  have hts := atoms_spec (ws := wsX6_fillingsOf) B.pre
  have hown : s.vm.findClass RX6 = some m.cls := findClass_of_methodNamed B.named
  have hlocks := B.notSynchronized
  subst hsz
  have hD := hD0.self (sz := s.heap.size)
  generalize hAe : va_A [(qt, .inr (5, [.ref qt_water, .ref qt_flakes, .ref qt_flying, .ref qt_leaks, .ref qt_cloudy, .ref qt_content, .ref qt_in, .int v_there, .int v_music, .int v_taxes, .int v_hour])), (qt_water, .inl (cI, 8, .inl v_water)), (qt_leaks, .inl (cI, 8, .inl v_leaks))] s.heap.size = A at hD ⊢
  have hA : ∀ q : Nat, s.heap.size ≤ q → A q := fun q h => by rw [← hAe]; exact Or.inr h
  have hS : va_S A s.heap s.heap [] := va_S.rf
  have hl := lv_entry ([.ref qt, .int p1, .int p2]) (n := 6) (Nat.le_of_ble_eq_true rfl)
  have hfr : entryFrame m args 6 = entryFrame m ([.ref qt, .int p1, .int p2] : List Value).toArray 6 := by rw [hav]
  rw [hfr, lg_entry_eq]
  generalize (lg_sl ([.ref qt, .int p1, .int p2]) ++ List.replicate (6 - (lg_sl ([.ref qt, .int p1, .int p2])).length) Slot.unset).toArray = ls at hl ⊢
  have hl : lv_has ls 6 [(0, .ref qt), (1, .int p1), (2, .int p2)] := hl
  obtain ⟨QQ, hQQ⟩ : ∃ QQ, QQ = MQ below (QI D A r [(qt, .inr (5, [.ref qt_water, .ref qt_flakes, .ref qt_flying, .ref qt_leaks, .ref qt_cloudy, .ref qt_content, .ref qt_in, .int v_there, .int v_music, .int v_taxes, .int v_hour])), (qt_water, .inl (cI, 8, .inl v_water)), (qt_leaks, .inl (cI, 8, .inl v_leaks))]) args s 0 0 A := ⟨_, rfl⟩
  show W p l e rm_X6_fillingsOf s m args below meth c s.heap [] 0 0 _ _
  rw [← hQQ]
  have hL23 : ∀ (n23 : Nat), ∀ (x3 : Int32) (x4 : Int32) (x5 : Int32) (H : Heap) (locs : List Loc) (ls : Array Slot), va_P D vwCl [(qt, .inr (5, [.ref qt_water, .ref qt_flakes, .ref qt_flying, .ref qt_leaks, .ref qt_cloudy, .ref qt_content, .ref qt_in, .int v_there, .int v_music, .int v_taxes, .int v_hour])), (qt_water, .inl (cI, 8, .inl v_water)), (qt_leaks, .inl (cI, 8, .inl v_leaks))] H → va_D A [(qt, .inr (5, [.ref qt_water, .ref qt_flakes, .ref qt_flying, .ref qt_leaks, .ref qt_cloudy, .ref qt_content, .ref qt_in, .int v_there, .int v_music, .int v_taxes, .int v_hour])), (qt_water, .inl (cI, 8, .inl v_water)), (qt_leaks, .inl (cI, 8, .inl v_leaks))] → va_S A s.heap H locs → lv_has ls 6 [(0, .ref qt), (1, .int p1), (2, .int p2), (3, .int x3), (4, .int x4), (5, .int x5)] → L_X6_fillingsOf_23 v_water v_leaks v_there p1 p2 n23 x3 x4 x5 = some r → W p l e rm_X6_fillingsOf s m args below meth c H locs 0 0 QQ (F0 m 23 ls []) := by
    intro n23
    induction n23 with
    | zero =>
      intro x3 x4 x5 H locs ls hP hD hS hl h
      have h : none = some r := h
      cases h
    | succ n23 ih23 =>
      have hB47 : ∀ (x3 : Int32) (x4 : Int32) (x5 : Int32) (H : Heap) (locs : List Loc) (ls : Array Slot), va_P D vwCl [(qt, .inr (5, [.ref qt_water, .ref qt_flakes, .ref qt_flying, .ref qt_leaks, .ref qt_cloudy, .ref qt_content, .ref qt_in, .int v_there, .int v_music, .int v_taxes, .int v_hour])), (qt_water, .inl (cI, 8, .inl v_water)), (qt_leaks, .inl (cI, 8, .inl v_leaks))] H → va_D A [(qt, .inr (5, [.ref qt_water, .ref qt_flakes, .ref qt_flying, .ref qt_leaks, .ref qt_cloudy, .ref qt_content, .ref qt_in, .int v_there, .int v_music, .int v_taxes, .int v_hour])), (qt_water, .inl (cI, 8, .inl v_water)), (qt_leaks, .inl (cI, 8, .inl v_leaks))] → va_S A s.heap H locs → lv_has ls 6 [(0, .ref qt), (1, .int p1), (2, .int p2), (3, .int x3), (4, .int x4), (5, .int x5)] → B_X6_fillingsOf_47 v_water v_leaks v_there p1 p2 (L_X6_fillingsOf_23 v_water v_leaks v_there p1 p2 n23) x3 x4 x5 = some r → W p l e rm_X6_fillingsOf s m args below meth c H locs 0 0 QQ (F0 m 47 ls []) := by
        intro x3 x4 x5 H locs ls hP hD hS hl h
        unfold B_X6_fillingsOf_47 at h
        refine lv_iload hx hb dX6_fillingsOf_47 (lv_at hl 4 rfl) ?_
        refine lv_aload_n hx hb dX6_fillingsOf_49 rfl (lv_at hl 0 rfl) ?_
        refine va_get (D := D) (ci := 5) (C := RX6) (T := TX6) (N := 11) hx hb hts (fun _ hw => (List.mem_cons_of_mem _ (List.mem_append_right _ hw))) hown hE.1 hP 0 rfl rfl 3 (by decide) (hts (.fieldLink RX6 21 "GlobeCrown$Shelf" "leaks" "[I") (List.mem_cons_of_mem _ (List.mem_append_left _ (List.mem_of_getElem? (i := 1) rfl)))) (fun _ h9 => h9) rfl dX6_fillingsOf_50 ?_
        refine lv_iload_n hx hb dX6_fillingsOf_53 rfl (lv_at hl 1 rfl) ?_
        obtain ⟨hg, h⟩ := gin_some h
        refine va_iald hx hb hE.1 hP 2 0 rfl rfl hg dX6_fillingsOf_54 ?_
        refine lv_isub hx hb dX6_fillingsOf_55 ?_
        refine lv_istore (lv' := [(4, .int (x4 - (v_leaks (Int32.toNatClampNeg p1)))), (0, .ref qt), (1, .int p1), (2, .int p2), (3, .int x3), (5, .int x5)]) hx hb dX6_fillingsOf_56 hl (by decide) rfl (fun ls hl => ?_)
        refine lv_iinc (v := (x5 + (1 : Int32))) (lv' := [(5, .int (x5 + (1 : Int32))), (4, .int (x4 - (v_leaks (Int32.toNatClampNeg p1)))), (0, .ref qt), (1, .int p1), (2, .int p2), (3, .int x3)]) hx hb dX6_fillingsOf_58 hl (k := 5) rfl rfl (by decide) rfl (fun ls hl => ?_)
        refine lv_goto (tgt := 23) hx hb dX6_fillingsOf_61 (by decide) ?_
        exact ih23 x3 (x4 - (v_leaks (Int32.toNatClampNeg p1))) (x5 + (1 : Int32)) H locs ls hP hD hS (lv_sub hl [2, 3, 4, 5, 1, 0] rfl) h
      intro x3 x4 x5 H locs ls hP hD hS hl h
      rw [L_X6_fillingsOf_23.eq_2] at h
      refine lv_iload hx hb dX6_fillingsOf_23 (lv_at hl 5 rfl) ?_
      refine lv_iload_n hx hb dX6_fillingsOf_25 rfl (lv_at hl 2 rfl) ?_
      refine lv_icmp_ge (tgt := 64) hx hb dX6_fillingsOf_26 (by decide) (fun hc => ?_) (fun hc => ?_)
      · have h := if_t hc h
        refine lv_iload_n hx hb dX6_fillingsOf_64 rfl (lv_at hl 3 rfl) ?_
        cases h
        rw [hQQ]
        exact gw_iret hx hb hr hlocks hP hD hS dX6_fillingsOf_65
      · have h := if_f hc h
        refine lv_iload hx hb dX6_fillingsOf_29 (lv_at hl 4 rfl) ?_
        refine lv_aload_n hx hb dX6_fillingsOf_31 rfl (lv_at hl 0 rfl) ?_
        refine va_get (D := D) (ci := 5) (C := RX6) (T := TX6) (N := 11) hx hb hts (fun _ hw => (List.mem_cons_of_mem _ (List.mem_append_right _ hw))) hown hE.1 hP 0 rfl rfl 3 (by decide) (hts (.fieldLink RX6 21 "GlobeCrown$Shelf" "leaks" "[I") (List.mem_cons_of_mem _ (List.mem_append_left _ (List.mem_of_getElem? (i := 1) rfl)))) (fun _ h9 => h9) rfl dX6_fillingsOf_32 ?_
        refine lv_iload_n hx hb dX6_fillingsOf_35 rfl (lv_at hl 1 rfl) ?_
        obtain ⟨hg, h⟩ := gin_some h
        refine va_iald hx hb hE.1 hP 2 0 rfl rfl hg dX6_fillingsOf_36 ?_
        refine lv_icmp_gt (tgt := 47) hx hb dX6_fillingsOf_37 (by decide) (fun hc => ?_) (fun hc => ?_)
        · have h := if_t hc h
          exact hB47 x3 x4 x5 H locs ls hP hD hS hl h
        · have h := if_f hc h
          refine lv_bipush (v := 99) hx hb dX6_fillingsOf_40 (by decide) ?_
          refine lv_istore (lv' := [(4, .int (99 : Int32)), (0, .ref qt), (1, .int p1), (2, .int p2), (3, .int x3), (5, .int x5)]) hx hb dX6_fillingsOf_42 hl (by decide) rfl (fun ls hl => ?_)
          refine lv_iinc (v := (x3 + (1 : Int32))) (lv' := [(3, .int (x3 + (1 : Int32))), (4, .int (99 : Int32)), (0, .ref qt), (1, .int p1), (2, .int p2), (5, .int x5)]) hx hb dX6_fillingsOf_44 hl (k := 4) rfl rfl (by decide) rfl (fun ls hl => ?_)
          exact hB47 (x3 + (1 : Int32)) (99 : Int32) x5 H locs ls hP hD hS (lv_sub hl [2, 3, 4, 0, 1, 5] rfl) h
  have h := hf
  unfold f_X6_fillingsOf at h
  refine gw_start hP hD hS (fun H locs hP hD hS => ?_)
  refine lv_aload_n hx hb dX6_fillingsOf_0 rfl (lv_at hl 0 rfl) ?_
  refine lv_iload_n hx hb dX6_fillingsOf_1 rfl (lv_at hl 1 rfl) ?_
  obtain ⟨r2, hc2, h⟩ := bd1_some h
  refine gw_ci (wr := [(qt_water, .inl (cI, 8, .inl v_water)), (qt_leaks, .inl (cI, 8, .inl v_leaks))]) (w2 := [(qt_water, .inl (cI, 8, .inl v_water)), (qt_leaks, .inl (cI, 8, .inl v_leaks)), (qt, .inr (5, [.ref qt_water, .ref qt_flakes, .ref qt_flying, .ref qt_leaks, .ref qt_cloudy, .ref qt_content, .ref qt_in, .int v_there, .int v_music, .int v_taxes, .int v_hour]))]) (gw_rV (n := 1) ⟨hx, hb, hml, hown, hts⟩ (C_X6_has l D cI cJ cZ H.size qt qt_water qt_flakes qt_flying qt_leaks qt_cloudy qt_content qt_in v_there v_music v_taxes v_hour p1 r2 hc2) gX6_fillingsOf_X6_has rfl rfl rfl hdV_X6_has ⟨Nat.le_of_ble_eq_true rfl, Nat.le_of_ble_eq_true rfl⟩ hE (hP.sub [0] rfl) (hD.sub [0] (by decide) rfl) 5 rfl 0 rfl rfl hl.1 (rest := []) rfl (Nat.le_of_ble_eq_true rfl) dX6_fillingsOf_2 ⟨Nat.zero_le _, Nat.zero_le _⟩) hP hD hS hA [0] [1, 2] rfl rfl rfl (by decide) rfl (fun H locs hP hD hS => ?_)
  refine lv_if_ne (tgt := 10) hx hb dX6_fillingsOf_5 (by decide) (fun hc => ?_) (fun hc => ?_)
  · have h := if_f hc h
    refine lv_iconst (v := 0) hx hb dX6_fillingsOf_10 (by decide) ?_
    refine lv_istore_n (lv' := [(3, .int (0 : Int32)), (0, .ref qt), (1, .int p1), (2, .int p2)]) hx hb dX6_fillingsOf_11 rfl hl (by decide) rfl (fun ls hl => ?_)
    refine lv_aload_n hx hb dX6_fillingsOf_12 rfl (lv_at hl 1 rfl) ?_
    refine va_get (D := D) (ci := 5) (C := RX6) (T := TX6) (N := 11) hx hb hts (fun _ hw => (List.mem_cons_of_mem _ (List.mem_append_right _ hw))) hown hE.1 hP 2 rfl rfl 0 (by decide) (hts (.fieldLink RX6 9 "GlobeCrown$Shelf" "water" "[I") (List.mem_cons_of_mem _ (List.mem_append_left _ (List.mem_of_getElem? (i := 0) rfl)))) (fun _ h9 => h9) rfl dX6_fillingsOf_13 ?_
    refine lv_iload_n hx hb dX6_fillingsOf_16 rfl (lv_at hl 2 rfl) ?_
    obtain ⟨hg, h⟩ := gin_some h
    refine va_iald hx hb hE.1 hP 0 0 rfl rfl hg dX6_fillingsOf_17 ?_
    refine lv_istore (lv' := [(4, .int (v_water (Int32.toNatClampNeg p1))), (3, .int (0 : Int32)), (0, .ref qt), (1, .int p1), (2, .int p2)]) hx hb dX6_fillingsOf_18 hl (by decide) rfl (fun ls hl => ?_)
    refine lv_iconst (v := 0) hx hb dX6_fillingsOf_20 (by decide) ?_
    refine lv_istore (lv' := [(5, .int (0 : Int32)), (4, .int (v_water (Int32.toNatClampNeg p1))), (3, .int (0 : Int32)), (0, .ref qt), (1, .int p1), (2, .int p2)]) hx hb dX6_fillingsOf_21 hl (by decide) rfl (fun ls hl => ?_)
    exact hL23 FU (0 : Int32) (v_water (Int32.toNatClampNeg p1)) (0 : Int32) H locs ls (hP.sub [2, 0, 1] rfl) (hD.sub [2, 0, 1] (by decide) rfl) hS (lv_sub hl [3, 4, 5, 2, 1, 0] rfl) h
  · have h := if_t hc h
    refine lv_iconst (v := 0) hx hb dX6_fillingsOf_8 (by decide) ?_
    cases h
    rw [hQQ]
    exact gw_iret hx hb hr hlocks (hP.sub [2, 0, 1] rfl) (hD.sub [2, 0, 1] (by decide) rfl) hS dX6_fillingsOf_9
theorem hdV_X6_fillingsOf : yX6_fillingsOf.cls = RX6 ∧ yX6_fillingsOf.cls ≠ "java/lang/invoke/MethodHandle" ∧ yX6_fillingsOf.cls ≠ "java/lang/invoke/VarHandle" ∧ (parseMethodDescriptor yX6_fillingsOf.desc).map (fun d => d.parameters.length) = some 2 := by decide +kernel
def L_X6_fillings_4 (v_water : (Nat → Int32)) (v_leaks : (Nat → Int32)) (v_there : Int32) (p1 : Int32) : Nat → Int32 → Int32 → Option (Int32)
  | 0, _, _ => none
  | n + 1, x2, x3 => (if (8 : Int32) ≤ x3 then (some x2) else (bd1 (f_X6_has v_there x3) (fun r12 => (if r12 = (0 : Int32) then ((L_X6_fillings_4 v_water v_leaks v_there p1 n) x2 (x3 + (1 : Int32))) else (bd1 (f_X6_isFree v_water v_there x3) (fun r20 => (if r20 = (0 : Int32) then (bd1 (f_X6_fillingsOf v_water v_leaks v_there x3 p1) (fun r30 => ((L_X6_fillings_4 v_water v_leaks v_there p1 n) (x2 + r30) (x3 + (1 : Int32))))) else ((L_X6_fillings_4 v_water v_leaks v_there p1 n) x2 (x3 + (1 : Int32))))))))))
def f_X6_fillings (v_water : (Nat → Int32)) (v_leaks : (Nat → Int32)) (v_there : Int32) (p1 : Int32) : Option (Int32) := (L_X6_fillings_4 v_water v_leaks v_there p1 FU (0 : Int32) (0 : Int32))
abbrev rm_X6_fillings : Room := { frames := 2, cells := 0, slots := 0, locals := 46 }
set_option maxHeartbeats 4000000 in
set_option maxRecDepth 100000 in
theorem C_X6_fillings (l : Launch) (D : va_G) (cI cJ cZ : ClassId) (sz : Nat) (qt qt_water qt_flakes qt_flying qt_leaks qt_cloudy qt_content qt_in : Nat) (v_water : (Nat → Int32)) (v_leaks : (Nat → Int32)) (v_there : Int32) (v_music : Int32) (v_taxes : Int32) (v_hour : Int32) (p1 : Int32) (r : Int32) (hf : f_X6_fillings v_water v_leaks v_there p1 = some r) : Met l yX6_fillings wsX6_fillings rm_X6_fillings (PR D cI cJ cZ [(qt, .inr (5, [.ref qt_water, .ref qt_flakes, .ref qt_flying, .ref qt_leaks, .ref qt_cloudy, .ref qt_content, .ref qt_in, .int v_there, .int v_music, .int v_taxes, .int v_hour])), (qt_water, .inl (cI, 8, .inl v_water)), (qt_leaks, .inl (cI, 8, .inl v_leaks))] sz [.ref qt, .int p1]) (QI D (va_A [(qt, .inr (5, [.ref qt_water, .ref qt_flakes, .ref qt_flying, .ref qt_leaks, .ref qt_cloudy, .ref qt_content, .ref qt_in, .int v_there, .int v_music, .int v_taxes, .int v_hour])), (qt_water, .inl (cI, 8, .inl v_water)), (qt_leaks, .inl (cI, 8, .inl v_leaks))] sz) r [(qt, .inr (5, [.ref qt_water, .ref qt_flakes, .ref qt_flying, .ref qt_leaks, .ref qt_cloudy, .ref qt_content, .ref qt_in, .int v_there, .int v_music, .int v_taxes, .int v_hour])), (qt_water, .inl (cI, 8, .inl v_water)), (qt_leaks, .inl (cI, 8, .inl v_leaks))]) 0 0 (va_A [(qt, .inr (5, [.ref qt_water, .ref qt_flakes, .ref qt_flying, .ref qt_leaks, .ref qt_cloudy, .ref qt_content, .ref qt_in, .int v_there, .int v_music, .int v_taxes, .int v_hour])), (qt_water, .inl (cI, 8, .inl v_water)), (qt_leaks, .inl (cI, 8, .inl v_leaks))] sz) := by
  refine Met.ofW (cc := cX6_fillings) (maxL := 4) (ret := (some .int)) (by decide) rfl ?_
  intro p e s m args below meth c s₁ B hml hv
  obtain ⟨hav, hsz, hP, hD0, hE⟩ := hv
  have hx := B.exec
  have hb := B.bytes
  have hr := B.returns
  have hts := atoms_spec (ws := wsX6_fillings) B.pre
  have hown : s.vm.findClass RX6 = some m.cls := findClass_of_methodNamed B.named
  have hlocks := B.notSynchronized
  subst hsz
  have hD := hD0.self (sz := s.heap.size)
  generalize hAe : va_A [(qt, .inr (5, [.ref qt_water, .ref qt_flakes, .ref qt_flying, .ref qt_leaks, .ref qt_cloudy, .ref qt_content, .ref qt_in, .int v_there, .int v_music, .int v_taxes, .int v_hour])), (qt_water, .inl (cI, 8, .inl v_water)), (qt_leaks, .inl (cI, 8, .inl v_leaks))] s.heap.size = A at hD ⊢
  have hA : ∀ q : Nat, s.heap.size ≤ q → A q := fun q h => by rw [← hAe]; exact Or.inr h
  have hS : va_S A s.heap s.heap [] := va_S.rf
  have hl := lv_entry ([.ref qt, .int p1]) (n := 4) (Nat.le_of_ble_eq_true rfl)
  have hfr : entryFrame m args 4 = entryFrame m ([.ref qt, .int p1] : List Value).toArray 4 := by rw [hav]
  rw [hfr, lg_entry_eq]
  generalize (lg_sl ([.ref qt, .int p1]) ++ List.replicate (4 - (lg_sl ([.ref qt, .int p1])).length) Slot.unset).toArray = ls at hl ⊢
  have hl : lv_has ls 4 [(0, .ref qt), (1, .int p1)] := hl
  obtain ⟨QQ, hQQ⟩ : ∃ QQ, QQ = MQ below (QI D A r [(qt, .inr (5, [.ref qt_water, .ref qt_flakes, .ref qt_flying, .ref qt_leaks, .ref qt_cloudy, .ref qt_content, .ref qt_in, .int v_there, .int v_music, .int v_taxes, .int v_hour])), (qt_water, .inl (cI, 8, .inl v_water)), (qt_leaks, .inl (cI, 8, .inl v_leaks))]) args s 0 0 A := ⟨_, rfl⟩
  show W p l e rm_X6_fillings s m args below meth c s.heap [] 0 0 _ _
  rw [← hQQ]
  have hL4 : ∀ (n4 : Nat), ∀ (x2 : Int32) (x3 : Int32) (H : Heap) (locs : List Loc) (ls : Array Slot), va_P D vwCl [(qt, .inr (5, [.ref qt_water, .ref qt_flakes, .ref qt_flying, .ref qt_leaks, .ref qt_cloudy, .ref qt_content, .ref qt_in, .int v_there, .int v_music, .int v_taxes, .int v_hour])), (qt_water, .inl (cI, 8, .inl v_water)), (qt_leaks, .inl (cI, 8, .inl v_leaks))] H → va_D A [(qt, .inr (5, [.ref qt_water, .ref qt_flakes, .ref qt_flying, .ref qt_leaks, .ref qt_cloudy, .ref qt_content, .ref qt_in, .int v_there, .int v_music, .int v_taxes, .int v_hour])), (qt_water, .inl (cI, 8, .inl v_water)), (qt_leaks, .inl (cI, 8, .inl v_leaks))] → va_S A s.heap H locs → lv_has ls 4 [(0, .ref qt), (1, .int p1), (2, .int x2), (3, .int x3)] → L_X6_fillings_4 v_water v_leaks v_there p1 n4 x2 x3 = some r → W p l e rm_X6_fillings s m args below meth c H locs 0 0 QQ (F0 m 4 ls []) := by
    intro n4
    induction n4 with
    | zero =>
      intro x2 x3 H locs ls hP hD hS hl h
      have h : none = some r := h
      cases h
    | succ n4 ih4 =>
      intro x2 x3 H locs ls hP hD hS hl h
      rw [L_X6_fillings_4.eq_2] at h
      refine lv_iload_n hx hb dX6_fillings_4 rfl (lv_at hl 3 rfl) ?_
      refine lv_bipush (v := 8) hx hb dX6_fillings_5 (by decide) ?_
      refine lv_icmp_ge (tgt := 41) hx hb dX6_fillings_7 (by decide) (fun hc => ?_) (fun hc => ?_)
      · have h := if_t hc h
        refine lv_iload_n hx hb dX6_fillings_41 rfl (lv_at hl 2 rfl) ?_
        cases h
        rw [hQQ]
        exact gw_iret hx hb hr hlocks hP hD hS dX6_fillings_42
      · have h := if_f hc h
        refine lv_aload_n hx hb dX6_fillings_10 rfl (lv_at hl 0 rfl) ?_
        refine lv_iload_n hx hb dX6_fillings_11 rfl (lv_at hl 3 rfl) ?_
        obtain ⟨r12, hc12, h⟩ := bd1_some h
        refine gw_ci (wr := [(qt_water, .inl (cI, 8, .inl v_water)), (qt_leaks, .inl (cI, 8, .inl v_leaks))]) (w2 := [(qt_water, .inl (cI, 8, .inl v_water)), (qt_leaks, .inl (cI, 8, .inl v_leaks)), (qt, .inr (5, [.ref qt_water, .ref qt_flakes, .ref qt_flying, .ref qt_leaks, .ref qt_cloudy, .ref qt_content, .ref qt_in, .int v_there, .int v_music, .int v_taxes, .int v_hour]))]) (gw_rV (n := 1) ⟨hx, hb, hml, hown, hts⟩ (C_X6_has l D cI cJ cZ H.size qt qt_water qt_flakes qt_flying qt_leaks qt_cloudy qt_content qt_in v_there v_music v_taxes v_hour x3 r12 hc12) gX6_fillings_X6_has rfl rfl rfl hdV_X6_has ⟨Nat.le_of_ble_eq_true rfl, Nat.le_of_ble_eq_true rfl⟩ hE (hP.sub [0] rfl) (hD.sub [0] (by decide) rfl) 5 rfl 0 rfl rfl hl.1 (rest := []) rfl (Nat.le_of_ble_eq_true rfl) dX6_fillings_12 ⟨Nat.zero_le _, Nat.zero_le _⟩) hP hD hS hA [0] [1, 2] rfl rfl rfl (by decide) rfl (fun H locs hP hD hS => ?_)
        refine lv_if_eq (tgt := 35) hx hb dX6_fillings_15 (by decide) (fun hc => ?_) (fun hc => ?_)
        · have h := if_t hc h
          refine lv_iinc (v := (x3 + (1 : Int32))) (lv' := [(3, .int (x3 + (1 : Int32))), (0, .ref qt), (1, .int p1), (2, .int x2)]) hx hb dX6_fillings_35 hl (k := 3) rfl rfl (by decide) rfl (fun ls hl => ?_)
          refine lv_goto (tgt := 4) hx hb dX6_fillings_38 (by decide) ?_
          exact ih4 x2 (x3 + (1 : Int32)) H locs ls (hP.sub [2, 0, 1] rfl) (hD.sub [2, 0, 1] (by decide) rfl) hS (lv_sub hl [1, 2, 3, 0] rfl) h
        · have h := if_f hc h
          refine lv_aload_n hx hb dX6_fillings_18 rfl (lv_at hl 0 rfl) ?_
          refine lv_iload_n hx hb dX6_fillings_19 rfl (lv_at hl 3 rfl) ?_
          obtain ⟨r20, hc20, h⟩ := bd1_some h
          refine gw_ci (wr := [(qt_leaks, .inl (cI, 8, .inl v_leaks))]) (w2 := [(qt_leaks, .inl (cI, 8, .inl v_leaks)), (qt, .inr (5, [.ref qt_water, .ref qt_flakes, .ref qt_flying, .ref qt_leaks, .ref qt_cloudy, .ref qt_content, .ref qt_in, .int v_there, .int v_music, .int v_taxes, .int v_hour])), (qt_water, .inl (cI, 8, .inl v_water))]) (gw_rV (n := 1) ⟨hx, hb, hml, hown, hts⟩ (C_X6_isFree l D cI cJ cZ H.size qt qt_water qt_flakes qt_flying qt_leaks qt_cloudy qt_content qt_in v_water v_there v_music v_taxes v_hour x3 r20 hc20) gX6_fillings_X6_isFree rfl rfl rfl hdV_X6_isFree ⟨Nat.le_of_ble_eq_true rfl, Nat.le_of_ble_eq_true rfl⟩ hE (hP.sub [2, 0] rfl) (hD.sub [2, 0] (by decide) rfl) 5 rfl 0 rfl rfl hl.1 (rest := []) rfl (Nat.le_of_ble_eq_true rfl) dX6_fillings_20 ⟨Nat.zero_le _, Nat.zero_le _⟩) hP hD hS hA [2, 0] [1] rfl rfl rfl (by decide) rfl (fun H locs hP hD hS => ?_)
          refine lv_if_ne (tgt := 35) hx hb dX6_fillings_23 (by decide) (fun hc => ?_) (fun hc => ?_)
          · have h := if_f hc h
            refine lv_iinc (v := (x3 + (1 : Int32))) (lv' := [(3, .int (x3 + (1 : Int32))), (0, .ref qt), (1, .int p1), (2, .int x2)]) hx hb dX6_fillings_35 hl (k := 3) rfl rfl (by decide) rfl (fun ls hl => ?_)
            refine lv_goto (tgt := 4) hx hb dX6_fillings_38 (by decide) ?_
            exact ih4 x2 (x3 + (1 : Int32)) H locs ls (hP.sub [1, 2, 0] rfl) (hD.sub [1, 2, 0] (by decide) rfl) hS (lv_sub hl [1, 2, 3, 0] rfl) h
          · have h := if_t hc h
            refine lv_iload_n hx hb dX6_fillings_26 rfl (lv_at hl 2 rfl) ?_
            refine lv_aload_n hx hb dX6_fillings_27 rfl (lv_at hl 0 rfl) ?_
            refine lv_iload_n hx hb dX6_fillings_28 rfl (lv_at hl 3 rfl) ?_
            refine lv_iload_n hx hb dX6_fillings_29 rfl (lv_at hl 1 rfl) ?_
            obtain ⟨r30, hc30, h⟩ := bd1_some h
            refine gw_ci (wr := []) (w2 := [(qt, .inr (5, [.ref qt_water, .ref qt_flakes, .ref qt_flying, .ref qt_leaks, .ref qt_cloudy, .ref qt_content, .ref qt_in, .int v_there, .int v_music, .int v_taxes, .int v_hour])), (qt_water, .inl (cI, 8, .inl v_water)), (qt_leaks, .inl (cI, 8, .inl v_leaks))]) (gw_rV (n := 2) ⟨hx, hb, hml, hown, hts⟩ (C_X6_fillingsOf l D cI cJ cZ H.size qt qt_water qt_flakes qt_flying qt_leaks qt_cloudy qt_content qt_in v_water v_leaks v_there v_music v_taxes v_hour x3 p1 r30 hc30) gX6_fillings_X6_fillingsOf rfl rfl rfl hdV_X6_fillingsOf ⟨Nat.le_of_ble_eq_true rfl, Nat.le_of_ble_eq_true rfl⟩ hE (hP.sub [1, 2, 0] rfl) (hD.sub [1, 2, 0] (by decide) rfl) 5 rfl 0 rfl rfl hl.1 (rest := [.int x2]) rfl (Nat.le_of_ble_eq_true rfl) dX6_fillings_30 ⟨Nat.zero_le _, Nat.zero_le _⟩) hP hD hS hA [1, 2, 0] [] rfl rfl rfl (by decide) rfl (fun H locs hP hD hS => ?_)
            refine lv_iadd hx hb dX6_fillings_33 ?_
            refine lv_istore_n (lv' := [(2, .int (x2 + r30)), (0, .ref qt), (1, .int p1), (3, .int x3)]) hx hb dX6_fillings_34 rfl hl (by decide) rfl (fun ls hl => ?_)
            refine lv_iinc (v := (x3 + (1 : Int32))) (lv' := [(3, .int (x3 + (1 : Int32))), (2, .int (x2 + r30)), (0, .ref qt), (1, .int p1)]) hx hb dX6_fillings_35 hl (k := 3) rfl rfl (by decide) rfl (fun ls hl => ?_)
            refine lv_goto (tgt := 4) hx hb dX6_fillings_38 (by decide) ?_
            exact ih4 (x2 + r30) (x3 + (1 : Int32)) H locs ls hP hD hS (lv_sub hl [2, 3, 1, 0] rfl) h
  have h := hf
  unfold f_X6_fillings at h
  refine gw_start hP hD hS (fun H locs hP hD hS => ?_)
  refine lv_iconst (v := 0) hx hb dX6_fillings_0 (by decide) ?_
  refine lv_istore_n (lv' := [(2, .int (0 : Int32)), (0, .ref qt), (1, .int p1)]) hx hb dX6_fillings_1 rfl hl (by decide) rfl (fun ls hl => ?_)
  refine lv_iconst (v := 0) hx hb dX6_fillings_2 (by decide) ?_
  refine lv_istore_n (lv' := [(3, .int (0 : Int32)), (2, .int (0 : Int32)), (0, .ref qt), (1, .int p1)]) hx hb dX6_fillings_3 rfl hl (by decide) rfl (fun ls hl => ?_)
  exact hL4 FU (0 : Int32) (0 : Int32) H locs ls hP hD hS (lv_sub hl [2, 3, 1, 0] rfl) h
theorem hdV_X6_fillings : yX6_fillings.cls = RX6 ∧ yX6_fillings.cls ≠ "java/lang/invoke/MethodHandle" ∧ yX6_fillings.cls ≠ "java/lang/invoke/VarHandle" ∧ (parseMethodDescriptor yX6_fillings.desc).map (fun d => d.parameters.length) = some 1 := by decide +kernel
def L_X6_offFrom_9 (v_there : Int32) (p1 : Int32) (p2 : Int32) : Nat → Int32 → Int32 → Int32 → Option (Int32)
  | 0, _, _, _ => none
  | n + 1, x3, x4, x5 => (if x5 < (0 : Int32) then (some x3) else (bd1 (f_X6_has v_there x5) (fun r17 => (if r17 = (0 : Int32) then ((L_X6_offFrom_9 v_there p1 p2 n) x3 (x4 / (10 : Int32)) (x5 + (-1 : Int32))) else ((L_X6_offFrom_9 v_there p1 p2 n) (x3 + (jabs ((jrem x4 (10 : Int32)) - p2))) (x4 / (10 : Int32)) (x5 + (-1 : Int32)))))))
def f_X6_offFrom (v_there : Int32) (p1 : Int32) (p2 : Int32) : Option (Int32) := (L_X6_offFrom_9 v_there p1 p2 FU (0 : Int32) p1 (7 : Int32))
abbrev rm_X6_offFrom : Room := { frames := 1, cells := 0, slots := 0, locals := 26 }
set_option maxHeartbeats 4000000 in
set_option maxRecDepth 100000 in
theorem C_X6_offFrom (l : Launch) (D : va_G) (cI cJ cZ : ClassId) (sz : Nat) (qt qt_water qt_flakes qt_flying qt_leaks qt_cloudy qt_content qt_in : Nat) (v_there : Int32) (v_music : Int32) (v_taxes : Int32) (v_hour : Int32) (p1 : Int32) (p2 : Int32) (r : Int32) (hf : f_X6_offFrom v_there p1 p2 = some r) : Met l yX6_offFrom wsX6_offFrom rm_X6_offFrom (PR D cI cJ cZ [(qt, .inr (5, [.ref qt_water, .ref qt_flakes, .ref qt_flying, .ref qt_leaks, .ref qt_cloudy, .ref qt_content, .ref qt_in, .int v_there, .int v_music, .int v_taxes, .int v_hour]))] sz [.ref qt, .int p1, .int p2]) (QI D (va_A [(qt, .inr (5, [.ref qt_water, .ref qt_flakes, .ref qt_flying, .ref qt_leaks, .ref qt_cloudy, .ref qt_content, .ref qt_in, .int v_there, .int v_music, .int v_taxes, .int v_hour]))] sz) r [(qt, .inr (5, [.ref qt_water, .ref qt_flakes, .ref qt_flying, .ref qt_leaks, .ref qt_cloudy, .ref qt_content, .ref qt_in, .int v_there, .int v_music, .int v_taxes, .int v_hour]))]) 0 0 (va_A [(qt, .inr (5, [.ref qt_water, .ref qt_flakes, .ref qt_flying, .ref qt_leaks, .ref qt_cloudy, .ref qt_content, .ref qt_in, .int v_there, .int v_music, .int v_taxes, .int v_hour]))] sz) := by
  refine Met.ofW (cc := cX6_offFrom) (maxL := 6) (ret := (some .int)) (by decide) rfl ?_
  intro p e s m args below meth c s₁ B hml hv
  obtain ⟨hav, hsz, hP, hD0, hE⟩ := hv
  have hx := B.exec
  have hb := B.bytes
  have hr := B.returns
  have hts := atoms_spec (ws := wsX6_offFrom) B.pre
  have hown : s.vm.findClass RX6 = some m.cls := findClass_of_methodNamed B.named
  have hlocks := B.notSynchronized
  subst hsz
  have hD := hD0.self (sz := s.heap.size)
  generalize hAe : va_A [(qt, .inr (5, [.ref qt_water, .ref qt_flakes, .ref qt_flying, .ref qt_leaks, .ref qt_cloudy, .ref qt_content, .ref qt_in, .int v_there, .int v_music, .int v_taxes, .int v_hour]))] s.heap.size = A at hD ⊢
  have hA : ∀ q : Nat, s.heap.size ≤ q → A q := fun q h => by rw [← hAe]; exact Or.inr h
  have hS : va_S A s.heap s.heap [] := va_S.rf
  have hl := lv_entry ([.ref qt, .int p1, .int p2]) (n := 6) (Nat.le_of_ble_eq_true rfl)
  have hfr : entryFrame m args 6 = entryFrame m ([.ref qt, .int p1, .int p2] : List Value).toArray 6 := by rw [hav]
  rw [hfr, lg_entry_eq]
  generalize (lg_sl ([.ref qt, .int p1, .int p2]) ++ List.replicate (6 - (lg_sl ([.ref qt, .int p1, .int p2])).length) Slot.unset).toArray = ls at hl ⊢
  have hl : lv_has ls 6 [(0, .ref qt), (1, .int p1), (2, .int p2)] := hl
  obtain ⟨QQ, hQQ⟩ : ∃ QQ, QQ = MQ below (QI D A r [(qt, .inr (5, [.ref qt_water, .ref qt_flakes, .ref qt_flying, .ref qt_leaks, .ref qt_cloudy, .ref qt_content, .ref qt_in, .int v_there, .int v_music, .int v_taxes, .int v_hour]))]) args s 0 0 A := ⟨_, rfl⟩
  show W p l e rm_X6_offFrom s m args below meth c s.heap [] 0 0 _ _
  rw [← hQQ]
  have hL9 : ∀ (n9 : Nat), ∀ (x3 : Int32) (x4 : Int32) (x5 : Int32) (H : Heap) (locs : List Loc) (ls : Array Slot), va_P D vwCl [(qt, .inr (5, [.ref qt_water, .ref qt_flakes, .ref qt_flying, .ref qt_leaks, .ref qt_cloudy, .ref qt_content, .ref qt_in, .int v_there, .int v_music, .int v_taxes, .int v_hour]))] H → va_D A [(qt, .inr (5, [.ref qt_water, .ref qt_flakes, .ref qt_flying, .ref qt_leaks, .ref qt_cloudy, .ref qt_content, .ref qt_in, .int v_there, .int v_music, .int v_taxes, .int v_hour]))] → va_S A s.heap H locs → lv_has ls 6 [(0, .ref qt), (2, .int p2), (3, .int x3), (4, .int x4), (5, .int x5)] → L_X6_offFrom_9 v_there p1 p2 n9 x3 x4 x5 = some r → W p l e rm_X6_offFrom s m args below meth c H locs 0 0 QQ (F0 m 9 ls []) := by
    intro n9
    induction n9 with
    | zero =>
      intro x3 x4 x5 H locs ls hP hD hS hl h
      have h : none = some r := h
      cases h
    | succ n9 ih9 =>
      intro x3 x4 x5 H locs ls hP hD hS hl h
      rw [L_X6_offFrom_9.eq_2] at h
      refine lv_iload hx hb dX6_offFrom_9 (lv_at hl 4 rfl) ?_
      refine lv_if_lt (tgt := 49) hx hb dX6_offFrom_11 (by decide) (fun hc => ?_) (fun hc => ?_)
      · have h := if_t hc h
        refine lv_iload_n hx hb dX6_offFrom_49 rfl (lv_at hl 2 rfl) ?_
        cases h
        rw [hQQ]
        exact gw_iret hx hb hr hlocks hP hD hS dX6_offFrom_50
      · have h := if_f hc h
        refine lv_aload_n hx hb dX6_offFrom_14 rfl (lv_at hl 0 rfl) ?_
        refine lv_iload hx hb dX6_offFrom_15 (lv_at hl 4 rfl) ?_
        obtain ⟨r17, hc17, h⟩ := bd1_some h
        refine gw_ci (wr := []) (w2 := [(qt, .inr (5, [.ref qt_water, .ref qt_flakes, .ref qt_flying, .ref qt_leaks, .ref qt_cloudy, .ref qt_content, .ref qt_in, .int v_there, .int v_music, .int v_taxes, .int v_hour]))]) (gw_rV (n := 1) ⟨hx, hb, hml, hown, hts⟩ (C_X6_has l D cI cJ cZ H.size qt qt_water qt_flakes qt_flying qt_leaks qt_cloudy qt_content qt_in v_there v_music v_taxes v_hour x5 r17 hc17) gX6_offFrom_X6_has rfl rfl rfl hdV_X6_has ⟨Nat.le_of_ble_eq_true rfl, Nat.le_of_ble_eq_true rfl⟩ hE (hP.sub [0] rfl) (hD.sub [0] (by decide) rfl) 5 rfl 0 rfl rfl hl.1 (rest := []) rfl (Nat.le_of_ble_eq_true rfl) dX6_offFrom_17 ⟨Nat.zero_le _, Nat.zero_le _⟩) hP hD hS hA [0] [] rfl rfl rfl (by decide) rfl (fun H locs hP hD hS => ?_)
        refine lv_if_eq (tgt := 36) hx hb dX6_offFrom_20 (by decide) (fun hc => ?_) (fun hc => ?_)
        · have h := if_t hc h
          refine lv_iload hx hb dX6_offFrom_36 (lv_at hl 3 rfl) ?_
          refine lv_bipush (v := 10) hx hb dX6_offFrom_38 (by decide) ?_
          refine lv_idiv hx hb dX6_offFrom_40 (by decide) ?_
          refine lv_istore (lv' := [(4, .int (x4 / (10 : Int32))), (0, .ref qt), (2, .int p2), (3, .int x3), (5, .int x5)]) hx hb dX6_offFrom_41 hl (by decide) rfl (fun ls hl => ?_)
          refine lv_iinc (v := (x5 + (-1 : Int32))) (lv' := [(5, .int (x5 + (-1 : Int32))), (4, .int (x4 / (10 : Int32))), (0, .ref qt), (2, .int p2), (3, .int x3)]) hx hb dX6_offFrom_43 hl (k := 4) rfl rfl (by decide) rfl (fun ls hl => ?_)
          refine lv_goto (tgt := 9) hx hb dX6_offFrom_46 (by decide) ?_
          exact ih9 x3 (x4 / (10 : Int32)) (x5 + (-1 : Int32)) H locs ls hP hD hS (lv_sub hl [2, 3, 4, 1, 0] rfl) h
        · have h := if_f hc h
          refine lv_iload_n hx hb dX6_offFrom_23 rfl (lv_at hl 2 rfl) ?_
          refine lv_iload hx hb dX6_offFrom_24 (lv_at hl 3 rfl) ?_
          refine lv_bipush (v := 10) hx hb dX6_offFrom_26 (by decide) ?_
          refine gw_irem hx hb dX6_offFrom_28 (by decide) ?_
          refine lv_iload_n hx hb dX6_offFrom_29 rfl (lv_at hl 1 rfl) ?_
          refine lv_isub hx hb dX6_offFrom_30 ?_
          refine gw_abs hx hb (hml.trans hl.1.symm) hown (hts (.methodLink RX6 105 Lib.Math.abs.name) (List.mem_cons_of_mem _ (List.mem_append_left _ (List.mem_of_getElem? (i := 0) rfl)))) (hts (.static Lib.Math.abs.name) (List.mem_cons_of_mem _ (List.mem_append_left _ (List.mem_of_getElem? (i := 1) rfl)))) (hts (.initialized "java/lang/Math") (List.mem_cons_of_mem _ (List.mem_append_left _ (List.mem_of_getElem? (i := 2) rfl)))) (hts (.code Lib.Math.abs.name Lib.Math.abs.code 1 (some .int)) (List.mem_cons_of_mem _ (List.mem_append_left _ (List.mem_of_getElem? (i := 3) rfl)))) (Nat.le_of_ble_eq_true rfl) (Nat.le_of_ble_eq_true rfl) (Nat.zero_le _) (Nat.zero_le _) dX6_offFrom_31 ?_
          refine lv_iadd hx hb dX6_offFrom_34 ?_
          refine lv_istore_n (lv' := [(3, .int (x3 + (jabs ((jrem x4 (10 : Int32)) - p2)))), (0, .ref qt), (2, .int p2), (4, .int x4), (5, .int x5)]) hx hb dX6_offFrom_35 rfl hl (by decide) rfl (fun ls hl => ?_)
          refine lv_iload hx hb dX6_offFrom_36 (lv_at hl 3 rfl) ?_
          refine lv_bipush (v := 10) hx hb dX6_offFrom_38 (by decide) ?_
          refine lv_idiv hx hb dX6_offFrom_40 (by decide) ?_
          refine lv_istore (lv' := [(4, .int (x4 / (10 : Int32))), (3, .int (x3 + (jabs ((jrem x4 (10 : Int32)) - p2)))), (0, .ref qt), (2, .int p2), (5, .int x5)]) hx hb dX6_offFrom_41 hl (by decide) rfl (fun ls hl => ?_)
          refine lv_iinc (v := (x5 + (-1 : Int32))) (lv' := [(5, .int (x5 + (-1 : Int32))), (4, .int (x4 / (10 : Int32))), (3, .int (x3 + (jabs ((jrem x4 (10 : Int32)) - p2)))), (0, .ref qt), (2, .int p2)]) hx hb dX6_offFrom_43 hl (k := 4) rfl rfl (by decide) rfl (fun ls hl => ?_)
          refine lv_goto (tgt := 9) hx hb dX6_offFrom_46 (by decide) ?_
          exact ih9 (x3 + (jabs ((jrem x4 (10 : Int32)) - p2))) (x4 / (10 : Int32)) (x5 + (-1 : Int32)) H locs ls hP hD hS (lv_sub hl [3, 4, 2, 1, 0] rfl) h
  have h := hf
  unfold f_X6_offFrom at h
  refine gw_start hP hD hS (fun H locs hP hD hS => ?_)
  refine lv_iconst (v := 0) hx hb dX6_offFrom_0 (by decide) ?_
  refine lv_istore_n (lv' := [(3, .int (0 : Int32)), (0, .ref qt), (1, .int p1), (2, .int p2)]) hx hb dX6_offFrom_1 rfl hl (by decide) rfl (fun ls hl => ?_)
  refine lv_iload_n hx hb dX6_offFrom_2 rfl (lv_at hl 2 rfl) ?_
  refine lv_istore (lv' := [(4, .int p1), (3, .int (0 : Int32)), (0, .ref qt), (1, .int p1), (2, .int p2)]) hx hb dX6_offFrom_3 hl (by decide) rfl (fun ls hl => ?_)
  refine lv_bipush (v := 7) hx hb dX6_offFrom_5 (by decide) ?_
  refine lv_istore (lv' := [(5, .int (7 : Int32)), (4, .int p1), (3, .int (0 : Int32)), (0, .ref qt), (1, .int p1), (2, .int p2)]) hx hb dX6_offFrom_7 hl (by decide) rfl (fun ls hl => ?_)
  exact hL9 FU (0 : Int32) p1 (7 : Int32) H locs ls hP hD hS (lv_sub hl [3, 5, 2, 1, 0] rfl) h
theorem hdV_X6_offFrom : yX6_offFrom.cls = RX6 ∧ yX6_offFrom.cls ≠ "java/lang/invoke/MethodHandle" ∧ yX6_offFrom.cls ≠ "java/lang/invoke/VarHandle" ∧ (parseMethodDescriptor yX6_offFrom.desc).map (fun d => d.parameters.length) = some 2 := by decide +kernel
def f_X6_toldOf (v_water : (Nat → Int32)) (v_flakes : (Nat → Int32)) (v_flying : (Nat → Int32)) (v_leaks : (Nat → Int32)) (v_cloudy : (Nat → Int32)) (v_content : (Nat → Int32)) (v_in : (Nat → Int32)) (v_there : Int32) (v_music : Int32) (p1 : Int32) (p2 : Int32) : Option (Int32) := (bd1 (f_X6_has v_there p1) (fun r2 => (if r2 = (0 : Int32) then (some (-2 : Int32)) else (if p2 = (0 : Int32) then (gin p1 8 (some (v_water (Int32.toNatClampNeg p1)))) else (if p2 = (1 : Int32) then (gin p1 8 (some (v_flakes (Int32.toNatClampNeg p1)))) else (if p2 = (2 : Int32) then (gin p1 8 (some (v_flying (Int32.toNatClampNeg p1)))) else (if p2 = (3 : Int32) then (gin p1 8 (some (v_leaks (Int32.toNatClampNeg p1)))) else (if p2 = (4 : Int32) then (gin p1 8 (some (v_cloudy (Int32.toNatClampNeg p1)))) else (if p2 = (5 : Int32) then (some ((v_music >>> (p1 &&& 31)) &&& (1 : Int32))) else (if p2 = (6 : Int32) then (gin p1 8 (some (v_content (Int32.toNatClampNeg p1)))) else (if p2 = (7 : Int32) then (bd1 (f_X6_outer v_in v_there p1) (fun r113 => (some r113))) else (some (-2 : Int32)))))))))))))
abbrev rm_X6_toldOf : Room := { frames := 2, cells := 0, slots := 0, locals := 42 }
set_option maxHeartbeats 4000000 in
set_option maxRecDepth 100000 in
theorem C_X6_toldOf (l : Launch) (D : va_G) (cI cJ cZ : ClassId) (sz : Nat) (qt qt_water qt_flakes qt_flying qt_leaks qt_cloudy qt_content qt_in : Nat) (v_water : (Nat → Int32)) (v_flakes : (Nat → Int32)) (v_flying : (Nat → Int32)) (v_leaks : (Nat → Int32)) (v_cloudy : (Nat → Int32)) (v_content : (Nat → Int32)) (v_in : (Nat → Int32)) (v_there : Int32) (v_music : Int32) (v_taxes : Int32) (v_hour : Int32) (p1 : Int32) (p2 : Int32) (r : Int32) (hf : f_X6_toldOf v_water v_flakes v_flying v_leaks v_cloudy v_content v_in v_there v_music p1 p2 = some r) : Met l yX6_toldOf wsX6_toldOf rm_X6_toldOf (PR D cI cJ cZ [(qt, .inr (5, [.ref qt_water, .ref qt_flakes, .ref qt_flying, .ref qt_leaks, .ref qt_cloudy, .ref qt_content, .ref qt_in, .int v_there, .int v_music, .int v_taxes, .int v_hour])), (qt_water, .inl (cI, 8, .inl v_water)), (qt_flakes, .inl (cI, 8, .inl v_flakes)), (qt_flying, .inl (cI, 8, .inl v_flying)), (qt_leaks, .inl (cI, 8, .inl v_leaks)), (qt_cloudy, .inl (cI, 8, .inl v_cloudy)), (qt_content, .inl (cI, 8, .inl v_content)), (qt_in, .inl (cI, 8, .inl v_in))] sz [.ref qt, .int p1, .int p2]) (QI D (va_A [(qt, .inr (5, [.ref qt_water, .ref qt_flakes, .ref qt_flying, .ref qt_leaks, .ref qt_cloudy, .ref qt_content, .ref qt_in, .int v_there, .int v_music, .int v_taxes, .int v_hour])), (qt_water, .inl (cI, 8, .inl v_water)), (qt_flakes, .inl (cI, 8, .inl v_flakes)), (qt_flying, .inl (cI, 8, .inl v_flying)), (qt_leaks, .inl (cI, 8, .inl v_leaks)), (qt_cloudy, .inl (cI, 8, .inl v_cloudy)), (qt_content, .inl (cI, 8, .inl v_content)), (qt_in, .inl (cI, 8, .inl v_in))] sz) r [(qt, .inr (5, [.ref qt_water, .ref qt_flakes, .ref qt_flying, .ref qt_leaks, .ref qt_cloudy, .ref qt_content, .ref qt_in, .int v_there, .int v_music, .int v_taxes, .int v_hour])), (qt_water, .inl (cI, 8, .inl v_water)), (qt_flakes, .inl (cI, 8, .inl v_flakes)), (qt_flying, .inl (cI, 8, .inl v_flying)), (qt_leaks, .inl (cI, 8, .inl v_leaks)), (qt_cloudy, .inl (cI, 8, .inl v_cloudy)), (qt_content, .inl (cI, 8, .inl v_content)), (qt_in, .inl (cI, 8, .inl v_in))]) 0 0 (va_A [(qt, .inr (5, [.ref qt_water, .ref qt_flakes, .ref qt_flying, .ref qt_leaks, .ref qt_cloudy, .ref qt_content, .ref qt_in, .int v_there, .int v_music, .int v_taxes, .int v_hour])), (qt_water, .inl (cI, 8, .inl v_water)), (qt_flakes, .inl (cI, 8, .inl v_flakes)), (qt_flying, .inl (cI, 8, .inl v_flying)), (qt_leaks, .inl (cI, 8, .inl v_leaks)), (qt_cloudy, .inl (cI, 8, .inl v_cloudy)), (qt_content, .inl (cI, 8, .inl v_content)), (qt_in, .inl (cI, 8, .inl v_in))] sz) := by
  refine Met.ofW (cc := cX6_toldOf) (maxL := 3) (ret := (some .int)) (by decide) rfl ?_
  intro p e s m args below meth c s₁ B hml hv
  obtain ⟨hav, hsz, hP, hD0, hE⟩ := hv
  have hx := B.exec
  have hb := B.bytes
  have hr := B.returns
  have hts := atoms_spec (ws := wsX6_toldOf) B.pre
  have hown : s.vm.findClass RX6 = some m.cls := findClass_of_methodNamed B.named
  have hlocks := B.notSynchronized
  subst hsz
  have hD := hD0.self (sz := s.heap.size)
  generalize hAe : va_A [(qt, .inr (5, [.ref qt_water, .ref qt_flakes, .ref qt_flying, .ref qt_leaks, .ref qt_cloudy, .ref qt_content, .ref qt_in, .int v_there, .int v_music, .int v_taxes, .int v_hour])), (qt_water, .inl (cI, 8, .inl v_water)), (qt_flakes, .inl (cI, 8, .inl v_flakes)), (qt_flying, .inl (cI, 8, .inl v_flying)), (qt_leaks, .inl (cI, 8, .inl v_leaks)), (qt_cloudy, .inl (cI, 8, .inl v_cloudy)), (qt_content, .inl (cI, 8, .inl v_content)), (qt_in, .inl (cI, 8, .inl v_in))] s.heap.size = A at hD ⊢
  have hA : ∀ q : Nat, s.heap.size ≤ q → A q := fun q h => by rw [← hAe]; exact Or.inr h
  have hS : va_S A s.heap s.heap [] := va_S.rf
  have hl := lv_entry ([.ref qt, .int p1, .int p2]) (n := 3) (Nat.le_of_ble_eq_true rfl)
  have hfr : entryFrame m args 3 = entryFrame m ([.ref qt, .int p1, .int p2] : List Value).toArray 3 := by rw [hav]
  rw [hfr, lg_entry_eq]
  generalize (lg_sl ([.ref qt, .int p1, .int p2]) ++ List.replicate (3 - (lg_sl ([.ref qt, .int p1, .int p2])).length) Slot.unset).toArray = ls at hl ⊢
  have hl : lv_has ls 3 [(0, .ref qt), (1, .int p1), (2, .int p2)] := hl
  obtain ⟨QQ, hQQ⟩ : ∃ QQ, QQ = MQ below (QI D A r [(qt, .inr (5, [.ref qt_water, .ref qt_flakes, .ref qt_flying, .ref qt_leaks, .ref qt_cloudy, .ref qt_content, .ref qt_in, .int v_there, .int v_music, .int v_taxes, .int v_hour])), (qt_water, .inl (cI, 8, .inl v_water)), (qt_flakes, .inl (cI, 8, .inl v_flakes)), (qt_flying, .inl (cI, 8, .inl v_flying)), (qt_leaks, .inl (cI, 8, .inl v_leaks)), (qt_cloudy, .inl (cI, 8, .inl v_cloudy)), (qt_content, .inl (cI, 8, .inl v_content)), (qt_in, .inl (cI, 8, .inl v_in))]) args s 0 0 A := ⟨_, rfl⟩
  show W p l e rm_X6_toldOf s m args below meth c s.heap [] 0 0 _ _
  rw [← hQQ]
  have h := hf
  unfold f_X6_toldOf at h
  refine gw_start hP hD hS (fun H locs hP hD hS => ?_)
  refine lv_aload_n hx hb dX6_toldOf_0 rfl (lv_at hl 0 rfl) ?_
  refine lv_iload_n hx hb dX6_toldOf_1 rfl (lv_at hl 1 rfl) ?_
  obtain ⟨r2, hc2, h⟩ := bd1_some h
  refine gw_ci (wr := [(qt_water, .inl (cI, 8, .inl v_water)), (qt_flakes, .inl (cI, 8, .inl v_flakes)), (qt_flying, .inl (cI, 8, .inl v_flying)), (qt_leaks, .inl (cI, 8, .inl v_leaks)), (qt_cloudy, .inl (cI, 8, .inl v_cloudy)), (qt_content, .inl (cI, 8, .inl v_content)), (qt_in, .inl (cI, 8, .inl v_in))]) (w2 := [(qt_water, .inl (cI, 8, .inl v_water)), (qt_flakes, .inl (cI, 8, .inl v_flakes)), (qt_flying, .inl (cI, 8, .inl v_flying)), (qt_leaks, .inl (cI, 8, .inl v_leaks)), (qt_cloudy, .inl (cI, 8, .inl v_cloudy)), (qt_content, .inl (cI, 8, .inl v_content)), (qt_in, .inl (cI, 8, .inl v_in)), (qt, .inr (5, [.ref qt_water, .ref qt_flakes, .ref qt_flying, .ref qt_leaks, .ref qt_cloudy, .ref qt_content, .ref qt_in, .int v_there, .int v_music, .int v_taxes, .int v_hour]))]) (gw_rV (n := 1) ⟨hx, hb, hml, hown, hts⟩ (C_X6_has l D cI cJ cZ H.size qt qt_water qt_flakes qt_flying qt_leaks qt_cloudy qt_content qt_in v_there v_music v_taxes v_hour p1 r2 hc2) gX6_toldOf_X6_has rfl rfl rfl hdV_X6_has ⟨Nat.le_of_ble_eq_true rfl, Nat.le_of_ble_eq_true rfl⟩ hE (hP.sub [0] rfl) (hD.sub [0] (by decide) rfl) 5 rfl 0 rfl rfl hl.1 (rest := []) rfl (Nat.le_of_ble_eq_true rfl) dX6_toldOf_2 ⟨Nat.zero_le _, Nat.zero_le _⟩) hP hD hS hA [0] [1, 2, 3, 4, 5, 6, 7] rfl rfl rfl (by decide) rfl (fun H locs hP hD hS => ?_)
  refine lv_if_ne (tgt := 11) hx hb dX6_toldOf_5 (by decide) (fun hc => ?_) (fun hc => ?_)
  · have h := if_f hc h
    refine lv_iload_n hx hb dX6_toldOf_11 rfl (lv_at hl 2 rfl) ?_
    by_cases hk0 : p2 = (0 : Int32)
    · have h := if_t hk0 h
      refine lv_tableIn (off := 48) (tgt := 60) hx hb dX6_toldOf_12 (by rw [hk0]; decide) (by rw [hk0]; decide) (by rw [hk0]; decide) (by decide) ?_
      refine lv_aload_n hx hb dX6_toldOf_60 rfl (lv_at hl 0 rfl) ?_
      refine va_get (D := D) (ci := 5) (C := RX6) (T := TX6) (N := 11) hx hb hts (fun _ hw => (List.mem_cons_of_mem _ (List.mem_append_right _ hw))) hown hE.1 hP 7 rfl rfl 0 (by decide) (hts (.fieldLink RX6 9 "GlobeCrown$Shelf" "water" "[I") (List.mem_cons_of_mem _ (List.mem_append_left _ (List.mem_of_getElem? (i := 0) rfl)))) (fun _ h9 => h9) rfl dX6_toldOf_61 ?_
      refine lv_iload_n hx hb dX6_toldOf_64 rfl (lv_at hl 1 rfl) ?_
      obtain ⟨hg, h⟩ := gin_some h
      refine va_iald hx hb hE.1 hP 0 0 rfl rfl hg dX6_toldOf_65 ?_
      cases h
      rw [hQQ]
      exact gw_iret hx hb hr hlocks (hP.sub [7, 0, 1, 2, 3, 4, 5, 6] rfl) (hD.sub [7, 0, 1, 2, 3, 4, 5, 6] (by decide) rfl) hS dX6_toldOf_66
    · have h := if_f hk0 h
      by_cases hk1 : p2 = (1 : Int32)
      · have h := if_t hk1 h
        refine lv_tableIn (off := 55) (tgt := 67) hx hb dX6_toldOf_12 (by rw [hk1]; decide) (by rw [hk1]; decide) (by rw [hk1]; decide) (by decide) ?_
        refine lv_aload_n hx hb dX6_toldOf_67 rfl (lv_at hl 0 rfl) ?_
        refine va_get (D := D) (ci := 5) (C := RX6) (T := TX6) (N := 11) hx hb hts (fun _ hw => (List.mem_cons_of_mem _ (List.mem_append_right _ hw))) hown hE.1 hP 7 rfl rfl 1 (by decide) (hts (.fieldLink RX6 15 "GlobeCrown$Shelf" "flakes" "[I") (List.mem_cons_of_mem _ (List.mem_append_left _ (List.mem_of_getElem? (i := 1) rfl)))) (fun _ h9 => h9) rfl dX6_toldOf_68 ?_
        refine lv_iload_n hx hb dX6_toldOf_71 rfl (lv_at hl 1 rfl) ?_
        obtain ⟨hg, h⟩ := gin_some h
        refine va_iald hx hb hE.1 hP 1 0 rfl rfl hg dX6_toldOf_72 ?_
        cases h
        rw [hQQ]
        exact gw_iret hx hb hr hlocks (hP.sub [7, 0, 1, 2, 3, 4, 5, 6] rfl) (hD.sub [7, 0, 1, 2, 3, 4, 5, 6] (by decide) rfl) hS dX6_toldOf_73
      · have h := if_f hk1 h
        by_cases hk2 : p2 = (2 : Int32)
        · have h := if_t hk2 h
          refine lv_tableIn (off := 62) (tgt := 74) hx hb dX6_toldOf_12 (by rw [hk2]; decide) (by rw [hk2]; decide) (by rw [hk2]; decide) (by decide) ?_
          refine lv_aload_n hx hb dX6_toldOf_74 rfl (lv_at hl 0 rfl) ?_
          refine va_get (D := D) (ci := 5) (C := RX6) (T := TX6) (N := 11) hx hb hts (fun _ hw => (List.mem_cons_of_mem _ (List.mem_append_right _ hw))) hown hE.1 hP 7 rfl rfl 2 (by decide) (hts (.fieldLink RX6 18 "GlobeCrown$Shelf" "flying" "[I") (List.mem_cons_of_mem _ (List.mem_append_left _ (List.mem_of_getElem? (i := 2) rfl)))) (fun _ h9 => h9) rfl dX6_toldOf_75 ?_
          refine lv_iload_n hx hb dX6_toldOf_78 rfl (lv_at hl 1 rfl) ?_
          obtain ⟨hg, h⟩ := gin_some h
          refine va_iald hx hb hE.1 hP 2 0 rfl rfl hg dX6_toldOf_79 ?_
          cases h
          rw [hQQ]
          exact gw_iret hx hb hr hlocks (hP.sub [7, 0, 1, 2, 3, 4, 5, 6] rfl) (hD.sub [7, 0, 1, 2, 3, 4, 5, 6] (by decide) rfl) hS dX6_toldOf_80
        · have h := if_f hk2 h
          by_cases hk3 : p2 = (3 : Int32)
          · have h := if_t hk3 h
            refine lv_tableIn (off := 69) (tgt := 81) hx hb dX6_toldOf_12 (by rw [hk3]; decide) (by rw [hk3]; decide) (by rw [hk3]; decide) (by decide) ?_
            refine lv_aload_n hx hb dX6_toldOf_81 rfl (lv_at hl 0 rfl) ?_
            refine va_get (D := D) (ci := 5) (C := RX6) (T := TX6) (N := 11) hx hb hts (fun _ hw => (List.mem_cons_of_mem _ (List.mem_append_right _ hw))) hown hE.1 hP 7 rfl rfl 3 (by decide) (hts (.fieldLink RX6 21 "GlobeCrown$Shelf" "leaks" "[I") (List.mem_cons_of_mem _ (List.mem_append_left _ (List.mem_of_getElem? (i := 3) rfl)))) (fun _ h9 => h9) rfl dX6_toldOf_82 ?_
            refine lv_iload_n hx hb dX6_toldOf_85 rfl (lv_at hl 1 rfl) ?_
            obtain ⟨hg, h⟩ := gin_some h
            refine va_iald hx hb hE.1 hP 3 0 rfl rfl hg dX6_toldOf_86 ?_
            cases h
            rw [hQQ]
            exact gw_iret hx hb hr hlocks (hP.sub [7, 0, 1, 2, 3, 4, 5, 6] rfl) (hD.sub [7, 0, 1, 2, 3, 4, 5, 6] (by decide) rfl) hS dX6_toldOf_87
          · have h := if_f hk3 h
            by_cases hk4 : p2 = (4 : Int32)
            · have h := if_t hk4 h
              refine lv_tableIn (off := 76) (tgt := 88) hx hb dX6_toldOf_12 (by rw [hk4]; decide) (by rw [hk4]; decide) (by rw [hk4]; decide) (by decide) ?_
              refine lv_aload_n hx hb dX6_toldOf_88 rfl (lv_at hl 0 rfl) ?_
              refine va_get (D := D) (ci := 5) (C := RX6) (T := TX6) (N := 11) hx hb hts (fun _ hw => (List.mem_cons_of_mem _ (List.mem_append_right _ hw))) hown hE.1 hP 7 rfl rfl 4 (by decide) (hts (.fieldLink RX6 24 "GlobeCrown$Shelf" "cloudy" "[I") (List.mem_cons_of_mem _ (List.mem_append_left _ (List.mem_of_getElem? (i := 4) rfl)))) (fun _ h9 => h9) rfl dX6_toldOf_89 ?_
              refine lv_iload_n hx hb dX6_toldOf_92 rfl (lv_at hl 1 rfl) ?_
              obtain ⟨hg, h⟩ := gin_some h
              refine va_iald hx hb hE.1 hP 4 0 rfl rfl hg dX6_toldOf_93 ?_
              cases h
              rw [hQQ]
              exact gw_iret hx hb hr hlocks (hP.sub [7, 0, 1, 2, 3, 4, 5, 6] rfl) (hD.sub [7, 0, 1, 2, 3, 4, 5, 6] (by decide) rfl) hS dX6_toldOf_94
            · have h := if_f hk4 h
              by_cases hk5 : p2 = (5 : Int32)
              · have h := if_t hk5 h
                refine lv_tableIn (off := 83) (tgt := 95) hx hb dX6_toldOf_12 (by rw [hk5]; decide) (by rw [hk5]; decide) (by rw [hk5]; decide) (by decide) ?_
                refine lv_aload_n hx hb dX6_toldOf_95 rfl (lv_at hl 0 rfl) ?_
                refine va_get (D := D) (ci := 5) (C := RX6) (T := TX6) (N := 11) hx hb hts (fun _ hw => (List.mem_cons_of_mem _ (List.mem_append_right _ hw))) hown hE.1 hP 7 rfl rfl 8 (by decide) (hts (.fieldLink RX6 43 "GlobeCrown$Shelf" "music" "I") (List.mem_cons_of_mem _ (List.mem_append_left _ (List.mem_of_getElem? (i := 5) rfl)))) (fun _ h9 => h9) rfl dX6_toldOf_96 ?_
                refine lv_iload_n hx hb dX6_toldOf_99 rfl (lv_at hl 1 rfl) ?_
                refine lv_ishr hx hb dX6_toldOf_100 ?_
                refine lv_iconst (v := 1) hx hb dX6_toldOf_101 (by decide) ?_
                refine lv_iand hx hb dX6_toldOf_102 ?_
                cases h
                rw [hQQ]
                exact gw_iret hx hb hr hlocks (hP.sub [7, 0, 1, 2, 3, 4, 5, 6] rfl) (hD.sub [7, 0, 1, 2, 3, 4, 5, 6] (by decide) rfl) hS dX6_toldOf_103
              · have h := if_f hk5 h
                by_cases hk6 : p2 = (6 : Int32)
                · have h := if_t hk6 h
                  refine lv_tableIn (off := 92) (tgt := 104) hx hb dX6_toldOf_12 (by rw [hk6]; decide) (by rw [hk6]; decide) (by rw [hk6]; decide) (by decide) ?_
                  refine lv_aload_n hx hb dX6_toldOf_104 rfl (lv_at hl 0 rfl) ?_
                  refine va_get (D := D) (ci := 5) (C := RX6) (T := TX6) (N := 11) hx hb hts (fun _ hw => (List.mem_cons_of_mem _ (List.mem_append_right _ hw))) hown hE.1 hP 7 rfl rfl 5 (by decide) (hts (.fieldLink RX6 27 "GlobeCrown$Shelf" "content" "[I") (List.mem_cons_of_mem _ (List.mem_append_left _ (List.mem_of_getElem? (i := 6) rfl)))) (fun _ h9 => h9) rfl dX6_toldOf_105 ?_
                  refine lv_iload_n hx hb dX6_toldOf_108 rfl (lv_at hl 1 rfl) ?_
                  obtain ⟨hg, h⟩ := gin_some h
                  refine va_iald hx hb hE.1 hP 5 0 rfl rfl hg dX6_toldOf_109 ?_
                  cases h
                  rw [hQQ]
                  exact gw_iret hx hb hr hlocks (hP.sub [7, 0, 1, 2, 3, 4, 5, 6] rfl) (hD.sub [7, 0, 1, 2, 3, 4, 5, 6] (by decide) rfl) hS dX6_toldOf_110
                · have h := if_f hk6 h
                  by_cases hk7 : p2 = (7 : Int32)
                  · have h := if_t hk7 h
                    refine lv_tableIn (off := 99) (tgt := 111) hx hb dX6_toldOf_12 (by rw [hk7]; decide) (by rw [hk7]; decide) (by rw [hk7]; decide) (by decide) ?_
                    refine lv_aload_n hx hb dX6_toldOf_111 rfl (lv_at hl 0 rfl) ?_
                    refine lv_iload_n hx hb dX6_toldOf_112 rfl (lv_at hl 1 rfl) ?_
                    obtain ⟨r113, hc113, h⟩ := bd1_some h
                    refine gw_ci (wr := [(qt_water, .inl (cI, 8, .inl v_water)), (qt_flakes, .inl (cI, 8, .inl v_flakes)), (qt_flying, .inl (cI, 8, .inl v_flying)), (qt_leaks, .inl (cI, 8, .inl v_leaks)), (qt_cloudy, .inl (cI, 8, .inl v_cloudy)), (qt_content, .inl (cI, 8, .inl v_content))]) (w2 := [(qt_water, .inl (cI, 8, .inl v_water)), (qt_flakes, .inl (cI, 8, .inl v_flakes)), (qt_flying, .inl (cI, 8, .inl v_flying)), (qt_leaks, .inl (cI, 8, .inl v_leaks)), (qt_cloudy, .inl (cI, 8, .inl v_cloudy)), (qt_content, .inl (cI, 8, .inl v_content)), (qt, .inr (5, [.ref qt_water, .ref qt_flakes, .ref qt_flying, .ref qt_leaks, .ref qt_cloudy, .ref qt_content, .ref qt_in, .int v_there, .int v_music, .int v_taxes, .int v_hour])), (qt_in, .inl (cI, 8, .inl v_in))]) (gw_rV (n := 1) ⟨hx, hb, hml, hown, hts⟩ (C_X6_outer l D cI cJ cZ H.size qt qt_water qt_flakes qt_flying qt_leaks qt_cloudy qt_content qt_in v_in v_there v_music v_taxes v_hour p1 r113 hc113) gX6_toldOf_X6_outer rfl rfl rfl hdV_X6_outer ⟨Nat.le_of_ble_eq_true rfl, Nat.le_of_ble_eq_true rfl⟩ hE (hP.sub [7, 6] rfl) (hD.sub [7, 6] (by decide) rfl) 5 rfl 0 rfl rfl hl.1 (rest := []) rfl (Nat.le_of_ble_eq_true rfl) dX6_toldOf_113 ⟨Nat.zero_le _, Nat.zero_le _⟩) hP hD hS hA [7, 6] [0, 1, 2, 3, 4, 5] rfl rfl rfl (by decide) rfl (fun H locs hP hD hS => ?_)
                    cases h
                    rw [hQQ]
                    exact gw_iret hx hb hr hlocks (hP.sub [6, 0, 1, 2, 3, 4, 5, 7] rfl) (hD.sub [6, 0, 1, 2, 3, 4, 5, 7] (by decide) rfl) hS dX6_toldOf_116
                  · have h := if_f hk7 h
                    refine lv_tableOut (tgt := 117) hx hb dX6_toldOf_12 (by have e0 := lv_neT hk0 (a := 0) (by decide); have e1 := lv_neT hk1 (a := 1) (by decide); have e2 := lv_neT hk2 (a := 2) (by decide); have e3 := lv_neT hk3 (a := 3) (by decide); have e4 := lv_neT hk4 (a := 4) (by decide); have e5 := lv_neT hk5 (a := 5) (by decide); have e6 := lv_neT hk6 (a := 6) (by decide); have e7 := lv_neT hk7 (a := 7) (by decide); omega) (by decide) ?_
                    refine lv_bipush (v := -2) hx hb dX6_toldOf_117 (by decide) ?_
                    cases h
                    rw [hQQ]
                    exact gw_iret hx hb hr hlocks (hP.sub [7, 0, 1, 2, 3, 4, 5, 6] rfl) (hD.sub [7, 0, 1, 2, 3, 4, 5, 6] (by decide) rfl) hS dX6_toldOf_119
  · have h := if_t hc h
    refine lv_bipush (v := -2) hx hb dX6_toldOf_8 (by decide) ?_
    cases h
    rw [hQQ]
    exact gw_iret hx hb hr hlocks (hP.sub [7, 0, 1, 2, 3, 4, 5, 6] rfl) (hD.sub [7, 0, 1, 2, 3, 4, 5, 6] (by decide) rfl) hS dX6_toldOf_10
theorem hdV_X6_toldOf : yX6_toldOf.cls = RX6 ∧ yX6_toldOf.cls ≠ "java/lang/invoke/MethodHandle" ∧ yX6_toldOf.cls ≠ "java/lang/invoke/VarHandle" ∧ (parseMethodDescriptor yX6_toldOf.desc).map (fun d => d.parameters.length) = some 2 := by decide +kernel
def f_X7_add (v_hours : (Nat → Int32)) (v_flying : (Nat → Int32)) (v_size : Int32) (p1 : Int32) (p2 : Int32) : Option (Int32 × (Nat → Int32) × (Nat → Int32) × Int32) := (if v_size < (0 : Int32) then (some ((0 : Int32), v_hours, v_flying, v_size)) else (if v_size < (8 : Int32) then (gin v_size 8 (gin v_size 8 (some ((1 : Int32), (upd v_hours (Int32.toNatClampNeg v_size) p1), (upd v_flying (Int32.toNatClampNeg v_size) p2), (v_size + (1 : Int32)))))) else (some ((0 : Int32), v_hours, v_flying, v_size))))
abbrev rm_X7_add : Room := { frames := 0, cells := 0, slots := 0, locals := 0 }
set_option maxHeartbeats 4000000 in
set_option maxRecDepth 100000 in
theorem C_X7_add (l : Launch) (D : va_G) (cI cJ cZ : ClassId) (sz : Nat) (qt qt_hours qt_flying : Nat) (v_hours : (Nat → Int32)) (v_flying : (Nat → Int32)) (v_size : Int32) (p1 : Int32) (p2 : Int32) (r : Int32) (w_hours : (Nat → Int32)) (w_flying : (Nat → Int32)) (w_size : Int32) (hf : f_X7_add v_hours v_flying v_size p1 p2 = some (r, w_hours, w_flying, w_size)) : Met l yX7_add wsX7_add rm_X7_add (PR D cI cJ cZ [(qt, .inr (6, [.ref qt_hours, .ref qt_flying, .int v_size])), (qt_hours, .inl (cI, 8, .inl v_hours)), (qt_flying, .inl (cI, 8, .inl v_flying))] sz [.ref qt, .int p1, .int p2]) (QI D (va_A [(qt, .inr (6, [.ref qt_hours, .ref qt_flying, .int v_size])), (qt_hours, .inl (cI, 8, .inl v_hours)), (qt_flying, .inl (cI, 8, .inl v_flying))] sz) r [(qt, .inr (6, [.ref qt_hours, .ref qt_flying, .int w_size])), (qt_hours, .inl (cI, 8, .inl w_hours)), (qt_flying, .inl (cI, 8, .inl w_flying))]) 0 0 (va_A [(qt, .inr (6, [.ref qt_hours, .ref qt_flying, .int v_size])), (qt_hours, .inl (cI, 8, .inl v_hours)), (qt_flying, .inl (cI, 8, .inl v_flying))] sz) := by
  refine Met.ofW (cc := cX7_add) (maxL := 3) (ret := (some .boolean)) (by decide) rfl ?_
  intro p e s m args below meth c s₁ B hml hv
  obtain ⟨hav, hsz, hP, hD0, hE⟩ := hv
  have hx := B.exec
  have hb := B.bytes
  have hr := B.returns
  have hts := atoms_spec (ws := wsX7_add) B.pre
  have hown : s.vm.findClass RX7 = some m.cls := findClass_of_methodNamed B.named
  have hlocks := B.notSynchronized
  subst hsz
  have hD := hD0.self (sz := s.heap.size)
  generalize hAe : va_A [(qt, .inr (6, [.ref qt_hours, .ref qt_flying, .int v_size])), (qt_hours, .inl (cI, 8, .inl v_hours)), (qt_flying, .inl (cI, 8, .inl v_flying))] s.heap.size = A at hD ⊢
  have hA : ∀ q : Nat, s.heap.size ≤ q → A q := fun q h => by rw [← hAe]; exact Or.inr h
  have hS : va_S A s.heap s.heap [] := va_S.rf
  have hl := lv_entry ([.ref qt, .int p1, .int p2]) (n := 3) (Nat.le_of_ble_eq_true rfl)
  have hfr : entryFrame m args 3 = entryFrame m ([.ref qt, .int p1, .int p2] : List Value).toArray 3 := by rw [hav]
  rw [hfr, lg_entry_eq]
  generalize (lg_sl ([.ref qt, .int p1, .int p2]) ++ List.replicate (3 - (lg_sl ([.ref qt, .int p1, .int p2])).length) Slot.unset).toArray = ls at hl ⊢
  have hl : lv_has ls 3 [(0, .ref qt), (1, .int p1), (2, .int p2)] := hl
  obtain ⟨QQ, hQQ⟩ : ∃ QQ, QQ = MQ below (QI D A r [(qt, .inr (6, [.ref qt_hours, .ref qt_flying, .int w_size])), (qt_hours, .inl (cI, 8, .inl w_hours)), (qt_flying, .inl (cI, 8, .inl w_flying))]) args s 0 0 A := ⟨_, rfl⟩
  show W p l e rm_X7_add s m args below meth c s.heap [] 0 0 _ _
  rw [← hQQ]
  have h := hf
  unfold f_X7_add at h
  refine gw_start hP hD hS (fun H locs hP hD hS => ?_)
  refine lv_aload_n hx hb dX7_add_0 rfl (lv_at hl 0 rfl) ?_
  refine va_get (D := D) (ci := 6) (C := RX7) (T := TX7) (N := 3) hx hb hts (fun _ hw => (List.mem_cons_of_mem _ (List.mem_append_right _ hw))) hown hE.1 hP 0 rfl rfl 2 (by decide) (hts (.fieldLink RX7 24 "GlobeCrown$Sights" "size" "I") (List.mem_cons_of_mem _ (List.mem_append_left _ (List.mem_of_getElem? (i := 0) rfl)))) (fun _ h9 => h9) rfl dX7_add_1 ?_
  refine lv_if_lt (tgt := 16) hx hb dX7_add_4 (by decide) (fun hc => ?_) (fun hc => ?_)
  · have h := if_t hc h
    refine lv_iconst (v := 0) hx hb dX7_add_16 (by decide) ?_
    cases h
    rw [hQQ]
    exact gw_zret hx hb hr hlocks (by decide) hP hD hS dX7_add_17
  · have h := if_f hc h
    refine lv_aload_n hx hb dX7_add_7 rfl (lv_at hl 0 rfl) ?_
    refine va_get (D := D) (ci := 6) (C := RX7) (T := TX7) (N := 3) hx hb hts (fun _ hw => (List.mem_cons_of_mem _ (List.mem_append_right _ hw))) hown hE.1 hP 0 rfl rfl 2 (by decide) (hts (.fieldLink RX7 24 "GlobeCrown$Sights" "size" "I") (List.mem_cons_of_mem _ (List.mem_append_left _ (List.mem_of_getElem? (i := 0) rfl)))) (fun _ h9 => h9) rfl dX7_add_8 ?_
    refine lv_bipush (v := 8) hx hb dX7_add_11 (by decide) ?_
    refine lv_icmp_lt (tgt := 18) hx hb dX7_add_13 (by decide) (fun hc => ?_) (fun hc => ?_)
    · have h := if_t hc h
      refine lv_aload_n hx hb dX7_add_18 rfl (lv_at hl 0 rfl) ?_
      refine va_get (D := D) (ci := 6) (C := RX7) (T := TX7) (N := 3) hx hb hts (fun _ hw => (List.mem_cons_of_mem _ (List.mem_append_right _ hw))) hown hE.1 hP 0 rfl rfl 0 (by decide) (hts (.fieldLink RX7 9 "GlobeCrown$Sights" "hours" "[I") (List.mem_cons_of_mem _ (List.mem_append_left _ (List.mem_of_getElem? (i := 1) rfl)))) (fun _ h9 => h9) rfl dX7_add_19 ?_
      refine lv_aload_n hx hb dX7_add_22 rfl (lv_at hl 0 rfl) ?_
      refine va_get (D := D) (ci := 6) (C := RX7) (T := TX7) (N := 3) hx hb hts (fun _ hw => (List.mem_cons_of_mem _ (List.mem_append_right _ hw))) hown hE.1 hP 0 rfl rfl 2 (by decide) (hts (.fieldLink RX7 24 "GlobeCrown$Sights" "size" "I") (List.mem_cons_of_mem _ (List.mem_append_left _ (List.mem_of_getElem? (i := 0) rfl)))) (fun _ h9 => h9) rfl dX7_add_23 ?_
      refine lv_iload_n hx hb dX7_add_26 rfl (lv_at hl 1 rfl) ?_
      obtain ⟨hg, h⟩ := gin_some h
      refine va_iast hx hb hE.1 hP hD hS 1 0 rfl rfl hg dX7_add_27 (fun H locs (hP : va_P D vwCl [(qt, .inr (6, [.ref qt_hours, .ref qt_flying, .int v_size])), (qt_hours, .inl (cI, 8, .inl (upd v_hours (Int32.toNatClampNeg v_size) p1))), (qt_flying, .inl (cI, 8, .inl v_flying))] H) (hD : va_D A [(qt, .inr (6, [.ref qt_hours, .ref qt_flying, .int v_size])), (qt_hours, .inl (cI, 8, .inl (upd v_hours (Int32.toNatClampNeg v_size) p1))), (qt_flying, .inl (cI, 8, .inl v_flying))]) hS => ?_)
      refine lv_aload_n hx hb dX7_add_28 rfl (lv_at hl 0 rfl) ?_
      refine va_get (D := D) (ci := 6) (C := RX7) (T := TX7) (N := 3) hx hb hts (fun _ hw => (List.mem_cons_of_mem _ (List.mem_append_right _ hw))) hown hE.1 hP 0 rfl rfl 1 (by decide) (hts (.fieldLink RX7 15 "GlobeCrown$Sights" "flying" "[I") (List.mem_cons_of_mem _ (List.mem_append_left _ (List.mem_of_getElem? (i := 2) rfl)))) (fun _ h9 => h9) rfl dX7_add_29 ?_
      refine lv_aload_n hx hb dX7_add_32 rfl (lv_at hl 0 rfl) ?_
      refine va_get (D := D) (ci := 6) (C := RX7) (T := TX7) (N := 3) hx hb hts (fun _ hw => (List.mem_cons_of_mem _ (List.mem_append_right _ hw))) hown hE.1 hP 0 rfl rfl 2 (by decide) (hts (.fieldLink RX7 24 "GlobeCrown$Sights" "size" "I") (List.mem_cons_of_mem _ (List.mem_append_left _ (List.mem_of_getElem? (i := 0) rfl)))) (fun _ h9 => h9) rfl dX7_add_33 ?_
      refine lv_iload_n hx hb dX7_add_36 rfl (lv_at hl 2 rfl) ?_
      obtain ⟨hg, h⟩ := gin_some h
      refine va_iast hx hb hE.1 hP hD hS 2 0 rfl rfl hg dX7_add_37 (fun H locs (hP : va_P D vwCl [(qt, .inr (6, [.ref qt_hours, .ref qt_flying, .int v_size])), (qt_hours, .inl (cI, 8, .inl (upd v_hours (Int32.toNatClampNeg v_size) p1))), (qt_flying, .inl (cI, 8, .inl (upd v_flying (Int32.toNatClampNeg v_size) p2)))] H) (hD : va_D A [(qt, .inr (6, [.ref qt_hours, .ref qt_flying, .int v_size])), (qt_hours, .inl (cI, 8, .inl (upd v_hours (Int32.toNatClampNeg v_size) p1))), (qt_flying, .inl (cI, 8, .inl (upd v_flying (Int32.toNatClampNeg v_size) p2)))]) hS => ?_)
      refine lv_aload_n hx hb dX7_add_38 rfl (lv_at hl 0 rfl) ?_
      refine lv_dup hx hb dX7_add_39 rfl ?_
      refine va_get (D := D) (ci := 6) (C := RX7) (T := TX7) (N := 3) hx hb hts (fun _ hw => (List.mem_cons_of_mem _ (List.mem_append_right _ hw))) hown hE.1 hP 0 rfl rfl 2 (by decide) (hts (.fieldLink RX7 24 "GlobeCrown$Sights" "size" "I") (List.mem_cons_of_mem _ (List.mem_append_left _ (List.mem_of_getElem? (i := 0) rfl)))) (fun _ h9 => h9) rfl dX7_add_40 ?_
      refine lv_iconst (v := 1) hx hb dX7_add_43 (by decide) ?_
      refine lv_iadd hx hb dX7_add_44 ?_
      refine va_put (D := D) (ci := 6) (v := .int (v_size + (1 : Int32))) (ty := .int) (C := RX7) (T := TX7) (N := 3) hx hb hts (fun _ hw => (List.mem_cons_of_mem _ (List.mem_append_right _ hw))) tyX7 tyX7_ok nmX7 hown hE.1 hP hD hS 0 rfl rfl 2 (by decide) (hts (.fieldLink RX7 24 "GlobeCrown$Sights" "size" "I") (List.mem_cons_of_mem _ (List.mem_append_left _ (List.mem_of_getElem? (i := 0) rfl)))) (fun _ h9 => h9) rfl (tyX7_ok 2 (by decide)) rfl rfl (Nat.le_of_ble_eq_true rfl) dX7_add_45 (fun H locs (hP : va_P D vwCl [(qt, .inr (6, [.ref qt_hours, .ref qt_flying, .int (v_size + (1 : Int32))])), (qt_hours, .inl (cI, 8, .inl (upd v_hours (Int32.toNatClampNeg v_size) p1))), (qt_flying, .inl (cI, 8, .inl (upd v_flying (Int32.toNatClampNeg v_size) p2)))] H) (hD : va_D A [(qt, .inr (6, [.ref qt_hours, .ref qt_flying, .int (v_size + (1 : Int32))])), (qt_hours, .inl (cI, 8, .inl (upd v_hours (Int32.toNatClampNeg v_size) p1))), (qt_flying, .inl (cI, 8, .inl (upd v_flying (Int32.toNatClampNeg v_size) p2)))]) hS => ?_)
      refine lv_iconst (v := 1) hx hb dX7_add_48 (by decide) ?_
      cases h
      rw [hQQ]
      exact gw_zret hx hb hr hlocks (by decide) hP hD hS dX7_add_49
    · have h := if_f hc h
      refine lv_iconst (v := 0) hx hb dX7_add_16 (by decide) ?_
      cases h
      rw [hQQ]
      exact gw_zret hx hb hr hlocks (by decide) hP hD hS dX7_add_17
theorem hdV_X7_add : yX7_add.cls = RX7 ∧ yX7_add.cls ≠ "java/lang/invoke/MethodHandle" ∧ yX7_add.cls ≠ "java/lang/invoke/VarHandle" ∧ (parseMethodDescriptor yX7_add.desc).map (fun d => d.parameters.length) = some 2 := by decide +kernel
def L_X8_winningGlobe_2 (v_wins : (Nat → Int32)) (v_within : (Nat → Int32)) (p1 : Int32) : Nat → Int32 → Option (Int32)
  | 0, _ => none
  | n + 1, x2 => (if (8 : Int32) ≤ x2 then (some (-6 : Int32)) else (gin x2 8 (if ((p1 >>> (x2 &&& 31)) &&& (1 : Int32)) = (1 : Int32) then (if (p1 &&& ((v_within (Int32.toNatClampNeg x2)) ^^^ (-1 : Int32))) < (0 : Int32) then ((L_X8_winningGlobe_2 v_wins v_within p1 n) (x2 + (1 : Int32))) else (if (256 : Int32) ≤ (p1 &&& ((v_within (Int32.toNatClampNeg x2)) ^^^ (-1 : Int32))) then ((L_X8_winningGlobe_2 v_wins v_within p1 n) (x2 + (1 : Int32))) else (gin (p1 &&& ((v_within (Int32.toNatClampNeg x2)) ^^^ (-1 : Int32))) 256 (if (v_wins (Int32.toNatClampNeg (p1 &&& ((v_within (Int32.toNatClampNeg x2)) ^^^ (-1 : Int32))))) = (0 : Int32) then (some x2) else ((L_X8_winningGlobe_2 v_wins v_within p1 n) (x2 + (1 : Int32))))))) else ((L_X8_winningGlobe_2 v_wins v_within p1 n) (x2 + (1 : Int32))))))
def f_X8_winningGlobe (v_wins : (Nat → Int32)) (v_within : (Nat → Int32)) (p1 : Int32) : Option (Int32) := (L_X8_winningGlobe_2 v_wins v_within p1 FU (0 : Int32))
abbrev rm_X8_winningGlobe : Room := { frames := 0, cells := 0, slots := 0, locals := 0 }
set_option maxHeartbeats 4000000 in
set_option maxRecDepth 100000 in
theorem C_X8_winningGlobe (l : Launch) (D : va_G) (cI cJ cZ : ClassId) (sz : Nat) (qt qt_wins qt_within : Nat) (v_wins : (Nat → Int32)) (v_within : (Nat → Int32)) (p1 : Int32) (r : Int32) (hf : f_X8_winningGlobe v_wins v_within p1 = some r) : Met l yX8_winningGlobe wsX8_winningGlobe rm_X8_winningGlobe (PR D cI cJ cZ [(qt, .inr (7, [.ref qt_wins, .ref qt_within])), (qt_wins, .inl (cZ, 256, .inl v_wins)), (qt_within, .inl (cI, 8, .inl v_within))] sz [.ref qt, .int p1]) (QI D (va_A [(qt, .inr (7, [.ref qt_wins, .ref qt_within])), (qt_wins, .inl (cZ, 256, .inl v_wins)), (qt_within, .inl (cI, 8, .inl v_within))] sz) r [(qt, .inr (7, [.ref qt_wins, .ref qt_within])), (qt_wins, .inl (cZ, 256, .inl v_wins)), (qt_within, .inl (cI, 8, .inl v_within))]) 0 0 (va_A [(qt, .inr (7, [.ref qt_wins, .ref qt_within])), (qt_wins, .inl (cZ, 256, .inl v_wins)), (qt_within, .inl (cI, 8, .inl v_within))] sz) := by
  refine Met.ofW (cc := cX8_winningGlobe) (maxL := 4) (ret := (some .int)) (by decide) rfl ?_
  intro p e s m args below meth c s₁ B hml hv
  obtain ⟨hav, hsz, hP, hD0, hE⟩ := hv
  have hx := B.exec
  have hb := B.bytes
  have hr := B.returns
  have hts := atoms_spec (ws := wsX8_winningGlobe) B.pre
  have hown : s.vm.findClass RX8 = some m.cls := findClass_of_methodNamed B.named
  have hlocks := B.notSynchronized
  subst hsz
  have hD := hD0.self (sz := s.heap.size)
  generalize hAe : va_A [(qt, .inr (7, [.ref qt_wins, .ref qt_within])), (qt_wins, .inl (cZ, 256, .inl v_wins)), (qt_within, .inl (cI, 8, .inl v_within))] s.heap.size = A at hD ⊢
  have hA : ∀ q : Nat, s.heap.size ≤ q → A q := fun q h => by rw [← hAe]; exact Or.inr h
  have hS : va_S A s.heap s.heap [] := va_S.rf
  have hl := lv_entry ([.ref qt, .int p1]) (n := 4) (Nat.le_of_ble_eq_true rfl)
  have hfr : entryFrame m args 4 = entryFrame m ([.ref qt, .int p1] : List Value).toArray 4 := by rw [hav]
  rw [hfr, lg_entry_eq]
  generalize (lg_sl ([.ref qt, .int p1]) ++ List.replicate (4 - (lg_sl ([.ref qt, .int p1])).length) Slot.unset).toArray = ls at hl ⊢
  have hl : lv_has ls 4 [(0, .ref qt), (1, .int p1)] := hl
  obtain ⟨QQ, hQQ⟩ : ∃ QQ, QQ = MQ below (QI D A r [(qt, .inr (7, [.ref qt_wins, .ref qt_within])), (qt_wins, .inl (cZ, 256, .inl v_wins)), (qt_within, .inl (cI, 8, .inl v_within))]) args s 0 0 A := ⟨_, rfl⟩
  show W p l e rm_X8_winningGlobe s m args below meth c s.heap [] 0 0 _ _
  rw [← hQQ]
  have hL2 : ∀ (n2 : Nat), ∀ (x2 : Int32) (H : Heap) (locs : List Loc) (ls : Array Slot), va_P D vwCl [(qt, .inr (7, [.ref qt_wins, .ref qt_within])), (qt_wins, .inl (cZ, 256, .inl v_wins)), (qt_within, .inl (cI, 8, .inl v_within))] H → va_D A [(qt, .inr (7, [.ref qt_wins, .ref qt_within])), (qt_wins, .inl (cZ, 256, .inl v_wins)), (qt_within, .inl (cI, 8, .inl v_within))] → va_S A s.heap H locs → lv_has ls 4 [(0, .ref qt), (1, .int p1), (2, .int x2)] → L_X8_winningGlobe_2 v_wins v_within p1 n2 x2 = some r → W p l e rm_X8_winningGlobe s m args below meth c H locs 0 0 QQ (F0 m 2 ls []) := by
    intro n2
    induction n2 with
    | zero =>
      intro x2 H locs ls hP hD hS hl h
      have h : none = some r := h
      cases h
    | succ n2 ih2 =>
      intro x2 H locs ls hP hD hS hl h
      rw [L_X8_winningGlobe_2.eq_2] at h
      refine lv_iload_n hx hb dX8_winningGlobe_2 rfl (lv_at hl 2 rfl) ?_
      refine lv_bipush (v := 8) hx hb dX8_winningGlobe_3 (by decide) ?_
      refine lv_icmp_ge (tgt := 56) hx hb dX8_winningGlobe_5 (by decide) (fun hc => ?_) (fun hc => ?_)
      · have h := if_t hc h
        refine lv_bipush (v := -6) hx hb dX8_winningGlobe_56 (by decide) ?_
        cases h
        rw [hQQ]
        exact gw_iret hx hb hr hlocks hP hD hS dX8_winningGlobe_58
      · have h := if_f hc h
        refine lv_iload_n hx hb dX8_winningGlobe_8 rfl (lv_at hl 1 rfl) ?_
        refine lv_aload_n hx hb dX8_winningGlobe_9 rfl (lv_at hl 0 rfl) ?_
        refine va_get (D := D) (ci := 7) (C := RX8) (T := TX8) (N := 2) hx hb hts (fun _ hw => (List.mem_cons_of_mem _ (List.mem_append_right _ hw))) hown hE.1 hP 0 rfl rfl 1 (by decide) (hts (.fieldLink RX8 15 "GlobeCrown$Thumbs" "within" "[I") (List.mem_cons_of_mem _ (List.mem_append_left _ (List.mem_of_getElem? (i := 0) rfl)))) (fun _ h9 => h9) rfl dX8_winningGlobe_10 ?_
        refine lv_iload_n hx hb dX8_winningGlobe_13 rfl (lv_at hl 2 rfl) ?_
        obtain ⟨hg, h⟩ := gin_some h
        refine va_iald hx hb hE.1 hP 2 0 rfl rfl hg dX8_winningGlobe_14 ?_
        refine lv_iconst (v := -1) hx hb dX8_winningGlobe_15 (by decide) ?_
        refine lv_ixor hx hb dX8_winningGlobe_16 ?_
        refine lv_iand hx hb dX8_winningGlobe_17 ?_
        refine lv_istore_n (lv' := [(3, .int (p1 &&& ((v_within (Int32.toNatClampNeg x2)) ^^^ (-1 : Int32)))), (0, .ref qt), (1, .int p1), (2, .int x2)]) hx hb dX8_winningGlobe_18 rfl hl (by decide) rfl (fun ls hl => ?_)
        refine lv_iload_n hx hb dX8_winningGlobe_19 rfl (lv_at hl 2 rfl) ?_
        refine lv_iload_n hx hb dX8_winningGlobe_20 rfl (lv_at hl 3 rfl) ?_
        refine lv_ishr hx hb dX8_winningGlobe_21 ?_
        refine lv_iconst (v := 1) hx hb dX8_winningGlobe_22 (by decide) ?_
        refine lv_iand hx hb dX8_winningGlobe_23 ?_
        refine lv_iconst (v := 1) hx hb dX8_winningGlobe_24 (by decide) ?_
        refine lv_icmp_ne (tgt := 50) hx hb dX8_winningGlobe_25 (by decide) (fun hc => ?_) (fun hc => ?_)
        · have h := if_f hc h
          refine lv_iinc (v := (x2 + (1 : Int32))) (lv' := [(2, .int (x2 + (1 : Int32))), (3, .int (p1 &&& ((v_within (Int32.toNatClampNeg x2)) ^^^ (-1 : Int32)))), (0, .ref qt), (1, .int p1)]) hx hb dX8_winningGlobe_50 hl (k := 3) rfl rfl (by decide) rfl (fun ls hl => ?_)
          refine lv_goto (tgt := 2) hx hb dX8_winningGlobe_53 (by decide) ?_
          exact ih2 (x2 + (1 : Int32)) H locs ls hP hD hS (lv_sub hl [2, 3, 0] rfl) h
        · have h := if_t hc h
          refine lv_iload_n hx hb dX8_winningGlobe_28 rfl (lv_at hl 0 rfl) ?_
          refine lv_if_lt (tgt := 50) hx hb dX8_winningGlobe_29 (by decide) (fun hc => ?_) (fun hc => ?_)
          · have h := if_t hc h
            refine lv_iinc (v := (x2 + (1 : Int32))) (lv' := [(2, .int (x2 + (1 : Int32))), (3, .int (p1 &&& ((v_within (Int32.toNatClampNeg x2)) ^^^ (-1 : Int32)))), (0, .ref qt), (1, .int p1)]) hx hb dX8_winningGlobe_50 hl (k := 3) rfl rfl (by decide) rfl (fun ls hl => ?_)
            refine lv_goto (tgt := 2) hx hb dX8_winningGlobe_53 (by decide) ?_
            exact ih2 (x2 + (1 : Int32)) H locs ls hP hD hS (lv_sub hl [2, 3, 0] rfl) h
          · have h := if_f hc h
            refine lv_iload_n hx hb dX8_winningGlobe_32 rfl (lv_at hl 0 rfl) ?_
            refine lv_sipush (v := 256) hx hb dX8_winningGlobe_33 (by decide) ?_
            refine lv_icmp_ge (tgt := 50) hx hb dX8_winningGlobe_36 (by decide) (fun hc => ?_) (fun hc => ?_)
            · have h := if_t hc h
              refine lv_iinc (v := (x2 + (1 : Int32))) (lv' := [(2, .int (x2 + (1 : Int32))), (3, .int (p1 &&& ((v_within (Int32.toNatClampNeg x2)) ^^^ (-1 : Int32)))), (0, .ref qt), (1, .int p1)]) hx hb dX8_winningGlobe_50 hl (k := 3) rfl rfl (by decide) rfl (fun ls hl => ?_)
              refine lv_goto (tgt := 2) hx hb dX8_winningGlobe_53 (by decide) ?_
              exact ih2 (x2 + (1 : Int32)) H locs ls hP hD hS (lv_sub hl [2, 3, 0] rfl) h
            · have h := if_f hc h
              refine lv_aload_n hx hb dX8_winningGlobe_39 rfl (lv_at hl 1 rfl) ?_
              refine va_get (D := D) (ci := 7) (C := RX8) (T := TX8) (N := 2) hx hb hts (fun _ hw => (List.mem_cons_of_mem _ (List.mem_append_right _ hw))) hown hE.1 hP 0 rfl rfl 0 (by decide) (hts (.fieldLink RX8 9 "GlobeCrown$Thumbs" "wins" "[Z") (List.mem_cons_of_mem _ (List.mem_append_left _ (List.mem_of_getElem? (i := 1) rfl)))) (fun _ h9 => h9) rfl dX8_winningGlobe_40 ?_
              refine lv_iload_n hx hb dX8_winningGlobe_43 rfl (lv_at hl 0 rfl) ?_
              obtain ⟨hg, h⟩ := gin_some h
              refine va_zald hx hb hE.1 hP 1 2 rfl rfl hg dX8_winningGlobe_44 ?_
              refine lv_if_ne (tgt := 50) hx hb dX8_winningGlobe_45 (by decide) (fun hc => ?_) (fun hc => ?_)
              · have h := if_f hc h
                refine lv_iinc (v := (x2 + (1 : Int32))) (lv' := [(2, .int (x2 + (1 : Int32))), (3, .int (p1 &&& ((v_within (Int32.toNatClampNeg x2)) ^^^ (-1 : Int32)))), (0, .ref qt), (1, .int p1)]) hx hb dX8_winningGlobe_50 hl (k := 3) rfl rfl (by decide) rfl (fun ls hl => ?_)
                refine lv_goto (tgt := 2) hx hb dX8_winningGlobe_53 (by decide) ?_
                exact ih2 (x2 + (1 : Int32)) H locs ls hP hD hS (lv_sub hl [2, 3, 0] rfl) h
              · have h := if_t hc h
                refine lv_iload_n hx hb dX8_winningGlobe_48 rfl (lv_at hl 3 rfl) ?_
                cases h
                rw [hQQ]
                exact gw_iret hx hb hr hlocks hP hD hS dX8_winningGlobe_49
  have h := hf
  unfold f_X8_winningGlobe at h
  refine gw_start hP hD hS (fun H locs hP hD hS => ?_)
  refine lv_iconst (v := 0) hx hb dX8_winningGlobe_0 (by decide) ?_
  refine lv_istore_n (lv' := [(2, .int (0 : Int32)), (0, .ref qt), (1, .int p1)]) hx hb dX8_winningGlobe_1 rfl hl (by decide) rfl (fun ls hl => ?_)
  exact hL2 FU (0 : Int32) H locs ls hP hD hS (lv_sub hl [1, 2, 0] rfl) h
theorem hdV_X8_winningGlobe : yX8_winningGlobe.cls = RX8 ∧ yX8_winningGlobe.cls ≠ "java/lang/invoke/MethodHandle" ∧ yX8_winningGlobe.cls ≠ "java/lang/invoke/VarHandle" ∧ (parseMethodDescriptor yX8_winningGlobe.desc).map (fun d => d.parameters.length) = some 1 := by decide +kernel
def B_X8_firstTaken_54 (vo1_in : (Nat → Int32)) (vo1_there : Int32) (rec27 : (Nat → Int32) → (Nat → Int32) → Int32 → Option (Int32 × (Nat → Int32) × (Nat → Int32))) (v_wins : (Nat → Int32)) (v_within : (Nat → Int32)) (x2 : Int32) (s0 : Int32) (s1 : Int32) : Option (Int32 × (Nat → Int32) × (Nat → Int32)) := (gin s1 256 (rec27 (upd v_wins (Int32.toNatClampNeg s1) (vp_nar .boolean s0)) v_within (x2 + (1 : Int32))))
def L_X8_firstTaken_27 (vo1_in : (Nat → Int32)) (vo1_there : Int32) : Nat → (Nat → Int32) → (Nat → Int32) → Int32 → Option (Int32 × (Nat → Int32) × (Nat → Int32))
  | 0, _, _, _ => none
  | n + 1, v_wins, v_within, x2 => (if (256 : Int32) ≤ x2 then (bd1 (f_X8_winningGlobe v_wins v_within vo1_there) (fun r66 => (some (r66, v_wins, v_within)))) else (bd1 (f_X8_winningGlobe v_wins v_within x2) (fun r41 => (if r41 = (-6 : Int32) then (B_X8_firstTaken_54 vo1_in vo1_there (L_X8_firstTaken_27 vo1_in vo1_there n) v_wins v_within x2 (0 : Int32) x2) else (B_X8_firstTaken_54 vo1_in vo1_there (L_X8_firstTaken_27 vo1_in vo1_there n) v_wins v_within x2 (1 : Int32) x2)))))
def L_X8_firstTaken_2 (vo1_in : (Nat → Int32)) (vo1_there : Int32) : Nat → (Nat → Int32) → (Nat → Int32) → Int32 → Option (Int32 × (Nat → Int32) × (Nat → Int32))
  | 0, _, _, _ => none
  | n + 1, v_wins, v_within, x2 => (if (8 : Int32) ≤ x2 then (L_X8_firstTaken_27 vo1_in vo1_there FU v_wins v_within (0 : Int32)) else (bd1 (f_X6_bitsWithin vo1_in vo1_there x2) (fun r15 => (gin x2 8 ((L_X8_firstTaken_2 vo1_in vo1_there n) v_wins (upd v_within (Int32.toNatClampNeg x2) r15) (x2 + (1 : Int32)))))))
def f_X8_firstTaken (v_wins : (Nat → Int32)) (v_within : (Nat → Int32)) (vo1_in : (Nat → Int32)) (vo1_there : Int32) : Option (Int32 × (Nat → Int32) × (Nat → Int32)) := (L_X8_firstTaken_2 vo1_in vo1_there FU v_wins v_within (0 : Int32))
abbrev rm_X8_firstTaken : Room := { frames := 3, cells := 0, slots := 0, locals := 68 }
set_option maxHeartbeats 4000000 in
set_option maxRecDepth 100000 in
theorem C_X8_firstTaken (l : Launch) (D : va_G) (cI cJ cZ : ClassId) (sz : Nat) (qt qt_wins qt_within qo1 qo1_water qo1_flakes qo1_flying qo1_leaks qo1_cloudy qo1_content qo1_in : Nat) (v_wins : (Nat → Int32)) (v_within : (Nat → Int32)) (vo1_in : (Nat → Int32)) (vo1_there : Int32) (vo1_music : Int32) (vo1_taxes : Int32) (vo1_hour : Int32) (r : Int32) (w_wins : (Nat → Int32)) (w_within : (Nat → Int32)) (hf : f_X8_firstTaken v_wins v_within vo1_in vo1_there = some (r, w_wins, w_within)) : Met l yX8_firstTaken wsX8_firstTaken rm_X8_firstTaken (PR D cI cJ cZ [(qt, .inr (7, [.ref qt_wins, .ref qt_within])), (qt_wins, .inl (cZ, 256, .inl v_wins)), (qt_within, .inl (cI, 8, .inl v_within)), (qo1, .inr (5, [.ref qo1_water, .ref qo1_flakes, .ref qo1_flying, .ref qo1_leaks, .ref qo1_cloudy, .ref qo1_content, .ref qo1_in, .int vo1_there, .int vo1_music, .int vo1_taxes, .int vo1_hour])), (qo1_in, .inl (cI, 8, .inl vo1_in))] sz [.ref qt, .ref qo1]) (QI D (va_A [(qt, .inr (7, [.ref qt_wins, .ref qt_within])), (qt_wins, .inl (cZ, 256, .inl v_wins)), (qt_within, .inl (cI, 8, .inl v_within)), (qo1, .inr (5, [.ref qo1_water, .ref qo1_flakes, .ref qo1_flying, .ref qo1_leaks, .ref qo1_cloudy, .ref qo1_content, .ref qo1_in, .int vo1_there, .int vo1_music, .int vo1_taxes, .int vo1_hour])), (qo1_in, .inl (cI, 8, .inl vo1_in))] sz) r [(qt, .inr (7, [.ref qt_wins, .ref qt_within])), (qt_wins, .inl (cZ, 256, .inl w_wins)), (qt_within, .inl (cI, 8, .inl w_within)), (qo1, .inr (5, [.ref qo1_water, .ref qo1_flakes, .ref qo1_flying, .ref qo1_leaks, .ref qo1_cloudy, .ref qo1_content, .ref qo1_in, .int vo1_there, .int vo1_music, .int vo1_taxes, .int vo1_hour])), (qo1_in, .inl (cI, 8, .inl vo1_in))]) 0 0 (va_A [(qt, .inr (7, [.ref qt_wins, .ref qt_within])), (qt_wins, .inl (cZ, 256, .inl v_wins)), (qt_within, .inl (cI, 8, .inl v_within)), (qo1, .inr (5, [.ref qo1_water, .ref qo1_flakes, .ref qo1_flying, .ref qo1_leaks, .ref qo1_cloudy, .ref qo1_content, .ref qo1_in, .int vo1_there, .int vo1_music, .int vo1_taxes, .int vo1_hour])), (qo1_in, .inl (cI, 8, .inl vo1_in))] sz) := by
  refine Met.ofW (cc := cX8_firstTaken) (maxL := 3) (ret := (some .int)) (by decide) rfl ?_
  intro p e s m args below meth c s₁ B hml hv
  obtain ⟨hav, hsz, hP, hD0, hE⟩ := hv
  have hx := B.exec
  have hb := B.bytes
  have hr := B.returns
  have hts := atoms_spec (ws := wsX8_firstTaken) B.pre
  have hown : s.vm.findClass RX8 = some m.cls := findClass_of_methodNamed B.named
  have hlocks := B.notSynchronized
  subst hsz
  have hD := hD0.self (sz := s.heap.size)
  generalize hAe : va_A [(qt, .inr (7, [.ref qt_wins, .ref qt_within])), (qt_wins, .inl (cZ, 256, .inl v_wins)), (qt_within, .inl (cI, 8, .inl v_within)), (qo1, .inr (5, [.ref qo1_water, .ref qo1_flakes, .ref qo1_flying, .ref qo1_leaks, .ref qo1_cloudy, .ref qo1_content, .ref qo1_in, .int vo1_there, .int vo1_music, .int vo1_taxes, .int vo1_hour])), (qo1_in, .inl (cI, 8, .inl vo1_in))] s.heap.size = A at hD ⊢
  have hA : ∀ q : Nat, s.heap.size ≤ q → A q := fun q h => by rw [← hAe]; exact Or.inr h
  have hS : va_S A s.heap s.heap [] := va_S.rf
  have hl := lv_entry ([.ref qt, .ref qo1]) (n := 3) (Nat.le_of_ble_eq_true rfl)
  have hfr : entryFrame m args 3 = entryFrame m ([.ref qt, .ref qo1] : List Value).toArray 3 := by rw [hav]
  rw [hfr, lg_entry_eq]
  generalize (lg_sl ([.ref qt, .ref qo1]) ++ List.replicate (3 - (lg_sl ([.ref qt, .ref qo1])).length) Slot.unset).toArray = ls at hl ⊢
  have hl : lv_has ls 3 [(0, .ref qt), (1, .ref qo1)] := hl
  obtain ⟨QQ, hQQ⟩ : ∃ QQ, QQ = MQ below (QI D A r [(qt, .inr (7, [.ref qt_wins, .ref qt_within])), (qt_wins, .inl (cZ, 256, .inl w_wins)), (qt_within, .inl (cI, 8, .inl w_within)), (qo1, .inr (5, [.ref qo1_water, .ref qo1_flakes, .ref qo1_flying, .ref qo1_leaks, .ref qo1_cloudy, .ref qo1_content, .ref qo1_in, .int vo1_there, .int vo1_music, .int vo1_taxes, .int vo1_hour])), (qo1_in, .inl (cI, 8, .inl vo1_in))]) args s 0 0 A := ⟨_, rfl⟩
  show W p l e rm_X8_firstTaken s m args below meth c s.heap [] 0 0 _ _
  rw [← hQQ]
  have hL27 : ∀ (n27 : Nat), ∀ (v_wins : (Nat → Int32)) (v_within : (Nat → Int32)) (x2 : Int32) (H : Heap) (locs : List Loc) (ls : Array Slot), va_P D vwCl [(qt, .inr (7, [.ref qt_wins, .ref qt_within])), (qt_wins, .inl (cZ, 256, .inl v_wins)), (qt_within, .inl (cI, 8, .inl v_within)), (qo1, .inr (5, [.ref qo1_water, .ref qo1_flakes, .ref qo1_flying, .ref qo1_leaks, .ref qo1_cloudy, .ref qo1_content, .ref qo1_in, .int vo1_there, .int vo1_music, .int vo1_taxes, .int vo1_hour])), (qo1_in, .inl (cI, 8, .inl vo1_in))] H → va_D A [(qt, .inr (7, [.ref qt_wins, .ref qt_within])), (qt_wins, .inl (cZ, 256, .inl v_wins)), (qt_within, .inl (cI, 8, .inl v_within)), (qo1, .inr (5, [.ref qo1_water, .ref qo1_flakes, .ref qo1_flying, .ref qo1_leaks, .ref qo1_cloudy, .ref qo1_content, .ref qo1_in, .int vo1_there, .int vo1_music, .int vo1_taxes, .int vo1_hour])), (qo1_in, .inl (cI, 8, .inl vo1_in))] → va_S A s.heap H locs → lv_has ls 3 [(0, .ref qt), (1, .ref qo1), (2, .int x2)] → L_X8_firstTaken_27 vo1_in vo1_there n27 v_wins v_within x2 = some (r, w_wins, w_within) → W p l e rm_X8_firstTaken s m args below meth c H locs 0 0 QQ (F0 m 27 ls []) := by
    intro n27
    induction n27 with
    | zero =>
      intro v_wins v_within x2 H locs ls hP hD hS hl h
      have h : none = some (r, w_wins, w_within) := h
      cases h
    | succ n27 ih27 =>
      have hB54 : ∀ (v_wins : (Nat → Int32)) (v_within : (Nat → Int32)) (x2 : Int32) (s0 : Int32) (s1 : Int32) (H : Heap) (locs : List Loc) (ls : Array Slot), va_P D vwCl [(qt, .inr (7, [.ref qt_wins, .ref qt_within])), (qt_wins, .inl (cZ, 256, .inl v_wins)), (qt_within, .inl (cI, 8, .inl v_within)), (qo1, .inr (5, [.ref qo1_water, .ref qo1_flakes, .ref qo1_flying, .ref qo1_leaks, .ref qo1_cloudy, .ref qo1_content, .ref qo1_in, .int vo1_there, .int vo1_music, .int vo1_taxes, .int vo1_hour])), (qo1_in, .inl (cI, 8, .inl vo1_in))] H → va_D A [(qt, .inr (7, [.ref qt_wins, .ref qt_within])), (qt_wins, .inl (cZ, 256, .inl v_wins)), (qt_within, .inl (cI, 8, .inl v_within)), (qo1, .inr (5, [.ref qo1_water, .ref qo1_flakes, .ref qo1_flying, .ref qo1_leaks, .ref qo1_cloudy, .ref qo1_content, .ref qo1_in, .int vo1_there, .int vo1_music, .int vo1_taxes, .int vo1_hour])), (qo1_in, .inl (cI, 8, .inl vo1_in))] → va_S A s.heap H locs → lv_has ls 3 [(0, .ref qt), (1, .ref qo1), (2, .int x2)] → B_X8_firstTaken_54 vo1_in vo1_there (L_X8_firstTaken_27 vo1_in vo1_there n27) v_wins v_within x2 s0 s1 = some (r, w_wins, w_within) → W p l e rm_X8_firstTaken s m args below meth c H locs 0 0 QQ (F0 m 54 ls [.int s0, .int s1, .ref qt_wins]) := by
        intro v_wins v_within x2 s0 s1 H locs ls hP hD hS hl h
        unfold B_X8_firstTaken_54 at h
        obtain ⟨hg, h⟩ := gin_some h
        refine va_zast hx hb hE.1 hP hD hS 1 2 rfl rfl hg dX8_firstTaken_54 (fun H locs (hP : va_P D vwCl [(qt, .inr (7, [.ref qt_wins, .ref qt_within])), (qt_wins, .inl (cZ, 256, .inl (upd v_wins (Int32.toNatClampNeg s1) (vp_nar .boolean s0)))), (qt_within, .inl (cI, 8, .inl v_within)), (qo1, .inr (5, [.ref qo1_water, .ref qo1_flakes, .ref qo1_flying, .ref qo1_leaks, .ref qo1_cloudy, .ref qo1_content, .ref qo1_in, .int vo1_there, .int vo1_music, .int vo1_taxes, .int vo1_hour])), (qo1_in, .inl (cI, 8, .inl vo1_in))] H) (hD : va_D A [(qt, .inr (7, [.ref qt_wins, .ref qt_within])), (qt_wins, .inl (cZ, 256, .inl (upd v_wins (Int32.toNatClampNeg s1) (vp_nar .boolean s0)))), (qt_within, .inl (cI, 8, .inl v_within)), (qo1, .inr (5, [.ref qo1_water, .ref qo1_flakes, .ref qo1_flying, .ref qo1_leaks, .ref qo1_cloudy, .ref qo1_content, .ref qo1_in, .int vo1_there, .int vo1_music, .int vo1_taxes, .int vo1_hour])), (qo1_in, .inl (cI, 8, .inl vo1_in))]) hS => ?_)
        refine lv_iinc (v := (x2 + (1 : Int32))) (lv' := [(2, .int (x2 + (1 : Int32))), (0, .ref qt), (1, .ref qo1)]) hx hb dX8_firstTaken_55 hl (k := 2) rfl rfl (by decide) rfl (fun ls hl => ?_)
        refine lv_goto (tgt := 27) hx hb dX8_firstTaken_58 (by decide) ?_
        exact ih27 (upd v_wins (Int32.toNatClampNeg s1) (vp_nar .boolean s0)) v_within (x2 + (1 : Int32)) H locs ls hP hD hS (lv_sub hl [1, 2, 0] rfl) h
      intro v_wins v_within x2 H locs ls hP hD hS hl h
      rw [L_X8_firstTaken_27.eq_2] at h
      refine lv_iload_n hx hb dX8_firstTaken_27 rfl (lv_at hl 2 rfl) ?_
      refine lv_sipush (v := 256) hx hb dX8_firstTaken_28 (by decide) ?_
      refine lv_icmp_ge (tgt := 61) hx hb dX8_firstTaken_31 (by decide) (fun hc => ?_) (fun hc => ?_)
      · have h := if_t hc h
        refine lv_aload_n hx hb dX8_firstTaken_61 rfl (lv_at hl 0 rfl) ?_
        refine lv_aload_n hx hb dX8_firstTaken_62 rfl (lv_at hl 1 rfl) ?_
        refine va_get (D := D) (ci := 5) (C := RX6) (T := TX6) (N := 11) hx hb hts (fun _ hw => (List.mem_cons_of_mem _ (List.mem_append_right _ hw))) hown hE.1 hP 3 rfl rfl 7 (by decide) (hts (.fieldLink RX8 28 "GlobeCrown$Shelf" "there" "I") (List.mem_cons_of_mem _ (List.mem_append_left _ (List.mem_append_left _ (List.mem_of_getElem? (i := 2) rfl))))) (fun _ h9 => h9) rfl dX8_firstTaken_63 ?_
        obtain ⟨r66, hc66, h⟩ := bd1_some h
        refine gw_ci (wr := [(qo1, .inr (5, [.ref qo1_water, .ref qo1_flakes, .ref qo1_flying, .ref qo1_leaks, .ref qo1_cloudy, .ref qo1_content, .ref qo1_in, .int vo1_there, .int vo1_music, .int vo1_taxes, .int vo1_hour])), (qo1_in, .inl (cI, 8, .inl vo1_in))]) (w2 := [(qo1, .inr (5, [.ref qo1_water, .ref qo1_flakes, .ref qo1_flying, .ref qo1_leaks, .ref qo1_cloudy, .ref qo1_content, .ref qo1_in, .int vo1_there, .int vo1_music, .int vo1_taxes, .int vo1_hour])), (qo1_in, .inl (cI, 8, .inl vo1_in)), (qt, .inr (7, [.ref qt_wins, .ref qt_within])), (qt_wins, .inl (cZ, 256, .inl v_wins)), (qt_within, .inl (cI, 8, .inl v_within))]) (gw_rV (n := 1) ⟨hx, hb, hml, hown, hts⟩ (C_X8_winningGlobe l D cI cJ cZ H.size qt qt_wins qt_within v_wins v_within vo1_there r66 hc66) gX8_firstTaken_X8_winningGlobe rfl rfl rfl hdV_X8_winningGlobe ⟨Nat.le_of_ble_eq_true rfl, Nat.le_of_ble_eq_true rfl⟩ hE (hP.sub [0, 1, 2] rfl) (hD.sub [0, 1, 2] (by decide) rfl) 7 rfl 0 rfl rfl hl.1 (rest := []) rfl (Nat.le_of_ble_eq_true rfl) dX8_firstTaken_66 ⟨Nat.zero_le _, Nat.zero_le _⟩) hP hD hS hA [0, 1, 2] [3, 4] rfl rfl rfl (by decide) rfl (fun H locs hP hD hS => ?_)
        cases h
        rw [hQQ]
        exact gw_iret hx hb hr hlocks (hP.sub [2, 3, 4, 0, 1] rfl) (hD.sub [2, 3, 4, 0, 1] (by decide) rfl) hS dX8_firstTaken_69
      · have h := if_f hc h
        refine lv_aload_n hx hb dX8_firstTaken_34 rfl (lv_at hl 0 rfl) ?_
        refine va_get (D := D) (ci := 7) (C := RX8) (T := TX8) (N := 2) hx hb hts (fun _ hw => (List.mem_cons_of_mem _ (List.mem_append_left _ (List.mem_append_right _ hw)))) hown hE.1 hP 0 rfl rfl 0 (by decide) (hts (.fieldLink RX8 9 "GlobeCrown$Thumbs" "wins" "[Z") (List.mem_cons_of_mem _ (List.mem_append_left _ (List.mem_append_left _ (List.mem_of_getElem? (i := 1) rfl))))) (fun _ h9 => h9) rfl dX8_firstTaken_35 ?_
        refine lv_iload_n hx hb dX8_firstTaken_38 rfl (lv_at hl 2 rfl) ?_
        refine lv_aload_n hx hb dX8_firstTaken_39 rfl (lv_at hl 0 rfl) ?_
        refine lv_iload_n hx hb dX8_firstTaken_40 rfl (lv_at hl 2 rfl) ?_
        obtain ⟨r41, hc41, h⟩ := bd1_some h
        refine gw_ci (wr := [(qo1, .inr (5, [.ref qo1_water, .ref qo1_flakes, .ref qo1_flying, .ref qo1_leaks, .ref qo1_cloudy, .ref qo1_content, .ref qo1_in, .int vo1_there, .int vo1_music, .int vo1_taxes, .int vo1_hour])), (qo1_in, .inl (cI, 8, .inl vo1_in))]) (w2 := [(qo1, .inr (5, [.ref qo1_water, .ref qo1_flakes, .ref qo1_flying, .ref qo1_leaks, .ref qo1_cloudy, .ref qo1_content, .ref qo1_in, .int vo1_there, .int vo1_music, .int vo1_taxes, .int vo1_hour])), (qo1_in, .inl (cI, 8, .inl vo1_in)), (qt, .inr (7, [.ref qt_wins, .ref qt_within])), (qt_wins, .inl (cZ, 256, .inl v_wins)), (qt_within, .inl (cI, 8, .inl v_within))]) (gw_rV (n := 1) ⟨hx, hb, hml, hown, hts⟩ (C_X8_winningGlobe l D cI cJ cZ H.size qt qt_wins qt_within v_wins v_within x2 r41 hc41) gX8_firstTaken_X8_winningGlobe rfl rfl rfl hdV_X8_winningGlobe ⟨Nat.le_of_ble_eq_true rfl, Nat.le_of_ble_eq_true rfl⟩ hE (hP.sub [0, 1, 2] rfl) (hD.sub [0, 1, 2] (by decide) rfl) 7 rfl 0 rfl rfl hl.1 (rest := [.int x2, .ref qt_wins]) rfl (Nat.le_of_ble_eq_true rfl) dX8_firstTaken_41 ⟨Nat.zero_le _, Nat.zero_le _⟩) hP hD hS hA [0, 1, 2] [3, 4] rfl rfl rfl (by decide) rfl (fun H locs hP hD hS => ?_)
        refine lv_bipush (v := -6) hx hb dX8_firstTaken_44 (by decide) ?_
        refine lv_icmp_eq (tgt := 53) hx hb dX8_firstTaken_46 (by decide) (fun hc => ?_) (fun hc => ?_)
        · have h := if_t hc h
          refine lv_iconst (v := 0) hx hb dX8_firstTaken_53 (by decide) ?_
          exact hB54 v_wins v_within x2 (0 : Int32) x2 H locs ls (hP.sub [2, 3, 4, 0, 1] rfl) (hD.sub [2, 3, 4, 0, 1] (by decide) rfl) hS hl h
        · have h := if_f hc h
          refine lv_iconst (v := 1) hx hb dX8_firstTaken_49 (by decide) ?_
          refine lv_goto (tgt := 54) hx hb dX8_firstTaken_50 (by decide) ?_
          exact hB54 v_wins v_within x2 (1 : Int32) x2 H locs ls (hP.sub [2, 3, 4, 0, 1] rfl) (hD.sub [2, 3, 4, 0, 1] (by decide) rfl) hS hl h
  have hL2 : ∀ (n2 : Nat), ∀ (v_wins : (Nat → Int32)) (v_within : (Nat → Int32)) (x2 : Int32) (H : Heap) (locs : List Loc) (ls : Array Slot), va_P D vwCl [(qt, .inr (7, [.ref qt_wins, .ref qt_within])), (qt_wins, .inl (cZ, 256, .inl v_wins)), (qt_within, .inl (cI, 8, .inl v_within)), (qo1, .inr (5, [.ref qo1_water, .ref qo1_flakes, .ref qo1_flying, .ref qo1_leaks, .ref qo1_cloudy, .ref qo1_content, .ref qo1_in, .int vo1_there, .int vo1_music, .int vo1_taxes, .int vo1_hour])), (qo1_in, .inl (cI, 8, .inl vo1_in))] H → va_D A [(qt, .inr (7, [.ref qt_wins, .ref qt_within])), (qt_wins, .inl (cZ, 256, .inl v_wins)), (qt_within, .inl (cI, 8, .inl v_within)), (qo1, .inr (5, [.ref qo1_water, .ref qo1_flakes, .ref qo1_flying, .ref qo1_leaks, .ref qo1_cloudy, .ref qo1_content, .ref qo1_in, .int vo1_there, .int vo1_music, .int vo1_taxes, .int vo1_hour])), (qo1_in, .inl (cI, 8, .inl vo1_in))] → va_S A s.heap H locs → lv_has ls 3 [(0, .ref qt), (1, .ref qo1), (2, .int x2)] → L_X8_firstTaken_2 vo1_in vo1_there n2 v_wins v_within x2 = some (r, w_wins, w_within) → W p l e rm_X8_firstTaken s m args below meth c H locs 0 0 QQ (F0 m 2 ls []) := by
    intro n2
    induction n2 with
    | zero =>
      intro v_wins v_within x2 H locs ls hP hD hS hl h
      have h : none = some (r, w_wins, w_within) := h
      cases h
    | succ n2 ih2 =>
      intro v_wins v_within x2 H locs ls hP hD hS hl h
      rw [L_X8_firstTaken_2.eq_2] at h
      refine lv_iload_n hx hb dX8_firstTaken_2 rfl (lv_at hl 2 rfl) ?_
      refine lv_bipush (v := 8) hx hb dX8_firstTaken_3 (by decide) ?_
      refine lv_icmp_ge (tgt := 25) hx hb dX8_firstTaken_5 (by decide) (fun hc => ?_) (fun hc => ?_)
      · have h := if_t hc h
        refine lv_iconst (v := 0) hx hb dX8_firstTaken_25 (by decide) ?_
        refine lv_istore_n (lv' := [(2, .int (0 : Int32)), (0, .ref qt), (1, .ref qo1)]) hx hb dX8_firstTaken_26 rfl hl (by decide) rfl (fun ls hl => ?_)
        exact hL27 FU v_wins v_within (0 : Int32) H locs ls hP hD hS (lv_sub hl [1, 2, 0] rfl) h
      · have h := if_f hc h
        refine lv_aload_n hx hb dX8_firstTaken_8 rfl (lv_at hl 0 rfl) ?_
        refine va_get (D := D) (ci := 7) (C := RX8) (T := TX8) (N := 2) hx hb hts (fun _ hw => (List.mem_cons_of_mem _ (List.mem_append_left _ (List.mem_append_right _ hw)))) hown hE.1 hP 0 rfl rfl 1 (by decide) (hts (.fieldLink RX8 15 "GlobeCrown$Thumbs" "within" "[I") (List.mem_cons_of_mem _ (List.mem_append_left _ (List.mem_append_left _ (List.mem_of_getElem? (i := 0) rfl))))) (fun _ h9 => h9) rfl dX8_firstTaken_9 ?_
        refine lv_iload_n hx hb dX8_firstTaken_12 rfl (lv_at hl 2 rfl) ?_
        refine lv_aload_n hx hb dX8_firstTaken_13 rfl (lv_at hl 1 rfl) ?_
        refine lv_iload_n hx hb dX8_firstTaken_14 rfl (lv_at hl 2 rfl) ?_
        obtain ⟨r15, hc15, h⟩ := bd1_some h
        refine gw_ci (wr := [(qt, .inr (7, [.ref qt_wins, .ref qt_within])), (qt_wins, .inl (cZ, 256, .inl v_wins)), (qt_within, .inl (cI, 8, .inl v_within))]) (w2 := [(qt, .inr (7, [.ref qt_wins, .ref qt_within])), (qt_wins, .inl (cZ, 256, .inl v_wins)), (qt_within, .inl (cI, 8, .inl v_within)), (qo1, .inr (5, [.ref qo1_water, .ref qo1_flakes, .ref qo1_flying, .ref qo1_leaks, .ref qo1_cloudy, .ref qo1_content, .ref qo1_in, .int vo1_there, .int vo1_music, .int vo1_taxes, .int vo1_hour])), (qo1_in, .inl (cI, 8, .inl vo1_in))]) (gw_rV (n := 1) ⟨hx, hb, hml, hown, hts⟩ (C_X6_bitsWithin l D cI cJ cZ H.size qo1 qo1_water qo1_flakes qo1_flying qo1_leaks qo1_cloudy qo1_content qo1_in vo1_in vo1_there vo1_music vo1_taxes vo1_hour x2 r15 hc15) gX8_firstTaken_X6_bitsWithin rfl rfl rfl hdV_X6_bitsWithin ⟨Nat.le_of_ble_eq_true rfl, Nat.le_of_ble_eq_true rfl⟩ hE (hP.sub [3, 4] rfl) (hD.sub [3, 4] (by decide) rfl) 5 rfl 0 rfl rfl hl.1 (rest := [.int x2, .ref qt_within]) rfl (Nat.le_of_ble_eq_true rfl) dX8_firstTaken_15 ⟨Nat.zero_le _, Nat.zero_le _⟩) hP hD hS hA [3, 4] [0, 1, 2] rfl rfl rfl (by decide) rfl (fun H locs hP hD hS => ?_)
        obtain ⟨hg, h⟩ := gin_some h
        refine va_iast hx hb hE.1 hP hD hS 2 0 rfl rfl hg dX8_firstTaken_18 (fun H locs (hP : va_P D vwCl [(qt, .inr (7, [.ref qt_wins, .ref qt_within])), (qt_wins, .inl (cZ, 256, .inl v_wins)), (qt_within, .inl (cI, 8, .inl (upd v_within (Int32.toNatClampNeg x2) r15))), (qo1, .inr (5, [.ref qo1_water, .ref qo1_flakes, .ref qo1_flying, .ref qo1_leaks, .ref qo1_cloudy, .ref qo1_content, .ref qo1_in, .int vo1_there, .int vo1_music, .int vo1_taxes, .int vo1_hour])), (qo1_in, .inl (cI, 8, .inl vo1_in))] H) (hD : va_D A [(qt, .inr (7, [.ref qt_wins, .ref qt_within])), (qt_wins, .inl (cZ, 256, .inl v_wins)), (qt_within, .inl (cI, 8, .inl (upd v_within (Int32.toNatClampNeg x2) r15))), (qo1, .inr (5, [.ref qo1_water, .ref qo1_flakes, .ref qo1_flying, .ref qo1_leaks, .ref qo1_cloudy, .ref qo1_content, .ref qo1_in, .int vo1_there, .int vo1_music, .int vo1_taxes, .int vo1_hour])), (qo1_in, .inl (cI, 8, .inl vo1_in))]) hS => ?_)
        refine lv_iinc (v := (x2 + (1 : Int32))) (lv' := [(2, .int (x2 + (1 : Int32))), (0, .ref qt), (1, .ref qo1)]) hx hb dX8_firstTaken_19 hl (k := 2) rfl rfl (by decide) rfl (fun ls hl => ?_)
        refine lv_goto (tgt := 2) hx hb dX8_firstTaken_22 (by decide) ?_
        exact ih2 v_wins (upd v_within (Int32.toNatClampNeg x2) r15) (x2 + (1 : Int32)) H locs ls hP hD hS (lv_sub hl [1, 2, 0] rfl) h
  have h := hf
  unfold f_X8_firstTaken at h
  refine gw_start hP hD hS (fun H locs hP hD hS => ?_)
  refine lv_iconst (v := 0) hx hb dX8_firstTaken_0 (by decide) ?_
  refine lv_istore_n (lv' := [(2, .int (0 : Int32)), (0, .ref qt), (1, .ref qo1)]) hx hb dX8_firstTaken_1 rfl hl (by decide) rfl (fun ls hl => ?_)
  exact hL2 FU v_wins v_within (0 : Int32) H locs ls hP hD hS (lv_sub hl [1, 2, 0] rfl) h
theorem hdV_X8_firstTaken : yX8_firstTaken.cls = RX8 ∧ yX8_firstTaken.cls ≠ "java/lang/invoke/MethodHandle" ∧ yX8_firstTaken.cls ≠ "java/lang/invoke/VarHandle" ∧ (parseMethodDescriptor yX8_firstTaken.desc).map (fun d => d.parameters.length) = some 1 := by decide +kernel
def f_X9_isUpTo (p0 : Int32) (p1 : Int32) : Option (Int32) := (if p0 < (0 : Int32) then (some (0 : Int32)) else (if p1 < p0 then (some (0 : Int32)) else (some (1 : Int32))))
abbrev rm_X9_isUpTo : Room := { frames := 0, cells := 0, slots := 0, locals := 0 }
set_option maxHeartbeats 4000000 in
set_option maxRecDepth 100000 in
theorem C_X9_isUpTo (l : Launch) (D : va_G) (cI cJ cZ : ClassId) (sz : Nat) (p0 : Int32) (p1 : Int32) (r : Int32) (hf : f_X9_isUpTo p0 p1 = some r) : Met l yX9_isUpTo wsX9_isUpTo rm_X9_isUpTo (PR D cI cJ cZ [] sz [.int p0, .int p1]) (QI D (va_A [] sz) r []) 0 0 (va_A [] sz) := by
  refine Met.ofW (cc := cX9_isUpTo) (maxL := 2) (ret := (some .boolean)) (by decide) rfl ?_
  intro p e s m args below meth c s₁ B hml hv
  obtain ⟨hav, hsz, hP, hD0, hE⟩ := hv
  have hx := B.exec
  have hb := B.bytes
  have hr := B.returns
  have hts := atoms_spec (ws := wsX9_isUpTo) B.pre
  have hown : s.vm.findClass RX9 = some m.cls := findClass_of_methodNamed B.named
  have hlocks := B.notSynchronized
  subst hsz
  have hD := hD0.self (sz := s.heap.size)
  generalize hAe : va_A [] s.heap.size = A at hD ⊢
  have hA : ∀ q : Nat, s.heap.size ≤ q → A q := fun q h => by rw [← hAe]; exact Or.inr h
  have hS : va_S A s.heap s.heap [] := va_S.rf
  have hl := lv_entry ([.int p0, .int p1]) (n := 2) (Nat.le_of_ble_eq_true rfl)
  have hfr : entryFrame m args 2 = entryFrame m ([.int p0, .int p1] : List Value).toArray 2 := by rw [hav]
  rw [hfr, lg_entry_eq]
  generalize (lg_sl ([.int p0, .int p1]) ++ List.replicate (2 - (lg_sl ([.int p0, .int p1])).length) Slot.unset).toArray = ls at hl ⊢
  have hl : lv_has ls 2 [(0, .int p0), (1, .int p1)] := hl
  obtain ⟨QQ, hQQ⟩ : ∃ QQ, QQ = MQ below (QI D A r []) args s 0 0 A := ⟨_, rfl⟩
  show W p l e rm_X9_isUpTo s m args below meth c s.heap [] 0 0 _ _
  rw [← hQQ]
  have h := hf
  unfold f_X9_isUpTo at h
  refine gw_start hP hD hS (fun H locs hP hD hS => ?_)
  refine lv_iload_n hx hb dX9_isUpTo_0 rfl (lv_at hl 0 rfl) ?_
  refine lv_if_lt (tgt := 13) hx hb dX9_isUpTo_1 (by decide) (fun hc => ?_) (fun hc => ?_)
  · have h := if_t hc h
    refine lv_iconst (v := 0) hx hb dX9_isUpTo_13 (by decide) ?_
    cases h
    rw [hQQ]
    exact gw_zret hx hb hr hlocks (by decide) hP hD hS dX9_isUpTo_14
  · have h := if_f hc h
    refine lv_iload_n hx hb dX9_isUpTo_4 rfl (lv_at hl 0 rfl) ?_
    refine lv_iload_n hx hb dX9_isUpTo_5 rfl (lv_at hl 1 rfl) ?_
    refine lv_icmp_gt (tgt := 13) hx hb dX9_isUpTo_6 (by decide) (fun hc => ?_) (fun hc => ?_)
    · have h := if_t hc h
      refine lv_iconst (v := 0) hx hb dX9_isUpTo_13 (by decide) ?_
      cases h
      rw [hQQ]
      exact gw_zret hx hb hr hlocks (by decide) hP hD hS dX9_isUpTo_14
    · have h := if_f hc h
      refine lv_iconst (v := 1) hx hb dX9_isUpTo_9 (by decide) ?_
      refine lv_goto (tgt := 14) hx hb dX9_isUpTo_10 (by decide) ?_
      cases h
      rw [hQQ]
      exact gw_zret hx hb hr hlocks (by decide) hP hD hS dX9_isUpTo_14
theorem hdS_X9_isUpTo : yX9_isUpTo.cls ≠ "java/lang/invoke/MethodHandle" ∧ yX9_isUpTo.cls ≠ "java/lang/invoke/VarHandle" ∧ (parseMethodDescriptor yX9_isUpTo.desc).map (fun d => d.parameters.length) = some 2 := by decide +kernel
def f_X9_globe (v_realm_shelf_water : (Nat → Int32)) (v_realm_shelf_flakes : (Nat → Int32)) (v_realm_shelf_flying : (Nat → Int32)) (v_realm_shelf_leaks : (Nat → Int32)) (v_realm_shelf_cloudy : (Nat → Int32)) (v_realm_shelf_content : (Nat → Int32)) (v_realm_shelf_in : (Nat → Int32)) (v_realm_shelf_there : Int32) (v_realm_shelf_music : Int32) (p1 : Int32) (p2 : Int32) (p3 : Int32) (p4 : Int32) (p5 : Int32) : Option (Int32 × (Nat → Int32) × (Nat → Int32) × (Nat → Int32) × (Nat → Int32) × (Nat → Int32) × (Nat → Int32) × (Nat → Int32) × Int32 × Int32) := (bd1 (f_X9_isGlobe p1) (fun r1 => (if r1 = (0 : Int32) then (some ((-1 : Int32), v_realm_shelf_water, v_realm_shelf_flakes, v_realm_shelf_flying, v_realm_shelf_leaks, v_realm_shelf_cloudy, v_realm_shelf_content, v_realm_shelf_in, v_realm_shelf_there, v_realm_shelf_music)) else (bd1 (f_X9_isUpTo p2 (99 : Int32)) (fun r12 => (if r12 = (0 : Int32) then (some ((-2 : Int32), v_realm_shelf_water, v_realm_shelf_flakes, v_realm_shelf_flying, v_realm_shelf_leaks, v_realm_shelf_cloudy, v_realm_shelf_content, v_realm_shelf_in, v_realm_shelf_there, v_realm_shelf_music)) else (bd1 (f_X9_isUpTo p3 (99 : Int32)) (fun r21 => (if r21 = (0 : Int32) then (some ((-2 : Int32), v_realm_shelf_water, v_realm_shelf_flakes, v_realm_shelf_flying, v_realm_shelf_leaks, v_realm_shelf_cloudy, v_realm_shelf_content, v_realm_shelf_in, v_realm_shelf_there, v_realm_shelf_music)) else (bd1 (f_X9_isUpTo p4 (9 : Int32)) (fun r31 => (if r31 = (0 : Int32) then (some ((-2 : Int32), v_realm_shelf_water, v_realm_shelf_flakes, v_realm_shelf_flying, v_realm_shelf_leaks, v_realm_shelf_cloudy, v_realm_shelf_content, v_realm_shelf_in, v_realm_shelf_there, v_realm_shelf_music)) else (bd9 (f_X6_set v_realm_shelf_water v_realm_shelf_flakes v_realm_shelf_flying v_realm_shelf_leaks v_realm_shelf_cloudy v_realm_shelf_content v_realm_shelf_in v_realm_shelf_there v_realm_shelf_music p1 p2 p3 p4 p5) (fun u54v_realm_shelf_water u54v_realm_shelf_flakes u54v_realm_shelf_flying u54v_realm_shelf_leaks u54v_realm_shelf_cloudy u54v_realm_shelf_content u54v_realm_shelf_in u54v_realm_shelf_there u54v_realm_shelf_music => (bd1 (f_J6_bitCount_0f7a4 u54v_realm_shelf_there) (fun r67 => (some (r67, u54v_realm_shelf_water, u54v_realm_shelf_flakes, u54v_realm_shelf_flying, u54v_realm_shelf_leaks, u54v_realm_shelf_cloudy, u54v_realm_shelf_content, u54v_realm_shelf_in, u54v_realm_shelf_there, u54v_realm_shelf_music))))))))))))))))))
abbrev rm_X9_globe : Room := { frames := 2, cells := 0, slots := 0, locals := 46 }
set_option maxHeartbeats 4000000 in
set_option maxRecDepth 100000 in
theorem C_X9_globe (l : Launch) (D : va_G) (cI cJ cZ : ClassId) (sz : Nat) (qt qt_realm qt_realm_shelf qt_realm_shelf_water qt_realm_shelf_flakes qt_realm_shelf_flying qt_realm_shelf_leaks qt_realm_shelf_cloudy qt_realm_shelf_content qt_realm_shelf_in qt_realm_places qt_realm_sights qt_firstImage qt_secondImage qt_pad qt_reign qt_shakers qt_thumbs : Nat) (v_realm_shelf_water : (Nat → Int32)) (v_realm_shelf_flakes : (Nat → Int32)) (v_realm_shelf_flying : (Nat → Int32)) (v_realm_shelf_leaks : (Nat → Int32)) (v_realm_shelf_cloudy : (Nat → Int32)) (v_realm_shelf_content : (Nat → Int32)) (v_realm_shelf_in : (Nat → Int32)) (v_realm_shelf_there : Int32) (v_realm_shelf_music : Int32) (v_realm_shelf_taxes : Int32) (v_realm_shelf_hour : Int32) (v_isFirstKept : Int32) (v_isSecondKept : Int32) (p1 : Int32) (p2 : Int32) (p3 : Int32) (p4 : Int32) (p5 : Int32) (r : Int32) (w_realm_shelf_water : (Nat → Int32)) (w_realm_shelf_flakes : (Nat → Int32)) (w_realm_shelf_flying : (Nat → Int32)) (w_realm_shelf_leaks : (Nat → Int32)) (w_realm_shelf_cloudy : (Nat → Int32)) (w_realm_shelf_content : (Nat → Int32)) (w_realm_shelf_in : (Nat → Int32)) (w_realm_shelf_there : Int32) (w_realm_shelf_music : Int32) (hf : f_X9_globe v_realm_shelf_water v_realm_shelf_flakes v_realm_shelf_flying v_realm_shelf_leaks v_realm_shelf_cloudy v_realm_shelf_content v_realm_shelf_in v_realm_shelf_there v_realm_shelf_music p1 p2 p3 p4 p5 = some (r, w_realm_shelf_water, w_realm_shelf_flakes, w_realm_shelf_flying, w_realm_shelf_leaks, w_realm_shelf_cloudy, w_realm_shelf_content, w_realm_shelf_in, w_realm_shelf_there, w_realm_shelf_music)) : Met l yX9_globe wsX9_globe rm_X9_globe (PR D cI cJ cZ [(qt, .inr (8, [.ref qt_realm, .ref qt_firstImage, .ref qt_secondImage, .int v_isFirstKept, .int v_isSecondKept, .ref qt_pad, .ref qt_reign, .ref qt_shakers, .ref qt_thumbs])), (qt_realm, .inr (2, [.ref qt_realm_shelf, .ref qt_realm_places, .ref qt_realm_sights])), (qt_realm_shelf, .inr (5, [.ref qt_realm_shelf_water, .ref qt_realm_shelf_flakes, .ref qt_realm_shelf_flying, .ref qt_realm_shelf_leaks, .ref qt_realm_shelf_cloudy, .ref qt_realm_shelf_content, .ref qt_realm_shelf_in, .int v_realm_shelf_there, .int v_realm_shelf_music, .int v_realm_shelf_taxes, .int v_realm_shelf_hour])), (qt_realm_shelf_water, .inl (cI, 8, .inl v_realm_shelf_water)), (qt_realm_shelf_flakes, .inl (cI, 8, .inl v_realm_shelf_flakes)), (qt_realm_shelf_flying, .inl (cI, 8, .inl v_realm_shelf_flying)), (qt_realm_shelf_leaks, .inl (cI, 8, .inl v_realm_shelf_leaks)), (qt_realm_shelf_cloudy, .inl (cI, 8, .inl v_realm_shelf_cloudy)), (qt_realm_shelf_content, .inl (cI, 8, .inl v_realm_shelf_content)), (qt_realm_shelf_in, .inl (cI, 8, .inl v_realm_shelf_in))] sz [.ref qt, .int p1, .int p2, .int p3, .int p4, .int p5]) (QI D (va_A [(qt, .inr (8, [.ref qt_realm, .ref qt_firstImage, .ref qt_secondImage, .int v_isFirstKept, .int v_isSecondKept, .ref qt_pad, .ref qt_reign, .ref qt_shakers, .ref qt_thumbs])), (qt_realm, .inr (2, [.ref qt_realm_shelf, .ref qt_realm_places, .ref qt_realm_sights])), (qt_realm_shelf, .inr (5, [.ref qt_realm_shelf_water, .ref qt_realm_shelf_flakes, .ref qt_realm_shelf_flying, .ref qt_realm_shelf_leaks, .ref qt_realm_shelf_cloudy, .ref qt_realm_shelf_content, .ref qt_realm_shelf_in, .int v_realm_shelf_there, .int v_realm_shelf_music, .int v_realm_shelf_taxes, .int v_realm_shelf_hour])), (qt_realm_shelf_water, .inl (cI, 8, .inl v_realm_shelf_water)), (qt_realm_shelf_flakes, .inl (cI, 8, .inl v_realm_shelf_flakes)), (qt_realm_shelf_flying, .inl (cI, 8, .inl v_realm_shelf_flying)), (qt_realm_shelf_leaks, .inl (cI, 8, .inl v_realm_shelf_leaks)), (qt_realm_shelf_cloudy, .inl (cI, 8, .inl v_realm_shelf_cloudy)), (qt_realm_shelf_content, .inl (cI, 8, .inl v_realm_shelf_content)), (qt_realm_shelf_in, .inl (cI, 8, .inl v_realm_shelf_in))] sz) r [(qt, .inr (8, [.ref qt_realm, .ref qt_firstImage, .ref qt_secondImage, .int v_isFirstKept, .int v_isSecondKept, .ref qt_pad, .ref qt_reign, .ref qt_shakers, .ref qt_thumbs])), (qt_realm, .inr (2, [.ref qt_realm_shelf, .ref qt_realm_places, .ref qt_realm_sights])), (qt_realm_shelf, .inr (5, [.ref qt_realm_shelf_water, .ref qt_realm_shelf_flakes, .ref qt_realm_shelf_flying, .ref qt_realm_shelf_leaks, .ref qt_realm_shelf_cloudy, .ref qt_realm_shelf_content, .ref qt_realm_shelf_in, .int w_realm_shelf_there, .int w_realm_shelf_music, .int v_realm_shelf_taxes, .int v_realm_shelf_hour])), (qt_realm_shelf_water, .inl (cI, 8, .inl w_realm_shelf_water)), (qt_realm_shelf_flakes, .inl (cI, 8, .inl w_realm_shelf_flakes)), (qt_realm_shelf_flying, .inl (cI, 8, .inl w_realm_shelf_flying)), (qt_realm_shelf_leaks, .inl (cI, 8, .inl w_realm_shelf_leaks)), (qt_realm_shelf_cloudy, .inl (cI, 8, .inl w_realm_shelf_cloudy)), (qt_realm_shelf_content, .inl (cI, 8, .inl w_realm_shelf_content)), (qt_realm_shelf_in, .inl (cI, 8, .inl w_realm_shelf_in))]) 0 0 (va_A [(qt, .inr (8, [.ref qt_realm, .ref qt_firstImage, .ref qt_secondImage, .int v_isFirstKept, .int v_isSecondKept, .ref qt_pad, .ref qt_reign, .ref qt_shakers, .ref qt_thumbs])), (qt_realm, .inr (2, [.ref qt_realm_shelf, .ref qt_realm_places, .ref qt_realm_sights])), (qt_realm_shelf, .inr (5, [.ref qt_realm_shelf_water, .ref qt_realm_shelf_flakes, .ref qt_realm_shelf_flying, .ref qt_realm_shelf_leaks, .ref qt_realm_shelf_cloudy, .ref qt_realm_shelf_content, .ref qt_realm_shelf_in, .int v_realm_shelf_there, .int v_realm_shelf_music, .int v_realm_shelf_taxes, .int v_realm_shelf_hour])), (qt_realm_shelf_water, .inl (cI, 8, .inl v_realm_shelf_water)), (qt_realm_shelf_flakes, .inl (cI, 8, .inl v_realm_shelf_flakes)), (qt_realm_shelf_flying, .inl (cI, 8, .inl v_realm_shelf_flying)), (qt_realm_shelf_leaks, .inl (cI, 8, .inl v_realm_shelf_leaks)), (qt_realm_shelf_cloudy, .inl (cI, 8, .inl v_realm_shelf_cloudy)), (qt_realm_shelf_content, .inl (cI, 8, .inl v_realm_shelf_content)), (qt_realm_shelf_in, .inl (cI, 8, .inl v_realm_shelf_in))] sz) := by
  refine Met.ofW (cc := cX9_globe) (maxL := 6) (ret := (some .int)) (by decide) rfl ?_
  intro p e s m args below meth c s₁ B hml hv
  obtain ⟨hav, hsz, hP, hD0, hE⟩ := hv
  have hx := B.exec
  have hb := B.bytes
  have hr := B.returns
  have hts := atoms_spec (ws := wsX9_globe) B.pre
  have hown : s.vm.findClass RX9 = some m.cls := findClass_of_methodNamed B.named
  have hlocks := B.notSynchronized
  subst hsz
  have hD := hD0.self (sz := s.heap.size)
  generalize hAe : va_A [(qt, .inr (8, [.ref qt_realm, .ref qt_firstImage, .ref qt_secondImage, .int v_isFirstKept, .int v_isSecondKept, .ref qt_pad, .ref qt_reign, .ref qt_shakers, .ref qt_thumbs])), (qt_realm, .inr (2, [.ref qt_realm_shelf, .ref qt_realm_places, .ref qt_realm_sights])), (qt_realm_shelf, .inr (5, [.ref qt_realm_shelf_water, .ref qt_realm_shelf_flakes, .ref qt_realm_shelf_flying, .ref qt_realm_shelf_leaks, .ref qt_realm_shelf_cloudy, .ref qt_realm_shelf_content, .ref qt_realm_shelf_in, .int v_realm_shelf_there, .int v_realm_shelf_music, .int v_realm_shelf_taxes, .int v_realm_shelf_hour])), (qt_realm_shelf_water, .inl (cI, 8, .inl v_realm_shelf_water)), (qt_realm_shelf_flakes, .inl (cI, 8, .inl v_realm_shelf_flakes)), (qt_realm_shelf_flying, .inl (cI, 8, .inl v_realm_shelf_flying)), (qt_realm_shelf_leaks, .inl (cI, 8, .inl v_realm_shelf_leaks)), (qt_realm_shelf_cloudy, .inl (cI, 8, .inl v_realm_shelf_cloudy)), (qt_realm_shelf_content, .inl (cI, 8, .inl v_realm_shelf_content)), (qt_realm_shelf_in, .inl (cI, 8, .inl v_realm_shelf_in))] s.heap.size = A at hD ⊢
  have hA : ∀ q : Nat, s.heap.size ≤ q → A q := fun q h => by rw [← hAe]; exact Or.inr h
  have hS : va_S A s.heap s.heap [] := va_S.rf
  have hl := lv_entry ([.ref qt, .int p1, .int p2, .int p3, .int p4, .int p5]) (n := 6) (Nat.le_of_ble_eq_true rfl)
  have hfr : entryFrame m args 6 = entryFrame m ([.ref qt, .int p1, .int p2, .int p3, .int p4, .int p5] : List Value).toArray 6 := by rw [hav]
  rw [hfr, lg_entry_eq]
  generalize (lg_sl ([.ref qt, .int p1, .int p2, .int p3, .int p4, .int p5]) ++ List.replicate (6 - (lg_sl ([.ref qt, .int p1, .int p2, .int p3, .int p4, .int p5])).length) Slot.unset).toArray = ls at hl ⊢
  have hl : lv_has ls 6 [(0, .ref qt), (1, .int p1), (2, .int p2), (3, .int p3), (4, .int p4), (5, .int p5)] := hl
  obtain ⟨QQ, hQQ⟩ : ∃ QQ, QQ = MQ below (QI D A r [(qt, .inr (8, [.ref qt_realm, .ref qt_firstImage, .ref qt_secondImage, .int v_isFirstKept, .int v_isSecondKept, .ref qt_pad, .ref qt_reign, .ref qt_shakers, .ref qt_thumbs])), (qt_realm, .inr (2, [.ref qt_realm_shelf, .ref qt_realm_places, .ref qt_realm_sights])), (qt_realm_shelf, .inr (5, [.ref qt_realm_shelf_water, .ref qt_realm_shelf_flakes, .ref qt_realm_shelf_flying, .ref qt_realm_shelf_leaks, .ref qt_realm_shelf_cloudy, .ref qt_realm_shelf_content, .ref qt_realm_shelf_in, .int w_realm_shelf_there, .int w_realm_shelf_music, .int v_realm_shelf_taxes, .int v_realm_shelf_hour])), (qt_realm_shelf_water, .inl (cI, 8, .inl w_realm_shelf_water)), (qt_realm_shelf_flakes, .inl (cI, 8, .inl w_realm_shelf_flakes)), (qt_realm_shelf_flying, .inl (cI, 8, .inl w_realm_shelf_flying)), (qt_realm_shelf_leaks, .inl (cI, 8, .inl w_realm_shelf_leaks)), (qt_realm_shelf_cloudy, .inl (cI, 8, .inl w_realm_shelf_cloudy)), (qt_realm_shelf_content, .inl (cI, 8, .inl w_realm_shelf_content)), (qt_realm_shelf_in, .inl (cI, 8, .inl w_realm_shelf_in))]) args s 0 0 A := ⟨_, rfl⟩
  show W p l e rm_X9_globe s m args below meth c s.heap [] 0 0 _ _
  rw [← hQQ]
  have h := hf
  unfold f_X9_globe at h
  refine gw_start hP hD hS (fun H locs hP hD hS => ?_)
  refine lv_iload_n hx hb dX9_globe_0 rfl (lv_at hl 1 rfl) ?_
  obtain ⟨r1, hc1, h⟩ := bd1_some h
  refine gw_ci (wr := [(qt, .inr (8, [.ref qt_realm, .ref qt_firstImage, .ref qt_secondImage, .int v_isFirstKept, .int v_isSecondKept, .ref qt_pad, .ref qt_reign, .ref qt_shakers, .ref qt_thumbs])), (qt_realm, .inr (2, [.ref qt_realm_shelf, .ref qt_realm_places, .ref qt_realm_sights])), (qt_realm_shelf, .inr (5, [.ref qt_realm_shelf_water, .ref qt_realm_shelf_flakes, .ref qt_realm_shelf_flying, .ref qt_realm_shelf_leaks, .ref qt_realm_shelf_cloudy, .ref qt_realm_shelf_content, .ref qt_realm_shelf_in, .int v_realm_shelf_there, .int v_realm_shelf_music, .int v_realm_shelf_taxes, .int v_realm_shelf_hour])), (qt_realm_shelf_water, .inl (cI, 8, .inl v_realm_shelf_water)), (qt_realm_shelf_flakes, .inl (cI, 8, .inl v_realm_shelf_flakes)), (qt_realm_shelf_flying, .inl (cI, 8, .inl v_realm_shelf_flying)), (qt_realm_shelf_leaks, .inl (cI, 8, .inl v_realm_shelf_leaks)), (qt_realm_shelf_cloudy, .inl (cI, 8, .inl v_realm_shelf_cloudy)), (qt_realm_shelf_content, .inl (cI, 8, .inl v_realm_shelf_content)), (qt_realm_shelf_in, .inl (cI, 8, .inl v_realm_shelf_in))]) (w2 := [(qt, .inr (8, [.ref qt_realm, .ref qt_firstImage, .ref qt_secondImage, .int v_isFirstKept, .int v_isSecondKept, .ref qt_pad, .ref qt_reign, .ref qt_shakers, .ref qt_thumbs])), (qt_realm, .inr (2, [.ref qt_realm_shelf, .ref qt_realm_places, .ref qt_realm_sights])), (qt_realm_shelf, .inr (5, [.ref qt_realm_shelf_water, .ref qt_realm_shelf_flakes, .ref qt_realm_shelf_flying, .ref qt_realm_shelf_leaks, .ref qt_realm_shelf_cloudy, .ref qt_realm_shelf_content, .ref qt_realm_shelf_in, .int v_realm_shelf_there, .int v_realm_shelf_music, .int v_realm_shelf_taxes, .int v_realm_shelf_hour])), (qt_realm_shelf_water, .inl (cI, 8, .inl v_realm_shelf_water)), (qt_realm_shelf_flakes, .inl (cI, 8, .inl v_realm_shelf_flakes)), (qt_realm_shelf_flying, .inl (cI, 8, .inl v_realm_shelf_flying)), (qt_realm_shelf_leaks, .inl (cI, 8, .inl v_realm_shelf_leaks)), (qt_realm_shelf_cloudy, .inl (cI, 8, .inl v_realm_shelf_cloudy)), (qt_realm_shelf_content, .inl (cI, 8, .inl v_realm_shelf_content)), (qt_realm_shelf_in, .inl (cI, 8, .inl v_realm_shelf_in))]) (gw_rS (n := 1) ⟨hx, hb, hml, hown, hts⟩ (C_X9_isGlobe l D cI cJ cZ H.size p1 r1 hc1) gX9_globe_X9_isGlobe rfl rfl rfl hdS_X9_isGlobe ⟨Nat.le_of_ble_eq_true rfl, Nat.le_of_ble_eq_true rfl⟩ hE (hP.sub [] rfl) (hD.sub [] (by decide) rfl) rfl hl.1 (rest := []) rfl (Nat.le_of_ble_eq_true rfl) dX9_globe_1 ⟨Nat.zero_le _, Nat.zero_le _⟩) hP hD hS hA [] [0, 1, 2, 3, 4, 5, 6, 7, 8, 9] rfl rfl rfl (by decide) rfl (fun H locs hP hD hS => ?_)
  refine lv_if_ne (tgt := 9) hx hb dX9_globe_4 (by decide) (fun hc => ?_) (fun hc => ?_)
  · have h := if_f hc h
    refine lv_iload_n hx hb dX9_globe_9 rfl (lv_at hl 2 rfl) ?_
    refine lv_bipush (v := 99) hx hb dX9_globe_10 (by decide) ?_
    obtain ⟨r12, hc12, h⟩ := bd1_some h
    refine gw_ci (wr := [(qt, .inr (8, [.ref qt_realm, .ref qt_firstImage, .ref qt_secondImage, .int v_isFirstKept, .int v_isSecondKept, .ref qt_pad, .ref qt_reign, .ref qt_shakers, .ref qt_thumbs])), (qt_realm, .inr (2, [.ref qt_realm_shelf, .ref qt_realm_places, .ref qt_realm_sights])), (qt_realm_shelf, .inr (5, [.ref qt_realm_shelf_water, .ref qt_realm_shelf_flakes, .ref qt_realm_shelf_flying, .ref qt_realm_shelf_leaks, .ref qt_realm_shelf_cloudy, .ref qt_realm_shelf_content, .ref qt_realm_shelf_in, .int v_realm_shelf_there, .int v_realm_shelf_music, .int v_realm_shelf_taxes, .int v_realm_shelf_hour])), (qt_realm_shelf_water, .inl (cI, 8, .inl v_realm_shelf_water)), (qt_realm_shelf_flakes, .inl (cI, 8, .inl v_realm_shelf_flakes)), (qt_realm_shelf_flying, .inl (cI, 8, .inl v_realm_shelf_flying)), (qt_realm_shelf_leaks, .inl (cI, 8, .inl v_realm_shelf_leaks)), (qt_realm_shelf_cloudy, .inl (cI, 8, .inl v_realm_shelf_cloudy)), (qt_realm_shelf_content, .inl (cI, 8, .inl v_realm_shelf_content)), (qt_realm_shelf_in, .inl (cI, 8, .inl v_realm_shelf_in))]) (w2 := [(qt, .inr (8, [.ref qt_realm, .ref qt_firstImage, .ref qt_secondImage, .int v_isFirstKept, .int v_isSecondKept, .ref qt_pad, .ref qt_reign, .ref qt_shakers, .ref qt_thumbs])), (qt_realm, .inr (2, [.ref qt_realm_shelf, .ref qt_realm_places, .ref qt_realm_sights])), (qt_realm_shelf, .inr (5, [.ref qt_realm_shelf_water, .ref qt_realm_shelf_flakes, .ref qt_realm_shelf_flying, .ref qt_realm_shelf_leaks, .ref qt_realm_shelf_cloudy, .ref qt_realm_shelf_content, .ref qt_realm_shelf_in, .int v_realm_shelf_there, .int v_realm_shelf_music, .int v_realm_shelf_taxes, .int v_realm_shelf_hour])), (qt_realm_shelf_water, .inl (cI, 8, .inl v_realm_shelf_water)), (qt_realm_shelf_flakes, .inl (cI, 8, .inl v_realm_shelf_flakes)), (qt_realm_shelf_flying, .inl (cI, 8, .inl v_realm_shelf_flying)), (qt_realm_shelf_leaks, .inl (cI, 8, .inl v_realm_shelf_leaks)), (qt_realm_shelf_cloudy, .inl (cI, 8, .inl v_realm_shelf_cloudy)), (qt_realm_shelf_content, .inl (cI, 8, .inl v_realm_shelf_content)), (qt_realm_shelf_in, .inl (cI, 8, .inl v_realm_shelf_in))]) (gw_rS (n := 2) ⟨hx, hb, hml, hown, hts⟩ (C_X9_isUpTo l D cI cJ cZ H.size p2 (99 : Int32) r12 hc12) gX9_globe_X9_isUpTo rfl rfl rfl hdS_X9_isUpTo ⟨Nat.le_of_ble_eq_true rfl, Nat.le_of_ble_eq_true rfl⟩ hE (hP.sub [] rfl) (hD.sub [] (by decide) rfl) rfl hl.1 (rest := []) rfl (Nat.le_of_ble_eq_true rfl) dX9_globe_12 ⟨Nat.zero_le _, Nat.zero_le _⟩) hP hD hS hA [] [0, 1, 2, 3, 4, 5, 6, 7, 8, 9] rfl rfl rfl (by decide) rfl (fun H locs hP hD hS => ?_)
    refine lv_if_eq (tgt := 37) hx hb dX9_globe_15 (by decide) (fun hc => ?_) (fun hc => ?_)
    · have h := if_t hc h
      refine lv_bipush (v := -2) hx hb dX9_globe_37 (by decide) ?_
      cases h
      rw [hQQ]
      exact gw_iret hx hb hr hlocks hP hD hS dX9_globe_39
    · have h := if_f hc h
      refine lv_iload_n hx hb dX9_globe_18 rfl (lv_at hl 3 rfl) ?_
      refine lv_bipush (v := 99) hx hb dX9_globe_19 (by decide) ?_
      obtain ⟨r21, hc21, h⟩ := bd1_some h
      refine gw_ci (wr := [(qt, .inr (8, [.ref qt_realm, .ref qt_firstImage, .ref qt_secondImage, .int v_isFirstKept, .int v_isSecondKept, .ref qt_pad, .ref qt_reign, .ref qt_shakers, .ref qt_thumbs])), (qt_realm, .inr (2, [.ref qt_realm_shelf, .ref qt_realm_places, .ref qt_realm_sights])), (qt_realm_shelf, .inr (5, [.ref qt_realm_shelf_water, .ref qt_realm_shelf_flakes, .ref qt_realm_shelf_flying, .ref qt_realm_shelf_leaks, .ref qt_realm_shelf_cloudy, .ref qt_realm_shelf_content, .ref qt_realm_shelf_in, .int v_realm_shelf_there, .int v_realm_shelf_music, .int v_realm_shelf_taxes, .int v_realm_shelf_hour])), (qt_realm_shelf_water, .inl (cI, 8, .inl v_realm_shelf_water)), (qt_realm_shelf_flakes, .inl (cI, 8, .inl v_realm_shelf_flakes)), (qt_realm_shelf_flying, .inl (cI, 8, .inl v_realm_shelf_flying)), (qt_realm_shelf_leaks, .inl (cI, 8, .inl v_realm_shelf_leaks)), (qt_realm_shelf_cloudy, .inl (cI, 8, .inl v_realm_shelf_cloudy)), (qt_realm_shelf_content, .inl (cI, 8, .inl v_realm_shelf_content)), (qt_realm_shelf_in, .inl (cI, 8, .inl v_realm_shelf_in))]) (w2 := [(qt, .inr (8, [.ref qt_realm, .ref qt_firstImage, .ref qt_secondImage, .int v_isFirstKept, .int v_isSecondKept, .ref qt_pad, .ref qt_reign, .ref qt_shakers, .ref qt_thumbs])), (qt_realm, .inr (2, [.ref qt_realm_shelf, .ref qt_realm_places, .ref qt_realm_sights])), (qt_realm_shelf, .inr (5, [.ref qt_realm_shelf_water, .ref qt_realm_shelf_flakes, .ref qt_realm_shelf_flying, .ref qt_realm_shelf_leaks, .ref qt_realm_shelf_cloudy, .ref qt_realm_shelf_content, .ref qt_realm_shelf_in, .int v_realm_shelf_there, .int v_realm_shelf_music, .int v_realm_shelf_taxes, .int v_realm_shelf_hour])), (qt_realm_shelf_water, .inl (cI, 8, .inl v_realm_shelf_water)), (qt_realm_shelf_flakes, .inl (cI, 8, .inl v_realm_shelf_flakes)), (qt_realm_shelf_flying, .inl (cI, 8, .inl v_realm_shelf_flying)), (qt_realm_shelf_leaks, .inl (cI, 8, .inl v_realm_shelf_leaks)), (qt_realm_shelf_cloudy, .inl (cI, 8, .inl v_realm_shelf_cloudy)), (qt_realm_shelf_content, .inl (cI, 8, .inl v_realm_shelf_content)), (qt_realm_shelf_in, .inl (cI, 8, .inl v_realm_shelf_in))]) (gw_rS (n := 2) ⟨hx, hb, hml, hown, hts⟩ (C_X9_isUpTo l D cI cJ cZ H.size p3 (99 : Int32) r21 hc21) gX9_globe_X9_isUpTo rfl rfl rfl hdS_X9_isUpTo ⟨Nat.le_of_ble_eq_true rfl, Nat.le_of_ble_eq_true rfl⟩ hE (hP.sub [] rfl) (hD.sub [] (by decide) rfl) rfl hl.1 (rest := []) rfl (Nat.le_of_ble_eq_true rfl) dX9_globe_21 ⟨Nat.zero_le _, Nat.zero_le _⟩) hP hD hS hA [] [0, 1, 2, 3, 4, 5, 6, 7, 8, 9] rfl rfl rfl (by decide) rfl (fun H locs hP hD hS => ?_)
      refine lv_if_eq (tgt := 37) hx hb dX9_globe_24 (by decide) (fun hc => ?_) (fun hc => ?_)
      · have h := if_t hc h
        refine lv_bipush (v := -2) hx hb dX9_globe_37 (by decide) ?_
        cases h
        rw [hQQ]
        exact gw_iret hx hb hr hlocks hP hD hS dX9_globe_39
      · have h := if_f hc h
        refine lv_iload hx hb dX9_globe_27 (lv_at hl 4 rfl) ?_
        refine lv_bipush (v := 9) hx hb dX9_globe_29 (by decide) ?_
        obtain ⟨r31, hc31, h⟩ := bd1_some h
        refine gw_ci (wr := [(qt, .inr (8, [.ref qt_realm, .ref qt_firstImage, .ref qt_secondImage, .int v_isFirstKept, .int v_isSecondKept, .ref qt_pad, .ref qt_reign, .ref qt_shakers, .ref qt_thumbs])), (qt_realm, .inr (2, [.ref qt_realm_shelf, .ref qt_realm_places, .ref qt_realm_sights])), (qt_realm_shelf, .inr (5, [.ref qt_realm_shelf_water, .ref qt_realm_shelf_flakes, .ref qt_realm_shelf_flying, .ref qt_realm_shelf_leaks, .ref qt_realm_shelf_cloudy, .ref qt_realm_shelf_content, .ref qt_realm_shelf_in, .int v_realm_shelf_there, .int v_realm_shelf_music, .int v_realm_shelf_taxes, .int v_realm_shelf_hour])), (qt_realm_shelf_water, .inl (cI, 8, .inl v_realm_shelf_water)), (qt_realm_shelf_flakes, .inl (cI, 8, .inl v_realm_shelf_flakes)), (qt_realm_shelf_flying, .inl (cI, 8, .inl v_realm_shelf_flying)), (qt_realm_shelf_leaks, .inl (cI, 8, .inl v_realm_shelf_leaks)), (qt_realm_shelf_cloudy, .inl (cI, 8, .inl v_realm_shelf_cloudy)), (qt_realm_shelf_content, .inl (cI, 8, .inl v_realm_shelf_content)), (qt_realm_shelf_in, .inl (cI, 8, .inl v_realm_shelf_in))]) (w2 := [(qt, .inr (8, [.ref qt_realm, .ref qt_firstImage, .ref qt_secondImage, .int v_isFirstKept, .int v_isSecondKept, .ref qt_pad, .ref qt_reign, .ref qt_shakers, .ref qt_thumbs])), (qt_realm, .inr (2, [.ref qt_realm_shelf, .ref qt_realm_places, .ref qt_realm_sights])), (qt_realm_shelf, .inr (5, [.ref qt_realm_shelf_water, .ref qt_realm_shelf_flakes, .ref qt_realm_shelf_flying, .ref qt_realm_shelf_leaks, .ref qt_realm_shelf_cloudy, .ref qt_realm_shelf_content, .ref qt_realm_shelf_in, .int v_realm_shelf_there, .int v_realm_shelf_music, .int v_realm_shelf_taxes, .int v_realm_shelf_hour])), (qt_realm_shelf_water, .inl (cI, 8, .inl v_realm_shelf_water)), (qt_realm_shelf_flakes, .inl (cI, 8, .inl v_realm_shelf_flakes)), (qt_realm_shelf_flying, .inl (cI, 8, .inl v_realm_shelf_flying)), (qt_realm_shelf_leaks, .inl (cI, 8, .inl v_realm_shelf_leaks)), (qt_realm_shelf_cloudy, .inl (cI, 8, .inl v_realm_shelf_cloudy)), (qt_realm_shelf_content, .inl (cI, 8, .inl v_realm_shelf_content)), (qt_realm_shelf_in, .inl (cI, 8, .inl v_realm_shelf_in))]) (gw_rS (n := 2) ⟨hx, hb, hml, hown, hts⟩ (C_X9_isUpTo l D cI cJ cZ H.size p4 (9 : Int32) r31 hc31) gX9_globe_X9_isUpTo rfl rfl rfl hdS_X9_isUpTo ⟨Nat.le_of_ble_eq_true rfl, Nat.le_of_ble_eq_true rfl⟩ hE (hP.sub [] rfl) (hD.sub [] (by decide) rfl) rfl hl.1 (rest := []) rfl (Nat.le_of_ble_eq_true rfl) dX9_globe_31 ⟨Nat.zero_le _, Nat.zero_le _⟩) hP hD hS hA [] [0, 1, 2, 3, 4, 5, 6, 7, 8, 9] rfl rfl rfl (by decide) rfl (fun H locs hP hD hS => ?_)
        refine lv_if_ne (tgt := 40) hx hb dX9_globe_34 (by decide) (fun hc => ?_) (fun hc => ?_)
        · have h := if_f hc h
          refine lv_aload_n hx hb dX9_globe_40 rfl (lv_at hl 0 rfl) ?_
          refine va_get (D := D) (ci := 8) (C := RX9) (T := TX9) (N := 9) hx hb hts (fun _ hw => (List.mem_cons_of_mem _ (List.mem_append_left _ (List.mem_append_left _ (List.mem_append_right _ hw))))) hown hE.1 hP 0 rfl rfl 0 (by decide) (hts (.fieldLink RX9 10 "GlobeCrown" "realm" "LGlobeCrown$Realm;") (List.mem_cons_of_mem _ (List.mem_append_left _ (List.mem_append_left _ (List.mem_append_left _ (List.mem_append_left _ (List.mem_of_getElem? (i := 0) rfl))))))) (fun _ h9 => h9) rfl dX9_globe_41 ?_
          refine va_get (D := D) (ci := 2) (C := RX3) (T := TX3) (N := 3) hx hb hts (fun _ hw => (List.mem_cons_of_mem _ (List.mem_append_left _ (List.mem_append_right _ hw)))) hown hE.1 hP 1 rfl rfl 0 (by decide) (hts (.fieldLink RX9 58 "GlobeCrown$Realm" "shelf" "LGlobeCrown$Shelf;") (List.mem_cons_of_mem _ (List.mem_append_left _ (List.mem_append_left _ (List.mem_append_left _ (List.mem_append_left _ (List.mem_of_getElem? (i := 1) rfl))))))) (fun _ h9 => h9) rfl dX9_globe_44 ?_
          refine lv_iload_n hx hb dX9_globe_47 rfl (lv_at hl 1 rfl) ?_
          refine lv_iload_n hx hb dX9_globe_48 rfl (lv_at hl 2 rfl) ?_
          refine lv_iload_n hx hb dX9_globe_49 rfl (lv_at hl 3 rfl) ?_
          refine lv_iload hx hb dX9_globe_50 (lv_at hl 4 rfl) ?_
          refine lv_iload hx hb dX9_globe_52 (lv_at hl 5 rfl) ?_
          obtain ⟨u54v_realm_shelf_water, u54v_realm_shelf_flakes, u54v_realm_shelf_flying, u54v_realm_shelf_leaks, u54v_realm_shelf_cloudy, u54v_realm_shelf_content, u54v_realm_shelf_in, u54v_realm_shelf_there, u54v_realm_shelf_music, hc54, h⟩ := bd9_some h
          refine gw_cv (wr := [(qt, .inr (8, [.ref qt_realm, .ref qt_firstImage, .ref qt_secondImage, .int v_isFirstKept, .int v_isSecondKept, .ref qt_pad, .ref qt_reign, .ref qt_shakers, .ref qt_thumbs])), (qt_realm, .inr (2, [.ref qt_realm_shelf, .ref qt_realm_places, .ref qt_realm_sights]))]) (w2 := [(qt, .inr (8, [.ref qt_realm, .ref qt_firstImage, .ref qt_secondImage, .int v_isFirstKept, .int v_isSecondKept, .ref qt_pad, .ref qt_reign, .ref qt_shakers, .ref qt_thumbs])), (qt_realm, .inr (2, [.ref qt_realm_shelf, .ref qt_realm_places, .ref qt_realm_sights])), (qt_realm_shelf, .inr (5, [.ref qt_realm_shelf_water, .ref qt_realm_shelf_flakes, .ref qt_realm_shelf_flying, .ref qt_realm_shelf_leaks, .ref qt_realm_shelf_cloudy, .ref qt_realm_shelf_content, .ref qt_realm_shelf_in, .int u54v_realm_shelf_there, .int u54v_realm_shelf_music, .int v_realm_shelf_taxes, .int v_realm_shelf_hour])), (qt_realm_shelf_water, .inl (cI, 8, .inl u54v_realm_shelf_water)), (qt_realm_shelf_flakes, .inl (cI, 8, .inl u54v_realm_shelf_flakes)), (qt_realm_shelf_flying, .inl (cI, 8, .inl u54v_realm_shelf_flying)), (qt_realm_shelf_leaks, .inl (cI, 8, .inl u54v_realm_shelf_leaks)), (qt_realm_shelf_cloudy, .inl (cI, 8, .inl u54v_realm_shelf_cloudy)), (qt_realm_shelf_content, .inl (cI, 8, .inl u54v_realm_shelf_content)), (qt_realm_shelf_in, .inl (cI, 8, .inl u54v_realm_shelf_in))]) (gw_rV (n := 5) ⟨hx, hb, hml, hown, hts⟩ (C_X6_set l D cI cJ cZ H.size qt_realm_shelf qt_realm_shelf_water qt_realm_shelf_flakes qt_realm_shelf_flying qt_realm_shelf_leaks qt_realm_shelf_cloudy qt_realm_shelf_content qt_realm_shelf_in v_realm_shelf_water v_realm_shelf_flakes v_realm_shelf_flying v_realm_shelf_leaks v_realm_shelf_cloudy v_realm_shelf_content v_realm_shelf_in v_realm_shelf_there v_realm_shelf_music v_realm_shelf_taxes v_realm_shelf_hour p1 p2 p3 p4 p5 u54v_realm_shelf_water u54v_realm_shelf_flakes u54v_realm_shelf_flying u54v_realm_shelf_leaks u54v_realm_shelf_cloudy u54v_realm_shelf_content u54v_realm_shelf_in u54v_realm_shelf_there u54v_realm_shelf_music hc54) gX9_globe_X6_set rfl rfl rfl hdV_X6_set ⟨Nat.le_of_ble_eq_true rfl, Nat.le_of_ble_eq_true rfl⟩ hE (hP.sub [2, 3, 4, 5, 6, 7, 8, 9] rfl) (hD.sub [2, 3, 4, 5, 6, 7, 8, 9] (by decide) rfl) 5 rfl 0 rfl rfl hl.1 (rest := []) rfl (Nat.le_of_ble_eq_true rfl) dX9_globe_54 ⟨Nat.zero_le _, Nat.zero_le _⟩) hP hD hS hA [2, 3, 4, 5, 6, 7, 8, 9] [0, 1] rfl rfl rfl (by decide) rfl (fun H locs hP hD hS => ?_)
          refine lv_aload_n hx hb dX9_globe_57 rfl (lv_at hl 0 rfl) ?_
          refine va_get (D := D) (ci := 8) (C := RX9) (T := TX9) (N := 9) hx hb hts (fun _ hw => (List.mem_cons_of_mem _ (List.mem_append_left _ (List.mem_append_left _ (List.mem_append_right _ hw))))) hown hE.1 hP 0 rfl rfl 0 (by decide) (hts (.fieldLink RX9 10 "GlobeCrown" "realm" "LGlobeCrown$Realm;") (List.mem_cons_of_mem _ (List.mem_append_left _ (List.mem_append_left _ (List.mem_append_left _ (List.mem_append_left _ (List.mem_of_getElem? (i := 0) rfl))))))) (fun _ h9 => h9) rfl dX9_globe_58 ?_
          refine va_get (D := D) (ci := 2) (C := RX3) (T := TX3) (N := 3) hx hb hts (fun _ hw => (List.mem_cons_of_mem _ (List.mem_append_left _ (List.mem_append_right _ hw)))) hown hE.1 hP 1 rfl rfl 0 (by decide) (hts (.fieldLink RX9 58 "GlobeCrown$Realm" "shelf" "LGlobeCrown$Shelf;") (List.mem_cons_of_mem _ (List.mem_append_left _ (List.mem_append_left _ (List.mem_append_left _ (List.mem_append_left _ (List.mem_of_getElem? (i := 1) rfl))))))) (fun _ h9 => h9) rfl dX9_globe_61 ?_
          refine va_get (D := D) (ci := 5) (C := RX6) (T := TX6) (N := 11) hx hb hts (fun _ hw => (List.mem_cons_of_mem _ (List.mem_append_right _ hw))) hown hE.1 hP 2 rfl rfl 7 (by decide) (hts (.fieldLink RX9 68 "GlobeCrown$Shelf" "there" "I") (List.mem_cons_of_mem _ (List.mem_append_left _ (List.mem_append_left _ (List.mem_append_left _ (List.mem_append_left _ (List.mem_of_getElem? (i := 2) rfl))))))) (fun _ h9 => h9) rfl dX9_globe_64 ?_
          obtain ⟨r67, hc67, h⟩ := bd1_some h
          refine gw_ci (wr := [(qt, .inr (8, [.ref qt_realm, .ref qt_firstImage, .ref qt_secondImage, .int v_isFirstKept, .int v_isSecondKept, .ref qt_pad, .ref qt_reign, .ref qt_shakers, .ref qt_thumbs])), (qt_realm, .inr (2, [.ref qt_realm_shelf, .ref qt_realm_places, .ref qt_realm_sights])), (qt_realm_shelf, .inr (5, [.ref qt_realm_shelf_water, .ref qt_realm_shelf_flakes, .ref qt_realm_shelf_flying, .ref qt_realm_shelf_leaks, .ref qt_realm_shelf_cloudy, .ref qt_realm_shelf_content, .ref qt_realm_shelf_in, .int u54v_realm_shelf_there, .int u54v_realm_shelf_music, .int v_realm_shelf_taxes, .int v_realm_shelf_hour])), (qt_realm_shelf_water, .inl (cI, 8, .inl u54v_realm_shelf_water)), (qt_realm_shelf_flakes, .inl (cI, 8, .inl u54v_realm_shelf_flakes)), (qt_realm_shelf_flying, .inl (cI, 8, .inl u54v_realm_shelf_flying)), (qt_realm_shelf_leaks, .inl (cI, 8, .inl u54v_realm_shelf_leaks)), (qt_realm_shelf_cloudy, .inl (cI, 8, .inl u54v_realm_shelf_cloudy)), (qt_realm_shelf_content, .inl (cI, 8, .inl u54v_realm_shelf_content)), (qt_realm_shelf_in, .inl (cI, 8, .inl u54v_realm_shelf_in))]) (w2 := [(qt, .inr (8, [.ref qt_realm, .ref qt_firstImage, .ref qt_secondImage, .int v_isFirstKept, .int v_isSecondKept, .ref qt_pad, .ref qt_reign, .ref qt_shakers, .ref qt_thumbs])), (qt_realm, .inr (2, [.ref qt_realm_shelf, .ref qt_realm_places, .ref qt_realm_sights])), (qt_realm_shelf, .inr (5, [.ref qt_realm_shelf_water, .ref qt_realm_shelf_flakes, .ref qt_realm_shelf_flying, .ref qt_realm_shelf_leaks, .ref qt_realm_shelf_cloudy, .ref qt_realm_shelf_content, .ref qt_realm_shelf_in, .int u54v_realm_shelf_there, .int u54v_realm_shelf_music, .int v_realm_shelf_taxes, .int v_realm_shelf_hour])), (qt_realm_shelf_water, .inl (cI, 8, .inl u54v_realm_shelf_water)), (qt_realm_shelf_flakes, .inl (cI, 8, .inl u54v_realm_shelf_flakes)), (qt_realm_shelf_flying, .inl (cI, 8, .inl u54v_realm_shelf_flying)), (qt_realm_shelf_leaks, .inl (cI, 8, .inl u54v_realm_shelf_leaks)), (qt_realm_shelf_cloudy, .inl (cI, 8, .inl u54v_realm_shelf_cloudy)), (qt_realm_shelf_content, .inl (cI, 8, .inl u54v_realm_shelf_content)), (qt_realm_shelf_in, .inl (cI, 8, .inl u54v_realm_shelf_in))]) (gw_rS (n := 1) ⟨hx, hb, hml, hown, hts⟩ (C_J6_bitCount_0f7a4 l D cI cJ cZ H.size u54v_realm_shelf_there r67 hc67) gX9_globe_J6_bitCount_0f7a4 rfl rfl rfl hdS_J6_bitCount_0f7a4 ⟨Nat.le_of_ble_eq_true rfl, Nat.le_of_ble_eq_true rfl⟩ hE (hP.sub [] rfl) (hD.sub [] (by decide) rfl) rfl hl.1 (rest := []) rfl (Nat.le_of_ble_eq_true rfl) dX9_globe_67 ⟨Nat.zero_le _, Nat.zero_le _⟩) hP hD hS hA [] [0, 1, 2, 3, 4, 5, 6, 7, 8, 9] rfl rfl rfl (by decide) rfl (fun H locs hP hD hS => ?_)
          cases h
          rw [hQQ]
          exact gw_iret hx hb hr hlocks hP hD hS dX9_globe_70
        · have h := if_t hc h
          refine lv_bipush (v := -2) hx hb dX9_globe_37 (by decide) ?_
          cases h
          rw [hQQ]
          exact gw_iret hx hb hr hlocks hP hD hS dX9_globe_39
  · have h := if_t hc h
    refine lv_iconst (v := -1) hx hb dX9_globe_7 (by decide) ?_
    cases h
    rw [hQQ]
    exact gw_iret hx hb hr hlocks hP hD hS dX9_globe_8
theorem hdV_X9_globe : yX9_globe.cls = RX9 ∧ yX9_globe.cls ≠ "java/lang/invoke/MethodHandle" ∧ yX9_globe.cls ≠ "java/lang/invoke/VarHandle" ∧ (parseMethodDescriptor yX9_globe.desc).map (fun d => d.parameters.length) = some 5 := by decide +kernel
def f_X9_fly (v_realm_shelf_flakes : (Nat → Int32)) (v_realm_shelf_flying : (Nat → Int32)) (v_realm_shelf_there : Int32) (p1 : Int32) (p2 : Int32) : Option (Int32 × (Nat → Int32)) := (bd1 (f_X6_has v_realm_shelf_there p1) (fun r10 => (if r10 = (0 : Int32) then (some ((-1 : Int32), v_realm_shelf_flying)) else (gin p1 8 (bd1 (f_X9_isUpTo p2 (v_realm_shelf_flakes (Int32.toNatClampNeg p1))) (fun r25 => (if r25 = (0 : Int32) then (some ((-2 : Int32), v_realm_shelf_flying)) else (gin p1 8 (gin p1 8 (some ((v_realm_shelf_flying (Int32.toNatClampNeg p1)), (upd v_realm_shelf_flying (Int32.toNatClampNeg p1) p2))))))))))))
abbrev rm_X9_fly : Room := { frames := 1, cells := 0, slots := 0, locals := 21 }
set_option maxHeartbeats 4000000 in
set_option maxRecDepth 100000 in
theorem C_X9_fly (l : Launch) (D : va_G) (cI cJ cZ : ClassId) (sz : Nat) (qt qt_realm qt_realm_shelf qt_realm_shelf_water qt_realm_shelf_flakes qt_realm_shelf_flying qt_realm_shelf_leaks qt_realm_shelf_cloudy qt_realm_shelf_content qt_realm_shelf_in qt_realm_places qt_realm_sights qt_firstImage qt_secondImage qt_pad qt_reign qt_shakers qt_thumbs : Nat) (v_realm_shelf_flakes : (Nat → Int32)) (v_realm_shelf_flying : (Nat → Int32)) (v_realm_shelf_there : Int32) (v_realm_shelf_music : Int32) (v_realm_shelf_taxes : Int32) (v_realm_shelf_hour : Int32) (v_isFirstKept : Int32) (v_isSecondKept : Int32) (p1 : Int32) (p2 : Int32) (r : Int32) (w_realm_shelf_flying : (Nat → Int32)) (hf : f_X9_fly v_realm_shelf_flakes v_realm_shelf_flying v_realm_shelf_there p1 p2 = some (r, w_realm_shelf_flying)) : Met l yX9_fly wsX9_fly rm_X9_fly (PR D cI cJ cZ [(qt, .inr (8, [.ref qt_realm, .ref qt_firstImage, .ref qt_secondImage, .int v_isFirstKept, .int v_isSecondKept, .ref qt_pad, .ref qt_reign, .ref qt_shakers, .ref qt_thumbs])), (qt_realm, .inr (2, [.ref qt_realm_shelf, .ref qt_realm_places, .ref qt_realm_sights])), (qt_realm_shelf, .inr (5, [.ref qt_realm_shelf_water, .ref qt_realm_shelf_flakes, .ref qt_realm_shelf_flying, .ref qt_realm_shelf_leaks, .ref qt_realm_shelf_cloudy, .ref qt_realm_shelf_content, .ref qt_realm_shelf_in, .int v_realm_shelf_there, .int v_realm_shelf_music, .int v_realm_shelf_taxes, .int v_realm_shelf_hour])), (qt_realm_shelf_flakes, .inl (cI, 8, .inl v_realm_shelf_flakes)), (qt_realm_shelf_flying, .inl (cI, 8, .inl v_realm_shelf_flying))] sz [.ref qt, .int p1, .int p2]) (QI D (va_A [(qt, .inr (8, [.ref qt_realm, .ref qt_firstImage, .ref qt_secondImage, .int v_isFirstKept, .int v_isSecondKept, .ref qt_pad, .ref qt_reign, .ref qt_shakers, .ref qt_thumbs])), (qt_realm, .inr (2, [.ref qt_realm_shelf, .ref qt_realm_places, .ref qt_realm_sights])), (qt_realm_shelf, .inr (5, [.ref qt_realm_shelf_water, .ref qt_realm_shelf_flakes, .ref qt_realm_shelf_flying, .ref qt_realm_shelf_leaks, .ref qt_realm_shelf_cloudy, .ref qt_realm_shelf_content, .ref qt_realm_shelf_in, .int v_realm_shelf_there, .int v_realm_shelf_music, .int v_realm_shelf_taxes, .int v_realm_shelf_hour])), (qt_realm_shelf_flakes, .inl (cI, 8, .inl v_realm_shelf_flakes)), (qt_realm_shelf_flying, .inl (cI, 8, .inl v_realm_shelf_flying))] sz) r [(qt, .inr (8, [.ref qt_realm, .ref qt_firstImage, .ref qt_secondImage, .int v_isFirstKept, .int v_isSecondKept, .ref qt_pad, .ref qt_reign, .ref qt_shakers, .ref qt_thumbs])), (qt_realm, .inr (2, [.ref qt_realm_shelf, .ref qt_realm_places, .ref qt_realm_sights])), (qt_realm_shelf, .inr (5, [.ref qt_realm_shelf_water, .ref qt_realm_shelf_flakes, .ref qt_realm_shelf_flying, .ref qt_realm_shelf_leaks, .ref qt_realm_shelf_cloudy, .ref qt_realm_shelf_content, .ref qt_realm_shelf_in, .int v_realm_shelf_there, .int v_realm_shelf_music, .int v_realm_shelf_taxes, .int v_realm_shelf_hour])), (qt_realm_shelf_flakes, .inl (cI, 8, .inl v_realm_shelf_flakes)), (qt_realm_shelf_flying, .inl (cI, 8, .inl w_realm_shelf_flying))]) 0 0 (va_A [(qt, .inr (8, [.ref qt_realm, .ref qt_firstImage, .ref qt_secondImage, .int v_isFirstKept, .int v_isSecondKept, .ref qt_pad, .ref qt_reign, .ref qt_shakers, .ref qt_thumbs])), (qt_realm, .inr (2, [.ref qt_realm_shelf, .ref qt_realm_places, .ref qt_realm_sights])), (qt_realm_shelf, .inr (5, [.ref qt_realm_shelf_water, .ref qt_realm_shelf_flakes, .ref qt_realm_shelf_flying, .ref qt_realm_shelf_leaks, .ref qt_realm_shelf_cloudy, .ref qt_realm_shelf_content, .ref qt_realm_shelf_in, .int v_realm_shelf_there, .int v_realm_shelf_music, .int v_realm_shelf_taxes, .int v_realm_shelf_hour])), (qt_realm_shelf_flakes, .inl (cI, 8, .inl v_realm_shelf_flakes)), (qt_realm_shelf_flying, .inl (cI, 8, .inl v_realm_shelf_flying))] sz) := by
  refine Met.ofW (cc := cX9_fly) (maxL := 5) (ret := (some .int)) (by decide) rfl ?_
  intro p e s m args below meth c s₁ B hml hv
  obtain ⟨hav, hsz, hP, hD0, hE⟩ := hv
  have hx := B.exec
  have hb := B.bytes
  have hr := B.returns
  have hts := atoms_spec (ws := wsX9_fly) B.pre
  have hown : s.vm.findClass RX9 = some m.cls := findClass_of_methodNamed B.named
  have hlocks := B.notSynchronized
  subst hsz
  have hD := hD0.self (sz := s.heap.size)
  generalize hAe : va_A [(qt, .inr (8, [.ref qt_realm, .ref qt_firstImage, .ref qt_secondImage, .int v_isFirstKept, .int v_isSecondKept, .ref qt_pad, .ref qt_reign, .ref qt_shakers, .ref qt_thumbs])), (qt_realm, .inr (2, [.ref qt_realm_shelf, .ref qt_realm_places, .ref qt_realm_sights])), (qt_realm_shelf, .inr (5, [.ref qt_realm_shelf_water, .ref qt_realm_shelf_flakes, .ref qt_realm_shelf_flying, .ref qt_realm_shelf_leaks, .ref qt_realm_shelf_cloudy, .ref qt_realm_shelf_content, .ref qt_realm_shelf_in, .int v_realm_shelf_there, .int v_realm_shelf_music, .int v_realm_shelf_taxes, .int v_realm_shelf_hour])), (qt_realm_shelf_flakes, .inl (cI, 8, .inl v_realm_shelf_flakes)), (qt_realm_shelf_flying, .inl (cI, 8, .inl v_realm_shelf_flying))] s.heap.size = A at hD ⊢
  have hA : ∀ q : Nat, s.heap.size ≤ q → A q := fun q h => by rw [← hAe]; exact Or.inr h
  have hS : va_S A s.heap s.heap [] := va_S.rf
  have hl := lv_entry ([.ref qt, .int p1, .int p2]) (n := 5) (Nat.le_of_ble_eq_true rfl)
  have hfr : entryFrame m args 5 = entryFrame m ([.ref qt, .int p1, .int p2] : List Value).toArray 5 := by rw [hav]
  rw [hfr, lg_entry_eq]
  generalize (lg_sl ([.ref qt, .int p1, .int p2]) ++ List.replicate (5 - (lg_sl ([.ref qt, .int p1, .int p2])).length) Slot.unset).toArray = ls at hl ⊢
  have hl : lv_has ls 5 [(0, .ref qt), (1, .int p1), (2, .int p2)] := hl
  obtain ⟨QQ, hQQ⟩ : ∃ QQ, QQ = MQ below (QI D A r [(qt, .inr (8, [.ref qt_realm, .ref qt_firstImage, .ref qt_secondImage, .int v_isFirstKept, .int v_isSecondKept, .ref qt_pad, .ref qt_reign, .ref qt_shakers, .ref qt_thumbs])), (qt_realm, .inr (2, [.ref qt_realm_shelf, .ref qt_realm_places, .ref qt_realm_sights])), (qt_realm_shelf, .inr (5, [.ref qt_realm_shelf_water, .ref qt_realm_shelf_flakes, .ref qt_realm_shelf_flying, .ref qt_realm_shelf_leaks, .ref qt_realm_shelf_cloudy, .ref qt_realm_shelf_content, .ref qt_realm_shelf_in, .int v_realm_shelf_there, .int v_realm_shelf_music, .int v_realm_shelf_taxes, .int v_realm_shelf_hour])), (qt_realm_shelf_flakes, .inl (cI, 8, .inl v_realm_shelf_flakes)), (qt_realm_shelf_flying, .inl (cI, 8, .inl w_realm_shelf_flying))]) args s 0 0 A := ⟨_, rfl⟩
  show W p l e rm_X9_fly s m args below meth c s.heap [] 0 0 _ _
  rw [← hQQ]
  have h := hf
  unfold f_X9_fly at h
  refine gw_start hP hD hS (fun H locs hP hD hS => ?_)
  refine lv_aload_n hx hb dX9_fly_0 rfl (lv_at hl 0 rfl) ?_
  refine va_get (D := D) (ci := 8) (C := RX9) (T := TX9) (N := 9) hx hb hts (fun _ hw => (List.mem_cons_of_mem _ (List.mem_append_left _ (List.mem_append_left _ (List.mem_append_right _ hw))))) hown hE.1 hP 0 rfl rfl 0 (by decide) (hts (.fieldLink RX9 10 "GlobeCrown" "realm" "LGlobeCrown$Realm;") (List.mem_cons_of_mem _ (List.mem_append_left _ (List.mem_append_left _ (List.mem_append_left _ (List.mem_of_getElem? (i := 0) rfl)))))) (fun _ h9 => h9) rfl dX9_fly_1 ?_
  refine va_get (D := D) (ci := 2) (C := RX3) (T := TX3) (N := 3) hx hb hts (fun _ hw => (List.mem_cons_of_mem _ (List.mem_append_left _ (List.mem_append_right _ hw)))) hown hE.1 hP 1 rfl rfl 0 (by decide) (hts (.fieldLink RX9 58 "GlobeCrown$Realm" "shelf" "LGlobeCrown$Shelf;") (List.mem_cons_of_mem _ (List.mem_append_left _ (List.mem_append_left _ (List.mem_append_left _ (List.mem_of_getElem? (i := 1) rfl)))))) (fun _ h9 => h9) rfl dX9_fly_4 ?_
  refine lv_astore_n (lv' := [(3, .ref qt_realm_shelf), (0, .ref qt), (1, .int p1), (2, .int p2)]) hx hb dX9_fly_7 rfl hl (by decide) rfl (fun ls hl => ?_)
  refine lv_aload_n hx hb dX9_fly_8 rfl (lv_at hl 0 rfl) ?_
  refine lv_iload_n hx hb dX9_fly_9 rfl (lv_at hl 2 rfl) ?_
  obtain ⟨r10, hc10, h⟩ := bd1_some h
  refine gw_ci (wr := [(qt, .inr (8, [.ref qt_realm, .ref qt_firstImage, .ref qt_secondImage, .int v_isFirstKept, .int v_isSecondKept, .ref qt_pad, .ref qt_reign, .ref qt_shakers, .ref qt_thumbs])), (qt_realm, .inr (2, [.ref qt_realm_shelf, .ref qt_realm_places, .ref qt_realm_sights])), (qt_realm_shelf_flakes, .inl (cI, 8, .inl v_realm_shelf_flakes)), (qt_realm_shelf_flying, .inl (cI, 8, .inl v_realm_shelf_flying))]) (w2 := [(qt, .inr (8, [.ref qt_realm, .ref qt_firstImage, .ref qt_secondImage, .int v_isFirstKept, .int v_isSecondKept, .ref qt_pad, .ref qt_reign, .ref qt_shakers, .ref qt_thumbs])), (qt_realm, .inr (2, [.ref qt_realm_shelf, .ref qt_realm_places, .ref qt_realm_sights])), (qt_realm_shelf_flakes, .inl (cI, 8, .inl v_realm_shelf_flakes)), (qt_realm_shelf_flying, .inl (cI, 8, .inl v_realm_shelf_flying)), (qt_realm_shelf, .inr (5, [.ref qt_realm_shelf_water, .ref qt_realm_shelf_flakes, .ref qt_realm_shelf_flying, .ref qt_realm_shelf_leaks, .ref qt_realm_shelf_cloudy, .ref qt_realm_shelf_content, .ref qt_realm_shelf_in, .int v_realm_shelf_there, .int v_realm_shelf_music, .int v_realm_shelf_taxes, .int v_realm_shelf_hour]))]) (gw_rV (n := 1) ⟨hx, hb, hml, hown, hts⟩ (C_X6_has l D cI cJ cZ H.size qt_realm_shelf qt_realm_shelf_water qt_realm_shelf_flakes qt_realm_shelf_flying qt_realm_shelf_leaks qt_realm_shelf_cloudy qt_realm_shelf_content qt_realm_shelf_in v_realm_shelf_there v_realm_shelf_music v_realm_shelf_taxes v_realm_shelf_hour p1 r10 hc10) gX9_fly_X6_has rfl rfl rfl hdV_X6_has ⟨Nat.le_of_ble_eq_true rfl, Nat.le_of_ble_eq_true rfl⟩ hE (hP.sub [2] rfl) (hD.sub [2] (by decide) rfl) 5 rfl 0 rfl rfl hl.1 (rest := []) rfl (Nat.le_of_ble_eq_true rfl) dX9_fly_10 ⟨Nat.zero_le _, Nat.zero_le _⟩) hP hD hS hA [2] [0, 1, 3, 4] rfl rfl rfl (by decide) rfl (fun H locs hP hD hS => ?_)
  refine lv_if_ne (tgt := 18) hx hb dX9_fly_13 (by decide) (fun hc => ?_) (fun hc => ?_)
  · have h := if_f hc h
    refine lv_iload_n hx hb dX9_fly_18 rfl (lv_at hl 3 rfl) ?_
    refine lv_aload_n hx hb dX9_fly_19 rfl (lv_at hl 0 rfl) ?_
    refine va_get (D := D) (ci := 5) (C := RX6) (T := TX6) (N := 11) hx hb hts (fun _ hw => (List.mem_cons_of_mem _ (List.mem_append_right _ hw))) hown hE.1 hP 4 rfl rfl 1 (by decide) (hts (.fieldLink RX9 81 "GlobeCrown$Shelf" "flakes" "[I") (List.mem_cons_of_mem _ (List.mem_append_left _ (List.mem_append_left _ (List.mem_append_left _ (List.mem_of_getElem? (i := 2) rfl)))))) (fun _ h9 => h9) rfl dX9_fly_20 ?_
    refine lv_iload_n hx hb dX9_fly_23 rfl (lv_at hl 2 rfl) ?_
    obtain ⟨hg, h⟩ := gin_some h
    refine va_iald hx hb hE.1 hP 2 0 rfl rfl hg dX9_fly_24 ?_
    obtain ⟨r25, hc25, h⟩ := bd1_some h
    refine gw_ci (wr := [(qt, .inr (8, [.ref qt_realm, .ref qt_firstImage, .ref qt_secondImage, .int v_isFirstKept, .int v_isSecondKept, .ref qt_pad, .ref qt_reign, .ref qt_shakers, .ref qt_thumbs])), (qt_realm, .inr (2, [.ref qt_realm_shelf, .ref qt_realm_places, .ref qt_realm_sights])), (qt_realm_shelf_flakes, .inl (cI, 8, .inl v_realm_shelf_flakes)), (qt_realm_shelf_flying, .inl (cI, 8, .inl v_realm_shelf_flying)), (qt_realm_shelf, .inr (5, [.ref qt_realm_shelf_water, .ref qt_realm_shelf_flakes, .ref qt_realm_shelf_flying, .ref qt_realm_shelf_leaks, .ref qt_realm_shelf_cloudy, .ref qt_realm_shelf_content, .ref qt_realm_shelf_in, .int v_realm_shelf_there, .int v_realm_shelf_music, .int v_realm_shelf_taxes, .int v_realm_shelf_hour]))]) (w2 := [(qt, .inr (8, [.ref qt_realm, .ref qt_firstImage, .ref qt_secondImage, .int v_isFirstKept, .int v_isSecondKept, .ref qt_pad, .ref qt_reign, .ref qt_shakers, .ref qt_thumbs])), (qt_realm, .inr (2, [.ref qt_realm_shelf, .ref qt_realm_places, .ref qt_realm_sights])), (qt_realm_shelf_flakes, .inl (cI, 8, .inl v_realm_shelf_flakes)), (qt_realm_shelf_flying, .inl (cI, 8, .inl v_realm_shelf_flying)), (qt_realm_shelf, .inr (5, [.ref qt_realm_shelf_water, .ref qt_realm_shelf_flakes, .ref qt_realm_shelf_flying, .ref qt_realm_shelf_leaks, .ref qt_realm_shelf_cloudy, .ref qt_realm_shelf_content, .ref qt_realm_shelf_in, .int v_realm_shelf_there, .int v_realm_shelf_music, .int v_realm_shelf_taxes, .int v_realm_shelf_hour]))]) (gw_rS (n := 2) ⟨hx, hb, hml, hown, hts⟩ (C_X9_isUpTo l D cI cJ cZ H.size p2 (v_realm_shelf_flakes (Int32.toNatClampNeg p1)) r25 hc25) gX9_fly_X9_isUpTo rfl rfl rfl hdS_X9_isUpTo ⟨Nat.le_of_ble_eq_true rfl, Nat.le_of_ble_eq_true rfl⟩ hE (hP.sub [] rfl) (hD.sub [] (by decide) rfl) rfl hl.1 (rest := []) rfl (Nat.le_of_ble_eq_true rfl) dX9_fly_25 ⟨Nat.zero_le _, Nat.zero_le _⟩) hP hD hS hA [] [0, 1, 2, 3, 4] rfl rfl rfl (by decide) rfl (fun H locs hP hD hS => ?_)
    refine lv_if_ne (tgt := 34) hx hb dX9_fly_28 (by decide) (fun hc => ?_) (fun hc => ?_)
    · have h := if_f hc h
      refine lv_aload_n hx hb dX9_fly_34 rfl (lv_at hl 0 rfl) ?_
      refine va_get (D := D) (ci := 5) (C := RX6) (T := TX6) (N := 11) hx hb hts (fun _ hw => (List.mem_cons_of_mem _ (List.mem_append_right _ hw))) hown hE.1 hP 4 rfl rfl 2 (by decide) (hts (.fieldLink RX9 85 "GlobeCrown$Shelf" "flying" "[I") (List.mem_cons_of_mem _ (List.mem_append_left _ (List.mem_append_left _ (List.mem_append_left _ (List.mem_of_getElem? (i := 3) rfl)))))) (fun _ h9 => h9) rfl dX9_fly_35 ?_
      refine lv_iload_n hx hb dX9_fly_38 rfl (lv_at hl 2 rfl) ?_
      obtain ⟨hg, h⟩ := gin_some h
      refine va_iald hx hb hE.1 hP 3 0 rfl rfl hg dX9_fly_39 ?_
      refine lv_istore (lv' := [(4, .int (v_realm_shelf_flying (Int32.toNatClampNeg p1))), (3, .ref qt_realm_shelf), (0, .ref qt), (1, .int p1), (2, .int p2)]) hx hb dX9_fly_40 hl (by decide) rfl (fun ls hl => ?_)
      refine lv_aload_n hx hb dX9_fly_42 rfl (lv_at hl 1 rfl) ?_
      refine va_get (D := D) (ci := 5) (C := RX6) (T := TX6) (N := 11) hx hb hts (fun _ hw => (List.mem_cons_of_mem _ (List.mem_append_right _ hw))) hown hE.1 hP 4 rfl rfl 2 (by decide) (hts (.fieldLink RX9 85 "GlobeCrown$Shelf" "flying" "[I") (List.mem_cons_of_mem _ (List.mem_append_left _ (List.mem_append_left _ (List.mem_append_left _ (List.mem_of_getElem? (i := 3) rfl)))))) (fun _ h9 => h9) rfl dX9_fly_43 ?_
      refine lv_iload_n hx hb dX9_fly_46 rfl (lv_at hl 3 rfl) ?_
      refine lv_iload_n hx hb dX9_fly_47 rfl (lv_at hl 4 rfl) ?_
      obtain ⟨hg, h⟩ := gin_some h
      refine va_iast hx hb hE.1 hP hD hS 3 0 rfl rfl hg dX9_fly_48 (fun H locs (hP : va_P D vwCl [(qt, .inr (8, [.ref qt_realm, .ref qt_firstImage, .ref qt_secondImage, .int v_isFirstKept, .int v_isSecondKept, .ref qt_pad, .ref qt_reign, .ref qt_shakers, .ref qt_thumbs])), (qt_realm, .inr (2, [.ref qt_realm_shelf, .ref qt_realm_places, .ref qt_realm_sights])), (qt_realm_shelf_flakes, .inl (cI, 8, .inl v_realm_shelf_flakes)), (qt_realm_shelf_flying, .inl (cI, 8, .inl (upd v_realm_shelf_flying (Int32.toNatClampNeg p1) p2))), (qt_realm_shelf, .inr (5, [.ref qt_realm_shelf_water, .ref qt_realm_shelf_flakes, .ref qt_realm_shelf_flying, .ref qt_realm_shelf_leaks, .ref qt_realm_shelf_cloudy, .ref qt_realm_shelf_content, .ref qt_realm_shelf_in, .int v_realm_shelf_there, .int v_realm_shelf_music, .int v_realm_shelf_taxes, .int v_realm_shelf_hour]))] H) (hD : va_D A [(qt, .inr (8, [.ref qt_realm, .ref qt_firstImage, .ref qt_secondImage, .int v_isFirstKept, .int v_isSecondKept, .ref qt_pad, .ref qt_reign, .ref qt_shakers, .ref qt_thumbs])), (qt_realm, .inr (2, [.ref qt_realm_shelf, .ref qt_realm_places, .ref qt_realm_sights])), (qt_realm_shelf_flakes, .inl (cI, 8, .inl v_realm_shelf_flakes)), (qt_realm_shelf_flying, .inl (cI, 8, .inl (upd v_realm_shelf_flying (Int32.toNatClampNeg p1) p2))), (qt_realm_shelf, .inr (5, [.ref qt_realm_shelf_water, .ref qt_realm_shelf_flakes, .ref qt_realm_shelf_flying, .ref qt_realm_shelf_leaks, .ref qt_realm_shelf_cloudy, .ref qt_realm_shelf_content, .ref qt_realm_shelf_in, .int v_realm_shelf_there, .int v_realm_shelf_music, .int v_realm_shelf_taxes, .int v_realm_shelf_hour]))]) hS => ?_)
      refine lv_iload hx hb dX9_fly_49 (lv_at hl 0 rfl) ?_
      cases h
      rw [hQQ]
      exact gw_iret hx hb hr hlocks (hP.sub [0, 1, 4, 2, 3] rfl) (hD.sub [0, 1, 4, 2, 3] (by decide) rfl) hS dX9_fly_51
    · have h := if_t hc h
      refine lv_bipush (v := -2) hx hb dX9_fly_31 (by decide) ?_
      cases h
      rw [hQQ]
      exact gw_iret hx hb hr hlocks (hP.sub [0, 1, 4, 2, 3] rfl) (hD.sub [0, 1, 4, 2, 3] (by decide) rfl) hS dX9_fly_33
  · have h := if_t hc h
    refine lv_iconst (v := -1) hx hb dX9_fly_16 (by decide) ?_
    cases h
    rw [hQQ]
    exact gw_iret hx hb hr hlocks (hP.sub [0, 1, 4, 2, 3] rfl) (hD.sub [0, 1, 4, 2, 3] (by decide) rfl) hS dX9_fly_17
theorem hdV_X9_fly : yX9_fly.cls = RX9 ∧ yX9_fly.cls ≠ "java/lang/invoke/MethodHandle" ∧ yX9_fly.cls ≠ "java/lang/invoke/VarHandle" ∧ (parseMethodDescriptor yX9_fly.desc).map (fun d => d.parameters.length) = some 2 := by decide +kernel
