def B_X10_ask_157 (v_sights : Int32) (v_sight : (Nat → Int32)) (p1 : Int32) (rec21 : (Nat → Int32) → Int32 → Int32 → Int32 → Option (Int32 × (Nat → Int32))) (v_counts : (Nat → Int32)) (x3 : Int32) (x4 : Int32) (x5 : Int32) (x6 : Int32) (s0 : Int32) : Option (Int32 × (Nat → Int32)) := (if x6 = (0 : Int32) then (rec21 v_counts s0 x3 (x4 + (1 : Int32))) else (rec21 v_counts s0 x5 (x4 + (1 : Int32))))
def B_X10_ask_144 (v_sights : Int32) (v_sight : (Nat → Int32)) (p1 : Int32) (rec21 : (Nat → Int32) → Int32 → Int32 → Int32 → Option (Int32 × (Nat → Int32))) (v_counts : (Nat → Int32)) (x2 : Int32) (x3 : Int32) (x4 : Int32) (x5 : Int32) (s0 : Int32) : Option (Int32 × (Nat → Int32)) := (if s0 = (0 : Int32) then (B_X10_ask_157 v_sights v_sight p1 rec21 v_counts x3 x4 x5 s0 x2) else (B_X10_ask_157 v_sights v_sight p1 rec21 v_counts x3 x4 x5 s0 x4))
def B_X10_ask_143 (v_sights : Int32) (v_sight : (Nat → Int32)) (p1 : Int32) (rec21 : (Nat → Int32) → Int32 → Int32 → Int32 → Option (Int32 × (Nat → Int32))) (v_counts : (Nat → Int32)) (x2 : Int32) (x3 : Int32) (x4 : Int32) (x5 : Int32) : Option (Int32 × (Nat → Int32)) := (B_X10_ask_144 v_sights v_sight p1 rec21 v_counts x2 x3 x4 x5 (0 : Int32))
def L_X10_ask_59 (v_sights : Int32) (v_sight : (Nat → Int32)) (p1 : Int32) (rec21 : (Nat → Int32) → Int32 → Int32 → Int32 → Option (Int32 × (Nat → Int32))) : Nat → (Nat → Int32) → Int32 → Int32 → Int32 → Int32 → Int32 → Option (Int32 × (Nat → Int32))
  | 0, _, _, _, _, _, _ => none
  | n + 1, v_counts, x2, x3, x4, x5, x6 => (if (1000 : Int32) ≤ x6 then (if x5 ≤ (0 : Int32) then (B_X10_ask_143 v_sights v_sight p1 rec21 v_counts x2 x3 x4 x5) else (if x3 ≤ x5 then (B_X10_ask_143 v_sights v_sight p1 rec21 v_counts x2 x3 x4 x5) else (B_X10_ask_144 v_sights v_sight p1 rec21 v_counts x2 x3 x4 x5 (1 : Int32)))) else (bd1 (f_X10_isFit v_sights v_sight x6) (fun r70 => (if r70 = (0 : Int32) then ((L_X10_ask_59 v_sights v_sight p1 rec21 n) v_counts x2 x3 x4 x5 (x6 + (1 : Int32))) else (bd1 (f_X10_flyingAt x6 x4) (fun r80 => (gin r80 100 (gin r80 100 (gin r80 100 (if ((upd v_counts (Int32.toNatClampNeg r80) ((v_counts (Int32.toNatClampNeg r80)) + (1 : Int32))) (Int32.toNatClampNeg r80)) ≤ x5 then ((L_X10_ask_59 v_sights v_sight p1 rec21 n) (upd v_counts (Int32.toNatClampNeg r80) ((v_counts (Int32.toNatClampNeg r80)) + (1 : Int32))) x2 x3 x4 x5 (x6 + (1 : Int32))) else (gin r80 100 ((L_X10_ask_59 v_sights v_sight p1 rec21 n) (upd v_counts (Int32.toNatClampNeg r80) ((v_counts (Int32.toNatClampNeg r80)) + (1 : Int32))) x2 x3 x4 ((upd v_counts (Int32.toNatClampNeg r80) ((v_counts (Int32.toNatClampNeg r80)) + (1 : Int32))) (Int32.toNatClampNeg r80)) (x6 + (1 : Int32))))))))))))))
def L_X10_ask_34 (v_sights : Int32) (v_sight : (Nat → Int32)) (p1 : Int32) (rec21 : (Nat → Int32) → Int32 → Int32 → Int32 → Option (Int32 × (Nat → Int32))) : Nat → (Nat → Int32) → Int32 → Int32 → Int32 → Int32 → Int32 → Option (Int32 × (Nat → Int32))
  | 0, _, _, _, _, _, _ => none
  | n + 1, v_counts, x2, x3, x4, x5, x6 => (if (100 : Int32) ≤ x6 then (L_X10_ask_59 v_sights v_sight p1 rec21 FU v_counts x2 x3 x4 x5 (100 : Int32)) else (gin x6 100 ((L_X10_ask_34 v_sights v_sight p1 rec21 n) (upd v_counts (Int32.toNatClampNeg x6) (0 : Int32)) x2 x3 x4 x5 (x6 + (1 : Int32)))))
def L_X10_ask_21 (v_sights : Int32) (v_sight : (Nat → Int32)) (p1 : Int32) : Nat → (Nat → Int32) → Int32 → Int32 → Int32 → Option (Int32 × (Nat → Int32))
  | 0, _, _, _, _ => none
  | n + 1, v_counts, x2, x3, x4 => (if (61 : Int32) ≤ x4 then (if x2 < (0 : Int32) then (some (x2, v_counts)) else (if p1 = (0 : Int32) then (some (x2, v_counts)) else (some (x3, v_counts)))) else (L_X10_ask_34 v_sights v_sight p1 (L_X10_ask_21 v_sights v_sight p1 n) FU v_counts x2 x3 x4 (0 : Int32) (0 : Int32)))
def f_X10_ask (v_sights : Int32) (v_sight : (Nat → Int32)) (v_counts : (Nat → Int32)) (p1 : Int32) : Option (Int32 × (Nat → Int32)) := (bd1 (f_X10_in p1 (0 : Int32) (1 : Int32)) (fun r3 => (if r3 = (0 : Int32) then (some ((-2 : Int32), v_counts)) else (L_X10_ask_21 v_sights v_sight p1 FU v_counts (-6 : Int32) (1000000 : Int32) (0 : Int32)))))
abbrev rm_X10_ask : Room := { frames := 2, cells := 0, slots := 0, locals := 46 }
set_option maxHeartbeats 4000000 in
set_option maxRecDepth 100000 in
theorem C_X10_ask (l : Launch) (D : va_G) (cI cJ cZ : ClassId) (sz : Nat) (qt qt_book qt_now qt_flakes qt_leaks qt_ranks qt_sight qt_pad qt_gets qt_counts qt_worth qt_ways qt_image qt_isKept : Nat) (v_music : Int32) (v_sights : Int32) (v_sight : (Nat → Int32)) (v_signs : Int32) (v_freeAt : Int32) (v_freeWho : Int32) (v_reason : Int32) (v_acts : Int32) (v_counts : (Nat → Int32)) (p1 : Int32) (r : Int32) (w_counts : (Nat → Int32)) (hf : f_X10_ask v_sights v_sight v_counts p1 = some (r, w_counts)) : Met l yX10_ask wsX10_ask rm_X10_ask (PR D cI cJ cZ [(qt, .inr (9, [.ref qt_book, .ref qt_now, .ref qt_flakes, .ref qt_leaks, .int v_music, .ref qt_ranks, .int v_sights, .ref qt_sight, .int v_signs, .ref qt_pad, .int v_freeAt, .int v_freeWho, .int v_reason, .int v_acts, .ref qt_gets, .ref qt_counts, .ref qt_worth, .ref qt_ways, .ref qt_image, .ref qt_isKept])), (qt_sight, .inl (cI, 16, .inl v_sight)), (qt_counts, .inl (cI, 100, .inl v_counts))] sz [.ref qt, .int p1]) (QI D (va_A [(qt, .inr (9, [.ref qt_book, .ref qt_now, .ref qt_flakes, .ref qt_leaks, .int v_music, .ref qt_ranks, .int v_sights, .ref qt_sight, .int v_signs, .ref qt_pad, .int v_freeAt, .int v_freeWho, .int v_reason, .int v_acts, .ref qt_gets, .ref qt_counts, .ref qt_worth, .ref qt_ways, .ref qt_image, .ref qt_isKept])), (qt_sight, .inl (cI, 16, .inl v_sight)), (qt_counts, .inl (cI, 100, .inl v_counts))] sz) r [(qt, .inr (9, [.ref qt_book, .ref qt_now, .ref qt_flakes, .ref qt_leaks, .int v_music, .ref qt_ranks, .int v_sights, .ref qt_sight, .int v_signs, .ref qt_pad, .int v_freeAt, .int v_freeWho, .int v_reason, .int v_acts, .ref qt_gets, .ref qt_counts, .ref qt_worth, .ref qt_ways, .ref qt_image, .ref qt_isKept])), (qt_sight, .inl (cI, 16, .inl v_sight)), (qt_counts, .inl (cI, 100, .inl w_counts))]) 0 0 (va_A [(qt, .inr (9, [.ref qt_book, .ref qt_now, .ref qt_flakes, .ref qt_leaks, .int v_music, .ref qt_ranks, .int v_sights, .ref qt_sight, .int v_signs, .ref qt_pad, .int v_freeAt, .int v_freeWho, .int v_reason, .int v_acts, .ref qt_gets, .ref qt_counts, .ref qt_worth, .ref qt_ways, .ref qt_image, .ref qt_isKept])), (qt_sight, .inl (cI, 16, .inl v_sight)), (qt_counts, .inl (cI, 100, .inl v_counts))] sz) := by
  refine Met.ofW (cc := cX10_ask) (maxL := 8) (ret := (some .int)) (by decide) rfl ?_
  intro p e s m args below meth c s₁ B hml hv
  obtain ⟨hav, hsz, hP, hD0, hE⟩ := hv
  have hx := B.exec
  have hb := B.bytes
  have hr := B.returns
  have hts := atoms_spec (ws := wsX10_ask) B.pre
  have hown : s.vm.findClass RX10 = some m.cls := findClass_of_methodNamed B.named
  have hlocks := B.notSynchronized
  subst hsz
  have hD := hD0.self (sz := s.heap.size)
  generalize hAe : va_A [(qt, .inr (9, [.ref qt_book, .ref qt_now, .ref qt_flakes, .ref qt_leaks, .int v_music, .ref qt_ranks, .int v_sights, .ref qt_sight, .int v_signs, .ref qt_pad, .int v_freeAt, .int v_freeWho, .int v_reason, .int v_acts, .ref qt_gets, .ref qt_counts, .ref qt_worth, .ref qt_ways, .ref qt_image, .ref qt_isKept])), (qt_sight, .inl (cI, 16, .inl v_sight)), (qt_counts, .inl (cI, 100, .inl v_counts))] s.heap.size = A at hD ⊢
  have hA : ∀ q : Nat, s.heap.size ≤ q → A q := fun q h => by rw [← hAe]; exact Or.inr h
  have hS : va_S A s.heap s.heap [] := va_S.rf
  have hl := lv_entry ([.ref qt, .int p1]) (n := 8) (Nat.le_of_ble_eq_true rfl)
  have hfr : entryFrame m args 8 = entryFrame m ([.ref qt, .int p1] : List Value).toArray 8 := by rw [hav]
  rw [hfr, lg_entry_eq]
  generalize (lg_sl ([.ref qt, .int p1]) ++ List.replicate (8 - (lg_sl ([.ref qt, .int p1])).length) Slot.unset).toArray = ls at hl ⊢
  have hl : lv_has ls 8 [(0, .ref qt), (1, .int p1)] := hl
  obtain ⟨QQ, hQQ⟩ : ∃ QQ, QQ = MQ below (QI D A r [(qt, .inr (9, [.ref qt_book, .ref qt_now, .ref qt_flakes, .ref qt_leaks, .int v_music, .ref qt_ranks, .int v_sights, .ref qt_sight, .int v_signs, .ref qt_pad, .int v_freeAt, .int v_freeWho, .int v_reason, .int v_acts, .ref qt_gets, .ref qt_counts, .ref qt_worth, .ref qt_ways, .ref qt_image, .ref qt_isKept])), (qt_sight, .inl (cI, 16, .inl v_sight)), (qt_counts, .inl (cI, 100, .inl w_counts))]) args s 0 0 A := ⟨_, rfl⟩
  show W p l e rm_X10_ask s m args below meth c s.heap [] 0 0 _ _
  rw [← hQQ]
  have hL21 : ∀ (n21 : Nat), ∀ (v_counts : (Nat → Int32)) (x2 : Int32) (x3 : Int32) (x4 : Int32) (H : Heap) (locs : List Loc) (ls : Array Slot), va_P D vwCl [(qt, .inr (9, [.ref qt_book, .ref qt_now, .ref qt_flakes, .ref qt_leaks, .int v_music, .ref qt_ranks, .int v_sights, .ref qt_sight, .int v_signs, .ref qt_pad, .int v_freeAt, .int v_freeWho, .int v_reason, .int v_acts, .ref qt_gets, .ref qt_counts, .ref qt_worth, .ref qt_ways, .ref qt_image, .ref qt_isKept])), (qt_sight, .inl (cI, 16, .inl v_sight)), (qt_counts, .inl (cI, 100, .inl v_counts))] H → va_D A [(qt, .inr (9, [.ref qt_book, .ref qt_now, .ref qt_flakes, .ref qt_leaks, .int v_music, .ref qt_ranks, .int v_sights, .ref qt_sight, .int v_signs, .ref qt_pad, .int v_freeAt, .int v_freeWho, .int v_reason, .int v_acts, .ref qt_gets, .ref qt_counts, .ref qt_worth, .ref qt_ways, .ref qt_image, .ref qt_isKept])), (qt_sight, .inl (cI, 16, .inl v_sight)), (qt_counts, .inl (cI, 100, .inl v_counts))] → va_S A s.heap H locs → lv_has ls 8 [(0, .ref qt), (1, .int p1), (2, .int x2), (3, .int x3), (4, .int x4)] → L_X10_ask_21 v_sights v_sight p1 n21 v_counts x2 x3 x4 = some (r, w_counts) → W p l e rm_X10_ask s m args below meth c H locs 0 0 QQ (F0 m 21 ls []) := by
    intro n21
    induction n21 with
    | zero =>
      intro v_counts x2 x3 x4 H locs ls hP hD hS hl h
      have h : none = some (r, w_counts) := h
      cases h
    | succ n21 ih21 =>
      have hB157 : ∀ (v_counts : (Nat → Int32)) (x3 : Int32) (x4 : Int32) (x5 : Int32) (x6 : Int32) (s0 : Int32) (H : Heap) (locs : List Loc) (ls : Array Slot), va_P D vwCl [(qt, .inr (9, [.ref qt_book, .ref qt_now, .ref qt_flakes, .ref qt_leaks, .int v_music, .ref qt_ranks, .int v_sights, .ref qt_sight, .int v_signs, .ref qt_pad, .int v_freeAt, .int v_freeWho, .int v_reason, .int v_acts, .ref qt_gets, .ref qt_counts, .ref qt_worth, .ref qt_ways, .ref qt_image, .ref qt_isKept])), (qt_sight, .inl (cI, 16, .inl v_sight)), (qt_counts, .inl (cI, 100, .inl v_counts))] H → va_D A [(qt, .inr (9, [.ref qt_book, .ref qt_now, .ref qt_flakes, .ref qt_leaks, .int v_music, .ref qt_ranks, .int v_sights, .ref qt_sight, .int v_signs, .ref qt_pad, .int v_freeAt, .int v_freeWho, .int v_reason, .int v_acts, .ref qt_gets, .ref qt_counts, .ref qt_worth, .ref qt_ways, .ref qt_image, .ref qt_isKept])), (qt_sight, .inl (cI, 16, .inl v_sight)), (qt_counts, .inl (cI, 100, .inl v_counts))] → va_S A s.heap H locs → lv_has ls 8 [(0, .ref qt), (1, .int p1), (3, .int x3), (4, .int x4), (5, .int x5), (6, .int x6)] → B_X10_ask_157 v_sights v_sight p1 (L_X10_ask_21 v_sights v_sight p1 n21) v_counts x3 x4 x5 x6 s0 = some (r, w_counts) → W p l e rm_X10_ask s m args below meth c H locs 0 0 QQ (F0 m 157 ls [.int s0]) := by
        intro v_counts x3 x4 x5 x6 s0 H locs ls hP hD hS hl h
        unfold B_X10_ask_157 at h
        refine lv_istore_n (lv' := [(2, .int s0), (0, .ref qt), (1, .int p1), (3, .int x3), (4, .int x4), (5, .int x5), (6, .int x6)]) hx hb dX10_ask_157 rfl hl (by decide) rfl (fun ls hl => ?_)
        refine lv_iload hx hb dX10_ask_158 (lv_at hl 6 rfl) ?_
        refine lv_if_eq (tgt := 168) hx hb dX10_ask_160 (by decide) (fun hc => ?_) (fun hc => ?_)
        · have h := if_t hc h
          refine lv_iload_n hx hb dX10_ask_168 rfl (lv_at hl 3 rfl) ?_
          refine lv_istore_n (lv' := [(3, .int x3), (2, .int s0), (0, .ref qt), (1, .int p1), (4, .int x4), (5, .int x5), (6, .int x6)]) hx hb dX10_ask_169 rfl hl (by decide) rfl (fun ls hl => ?_)
          refine lv_iinc (v := (x4 + (1 : Int32))) (lv' := [(4, .int (x4 + (1 : Int32))), (3, .int x3), (2, .int s0), (0, .ref qt), (1, .int p1), (5, .int x5), (6, .int x6)]) hx hb dX10_ask_170 hl (k := 4) rfl rfl (by decide) rfl (fun ls hl => ?_)
          refine lv_goto (tgt := 21) hx hb dX10_ask_173 (by decide) ?_
          exact ih21 v_counts s0 x3 (x4 + (1 : Int32)) H locs ls hP hD hS (lv_sub hl [3, 4, 2, 1, 0] rfl) h
        · have h := if_f hc h
          refine lv_iload hx hb dX10_ask_163 (lv_at hl 5 rfl) ?_
          refine lv_goto (tgt := 169) hx hb dX10_ask_165 (by decide) ?_
          refine lv_istore_n (lv' := [(3, .int x5), (2, .int s0), (0, .ref qt), (1, .int p1), (4, .int x4), (5, .int x5), (6, .int x6)]) hx hb dX10_ask_169 rfl hl (by decide) rfl (fun ls hl => ?_)
          refine lv_iinc (v := (x4 + (1 : Int32))) (lv' := [(4, .int (x4 + (1 : Int32))), (3, .int x5), (2, .int s0), (0, .ref qt), (1, .int p1), (5, .int x5), (6, .int x6)]) hx hb dX10_ask_170 hl (k := 4) rfl rfl (by decide) rfl (fun ls hl => ?_)
          refine lv_goto (tgt := 21) hx hb dX10_ask_173 (by decide) ?_
          exact ih21 v_counts s0 x5 (x4 + (1 : Int32)) H locs ls hP hD hS (lv_sub hl [3, 4, 2, 1, 0] rfl) h
      have hB144 : ∀ (v_counts : (Nat → Int32)) (x2 : Int32) (x3 : Int32) (x4 : Int32) (x5 : Int32) (s0 : Int32) (H : Heap) (locs : List Loc) (ls : Array Slot), va_P D vwCl [(qt, .inr (9, [.ref qt_book, .ref qt_now, .ref qt_flakes, .ref qt_leaks, .int v_music, .ref qt_ranks, .int v_sights, .ref qt_sight, .int v_signs, .ref qt_pad, .int v_freeAt, .int v_freeWho, .int v_reason, .int v_acts, .ref qt_gets, .ref qt_counts, .ref qt_worth, .ref qt_ways, .ref qt_image, .ref qt_isKept])), (qt_sight, .inl (cI, 16, .inl v_sight)), (qt_counts, .inl (cI, 100, .inl v_counts))] H → va_D A [(qt, .inr (9, [.ref qt_book, .ref qt_now, .ref qt_flakes, .ref qt_leaks, .int v_music, .ref qt_ranks, .int v_sights, .ref qt_sight, .int v_signs, .ref qt_pad, .int v_freeAt, .int v_freeWho, .int v_reason, .int v_acts, .ref qt_gets, .ref qt_counts, .ref qt_worth, .ref qt_ways, .ref qt_image, .ref qt_isKept])), (qt_sight, .inl (cI, 16, .inl v_sight)), (qt_counts, .inl (cI, 100, .inl v_counts))] → va_S A s.heap H locs → lv_has ls 8 [(0, .ref qt), (1, .int p1), (2, .int x2), (3, .int x3), (4, .int x4), (5, .int x5)] → B_X10_ask_144 v_sights v_sight p1 (L_X10_ask_21 v_sights v_sight p1 n21) v_counts x2 x3 x4 x5 s0 = some (r, w_counts) → W p l e rm_X10_ask s m args below meth c H locs 0 0 QQ (F0 m 144 ls [.int s0]) := by
        intro v_counts x2 x3 x4 x5 s0 H locs ls hP hD hS hl h
        unfold B_X10_ask_144 at h
        refine lv_istore (lv' := [(6, .int s0), (0, .ref qt), (1, .int p1), (2, .int x2), (3, .int x3), (4, .int x4), (5, .int x5)]) hx hb dX10_ask_144 hl (by decide) rfl (fun ls hl => ?_)
        refine lv_iload hx hb dX10_ask_146 (lv_at hl 0 rfl) ?_
        refine lv_if_eq (tgt := 156) hx hb dX10_ask_148 (by decide) (fun hc => ?_) (fun hc => ?_)
        · have h := if_t hc h
          refine lv_iload_n hx hb dX10_ask_156 rfl (lv_at hl 3 rfl) ?_
          exact hB157 v_counts x3 x4 x5 s0 x2 H locs ls hP hD hS (lv_sub hl [1, 2, 4, 5, 6, 0] rfl) h
        · have h := if_f hc h
          refine lv_iload hx hb dX10_ask_151 (lv_at hl 5 rfl) ?_
          refine lv_goto (tgt := 157) hx hb dX10_ask_153 (by decide) ?_
          exact hB157 v_counts x3 x4 x5 s0 x4 H locs ls hP hD hS (lv_sub hl [1, 2, 4, 5, 6, 0] rfl) h
      have hB143 : ∀ (v_counts : (Nat → Int32)) (x2 : Int32) (x3 : Int32) (x4 : Int32) (x5 : Int32) (H : Heap) (locs : List Loc) (ls : Array Slot), va_P D vwCl [(qt, .inr (9, [.ref qt_book, .ref qt_now, .ref qt_flakes, .ref qt_leaks, .int v_music, .ref qt_ranks, .int v_sights, .ref qt_sight, .int v_signs, .ref qt_pad, .int v_freeAt, .int v_freeWho, .int v_reason, .int v_acts, .ref qt_gets, .ref qt_counts, .ref qt_worth, .ref qt_ways, .ref qt_image, .ref qt_isKept])), (qt_sight, .inl (cI, 16, .inl v_sight)), (qt_counts, .inl (cI, 100, .inl v_counts))] H → va_D A [(qt, .inr (9, [.ref qt_book, .ref qt_now, .ref qt_flakes, .ref qt_leaks, .int v_music, .ref qt_ranks, .int v_sights, .ref qt_sight, .int v_signs, .ref qt_pad, .int v_freeAt, .int v_freeWho, .int v_reason, .int v_acts, .ref qt_gets, .ref qt_counts, .ref qt_worth, .ref qt_ways, .ref qt_image, .ref qt_isKept])), (qt_sight, .inl (cI, 16, .inl v_sight)), (qt_counts, .inl (cI, 100, .inl v_counts))] → va_S A s.heap H locs → lv_has ls 8 [(0, .ref qt), (1, .int p1), (2, .int x2), (3, .int x3), (4, .int x4), (5, .int x5)] → B_X10_ask_143 v_sights v_sight p1 (L_X10_ask_21 v_sights v_sight p1 n21) v_counts x2 x3 x4 x5 = some (r, w_counts) → W p l e rm_X10_ask s m args below meth c H locs 0 0 QQ (F0 m 143 ls []) := by
        intro v_counts x2 x3 x4 x5 H locs ls hP hD hS hl h
        unfold B_X10_ask_143 at h
        refine lv_iconst (v := 0) hx hb dX10_ask_143 (by decide) ?_
        exact hB144 v_counts x2 x3 x4 x5 (0 : Int32) H locs ls hP hD hS hl h
      have hL59 : ∀ (n59 : Nat), ∀ (v_counts : (Nat → Int32)) (x2 : Int32) (x3 : Int32) (x4 : Int32) (x5 : Int32) (x6 : Int32) (H : Heap) (locs : List Loc) (ls : Array Slot), va_P D vwCl [(qt, .inr (9, [.ref qt_book, .ref qt_now, .ref qt_flakes, .ref qt_leaks, .int v_music, .ref qt_ranks, .int v_sights, .ref qt_sight, .int v_signs, .ref qt_pad, .int v_freeAt, .int v_freeWho, .int v_reason, .int v_acts, .ref qt_gets, .ref qt_counts, .ref qt_worth, .ref qt_ways, .ref qt_image, .ref qt_isKept])), (qt_sight, .inl (cI, 16, .inl v_sight)), (qt_counts, .inl (cI, 100, .inl v_counts))] H → va_D A [(qt, .inr (9, [.ref qt_book, .ref qt_now, .ref qt_flakes, .ref qt_leaks, .int v_music, .ref qt_ranks, .int v_sights, .ref qt_sight, .int v_signs, .ref qt_pad, .int v_freeAt, .int v_freeWho, .int v_reason, .int v_acts, .ref qt_gets, .ref qt_counts, .ref qt_worth, .ref qt_ways, .ref qt_image, .ref qt_isKept])), (qt_sight, .inl (cI, 16, .inl v_sight)), (qt_counts, .inl (cI, 100, .inl v_counts))] → va_S A s.heap H locs → lv_has ls 8 [(0, .ref qt), (1, .int p1), (2, .int x2), (3, .int x3), (4, .int x4), (5, .int x5), (6, .int x6)] → L_X10_ask_59 v_sights v_sight p1 (L_X10_ask_21 v_sights v_sight p1 n21) n59 v_counts x2 x3 x4 x5 x6 = some (r, w_counts) → W p l e rm_X10_ask s m args below meth c H locs 0 0 QQ (F0 m 59 ls []) := by
        intro n59
        induction n59 with
        | zero =>
          intro v_counts x2 x3 x4 x5 x6 H locs ls hP hD hS hl h
          have h : none = some (r, w_counts) := h
          cases h
        | succ n59 ih59 =>
          intro v_counts x2 x3 x4 x5 x6 H locs ls hP hD hS hl h
          rw [L_X10_ask_59.eq_2] at h
          refine lv_iload hx hb dX10_ask_59 (lv_at hl 6 rfl) ?_
          refine lv_sipush (v := 1000) hx hb dX10_ask_61 (by decide) ?_
          refine lv_icmp_ge (tgt := 128) hx hb dX10_ask_64 (by decide) (fun hc => ?_) (fun hc => ?_)
          · have h := if_t hc h
            refine lv_iload hx hb dX10_ask_128 (lv_at hl 5 rfl) ?_
            refine lv_if_le (tgt := 143) hx hb dX10_ask_130 (by decide) (fun hc => ?_) (fun hc => ?_)
            · have h := if_t hc h
              exact hB143 v_counts x2 x3 x4 x5 H locs ls hP hD hS (lv_sub hl [0, 1, 2, 3, 4, 5] rfl) h
            · have h := if_f hc h
              refine lv_iload hx hb dX10_ask_133 (lv_at hl 5 rfl) ?_
              refine lv_iload_n hx hb dX10_ask_135 rfl (lv_at hl 3 rfl) ?_
              refine lv_icmp_ge (tgt := 143) hx hb dX10_ask_136 (by decide) (fun hc => ?_) (fun hc => ?_)
              · have h := if_t hc h
                exact hB143 v_counts x2 x3 x4 x5 H locs ls hP hD hS (lv_sub hl [0, 1, 2, 3, 4, 5] rfl) h
              · have h := if_f hc h
                refine lv_iconst (v := 1) hx hb dX10_ask_139 (by decide) ?_
                refine lv_goto (tgt := 144) hx hb dX10_ask_140 (by decide) ?_
                exact hB144 v_counts x2 x3 x4 x5 (1 : Int32) H locs ls hP hD hS (lv_sub hl [0, 1, 2, 3, 4, 5] rfl) h
          · have h := if_f hc h
            refine lv_aload_n hx hb dX10_ask_67 rfl (lv_at hl 0 rfl) ?_
            refine lv_iload hx hb dX10_ask_68 (lv_at hl 6 rfl) ?_
            obtain ⟨r70, hc70, h⟩ := bd1_some h
            refine gw_ci (wr := [(qt_counts, .inl (cI, 100, .inl v_counts))]) (w2 := [(qt_counts, .inl (cI, 100, .inl v_counts)), (qt, .inr (9, [.ref qt_book, .ref qt_now, .ref qt_flakes, .ref qt_leaks, .int v_music, .ref qt_ranks, .int v_sights, .ref qt_sight, .int v_signs, .ref qt_pad, .int v_freeAt, .int v_freeWho, .int v_reason, .int v_acts, .ref qt_gets, .ref qt_counts, .ref qt_worth, .ref qt_ways, .ref qt_image, .ref qt_isKept])), (qt_sight, .inl (cI, 16, .inl v_sight))]) (gw_rV (n := 1) ⟨hx, hb, hml, hown, hts⟩ (C_X10_isFit l D cI cJ cZ H.size qt qt_book qt_now qt_flakes qt_leaks qt_ranks qt_sight qt_pad qt_gets qt_counts qt_worth qt_ways qt_image qt_isKept v_music v_sights v_sight v_signs v_freeAt v_freeWho v_reason v_acts x6 r70 hc70) gX10_ask_X10_isFit rfl rfl rfl hdV_X10_isFit ⟨Nat.le_of_ble_eq_true rfl, Nat.le_of_ble_eq_true rfl⟩ hE (hP.sub [0, 1] rfl) (hD.sub [0, 1] (by decide) rfl) 9 rfl 0 rfl rfl hl.1 (rest := []) rfl (Nat.le_of_ble_eq_true rfl) dX10_ask_70 ⟨Nat.zero_le _, Nat.zero_le _⟩) hP hD hS hA [0, 1] [2] rfl rfl rfl (by decide) rfl (fun H locs hP hD hS => ?_)
            refine lv_if_eq (tgt := 122) hx hb dX10_ask_73 (by decide) (fun hc => ?_) (fun hc => ?_)
            · have h := if_t hc h
              refine lv_iinc (v := (x6 + (1 : Int32))) (lv' := [(6, .int (x6 + (1 : Int32))), (0, .ref qt), (1, .int p1), (2, .int x2), (3, .int x3), (4, .int x4), (5, .int x5)]) hx hb dX10_ask_122 hl (k := 6) rfl rfl (by decide) rfl (fun ls hl => ?_)
              refine lv_goto (tgt := 59) hx hb dX10_ask_125 (by decide) ?_
              exact ih59 v_counts x2 x3 x4 x5 (x6 + (1 : Int32)) H locs ls (hP.sub [1, 2, 0] rfl) (hD.sub [1, 2, 0] (by decide) rfl) hS (lv_sub hl [1, 2, 3, 4, 5, 6, 0] rfl) h
            · have h := if_f hc h
              refine lv_iload hx hb dX10_ask_76 (lv_at hl 6 rfl) ?_
              refine lv_iload hx hb dX10_ask_78 (lv_at hl 4 rfl) ?_
              obtain ⟨r80, hc80, h⟩ := bd1_some h
              refine gw_ci (wr := [(qt_counts, .inl (cI, 100, .inl v_counts)), (qt, .inr (9, [.ref qt_book, .ref qt_now, .ref qt_flakes, .ref qt_leaks, .int v_music, .ref qt_ranks, .int v_sights, .ref qt_sight, .int v_signs, .ref qt_pad, .int v_freeAt, .int v_freeWho, .int v_reason, .int v_acts, .ref qt_gets, .ref qt_counts, .ref qt_worth, .ref qt_ways, .ref qt_image, .ref qt_isKept])), (qt_sight, .inl (cI, 16, .inl v_sight))]) (w2 := [(qt_counts, .inl (cI, 100, .inl v_counts)), (qt, .inr (9, [.ref qt_book, .ref qt_now, .ref qt_flakes, .ref qt_leaks, .int v_music, .ref qt_ranks, .int v_sights, .ref qt_sight, .int v_signs, .ref qt_pad, .int v_freeAt, .int v_freeWho, .int v_reason, .int v_acts, .ref qt_gets, .ref qt_counts, .ref qt_worth, .ref qt_ways, .ref qt_image, .ref qt_isKept])), (qt_sight, .inl (cI, 16, .inl v_sight))]) (gw_rS (n := 2) ⟨hx, hb, hml, hown, hts⟩ (C_X10_flyingAt l D cI cJ cZ H.size x6 x4 r80 hc80) gX10_ask_X10_flyingAt rfl rfl rfl hdS_X10_flyingAt ⟨Nat.le_of_ble_eq_true rfl, Nat.le_of_ble_eq_true rfl⟩ hE (hP.sub [] rfl) (hD.sub [] (by decide) rfl) rfl hl.1 (rest := []) rfl (Nat.le_of_ble_eq_true rfl) dX10_ask_80 ⟨Nat.zero_le _, Nat.zero_le _⟩) hP hD hS hA [] [0, 1, 2] rfl rfl rfl (by decide) rfl (fun H locs hP hD hS => ?_)
              refine lv_istore (lv' := [(7, .int r80), (0, .ref qt), (1, .int p1), (2, .int x2), (3, .int x3), (4, .int x4), (5, .int x5), (6, .int x6)]) hx hb dX10_ask_83 hl (by decide) rfl (fun ls hl => ?_)
              refine lv_aload_n hx hb dX10_ask_85 rfl (lv_at hl 1 rfl) ?_
              refine va_get (D := D) (ci := 9) (C := RX10) (T := TX10) (N := 20) hx hb hts (fun _ hw => (List.mem_cons_of_mem _ (List.mem_append_right _ hw))) hown hE.1 hP 1 rfl rfl 15 (by decide) (hts (.fieldLink RX10 34 "GlobeCrownModel" "counts" "[I") (List.mem_cons_of_mem _ (List.mem_append_left _ (List.mem_of_getElem? (i := 1) rfl)))) (fun _ h9 => h9) rfl dX10_ask_86 ?_
              refine lv_iload hx hb dX10_ask_89 (lv_at hl 0 rfl) ?_
              refine lv_dup2_11 hx hb dX10_ask_91 rfl rfl ?_
              obtain ⟨hg, h⟩ := gin_some h
              refine va_iald hx hb hE.1 hP 0 0 rfl rfl hg dX10_ask_92 ?_
              refine lv_iconst (v := 1) hx hb dX10_ask_93 (by decide) ?_
              refine lv_iadd hx hb dX10_ask_94 ?_
              obtain ⟨hg, h⟩ := gin_some h
              refine va_iast hx hb hE.1 hP hD hS 0 0 rfl rfl hg dX10_ask_95 (fun H locs (hP : va_P D vwCl [(qt_counts, .inl (cI, 100, .inl (upd v_counts (Int32.toNatClampNeg r80) ((v_counts (Int32.toNatClampNeg r80)) + (1 : Int32))))), (qt, .inr (9, [.ref qt_book, .ref qt_now, .ref qt_flakes, .ref qt_leaks, .int v_music, .ref qt_ranks, .int v_sights, .ref qt_sight, .int v_signs, .ref qt_pad, .int v_freeAt, .int v_freeWho, .int v_reason, .int v_acts, .ref qt_gets, .ref qt_counts, .ref qt_worth, .ref qt_ways, .ref qt_image, .ref qt_isKept])), (qt_sight, .inl (cI, 16, .inl v_sight))] H) (hD : va_D A [(qt_counts, .inl (cI, 100, .inl (upd v_counts (Int32.toNatClampNeg r80) ((v_counts (Int32.toNatClampNeg r80)) + (1 : Int32))))), (qt, .inr (9, [.ref qt_book, .ref qt_now, .ref qt_flakes, .ref qt_leaks, .int v_music, .ref qt_ranks, .int v_sights, .ref qt_sight, .int v_signs, .ref qt_pad, .int v_freeAt, .int v_freeWho, .int v_reason, .int v_acts, .ref qt_gets, .ref qt_counts, .ref qt_worth, .ref qt_ways, .ref qt_image, .ref qt_isKept])), (qt_sight, .inl (cI, 16, .inl v_sight))]) hS => ?_)
              refine lv_aload_n hx hb dX10_ask_96 rfl (lv_at hl 1 rfl) ?_
              refine va_get (D := D) (ci := 9) (C := RX10) (T := TX10) (N := 20) hx hb hts (fun _ hw => (List.mem_cons_of_mem _ (List.mem_append_right _ hw))) hown hE.1 hP 1 rfl rfl 15 (by decide) (hts (.fieldLink RX10 34 "GlobeCrownModel" "counts" "[I") (List.mem_cons_of_mem _ (List.mem_append_left _ (List.mem_of_getElem? (i := 1) rfl)))) (fun _ h9 => h9) rfl dX10_ask_97 ?_
              refine lv_iload hx hb dX10_ask_100 (lv_at hl 0 rfl) ?_
              obtain ⟨hg, h⟩ := gin_some h
              refine va_iald hx hb hE.1 hP 0 0 rfl rfl hg dX10_ask_102 ?_
              refine lv_iload hx hb dX10_ask_103 (lv_at hl 6 rfl) ?_
              refine lv_icmp_le (tgt := 118) hx hb dX10_ask_105 (by decide) (fun hc => ?_) (fun hc => ?_)
              · have h := if_t hc h
                refine lv_iload hx hb dX10_ask_118 (lv_at hl 6 rfl) ?_
                refine lv_istore (lv' := [(5, .int x5), (7, .int r80), (0, .ref qt), (1, .int p1), (2, .int x2), (3, .int x3), (4, .int x4), (6, .int x6)]) hx hb dX10_ask_120 hl (by decide) rfl (fun ls hl => ?_)
                refine lv_iinc (v := (x6 + (1 : Int32))) (lv' := [(6, .int (x6 + (1 : Int32))), (5, .int x5), (7, .int r80), (0, .ref qt), (1, .int p1), (2, .int x2), (3, .int x3), (4, .int x4)]) hx hb dX10_ask_122 hl (k := 7) rfl rfl (by decide) rfl (fun ls hl => ?_)
                refine lv_goto (tgt := 59) hx hb dX10_ask_125 (by decide) ?_
                exact ih59 (upd v_counts (Int32.toNatClampNeg r80) ((v_counts (Int32.toNatClampNeg r80)) + (1 : Int32))) x2 x3 x4 x5 (x6 + (1 : Int32)) H locs ls (hP.sub [1, 2, 0] rfl) (hD.sub [1, 2, 0] (by decide) rfl) hS (lv_sub hl [3, 4, 5, 6, 7, 1, 0] rfl) h
              · have h := if_f hc h
                refine lv_aload_n hx hb dX10_ask_108 rfl (lv_at hl 1 rfl) ?_
                refine va_get (D := D) (ci := 9) (C := RX10) (T := TX10) (N := 20) hx hb hts (fun _ hw => (List.mem_cons_of_mem _ (List.mem_append_right _ hw))) hown hE.1 hP 1 rfl rfl 15 (by decide) (hts (.fieldLink RX10 34 "GlobeCrownModel" "counts" "[I") (List.mem_cons_of_mem _ (List.mem_append_left _ (List.mem_of_getElem? (i := 1) rfl)))) (fun _ h9 => h9) rfl dX10_ask_109 ?_
                refine lv_iload hx hb dX10_ask_112 (lv_at hl 0 rfl) ?_
                obtain ⟨hg, h⟩ := gin_some h
                refine va_iald hx hb hE.1 hP 0 0 rfl rfl hg dX10_ask_114 ?_
                refine lv_goto (tgt := 120) hx hb dX10_ask_115 (by decide) ?_
                refine lv_istore (lv' := [(5, .int ((upd v_counts (Int32.toNatClampNeg r80) ((v_counts (Int32.toNatClampNeg r80)) + (1 : Int32))) (Int32.toNatClampNeg r80))), (7, .int r80), (0, .ref qt), (1, .int p1), (2, .int x2), (3, .int x3), (4, .int x4), (6, .int x6)]) hx hb dX10_ask_120 hl (by decide) rfl (fun ls hl => ?_)
                refine lv_iinc (v := (x6 + (1 : Int32))) (lv' := [(6, .int (x6 + (1 : Int32))), (5, .int ((upd v_counts (Int32.toNatClampNeg r80) ((v_counts (Int32.toNatClampNeg r80)) + (1 : Int32))) (Int32.toNatClampNeg r80))), (7, .int r80), (0, .ref qt), (1, .int p1), (2, .int x2), (3, .int x3), (4, .int x4)]) hx hb dX10_ask_122 hl (k := 7) rfl rfl (by decide) rfl (fun ls hl => ?_)
                refine lv_goto (tgt := 59) hx hb dX10_ask_125 (by decide) ?_
                exact ih59 (upd v_counts (Int32.toNatClampNeg r80) ((v_counts (Int32.toNatClampNeg r80)) + (1 : Int32))) x2 x3 x4 ((upd v_counts (Int32.toNatClampNeg r80) ((v_counts (Int32.toNatClampNeg r80)) + (1 : Int32))) (Int32.toNatClampNeg r80)) (x6 + (1 : Int32)) H locs ls (hP.sub [1, 2, 0] rfl) (hD.sub [1, 2, 0] (by decide) rfl) hS (lv_sub hl [3, 4, 5, 6, 7, 1, 0] rfl) h
      have hL34 : ∀ (n34 : Nat), ∀ (v_counts : (Nat → Int32)) (x2 : Int32) (x3 : Int32) (x4 : Int32) (x5 : Int32) (x6 : Int32) (H : Heap) (locs : List Loc) (ls : Array Slot), va_P D vwCl [(qt, .inr (9, [.ref qt_book, .ref qt_now, .ref qt_flakes, .ref qt_leaks, .int v_music, .ref qt_ranks, .int v_sights, .ref qt_sight, .int v_signs, .ref qt_pad, .int v_freeAt, .int v_freeWho, .int v_reason, .int v_acts, .ref qt_gets, .ref qt_counts, .ref qt_worth, .ref qt_ways, .ref qt_image, .ref qt_isKept])), (qt_sight, .inl (cI, 16, .inl v_sight)), (qt_counts, .inl (cI, 100, .inl v_counts))] H → va_D A [(qt, .inr (9, [.ref qt_book, .ref qt_now, .ref qt_flakes, .ref qt_leaks, .int v_music, .ref qt_ranks, .int v_sights, .ref qt_sight, .int v_signs, .ref qt_pad, .int v_freeAt, .int v_freeWho, .int v_reason, .int v_acts, .ref qt_gets, .ref qt_counts, .ref qt_worth, .ref qt_ways, .ref qt_image, .ref qt_isKept])), (qt_sight, .inl (cI, 16, .inl v_sight)), (qt_counts, .inl (cI, 100, .inl v_counts))] → va_S A s.heap H locs → lv_has ls 8 [(0, .ref qt), (1, .int p1), (2, .int x2), (3, .int x3), (4, .int x4), (5, .int x5), (6, .int x6)] → L_X10_ask_34 v_sights v_sight p1 (L_X10_ask_21 v_sights v_sight p1 n21) n34 v_counts x2 x3 x4 x5 x6 = some (r, w_counts) → W p l e rm_X10_ask s m args below meth c H locs 0 0 QQ (F0 m 34 ls []) := by
        intro n34
        induction n34 with
        | zero =>
          intro v_counts x2 x3 x4 x5 x6 H locs ls hP hD hS hl h
          have h : none = some (r, w_counts) := h
          cases h
        | succ n34 ih34 =>
          intro v_counts x2 x3 x4 x5 x6 H locs ls hP hD hS hl h
          rw [L_X10_ask_34.eq_2] at h
          refine lv_iload hx hb dX10_ask_34 (lv_at hl 6 rfl) ?_
          refine lv_bipush (v := 100) hx hb dX10_ask_36 (by decide) ?_
          refine lv_icmp_ge (tgt := 55) hx hb dX10_ask_38 (by decide) (fun hc => ?_) (fun hc => ?_)
          · have h := if_t hc h
            refine lv_bipush (v := 100) hx hb dX10_ask_55 (by decide) ?_
            refine lv_istore (lv' := [(6, .int (100 : Int32)), (0, .ref qt), (1, .int p1), (2, .int x2), (3, .int x3), (4, .int x4), (5, .int x5)]) hx hb dX10_ask_57 hl (by decide) rfl (fun ls hl => ?_)
            exact hL59 FU v_counts x2 x3 x4 x5 (100 : Int32) H locs ls hP hD hS (lv_sub hl [1, 2, 3, 4, 5, 6, 0] rfl) h
          · have h := if_f hc h
            refine lv_aload_n hx hb dX10_ask_41 rfl (lv_at hl 0 rfl) ?_
            refine va_get (D := D) (ci := 9) (C := RX10) (T := TX10) (N := 20) hx hb hts (fun _ hw => (List.mem_cons_of_mem _ (List.mem_append_right _ hw))) hown hE.1 hP 0 rfl rfl 15 (by decide) (hts (.fieldLink RX10 34 "GlobeCrownModel" "counts" "[I") (List.mem_cons_of_mem _ (List.mem_append_left _ (List.mem_of_getElem? (i := 1) rfl)))) (fun _ h9 => h9) rfl dX10_ask_42 ?_
            refine lv_iload hx hb dX10_ask_45 (lv_at hl 6 rfl) ?_
            refine lv_iconst (v := 0) hx hb dX10_ask_47 (by decide) ?_
            obtain ⟨hg, h⟩ := gin_some h
            refine va_iast hx hb hE.1 hP hD hS 2 0 rfl rfl hg dX10_ask_48 (fun H locs (hP : va_P D vwCl [(qt, .inr (9, [.ref qt_book, .ref qt_now, .ref qt_flakes, .ref qt_leaks, .int v_music, .ref qt_ranks, .int v_sights, .ref qt_sight, .int v_signs, .ref qt_pad, .int v_freeAt, .int v_freeWho, .int v_reason, .int v_acts, .ref qt_gets, .ref qt_counts, .ref qt_worth, .ref qt_ways, .ref qt_image, .ref qt_isKept])), (qt_sight, .inl (cI, 16, .inl v_sight)), (qt_counts, .inl (cI, 100, .inl (upd v_counts (Int32.toNatClampNeg x6) (0 : Int32))))] H) (hD : va_D A [(qt, .inr (9, [.ref qt_book, .ref qt_now, .ref qt_flakes, .ref qt_leaks, .int v_music, .ref qt_ranks, .int v_sights, .ref qt_sight, .int v_signs, .ref qt_pad, .int v_freeAt, .int v_freeWho, .int v_reason, .int v_acts, .ref qt_gets, .ref qt_counts, .ref qt_worth, .ref qt_ways, .ref qt_image, .ref qt_isKept])), (qt_sight, .inl (cI, 16, .inl v_sight)), (qt_counts, .inl (cI, 100, .inl (upd v_counts (Int32.toNatClampNeg x6) (0 : Int32))))]) hS => ?_)
            refine lv_iinc (v := (x6 + (1 : Int32))) (lv' := [(6, .int (x6 + (1 : Int32))), (0, .ref qt), (1, .int p1), (2, .int x2), (3, .int x3), (4, .int x4), (5, .int x5)]) hx hb dX10_ask_49 hl (k := 6) rfl rfl (by decide) rfl (fun ls hl => ?_)
            refine lv_goto (tgt := 34) hx hb dX10_ask_52 (by decide) ?_
            exact ih34 (upd v_counts (Int32.toNatClampNeg x6) (0 : Int32)) x2 x3 x4 x5 (x6 + (1 : Int32)) H locs ls hP hD hS (lv_sub hl [1, 2, 3, 4, 5, 6, 0] rfl) h
      intro v_counts x2 x3 x4 H locs ls hP hD hS hl h
      rw [L_X10_ask_21.eq_2] at h
      refine lv_iload hx hb dX10_ask_21 (lv_at hl 4 rfl) ?_
      refine lv_bipush (v := 61) hx hb dX10_ask_23 (by decide) ?_
      refine lv_icmp_ge (tgt := 176) hx hb dX10_ask_25 (by decide) (fun hc => ?_) (fun hc => ?_)
      · have h := if_t hc h
        refine lv_iload_n hx hb dX10_ask_176 rfl (lv_at hl 2 rfl) ?_
        refine lv_if_lt (tgt := 184) hx hb dX10_ask_177 (by decide) (fun hc => ?_) (fun hc => ?_)
        · have h := if_t hc h
          refine lv_iload_n hx hb dX10_ask_184 rfl (lv_at hl 2 rfl) ?_
          refine lv_goto (tgt := 189) hx hb dX10_ask_185 (by decide) ?_
          cases h
          rw [hQQ]
          exact gw_iret hx hb hr hlocks hP hD hS dX10_ask_189
        · have h := if_f hc h
          refine lv_iload_n hx hb dX10_ask_180 rfl (lv_at hl 1 rfl) ?_
          refine lv_if_ne (tgt := 188) hx hb dX10_ask_181 (by decide) (fun hc => ?_) (fun hc => ?_)
          · have h := if_f hc h
            refine lv_iload_n hx hb dX10_ask_188 rfl (lv_at hl 3 rfl) ?_
            cases h
            rw [hQQ]
            exact gw_iret hx hb hr hlocks hP hD hS dX10_ask_189
          · have h := if_t hc h
            refine lv_iload_n hx hb dX10_ask_184 rfl (lv_at hl 2 rfl) ?_
            refine lv_goto (tgt := 189) hx hb dX10_ask_185 (by decide) ?_
            cases h
            rw [hQQ]
            exact gw_iret hx hb hr hlocks hP hD hS dX10_ask_189
      · have h := if_f hc h
        refine lv_iconst (v := 0) hx hb dX10_ask_28 (by decide) ?_
        refine lv_istore (lv' := [(5, .int (0 : Int32)), (0, .ref qt), (1, .int p1), (2, .int x2), (3, .int x3), (4, .int x4)]) hx hb dX10_ask_29 hl (by decide) rfl (fun ls hl => ?_)
        refine lv_iconst (v := 0) hx hb dX10_ask_31 (by decide) ?_
        refine lv_istore (lv' := [(6, .int (0 : Int32)), (5, .int (0 : Int32)), (0, .ref qt), (1, .int p1), (2, .int x2), (3, .int x3), (4, .int x4)]) hx hb dX10_ask_32 hl (by decide) rfl (fun ls hl => ?_)
        exact hL34 FU v_counts x2 x3 x4 (0 : Int32) (0 : Int32) H locs ls hP hD hS (lv_sub hl [2, 3, 4, 5, 6, 1, 0] rfl) h
  have h := hf
  unfold f_X10_ask at h
  refine gw_start hP hD hS (fun H locs hP hD hS => ?_)
  refine lv_iload_n hx hb dX10_ask_0 rfl (lv_at hl 1 rfl) ?_
  refine lv_iconst (v := 0) hx hb dX10_ask_1 (by decide) ?_
  refine lv_iconst (v := 1) hx hb dX10_ask_2 (by decide) ?_
  obtain ⟨r3, hc3, h⟩ := bd1_some h
  refine gw_ci (wr := [(qt, .inr (9, [.ref qt_book, .ref qt_now, .ref qt_flakes, .ref qt_leaks, .int v_music, .ref qt_ranks, .int v_sights, .ref qt_sight, .int v_signs, .ref qt_pad, .int v_freeAt, .int v_freeWho, .int v_reason, .int v_acts, .ref qt_gets, .ref qt_counts, .ref qt_worth, .ref qt_ways, .ref qt_image, .ref qt_isKept])), (qt_sight, .inl (cI, 16, .inl v_sight)), (qt_counts, .inl (cI, 100, .inl v_counts))]) (w2 := [(qt, .inr (9, [.ref qt_book, .ref qt_now, .ref qt_flakes, .ref qt_leaks, .int v_music, .ref qt_ranks, .int v_sights, .ref qt_sight, .int v_signs, .ref qt_pad, .int v_freeAt, .int v_freeWho, .int v_reason, .int v_acts, .ref qt_gets, .ref qt_counts, .ref qt_worth, .ref qt_ways, .ref qt_image, .ref qt_isKept])), (qt_sight, .inl (cI, 16, .inl v_sight)), (qt_counts, .inl (cI, 100, .inl v_counts))]) (gw_rS (n := 3) ⟨hx, hb, hml, hown, hts⟩ (C_X10_in l D cI cJ cZ H.size p1 (0 : Int32) (1 : Int32) r3 hc3) gX10_ask_X10_in rfl rfl rfl hdS_X10_in ⟨Nat.le_of_ble_eq_true rfl, Nat.le_of_ble_eq_true rfl⟩ hE (hP.sub [] rfl) (hD.sub [] (by decide) rfl) rfl hl.1 (rest := []) rfl (Nat.le_of_ble_eq_true rfl) dX10_ask_3 ⟨Nat.zero_le _, Nat.zero_le _⟩) hP hD hS hA [] [0, 1, 2] rfl rfl rfl (by decide) rfl (fun H locs hP hD hS => ?_)
  refine lv_if_ne (tgt := 12) hx hb dX10_ask_6 (by decide) (fun hc => ?_) (fun hc => ?_)
  · have h := if_f hc h
    refine lv_bipush (v := -6) hx hb dX10_ask_12 (by decide) ?_
    refine lv_istore_n (lv' := [(2, .int (-6 : Int32)), (0, .ref qt), (1, .int p1)]) hx hb dX10_ask_14 rfl hl (by decide) rfl (fun ls hl => ?_)
    refine lv_ldc hx hb hown (hts (.constant RX10 141 (1000000)) (List.mem_cons_of_mem _ (List.mem_append_left _ (List.mem_of_getElem? (i := 0) rfl)))) dX10_ask_15 ?_
    refine lv_istore_n (lv' := [(3, .int (1000000 : Int32)), (2, .int (-6 : Int32)), (0, .ref qt), (1, .int p1)]) hx hb dX10_ask_17 rfl hl (by decide) rfl (fun ls hl => ?_)
    refine lv_iconst (v := 0) hx hb dX10_ask_18 (by decide) ?_
    refine lv_istore (lv' := [(4, .int (0 : Int32)), (3, .int (1000000 : Int32)), (2, .int (-6 : Int32)), (0, .ref qt), (1, .int p1)]) hx hb dX10_ask_19 hl (by decide) rfl (fun ls hl => ?_)
    exact hL21 FU v_counts (-6 : Int32) (1000000 : Int32) (0 : Int32) H locs ls hP hD hS (lv_sub hl [3, 4, 2, 1, 0] rfl) h
  · have h := if_t hc h
    refine lv_bipush (v := -2) hx hb dX10_ask_9 (by decide) ?_
    cases h
    rw [hQQ]
    exact gw_iret hx hb hr hlocks hP hD hS dX10_ask_11
theorem hdV_X10_ask : yX10_ask.cls = RX10 ∧ yX10_ask.cls ≠ "java/lang/invoke/MethodHandle" ∧ yX10_ask.cls ≠ "java/lang/invoke/VarHandle" ∧ (parseMethodDescriptor yX10_ask.desc).map (fun d => d.parameters.length) = some 1 := by decide +kernel
def B_X10_worthBut_74 (v_book : (Nat → Int32)) (v_now : (Nat → Int32)) (p1 : Int32) (rec26 : (Nat → Int32) → Int32 → Int32 → Option (Int32 × (Nat → Int32))) (rec33 : (Nat → Int32) → Int32 → Int32 → Int32 → Option (Int32 × (Nat → Int32))) (v_worth : (Nat → Int32)) (x2 : Int32) (x3 : Int32) (x4 : Int32) : Option (Int32 × (Nat → Int32)) := (gin x4 8 (gin ((32 : Int32) + x4) 43 (if (0 : Int32) ≤ (v_book (Int32.toNatClampNeg ((32 : Int32) + x4))) then (gin ((32 : Int32) + x4) 43 (gin (v_book (Int32.toNatClampNeg ((32 : Int32) + x4))) 8 (gin (v_book (Int32.toNatClampNeg ((32 : Int32) + x4))) 8 (rec33 (upd v_worth (Int32.toNatClampNeg (v_book (Int32.toNatClampNeg ((32 : Int32) + x4)))) ((v_worth (Int32.toNatClampNeg (v_book (Int32.toNatClampNeg ((32 : Int32) + x4))))) ^^^ ((v_worth (Int32.toNatClampNeg x4)) + (1 : Int32)))) x2 x3 (x4 + (1 : Int32)))))) else (rec33 v_worth (x2 ^^^ ((v_worth (Int32.toNatClampNeg x4)) + (1 : Int32))) x3 (x4 + (1 : Int32))))))
def L_X10_worthBut_33 (v_book : (Nat → Int32)) (v_now : (Nat → Int32)) (p1 : Int32) (rec26 : (Nat → Int32) → Int32 → Int32 → Option (Int32 × (Nat → Int32))) : Nat → (Nat → Int32) → Int32 → Int32 → Int32 → Option (Int32 × (Nat → Int32))
  | 0, _, _, _, _ => none
  | n + 1, v_worth, x2, x3, x4 => (if (8 : Int32) ≤ x4 then (rec26 v_worth x2 (x3 + (-1 : Int32))) else (bd1 (f_X10_isThere v_book x4) (fun r43 => (if r43 = (0 : Int32) then ((L_X10_worthBut_33 v_book v_now p1 rec26 n) v_worth x2 x3 (x4 + (1 : Int32))) else (bd1 (f_X10_look v_book x4 (1 : Int32)) (fun r53 => (if r53 = x3 then (if p1 < (0 : Int32) then (B_X10_worthBut_74 v_book v_now p1 rec26 (L_X10_worthBut_33 v_book v_now p1 rec26 n) v_worth x2 x3 x4) else (bd1 (f_X10_isWithin v_now x4 p1) (fun r68 => (if r68 = (0 : Int32) then (B_X10_worthBut_74 v_book v_now p1 rec26 (L_X10_worthBut_33 v_book v_now p1 rec26 n) v_worth x2 x3 x4) else ((L_X10_worthBut_33 v_book v_now p1 rec26 n) v_worth x2 x3 (x4 + (1 : Int32))))))) else ((L_X10_worthBut_33 v_book v_now p1 rec26 n) v_worth x2 x3 (x4 + (1 : Int32))))))))))
def L_X10_worthBut_26 (v_book : (Nat → Int32)) (v_now : (Nat → Int32)) (p1 : Int32) : Nat → (Nat → Int32) → Int32 → Int32 → Option (Int32 × (Nat → Int32))
  | 0, _, _, _ => none
  | n + 1, v_worth, x2, x3 => (if x3 < (0 : Int32) then (some (x2, v_worth)) else (L_X10_worthBut_33 v_book v_now p1 (L_X10_worthBut_26 v_book v_now p1 n) FU v_worth x2 x3 (0 : Int32)))
def L_X10_worthBut_4 (v_book : (Nat → Int32)) (v_now : (Nat → Int32)) (p1 : Int32) : Nat → (Nat → Int32) → Int32 → Int32 → Option (Int32 × (Nat → Int32))
  | 0, _, _, _ => none
  | n + 1, v_worth, x2, x3 => (if (8 : Int32) ≤ x3 then (L_X10_worthBut_26 v_book v_now p1 FU v_worth x2 (7 : Int32)) else (gin x3 8 ((L_X10_worthBut_4 v_book v_now p1 n) (upd v_worth (Int32.toNatClampNeg x3) (0 : Int32)) x2 (x3 + (1 : Int32)))))
def f_X10_worthBut (v_book : (Nat → Int32)) (v_now : (Nat → Int32)) (v_worth : (Nat → Int32)) (p1 : Int32) : Option (Int32 × (Nat → Int32)) := (L_X10_worthBut_4 v_book v_now p1 FU v_worth (0 : Int32) (0 : Int32))
abbrev rm_X10_worthBut : Room := { frames := 3, cells := 0, slots := 0, locals := 68 }
set_option maxHeartbeats 4000000 in
set_option maxRecDepth 100000 in
theorem C_X10_worthBut (l : Launch) (D : va_G) (cI cJ cZ : ClassId) (sz : Nat) (qt qt_book qt_now qt_flakes qt_leaks qt_ranks qt_sight qt_pad qt_gets qt_counts qt_worth qt_ways qt_image qt_isKept : Nat) (v_book : (Nat → Int32)) (v_now : (Nat → Int32)) (v_music : Int32) (v_sights : Int32) (v_signs : Int32) (v_freeAt : Int32) (v_freeWho : Int32) (v_reason : Int32) (v_acts : Int32) (v_worth : (Nat → Int32)) (p1 : Int32) (r : Int32) (w_worth : (Nat → Int32)) (hf : f_X10_worthBut v_book v_now v_worth p1 = some (r, w_worth)) : Met l yX10_worthBut wsX10_worthBut rm_X10_worthBut (PR D cI cJ cZ [(qt, .inr (9, [.ref qt_book, .ref qt_now, .ref qt_flakes, .ref qt_leaks, .int v_music, .ref qt_ranks, .int v_sights, .ref qt_sight, .int v_signs, .ref qt_pad, .int v_freeAt, .int v_freeWho, .int v_reason, .int v_acts, .ref qt_gets, .ref qt_counts, .ref qt_worth, .ref qt_ways, .ref qt_image, .ref qt_isKept])), (qt_book, .inl (cI, 43, .inl v_book)), (qt_now, .inl (cI, 43, .inl v_now)), (qt_worth, .inl (cI, 8, .inl v_worth))] sz [.ref qt, .int p1]) (QI D (va_A [(qt, .inr (9, [.ref qt_book, .ref qt_now, .ref qt_flakes, .ref qt_leaks, .int v_music, .ref qt_ranks, .int v_sights, .ref qt_sight, .int v_signs, .ref qt_pad, .int v_freeAt, .int v_freeWho, .int v_reason, .int v_acts, .ref qt_gets, .ref qt_counts, .ref qt_worth, .ref qt_ways, .ref qt_image, .ref qt_isKept])), (qt_book, .inl (cI, 43, .inl v_book)), (qt_now, .inl (cI, 43, .inl v_now)), (qt_worth, .inl (cI, 8, .inl v_worth))] sz) r [(qt, .inr (9, [.ref qt_book, .ref qt_now, .ref qt_flakes, .ref qt_leaks, .int v_music, .ref qt_ranks, .int v_sights, .ref qt_sight, .int v_signs, .ref qt_pad, .int v_freeAt, .int v_freeWho, .int v_reason, .int v_acts, .ref qt_gets, .ref qt_counts, .ref qt_worth, .ref qt_ways, .ref qt_image, .ref qt_isKept])), (qt_book, .inl (cI, 43, .inl v_book)), (qt_now, .inl (cI, 43, .inl v_now)), (qt_worth, .inl (cI, 8, .inl w_worth))]) 0 0 (va_A [(qt, .inr (9, [.ref qt_book, .ref qt_now, .ref qt_flakes, .ref qt_leaks, .int v_music, .ref qt_ranks, .int v_sights, .ref qt_sight, .int v_signs, .ref qt_pad, .int v_freeAt, .int v_freeWho, .int v_reason, .int v_acts, .ref qt_gets, .ref qt_counts, .ref qt_worth, .ref qt_ways, .ref qt_image, .ref qt_isKept])), (qt_book, .inl (cI, 43, .inl v_book)), (qt_now, .inl (cI, 43, .inl v_now)), (qt_worth, .inl (cI, 8, .inl v_worth))] sz) := by
  refine Met.ofW (cc := cX10_worthBut) (maxL := 6) (ret := (some .int)) (by decide) rfl ?_
  intro p e s m args below meth c s₁ B hml hv
  obtain ⟨hav, hsz, hP, hD0, hE⟩ := hv
  have hx := B.exec
  have hb := B.bytes
  have hr := B.returns
  have hts := atoms_spec (ws := wsX10_worthBut) B.pre
  have hown : s.vm.findClass RX10 = some m.cls := findClass_of_methodNamed B.named
  have hlocks := B.notSynchronized
  subst hsz
  have hD := hD0.self (sz := s.heap.size)
  generalize hAe : va_A [(qt, .inr (9, [.ref qt_book, .ref qt_now, .ref qt_flakes, .ref qt_leaks, .int v_music, .ref qt_ranks, .int v_sights, .ref qt_sight, .int v_signs, .ref qt_pad, .int v_freeAt, .int v_freeWho, .int v_reason, .int v_acts, .ref qt_gets, .ref qt_counts, .ref qt_worth, .ref qt_ways, .ref qt_image, .ref qt_isKept])), (qt_book, .inl (cI, 43, .inl v_book)), (qt_now, .inl (cI, 43, .inl v_now)), (qt_worth, .inl (cI, 8, .inl v_worth))] s.heap.size = A at hD ⊢
  have hA : ∀ q : Nat, s.heap.size ≤ q → A q := fun q h => by rw [← hAe]; exact Or.inr h
  have hS : va_S A s.heap s.heap [] := va_S.rf
  have hl := lv_entry ([.ref qt, .int p1]) (n := 6) (Nat.le_of_ble_eq_true rfl)
  have hfr : entryFrame m args 6 = entryFrame m ([.ref qt, .int p1] : List Value).toArray 6 := by rw [hav]
  rw [hfr, lg_entry_eq]
  generalize (lg_sl ([.ref qt, .int p1]) ++ List.replicate (6 - (lg_sl ([.ref qt, .int p1])).length) Slot.unset).toArray = ls at hl ⊢
  have hl : lv_has ls 6 [(0, .ref qt), (1, .int p1)] := hl
  obtain ⟨QQ, hQQ⟩ : ∃ QQ, QQ = MQ below (QI D A r [(qt, .inr (9, [.ref qt_book, .ref qt_now, .ref qt_flakes, .ref qt_leaks, .int v_music, .ref qt_ranks, .int v_sights, .ref qt_sight, .int v_signs, .ref qt_pad, .int v_freeAt, .int v_freeWho, .int v_reason, .int v_acts, .ref qt_gets, .ref qt_counts, .ref qt_worth, .ref qt_ways, .ref qt_image, .ref qt_isKept])), (qt_book, .inl (cI, 43, .inl v_book)), (qt_now, .inl (cI, 43, .inl v_now)), (qt_worth, .inl (cI, 8, .inl w_worth))]) args s 0 0 A := ⟨_, rfl⟩
  show W p l e rm_X10_worthBut s m args below meth c s.heap [] 0 0 _ _
  rw [← hQQ]
  have hL26 : ∀ (n26 : Nat), ∀ (v_worth : (Nat → Int32)) (x2 : Int32) (x3 : Int32) (H : Heap) (locs : List Loc) (ls : Array Slot), va_P D vwCl [(qt, .inr (9, [.ref qt_book, .ref qt_now, .ref qt_flakes, .ref qt_leaks, .int v_music, .ref qt_ranks, .int v_sights, .ref qt_sight, .int v_signs, .ref qt_pad, .int v_freeAt, .int v_freeWho, .int v_reason, .int v_acts, .ref qt_gets, .ref qt_counts, .ref qt_worth, .ref qt_ways, .ref qt_image, .ref qt_isKept])), (qt_book, .inl (cI, 43, .inl v_book)), (qt_now, .inl (cI, 43, .inl v_now)), (qt_worth, .inl (cI, 8, .inl v_worth))] H → va_D A [(qt, .inr (9, [.ref qt_book, .ref qt_now, .ref qt_flakes, .ref qt_leaks, .int v_music, .ref qt_ranks, .int v_sights, .ref qt_sight, .int v_signs, .ref qt_pad, .int v_freeAt, .int v_freeWho, .int v_reason, .int v_acts, .ref qt_gets, .ref qt_counts, .ref qt_worth, .ref qt_ways, .ref qt_image, .ref qt_isKept])), (qt_book, .inl (cI, 43, .inl v_book)), (qt_now, .inl (cI, 43, .inl v_now)), (qt_worth, .inl (cI, 8, .inl v_worth))] → va_S A s.heap H locs → lv_has ls 6 [(0, .ref qt), (1, .int p1), (2, .int x2), (3, .int x3)] → L_X10_worthBut_26 v_book v_now p1 n26 v_worth x2 x3 = some (r, w_worth) → W p l e rm_X10_worthBut s m args below meth c H locs 0 0 QQ (F0 m 26 ls []) := by
    intro n26
    induction n26 with
    | zero =>
      intro v_worth x2 x3 H locs ls hP hD hS hl h
      have h : none = some (r, w_worth) := h
      cases h
    | succ n26 ih26 =>
      have hL33 : ∀ (n33 : Nat), ∀ (v_worth : (Nat → Int32)) (x2 : Int32) (x3 : Int32) (x4 : Int32) (H : Heap) (locs : List Loc) (ls : Array Slot), va_P D vwCl [(qt, .inr (9, [.ref qt_book, .ref qt_now, .ref qt_flakes, .ref qt_leaks, .int v_music, .ref qt_ranks, .int v_sights, .ref qt_sight, .int v_signs, .ref qt_pad, .int v_freeAt, .int v_freeWho, .int v_reason, .int v_acts, .ref qt_gets, .ref qt_counts, .ref qt_worth, .ref qt_ways, .ref qt_image, .ref qt_isKept])), (qt_book, .inl (cI, 43, .inl v_book)), (qt_now, .inl (cI, 43, .inl v_now)), (qt_worth, .inl (cI, 8, .inl v_worth))] H → va_D A [(qt, .inr (9, [.ref qt_book, .ref qt_now, .ref qt_flakes, .ref qt_leaks, .int v_music, .ref qt_ranks, .int v_sights, .ref qt_sight, .int v_signs, .ref qt_pad, .int v_freeAt, .int v_freeWho, .int v_reason, .int v_acts, .ref qt_gets, .ref qt_counts, .ref qt_worth, .ref qt_ways, .ref qt_image, .ref qt_isKept])), (qt_book, .inl (cI, 43, .inl v_book)), (qt_now, .inl (cI, 43, .inl v_now)), (qt_worth, .inl (cI, 8, .inl v_worth))] → va_S A s.heap H locs → lv_has ls 6 [(0, .ref qt), (1, .int p1), (2, .int x2), (3, .int x3), (4, .int x4)] → L_X10_worthBut_33 v_book v_now p1 (L_X10_worthBut_26 v_book v_now p1 n26) n33 v_worth x2 x3 x4 = some (r, w_worth) → W p l e rm_X10_worthBut s m args below meth c H locs 0 0 QQ (F0 m 33 ls []) := by
        intro n33
        induction n33 with
        | zero =>
          intro v_worth x2 x3 x4 H locs ls hP hD hS hl h
          have h : none = some (r, w_worth) := h
          cases h
        | succ n33 ih33 =>
          have hB74 : ∀ (v_worth : (Nat → Int32)) (x2 : Int32) (x3 : Int32) (x4 : Int32) (H : Heap) (locs : List Loc) (ls : Array Slot), va_P D vwCl [(qt, .inr (9, [.ref qt_book, .ref qt_now, .ref qt_flakes, .ref qt_leaks, .int v_music, .ref qt_ranks, .int v_sights, .ref qt_sight, .int v_signs, .ref qt_pad, .int v_freeAt, .int v_freeWho, .int v_reason, .int v_acts, .ref qt_gets, .ref qt_counts, .ref qt_worth, .ref qt_ways, .ref qt_image, .ref qt_isKept])), (qt_book, .inl (cI, 43, .inl v_book)), (qt_now, .inl (cI, 43, .inl v_now)), (qt_worth, .inl (cI, 8, .inl v_worth))] H → va_D A [(qt, .inr (9, [.ref qt_book, .ref qt_now, .ref qt_flakes, .ref qt_leaks, .int v_music, .ref qt_ranks, .int v_sights, .ref qt_sight, .int v_signs, .ref qt_pad, .int v_freeAt, .int v_freeWho, .int v_reason, .int v_acts, .ref qt_gets, .ref qt_counts, .ref qt_worth, .ref qt_ways, .ref qt_image, .ref qt_isKept])), (qt_book, .inl (cI, 43, .inl v_book)), (qt_now, .inl (cI, 43, .inl v_now)), (qt_worth, .inl (cI, 8, .inl v_worth))] → va_S A s.heap H locs → lv_has ls 6 [(0, .ref qt), (1, .int p1), (2, .int x2), (3, .int x3), (4, .int x4)] → B_X10_worthBut_74 v_book v_now p1 (L_X10_worthBut_26 v_book v_now p1 n26) (L_X10_worthBut_33 v_book v_now p1 (L_X10_worthBut_26 v_book v_now p1 n26) n33) v_worth x2 x3 x4 = some (r, w_worth) → W p l e rm_X10_worthBut s m args below meth c H locs 0 0 QQ (F0 m 74 ls []) := by
            intro v_worth x2 x3 x4 H locs ls hP hD hS hl h
            unfold B_X10_worthBut_74 at h
            refine lv_aload_n hx hb dX10_worthBut_74 rfl (lv_at hl 0 rfl) ?_
            refine va_get (D := D) (ci := 9) (C := RX10) (T := TX10) (N := 20) hx hb hts (fun _ hw => (List.mem_cons_of_mem _ (List.mem_append_right _ hw))) hown hE.1 hP 0 rfl rfl 16 (by decide) (hts (.fieldLink RX10 37 "GlobeCrownModel" "worth" "[I") (List.mem_cons_of_mem _ (List.mem_append_left _ (List.mem_of_getElem? (i := 0) rfl)))) (fun _ h9 => h9) rfl dX10_worthBut_75 ?_
            refine lv_iload hx hb dX10_worthBut_78 (lv_at hl 4 rfl) ?_
            obtain ⟨hg, h⟩ := gin_some h
            refine va_iald hx hb hE.1 hP 3 0 rfl rfl hg dX10_worthBut_80 ?_
            refine lv_iconst (v := 1) hx hb dX10_worthBut_81 (by decide) ?_
            refine lv_iadd hx hb dX10_worthBut_82 ?_
            refine lv_istore (lv' := [(5, .int ((v_worth (Int32.toNatClampNeg x4)) + (1 : Int32))), (0, .ref qt), (1, .int p1), (2, .int x2), (3, .int x3), (4, .int x4)]) hx hb dX10_worthBut_83 hl (by decide) rfl (fun ls hl => ?_)
            refine lv_aload_n hx hb dX10_worthBut_85 rfl (lv_at hl 1 rfl) ?_
            refine va_get (D := D) (ci := 9) (C := RX10) (T := TX10) (N := 20) hx hb hts (fun _ hw => (List.mem_cons_of_mem _ (List.mem_append_right _ hw))) hown hE.1 hP 0 rfl rfl 0 (by decide) (hts (.fieldLink RX10 7 "GlobeCrownModel" "book" "[I") (List.mem_cons_of_mem _ (List.mem_append_left _ (List.mem_of_getElem? (i := 1) rfl)))) (fun _ h9 => h9) rfl dX10_worthBut_86 ?_
            refine lv_bipush (v := 32) hx hb dX10_worthBut_89 (by decide) ?_
            refine lv_iload hx hb dX10_worthBut_91 (lv_at hl 5 rfl) ?_
            refine lv_iadd hx hb dX10_worthBut_93 ?_
            obtain ⟨hg, h⟩ := gin_some h
            refine va_iald hx hb hE.1 hP 1 0 rfl rfl hg dX10_worthBut_94 ?_
            refine lv_if_ge (tgt := 106) hx hb dX10_worthBut_95 (by decide) (fun hc => ?_) (fun hc => ?_)
            · have h := if_t hc h
              refine lv_aload_n hx hb dX10_worthBut_106 rfl (lv_at hl 1 rfl) ?_
              refine va_get (D := D) (ci := 9) (C := RX10) (T := TX10) (N := 20) hx hb hts (fun _ hw => (List.mem_cons_of_mem _ (List.mem_append_right _ hw))) hown hE.1 hP 0 rfl rfl 16 (by decide) (hts (.fieldLink RX10 37 "GlobeCrownModel" "worth" "[I") (List.mem_cons_of_mem _ (List.mem_append_left _ (List.mem_of_getElem? (i := 0) rfl)))) (fun _ h9 => h9) rfl dX10_worthBut_107 ?_
              refine lv_aload_n hx hb dX10_worthBut_110 rfl (lv_at hl 1 rfl) ?_
              refine va_get (D := D) (ci := 9) (C := RX10) (T := TX10) (N := 20) hx hb hts (fun _ hw => (List.mem_cons_of_mem _ (List.mem_append_right _ hw))) hown hE.1 hP 0 rfl rfl 0 (by decide) (hts (.fieldLink RX10 7 "GlobeCrownModel" "book" "[I") (List.mem_cons_of_mem _ (List.mem_append_left _ (List.mem_of_getElem? (i := 1) rfl)))) (fun _ h9 => h9) rfl dX10_worthBut_111 ?_
              refine lv_bipush (v := 32) hx hb dX10_worthBut_114 (by decide) ?_
              refine lv_iload hx hb dX10_worthBut_116 (lv_at hl 5 rfl) ?_
              refine lv_iadd hx hb dX10_worthBut_118 ?_
              obtain ⟨hg, h⟩ := gin_some h
              refine va_iald hx hb hE.1 hP 1 0 rfl rfl hg dX10_worthBut_119 ?_
              refine lv_dup2_11 hx hb dX10_worthBut_120 rfl rfl ?_
              obtain ⟨hg, h⟩ := gin_some h
              refine va_iald hx hb hE.1 hP 3 0 rfl rfl hg dX10_worthBut_121 ?_
              refine lv_iload hx hb dX10_worthBut_122 (lv_at hl 0 rfl) ?_
              refine lv_ixor hx hb dX10_worthBut_124 ?_
              obtain ⟨hg, h⟩ := gin_some h
              refine va_iast hx hb hE.1 hP hD hS 3 0 rfl rfl hg dX10_worthBut_125 (fun H locs (hP : va_P D vwCl [(qt, .inr (9, [.ref qt_book, .ref qt_now, .ref qt_flakes, .ref qt_leaks, .int v_music, .ref qt_ranks, .int v_sights, .ref qt_sight, .int v_signs, .ref qt_pad, .int v_freeAt, .int v_freeWho, .int v_reason, .int v_acts, .ref qt_gets, .ref qt_counts, .ref qt_worth, .ref qt_ways, .ref qt_image, .ref qt_isKept])), (qt_book, .inl (cI, 43, .inl v_book)), (qt_now, .inl (cI, 43, .inl v_now)), (qt_worth, .inl (cI, 8, .inl (upd v_worth (Int32.toNatClampNeg (v_book (Int32.toNatClampNeg ((32 : Int32) + x4)))) ((v_worth (Int32.toNatClampNeg (v_book (Int32.toNatClampNeg ((32 : Int32) + x4))))) ^^^ ((v_worth (Int32.toNatClampNeg x4)) + (1 : Int32))))))] H) (hD : va_D A [(qt, .inr (9, [.ref qt_book, .ref qt_now, .ref qt_flakes, .ref qt_leaks, .int v_music, .ref qt_ranks, .int v_sights, .ref qt_sight, .int v_signs, .ref qt_pad, .int v_freeAt, .int v_freeWho, .int v_reason, .int v_acts, .ref qt_gets, .ref qt_counts, .ref qt_worth, .ref qt_ways, .ref qt_image, .ref qt_isKept])), (qt_book, .inl (cI, 43, .inl v_book)), (qt_now, .inl (cI, 43, .inl v_now)), (qt_worth, .inl (cI, 8, .inl (upd v_worth (Int32.toNatClampNeg (v_book (Int32.toNatClampNeg ((32 : Int32) + x4)))) ((v_worth (Int32.toNatClampNeg (v_book (Int32.toNatClampNeg ((32 : Int32) + x4))))) ^^^ ((v_worth (Int32.toNatClampNeg x4)) + (1 : Int32))))))]) hS => ?_)
              refine lv_iinc (v := (x4 + (1 : Int32))) (lv' := [(4, .int (x4 + (1 : Int32))), (5, .int ((v_worth (Int32.toNatClampNeg x4)) + (1 : Int32))), (0, .ref qt), (1, .int p1), (2, .int x2), (3, .int x3)]) hx hb dX10_worthBut_126 hl (k := 5) rfl rfl (by decide) rfl (fun ls hl => ?_)
              refine lv_goto (tgt := 33) hx hb dX10_worthBut_129 (by decide) ?_
              exact ih33 (upd v_worth (Int32.toNatClampNeg (v_book (Int32.toNatClampNeg ((32 : Int32) + x4)))) ((v_worth (Int32.toNatClampNeg (v_book (Int32.toNatClampNeg ((32 : Int32) + x4))))) ^^^ ((v_worth (Int32.toNatClampNeg x4)) + (1 : Int32)))) x2 x3 (x4 + (1 : Int32)) H locs ls hP hD hS (lv_sub hl [2, 3, 4, 5, 0] rfl) h
            · have h := if_f hc h
              refine lv_iload_n hx hb dX10_worthBut_98 rfl (lv_at hl 3 rfl) ?_
              refine lv_iload hx hb dX10_worthBut_99 (lv_at hl 0 rfl) ?_
              refine lv_ixor hx hb dX10_worthBut_101 ?_
              refine lv_istore_n (lv' := [(2, .int (x2 ^^^ ((v_worth (Int32.toNatClampNeg x4)) + (1 : Int32)))), (5, .int ((v_worth (Int32.toNatClampNeg x4)) + (1 : Int32))), (0, .ref qt), (1, .int p1), (3, .int x3), (4, .int x4)]) hx hb dX10_worthBut_102 rfl hl (by decide) rfl (fun ls hl => ?_)
              refine lv_goto (tgt := 126) hx hb dX10_worthBut_103 (by decide) ?_
              refine lv_iinc (v := (x4 + (1 : Int32))) (lv' := [(4, .int (x4 + (1 : Int32))), (2, .int (x2 ^^^ ((v_worth (Int32.toNatClampNeg x4)) + (1 : Int32)))), (5, .int ((v_worth (Int32.toNatClampNeg x4)) + (1 : Int32))), (0, .ref qt), (1, .int p1), (3, .int x3)]) hx hb dX10_worthBut_126 hl (k := 5) rfl rfl (by decide) rfl (fun ls hl => ?_)
              refine lv_goto (tgt := 33) hx hb dX10_worthBut_129 (by decide) ?_
              exact ih33 v_worth (x2 ^^^ ((v_worth (Int32.toNatClampNeg x4)) + (1 : Int32))) x3 (x4 + (1 : Int32)) H locs ls hP hD hS (lv_sub hl [3, 4, 1, 5, 0] rfl) h
          intro v_worth x2 x3 x4 H locs ls hP hD hS hl h
          rw [L_X10_worthBut_33.eq_2] at h
          refine lv_iload hx hb dX10_worthBut_33 (lv_at hl 4 rfl) ?_
          refine lv_bipush (v := 8) hx hb dX10_worthBut_35 (by decide) ?_
          refine lv_icmp_ge (tgt := 132) hx hb dX10_worthBut_37 (by decide) (fun hc => ?_) (fun hc => ?_)
          · have h := if_t hc h
            refine lv_iinc (v := (x3 + (-1 : Int32))) (lv' := [(3, .int (x3 + (-1 : Int32))), (0, .ref qt), (1, .int p1), (2, .int x2), (4, .int x4)]) hx hb dX10_worthBut_132 hl (k := 3) rfl rfl (by decide) rfl (fun ls hl => ?_)
            refine lv_goto (tgt := 26) hx hb dX10_worthBut_135 (by decide) ?_
            exact ih26 v_worth x2 (x3 + (-1 : Int32)) H locs ls hP hD hS (lv_sub hl [1, 2, 3, 0] rfl) h
          · have h := if_f hc h
            refine lv_aload_n hx hb dX10_worthBut_40 rfl (lv_at hl 0 rfl) ?_
            refine lv_iload hx hb dX10_worthBut_41 (lv_at hl 4 rfl) ?_
            obtain ⟨r43, hc43, h⟩ := bd1_some h
            refine gw_ci (wr := [(qt_now, .inl (cI, 43, .inl v_now)), (qt_worth, .inl (cI, 8, .inl v_worth))]) (w2 := [(qt_now, .inl (cI, 43, .inl v_now)), (qt_worth, .inl (cI, 8, .inl v_worth)), (qt, .inr (9, [.ref qt_book, .ref qt_now, .ref qt_flakes, .ref qt_leaks, .int v_music, .ref qt_ranks, .int v_sights, .ref qt_sight, .int v_signs, .ref qt_pad, .int v_freeAt, .int v_freeWho, .int v_reason, .int v_acts, .ref qt_gets, .ref qt_counts, .ref qt_worth, .ref qt_ways, .ref qt_image, .ref qt_isKept])), (qt_book, .inl (cI, 43, .inl v_book))]) (gw_rV (n := 1) ⟨hx, hb, hml, hown, hts⟩ (C_X10_isThere l D cI cJ cZ H.size qt qt_book qt_now qt_flakes qt_leaks qt_ranks qt_sight qt_pad qt_gets qt_counts qt_worth qt_ways qt_image qt_isKept v_book v_music v_sights v_signs v_freeAt v_freeWho v_reason v_acts x4 r43 hc43) gX10_worthBut_X10_isThere rfl rfl rfl hdV_X10_isThere ⟨Nat.le_of_ble_eq_true rfl, Nat.le_of_ble_eq_true rfl⟩ hE (hP.sub [0, 1] rfl) (hD.sub [0, 1] (by decide) rfl) 9 rfl 0 rfl rfl hl.1 (rest := []) rfl (Nat.le_of_ble_eq_true rfl) dX10_worthBut_43 ⟨Nat.zero_le _, Nat.zero_le _⟩) hP hD hS hA [0, 1] [2, 3] rfl rfl rfl (by decide) rfl (fun H locs hP hD hS => ?_)
            refine lv_if_eq (tgt := 126) hx hb dX10_worthBut_46 (by decide) (fun hc => ?_) (fun hc => ?_)
            · have h := if_t hc h
              refine lv_iinc (v := (x4 + (1 : Int32))) (lv' := [(4, .int (x4 + (1 : Int32))), (0, .ref qt), (1, .int p1), (2, .int x2), (3, .int x3)]) hx hb dX10_worthBut_126 hl (k := 4) rfl rfl (by decide) rfl (fun ls hl => ?_)
              refine lv_goto (tgt := 33) hx hb dX10_worthBut_129 (by decide) ?_
              exact ih33 v_worth x2 x3 (x4 + (1 : Int32)) H locs ls (hP.sub [2, 3, 0, 1] rfl) (hD.sub [2, 3, 0, 1] (by decide) rfl) hS (lv_sub hl [1, 2, 3, 4, 0] rfl) h
            · have h := if_f hc h
              refine lv_aload_n hx hb dX10_worthBut_49 rfl (lv_at hl 0 rfl) ?_
              refine lv_iload hx hb dX10_worthBut_50 (lv_at hl 4 rfl) ?_
              refine lv_iconst (v := 1) hx hb dX10_worthBut_52 (by decide) ?_
              obtain ⟨r53, hc53, h⟩ := bd1_some h
              refine gw_ci (wr := [(qt_now, .inl (cI, 43, .inl v_now)), (qt_worth, .inl (cI, 8, .inl v_worth))]) (w2 := [(qt_now, .inl (cI, 43, .inl v_now)), (qt_worth, .inl (cI, 8, .inl v_worth)), (qt, .inr (9, [.ref qt_book, .ref qt_now, .ref qt_flakes, .ref qt_leaks, .int v_music, .ref qt_ranks, .int v_sights, .ref qt_sight, .int v_signs, .ref qt_pad, .int v_freeAt, .int v_freeWho, .int v_reason, .int v_acts, .ref qt_gets, .ref qt_counts, .ref qt_worth, .ref qt_ways, .ref qt_image, .ref qt_isKept])), (qt_book, .inl (cI, 43, .inl v_book))]) (gw_rV (n := 2) ⟨hx, hb, hml, hown, hts⟩ (C_X10_look l D cI cJ cZ H.size qt qt_book qt_now qt_flakes qt_leaks qt_ranks qt_sight qt_pad qt_gets qt_counts qt_worth qt_ways qt_image qt_isKept v_book v_music v_sights v_signs v_freeAt v_freeWho v_reason v_acts x4 (1 : Int32) r53 hc53) gX10_worthBut_X10_look rfl rfl rfl hdV_X10_look ⟨Nat.le_of_ble_eq_true rfl, Nat.le_of_ble_eq_true rfl⟩ hE (hP.sub [2, 3] rfl) (hD.sub [2, 3] (by decide) rfl) 9 rfl 0 rfl rfl hl.1 (rest := []) rfl (Nat.le_of_ble_eq_true rfl) dX10_worthBut_53 ⟨Nat.zero_le _, Nat.zero_le _⟩) hP hD hS hA [2, 3] [0, 1] rfl rfl rfl (by decide) rfl (fun H locs hP hD hS => ?_)
              refine lv_iload_n hx hb dX10_worthBut_56 rfl (lv_at hl 3 rfl) ?_
              refine lv_icmp_ne (tgt := 126) hx hb dX10_worthBut_57 (by decide) (fun hc => ?_) (fun hc => ?_)
              · have h := if_f hc h
                refine lv_iinc (v := (x4 + (1 : Int32))) (lv' := [(4, .int (x4 + (1 : Int32))), (0, .ref qt), (1, .int p1), (2, .int x2), (3, .int x3)]) hx hb dX10_worthBut_126 hl (k := 4) rfl rfl (by decide) rfl (fun ls hl => ?_)
                refine lv_goto (tgt := 33) hx hb dX10_worthBut_129 (by decide) ?_
                exact ih33 v_worth x2 x3 (x4 + (1 : Int32)) H locs ls (hP.sub [2, 3, 0, 1] rfl) (hD.sub [2, 3, 0, 1] (by decide) rfl) hS (lv_sub hl [1, 2, 3, 4, 0] rfl) h
              · have h := if_t hc h
                refine lv_iload_n hx hb dX10_worthBut_60 rfl (lv_at hl 1 rfl) ?_
                refine lv_if_lt (tgt := 74) hx hb dX10_worthBut_61 (by decide) (fun hc => ?_) (fun hc => ?_)
                · have h := if_t hc h
                  exact hB74 v_worth x2 x3 x4 H locs ls (hP.sub [2, 3, 0, 1] rfl) (hD.sub [2, 3, 0, 1] (by decide) rfl) hS hl h
                · have h := if_f hc h
                  refine lv_aload_n hx hb dX10_worthBut_64 rfl (lv_at hl 0 rfl) ?_
                  refine lv_iload hx hb dX10_worthBut_65 (lv_at hl 4 rfl) ?_
                  refine lv_iload_n hx hb dX10_worthBut_67 rfl (lv_at hl 1 rfl) ?_
                  obtain ⟨r68, hc68, h⟩ := bd1_some h
                  refine gw_ci (wr := [(qt_worth, .inl (cI, 8, .inl v_worth)), (qt_book, .inl (cI, 43, .inl v_book))]) (w2 := [(qt_worth, .inl (cI, 8, .inl v_worth)), (qt_book, .inl (cI, 43, .inl v_book)), (qt, .inr (9, [.ref qt_book, .ref qt_now, .ref qt_flakes, .ref qt_leaks, .int v_music, .ref qt_ranks, .int v_sights, .ref qt_sight, .int v_signs, .ref qt_pad, .int v_freeAt, .int v_freeWho, .int v_reason, .int v_acts, .ref qt_gets, .ref qt_counts, .ref qt_worth, .ref qt_ways, .ref qt_image, .ref qt_isKept])), (qt_now, .inl (cI, 43, .inl v_now))]) (gw_rV (n := 2) ⟨hx, hb, hml, hown, hts⟩ (C_X10_isWithin l D cI cJ cZ H.size qt qt_book qt_now qt_flakes qt_leaks qt_ranks qt_sight qt_pad qt_gets qt_counts qt_worth qt_ways qt_image qt_isKept v_now v_music v_sights v_signs v_freeAt v_freeWho v_reason v_acts x4 p1 r68 hc68) gX10_worthBut_X10_isWithin rfl rfl rfl hdV_X10_isWithin ⟨Nat.le_of_ble_eq_true rfl, Nat.le_of_ble_eq_true rfl⟩ hE (hP.sub [2, 0] rfl) (hD.sub [2, 0] (by decide) rfl) 9 rfl 0 rfl rfl hl.1 (rest := []) rfl (Nat.le_of_ble_eq_true rfl) dX10_worthBut_68 ⟨Nat.zero_le _, Nat.zero_le _⟩) hP hD hS hA [2, 0] [1, 3] rfl rfl rfl (by decide) rfl (fun H locs hP hD hS => ?_)
                  refine lv_if_ne (tgt := 126) hx hb dX10_worthBut_71 (by decide) (fun hc => ?_) (fun hc => ?_)
                  · have h := if_f hc h
                    refine lv_iinc (v := (x4 + (1 : Int32))) (lv' := [(4, .int (x4 + (1 : Int32))), (0, .ref qt), (1, .int p1), (2, .int x2), (3, .int x3)]) hx hb dX10_worthBut_126 hl (k := 4) rfl rfl (by decide) rfl (fun ls hl => ?_)
                    refine lv_goto (tgt := 33) hx hb dX10_worthBut_129 (by decide) ?_
                    exact ih33 v_worth x2 x3 (x4 + (1 : Int32)) H locs ls (hP.sub [2, 1, 3, 0] rfl) (hD.sub [2, 1, 3, 0] (by decide) rfl) hS (lv_sub hl [1, 2, 3, 4, 0] rfl) h
                  · have h := if_t hc h
                    exact hB74 v_worth x2 x3 x4 H locs ls (hP.sub [2, 1, 3, 0] rfl) (hD.sub [2, 1, 3, 0] (by decide) rfl) hS hl h
      intro v_worth x2 x3 H locs ls hP hD hS hl h
      rw [L_X10_worthBut_26.eq_2] at h
      refine lv_iload_n hx hb dX10_worthBut_26 rfl (lv_at hl 3 rfl) ?_
      refine lv_if_lt (tgt := 138) hx hb dX10_worthBut_27 (by decide) (fun hc => ?_) (fun hc => ?_)
      · have h := if_t hc h
        refine lv_iload_n hx hb dX10_worthBut_138 rfl (lv_at hl 2 rfl) ?_
        cases h
        rw [hQQ]
        exact gw_iret hx hb hr hlocks hP hD hS dX10_worthBut_139
      · have h := if_f hc h
        refine lv_iconst (v := 0) hx hb dX10_worthBut_30 (by decide) ?_
        refine lv_istore (lv' := [(4, .int (0 : Int32)), (0, .ref qt), (1, .int p1), (2, .int x2), (3, .int x3)]) hx hb dX10_worthBut_31 hl (by decide) rfl (fun ls hl => ?_)
        exact hL33 FU v_worth x2 x3 (0 : Int32) H locs ls hP hD hS (lv_sub hl [1, 2, 3, 4, 0] rfl) h
  have hL4 : ∀ (n4 : Nat), ∀ (v_worth : (Nat → Int32)) (x2 : Int32) (x3 : Int32) (H : Heap) (locs : List Loc) (ls : Array Slot), va_P D vwCl [(qt, .inr (9, [.ref qt_book, .ref qt_now, .ref qt_flakes, .ref qt_leaks, .int v_music, .ref qt_ranks, .int v_sights, .ref qt_sight, .int v_signs, .ref qt_pad, .int v_freeAt, .int v_freeWho, .int v_reason, .int v_acts, .ref qt_gets, .ref qt_counts, .ref qt_worth, .ref qt_ways, .ref qt_image, .ref qt_isKept])), (qt_book, .inl (cI, 43, .inl v_book)), (qt_now, .inl (cI, 43, .inl v_now)), (qt_worth, .inl (cI, 8, .inl v_worth))] H → va_D A [(qt, .inr (9, [.ref qt_book, .ref qt_now, .ref qt_flakes, .ref qt_leaks, .int v_music, .ref qt_ranks, .int v_sights, .ref qt_sight, .int v_signs, .ref qt_pad, .int v_freeAt, .int v_freeWho, .int v_reason, .int v_acts, .ref qt_gets, .ref qt_counts, .ref qt_worth, .ref qt_ways, .ref qt_image, .ref qt_isKept])), (qt_book, .inl (cI, 43, .inl v_book)), (qt_now, .inl (cI, 43, .inl v_now)), (qt_worth, .inl (cI, 8, .inl v_worth))] → va_S A s.heap H locs → lv_has ls 6 [(0, .ref qt), (1, .int p1), (2, .int x2), (3, .int x3)] → L_X10_worthBut_4 v_book v_now p1 n4 v_worth x2 x3 = some (r, w_worth) → W p l e rm_X10_worthBut s m args below meth c H locs 0 0 QQ (F0 m 4 ls []) := by
    intro n4
    induction n4 with
    | zero =>
      intro v_worth x2 x3 H locs ls hP hD hS hl h
      have h : none = some (r, w_worth) := h
      cases h
    | succ n4 ih4 =>
      intro v_worth x2 x3 H locs ls hP hD hS hl h
      rw [L_X10_worthBut_4.eq_2] at h
      refine lv_iload_n hx hb dX10_worthBut_4 rfl (lv_at hl 3 rfl) ?_
      refine lv_bipush (v := 8) hx hb dX10_worthBut_5 (by decide) ?_
      refine lv_icmp_ge (tgt := 23) hx hb dX10_worthBut_7 (by decide) (fun hc => ?_) (fun hc => ?_)
      · have h := if_t hc h
        refine lv_bipush (v := 7) hx hb dX10_worthBut_23 (by decide) ?_
        refine lv_istore_n (lv' := [(3, .int (7 : Int32)), (0, .ref qt), (1, .int p1), (2, .int x2)]) hx hb dX10_worthBut_25 rfl hl (by decide) rfl (fun ls hl => ?_)
        exact hL26 FU v_worth x2 (7 : Int32) H locs ls hP hD hS (lv_sub hl [1, 2, 3, 0] rfl) h
      · have h := if_f hc h
        refine lv_aload_n hx hb dX10_worthBut_10 rfl (lv_at hl 0 rfl) ?_
        refine va_get (D := D) (ci := 9) (C := RX10) (T := TX10) (N := 20) hx hb hts (fun _ hw => (List.mem_cons_of_mem _ (List.mem_append_right _ hw))) hown hE.1 hP 0 rfl rfl 16 (by decide) (hts (.fieldLink RX10 37 "GlobeCrownModel" "worth" "[I") (List.mem_cons_of_mem _ (List.mem_append_left _ (List.mem_of_getElem? (i := 0) rfl)))) (fun _ h9 => h9) rfl dX10_worthBut_11 ?_
        refine lv_iload_n hx hb dX10_worthBut_14 rfl (lv_at hl 3 rfl) ?_
        refine lv_iconst (v := 0) hx hb dX10_worthBut_15 (by decide) ?_
        obtain ⟨hg, h⟩ := gin_some h
        refine va_iast hx hb hE.1 hP hD hS 3 0 rfl rfl hg dX10_worthBut_16 (fun H locs (hP : va_P D vwCl [(qt, .inr (9, [.ref qt_book, .ref qt_now, .ref qt_flakes, .ref qt_leaks, .int v_music, .ref qt_ranks, .int v_sights, .ref qt_sight, .int v_signs, .ref qt_pad, .int v_freeAt, .int v_freeWho, .int v_reason, .int v_acts, .ref qt_gets, .ref qt_counts, .ref qt_worth, .ref qt_ways, .ref qt_image, .ref qt_isKept])), (qt_book, .inl (cI, 43, .inl v_book)), (qt_now, .inl (cI, 43, .inl v_now)), (qt_worth, .inl (cI, 8, .inl (upd v_worth (Int32.toNatClampNeg x3) (0 : Int32))))] H) (hD : va_D A [(qt, .inr (9, [.ref qt_book, .ref qt_now, .ref qt_flakes, .ref qt_leaks, .int v_music, .ref qt_ranks, .int v_sights, .ref qt_sight, .int v_signs, .ref qt_pad, .int v_freeAt, .int v_freeWho, .int v_reason, .int v_acts, .ref qt_gets, .ref qt_counts, .ref qt_worth, .ref qt_ways, .ref qt_image, .ref qt_isKept])), (qt_book, .inl (cI, 43, .inl v_book)), (qt_now, .inl (cI, 43, .inl v_now)), (qt_worth, .inl (cI, 8, .inl (upd v_worth (Int32.toNatClampNeg x3) (0 : Int32))))]) hS => ?_)
        refine lv_iinc (v := (x3 + (1 : Int32))) (lv' := [(3, .int (x3 + (1 : Int32))), (0, .ref qt), (1, .int p1), (2, .int x2)]) hx hb dX10_worthBut_17 hl (k := 3) rfl rfl (by decide) rfl (fun ls hl => ?_)
        refine lv_goto (tgt := 4) hx hb dX10_worthBut_20 (by decide) ?_
        exact ih4 (upd v_worth (Int32.toNatClampNeg x3) (0 : Int32)) x2 (x3 + (1 : Int32)) H locs ls hP hD hS (lv_sub hl [1, 2, 3, 0] rfl) h
  have h := hf
  unfold f_X10_worthBut at h
  refine gw_start hP hD hS (fun H locs hP hD hS => ?_)
  refine lv_iconst (v := 0) hx hb dX10_worthBut_0 (by decide) ?_
  refine lv_istore_n (lv' := [(2, .int (0 : Int32)), (0, .ref qt), (1, .int p1)]) hx hb dX10_worthBut_1 rfl hl (by decide) rfl (fun ls hl => ?_)
  refine lv_iconst (v := 0) hx hb dX10_worthBut_2 (by decide) ?_
  refine lv_istore_n (lv' := [(3, .int (0 : Int32)), (2, .int (0 : Int32)), (0, .ref qt), (1, .int p1)]) hx hb dX10_worthBut_3 rfl hl (by decide) rfl (fun ls hl => ?_)
  exact hL4 FU v_worth (0 : Int32) (0 : Int32) H locs ls hP hD hS (lv_sub hl [2, 3, 1, 0] rfl) h
theorem hdV_X10_worthBut : yX10_worthBut.cls = RX10 ∧ yX10_worthBut.cls ≠ "java/lang/invoke/MethodHandle" ∧ yX10_worthBut.cls ≠ "java/lang/invoke/VarHandle" ∧ (parseMethodDescriptor yX10_worthBut.desc).map (fun d => d.parameters.length) = some 1 := by decide +kernel
def L_X10_thumb_22 (v_book : (Nat → Int32)) (p1 : Int32) : Nat → (Nat → Int32) → Int32 → Int32 → (Nat → Int32) → Int32 → Int32 → Option (Int32 × (Nat → Int32) × Int32 × Int32 × (Nat → Int32))
  | 0, _, _, _, _, _, _ => none
  | n + 1, v_now, v_freeAt, v_freeWho, v_worth, x2, x3 => (if x3 < (0 : Int32) then (if p1 = (1 : Int32) then (some (x2, v_now, v_freeAt, v_freeWho, v_worth)) else (if (0 : Int32) ≤ x2 then (some ((1 : Int32), v_now, v_freeAt, v_freeWho, v_worth)) else (some ((0 : Int32), v_now, v_freeAt, v_freeWho, v_worth)))) else (bd1 (f_X10_isThere v_book x3) (fun r28 => (if r28 = (0 : Int32) then ((L_X10_thumb_22 v_book p1 n) v_now v_freeAt v_freeWho v_worth x2 (x3 + (-1 : Int32))) else (bd2 (f_X10_worthBut v_book v_now v_worth x3) (fun r36 u36v_worth => (if r36 = (0 : Int32) then ((L_X10_thumb_22 v_book p1 n) v_now v_freeAt v_freeWho u36v_worth x3 (x3 + (-1 : Int32))) else ((L_X10_thumb_22 v_book p1 n) v_now v_freeAt v_freeWho u36v_worth x2 (x3 + (-1 : Int32))))))))))
def f_X10_thumb (v_book : (Nat → Int32)) (v_now : (Nat → Int32)) (v_freeAt : Int32) (v_freeWho : Int32) (v_worth : (Nat → Int32)) (p1 : Int32) : Option (Int32 × (Nat → Int32) × Int32 × Int32 × (Nat → Int32)) := (bd1 (f_X10_in p1 (0 : Int32) (1 : Int32)) (fun r3 => (if r3 = (0 : Int32) then (some ((-2 : Int32), v_now, v_freeAt, v_freeWho, v_worth)) else (bd3 (f_X10_asNow v_book v_now v_freeAt v_freeWho) (fun u13v_now u13v_freeAt u13v_freeWho => (L_X10_thumb_22 v_book p1 FU u13v_now u13v_freeAt u13v_freeWho v_worth (-6 : Int32) (7 : Int32)))))))
abbrev rm_X10_thumb : Room := { frames := 4, cells := 0, slots := 0, locals := 93 }
set_option maxHeartbeats 4000000 in
set_option maxRecDepth 100000 in
theorem C_X10_thumb (l : Launch) (D : va_G) (cI cJ cZ : ClassId) (sz : Nat) (qt qt_book qt_now qt_flakes qt_leaks qt_ranks qt_sight qt_pad qt_gets qt_counts qt_worth qt_ways qt_image qt_isKept : Nat) (v_book : (Nat → Int32)) (v_now : (Nat → Int32)) (v_music : Int32) (v_sights : Int32) (v_signs : Int32) (v_freeAt : Int32) (v_freeWho : Int32) (v_reason : Int32) (v_acts : Int32) (v_worth : (Nat → Int32)) (p1 : Int32) (r : Int32) (w_now : (Nat → Int32)) (w_freeAt : Int32) (w_freeWho : Int32) (w_worth : (Nat → Int32)) (hf : f_X10_thumb v_book v_now v_freeAt v_freeWho v_worth p1 = some (r, w_now, w_freeAt, w_freeWho, w_worth)) : Met l yX10_thumb wsX10_thumb rm_X10_thumb (PR D cI cJ cZ [(qt, .inr (9, [.ref qt_book, .ref qt_now, .ref qt_flakes, .ref qt_leaks, .int v_music, .ref qt_ranks, .int v_sights, .ref qt_sight, .int v_signs, .ref qt_pad, .int v_freeAt, .int v_freeWho, .int v_reason, .int v_acts, .ref qt_gets, .ref qt_counts, .ref qt_worth, .ref qt_ways, .ref qt_image, .ref qt_isKept])), (qt_book, .inl (cI, 43, .inl v_book)), (qt_now, .inl (cI, 43, .inl v_now)), (qt_worth, .inl (cI, 8, .inl v_worth))] sz [.ref qt, .int p1]) (QI D (va_A [(qt, .inr (9, [.ref qt_book, .ref qt_now, .ref qt_flakes, .ref qt_leaks, .int v_music, .ref qt_ranks, .int v_sights, .ref qt_sight, .int v_signs, .ref qt_pad, .int v_freeAt, .int v_freeWho, .int v_reason, .int v_acts, .ref qt_gets, .ref qt_counts, .ref qt_worth, .ref qt_ways, .ref qt_image, .ref qt_isKept])), (qt_book, .inl (cI, 43, .inl v_book)), (qt_now, .inl (cI, 43, .inl v_now)), (qt_worth, .inl (cI, 8, .inl v_worth))] sz) r [(qt, .inr (9, [.ref qt_book, .ref qt_now, .ref qt_flakes, .ref qt_leaks, .int v_music, .ref qt_ranks, .int v_sights, .ref qt_sight, .int v_signs, .ref qt_pad, .int w_freeAt, .int w_freeWho, .int v_reason, .int v_acts, .ref qt_gets, .ref qt_counts, .ref qt_worth, .ref qt_ways, .ref qt_image, .ref qt_isKept])), (qt_book, .inl (cI, 43, .inl v_book)), (qt_now, .inl (cI, 43, .inl w_now)), (qt_worth, .inl (cI, 8, .inl w_worth))]) 0 0 (va_A [(qt, .inr (9, [.ref qt_book, .ref qt_now, .ref qt_flakes, .ref qt_leaks, .int v_music, .ref qt_ranks, .int v_sights, .ref qt_sight, .int v_signs, .ref qt_pad, .int v_freeAt, .int v_freeWho, .int v_reason, .int v_acts, .ref qt_gets, .ref qt_counts, .ref qt_worth, .ref qt_ways, .ref qt_image, .ref qt_isKept])), (qt_book, .inl (cI, 43, .inl v_book)), (qt_now, .inl (cI, 43, .inl v_now)), (qt_worth, .inl (cI, 8, .inl v_worth))] sz) := by
  refine Met.ofW (cc := cX10_thumb) (maxL := 4) (ret := (some .int)) (by decide) rfl ?_
  intro p e s m args below meth c s₁ B hml hv
  obtain ⟨hav, hsz, hP, hD0, hE⟩ := hv
  have hx := B.exec
  have hb := B.bytes
  have hr := B.returns
  have hts := atoms_spec (ws := wsX10_thumb) B.pre
  have hown : s.vm.findClass RX10 = some m.cls := findClass_of_methodNamed B.named
  have hlocks := B.notSynchronized
  subst hsz
  have hD := hD0.self (sz := s.heap.size)
  generalize hAe : va_A [(qt, .inr (9, [.ref qt_book, .ref qt_now, .ref qt_flakes, .ref qt_leaks, .int v_music, .ref qt_ranks, .int v_sights, .ref qt_sight, .int v_signs, .ref qt_pad, .int v_freeAt, .int v_freeWho, .int v_reason, .int v_acts, .ref qt_gets, .ref qt_counts, .ref qt_worth, .ref qt_ways, .ref qt_image, .ref qt_isKept])), (qt_book, .inl (cI, 43, .inl v_book)), (qt_now, .inl (cI, 43, .inl v_now)), (qt_worth, .inl (cI, 8, .inl v_worth))] s.heap.size = A at hD ⊢
  have hA : ∀ q : Nat, s.heap.size ≤ q → A q := fun q h => by rw [← hAe]; exact Or.inr h
  have hS : va_S A s.heap s.heap [] := va_S.rf
  have hl := lv_entry ([.ref qt, .int p1]) (n := 4) (Nat.le_of_ble_eq_true rfl)
  have hfr : entryFrame m args 4 = entryFrame m ([.ref qt, .int p1] : List Value).toArray 4 := by rw [hav]
  rw [hfr, lg_entry_eq]
  generalize (lg_sl ([.ref qt, .int p1]) ++ List.replicate (4 - (lg_sl ([.ref qt, .int p1])).length) Slot.unset).toArray = ls at hl ⊢
  have hl : lv_has ls 4 [(0, .ref qt), (1, .int p1)] := hl
  obtain ⟨QQ, hQQ⟩ : ∃ QQ, QQ = MQ below (QI D A r [(qt, .inr (9, [.ref qt_book, .ref qt_now, .ref qt_flakes, .ref qt_leaks, .int v_music, .ref qt_ranks, .int v_sights, .ref qt_sight, .int v_signs, .ref qt_pad, .int w_freeAt, .int w_freeWho, .int v_reason, .int v_acts, .ref qt_gets, .ref qt_counts, .ref qt_worth, .ref qt_ways, .ref qt_image, .ref qt_isKept])), (qt_book, .inl (cI, 43, .inl v_book)), (qt_now, .inl (cI, 43, .inl w_now)), (qt_worth, .inl (cI, 8, .inl w_worth))]) args s 0 0 A := ⟨_, rfl⟩
  show W p l e rm_X10_thumb s m args below meth c s.heap [] 0 0 _ _
  rw [← hQQ]
  have hL22 : ∀ (n22 : Nat), ∀ (v_now : (Nat → Int32)) (v_freeAt : Int32) (v_freeWho : Int32) (v_worth : (Nat → Int32)) (x2 : Int32) (x3 : Int32) (H : Heap) (locs : List Loc) (ls : Array Slot), va_P D vwCl [(qt, .inr (9, [.ref qt_book, .ref qt_now, .ref qt_flakes, .ref qt_leaks, .int v_music, .ref qt_ranks, .int v_sights, .ref qt_sight, .int v_signs, .ref qt_pad, .int v_freeAt, .int v_freeWho, .int v_reason, .int v_acts, .ref qt_gets, .ref qt_counts, .ref qt_worth, .ref qt_ways, .ref qt_image, .ref qt_isKept])), (qt_book, .inl (cI, 43, .inl v_book)), (qt_now, .inl (cI, 43, .inl v_now)), (qt_worth, .inl (cI, 8, .inl v_worth))] H → va_D A [(qt, .inr (9, [.ref qt_book, .ref qt_now, .ref qt_flakes, .ref qt_leaks, .int v_music, .ref qt_ranks, .int v_sights, .ref qt_sight, .int v_signs, .ref qt_pad, .int v_freeAt, .int v_freeWho, .int v_reason, .int v_acts, .ref qt_gets, .ref qt_counts, .ref qt_worth, .ref qt_ways, .ref qt_image, .ref qt_isKept])), (qt_book, .inl (cI, 43, .inl v_book)), (qt_now, .inl (cI, 43, .inl v_now)), (qt_worth, .inl (cI, 8, .inl v_worth))] → va_S A s.heap H locs → lv_has ls 4 [(0, .ref qt), (1, .int p1), (2, .int x2), (3, .int x3)] → L_X10_thumb_22 v_book p1 n22 v_now v_freeAt v_freeWho v_worth x2 x3 = some (r, w_now, w_freeAt, w_freeWho, w_worth) → W p l e rm_X10_thumb s m args below meth c H locs 0 0 QQ (F0 m 22 ls []) := by
    intro n22
    induction n22 with
    | zero =>
      intro v_now v_freeAt v_freeWho v_worth x2 x3 H locs ls hP hD hS hl h
      have h : none = some (r, w_now, w_freeAt, w_freeWho, w_worth) := h
      cases h
    | succ n22 ih22 =>
      intro v_now v_freeAt v_freeWho v_worth x2 x3 H locs ls hP hD hS hl h
      rw [L_X10_thumb_22.eq_2] at h
      refine lv_iload_n hx hb dX10_thumb_22 rfl (lv_at hl 3 rfl) ?_
      refine lv_if_lt (tgt := 54) hx hb dX10_thumb_23 (by decide) (fun hc => ?_) (fun hc => ?_)
      · have h := if_t hc h
        refine lv_iload_n hx hb dX10_thumb_54 rfl (lv_at hl 1 rfl) ?_
        refine lv_iconst (v := 1) hx hb dX10_thumb_55 (by decide) ?_
        refine lv_icmp_ne (tgt := 63) hx hb dX10_thumb_56 (by decide) (fun hc => ?_) (fun hc => ?_)
        · have h := if_f hc h
          refine lv_iload_n hx hb dX10_thumb_63 rfl (lv_at hl 2 rfl) ?_
          refine lv_if_ge (tgt := 71) hx hb dX10_thumb_64 (by decide) (fun hc => ?_) (fun hc => ?_)
          · have h := if_t hc h
            refine lv_iconst (v := 1) hx hb dX10_thumb_71 (by decide) ?_
            cases h
            rw [hQQ]
            exact gw_iret hx hb hr hlocks hP hD hS dX10_thumb_72
          · have h := if_f hc h
            refine lv_iconst (v := 0) hx hb dX10_thumb_67 (by decide) ?_
            refine lv_goto (tgt := 72) hx hb dX10_thumb_68 (by decide) ?_
            cases h
            rw [hQQ]
            exact gw_iret hx hb hr hlocks hP hD hS dX10_thumb_72
        · have h := if_t hc h
          refine lv_iload_n hx hb dX10_thumb_59 rfl (lv_at hl 2 rfl) ?_
          refine lv_goto (tgt := 72) hx hb dX10_thumb_60 (by decide) ?_
          cases h
          rw [hQQ]
          exact gw_iret hx hb hr hlocks hP hD hS dX10_thumb_72
      · have h := if_f hc h
        refine lv_aload_n hx hb dX10_thumb_26 rfl (lv_at hl 0 rfl) ?_
        refine lv_iload_n hx hb dX10_thumb_27 rfl (lv_at hl 3 rfl) ?_
        obtain ⟨r28, hc28, h⟩ := bd1_some h
        refine gw_ci (wr := [(qt_now, .inl (cI, 43, .inl v_now)), (qt_worth, .inl (cI, 8, .inl v_worth))]) (w2 := [(qt_now, .inl (cI, 43, .inl v_now)), (qt_worth, .inl (cI, 8, .inl v_worth)), (qt, .inr (9, [.ref qt_book, .ref qt_now, .ref qt_flakes, .ref qt_leaks, .int v_music, .ref qt_ranks, .int v_sights, .ref qt_sight, .int v_signs, .ref qt_pad, .int v_freeAt, .int v_freeWho, .int v_reason, .int v_acts, .ref qt_gets, .ref qt_counts, .ref qt_worth, .ref qt_ways, .ref qt_image, .ref qt_isKept])), (qt_book, .inl (cI, 43, .inl v_book))]) (gw_rV (n := 1) ⟨hx, hb, hml, hown, hts⟩ (C_X10_isThere l D cI cJ cZ H.size qt qt_book qt_now qt_flakes qt_leaks qt_ranks qt_sight qt_pad qt_gets qt_counts qt_worth qt_ways qt_image qt_isKept v_book v_music v_sights v_signs v_freeAt v_freeWho v_reason v_acts x3 r28 hc28) gX10_thumb_X10_isThere rfl rfl rfl hdV_X10_isThere ⟨Nat.le_of_ble_eq_true rfl, Nat.le_of_ble_eq_true rfl⟩ hE (hP.sub [0, 1] rfl) (hD.sub [0, 1] (by decide) rfl) 9 rfl 0 rfl rfl hl.1 (rest := []) rfl (Nat.le_of_ble_eq_true rfl) dX10_thumb_28 ⟨Nat.zero_le _, Nat.zero_le _⟩) hP hD hS hA [0, 1] [2, 3] rfl rfl rfl (by decide) rfl (fun H locs hP hD hS => ?_)
        refine lv_if_eq (tgt := 46) hx hb dX10_thumb_31 (by decide) (fun hc => ?_) (fun hc => ?_)
        · have h := if_t hc h
          refine lv_iload_n hx hb dX10_thumb_46 rfl (lv_at hl 2 rfl) ?_
          refine lv_istore_n (lv' := [(2, .int x2), (0, .ref qt), (1, .int p1), (3, .int x3)]) hx hb dX10_thumb_47 rfl hl (by decide) rfl (fun ls hl => ?_)
          refine lv_iinc (v := (x3 + (-1 : Int32))) (lv' := [(3, .int (x3 + (-1 : Int32))), (2, .int x2), (0, .ref qt), (1, .int p1)]) hx hb dX10_thumb_48 hl (k := 3) rfl rfl (by decide) rfl (fun ls hl => ?_)
          refine lv_goto (tgt := 22) hx hb dX10_thumb_51 (by decide) ?_
          exact ih22 v_now v_freeAt v_freeWho v_worth x2 (x3 + (-1 : Int32)) H locs ls (hP.sub [2, 3, 0, 1] rfl) (hD.sub [2, 3, 0, 1] (by decide) rfl) hS (lv_sub hl [2, 3, 1, 0] rfl) h
        · have h := if_f hc h
          refine lv_aload_n hx hb dX10_thumb_34 rfl (lv_at hl 0 rfl) ?_
          refine lv_iload_n hx hb dX10_thumb_35 rfl (lv_at hl 3 rfl) ?_
          obtain ⟨r36, u36v_worth, hc36, h⟩ := bd2_some h
          refine gw_ci (wr := []) (w2 := [(qt, .inr (9, [.ref qt_book, .ref qt_now, .ref qt_flakes, .ref qt_leaks, .int v_music, .ref qt_ranks, .int v_sights, .ref qt_sight, .int v_signs, .ref qt_pad, .int v_freeAt, .int v_freeWho, .int v_reason, .int v_acts, .ref qt_gets, .ref qt_counts, .ref qt_worth, .ref qt_ways, .ref qt_image, .ref qt_isKept])), (qt_book, .inl (cI, 43, .inl v_book)), (qt_now, .inl (cI, 43, .inl v_now)), (qt_worth, .inl (cI, 8, .inl u36v_worth))]) (gw_rV (n := 1) ⟨hx, hb, hml, hown, hts⟩ (C_X10_worthBut l D cI cJ cZ H.size qt qt_book qt_now qt_flakes qt_leaks qt_ranks qt_sight qt_pad qt_gets qt_counts qt_worth qt_ways qt_image qt_isKept v_book v_now v_music v_sights v_signs v_freeAt v_freeWho v_reason v_acts v_worth x3 r36 u36v_worth hc36) gX10_thumb_X10_worthBut rfl rfl rfl hdV_X10_worthBut ⟨Nat.le_of_ble_eq_true rfl, Nat.le_of_ble_eq_true rfl⟩ hE (hP.sub [2, 3, 0, 1] rfl) (hD.sub [2, 3, 0, 1] (by decide) rfl) 9 rfl 0 rfl rfl hl.1 (rest := []) rfl (Nat.le_of_ble_eq_true rfl) dX10_thumb_36 ⟨Nat.zero_le _, Nat.zero_le _⟩) hP hD hS hA [2, 3, 0, 1] [] rfl rfl rfl (by decide) rfl (fun H locs hP hD hS => ?_)
          refine lv_if_ne (tgt := 46) hx hb dX10_thumb_39 (by decide) (fun hc => ?_) (fun hc => ?_)
          · have h := if_f hc h
            refine lv_iload_n hx hb dX10_thumb_46 rfl (lv_at hl 2 rfl) ?_
            refine lv_istore_n (lv' := [(2, .int x2), (0, .ref qt), (1, .int p1), (3, .int x3)]) hx hb dX10_thumb_47 rfl hl (by decide) rfl (fun ls hl => ?_)
            refine lv_iinc (v := (x3 + (-1 : Int32))) (lv' := [(3, .int (x3 + (-1 : Int32))), (2, .int x2), (0, .ref qt), (1, .int p1)]) hx hb dX10_thumb_48 hl (k := 3) rfl rfl (by decide) rfl (fun ls hl => ?_)
            refine lv_goto (tgt := 22) hx hb dX10_thumb_51 (by decide) ?_
            exact ih22 v_now v_freeAt v_freeWho u36v_worth x2 (x3 + (-1 : Int32)) H locs ls hP hD hS (lv_sub hl [2, 3, 1, 0] rfl) h
          · have h := if_t hc h
            refine lv_iload_n hx hb dX10_thumb_42 rfl (lv_at hl 3 rfl) ?_
            refine lv_goto (tgt := 47) hx hb dX10_thumb_43 (by decide) ?_
            refine lv_istore_n (lv' := [(2, .int x3), (0, .ref qt), (1, .int p1), (3, .int x3)]) hx hb dX10_thumb_47 rfl hl (by decide) rfl (fun ls hl => ?_)
            refine lv_iinc (v := (x3 + (-1 : Int32))) (lv' := [(3, .int (x3 + (-1 : Int32))), (2, .int x3), (0, .ref qt), (1, .int p1)]) hx hb dX10_thumb_48 hl (k := 3) rfl rfl (by decide) rfl (fun ls hl => ?_)
            refine lv_goto (tgt := 22) hx hb dX10_thumb_51 (by decide) ?_
            exact ih22 v_now v_freeAt v_freeWho u36v_worth x3 (x3 + (-1 : Int32)) H locs ls hP hD hS (lv_sub hl [2, 3, 1, 0] rfl) h
  have h := hf
  unfold f_X10_thumb at h
  refine gw_start hP hD hS (fun H locs hP hD hS => ?_)
  refine lv_iload_n hx hb dX10_thumb_0 rfl (lv_at hl 1 rfl) ?_
  refine lv_iconst (v := 0) hx hb dX10_thumb_1 (by decide) ?_
  refine lv_iconst (v := 1) hx hb dX10_thumb_2 (by decide) ?_
  obtain ⟨r3, hc3, h⟩ := bd1_some h
  refine gw_ci (wr := [(qt, .inr (9, [.ref qt_book, .ref qt_now, .ref qt_flakes, .ref qt_leaks, .int v_music, .ref qt_ranks, .int v_sights, .ref qt_sight, .int v_signs, .ref qt_pad, .int v_freeAt, .int v_freeWho, .int v_reason, .int v_acts, .ref qt_gets, .ref qt_counts, .ref qt_worth, .ref qt_ways, .ref qt_image, .ref qt_isKept])), (qt_book, .inl (cI, 43, .inl v_book)), (qt_now, .inl (cI, 43, .inl v_now)), (qt_worth, .inl (cI, 8, .inl v_worth))]) (w2 := [(qt, .inr (9, [.ref qt_book, .ref qt_now, .ref qt_flakes, .ref qt_leaks, .int v_music, .ref qt_ranks, .int v_sights, .ref qt_sight, .int v_signs, .ref qt_pad, .int v_freeAt, .int v_freeWho, .int v_reason, .int v_acts, .ref qt_gets, .ref qt_counts, .ref qt_worth, .ref qt_ways, .ref qt_image, .ref qt_isKept])), (qt_book, .inl (cI, 43, .inl v_book)), (qt_now, .inl (cI, 43, .inl v_now)), (qt_worth, .inl (cI, 8, .inl v_worth))]) (gw_rS (n := 3) ⟨hx, hb, hml, hown, hts⟩ (C_X10_in l D cI cJ cZ H.size p1 (0 : Int32) (1 : Int32) r3 hc3) gX10_thumb_X10_in rfl rfl rfl hdS_X10_in ⟨Nat.le_of_ble_eq_true rfl, Nat.le_of_ble_eq_true rfl⟩ hE (hP.sub [] rfl) (hD.sub [] (by decide) rfl) rfl hl.1 (rest := []) rfl (Nat.le_of_ble_eq_true rfl) dX10_thumb_3 ⟨Nat.zero_le _, Nat.zero_le _⟩) hP hD hS hA [] [0, 1, 2, 3] rfl rfl rfl (by decide) rfl (fun H locs hP hD hS => ?_)
  refine lv_if_ne (tgt := 12) hx hb dX10_thumb_6 (by decide) (fun hc => ?_) (fun hc => ?_)
  · have h := if_f hc h
    refine lv_aload_n hx hb dX10_thumb_12 rfl (lv_at hl 0 rfl) ?_
    obtain ⟨u13v_now, u13v_freeAt, u13v_freeWho, hc13, h⟩ := bd3_some h
    refine gw_cv (wr := [(qt_worth, .inl (cI, 8, .inl v_worth))]) (w2 := [(qt_worth, .inl (cI, 8, .inl v_worth)), (qt, .inr (9, [.ref qt_book, .ref qt_now, .ref qt_flakes, .ref qt_leaks, .int v_music, .ref qt_ranks, .int v_sights, .ref qt_sight, .int v_signs, .ref qt_pad, .int u13v_freeAt, .int u13v_freeWho, .int v_reason, .int v_acts, .ref qt_gets, .ref qt_counts, .ref qt_worth, .ref qt_ways, .ref qt_image, .ref qt_isKept])), (qt_book, .inl (cI, 43, .inl v_book)), (qt_now, .inl (cI, 43, .inl u13v_now))]) (gw_rV (n := 0) ⟨hx, hb, hml, hown, hts⟩ (C_X10_asNow l D cI cJ cZ H.size qt qt_book qt_now qt_flakes qt_leaks qt_ranks qt_sight qt_pad qt_gets qt_counts qt_worth qt_ways qt_image qt_isKept v_book v_now v_music v_sights v_signs v_freeAt v_freeWho v_reason v_acts u13v_now u13v_freeAt u13v_freeWho hc13) gX10_thumb_X10_asNow rfl rfl rfl hdV_X10_asNow ⟨Nat.le_of_ble_eq_true rfl, Nat.le_of_ble_eq_true rfl⟩ hE (hP.sub [0, 1, 2] rfl) (hD.sub [0, 1, 2] (by decide) rfl) 9 rfl 0 rfl rfl hl.1 (rest := []) rfl (Nat.le_of_ble_eq_true rfl) dX10_thumb_13 ⟨Nat.zero_le _, Nat.zero_le _⟩) hP hD hS hA [0, 1, 2] [3] rfl rfl rfl (by decide) rfl (fun H locs hP hD hS => ?_)
    refine lv_bipush (v := -6) hx hb dX10_thumb_16 (by decide) ?_
    refine lv_istore_n (lv' := [(2, .int (-6 : Int32)), (0, .ref qt), (1, .int p1)]) hx hb dX10_thumb_18 rfl hl (by decide) rfl (fun ls hl => ?_)
    refine lv_bipush (v := 7) hx hb dX10_thumb_19 (by decide) ?_
    refine lv_istore_n (lv' := [(3, .int (7 : Int32)), (2, .int (-6 : Int32)), (0, .ref qt), (1, .int p1)]) hx hb dX10_thumb_21 rfl hl (by decide) rfl (fun ls hl => ?_)
    exact hL22 FU u13v_now u13v_freeAt u13v_freeWho v_worth (-6 : Int32) (7 : Int32) H locs ls (hP.sub [1, 2, 3, 0] rfl) (hD.sub [1, 2, 3, 0] (by decide) rfl) hS (lv_sub hl [2, 3, 1, 0] rfl) h
  · have h := if_t hc h
    refine lv_bipush (v := -2) hx hb dX10_thumb_9 (by decide) ?_
    cases h
    rw [hQQ]
    exact gw_iret hx hb hr hlocks hP hD hS dX10_thumb_11
theorem hdV_X10_thumb : yX10_thumb.cls = RX10 ∧ yX10_thumb.cls ≠ "java/lang/invoke/MethodHandle" ∧ yX10_thumb.cls ≠ "java/lang/invoke/VarHandle" ∧ (parseMethodDescriptor yX10_thumb.desc).map (fun d => d.parameters.length) = some 1 := by decide +kernel
def L_X10_power_5 (p0 : Int64) (p2 : Int32) : Nat → Int64 → Int32 → Option (Int64)
  | 0, _, _ => none
  | n + 1, x3, x5 => (if p2 ≤ x5 then (some x3) else ((L_X10_power_5 p0 p2 n) (x3 * p0) (x5 + (1 : Int32))))
def f_X10_power (p0 : Int64) (p2 : Int32) : Option (Int64) := (L_X10_power_5 p0 p2 FU (1 : Int64) (0 : Int32))
abbrev rm_X10_power : Room := { frames := 0, cells := 0, slots := 0, locals := 0 }
set_option maxHeartbeats 4000000 in
set_option maxRecDepth 100000 in
theorem C_X10_power (l : Launch) (D : va_G) (cI cJ cZ : ClassId) (sz : Nat) (p0 : Int64) (p2 : Int32) (r : Int64) (hf : f_X10_power p0 p2 = some r) : Met l yX10_power wsX10_power rm_X10_power (PR D cI cJ cZ [] sz [.long p0, .int p2]) (QL D (va_A [] sz) r []) 0 0 (va_A [] sz) := by
  refine Met.ofW (cc := cX10_power) (maxL := 6) (ret := (some .long)) (by decide) rfl ?_
  intro p e s m args below meth c s₁ B hml hv
  obtain ⟨hav, hsz, hP, hD0, hE⟩ := hv
  have hx := B.exec
  have hb := B.bytes
  have hr := B.returns
  have hts := atoms_spec (ws := wsX10_power) B.pre
  have hown : s.vm.findClass RX10 = some m.cls := findClass_of_methodNamed B.named
  have hlocks := B.notSynchronized
  subst hsz
  have hD := hD0.self (sz := s.heap.size)
  generalize hAe : va_A [] s.heap.size = A at hD ⊢
  have hA : ∀ q : Nat, s.heap.size ≤ q → A q := fun q h => by rw [← hAe]; exact Or.inr h
  have hS : va_S A s.heap s.heap [] := va_S.rf
  have hl := lv_entry ([.long p0, .int p2]) (n := 6) (Nat.le_of_ble_eq_true rfl)
  have hfr : entryFrame m args 6 = entryFrame m ([.long p0, .int p2] : List Value).toArray 6 := by rw [hav]
  rw [hfr, lg_entry_eq]
  generalize (lg_sl ([.long p0, .int p2]) ++ List.replicate (6 - (lg_sl ([.long p0, .int p2])).length) Slot.unset).toArray = ls at hl ⊢
  have hl : lv_has ls 6 [(0, .long p0), (2, .int p2)] := hl
  obtain ⟨QQ, hQQ⟩ : ∃ QQ, QQ = MQ below (QL D A r []) args s 0 0 A := ⟨_, rfl⟩
  show W p l e rm_X10_power s m args below meth c s.heap [] 0 0 _ _
  rw [← hQQ]
  have hL5 : ∀ (n5 : Nat), ∀ (x3 : Int64) (x5 : Int32) (H : Heap) (locs : List Loc) (ls : Array Slot), va_P D vwCl [] H → va_D A [] → va_S A s.heap H locs → lv_has ls 6 [(0, .long p0), (2, .int p2), (3, .long x3), (5, .int x5)] → L_X10_power_5 p0 p2 n5 x3 x5 = some r → W p l e rm_X10_power s m args below meth c H locs 0 0 QQ (F0 m 5 ls []) := by
    intro n5
    induction n5 with
    | zero =>
      intro x3 x5 H locs ls hP hD hS hl h
      have h : none = some r := h
      cases h
    | succ n5 ih5 =>
      intro x3 x5 H locs ls hP hD hS hl h
      rw [L_X10_power_5.eq_2] at h
      refine lv_iload hx hb dX10_power_5 (lv_at hl 3 rfl) ?_
      refine lv_iload_n hx hb dX10_power_7 rfl (lv_at hl 1 rfl) ?_
      refine lv_icmp_ge (tgt := 21) hx hb dX10_power_8 (by decide) (fun hc => ?_) (fun hc => ?_)
      · have h := if_t hc h
        refine lv_lload_n hx hb dX10_power_21 rfl (lv_at hl 2 rfl) ?_
        cases h
        rw [hQQ]
        exact gw_lret hx hb hr hlocks hP hD hS dX10_power_22
      · have h := if_f hc h
        refine lv_lload_n hx hb dX10_power_11 rfl (lv_at hl 2 rfl) ?_
        refine lv_lload_n hx hb dX10_power_12 rfl (lv_at hl 0 rfl) ?_
        refine lv_lmul hx hb dX10_power_13 ?_
        refine lv_lstore_n (lv' := [(3, .long (x3 * p0)), (0, .long p0), (2, .int p2), (5, .int x5)]) hx hb dX10_power_14 rfl hl (by decide) rfl (fun ls hl => ?_)
        refine lv_iinc (v := (x5 + (1 : Int32))) (lv' := [(5, .int (x5 + (1 : Int32))), (3, .long (x3 * p0)), (0, .long p0), (2, .int p2)]) hx hb dX10_power_15 hl (k := 3) rfl rfl (by decide) rfl (fun ls hl => ?_)
        refine lv_goto (tgt := 5) hx hb dX10_power_18 (by decide) ?_
        exact ih5 (x3 * p0) (x5 + (1 : Int32)) H locs ls hP hD hS (lv_sub hl [2, 3, 1, 0] rfl) h
  have h := hf
  unfold f_X10_power at h
  refine gw_start hP hD hS (fun H locs hP hD hS => ?_)
  refine lv_lconst (v := 1) hx hb dX10_power_0 (by decide) ?_
  refine lv_lstore_n (lv' := [(3, .long (1 : Int64)), (0, .long p0), (2, .int p2)]) hx hb dX10_power_1 rfl hl (by decide) rfl (fun ls hl => ?_)
  refine lv_iconst (v := 0) hx hb dX10_power_2 (by decide) ?_
  refine lv_istore (lv' := [(5, .int (0 : Int32)), (3, .long (1 : Int64)), (0, .long p0), (2, .int p2)]) hx hb dX10_power_3 hl (by decide) rfl (fun ls hl => ?_)
  exact hL5 FU (1 : Int64) (0 : Int32) H locs ls hP hD hS (lv_sub hl [2, 3, 1, 0] rfl) h
theorem hdS_X10_power : yX10_power.cls ≠ "java/lang/invoke/MethodHandle" ∧ yX10_power.cls ≠ "java/lang/invoke/VarHandle" ∧ (parseMethodDescriptor yX10_power.desc).map (fun d => d.parameters.length) = some 2 := by decide +kernel
def L_X10_count_243 (p1 : Int32) (p2 : Int32) (p3 : Int32) (p4 : Int32) (p5 : Int32) : Nat → (Nat → Int64) → Int64 → Int64 → Int64 → Int64 → Option (Int64 × (Nat → Int64))
  | 0, _, _, _, _, _ => none
  | n + 1, v_ways, x6, x8, x10, x12 => (if (lg_cmp x12 (0 : Int64)) = (0 : Int32) then (if p5 = (0 : Int32) then (gneL x10 (some ((x6 / x10), v_ways))) else (gneL x10 (some ((x8 / x10), v_ways)))) else (gneL x12 ((L_X10_count_243 p1 p2 p3 p4 p5 n) v_ways x6 x8 x12 (jremL x10 x12))))
def L_X10_count_210 (p1 : Int32) (p2 : Int32) (p3 : Int32) (p4 : Int32) (p5 : Int32) : Nat → (Nat → Int64) → Int64 → Int64 → Int32 → Option (Int64 × (Nat → Int64))
  | 0, _, _, _, _ => none
  | n + 1, v_ways, x6, x8, x10 => (if (19 : Int32) ≤ x10 then (L_X10_count_243 p1 p2 p3 p4 p5 FU v_ways x6 x8 x6 x8) else (gin x10 19 ((L_X10_count_210 p1 p2 p3 p4 p5 n) v_ways (x6 + (v_ways (Int32.toNatClampNeg x10))) x8 (x10 + (1 : Int32)))))
def B_X10_count_190 (p1 : Int32) (p2 : Int32) (p3 : Int32) (p4 : Int32) (p5 : Int32) (rec135 : (Nat → Int64) → Int64 → Int32 → Option (Int64 × (Nat → Int64))) (rec145 : (Nat → Int64) → Int64 → Int32 → Int32 → Option (Int64 × (Nat → Int64))) (v_ways : (Nat → Int64)) (x8 : Int64) (x10 : Int32) (x11 : Int32) (s0 : Int64) (s1 : Int64) (s2 : Int32) : Option (Int64 × (Nat → Int64)) := (gin s2 19 (rec145 (vp_updL v_ways (Int32.toNatClampNeg s2) (s1 + s0)) x8 x10 (x11 + (-1 : Int32))))
def L_X10_count_145 (p1 : Int32) (p2 : Int32) (p3 : Int32) (p4 : Int32) (p5 : Int32) (rec135 : (Nat → Int64) → Int64 → Int32 → Option (Int64 × (Nat → Int64))) : Nat → (Nat → Int64) → Int64 → Int32 → Int32 → Option (Int64 × (Nat → Int64))
  | 0, _, _, _, _ => none
  | n + 1, v_ways, x8, x10, x11 => (if x11 < (0 : Int32) then (rec135 v_ways x8 (x10 + (1 : Int32))) else (gin x11 19 (if x11 ≤ (0 : Int32) then (B_X10_count_190 p1 p2 p3 p4 p5 rec135 (L_X10_count_145 p1 p2 p3 p4 p5 rec135 n) v_ways x8 x10 x11 (0 : Int64) ((v_ways (Int32.toNatClampNeg x11)) * (Int32.toInt64 ((10 : Int32) - p2))) x11) else (gin (x11 - (1 : Int32)) 19 (B_X10_count_190 p1 p2 p3 p4 p5 rec135 (L_X10_count_145 p1 p2 p3 p4 p5 rec135 n) v_ways x8 x10 x11 ((v_ways (Int32.toNatClampNeg (x11 - (1 : Int32)))) * (Int32.toInt64 p2)) ((v_ways (Int32.toNatClampNeg x11)) * (Int32.toInt64 ((10 : Int32) - p2))) x11)))))
def L_X10_count_135 (p1 : Int32) (p2 : Int32) (p3 : Int32) (p4 : Int32) (p5 : Int32) : Nat → (Nat → Int64) → Int64 → Int32 → Option (Int64 × (Nat → Int64))
  | 0, _, _, _ => none
  | n + 1, v_ways, x8, x10 => (if p1 ≤ x10 then (L_X10_count_210 p1 p2 p3 p4 p5 FU v_ways (0 : Int64) x8 p3) else (L_X10_count_145 p1 p2 p3 p4 p5 (L_X10_count_135 p1 p2 p3 p4 p5 n) FU v_ways x8 x10 (18 : Int32)))
def B_X10_count_125 (p1 : Int32) (p2 : Int32) (p3 : Int32) (p4 : Int32) (p5 : Int32) (rec102 : (Nat → Int64) → Int64 → Int32 → Option (Int64 × (Nat → Int64))) (v_ways : (Nat → Int64)) (x8 : Int64) (x10 : Int32) (s0 : Int64) (s1 : Int32) : Option (Int64 × (Nat → Int64)) := (gin s1 19 (rec102 (vp_updL v_ways (Int32.toNatClampNeg s1) s0) x8 (x10 + (1 : Int32))))
def L_X10_count_102 (p1 : Int32) (p2 : Int32) (p3 : Int32) (p4 : Int32) (p5 : Int32) : Nat → (Nat → Int64) → Int64 → Int32 → Option (Int64 × (Nat → Int64))
  | 0, _, _, _ => none
  | n + 1, v_ways, x8, x10 => (if (19 : Int32) ≤ x10 then (L_X10_count_135 p1 p2 p3 p4 p5 FU v_ways x8 (0 : Int32)) else (if x10 = (0 : Int32) then (B_X10_count_125 p1 p2 p3 p4 p5 (L_X10_count_102 p1 p2 p3 p4 p5 n) v_ways x8 x10 (1 : Int64) x10) else (B_X10_count_125 p1 p2 p3 p4 p5 (L_X10_count_102 p1 p2 p3 p4 p5 n) v_ways x8 x10 (0 : Int64) x10)))
def B_X10_count_89 (p1 : Int32) (p2 : Int32) (p3 : Int32) (p4 : Int32) (p5 : Int32) (v_ways : (Nat → Int64)) (x6 : Int64) (s0 : Int32) (s1 : Int64) : Option (Int64 × (Nat → Int64)) := (bd1 (f_X10_power s1 s0) (fun r89 => (if p4 = (0 : Int32) then (L_X10_count_102 p1 p2 p3 p4 p5 FU v_ways r89 (0 : Int32)) else (L_X10_count_243 p1 p2 p3 p4 p5 FU v_ways x6 r89 x6 r89))))
def B_X10_count_24 (p1 : Int32) (p2 : Int32) (p3 : Int32) (p4 : Int32) (p5 : Int32) (v_ways : (Nat → Int64)) (s0 : Int32) (s1 : Int32) (s2 : Int32) : Option (Int64 × (Nat → Int64)) := (bd1 (f_X10_in s2 s1 s0) (fun r24 => (if r24 = (0 : Int32) then (some ((-1000000000000000002 : Int64), v_ways)) else (bd1 (f_X10_in p2 (0 : Int32) (10 : Int32)) (fun r34 => (if r34 = (0 : Int32) then (some ((-1000000000000000002 : Int64), v_ways)) else (bd1 (f_X10_in p3 (0 : Int32) (17 : Int32)) (fun r44 => (if r44 = (0 : Int32) then (some ((-1000000000000000002 : Int64), v_ways)) else (bd1 (f_X10_in p5 (0 : Int32) (1 : Int32)) (fun r54 => (if r54 = (0 : Int32) then (some ((-1000000000000000002 : Int64), v_ways)) else (bd1 (f_X10_power (Int32.toInt64 p2) ((2 : Int32) * p1)) (fun r69 => (if p4 = (0 : Int32) then (B_X10_count_89 p1 p2 p3 p4 p5 v_ways r69 p1 (10 : Int64)) else (B_X10_count_89 p1 p2 p3 p4 p5 v_ways r69 ((2 : Int32) * p1) (10 : Int64)))))))))))))))))
def f_X10_count (v_ways : (Nat → Int64)) (p1 : Int32) (p2 : Int32) (p3 : Int32) (p4 : Int32) (p5 : Int32) : Option (Int64 × (Nat → Int64)) := (bd1 (f_X10_in p4 (0 : Int32) (1 : Int32)) (fun r4 => (if r4 = (0 : Int32) then (some ((-1000000000000000002 : Int64), v_ways)) else (if p4 = (0 : Int32) then (B_X10_count_24 p1 p2 p3 p4 p5 v_ways (17 : Int32) (0 : Int32) p1) else (B_X10_count_24 p1 p2 p3 p4 p5 v_ways (8 : Int32) (0 : Int32) p1)))))
abbrev rm_X10_count : Room := { frames := 1, cells := 0, slots := 0, locals := 25 }
set_option maxHeartbeats 4000000 in
set_option maxRecDepth 100000 in
theorem C_X10_count (l : Launch) (D : va_G) (cI cJ cZ : ClassId) (sz : Nat) (qt qt_book qt_now qt_flakes qt_leaks qt_ranks qt_sight qt_pad qt_gets qt_counts qt_worth qt_ways qt_image qt_isKept : Nat) (v_music : Int32) (v_sights : Int32) (v_signs : Int32) (v_freeAt : Int32) (v_freeWho : Int32) (v_reason : Int32) (v_acts : Int32) (v_ways : (Nat → Int64)) (p1 : Int32) (p2 : Int32) (p3 : Int32) (p4 : Int32) (p5 : Int32) (r : Int64) (w_ways : (Nat → Int64)) (hf : f_X10_count v_ways p1 p2 p3 p4 p5 = some (r, w_ways)) : Met l yX10_count wsX10_count rm_X10_count (PR D cI cJ cZ [(qt, .inr (9, [.ref qt_book, .ref qt_now, .ref qt_flakes, .ref qt_leaks, .int v_music, .ref qt_ranks, .int v_sights, .ref qt_sight, .int v_signs, .ref qt_pad, .int v_freeAt, .int v_freeWho, .int v_reason, .int v_acts, .ref qt_gets, .ref qt_counts, .ref qt_worth, .ref qt_ways, .ref qt_image, .ref qt_isKept])), (qt_ways, .inl (cJ, 19, .inr (.inl v_ways)))] sz [.ref qt, .int p1, .int p2, .int p3, .int p4, .int p5]) (QL D (va_A [(qt, .inr (9, [.ref qt_book, .ref qt_now, .ref qt_flakes, .ref qt_leaks, .int v_music, .ref qt_ranks, .int v_sights, .ref qt_sight, .int v_signs, .ref qt_pad, .int v_freeAt, .int v_freeWho, .int v_reason, .int v_acts, .ref qt_gets, .ref qt_counts, .ref qt_worth, .ref qt_ways, .ref qt_image, .ref qt_isKept])), (qt_ways, .inl (cJ, 19, .inr (.inl v_ways)))] sz) r [(qt, .inr (9, [.ref qt_book, .ref qt_now, .ref qt_flakes, .ref qt_leaks, .int v_music, .ref qt_ranks, .int v_sights, .ref qt_sight, .int v_signs, .ref qt_pad, .int v_freeAt, .int v_freeWho, .int v_reason, .int v_acts, .ref qt_gets, .ref qt_counts, .ref qt_worth, .ref qt_ways, .ref qt_image, .ref qt_isKept])), (qt_ways, .inl (cJ, 19, .inr (.inl w_ways)))]) 0 0 (va_A [(qt, .inr (9, [.ref qt_book, .ref qt_now, .ref qt_flakes, .ref qt_leaks, .int v_music, .ref qt_ranks, .int v_sights, .ref qt_sight, .int v_signs, .ref qt_pad, .int v_freeAt, .int v_freeWho, .int v_reason, .int v_acts, .ref qt_gets, .ref qt_counts, .ref qt_worth, .ref qt_ways, .ref qt_image, .ref qt_isKept])), (qt_ways, .inl (cJ, 19, .inr (.inl v_ways)))] sz) := by
  refine Met.ofW (cc := cX10_count) (maxL := 16) (ret := (some .long)) (by decide) rfl ?_
  intro p e s m args below meth c s₁ B hml hv
  obtain ⟨hav, hsz, hP, hD0, hE⟩ := hv
  have hx := B.exec
  have hb := B.bytes
  have hr := B.returns
  have hts := atoms_spec (ws := wsX10_count) B.pre
  have hown : s.vm.findClass RX10 = some m.cls := findClass_of_methodNamed B.named
  have hlocks := B.notSynchronized
  subst hsz
  have hD := hD0.self (sz := s.heap.size)
  generalize hAe : va_A [(qt, .inr (9, [.ref qt_book, .ref qt_now, .ref qt_flakes, .ref qt_leaks, .int v_music, .ref qt_ranks, .int v_sights, .ref qt_sight, .int v_signs, .ref qt_pad, .int v_freeAt, .int v_freeWho, .int v_reason, .int v_acts, .ref qt_gets, .ref qt_counts, .ref qt_worth, .ref qt_ways, .ref qt_image, .ref qt_isKept])), (qt_ways, .inl (cJ, 19, .inr (.inl v_ways)))] s.heap.size = A at hD ⊢
  have hA : ∀ q : Nat, s.heap.size ≤ q → A q := fun q h => by rw [← hAe]; exact Or.inr h
  have hS : va_S A s.heap s.heap [] := va_S.rf
  have hl := lv_entry ([.ref qt, .int p1, .int p2, .int p3, .int p4, .int p5]) (n := 16) (Nat.le_of_ble_eq_true rfl)
  have hfr : entryFrame m args 16 = entryFrame m ([.ref qt, .int p1, .int p2, .int p3, .int p4, .int p5] : List Value).toArray 16 := by rw [hav]
  rw [hfr, lg_entry_eq]
  generalize (lg_sl ([.ref qt, .int p1, .int p2, .int p3, .int p4, .int p5]) ++ List.replicate (16 - (lg_sl ([.ref qt, .int p1, .int p2, .int p3, .int p4, .int p5])).length) Slot.unset).toArray = ls at hl ⊢
  have hl : lv_has ls 16 [(0, .ref qt), (1, .int p1), (2, .int p2), (3, .int p3), (4, .int p4), (5, .int p5)] := hl
  obtain ⟨QQ, hQQ⟩ : ∃ QQ, QQ = MQ below (QL D A r [(qt, .inr (9, [.ref qt_book, .ref qt_now, .ref qt_flakes, .ref qt_leaks, .int v_music, .ref qt_ranks, .int v_sights, .ref qt_sight, .int v_signs, .ref qt_pad, .int v_freeAt, .int v_freeWho, .int v_reason, .int v_acts, .ref qt_gets, .ref qt_counts, .ref qt_worth, .ref qt_ways, .ref qt_image, .ref qt_isKept])), (qt_ways, .inl (cJ, 19, .inr (.inl w_ways)))]) args s 0 0 A := ⟨_, rfl⟩
  show W p l e rm_X10_count s m args below meth c s.heap [] 0 0 _ _
  rw [← hQQ]
  have hL243 : ∀ (n243 : Nat), ∀ (v_ways : (Nat → Int64)) (x6 : Int64) (x8 : Int64) (x10 : Int64) (x12 : Int64) (H : Heap) (locs : List Loc) (ls : Array Slot), va_P D vwCl [(qt, .inr (9, [.ref qt_book, .ref qt_now, .ref qt_flakes, .ref qt_leaks, .int v_music, .ref qt_ranks, .int v_sights, .ref qt_sight, .int v_signs, .ref qt_pad, .int v_freeAt, .int v_freeWho, .int v_reason, .int v_acts, .ref qt_gets, .ref qt_counts, .ref qt_worth, .ref qt_ways, .ref qt_image, .ref qt_isKept])), (qt_ways, .inl (cJ, 19, .inr (.inl v_ways)))] H → va_D A [(qt, .inr (9, [.ref qt_book, .ref qt_now, .ref qt_flakes, .ref qt_leaks, .int v_music, .ref qt_ranks, .int v_sights, .ref qt_sight, .int v_signs, .ref qt_pad, .int v_freeAt, .int v_freeWho, .int v_reason, .int v_acts, .ref qt_gets, .ref qt_counts, .ref qt_worth, .ref qt_ways, .ref qt_image, .ref qt_isKept])), (qt_ways, .inl (cJ, 19, .inr (.inl v_ways)))] → va_S A s.heap H locs → lv_has ls 16 [(5, .int p5), (6, .long x6), (8, .long x8), (10, .long x10), (12, .long x12)] → L_X10_count_243 p1 p2 p3 p4 p5 n243 v_ways x6 x8 x10 x12 = some (r, w_ways) → W p l e rm_X10_count s m args below meth c H locs 0 0 QQ (F0 m 243 ls []) := by
    intro n243
    induction n243 with
    | zero =>
      intro v_ways x6 x8 x10 x12 H locs ls hP hD hS hl h
      have h : none = some (r, w_ways) := h
      cases h
    | succ n243 ih243 =>
      intro v_ways x6 x8 x10 x12 H locs ls hP hD hS hl h
      rw [L_X10_count_243.eq_2] at h
      refine lv_lload hx hb dX10_count_243 (lv_at hl 4 rfl) ?_
      refine lv_lconst (v := 0) hx hb dX10_count_245 (by decide) ?_
      refine W.lcmp hx hb dX10_count_246 ?_
      refine lv_if_eq (tgt := 268) hx hb dX10_count_247 (by decide) (fun hc => ?_) (fun hc => ?_)
      · have h := if_t hc h
        refine lv_iload hx hb dX10_count_268 (lv_at hl 0 rfl) ?_
        refine lv_if_ne (tgt := 281) hx hb dX10_count_270 (by decide) (fun hc => ?_) (fun hc => ?_)
        · have h := if_f hc h
          refine lv_lload hx hb dX10_count_281 (lv_at hl 2 rfl) ?_
          refine lv_lload hx hb dX10_count_283 (lv_at hl 3 rfl) ?_
          obtain ⟨hg, h⟩ := gneL_some h
          refine lv_ldiv hx hb dX10_count_285 hg ?_
          cases h
          rw [hQQ]
          exact gw_lret hx hb hr hlocks hP hD hS dX10_count_286
        · have h := if_t hc h
          refine lv_lload hx hb dX10_count_273 (lv_at hl 1 rfl) ?_
          refine lv_lload hx hb dX10_count_275 (lv_at hl 3 rfl) ?_
          obtain ⟨hg, h⟩ := gneL_some h
          refine lv_ldiv hx hb dX10_count_277 hg ?_
          refine lv_goto (tgt := 286) hx hb dX10_count_278 (by decide) ?_
          cases h
          rw [hQQ]
          exact gw_lret hx hb hr hlocks hP hD hS dX10_count_286
      · have h := if_f hc h
        refine lv_lload hx hb dX10_count_250 (lv_at hl 3 rfl) ?_
        refine lv_lload hx hb dX10_count_252 (lv_at hl 4 rfl) ?_
        obtain ⟨hg, h⟩ := gneL_some h
        refine gw_lrem hx hb dX10_count_254 hg ?_
        refine lv_lstore (lv' := [(14, .long (jremL x10 x12)), (5, .int p5), (6, .long x6), (8, .long x8), (10, .long x10), (12, .long x12)]) hx hb dX10_count_255 hl (by decide) rfl (fun ls hl => ?_)
        refine lv_lload hx hb dX10_count_257 (lv_at hl 5 rfl) ?_
        refine lv_lstore (lv' := [(10, .long x12), (14, .long (jremL x10 x12)), (5, .int p5), (6, .long x6), (8, .long x8), (12, .long x12)]) hx hb dX10_count_259 hl (by decide) rfl (fun ls hl => ?_)
        refine lv_lload hx hb dX10_count_261 (lv_at hl 1 rfl) ?_
        refine lv_lstore (lv' := [(12, .long (jremL x10 x12)), (10, .long x12), (14, .long (jremL x10 x12)), (5, .int p5), (6, .long x6), (8, .long x8)]) hx hb dX10_count_263 hl (by decide) rfl (fun ls hl => ?_)
        refine lv_goto (tgt := 243) hx hb dX10_count_265 (by decide) ?_
        exact ih243 v_ways x6 x8 x12 (jremL x10 x12) H locs ls hP hD hS (lv_sub hl [3, 4, 5, 1, 0] rfl) h
  have hL210 : ∀ (n210 : Nat), ∀ (v_ways : (Nat → Int64)) (x6 : Int64) (x8 : Int64) (x10 : Int32) (H : Heap) (locs : List Loc) (ls : Array Slot), va_P D vwCl [(qt, .inr (9, [.ref qt_book, .ref qt_now, .ref qt_flakes, .ref qt_leaks, .int v_music, .ref qt_ranks, .int v_sights, .ref qt_sight, .int v_signs, .ref qt_pad, .int v_freeAt, .int v_freeWho, .int v_reason, .int v_acts, .ref qt_gets, .ref qt_counts, .ref qt_worth, .ref qt_ways, .ref qt_image, .ref qt_isKept])), (qt_ways, .inl (cJ, 19, .inr (.inl v_ways)))] H → va_D A [(qt, .inr (9, [.ref qt_book, .ref qt_now, .ref qt_flakes, .ref qt_leaks, .int v_music, .ref qt_ranks, .int v_sights, .ref qt_sight, .int v_signs, .ref qt_pad, .int v_freeAt, .int v_freeWho, .int v_reason, .int v_acts, .ref qt_gets, .ref qt_counts, .ref qt_worth, .ref qt_ways, .ref qt_image, .ref qt_isKept])), (qt_ways, .inl (cJ, 19, .inr (.inl v_ways)))] → va_S A s.heap H locs → lv_has ls 16 [(0, .ref qt), (5, .int p5), (6, .long x6), (8, .long x8), (10, .int x10)] → L_X10_count_210 p1 p2 p3 p4 p5 n210 v_ways x6 x8 x10 = some (r, w_ways) → W p l e rm_X10_count s m args below meth c H locs 0 0 QQ (F0 m 210 ls []) := by
    intro n210
    induction n210 with
    | zero =>
      intro v_ways x6 x8 x10 H locs ls hP hD hS hl h
      have h : none = some (r, w_ways) := h
      cases h
    | succ n210 ih210 =>
      intro v_ways x6 x8 x10 H locs ls hP hD hS hl h
      rw [L_X10_count_210.eq_2] at h
      refine lv_iload hx hb dX10_count_210 (lv_at hl 4 rfl) ?_
      refine lv_bipush (v := 19) hx hb dX10_count_212 (by decide) ?_
      refine lv_icmp_ge (tgt := 235) hx hb dX10_count_214 (by decide) (fun hc => ?_) (fun hc => ?_)
      · have h := if_t hc h
        refine lv_lload hx hb dX10_count_235 (lv_at hl 2 rfl) ?_
        refine lv_lstore (lv' := [(10, .long x6), (0, .ref qt), (5, .int p5), (6, .long x6), (8, .long x8)]) hx hb dX10_count_237 hl (by decide) rfl (fun ls hl => ?_)
        refine lv_lload hx hb dX10_count_239 (lv_at hl 4 rfl) ?_
        refine lv_lstore (lv' := [(12, .long x8), (10, .long x6), (0, .ref qt), (5, .int p5), (6, .long x6), (8, .long x8)]) hx hb dX10_count_241 hl (by decide) rfl (fun ls hl => ?_)
        exact hL243 FU v_ways x6 x8 x6 x8 H locs ls hP hD hS (lv_sub hl [3, 4, 5, 1, 0] rfl) h
      · have h := if_f hc h
        refine lv_lload hx hb dX10_count_217 (lv_at hl 2 rfl) ?_
        refine lv_aload_n hx hb dX10_count_219 rfl (lv_at hl 0 rfl) ?_
        refine va_get (D := D) (ci := 9) (C := RX10) (T := TX10) (N := 20) hx hb hts (fun _ hw => (List.mem_cons_of_mem _ (List.mem_append_right _ hw))) hown hE.1 hP 0 rfl rfl 17 (by decide) (hts (.fieldLink RX10 40 "GlobeCrownModel" "ways" "[J") (List.mem_cons_of_mem _ (List.mem_append_left _ (List.mem_of_getElem? (i := 2) rfl)))) (fun _ h9 => h9) rfl dX10_count_220 ?_
        refine lv_iload hx hb dX10_count_223 (lv_at hl 4 rfl) ?_
        obtain ⟨hg, h⟩ := gin_some h
        refine va_lald hx hb hE.1 hP 1 1 rfl rfl hg dX10_count_225 ?_
        refine lv_ladd hx hb dX10_count_226 ?_
        refine lv_lstore (lv' := [(6, .long (x6 + (v_ways (Int32.toNatClampNeg x10)))), (0, .ref qt), (5, .int p5), (8, .long x8), (10, .int x10)]) hx hb dX10_count_227 hl (by decide) rfl (fun ls hl => ?_)
        refine lv_iinc (v := (x10 + (1 : Int32))) (lv' := [(10, .int (x10 + (1 : Int32))), (6, .long (x6 + (v_ways (Int32.toNatClampNeg x10)))), (0, .ref qt), (5, .int p5), (8, .long x8)]) hx hb dX10_count_229 hl (k := 4) rfl rfl (by decide) rfl (fun ls hl => ?_)
        refine lv_goto (tgt := 210) hx hb dX10_count_232 (by decide) ?_
        exact ih210 v_ways (x6 + (v_ways (Int32.toNatClampNeg x10))) x8 (x10 + (1 : Int32)) H locs ls hP hD hS (lv_sub hl [2, 3, 1, 4, 0] rfl) h
  have hL135 : ∀ (n135 : Nat), ∀ (v_ways : (Nat → Int64)) (x8 : Int64) (x10 : Int32) (H : Heap) (locs : List Loc) (ls : Array Slot), va_P D vwCl [(qt, .inr (9, [.ref qt_book, .ref qt_now, .ref qt_flakes, .ref qt_leaks, .int v_music, .ref qt_ranks, .int v_sights, .ref qt_sight, .int v_signs, .ref qt_pad, .int v_freeAt, .int v_freeWho, .int v_reason, .int v_acts, .ref qt_gets, .ref qt_counts, .ref qt_worth, .ref qt_ways, .ref qt_image, .ref qt_isKept])), (qt_ways, .inl (cJ, 19, .inr (.inl v_ways)))] H → va_D A [(qt, .inr (9, [.ref qt_book, .ref qt_now, .ref qt_flakes, .ref qt_leaks, .int v_music, .ref qt_ranks, .int v_sights, .ref qt_sight, .int v_signs, .ref qt_pad, .int v_freeAt, .int v_freeWho, .int v_reason, .int v_acts, .ref qt_gets, .ref qt_counts, .ref qt_worth, .ref qt_ways, .ref qt_image, .ref qt_isKept])), (qt_ways, .inl (cJ, 19, .inr (.inl v_ways)))] → va_S A s.heap H locs → lv_has ls 16 [(0, .ref qt), (1, .int p1), (2, .int p2), (3, .int p3), (5, .int p5), (8, .long x8), (10, .int x10)] → L_X10_count_135 p1 p2 p3 p4 p5 n135 v_ways x8 x10 = some (r, w_ways) → W p l e rm_X10_count s m args below meth c H locs 0 0 QQ (F0 m 135 ls []) := by
    intro n135
    induction n135 with
    | zero =>
      intro v_ways x8 x10 H locs ls hP hD hS hl h
      have h : none = some (r, w_ways) := h
      cases h
    | succ n135 ih135 =>
      have hL145 : ∀ (n145 : Nat), ∀ (v_ways : (Nat → Int64)) (x8 : Int64) (x10 : Int32) (x11 : Int32) (H : Heap) (locs : List Loc) (ls : Array Slot), va_P D vwCl [(qt, .inr (9, [.ref qt_book, .ref qt_now, .ref qt_flakes, .ref qt_leaks, .int v_music, .ref qt_ranks, .int v_sights, .ref qt_sight, .int v_signs, .ref qt_pad, .int v_freeAt, .int v_freeWho, .int v_reason, .int v_acts, .ref qt_gets, .ref qt_counts, .ref qt_worth, .ref qt_ways, .ref qt_image, .ref qt_isKept])), (qt_ways, .inl (cJ, 19, .inr (.inl v_ways)))] H → va_D A [(qt, .inr (9, [.ref qt_book, .ref qt_now, .ref qt_flakes, .ref qt_leaks, .int v_music, .ref qt_ranks, .int v_sights, .ref qt_sight, .int v_signs, .ref qt_pad, .int v_freeAt, .int v_freeWho, .int v_reason, .int v_acts, .ref qt_gets, .ref qt_counts, .ref qt_worth, .ref qt_ways, .ref qt_image, .ref qt_isKept])), (qt_ways, .inl (cJ, 19, .inr (.inl v_ways)))] → va_S A s.heap H locs → lv_has ls 16 [(0, .ref qt), (1, .int p1), (2, .int p2), (3, .int p3), (5, .int p5), (8, .long x8), (10, .int x10), (11, .int x11)] → L_X10_count_145 p1 p2 p3 p4 p5 (L_X10_count_135 p1 p2 p3 p4 p5 n135) n145 v_ways x8 x10 x11 = some (r, w_ways) → W p l e rm_X10_count s m args below meth c H locs 0 0 QQ (F0 m 145 ls []) := by
        intro n145
        induction n145 with
        | zero =>
          intro v_ways x8 x10 x11 H locs ls hP hD hS hl h
          have h : none = some (r, w_ways) := h
          cases h
        | succ n145 ih145 =>
          have hB190 : ∀ (v_ways : (Nat → Int64)) (x8 : Int64) (x10 : Int32) (x11 : Int32) (s0 : Int64) (s1 : Int64) (s2 : Int32) (H : Heap) (locs : List Loc) (ls : Array Slot), va_P D vwCl [(qt, .inr (9, [.ref qt_book, .ref qt_now, .ref qt_flakes, .ref qt_leaks, .int v_music, .ref qt_ranks, .int v_sights, .ref qt_sight, .int v_signs, .ref qt_pad, .int v_freeAt, .int v_freeWho, .int v_reason, .int v_acts, .ref qt_gets, .ref qt_counts, .ref qt_worth, .ref qt_ways, .ref qt_image, .ref qt_isKept])), (qt_ways, .inl (cJ, 19, .inr (.inl v_ways)))] H → va_D A [(qt, .inr (9, [.ref qt_book, .ref qt_now, .ref qt_flakes, .ref qt_leaks, .int v_music, .ref qt_ranks, .int v_sights, .ref qt_sight, .int v_signs, .ref qt_pad, .int v_freeAt, .int v_freeWho, .int v_reason, .int v_acts, .ref qt_gets, .ref qt_counts, .ref qt_worth, .ref qt_ways, .ref qt_image, .ref qt_isKept])), (qt_ways, .inl (cJ, 19, .inr (.inl v_ways)))] → va_S A s.heap H locs → lv_has ls 16 [(0, .ref qt), (1, .int p1), (2, .int p2), (3, .int p3), (5, .int p5), (8, .long x8), (10, .int x10), (11, .int x11)] → B_X10_count_190 p1 p2 p3 p4 p5 (L_X10_count_135 p1 p2 p3 p4 p5 n135) (L_X10_count_145 p1 p2 p3 p4 p5 (L_X10_count_135 p1 p2 p3 p4 p5 n135) n145) v_ways x8 x10 x11 s0 s1 s2 = some (r, w_ways) → W p l e rm_X10_count s m args below meth c H locs 0 0 QQ (F0 m 190 ls [.long s0, .long s1, .int s2, .ref qt_ways]) := by
            intro v_ways x8 x10 x11 s0 s1 s2 H locs ls hP hD hS hl h
            unfold B_X10_count_190 at h
            refine lv_ladd hx hb dX10_count_190 ?_
            obtain ⟨hg, h⟩ := gin_some h
            refine va_last hx hb hE.1 hP hD hS 1 1 rfl rfl hg dX10_count_191 (fun H locs (hP : va_P D vwCl [(qt, .inr (9, [.ref qt_book, .ref qt_now, .ref qt_flakes, .ref qt_leaks, .int v_music, .ref qt_ranks, .int v_sights, .ref qt_sight, .int v_signs, .ref qt_pad, .int v_freeAt, .int v_freeWho, .int v_reason, .int v_acts, .ref qt_gets, .ref qt_counts, .ref qt_worth, .ref qt_ways, .ref qt_image, .ref qt_isKept])), (qt_ways, .inl (cJ, 19, .inr (.inl (vp_updL v_ways (Int32.toNatClampNeg s2) (s1 + s0)))))] H) (hD : va_D A [(qt, .inr (9, [.ref qt_book, .ref qt_now, .ref qt_flakes, .ref qt_leaks, .int v_music, .ref qt_ranks, .int v_sights, .ref qt_sight, .int v_signs, .ref qt_pad, .int v_freeAt, .int v_freeWho, .int v_reason, .int v_acts, .ref qt_gets, .ref qt_counts, .ref qt_worth, .ref qt_ways, .ref qt_image, .ref qt_isKept])), (qt_ways, .inl (cJ, 19, .inr (.inl (vp_updL v_ways (Int32.toNatClampNeg s2) (s1 + s0)))))]) hS => ?_)
            refine lv_iinc (v := (x11 + (-1 : Int32))) (lv' := [(11, .int (x11 + (-1 : Int32))), (0, .ref qt), (1, .int p1), (2, .int p2), (3, .int p3), (5, .int p5), (8, .long x8), (10, .int x10)]) hx hb dX10_count_192 hl (k := 7) rfl rfl (by decide) rfl (fun ls hl => ?_)
            refine lv_goto (tgt := 145) hx hb dX10_count_195 (by decide) ?_
            exact ih145 (vp_updL v_ways (Int32.toNatClampNeg s2) (s1 + s0)) x8 x10 (x11 + (-1 : Int32)) H locs ls hP hD hS (lv_sub hl [1, 2, 3, 4, 5, 6, 7, 0] rfl) h
          intro v_ways x8 x10 x11 H locs ls hP hD hS hl h
          rw [L_X10_count_145.eq_2] at h
          refine lv_iload hx hb dX10_count_145 (lv_at hl 7 rfl) ?_
          refine lv_if_lt (tgt := 198) hx hb dX10_count_147 (by decide) (fun hc => ?_) (fun hc => ?_)
          · have h := if_t hc h
            refine lv_iinc (v := (x10 + (1 : Int32))) (lv' := [(10, .int (x10 + (1 : Int32))), (0, .ref qt), (1, .int p1), (2, .int p2), (3, .int p3), (5, .int p5), (8, .long x8), (11, .int x11)]) hx hb dX10_count_198 hl (k := 6) rfl rfl (by decide) rfl (fun ls hl => ?_)
            refine lv_goto (tgt := 135) hx hb dX10_count_201 (by decide) ?_
            exact ih135 v_ways x8 (x10 + (1 : Int32)) H locs ls hP hD hS (lv_sub hl [1, 2, 3, 4, 5, 6, 0] rfl) h
          · have h := if_f hc h
            refine lv_aload_n hx hb dX10_count_150 rfl (lv_at hl 0 rfl) ?_
            refine va_get (D := D) (ci := 9) (C := RX10) (T := TX10) (N := 20) hx hb hts (fun _ hw => (List.mem_cons_of_mem _ (List.mem_append_right _ hw))) hown hE.1 hP 0 rfl rfl 17 (by decide) (hts (.fieldLink RX10 40 "GlobeCrownModel" "ways" "[J") (List.mem_cons_of_mem _ (List.mem_append_left _ (List.mem_of_getElem? (i := 2) rfl)))) (fun _ h9 => h9) rfl dX10_count_151 ?_
            refine lv_iload hx hb dX10_count_154 (lv_at hl 7 rfl) ?_
            refine lv_aload_n hx hb dX10_count_156 rfl (lv_at hl 0 rfl) ?_
            refine va_get (D := D) (ci := 9) (C := RX10) (T := TX10) (N := 20) hx hb hts (fun _ hw => (List.mem_cons_of_mem _ (List.mem_append_right _ hw))) hown hE.1 hP 0 rfl rfl 17 (by decide) (hts (.fieldLink RX10 40 "GlobeCrownModel" "ways" "[J") (List.mem_cons_of_mem _ (List.mem_append_left _ (List.mem_of_getElem? (i := 2) rfl)))) (fun _ h9 => h9) rfl dX10_count_157 ?_
            refine lv_iload hx hb dX10_count_160 (lv_at hl 7 rfl) ?_
            obtain ⟨hg, h⟩ := gin_some h
            refine va_lald hx hb hE.1 hP 1 1 rfl rfl hg dX10_count_162 ?_
            refine lv_bipush (v := 10) hx hb dX10_count_163 (by decide) ?_
            refine lv_iload_n hx hb dX10_count_165 rfl (lv_at hl 2 rfl) ?_
            refine lv_isub hx hb dX10_count_166 ?_
            refine lv_i2l (v := (Int32.toInt64 ((10 : Int32) - p2))) hx hb dX10_count_167 rfl ?_
            refine lv_lmul hx hb dX10_count_168 ?_
            refine lv_iload hx hb dX10_count_169 (lv_at hl 7 rfl) ?_
            refine lv_if_le (tgt := 189) hx hb dX10_count_171 (by decide) (fun hc => ?_) (fun hc => ?_)
            · have h := if_t hc h
              refine lv_lconst (v := 0) hx hb dX10_count_189 (by decide) ?_
              exact hB190 v_ways x8 x10 x11 (0 : Int64) ((v_ways (Int32.toNatClampNeg x11)) * (Int32.toInt64 ((10 : Int32) - p2))) x11 H locs ls hP hD hS hl h
            · have h := if_f hc h
              refine lv_aload_n hx hb dX10_count_174 rfl (lv_at hl 0 rfl) ?_
              refine va_get (D := D) (ci := 9) (C := RX10) (T := TX10) (N := 20) hx hb hts (fun _ hw => (List.mem_cons_of_mem _ (List.mem_append_right _ hw))) hown hE.1 hP 0 rfl rfl 17 (by decide) (hts (.fieldLink RX10 40 "GlobeCrownModel" "ways" "[J") (List.mem_cons_of_mem _ (List.mem_append_left _ (List.mem_of_getElem? (i := 2) rfl)))) (fun _ h9 => h9) rfl dX10_count_175 ?_
              refine lv_iload hx hb dX10_count_178 (lv_at hl 7 rfl) ?_
              refine lv_iconst (v := 1) hx hb dX10_count_180 (by decide) ?_
              refine lv_isub hx hb dX10_count_181 ?_
              obtain ⟨hg, h⟩ := gin_some h
              refine va_lald hx hb hE.1 hP 1 1 rfl rfl hg dX10_count_182 ?_
              refine lv_iload_n hx hb dX10_count_183 rfl (lv_at hl 2 rfl) ?_
              refine lv_i2l (v := (Int32.toInt64 p2)) hx hb dX10_count_184 rfl ?_
              refine lv_lmul hx hb dX10_count_185 ?_
              refine lv_goto (tgt := 190) hx hb dX10_count_186 (by decide) ?_
              exact hB190 v_ways x8 x10 x11 ((v_ways (Int32.toNatClampNeg (x11 - (1 : Int32)))) * (Int32.toInt64 p2)) ((v_ways (Int32.toNatClampNeg x11)) * (Int32.toInt64 ((10 : Int32) - p2))) x11 H locs ls hP hD hS hl h
      intro v_ways x8 x10 H locs ls hP hD hS hl h
      rw [L_X10_count_135.eq_2] at h
      refine lv_iload hx hb dX10_count_135 (lv_at hl 6 rfl) ?_
      refine lv_iload_n hx hb dX10_count_137 rfl (lv_at hl 1 rfl) ?_
      refine lv_icmp_ge (tgt := 204) hx hb dX10_count_138 (by decide) (fun hc => ?_) (fun hc => ?_)
      · have h := if_t hc h
        refine lv_lconst (v := 0) hx hb dX10_count_204 (by decide) ?_
        refine lv_lstore (lv' := [(6, .long (0 : Int64)), (0, .ref qt), (1, .int p1), (2, .int p2), (3, .int p3), (5, .int p5), (8, .long x8), (10, .int x10)]) hx hb dX10_count_205 hl (by decide) rfl (fun ls hl => ?_)
        refine lv_iload_n hx hb dX10_count_207 rfl (lv_at hl 4 rfl) ?_
        refine lv_istore (lv' := [(10, .int p3), (6, .long (0 : Int64)), (0, .ref qt), (1, .int p1), (2, .int p2), (3, .int p3), (5, .int p5), (8, .long x8)]) hx hb dX10_count_208 hl (by decide) rfl (fun ls hl => ?_)
        exact hL210 FU v_ways (0 : Int64) x8 p3 H locs ls hP hD hS (lv_sub hl [2, 6, 1, 7, 0] rfl) h
      · have h := if_f hc h
        refine lv_bipush (v := 18) hx hb dX10_count_141 (by decide) ?_
        refine lv_istore (lv' := [(11, .int (18 : Int32)), (0, .ref qt), (1, .int p1), (2, .int p2), (3, .int p3), (5, .int p5), (8, .long x8), (10, .int x10)]) hx hb dX10_count_143 hl (by decide) rfl (fun ls hl => ?_)
        exact hL145 FU v_ways x8 x10 (18 : Int32) H locs ls hP hD hS (lv_sub hl [1, 2, 3, 4, 5, 6, 7, 0] rfl) h
  have hL102 : ∀ (n102 : Nat), ∀ (v_ways : (Nat → Int64)) (x8 : Int64) (x10 : Int32) (H : Heap) (locs : List Loc) (ls : Array Slot), va_P D vwCl [(qt, .inr (9, [.ref qt_book, .ref qt_now, .ref qt_flakes, .ref qt_leaks, .int v_music, .ref qt_ranks, .int v_sights, .ref qt_sight, .int v_signs, .ref qt_pad, .int v_freeAt, .int v_freeWho, .int v_reason, .int v_acts, .ref qt_gets, .ref qt_counts, .ref qt_worth, .ref qt_ways, .ref qt_image, .ref qt_isKept])), (qt_ways, .inl (cJ, 19, .inr (.inl v_ways)))] H → va_D A [(qt, .inr (9, [.ref qt_book, .ref qt_now, .ref qt_flakes, .ref qt_leaks, .int v_music, .ref qt_ranks, .int v_sights, .ref qt_sight, .int v_signs, .ref qt_pad, .int v_freeAt, .int v_freeWho, .int v_reason, .int v_acts, .ref qt_gets, .ref qt_counts, .ref qt_worth, .ref qt_ways, .ref qt_image, .ref qt_isKept])), (qt_ways, .inl (cJ, 19, .inr (.inl v_ways)))] → va_S A s.heap H locs → lv_has ls 16 [(0, .ref qt), (1, .int p1), (2, .int p2), (3, .int p3), (5, .int p5), (8, .long x8), (10, .int x10)] → L_X10_count_102 p1 p2 p3 p4 p5 n102 v_ways x8 x10 = some (r, w_ways) → W p l e rm_X10_count s m args below meth c H locs 0 0 QQ (F0 m 102 ls []) := by
    intro n102
    induction n102 with
    | zero =>
      intro v_ways x8 x10 H locs ls hP hD hS hl h
      have h : none = some (r, w_ways) := h
      cases h
    | succ n102 ih102 =>
      have hB125 : ∀ (v_ways : (Nat → Int64)) (x8 : Int64) (x10 : Int32) (s0 : Int64) (s1 : Int32) (H : Heap) (locs : List Loc) (ls : Array Slot), va_P D vwCl [(qt, .inr (9, [.ref qt_book, .ref qt_now, .ref qt_flakes, .ref qt_leaks, .int v_music, .ref qt_ranks, .int v_sights, .ref qt_sight, .int v_signs, .ref qt_pad, .int v_freeAt, .int v_freeWho, .int v_reason, .int v_acts, .ref qt_gets, .ref qt_counts, .ref qt_worth, .ref qt_ways, .ref qt_image, .ref qt_isKept])), (qt_ways, .inl (cJ, 19, .inr (.inl v_ways)))] H → va_D A [(qt, .inr (9, [.ref qt_book, .ref qt_now, .ref qt_flakes, .ref qt_leaks, .int v_music, .ref qt_ranks, .int v_sights, .ref qt_sight, .int v_signs, .ref qt_pad, .int v_freeAt, .int v_freeWho, .int v_reason, .int v_acts, .ref qt_gets, .ref qt_counts, .ref qt_worth, .ref qt_ways, .ref qt_image, .ref qt_isKept])), (qt_ways, .inl (cJ, 19, .inr (.inl v_ways)))] → va_S A s.heap H locs → lv_has ls 16 [(0, .ref qt), (1, .int p1), (2, .int p2), (3, .int p3), (5, .int p5), (8, .long x8), (10, .int x10)] → B_X10_count_125 p1 p2 p3 p4 p5 (L_X10_count_102 p1 p2 p3 p4 p5 n102) v_ways x8 x10 s0 s1 = some (r, w_ways) → W p l e rm_X10_count s m args below meth c H locs 0 0 QQ (F0 m 125 ls [.long s0, .int s1, .ref qt_ways]) := by
        intro v_ways x8 x10 s0 s1 H locs ls hP hD hS hl h
        unfold B_X10_count_125 at h
        obtain ⟨hg, h⟩ := gin_some h
        refine va_last hx hb hE.1 hP hD hS 1 1 rfl rfl hg dX10_count_125 (fun H locs (hP : va_P D vwCl [(qt, .inr (9, [.ref qt_book, .ref qt_now, .ref qt_flakes, .ref qt_leaks, .int v_music, .ref qt_ranks, .int v_sights, .ref qt_sight, .int v_signs, .ref qt_pad, .int v_freeAt, .int v_freeWho, .int v_reason, .int v_acts, .ref qt_gets, .ref qt_counts, .ref qt_worth, .ref qt_ways, .ref qt_image, .ref qt_isKept])), (qt_ways, .inl (cJ, 19, .inr (.inl (vp_updL v_ways (Int32.toNatClampNeg s1) s0))))] H) (hD : va_D A [(qt, .inr (9, [.ref qt_book, .ref qt_now, .ref qt_flakes, .ref qt_leaks, .int v_music, .ref qt_ranks, .int v_sights, .ref qt_sight, .int v_signs, .ref qt_pad, .int v_freeAt, .int v_freeWho, .int v_reason, .int v_acts, .ref qt_gets, .ref qt_counts, .ref qt_worth, .ref qt_ways, .ref qt_image, .ref qt_isKept])), (qt_ways, .inl (cJ, 19, .inr (.inl (vp_updL v_ways (Int32.toNatClampNeg s1) s0))))]) hS => ?_)
        refine lv_iinc (v := (x10 + (1 : Int32))) (lv' := [(10, .int (x10 + (1 : Int32))), (0, .ref qt), (1, .int p1), (2, .int p2), (3, .int p3), (5, .int p5), (8, .long x8)]) hx hb dX10_count_126 hl (k := 6) rfl rfl (by decide) rfl (fun ls hl => ?_)
        refine lv_goto (tgt := 102) hx hb dX10_count_129 (by decide) ?_
        exact ih102 (vp_updL v_ways (Int32.toNatClampNeg s1) s0) x8 (x10 + (1 : Int32)) H locs ls hP hD hS (lv_sub hl [1, 2, 3, 4, 5, 6, 0] rfl) h
      intro v_ways x8 x10 H locs ls hP hD hS hl h
      rw [L_X10_count_102.eq_2] at h
      refine lv_iload hx hb dX10_count_102 (lv_at hl 6 rfl) ?_
      refine lv_bipush (v := 19) hx hb dX10_count_104 (by decide) ?_
      refine lv_icmp_ge (tgt := 132) hx hb dX10_count_106 (by decide) (fun hc => ?_) (fun hc => ?_)
      · have h := if_t hc h
        refine lv_iconst (v := 0) hx hb dX10_count_132 (by decide) ?_
        refine lv_istore (lv' := [(10, .int (0 : Int32)), (0, .ref qt), (1, .int p1), (2, .int p2), (3, .int p3), (5, .int p5), (8, .long x8)]) hx hb dX10_count_133 hl (by decide) rfl (fun ls hl => ?_)
        exact hL135 FU v_ways x8 (0 : Int32) H locs ls hP hD hS (lv_sub hl [1, 2, 3, 4, 5, 6, 0] rfl) h
      · have h := if_f hc h
        refine lv_aload_n hx hb dX10_count_109 rfl (lv_at hl 0 rfl) ?_
        refine va_get (D := D) (ci := 9) (C := RX10) (T := TX10) (N := 20) hx hb hts (fun _ hw => (List.mem_cons_of_mem _ (List.mem_append_right _ hw))) hown hE.1 hP 0 rfl rfl 17 (by decide) (hts (.fieldLink RX10 40 "GlobeCrownModel" "ways" "[J") (List.mem_cons_of_mem _ (List.mem_append_left _ (List.mem_of_getElem? (i := 2) rfl)))) (fun _ h9 => h9) rfl dX10_count_110 ?_
        refine lv_iload hx hb dX10_count_113 (lv_at hl 6 rfl) ?_
        refine lv_iload hx hb dX10_count_115 (lv_at hl 6 rfl) ?_
        refine lv_if_ne (tgt := 124) hx hb dX10_count_117 (by decide) (fun hc => ?_) (fun hc => ?_)
        · have h := if_f hc h
          refine lv_lconst (v := 0) hx hb dX10_count_124 (by decide) ?_
          exact hB125 v_ways x8 x10 (0 : Int64) x10 H locs ls hP hD hS hl h
        · have h := if_t hc h
          refine lv_lconst (v := 1) hx hb dX10_count_120 (by decide) ?_
          refine lv_goto (tgt := 125) hx hb dX10_count_121 (by decide) ?_
          exact hB125 v_ways x8 x10 (1 : Int64) x10 H locs ls hP hD hS hl h
  have hB89 : ∀ (v_ways : (Nat → Int64)) (x6 : Int64) (s0 : Int32) (s1 : Int64) (H : Heap) (locs : List Loc) (ls : Array Slot), va_P D vwCl [(qt, .inr (9, [.ref qt_book, .ref qt_now, .ref qt_flakes, .ref qt_leaks, .int v_music, .ref qt_ranks, .int v_sights, .ref qt_sight, .int v_signs, .ref qt_pad, .int v_freeAt, .int v_freeWho, .int v_reason, .int v_acts, .ref qt_gets, .ref qt_counts, .ref qt_worth, .ref qt_ways, .ref qt_image, .ref qt_isKept])), (qt_ways, .inl (cJ, 19, .inr (.inl v_ways)))] H → va_D A [(qt, .inr (9, [.ref qt_book, .ref qt_now, .ref qt_flakes, .ref qt_leaks, .int v_music, .ref qt_ranks, .int v_sights, .ref qt_sight, .int v_signs, .ref qt_pad, .int v_freeAt, .int v_freeWho, .int v_reason, .int v_acts, .ref qt_gets, .ref qt_counts, .ref qt_worth, .ref qt_ways, .ref qt_image, .ref qt_isKept])), (qt_ways, .inl (cJ, 19, .inr (.inl v_ways)))] → va_S A s.heap H locs → lv_has ls 16 [(0, .ref qt), (1, .int p1), (2, .int p2), (3, .int p3), (4, .int p4), (5, .int p5), (6, .long x6)] → B_X10_count_89 p1 p2 p3 p4 p5 v_ways x6 s0 s1 = some (r, w_ways) → W p l e rm_X10_count s m args below meth c H locs 0 0 QQ (F0 m 89 ls [.int s0, .long s1]) := by
    intro v_ways x6 s0 s1 H locs ls hP hD hS hl h
    unfold B_X10_count_89 at h
    obtain ⟨r89, hc89, h⟩ := bd1_some h
    refine gw_cl (wr := [(qt, .inr (9, [.ref qt_book, .ref qt_now, .ref qt_flakes, .ref qt_leaks, .int v_music, .ref qt_ranks, .int v_sights, .ref qt_sight, .int v_signs, .ref qt_pad, .int v_freeAt, .int v_freeWho, .int v_reason, .int v_acts, .ref qt_gets, .ref qt_counts, .ref qt_worth, .ref qt_ways, .ref qt_image, .ref qt_isKept])), (qt_ways, .inl (cJ, 19, .inr (.inl v_ways)))]) (w2 := [(qt, .inr (9, [.ref qt_book, .ref qt_now, .ref qt_flakes, .ref qt_leaks, .int v_music, .ref qt_ranks, .int v_sights, .ref qt_sight, .int v_signs, .ref qt_pad, .int v_freeAt, .int v_freeWho, .int v_reason, .int v_acts, .ref qt_gets, .ref qt_counts, .ref qt_worth, .ref qt_ways, .ref qt_image, .ref qt_isKept])), (qt_ways, .inl (cJ, 19, .inr (.inl v_ways)))]) (gw_rS (n := 2) ⟨hx, hb, hml, hown, hts⟩ (C_X10_power l D cI cJ cZ H.size s1 s0 r89 hc89) gX10_count_X10_power rfl rfl rfl hdS_X10_power ⟨Nat.le_of_ble_eq_true rfl, Nat.le_of_ble_eq_true rfl⟩ hE (hP.sub [] rfl) (hD.sub [] (by decide) rfl) rfl hl.1 (rest := []) rfl (Nat.le_of_ble_eq_true rfl) dX10_count_89 ⟨Nat.zero_le _, Nat.zero_le _⟩) hP hD hS hA [] [0, 1] rfl rfl rfl (by decide) rfl (fun H locs hP hD hS => ?_)
    refine lv_lstore (lv' := [(8, .long r89), (0, .ref qt), (1, .int p1), (2, .int p2), (3, .int p3), (4, .int p4), (5, .int p5), (6, .long x6)]) hx hb dX10_count_92 hl (by decide) rfl (fun ls hl => ?_)
    refine lv_iload hx hb dX10_count_94 (lv_at hl 5 rfl) ?_
    refine lv_if_ne (tgt := 235) hx hb dX10_count_96 (by decide) (fun hc => ?_) (fun hc => ?_)
    · have h := if_f hc h
      refine lv_lload hx hb dX10_count_235 (lv_at hl 7 rfl) ?_
      refine lv_lstore (lv' := [(10, .long x6), (8, .long r89), (0, .ref qt), (1, .int p1), (2, .int p2), (3, .int p3), (4, .int p4), (5, .int p5), (6, .long x6)]) hx hb dX10_count_237 hl (by decide) rfl (fun ls hl => ?_)
      refine lv_lload hx hb dX10_count_239 (lv_at hl 1 rfl) ?_
      refine lv_lstore (lv' := [(12, .long r89), (10, .long x6), (8, .long r89), (0, .ref qt), (1, .int p1), (2, .int p2), (3, .int p3), (4, .int p4), (5, .int p5), (6, .long x6)]) hx hb dX10_count_241 hl (by decide) rfl (fun ls hl => ?_)
      exact hL243 FU v_ways x6 r89 x6 r89 H locs ls hP hD hS (lv_sub hl [8, 9, 2, 1, 0] rfl) h
    · have h := if_t hc h
      refine lv_iconst (v := 0) hx hb dX10_count_99 (by decide) ?_
      refine lv_istore (lv' := [(10, .int (0 : Int32)), (8, .long r89), (0, .ref qt), (1, .int p1), (2, .int p2), (3, .int p3), (4, .int p4), (5, .int p5), (6, .long x6)]) hx hb dX10_count_100 hl (by decide) rfl (fun ls hl => ?_)
      exact hL102 FU v_ways r89 (0 : Int32) H locs ls hP hD hS (lv_sub hl [2, 3, 4, 5, 7, 1, 0] rfl) h
  have hB24 : ∀ (v_ways : (Nat → Int64)) (s0 : Int32) (s1 : Int32) (s2 : Int32) (H : Heap) (locs : List Loc) (ls : Array Slot), va_P D vwCl [(qt, .inr (9, [.ref qt_book, .ref qt_now, .ref qt_flakes, .ref qt_leaks, .int v_music, .ref qt_ranks, .int v_sights, .ref qt_sight, .int v_signs, .ref qt_pad, .int v_freeAt, .int v_freeWho, .int v_reason, .int v_acts, .ref qt_gets, .ref qt_counts, .ref qt_worth, .ref qt_ways, .ref qt_image, .ref qt_isKept])), (qt_ways, .inl (cJ, 19, .inr (.inl v_ways)))] H → va_D A [(qt, .inr (9, [.ref qt_book, .ref qt_now, .ref qt_flakes, .ref qt_leaks, .int v_music, .ref qt_ranks, .int v_sights, .ref qt_sight, .int v_signs, .ref qt_pad, .int v_freeAt, .int v_freeWho, .int v_reason, .int v_acts, .ref qt_gets, .ref qt_counts, .ref qt_worth, .ref qt_ways, .ref qt_image, .ref qt_isKept])), (qt_ways, .inl (cJ, 19, .inr (.inl v_ways)))] → va_S A s.heap H locs → lv_has ls 16 [(0, .ref qt), (1, .int p1), (2, .int p2), (3, .int p3), (4, .int p4), (5, .int p5)] → B_X10_count_24 p1 p2 p3 p4 p5 v_ways s0 s1 s2 = some (r, w_ways) → W p l e rm_X10_count s m args below meth c H locs 0 0 QQ (F0 m 24 ls [.int s0, .int s1, .int s2]) := by
    intro v_ways s0 s1 s2 H locs ls hP hD hS hl h
    unfold B_X10_count_24 at h
    obtain ⟨r24, hc24, h⟩ := bd1_some h
    refine gw_ci (wr := [(qt, .inr (9, [.ref qt_book, .ref qt_now, .ref qt_flakes, .ref qt_leaks, .int v_music, .ref qt_ranks, .int v_sights, .ref qt_sight, .int v_signs, .ref qt_pad, .int v_freeAt, .int v_freeWho, .int v_reason, .int v_acts, .ref qt_gets, .ref qt_counts, .ref qt_worth, .ref qt_ways, .ref qt_image, .ref qt_isKept])), (qt_ways, .inl (cJ, 19, .inr (.inl v_ways)))]) (w2 := [(qt, .inr (9, [.ref qt_book, .ref qt_now, .ref qt_flakes, .ref qt_leaks, .int v_music, .ref qt_ranks, .int v_sights, .ref qt_sight, .int v_signs, .ref qt_pad, .int v_freeAt, .int v_freeWho, .int v_reason, .int v_acts, .ref qt_gets, .ref qt_counts, .ref qt_worth, .ref qt_ways, .ref qt_image, .ref qt_isKept])), (qt_ways, .inl (cJ, 19, .inr (.inl v_ways)))]) (gw_rS (n := 3) ⟨hx, hb, hml, hown, hts⟩ (C_X10_in l D cI cJ cZ H.size s2 s1 s0 r24 hc24) gX10_count_X10_in rfl rfl rfl hdS_X10_in ⟨Nat.le_of_ble_eq_true rfl, Nat.le_of_ble_eq_true rfl⟩ hE (hP.sub [] rfl) (hD.sub [] (by decide) rfl) rfl hl.1 (rest := []) rfl (Nat.le_of_ble_eq_true rfl) dX10_count_24 ⟨Nat.zero_le _, Nat.zero_le _⟩) hP hD hS hA [] [0, 1] rfl rfl rfl (by decide) rfl (fun H locs hP hD hS => ?_)
    refine lv_if_eq (tgt := 60) hx hb dX10_count_27 (by decide) (fun hc => ?_) (fun hc => ?_)
    · have h := if_t hc h
      refine lv_ldc2 hx hb hown (hts (.constantLong RX10 167 (-1000000000000000002)) (List.mem_cons_of_mem _ (List.mem_append_left _ (List.mem_of_getElem? (i := 0) rfl)))) dX10_count_60 ?_
      cases h
      rw [hQQ]
      exact gw_lret hx hb hr hlocks hP hD hS dX10_count_63
    · have h := if_f hc h
      refine lv_iload_n hx hb dX10_count_30 rfl (lv_at hl 2 rfl) ?_
      refine lv_iconst (v := 0) hx hb dX10_count_31 (by decide) ?_
      refine lv_bipush (v := 10) hx hb dX10_count_32 (by decide) ?_
      obtain ⟨r34, hc34, h⟩ := bd1_some h
      refine gw_ci (wr := [(qt, .inr (9, [.ref qt_book, .ref qt_now, .ref qt_flakes, .ref qt_leaks, .int v_music, .ref qt_ranks, .int v_sights, .ref qt_sight, .int v_signs, .ref qt_pad, .int v_freeAt, .int v_freeWho, .int v_reason, .int v_acts, .ref qt_gets, .ref qt_counts, .ref qt_worth, .ref qt_ways, .ref qt_image, .ref qt_isKept])), (qt_ways, .inl (cJ, 19, .inr (.inl v_ways)))]) (w2 := [(qt, .inr (9, [.ref qt_book, .ref qt_now, .ref qt_flakes, .ref qt_leaks, .int v_music, .ref qt_ranks, .int v_sights, .ref qt_sight, .int v_signs, .ref qt_pad, .int v_freeAt, .int v_freeWho, .int v_reason, .int v_acts, .ref qt_gets, .ref qt_counts, .ref qt_worth, .ref qt_ways, .ref qt_image, .ref qt_isKept])), (qt_ways, .inl (cJ, 19, .inr (.inl v_ways)))]) (gw_rS (n := 3) ⟨hx, hb, hml, hown, hts⟩ (C_X10_in l D cI cJ cZ H.size p2 (0 : Int32) (10 : Int32) r34 hc34) gX10_count_X10_in rfl rfl rfl hdS_X10_in ⟨Nat.le_of_ble_eq_true rfl, Nat.le_of_ble_eq_true rfl⟩ hE (hP.sub [] rfl) (hD.sub [] (by decide) rfl) rfl hl.1 (rest := []) rfl (Nat.le_of_ble_eq_true rfl) dX10_count_34 ⟨Nat.zero_le _, Nat.zero_le _⟩) hP hD hS hA [] [0, 1] rfl rfl rfl (by decide) rfl (fun H locs hP hD hS => ?_)
      refine lv_if_eq (tgt := 60) hx hb dX10_count_37 (by decide) (fun hc => ?_) (fun hc => ?_)
      · have h := if_t hc h
        refine lv_ldc2 hx hb hown (hts (.constantLong RX10 167 (-1000000000000000002)) (List.mem_cons_of_mem _ (List.mem_append_left _ (List.mem_of_getElem? (i := 0) rfl)))) dX10_count_60 ?_
        cases h
        rw [hQQ]
        exact gw_lret hx hb hr hlocks hP hD hS dX10_count_63
      · have h := if_f hc h
        refine lv_iload_n hx hb dX10_count_40 rfl (lv_at hl 3 rfl) ?_
        refine lv_iconst (v := 0) hx hb dX10_count_41 (by decide) ?_
        refine lv_bipush (v := 17) hx hb dX10_count_42 (by decide) ?_
        obtain ⟨r44, hc44, h⟩ := bd1_some h
        refine gw_ci (wr := [(qt, .inr (9, [.ref qt_book, .ref qt_now, .ref qt_flakes, .ref qt_leaks, .int v_music, .ref qt_ranks, .int v_sights, .ref qt_sight, .int v_signs, .ref qt_pad, .int v_freeAt, .int v_freeWho, .int v_reason, .int v_acts, .ref qt_gets, .ref qt_counts, .ref qt_worth, .ref qt_ways, .ref qt_image, .ref qt_isKept])), (qt_ways, .inl (cJ, 19, .inr (.inl v_ways)))]) (w2 := [(qt, .inr (9, [.ref qt_book, .ref qt_now, .ref qt_flakes, .ref qt_leaks, .int v_music, .ref qt_ranks, .int v_sights, .ref qt_sight, .int v_signs, .ref qt_pad, .int v_freeAt, .int v_freeWho, .int v_reason, .int v_acts, .ref qt_gets, .ref qt_counts, .ref qt_worth, .ref qt_ways, .ref qt_image, .ref qt_isKept])), (qt_ways, .inl (cJ, 19, .inr (.inl v_ways)))]) (gw_rS (n := 3) ⟨hx, hb, hml, hown, hts⟩ (C_X10_in l D cI cJ cZ H.size p3 (0 : Int32) (17 : Int32) r44 hc44) gX10_count_X10_in rfl rfl rfl hdS_X10_in ⟨Nat.le_of_ble_eq_true rfl, Nat.le_of_ble_eq_true rfl⟩ hE (hP.sub [] rfl) (hD.sub [] (by decide) rfl) rfl hl.1 (rest := []) rfl (Nat.le_of_ble_eq_true rfl) dX10_count_44 ⟨Nat.zero_le _, Nat.zero_le _⟩) hP hD hS hA [] [0, 1] rfl rfl rfl (by decide) rfl (fun H locs hP hD hS => ?_)
        refine lv_if_eq (tgt := 60) hx hb dX10_count_47 (by decide) (fun hc => ?_) (fun hc => ?_)
        · have h := if_t hc h
          refine lv_ldc2 hx hb hown (hts (.constantLong RX10 167 (-1000000000000000002)) (List.mem_cons_of_mem _ (List.mem_append_left _ (List.mem_of_getElem? (i := 0) rfl)))) dX10_count_60 ?_
          cases h
          rw [hQQ]
          exact gw_lret hx hb hr hlocks hP hD hS dX10_count_63
        · have h := if_f hc h
          refine lv_iload hx hb dX10_count_50 (lv_at hl 5 rfl) ?_
          refine lv_iconst (v := 0) hx hb dX10_count_52 (by decide) ?_
          refine lv_iconst (v := 1) hx hb dX10_count_53 (by decide) ?_
          obtain ⟨r54, hc54, h⟩ := bd1_some h
          refine gw_ci (wr := [(qt, .inr (9, [.ref qt_book, .ref qt_now, .ref qt_flakes, .ref qt_leaks, .int v_music, .ref qt_ranks, .int v_sights, .ref qt_sight, .int v_signs, .ref qt_pad, .int v_freeAt, .int v_freeWho, .int v_reason, .int v_acts, .ref qt_gets, .ref qt_counts, .ref qt_worth, .ref qt_ways, .ref qt_image, .ref qt_isKept])), (qt_ways, .inl (cJ, 19, .inr (.inl v_ways)))]) (w2 := [(qt, .inr (9, [.ref qt_book, .ref qt_now, .ref qt_flakes, .ref qt_leaks, .int v_music, .ref qt_ranks, .int v_sights, .ref qt_sight, .int v_signs, .ref qt_pad, .int v_freeAt, .int v_freeWho, .int v_reason, .int v_acts, .ref qt_gets, .ref qt_counts, .ref qt_worth, .ref qt_ways, .ref qt_image, .ref qt_isKept])), (qt_ways, .inl (cJ, 19, .inr (.inl v_ways)))]) (gw_rS (n := 3) ⟨hx, hb, hml, hown, hts⟩ (C_X10_in l D cI cJ cZ H.size p5 (0 : Int32) (1 : Int32) r54 hc54) gX10_count_X10_in rfl rfl rfl hdS_X10_in ⟨Nat.le_of_ble_eq_true rfl, Nat.le_of_ble_eq_true rfl⟩ hE (hP.sub [] rfl) (hD.sub [] (by decide) rfl) rfl hl.1 (rest := []) rfl (Nat.le_of_ble_eq_true rfl) dX10_count_54 ⟨Nat.zero_le _, Nat.zero_le _⟩) hP hD hS hA [] [0, 1] rfl rfl rfl (by decide) rfl (fun H locs hP hD hS => ?_)
          refine lv_if_ne (tgt := 64) hx hb dX10_count_57 (by decide) (fun hc => ?_) (fun hc => ?_)
          · have h := if_f hc h
            refine lv_iload_n hx hb dX10_count_64 rfl (lv_at hl 2 rfl) ?_
            refine lv_i2l (v := (Int32.toInt64 p2)) hx hb dX10_count_65 rfl ?_
            refine lv_iconst (v := 2) hx hb dX10_count_66 (by decide) ?_
            refine lv_iload_n hx hb dX10_count_67 rfl (lv_at hl 1 rfl) ?_
            refine lv_imul hx hb dX10_count_68 ?_
            obtain ⟨r69, hc69, h⟩ := bd1_some h
            refine gw_cl (wr := [(qt, .inr (9, [.ref qt_book, .ref qt_now, .ref qt_flakes, .ref qt_leaks, .int v_music, .ref qt_ranks, .int v_sights, .ref qt_sight, .int v_signs, .ref qt_pad, .int v_freeAt, .int v_freeWho, .int v_reason, .int v_acts, .ref qt_gets, .ref qt_counts, .ref qt_worth, .ref qt_ways, .ref qt_image, .ref qt_isKept])), (qt_ways, .inl (cJ, 19, .inr (.inl v_ways)))]) (w2 := [(qt, .inr (9, [.ref qt_book, .ref qt_now, .ref qt_flakes, .ref qt_leaks, .int v_music, .ref qt_ranks, .int v_sights, .ref qt_sight, .int v_signs, .ref qt_pad, .int v_freeAt, .int v_freeWho, .int v_reason, .int v_acts, .ref qt_gets, .ref qt_counts, .ref qt_worth, .ref qt_ways, .ref qt_image, .ref qt_isKept])), (qt_ways, .inl (cJ, 19, .inr (.inl v_ways)))]) (gw_rS (n := 2) ⟨hx, hb, hml, hown, hts⟩ (C_X10_power l D cI cJ cZ H.size (Int32.toInt64 p2) ((2 : Int32) * p1) r69 hc69) gX10_count_X10_power rfl rfl rfl hdS_X10_power ⟨Nat.le_of_ble_eq_true rfl, Nat.le_of_ble_eq_true rfl⟩ hE (hP.sub [] rfl) (hD.sub [] (by decide) rfl) rfl hl.1 (rest := []) rfl (Nat.le_of_ble_eq_true rfl) dX10_count_69 ⟨Nat.zero_le _, Nat.zero_le _⟩) hP hD hS hA [] [0, 1] rfl rfl rfl (by decide) rfl (fun H locs hP hD hS => ?_)
            refine lv_lstore (lv' := [(6, .long r69), (0, .ref qt), (1, .int p1), (2, .int p2), (3, .int p3), (4, .int p4), (5, .int p5)]) hx hb dX10_count_72 hl (by decide) rfl (fun ls hl => ?_)
            refine lv_ldc2 hx hb hown (hts (.constantLong RX10 173 (10)) (List.mem_cons_of_mem _ (List.mem_append_left _ (List.mem_of_getElem? (i := 1) rfl)))) dX10_count_74 ?_
            refine lv_iload hx hb dX10_count_77 (lv_at hl 5 rfl) ?_
            refine lv_if_ne (tgt := 86) hx hb dX10_count_79 (by decide) (fun hc => ?_) (fun hc => ?_)
            · have h := if_f hc h
              refine lv_iconst (v := 2) hx hb dX10_count_86 (by decide) ?_
              refine lv_iload_n hx hb dX10_count_87 rfl (lv_at hl 2 rfl) ?_
              refine lv_imul hx hb dX10_count_88 ?_
              exact hB89 v_ways r69 ((2 : Int32) * p1) (10 : Int64) H locs ls hP hD hS (lv_sub hl [1, 2, 3, 4, 5, 6, 0] rfl) h
            · have h := if_t hc h
              refine lv_iload_n hx hb dX10_count_82 rfl (lv_at hl 2 rfl) ?_
              refine lv_goto (tgt := 89) hx hb dX10_count_83 (by decide) ?_
              exact hB89 v_ways r69 p1 (10 : Int64) H locs ls hP hD hS (lv_sub hl [1, 2, 3, 4, 5, 6, 0] rfl) h
          · have h := if_t hc h
            refine lv_ldc2 hx hb hown (hts (.constantLong RX10 167 (-1000000000000000002)) (List.mem_cons_of_mem _ (List.mem_append_left _ (List.mem_of_getElem? (i := 0) rfl)))) dX10_count_60 ?_
            cases h
            rw [hQQ]
            exact gw_lret hx hb hr hlocks hP hD hS dX10_count_63
  have h := hf
  unfold f_X10_count at h
  refine gw_start hP hD hS (fun H locs hP hD hS => ?_)
  refine lv_iload hx hb dX10_count_0 (lv_at hl 4 rfl) ?_
  refine lv_iconst (v := 0) hx hb dX10_count_2 (by decide) ?_
  refine lv_iconst (v := 1) hx hb dX10_count_3 (by decide) ?_
  obtain ⟨r4, hc4, h⟩ := bd1_some h
  refine gw_ci (wr := [(qt, .inr (9, [.ref qt_book, .ref qt_now, .ref qt_flakes, .ref qt_leaks, .int v_music, .ref qt_ranks, .int v_sights, .ref qt_sight, .int v_signs, .ref qt_pad, .int v_freeAt, .int v_freeWho, .int v_reason, .int v_acts, .ref qt_gets, .ref qt_counts, .ref qt_worth, .ref qt_ways, .ref qt_image, .ref qt_isKept])), (qt_ways, .inl (cJ, 19, .inr (.inl v_ways)))]) (w2 := [(qt, .inr (9, [.ref qt_book, .ref qt_now, .ref qt_flakes, .ref qt_leaks, .int v_music, .ref qt_ranks, .int v_sights, .ref qt_sight, .int v_signs, .ref qt_pad, .int v_freeAt, .int v_freeWho, .int v_reason, .int v_acts, .ref qt_gets, .ref qt_counts, .ref qt_worth, .ref qt_ways, .ref qt_image, .ref qt_isKept])), (qt_ways, .inl (cJ, 19, .inr (.inl v_ways)))]) (gw_rS (n := 3) ⟨hx, hb, hml, hown, hts⟩ (C_X10_in l D cI cJ cZ H.size p4 (0 : Int32) (1 : Int32) r4 hc4) gX10_count_X10_in rfl rfl rfl hdS_X10_in ⟨Nat.le_of_ble_eq_true rfl, Nat.le_of_ble_eq_true rfl⟩ hE (hP.sub [] rfl) (hD.sub [] (by decide) rfl) rfl hl.1 (rest := []) rfl (Nat.le_of_ble_eq_true rfl) dX10_count_4 ⟨Nat.zero_le _, Nat.zero_le _⟩) hP hD hS hA [] [0, 1] rfl rfl rfl (by decide) rfl (fun H locs hP hD hS => ?_)
  refine lv_if_eq (tgt := 60) hx hb dX10_count_7 (by decide) (fun hc => ?_) (fun hc => ?_)
  · have h := if_t hc h
    refine lv_ldc2 hx hb hown (hts (.constantLong RX10 167 (-1000000000000000002)) (List.mem_cons_of_mem _ (List.mem_append_left _ (List.mem_of_getElem? (i := 0) rfl)))) dX10_count_60 ?_
    cases h
    rw [hQQ]
    exact gw_lret hx hb hr hlocks hP hD hS dX10_count_63
  · have h := if_f hc h
    refine lv_iload_n hx hb dX10_count_10 rfl (lv_at hl 1 rfl) ?_
    refine lv_iconst (v := 0) hx hb dX10_count_11 (by decide) ?_
    refine lv_iload hx hb dX10_count_12 (lv_at hl 4 rfl) ?_
    refine lv_if_ne (tgt := 22) hx hb dX10_count_14 (by decide) (fun hc => ?_) (fun hc => ?_)
    · have h := if_f hc h
      refine lv_bipush (v := 8) hx hb dX10_count_22 (by decide) ?_
      exact hB24 v_ways (8 : Int32) (0 : Int32) p1 H locs ls hP hD hS hl h
    · have h := if_t hc h
      refine lv_bipush (v := 17) hx hb dX10_count_17 (by decide) ?_
      refine lv_goto (tgt := 24) hx hb dX10_count_19 (by decide) ?_
      exact hB24 v_ways (17 : Int32) (0 : Int32) p1 H locs ls hP hD hS hl h
theorem hdV_X10_count : yX10_count.cls = RX10 ∧ yX10_count.cls ≠ "java/lang/invoke/MethodHandle" ∧ yX10_count.cls ≠ "java/lang/invoke/VarHandle" ∧ (parseMethodDescriptor yX10_count.desc).map (fun d => d.parameters.length) = some 5 := by decide +kernel
