/-! pure: thumb, the reference -/
theorem q_xor (a b : Nat) : nI a ^^^ nI b = nI (a ^^^ b) := by
  apply Int32.toBitVec_inj.mp
  rw [Int32.toBitVec_xor]
  show BitVec.ofNat 32 a ^^^ BitVec.ofNat 32 b = BitVec.ofNat 32 (a ^^^ b)
  exact BitVec.ofNat_xor.symm
def dp (P : Nat → Nat) (x : Nat) : Nat := cs P (fun _ => 1) 8 x
theorem cs1_le {P : Nat → Nat} : ∀ k x, cs P (fun _ => 1) k x ≤ k
  | 0, x => Nat.le_refl 0
  | k + 1, x => by
    rw [cs]
    have := cs1_le (P := P) k (P x)
    split <;> omega
theorem cs_more {P f : Nat → Nat} : ∀ k x, 8 ≤ up P k x → cs P f (k + 1) x = cs P f k x
  | 0, x, h => by
    have h : 8 ≤ x := h
    rw [cs, cs, if_neg (by omega)]
  | k + 1, x, h => by
    rw [cs, cs.eq_2 P f x k]
    by_cases c : x < 8
    · rw [up, if_pos c] at h
      rw [if_pos c, if_pos c, cs_more k (P x) h]
    · rw [if_neg c, if_neg c]
theorem dp_le (P : Nat → Nat) (x : Nat) : dp P x ≤ 8 := cs1_le 8 x
theorem dp_ge {P : Nat → Nat} {x : Nat} (h : x < 8) : 1 ≤ dp P x := by
  unfold dp
  rw [cs, if_pos h]
  omega
theorem dp_root {P : Nat → Nat} {x : Nat} (h : x < 8) (hr : 8 ≤ P x) : dp P x = 1 := by
  unfold dp
  rw [cs, if_pos h, cs, if_neg (by omega)]
theorem dp_child {P : Nat → Nat} {x : Nat} (h : x < 8) (hu : 8 ≤ up P 8 x) : dp P x = dp P (P x) + 1 := by
  unfold dp
  rw [cs.eq_2 P _ x 7, if_pos h, cs_more 7 (P x) (by rw [← up_s2 h]; exact hu)]
  omega
def vd (P : Nat → Nat) (S : Nat → Bool) (c : Nat) : Nat := vl P S (9 - dp P c) c
def dn (P : Nat → Nat) (S : Nat → Bool) (d i c : Nat) : Bool := S c && (decide (d < dp P c) || (decide (dp P c = d) && decide (c < i)))
def xv (P : Nat → Nat) (S : Nat → Bool) (q : Nat → Bool) (D : Nat → Bool) : Nat := xr (fun c => if q c = true ∧ D c = true then vd P S c else 0) 8
theorem xv_congr {P : Nat → Nat} {S : Nat → Bool} {q D D2 : Nat → Bool} (h : ∀ c, c < 8 → D2 c = D c) : xv P S q D2 = xv P S q D := xr_congr (fun j hj => by rw [h j hj])
theorem xv_in {P : Nat → Nat} {S : Nat → Bool} {q D D2 : Nat → Bool} {x : Nat} (hx : x < 8) (h : ∀ c, c < 8 → c ≠ x → D2 c = D c) (h1 : D x = false) (h2 : D2 x = true) (hq : q x = true) : xv P S q D2 = xv P S q D ^^^ vd P S x := by
  unfold xv
  rw [xr_one (f := fun c => if q c = true ∧ D c = true then vd P S c else 0) (g := fun c => if q c = true ∧ D2 c = true then vd P S c else 0) hx (fun j hj hne => by
    show (if q j = true ∧ D2 j = true then vd P S j else 0) = (if q j = true ∧ D j = true then vd P S j else 0)
    rw [h j hj hne])]
  show _ ^^^ (if q x = true ∧ D x = true then vd P S x else 0) ^^^ (if q x = true ∧ D2 x = true then vd P S x else 0) = _
  rw [if_neg (by rw [h1]; exact fun h => absurd h.2 (by decide)), if_pos ⟨hq, h2⟩, Nat.xor_zero]
theorem xv_out {P : Nat → Nat} {S : Nat → Bool} {q D D2 : Nat → Bool} {x : Nat} (h : ∀ c, c < 8 → c ≠ x → D2 c = D c) (hq : q x = false) : xv P S q D2 = xv P S q D := xr_congr (fun j hj => by
  by_cases e : j = x
  · subst e
    rw [if_neg (by rw [hq]; exact fun h => absurd h.1 (by decide)), if_neg (by rw [hq]; exact fun h => absurd h.1 (by decide))]
  · rw [h j hj e])
theorem xr_zero {f : Nat → Nat} : ∀ {n : Nat}, (∀ j, j < n → f j = 0) → xr f n = 0
  | 0, _ => rfl
  | n + 1, h => by rw [xr, h n (by omega), xr_zero (fun j hj => h j (by omega))]; rfl
theorem dn_skip {P : Nat → Nat} {S : Nat → Bool} {d i : Nat} (h : ¬ (S i = true ∧ dp P i = d)) : dn P S d (i + 1) = dn P S d i := by
  funext c
  unfold dn
  by_cases e : c = i
  · subst e
    by_cases s : S c = true
    · rw [decide_eq_false (show ¬ dp P c = d from fun q => h ⟨s, q⟩)]; rfl
    · rw [show S c = false by simpa using s]; rfl
  · rw [show decide (c < i + 1) = decide (c < i) by
      by_cases q : c < i
      · rw [decide_eq_true q, decide_eq_true (show c < i + 1 by omega)]
      · rw [decide_eq_false q, decide_eq_false (show ¬ c < i + 1 by omega)]]
theorem dn_ne {P : Nat → Nat} {S : Nat → Bool} {d i c : Nat} (e : c ≠ i) : dn P S d (i + 1) c = dn P S d i c := by
  unfold dn
  rw [show decide (c < i + 1) = decide (c < i) by
    by_cases q : c < i
    · rw [decide_eq_true q, decide_eq_true (show c < i + 1 by omega)]
    · rw [decide_eq_false q, decide_eq_false (show ¬ c < i + 1 by omega)]]
theorem dn_at {P : Nat → Nat} {S : Nat → Bool} {d i : Nat} (s : S i = true) (h : dp P i = d) : dn P S d i i = false ∧ dn P S d (i + 1) i = true := by
  unfold dn
  rw [s, h]
  simp
theorem dn_end {P : Nat → Nat} {S : Nat → Bool} {d c : Nat} (hc : c < 8) : dn P S d 0 c = dn P S (d + 1) 8 c := by
  unfold dn
  rw [decide_eq_true hc, decide_eq_false (show ¬ c < 0 by omega), Bool.and_false, Bool.or_false, Bool.and_true]
  congr 1
  by_cases q : d < dp P c
  · rw [decide_eq_true q]
    by_cases r : d + 1 < dp P c
    · rw [decide_eq_true r]; rfl
    · rw [decide_eq_true (show dp P c = d + 1 by omega), Bool.or_true]
  · rw [decide_eq_false q, decide_eq_false (show ¬ d + 1 < dp P c by omega), decide_eq_false (show ¬ dp P c = d + 1 by omega)]; rfl
def inq (P : Nat → Nat) (y : Nat) : Nat → Bool := fun c => decide (P c = y)
def top (P : Nat → Nat) : Nat → Bool := fun c => decide (8 ≤ P c)
/-- what lies in it is done: its own worth -/
theorem own_eq {P : Nat → Nat} {S : Nat → Bool} {e i : Nat} (hi : i < 8) (hS : S i = true) (hd : dp P i = e + 1) (hu : ∀ c, c < 8 → S c = true → 8 ≤ up P 8 c) : xv P S (inq P i) (dn P S (e + 1) i) + 1 = vd P S i := by
  have he : e + 1 ≤ 8 := by rw [← hd]; exact dp_le P i
  unfold vd
  rw [hd, show 9 - (e + 1) = (7 - e) + 1 by omega, vl, hS, if_pos rfl, Nat.add_comm]
  congr 1
  refine xr_congr (fun c hc => ?_)
  unfold inq
  by_cases q : P c = i
  · rw [if_pos q]
    by_cases s : S c = true
    · have h1 : dp P c = e + 2 := by rw [dp_child hc (hu c hc s), q, hd]
      rw [if_pos ⟨decide_eq_true q, by unfold dn; rw [s, h1, decide_eq_true (show e + 1 < e + 2 by omega)]; rfl⟩]
      unfold vd
      rw [h1, show 9 - (e + 2) = 7 - e by omega]
    · have s' : S c = false := by simpa using s
      rw [if_neg (fun h => by have := h.2; unfold dn at this; rw [s', Bool.false_and] at this; exact absurd this (by decide)), vl_out s']
  · rw [if_neg q, if_neg (fun h => q (of_decide_eq_true h.1))]
theorem wb33 {bk now : Nat → Int32} {T g e : Nat} {P : Nat → Nat} {S : Nat → Bool} {rec26 : (Nat → Int32) → Int32 → Int32 → Option (Int32 × (Nat → Int32))} (hT : T < 256) (hg : g < 8) (hb : bk 40 = nI T) (hST : ∀ c, c < 8 → T.testBit c = true → S c = !win P 8 c g) (hS : ∀ c, c < 8 → S c = true → T.testBit c = true) (hu : ∀ c, c < 8 → T.testBit c = true → 8 ≤ up P 8 c) (hl : ∀ c, c < 8 → T.testBit c = true → f_X10_look bk (nI c) 1 = some (nI (dp P c - 1))) (hp : ∀ x, x < 8 → T.testBit x = true → bk (32 + x) = pM (P x)) (hw : ∀ x, x < 8 → T.testBit x = true → now (32 + x) = pM (P x) ∧ (P x < 8 → T.testBit (P x) = true)) (he : e < 8) :
    ∀ (k i n : Nat) (wo : Nat → Int32), i + k = 8 → k < n → (∀ y, y < 8 → wo y = nI (xv P S (inq P y) (dn P S (e + 1) i))) → ∃ wo2 : Nat → Int32, (∀ y, y < 8 → wo2 y = nI (xv P S (inq P y) (dn P S e 0))) ∧ L_X10_worthBut_33 bk now (nI g) rec26 n wo (nI (xv P S (top P) (dn P S (e + 1) i))) (nI e) (nI i) = rec26 wo2 (nI (xv P S (top P) (dn P S e 0))) (nI e + -1) := by
  intro k
  induction k with
  | zero =>
    intro i n wo hi hn hwo
    obtain ⟨n, rfl⟩ : ∃ a, n = a + 1 := ⟨n - 1, by omega⟩
    obtain rfl : i = 8 := by omega
    refine ⟨wo, fun y hy => ?_, ?_⟩
    · rw [hwo y hy, xv_congr (D2 := dn P S e 0) (D := dn P S (e + 1) 8) (fun c hc => dn_end hc)]
    · rw [L_X10_worthBut_33.eq_2, if_pos q_88, xv_congr (D2 := dn P S e 0) (D := dn P S (e + 1) 8) (fun c hc => dn_end hc)]
  | succ k ih =>
    intro i n wo hi hn hwo
    obtain ⟨n, rfl⟩ : ∃ a, n = a + 1 := ⟨n - 1, by omega⟩
    have hi8 : i < 8 := by omega
    have skip : ¬ (S i = true ∧ dp P i = e + 1) → ∃ wo2 : Nat → Int32, (∀ y, y < 8 → wo2 y = nI (xv P S (inq P y) (dn P S e 0))) ∧ L_X10_worthBut_33 bk now (nI g) rec26 n wo (nI (xv P S (top P) (dn P S (e + 1) i))) (nI e) (nI (i + 1)) = rec26 wo2 (nI (xv P S (top P) (dn P S e 0))) (nI e + -1) := fun q => by
      have := ih (i + 1) n wo (by omega) (by omega) (by rw [dn_skip q]; exact hwo)
      rw [dn_skip q] at this
      exact this
    rw [L_X10_worthBut_33.eq_2, if_neg (q_8n hi8), q_isThere hT hi8 hb, q_bd1, nI_1]
    by_cases t : T.testBit i = true
    · have d1 := dp_ge (P := P) hi8
      have d2 := dp_le P i
      rw [t, if_neg q_t0, hl i hi8 t, q_bd1, q_ife (by omega) (by omega)]
      by_cases d : dp P i - 1 = e
      · rw [if_pos d, if_neg (nI_pos (by omega)), q_misWithin hg hi8 t (hu i hi8 t) hw, q_bd1]
        have hdi : dp P i = e + 1 := by omega
        by_cases w : win P 8 i g = true
        · rw [w, if_neg q_t0]
          exact skip (fun h => by rw [hST i hi8 t, w] at h; exact absurd h.1 (by decide))
        · have w' : win P 8 i g = false := by simpa using w
          have hSi : S i = true := by rw [hST i hi8 t, w']; rfl
          have own := own_eq hi8 hSi hdi (fun c hc s => hu c hc (hS c hc s))
          obtain ⟨a1, a2⟩ := dn_at hSi hdi
          rw [w', if_pos q_f0]
          unfold B_X10_worthBut_74
          rw [q_gin hi8 (by decide), q_lit 32, q_add, q_gin (by omega) (by decide), q_cl (show 32 + i < 2 ^ 31 by omega), q_cl (show i < 2 ^ 31 by omega), hp i hi8 t, hwo i hi8, nI_1, own, nI_1]
          by_cases r : P i < 8
          · rw [pM_in r, if_pos (nI_pos' (by omega)), q_gin (by omega) (by decide), q_gin r (by decide), q_gin r (by decide), q_cl (by omega), hwo _ r, q_xor, ← xv_in (q := inq P (P i)) (D2 := dn P S (e + 1) (i + 1)) hi8 (fun c _ ne => dn_ne ne) a1 a2 (decide_eq_true rfl)]
            have ih' := ih (i + 1) n (upd wo (P i) (nI (xv P S (inq P (P i)) (dn P S (e + 1) (i + 1))))) (by omega) (by omega) (fun y hy => by
              by_cases q : y = P i
              · rw [q, upd_g]
              · rw [upd_n q, hwo y hy, xv_out (D2 := dn P S (e + 1) (i + 1)) (D := dn P S (e + 1) i) (fun c _ ne => dn_ne ne) (decide_eq_false (fun z => q z.symm))])
            rw [xv_out (q := top P) (D2 := dn P S (e + 1) (i + 1)) (D := dn P S (e + 1) i) (x := i) (fun c _ ne => dn_ne ne) (decide_eq_false (by omega))] at ih'
            exact ih'
          · rw [pM_out r, if_neg (by decide), q_xor, ← xv_in (q := top P) (D2 := dn P S (e + 1) (i + 1)) hi8 (fun c _ ne => dn_ne ne) a1 a2 (decide_eq_true (by omega))]
            exact ih (i + 1) n wo (by omega) (by omega) (fun y hy => by
              rw [hwo y hy, xv_out (D2 := dn P S (e + 1) (i + 1)) (D := dn P S (e + 1) i) (x := i) (fun c _ ne => dn_ne ne) (decide_eq_false (by omega))])
      · rw [if_neg d]
        exact skip (fun h => d (by omega))
    · have t' : T.testBit i = false := by simpa using t
      rw [t', if_pos q_f0]
      exact skip (fun h => t (hS i hi8 h.1))
theorem wb26 {bk now : Nat → Int32} {T g : Nat} {P : Nat → Nat} {S : Nat → Bool} (hT : T < 256) (hg : g < 8) (hb : bk 40 = nI T) (hST : ∀ c, c < 8 → T.testBit c = true → S c = !win P 8 c g) (hS : ∀ c, c < 8 → S c = true → T.testBit c = true) (hu : ∀ c, c < 8 → T.testBit c = true → 8 ≤ up P 8 c) (hl : ∀ c, c < 8 → T.testBit c = true → f_X10_look bk (nI c) 1 = some (nI (dp P c - 1))) (hp : ∀ x, x < 8 → T.testBit x = true → bk (32 + x) = pM (P x)) (hw : ∀ x, x < 8 → T.testBit x = true → now (32 + x) = pM (P x) ∧ (P x < 8 → T.testBit (P x) = true)) :
    ∀ (e n : Nat) (wo : Nat → Int32), e ≤ 8 → e < n → (∀ y, y < 8 → wo y = nI (xv P S (inq P y) (dn P S e 0))) → ∃ wo2 : Nat → Int32, L_X10_worthBut_26 bk now (nI g) n wo (nI (xv P S (top P) (dn P S e 0))) (nI e + -1) = some (nI (nim P S), wo2) := by
  intro e
  induction e with
  | zero =>
    intro n wo he hn hwo
    obtain ⟨n, rfl⟩ : ∃ a, n = a + 1 := ⟨n - 1, by omega⟩
    refine ⟨wo, ?_⟩
    rw [L_X10_worthBut_26.eq_2, if_pos (by decide)]
    congr 3
    refine xr_congr (fun c hc => ?_)
    unfold top
    by_cases r : 8 ≤ P c
    · rw [if_pos r]
      by_cases s : S c = true
      · have d1 := dp_ge (P := P) hc
        rw [if_pos ⟨decide_eq_true r, by unfold dn; rw [s, decide_eq_true (show 0 < dp P c by omega)]; rfl⟩]
        unfold vd
        rw [dp_root hc r]
      · have s' : S c = false := by simpa using s
        rw [if_neg (fun h => by have := h.2; unfold dn at this; rw [s', Bool.false_and] at this; exact absurd this (by decide)), vl_out s']
    · rw [if_neg r, if_neg (fun h => r (of_decide_eq_true h.1))]
  | succ e ih =>
    intro n wo he hn hwo
    obtain ⟨n, rfl⟩ : ∃ a, n = a + 1 := ⟨n - 1, by omega⟩
    obtain ⟨wo2, h1, h2⟩ := wb33 (rec26 := L_X10_worthBut_26 bk now (nI g) n) hT hg hb hST hS hu hl hp hw (show e < 8 by omega) 8 0 FU wo rfl (by have := q_FU; omega) hwo
    obtain ⟨wo3, h3⟩ := ih n wo2 (by omega) (by omega) h1
    refine ⟨wo3, ?_⟩
    rw [L_X10_worthBut_26.eq_2, q_prd, if_neg (nI_pos (by omega)), show L_X10_worthBut_33 bk now (nI g) (L_X10_worthBut_26 bk now (nI g) n) FU wo (nI (xv P S (top P) (dn P S (e + 1) 0))) (nI e) 0 = _ from h2, h3]
theorem wb4 {bk now : Nat → Int32} {g : Nat} : ∀ (k i n : Nat) (wo : Nat → Int32), i + k = 8 → k < n → (∀ y, y < i → wo y = 0) → ∃ wo2 : Nat → Int32, (∀ y, y < 8 → wo2 y = 0) ∧ L_X10_worthBut_4 bk now (nI g) n wo 0 (nI i) = L_X10_worthBut_26 bk now (nI g) FU wo2 0 7 := by
  intro k
  induction k with
  | zero =>
    intro i n wo hi hn h
    obtain ⟨n, rfl⟩ : ∃ a, n = a + 1 := ⟨n - 1, by omega⟩
    obtain rfl : i = 8 := by omega
    exact ⟨wo, h, by rw [L_X10_worthBut_4.eq_2, if_pos q_88]⟩
  | succ k ih =>
    intro i n wo hi hn h
    obtain ⟨n, rfl⟩ : ∃ a, n = a + 1 := ⟨n - 1, by omega⟩
    rw [L_X10_worthBut_4.eq_2, if_neg (q_8n (by omega)), q_gin (by omega) (by decide), q_cl (by omega), nI_1]
    refine ih (i + 1) n _ (by omega) (by omega) (fun y hy => ?_)
    by_cases e : y = i
    · rw [e, upd_g]
    · rw [upd_n e]
      exact h y (by omega)
theorem q_worthBut {bk now wo : Nat → Int32} {T g : Nat} {P : Nat → Nat} (hT : T < 256) (hg : g < 8) (hb : bk 40 = nI T) (hu : ∀ c, c < 8 → T.testBit c = true → 8 ≤ up P 8 c) (hl : ∀ c, c < 8 → T.testBit c = true → f_X10_look bk (nI c) 1 = some (nI (dp P c - 1))) (hp : ∀ x, x < 8 → T.testBit x = true → bk (32 + x) = pM (P x)) (hw : ∀ x, x < 8 → T.testBit x = true → now (32 + x) = pM (P x) ∧ (P x < 8 → T.testBit (P x) = true)) : ∃ wo2 : Nat → Int32, f_X10_worthBut bk now wo (nI g) = some (nI (nim P (rmv P (bs T) g)), wo2) := by
  obtain ⟨w1, h1, h2⟩ := wb4 (bk := bk) (now := now) (g := g) 8 0 FU wo rfl (by have := q_FU; omega) (fun y h => absurd h (by omega))
  have z : ∀ q : Nat → Bool, xv P (rmv P (bs T) g) q (dn P (rmv P (bs T) g) 8 0) = 0 := fun q => xr_zero (fun c hc => by
    rw [if_neg (fun h => by
      have := h.2
      have d := dp_le P c
      unfold dn at this
      rw [decide_eq_false (show ¬ 8 < dp P c by omega), decide_eq_false (show ¬ c < 0 by omega), Bool.and_false, Bool.or_false, Bool.and_false] at this
      exact absurd this (by decide))])
  obtain ⟨w2, h3⟩ := wb26 (S := rmv P (bs T) g) hT hg hb (fun c hc t => by unfold rmv; rw [show bs T c = true from t, Bool.true_and]) (fun c hc s => by unfold rmv at s; rw [Bool.and_eq_true] at s; exact s.1) hu hl hp hw 8 FU w1 (by omega) (by have := q_FU; omega) (fun y hy => by rw [z, h1 y hy]; rfl)
  rw [z] at h3
  refine ⟨w2, ?_⟩
  unfold f_X10_worthBut
  rw [show L_X10_worthBut_4 bk now (nI g) FU wo 0 0 = _ from h2, ← h3]
  rfl
theorem th22 {bk now : Nat → Int32} {T : Nat} {P : Nat → Nat} {p1 fa fw : Int32} (hT : T < 256) (hb : bk 40 = nI T) (hu : ∀ c, c < 8 → T.testBit c = true → 8 ≤ up P 8 c) (hl : ∀ c, c < 8 → T.testBit c = true → f_X10_look bk (nI c) 1 = some (nI (dp P c - 1))) (hp : ∀ x, x < 8 → T.testBit x = true → bk (32 + x) = pM (P x)) (hw : ∀ x, x < 8 → T.testBit x = true → now (32 + x) = pM (P x) ∧ (P x < 8 → T.testBit (P x) = true)) :
    ∀ (i n : Nat) (wo : Nat → Int32), i ≤ 8 → i < n → ∃ wo2 : Nat → Int32, L_X10_thumb_22 bk p1 n now fa fw wo (ff (wp P T) (8 - i) i) (nI i + -1) = if p1 = 1 then some (ff (wp P T) 8 0, now, fa, fw, wo2) else if 0 ≤ ff (wp P T) 8 0 then some (1, now, fa, fw, wo2) else some (0, now, fa, fw, wo2) := by
  intro i
  induction i with
  | zero =>
    intro n wo hi hn
    obtain ⟨n, rfl⟩ : ∃ a, n = a + 1 := ⟨n - 1, by omega⟩
    exact ⟨wo, by rw [L_X10_thumb_22.eq_2, if_pos (by decide)]⟩
  | succ i ih =>
    intro n wo hi hn
    obtain ⟨n, rfl⟩ : ∃ a, n = a + 1 := ⟨n - 1, by omega⟩
    have hi8 : i < 8 := by omega
    rw [L_X10_thumb_22.eq_2, q_prd, if_neg (nI_pos (by omega)), q_isThere hT hi8 hb, q_bd1]
    rw [show 8 - i = 8 - (i + 1) + 1 by omega, ff] at ih
    by_cases t : T.testBit i = true
    · obtain ⟨w2, h2⟩ := q_worthBut (wo := wo) hT hi8 hb hu hl hp hw
      have hn8 := nim_bd (P := P) (S := rmv P (bs T) i)
      rw [t, if_neg q_t0, h2, q_bd2, show (0 : Int32) = nI 0 from rfl, q_ife (by omega) (by decide)]
      by_cases z : nim P (rmv P (bs T) i) = 0
      · rw [if_pos (show wp P T i = true by unfold wp; rw [t, decide_eq_true z]; rfl)] at ih
        rw [if_pos z]
        exact ih n w2 (by omega) (by omega)
      · rw [if_neg (show ¬ wp P T i = true by unfold wp; rw [decide_eq_false z, Bool.and_false]; decide)] at ih
        rw [if_neg z]
        exact ih n w2 (by omega) (by omega)
    · have t' : T.testBit i = false := by simpa using t
      rw [if_neg (show ¬ wp P T i = true by unfold wp; rw [t', Bool.false_and]; decide)] at ih
      rw [t', if_pos q_f0]
      exact ih n wo (by omega) (by omega)
theorem ff_ge {p : Nat → Bool} : ∀ {k i : Nat}, i + k ≤ 8 → ff p k i = -6 ∨ 0 ≤ ff p k i
  | 0, i, _ => Or.inl rfl
  | k + 1, i, h => by
    rw [ff]
    split
    · exact Or.inr (nI_pos' (by omega))
    · exact ff_ge (by omega)
theorem core_thumb {wat fla fly lea clo con inn : Nat → Int32} {th mu ta ho : Int32} {bk flk lek : Nat → Int32} {mus : Int32} (h : SH wat fla fly lea clo con inn th mu ta ho bk flk lek mus) (wi wt now : Nat → Int32) (fa fw : Int32) (wo : Nat → Int32) (y1 : Int32) : ∃ (r : Int32) (wi2 wt2 now2 : Nat → Int32) (fa2 fw2 : Int32) (wo2 : Nat → Int32), f_X9_thumb inn th wi wt y1 = some (r, wi2, wt2) ∧ f_X10_thumb bk now fa fw wo y1 = some (r, now2, fa2, fw2, wo2) := by
  unfold f_X9_thumb f_X10_thumb
  rcases q_upTo y1 1 (by omega) with ⟨a, b⟩ | ⟨j, hj, rfl, a, b⟩
  · exact ⟨-2, wi, wt, now, fa, fw, wo, by rw [show f_X9_isUpTo y1 1 = _ from a, q_bd1, if_pos rfl], by rw [show f_X10_in y1 0 1 = _ from b, q_bd1, if_pos rfl]⟩
  rw [show f_X9_isUpTo (nI j) 1 = _ from a, show f_X10_in (nI j) 0 1 = _ from b, q_bd1, q_bd1, if_neg (show ¬ (1 : Int32) = 0 by decide), if_neg (show ¬ (1 : Int32) = 0 by decide)]
  obtain ⟨now2, hnw, hno⟩ := asNow bk now fa fw
  obtain ⟨T, U, hr, W, F, V, K, C, Q, P, ⟨hT, hU, hhr⟩, ⟨e1, e2, e3⟩, ⟨m1, m2, m3, m4⟩, hok, hx, hm, hn⟩ := h
  have hc : ∀ x, x < 8 → T.testBit x = true → P x < 8 → T.testBit (P x) = true := fun x a b => (hok x a b).2.2.2.2.2.2.1
  have hu : ∀ i, i < 8 → T.testBit i = true → 8 ≤ up P 8 i := fun i a b => (hok i a b).2.2.2.2.2.2.2
  have hpx : ∀ x, x < 8 → T.testBit x = true → inn x = pX (P x) ∧ (P x < 8 → T.testBit (P x) = true) := fun x a b => ⟨(hx x a b).2.2.2.2.2.2, hc x a b⟩
  have hpb : ∀ x, x < 8 → T.testBit x = true → bk (32 + x) = pM (P x) := fun x a b => (hm x a b).2.2.2.2.2.2
  have hpm : ∀ x, x < 8 → T.testBit x = true → now2 (32 + x) = pM (P x) ∧ (P x < 8 → T.testBit (P x) = true) := fun x a b => ⟨by rw [hno (32 + x) (by omega)]; exact hpb x a b, hc x a b⟩
  have hl : ∀ g, g < 8 → T.testBit g = true → f_X10_look bk (nI g) 1 = some (nI (dp P g - 1)) := fun g hg ht => by
    obtain ⟨n1, n2, n3, n4, n5, n6, n7⟩ := hm g hg ht
    obtain ⟨k1, k2, k3, k4, k5, k6, k7, k8⟩ := hok g hg ht
    have hl := look_m (p1 := nI g) (p2 := 1) (T := T) (C := C) (P := P) (bk := bk) (by omega) (fun x a b => ⟨(hm x a b).2.2.2.2.1, (hok x a b).2.2.2.2.1, (hm x a b).2.2.2.2.2.2, hc x a b⟩) (V g) (by omega) 8 FU g 0 0 (by have := q_FU; omega) (by omega) (by omega) (by omega) (fun _ => ht) k8
    rw [show nI (V g) - nI 0 = nI (V g) by rw [q_subN (by omega)]; rfl, show nI 0 - 1 = (-1 : Int32) by decide, pM_in hg, Nat.zero_add, Nat.zero_add, if_pos rfl] at hl
    unfold f_X10_look
    have hd := dp_ge (P := P) hg
    rw [q_isThere hT hg m1, ht, q_bd1, if_neg q_t0, show f_X10_in 1 0 1 = some 1 by decide, q_bd1, if_neg (show ¬ (1 : Int32) = 0 by decide), q_lit 8, q_add, q_gin (by omega) (by decide), q_cl (by omega), n3, show L_X10_look_38 bk (nI g) 1 FU (nI (V g)) (-1) (nI g) = _ from hl, show nI (cs P (fun _ => 1) 8 g) - 1 = nI (dp P g - 1) by
      obtain ⟨z, hz⟩ : ∃ z, dp P g = z + 1 := ⟨dp P g - 1, by omega⟩
      rw [show cs P (fun _ => 1) 8 g = dp P g from rfl, hz, nI_pred]; rfl]
  have hTT : okX P T T := ⟨hT, fun _ _ h => h, fun x a b => ⟨hu x a b, hc x a b⟩⟩
  obtain ⟨wi2, wt2, hf⟩ := q_firstTaken hTT hpx wi wt
  obtain ⟨wo2, h22⟩ := th22 (p1 := nI j) (fa := -6) (fw := -6) hT m1 hu hl hpb hpm 8 FU wo (by omega) (by have := q_FU; omega)
  rw [hnw, q_bd3, show L_X10_thumb_22 bk (nI j) FU now2 (-6) (-6) wo (-6) 7 = _ from h22, e1, hf, q_bd3]
  obtain rfl | rfl : j = 0 ∨ j = 1 := by omega
  · rw [if_neg (show ¬ nI 0 = (1 : Int32) by decide), if_neg (show ¬ nI 0 = (1 : Int32) by decide)]
    rcases ff_ge (p := wp P T) (k := 8) (i := 0) (by omega) with q | q
    · exact ⟨0, wi2, wt2, now2, -6, -6, wo2, by rw [if_pos q], by rw [q, if_neg (by decide)]⟩
    · exact ⟨1, wi2, wt2, now2, -6, -6, wo2, by rw [if_neg (fun e => by rw [e] at q; exact absurd q (by decide))], by rw [if_pos q]⟩
  · exact ⟨_, wi2, wt2, now2, -6, -6, wo2, by rw [if_pos (show nI 1 = (1 : Int32) from rfl)], by rw [if_pos (show nI 1 = (1 : Int32) from rfl)]⟩
