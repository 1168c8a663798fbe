/-! pure: look -/
def sm (f : Nat → Nat) : Nat → Nat
  | 0 => 0
  | n + 1 => sm f n + f n
theorem sm_congr {f g : Nat → Nat} : ∀ {n : Nat}, (∀ j, j < n → f j = g j) → sm f n = sm g n
  | 0, _ => rfl
  | n + 1, h => by rw [sm, sm, h n (by omega), sm_congr (fun j hj => h j (by omega))]
theorem sm_one (b : Nat → Nat) (x a : Nat) : ∀ n, sm (fun g => (if g = x then a else 0) + b g) n = (if x < n then a else 0) + sm b n
  | 0 => by rw [if_neg (by omega)]; rfl
  | n + 1 => by
    rw [sm, sm, sm_one b x a n]
    by_cases c : n = x
    · rw [if_pos c, if_neg (by omega), if_pos (by omega)]; omega
    · rw [if_neg c]
      by_cases c2 : x < n
      · rw [if_pos c2, if_pos (by omega)]; omega
      · rw [if_neg c2, if_neg (by omega)]; omega
theorem sm_zero : ∀ n, sm (fun _ => 0) n = 0
  | 0 => rfl
  | n + 1 => by rw [sm, sm_zero n]
theorem sm_le {f : Nat → Nat} {c : Nat} : ∀ {n : Nat}, (∀ j, j < n → f j ≤ c) → sm f n ≤ n * c
  | 0, _ => by rw [sm]; omega
  | n + 1, h => by
    have h1 := sm_le (n := n) (fun j hj => h j (by omega))
    have h2 := h n (by omega)
    rw [sm, Nat.succ_mul]
    omega
/-- along the chain -/
def cs (P f : Nat → Nat) : Nat → Nat → Nat
  | 0, _ => 0
  | k + 1, x => if x < 8 then f x + cs P f k (P x) else 0
theorem up_cycle {P : Nat → Nat} {j x : Nat} (h : up P j x = x) : ∀ m, up P (m * j) x = x
  | 0 => by rw [Nat.zero_mul]; rfl
  | m + 1 => by rw [Nat.succ_mul, Nat.add_comm, up_add, h]; exact up_cycle h m
theorem win_self {P : Nat → Nat} {k x : Nat} (hx : x < 8) (hu : 8 ≤ up P (k + 1) x) : win P k (P x) x = false := by
  cases hw : win P k (P x) x with
  | false => rfl
  | true =>
    obtain ⟨j, hj, e⟩ := (win_up hx).mp hw
    have e2 : up P (j + 1) x = x := by rw [up, if_pos hx]; exact e
    have e3 := up_cycle e2 (k + 1)
    have : 8 ≤ up P ((k + 1) * (j + 1)) x := up_le hu (by rw [Nat.mul_succ]; omega)
    omega
theorem win_sum {P f : Nat → Nat} : ∀ (k x : Nat), 8 ≤ up P k x → sm (fun g => if win P k x g then f g else 0) 8 = cs P f k x
  | 0, x, h => by
    rw [cs]
    exact (sm_congr (fun j _ => by simp [win])).trans (sm_zero 8)
  | k + 1, x, h => by
    rw [cs]
    by_cases c : x < 8
    · rw [if_pos c]
      have hs := win_self c h
      have h' : 8 ≤ up P k (P x) := by rw [up, if_pos c] at h; exact h
      rw [← win_sum k (P x) h']
      have e : ∀ g, g < 8 → (if win P (k + 1) x g then f g else 0) = (if g = x then f x else 0) + (if win P k (P x) g then f g else 0) := by
        intro g hg
        rw [win, if_pos c]
        by_cases e : x = g
        · subst e
          rw [if_pos rfl, if_pos rfl, hs]; simp
        · rw [if_neg e, if_neg (show ¬ g = x from fun h => e h.symm), Nat.zero_add]
      rw [sm_congr e, sm_one, if_pos c]
    · rw [if_neg c]
      refine (sm_congr (fun j _ => ?_)).trans (sm_zero 8)
      rw [win, if_neg c]; rfl
theorem pc8_sm : ∀ D : Fin 256, pc8 D.val = sm (fun g => if D.val.testBit g then 1 else 0) 8 := by decide +kernel
theorem cs_le {P f : Nat → Nat} {c : Nat} {T : Nat} (hf : ∀ x, x < 8 → T.testBit x = true → f x ≤ c) (hc : ∀ x, x < 8 → T.testBit x = true → P x < 8 → T.testBit (P x) = true) : ∀ (k x : Nat), (x < 8 → T.testBit x = true) → cs P f k x ≤ k * c
  | 0, x, _ => by rw [cs]; omega
  | k + 1, x, hx => by
    rw [cs, Nat.succ_mul]
    by_cases h : x < 8
    · rw [if_pos h]
      have h1 := hf x h (hx h)
      have h2 := cs_le hf hc k (P x) (fun h3 => hc x h (hx h) h3)
      omega
    · rw [if_neg h]; omega
/-- the class: what is seen -/
theorem vis_l {fly clo inn : Nat → Int32} {T x : Nat} {V C P : Nat → Nat} (hT : T < 256) (hx : x < 8) (htx : T.testBit x = true) (hv : fly x = nI (V x)) (hp : ∀ x, x < 8 → T.testBit x = true → inn x = pX (P x) ∧ (P x < 8 → T.testBit (P x) = true)) (hc : ∀ g, g < 8 → T.testBit g = true → clo g = nI (C g) ∧ C g ≤ 9) (hup : ∀ g, g < 8 → T.testBit g = true → win P 8 x g = true → True) (hin : ∀ g, g < 8 → win P 8 x g = true → T.testBit g = true) (hv9 : V x ≤ 99) : ∀ (k i n : Nat), i + k = 8 → k < n → L_X6_visible_14 fly clo inn (nI T) (nI x) n (nI (sm (fun g => if win P 8 x g then 10 * C g else 0) i)) (nI i) = some (nI (V x - sm (fun g => if win P 8 x g then 10 * C g else 0) 8)) := by
  have hb : ∀ n, n ≤ 8 → sm (fun g => if win P 8 x g then 10 * C g else 0) n ≤ n * 90 := fun n hn => sm_le (fun j hj => by
    by_cases w : win P 8 x j = true
    · rw [if_pos w]
      have := (hc j (by omega) (hin j (by omega) w)).2
      omega
    · rw [if_neg w]; omega)
  intro k
  induction k with
  | zero =>
    intro i n hi hn
    obtain ⟨n, rfl⟩ : ∃ a, n = a + 1 := ⟨n - 1, by omega⟩
    obtain rfl : i = 8 := by omega
    have := hb 8 (by omega)
    rw [L_X6_visible_14.eq_2, if_pos q_88, q_gin hx (by decide), q_cl (by omega), hv, q_jsub (by omega) (by omega)]
  | succ k ih =>
    intro i n hi hn
    obtain ⟨n, rfl⟩ : ∃ a, n = a + 1 := ⟨n - 1, by omega⟩
    have hi8 : i < 8 := by omega
    have ih' := ih (i + 1) n (by omega) (by omega)
    rw [L_X6_visible_14.eq_2, if_neg (q_8n hi8), q_isWithin hT hi8 hx hp, htx, Bool.true_and, q_bd1, nI_1]
    rw [sm] at ih'
    by_cases w : win P 8 x i = true
    · rw [w, if_neg q_t0, q_gin hi8 (by decide), q_cl (by omega), (hc i hi8 (hin i hi8 w)).1, q_lit 10, pk_mul, q_add]
      rw [if_pos w] at ih'
      exact ih'
    · have w' : win P 8 x i = false := by simpa using w
      rw [w', if_pos q_f0]
      rw [if_neg w, Nat.add_zero] at ih'
      exact ih'
theorem round_l {inn : Nat → Int32} {T x : Nat} {P : Nat → Nat} (hT : T < 256) (hx : x < 8) (htx : T.testBit x = true) (hp : ∀ x, x < 8 → T.testBit x = true → inn x = pX (P x) ∧ (P x < 8 → T.testBit (P x) = true)) : ∀ (k i n : Nat), i + k = 8 → k < n → L_X6_bitsRound_4 inn (nI T) (nI x) n (nI (orB (fun g => decide (g ≠ x) && win P 8 x g) i)) (nI i) = some (nI (orB (fun g => decide (g ≠ x) && win P 8 x g) 8)) := by
  intro k
  induction k with
  | zero =>
    intro i n hi hn
    obtain ⟨n, rfl⟩ : ∃ a, n = a + 1 := ⟨n - 1, by omega⟩
    obtain rfl : i = 8 := by omega
    rw [L_X6_bitsRound_4.eq_2, if_pos q_88]
  | succ k ih =>
    intro i n hi hn
    obtain ⟨n, rfl⟩ : ∃ a, n = a + 1 := ⟨n - 1, by omega⟩
    have hi8 : i < 8 := by omega
    have ih' := ih (i + 1) n (by omega) (by omega)
    rw [L_X6_bitsRound_4.eq_2, if_neg (q_8n hi8), q_ife (by omega) (by omega), nI_1]
    by_cases e : i = x
    · rw [if_pos e]
      rw [orB, if_neg (by simp [e])] at ih'
      exact ih'
    · rw [if_neg e, q_isWithin hT hi8 hx hp, htx, Bool.true_and, q_bd1]
      by_cases w : win P 8 x i = true
      · rw [w, if_neg q_t0, q_one hi8, q_or]
        rw [orB, if_pos (by simp [e, w])] at ih'
        exact ih'
      · have w' : win P 8 x i = false := by simpa using w
        rw [w', if_pos q_f0]
        rw [orB, if_neg (by simp [w'])] at ih'
        exact ih'
/-- the reference walks the chain -/
theorem look_m {bk : Nat → Int32} {T : Nat} {C P : Nat → Nat} {p1 : Int32} {p2 : Nat} (hp2 : p2 ≤ 1) (hm : ∀ x, x < 8 → T.testBit x = true → bk (16 + x) = nI (C x) ∧ C x ≤ 9 ∧ bk (32 + x) = pM (P x) ∧ (P x < 8 → T.testBit (P x) = true)) (v : Nat) (hv : v ≤ 99) : ∀ (k n x s d : Nat), k < n → k ≤ 8 → s + k * 90 ≤ 800 → d + k ≤ 9 → (x < 8 → T.testBit x = true) → 8 ≤ up P k x → L_X10_look_38 bk p1 (nI p2) n (nI v - nI s) (nI d - 1) (pM x) = some (if p2 = 1 then nI (d + cs P (fun _ => 1) k x) - 1 else nI (v - (s + cs P (fun g => 10 * C g) k x))) := by
  have h6 : (-6 : Int32) < 0 := by decide
  have fin : ∀ s : Nat, s ≤ 800 → (if (0 : Int32) ≤ nI v - nI s then some (nI v - nI s) else some 0) = some (nI (v - s)) := by
    intro s hs
    by_cases c : v < s
    · rw [if_neg, show v - s = 0 by omega]
      · rfl
      · have := pk_sneg (a := v) (b := s) (by omega) c
        intro h
        rw [Int32.lt_iff_toInt_lt] at this
        rw [Int32.le_iff_toInt_le] at h
        omega
    · rw [q_subN (by omega), if_pos (nI_pos' (by omega))]
  intro k
  induction k with
  | zero =>
    intro n x s d hn hk hs hd hx hu
    obtain ⟨n, rfl⟩ : ∃ a, n = a + 1 := ⟨n - 1, by omega⟩
    have hu : 8 ≤ x := hu
    rw [L_X10_look_38.eq_2, pM_out (by omega), if_pos h6, q_lit 1, q_ife (by omega) (by decide), fin s (by omega), cs, cs]
    by_cases c : p2 = 1
    · rw [if_pos c, if_pos c]; rfl
    · rw [if_neg c, if_neg c]; rfl
  | succ k ih =>
    intro n x s d hn hk hs hd hx hu
    obtain ⟨n, rfl⟩ : ∃ a, n = a + 1 := ⟨n - 1, by omega⟩
    rw [cs, cs]
    by_cases c : x < 8
    · obtain ⟨m1, m2, m3, m4⟩ := hm x c (hx c)
      rw [up, if_pos c] at hu
      rw [L_X10_look_38.eq_2, pM_in c, if_neg (nI_pos (by omega)), q_lit 16, q_lit 32, q_add, q_add, q_gin (by omega) (by decide), q_gin (by omega) (by decide), q_cl (by omega), q_cl (by omega), m1, m3, q_lit 10, pk_mul, if_pos c, if_pos c]
      have e1 : nI v - nI s - nI (10 * C x) = nI v - nI (s + 10 * C x) := by
        rw [← nI_add, Int32.sub_eq_add_neg, Int32.sub_eq_add_neg, Int32.sub_eq_add_neg, Int32.neg_add, Int32.sub_eq_add_neg, Int32.add_assoc]
      have e2 : nI d - 1 + 1 = nI (d + 1) - 1 := by
        rw [nI_pred, Int32.sub_add_cancel]
      rw [e1, e2, ih n (P x) (s + 10 * C x) (d + 1) (by omega) (by omega) (by omega) (by omega) m4 hu, show d + 1 + cs P (fun _ => 1) k (P x) = d + (1 + cs P (fun _ => 1) k (P x)) by omega, show s + 10 * C x + cs P (fun g => 10 * C g) k (P x) = s + (10 * C x + cs P (fun g => 10 * C g) k (P x)) by omega]
    · rw [L_X10_look_38.eq_2, pM_out c, if_pos h6, q_lit 1, q_ife (by omega) (by decide), fin s (by omega), if_neg c, if_neg c]
      by_cases c : p2 = 1
      · rw [if_pos c, if_pos c]; rfl
      · rw [if_neg c, if_neg c]; rfl
theorem core_look {wat fla fly lea clo con inn : Nat → Int32} {th mu ta ho : Int32} {bk flk lek : Nat → Int32} {mus : Int32} (h : SH wat fla fly lea clo con inn th mu ta ho bk flk lek mus) (y1 y2 : Int32) : ∃ r, f_X9_look fly clo inn th y1 y2 = some r ∧ f_X10_look bk y1 y2 = some r := by
  unfold f_X9_look f_X10_look
  rcases q_ix y1 with c | c | ⟨g, hg, rfl⟩
  · rw [q_has_n c, q_isThere_n c]
    exact ⟨_, rfl, rfl⟩
  · rw [q_has_b c, q_isThere_b c]
    exact ⟨_, rfl, rfl⟩
  · obtain ⟨T, U, hr, W, F, V, K, C, Q, P, ⟨hT, hU, hhr⟩, ⟨e1, e2, e3⟩, ⟨m1, m2, m3, m4⟩, hok, hx, hm, hn⟩ := h
    rw [e1, q_has hT hg, q_isThere hT hg m1, q_bd1, q_bd1]
    by_cases ht : T.testBit g = true
    · obtain ⟨x1, x2, x3, x4, x5, x6, x7⟩ := hx g hg ht
      obtain ⟨n1, n2, n3, n4, n5, n6, n7⟩ := hm g hg ht
      obtain ⟨k1, k2, k3, k4, k5, k6, k7, k8⟩ := hok g hg ht
      rw [ht, if_neg q_t0, if_neg q_t0, q_lit 1]
      rcases q_upTo y2 1 (by omega) with ⟨a, b⟩ | ⟨j, hj, rfl, a, b⟩
      · rw [a, b]
        exact ⟨_, rfl, rfl⟩
      · rw [a, b, q_bd1, q_bd1, if_neg (show ¬ (1 : Int32) = 0 by decide), if_neg (show ¬ (1 : Int32) = 0 by decide)]
        have hc : ∀ x, x < 8 → T.testBit x = true → P x < 8 → T.testBit (P x) = true := fun x a b => (hok x a b).2.2.2.2.2.2.1
        have hpx : ∀ x, x < 8 → T.testBit x = true → inn x = pX (P x) ∧ (P x < 8 → T.testBit (P x) = true) := fun x a b => ⟨(hx x a b).2.2.2.2.2.2, hc x a b⟩
        have hin : ∀ y, y < 8 → win P 8 g y = true → T.testBit y = true := by
          intro y hy hw
          obtain ⟨k, hk, e⟩ := (win_up hy).mp hw
          have : ∀ k, up P k g < 8 → T.testBit (up P k g) = true := by
            intro k
            induction k with
            | zero => intro _; exact ht
            | succ k ih =>
              intro h8
              rw [up_add P k 1] at h8 ⊢
              by_cases c : up P k g < 8
              · rw [up, if_pos c] at h8 ⊢
                exact hc _ c (ih c) h8
              · rw [up_big (by omega)] at h8
                omega
          rw [← e]
          exact this k (by omega)
        have hl := look_m (p1 := nI g) (p2 := j) (T := T) (C := C) (P := P) (bk := bk) hj (fun x a b => ⟨(hm x a b).2.2.2.2.1, (hok x a b).2.2.2.2.1, (hm x a b).2.2.2.2.2.2, hc x a b⟩) (V g) (by omega) 8 FU g 0 0 (by have := q_FU; omega) (by omega) (by omega) (by omega) (fun _ => ht) k8
        rw [show nI (V g) - nI 0 = nI (V g) by rw [q_subN (by omega)]; rfl, show nI 0 - 1 = (-nI 1 : Int32) from rfl, pM_in hg, Nat.zero_add, Nat.zero_add] at hl
        rw [q_lit 8, q_add, q_gin (by omega) (by decide), q_cl (by omega), n3, hl]
        have hd8 : 1 ≤ cs P (fun _ => 1) 8 g := by rw [cs, if_pos hg]; omega
        rcases (show j = 0 ∨ j = 1 by omega) with rfl | rfl
        · refine ⟨_, ?_, rfl⟩
          unfold f_X6_visible
          rw [if_pos (show nI 0 = (0 : Int32) from rfl), q_has hT hg, ht, q_bd1, if_neg q_t0]
          have := vis_l hT hg ht x3 hpx (fun g a b => ⟨(hx g a b).2.2.2.2.1, (hok g a b).2.2.2.2.1⟩) (fun _ _ _ _ => trivial) hin (by omega) 8 0 FU rfl (by have := q_FU; omega)
          rw [show (sm (fun y => if win P 8 g y then 10 * C y else 0) 0) = 0 from rfl] at this
          rw [show L_X6_visible_14 fly clo inn (nI T) (nI g) FU 0 0 = _ from this, q_bd1, win_sum 8 g k8]
          rfl
        · refine ⟨_, ?_, rfl⟩
          unfold f_X6_depth f_X6_bitsRound
          have hr' := round_l hT hg ht hpx 8 0 FU rfl (by have := q_FU; omega)
          rw [if_neg (show ¬ nI 1 = (0 : Int32) by decide), show L_X6_bitsRound_4 inn (nI T) (nI g) FU 0 0 = _ from hr', q_bd1, q_bitCount8 ⟨_, orB_lt _ 8⟩, q_bd1, q_bd1, pc8_sm ⟨_, orB_lt _ 8⟩]
          have hsum : sm (fun y => if win P 8 g y then 1 else 0) 8 = sm (fun y => if (orB (fun y => decide (y ≠ g) && win P 8 g y) 8).testBit y then 1 else 0) 8 + 1 := by
            have e : ∀ y, y < 8 → (if win P 8 g y = true then 1 else 0) = (if y = g then 1 else 0) + (if (orB (fun y => decide (y ≠ g) && win P 8 g y) 8).testBit y = true then 1 else 0) := by
              intro y hy
              rw [orB_bit]
              by_cases e : y = g
              · subst e
                have : win P 8 y y = true := by rw [win, if_pos hy, if_pos rfl]
                simp [this]
              · simp [e, hy]
            rw [sm_congr e, sm_one, if_pos hg, Nat.add_comm]
          have hw := win_sum (f := fun _ => 1) 8 g k8
          show some (nI (sm (fun y => if (orB (fun y => decide (y ≠ g) && win P 8 g y) 8).testBit y = true then 1 else 0) 8)) = some (nI (cs P (fun _ => 1) 8 g) - 1)
          rw [← hw, hsum, nI_pred]
    · have ht' : T.testBit g = false := by simpa using ht
      rw [ht']
      exact ⟨_, rfl, rfl⟩
