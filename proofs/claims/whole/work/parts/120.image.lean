/-! pure: image, restore (printed by mk120.py) -/
theorem STR_congrM {wat fla fly lea clo con inn : Nat → Int32} {th mu ta ho : Int32} {od hs fs : Nat → Int32} {sz : Int32} {bk flk lek : Nat → Int32} {mus : Int32} {rk : Nat → Int32} {msz : Int32} {ms : Nat → Int32} {bk2 flk2 lek2 rk2 ms2 : Nat → Int32} (h : STR wat fla fly lea clo con inn th mu ta ho od hs fs sz bk flk lek mus rk msz ms) (e1 : ∀ k, k < 43 → bk2 k = bk k) (e2 : ∀ k, k < 8 → flk2 k = flk k) (e3 : ∀ k, k < 8 → lek2 k = lek k) (e4 : ∀ k, k < 6 → rk2 k = rk k) (e5 : ∀ k, k < 16 → ms2 k = ms k) : STR wat fla fly lea clo con inn th mu ta ho od hs fs sz bk2 flk2 lek2 mus rk2 msz ms2 := by
  obtain ⟨h1, h2, n, hn, n1, n2, n3⟩ := h
  refine ⟨?_, fun k hk => ?_, n, hn, n1, n2, fun i hi => ?_⟩
  · obtain ⟨T, U, hr, W, F, V, K, C, Q, P, hT, e, m, hok, hx, hm, hn⟩ := SH_congr h1 e1
    refine ⟨T, U, hr, W, F, V, K, C, Q, P, hT, e, m, hok, hx, fun g hg ht => ?_, hn⟩
    rw [e2 g hg, e3 g hg]
    exact hm g hg ht
  · rw [e4 k hk]
    exact h2 k hk
  · rw [e5 _ (by omega), e5 _ (by omega)]
    exact n3 i hi
theorem STR_congrX {wat fla fly lea clo con inn : Nat → Int32} {th mu ta ho : Int32} {od hs fs : Nat → Int32} {sz : Int32} {bk flk lek : Nat → Int32} {mus : Int32} {rk : Nat → Int32} {msz : Int32} {ms : Nat → Int32} {wat2 fla2 fly2 lea2 clo2 con2 inn2 od2 hs2 fs2 : Nat → Int32} (h : STR wat fla fly lea clo con inn th mu ta ho od hs fs sz bk flk lek mus rk msz ms) (h1 : ∀ j, j < 8 → wat2 j = wat j) (h2 : ∀ j, j < 8 → fla2 j = fla j) (h3 : ∀ j, j < 8 → fly2 j = fly j) (h4 : ∀ j, j < 8 → lea2 j = lea j) (h5 : ∀ j, j < 8 → clo2 j = clo j) (h6 : ∀ j, j < 8 → con2 j = con j) (h7 : ∀ j, j < 8 → inn2 j = inn j) (h8 : ∀ j, j < 36 → od2 j = od j) (h9 : ∀ j, j < 8 → hs2 j = hs j) (h10 : ∀ j, j < 8 → fs2 j = fs j) : STR wat2 fla2 fly2 lea2 clo2 con2 inn2 th mu ta ho od2 hs2 fs2 sz bk flk lek mus rk msz ms := by
  obtain ⟨g1, g2, n, hn, n1, n2, n3⟩ := h
  refine ⟨SH_congrX g1 h1 h2 h3 h4 h5 h6 h7, fun k hk => ?_, n, hn, n1, n2, fun i hi => ?_⟩
  · obtain ⟨d, d1, d2, d3, d4⟩ := g2 k hk
    exact ⟨d, d1, d2, fun i hi => by rw [h8 _ (by omega)]; exact d3 i hi, d4⟩
  · rw [h9 _ (by omega), h10 _ (by omega)]
    exact n3 i hi
theorem q_cpy36 {f g : Nat → Int32} {j : Nat} (h : j < 36) : va_cpy f g (Int32.toNatClampNeg 0) (Int32.toNatClampNeg 0) (Int32.toNatClampNeg 36) j = f j := by
  rw [show Int32.toNatClampNeg (0 : Int32) = 0 from rfl, show Int32.toNatClampNeg (36 : Int32) = 36 from rfl, pk_cpy_in (by omega) (by omega)]
  congr 1
  omega
theorem takeRealm (wat1 : Nat → Int32) (fla1 : Nat → Int32) (fly1 : Nat → Int32) (lea1 : Nat → Int32) (clo1 : Nat → Int32) (con1 : Nat → Int32) (inn1 : Nat → Int32) (th1 : Int32) (mu1 : Int32) (ta1 : Int32) (ho1 : Int32) (od1 : Nat → Int32) (hs1 : Nat → Int32) (fs1 : Nat → Int32) (sz1 : Int32) {wat fla fly lea clo con inn : Nat → Int32} {th mu ta ho : Int32} {od hs fs : Nat → Int32} {sz : Int32} {bk flk lek : Nat → Int32} {mus : Int32} {rk : Nat → Int32} {msz : Int32} {ms : Nat → Int32} (h : STR wat fla fly lea clo con inn th mu ta ho od hs fs sz bk flk lek mus rk msz ms) : ∃ wat2 fla2 fly2 lea2 clo2 con2 inn2 od2 hs2 fs2 : Nat → Int32, f_X3_takeFrom wat1 fla1 fly1 lea1 clo1 con1 inn1 th1 mu1 ta1 ho1 od1 hs1 fs1 sz1 wat fla fly lea clo con inn th mu ta ho od hs fs sz = some (wat2, fla2, fly2, lea2, clo2, con2, inn2, th, mu, ta, ho, od2, hs2, fs2, sz) ∧ STR wat2 fla2 fly2 lea2 clo2 con2 inn2 th mu ta ho od2 hs2 fs2 sz bk flk lek mus rk msz ms := by
  refine ⟨_, _, _, _, _, _, _, _, _, _, rfl, ?_⟩
  exact STR_congrX h (fun j hj => q_cpy hj) (fun j hj => q_cpy hj) (fun j hj => q_cpy hj) (fun j hj => q_cpy hj) (fun j hj => q_cpy hj) (fun j hj => q_cpy hj) (fun j hj => q_cpy hj) (fun j hj => q_cpy36 hj) (fun j hj => q_cpy hj) (fun j hj => q_cpy hj)
def IMI (bk flk lek rk ms im0 : Nat → Int32) (o a b c d : Nat) (im : Nat → Int32) : Prop := (∀ k, k < a → im (o + k) = bk k) ∧ (∀ k, k < b → im (o + 43 + k) = flk k) ∧ (∀ k, k < b → im (o + 51 + k) = lek k) ∧ (∀ k, k < c → im (o + 59 + k) = rk k) ∧ (∀ k, k < d → im (o + 65 + k) = ms k) ∧ ∀ j, j < o ∨ o + 100 ≤ j → im j = im0 j
theorem imi_off {im f : Nat → Int32} {b a q : Nat} {v : Int32} (h : ∀ k, k < a → im (b + k) = f k) (hq : ∀ k, k < a → b + k ≠ q) : ∀ k, k < a → upd im q v (b + k) = f k := fun k hk => by
  rw [upd_n (hq k hk)]
  exact h k hk
theorem imi_new {im f : Nat → Int32} {b i q : Nat} {v : Int32} (h : ∀ k, k < i → im (b + k) = f k) (hq : q = b + i) (hv : v = f i) : ∀ k, k < i + 1 → upd im q v (b + k) = f k := fun k hk => by
  by_cases e : k = i
  · rw [e, hq, upd_g, hv]
  · rw [upd_n (by omega)]
    exact h k (by omega)
theorem imi_out {im im0 : Nat → Int32} {o q : Nat} {v : Int32} (h : ∀ j, j < o ∨ o + 100 ≤ j → im j = im0 j) (h1 : o ≤ q) (h2 : q < o + 100) : ∀ j, j < o ∨ o + 100 ≤ j → upd im q v j = im0 j := fun j hj => by
  rw [upd_n (by omega)]
  exact h j hj
theorem image_19 {bk flk lek : Nat → Int32} {mus : Int32} {rk : Nat → Int32} {msz : Int32} {ms : Nat → Int32} {im0 mk : Nat → Int32} {o : Nat} {y : Int32} (ho : o ≤ 100) : ∀ (k i n : Nat) (im : Nat → Int32), i + k = 43 → k < n → IMI bk flk lek rk ms im0 o i 0 0 0 im → ∃ im2, L_X10_image_19 bk flk lek mus rk msz ms y n im mk (nI o) (nI i) = L_X10_image_47 bk flk lek mus rk msz ms y FU im2 mk (nI o) 0 ∧ IMI bk flk lek rk ms im0 o 43 0 0 0 im2 := by
  intro k
  induction k with
  | zero =>
    intro i n im hi hn h
    obtain ⟨n, rfl⟩ : ∃ a, n = a + 1 := ⟨n - 1, by omega⟩
    obtain rfl : i = 43 := by omega
    exact ⟨im, by rw [L_X10_image_19.eq_2, if_pos (by decide)], h⟩
  | succ k ih =>
    intro i n im hi hn h
    obtain ⟨n, rfl⟩ : ∃ a, n = a + 1 := ⟨n - 1, by omega⟩
    obtain ⟨h1, h2, h3, h4, h5, h6⟩ := h
    rw [L_X10_image_19.eq_2, q_lit 43, q_ifle (by decide) (by omega), if_neg (by omega), q_add, q_gin (by omega) (by decide), q_gin (by omega) (by decide), q_cl (by omega), q_cl (by omega), nI_1]
    refine ih (i + 1) n _ (by omega) (by omega) ⟨imi_new h1 rfl rfl, imi_off (q := o + i) (h2) (fun k hk => by omega), imi_off (q := o + i) (h3) (fun k hk => by omega), imi_off (q := o + i) (h4) (fun k hk => by omega), imi_off (q := o + i) (h5) (fun k hk => by omega), imi_out (q := o + i) (h6) (by omega) (by omega)⟩
theorem image_47 {bk flk lek : Nat → Int32} {mus : Int32} {rk : Nat → Int32} {msz : Int32} {ms : Nat → Int32} {im0 mk : Nat → Int32} {o : Nat} {y : Int32} (ho : o ≤ 100) : ∀ (k i n : Nat) (im : Nat → Int32), i + k = 8 → k < n → IMI bk flk lek rk ms im0 o 43 i 0 0 im → ∃ im2, L_X10_image_47 bk flk lek mus rk msz ms y n im mk (nI o) (nI i) = L_X10_image_95 bk flk lek mus rk msz ms y FU im2 mk (nI o) 0 ∧ IMI bk flk lek rk ms im0 o 43 8 0 0 im2 := by
  intro k
  induction k with
  | zero =>
    intro i n im hi hn h
    obtain ⟨n, rfl⟩ : ∃ a, n = a + 1 := ⟨n - 1, by omega⟩
    obtain rfl : i = 8 := by omega
    exact ⟨im, by rw [L_X10_image_47.eq_2, if_pos (by decide)], h⟩
  | succ k ih =>
    intro i n im hi hn h
    obtain ⟨n, rfl⟩ : ∃ a, n = a + 1 := ⟨n - 1, by omega⟩
    obtain ⟨h1, h2, h3, h4, h5, h6⟩ := h
    rw [L_X10_image_47.eq_2, q_lit 8, q_ifle (by decide) (by omega), if_neg (by omega), q_lit 43, q_lit 51, q_add, q_add, q_add, q_add, q_gin (by omega) (by decide), q_gin (by omega) (by decide), q_gin (by omega) (by decide), q_gin (by omega) (by decide), q_cl (by omega), q_cl (by omega), q_cl (by omega), nI_1]
    refine ih (i + 1) n _ (by omega) (by omega) ⟨imi_off (q := o + 51 + i) (imi_off (q := o + 43 + i) (h1) (fun k hk => by omega)) (fun k hk => by omega), imi_off (q := o + 51 + i) (imi_new h2 rfl rfl) (fun k hk => by omega), imi_new (imi_off (q := o + 43 + i) h3 (fun k hk => by omega)) rfl rfl, imi_off (q := o + 51 + i) (imi_off (q := o + 43 + i) (h4) (fun k hk => by omega)) (fun k hk => by omega), imi_off (q := o + 51 + i) (imi_off (q := o + 43 + i) (h5) (fun k hk => by omega)) (fun k hk => by omega), imi_out (q := o + 51 + i) (imi_out (q := o + 43 + i) (h6) (by omega) (by omega)) (by omega) (by omega)⟩
theorem image_95 {bk flk lek : Nat → Int32} {mus : Int32} {rk : Nat → Int32} {msz : Int32} {ms : Nat → Int32} {im0 mk : Nat → Int32} {o : Nat} {y : Int32} (ho : o ≤ 100) : ∀ (k i n : Nat) (im : Nat → Int32), i + k = 6 → k < n → IMI bk flk lek rk ms im0 o 43 8 i 0 im → ∃ im2, L_X10_image_95 bk flk lek mus rk msz ms y n im mk (nI o) (nI i) = L_X10_image_126 bk flk lek mus rk msz ms y FU im2 mk (nI o) 0 ∧ IMI bk flk lek rk ms im0 o 43 8 6 0 im2 := by
  intro k
  induction k with
  | zero =>
    intro i n im hi hn h
    obtain ⟨n, rfl⟩ : ∃ a, n = a + 1 := ⟨n - 1, by omega⟩
    obtain rfl : i = 6 := by omega
    exact ⟨im, by rw [L_X10_image_95.eq_2, if_pos (by decide)], h⟩
  | succ k ih =>
    intro i n im hi hn h
    obtain ⟨n, rfl⟩ : ∃ a, n = a + 1 := ⟨n - 1, by omega⟩
    obtain ⟨h1, h2, h3, h4, h5, h6⟩ := h
    rw [L_X10_image_95.eq_2, q_lit 6, q_ifle (by decide) (by omega), if_neg (by omega), q_lit 59, q_add, q_add, q_gin (by omega) (by decide), q_gin (by omega) (by decide), q_cl (by omega), q_cl (by omega), nI_1]
    refine ih (i + 1) n _ (by omega) (by omega) ⟨imi_off (q := o + 59 + i) (h1) (fun k hk => by omega), imi_off (q := o + 59 + i) (h2) (fun k hk => by omega), imi_off (q := o + 59 + i) (h3) (fun k hk => by omega), imi_new h4 rfl rfl, imi_off (q := o + 59 + i) (h5) (fun k hk => by omega), imi_out (q := o + 59 + i) (h6) (by omega) (by omega)⟩
theorem image_126 {bk flk lek : Nat → Int32} {mus : Int32} {rk : Nat → Int32} {msz : Int32} {ms : Nat → Int32} {im0 mk : Nat → Int32} {o p : Nat} (ho : o ≤ 100) (hp : p ≤ 1) : ∀ (k i n : Nat) (im : Nat → Int32), i + k = 16 → k < n → IMI bk flk lek rk ms im0 o 43 8 6 i im → ∃ im2, L_X10_image_126 bk flk lek mus rk msz ms (nI p) n im mk (nI o) (nI i) = some (1, upd (upd im2 (o + 90) mus) (o + 91) msz, upd mk p 1) ∧ IMI bk flk lek rk ms im0 o 43 8 6 16 im2 := by
  intro k
  induction k with
  | zero =>
    intro i n im hi hn h
    obtain ⟨n, rfl⟩ : ∃ a, n = a + 1 := ⟨n - 1, by omega⟩
    obtain rfl : i = 16 := by omega
    exact ⟨im, by rw [L_X10_image_126.eq_2, if_pos (by decide), q_lit 90, q_lit 91, q_add, q_add, q_gin (by omega) (by decide), q_gin (by omega) (by decide), q_gin (by omega) (by decide), q_cl (by omega), q_cl (by omega), q_cl (by omega)]; rfl, h⟩
  | succ k ih =>
    intro i n im hi hn h
    obtain ⟨n, rfl⟩ : ∃ a, n = a + 1 := ⟨n - 1, by omega⟩
    obtain ⟨h1, h2, h3, h4, h5, h6⟩ := h
    rw [L_X10_image_126.eq_2, q_lit 16, q_ifle (by decide) (by omega), if_neg (by omega), q_lit 65, q_add, q_add, q_gin (by omega) (by decide), q_gin (by omega) (by decide), q_cl (by omega), q_cl (by omega), nI_1]
    refine ih (i + 1) n _ (by omega) (by omega) ⟨imi_off (q := o + 65 + i) (h1) (fun k hk => by omega), imi_off (q := o + 65 + i) (h2) (fun k hk => by omega), imi_off (q := o + 65 + i) (h3) (fun k hk => by omega), imi_off (q := o + 65 + i) (h4) (fun k hk => by omega), imi_new h5 rfl rfl, imi_out (q := o + 65 + i) (h6) (by omega) (by omega)⟩
theorem image_m {bk flk lek : Nat → Int32} {mus : Int32} {rk : Nat → Int32} {msz : Int32} {ms : Nat → Int32} {im mk : Nat → Int32} {p : Nat} (hp : p ≤ 1) : ∃ im2, f_X10_image bk flk lek mus rk msz ms im mk (nI p) = some (1, im2, upd mk p 1) ∧ IMI bk flk lek rk ms im (100 * p) 43 8 6 16 im2 ∧ im2 (100 * p + 90) = mus ∧ im2 (100 * p + 91) = msz := by
  have hf := q_FU
  have i0 : IMI bk flk lek rk ms im (100 * p) 0 0 0 0 im := ⟨fun k hk => absurd hk (by omega), fun k hk => absurd hk (by omega), fun k hk => absurd hk (by omega), fun k hk => absurd hk (by omega), fun k hk => absurd hk (by omega), fun _ _ => rfl⟩
  obtain ⟨a, a1, a2⟩ := image_19 (mus := mus) (msz := msz) (mk := mk) (y := nI p) (show 100 * p ≤ 100 by omega) 43 0 FU im rfl (by omega) i0
  obtain ⟨b, b1, b2⟩ := image_47 (mus := mus) (msz := msz) (mk := mk) (y := nI p) (show 100 * p ≤ 100 by omega) 8 0 FU a rfl (by omega) a2
  obtain ⟨c, c1, c2⟩ := image_95 (mus := mus) (msz := msz) (mk := mk) (y := nI p) (show 100 * p ≤ 100 by omega) 6 0 FU b rfl (by omega) b2
  obtain ⟨d, d1, d2⟩ := image_126 (mus := mus) (msz := msz) (mk := mk) (show 100 * p ≤ 100 by omega) hp 16 0 FU c rfl (by omega) c2
  refine ⟨upd (upd d (100 * p + 90) mus) (100 * p + 91) msz, ?_, ?_, ?_, ?_⟩
  · unfold f_X10_image f_X10_in
    rw [if_neg (nI_pos (by omega)), q_lit 1, q_ifl (by decide) (by omega), if_neg (by omega), q_bd1, if_neg (by decide), q_lit 100, pk_mul]
    exact a1.trans (b1.trans (c1.trans d1))
  · obtain ⟨h1, h2, h3, h4, h5, h6⟩ := d2
    exact ⟨imi_off (q := 100 * p + 91) (imi_off (q := 100 * p + 90) (h1) (fun k hk => by omega)) (fun k hk => by omega), imi_off (q := 100 * p + 91) (imi_off (q := 100 * p + 90) (h2) (fun k hk => by omega)) (fun k hk => by omega), imi_off (q := 100 * p + 91) (imi_off (q := 100 * p + 90) (h3) (fun k hk => by omega)) (fun k hk => by omega), imi_off (q := 100 * p + 91) (imi_off (q := 100 * p + 90) (h4) (fun k hk => by omega)) (fun k hk => by omega), imi_off (q := 100 * p + 91) (imi_off (q := 100 * p + 90) (h5) (fun k hk => by omega)) (fun k hk => by omega), imi_out (q := 100 * p + 91) (imi_out (q := 100 * p + 90) (h6) (by omega) (by omega)) (by omega) (by omega)⟩
  · rw [upd_n (by omega), upd_g]
  · rw [upd_g]
theorem IMG_far {kp mk0 : Int32} {wat fla fly lea clo con inn : Nat → Int32} {th mu ta ho : Int32} {od hs fs : Nat → Int32} {sz : Int32} {im im2 : Nat → Int32} {o : Nat} (h : IMG kp mk0 wat fla fly lea clo con inn th mu ta ho od hs fs sz im o) (e : ∀ j, o ≤ j → j < o + 100 → im2 j = im j) : IMG kp mk0 wat fla fly lea clo con inn th mu ta ho od hs fs sz im2 o := by
  rcases h with h | ⟨h1, h2, h3⟩
  · exact Or.inl h
  · refine Or.inr ⟨h1, h2, ?_⟩
    rw [e (o + 90) (by omega) (by omega), e (o + 91) (by omega) (by omega)]
    exact STR_congrM h3 (fun k hk => e _ (by omega) (by omega)) (fun k hk => e _ (by omega) (by omega)) (fun k hk => e _ (by omega) (by omega)) (fun k hk => e _ (by omega) (by omega)) (fun k hk => e _ (by omega) (by omega))
theorem IMG_new {wat fla fly lea clo con inn : Nat → Int32} {th mu ta ho : Int32} {od hs fs : Nat → Int32} {sz : Int32} {bk flk lek : Nat → Int32} {mus : Int32} {rk : Nat → Int32} {msz : Int32} {ms : Nat → Int32} {im0 im2 : Nat → Int32} {o : Nat} (h : STR wat fla fly lea clo con inn th mu ta ho od hs fs sz bk flk lek mus rk msz ms) (d2 : IMI bk flk lek rk ms im0 o 43 8 6 16 im2) (e1 : im2 (o + 90) = mus) (e2 : im2 (o + 91) = msz) : IMG 1 1 wat fla fly lea clo con inn th mu ta ho od hs fs sz im2 o := by
  obtain ⟨h1, h2, h3, h4, h5, h6⟩ := d2
  refine Or.inr ⟨rfl, rfl, ?_⟩
  rw [e1, e2]
  exact STR_congrM h h1 h2 h3 h4 h5
theorem core_image {wat fla fly lea clo con inn : Nat → Int32} {th mu ta ho : Int32} {od hs fs : Nat → Int32} {sz : Int32} {wat1 fla1 fly1 lea1 clo1 con1 inn1 : Nat → Int32} {th1 mu1 ta1 ho1 : Int32} {od1 hs1 fs1 : Nat → Int32} {sz1 : Int32} {wat2 fla2 fly2 lea2 clo2 con2 inn2 : Nat → Int32} {th2 mu2 ta2 ho2 : Int32} {od2 hs2 fs2 : Nat → Int32} {sz2 : Int32} {bk flk lek : Nat → Int32} {mus : Int32} {rk : Nat → Int32} {msz : Int32} {ms : Nat → Int32} {kp1 kp2 : Int32} {im mk : Nat → Int32} (h : STR wat fla fly lea clo con inn th mu ta ho od hs fs sz bk flk lek mus rk msz ms) (i1 : IMG kp1 (mk 0) wat1 fla1 fly1 lea1 clo1 con1 inn1 th1 mu1 ta1 ho1 od1 hs1 fs1 sz1 im 0) (i2 : IMG kp2 (mk 1) wat2 fla2 fly2 lea2 clo2 con2 inn2 th2 mu2 ta2 ho2 od2 hs2 fs2 sz2 im 100) (y : Int32) : ∃ (r : Int32) (wat3 : Nat → Int32) (fla3 : Nat → Int32) (fly3 : Nat → Int32) (lea3 : Nat → Int32) (clo3 : Nat → Int32) (con3 : Nat → Int32) (inn3 : Nat → Int32) (th3 : Int32) (mu3 : Int32) (ta3 : Int32) (ho3 : Int32) (od3 : Nat → Int32) (hs3 : Nat → Int32) (fs3 : Nat → Int32) (sz3 : Int32) (wat4 : Nat → Int32) (fla4 : Nat → Int32) (fly4 : Nat → Int32) (lea4 : Nat → Int32) (clo4 : Nat → Int32) (con4 : Nat → Int32) (inn4 : Nat → Int32) (th4 : Int32) (mu4 : Int32) (ta4 : Int32) (ho4 : Int32) (od4 : Nat → Int32) (hs4 : Nat → Int32) (fs4 : Nat → Int32) (sz4 : Int32) (kp3 kp4 : Int32) (im2 mk2 : Nat → Int32), f_X9_image wat fla fly lea clo con inn th mu ta ho od hs fs sz wat1 fla1 fly1 lea1 clo1 con1 inn1 th1 mu1 ta1 ho1 od1 hs1 fs1 sz1 wat2 fla2 fly2 lea2 clo2 con2 inn2 th2 mu2 ta2 ho2 od2 hs2 fs2 sz2 kp1 kp2 y = some (r, wat3, fla3, fly3, lea3, clo3, con3, inn3, th3, mu3, ta3, ho3, od3, hs3, fs3, sz3, wat4, fla4, fly4, lea4, clo4, con4, inn4, th4, mu4, ta4, ho4, od4, hs4, fs4, sz4, kp3, kp4) ∧ f_X10_image bk flk lek mus rk msz ms im mk y = some (r, im2, mk2) ∧ IMG kp3 (mk2 0) wat3 fla3 fly3 lea3 clo3 con3 inn3 th3 mu3 ta3 ho3 od3 hs3 fs3 sz3 im2 0 ∧ IMG kp4 (mk2 1) wat4 fla4 fly4 lea4 clo4 con4 inn4 th4 mu4 ta4 ho4 od4 hs4 fs4 sz4 im2 100 := by
  rcases q_upTo y 1 (by omega) with ⟨a, b⟩ | ⟨p, hp, rfl, a, b⟩
  · refine ⟨-2, wat1, fla1, fly1, lea1, clo1, con1, inn1, th1, mu1, ta1, ho1, od1, hs1, fs1, sz1, wat2, fla2, fly2, lea2, clo2, con2, inn2, th2, mu2, ta2, ho2, od2, hs2, fs2, sz2, kp1, kp2, im, mk, ?_, ?_, i1, i2⟩
    · unfold f_X9_image
      rw [show f_X9_isUpTo y 1 = _ from a]
      rfl
    · unfold f_X10_image
      rw [show f_X10_in y 0 1 = _ from b]
      rfl
  · obtain ⟨im2, a1, a2, a3, a4⟩ := image_m (bk := bk) (flk := flk) (lek := lek) (mus := mus) (rk := rk) (msz := msz) (ms := ms) (im := im) (mk := mk) hp
    have hn := IMG_new h a2 a3 a4
    obtain rfl | rfl : p = 0 ∨ p = 1 := by omega
    · obtain ⟨wat5, fla5, fly5, lea5, clo5, con5, inn5, od5, hs5, fs5, t1, t2⟩ := takeRealm wat1 fla1 fly1 lea1 clo1 con1 inn1 th1 mu1 ta1 ho1 od1 hs1 fs1 sz1 h
      refine ⟨1, wat5, fla5, fly5, lea5, clo5, con5, inn5, th, mu, ta, ho, od5, hs5, fs5, sz, wat2, fla2, fly2, lea2, clo2, con2, inn2, th2, mu2, ta2, ho2, od2, hs2, fs2, sz2, 1, kp2, im2, upd mk 0 1, ?_, a1, ?_, ?_⟩
      · unfold f_X9_image
        rw [show f_X9_isUpTo (nI 0) 1 = _ from a, q_bd1, if_neg (by decide), if_pos (by decide), t1]
        rfl
      · rw [upd_g]
        exact IMG_new t2 a2 a3 a4
      · rw [upd_n (by omega)]
        exact IMG_far i2 (fun j h1 h2 => a2.2.2.2.2.2 j (by omega))
    · obtain ⟨wat3, fla3, fly3, lea3, clo3, con3, inn3, od3, hs3, fs3, t1, t2⟩ := takeRealm wat2 fla2 fly2 lea2 clo2 con2 inn2 th2 mu2 ta2 ho2 od2 hs2 fs2 sz2 h
      refine ⟨1, wat1, fla1, fly1, lea1, clo1, con1, inn1, th1, mu1, ta1, ho1, od1, hs1, fs1, sz1, wat3, fla3, fly3, lea3, clo3, con3, inn3, th, mu, ta, ho, od3, hs3, fs3, sz, kp1, 1, im2, upd mk 1 1, ?_, a1, ?_, ?_⟩
      · unfold f_X9_image
        rw [show f_X9_isUpTo (nI 1) 1 = _ from a, q_bd1, if_neg (by decide), if_neg (by decide), t1]
        rfl
      · rw [upd_n (by omega)]
        exact IMG_far i1 (fun j h1 h2 => a2.2.2.2.2.2 j (by omega))
      · rw [upd_g]
        exact IMG_new t2 a2 a3 a4
