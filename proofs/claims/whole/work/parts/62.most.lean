/-! ===== THE BEST LOT ===== -/
def mw (U : Nat → Nat → Int32) (W : Nat → Int32) (s p q : Nat) : Int32 := if s.testBit q then -1 else if al U p q then (if 0 ≤ W (s ||| 2 ^ q) then W (s ||| 2 ^ q) + eU U p q else -1) else -1
def vl (U : Nat → Nat → Int32) (W : Nat → Int32) (s p : Nat) : Nat → Nat → Int32 → Int32
  | 0, _, x => x
  | k + 1, q, x => vl U W s p k (q + 1) (if x < mw U W s p q then mw U W s p q else x)
def fin (U : Nat → Nat → Int32) (N : Nat) : Nat → (Nat → Int32) → Nat → Int32
  | 0, W => W
  | k + 1, W => fin U N k (fun t => if t = k then vl U W k (pc k 8) N 0 (-1) else W t)
theorem or_gt {s q : Nat} (h : s.testBit q = false) : s < s ||| 2 ^ q := by
  refine Nat.lt_of_le_of_ne Nat.left_le_or (fun e => ?_)
  have : (s ||| 2 ^ q).testBit q = true := (tb_or s q q).mpr (Or.inr rfl)
  rw [← e, h] at this
  cases this
theorem mw_c {U : Nat → Nat → Int32} {W W' : Nat → Int32} {s p q : Nat} (h : ∀ t, s < t → W t = W' t) : mw U W s p q = mw U W' s p q := by
  unfold mw
  by_cases hb : s.testBit q = true
  · rw [if_pos hb, if_pos hb]
  · rw [if_neg hb, if_neg hb, h _ (or_gt (Bool.eq_false_iff.mpr hb))]
theorem vl_c {U : Nat → Nat → Int32} {W W' : Nat → Int32} {s p : Nat} (h : ∀ t, s < t → W t = W' t) : ∀ k q x, vl U W s p k q x = vl U W' s p k q x
  | 0, _, _ => rfl
  | k + 1, q, x => by rw [vl, vl, mw_c h, vl_c h k]
theorem fin_ge {U : Nat → Nat → Int32} {N : Nat} : ∀ k W t, k ≤ t → fin U N k W t = W t := by
  intro k
  induction k with
  | zero => intro W t h; rfl
  | succ k ih =>
    intro W t h
    rw [fin, ih _ t (by omega), if_neg (by omega)]
theorem fin_rec {U : Nat → Nat → Int32} {N : Nat} : ∀ k W s, s < k → fin U N k W s = vl U (fin U N k W) s (pc s 8) N 0 (-1) := by
  intro k
  induction k with
  | zero => intro W s h; omega
  | succ k ih =>
    intro W s h
    rw [fin]
    by_cases e : s = k
    · subst e
      rw [fin_ge s _ s (by omega), if_pos rfl]
      refine vl_c (fun t ht => ?_) N 0 (-1)
      rw [fin_ge s _ t (by omega), if_neg (by omega)]
    · exact ih _ s (by omega)
theorem pcF : ∀ N, N < 9 → ∀ s, s < 2 ^ N - 1 → pc s 8 < N := by decide +kernel
theorem two8 : ∀ N, N < 9 → (1 : Int32) <<< (nI N &&& 31) = nI (2 ^ N) ∧ 1 ≤ 2 ^ N ∧ 2 ^ N ≤ 256 := by decide +kernel
section XS
variable {M : Mem} {f z : Int32} {N : Nat} {U : Nat → Nat → Int32}
theorem x_mostWith (hx : VX M 2 f z N U) (hN : N ≤ 8) {W : Nat → Int32} {s p q : Nat} (hs : s < 2 ^ N) (hp : p < N) (hq : q < N) (hW : ∀ t, s < t → t < 2 ^ N → m_I M 36 t = W t) : F_X0_mostWith (nI s) (nI p) (nI q) 2 M = some (mw U W s p q) := by
  obtain ⟨-, h1, h2⟩ := two8 N (by omega)
  have h3 : s ||| 2 ^ q < 2 ^ N := Nat.or_lt_two_pow hs (Nat.pow_lt_pow_right (by decide) hq)
  unfold F_X0_mostWith mw
  have ht := tb_e s (by omega) q (by omega)
  cases hb : s.testBit q with
  | true => rw [if_neg (fun e => by rw [ht.mp e] at hb; cases hb), if_pos (show true = true from rfl)]
  | false =>
    rw [if_pos (ht.mpr hb), if_neg Bool.false_ne_true, x_areAlike hx (by omega) (by omega), Option.bind_some, b_2 q (by omega), nI_or, ix_n (by omega) (by decide), hW _ (or_gt hb) h3, x_earning hx (by omega) (by omega), Option.bind_some]
    by_cases ha : al U p q
    · rw [if_pos ha, if_neg one0.mp, if_pos ha]
      by_cases hw : 0 ≤ W (s ||| 2 ^ q)
      · rw [if_pos hw, if_pos hw]
      · rw [if_neg hw, if_neg hw]
    · rw [if_neg ha, if_pos rfl, if_neg ha]
theorem x_s36 (hx : VX M 2 f z N U) (hN : N ≤ 8) {W : Nat → Int32} {s p : Nat} (hs : s < 2 ^ N) (hp : p < N) (hW : ∀ t, s < t → t < 2 ^ N → m_I M 36 t = W t) (K : Int32 → Mem → Option (Int32 × Mem)) : ∀ k m q x, q + k = N → k < m → F_X0_search_36 2 K m (nI s) (nI p) x (nI q) M = K (nI s - 1) (w_I M 36 s (vl U W s p k q x)) := by
  obtain ⟨-, h1, h2⟩ := two8 N (by omega)
  intro k
  induction k with
  | zero =>
    intro m q x h3 h4
    obtain ⟨m, rfl⟩ : ∃ q, m = q + 1 := ⟨m - 1, by omega⟩
    have hq : q = N := by omega
    subst hq
    rw [F_X0_search_36, hx.2.2.1, lp_y, ix_n (by omega) (by decide), pin, nI_m1, vl]
  | succ k ih =>
    intro m q x h3 h4
    obtain ⟨m, rfl⟩ : ∃ q, m = q + 1 := ⟨m - 1, by omega⟩
    rw [F_X0_search_36, hx.2.2.1, lp_x (by omega) (by omega), x_mostWith hx hN hs hp (show q < N by omega) hW, Option.bind_some, nI_1, ih m (q + 1) _ (by omega) (by omega), vl]
end XS
theorem x_s20 {f z : Int32} {N : Nat} {U : Nat → Nat → Int32} (hN : N ≤ 8) : ∀ k m M W, k < m → k ≤ 2 ^ N - 1 → VX M 2 f z N U → (∀ t, k ≤ t → t < 2 ^ N → m_I M 36 t = W t) → ∃ M1, F_X0_search_20 2 m (nI k - 1) M = some (fin U N k W 0, M1) ∧ (∀ t, t < 2 ^ N → m_I M1 36 t = fin U N k W t) ∧ Ch (fun o => o = 36) M M1 := by
  obtain ⟨-, h1, h2⟩ := two8 N (by omega)
  intro k
  induction k with
  | zero =>
    intro m M W h3 h4 hx hW
    obtain ⟨m, rfl⟩ : ∃ q, m = q + 1 := ⟨m - 1, by omega⟩
    refine ⟨M, ?_, fun t ht => hW t (by omega) ht, Ch.rf⟩
    rw [F_X0_search_20, if_pos (by decide), show (0 : Int32) = nI 0 from rfl, ix_n (by decide) (by decide), hW 0 (by omega) (by omega)]
    rfl
  | succ k ih =>
    intro m M W h3 h4 hx hW
    obtain ⟨m, rfl⟩ : ∃ q, m = q + 1 := ⟨m - 1, by omega⟩
    have hp := pcF N (by omega) k (by omega)
    have c : Ch (fun o => o = 36) M (w_I M 36 k (vl U W k (pc k 8) N 0 (-1))) := Ch.w rfl
    obtain ⟨M1, a1, a2, a3⟩ := ih m (w_I M 36 k (vl U W k (pc k 8) N 0 (-1))) (fun t => if t = k then vl U W k (pc k 8) N 0 (-1) else W t) (by omega) (by omega) (hx.ch c (fun o q1 q2 => by omega)) (fun t ht ht2 => by
      by_cases e : t = k
      · subst e
        rw [m_ws, if_pos rfl]
      · rw [m_wk e, if_neg e, hW t (by omega) ht2])
    refine ⟨M1, ?_, a2, c.tr a3⟩
    rw [F_X0_search_20, nI_pred, if_neg (nI_pos (by omega)), x_bc (by omega), Option.bind_some]
    have q := x_s36 hx hN (s := k) (p := pc k 8) (W := W) (by omega) hp (fun t ht ht2 => hW t (by omega) ht2) (F_X0_search_20 2 m) N FU 0 (-1) (by omega) (by show N < 1000; omega)
    exact q.trans a1
theorem x_search {M : Mem} {f z : Int32} {N : Nat} {U : Nat → Nat → Int32} (hx : VX M 2 f z N U) (hN : N ≤ 8) : ∃ M1, F_X0_search 2 M = some (fin U N (2 ^ N - 1) (fun _ => 0) 0, M1) ∧ (∀ t, t < 2 ^ N → m_I M1 36 t = fin U N (2 ^ N - 1) (fun _ => 0) t) ∧ Ch (fun o => o = 36) M M1 := by
  obtain ⟨h0, h1, h2⟩ := two8 N (by omega)
  have c : Ch (fun o => o = 36) M (w_I M 36 (2 ^ N - 1) 0) := Ch.w rfl
  obtain ⟨M1, a1, a2, a3⟩ := x_s20 hN (2 ^ N - 1) FU (w_I M 36 (2 ^ N - 1) 0) (fun _ => 0) (by show 2 ^ N - 1 < 1000; omega) (by omega) (hx.ch c (fun o q1 q2 => by omega)) (fun t ht ht2 => by
    have e : t = 2 ^ N - 1 := by omega
    rw [e, m_ws])
  refine ⟨M1, ?_, a2, c.tr a3⟩
  unfold F_X0_search
  rw [hx.2.2.1, h0, show (1 : Int32) = nI 1 from rfl, nI_sb h1, ix_n (by omega) (by decide), pin]
  exact a1
theorem m1_le {x y : Int32} (h : -1 ≤ x) : -1 ≤ (if x < y then y else x) := by
  by_cases c : x < y
  · rw [if_pos c]
    rw [t_lt] at c
    rw [t_le] at h ⊢
    omega
  · rw [if_neg c]; exact h
theorem m_f44 {f z : Int32} {N : Nat} {U : Nat → Nat → Int32} (hN : N ≤ 8) {W : Nat → Int32} {s p : Nat} (hs : s < 2 ^ N) (hp : p < N) (K : Int32 → Int32 → Mem → Option Mem) : ∀ k m q x M, q + k = N → k < m → VM M 50 f z N U → (∀ t, s < t → t < 2 ^ N → m_I M 57 t = W t) → m_I M 57 s = x → -1 ≤ x → ∃ M1, F_X8_findMost_44 K m (nI N) (nI s) (nI p) (nI q) M = K (nI N) (nI s - 1) M1 ∧ m_I M1 57 s = vl U W s p k q x ∧ (∀ t, t ≠ s → m_I M1 57 t = m_I M 57 t) ∧ Ch (fun o => o = 57) M M1 := by
  obtain ⟨-, h1, h2⟩ := two8 N (by omega)
  intro k
  induction k with
  | zero =>
    intro m q x M h3 h4 hm hW hx0 hx1
    obtain ⟨m, rfl⟩ : ∃ q, m = q + 1 := ⟨m - 1, by omega⟩
    have hq : q = N := by omega
    subst hq
    exact ⟨M, by rw [F_X8_findMost_44, lp_y, nI_m1], hx0, fun t _ => rfl, Ch.rf⟩
  | succ k ih =>
    intro m q x M h3 h4 hm hW hx0 hx1
    obtain ⟨m, rfl⟩ : ∃ q, m = q + 1 := ⟨m - 1, by omega⟩
    have hq : q < N := by omega
    have h5 : s ||| 2 ^ q < 2 ^ N := Nat.or_lt_two_pow hs (Nat.pow_lt_pow_right (by decide) hq)
    have ht := tb_e s (by omega) q (by omega)
    have skip : mw U W s p q = -1 → ∃ M1, F_X8_findMost_44 K m (nI N) (nI s) (nI p) (nI (q + 1)) M = K (nI N) (nI s - 1) M1 ∧ m_I M1 57 s = vl U W s p (k + 1) q x ∧ (∀ t, t ≠ s → m_I M1 57 t = m_I M 57 t) ∧ Ch (fun o => o = 57) M M1 := by
      intro e
      obtain ⟨M1, a1, a2, a3, a4⟩ := ih m (q + 1) x M (by omega) (by omega) hm hW hx0 hx1
      refine ⟨M1, a1, ?_, a3, a4⟩
      rw [vl, e, if_neg (fun c => by rw [t_lt] at c; rw [t_le] at hx1; omega), a2]
    rw [F_X8_findMost_44, lp_x (by omega) (by omega), nI_1]
    cases hb : s.testBit q with
    | true =>
      rw [if_neg (fun e => by rw [ht.mp e] at hb; cases hb)]
      exact skip (by unfold mw; rw [hb, if_pos rfl])
    | false =>
      rw [if_pos (ht.mpr hb), m_areAlike hm (by omega) (by omega), Option.bind_some]
      by_cases ha : al U p q
      · rw [if_pos ha, if_neg one0.mp, b_2 q (by omega), nI_or, ix_n (by omega) (by decide), hW _ (or_gt hb) h5]
        by_cases hw : 0 ≤ W (s ||| 2 ^ q)
        · have e : mw U W s p q = W (s ||| 2 ^ q) + eU U p q := by
            unfold mw
            rw [hb, if_neg Bool.false_ne_true, if_pos ha, if_pos hw]
          have hn : ¬ W (s ||| 2 ^ q) < 0 := by
            rw [t_lt]
            rw [t_le] at hw
            omega
          rw [if_neg hn, m_earnsAs hm (by omega) (by omega), Option.bind_some, ix_n (by omega) (by decide), ix_n (by omega) (by decide), hx0, ix_n (by omega) (by decide), ix_n (by omega) (by decide), hx0, ix_n (by omega) (by decide), pin, pin, hW _ (or_gt hb) h5, Int32.add_comm (eU U p q), ← e]
          have step : ∀ y, y = (if x < mw U W s p q then mw U W s p q else x) → ∃ M1, F_X8_findMost_44 K m (nI N) (nI s) (nI p) (nI (q + 1)) (w_I M 57 s y) = K (nI N) (nI s - 1) M1 ∧ m_I M1 57 s = vl U W s p (k + 1) q x ∧ (∀ t, t ≠ s → m_I M1 57 t = m_I M 57 t) ∧ Ch (fun o => o = 57) M M1 := by
            intro y hy
            have c : Ch (fun o => o = 57) M (w_I M 57 s y) := Ch.w rfl
            obtain ⟨M1, a1, a2, a3, a4⟩ := ih m (q + 1) y (w_I M 57 s y) (by omega) (by omega) (hm.ch c (by omega)) (fun t q1 q2 => by rw [m_wk (by omega)]; exact hW t q1 q2) (m_ws _ _ _ _) (by rw [hy]; exact m1_le hx1)
            refine ⟨M1, a1, ?_, fun t q1 => by rw [a3 t q1, m_wk q1], c.tr a4⟩
            rw [a2, vl, hy]
          by_cases cmp : mw U W s p q ≤ x
          · rw [if_pos cmp]
            refine step x ?_
            rw [if_neg (fun c => by rw [t_lt] at c; rw [t_le] at cmp; omega)]
          · rw [if_neg cmp]
            refine step _ ?_
            rw [if_pos (by rw [t_le] at cmp; rw [t_lt]; omega)]
        · have hn : W (s ||| 2 ^ q) < 0 := by
            rw [t_lt]
            rw [t_le] at hw
            omega
          rw [if_pos hn]
          exact skip (by unfold mw; rw [hb, if_neg Bool.false_ne_true, if_pos ha, if_neg hw])
      · rw [if_neg ha, if_pos rfl]
        exact skip (by unfold mw; rw [hb, if_neg Bool.false_ne_true, if_neg ha])
theorem m_f24 {f z : Int32} {N : Nat} {U : Nat → Nat → Int32} (hN : N ≤ 8) : ∀ k m M W, k < m → k ≤ 2 ^ N - 1 → VM M 50 f z N U → (∀ t, k ≤ t → t < 2 ^ N → m_I M 57 t = W t) → ∃ M1, F_X8_findMost_24 m (nI N) (nI k - 1) M = some M1 ∧ (∀ t, t < 2 ^ N → m_I M1 57 t = fin U N k W t) ∧ Ch (fun o => o = 57) M M1 := by
  obtain ⟨-, h1, h2⟩ := two8 N (by omega)
  intro k
  induction k with
  | zero =>
    intro m M W h3 h4 hm hW
    obtain ⟨m, rfl⟩ : ∃ q, m = q + 1 := ⟨m - 1, by omega⟩
    refine ⟨M, ?_, fun t ht => hW t (by omega) ht, Ch.rf⟩
    rw [F_X8_findMost_24, if_pos (by decide)]
  | succ k ih =>
    intro m M W h3 h4 hm hW
    obtain ⟨m, rfl⟩ : ∃ q, m = q + 1 := ⟨m - 1, by omega⟩
    have hp := pcF N (by omega) k (by omega)
    have c : Ch (fun o => o = 57) M (w_I M 57 k (-1)) := Ch.w rfl
    obtain ⟨M1, a1, a2, a3, a4⟩ := m_f44 hN (s := k) (p := pc k 8) (W := W) (by omega) hp (F_X8_findMost_24 m) N FU 0 (-1) (w_I M 57 k (-1)) (by omega) (by show N < 1000; omega) (hm.ch c (by omega)) (fun t ht ht2 => by rw [m_wk (by omega)]; exact hW t (by omega) ht2) (m_ws _ _ _ _) (Int32.le_refl _)
    obtain ⟨M2, b1, b2, b3⟩ := ih m M1 (fun t => if t = k then vl U W k (pc k 8) N 0 (-1) else W t) (by omega) (by omega) ((hm.ch c (by omega)).ch a4 (by omega)) (fun t ht ht2 => by
      by_cases e : t = k
      · subst e
        rw [a2, if_pos rfl]
      · rw [a3 t e, m_wk e, if_neg e, hW t (by omega) ht2])
    refine ⟨M2, ?_, b2, (c.tr a4).tr b3⟩
    rw [F_X8_findMost_24, nI_pred, if_neg (nI_pos (by omega)), m_bits (by omega), Option.bind_some, ix_n (by omega) (by decide), pin]
    exact a1.trans b1
theorem m_findMost {M : Mem} {f z : Int32} {N : Nat} {U : Nat → Nat → Int32} (hm : VM M 50 f z N U) (hN : N ≤ 8) : ∃ M1, F_X8_findMost M = some M1 ∧ (∀ t, t < 2 ^ N → m_I M1 57 t = fin U N (2 ^ N - 1) (fun _ => 0) t) ∧ Ch (fun o => o = 57) M M1 := by
  obtain ⟨h0, h1, h2⟩ := two8 N (by omega)
  have c : Ch (fun o => o = 57) M (w_I M 57 (2 ^ N - 1) 0) := Ch.w rfl
  obtain ⟨M1, a1, a2, a3⟩ := m_f24 hN (2 ^ N - 1) FU (w_I M 57 (2 ^ N - 1) 0) (fun _ => 0) (by show 2 ^ N - 1 < 1000; omega) (by omega) (hm.ch c (by omega)) (fun t ht ht2 => by
    have e : t = 2 ^ N - 1 := by omega
    rw [e, m_ws])
  refine ⟨M1, ?_, a2, c.tr a3⟩
  unfold F_X8_findMost
  rw [n51_2, hm.2.2.1, h0, show (1 : Int32) = nI 1 from rfl, nI_sb h1, ix_n (by omega) (by decide), pin]
  exact a1
theorem op_most {M : Mem} (h : RR M) : OpI F_X7_most F_X8_most M := by
  obtain ⟨⟨f, z, N, U, hg, hx, hm⟩, -⟩ := id h
  have hN := hg.1
  obtain ⟨-, h1, h2⟩ := two8 N (by omega)
  obtain ⟨M1, a1, a2, a3⟩ := x_search hx hN
  have hm1 := hm.ch a3 (by omega)
  obtain ⟨M2, b1, b2, b3⟩ := m_findMost hm1 hN
  refine op_v h hg (r := fin U N (2 ^ N - 1) (fun _ => 0) 0) (M1 := M1) ?_ (hx.ch a3 (fun o q1 q2 => by omega)) (a3.wk (fun o q => by unfold vlC hdC; omega)) ⟨M2, ?_, hm1.ch b3 (by omega), b3.wk (fun o q => by omega)⟩
  · unfold F_X7_most
    rw [bn_eta, a1]
  · unfold F_X8_most
    rw [b1, Option.bind_some, show (0 : Int32) = nI 0 from rfl, ix_n (by decide) (by decide), b2 0 (by omega)]
    rfl
