/-! ===== CHANCES ===== -/
theorem lp_st {c : Nat → Bool} : ∀ k i s, s < 2 ^ i → lp (fun i s => if c i then s ||| 2 ^ i else s) i k s < 2 ^ (i + k) := by
  intro k
  induction k with
  | zero => intro i s h; exact h
  | succ k ih =>
    intro i s h
    rw [lp, show i + (k + 1) = i + 1 + k by omega]
    have h2 : s < 2 ^ (i + 1) := Nat.lt_of_lt_of_le h (Nat.pow_le_pow_right (by decide) (by omega))
    cases hc : c i with
    | true => exact ih (i + 1) _ (Nat.or_lt_two_pow h2 (Nat.pow_lt_pow_right (by decide) (by omega)))
    | false => exact ih (i + 1) _ h2
theorem st_lt (N : Nat) (c : Nat → Bool) : st N c < 2 ^ N := by
  have := lp_st (c := c) N 0 0 (by decide)
  rw [Nat.zero_add] at this
  exact this
theorem pc_st {N : Nat} (hN : N ≤ 8) (c : Nat → Bool) : pc (st N c) 8 ≤ N := pcN N (by omega) _ (st_lt N c)
theorem ways37_m (a b : Int32) (M M' : Mem) : ∀ n x y z, F_X8_ways_37 a b M n x y z = F_X8_ways_37 a b M' n x y z
  | 0, _, _, _ => rfl
  | n + 1, x, y, z => by rw [F_X8_ways_37, F_X8_ways_37]; simp only [ways37_m a b M M' n]
theorem ways11_m (a b : Int32) (M M' : Mem) : ∀ n x y, F_X8_ways_11 a b M n x y = F_X8_ways_11 a b M' n x y
  | 0, _, _ => rfl
  | n + 1, x, y => by rw [F_X8_ways_11, F_X8_ways_11]; simp only [ways37_m a b M M', ways11_m a b M M' n]
theorem ways_m (a b : Int32) (M M' : Mem) : F_X8_ways a b M = F_X8_ways a b M' := by
  unfold F_X8_ways
  rw [ways11_m a b M M']
theorem all4_m (a : Int32) (M M' : Mem) : ∀ n x y, F_X8_all_4 a M n x y = F_X8_all_4 a M' n x y
  | 0, _, _ => rfl
  | n + 1, x, y => by rw [F_X8_all_4, F_X8_all_4]; simp only [all4_m a M M' n]
theorem all_m (a : Int32) (M M' : Mem) : F_X8_all a M = F_X8_all a M' := all4_m a M M' FU 1 2
theorem div4_m (a b : Int32) (M M' : Mem) : ∀ n x y, F_X8_divisor_4 a b M n x y = F_X8_divisor_4 a b M' n x y
  | 0, _, _ => rfl
  | n + 1, x, y => by rw [F_X8_divisor_4, F_X8_divisor_4]; simp only [div4_m a b M M' n]
theorem div_m (a b : Int32) (M M' : Mem) : F_X8_divisor a b M = F_X8_divisor a b M' := div4_m a b M M' FU a b
theorem cd7_m (a b : Int32) (M M' : Mem) : ∀ n x y z, F_X1_commonDivisor_7 a b M n x y z = F_X1_commonDivisor_7 a b M' n x y z
  | 0, _, _, _ => rfl
  | n + 1, x, y, z => by rw [F_X1_commonDivisor_7, F_X1_commonDivisor_7]; simp only [cd7_m a b M M' n]
theorem cd_m (a b : Int32) (M M' : Mem) : F_X1_commonDivisor a b M = F_X1_commonDivisor a b M' := cd7_m a b M M' FU a b 0
theorem ways0_all : ∀ n, n < 9 → F_X8_ways (nI n) (0 : Int32) M00 = some (s_R n) := by decide +kernel
theorem all_all : ∀ n, n < 9 → F_X8_all (nI n) M00 = some (s_O n) := by decide +kernel
theorem div_all : ∀ g, g < 9 → ∀ c, c < 9 → g + c ≤ 8 → (F_X1_commonDivisor (s_R g * s_R c) (s_O g * s_O c) M00).map (fun r => if (1 : Int32) < r then r else (1 : Int32)) = F_X8_divisor (s_R g * s_R c) (s_O g * s_O c) M00 ∧ (F_X8_divisor (s_R g * s_R c) (s_O g * s_O c) M00).isSome = true ∧ F_X8_divisor (s_R g * s_R c) (s_O g * s_O c) M00 ≠ some 0 := by decide +kernel
theorem nI_sb {a b : Nat} (h : b ≤ a) : nI a - nI b = nI (a - b) := by
  have : nI a = nI (a - b) + nI b := by rw [nI_add, Nat.sub_add_cancel h]
  rw [this, Int32.add_sub_cancel]
theorem op_odds {M : Mem} (h : RR M) (a : Int32) : OpI (F_X7_odds a) (F_X8_odds a) M := by
  obtain ⟨⟨f, z, N, U, hg, hx, hm⟩, -⟩ := id h
  have hN := hg.1
  have e0 : (0 : Int32).toInt = 0 := by decide
  have e1 : (1 : Int32).toInt = 1 := by decide
  by_cases ha : 0 ≤ a.toInt ∧ a.toInt ≤ 1
  · have c1 : ¬ a < 0 := by rw [t_lt, e0]; omega
    have c2 : a ≤ (1 : Int32) := by rw [t_le, e1]; omega
    obtain ⟨x1, x2⟩ := x_children hx hN
    obtain ⟨m1, m2⟩ := m_children hm hN
    have hc := pc_st hN (fun i => decide (U 0 i = 3))
    generalize hS : st N (fun i => decide (U 0 i = 3)) = S at x1 x2 m1 m2 hc
    generalize hC : pc S 8 = C at hc
    obtain ⟨d1, d2, d3⟩ := div_all (N - C) (by omega) C (by omega) (by omega)
    obtain ⟨d, hd⟩ := Option.isSome_iff_exists.mp d2
    rw [hd] at d1 d3
    have d0 : ¬ d = 0 := fun q => d3 (by rw [q])
    obtain ⟨r, d4, d5⟩ := Option.map_eq_some_iff.mp d1
    have d5 : (if (1 : Int32) < r then r else (1 : Int32)) = d := d5
    have X : F_X7_odds a M = if a = 0 then some ((s_R (N - C) * s_R C) / d, M) else some ((s_O (N - C) * s_O C) / d, M) := by
      unfold F_X7_odds
      rw [if_neg c1, if_pos c2, x1, Option.bind_some, x_bc x2, hC, Option.bind_some, hx.2.2.1, nI_sb hc]
      unfold F_X1_deranged F_X1_ordered
      rw [ix_n (by omega) (by decide), ix_n (by omega) (by decide), Option.bind_some, Option.bind_some, ix_n (by omega) (by decide), ix_n (by omega) (by decide), Option.bind_some, Option.bind_some, cd_m _ _ M M00, d4, Option.bind_some, d5, dv, dv, if_neg d0, if_neg d0]
    have Y : F_X8_odds a M = if a = 0 then some ((s_R (N - C) * s_R C) / d, M) else some ((s_O (N - C) * s_O C) / d, M) := by
      unfold F_X8_odds
      rw [in_e, if_pos (by rw [e0, e1]; exact ha), Option.bind_some, if_neg (by decide), m1, Option.bind_some, m_bits m2, hC, Option.bind_some, n51_2, hm.2.2.1, nI_sb hc, ways_m _ _ M M00, ways0_all _ (by omega), Option.bind_some, ways_m _ _ M M00, ways0_all _ (by omega), Option.bind_some, all_m _ M M00, all_all _ (by omega), Option.bind_some, all_m _ M M00, all_all _ (by omega), Option.bind_some, div_m _ _ M M00, hd, Option.bind_some, dv, dv, if_neg d0, if_neg d0]
    by_cases ea : a = 0
    · exact op_r h (by rw [X, if_pos ea]) (by rw [Y, if_pos ea])
    · exact op_r h (by rw [X, if_neg ea]) (by rw [Y, if_neg ea])
  · refine op_f h (k := 0) (by decide) ?_ (fun M1 hc => ?_)
    · unfold F_X7_odds
      by_cases c1 : a < (0 : Int32)
      · rw [if_pos c1, bn_eta]; rfl
      · rw [if_neg c1, if_neg (by rw [t_lt, e0] at c1; rw [t_le, e1]; omega), bn_eta]; rfl
    · unfold F_X8_odds
      rw [in_e, if_neg (by rw [e0, e1]; exact ha), Option.bind_some, if_pos rfl, bn_eta]
      rfl
def Wt (n k : Nat) : Int32 := (F_X8_ways (nI n) (nI k) M00).getD 0
theorem ways_all : ∀ n, n < 9 → ∀ k, k < 9 → F_X8_ways (nI n) (nI k) M00 = some (Wt n k) ∧ F_X1_withOwn (nI n) (nI k) M00 = some (Wt n k) := by decide +kernel
theorem m_ways {n k : Nat} (hn : n < 9) (hk : k < 9) (M : Mem) : F_X8_ways (nI n) (nI k) M = some (Wt n k) := (ways_m _ _ M M00).trans (ways_all n hn k hk).1
theorem x_ways {n k : Nat} (hn : n < 9) (hk : k < 9) (M : Mem) : F_X1_withOwn (nI n) (nI k) M = some (Wt n k) := (ways_all n hn k hk).2
theorem lots_all : ∀ a, a < 9 → ∀ g, g < 9 → ∀ c, c < 9 → g + c ≤ 8 → lp (fun x s => s + Wt g x * Wt c (a - x)) 0 (a + 1) 0 = lp (fun x s => s + Wt c x * Wt g (a - x)) 0 (a + 1) 0 := by decide +kernel
theorem x_lots43 {a g c : Nat} (ha : a < 9) (hg : g < 9) (hc : c < 9) (M : Mem) : ∀ k m i s, i + k = a + 1 → k < m → F_X7_lots_43 (nI a) m (nI c) (nI g) s (nI i) M = some (lp (fun x s => s + Wt g x * Wt c (a - x)) i k s, M) := by
  intro k
  induction k with
  | zero =>
    intro m i s h1 h2
    obtain ⟨m, rfl⟩ : ∃ q, m = q + 1 := ⟨m - 1, by omega⟩
    rw [F_X7_lots_43, if_pos (nI_lt (show a < i by omega) (by omega)), lp]
  | succ k ih =>
    intro m i s h1 h2
    obtain ⟨m, rfl⟩ : ∃ q, m = q + 1 := ⟨m - 1, by omega⟩
    rw [F_X7_lots_43, if_neg (nI_nlt (show i ≤ a by omega) (by omega)), x_ways hg (by omega), Option.bind_some, nI_sb (by omega), x_ways hc (by omega), Option.bind_some, nI_1, ih m (i + 1) _ (by omega) (by omega), lp]
theorem m_lots30 {a N c : Nat} (ha : a < 9) (hN : N ≤ 8) (hc : c ≤ N) {M : Mem} (hM : m_I M 50 2 = nI N) : ∀ k m i s, i + k = a + 1 → k < m → F_X8_lots_30 (nI a) m (nI c) s (nI i) M = some (lp (fun x s => s + Wt c x * Wt (N - c) (a - x)) i k s, M) := by
  intro k
  induction k with
  | zero =>
    intro m i s h1 h2
    obtain ⟨m, rfl⟩ : ∃ q, m = q + 1 := ⟨m - 1, by omega⟩
    rw [F_X8_lots_30, if_pos (nI_lt (show a < i by omega) (by omega)), lp]
  | succ k ih =>
    intro m i s h1 h2
    obtain ⟨m, rfl⟩ : ∃ q, m = q + 1 := ⟨m - 1, by omega⟩
    rw [F_X8_lots_30, if_neg (nI_nlt (show i ≤ a by omega) (by omega)), m_ways (by omega) (by omega), Option.bind_some, n51_2, hM, nI_sb hc, nI_sb (by omega), m_ways (by omega) (by omega), Option.bind_some, nI_1, ih m (i + 1) _ (by omega) (by omega), lp]
theorem op_lots {M : Mem} (h : RR M) (a : Int32) : OpI (F_X7_lots a) (F_X8_lots a) M := by
  obtain ⟨⟨f, z, N, U, hg, hx, hm⟩, -⟩ := id h
  have hN := hg.1
  have e0 : (0 : Int32).toInt = 0 := by decide
  have e8 : (8 : Int32).toInt = 8 := by decide
  by_cases ha : 0 ≤ a.toInt ∧ a.toInt ≤ 8
  · have c1 : ¬ a < 0 := by rw [t_lt, e0]; omega
    have c2 : a ≤ (8 : Int32) := by rw [t_le, e8]; omega
    obtain ⟨n, hn, rfl⟩ := t_of (n := 9) (x := a) (by omega) (by omega)
    obtain ⟨x1, x2⟩ := x_children hx hN
    obtain ⟨m1, m2⟩ := m_children hm hN
    have hc := pc_st hN (fun i => decide (U 0 i = 3))
    generalize hS : st N (fun i => decide (U 0 i = 3)) = S at x1 x2 m1 m2 hc
    generalize hC : pc S 8 = C at hc
    refine op_r h (r := lp (fun x s => s + Wt (N - C) x * Wt C (n - x)) 0 (n + 1) 0) ?_ ?_
    · unfold F_X7_lots
      rw [if_neg c1, if_pos c2, x1, Option.bind_some, x_bc x2, hC, Option.bind_some, hx.2.2.1, nI_sb hc]
      exact x_lots43 hn (by omega) (by omega) M (n + 1) FU 0 0 (by omega) (by show n + 1 < 1000; omega)
    · unfold F_X8_lots
      rw [in_e, if_pos (by rw [e0, e8]; exact ha), Option.bind_some, if_neg (by decide), m1, Option.bind_some, m_bits m2, hC, Option.bind_some, lots_all n hn (N - C) (by omega) C (by omega) (by omega)]
      exact m_lots30 hn hN hc hm.2.2.1 (n + 1) FU 0 0 (by omega) (by show n + 1 < 1000; omega)
  · refine op_f h (k := 0) (by decide) ?_ (fun M1 hc => ?_)
    · unfold F_X7_lots
      by_cases c1 : a < (0 : Int32)
      · rw [if_pos c1, bn_eta]; rfl
      · rw [if_neg c1, if_neg (by rw [t_lt, e0] at c1; rw [t_le, e8]; omega), bn_eta]; rfl
    · unfold F_X8_lots
      rw [in_e, if_neg (by rw [e0, e8]; exact ha), Option.bind_some, if_pos rfl, bn_eta]
      rfl
