/-! ===== WHOSE SLIP IN THE BEST LOT ===== -/
theorem vl_p {U : Nat → Nat → Int32} {W : Nat → Int32} {s p : Nat} : ∀ k q x, (vl U W s p k q x = x ∨ ∃ y, q ≤ y ∧ y < q + k ∧ mw U W s p y = vl U W s p k q x) ∧ x.toInt ≤ (vl U W s p k q x).toInt ∧ ∀ y, q ≤ y → y < q + k → (mw U W s p y).toInt ≤ (vl U W s p k q x).toInt := by
  intro k
  induction k with
  | zero => intro q x; exact ⟨Or.inl rfl, Int.le_refl _, fun y h1 h2 => by omega⟩
  | succ k ih =>
    intro q x
    rw [vl]
    by_cases c : x < mw U W s p q
    · rw [if_pos c]
      obtain ⟨a1, a2, a3⟩ := ih (q + 1) (mw U W s p q)
      rw [t_lt] at c
      refine ⟨Or.inr ?_, by omega, fun y h1 h2 => ?_⟩
      · rcases a1 with e | ⟨y, y1, y2, y3⟩
        · exact ⟨q, by omega, by omega, e.symm⟩
        · exact ⟨y, by omega, by omega, y3⟩
      · by_cases e : y = q
        · rw [e]; exact a2
        · exact a3 y (by omega) (by omega)
    · rw [if_neg c]
      obtain ⟨a1, a2, a3⟩ := ih (q + 1) x
      rw [t_lt] at c
      refine ⟨?_, a2, fun y h1 h2 => ?_⟩
      · rcases a1 with e | ⟨y, y1, y2, y3⟩
        · exact Or.inl e
        · exact Or.inr ⟨y, by omega, by omega, y3⟩
      · by_cases e : y = q
        · rw [e]; omega
        · exact a3 y (by omega) (by omega)
/-- the table of the best lots -/
def TT (U : Nat → Nat → Int32) (N : Nat) : Nat → Int32 := fin U N (2 ^ N - 1) (fun _ => 0)
theorem TT_full (U : Nat → Nat → Int32) (N : Nat) : TT U N (2 ^ N - 1) = 0 := fin_ge _ _ _ (Nat.le_refl _)
theorem TT_rec {U : Nat → Nat → Int32} {N s : Nat} (h : s < 2 ^ N - 1) : TT U N s = vl U (TT U N) s (pc s 8) N 0 (-1) := fin_rec _ _ s h
theorem m1t : (-1 : Int32).toInt = -1 := by decide
theorem mw_ok {U : Nat → Nat → Int32} {W : Nat → Int32} {s p q : Nat} (h : 0 ≤ (mw U W s p q).toInt) : s.testBit q = false ∧ al U p q ∧ 0 ≤ W (s ||| 2 ^ q) ∧ mw U W s p q = W (s ||| 2 ^ q) + eU U p q := by
  unfold mw at h ⊢
  by_cases hb : s.testBit q = true
  · rw [if_pos hb, m1t] at h; omega
  · rw [if_neg hb] at h ⊢
    by_cases ha : al U p q
    · rw [if_pos ha] at h ⊢
      by_cases hw : 0 ≤ W (s ||| 2 ^ q)
      · rw [if_pos hw]
        exact ⟨Bool.eq_false_iff.mpr hb, ha, hw, rfl⟩
      · rw [if_neg hw, m1t] at h; omega
    · rw [if_neg ha, m1t] at h; omega
theorem TT_b {f : Int32} {N : Nat} {U : Nat → Nat → Int32} (hg : GV f N U) : ∀ (k s : Nat), s + k = 2 ^ N - 1 → -1 ≤ (TT U N s).toInt ∧ (TT U N s).toInt ≤ 48 * k := by
  have hN := hg.1
  obtain ⟨-, h1, h2⟩ := two8 N (by omega)
  intro k
  induction k using Nat.strongRecOn with
  | ind k ih =>
    intro s hs
    by_cases e : k = 0
    · have : s = 2 ^ N - 1 := by omega
      rw [this, TT_full, show (0 : Int32).toInt = 0 by decide]
      omega
    · have hp := pcF N (by omega) s (by omega)
      obtain ⟨a1, a2, a3⟩ := vl_p (U := U) (W := TT U N) (s := s) (p := pc s 8) N 0 (-1)
      rw [← TT_rec (by omega), m1t] at a2
      rw [← TT_rec (by omega)] at a1
      refine ⟨a2, ?_⟩
      rcases a1 with q | ⟨y, y1, y2, y3⟩
      · rw [q, m1t]; omega
      · by_cases hn : 0 ≤ (mw U (TT U N) s (pc s 8) y).toInt
        · obtain ⟨m1, m2, m3, m4⟩ := mw_ok hn
          have g1 := or_gt m1
          have g2 : s ||| 2 ^ y < 2 ^ N := Nat.or_lt_two_pow (by omega) (Nat.pow_lt_pow_right (by decide) (by omega))
          have q := ih (2 ^ N - 1 - (s ||| 2 ^ y)) (by omega) (s ||| 2 ^ y) (by omega)
          have b := eU_b hg hp (show y < N by omega)
          rw [← y3, m4, t_add (by omega) (by omega)]
          omega
        · rw [← y3]; omega
theorem TT_le {f : Int32} {N : Nat} {U : Nat → Nat → Int32} (hg : GV f N U) {s : Nat} (hs : s < 2 ^ N) : -1 ≤ (TT U N s).toInt ∧ (TT U N s).toInt ≤ 12288 := by
  have hN := hg.1
  obtain ⟨-, h1, h2⟩ := two8 N (by omega)
  have := TT_b hg (2 ^ N - 1 - s) s (by omega)
  omega
theorem idm : ∀ i, i < 8 → pc (2 ^ i - 1) 8 = i ∧ (2 ^ i - 1).testBit i = false ∧ (2 ^ i - 1) ||| 2 ^ i = 2 ^ (i + 1) - 1 := by decide +kernel
theorem TT_id {f : Int32} {N : Nat} {U : Nat → Nat → Int32} (hg : GV f N U) : ∀ k i, i + k = N → 0 ≤ (TT U N (2 ^ i - 1)).toInt := by
  have hN := hg.1
  obtain ⟨-, h1, h2⟩ := two8 N (by omega)
  intro k
  induction k with
  | zero =>
    intro i h
    have : i = N := by omega
    rw [this, TT_full]
    decide
  | succ k ih =>
    intro i h
    obtain ⟨c1, c2, c3⟩ := idm i (by omega)
    have hl : 2 ^ (i + 1) ≤ 2 ^ N := Nat.pow_le_pow_right (by decide) (by omega)
    have h4 : 2 ^ (i + 1) = 2 * 2 ^ i := by rw [Nat.pow_succ]; omega
    have h5 : 1 ≤ 2 ^ i := Nat.one_le_two_pow
    have q := ih (i + 1) (by omega)
    have b := eU_b hg (show i < N by omega) (show i < N by omega)
    have bt := TT_le hg (s := 2 ^ (i + 1) - 1) (by omega)
    obtain ⟨a1, a2, a3⟩ := vl_p (U := U) (W := TT U N) (s := 2 ^ i - 1) (p := i) N 0 (-1)
    have e : mw U (TT U N) (2 ^ i - 1) i i = TT U N (2 ^ (i + 1) - 1) + eU U i i := by
      unfold mw
      rw [c2, if_neg Bool.false_ne_true, if_pos (show al U i i from Iff.rfl), c3, if_pos (by rw [t_le, show (0 : Int32).toInt = 0 by decide]; exact q)]
    have r := a3 i (by omega) (by omega)
    rw [e, t_add (by omega) (by omega)] at r
    rw [TT_rec (by omega), c1]
    omega
def le1 (U : Nat → Nat → Int32) (W : Nat → Int32) (s p : Nat) : Nat → Nat → Nat
  | 0, _ => p
  | k + 1, q => if mw U W s p q = W s then q else le1 U W s p k (q + 1)
theorem le1_in {U : Nat → Nat → Int32} {W : Nat → Int32} {s p : Nat} : ∀ k q, (∃ y, q ≤ y ∧ y < q + k ∧ mw U W s p y = W s) → q ≤ le1 U W s p k q ∧ le1 U W s p k q < q + k ∧ mw U W s p (le1 U W s p k q) = W s := by
  intro k
  induction k with
  | zero => intro q h; obtain ⟨y, y1, y2, -⟩ := h; omega
  | succ k ih =>
    intro q h
    rw [le1]
    by_cases c : mw U W s p q = W s
    · rw [if_pos c]
      exact ⟨by omega, by omega, c⟩
    · rw [if_neg c]
      obtain ⟨y, y1, y2, y3⟩ := h
      have : y ≠ q := fun e => c (by rw [← e]; exact y3)
      obtain ⟨a1, a2, a3⟩ := ih (q + 1) ⟨y, by omega, by omega, y3⟩
      exact ⟨by omega, by omega, a3⟩
theorem x_least {M : Mem} {f z : Int32} {N : Nat} {U : Nat → Nat → Int32} (hx : VX M 2 f z N U) (hN : N ≤ 8) {W : Nat → Int32} {s p : Nat} (hs : s < 2 ^ N) (hp : p < N) (hW : ∀ t, t < 2 ^ N → m_I M 36 t = W t) (h0 : 0 ≤ (W s).toInt) : ∀ k m q, q + k = N → k < m → F_X0_leastBest_3 (nI s) (nI p) 2 M m (nI q) = some (nI (le1 U W s p k q)) := by
  obtain ⟨-, h1, h2⟩ := two8 N (by omega)
  have hn : ¬ W s < 0 := by rw [t_lt, show (0 : Int32).toInt = 0 by decide]; omega
  intro k
  induction k with
  | zero =>
    intro m q h3 h4
    obtain ⟨m, rfl⟩ : ∃ q, m = q + 1 := ⟨m - 1, by omega⟩
    have hq : q = N := by omega
    subst hq
    rw [F_X0_leastBest_3, hx.2.2.1, lp_y, le1]
  | succ k ih =>
    intro m q h3 h4
    obtain ⟨m, rfl⟩ : ∃ q, m = q + 1 := ⟨m - 1, by omega⟩
    rw [F_X0_leastBest_3, hx.2.2.1, lp_x (by omega) (by omega), ix_n (by omega) (by decide), hW s hs, if_neg hn, x_mostWith hx hN hs hp (show q < N by omega) (fun t _ ht => hW t ht), Option.bind_some, ix_n (by omega) (by decide), hW s hs, nI_1, le1]
    by_cases c : mw U W s p q = W s
    · rw [if_pos c, if_pos c]
    · rw [if_neg c, if_neg c, ih m (q + 1) (by omega) (by omega)]
theorem tbO : ∀ s, s < 256 → ∀ v, v < 8 → (((nI s >>> (nI v &&& 31)) &&& (1 : Int32)) = 1 ↔ s.testBit v = true) := by decide +kernel
theorem m_s34 {M : Mem} {f z : Int32} {N : Nat} {U : Nat → Nat → Int32} (hm : VM M 50 f z N U) (hN : N ≤ 8) {W : Nat → Int32} {s p : Nat} {a : Int32} (hs : s < 2 ^ N) (hp : p < N) (hW : ∀ t, t < 2 ^ N → m_I M 57 t = W t) (h0 : 0 ≤ (W s).toInt) (K : Int32 → Int32 → Int32 → Mem → Option (Int32 × Mem)) : ∀ k m q, q + k = N → k < m → (∃ y, q ≤ y ∧ y < q + k ∧ mw U W s p y = W s) → F_X8_slip_34 a K m (nI s) (nI q) (nI p) M = K (nI (s ||| 2 ^ le1 U W s p k q)) (nI (le1 U W s p k q)) (nI p + 1) M := by
  obtain ⟨-, h1, h2⟩ := two8 N (by omega)
  intro k
  induction k with
  | zero =>
    intro m q h3 h4 h5
    obtain ⟨y, y1, y2, -⟩ := h5
    omega
  | succ k ih =>
    intro m q h3 h4 h5
    obtain ⟨m, rfl⟩ : ∃ q, m = q + 1 := ⟨m - 1, by omega⟩
    have hq : q < N := by omega
    have h6 : s ||| 2 ^ q < 2 ^ N := Nat.or_lt_two_pow hs (Nat.pow_lt_pow_right (by decide) hq)
    have ht := tbO s (by omega) q (by omega)
    have rest : mw U W s p q ≠ W s → F_X8_slip_34 a K m (nI s) (nI (q + 1)) (nI p) M = K (nI (s ||| 2 ^ le1 U W s p (k + 1) q)) (nI (le1 U W s p (k + 1) q)) (nI p + 1) M := by
      intro c
      obtain ⟨y, y1, y2, y3⟩ := h5
      have : y ≠ q := fun e => c (by rw [← e]; exact y3)
      rw [le1, if_neg c]
      exact ih m (q + 1) (by omega) (by omega) ⟨y, by omega, by omega, y3⟩
    have neg : mw U W s p q = -1 → mw U W s p q ≠ W s := fun e e2 => by
      rw [← e2, e, m1t] at h0
      omega
    rw [F_X8_slip_34, nI_1]
    by_cases hb : s.testBit q = true
    · rw [if_pos (ht.mpr hb)]
      exact rest (neg (by unfold mw; rw [if_pos hb]))
    · have hbf := Bool.eq_false_iff.mpr hb
      rw [if_neg (fun e => hb (ht.mp e)), m_areAlike hm (by omega) (by omega), Option.bind_some]
      by_cases ha : al U p q
      · rw [if_pos ha, if_neg one0.mp, b_2 q (by omega), nI_or, ix_n (by omega) (by decide), hW _ h6]
        by_cases hw : 0 ≤ W (s ||| 2 ^ q)
        · have e : mw U W s p q = W (s ||| 2 ^ q) + eU U p q := by
            unfold mw
            rw [if_neg hb, if_pos ha, if_pos hw]
          have hn : ¬ W (s ||| 2 ^ q) < 0 := by
            rw [t_lt]
            rw [t_le] at hw
            omega
          rw [if_neg hn, m_earnsAs hm (by omega) (by omega), Option.bind_some, ix_n (by omega) (by decide), ix_n (by omega) (by decide), hW _ h6, hW s hs, Int32.add_comm (eU U p q), ← e]
          by_cases c : mw U W s p q = W s
          · rw [if_pos c, le1, if_pos c]
          · rw [if_neg c]
            exact rest c
        · have hn : W (s ||| 2 ^ q) < 0 := by
            rw [t_lt]
            rw [t_le] at hw
            omega
          rw [if_pos hn]
          exact rest (neg (by unfold mw; rw [if_neg hb, if_pos ha, if_neg hw]))
      · rw [if_neg ha, if_pos rfl]
        exact rest (neg (by unfold mw; rw [if_neg hb, if_neg ha]))
def sp (U : Nat → Nat → Int32) (W : Nat → Int32) (N : Nat) : Nat → Nat → Nat → Int32 → Int32
  | 0, _, _, x => x
  | k + 1, i, s, _ => sp U W N k (i + 1) (s ||| 2 ^ le1 U W s i N 0) (nI (le1 U W s i N 0))
theorem sp_step {f : Int32} {N : Nat} {U : Nat → Nat → Int32} (hg : GV f N U) {i s : Nat} (hi : i < N) (hs : s < 2 ^ N) (hp : pc s 8 = i) (h0 : 0 ≤ (TT U N s).toInt) : (∃ y, 0 ≤ y ∧ y < 0 + N ∧ mw U (TT U N) s i y = TT U N s) ∧ le1 U (TT U N) s i N 0 < N ∧ s ||| 2 ^ le1 U (TT U N) s i N 0 < 2 ^ N ∧ pc (s ||| 2 ^ le1 U (TT U N) s i N 0) 8 = i + 1 ∧ 0 ≤ (TT U N (s ||| 2 ^ le1 U (TT U N) s i N 0)).toInt := by
  have hN := hg.1
  obtain ⟨-, h1, h2⟩ := two8 N (by omega)
  have hne : s < 2 ^ N - 1 := by
    by_cases e : s = 2 ^ N - 1
    · have : ∀ N, N < 9 → pc (2 ^ N - 1) 8 = N := by decide +kernel
      have := this N (by omega)
      rw [← e] at this
      omega
    · omega
  obtain ⟨a1, a2, a3⟩ := vl_p (U := U) (W := TT U N) (s := s) (p := i) N 0 (-1)
  rw [← hp, ← TT_rec hne, hp] at a1
  have hex : ∃ y, 0 ≤ y ∧ y < 0 + N ∧ mw U (TT U N) s i y = TT U N s := by
    rcases a1 with e | h
    · rw [e, m1t] at h0; omega
    · exact h
  obtain ⟨b1, b2, b3⟩ := le1_in N 0 hex
  have b4 : le1 U (TT U N) s i N 0 < N := by omega
  obtain ⟨m1, m2, m3, m4⟩ := mw_ok (U := U) (W := TT U N) (s := s) (p := i) (q := le1 U (TT U N) s i N 0) (by rw [b3]; exact h0)
  have hpc := pc_or s (by omega) (le1 U (TT U N) s i N 0) (by omega)
  rw [m1, if_neg Bool.false_ne_true] at hpc
  refine ⟨hex, b4, Nat.or_lt_two_pow hs (Nat.pow_lt_pow_right (by decide) b4), by omega, ?_⟩
  rw [t_le, show (0 : Int32).toInt = 0 by decide] at m3
  exact m3
theorem x_sp {M : Mem} {f z : Int32} {N a : Nat} {U : Nat → Nat → Int32} (hg : GV f N U) (hx : VX M 2 f z N U) (ha : a < N) (hW : ∀ t, t < 2 ^ N → m_I M 36 t = TT U N t) : ∀ k m i s x, i + k = a + 1 → k < m → s < 2 ^ N → pc s 8 = i → 0 ≤ (TT U N s).toInt → F_X0_slipOf_8 (nI a) 2 M m (nI s) x (nI i) = some (sp U (TT U N) N k i s x) := by
  have hN := hg.1
  intro k
  induction k with
  | zero =>
    intro m i s x h1 h2 h3 h4 h5
    obtain ⟨m, rfl⟩ : ∃ q, m = q + 1 := ⟨m - 1, by omega⟩
    rw [F_X0_slipOf_8, if_pos (nI_lt (show a < i by omega) (by omega)), sp]
  | succ k ih =>
    intro m i s x h1 h2 h3 h4 h5
    obtain ⟨m, rfl⟩ : ∃ q, m = q + 1 := ⟨m - 1, by omega⟩
    obtain ⟨c0, c1, c2, c3, c4⟩ := sp_step hg (show i < N by omega) h3 h4 h5
    have q : F_X0_leastBest (nI s) (nI i) 2 M = some (nI (le1 U (TT U N) s i N 0)) := x_least hx hN h3 (show i < N by omega) hW h5 N FU 0 (by omega) (by show N < 1000; omega)
    rw [F_X0_slipOf_8, if_neg (nI_nlt (show i ≤ a by omega) (by omega)), q, Option.bind_some, b_2 _ (by omega), nI_or, nI_1, ih m (i + 1) _ _ (by omega) (by omega) c2 c3 c4, sp]
theorem m_sp {M : Mem} {f z : Int32} {N a : Nat} {U : Nat → Nat → Int32} (hg : GV f N U) (hm : VM M 50 f z N U) (ha : a < N) (hW : ∀ t, t < 2 ^ N → m_I M 57 t = TT U N t) : ∀ k m i s x, i + k = a + 1 → k < m → s < 2 ^ N → pc s 8 = i → 0 ≤ (TT U N s).toInt → F_X8_slip_26 (nI a) m (nI s) x (nI i) M = some (sp U (TT U N) N k i s x, M) := by
  have hN := hg.1
  intro k
  induction k with
  | zero =>
    intro m i s x h1 h2 h3 h4 h5
    obtain ⟨m, rfl⟩ : ∃ q, m = q + 1 := ⟨m - 1, by omega⟩
    rw [F_X8_slip_26, if_pos (nI_lt (show a < i by omega) (by omega)), sp]
  | succ k ih =>
    intro m i s x h1 h2 h3 h4 h5
    obtain ⟨m, rfl⟩ : ∃ q, m = q + 1 := ⟨m - 1, by omega⟩
    obtain ⟨c0, c1, c2, c3, c4⟩ := sp_step hg (show i < N by omega) h3 h4 h5
    have q := m_s34 (a := nI a) hm hN h3 (show i < N by omega) hW h5 (F_X8_slip_26 (nI a) m) N FU 0 (by omega) (by show N < 1000; omega) c0
    rw [F_X8_slip_26, if_neg (nI_nlt (show i ≤ a by omega) (by omega))]
    refine q.trans ?_
    rw [nI_1, ih m (i + 1) _ _ (by omega) (by omega) c2 c3 c4, sp]
theorem op_slip {M : Mem} (h : RR M) (a : Int32) : OpI (F_X7_slip a) (F_X8_slip a) M := by
  obtain ⟨⟨f, z, N, U, hg, hx, hm⟩, -⟩ := id h
  have hN := hg.1
  by_cases ha : 0 ≤ a.toInt ∧ a.toInt < N
  · obtain ⟨p, hp, rfl⟩ := t_of ha.1 ha.2
    obtain ⟨-, h1, h2⟩ := two8 N (by omega)
    obtain ⟨M1, a1, a2, a3⟩ := x_search hx hN
    have hx1 := hx.ch a3 (fun o q1 q2 => by omega)
    have hm1 := hm.ch a3 (by omega)
    obtain ⟨M2, b1, b2, b3⟩ := m_findMost hm1 hN
    have h0 : 0 ≤ (TT U N 0).toInt := TT_id hg N 0 (by omega)
    refine op_v h hg (r := sp U (TT U N) N (p + 1) 0 0 0) (M1 := M1) ?_ hx1 (a3.wk (fun o q => by unfold vlC hdC; omega)) ⟨M2, ?_, hm1.ch b3 (by omega), b3.wk (fun o q => by omega)⟩
    · unfold F_X7_slip
      rw [x_has hx hN, if_pos ha, Option.bind_some, if_neg (by decide), a1, bn]
      unfold F_X0_slipOf
      rw [show F_X0_slipOf_8 (nI p) 2 M1 FU (0 : Int32) (nI p) (0 : Int32) = some (sp U (TT U N) N (p + 1) 0 0 0) from x_sp hg hx1 hp a2 (p + 1) FU 0 0 (nI p) (by omega) (by show p + 1 < 1000; omega) (by omega) rfl h0, Option.bind_some]
    · unfold F_X8_slip
      rw [m_isOne hm1 hN, if_pos ha, Option.bind_some, if_neg (by decide), b1, Option.bind_some]
      exact m_sp hg (hm1.ch b3 (by omega)) hp b2 (p + 1) FU 0 0 0 (by omega) (by show p + 1 < 1000; omega) (by omega) rfl h0
  · exact op_f h (k := 0) (by decide) (by unfold F_X7_slip; rw [x_has hx hN, if_neg ha, Option.bind_some, if_pos rfl, bn_eta]; rfl) (fun M1 hc => by unfold F_X8_slip; rw [no_one hm hN hc, if_neg ha, Option.bind_some, if_pos rfl, bn_eta]; rfl)
