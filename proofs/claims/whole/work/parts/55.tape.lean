/-! ===== THE TAPE AND THE SHEETS ===== -/
theorem RR.tap {M M1 : Mem} (h : RR M) (hc : Ch (fun o => o = 37 ∨ o = 38 ∨ o = 49 ∨ o = 58) M M1) (h22 : m_I M1 49 22 = m_I M 49 22) (ht : Tap M1) : RR M1 := by
  obtain ⟨h1, h2, h3, h4, h5⟩ := h
  exact ⟨h1.ch hc (fun o a b => by omega) (by omega), h2.ch hc (by omega) (by omega), h3.ch9 hc (by omega) h22 (fun o a b => by omega) (by omega), ht, h5.ch hc (fun o a b => by omega) (fun o a b => by omega)⟩
theorem nI_m1 (k : Nat) : nI k + (-1 : Int32) = nI k - 1 := by
  rw [Int32.sub_eq_add_neg]
theorem x_feed40 {a b : Int32} : ∀ k m T M, k < m → k ≤ 4 → T + k ≤ 120 → m_I M 37 1 = nI T → ∃ M1, F_X7_feed_40 a b m (nI k - 1) M = some (nI (T + k), M1) ∧ m_I M1 37 1 = nI (T + k) ∧ (∀ j, j < T → m_I M1 38 j = m_I M 38 j) ∧ (∀ i, i < k → m_I M1 38 (T + i) = fb a (k - 1 - i)) ∧ Ch (fun o => o = 37 ∨ o = 38) M M1 := by
  intro k
  induction k with
  | zero =>
    intro m T M h1 h2 h3 h4
    obtain ⟨m, rfl⟩ : ∃ q, m = q + 1 := ⟨m - 1, by omega⟩
    exact ⟨M, by rw [F_X7_feed_40, if_pos (by decide), h4]; rfl, h4, fun j hj => rfl, fun i hi => by omega, Ch.rf⟩
  | succ k ih =>
    intro m T M h1 h2 h3 h4
    obtain ⟨m, rfl⟩ : ∃ q, m = q + 1 := ⟨m - 1, by omega⟩
    have e1 : m_I (w_I M 38 T (fb a k)) 37 1 = nI T := by rw [m_wo (show 37 ≠ 38 by decide), h4]
    have c : Ch (fun o => o = 37 ∨ o = 38) M (w_I (w_I M 38 T (fb a k)) 37 1 (nI (T + 1))) := (Ch.w (by omega)).tr (Ch.w (by omega))
    obtain ⟨M1, a1, a2, a3, a4, a5⟩ := ih m (T + 1) (w_I (w_I M 38 T (fb a k)) 37 1 (nI (T + 1))) (by omega) (by omega) (by omega) (m_ws _ _ _ _)
    have e2 : T + 1 + k = T + (k + 1) := by omega
    rw [e2] at a1 a2
    refine ⟨M1, ?_, a2, fun j hj => ?_, fun i hi => ?_, c.tr a5⟩
    · rw [F_X7_feed_40, nI_pred, if_neg (nI_pos (by omega)), fb_u a k (by omega), F_X3_add, h4, ix_n (by omega) (by decide), pin, pin, e1, nI_1, Option.bind_some, nI_m1]
      exact a1
    · rw [a3 j (by omega), m_wo (show 38 ≠ 37 by decide), m_wk (by omega)]
    · by_cases hi0 : i = 0
      · subst hi0
        rw [Nat.add_zero, a3 T (by omega), m_wo (show 38 ≠ 37 by decide), m_ws]
        congr 1
      · have := a4 (i - 1) (by omega)
        rw [show T + 1 + (i - 1) = T + i by omega] at this
        rw [this]
        congr 1
        omega
theorem m_feed38 {a b : Int32} : ∀ k m T M, k < m → k ≤ 4 → T + k ≤ 120 → m_I M 49 9 = nI T → ∃ M1, F_X8_feed_38 a b m (nI k - 1) M = some (nI (T + k), M1) ∧ m_I M1 49 9 = nI (T + k) ∧ (∀ j, j < T → m_I M1 58 j = m_I M 58 j) ∧ (∀ i, i < k → m_I M1 58 (T + i) = fb a (k - 1 - i)) ∧ m_I M1 49 22 = m_I M 49 22 ∧ Ch (fun o => o = 49 ∨ o = 58) M M1 := by
  intro k
  induction k with
  | zero =>
    intro m T M h1 h2 h3 h4
    obtain ⟨m, rfl⟩ : ∃ q, m = q + 1 := ⟨m - 1, by omega⟩
    exact ⟨M, by rw [F_X8_feed_38, if_pos (by decide), h4]; rfl, h4, fun j hj => rfl, fun i hi => by omega, rfl, Ch.rf⟩
  | succ k ih =>
    intro m T M h1 h2 h3 h4
    obtain ⟨m, rfl⟩ : ∃ q, m = q + 1 := ⟨m - 1, by omega⟩
    have e1 : m_I (w_I M 58 T (fb a k)) 49 9 = nI T := by rw [m_wo (show 49 ≠ 58 by decide), h4]
    have c : Ch (fun o => o = 49 ∨ o = 58) M (w_I (w_I M 58 T (fb a k)) 49 9 (nI (T + 1))) := (Ch.w (by omega)).tr (Ch.w (by omega))
    obtain ⟨M1, a1, a2, a3, a4, a6, a5⟩ := ih m (T + 1) (w_I (w_I M 58 T (fb a k)) 49 9 (nI (T + 1))) (by omega) (by omega) (by omega) (m_ws _ _ _ _)
    have e2 : T + 1 + k = T + (k + 1) := by omega
    rw [e2] at a1 a2
    refine ⟨M1, ?_, a2, fun j hj => ?_, fun i hi => ?_, ?_, c.tr a5⟩
    · rw [F_X8_feed_38, nI_pred, if_neg (nI_pos (by omega)), h4, ix_n (by omega) (by decide), pin, pin, show (a >>> ((8 : Int32) * nI k &&& 31)) &&& (255 : Int32) = fb a k from rfl, e1, nI_1, nI_m1]
      exact a1
    · rw [a3 j (by omega), m_wo (show 58 ≠ 49 by decide), m_wk (by omega)]
    · by_cases hi0 : i = 0
      · subst hi0
        rw [Nat.add_zero, a3 T (by omega), m_wo (show 58 ≠ 49 by decide), m_ws]
        congr 1
      · have := a4 (i - 1) (by omega)
        rw [show T + 1 + (i - 1) = T + i by omega] at this
        rw [this]
        congr 1
        omega
    · rw [a6, m_wk (show 22 ≠ 9 by decide), m_wo (show 49 ≠ 58 by decide)]
theorem op_feed {M : Mem} (h : RR M) (a b : Int32) : OpI (F_X7_feed a b) (F_X8_feed a b) M := by
  obtain ⟨-, -, -, ⟨T, t1, t2, t3, t4⟩, -⟩ := id h
  have e4 : (4 : Int32).toInt = 4 := by decide
  have e1 : (1 : Int32).toInt = 1 := by decide
  have e9 : (120 : Int32).toInt = 120 := by decide
  by_cases ha : 1 ≤ b.toInt ∧ b.toInt ≤ 4
  · obtain ⟨n, hn, rfl⟩ := t_of (n := 5) (x := b) (by omega) (by omega)
    have hn2 : (nI n).toInt = n := nI_toInt (by omega)
    have c1 : ¬ nI n < (1 : Int32) := by rw [t_lt, e1]; omega
    have c2 : nI n ≤ (4 : Int32) := by rw [t_le, e4]; omega
    by_cases hf : T + n ≤ 120
    · have c3 : nI T + nI n ≤ (120 : Int32) := by rw [nI_add, t_le, nI_toInt (by omega), e9]; omega
      obtain ⟨M1, a1, a2, a3, a4, a5⟩ := x_feed40 (a := a) (b := nI n) n FU T M (by show n < 1000; omega) (by omega) hf t2
      obtain ⟨M2, b1, b2, b3, b4, b6, b5⟩ := m_feed38 (a := a) (b := nI n) n FU T M1 (by show n < 1000; omega) (by omega) hf (by rw [(a5 49 (by omega)).1, t3])
      refine ⟨nI (T + n), M1, M2, ?_, ?_, ?_⟩
      · unfold F_X7_feed
        rw [if_neg c1, if_pos c2, t2, if_pos c3, a1]
      · unfold F_X8_feed
        rw [in_e, if_pos (by rw [e1, e4]; exact ha), Option.bind_some, if_neg (by decide), (a5 49 (by omega)).1, t3, if_pos c3, b1]
      · refine h.tap ((a5.wk (fun o q => by omega)).tr (b5.wk (fun o q => by omega))) (by rw [b6, (a5 49 (by omega)).1]) ⟨T + n, hf, by rw [(b5 37 (by omega)).1, a2], b2, fun k hk => ?_⟩
        rw [(b5 38 (by omega)).1]
        by_cases hk2 : k < T
        · rw [a3 k hk2, b3 k hk2, (a5 58 (by omega)).1]
          exact t4 k hk2
        · have q1 := a4 (k - T) (by omega)
          have q2 := b4 (k - T) (by omega)
          rw [show T + (k - T) = k by omega] at q1 q2
          rw [q1, q2]
          exact ⟨rfl, fb_b _⟩
    · have c3 : ¬ nI T + nI n ≤ (120 : Int32) := by rw [nI_add, t_le, nI_toInt (by omega), e9]; omega
      refine op_f h (k := 1) (by decide) ?_ (fun M1 hc => ?_)
      · unfold F_X7_feed
        rw [if_neg c1, if_pos c2, t2, if_neg c3, bn_eta]
        rfl
      · unfold F_X8_feed
        rw [in_e, if_pos (by rw [e1, e4]; exact ha), Option.bind_some, if_neg (by decide), (hc 49 (by omega)).1, t3, if_neg c3, bn_eta]
        rfl
  · refine op_f h (k := 0) (by decide) ?_ (fun M1 hc => ?_)
    · unfold F_X7_feed
      by_cases c1 : b < (1 : Int32)
      · rw [if_pos c1, bn_eta]; rfl
      · rw [if_neg c1, if_neg (by rw [t_lt, e1] at c1; rw [t_le, e4]; omega), bn_eta]; rfl
    · unfold F_X8_feed
      rw [in_e, if_neg (by rw [e1, e4]; exact ha), Option.bind_some, if_pos rfl, bn_eta]
      rfl
theorem op_wipe {M : Mem} (h : RR M) : OpI F_X7_wipe F_X8_wipe M := by
  obtain ⟨-, -, -, ⟨T, t1, t2, t3, t4⟩, -⟩ := id h
  refine ⟨nI T, w_I M 37 1 0, w_I (w_I M 37 1 0) 49 9 0, ?_, ?_, ?_⟩
  · unfold F_X7_wipe
    rw [pin, t2]
  · unfold F_X8_wipe
    rw [pin, m_wo (show 49 ≠ 37 by decide), t3]
  · refine h.tap ((Ch.w (by omega)).tr (Ch.w (by omega))) ?_ ⟨0, by decide, ?_, m_ws _ _ _ _, fun k hk => by omega⟩
    · rw [m_wk (show 22 ≠ 9 by decide), m_wo (show 49 ≠ 37 by decide)]
    · rw [m_wo (show 37 ≠ 49 by decide), m_ws]
      rfl
theorem x_isSheet (a : Int32) (M : Mem) : F_X7_isSheet a M = some (if 0 ≤ a.toInt ∧ a.toInt < 4 then 1 else 0) := by
  have e4 : (4 : Int32).toInt = 4 := by decide
  have e0 : (0 : Int32).toInt = 0 := by decide
  unfold F_X7_isSheet
  by_cases h1 : a.toInt < 0
  · rw [if_pos (by rw [t_lt, e0]; exact h1), if_neg (by omega)]
  · rw [if_neg (by rw [t_lt, e0]; exact h1)]
    by_cases h2 : 4 ≤ a.toInt
    · rw [if_pos (by rw [t_le, e4]; exact h2), if_neg (by omega)]
    · rw [if_neg (by rw [t_le, e4]; exact h2), if_pos (by omega)]
theorem m_isSheet (a : Int32) (M : Mem) : F_X8_isSheet a M = some (if 0 ≤ a.toInt ∧ a.toInt < 4 then 1 else 0) := by
  have e4 : (3 : Int32).toInt = 3 := by decide
  have e0 : (0 : Int32).toInt = 0 := by decide
  unfold F_X8_isSheet
  rw [in_e, Option.bind_some, zb_01, e0, e4]
  by_cases h : 0 ≤ a.toInt ∧ a.toInt < 4
  · rw [if_pos h, if_pos (by omega)]
  · rw [if_neg h, if_neg (by omega)]
/-- what a sheet of the reference and one of the class share -/
def SH (M : Mem) (s : Nat) : Prop := m_I M (41 + 2 * s) 1 = m_I M 59 s ∧ (m_I M 59 s = 0 ∨ m_I M 59 s = 8 ∨ m_I M 59 s = 16 ∨ m_I M 59 s = 64) ∧ (∃ n, n ≤ 40 ∧ m_I M (41 + 2 * s) 2 = nI n ∧ m_I M 60 s = nI n) ∧ ∀ k, k < 40 → m_J M (41 + 2 * s + 1) k = m_J M 61 (40 * s + k)
theorem RR.she {M M1 : Mem} {f z : Int32} {N : Nat} {U : Nat → Nat → Int32} (h : RR M) {s : Nat} (hs : s < 4) (hc : Ch (fun o => o = 41 + 2 * s ∨ o = 41 + 2 * s + 1 ∨ (59 ≤ o ∧ o ≤ 61) ∨ vlC o) M M1) (hg : GV f N U) (hx : VX M1 2 f z N U) (hm : VM M1 50 f z N U) (h59 : ∀ t, t ≠ s → m_I M1 59 t = m_I M 59 t) (h60 : ∀ t, t ≠ s → m_I M1 60 t = m_I M 60 t) (h61 : ∀ t k, t ≠ s → k < 40 → m_J M1 61 (40 * t + k) = m_J M 61 (40 * t + k)) (hn : SH M1 s) : RR M1 := by
  obtain ⟨h1, h2, h3, h4, h5⟩ := h
  refine ⟨⟨f, z, N, U, hg, hx, hm⟩, h2.ch hc ?_ ?_, h3.ch hc ?_ ?_ (fun o a b => ?_) ?_, h4.ch hc ?_ ?_ ?_ ?_, fun t ht => ?_⟩
  rotate_right 1
  · by_cases e : t = s
    · subst e
      exact hn
    · obtain ⟨c1, c2, ⟨n, c3, c4, c5⟩, c6⟩ := h5 t ht
      have a1 := hc (41 + 2 * t) (by unfold vlC hdC; omega)
      have a2 := hc (41 + 2 * t + 1) (by unfold vlC hdC; omega)
      exact ⟨by rw [a1.1, h59 t e]; exact c1, by rw [h59 t e]; exact c2, ⟨n, c3, by rw [a1.1]; exact c4, by rw [h60 t e]; exact c5⟩, fun k hk => by rw [a2.2, h61 t k e hk]; exact c6 k hk⟩
  all_goals unfold vlC hdC; omega
theorem nI_40 (s k : Nat) : (40 : Int32) * nI s + nI k = nI (40 * s + k) := by
  rw [show (40 : Int32) = nI 40 from rfl, pk_mul, nI_add]
theorem x_fill {c : Nat} : ∀ k m i M, i + k = 40 → k < m → ∃ M1, F_J7_fill_d0a16_6 c (0 : Int64) m (nI i) (40 : Int32) M = some M1 ∧ (∀ j, i ≤ j → j < 40 → m_J M1 c j = 0) ∧ (∀ j, j < i → m_J M1 c j = m_J M c j) ∧ (∀ o j, m_I M1 o j = m_I M o j) ∧ Ch (fun o => o = c) M M1 := by
  intro k
  induction k with
  | zero =>
    intro m i M h1 h2
    obtain ⟨m, rfl⟩ : ∃ q, m = q + 1 := ⟨m - 1, by omega⟩
    have hi : i = 40 := by omega
    subst hi
    exact ⟨M, by rw [F_J7_fill_d0a16_6, if_pos (by decide)], fun j a b => by omega, fun j a => rfl, fun o j => rfl, Ch.rf⟩
  | succ k ih =>
    intro m i M h1 h2
    obtain ⟨m, rfl⟩ : ∃ q, m = q + 1 := ⟨m - 1, by omega⟩
    have hi : ¬ (40 : Int32) ≤ nI i := nI_ge (show i < 40 by omega) (by decide)
    obtain ⟨M1, a1, a2, a3, a4, a5⟩ := ih m (i + 1) (w_J M c i 0) (by omega) (by omega)
    refine ⟨M1, ?_, fun j q1 q2 => ?_, fun j q => ?_, fun o j => a4 o j, (Ch.wJ (P := fun o => o = c) rfl).tr a5⟩
    · rw [F_J7_fill_d0a16_6, if_neg hi, ix_n (by omega) (by decide), pin, nI_1, a1]
    · by_cases e : j = i
      · subst e
        rw [a3 j (by omega), j_wJ, if_pos ⟨rfl, rfl⟩]
      · exact a2 j (by omega) q2
    · rw [a3 j (by omega), j_wJ, if_neg (by omega)]
theorem m_sheet86 {s : Nat} (hs : s < 4) {b c : Int32} : ∀ k m i M, i + k = 40 → k < m → ∃ M1, F_X8_sheet_86 (nI s) b c m (nI i) M = some (m_I M 60 s, M1) ∧ (∀ j, i ≤ j → j < 40 → m_J M1 61 (40 * s + j) = 0) ∧ (∀ j, (j < 40 * s + i ∨ 40 * s + 40 ≤ j) → m_J M1 61 j = m_J M 61 j) ∧ (∀ o j, m_I M1 o j = m_I M o j) ∧ Ch (fun o => o = 61) M M1 := by
  intro k
  induction k with
  | zero =>
    intro m i M h1 h2
    obtain ⟨m, rfl⟩ : ∃ q, m = q + 1 := ⟨m - 1, by omega⟩
    have hi : i = 40 := by omega
    subst hi
    exact ⟨M, by rw [F_X8_sheet_86, if_pos (by decide), ix_n hs (by decide)], fun j a b => by omega, fun j a => rfl, fun o j => rfl, Ch.rf⟩
  | succ k ih =>
    intro m i M h1 h2
    obtain ⟨m, rfl⟩ : ∃ q, m = q + 1 := ⟨m - 1, by omega⟩
    have hi : ¬ (40 : Int32) ≤ nI i := nI_ge (show i < 40 by omega) (by decide)
    obtain ⟨M1, a1, a2, a3, a4, a5⟩ := ih m (i + 1) (w_J M 61 (40 * s + i) 0) (by omega) (by omega)
    refine ⟨M1, ?_, fun j q1 q2 => ?_, fun j q => ?_, fun o j => a4 o j, (Ch.wJ (P := fun o => o = 61) rfl).tr a5⟩
    · rw [F_X8_sheet_86, if_neg hi, nI_40, ix_n (by omega) (by decide), pin, nI_1, a1]
      rfl
    · by_cases e : j = i
      · subst e
        rw [a3 _ (by omega), j_wJ, if_pos ⟨rfl, rfl⟩]
      · exact a2 j (by omega) q2
    · rw [a3 j (by omega), j_wJ, if_neg (by omega)]
theorem op_sheet35 {M : Mem} (h : RR M) {s : Nat} (hs : s < 4) {b : Int32} (hb : b = 0 ∨ b = 8 ∨ b = 16 ∨ b = 64) (c : Int32) : OpI (F_X7_sheet_35 (nI s) b c) (F_X8_sheet_36 (nI s) b c) M := by
  obtain ⟨⟨f, z, N, U, hg, hx, hm⟩, -⟩ := id h
  have e0 : (0 : Int32).toInt = 0 := by decide
  have e40 : (40 : Int32).toInt = 40 := by decide
  by_cases c0 : 0 ≤ c
  · by_cases c1 : c ≤ (40 : Int32)
    · obtain ⟨n, hn, rfl⟩ := t_of (n := 41) (x := c) (by rw [t_le, e0] at c0; exact c0) (by rw [t_le, e40] at c1; omega)
      obtain ⟨q, hq, hq2⟩ : ∃ q, q ≤ 40 ∧ (if b = 0 then (0 : Int32) else nI n) = nI q := by
        by_cases e : b = 0
        · exact ⟨0, by decide, by rw [if_pos e]; rfl⟩
        · exact ⟨n, by omega, by rw [if_neg e]⟩
      obtain ⟨M1, a1, a2, -, a4, a5⟩ := x_fill (c := 41 + 2 * s + 1) 40 FU 0 (w_I (w_I M (41 + 2 * s) 1 b) (41 + 2 * s) 2 (nI q)) (by omega) (by decide)
      obtain ⟨M2, b1, b2, b3, b4, b5⟩ := m_sheet86 hs (b := b) (c := nI n) 40 FU 0 (w_I (w_I M1 59 s b) 60 s (nI q)) (by omega) (by decide)
      have x1 : m_I M1 (41 + 2 * s) 2 = nI q := by rw [a4, m_ws]
      have m1 : m_I (w_I (w_I M1 59 s b) 60 s (nI q)) 60 s = nI q := m_ws _ _ _ _
      rw [m1] at b1
      have cX : Ch (fun o => o = 41 + 2 * s ∨ o = 41 + 2 * s + 1) M M1 := ((Ch.w (Or.inl rfl)).tr (Ch.w (Or.inl rfl))).tr (a5.wk (fun o z => Or.inr z))
      have cM : Ch (fun o => 59 ≤ o ∧ o ≤ 61) M1 M2 := ((Ch.w (by omega)).tr (Ch.w (by omega))).tr (b5.wk (fun o z => by omega))
      have cc : Ch (fun o => o = 41 + 2 * s ∨ o = 41 + 2 * s + 1 ∨ (59 ≤ o ∧ o ≤ 61)) M M2 := (cX.wk (fun o z => by omega)).tr (cM.wk (fun o z => by omega))
      refine ⟨nI q, M1, M2, ?_, ?_, ?_⟩
      · unfold F_X7_sheet_35
        rw [if_pos c0, if_pos c1, ix_n hs (by decide), bn_eta]
        unfold F_X2_begin
        by_cases e : b = 0
        · rw [if_pos e] at hq2
          rw [pin, if_pos e, pin, hq2, F_J7_fill_d0a16, show (0 : Int32) = nI 0 from rfl, a1, Option.bind_some, x1]
        · rw [if_neg e] at hq2
          rw [pin, if_neg e, pin, hq2, F_J7_fill_d0a16, show (0 : Int32) = nI 0 from rfl, a1, Option.bind_some, x1]
      · unfold F_X8_sheet_36
        rw [if_pos c0, if_pos c1, ix_n hs (by decide), pin]
        by_cases e : b = 0
        · rw [if_pos e] at hq2
          rw [if_pos e, ix_n hs (by decide), pin]
          rw [← hq2] at b1 ⊢
          exact b1
        · rw [if_neg e] at hq2
          rw [if_neg e, ix_n hs (by decide), pin]
          have : nI n = nI q := hq2
          rw [this]
          rw [this] at b1
          exact b1
      · have y59 : m_I M2 59 s = b := by rw [b4, m_wo (show 59 ≠ 60 by decide), m_ws]
        refine h.she hs (cc.wk (fun o z => by omega)) hg (hx.ch cc (fun o q1 q2 => by omega)) (hm.ch cc (by omega)) (fun t ht => ?_) (fun t ht => ?_) (fun t k ht hk => ?_) ⟨?_, ?_, ⟨q, hq, ?_, ?_⟩, fun k hk => ?_⟩
        · rw [b4, m_wo (show 59 ≠ 60 by decide), m_wk ht, (cX 59 (by omega)).1]
        · rw [b4, m_wk ht, m_wo (show 60 ≠ 59 by decide), (cX 60 (by omega)).1]
        · rw [b3 _ (by omega)]
          exact (cX 61 (by omega)).2 _
        · rw [y59, (cM (41 + 2 * s) (by omega)).1, a4, m_wk (show 1 ≠ 2 by decide), m_ws]
        · rw [y59]; exact hb
        · rw [(cM (41 + 2 * s) (by omega)).1, x1]
        · rw [b4, m_ws]
        · rw [(cM (41 + 2 * s + 1) (by omega)).2, a2 k (by omega) hk, b2 k (by omega) hk]
    · exact op_f h (k := 0) (by decide) (by unfold F_X7_sheet_35; rw [if_pos c0, if_neg c1, bn_eta]; rfl) (fun M1 hc => by unfold F_X8_sheet_36; rw [if_pos c0, if_neg c1, bn_eta]; rfl)
  · exact op_f h (k := 6) (by decide) (by unfold F_X7_sheet_35; rw [if_neg c0, bn_eta]; rfl) (fun M1 hc => by unfold F_X8_sheet_36; rw [if_neg c0, bn_eta]; rfl)
theorem op_sheet {M : Mem} (h : RR M) (a b c : Int32) : OpI (F_X7_sheet a b c) (F_X8_sheet a b c) M := by
  by_cases ha : 0 ≤ a.toInt ∧ a.toInt < 4
  · obtain ⟨s, hs, rfl⟩ := t_of (n := 4) ha.1 ha.2
    have go : (b = 0 ∨ b = 8 ∨ b = 16 ∨ b = 64) → OpI (F_X7_sheet (nI s) b c) (F_X8_sheet (nI s) b c) M := by
      intro hb
      obtain ⟨r, M1, M2, q1, q2, q3⟩ := op_sheet35 h hs hb c
      refine ⟨r, M1, M2, ?_, ?_, q3⟩
      · unfold F_X7_sheet
        rw [x_isSheet, if_pos ha, Option.bind_some, if_neg (by decide)]
        by_cases e0 : b = 0
        · rw [if_pos e0, q1]
        by_cases e1 : b = 8
        · rw [if_neg e0, if_pos e1, q1]
        by_cases e2 : b = 16
        · rw [if_neg e0, if_neg e1, if_pos e2, q1]
        by_cases e3 : b = 64
        · rw [if_neg e0, if_neg e1, if_neg e2, if_pos e3, q1]
        exact absurd hb (fun z => by rcases z with z | z | z | z; exact e0 z; exact e1 z; exact e2 z; exact e3 z)
      · unfold F_X8_sheet
        rw [m_isSheet, if_pos ha, Option.bind_some, if_neg (by decide)]
        by_cases e0 : b = 0
        · rw [if_pos e0, q2]
        by_cases e1 : b = 8
        · rw [if_neg e0, if_pos e1, q2]
        by_cases e2 : b = 16
        · rw [if_neg e0, if_neg e1, if_pos e2, q2]
        by_cases e3 : b = 64
        · rw [if_neg e0, if_neg e1, if_neg e2, if_pos e3, q2]
        exact absurd hb (fun z => by rcases z with z | z | z | z; exact e0 z; exact e1 z; exact e2 z; exact e3 z)
    by_cases e0 : b = 0
    · exact go (Or.inl e0)
    by_cases e1 : b = 8
    · exact go (Or.inr (Or.inl e1))
    by_cases e2 : b = 16
    · exact go (Or.inr (Or.inr (Or.inl e2)))
    by_cases e3 : b = 64
    · exact go (Or.inr (Or.inr (Or.inr e3)))
    exact op_f h (k := 0) (by decide) (by unfold F_X7_sheet; rw [x_isSheet, if_pos ha, Option.bind_some, if_neg (by decide), if_neg e0, if_neg e1, if_neg e2, if_neg e3, bn_eta]; rfl) (fun M1 hc => by unfold F_X8_sheet; rw [m_isSheet, if_pos ha, Option.bind_some, if_neg (by decide), if_neg e0, if_neg e1, if_neg e2, if_neg e3, bn_eta]; rfl)
  · exact op_f h (k := 0) (by decide) (by unfold F_X7_sheet; rw [x_isSheet, if_neg ha, Option.bind_some, if_pos rfl, bn_eta]; rfl) (fun M1 hc => by unfold F_X8_sheet; rw [m_isSheet, if_neg ha, Option.bind_some, if_pos rfl, bn_eta]; rfl)
