/-! ===== WRITING, COPYING ===== -/
theorem op_fJ {M : Mem} (h : RR M) {k : Nat} (hk : k < 7) {FX FM : Mem → Option (Int64 × Mem)} (h1 : FX M = bn (F_X7_finding (nI k) M) (fun r M1 => some (r.toInt64, M1))) (h2 : ∀ M1, Ch (fun o => o = 1) M M1 → FM M1 = bn (F_X8_finds ((-1000000001 : Int32) - nI k) M1) (fun r M2 => some (r.toInt64, M2))) : OpJ FX FM M :=
  ⟨_, _, _, h1.trans (by rw [x_find hk M]; rfl), (h2 _ (Ch.w rfl)).trans (by rw [m_find hk]; rfl), RR_find h k⟩
theorem x_missing (c : Nat) (M : Mem) : F_X2_isMissing c M = some (if m_I M c 1 = 0 then 1 else 0) := by
  unfold F_X2_isMissing
  by_cases h : m_I M c 1 = 0
  · rw [if_pos h, if_pos h]
  · rw [if_neg h, if_neg h]
theorem m_badS {M : Mem} {s : Nat} (hs : s < 4) : F_X8_badSheet (nI s) M = some (if m_I M 59 s = 0 then -1000000006 else 0) := by
  unfold F_X8_badSheet
  rw [m_isSheet, if_pos (by rw [nI_toInt (by omega)]; omega), Option.bind_some, if_neg (by decide), ix_n hs (by decide)]
  by_cases h : m_I M 59 s = 0
  · rw [if_pos h, if_pos h]
  · rw [if_neg h, if_neg h]
theorem m_badN {M : Mem} {a : Int32} (ha : ¬ (0 ≤ a.toInt ∧ a.toInt < 4)) : F_X8_badSheet a M = some (-1000000001) := by
  unfold F_X8_badSheet
  rw [m_isSheet, if_neg ha, Option.bind_some, if_pos rfl]
def nw (b : Int32) (v : Int64) : Int64 := if b = 8 then ((v.toInt32).toInt8.toInt32).toInt64 else if b = 16 then ((v.toInt32).toInt16.toInt32).toInt64 else v
theorem x_putS {c k : Nat} (hk : k < 40) (v : Int64) (M : Mem) : F_X2_put c (nI k) v M = some (w_J M (c + 1) k (nw (m_I M c 1) v)) := by
  unfold F_X2_put nw
  by_cases h8 : m_I M c 1 = 8
  · rw [if_pos h8, if_pos h8, ix_n hk (by decide)]; rfl
  · rw [if_neg h8, if_neg h8]
    by_cases h16 : m_I M c 1 = 16
    · rw [if_pos h16, if_pos h16, ix_n hk (by decide)]; rfl
    · rw [if_neg h16, if_neg h16, ix_n hk (by decide)]; rfl
theorem m_narrow (b : Int32) (v : Int64) (M : Mem) : F_X8_narrow b v M = some (nw b v) := by
  unfold F_X8_narrow nw
  by_cases h8 : b = 8
  · rw [if_pos h8, if_pos h8, nr_8]
  · rw [if_neg h8, if_neg h8]
    by_cases h16 : b = 16
    · rw [if_pos h16, if_pos h16, nr_16]
    · rw [if_neg h16, if_neg h16]
theorem SH.wr {M M1 : Mem} {s k : Nat} (h : SH M s) {x : Int64} (hI : ∀ o j, (o = 41 + 2 * s ∨ o = 59 ∨ o = 60) → m_I M1 o j = m_I M o j) (h1 : ∀ j, j < 40 → m_J M1 (41 + 2 * s + 1) j = if j = k then x else m_J M (41 + 2 * s + 1) j) (h2 : ∀ j, j < 40 → m_J M1 61 (40 * s + j) = if j = k then x else m_J M 61 (40 * s + j)) : SH M1 s := by
  obtain ⟨c1, c2, ⟨n, c3, c4, c5⟩, c6⟩ := h
  refine ⟨by rw [hI _ _ (Or.inl rfl), hI _ _ (Or.inr (Or.inl rfl))]; exact c1, by rw [hI _ _ (Or.inr (Or.inl rfl))]; exact c2, ⟨n, c3, by rw [hI _ _ (Or.inl rfl)]; exact c4, by rw [hI _ _ (Or.inr (Or.inr rfl))]; exact c5⟩, fun j hj => ?_⟩
  rw [h1 j hj, h2 j hj, c6 j hj]
theorem op_write {M : Mem} (h : RR M) (a b : Int32) (v : Int64) : OpJ (F_X7_write a b v) (F_X8_write a b v) M := by
  obtain ⟨⟨f, z, N, U, hg, hx, hm⟩, -, -, -, h5⟩ := id h
  have e0 : (0 : Int32).toInt = 0 := by decide
  by_cases ha : 0 ≤ a.toInt ∧ a.toInt < 4
  · obtain ⟨s, hs, rfl⟩ := t_of (n := 4) ha.1 ha.2
    have hS : SH M s := h5 s hs
    obtain ⟨c1, c2, ⟨n, c3, c4, c5⟩, c6⟩ := id hS
    by_cases hz : m_I M 59 s = 0
    · refine op_fJ h (k := 5) (by decide) ?_ (fun M1 hc => ?_)
      · unfold F_X7_write
        rw [x_isSheet, if_pos ha, Option.bind_some, if_neg (by decide), ix_n hs (by decide), x_missing, c1, if_pos hz, Option.bind_some, if_neg (by decide)]
        rfl
      · unfold F_X8_write
        rw [m_isSheet, if_pos ha, Option.bind_some, if_neg (by decide), ix_n hs (by decide), (hc 59 (by omega)).1, if_pos hz]
        rfl
    · have ee : (nI n - 1).toInt = (n : Int) - 1 := by rw [t_sub (by rw [nI_toInt (by omega), show (1 : Int32).toInt = 1 by decide]; omega) (by rw [nI_toInt (by omega), show (1 : Int32).toInt = 1 by decide]; omega), nI_toInt (by omega)]; rfl
      by_cases hb : 0 ≤ b.toInt ∧ b.toInt < n
      · obtain ⟨k, hk, rfl⟩ := t_of hb.1 hb.2
        have hk40 : k < 40 := by omega
        have d1 : ¬ nI k < 0 := nI_pos (by omega)
        have d2 : nI k < nI n := nI_lt hk (by omega)
        have cc : Ch (fun o => o = 41 + 2 * s + 1 ∨ o = 61) M (w_J (w_J M (41 + 2 * s + 1) k (nw (m_I M 59 s) v)) 61 (40 * s + k) (nw (m_I M 59 s) v)) := (Ch.wJ (Or.inl rfl)).tr (Ch.wJ (Or.inr rfl))
        refine ⟨m_J M 61 (40 * s + k), w_J M (41 + 2 * s + 1) k (nw (m_I M 59 s) v), w_J (w_J M (41 + 2 * s + 1) k (nw (m_I M 59 s) v)) 61 (40 * s + k) (nw (m_I M 59 s) v), ?_, ?_, ?_⟩
        · unfold F_X7_write
          rw [x_isSheet, if_pos ha, Option.bind_some, if_neg (by decide), ix_n hs (by decide), x_missing, c1, if_neg hz, Option.bind_some, if_pos rfl, if_neg d1, c4, if_pos d2, ix_n hk40 (by decide), x_putS hk40, Option.bind_some, c1, c6 k hk40]
        · unfold F_X8_write
          rw [m_isSheet, if_pos ha, Option.bind_some, if_neg (by decide), ix_n hs (by decide), m_wJ, if_neg hz, ix_n hs (by decide), m_wJ, c5, in_e, if_pos (by rw [ee, e0]; omega), Option.bind_some, if_neg (by decide), nI_40, ix_n (by omega) (by decide), ix_n hs (by decide), m_wJ, m_narrow, Option.bind_some, ix_n (by omega) (by decide), pin, j_wJ, if_neg (by omega)]
        · refine h.she hs (cc.wk (fun o q => by omega)) hg (hx.ch cc (fun o q1 q2 => by omega)) (hm.ch cc (by omega)) (fun t ht => rfl) (fun t ht => rfl) (fun t j ht hj => ?_) (hS.wr (k := k) (x := nw (m_I M 59 s) v) (fun o j q => rfl) (fun j hj => ?_) (fun j hj => ?_))
          · rw [j_wJ, if_neg (by omega), j_wJ, if_neg (by omega)]
          · rw [j_wJ, if_neg (by omega), j_wJ]
            by_cases e : j = k
            · rw [if_pos ⟨rfl, e⟩, if_pos e]
            · rw [if_neg (fun q => e q.2), if_neg e]
          · rw [j_wJ]
            by_cases e : j = k
            · rw [if_pos ⟨rfl, by omega⟩, if_pos e]
            · rw [if_neg (by omega), if_neg e, j_wJ, if_neg (by omega)]
      · refine op_fJ h (k := 0) (by decide) ?_ (fun M1 hc => ?_)
        · unfold F_X7_write
          rw [x_isSheet, if_pos ha, Option.bind_some, if_neg (by decide), ix_n hs (by decide), x_missing, c1, if_neg hz, Option.bind_some, if_pos rfl, c4]
          by_cases q : b < 0
          · rw [if_pos q]; rfl
          · rw [if_neg q, if_neg (by rw [t_lt, e0] at q; rw [t_lt, nI_toInt (by omega)]; omega)]; rfl
        · unfold F_X8_write
          rw [m_isSheet, if_pos ha, Option.bind_some, if_neg (by decide), ix_n hs (by decide), (hc 59 (by omega)).1, if_neg hz, ix_n hs (by decide), (hc 60 (by omega)).1, c5, in_e, if_neg (by rw [ee, e0]; omega), Option.bind_some, if_pos rfl]
          rfl
  · refine op_fJ h (k := 0) (by decide) ?_ (fun M1 hc => ?_)
    · unfold F_X7_write
      rw [x_isSheet, if_neg ha, Option.bind_some, if_pos rfl]
      rfl
    · unfold F_X8_write
      rw [m_isSheet, if_neg ha, Option.bind_some, if_pos rfl]
      rfl
theorem cp_40 {α : Type} {i j n : Nat} (hi : i + n ≤ 40) (hj : j + n ≤ 40) (k : Nat → Nat → Nat → Option α) : cp 40 40 (nI i) (nI j) (nI n) k = k i j n := by
  unfold cp
  rw [nI_clamp (by omega), nI_clamp (by omega), nI_clamp (by omega), nI_toInt (by omega), nI_toInt (by omega), nI_toInt (by omega), if_pos (by omega)]
theorem x_hasRun {c n : Nat} {M : Mem} (hn : n ≤ 40) (h : m_I M c 2 = nI n) (a b : Int32) : F_X2_hasRun c a b M = some (if 0 ≤ a.toInt ∧ 0 ≤ b.toInt ∧ a.toInt + b.toInt ≤ n then 1 else 0) := by
  have e0 : (0 : Int32).toInt = 0 := by decide
  have en : (nI n).toInt = n := nI_toInt (by omega)
  unfold F_X2_hasRun
  rw [h]
  by_cases h1 : a < 0
  · rw [if_pos h1, if_neg (by rw [t_lt, e0] at h1; omega)]
  rw [if_neg h1]
  by_cases h2 : b < 0
  · rw [if_pos h2, if_neg (by rw [t_lt, e0] at h2; omega)]
  rw [if_neg h2]
  rw [t_lt, e0] at h1 h2
  by_cases h3 : nI n < a
  · rw [if_pos h3, if_neg (by rw [t_lt, en] at h3; omega)]
  rw [if_neg h3]
  rw [t_lt, en] at h3
  have es : (nI n - a).toInt = n - a.toInt := by rw [t_sub (by omega) (by omega), en]
  by_cases h4 : nI n - a < b
  · rw [if_pos h4, if_neg (by rw [t_lt, es] at h4; omega)]
  · rw [if_neg h4, if_pos (by rw [t_lt, es] at h4; omega)]
theorem m_isPart {s n : Nat} {M : Mem} (hs : s < 4) (hn : n ≤ 40) (h : m_I M 60 s = nI n) (a b : Int32) : F_X8_isPart (nI s) a b M = some (if 0 ≤ a.toInt ∧ 0 ≤ b.toInt ∧ a.toInt + b.toInt ≤ n then 1 else 0) := by
  have e0 : (0 : Int32).toInt = 0 := by decide
  have en : (nI n).toInt = n := nI_toInt (by omega)
  unfold F_X8_isPart
  rw [ix_n hs (by decide), h]
  by_cases h1 : a < 0
  · rw [if_pos h1, if_neg (by rw [t_lt, e0] at h1; omega)]
  rw [if_neg h1]
  by_cases h2 : b < 0
  · rw [if_pos h2, if_neg (by rw [t_lt, e0] at h2; omega)]
  rw [if_neg h2]
  rw [t_lt, e0] at h1 h2
  by_cases h3 : nI n < b
  · rw [if_pos h3, if_neg (by rw [t_lt, en] at h3; omega)]
  rw [if_neg h3, ix_n hs (by decide), h]
  rw [t_lt, en] at h3
  have es : (nI n - b).toInt = n - b.toInt := by rw [t_sub (by omega) (by omega), en]
  by_cases h4 : nI n - b < a
  · rw [if_pos h4, if_neg (by rw [t_lt, es] at h4; omega)]
  · rw [if_neg h4, if_pos (by rw [t_lt, es] at h4; omega)]
theorem m_c139 {s t i j n : Nat} (ht : t < 4) (hj : j + n ≤ 40) : ∀ k m x M, x + k = n → k < m → ∃ M1, F_X8_copy_139 (nI s) (nI i) (nI t) (nI j) (nI n) m (nI x) M = some (nI n, M1) ∧ (∀ y, m_J M1 61 y = if 40 * t + j + x ≤ y ∧ y < 40 * t + j + n then m_J M 62 (y - (40 * t + j)) else m_J M 61 y) ∧ (∀ o y, m_I M1 o y = m_I M o y) ∧ Ch (fun o => o = 61) M M1 := by
  intro k
  induction k with
  | zero =>
    intro m x M h1 h2
    obtain ⟨m, rfl⟩ : ∃ q, m = q + 1 := ⟨m - 1, by omega⟩
    have hx : x = n := by omega
    subst hx
    exact ⟨M, by rw [F_X8_copy_139, lp_y], fun y => by rw [if_neg (by omega)], fun o y => rfl, Ch.rf⟩
  | succ k ih =>
    intro m x M h1 h2
    obtain ⟨m, rfl⟩ : ∃ q, m = q + 1 := ⟨m - 1, by omega⟩
    obtain ⟨M1, a1, a2, a3, a4⟩ := ih m (x + 1) (w_J M 61 (40 * t + j + x) (m_J M 62 x)) (by omega) (by omega)
    refine ⟨M1, ?_, fun y => ?_, fun o y => a3 o y, (Ch.wJ (P := fun o => o = 61) rfl).tr a4⟩
    · rw [F_X8_copy_139, lp_x (by omega) (by omega), ix_n (by omega) (by decide), nI_40, nI_add, ix_n (by omega) (by decide), pin, nI_1, a1]
    · rw [a2 y]
      by_cases q1 : 40 * t + j + (x + 1) ≤ y ∧ y < 40 * t + j + n
      · rw [if_pos q1, if_pos (by omega), j_wJ, if_neg (by omega)]
      · rw [if_neg q1, j_wJ]
        by_cases q2 : y = 40 * t + j + x
        · rw [if_pos ⟨rfl, q2⟩, if_pos (by omega)]
          congr 1
          omega
        · rw [if_neg (fun z => q2 z.2), if_neg (by omega)]
theorem m_c102 {s t i j n : Nat} (hs : s < 4) (hi : i + n ≤ 40) : ∀ k m x M, x + k = n → k < m → ∃ M1, F_X8_copy_102 (nI s) (nI i) (nI t) (nI j) (nI n) m (nI x) M = F_X8_copy_139 (nI s) (nI i) (nI t) (nI j) (nI n) FU (0 : Int32) M1 ∧ (∀ y, m_J M1 62 y = if x ≤ y ∧ y < n then m_J M 61 (40 * s + i + y) else m_J M 62 y) ∧ (∀ o y, m_I M1 o y = m_I M o y) ∧ Ch (fun o => o = 62) M M1 := by
  intro k
  induction k with
  | zero =>
    intro m x M h1 h2
    obtain ⟨m, rfl⟩ : ∃ q, m = q + 1 := ⟨m - 1, by omega⟩
    have hx : x = n := by omega
    subst hx
    exact ⟨M, by rw [F_X8_copy_102, lp_y], fun y => by rw [if_neg (by omega)], fun o y => rfl, Ch.rf⟩
  | succ k ih =>
    intro m x M h1 h2
    obtain ⟨m, rfl⟩ : ∃ q, m = q + 1 := ⟨m - 1, by omega⟩
    obtain ⟨M1, a1, a2, a3, a4⟩ := ih m (x + 1) (w_J M 62 x (m_J M 61 (40 * s + i + x))) (by omega) (by omega)
    refine ⟨M1, ?_, fun y => ?_, fun o y => a3 o y, (Ch.wJ (P := fun o => o = 62) rfl).tr a4⟩
    · rw [F_X8_copy_102, lp_x (by omega) (by omega), nI_40, nI_add, ix_n (by omega) (by decide), ix_n (by omega) (by decide), pin, nI_1, a1]
    · rw [a2 y]
      by_cases q1 : x + 1 ≤ y ∧ y < n
      · rw [if_pos q1, if_pos (by omega), j_wJ, if_neg (by omega)]
      · rw [if_neg q1, j_wJ]
        by_cases q2 : y = x
        · rw [if_pos ⟨rfl, q2⟩, if_pos (by omega), q2]
        · rw [if_neg (fun z => q2 z.2), if_neg (by omega)]
theorem op_copy {M : Mem} (h : RR M) (a b c d e : Int32) : OpI (F_X7_copy a b c d e) (F_X8_copy a b c d e) M := by
  obtain ⟨⟨f, z, N, U, hg, hx, hm⟩, -, -, -, h5⟩ := id h
  by_cases ha : 0 ≤ a.toInt ∧ a.toInt < 4
  rotate_left 1
  · exact op_f h (k := 0) (by decide) (by unfold F_X7_copy; rw [x_isSheet, if_neg ha, Option.bind_some, if_pos rfl, bn_eta]; rfl) (fun M1 hc => by unfold F_X8_copy; rw [m_isSheet, if_neg ha, Option.bind_some, if_pos rfl, bn_eta]; rfl)
  by_cases hc : 0 ≤ c.toInt ∧ c.toInt < 4
  rotate_left 1
  · exact op_f h (k := 0) (by decide) (by unfold F_X7_copy; rw [x_isSheet, if_pos ha, Option.bind_some, if_neg (by decide), x_isSheet, if_neg hc, Option.bind_some, if_pos rfl, bn_eta]; rfl) (fun M1 hk => by unfold F_X8_copy; rw [m_isSheet, if_pos ha, Option.bind_some, if_neg (by decide), m_isSheet, if_neg hc, Option.bind_some, if_pos rfl, bn_eta]; rfl)
  obtain ⟨s, hs, rfl⟩ := t_of (n := 4) ha.1 ha.2
  obtain ⟨t, ht, rfl⟩ := t_of (n := 4) hc.1 hc.2
  obtain ⟨c1, c2, ⟨n, c3, c4, c5⟩, c6⟩ := h5 s hs
  obtain ⟨d1, d2, ⟨l, d3, d4, d5⟩, d6⟩ := h5 t ht
  have X : F_X7_copy (nI s) b (nI t) d e M = (if m_I M 59 s = 0 then F_X7_finding (5 : Int32) M else if m_I M 59 t = 0 then F_X7_finding (5 : Int32) M else if m_I M 59 s = m_I M 59 t then (if 0 ≤ b.toInt ∧ 0 ≤ e.toInt ∧ b.toInt + e.toInt ≤ n then (if 0 ≤ d.toInt ∧ 0 ≤ e.toInt ∧ d.toInt + e.toInt ≤ l then cp 40 40 b d e (fun i31 j32 z33 => pin (y_J M ((41 + 2 * s) + 1) i31 ((41 + 2 * t) + 1) j32 z33) (fun M36 => some (e, M36))) else F_X7_finding (0 : Int32) M) else F_X7_finding (0 : Int32) M) else F_X7_finding (2 : Int32) M) := by
    unfold F_X7_copy
    rw [x_isSheet, if_pos ha, Option.bind_some, if_neg (by decide), x_isSheet, if_pos hc, Option.bind_some, if_neg (by decide), ix_n hs (by decide), ix_n ht (by decide), x_missing, c1, Option.bind_some]
    by_cases q1 : m_I M 59 s = 0
    · rw [if_pos q1, if_neg (by decide), if_pos q1, bn_eta]
    rw [if_neg q1, if_pos rfl, if_neg q1, x_missing, d1, Option.bind_some]
    by_cases q2 : m_I M 59 t = 0
    · rw [if_pos q2, if_neg (by decide), if_pos q2, bn_eta]
    rw [if_neg q2, if_pos rfl, if_neg q2]
    by_cases q3 : m_I M 59 s = m_I M 59 t
    · rw [if_pos q3, if_pos q3, x_hasRun c3 c4, Option.bind_some]
      by_cases q4 : 0 ≤ b.toInt ∧ 0 ≤ e.toInt ∧ b.toInt + e.toInt ≤ n
      · rw [if_pos q4, if_neg (by decide), if_pos q4, x_hasRun d3 d4, Option.bind_some]
        by_cases q5 : 0 ≤ d.toInt ∧ 0 ≤ e.toInt ∧ d.toInt + e.toInt ≤ l
        · rw [if_pos q5, if_neg (by decide), if_pos q5]
        · rw [if_neg q5, if_pos rfl, if_neg q5, bn_eta]
      · rw [if_neg q4, if_pos rfl, if_neg q4, bn_eta]
    · rw [if_neg q3, if_neg q3, bn_eta]
  have Y : ∀ M1, (∀ o k, (o = 59 ∨ o = 60) → m_I M1 o k = m_I M o k) → F_X8_copy (nI s) b (nI t) d e M1 = (if m_I M 59 s = 0 then F_X8_finds (-1000000006 : Int32) M1 else if m_I M 59 t = 0 then F_X8_finds (-1000000006 : Int32) M1 else if m_I M 59 s = m_I M 59 t then (if 0 ≤ b.toInt ∧ 0 ≤ e.toInt ∧ b.toInt + e.toInt ≤ n then (if 0 ≤ d.toInt ∧ 0 ≤ e.toInt ∧ d.toInt + e.toInt ≤ l then F_X8_copy_102 (nI s) b (nI t) d e FU (0 : Int32) M1 else F_X8_finds (-1000000001 : Int32) M1) else F_X8_finds (-1000000001 : Int32) M1) else F_X8_finds (-1000000003 : Int32) M1) := by
    intro M1 hM
    unfold F_X8_copy
    rw [m_isSheet, if_pos ha, Option.bind_some, if_neg (by decide), m_isSheet, if_pos hc, Option.bind_some, if_neg (by decide), ix_n hs (by decide), hM 59 s (Or.inl rfl)]
    by_cases q1 : m_I M 59 s = 0
    · rw [if_pos q1, if_pos q1, bn_eta]
    rw [if_neg q1, if_neg q1, ix_n ht (by decide), hM 59 t (Or.inl rfl)]
    by_cases q2 : m_I M 59 t = 0
    · rw [if_pos q2, if_pos q2, bn_eta]
    rw [if_neg q2, if_neg q2, ix_n hs (by decide), ix_n ht (by decide), hM 59 s (Or.inl rfl), hM 59 t (Or.inl rfl)]
    by_cases q3 : m_I M 59 s = m_I M 59 t
    · rw [if_pos q3, if_pos q3, m_isPart hs c3 ((hM 60 s (Or.inr rfl)).trans c5), Option.bind_some]
      by_cases q4 : 0 ≤ b.toInt ∧ 0 ≤ e.toInt ∧ b.toInt + e.toInt ≤ n
      · rw [if_pos q4, if_neg (by decide), if_pos q4, m_isPart ht d3 ((hM 60 t (Or.inr rfl)).trans d5), Option.bind_some]
        by_cases q5 : 0 ≤ d.toInt ∧ 0 ≤ e.toInt ∧ d.toInt + e.toInt ≤ l
        · rw [if_pos q5, if_neg (by decide), if_pos q5]
        · rw [if_neg q5, if_pos rfl, if_neg q5, bn_eta]
      · rw [if_neg q4, if_pos rfl, if_neg q4, bn_eta]
    · rw [if_neg q3, if_neg q3, bn_eta]
  have Y1 : ∀ M1, Ch (fun o => o = 1) M M1 → F_X8_copy (nI s) b (nI t) d e M1 = _ := fun M1 hk => Y M1 (fun o k q => (hk o (by omega)).1 k)
  by_cases q1 : m_I M 59 s = 0
  · exact op_f h (k := 5) (by decide) (by rw [X, if_pos q1]; rfl) (fun M1 hk => by rw [Y1 M1 hk, if_pos q1]; rfl)
  by_cases q2 : m_I M 59 t = 0
  · exact op_f h (k := 5) (by decide) (by rw [X, if_neg q1, if_pos q2]; rfl) (fun M1 hk => by rw [Y1 M1 hk, if_neg q1, if_pos q2]; rfl)
  by_cases q3 : m_I M 59 s = m_I M 59 t
  rotate_left 1
  · exact op_f h (k := 2) (by decide) (by rw [X, if_neg q1, if_neg q2, if_neg q3]; rfl) (fun M1 hk => by rw [Y1 M1 hk, if_neg q1, if_neg q2, if_neg q3]; rfl)
  by_cases q4 : 0 ≤ b.toInt ∧ 0 ≤ e.toInt ∧ b.toInt + e.toInt ≤ n
  rotate_left 1
  · exact op_f h (k := 0) (by decide) (by rw [X, if_neg q1, if_neg q2, if_pos q3, if_neg q4]; rfl) (fun M1 hk => by rw [Y1 M1 hk, if_neg q1, if_neg q2, if_pos q3, if_neg q4]; rfl)
  by_cases q5 : 0 ≤ d.toInt ∧ 0 ≤ e.toInt ∧ d.toInt + e.toInt ≤ l
  rotate_left 1
  · exact op_f h (k := 0) (by decide) (by rw [X, if_neg q1, if_neg q2, if_pos q3, if_pos q4, if_neg q5]; rfl) (fun M1 hk => by rw [Y1 M1 hk, if_neg q1, if_neg q2, if_pos q3, if_pos q4, if_neg q5]; rfl)
  rw [if_neg q1, if_neg q2, if_pos q3, if_pos q4, if_pos q5] at X
  obtain ⟨i, hi, rfl⟩ := t_of (n := 41) (x := b) q4.1 (by omega)
  obtain ⟨j, hj, rfl⟩ := t_of (n := 41) (x := d) q5.1 (by omega)
  obtain ⟨w, hw, rfl⟩ := t_of (n := 41) (x := e) q4.2.1 (by omega)
  rw [nI_toInt (by omega), nI_toInt (by omega)] at q4 q5
  rw [cp_40 (by omega) (by omega), pin] at X
  have cX : Ch (fun o => o = 41 + 2 * t + 1) M (y_J M (41 + 2 * s + 1) i (41 + 2 * t + 1) j w) := Ch.yJ rfl
  have Y2 := Y (y_J M (41 + 2 * s + 1) i (41 + 2 * t + 1) j w) (fun o k q => rfl)
  rw [if_neg q1, if_neg q2, if_pos q3, if_pos (by rw [nI_toInt (by omega), nI_toInt (by omega)]; exact q4), if_pos (by rw [nI_toInt (by omega), nI_toInt (by omega)]; exact q5)] at Y2
  obtain ⟨M1, a1, a2, a3, a4⟩ := m_c102 (t := t) (j := j) hs (show i + w ≤ 40 by omega) w FU 0 (y_J M (41 + 2 * s + 1) i (41 + 2 * t + 1) j w) (by omega) (by show w < 1000; omega)
  obtain ⟨M2, b1, b2, b3, b4⟩ := m_c139 (s := s) (i := i) ht (show j + w ≤ 40 by omega) w FU 0 M1 (by omega) (by show w < 1000; omega)
  have cM : Ch (fun o => o = 61 ∨ o = 62) (y_J M (41 + 2 * s + 1) i (41 + 2 * t + 1) j w) M2 := (a4.wk (fun o q => Or.inr q)).tr (b4.wk (fun o q => Or.inl q))
  have cc : Ch (fun o => o = 41 + 2 * t + 1 ∨ o = 61 ∨ o = 62) M M2 := (cX.wk (fun o q => Or.inl q)).tr (cM.wk (fun o q => Or.inr q))
  refine ⟨nI w, _, M2, X, Y2.trans (a1.trans b1), ?_⟩
  have I : ∀ o y, m_I M2 o y = m_I M o y := fun o y => by rw [b3, a3]; rfl
  have J : ∀ y, m_J M2 61 y = if 40 * t + j ≤ y ∧ y < 40 * t + j + w then m_J M 61 (40 * s + i + (y - (40 * t + j))) else m_J M 61 y := by
    intro y
    rw [b2 y]
    by_cases q : 40 * t + j ≤ y ∧ y < 40 * t + j + w
    · rw [if_pos (by omega), if_pos q, a2, if_pos (by omega), (cX 61 (by omega)).2]
    · rw [if_neg (by omega), if_neg q, (a4 61 (by omega)).2, (cX 61 (by omega)).2]
  refine h.she ht (cc.wk (fun o q => by unfold vlC hdC; omega)) hg (hx.ch cc (fun o q1 q2 => by omega)) (hm.ch cc (by omega)) (fun r _ => I 59 r) (fun r _ => I 60 r) (fun r k hr hk => ?_) ⟨by rw [I, I]; exact d1, by rw [I]; exact d2, ⟨l, d3, by rw [I]; exact d4, by rw [I]; exact d5⟩, fun k hk => ?_⟩
  · rw [J, if_neg (by omega)]
  · rw [J, (cM (41 + 2 * t + 1) (by omega)).2, j_yJ]
    by_cases q : j ≤ k ∧ k < j + w
    · rw [if_pos ⟨rfl, q⟩, if_pos (by omega), c6 _ (by omega)]
      congr 1
      omega
    · rw [if_neg (fun z => q z.2), if_neg (by omega), d6 k hk]
