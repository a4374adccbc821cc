/-! ===== villages are copied ===== -/
theorem cp_8 {α : Type} (k : Nat → Nat → Nat → Option α) : cp 8 8 (0 : Int32) (0 : Int32) (8 : Int32) k = k 0 0 8 := by
  unfold cp
  rw [if_pos (by decide)]
  rfl
theorem y_s (M : Mem) (o q : Nat) {b : Nat} (hb : b < 8) : m_I (y_I M o 0 q 0 8) q b = m_I M o b := by
  rw [m_y, if_pos ⟨rfl, Nat.zero_le b, by omega⟩, Nat.zero_add, Nat.sub_zero]
theorem y_n {M : Mem} {o q a b : Nat} (h : a ≠ q) : m_I (y_I M o 0 q 0 8) a b = m_I M a b := by
  rw [m_y, if_neg (fun z => h z.1)]
theorem x_become {M : Mem} {a b : Nat} {f z : Int32} {N : Nat} {U : Nat → Nat → Int32} (h : VX M b f z N U) (hab : b + 6 < a ∨ a + 6 < b) : ∃ M1, F_X4_become a b M = some M1 ∧ VX M1 a f z N U ∧ Ch (fun o => a ≤ o ∧ o ≤ a + 6) M M1 := by
  unfold F_X4_become
  simp only [pin, cp_8]
  have e1 : m_I (w_I M a 0 (m_I M b 0)) b 1 = m_I M b 1 := m_wo (by omega)
  have e2 : m_I (w_I (w_I M a 0 (m_I M b 0)) a 1 (m_I M b 1)) b 2 = m_I M b 2 := by rw [m_wo (by omega), m_wo (by omega)]
  rw [e1, e2]
  refine ⟨_, rfl, ⟨?_, ?_, ?_, fun w p hw hp => ?_⟩, ?_⟩
  · rw [y_n (by omega), y_n (by omega), y_n (by omega), y_n (by omega), y_n (by omega), y_n (by omega), m_wk (by decide), m_wk (by decide), m_ws]; exact h.1
  · rw [y_n (by omega), y_n (by omega), y_n (by omega), y_n (by omega), y_n (by omega), y_n (by omega), m_wk (by decide), m_ws]; exact h.2.1
  · rw [y_n (by omega), y_n (by omega), y_n (by omega), y_n (by omega), y_n (by omega), y_n (by omega), m_ws]; exact h.2.2.1
  · match w, hw with
    | 0, _ => rw [show a + (1 + 0) = a + 1 by omega, y_n (show a + 1 ≠ a + 6 by omega), y_n (show a + 1 ≠ a + 5 by omega), y_n (show a + 1 ≠ a + 4 by omega), y_n (show a + 1 ≠ a + 3 by omega), y_n (show a + 1 ≠ a + 2 by omega), y_s _ _ _ hp, m_wo (show b + 1 ≠ a by omega), m_wo (show b + 1 ≠ a by omega), m_wo (show b + 1 ≠ a by omega)]; exact h.u 0 p (by decide) hp
    | 1, _ => rw [show a + (1 + 1) = a + 2 by omega, y_n (show a + 2 ≠ a + 6 by omega), y_n (show a + 2 ≠ a + 5 by omega), y_n (show a + 2 ≠ a + 4 by omega), y_n (show a + 2 ≠ a + 3 by omega), y_s _ _ _ hp, y_n (show b + 2 ≠ a + 1 by omega), m_wo (show b + 2 ≠ a by omega), m_wo (show b + 2 ≠ a by omega), m_wo (show b + 2 ≠ a by omega)]; exact h.u 1 p (by decide) hp
    | 2, _ => rw [show a + (1 + 2) = a + 3 by omega, y_n (show a + 3 ≠ a + 6 by omega), y_n (show a + 3 ≠ a + 5 by omega), y_n (show a + 3 ≠ a + 4 by omega), y_s _ _ _ hp, y_n (show b + 3 ≠ a + 2 by omega), y_n (show b + 3 ≠ a + 1 by omega), m_wo (show b + 3 ≠ a by omega), m_wo (show b + 3 ≠ a by omega), m_wo (show b + 3 ≠ a by omega)]; exact h.u 2 p (by decide) hp
    | 3, _ => rw [show a + (1 + 3) = a + 4 by omega, y_n (show a + 4 ≠ a + 6 by omega), y_n (show a + 4 ≠ a + 5 by omega), y_s _ _ _ hp, y_n (show b + 4 ≠ a + 3 by omega), y_n (show b + 4 ≠ a + 2 by omega), y_n (show b + 4 ≠ a + 1 by omega), m_wo (show b + 4 ≠ a by omega), m_wo (show b + 4 ≠ a by omega), m_wo (show b + 4 ≠ a by omega)]; exact h.u 3 p (by decide) hp
    | 4, _ => rw [show a + (1 + 4) = a + 5 by omega, y_n (show a + 5 ≠ a + 6 by omega), y_s _ _ _ hp, y_n (show b + 5 ≠ a + 4 by omega), y_n (show b + 5 ≠ a + 3 by omega), y_n (show b + 5 ≠ a + 2 by omega), y_n (show b + 5 ≠ a + 1 by omega), m_wo (show b + 5 ≠ a by omega), m_wo (show b + 5 ≠ a by omega), m_wo (show b + 5 ≠ a by omega)]; exact h.u 4 p (by decide) hp
    | 5, _ => rw [show a + (1 + 5) = a + 6 by omega, y_s _ _ _ hp, y_n (show b + 6 ≠ a + 5 by omega), y_n (show b + 6 ≠ a + 4 by omega), y_n (show b + 6 ≠ a + 3 by omega), y_n (show b + 6 ≠ a + 2 by omega), y_n (show b + 6 ≠ a + 1 by omega), m_wo (show b + 6 ≠ a by omega), m_wo (show b + 6 ≠ a by omega), m_wo (show b + 6 ≠ a by omega)]; exact h.u 5 p (by decide) hp
    | w + 6, hw => omega
  · exact ((((((((Ch.w (by omega)).tr (Ch.w (by omega))).tr (Ch.w (by omega))).tr (Ch.y (by omega))).tr (Ch.y (by omega))).tr (Ch.y (by omega))).tr (Ch.y (by omega))).tr (Ch.y (by omega))).tr (Ch.y (by omega))
theorem VM.cp {M M1 : Mem} {r r' : Nat} {f z : Int32} {N : Nat} {U : Nat → Nat → Int32} (h : VM M r f z N U) (hc : ∀ k, k < 51 → m_I M1 r' k = m_I M r k) : VM M1 r' f z N U := by
  obtain ⟨h1, h2, h3, h4⟩ := h
  exact ⟨by rw [hc 0 (by decide)]; exact h1, by rw [hc 1 (by decide)]; exact h2, by rw [hc 2 (by decide)]; exact h3, fun w p hw hp => by rw [hc _ (by omega)]; exact h4 w p hw hp⟩
/-- the row is kept -/
theorem m_keep {M : Mem} {a : Nat} (ha : a ≠ 50) : ∃ M1, F_X8_moveAll (1 : Int32) a M = some M1 ∧ (∀ k, k < 51 → m_I M1 a k = m_I M 50 k) ∧ Ch (fun o => o = a) M M1 := by
  unfold F_X8_moveAll
  have key : ∀ k n i M1, i + k = 51 → k < n → (∀ j, j < i → m_I M1 a j = m_I M 50 j) → Ch (fun o => o = a) M M1 → ∃ M2, F_X8_moveAll_2 (1 : Int32) a n (nI i) M1 = some M2 ∧ (∀ j, j < 51 → m_I M2 a j = m_I M 50 j) ∧ Ch (fun o => o = a) M M2 := by
    intro k
    induction k with
    | zero =>
      intro n i M1 h1 h2 hj hc
      obtain ⟨m, rfl⟩ : ∃ m, n = m + 1 := ⟨n - 1, by omega⟩
      have hi : i = 51 := by omega
      subst hi
      exact ⟨M1, by rw [F_X8_moveAll_2, if_pos (by decide)], hj, hc⟩
    | succ k ih =>
      intro n i M1 h1 h2 hj hc
      obtain ⟨m, rfl⟩ : ∃ m, n = m + 1 := ⟨n - 1, by omega⟩
      rw [F_X8_moveAll_2, if_neg (show ¬ (51 : Int32) ≤ nI i from nI_ge (b := 51) (by omega) (by omega)), if_neg (by decide), n_51 (by omega), n_51 (by omega), pin, nI_1, (hc 50 (Ne.symm ha)).1]
      refine ih m (i + 1) _ (by omega) (by omega) (fun j hj2 => ?_) (hc.tr (Ch.w rfl))
      by_cases e : j = i
      · subst e; exact m_ws _ _ _ _
      · rw [m_wk e]; exact hj j (by omega)
  exact key 51 FU 0 M (by omega) (by show 51 < 1000; omega) (fun j hj => absurd hj (Nat.not_lt_zero j)) Ch.rf
/-- the row is as it was -/
theorem m_back {M : Mem} {a : Nat} (ha : a ≠ 50) : ∃ M1, F_X8_moveAll (0 : Int32) a M = some M1 ∧ (∀ k, k < 51 → m_I M1 50 k = m_I M a k) ∧ Ch (fun o => o = 50) M M1 := by
  unfold F_X8_moveAll
  have key : ∀ k n i M1, i + k = 51 → k < n → (∀ j, j < i → m_I M1 50 j = m_I M a j) → Ch (fun o => o = 50) M M1 → ∃ M2, F_X8_moveAll_2 (0 : Int32) a n (nI i) M1 = some M2 ∧ (∀ j, j < 51 → m_I M2 50 j = m_I M a j) ∧ Ch (fun o => o = 50) M M2 := by
    intro k
    induction k with
    | zero =>
      intro n i M1 h1 h2 hj hc
      obtain ⟨m, rfl⟩ : ∃ m, n = m + 1 := ⟨n - 1, by omega⟩
      have hi : i = 51 := by omega
      subst hi
      exact ⟨M1, by rw [F_X8_moveAll_2, if_pos (by decide)], hj, hc⟩
    | succ k ih =>
      intro n i M1 h1 h2 hj hc
      obtain ⟨m, rfl⟩ : ∃ m, n = m + 1 := ⟨n - 1, by omega⟩
      rw [F_X8_moveAll_2, if_neg (show ¬ (51 : Int32) ≤ nI i from nI_ge (b := 51) (by omega) (by omega)), if_pos (by decide), n_51 (by omega), n_51 (by omega), pin, nI_1, (hc a ha).1]
      refine ih m (i + 1) _ (by omega) (by omega) (fun j hj2 => ?_) (hc.tr (Ch.w rfl))
      by_cases e : j = i
      · subst e; exact m_ws _ _ _ _
      · rw [m_wk e]; exact hj j (by omega)
  exact key 51 FU 0 M (by omega) (by show 51 < 1000; omega) (fun j hj => absurd hj (Nat.not_lt_zero j)) Ch.rf
/-- n Fridays -/
def frn (N : Nat) (U : Nat → Nat → Int32) : Nat → Nat → Nat → Int32
  | 0 => U
  | n + 1 => fr N (frn N U n)
theorem GV_frn {g : Int32} {N : Nat} {U : Nat → Nat → Int32} (hg : GV g N U) : ∀ n, GV g N (frn N U n)
  | 0 => hg
  | n + 1 => GV_fr (GV_frn hg n)
theorem nI_pl (f : Int32) (i : Nat) : f + nI i + 1 = f + nI (i + 1) := by rw [Int32.add_assoc, nI_1]
theorem x_passFridays {M : Mem} {v : Nat} {f z g : Int32} {N : Nat} {U : Nat → Nat → Int32} (h : VX M v f z N U) (hg : GV g N U) {n : Nat} (hn : n ≤ 60) : ∃ M1, F_X4_passFridays v (nI n) M = some M1 ∧ VX M1 v (f + nI n) z N (frn N U n) ∧ Ch (fun o => v ≤ o ∧ o ≤ v + 10) M M1 := by
  unfold F_X4_passFridays
  have key : ∀ k m i M1, i + k = n → k < m → VX M1 v (f + nI i) z N (frn N U i) → Ch (fun o => v ≤ o ∧ o ≤ v + 10) M M1 → ∃ M2, F_X4_passFridays_2 v (nI n) m (nI i) M1 = some M2 ∧ VX M2 v (f + nI n) z N (frn N U n) ∧ Ch (fun o => v ≤ o ∧ o ≤ v + 10) M M2 := by
    intro k
    induction k with
    | zero =>
      intro m i M1 h1 h2 hv hc
      obtain ⟨m, rfl⟩ : ∃ q, m = q + 1 := ⟨m - 1, by omega⟩
      have hi : i = n := by omega
      subst hi
      exact ⟨M1, by rw [F_X4_passFridays_2, lp_y], hv, hc⟩
    | succ k ih =>
      intro m i M1 h1 h2 hv hc
      obtain ⟨m, rfl⟩ : ∃ q, m = q + 1 := ⟨m - 1, by omega⟩
      obtain ⟨M2, a1, a2, a3⟩ := x_passFriday hv (GV_frn hg i)
      rw [F_X4_passFridays_2, lp_x (by omega) (by omega), a1, Option.bind_some, nI_1]
      rw [nI_pl] at a2
      exact ih m (i + 1) M2 (by omega) (by omega) a2 (hc.tr a3)
  exact key n FU 0 M (by omega) (by show n < 1000; omega) (by rw [nI_0, Int32.add_zero]; exact h) Ch.rf
