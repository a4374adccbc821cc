/-! ===== A BETTER LOT BY ONE SWAP ===== -/
def sf (u : Nat → Int) : Nat → Nat → Int
  | _, 0 => 0
  | i, k + 1 => u i + sf u (i + 1) k
theorem sm_t {u : Nat → Int32} : ∀ (k i : Nat) (s : Int32), (∀ x, i ≤ x → x < i + k → 0 ≤ (u x).toInt ∧ (u x).toInt ≤ 48) → 0 ≤ s.toInt → s.toInt + 48 * k < 2000000000 → (lp (fun i s => s + u i) i k s).toInt = s.toInt + sf (fun x => (u x).toInt) i k := by
  intro k
  induction k with
  | zero => intro i s h1 h2 h3; rw [lp, sf]; omega
  | succ k ih =>
    intro i s h1 h2 h3
    have hb := h1 i (by omega) (by omega)
    have e : (s + u i).toInt = s.toInt + (u i).toInt := t_add (by omega) (by omega)
    rw [lp, ih (i + 1) (s + u i) (fun x a b => h1 x (by omega) (by omega)) (by rw [e]; omega) (by rw [e]; omega), e, sf]
    omega
theorem sf_d {u u' : Nat → Int} {a b : Nat} (hab : a ≠ b) (h : ∀ x, x ≠ a → x ≠ b → u' x = u x) : ∀ k i, sf u' i k - sf u i k = (if i ≤ a ∧ a < i + k then u' a - u a else 0) + (if i ≤ b ∧ b < i + k then u' b - u b else 0) := by
  intro k
  induction k with
  | zero => intro i; rw [sf, sf, if_neg (by omega), if_neg (by omega)]; omega
  | succ k ih =>
    intro i
    have q := ih (i + 1)
    rw [sf, sf]
    by_cases ea : i = a
    · subst ea
      rw [if_neg (by omega)] at q
      rw [if_pos (by omega)]
      by_cases eb : i + 1 ≤ b ∧ b < i + 1 + k
      · rw [if_pos eb] at q
        rw [if_pos (by omega)]
        omega
      · rw [if_neg eb] at q
        rw [if_neg (by omega)]
        omega
    · by_cases eb : i = b
      · subst eb
        rw [if_neg (show ¬ (i + 1 ≤ i ∧ i < i + 1 + k) by omega)] at q
        rw [if_pos (show i ≤ i ∧ i < i + (k + 1) by omega)]
        by_cases ec : i + 1 ≤ a ∧ a < i + 1 + k
        · rw [if_pos ec] at q
          rw [if_pos (by omega)]
          omega
        · rw [if_neg ec] at q
          rw [if_neg (by omega)]
          omega
      · rw [h i ea eb]
        by_cases ec : i + 1 ≤ a ∧ a < i + 1 + k
        · rw [if_pos ec] at q
          rw [if_pos (show i ≤ a ∧ a < i + (k + 1) by omega)]
          by_cases ed : i + 1 ≤ b ∧ b < i + 1 + k
          · rw [if_pos ed] at q
            rw [if_pos (by omega)]
            omega
          · rw [if_neg ed] at q
            rw [if_neg (by omega)]
            omega
        · rw [if_neg ec] at q
          rw [if_neg (show ¬ (i ≤ a ∧ a < i + (k + 1)) by omega)]
          by_cases ed : i + 1 ≤ b ∧ b < i + 1 + k
          · rw [if_pos ed] at q
            rw [if_pos (by omega)]
            omega
          · rw [if_neg ed] at q
            rw [if_neg (by omega)]
            omega
/-- what a swap gains -/
def gn (U : Nat → Nat → Int32) (i j : Nat) : Int := ((eU U i (sl U j)).toInt + (eU U j (sl U i)).toInt) - ((eU U i (sl U i)).toInt + (eU U j (sl U j)).toInt)
theorem gn_b {f : Int32} {N : Nat} {U : Nat → Nat → Int32} (hg : GV f N U) {i j : Nat} (hi : i < N) (hj : j < N) : -96 ≤ gn U i j ∧ gn U i j ≤ 96 := by
  have si := (hg.2.2.2.s hg.1 hi).1
  have sj := (hg.2.2.2.s hg.1 hj).1
  have a := eU_b hg hi sj
  have b := eU_b hg hj si
  have c := eU_b hg hi si
  have d := eU_b hg hj sj
  unfold gn
  omega
def tot (N : Nat) (U : Nat → Nat → Int32) : Int32 := sm N (fun i => eU U i (sl U i))
theorem eU_sw (U : Nat → Nat → Int32) (i j p q : Nat) : eU (sw U i j) p q = eU U p q := by
  unfold eU eA
  rw [sw_o (by decide), sw_o (by decide), sw_o (by decide), sw_o (by decide), sw_o (by decide)]
theorem sl_sw (U : Nat → Nat → Int32) (i j p : Nat) : sl (sw U i j) p = sl U (tr i j p) := by
  unfold sl
  rw [sw_t]
theorem tot_b {f : Int32} {N : Nat} {U : Nat → Nat → Int32} (hg : GV f N U) : (tot N U).toInt = sf (fun x => (eU U x (sl U x)).toInt) 0 N := by
  have hN := hg.1
  have := sm_t (u := fun i => eU U i (sl U i)) N 0 0 (fun x _ h => eU_b hg (by omega) (hg.2.2.2.s hN (show x < N by omega)).1) (by decide) (by rw [show (0 : Int32).toInt = 0 by decide]; omega)
  rw [show (0 : Int32).toInt = 0 by decide] at this
  unfold tot sm
  rw [this]
  omega
theorem tot_sw {f : Int32} {N : Nat} {U : Nat → Nat → Int32} (hg : GV f N U) {i j : Nat} (hij : i < j) (hj : j < N) : (tot N (sw U i j)).toInt = (tot N U).toInt + gn U i j := by
  rw [tot_b hg, tot_b (GV_sw hg (show i < N by omega) hj)]
  have q := sf_d (u := fun x => (eU U x (sl U x)).toInt) (u' := fun x => (eU (sw U i j) x (sl (sw U i j) x)).toInt) (a := i) (b := j) (by omega) (fun x h1 h2 => by
    show (eU (sw U i j) x (sl (sw U i j) x)).toInt = (eU U x (sl U x)).toInt
    rw [eU_sw, sl_sw]
    unfold tr
    rw [if_neg h2, if_neg h1]) N 0
  rw [if_pos (by omega), if_pos (by omega)] at q
  have e1 : (eU (sw U i j) i (sl (sw U i j) i)).toInt = (eU U i (sl U j)).toInt := by
    rw [eU_sw, sl_sw]
    unfold tr
    rw [if_neg (by omega), if_pos rfl]
  have e2 : (eU (sw U i j) j (sl (sw U i j) j)).toInt = (eU U j (sl U i)).toInt := by
    rw [eU_sw, sl_sw]
    unfold tr
    rw [if_pos rfl]
  rw [e1, e2] at q
  unfold gn
  omega
theorem tot_r {f : Int32} {N : Nat} {U : Nat → Nat → Int32} (hg : GV f N U) : 0 ≤ (tot N U).toInt ∧ (tot N U).toInt ≤ 400 := by
  have hN := hg.1
  rw [tot_b hg]
  have key : ∀ (k i : Nat), i + k = N → 0 ≤ sf (fun x => (eU U x (sl U x)).toInt) i k ∧ sf (fun x => (eU U x (sl U x)).toInt) i k ≤ 48 * k := by
    intro k
    induction k with
    | zero => intro i h; rw [sf]; omega
    | succ k ih =>
      intro i h
      have a := ih (i + 1) (by omega)
      have b := eU_b hg (show i < N by omega) (hg.2.2.2.s hN (show i < N by omega)).1
      rw [sf]
      omega
  have := key N 0 (by omega)
  omega
def b2 (U : Nat → Nat → Int32) : Nat → Nat → Nat → Int × Int32 → Int × Int32
  | 0, _, _, s => s
  | k + 1, i, j, s => b2 U k i (j + 1) (if al U i j ∧ s.1 < gn U i j then (gn U i j, ((10 : Int32) * nI i) + nI j) else s)
def b1 (N : Nat) (U : Nat → Nat → Int32) : Nat → Nat → Int × Int32 → Int × Int32
  | 0, _, s => s
  | k + 1, i, s => b1 N U k (i + 1) (b2 U (N - (i + 1)) i (i + 1) s)
theorem b2_b {f : Int32} {N : Nat} {U : Nat → Nat → Int32} (hg : GV f N U) {i : Nat} (hi : i < N) : ∀ k j (s : Int × Int32), j + k ≤ N → 0 ≤ s.1 ∧ s.1 ≤ 96 → 0 ≤ (b2 U k i j s).1 ∧ (b2 U k i j s).1 ≤ 96 := by
  intro k
  induction k with
  | zero => intro j s h1 h2; exact h2
  | succ k ih =>
    intro j s h1 h2
    rw [b2]
    have hb := gn_b hg hi (show j < N by omega)
    by_cases c : al U i j ∧ s.1 < gn U i j
    · rw [if_pos c]
      exact ih (j + 1) _ (by omega) ⟨by show 0 ≤ gn U i j; omega, hb.2⟩
    · rw [if_neg c]
      exact ih (j + 1) s (by omega) h2
theorem x_gain {M : Mem} {f z : Int32} {N : Nat} {U : Nat → Nat → Int32} (hg : GV f N U) (hx : VX M 2 f z N U) {i j : Nat} (hi : i < N) (hj : j < N) : ∃ t, F_X4_gainOfExchange 2 (nI i) (nI j) M = some t ∧ t.toInt = gn U i j := by
  have hN := hg.1
  obtain ⟨si, ei⟩ := hg.2.2.2.s hN hi
  obtain ⟨sj, ej⟩ := hg.2.2.2.s hN hj
  have ai : m_I M (2 + 6) i = U 5 i := hx.u 5 i (by decide) (by omega)
  have aj : m_I M (2 + 6) j = U 5 j := hx.u 5 j (by decide) (by omega)
  have a := eU_b hg hi sj
  have b := eU_b hg hj si
  have c := eU_b hg hi si
  have d := eU_b hg hj sj
  refine ⟨(eU U i (sl U j) + eU U j (sl U i)) - (eU U i (sl U i) + eU U j (sl U j)), ?_, ?_⟩
  · unfold F_X4_gainOfExchange
    rw [n_8 (by omega), ai, ei, x_earning hx (by omega) (by omega), Option.bind_some, n_8 (by omega), aj, ej, x_earning hx (by omega) (by omega), Option.bind_some, n_8 (by omega), aj, ej, x_earning hx (by omega) (by omega), Option.bind_some, n_8 (by omega), ai, ei, x_earning hx (by omega) (by omega), Option.bind_some]
  · have e1 : (eU U i (sl U j) + eU U j (sl U i)).toInt = (eU U i (sl U j)).toInt + (eU U j (sl U i)).toInt := t_add (by omega) (by omega)
    have e2 : (eU U i (sl U i) + eU U j (sl U j)).toInt = (eU U i (sl U i)).toInt + (eU U j (sl U j)).toInt := t_add (by omega) (by omega)
    rw [t_sub (by rw [e1, e2]; omega) (by rw [e1, e2]; omega), e1, e2]
    rfl
theorem x_b22 {M : Mem} {f z : Int32} {N : Nat} {U : Nat → Nat → Int32} (hg : GV f N U) (hx : VX M 2 f z N U) (K : Int32 → Int32 → Int32 → Mem → Option (Int32 × Mem)) {i : Nat} (hi : i < N) : ∀ k m j (s : Int × Int32) x, j + k = N → k < m → x.toInt = s.1 → 0 ≤ s.1 → ∃ x', x'.toInt = (b2 U k i j s).1 ∧ F_X7_better_22 K m x s.2 (nI i) (nI j) M = K x' (b2 U k i j s).2 (nI i + 1) M := by
  have hN := hg.1
  intro k
  induction k with
  | zero =>
    intro m j s x h1 h2 h3 h4
    obtain ⟨m, rfl⟩ : ∃ q, m = q + 1 := ⟨m - 1, by omega⟩
    have hj : j = N := by omega
    subst hj
    exact ⟨x, h3, by rw [F_X7_better_22, hx.2.2.1, lp_y]; rfl⟩
  | succ k ih =>
    intro m j s x h1 h2 h3 h4
    obtain ⟨m, rfl⟩ : ∃ q, m = q + 1 := ⟨m - 1, by omega⟩
    rw [F_X7_better_22, hx.2.2.1, lp_x (by omega) (by omega), x_areAlike hx (by omega) (by omega), Option.bind_some, b2]
    obtain ⟨t, t1, t2⟩ := x_gain hg hx hi (show j < N by omega)
    by_cases ha : al U i j
    · rw [if_pos ha, if_neg one0.mp, t1, Option.bind_some]
      unfold F_X7_better_61
      rw [nI_1]
      by_cases c : s.1 < gn U i j
      · rw [if_pos (show al U i j ∧ s.1 < gn U i j from ⟨ha, c⟩), if_neg (by rw [t_le, t2, h3]; omega)]
        exact ih m (j + 1) (gn U i j, ((10 : Int32) * nI i) + nI j) t (by omega) (by omega) t2 (by show 0 ≤ gn U i j; omega)
      · rw [if_neg (show ¬ (al U i j ∧ s.1 < gn U i j) from fun q => c q.2), if_pos (by rw [t_le, t2, h3]; omega)]
        exact ih m (j + 1) s x (by omega) (by omega) h3 h4
    · rw [if_neg ha, if_pos rfl, if_neg (show ¬ (al U i j ∧ s.1 < gn U i j) from fun q => ha q.1)]
      unfold F_X7_better_61
      rw [nI_1, if_pos (by rw [t_le, h3, show (0 : Int32).toInt = 0 by decide]; exact h4)]
      exact ih m (j + 1) s x (by omega) (by omega) h3 h4
theorem x_b6 {M : Mem} {f z : Int32} {N : Nat} {U : Nat → Nat → Int32} (hg : GV f N U) (hx : VX M 2 f z N U) : ∀ k m i (s : Int × Int32) x, i + k = N → k < m → x.toInt = s.1 → 0 ≤ s.1 ∧ s.1 ≤ 96 → F_X7_better_6 m x s.2 (nI i) M = (if 0 ≤ (b1 N U k i s).2 then some ((b1 N U k i s).2, M) else F_X7_finding (3 : Int32) M) := by
  have hN := hg.1
  intro k
  induction k with
  | zero =>
    intro m i s x h1 h2 h3 h4
    obtain ⟨m, rfl⟩ : ∃ q, m = q + 1 := ⟨m - 1, by omega⟩
    have hi : i = N := by omega
    subst hi
    rw [F_X7_better_6, hx.2.2.1, lp_y, bn_eta, b1]
  | succ k ih =>
    intro m i s x h1 h2 h3 h4
    obtain ⟨m, rfl⟩ : ∃ q, m = q + 1 := ⟨m - 1, by omega⟩
    obtain ⟨x', a1, a2⟩ := x_b22 hg hx (F_X7_better_6 m) (show i < N by omega) (N - (i + 1)) FU (i + 1) s x (by omega) (by show N - (i + 1) < 1000; omega) h3 h4.1
    rw [F_X7_better_6, hx.2.2.1, lp_x (by omega) (by omega), nI_1, a2, nI_1, b1]
    exact ih m (i + 1) _ x' (by omega) (by omega) a1 (b2_b hg (show i < N by omega) (N - (i + 1)) (i + 1) s (by omega) h4)
theorem m_b24 {f z : Int32} {N : Nat} {U : Nat → Nat → Int32} (hg : GV f N U) (K : Int32 → Int32 → Int32 → Mem → Option (Int32 × Mem)) {i : Nat} (hi : i < N) : ∀ k m j (s : Int × Int32) x M, i < j → j + k = N → k < m → x.toInt = (tot N U).toInt + s.1 → VM M 50 f z N U → ∃ x' M1, x'.toInt = (tot N U).toInt + (b2 U k i j s).1 ∧ F_X8_better_24 K m x s.2 (nI i) (nI j) M = K x' (b2 U k i j s).2 (nI i + 1) M1 ∧ VM M1 50 f z N U ∧ Ch (fun o => o = 50) M M1 := by
  have hN := hg.1
  intro k
  induction k with
  | zero =>
    intro m j s x M h0 h1 h2 h3 hm
    obtain ⟨m, rfl⟩ : ∃ q, m = q + 1 := ⟨m - 1, by omega⟩
    have hj : j = N := by omega
    subst hj
    exact ⟨x, M, h3, by rw [F_X8_better_24, n51_2, hm.2.2.1, lp_y]; rfl, hm, Ch.rf⟩
  | succ k ih =>
    intro m j s x M h0 h1 h2 h3 hm
    obtain ⟨m, rfl⟩ : ∃ q, m = q + 1 := ⟨m - 1, by omega⟩
    rw [F_X8_better_24, n51_2, hm.2.2.1, lp_x (by omega) (by omega), m_areAlike hm (by omega) (by omega), Option.bind_some, b2]
    by_cases ha : al U i j
    · obtain ⟨M1, c1, c2, c3⟩ := m_swaps hm (p := i) (q := j) (by omega) (by omega)
      have hg2 := GV_sw hg hi (show j < N by omega)
      have c4 : F_X8_earnAll M1 = some (tot N (sw U i j)) := m_earnAll c2 hN hg2.2.2.2
      have c5 := tot_sw hg h0 (show j < N by omega)
      obtain ⟨M2, d1, d2, d3⟩ := m_swaps c2 (p := i) (q := j) (by omega) (by omega)
      rw [sw_sw] at d2
      rw [if_pos ha, if_neg one0.mp, c1, Option.bind_some, c4, Option.bind_some, d1, Option.bind_some, nI_1]
      by_cases c : s.1 < gn U i j
      · have cn : ¬ tot N (sw U i j) ≤ x := by rw [t_le, c5, h3]; omega
        rw [if_pos (show al U i j ∧ s.1 < gn U i j from ⟨ha, c⟩), if_neg cn, if_neg cn]
        obtain ⟨x', M3, e1, e2, e3, e4⟩ := ih m (j + 1) (gn U i j, ((10 : Int32) * nI i) + nI j) (tot N (sw U i j)) M2 (by omega) (by omega) (by omega) c5 d2
        exact ⟨x', M3, e1, e2, e3, (c3.tr d3).tr e4⟩
      · have cn : tot N (sw U i j) ≤ x := by rw [t_le, c5, h3]; omega
        rw [if_neg (show ¬ (al U i j ∧ s.1 < gn U i j) from fun q => c q.2), if_pos cn, if_pos cn]
        obtain ⟨x', M3, e1, e2, e3, e4⟩ := ih m (j + 1) s x M2 (by omega) (by omega) (by omega) h3 d2
        exact ⟨x', M3, e1, e2, e3, (c3.tr d3).tr e4⟩
    · rw [if_neg ha, if_pos rfl, if_neg (show ¬ (al U i j ∧ s.1 < gn U i j) from fun q => ha q.1), nI_1]
      exact ih m (j + 1) s x M (by omega) (by omega) (by omega) h3 hm
theorem m_b9 {f z : Int32} {N : Nat} {U : Nat → Nat → Int32} (hg : GV f N U) : ∀ k m i (s : Int × Int32) x M, i + k = N → k < m → x.toInt = (tot N U).toInt + s.1 → VM M 50 f z N U → ∃ M1, F_X8_better_9 m x s.2 (nI i) M = (if 0 ≤ (b1 N U k i s).2 then some ((b1 N U k i s).2, M1) else F_X8_finds (-1000000004 : Int32) M1) ∧ VM M1 50 f z N U ∧ Ch (fun o => o = 50) M M1 := by
  have hN := hg.1
  intro k
  induction k with
  | zero =>
    intro m i s x M h1 h2 h3 hm
    obtain ⟨m, rfl⟩ : ∃ q, m = q + 1 := ⟨m - 1, by omega⟩
    have hi : i = N := by omega
    subst hi
    exact ⟨M, by rw [F_X8_better_9, n51_2, hm.2.2.1, lp_y, bn_eta, b1], hm, Ch.rf⟩
  | succ k ih =>
    intro m i s x M h1 h2 h3 hm
    obtain ⟨m, rfl⟩ : ∃ q, m = q + 1 := ⟨m - 1, by omega⟩
    obtain ⟨x', M1, a1, a2, a3, a4⟩ := m_b24 hg (F_X8_better_9 m) (show i < N by omega) (N - (i + 1)) FU (i + 1) s x M (by omega) (by omega) (by show N - (i + 1) < 1000; omega) h3 hm
    obtain ⟨M2, c1, c2, c3⟩ := ih m (i + 1) (b2 U (N - (i + 1)) i (i + 1) s) x' M1 (by omega) (by omega) a1 a3
    refine ⟨M2, ?_, c2, a4.tr c3⟩
    rw [F_X8_better_9, n51_2, hm.2.2.1, lp_x (by omega) (by omega), nI_1, a2, nI_1, b1]
    exact c1
theorem op_better {M : Mem} (h : RR M) : OpI F_X7_better F_X8_better M := by
  obtain ⟨⟨f, z, N, U, hg, hx, hm⟩, -⟩ := id h
  have hN := hg.1
  have X : F_X7_better M = (if 0 ≤ (b1 N U N 0 (0, -1)).2 then some ((b1 N U N 0 (0, -1)).2, M) else F_X7_finding (3 : Int32) M) :=
    x_b6 hg hx N FU 0 (0, -1) 0 (by omega) (by show N < 1000; omega) (by decide) ⟨Int.le_refl 0, by decide⟩
  have Y : ∀ M1, VM M1 50 f z N U → ∃ M2, F_X8_better M1 = (if 0 ≤ (b1 N U N 0 (0, -1)).2 then some ((b1 N U N 0 (0, -1)).2, M2) else F_X8_finds (-1000000004 : Int32) M2) ∧ VM M2 50 f z N U ∧ Ch (fun o => o = 50) M1 M2 := by
    intro M1 h1
    obtain ⟨M2, a1, a2, a3⟩ := m_b9 hg N FU 0 (0, -1) (tot N U) M1 (by omega) (by show N < 1000; omega) (by show _ = _ + (0 : Int); omega) h1
    refine ⟨M2, ?_, a2, a3⟩
    unfold F_X8_better
    rw [show F_X8_earnAll M1 = some (tot N U) from m_earnAll h1 hN hg.2.2.2, Option.bind_some]
    exact a1
  by_cases hb : 0 ≤ (b1 N U N 0 (0, -1)).2
  · rw [if_pos hb] at X
    obtain ⟨M2, y1, y2, y3⟩ := Y M hm
    rw [if_pos hb] at y1
    exact op_v h hg (M1 := M) X hx Ch.rf ⟨M2, y1, y2, y3.wk (fun o q => Or.inl q)⟩
  · rw [if_neg hb] at X
    refine op_fh h (k := 3) (by decide) hg hx (Ma := M) Ch.rf X (fun Mb hc => ?_)
    obtain ⟨M2, y1, y2, y3⟩ := Y Mb (hm.ch hc (by omega))
    rw [if_neg hb] at y1
    exact ⟨M2, y1, y2, y3.wk (fun o q => Or.inl q)⟩
