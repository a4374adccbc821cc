/-! ===== THE CALLS, THIRD: seasons, readings, trials, images ===== -/
def sn (Z : Int32 → Int32) (D : Int32 → Nat → Nat) (N : Nat) : Nat → Int32 × (Nat → Nat → Int32) → Int32 × (Nat → Nat → Int32)
  | 0, s => s
  | n + 1, s => ((dl Z D N (sn Z D N n s)).1, fr N (dl Z D N (sn Z D N n s)).2)
theorem GV_sn {Z : Int32 → Int32} {D : Int32 → Nat → Nat} (hz : ZD Z D) {g z : Int32} {N : Nat} {U : Nat → Nat → Int32} (h : GV g N U) : ∀ n, GV g N (sn Z D N n (z, U)).2
  | 0 => h
  | n + 1 => GV_fr (GV_dl hz (GV_sn hz h n))
theorem x_season40 {Z : Int32 → Int32} {D : Int32 → Nat → Nat} (hz : ZD Z D) {M : Mem} {f z g : Int32} {N : Nat} {U : Nat → Nat → Int32} (h : VX M 2 f z N U) (hg : GV g N U) {n : Nat} (hn : n ≤ 60) : ∃ M1, F_X7_season_40 (nI n) FU (0 : Int32) M = some (sm N ((sn Z D N n (z, U)).2 2), M1) ∧ VX M1 2 (f + nI n) (sn Z D N n (z, U)).1 N (sn Z D N n (z, U)).2 ∧ Ch (fun o => 2 ≤ o ∧ o ≤ 2 + 10) M M1 := by
  have key : ∀ k m i M1, i + k = n → k < m → VX M1 2 (f + nI i) (sn Z D N i (z, U)).1 N (sn Z D N i (z, U)).2 → Ch (fun o => 2 ≤ o ∧ o ≤ 2 + 10) M M1 → ∃ M2, F_X7_season_40 (nI n) m (nI i) M1 = some (sm N ((sn Z D N n (z, U)).2 2), M2) ∧ VX M2 2 (f + nI n) (sn Z D N n (z, U)).1 N (sn Z D N n (z, U)).2 ∧ Ch (fun o => 2 ≤ o ∧ o ≤ 2 + 10) M M2 := by
    intro k
    induction k with
    | zero =>
      intro m i M1 h1 h2 hv hc
      obtain ⟨m, rfl⟩ : ∃ q, m = q + 1 := ⟨m - 1, by omega⟩
      have hi : i = n := by omega
      subst hi
      exact ⟨M1, by rw [F_X7_season_40, lp_y, show F_X4_total 2 5 M1 = _ from x_total hv hg.1 (w := 2) (by decide), Option.bind_some], hv, hc⟩
    | succ k ih =>
      intro m i M1 h1 h2 hv hc
      obtain ⟨m, rfl⟩ : ∃ q, m = q + 1 := ⟨m - 1, by omega⟩
      obtain ⟨M2, a1, a2, a3⟩ := x_drawLot hz hv hg.1
      obtain ⟨M3, b1, b2, b3⟩ := x_passFriday a2 (GV_dl hz (z := (sn Z D N i (z, U)).1) (GV_sn hz (z := z) hg i))
      rw [F_X7_season_40, lp_x (by omega) (by omega), a1, Option.bind_some, b1, Option.bind_some, nI_1]
      rw [nI_pl] at b2
      exact ih m (i + 1) M3 (by omega) (by omega) b2 (hc.tr (a3.tr b3))
  exact key n FU 0 M (by omega) (by show n < 1000; omega) (by rw [nI_0, Int32.add_zero]; exact h) Ch.rf
theorem m_season40 {Z : Int32 → Int32} {D : Int32 → Nat → Nat} (hz : ZD Z D) {M : Mem} {f z g : Int32} {N : Nat} {U : Nat → Nat → Int32} (h : VM M 50 f z N U) (hg : GV g N U) {n : Nat} (hn : n ≤ 60) : ∃ M1, F_X8_season_40 (nI n) FU (0 : Int32) M = some (sm N ((sn Z D N n (z, U)).2 2), M1) ∧ VM M1 50 (f + nI n) (sn Z D N n (z, U)).1 N (sn Z D N n (z, U)).2 ∧ Ch (fun o => o = 50 ∨ (52 ≤ o ∧ o ≤ 55)) M M1 := by
  have key : ∀ k m i M1, i + k = n → k < m → VM M1 50 (f + nI i) (sn Z D N i (z, U)).1 N (sn Z D N i (z, U)).2 → Ch (fun o => o = 50 ∨ (52 ≤ o ∧ o ≤ 55)) M M1 → ∃ M2, F_X8_season_40 (nI n) m (nI i) M1 = some (sm N ((sn Z D N n (z, U)).2 2), M2) ∧ VM M2 50 (f + nI n) (sn Z D N n (z, U)).1 N (sn Z D N n (z, U)).2 ∧ Ch (fun o => o = 50 ∨ (52 ≤ o ∧ o ≤ 55)) M M2 := by
    intro k
    induction k with
    | zero =>
      intro m i M1 h1 h2 hv hc
      obtain ⟨m, rfl⟩ : ∃ q, m = q + 1 := ⟨m - 1, by omega⟩
      have hi : i = n := by omega
      subst hi
      exact ⟨M1, by rw [F_X8_season_40, lp_y, show F_X8_sumOf (2 : Int32) M1 = _ from m_sumOf hv hg.1 (w := 2) (by decide), Option.bind_some], hv, hc⟩
    | succ k ih =>
      intro m i M1 h1 h2 hv hc
      obtain ⟨m, rfl⟩ : ∃ q, m = q + 1 := ⟨m - 1, by omega⟩
      obtain ⟨M2, a1, a2, a3⟩ := m_draws hz hv hg.1
      obtain ⟨M3, b1, b2, b3⟩ := m_oneFriday a2 (GV_dl hz (z := (sn Z D N i (z, U)).1) (GV_sn hz (z := z) hg i))
      rw [F_X8_season_40, lp_x (by omega) (by omega), a1, Option.bind_some, b1, Option.bind_some, nI_1]
      rw [nI_pl] at b2
      exact ih m (i + 1) M3 (by omega) (by omega) b2 (hc.tr ((a3.wk (fun o q => by omega)).tr (b3.wk (fun o q => by omega))))
  exact key n FU 0 M (by omega) (by show n < 1000; omega) (by rw [nI_0, Int32.add_zero]; exact h) Ch.rf
theorem op_season {Z : Int32 → Int32} {D : Int32 → Nat → Nat} (hz : ZD Z D) {M : Mem} (h : RR M) (a : Int32) : OpI (F_X7_season a) (F_X8_season a) M := by
  obtain ⟨⟨f, z, N, U, hg, hx, hm⟩, -⟩ := id h
  have hN := hg.1
  have hfb := hg.2.1
  have e60 : (20 : Int32).toInt = 20 := by decide
  have e1 : (1 : Int32).toInt = 1 := by decide
  have e9 : (9999 : Int32).toInt = 9999 := by decide
  by_cases ha : 1 ≤ a.toInt ∧ a.toInt ≤ 20
  · obtain ⟨n, hn, rfl⟩ := t_of (n := 21) (x := a) (by omega) (by omega)
    have hn2 : (nI n).toInt = n := nI_toInt (by omega)
    have hs : (f + nI n).toInt = f.toInt + n := by rw [t_add (by omega) (by omega), hn2]
    have c1 : ¬ nI n < (1 : Int32) := by rw [t_lt, e1]; omega
    have c2 : nI n ≤ (20 : Int32) := by rw [t_le, e60]; omega
    by_cases hf : f.toInt + n ≤ 9999
    · have c3 : f + nI n ≤ (9999 : Int32) := by rw [t_le, hs, e9]; exact hf
      obtain ⟨M1, a1, a2, a3⟩ := x_season40 hz hx hg (n := n) (by omega)
      refine op_v h ((GV_sn hz (z := z) hg n).f (by rw [hs]; omega)) (r := sm N ((sn Z D N n (z, U)).2 2)) (M1 := M1) ?_ a2 (a3.wk (fun o q => by unfold vlC; omega)) ?_
      · unfold F_X7_season
        rw [if_neg c1, if_pos c2, hx.1, if_pos c3, a1]
      · have hm1 := hm.ch a3 (by omega)
        obtain ⟨M2, b1, b2, b3⟩ := m_season40 hz hm1 hg (n := n) (by omega)
        refine ⟨M2, ?_, b2, b3.wk (fun o q => by omega)⟩
        unfold F_X8_season
        rw [in_e, if_pos (by rw [e1, e60]; exact ha), Option.bind_some, if_neg (by decide), n51_0, hm1.1, if_pos c3, b1]
    · have c3 : ¬ f + nI n ≤ (9999 : Int32) := by rw [t_le, hs, e9]; exact hf
      refine op_f h (k := 4) (by decide) ?_ (fun M1 hc => ?_)
      · unfold F_X7_season
        rw [if_neg c1, if_pos c2, hx.1, if_neg c3, bn_eta]
        rfl
      · unfold F_X8_season
        rw [in_e, if_pos (by rw [e1, e60]; exact ha), Option.bind_some, if_neg (by decide), n51_0, (hm.x hc.x1).1, if_neg c3, bn_eta]
        rfl
  · refine op_f h (k := 0) (by decide) ?_ (fun M1 hc => ?_)
    · unfold F_X7_season
      by_cases c1 : a < (1 : Int32)
      · rw [if_pos c1, bn_eta]; rfl
      · rw [if_neg c1, if_neg (by rw [t_lt, e1] at c1; rw [t_le, e60]; omega), bn_eta]; rfl
    · unfold F_X8_season
      rw [in_e, if_neg (by rw [e1, e60]; exact ha), Option.bind_some, if_pos rfl, bn_eta]
      rfl
theorem op_now {M : Mem} (h : RR M) (a : Int32) : OpI (F_X7_now a) (F_X8_now a) M := by
  obtain ⟨⟨f, z, N, U, hg, hx, hm⟩, -⟩ := id h
  have hN := hg.1
  have hp := hg.2.2.2
  by_cases e0 : a = 0
  · subst e0
    exact op_r h (r := f) (by unfold F_X7_now; rw [if_pos rfl, hx.1]) (by unfold F_X8_now; rw [if_pos rfl, n51_0, hm.1])
  by_cases e1 : a = 1
  · subst e1
    exact op_r h (r := sm N (U 2)) (by unfold F_X7_now; rw [if_neg e0, if_pos rfl, show F_X4_total 2 5 M = _ from x_total hx hN (w := 2) (by decide), Option.bind_some]) (by unfold F_X8_now; rw [if_neg e0, if_pos rfl, show F_X8_sumOf (2 : Int32) M = _ from m_sumOf hm hN (w := 2) (by decide), Option.bind_some])
  by_cases e2 : a = 2
  · subst e2
    exact op_r h (r := nI (st N (fun i => U 0 i = 3))) (by unfold F_X7_now; rw [if_neg e0, if_neg e1, if_pos rfl, (x_children hx hN).1, Option.bind_some]) (by unfold F_X8_now; rw [if_neg e0, if_neg e1, if_pos rfl, (m_children hm hN).1, Option.bind_some])
  by_cases e3 : a = 3
  · subst e3
    exact op_r h (r := nI (st N (fun i => U 5 i = nI i))) (by unfold F_X7_now; rw [if_neg e0, if_neg e1, if_neg e2, if_pos rfl, (x_ownSet hx hN).1, Option.bind_some]) (by unfold F_X8_now; rw [if_neg e0, if_neg e1, if_neg e2, if_pos rfl, (m_ownSet hm hN).1, Option.bind_some])
  by_cases e4 : a = 4
  · subst e4
    exact op_r h (r := sm N (fun i => eU U i (sl U i))) (by unfold F_X7_now; rw [if_neg e0, if_neg e1, if_neg e2, if_neg e3, if_pos rfl, x_earnings hx hN hp, Option.bind_some]) (by unfold F_X8_now; rw [if_neg e0, if_neg e1, if_neg e2, if_neg e3, if_pos rfl, m_earnAll hm hN hp, Option.bind_some])
  by_cases e5 : a = 5
  · subst e5
    by_cases hr : ∀ p, p < N → al U p (sl U p)
    · exact op_r h (r := 1) (by unfold F_X7_now; rw [if_neg e0, if_neg e1, if_neg e2, if_neg e3, if_neg e4, if_pos rfl, x_isLotRight hx hN hp, if_pos hr, Option.bind_some]; rfl) (by unfold F_X8_now; rw [if_neg e0, if_neg e1, if_neg e2, if_neg e3, if_neg e4, if_pos rfl, m_isRight hm hN hp, if_pos hr, Option.bind_some]; rfl)
    · exact op_r h (r := 0) (by unfold F_X7_now; rw [if_neg e0, if_neg e1, if_neg e2, if_neg e3, if_neg e4, if_pos rfl, x_isLotRight hx hN hp, if_neg hr, Option.bind_some]; rfl) (by unfold F_X8_now; rw [if_neg e0, if_neg e1, if_neg e2, if_neg e3, if_neg e4, if_pos rfl, m_isRight hm hN hp, if_neg hr, Option.bind_some]; rfl)
  by_cases e6 : a = 6
  · subst e6
    exact op_r h (r := sm N (U 4)) (by unfold F_X7_now; rw [if_neg e0, if_neg e1, if_neg e2, if_neg e3, if_neg e4, if_neg e5, if_pos rfl, show F_X4_total 2 7 M = _ from x_total hx hN (w := 4) (by decide), Option.bind_some]) (by unfold F_X8_now; rw [if_neg e0, if_neg e1, if_neg e2, if_neg e3, if_neg e4, if_neg e5, if_pos rfl, show F_X8_sumOf (4 : Int32) M = _ from m_sumOf hm hN (w := 4) (by decide), Option.bind_some])
  exact op_f h (k := 0) (by decide) (by unfold F_X7_now; rw [if_neg e0, if_neg e1, if_neg e2, if_neg e3, if_neg e4, if_neg e5, if_neg e6, bn_eta]; rfl) (fun M1 hc => by unfold F_X8_now; rw [if_neg e0, if_neg e1, if_neg e2, if_neg e3, if_neg e4, if_neg e5, if_neg e6, bn_eta]; rfl)
theorem op_who {M : Mem} (h : RR M) (a : Int32) : OpI (F_X7_who a) (F_X8_who a) M := by
  obtain ⟨⟨f, z, N, U, hg, hx, hm⟩, -⟩ := id h
  have hN := hg.1
  by_cases ha : 0 ≤ a.toInt ∧ a.toInt < N
  · obtain ⟨p, hp, rfl⟩ := t_of ha.1 ha.2
    obtain ⟨q1, q2, q3⟩ := ih_in hg.2.2.2 hN hp
    exact op_r h (r := nI (hd U (nI p) N 0)) (by unfold F_X7_who; rw [x_has hx hN, if_pos ha, Option.bind_some, if_neg (by decide), x_holder hx hN q1 q3, Option.bind_some]) (by unfold F_X8_who; rw [m_isOne hm hN, if_pos ha, Option.bind_some, if_neg (by decide), m_whoHas hm hN q1 q3, Option.bind_some])
  · exact op_f h (k := 0) (by decide) (by unfold F_X7_who; rw [x_has hx hN, if_neg ha, Option.bind_some, if_pos rfl, bn_eta]; rfl) (fun M1 hc => by unfold F_X8_who; rw [no_one hm hN hc, if_neg ha, Option.bind_some, if_pos rfl, bn_eta]; rfl)
theorem n2a : ∀ a, a < 3 → (2 : Int32) + nI a = nI (2 + a) := by decide +kernel
theorem m_on46 {M : Mem} {f z g : Int32} {N : Nat} {U : Nat → Nat → Int32} (h : VM M 50 f z N U) (hg : GV g N U) {n p a : Nat} (hn : n ≤ 60) (hp : p < 8) (ha : a < 3) : ∃ M1, F_X8_on_46 (nI p) (nI n) (nI a) FU (0 : Int32) M = some (frn N U n (2 + a) p, M1) ∧ (∀ k, k < 51 → m_I M1 50 k = m_I M 56 k) ∧ Ch (fun o => o = 50 ∨ (53 ≤ o ∧ o ≤ 55)) M M1 := by
  have key : ∀ k m i M1, i + k = n → k < m → VM M1 50 (f + nI i) z N (frn N U i) → Ch (fun o => o = 50 ∨ (53 ≤ o ∧ o ≤ 55)) M M1 → ∃ M2, F_X8_on_46 (nI p) (nI n) (nI a) m (nI i) M1 = some (frn N U n (2 + a) p, M2) ∧ (∀ k, k < 51 → m_I M2 50 k = m_I M 56 k) ∧ Ch (fun o => o = 50 ∨ (53 ≤ o ∧ o ≤ 55)) M M2 := by
    intro k
    induction k with
    | zero =>
      intro m i M1 h1 h2 hv hc
      obtain ⟨m, rfl⟩ : ∃ q, m = q + 1 := ⟨m - 1, by omega⟩
      have hi : i = n := by omega
      subst hi
      obtain ⟨M2, a1, a2, a3⟩ := m_back (M := M1) (a := 56) (by decide)
      refine ⟨M2, ?_, fun k hk => ?_, hc.tr (a3.wk (fun o q => by omega))⟩
      · rw [F_X8_on_46, lp_y, n2a a ha, its_n hp (by omega), Option.bind_some, a1, Option.bind_some, hv.u _ _ (by omega) hp]
      · rw [a2 k hk, (hc 56 (by omega)).1]
    | succ k ih =>
      intro m i M1 h1 h2 hv hc
      obtain ⟨m, rfl⟩ : ∃ q, m = q + 1 := ⟨m - 1, by omega⟩
      obtain ⟨M2, a1, a2, a3⟩ := m_oneFriday hv (GV_frn hg i)
      rw [F_X8_on_46, lp_x (by omega) (by omega), a1, Option.bind_some, nI_1]
      rw [nI_pl] at a2
      exact ih m (i + 1) M2 (by omega) (by omega) a2 (hc.tr a3)
  exact key n FU 0 M (by omega) (by show n < 1000; omega) (by rw [nI_0, Int32.add_zero]; exact h) Ch.rf
theorem op_on {M : Mem} (h : RR M) (a b c : Int32) : OpI (F_X7_on a b c) (F_X8_on a b c) M := by
  obtain ⟨⟨f, z, N, U, hg, hx, hm⟩, -⟩ := id h
  have hN := hg.1
  have e60 : (60 : Int32).toInt = 60 := by decide
  have e2 : (2 : Int32).toInt = 2 := by decide
  have e0 : (0 : Int32).toInt = 0 := by decide
  by_cases ha : 0 ≤ a.toInt ∧ a.toInt < N
  · by_cases hb : 0 ≤ b.toInt ∧ b.toInt ≤ 60
    · have b1 : ¬ b < 0 := by rw [t_lt, e0]; omega
      have b2 : ¬ (60 : Int32) < b := by rw [t_lt, e60]; omega
      by_cases hc : 0 ≤ c.toInt ∧ c.toInt ≤ 2
      · have c1 : ¬ c < 0 := by rw [t_lt, e0]; omega
        have c2 : c ≤ (2 : Int32) := by rw [t_le, e2]; omega
        obtain ⟨p, hp, rfl⟩ := t_of ha.1 ha.2
        obtain ⟨n, hn, rfl⟩ := t_of (n := 61) hb.1 (by omega)
        obtain ⟨w, hw, rfl⟩ := t_of (n := 3) hc.1 (by omega)
        obtain ⟨M1, a1, a2, a3⟩ := x_become (a := 24) hx (by omega)
        obtain ⟨M2, d1, d2, d3⟩ := x_passFridays a2 hg (n := n) (by omega)
        have cc : Ch (fun o => 24 ≤ o ∧ o ≤ 24 + 10) M M2 := (a3.wk (fun o q => by omega)).tr d3
        have hm2 := hm.ch cc (by omega)
        refine op_v h hg (r := frn N U n (2 + w) p) (M1 := M2) ?_ (hx.ch cc (fun o q1 q2 => by omega)) (cc.wk (fun o q => by unfold vlC hdC; omega)) ?_
        · unfold F_X7_on
          rw [x_has hx hN, if_pos ha, Option.bind_some, if_neg (by decide), if_neg b1, if_neg b2, if_neg c1, if_pos c2, a1, Option.bind_some, d1, Option.bind_some]
          have hp8 : p < 8 := by omega
          rcases (by omega : w = 0 ∨ w = 1 ∨ w = 2) with rfl | rfl | rfl
          · rw [if_pos (show nI 0 = 0 from rfl), n_8 hp8, show m_I M2 27 p = _ from d2.u 2 p (by decide) hp8]
          · rw [if_neg (show ¬ nI 1 = 0 by decide), if_pos (show nI 1 = 1 from rfl), n_8 hp8, show m_I M2 28 p = _ from d2.u 3 p (by decide) hp8]
          · rw [if_neg (show ¬ nI 2 = 0 by decide), if_neg (show ¬ nI 2 = 1 by decide), n_8 hp8, show m_I M2 29 p = _ from d2.u 4 p (by decide) hp8]
        · obtain ⟨M3, f1, f2, f3⟩ := m_keep (M := M2) (a := 56) (by decide)
          have hm3 := hm2.ch f3 (by omega)
          obtain ⟨M4, g1, g2, g3⟩ := m_on46 hm3 hg (n := n) (p := p) (a := w) (by omega) (by omega) hw
          refine ⟨M4, ?_, hm2.cp (fun k hk => by rw [g2 k hk, f2 k hk]), (f3.wk (fun o q => by omega)).tr (g3.wk (fun o q => by omega))⟩
          unfold F_X8_on
          rw [m_isOne hm2 hN, if_pos ha, Option.bind_some, if_neg (by decide), in_e, if_pos (by rw [e0, e60]; exact hb), Option.bind_some, if_neg (by decide), in_e, if_pos (by rw [e0, e2]; exact hc), Option.bind_some, if_neg (by decide), f1, Option.bind_some, g1]
      · refine op_f h (k := 0) (by decide) ?_ (fun M1 hk => ?_)
        · unfold F_X7_on
          rw [x_has hx hN, if_pos ha, Option.bind_some, if_neg (by decide), if_neg b1, if_neg b2]
          by_cases c1 : c < (0 : Int32)
          · rw [if_pos c1, bn_eta]; rfl
          · rw [if_neg c1, if_neg (by rw [t_lt, e0] at c1; rw [t_le, e2]; omega), bn_eta]; rfl
        · unfold F_X8_on
          rw [no_one hm hN hk, if_pos ha, Option.bind_some, if_neg (by decide), in_e, if_pos (by rw [e0, e60]; exact hb), Option.bind_some, if_neg (by decide), in_e, if_neg (by rw [e0, e2]; exact hc), Option.bind_some, if_pos rfl, bn_eta]
          rfl
    · refine op_f h (k := 0) (by decide) ?_ (fun M1 hk => ?_)
      · unfold F_X7_on
        rw [x_has hx hN, if_pos ha, Option.bind_some, if_neg (by decide)]
        by_cases c1 : b < (0 : Int32)
        · rw [if_pos c1, bn_eta]; rfl
        · rw [if_neg c1, if_pos (by rw [t_lt, e0] at c1; rw [t_lt, e60]; omega), bn_eta]; rfl
      · unfold F_X8_on
        rw [no_one hm hN hk, if_pos ha, Option.bind_some, if_neg (by decide), in_e, if_neg (by rw [e0, e60]; exact hb), Option.bind_some, if_pos rfl, bn_eta]
        rfl
  · exact op_f h (k := 0) (by decide) (by unfold F_X7_on; rw [x_has hx hN, if_neg ha, Option.bind_some, if_pos rfl, bn_eta]; rfl) (fun M1 hc => by unfold F_X8_on; rw [no_one hm hN hc, if_neg ha, Option.bind_some, if_pos rfl, bn_eta]; rfl)
/-- both answer the finding k after a trial -/
theorem op_fh {M : Mem} (h : RR M) {k : Nat} (hk : k < 7) {FX FM : Mem → Option (Int32 × Mem)} {f z : Int32} {N : Nat} {U : Nat → Nat → Int32} (hg : GV f N U) (hx : VX M 2 f z N U) {Ma : Mem} (hc : Ch hdC M Ma) (h1 : FX M = F_X7_finding (nI k) Ma) (h2 : ∀ Mb, Ch (fun o => o = 1) Ma Mb → ∃ Mc, FM Mb = F_X8_finds ((-1000000001 : Int32) - nI k) Mc ∧ VM Mc 50 f z N U ∧ Ch (fun o => o = 50 ∨ (52 ≤ o ∧ o ≤ 57) ∨ o = 64) Mb Mc) : OpI FX FM M := by
  obtain ⟨Mc, b1, b2, b3⟩ := h2 (w_I Ma 1 k (m_I Ma 1 k + 1)) (Ch.w rfl)
  refine ⟨_, _, _, h1.trans (x_find hk Ma), b1.trans (m_find hk Mc), ?_⟩
  have c1 : Ch (fun o => o = 1 ∨ hdC o ∨ o = 50 ∨ o = 51) M (w_I Mc 51 k (m_I Mc 51 k + 1)) := (hc.wk (fun o q => Or.inr (Or.inl q))).tr ((Ch.w (Or.inl rfl)).tr ((b3.wk (fun o q => by unfold hdC; omega)).tr (Ch.w (Or.inr (Or.inr (Or.inr rfl))))))
  obtain ⟨-, u2, h3, h4, h5⟩ := h
  refine ⟨⟨f, z, N, U, hg, hx.ch c1 (fun o q1 q2 => by unfold hdC; omega), b2.ch (P := fun o => o = 51) (Ch.w rfl) (by omega)⟩, fun j hj => ?_, h3.ch c1 ?_ ?_ (fun o a b => ?_) ?_, h4.ch c1 ?_ ?_ ?_ ?_, h5.ch c1 (fun o a b => ?_) (fun o a b => ?_)⟩
  · have q1 : ∀ j, m_I Mc 51 j = m_I M 51 j := fun j => by rw [(b3 51 (by omega)).1, m_wo (show 51 ≠ 1 by decide), (hc 51 (by unfold hdC; omega)).1]
    have q2 : ∀ j, m_I Ma 1 j = m_I M 1 j := fun j => (hc 1 (by unfold hdC; omega)).1 j
    rw [m_wo (show 1 ≠ 51 by decide), (b3 1 (by omega)).1]
    by_cases e : j = k
    · subst e
      rw [m_ws, m_ws, q1, q2, u2 j hj]
    · rw [m_wk e, m_wk e, q1, q2]
      exact u2 j hj
  all_goals unfold hdC; omega
def it (Z : Int32 → Int32) (D : Int32 → Nat → Nat) (N p : Nat) : Nat → Nat → Int32 × (Nat → Nat → Int32) → Option Nat
  | 0, _, _ => none
  | k + 1, i, s => if (dl Z D N s).2 5 p = nI p then some (i + 1) else it Z D N p k (i + 1) (dl Z D N s)
theorem x_itself30 {Z : Int32 → Int32} {D : Int32 → Nat → Nat} (hz : ZD Z D) {f : Int32} {N p : Nat} (hN : N ≤ 8) (hp : p < 8) : ∀ k m i (s : Int32 × (Nat → Nat → Int32)) (M : Mem), i + k = 60 → k < m → VX M 24 f s.1 N s.2 → ∃ M1, F_X7_itself_30 (nI p) m (nI (i + 1)) M = (match it Z D N p k i s with | some r => some (nI r, M1) | none => F_X7_finding (nI 3) M1) ∧ Ch (fun o => 24 ≤ o ∧ o ≤ 24 + 10) M M1 := by
  intro k
  induction k with
  | zero =>
    intro m i s M h1 h2 hv
    obtain ⟨m, rfl⟩ : ∃ q, m = q + 1 := ⟨m - 1, by omega⟩
    have hi : i = 60 := by omega
    subst hi
    exact ⟨M, by rw [F_X7_itself_30, if_pos (by decide), bn_eta]; rfl, Ch.rf⟩
  | succ k ih =>
    intro m i s M h1 h2 hv
    obtain ⟨m, rfl⟩ : ∃ q, m = q + 1 := ⟨m - 1, by omega⟩
    obtain ⟨M2, a1, a2, a3⟩ := x_drawLot hz hv hN
    have hj : ¬ (60 : Int32) < nI (i + 1) := by rw [t_lt, nI_toInt (by omega), show (60 : Int32).toInt = 60 by decide]; omega
    have e := a2.u 5 p (by decide) hp
    by_cases hq : (dl Z D N s).2 5 p = nI p
    · refine ⟨M2, ?_, a3⟩
      rw [F_X7_itself_30, if_neg hj, a1, Option.bind_some, n_8 hp, show m_I M2 30 p = _ from e, if_pos hq, it, if_pos hq]
    · obtain ⟨M3, b1, b2⟩ := ih m (i + 1) (dl Z D N s) M2 (by omega) (by omega) a2
      refine ⟨M3, ?_, a3.tr b2⟩
      rw [F_X7_itself_30, if_neg hj, a1, Option.bind_some, n_8 hp, show m_I M2 30 p = _ from e, if_neg hq, nI_1, it, if_neg hq, b1]
theorem m_itself28 {Z : Int32 → Int32} {D : Int32 → Nat → Nat} (hz : ZD Z D) {f : Int32} {N p : Nat} (hN : N ≤ 8) (hp : p < 8) : ∀ k m i (s : Int32 × (Nat → Nat → Int32)) (M : Mem), i + k = 60 → k + 1 < m → VM M 50 f s.1 N s.2 → ∃ M1, F_X8_itself_28 (nI p) m (nI i) (0 : Int32) M = (match it Z D N p k i s with | some r => some (nI r, M1) | none => F_X8_finds ((-1000000001 : Int32) - nI 3) M1) ∧ (∀ k, k < 51 → m_I M1 50 k = m_I M 56 k) ∧ Ch (fun o => o = 50 ∨ o = 52) M M1 := by
  intro k
  induction k with
  | zero =>
    intro m i s M h1 h2 hv
    obtain ⟨m, rfl⟩ : ∃ q, m = q + 1 := ⟨m - 1, by omega⟩
    have hi : i = 60 := by omega
    subst hi
    obtain ⟨M2, a1, a2, a3⟩ := m_back (M := M) (a := 56) (by decide)
    exact ⟨M2, by rw [F_X8_itself_28, if_pos (by decide), F_X8_itself_64, a1, Option.bind_some, if_pos rfl, bn_eta]; rfl, a2, a3.wk (fun o q => Or.inl q)⟩
  | succ k ih =>
    intro m i s M h1 h2 hv
    obtain ⟨m, rfl⟩ : ∃ q, m = q + 1 := ⟨m - 1, by omega⟩
    obtain ⟨M2, a1, a2, a3⟩ := m_draws hz hv hN
    have hj : ¬ (60 : Int32) ≤ nI i := by rw [t_le, nI_toInt (by omega), show (60 : Int32).toInt = 60 by decide]; omega
    have e := a2.u 5 p (by decide) hp
    by_cases hq : (dl Z D N s).2 5 p = nI p
    · obtain ⟨M3, b1, b2, b3⟩ := m_back (M := M2) (a := 56) (by decide)
      refine ⟨M3, ?_, fun k hk => by rw [b2 k hk, (a3 56 (by omega)).1], a3.tr (b3.wk (fun o q => Or.inl q))⟩
      obtain ⟨m, rfl⟩ : ∃ q, m = q + 1 := ⟨m - 1, by omega⟩
      rw [F_X8_itself_28, if_neg hj, if_pos rfl, a1, Option.bind_some, its_5 hp, Option.bind_some, e, if_pos hq, nI_1, F_X8_itself_28, if_neg one0.mp, ite_self, F_X8_itself_64, b1, Option.bind_some, if_neg one0.mp, it, if_pos hq]
    · obtain ⟨M3, b1, b2, b3⟩ := ih m (i + 1) (dl Z D N s) M2 (by omega) (by omega) a2
      refine ⟨M3, ?_, fun k hk => by rw [b2 k hk, (a3 56 (by omega)).1], a3.tr b3⟩
      rw [F_X8_itself_28, if_neg hj, if_pos rfl, a1, Option.bind_some, its_5 hp, Option.bind_some, e, if_neg hq, nI_1, b1, it, if_neg hq]
theorem op_itself {Z : Int32 → Int32} {D : Int32 → Nat → Nat} (hz : ZD Z D) {M : Mem} (h : RR M) (a : Int32) : OpI (F_X7_itself a) (F_X8_itself a) M := by
  obtain ⟨⟨f, z, N, U, hg, hx, hm⟩, -⟩ := id h
  have hN := hg.1
  by_cases ha : 0 ≤ a.toInt ∧ a.toInt < N
  · obtain ⟨p, hp, rfl⟩ := t_of ha.1 ha.2
    have hp8 : p < 8 := by omega
    obtain ⟨M1, a1, a2, a3⟩ := x_become (a := 24) hx (by omega)
    obtain ⟨M2, d1, d3⟩ := x_itself30 hz hN hp8 60 FU 0 (z, U) M1 (by omega) (by decide) a2
    have cc : Ch (fun o => 24 ≤ o ∧ o ≤ 24 + 10) M M2 := (a3.wk (fun o q => by omega)).tr d3
    have X : F_X7_itself (nI p) M = (match it Z D N p 60 0 (z, U) with | some r => some (nI r, M2) | none => F_X7_finding (nI 3) M2) := by
      unfold F_X7_itself
      rw [x_has hx hN, if_pos ha, Option.bind_some, if_neg (by decide), a1, Option.bind_some, show (1 : Int32) = nI (0 + 1) from rfl, d1]
    have Y : ∀ Mb, VM Mb 50 f z N U → ∃ M4, F_X8_itself (nI p) Mb = (match it Z D N p 60 0 (z, U) with | some r => some (nI r, M4) | none => F_X8_finds ((-1000000001 : Int32) - nI 3) M4) ∧ VM M4 50 f z N U ∧ Ch (fun o => o = 50 ∨ (52 ≤ o ∧ o ≤ 57) ∨ o = 64) Mb M4 := by
      intro Mb hmb
      obtain ⟨M3, f1, f2, f3⟩ := m_keep (M := Mb) (a := 56) (by decide)
      have hm3 := hmb.ch f3 (by omega)
      obtain ⟨M4, g1, g2, g3⟩ := m_itself28 hz hN hp8 60 FU 0 (z, U) M3 (by omega) (by decide) hm3
      refine ⟨M4, ?_, hmb.cp (fun k hk => by rw [g2 k hk, f2 k hk]), (f3.wk (fun o q => by omega)).tr (g3.wk (fun o q => by omega))⟩
      unfold F_X8_itself
      rw [m_isOne hmb hN, if_pos ha, Option.bind_some, if_neg (by decide), f1, Option.bind_some, ← g1]
      rfl
    cases hi : it Z D N p 60 0 (z, U) with
    | some r =>
      rw [hi] at X
      refine op_v h hg (r := nI r) (M1 := M2) X (hx.ch cc (fun o q1 q2 => by omega)) (cc.wk (fun o q => by unfold vlC hdC; omega)) ?_
      obtain ⟨M4, y1, y2, y3⟩ := Y M2 (hm.ch cc (by omega))
      rw [hi] at y1
      exact ⟨M4, y1, y2, y3⟩
    | none =>
      rw [hi] at X
      refine op_fh h (k := 3) (by decide) hg hx (cc.wk (fun o q => by unfold hdC; omega)) X (fun Mb hb => ?_)
      obtain ⟨M4, y1, y2, y3⟩ := Y Mb ((hm.ch cc (by omega)).ch hb (by omega))
      rw [hi] at y1
      exact ⟨M4, y1, y2, y3⟩
  · exact op_f h (k := 0) (by decide) (by unfold F_X7_itself; rw [x_has hx hN, if_neg ha, Option.bind_some, if_pos rfl, bn_eta]; rfl) (fun M1 hc => by unfold F_X8_itself; rw [no_one hm hN hc, if_neg ha, Option.bind_some, if_pos rfl, bn_eta]; rfl)
theorem Tap.ch9 {M M1 : Mem} {P : Nat → Prop} (h : Tap M) (hc : Ch P M M1) (h1 : ¬ P 37) (h2 : ¬ P 38) (h49 : m_I M1 49 9 = m_I M 49 9) (h3 : ¬ P 58) : Tap M1 := by
  obtain ⟨T, a, b, c, d⟩ := h
  exact ⟨T, a, by rw [(hc 37 h1).1]; exact b, by rw [h49]; exact c, fun k hk => by rw [(hc 38 h2).1, (hc 58 h3).1]; exact d k hk⟩
theorem op_image {M : Mem} (h : RR M) : OpI F_X7_image F_X8_image M := by
  obtain ⟨⟨f, z, N, U, hg, hx, hm⟩, h2, h3, h4, h5⟩ := id h
  obtain ⟨M1, a1, a2, a3⟩ := x_become (a := 13) hx (by omega)
  have c1 : Ch (fun o => o = 0 ∨ (13 ≤ o ∧ o ≤ 13 + 6)) M (w_I M1 0 8 1) := (a3.wk (fun o q => Or.inr q)).tr (Ch.w (Or.inl rfl))
  obtain ⟨M3, b1, b2, b3⟩ := m_keep (M := w_I M1 0 8 1) (a := 63) (by decide)
  have c2 : Ch (fun o => o = 0 ∨ (13 ≤ o ∧ o ≤ 13 + 6) ∨ o = 63) M M3 := (c1.wk (fun o q => by omega)).tr (b3.wk (fun o q => by omega))
  have c3 : Ch (fun o => o = 0 ∨ (13 ≤ o ∧ o ≤ 13 + 6) ∨ o = 63 ∨ o = 49) M (w_I M3 49 22 1) := (c2.wk (fun o q => by omega)).tr (Ch.w (by omega))
  refine ⟨1, w_I M1 0 8 1, w_I M3 49 22 1, by unfold F_X7_image; rw [a1]; rfl, by unfold F_X8_image; rw [b1]; rfl, ?_⟩
  refine ⟨⟨f, z, N, U, hg, hx.ch c3 (fun o q1 q2 => by omega), hm.ch c3 (by omega)⟩, h2.ch c3 (by omega) (by omega), Or.inr ⟨?_, m_ws _ _ _ _, f, z, N, U, hg, ?_, ?_⟩, h4.ch9 c3 (by omega) (by omega) ?_ (by omega), h5.ch c3 (fun o a b => by omega) (fun o a b => by omega)⟩
  · rw [m_wo (show 0 ≠ 49 by decide), (b3 0 (by omega)).1, m_ws]
  · exact a2.ch (P := fun o => o = 0 ∨ o = 63 ∨ o = 49) (((Ch.w (by omega)).tr (b3.wk (fun o q => by omega))).tr (Ch.w (by omega))) (fun o q1 q2 => by omega)
  · refine (hm.ch c1 (by omega)).cp (fun k hk => ?_)
    rw [m_wo (show 63 ≠ 49 by decide), b2 k hk]
  · rw [m_wk (show 9 ≠ 22 by decide), (c2 49 (by omega)).1]
theorem op_undo {M : Mem} (h : RR M) : OpI F_X7_undo F_X8_undo M := by
  obtain ⟨h1, h2, h3, h4, h5⟩ := id h
  rcases h3 with ⟨a, b⟩ | ⟨a, b, f, z, N, U, hg, hx, hm⟩
  · exact op_f h (k := 3) (by decide) (by unfold F_X7_undo; rw [if_pos a, bn_eta]; rfl) (fun M1 hc => by unfold F_X8_undo; rw [(hc 49 (by omega)).1, if_pos b, bn_eta]; rfl)
  · obtain ⟨M1, a1, a2, a3⟩ := x_become (a := 2) hx (by omega)
    obtain ⟨M2, b1, b2, b3⟩ := m_back (M := M1) (a := 63) (by decide)
    have hm2 : VM M2 50 f z N U := (hm.ch a3 (by omega)).cp b2
    refine op_v h hg (r := nI N) (M1 := M1) ?_ a2 (a3.wk (fun o q => by unfold vlC; omega)) ⟨M2, ?_, hm2, b3.wk (fun o q => Or.inl q)⟩
    · unfold F_X7_undo
      rw [a, if_neg one0.mp, a1, Option.bind_some, a2.2.2.1]
    · unfold F_X8_undo
      rw [(a3 49 (by omega)).1, b, if_neg one0.mp, b1, Option.bind_some, n51_2, hm2.2.2.1]
theorem op_tear {M : Mem} (h : RR M) : OpI F_X7_tear F_X8_tear M := by
  obtain ⟨h1, h2, h3, h4, h5⟩ := id h
  have c3 : Ch (fun o => o = 0 ∨ o = 49) M (w_I (w_I M 0 8 0) 49 22 0) := (Ch.w (by omega)).tr (Ch.w (by omega))
  have hr : RR (w_I (w_I M 0 8 0) 49 22 0) := by
    refine ⟨h1.ch c3 (fun o a b => by omega) (by omega), h2.ch c3 (by omega) (by omega), Or.inl ⟨?_, m_ws _ _ _ _⟩, h4.ch9 c3 (by omega) (by omega) ?_ (by omega), h5.ch c3 (fun o a b => by omega) (fun o a b => by omega)⟩
    · rw [m_wo (show 0 ≠ 49 by decide), m_ws]
    · rw [m_wk (show 9 ≠ 22 by decide), m_wo (show 49 ≠ 0 by decide)]
  rcases h3 with ⟨a, b⟩ | ⟨a, b, -⟩
  · refine ⟨0, w_I M 0 8 0, w_I (w_I M 0 8 0) 49 22 0, ?_, ?_, hr⟩
    · unfold F_X7_tear
      rw [if_pos a]
      rfl
    · unfold F_X8_tear
      rw [m_wo (show 49 ≠ 0 by decide), if_pos b]
      rfl
  · refine ⟨1, w_I M 0 8 0, w_I (w_I M 0 8 0) 49 22 0, ?_, ?_, hr⟩
    · unfold F_X7_tear
      rw [a, if_neg one0.mp]
      rfl
    · unfold F_X8_tear
      rw [m_wo (show 49 ≠ 0 by decide), b, if_neg one0.mp]
      rfl
theorem op_count {M : Mem} (h : RR M) (a : Int32) : OpI (F_X7_count a) (F_X8_count a) M := by
  obtain ⟨⟨f, z, N, U, hg, hx, hm⟩, -, -, ⟨T, t1, t2, t3, t4⟩, -⟩ := id h
  have hN := hg.1
  by_cases e0 : a = 0
  · subst e0
    exact op_r h (r := nI N) (by unfold F_X7_count; rw [if_pos rfl, hx.2.2.1]) (by unfold F_X8_count; rw [if_pos rfl, n51_2, hm.2.2.1])
  by_cases e1 : a = 1
  · subst e1
    exact op_r h (r := nI T) (by unfold F_X7_count; rw [if_neg e0, if_pos rfl, t2]) (by unfold F_X8_count; rw [if_neg e0, if_pos rfl, t3])
  by_cases e2 : a = 2
  · subst e2
    exact op_r h (r := z) (by unfold F_X7_count; rw [if_neg e0, if_neg e1, if_pos rfl, hx.2.1]) (by unfold F_X8_count; rw [if_neg e0, if_neg e1, if_pos rfl, n51_1, hm.2.1])
  by_cases e3 : a = 3
  · subst e3
    exact op_r h (r := sm N (U 3)) (by unfold F_X7_count; rw [if_neg e0, if_neg e1, if_neg e2, if_pos rfl, show F_X4_total 2 6 M = _ from x_total hx hN (w := 3) (by decide), Option.bind_some]) (by unfold F_X8_count; rw [if_neg e0, if_neg e1, if_neg e2, if_pos rfl, show F_X8_sumOf (3 : Int32) M = _ from m_sumOf hm hN (w := 3) (by decide), Option.bind_some])
  exact op_f h (k := 0) (by decide) (by unfold F_X7_count; rw [if_neg e0, if_neg e1, if_neg e2, if_neg e3, bn_eta]; rfl) (fun M1 hc => by unfold F_X8_count; rw [if_neg e0, if_neg e1, if_neg e2, if_neg e3, bn_eta]; rfl)
theorem st_both {M : Mem} (hf : Fou M) {a : Int32} (ha : ¬ 0 ≤ a) : ∀ k i x m m', i + k = 7 → k < m → k < m' → ∃ r, F_X7_status_32 a m x (nI i) M = some (r, M) ∧ F_X8_status_21 a m' x (nI i) M = some (r, M) := by
  intro k
  induction k with
  | zero =>
    intro i x m m' h1 h2 h3
    obtain ⟨m, rfl⟩ : ∃ q, m = q + 1 := ⟨m - 1, by omega⟩
    obtain ⟨m', rfl⟩ : ∃ q, m' = q + 1 := ⟨m' - 1, by omega⟩
    have hi : i = 7 := by omega
    subst hi
    exact ⟨x, by rw [F_X7_status_32, if_pos (by decide)], by rw [F_X8_status_21, if_pos (by decide), if_neg ha]⟩
  | succ k ih =>
    intro i x m m' h1 h2 h3
    obtain ⟨m, rfl⟩ : ∃ q, m = q + 1 := ⟨m - 1, by omega⟩
    obtain ⟨m', rfl⟩ : ∃ q, m' = q + 1 := ⟨m' - 1, by omega⟩
    have hi : ¬ (7 : Int32) ≤ nI i := nI_ge (show i < 7 by omega) (by decide)
    obtain ⟨r, r1, r2⟩ := ih (i + 1) (x + m_I M 1 i) m m' (by omega) (by omega) (by omega)
    refine ⟨r, ?_, ?_⟩
    · rw [F_X7_status_32, if_neg hi, ix_n (by omega) (by decide), nI_1, r1]
    · rw [F_X8_status_21, if_neg hi, ix_n (by omega) (by decide), nI_1, ← hf i (by omega), r2]
theorem st_one {M : Mem} {j : Nat} (hj : j < 7) : ∀ k i x m, i + k = 7 → k < m → F_X8_status_21 (nI j) m x (nI i) M = some (m_I M 51 j, M) := by
  have ha : 0 ≤ nI j := by rw [t_le, nI_toInt (by omega)]; exact Int.natCast_nonneg j
  intro k
  induction k with
  | zero =>
    intro i x m h1 h2
    obtain ⟨m, rfl⟩ : ∃ q, m = q + 1 := ⟨m - 1, by omega⟩
    have hi : i = 7 := by omega
    subst hi
    rw [F_X8_status_21, if_pos (by decide), if_pos ha, if_pos ha, ix_n hj (by decide)]
  | succ k ih =>
    intro i x m h1 h2
    obtain ⟨m, rfl⟩ : ∃ q, m = q + 1 := ⟨m - 1, by omega⟩
    have hi : ¬ (7 : Int32) ≤ nI i := nI_ge (show i < 7 by omega) (by decide)
    rw [F_X8_status_21, if_neg hi, ix_n (by omega) (by decide), nI_1, ih (i + 1) _ m (by omega) (by omega)]
theorem op_status {M : Mem} (h : RR M) (a : Int32) : OpI (F_X7_status a) (F_X8_status a) M := by
  obtain ⟨-, hf, -⟩ := id h
  have e1 : (-1 : Int32).toInt = -1 := by decide
  have e6 : (6 : Int32).toInt = 6 := by decide
  have e7 : (7 : Int32).toInt = 7 := by decide
  have e0 : (0 : Int32).toInt = 0 := by decide
  by_cases ha : -1 ≤ a.toInt ∧ a.toInt ≤ 6
  · have c1 : ¬ a < (-1 : Int32) := by rw [t_lt, e1]; omega
    have c2 : a < (7 : Int32) := by rw [t_lt, e7]; omega
    by_cases c3 : a < 0
    · have c4 : ¬ 0 ≤ a := by rw [t_lt, e0] at c3; rw [t_le, e0]; omega
      obtain ⟨r, r1, r2⟩ := st_both hf c4 7 0 0 FU FU (by omega) (by decide) (by decide)
      exact op_r h (r := r) (by unfold F_X7_status; rw [if_neg c1, if_pos c2, if_pos c3]; exact r1) (by unfold F_X8_status; rw [in_e, if_pos (by rw [e1, e6]; exact ha), Option.bind_some, if_neg (by decide)]; exact r2)
    · have c4 : 0 ≤ a.toInt := by rw [t_lt, e0] at c3; omega
      obtain ⟨j, hj, rfl⟩ := t_of (n := 7) c4 (by omega)
      exact op_r h (r := m_I M 51 j) (by unfold F_X7_status; rw [if_neg c1, if_pos c2, if_neg c3, ix_n hj (by decide), hf j hj]) (by unfold F_X8_status; rw [in_e, if_pos (by rw [e1, e6]; exact ha), Option.bind_some, if_neg (by decide)]; exact st_one hj 7 0 0 FU (by omega) (by decide))
  · refine op_f h (k := 0) (by decide) ?_ (fun M1 hc => ?_)
    · unfold F_X7_status
      by_cases c1 : a < (-1 : Int32)
      · rw [if_pos c1, bn_eta]; rfl
      · rw [if_neg c1, if_neg (by rw [t_lt, e1] at c1; rw [t_lt, e7]; omega), bn_eta]; rfl
    · unfold F_X8_status
      rw [in_e, if_neg (by rw [e1, e6]; exact ha), Option.bind_some, if_pos rfl, bn_eta]
      rfl
