/-! ===== BOOKING AND READING ===== -/
theorem x_book64 {a : Int32} {f z g : Int32} {N n s p : Nat} {b : Int32} {U : Nat → Nat → Int32} (hg : GV g N U) (hn : n ≤ 40) (hs : s < 4) (hp : p < 8) : ∀ k m i M, i + k = n → k < m → VX M 24 (f + nI i) z N (frn N U i) → m_I M (41 + 2 * s) 1 = b → m_I M (41 + 2 * s) 2 = nI n → ∃ M1, F_X7_book_64 a (nI p) m (41 + 2 * s) (nI i) M = some (nI n, M1) ∧ (∀ y, m_J M1 (41 + 2 * s + 1) y = if i ≤ y ∧ y < n then nw b ((frn N U y 2 p).toInt64) else m_J M (41 + 2 * s + 1) y) ∧ Ch (fun o => (24 ≤ o ∧ o ≤ 24 + 10) ∨ o = 41 + 2 * s + 1) M M1 := by
  intro k
  induction k with
  | zero =>
    intro m i M h1 h2 hv hb hc
    obtain ⟨m, rfl⟩ : ∃ q, m = q + 1 := ⟨m - 1, by omega⟩
    have hi : i = n := by omega
    subst hi
    exact ⟨M, by rw [F_X7_book_64, hc, lp_y], fun y => by rw [if_neg (by omega)], Ch.rf⟩
  | succ k ih =>
    intro m i M h1 h2 hv hb hc
    obtain ⟨m, rfl⟩ : ∃ q, m = q + 1 := ⟨m - 1, by omega⟩
    have e := hv.u 2 p (by decide) hp
    have c1 : Ch (fun o => o = 41 + 2 * s + 1) M (w_J M (41 + 2 * s + 1) i (nw b ((frn N U i 2 p).toInt64))) := Ch.wJ rfl
    obtain ⟨M2, a1, a2, a3⟩ := x_passFriday (hv.ch c1 (fun o q1 q2 => by omega)) (GV_frn hg i)
    rw [nI_pl] at a2
    obtain ⟨M3, b1, b2, b3⟩ := ih m (i + 1) M2 (by omega) (by omega) a2 (by rw [(a3 (41 + 2 * s) (by omega)).1]; exact hb) (by rw [(a3 (41 + 2 * s) (by omega)).1]; exact hc)
    refine ⟨M3, ?_, fun y => ?_, ((c1.wk (fun o q => Or.inr q)).tr (a3.wk (fun o q => Or.inl q))).tr b3⟩
    · rw [F_X7_book_64, hc, lp_x (by omega) (by omega), n_8 hp, show m_I M 27 p = _ from e, x_putS (show i < 40 by omega), Option.bind_some, hb, a1, Option.bind_some, nI_1, b1]
    · rw [b2 y, (a3 (41 + 2 * s + 1) (by omega)).2, j_wJ]
      by_cases q : i + 1 ≤ y ∧ y < n
      · rw [if_pos q, if_pos (by omega)]
      · rw [if_neg q]
        by_cases q2 : y = i
        · rw [if_pos ⟨rfl, q2⟩, if_pos (by omega), q2]
        · rw [if_neg (fun z => q2 z.2), if_neg (by omega)]
theorem m_book43 {f z g : Int32} {N n s p : Nat} {b : Int32} {U : Nat → Nat → Int32} (hg : GV g N U) (hn : n ≤ 40) (hs : s < 4) (hp : p < 8) : ∀ k m i M, i + k = n → k < m → VM M 50 (f + nI i) z N (frn N U i) → m_I M 59 s = b → m_I M 60 s = nI n → ∃ M1, F_X8_book_43 (nI s) (nI p) m (nI i) M = some (nI n, M1) ∧ (∀ y, m_J M1 61 y = if 40 * s + i ≤ y ∧ y < 40 * s + n then nw b ((frn N U (y - 40 * s) 2 p).toInt64) else m_J M 61 y) ∧ (∀ k, k < 51 → m_I M1 50 k = m_I M 56 k) ∧ Ch (fun o => o = 50 ∨ (53 ≤ o ∧ o ≤ 55) ∨ o = 61) M M1 := by
  intro k
  induction k with
  | zero =>
    intro m i M h1 h2 hv hb hc
    obtain ⟨m, rfl⟩ : ∃ q, m = q + 1 := ⟨m - 1, by omega⟩
    have hi : i = n := by omega
    subst hi
    obtain ⟨M2, a1, a2, a3⟩ := m_back (M := M) (a := 56) (by decide)
    refine ⟨M2, ?_, fun y => ?_, a2, a3.wk (fun o q => Or.inl q)⟩
    · rw [F_X8_book_43, ix_n hs (by decide), hc, lp_y, a1, Option.bind_some, ix_n hs (by decide), (a3 60 (by omega)).1, hc]
    · rw [if_neg (by omega), (a3 61 (by omega)).2]
  | succ k ih =>
    intro m i M h1 h2 hv hb hc
    obtain ⟨m, rfl⟩ : ∃ q, m = q + 1 := ⟨m - 1, by omega⟩
    have e := hv.u 2 p (by decide) hp
    have c1 : Ch (fun o => o = 61) M (w_J M 61 (40 * s + i) (nw b ((frn N U i 2 p).toInt64))) := Ch.wJ rfl
    obtain ⟨M2, a1, a2, a3⟩ := m_oneFriday (hv.ch c1 (by omega)) (GV_frn hg i)
    rw [nI_pl] at a2
    obtain ⟨M3, b1, b2, b4, b3⟩ := ih m (i + 1) M2 (by omega) (by omega) a2 (by rw [(a3 59 (by omega)).1]; exact hb) (by rw [(a3 60 (by omega)).1]; exact hc)
    refine ⟨M3, ?_, fun y => ?_, fun k hk => by rw [b4 k hk, (a3 56 (by omega)).1]; rfl, ((c1.wk (fun o q => by omega)).tr (a3.wk (fun o q => by omega))).tr b3⟩
    · rw [F_X8_book_43, ix_n hs (by decide), hc, lp_x (by omega) (by omega), ix_n hs (by decide), its_2 hp, Option.bind_some, e, m_narrow, Option.bind_some, nI_40, ix_n (by omega) (by decide), pin, hb, a1, Option.bind_some, nI_1, b1]
    · rw [b2 y, (a3 61 (by omega)).2, j_wJ]
      by_cases q : 40 * s + (i + 1) ≤ y ∧ y < 40 * s + n
      · rw [if_pos q, if_pos (by omega)]
      · rw [if_neg q]
        by_cases q2 : y = 40 * s + i
        · rw [if_pos ⟨rfl, q2⟩, if_pos (by omega), q2, show 40 * s + i - 40 * s = i by omega]
        · rw [if_neg (fun z => q2 z.2), if_neg (by omega)]
theorem op_book {M : Mem} (h : RR M) (a b : Int32) : OpI (F_X7_book a b) (F_X8_book a b) M := by
  obtain ⟨⟨f, z, N, U, hg, hx, hm⟩, -, -, -, h5⟩ := id h
  have hN := hg.1
  by_cases ha : 0 ≤ a.toInt ∧ a.toInt < 4
  rotate_left 1
  · exact op_f h (k := 0) (by decide) (by unfold F_X7_book; rw [x_isSheet, if_neg ha, Option.bind_some, if_pos rfl, bn_eta]; rfl) (fun M1 hc => by unfold F_X8_book; rw [m_badN ha, Option.bind_some, if_neg (by decide), bn_eta]; rfl)
  obtain ⟨s, hs, rfl⟩ := t_of (n := 4) ha.1 ha.2
  obtain ⟨c1, c2, ⟨n, c3, c4, c5⟩, c6⟩ := h5 s hs
  by_cases hz : m_I M 59 s = 0
  · refine op_f h (k := 5) (by decide) ?_ (fun M1 hc => ?_)
    · unfold F_X7_book
      rw [x_isSheet, if_pos ha, Option.bind_some, if_neg (by decide), ix_n hs (by decide), x_missing, c1, if_pos hz, Option.bind_some, if_neg (by decide), bn_eta]
      rfl
    · unfold F_X8_book
      rw [m_badS hs, (hc 59 (by omega)).1, if_pos hz, Option.bind_some, if_neg (by decide), bn_eta]
      rfl
  by_cases hb : 0 ≤ b.toInt ∧ b.toInt < N
  rotate_left 1
  · refine op_f h (k := 0) (by decide) ?_ (fun M1 hc => ?_)
    · unfold F_X7_book
      rw [x_isSheet, if_pos ha, Option.bind_some, if_neg (by decide), ix_n hs (by decide), x_missing, c1, if_neg hz, Option.bind_some, if_pos rfl, x_has hx hN, if_neg hb, Option.bind_some, if_pos rfl, bn_eta]
      rfl
    · unfold F_X8_book
      rw [m_badS hs, (hc 59 (by omega)).1, if_neg hz, Option.bind_some, if_pos rfl, no_one hm hN hc, if_neg hb, Option.bind_some, if_pos rfl, bn_eta]
      rfl
  obtain ⟨p, hp, rfl⟩ := t_of hb.1 hb.2
  obtain ⟨M1, a1, a2, a3⟩ := x_become (a := 24) hx (by omega)
  obtain ⟨M2, d1, d2, d3⟩ := x_book64 (a := nI s) (f := f) (z := z) (b := m_I M 59 s) (p := p) hg c3 hs (by omega) n FU 0 M1 (by omega) (by show n < 1000; omega) (by rw [nI_0, Int32.add_zero]; exact a2) (by rw [(a3 (41 + 2 * s) (by omega)).1]; exact c1) (by rw [(a3 (41 + 2 * s) (by omega)).1]; exact c4)
  have cX : Ch (fun o => (24 ≤ o ∧ o ≤ 24 + 10) ∨ o = 41 + 2 * s + 1) M M2 := (a3.wk (fun o q => by omega)).tr d3
  obtain ⟨M3, f1, f2, f3⟩ := m_keep (M := M2) (a := 56) (by decide)
  have hm2 := hm.ch cX (by omega)
  have hm3 := hm2.ch f3 (by omega)
  obtain ⟨M4, g1, g2, g4, g3⟩ := m_book43 (f := f) (z := z) (b := m_I M 59 s) (p := p) hg c3 hs (by omega) n FU 0 M3 (by omega) (by show n < 1000; omega) (by rw [nI_0, Int32.add_zero]; exact hm3) (by rw [(f3 59 (by omega)).1, (cX 59 (by omega)).1]) (by rw [(f3 60 (by omega)).1, (cX 60 (by omega)).1]; exact c5)
  have cM : Ch (fun o => o = 50 ∨ (53 ≤ o ∧ o ≤ 56) ∨ o = 61) M2 M4 := (f3.wk (fun o q => by omega)).tr (g3.wk (fun o q => by omega))
  have cc : Ch (fun o => ((24 ≤ o ∧ o ≤ 24 + 10) ∨ o = 41 + 2 * s + 1) ∨ (o = 50 ∨ (53 ≤ o ∧ o ≤ 56) ∨ o = 61)) M M4 := (cX.wk (fun o q => Or.inl q)).tr (cM.wk (fun o q => Or.inr q))
  refine ⟨nI n, M2, M4, ?_, ?_, ?_⟩
  · unfold F_X7_book
    rw [x_isSheet, if_pos ha, Option.bind_some, if_neg (by decide), ix_n hs (by decide), x_missing, c1, if_neg hz, Option.bind_some, if_pos rfl, x_has hx hN, if_pos hb, Option.bind_some, if_neg (by decide), a1, Option.bind_some]
    exact d1
  · unfold F_X8_book
    rw [m_badS hs, (cX 59 (by omega)).1, if_neg hz, Option.bind_some, if_pos rfl, m_isOne hm2 hN, if_pos hb, Option.bind_some, if_neg (by decide), f1, Option.bind_some]
    exact g1
  · refine h.she hs (cc.wk (fun o q => by unfold vlC hdC; omega)) hg (hx.ch cc (fun o q1 q2 => by omega)) (hm2.cp (fun k hk => by rw [g4 k hk, f2 k hk])) (fun t _ => (cc 59 (by omega)).1 t) (fun t _ => (cc 60 (by omega)).1 t) (fun t k ht hk => ?_) ⟨?_, ?_, ⟨n, c3, ?_, ?_⟩, fun k hk => ?_⟩
    · rw [g2, if_neg (by omega), (f3 61 (by omega)).2, (cX 61 (by omega)).2]
    · rw [(cc (41 + 2 * s) (by omega)).1, (cc 59 (by omega)).1]; exact c1
    · rw [(cc 59 (by omega)).1]; exact c2
    · rw [(cc (41 + 2 * s) (by omega)).1]; exact c4
    · rw [(cc 60 (by omega)).1]; exact c5
    · rw [g2, (cM (41 + 2 * s + 1) (by omega)).2, d2]
      by_cases q : k < n
      · rw [if_pos (by omega), if_pos (by omega), show 40 * s + k - 40 * s = k by omega]
      · rw [if_neg (by omega), if_neg (by omega), (a3 (41 + 2 * s + 1) (by omega)).2, (f3 61 (by omega)).2, (cX 61 (by omega)).2]
        exact c6 k hk
def ft (c : Nat → Bool) : Nat → Nat → Bool
  | 0, _ => true
  | k + 1, i => c i && ft c k (i + 1)
theorem x_fit53 {a b : Int32} {e L : Nat} (hL : L ≤ 8) {M : Mem} {c : Nat → Bool} (hc : ∀ j, j < L → (c j = true ↔ lg_cmp (m_J M (e + 1) j) ((m_I M 27 j).toInt64) = 0)) : ∀ k m i, i + k = L → k < m → F_X7_fitsWith_53 a b e m (nI L) (nI i) M = some (if ft c k i then 1 else 0, M) := by
  intro k
  induction k with
  | zero =>
    intro m i h1 h2
    obtain ⟨m, rfl⟩ : ∃ q, m = q + 1 := ⟨m - 1, by omega⟩
    have hi : i = L := by omega
    subst hi
    rw [F_X7_fitsWith_53, lp_y]
    rfl
  | succ k ih =>
    intro m i h1 h2
    obtain ⟨m, rfl⟩ : ∃ q, m = q + 1 := ⟨m - 1, by omega⟩
    rw [F_X7_fitsWith_53, lp_x (by omega) (by omega), ix_n (by omega) (by decide), n_8 (by omega), ft]
    cases hq : c i with
    | true =>
      rw [if_pos ((hc i (by omega)).mp hq), nI_1, ih m (i + 1) (by omega) (by omega), Bool.true_and]
    | false =>
      rw [if_neg (fun z => by rw [(hc i (by omega)).mpr z] at hq; cases hq), Bool.false_and]
      rfl
theorem zb_1 {α : Type} (k : Option α) : zb (1 : Int32) k = k := if_pos (Or.inr rfl)
theorem zb_0 {α : Type} (k : Option α) : zb (0 : Int32) k = k := if_pos (Or.inl rfl)
theorem m_so0 {s N n : Nat} (hs : s < 4) {i m : Nat} {M : Mem} (hN : m_I M 50 2 = nI N) (hn : m_I M 60 s = nI n) : ∃ M1, F_X8_isSo_17 (nI s) (m + 1) (0 : Int32) (nI i) M = some (0, M1) ∧ (∀ k, k < 51 → m_I M1 50 k = m_I M 56 k) ∧ Ch (fun o => o = 50) M M1 := by
  obtain ⟨M1, a1, a2, a3⟩ := m_back (M := M) (a := 56) (by decide)
  refine ⟨M1, ?_, a2, a3⟩
  rw [F_X8_isSo_17, n51_2, hN, ix_n hs (by decide), hn, a1, Option.bind_some, zb_0, if_pos (show (0 : Int32) = 0 from rfl), ite_self, ite_self]
theorem m_so17 {s N n L : Nat} (hs : s < 4) (hL : L ≤ 8) (hLN : (L = N ∧ L ≤ n) ∨ (L = n ∧ L ≤ N)) (hn40 : n ≤ 40) (hN8 : N ≤ 8) {M : Mem} (hN : m_I M 50 2 = nI N) (hn : m_I M 60 s = nI n) {c : Nat → Bool} (hc : ∀ j, j < L → (c j = true ↔ lg_cmp (m_J M 61 (40 * s + j)) ((m_I M 50 (3 + 6 * j + 2)).toInt64) = 0)) : ∀ k m i, i + k = L → k + 1 < m → ∃ M1, F_X8_isSo_17 (nI s) m (1 : Int32) (nI i) M = some (if ft c k i then 1 else 0, M1) ∧ (∀ k, k < 51 → m_I M1 50 k = m_I M 56 k) ∧ Ch (fun o => o = 50) M M1 := by
  intro k
  induction k with
  | zero =>
    intro m i h1 h2
    obtain ⟨m, rfl⟩ : ∃ q, m = q + 1 := ⟨m - 1, by omega⟩
    have hi : i = L := by omega
    subst hi
    obtain ⟨M1, a1, a2, a3⟩ := m_back (M := M) (a := 56) (by decide)
    refine ⟨M1, ?_, a2, a3⟩
    rw [F_X8_isSo_17, n51_2, hN, ix_n hs (by decide), hn, a1, Option.bind_some, zb_1]
    rcases hLN with ⟨e, -⟩ | ⟨e, -⟩
    · rw [e, lp_y]; rfl
    · rw [e, lp_y, ite_self]; rfl
  | succ k ih =>
    intro m i h1 h2
    obtain ⟨m, rfl⟩ : ∃ q, m = q + 1 := ⟨m - 1, by omega⟩
    obtain ⟨m, rfl⟩ : ∃ q, m = q + 1 := ⟨m - 1, by omega⟩
    rw [F_X8_isSo_17, n51_2, hN, lp_x (by omega) (by omega), ix_n hs (by decide), hn, lp_x (by omega) (by omega), if_neg one0.mp, nI_40, ix_n (by omega) (by decide), its_2 (by omega), Option.bind_some, ft]
    cases hq : c i with
    | true =>
      rw [if_pos ((hc i (by omega)).mp hq), nI_1, Bool.true_and]
      exact ih (m + 1) (i + 1) (by omega) (by omega)
    | false =>
      rw [if_neg (fun z => by rw [(hc i (by omega)).mpr z] at hq; cases hq), nI_1, Bool.false_and]
      exact m_so0 hs hN hn
theorem sw_sw (U : Nat → Nat → Int32) (p q : Nat) : sw (sw U p q) p q = U := by
  funext w b
  by_cases hw : w = 5
  · subst hw
    rw [sw_t, sw_t]
    congr 1
    unfold tr
    by_cases h1 : b = q
    · rw [if_pos h1]
      by_cases h2 : p = q
      · rw [if_pos h2]; omega
      · rw [if_neg h2, if_pos rfl]; omega
    · rw [if_neg h1]
      by_cases h2 : b = p
      · rw [if_pos h2, if_pos rfl, h2]
      · rw [if_neg h2, if_neg h1, if_neg h2]
  · rw [sw_o hw, sw_o hw]
/-- does p fit with slip q? -/
def fc (N : Nat) (U : Nat → Nat → Int32) (V : Nat → Int64) (p q : Nat) : Nat → Bool := fun j => decide (lg_cmp (V j) ((fr N (sw U p (ih N U q)) 2 j).toInt64) = 0)
def cn (N L : Nat) (U : Nat → Nat → Int32) (V : Nat → Int64) (p : Nat) : Nat → Nat → Int32 → Int32
  | 0, _, x => x
  | k + 1, q, x => cn N L U V p k (q + 1) (if al U p q ∧ ft (fc N U V p q) L 0 = true then x + 1 else x)
theorem x_fits {M : Mem} {f z : Int32} {N n L s p q : Nat} {U : Nat → Nat → Int32} {V : Nat → Int64} (hg : GV f N U) (hx : VX M 2 f z N U) (hs : s < 4) (hn40 : n ≤ 40) (hn : m_I M (41 + 2 * s) 2 = nI n) (hV : ∀ k, k < 40 → m_J M (41 + 2 * s + 1) k = V k) (hL : L = min N n) (hp : p < N) (hq : q < N) : ∃ M1, F_X7_fitsWith (nI p) (nI q) (41 + 2 * s) M = some (if ft (fc N U V p q) L 0 then 1 else 0, M1) ∧ Ch (fun o => 24 ≤ o ∧ o ≤ 24 + 10) M M1 := by
  have hN := hg.1
  obtain ⟨i1, i2, i3⟩ := ih_in hg.2.2.2 hN hq
  obtain ⟨M1, a1, a2, a3⟩ := x_become (a := 24) hx (by omega)
  have a4 := x_holder a2 hN i1 i3
  obtain ⟨M2, b1, b2, b3⟩ := x_exchange a2 (p := p) (q := ih N U q) (by omega) (by omega)
  obtain ⟨M3, c1, c2, c3⟩ := x_passFriday b2 (GV_sw hg hp i1)
  have cc : Ch (fun o => 24 ≤ o ∧ o ≤ 24 + 10) M M3 := ((a3.wk (fun o q => by omega)).tr (b3.wk (fun o q => by omega))).tr c3
  have e3 : (if m_I M3 24 2 < m_I M3 (41 + 2 * s) 2 then m_I M3 24 2 else m_I M3 (41 + 2 * s) 2) = nI L := by
    rw [(cc (41 + 2 * s) (by omega)).1, hn, c2.2.2.1]
    by_cases h : N < n
    · rw [if_pos (nI_lt h (by omega)), hL, Nat.min_eq_left (by omega)]
    · rw [if_neg (nI_nlt (by omega) (by omega)), hL, Nat.min_eq_right (by omega)]
  have hLN : L ≤ N ∧ L ≤ n := ⟨by rw [hL]; exact Nat.min_le_left _ _, by rw [hL]; exact Nat.min_le_right _ _⟩
  refine ⟨M3, ?_, cc⟩
  unfold F_X7_fitsWith
  rw [a1, Option.bind_some, a4, Option.bind_some, show hd U (nI q) N 0 = ih N U q from rfl, b1, Option.bind_some, c1, Option.bind_some, e3]
  refine x_fit53 (by omega) (fun j hj => ?_) L FU 0 (by omega) (by show L < 1000; omega)
  unfold fc
  rw [decide_eq_true_iff, (cc (41 + 2 * s + 1) (by omega)).2, hV j (by omega), show m_I M3 27 j = _ from c2.u 2 j (by decide) (by omega)]
theorem m_isSo {M : Mem} {f z : Int32} {N n L s : Nat} {U : Nat → Nat → Int32} {V : Nat → Int64} {c : Nat → Bool} (hg : GV f N U) (hm : VM M 50 f z N U) (hs : s < 4) (hn40 : n ≤ 40) (hn : m_I M 60 s = nI n) (hV : ∀ k, k < 40 → m_J M 61 (40 * s + k) = V k) (hL : L = min N n) (hc : ∀ j, c j = decide (lg_cmp (V j) ((fr N U 2 j).toInt64) = 0)) : ∃ M1, F_X8_isSo (nI s) M = some (if ft c L 0 then 1 else 0, M1) ∧ VM M1 50 f z N U ∧ Ch (fun o => o = 50 ∨ (53 ≤ o ∧ o ≤ 56)) M M1 := by
  have hN := hg.1
  obtain ⟨M1, a1, a2, a3⟩ := m_keep (M := M) (a := 56) (by decide)
  obtain ⟨M2, b1, b2, b3⟩ := m_oneFriday (hm.ch a3 (by omega)) hg
  have cc : Ch (fun o => o = 50 ∨ (53 ≤ o ∧ o ≤ 56)) M M2 := (a3.wk (fun o q => by omega)).tr (b3.wk (fun o q => by omega))
  have hLN : L ≤ N ∧ L ≤ n := ⟨by rw [hL]; exact Nat.min_le_left _ _, by rw [hL]; exact Nat.min_le_right _ _⟩
  obtain ⟨M3, c1, c2, c3⟩ := m_so17 (N := N) (n := n) (L := L) (M := M2) (c := c) hs (by omega) (by omega) hn40 hN b2.2.2.1 (by rw [(cc 60 (by omega)).1]; exact hn) (fun j hj => by rw [hc j, decide_eq_true_iff, (cc 61 (by omega)).2, hV j (by omega), b2.u 2 j (by decide) (by omega)]) L FU 0 (by omega) (by show L + 1 < 1000; omega)
  refine ⟨M3, ?_, hm.cp (fun k hk => by rw [c2 k hk, (b3 56 (by omega)).1, a2 k hk]), cc.tr (c3.wk (fun o q => Or.inl q))⟩
  unfold F_X8_isSo
  rw [a1, Option.bind_some, b1, Option.bind_some]
  exact c1
theorem x_read56 {a : Int32} {f z : Int32} {N n L s p : Nat} {U : Nat → Nat → Int32} {V : Nat → Int64} (hg : GV f N U) (hs : s < 4) (hn40 : n ≤ 40) (hL : L = min N n) (hp : p < N) : ∀ k m q x M, q + k = N → k < m → VX M 2 f z N U → m_I M (41 + 2 * s) 2 = nI n → (∀ k, k < 40 → m_J M (41 + 2 * s + 1) k = V k) → ∃ M1, F_X7_read_56 a (nI p) m (41 + 2 * s) x (nI q) M = some (cn N L U V p k q x, M1) ∧ Ch (fun o => 24 ≤ o ∧ o ≤ 24 + 10) M M1 := by
  have hN := hg.1
  intro k
  induction k with
  | zero =>
    intro m q x M h1 h2 hx hn hV
    obtain ⟨m, rfl⟩ : ∃ q, m = q + 1 := ⟨m - 1, by omega⟩
    have hi : q = N := by omega
    subst hi
    exact ⟨M, by rw [F_X7_read_56, hx.2.2.1, lp_y]; rfl, Ch.rf⟩
  | succ k ihh =>
    intro m q x M h1 h2 hx hn hV
    obtain ⟨m, rfl⟩ : ∃ q, m = q + 1 := ⟨m - 1, by omega⟩
    rw [F_X7_read_56, hx.2.2.1, lp_x (by omega) (by omega), x_areAlike hx (by omega) (by omega), Option.bind_some, cn]
    by_cases ha : al U p q
    · rw [if_pos (show al U q p from ha.symm), if_neg one0.mp]
      obtain ⟨M1, b1, b2⟩ := x_fits (V := V) hg hx hs hn40 hn hV hL hp (show q < N by omega)
      obtain ⟨M2, d1, d2⟩ := ihh m (q + 1) (if al U p q ∧ ft (fc N U V p q) L 0 = true then x + 1 else x) M1 (by omega) (by omega) (hx.ch b2 (fun o q1 q2 => by omega)) (by rw [(b2 (41 + 2 * s) (by omega)).1]; exact hn) (fun k hk => by rw [(b2 (41 + 2 * s + 1) (by omega)).2]; exact hV k hk)
      refine ⟨M2, ?_, b2.tr d2⟩
      rw [b1, bn]
      dsimp only
      rw [nI_1]
      by_cases hf : ft (fc N U V p q) L 0 = true
      · have hq : al U p q ∧ ft (fc N U V p q) L 0 = true := ⟨ha, hf⟩
        rw [if_pos hq] at d1 ⊢
        rw [if_pos hf, if_neg one0.mp]
        exact d1
      · have hq : ¬ (al U p q ∧ ft (fc N U V p q) L 0 = true) := fun z => hf z.2
        rw [if_neg hq] at d1 ⊢
        rw [if_neg hf, if_pos rfl]
        exact d1
    · rw [if_neg (show ¬ al U q p from fun z => ha z.symm), if_pos rfl, nI_1, if_neg (fun z => ha z.1)]
      exact ihh m (q + 1) x M (by omega) (by omega) hx hn hV
theorem m_read37 {f z : Int32} {N n L s p : Nat} {U : Nat → Nat → Int32} {V : Nat → Int64} (hg : GV f N U) (hs : s < 4) (hn40 : n ≤ 40) (hL : L = min N n) (hp : p < N) : ∀ k m q x M, q + k = N → k < m → VM M 50 f z N U → m_I M 60 s = nI n → (∀ k, k < 40 → m_J M 61 (40 * s + k) = V k) → ∃ M1, F_X8_read_37 (nI s) (nI p) m x (nI q) M = some (cn N L U V p k q x, M1) ∧ VM M1 50 f z N U ∧ Ch (fun o => o = 50 ∨ (53 ≤ o ∧ o ≤ 56)) M M1 := by
  have hN := hg.1
  intro k
  induction k with
  | zero =>
    intro m q x M h1 h2 hm hn hV
    obtain ⟨m, rfl⟩ : ∃ q, m = q + 1 := ⟨m - 1, by omega⟩
    have hi : q = N := by omega
    subst hi
    exact ⟨M, by rw [F_X8_read_37, n51_2, hm.2.2.1, lp_y]; rfl, hm, Ch.rf⟩
  | succ k ihh =>
    intro m q x M h1 h2 hm hn hV
    obtain ⟨m, rfl⟩ : ∃ q, m = q + 1 := ⟨m - 1, by omega⟩
    rw [F_X8_read_37, n51_2, hm.2.2.1, lp_x (by omega) (by omega), m_areAlike hm (by omega) (by omega), Option.bind_some, cn]
    by_cases ha : al U p q
    · rw [if_pos ha, if_neg one0.mp]
      obtain ⟨i1, i2, i3⟩ := ih_in hg.2.2.2 hN (show q < N by omega)
      have w1 := m_whoHas hm hN i1 i3
      obtain ⟨M1, b1, b2, b3⟩ := m_swaps hm (p := p) (q := ih N U q) (by omega) (by omega)
      obtain ⟨M2, d1, d2, d3⟩ := m_isSo (V := V) (c := fc N U V p q) (GV_sw hg hp i1) b2 hs hn40 (by rw [(b3 60 (by omega)).1]; exact hn) (fun k hk => by rw [(b3 61 (by omega)).2]; exact hV k hk) hL (fun j => rfl)
      obtain ⟨M3, e1, e2, e3⟩ := m_swaps d2 (p := p) (q := ih N U q) (by omega) (by omega)
      rw [sw_sw] at e2
      have cc : Ch (fun o => o = 50 ∨ (53 ≤ o ∧ o ≤ 56)) M M3 := ((b3.wk (fun o q => Or.inl q)).tr d3).tr (e3.wk (fun o q => Or.inl q))
      obtain ⟨M4, g1, g2, g3⟩ := ihh m (q + 1) (if al U p q ∧ ft (fc N U V p q) L 0 = true then x + 1 else x) M3 (by omega) (by omega) e2 (by rw [(cc 60 (by omega)).1]; exact hn) (fun k hk => by rw [(cc 61 (by omega)).2]; exact hV k hk)
      refine ⟨M4, ?_, g2, cc.tr g3⟩
      rw [w1, Option.bind_some, show F_X8_swaps (nI p) (nI (hd U (nI q) N 0)) M = some M1 from b1, Option.bind_some, d1, bn]
      dsimp only
      rw [nI_1, show F_X8_swaps (nI p) (nI (hd U (nI q) N 0)) M2 = some M3 from e1, Option.bind_some, Option.bind_some, ad0]
      by_cases hf : ft (fc N U V p q) L 0 = true
      · have hq : al U p q ∧ ft (fc N U V p q) L 0 = true := ⟨ha, hf⟩
        rw [if_pos hq] at g1 ⊢
        rw [if_pos hf, if_neg one0.mp]
        exact g1
      · have hq : ¬ (al U p q ∧ ft (fc N U V p q) L 0 = true) := fun z => hf z.2
        rw [if_neg hq] at g1 ⊢
        rw [if_neg hf, if_pos rfl]
        exact g1
    · rw [if_neg ha, if_pos rfl, nI_1, if_neg (fun z => ha z.1)]
      exact ihh m (q + 1) x M (by omega) (by omega) hm hn hV
theorem op_read {M : Mem} (h : RR M) (a b : Int32) : OpI (F_X7_read a b) (F_X8_read a b) M := by
  obtain ⟨⟨f, z, N, U, hg, hx, hm⟩, -, -, -, h5⟩ := id h
  have hN := hg.1
  by_cases ha : 0 ≤ a.toInt ∧ a.toInt < 4
  rotate_left 1
  · exact op_f h (k := 0) (by decide) (by unfold F_X7_read; rw [x_isSheet, if_neg ha, Option.bind_some, if_pos rfl, bn_eta]; rfl) (fun M1 hc => by unfold F_X8_read; rw [m_badN ha, Option.bind_some, if_neg (by decide), bn_eta]; rfl)
  obtain ⟨s, hs, rfl⟩ := t_of (n := 4) ha.1 ha.2
  obtain ⟨c1, c2, ⟨n, c3, c4, c5⟩, c6⟩ := h5 s hs
  by_cases hz : m_I M 59 s = 0
  · refine op_f h (k := 5) (by decide) ?_ (fun M1 hc => ?_)
    · unfold F_X7_read
      rw [x_isSheet, if_pos ha, Option.bind_some, if_neg (by decide), ix_n hs (by decide), x_missing, c1, if_pos hz, Option.bind_some, if_neg (by decide), bn_eta]
      rfl
    · unfold F_X8_read
      rw [m_badS hs, (hc 59 (by omega)).1, if_pos hz, Option.bind_some, if_neg (by decide), bn_eta]
      rfl
  by_cases hb : 0 ≤ b.toInt ∧ b.toInt < N
  rotate_left 1
  · refine op_f h (k := 0) (by decide) ?_ (fun M1 hc => ?_)
    · unfold F_X7_read
      rw [x_isSheet, if_pos ha, Option.bind_some, if_neg (by decide), ix_n hs (by decide), x_missing, c1, if_neg hz, Option.bind_some, if_pos rfl, x_has hx hN, if_neg hb, Option.bind_some, if_pos rfl, bn_eta]
      rfl
    · unfold F_X8_read
      rw [m_badS hs, (hc 59 (by omega)).1, if_neg hz, Option.bind_some, if_pos rfl, no_one hm hN hc, if_neg hb, Option.bind_some, if_pos rfl, bn_eta]
      rfl
  obtain ⟨p, hp, rfl⟩ := t_of hb.1 hb.2
  obtain ⟨M1, a1, a2⟩ := x_read56 (a := nI s) (V := fun k => m_J M 61 (40 * s + k)) hg hs c3 rfl hp N FU 0 0 M (by omega) (by show N < 1000; omega) hx c4 (fun k hk => c6 k hk)
  have hm1 := hm.ch a2 (by omega)
  obtain ⟨M2, b1, b2, b3⟩ := m_read37 (V := fun k => m_J M 61 (40 * s + k)) hg hs c3 rfl hp N FU 0 0 M1 (by omega) (by show N < 1000; omega) hm1 (by rw [(a2 60 (by omega)).1]; exact c5) (fun k hk => by rw [(a2 61 (by omega)).2])
  refine op_v h hg (r := cn N (min N n) U (fun k => m_J M 61 (40 * s + k)) p N 0 0) (M1 := M1) ?_ (hx.ch a2 (fun o q1 q2 => by omega)) (a2.wk (fun o q => by unfold vlC hdC; omega)) ⟨M2, ?_, b2, b3.wk (fun o q => by omega)⟩
  · unfold F_X7_read
    rw [x_isSheet, if_pos ha, Option.bind_some, if_neg (by decide), ix_n hs (by decide), x_missing, c1, if_neg hz, Option.bind_some, if_pos rfl, x_has hx hN, if_pos hb, Option.bind_some, if_neg (by decide)]
    exact a1
  · unfold F_X8_read
    rw [m_badS hs, (a2 59 (by omega)).1, if_neg hz, Option.bind_some, if_pos rfl, m_isOne hm1 hN, if_pos hb, Option.bind_some, if_neg (by decide)]
    exact b1
