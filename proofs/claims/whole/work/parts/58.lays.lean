/-! ===== LAYING A LOT ===== -/
theorem lg_n (x : Int64) : (lg_cmp x 0 < 0) ↔ x < 0 := by
  unfold lg_cmp
  have e : (-1 : Int32) < 0 := by decide
  have f : ¬ (1 : Int32) < 0 := by decide
  have g : ¬ (0 : Int32) < 0 := by decide
  have hh : (0 : Int64) < x ↔ (0 : Int64).toInt < x.toInt := Int64.lt_iff_toInt_lt
  have hk : x < (0 : Int64) ↔ x.toInt < (0 : Int64).toInt := Int64.lt_iff_toInt_lt
  have hi : x.toInt = (0 : Int64).toInt ↔ x = 0 := Int64.toInt_inj
  by_cases h1 : x > 0
  · rw [if_pos h1]
    exact ⟨fun z => absurd z f, fun z => by have h1' := hh.mp h1; have z' := hk.mp z; omega⟩
  · rw [if_neg h1]
    by_cases h2 : x = 0
    · rw [if_pos h2]
      exact ⟨fun z => absurd z g, fun z => by have z' := hk.mp z; have := hi.mpr h2; omega⟩
    · rw [if_neg h2]
      refine ⟨fun _ => hk.mpr ?_, fun _ => e⟩
      have : ¬ (0 : Int64).toInt < x.toInt := fun z => h1 (hh.mpr z)
      have : ¬ x.toInt = (0 : Int64).toInt := fun z => h2 (hi.mp z)
      omega
theorem lg_g (x y : Int64) : (0 ≤ lg_cmp x y) ↔ y ≤ x := by
  unfold lg_cmp
  have e : ¬ (0 : Int32) ≤ -1 := by decide
  have f : (0 : Int32) ≤ 1 := by decide
  have g : (0 : Int32) ≤ 0 := by decide
  have hh : y < x ↔ y.toInt < x.toInt := Int64.lt_iff_toInt_lt
  have hk : y ≤ x ↔ y.toInt ≤ x.toInt := Int64.le_iff_toInt_le
  have hi : x.toInt = y.toInt ↔ x = y := Int64.toInt_inj
  by_cases h1 : x > y
  · rw [if_pos h1]
    exact ⟨fun _ => hk.mpr (by have := hh.mp h1; omega), fun _ => f⟩
  · rw [if_neg h1]
    by_cases h2 : x = y
    · rw [if_pos h2]
      exact ⟨fun _ => hk.mpr (by have := hi.mpr h2; omega), fun _ => g⟩
    · rw [if_neg h2]
      refine ⟨fun z => absurd z e, fun z => ?_⟩
      have := hk.mp z
      have : ¬ y.toInt < x.toInt := fun z => h1 (hh.mpr z)
      have : ¬ x.toInt = y.toInt := fun z => h2 (hi.mp z)
      omega
def vn (V : Nat → Int64) (i : Nat) : Nat := ((V i).toInt32).toNatClampNeg
theorem vn_of {V : Nat → Int64} {N i : Nat} (hN : N ≤ 8) : (¬ (lg_cmp (V i) 0 < 0) ∧ ¬ (0 ≤ lg_cmp (V i) ((nI N).toInt64))) ↔ (V i = lN (vn V i) ∧ vn V i < N) := by
  rw [lg_n, lg_g, nI_l (by omega)]
  constructor
  · rintro ⟨h1, h2⟩
    obtain ⟨k, hk, e⟩ := pk_lOf h1
    rw [e, pk_lLE (by omega) hk] at h2
    have : vn V i = k := by
      unfold vn
      rw [e, lN_i, nI_clamp (by omega)]
    rw [this]
    exact ⟨e, by omega⟩
  · rintro ⟨h1, h2⟩
    rw [h1]
    refine ⟨fun z => ?_, fun z => ?_⟩
    · have := Int64.lt_iff_toInt_lt.mp z
      rw [lN_toInt (by omega), show (0 : Int64).toInt = 0 by decide] at this
      omega
    · have := (pk_lLE (by omega) (by omega)).mp z
      omega
def gd (N : Nat) (U : Nat → Nat → Int32) (V : Nat → Int64) : Nat → Nat → Nat → Bool
  | 0, _, _ => true
  | k + 1, i, s => if V i = lN (vn V i) ∧ vn V i < N then (if al U i (vn V i) then (if s.testBit (vn V i) then false else gd N U V k (i + 1) (s ||| 2 ^ vn V i)) else false) else false
theorem pc_or : ∀ s, s < 256 → ∀ v, v < 8 → pc (s ||| 2 ^ v) 8 = if s.testBit v then pc s 8 else pc s 8 + 1 := by decide +kernel
theorem tb_e : ∀ s, s < 256 → ∀ v, v < 8 → (((nI s >>> (nI v &&& 31)) &&& (1 : Int32)) = 0 ↔ s.testBit v = false) := by decide +kernel
theorem pc_le : ∀ s, s < 256 → pc s 8 ≤ 8 := by decide +kernel
theorem x_rl {M : Mem} {f z : Int32} {N c : Nat} {U : Nat → Nat → Int32} {V : Nat → Int64} (hx : VX M 2 f z N U) (hN : N ≤ 8) (hV : ∀ k, k < 40 → m_J M (c + 1) k = V k) : ∀ k m i s, i + k = N → k < m → s < 256 → (pc s 8 = i → F_X7_isRightLot_4 c M m (nI s) (nI i) = some (if gd N U V k i s then 1 else 0)) ∧ (pc s 8 < i → F_X7_isRightLot_4 c M m (nI s) (nI i) = some 0) := by
  intro k
  induction k with
  | zero =>
    intro m i s h1 h2 h3
    obtain ⟨m, rfl⟩ : ∃ q, m = q + 1 := ⟨m - 1, by omega⟩
    have hi : i = N := by omega
    subst hi
    have hp := pc_le s h3
    rw [F_X7_isRightLot_4, hx.2.2.1, lp_y, x_bc h3, Option.bind_some]
    refine ⟨fun e => ?_, fun e => ?_⟩
    · rw [e, if_pos rfl]; rfl
    · rw [if_neg (fun z => by have := (nI_eq (by omega) (by omega)).mp z; omega)]
  | succ k ih =>
    intro m i s h1 h2 h3
    obtain ⟨m, rfl⟩ : ∃ q, m = q + 1 := ⟨m - 1, by omega⟩
    rw [F_X7_isRightLot_4, hx.2.2.1, lp_x (by omega) (by omega), ix_n (by omega) (by decide), hV i (by omega), gd]
    by_cases hr : V i = lN (vn V i) ∧ vn V i < N
    · obtain ⟨r1, r2⟩ := (vn_of hN).mpr hr
      have e : (V i).toInt32 = nI (vn V i) := by rw [hr.1, lN_i]
      rw [if_neg r1, if_neg r2, if_pos hr, e, x_areAlike hx (by omega) (by omega), Option.bind_some]
      by_cases ha : al U i (vn V i)
      · have hs2 : s ||| 2 ^ vn V i < 256 := or_lt (n := 8) h3 (p_lt (by omega))
        obtain ⟨j1, j2⟩ := ih m (i + 1) (s ||| 2 ^ vn V i) (by omega) (by omega) hs2
        have hp := pc_or s h3 (vn V i) (by omega)
        rw [if_pos ha, if_neg one0.mp, if_pos ha, b_2 _ (by omega), nI_or, nI_1]
        cases ht : s.testBit (vn V i) with
        | true =>
          rw [ht, if_pos (show true = true from rfl)] at hp
          exact ⟨fun e => by rw [j2 (by omega), if_pos (show true = true from rfl)]; rfl, fun e => j2 (by omega)⟩
        | false =>
          rw [ht, if_neg Bool.false_ne_true] at hp
          exact ⟨fun e => by rw [j1 (by omega), if_neg Bool.false_ne_true], fun e => j2 (by omega)⟩
      · rw [if_neg ha, if_pos rfl, if_neg ha]
        exact ⟨fun _ => rfl, fun _ => rfl⟩
    · rw [if_neg hr]
      by_cases r1 : lg_cmp (V i) 0 < 0
      · rw [if_pos r1]
        exact ⟨fun _ => rfl, fun _ => rfl⟩
      · rw [if_neg r1]
        by_cases r2 : 0 ≤ lg_cmp (V i) ((nI N).toInt64)
        · rw [if_pos r2]
          exact ⟨fun _ => rfl, fun _ => rfl⟩
        · exact absurd ((vn_of hN).mp ⟨r1, r2⟩) hr
theorem m_l0 {t m : Nat} {N i s : Int32} {M : Mem} : F_X8_lays_50 (nI t) (m + 1) N s (0 : Int32) i M = F_X8_finds (-1000000005 : Int32) M := by
  rw [F_X8_lays_50, if_pos rfl, if_pos (show (0 : Int32) = 0 from rfl), ite_self, bn_eta]
theorem m_l50 {M : Mem} {f z : Int32} {N t : Nat} {U : Nat → Nat → Int32} {V : Nat → Int64} (hm : VM M 50 f z N U) (ht : t < 4) (hN : N ≤ 8) (hV : ∀ k, k < 40 → m_J M 61 (40 * t + k) = V k) : ∀ k m i s, i + k = N → k + 1 < m → s < 256 → F_X8_lays_50 (nI t) m (nI N) (nI s) (1 : Int32) (nI i) M = if gd N U V k i s then F_X8_lays_171 (nI t) FU (nI N) (0 : Int32) M else F_X8_finds (-1000000005 : Int32) M := by
  intro k
  induction k with
  | zero =>
    intro m i s h1 h2 h3
    obtain ⟨m, rfl⟩ : ∃ q, m = q + 1 := ⟨m - 1, by omega⟩
    have hi : i = N := by omega
    subst hi
    rw [F_X8_lays_50, lp_y, if_neg one0.mp, gd, if_pos (show true = true from rfl)]
  | succ k ih =>
    intro m i s h1 h2 h3
    obtain ⟨m, rfl⟩ : ∃ q, m = q + 1 := ⟨m - 1, by omega⟩
    obtain ⟨m, rfl⟩ : ∃ q, m = q + 1 := ⟨m - 1, by omega⟩
    have bad : ∀ x, F_X8_lays_130 (nI t) (F_X8_lays_50 (nI t) (m + 1)) (nI N) (nI s) (nI i) x (0 : Int32) M = F_X8_finds (-1000000005 : Int32) M := fun x => by
      unfold F_X8_lays_130
      rw [if_pos rfl, m_l0]
    have badn : F_X8_lays_97 (nI t) (F_X8_lays_50 (nI t) (m + 1)) (nI N) (nI s) (nI i) (-1 : Int32) M = F_X8_finds (-1000000005 : Int32) M := by
      unfold F_X8_lays_97
      rw [if_pos (by decide), bad]
    rw [F_X8_lays_50, lp_x (by omega) (by omega), if_neg one0.mp, nI_40, ix_n (by omega) (by decide), hV i (by omega), gd]
    by_cases hr : V i = lN (vn V i) ∧ vn V i < N
    · obtain ⟨r1, r2⟩ := (vn_of hN).mpr hr
      have e : (V i).toInt32 = nI (vn V i) := by rw [hr.1, lN_i]
      rw [if_neg r1, if_neg r2, if_pos hr, e]
      unfold F_X8_lays_97
      rw [if_neg (nI_pos (by omega)), m_areAlike hm (by omega) (by omega), Option.bind_some]
      have hs2 : s ||| 2 ^ vn V i < 256 := or_lt (n := 8) h3 (p_lt (by omega))
      have htb := tb_e s h3 (vn V i) (by omega)
      cases hb : s.testBit (vn V i) with
      | true =>
        rw [if_neg (fun q => by rw [htb.mp q] at hb; cases hb), bad]
        by_cases ha : al U i (vn V i)
        · rw [if_pos ha, if_pos (show true = true from rfl), if_neg Bool.false_ne_true]
        · rw [if_neg ha, if_neg Bool.false_ne_true]
      | false =>
        rw [if_pos (htb.mpr hb)]
        by_cases ha : al U i (vn V i)
        · rw [if_pos ha, if_neg one0.mp, if_pos ha, if_neg Bool.false_ne_true]
          unfold F_X8_lays_130
          rw [if_neg one0.mp, b_2 _ (by omega), nI_or, nI_1]
          exact ih (m + 1) (i + 1) _ (by omega) (by omega) hs2
        · rw [if_neg ha, if_pos rfl, if_neg ha, bad, if_neg Bool.false_ne_true]
    · rw [if_neg hr, badn, if_neg Bool.false_ne_true]
      by_cases r1 : lg_cmp (V i) 0 < 0
      · rw [if_pos r1]
      · rw [if_neg r1]
        by_cases r2 : 0 ≤ lg_cmp (V i) ((nI N).toInt64)
        · rw [if_pos r2]
        · exact absurd ((vn_of hN).mp ⟨r1, r2⟩) hr
theorem gd_pm {N : Nat} {U : Nat → Nat → Int32} {V : Nat → Int64} : ∀ k i s, i + k = N → gd N U V k i s = true → (∀ j, j < i → (V j = lN (vn V j) ∧ vn V j < N) ∧ s.testBit (vn V j) = true) → (∀ a b, a < i → b < i → vn V a = vn V b → a = b) → (∀ j, j < N → V j = lN (vn V j) ∧ vn V j < N) ∧ ∀ a b, a < N → b < N → vn V a = vn V b → a = b := by
  intro k
  induction k with
  | zero =>
    intro i s h1 h2 h3 h4
    have hi : i = N := by omega
    subst hi
    exact ⟨fun j hj => (h3 j hj).1, h4⟩
  | succ k ih =>
    intro i s h1 h2 h3 h4
    rw [gd] at h2
    by_cases hr : V i = lN (vn V i) ∧ vn V i < N
    · rw [if_pos hr] at h2
      by_cases ha : al U i (vn V i)
      · rw [if_pos ha] at h2
        cases hb : s.testBit (vn V i) with
        | true =>
          rw [hb, if_pos (show true = true from rfl)] at h2
          cases h2
        | false =>
          rw [hb, if_neg Bool.false_ne_true] at h2
          refine ih (i + 1) _ (by omega) h2 (fun j hj => ?_) (fun a b ha hb2 e => ?_)
          · rw [Nat.testBit_or]
            by_cases ej : j = i
            · subst ej
              exact ⟨hr, by rw [Nat.testBit_two_pow_self, Bool.or_true]⟩
            · have q := h3 j (by omega)
              exact ⟨q.1, by rw [q.2, Bool.true_or]⟩
          · by_cases ea : a = i
            · by_cases eb : b = i
              · omega
              · have q := (h3 b (by omega)).2
                rw [← e, ea, hb] at q
                cases q
            · by_cases eb : b = i
              · have q := (h3 a (by omega)).2
                rw [e, eb, hb] at q
                cases q
              · exact h4 a b (by omega) (by omega) e
      · rw [if_neg ha] at h2
        cases h2
    · rw [if_neg hr] at h2
      cases h2
def ly (V : Nat → Int64) (N : Nat) (U : Nat → Nat → Int32) : Nat → Nat → Int32 := fun w p => if w = 5 ∧ p < N then (V p).toInt32 else U w p
theorem ly_s (V : Nat → Int64) (i : Nat) (U : Nat → Nat → Int32) : u2 (ly V i U) 5 i ((V i).toInt32) = ly V (i + 1) U := by
  funext w p
  unfold u2 ly
  by_cases h : w = 5 ∧ p = i
  · rw [if_pos h, if_pos (by omega), h.2]
  · rw [if_neg h]
    by_cases h2 : w = 5 ∧ p < i
    · rw [if_pos h2, if_pos (by omega)]
    · rw [if_neg h2, if_neg (by omega)]
theorem ly_0 (V : Nat → Int64) (U : Nat → Nat → Int32) : ly V 0 U = U := by
  funext w p
  unfold ly
  rw [if_neg (by omega)]
theorem x_l70 {a : Int32} {f z : Int32} {N c : Nat} {U : Nat → Nat → Int32} {V : Nat → Int64} (hN : N ≤ 8) (hc : 41 ≤ c) : ∀ k m i M, i + k = N → k < m → VX M 2 f z N (ly V i U) → (∀ k, k < 40 → m_J M (c + 1) k = V k) → ∃ M1, F_X7_lays_70 a m c (nI i) M = some (nI (pc (st N (fun i => ly V N U 5 i = nI i)) 8), M1) ∧ VX M1 2 f z N (ly V N U) ∧ Ch (fun o => o = 8) M M1 := by
  intro k
  induction k with
  | zero =>
    intro m i M h1 h2 hx hV
    obtain ⟨m, rfl⟩ : ∃ q, m = q + 1 := ⟨m - 1, by omega⟩
    have hi : i = N := by omega
    subst hi
    exact ⟨M, by rw [F_X7_lays_70, hx.2.2.1, lp_y, x_ownCount hx hN, Option.bind_some], hx, Ch.rf⟩
  | succ k ih =>
    intro m i M h1 h2 hx hV
    obtain ⟨m, rfl⟩ : ∃ q, m = q + 1 := ⟨m - 1, by omega⟩
    have hx2 := hx.w (w := 5) (p := i) (by decide) ((V i).toInt32)
    rw [ly_s] at hx2
    have c1 : Ch (fun o => o = 8) M (w_I M (2 + (1 + 5)) i ((V i).toInt32)) := Ch.w rfl
    obtain ⟨M1, b1, b2, b3⟩ := ih m (i + 1) _ (by omega) (by omega) hx2 (fun k hk => by rw [(c1 (c + 1) (by omega)).2]; exact hV k hk)
    refine ⟨M1, ?_, b2, c1.tr b3⟩
    rw [F_X7_lays_70, hx.2.2.1, lp_x (by omega) (by omega), ix_n (by omega) (by decide), n_8 (by omega), hV i (by omega), pin, nI_1]
    exact b1
theorem m_l171 {f z : Int32} {N t : Nat} {U : Nat → Nat → Int32} {V : Nat → Int64} (ht : t < 4) (hN : N ≤ 8) : ∀ k m i M, i + k = N → k < m → VM M 50 f z N (ly V i U) → (∀ k, k < 40 → m_J M 61 (40 * t + k) = V k) → ∃ M1, F_X8_lays_171 (nI t) m (nI N) (nI i) M = some (nI (pc (st N (fun i => ly V N U 5 i = nI i)) 8), M1) ∧ VM M1 50 f z N (ly V N U) ∧ Ch (fun o => o = 50) M M1 := by
  intro k
  induction k with
  | zero =>
    intro m i M h1 h2 hm hV
    obtain ⟨m, rfl⟩ : ∃ q, m = q + 1 := ⟨m - 1, by omega⟩
    have hi : i = N := by omega
    subst hi
    obtain ⟨q1, q2⟩ := m_ownSet hm hN
    exact ⟨M, by rw [F_X8_lays_171, lp_y, q1, Option.bind_some, m_bits q2, Option.bind_some], hm, Ch.rf⟩
  | succ k ih =>
    intro m i M h1 h2 hm hV
    obtain ⟨m, rfl⟩ : ∃ q, m = q + 1 := ⟨m - 1, by omega⟩
    have hm2 := hm.w (w := 5) (p := i) (by decide) ((V i).toInt32)
    rw [ly_s] at hm2
    have c1 : Ch (fun o => o = 50) M (w_I M 50 (3 + 6 * i + 5) ((V i).toInt32)) := Ch.w rfl
    obtain ⟨M1, b1, b2, b3⟩ := ih m (i + 1) _ (by omega) (by omega) hm2 (fun k hk => by rw [(c1 61 (by omega)).2]; exact hV k hk)
    refine ⟨M1, ?_, b2, c1.tr b3⟩
    rw [F_X8_lays_171, lp_x (by omega) (by omega), nI_40, ix_n (by omega) (by decide), hV i (by omega), puts_5 (by omega), Option.bind_some, nI_1]
    exact b1
theorem op_lays {M : Mem} (h : RR M) (a : Int32) : OpI (F_X7_lays a) (F_X8_lays a) M := by
  obtain ⟨⟨f, z, N, U, hg, hx, hm⟩, -, -, -, h5⟩ := id h
  have hN := hg.1
  by_cases ha : 0 ≤ a.toInt ∧ a.toInt < 4
  rotate_left 1
  · exact op_f h (k := 0) (by decide) (by unfold F_X7_lays; rw [x_isSheet, if_neg ha, Option.bind_some, if_pos rfl, bn_eta]; rfl) (fun M1 hc => by unfold F_X8_lays; rw [m_badN ha, Option.bind_some, if_neg (by decide), bn_eta]; rfl)
  obtain ⟨s, hs, rfl⟩ := t_of (n := 4) ha.1 ha.2
  obtain ⟨c1, c2, ⟨n, c3, c4, c5⟩, c6⟩ := h5 s hs
  by_cases hz : m_I M 59 s = 0
  · refine op_f h (k := 5) (by decide) ?_ (fun M1 hc => ?_)
    · unfold F_X7_lays
      rw [x_isSheet, if_pos ha, Option.bind_some, if_neg (by decide), ix_n hs (by decide), x_missing, c1, if_pos hz, Option.bind_some, if_neg (by decide), bn_eta]
      rfl
    · unfold F_X8_lays
      rw [m_badS hs, (hc 59 (by omega)).1, if_pos hz, Option.bind_some, if_neg (by decide), bn_eta]
      rfl
  by_cases hn : n = N
  rotate_left 1
  · have hne : ¬ nI n = nI N := fun q => hn ((nI_eq (by omega) (by omega)).mp q)
    refine op_f h (k := 6) (by decide) ?_ (fun M1 hc => ?_)
    · unfold F_X7_lays
      rw [x_isSheet, if_pos ha, Option.bind_some, if_neg (by decide), ix_n hs (by decide), x_missing, c1, if_neg hz, Option.bind_some, if_pos rfl, c4, hx.2.2.1, if_neg hne, bn_eta]
      rfl
    · unfold F_X8_lays
      rw [m_badS hs, (hc 59 (by omega)).1, if_neg hz, Option.bind_some, if_pos rfl, n51_2, ix_n hs (by decide), (hc 60 (by omega)).1, c5, (hm.x hc.x1).2.2.1, if_neg hne, bn_eta]
      rfl
  subst hn
  have x1 := (x_rl (V := fun k => m_J M 61 (40 * s + k)) hx hN (fun k hk => c6 k hk) n FU 0 0 (by omega) (by show n < 1000; omega) (by decide)).1 (by decide)
  have X : F_X7_lays (nI s) M = if gd n U (fun k => m_J M 61 (40 * s + k)) n 0 0 then F_X7_lays_70 (nI s) FU (41 + 2 * s) (0 : Int32) M else F_X7_finding (4 : Int32) M := by
    unfold F_X7_lays
    rw [x_isSheet, if_pos ha, Option.bind_some, if_neg (by decide), ix_n hs (by decide), x_missing, c1, if_neg hz, Option.bind_some, if_pos rfl, c4, hx.2.2.1, if_pos rfl]
    unfold F_X7_isRightLot
    rw [show F_X7_isRightLot_4 (41 + 2 * s) M FU (0 : Int32) (0 : Int32) = _ from x1, Option.bind_some]
    cases gd n U (fun k => m_J M 61 (40 * s + k)) n 0 0 with
    | true => rfl
    | false => rw [if_neg Bool.false_ne_true, if_pos rfl, bn_eta, if_neg Bool.false_ne_true]
  have Y : ∀ M1, VM M1 50 f z n U → m_I M1 60 s = nI n → m_I M1 59 s = m_I M 59 s → (∀ k, m_J M1 61 k = m_J M 61 k) → F_X8_lays (nI s) M1 = if gd n U (fun k => m_J M 61 (40 * s + k)) n 0 0 then F_X8_lays_171 (nI s) FU (nI n) (0 : Int32) M1 else F_X8_finds (-1000000005 : Int32) M1 := by
    intro M1 y1 y2 y3 y4
    unfold F_X8_lays
    rw [m_badS hs, y3, if_neg hz, Option.bind_some, if_pos rfl, n51_2, ix_n hs (by decide), y2, y1.2.2.1, if_pos rfl]
    exact m_l50 (V := fun k => m_J M 61 (40 * s + k)) y1 hs hN (fun k hk => y4 _) n FU 0 0 (by omega) (by show n + 1 < 1000; omega) (by decide)
  cases hgd : gd n U (fun k => m_J M 61 (40 * s + k)) n 0 0 with
  | false =>
    rw [hgd, if_neg Bool.false_ne_true] at X
    refine op_f h (k := 4) (by decide) X (fun M1 hc => ?_)
    rw [Y M1 (hm.x hc.x1) (by rw [(hc 60 (by omega)).1]; exact c5) ((hc 59 (by omega)).1 s) (fun k => (hc 61 (by omega)).2 k), hgd, if_neg Bool.false_ne_true]
    rfl
  | true =>
    obtain ⟨g1, g2⟩ := gd_pm n 0 0 (by omega) hgd (fun j hj => by omega) (fun a b q => by omega)
    obtain ⟨M1, a1, a2, a3⟩ := x_l70 (a := nI s) (f := f) (z := z) (U := U) (V := fun k => m_J M 61 (40 * s + k)) hN (show 41 ≤ 41 + 2 * s by omega) n FU 0 M (by omega) (by show n < 1000; omega) (by rw [ly_0]; exact hx) (fun k hk => c6 k hk)
    have hm1 := hm.ch a3 (by omega)
    obtain ⟨M2, b1, b2, b3⟩ := m_l171 (f := f) (z := z) (U := U) (V := fun k => m_J M 61 (40 * s + k)) hs hN n FU 0 M1 (by omega) (by show n < 1000; omega) (by rw [ly_0]; exact hm1) (fun k hk => by rw [(a3 61 (by omega)).2])
    have e5 : ∀ p, p < n → ly (fun k => m_J M 61 (40 * s + k)) n U 5 p = nI (vn (fun k => m_J M 61 (40 * s + k)) p) := fun p hp => by
      unfold ly
      rw [if_pos ⟨rfl, hp⟩]
      exact (congrArg Int64.toInt32 (g1 p hp).1).trans (lN_i _)
    have hp : PM n (ly (fun k => m_J M 61 (40 * s + k)) n U) := by
      refine ⟨fun p hp => ⟨_, (g1 p hp).2, e5 p hp⟩, fun p q hp hq e => ?_⟩
      rw [e5 p hp, e5 q hq] at e
      have w1 := (g1 p hp).2
      have w2 := (g1 q hq).2
      exact g2 p q hp hq ((nI_eq (by omega) (by omega)).mp e)
    refine op_v h (hg.sl (U' := ly (fun k => m_J M 61 (40 * s + k)) n U) (fun w p hw => if_neg (fun q => hw q.1)) hp) (r := nI (pc (st n (fun i => ly (fun k => m_J M 61 (40 * s + k)) n U 5 i = nI i)) 8)) (M1 := M1) ?_ a2 (a3.wk (fun o q => by unfold vlC; omega)) ⟨M2, ?_, b2, b3.wk (fun o q => Or.inl q)⟩
    · rw [X, hgd, if_pos (show true = true from rfl)]
      exact a1
    · rw [Y M1 hm1 (by rw [(a3 60 (by omega)).1]; exact c5) ((a3 59 (by omega)).1 s) (fun k => (a3 61 (by omega)).2 k), hgd, if_pos (show true = true from rfl)]
      exact b1
