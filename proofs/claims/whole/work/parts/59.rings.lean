/-! ===== PAIRS AND RINGS ===== -/
theorem pairs_4 {M : Mem} {f z : Int32} {N : Nat} {U : Nat → Nat → Int32} (hx : VX M 2 f z N U) (hm : VM M 50 f z N U) (hN : N ≤ 8) (hp : PM N U) : ∀ k m m' i x, i + k = N → k < m → k < m' → ∃ r, F_X7_pairs_4 M m x (nI i) = some r ∧ F_X8_pairs_4 M m' x (nI i) = some r := by
  intro k
  induction k with
  | zero =>
    intro m m' i x h1 h2 h3
    obtain ⟨m, rfl⟩ : ∃ q, m = q + 1 := ⟨m - 1, by omega⟩
    obtain ⟨m', rfl⟩ : ∃ q, m' = q + 1 := ⟨m' - 1, by omega⟩
    have hi : i = N := by omega
    subst hi
    exact ⟨x, by rw [F_X7_pairs_4, hx.2.2.1, lp_y], by rw [F_X8_pairs_4, n51_2, hm.2.2.1, lp_y]⟩
  | succ k ih =>
    intro m m' i x h1 h2 h3
    obtain ⟨m, rfl⟩ : ∃ q, m = q + 1 := ⟨m - 1, by omega⟩
    obtain ⟨m', rfl⟩ : ∃ q, m' = q + 1 := ⟨m' - 1, by omega⟩
    have hiN : i < N := by omega
    obtain ⟨s1, s2⟩ := hp.s hN hiN
    have a1 : m_I M 8 i = U 5 i := hx.u 5 i (by decide) (by omega)
    have a2 : m_I M 8 (sl U i) = U 5 (sl U i) := hx.u 5 _ (by decide) (by omega)
    have b1 := hm.u 5 i (by decide) (by omega)
    have b2 := hm.u 5 (sl U i) (by decide) (by omega)
    rw [F_X7_pairs_4, hx.2.2.1, lp_x hiN (by omega), n_8 (by omega), a1, F_X8_pairs_4, n51_2, hm.2.2.1, lp_x hiN (by omega), its_5 (by omega), Option.bind_some, Option.bind_some, b1, s2, n_8 (by omega), a2, its_5 (by omega), Option.bind_some, b2, nI_1, ad0]
    by_cases c1 : nI (sl U i) ≤ nI i
    · rw [if_pos c1, if_pos c1]
      exact ih m m' (i + 1) x (by omega) (by omega) (by omega)
    · rw [if_neg c1, if_neg c1]
      by_cases c2 : U 5 (sl U i) = nI i
      · rw [if_pos c2, if_pos c2]
        exact ih m m' (i + 1) (x + 1) (by omega) (by omega) (by omega)
      · rw [if_neg c2, if_neg c2]
        exact ih m m' (i + 1) x (by omega) (by omega) (by omega)
theorem op_pairs {M : Mem} (h : RR M) : OpP F_X7_pairs F_X8_pairs M := by
  obtain ⟨⟨f, z, N, U, hg, hx, hm⟩, -⟩ := id h
  have hN := hg.1
  exact pairs_4 hx hm hN hg.2.2.2 N FU FU 0 0 (by omega) (by show N < 1000; omega) (by show N < 1000; omega)
def rs (U : Nat → Nat → Int32) : Nat → Nat → Nat → Nat
  | 0, s, _ => s
  | k + 1, s, c => rs U k (s ||| 2 ^ c) (sl U c)
def rI (N : Nat) (U : Nat → Nat → Int32) (s c : Nat) : Prop := ∀ x, x < N → s.testBit x = true → s.testBit (sl U x) = true ∨ sl U x = c
theorem pcN : ∀ N, N < 9 → ∀ s, s < 2 ^ N → pc s 8 ≤ N := by decide +kernel
theorem tb_or (s c x : Nat) : (s ||| 2 ^ c).testBit x = true ↔ s.testBit x = true ∨ x = c := by
  rw [Nat.testBit_or, Bool.or_eq_true, Nat.testBit_two_pow, decide_eq_true_iff]
  exact ⟨fun z => z.elim Or.inl (fun w => Or.inr w.symm), fun z => z.elim Or.inl (fun w => Or.inr w.symm)⟩
theorem or_same {s c : Nat} (h : s.testBit c = true) : s ||| 2 ^ c = s := by
  apply Nat.eq_of_testBit_eq
  intro x
  rw [Nat.testBit_or, Nat.testBit_two_pow]
  by_cases e : c = x
  · subst e
    rw [h, Bool.true_or]
  · rw [decide_eq_false e, Bool.or_false]
theorem rs_stay {N : Nat} {U : Nat → Nat → Int32} (hp : PM N U) (hN : N ≤ 8) : ∀ k s c, c < N → s.testBit c = true → rI N U s c → rs U k s c = s := by
  intro k
  induction k with
  | zero => intro s c h1 h2 h3; rfl
  | succ k ih =>
    intro s c h1 h2 h3
    rw [rs, or_same h2]
    have h4 : s.testBit (sl U c) = true := (h3 c h1 h2).elim id (fun e => by rw [e]; exact h2)
    exact ih s (sl U c) (hp.s hN h1).1 h4 (fun x hx hb => Or.inl ((h3 x hx hb).elim id (fun e => by rw [e]; exact h2)))
theorem rI_s {N : Nat} {U : Nat → Nat → Int32} (hp : PM N U) (hN : N ≤ 8) {s c : Nat} (h3 : rI N U s c) : rI N U (s ||| 2 ^ c) (sl U c) := by
  intro x hx hb
  rcases (tb_or s c x).mp hb with q | q
  · exact Or.inl ((tb_or s c (sl U x)).mpr (h3 x hx q))
  · exact Or.inr (by rw [q])
theorem rs_cl {N : Nat} {U : Nat → Nat → Int32} (hp : PM N U) (hN : N ≤ 8) : ∀ k s c, pc s 8 + k = N → s < 2 ^ N → c < N → rI N U s c → rs U k s c < 2 ^ N ∧ (∀ x, x < N → (rs U k s c).testBit x = true → (rs U k s c).testBit (sl U x) = true) ∧ (rs U k s c).testBit c = true := by
  intro k
  induction k with
  | zero =>
    intro s c h1 h2 hc h3
    cases hb : s.testBit c with
    | true => exact ⟨h2, fun x hx hb2 => (h3 x hx hb2).elim id (fun e => by rw [rs, e]; exact hb), hb⟩
    | false =>
      have h8 : 2 ^ N ≤ 2 ^ 8 := Nat.pow_le_pow_right (by decide) hN
      have q1 := pcN N (by omega) (s ||| 2 ^ c) (Nat.or_lt_two_pow h2 (Nat.pow_lt_pow_right (by decide) hc))
      rw [pc_or s (by omega) c (by omega), hb, if_neg Bool.false_ne_true] at q1
      omega
  | succ k ih =>
    intro s c h1 h2 hc h3
    cases hb : s.testBit c with
    | true =>
      rw [rs_stay hp hN (k + 1) s c hc hb h3]
      exact ⟨h2, fun x hx hb2 => (h3 x hx hb2).elim id (fun e => by rw [e]; exact hb), hb⟩
    | false =>
      have h8 : 2 ^ N ≤ 2 ^ 8 := Nat.pow_le_pow_right (by decide) hN
      have q1 := pc_or s (by omega) c (by omega)
      rw [hb, if_neg Bool.false_ne_true] at q1
      obtain ⟨r1, r2, r3⟩ := ih (s ||| 2 ^ c) (sl U c) (by omega) (Nat.or_lt_two_pow h2 (Nat.pow_lt_pow_right (by decide) hc)) (hp.s hN hc).1 (rI_s hp hN h3)
      refine ⟨r1, r2, ?_⟩
      have mono : ∀ k s c x, s.testBit x = true → (rs U k s c).testBit x = true := by
        intro k
        induction k with
        | zero => intro s c x q; exact q
        | succ k ih2 => intro s c x q; exact ih2 _ _ x ((tb_or s c x).mpr (Or.inl q))
      exact mono k _ _ c ((tb_or s c c).mpr (Or.inr rfl))
theorem x_ring7 {N : Nat} {U : Nat → Nat → Int32} (hp : PM N U) (hN : N ≤ 8) {M : Mem} {v : Nat} {f z : Int32} {a : Int32} (hx : VX M v f z N U) : ∀ k m i s c, i + k = N → k < m → s < 2 ^ N → c < N → F_X4_ringSet_7 v a M m (nI s) (nI c) (nI i) = some (nI (rs U k s c)) := by
  intro k
  induction k with
  | zero =>
    intro m i s c h1 h2 h3 h4
    obtain ⟨m, rfl⟩ : ∃ q, m = q + 1 := ⟨m - 1, by omega⟩
    have hi : i = N := by omega
    subst hi
    rw [F_X4_ringSet_7, hx.2.2.1, lp_y]
    rfl
  | succ k ih =>
    intro m i s c h1 h2 h3 h4
    obtain ⟨m, rfl⟩ : ∃ q, m = q + 1 := ⟨m - 1, by omega⟩
    have a1 : m_I M (v + 6) c = U 5 c := hx.u 5 c (by decide) (by omega)
    rw [F_X4_ringSet_7, hx.2.2.1, lp_x (by omega) (by omega), n_8 (by omega), a1, (hp.s hN h4).2, b_2 _ (by omega), nI_or, nI_1, ih m (i + 1) _ _ (by omega) (by omega) (Nat.or_lt_two_pow h3 (Nat.pow_lt_pow_right (by decide) h4)) (hp.s hN h4).1]
    rfl
theorem m_ring4 {N : Nat} {U : Nat → Nat → Int32} (hp : PM N U) (hN : N ≤ 8) {M : Mem} {f z : Int32} {a : Int32} (hm : VM M 50 f z N U) : ∀ k m s c, pc s 8 + k = N → k + 1 < m → s < 2 ^ N → c < N → rI N U s c → F_X8_ringOf_4 a M m (nI s) (nI c) = some (nI (rs U k s c)) := by
  have h8 : 2 ^ N ≤ 2 ^ 8 := Nat.pow_le_pow_right (by decide) hN
  intro k
  induction k with
  | zero =>
    intro m s c h1 h2 h3 h4 h5
    obtain ⟨m, rfl⟩ : ∃ q, m = q + 1 := ⟨m - 1, by omega⟩
    have hb := (rs_cl hp hN 0 s c h1 h3 h4 h5).2.2
    rw [F_X8_ringOf_4, if_neg (fun q => by rw [rs, (tb_e s (by omega) c (by omega)).mp q] at hb; cases hb)]
    rfl
  | succ k ih =>
    intro m s c h1 h2 h3 h4 h5
    obtain ⟨m, rfl⟩ : ∃ q, m = q + 1 := ⟨m - 1, by omega⟩
    have ht := tb_e s (by omega) c (by omega)
    rw [F_X8_ringOf_4]
    cases hb : s.testBit c with
    | true =>
      rw [if_neg (fun q => by rw [ht.mp q] at hb; cases hb), rs_stay hp hN (k + 1) s c h4 hb h5]
    | false =>
      have q1 := pc_or s (by omega) c (by omega)
      rw [hb, if_neg Bool.false_ne_true] at q1
      rw [if_pos (ht.mpr hb), its_5 (by omega), Option.bind_some, hm.u 5 c (by decide) (by omega), (hp.s hN h4).2, b_2 _ (by omega), nI_or, ih m _ _ (by omega) (by omega) (Nat.or_lt_two_pow h3 (Nat.pow_lt_pow_right (by decide) h4)) (hp.s hN h4).1 (rI_s hp hN h5)]
      rfl
theorem rI_0 {N : Nat} {U : Nat → Nat → Int32} (hp : PM N U) (hN : N ≤ 8) (c : Nat) : rI N U 0 c := fun x _ hb => by rw [Nat.zero_testBit] at hb; cases hb
theorem x_ring {N : Nat} {U : Nat → Nat → Int32} (hp : PM N U) (hN : N ≤ 8) {M : Mem} {v : Nat} {f z : Int32} (hx : VX M v f z N U) {p : Nat} (h : p < N) : F_X4_ringSet v (nI p) M = some (nI (rs U N 0 p)) :=
  x_ring7 hp hN hx N FU 0 0 p (by omega) (by show N < 1000; omega) (Nat.pow_pos (by decide)) h
theorem m_ring {N : Nat} {U : Nat → Nat → Int32} (hp : PM N U) (hN : N ≤ 8) {M : Mem} {f z : Int32} (hm : VM M 50 f z N U) {p : Nat} (h : p < N) : F_X8_ringOf (nI p) M = some (nI (rs U N 0 p)) :=
  m_ring4 hp hN hm N FU 0 p (by show 0 + N = N; omega) (by show N + 1 < 1000; omega) (Nat.pow_pos (by decide)) h (rI_0 hp hN p)
theorem rs_sub {N : Nat} {U : Nat → Nat → Int32} (hp : PM N U) (hN : N ≤ 8) {T : Nat} (hT : ∀ x, x < N → T.testBit x = true → T.testBit (sl U x) = true) : ∀ k s c, c < N → T.testBit c = true → (∀ x, s.testBit x = true → T.testBit x = true) → ∀ x, (rs U k s c).testBit x = true → T.testBit x = true := by
  intro k
  induction k with
  | zero => intro s c h1 h2 h3; exact h3
  | succ k ih =>
    intro s c h1 h2 h3
    exact ih (s ||| 2 ^ c) (sl U c) (hp.s hN h1).1 (hT c h1 h2) (fun x hb => ((tb_or s c x).mp hb).elim (h3 x) (fun e => by rw [e]; exact h2))
theorem rings_6 {N : Nat} {U : Nat → Nat → Int32} (hp : PM N U) (hN : N ≤ 8) {M : Mem} {f z : Int32} (hx : VX M 2 f z N U) (hm : VM M 50 f z N U) : ∀ k m m' i x T, i + k = N → k < m → k < m' → T < 2 ^ N → (∀ x, x < N → T.testBit x = true → T.testBit (sl U x) = true) → ∃ r, F_X7_rings_6 M m (nI T) x (nI i) = some r ∧ F_X8_rings_6 M m' x (nI T) (nI i) = some r := by
  have h8 : 2 ^ N ≤ 2 ^ 8 := Nat.pow_le_pow_right (by decide) hN
  intro k
  induction k with
  | zero =>
    intro m m' i x T h1 h2 h3 h4 h5
    obtain ⟨m, rfl⟩ : ∃ q, m = q + 1 := ⟨m - 1, by omega⟩
    obtain ⟨m', rfl⟩ : ∃ q, m' = q + 1 := ⟨m' - 1, by omega⟩
    have hi : i = N := by omega
    subst hi
    exact ⟨x, by rw [F_X7_rings_6, hx.2.2.1, lp_y], by rw [F_X8_rings_6, n51_2, hm.2.2.1, lp_y]⟩
  | succ k ih =>
    intro m m' i x T h1 h2 h3 h4 h5
    obtain ⟨m, rfl⟩ : ∃ q, m = q + 1 := ⟨m - 1, by omega⟩
    obtain ⟨m', rfl⟩ : ∃ q, m' = q + 1 := ⟨m' - 1, by omega⟩
    have hiN : i < N := by omega
    obtain ⟨c1, c2, c3⟩ := rs_cl hp hN N 0 i (by show 0 + N = N; omega) (Nat.pow_pos (by decide)) hiN (rI_0 hp hN i)
    have ht := tb_e T (by omega) i (by omega)
    rw [F_X7_rings_6, hx.2.2.1, lp_x hiN (by omega), x_ring hp hN hx hiN, Option.bind_some, F_X8_rings_6, n51_2, hm.2.2.1, lp_x hiN (by omega), m_ring hp hN hm hiN, Option.bind_some, Option.bind_some, nI_or, ad0, nI_1]
    cases hb : T.testBit i with
    | true =>
      have hs : T ||| rs U N 0 i = T := by
        apply Nat.eq_of_testBit_eq
        intro y
        rw [Nat.testBit_or]
        cases hy : (rs U N 0 i).testBit y with
        | false => rw [Bool.or_false]
        | true => rw [rs_sub hp hN h5 N 0 i hiN hb (fun x q => by rw [Nat.zero_testBit] at q; cases q) y hy, Bool.true_or]
      rw [if_neg (fun q => by rw [ht.mp q] at hb; cases hb), if_neg (fun q => by rw [ht.mp q] at hb; cases hb), hs]
      exact ih m m' (i + 1) x T (by omega) (by omega) (by omega) h4 h5
    | false =>
      rw [if_pos (ht.mpr hb), if_pos (ht.mpr hb)]
      refine ih m m' (i + 1) (x + 1) (T ||| rs U N 0 i) (by omega) (by omega) (by omega) (Nat.or_lt_two_pow h4 c1) (fun y hy q => ?_)
      rw [Nat.testBit_or, Bool.or_eq_true] at q ⊢
      exact q.elim (fun w => Or.inl (h5 y hy w)) (fun w => Or.inr (c2 y hy w))
theorem op_rings {M : Mem} (h : RR M) : OpP F_X7_rings F_X8_rings M := by
  obtain ⟨⟨f, z, N, U, hg, hx, hm⟩, -⟩ := id h
  have hN := hg.1
  exact rings_6 hg.2.2.2 hN hx hm N FU FU 0 0 0 (by omega) (by show N < 1000; omega) (by show N < 1000; omega) (Nat.pow_pos (by decide)) (fun x _ q => by rw [Nat.zero_testBit] at q; cases q)
theorem op_ring {M : Mem} (h : RR M) (a : Int32) : OpI (F_X7_ring a) (F_X8_ring a) M := by
  obtain ⟨⟨f, z, N, U, hg, hx, hm⟩, -⟩ := id h
  have hN := hg.1
  by_cases ha : 0 ≤ a.toInt ∧ a.toInt < N
  · obtain ⟨p, hp, rfl⟩ := t_of ha.1 ha.2
    exact op_r h (r := nI (rs U N 0 p)) (by unfold F_X7_ring; rw [x_has hx hN, if_pos ha, Option.bind_some, if_neg (by decide), x_ring hg.2.2.2 hN hx hp, Option.bind_some]) (by unfold F_X8_ring; rw [m_isOne hm hN, if_pos ha, Option.bind_some, if_neg (by decide), m_ring hg.2.2.2 hN hm hp, Option.bind_some])
  · exact op_f h (k := 0) (by decide) (by unfold F_X7_ring; rw [x_has hx hN, if_neg ha, Option.bind_some, if_pos rfl, bn_eta]; rfl) (fun M1 hc => by unfold F_X8_ring; rw [no_one hm hN hc, if_neg ha, Option.bind_some, if_pos rfl, bn_eta]; rfl)
/-! the best one for a slip -/
def ba (U : Nat → Nat → Int32) (p : Nat) : Nat → Nat → Int32 → Int32 → Int32
  | 0, _, _, b => b
  | k + 1, i, v, b => if i = p then ba U p k (i + 1) v b else if al U p i then (if eU U i p ≤ v then ba U p k (i + 1) v b else ba U p k (i + 1) (eU U i p) (nI i)) else ba U p k (i + 1) v b
theorem x_ba {M : Mem} {f z : Int32} {N p : Nat} {U : Nat → Nat → Int32} (hx : VX M 2 f z N U) (hN : N ≤ 8) (hp : p < N) : ∀ k m i v b, i + k = N → k < m → F_X7_bestAs_24 (nI p) m v b (nI i) M = (if 0 ≤ ba U p k i v b then some (ba U p k i v b, M) else F_X7_finding (3 : Int32) M) := by
  intro k
  induction k with
  | zero =>
    intro m i v b h1 h2
    obtain ⟨m, rfl⟩ : ∃ q, m = q + 1 := ⟨m - 1, by omega⟩
    have hi : i = N := by omega
    subst hi
    rw [F_X7_bestAs_24, hx.2.2.1, lp_y, bn_eta, ba]
  | succ k ih =>
    intro m i v b h1 h2
    obtain ⟨m, rfl⟩ : ∃ q, m = q + 1 := ⟨m - 1, by omega⟩
    rw [F_X7_bestAs_24, hx.2.2.1, lp_x (by omega) (by omega), x_areAlike hx (by omega) (by omega), Option.bind_some, x_earning hx (by omega) (by omega), Option.bind_some, Option.bind_some, nI_1, ba, ih m (i + 1) _ _ (by omega) (by omega), ih m (i + 1) _ _ (by omega) (by omega)]
    by_cases e : i = p
    · rw [if_pos (by rw [e]), if_pos e]
    rw [if_neg (fun q => e ((nI_eq (by omega) (by omega)).mp q)), if_neg e]
    by_cases ha : al U p i
    · rw [if_pos (show al U i p from ha.symm), if_neg one0.mp, if_pos ha]
      by_cases hv : eU U i p ≤ v
      · rw [if_pos hv, if_pos hv]
      · rw [if_neg hv, if_neg hv]
    · rw [if_neg (show ¬ al U i p from fun q => ha q.symm), if_pos rfl, if_neg ha]
theorem m_ba {M : Mem} {f z : Int32} {N p : Nat} {U : Nat → Nat → Int32} (hm : VM M 50 f z N U) (hN : N ≤ 8) (hp : p < N) : ∀ k m i v b, i + k = N → k < m → F_X8_bestAs_22 (nI p) m b v (nI i) M = (if 0 ≤ ba U p k i v b then some (ba U p k i v b, M) else F_X8_finds (-1000000004 : Int32) M) := by
  intro k
  induction k with
  | zero =>
    intro m i v b h1 h2
    obtain ⟨m, rfl⟩ : ∃ q, m = q + 1 := ⟨m - 1, by omega⟩
    have hi : i = N := by omega
    subst hi
    rw [F_X8_bestAs_22, n51_2, hm.2.2.1, lp_y, bn_eta, ba]
  | succ k ih =>
    intro m i v b h1 h2
    obtain ⟨m, rfl⟩ : ∃ q, m = q + 1 := ⟨m - 1, by omega⟩
    rw [F_X8_bestAs_22, n51_2, hm.2.2.1, lp_x (by omega) (by omega), m_areAlike hm (by omega) (by omega), Option.bind_some, m_earnsAs hm (by omega) (by omega), Option.bind_some, nI_1, ba]
    by_cases e : i = p
    · rw [if_pos (by rw [e]), if_pos e, ih m (i + 1) _ _ (by omega) (by omega)]
    rw [if_neg (fun q => e ((nI_eq (by omega) (by omega)).mp q)), if_neg e]
    by_cases ha : al U p i
    · rw [if_pos ha, if_neg one0.mp, if_pos ha]
      by_cases hv : eU U i p ≤ v
      · rw [if_pos hv, if_pos hv, if_pos hv, ih m (i + 1) _ _ (by omega) (by omega)]
      · rw [if_neg hv, if_neg hv, if_neg hv, ih m (i + 1) _ _ (by omega) (by omega)]
    · rw [if_neg ha, if_pos rfl, if_neg ha, ih m (i + 1) _ _ (by omega) (by omega)]
theorem op_bestAs {M : Mem} (h : RR M) (a : Int32) : OpI (F_X7_bestAs a) (F_X8_bestAs a) M := by
  obtain ⟨⟨f, z, N, U, hg, hx, hm⟩, -⟩ := id h
  have hN := hg.1
  by_cases ha : 0 ≤ a.toInt ∧ a.toInt < N
  · obtain ⟨p, hp, rfl⟩ := t_of ha.1 ha.2
    have X : F_X7_bestAs (nI p) M = (if 0 ≤ ba U p N 0 (-1) (-1) then some (ba U p N 0 (-1) (-1), M) else F_X7_finding (3 : Int32) M) := by
      unfold F_X7_bestAs
      rw [x_has hx hN, if_pos ha, Option.bind_some, if_neg (by decide)]
      exact x_ba hx hN hp N FU 0 (-1) (-1) (by omega) (by show N < 1000; omega)
    have Y : ∀ M1, VM M1 50 f z N U → F_X8_bestAs (nI p) M1 = (if 0 ≤ ba U p N 0 (-1) (-1) then some (ba U p N 0 (-1) (-1), M1) else F_X8_finds (-1000000004 : Int32) M1) := by
      intro M1 h1
      unfold F_X8_bestAs
      rw [m_isOne h1 hN, if_pos ha, Option.bind_some, if_neg (by decide)]
      exact m_ba h1 hN hp N FU 0 (-1) (-1) (by omega) (by show N < 1000; omega)
    by_cases hb : 0 ≤ ba U p N 0 (-1) (-1)
    · exact op_r h (r := ba U p N 0 (-1) (-1)) (by rw [X, if_pos hb]) (by rw [Y M hm, if_pos hb])
    · exact op_f h (k := 3) (by decide) (by rw [X, if_neg hb]; rfl) (fun M1 hc => by rw [Y M1 (hm.x hc.x1), if_neg hb]; rfl)
  · exact op_f h (k := 0) (by decide) (by unfold F_X7_bestAs; rw [x_has hx hN, if_neg ha, Option.bind_some, if_pos rfl, bn_eta]; rfl) (fun M1 hc => by unfold F_X8_bestAs; rw [no_one hm hN hc, if_neg ha, Option.bind_some, if_pos rfl, bn_eta]; rfl)
/-! the best kind for a person -/
def kb (e : Nat → Int32) : Nat → Nat → Nat → Nat
  | 0, _, j => j
  | k + 1, i, j => kb e k (i + 1) (if e i ≤ e j then j else i)
theorem x_kb {M : Mem} {f z : Int32} {N p q : Nat} {U : Nat → Nat → Int32} (hx : VX M 2 f z N U) (hp : p < 8) (hq : q < 8) : ∀ k m i j, i + k = 6 → k < m → F_X7_kind_32 (nI p) m (nI q) (nI j) (nI i) M = some (nI (kb (fun i => eA U (nI i) p q) k i j), M) := by
  intro k
  induction k with
  | zero =>
    intro m i j h1 h2
    obtain ⟨m, rfl⟩ : ∃ q, m = q + 1 := ⟨m - 1, by omega⟩
    have hi : i = 6 := by omega
    subst hi
    rw [F_X7_kind_32, if_pos (by decide), kb]
  | succ k ih =>
    intro m i j h1 h2
    obtain ⟨m, rfl⟩ : ∃ q, m = q + 1 := ⟨m - 1, by omega⟩
    have hi : ¬ (6 : Int32) ≤ nI i := nI_ge (show i < 6 by omega) (by decide)
    rw [F_X7_kind_32, if_neg hi, x_earningAs hx _ hp hq, Option.bind_some, x_earningAs hx _ hp hq, Option.bind_some, nI_1, kb]
    by_cases c : eA U (nI i) p q ≤ eA U (nI j) p q
    · rw [if_pos c, if_pos c, ih m (i + 1) j (by omega) (by omega)]
    · rw [if_neg c, if_neg c, ih m (i + 1) i (by omega) (by omega)]
theorem eU_k (U : Nat → Nat → Int32) (k : Int32) (p q : Nat) : eU (u2 U 0 p k) p q = eA U k p q := by
  unfold eU eA
  rw [u2_s, u2_n (by omega), u2_n (by omega), u2_n (by omega), u2_n (by omega)]
theorem u2_u2 (U : Nat → Nat → Int32) (w p : Nat) (x y : Int32) : u2 (u2 U w p x) w p y = u2 U w p y := by
  funext a b
  unfold u2
  by_cases h : a = w ∧ b = p
  · rw [if_pos h, if_pos h]
  · rw [if_neg h, if_neg h, if_neg h]
theorem u2_id (U : Nat → Nat → Int32) (w p : Nat) : u2 U w p (U w p) = U := by
  funext a b
  unfold u2
  by_cases h : a = w ∧ b = p
  · rw [if_pos h, h.1, h.2]
  · rw [if_neg h]
theorem m_kstep {M : Mem} {f z : Int32} {N p q : Nat} {U : Nat → Nat → Int32} {y : Int32} (hm : VM M 50 f z N (u2 U 0 p y)) (hp : p < 8) (hq : q < 8) (e : U 5 p = nI q) (x : Int32) : ∃ M1, F_X8_puts (nI p) (0 : Int32) x M = some M1 ∧ F_X8_earns (nI p) M1 = some (eA U x p q) ∧ VM M1 50 f z N (u2 U 0 p x) ∧ Ch (fun o => o = 50) M M1 := by
  have h1 := hm.w (w := 0) (p := p) (by decide) x
  rw [u2_u2] at h1
  refine ⟨_, puts_0 hp x, ?_, h1, Ch.w rfl⟩
  rw [m_earns h1 hp hq (by rw [u2_n (by omega)]; exact e), eU_k]
theorem m_kb {f z : Int32} {N p q : Nat} {U : Nat → Nat → Int32} (hp : p < 8) (hq : q < 8) (e : U 5 p = nI q) : ∀ k m i j y M, i + k = 6 → k < m → VM M 50 f z N (u2 U 0 p y) → ∃ M1, F_X8_kind_30 (nI p) m (U 0 p) (nI j) (eA U (nI j) p q) (nI i) M = some (nI (kb (fun i => eA U (nI i) p q) k i j), M1) ∧ VM M1 50 f z N U ∧ Ch (fun o => o = 50) M M1 := by
  intro k
  induction k with
  | zero =>
    intro m i j y M h1 h2 hm
    obtain ⟨m, rfl⟩ : ∃ q, m = q + 1 := ⟨m - 1, by omega⟩
    have hi : i = 6 := by omega
    subst hi
    obtain ⟨M1, a1, a2, a3, a4⟩ := m_kstep hm hp hq e (U 0 p)
    rw [u2_id] at a3
    exact ⟨M1, by rw [F_X8_kind_30, if_pos (by decide), a1, Option.bind_some, kb], a3, a4⟩
  | succ k ih =>
    intro m i j y M h1 h2 hm
    obtain ⟨m, rfl⟩ : ∃ q, m = q + 1 := ⟨m - 1, by omega⟩
    have hi : ¬ (5 : Int32) < nI i := nI_nlt (show i ≤ 5 by omega) (by decide)
    obtain ⟨M1, a1, a2, a3, a4⟩ := m_kstep hm hp hq e (nI i)
    rw [F_X8_kind_30, if_neg hi, a1, Option.bind_some, a2, Option.bind_some, nI_1, kb]
    by_cases c : eA U (nI i) p q ≤ eA U (nI j) p q
    · rw [if_pos c, if_pos c, if_pos c]
      obtain ⟨M2, b1, b2, b3⟩ := ih m (i + 1) j _ M1 (by omega) (by omega) a3
      exact ⟨M2, b1, b2, a4.tr b3⟩
    · rw [if_neg c, if_neg c, if_neg c]
      obtain ⟨M2, b1, b2, b3⟩ := ih m (i + 1) i _ M1 (by omega) (by omega) a3
      exact ⟨M2, b1, b2, a4.tr b3⟩
theorem op_kind {M : Mem} (h : RR M) (a : Int32) : OpI (F_X7_kind a) (F_X8_kind a) M := by
  obtain ⟨⟨f, z, N, U, hg, hx, hm⟩, -⟩ := id h
  have hN := hg.1
  by_cases ha : 0 ≤ a.toInt ∧ a.toInt < N
  · obtain ⟨p, hp, rfl⟩ := t_of ha.1 ha.2
    have hp8 : p < 8 := by omega
    obtain ⟨s1, s2⟩ := hg.2.2.2.s hN hp
    have a1 : m_I M 8 p = U 5 p := hx.u 5 p (by decide) hp8
    obtain ⟨M1, c1, c2, c3, c4⟩ := m_kstep (y := U 0 p) (by rw [u2_id]; exact hm) hp8 (show sl U p < 8 by omega) s2 (nI 0)
    obtain ⟨M2, d1, d2, d3⟩ := m_kb (U := U) hp8 (show sl U p < 8 by omega) s2 5 999 1 0 _ M1 (by decide) (by decide) c3
    have hb := (eA_b hg (nI 0) hp s1).1
    have hb2 : ¬ eA U (nI 0) p (sl U p) ≤ (-1 : Int32) := by rw [t_le, show (-1 : Int32).toInt = -1 by decide]; omega
    refine op_v h hg (r := nI (kb (fun i => eA U (nI i) p (sl U p)) 5 1 0)) (M1 := M) ?_ hx Ch.rf ⟨M2, ?_, d2, (c4.tr d3).wk (fun o q => Or.inl q)⟩
    · unfold F_X7_kind
      rw [x_has hx hN, if_pos ha, Option.bind_some, if_neg (by decide), n_8 hp8, a1, s2]
      exact x_kb hx hp8 (by omega) 5 FU 1 0 (by decide) (by decide)
    · unfold F_X8_kind
      rw [m_isOne hm hN, if_pos ha, Option.bind_some, if_neg (by decide), its_0 hp8, Option.bind_some, hm.u 0 p (by decide) hp8, show FU = 999 + 1 from rfl, F_X8_kind_30, if_neg (by decide), show F_X8_puts (nI p) (0 : Int32) (0 : Int32) M = some M1 from c1, Option.bind_some, c2, Option.bind_some, if_neg hb2, if_neg hb2]
      exact d1
  · exact op_f h (k := 0) (by decide) (by unfold F_X7_kind; rw [x_has hx hN, if_neg ha, Option.bind_some, if_pos rfl, bn_eta]; rfl) (fun M1 hc => by unfold F_X8_kind; rw [no_one hm hN hc, if_neg ha, Option.bind_some, if_pos rfl, bn_eta]; rfl)
