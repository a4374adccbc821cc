theorem m_set55 {M : Mem} {f z : Int32} {N : Nat} {U : Nat → Nat → Int32} (hm : VM M 50 f z N U) (hN : N ≤ 8) {a w x : Int32} (c : Prop) [Decidable c] : F_X8_set_55 a w x (if c then 1 else 0) M = if (0 ≤ a.toInt ∧ a.toInt < N) ∧ c then F_X8_becomes (((3 : Int32) + (6 : Int32) * a) + w) x M else F_X8_finds (-1000000001 : Int32) M := by
  unfold F_X8_set_55
  rw [m_isOne hm hN, Option.bind_some]
  by_cases ha : 0 ≤ a.toInt ∧ a.toInt < N
  · rw [if_pos ha, if_neg (by decide)]
    by_cases hc : c
    · rw [if_pos hc, if_neg (by decide), if_pos ⟨ha, hc⟩, bn_eta]
    · rw [if_neg hc, if_pos rfl, if_neg (fun q => hc q.2), bn_eta]
  · rw [if_neg ha, if_pos rfl, if_neg (fun q => ha q.1), bn_eta]
theorem m_set {M : Mem} {f z : Int32} {N : Nat} {U : Nat → Nat → Int32} (hm : VM M 50 f z N U) (hN : N ≤ 8) {a x : Int32} {w : Nat} {m : Int32} (hw : (w = 1 ∧ m = 20) ∨ (w = 2 ∧ m = 99999) ∨ (w = 3 ∧ m = 99) ∨ (w = 4 ∧ m = 99)) : F_X8_set a (nI w) x M = if (0 ≤ a.toInt ∧ a.toInt < N) ∧ (0 ≤ x.toInt ∧ x.toInt ≤ m.toInt) then F_X8_becomes (((3 : Int32) + (6 : Int32) * a) + nI w) x M else F_X8_finds (-1000000001 : Int32) M := by
  rw [← m_set55 hm hN]
  unfold F_X8_set
  rcases hw with ⟨rfl, rfl⟩ | ⟨rfl, rfl⟩ | ⟨rfl, rfl⟩ | ⟨rfl, rfl⟩
  · rw [if_pos (by decide), in_e, Option.bind_some, z0]
  · rw [if_neg (by decide), if_pos (by decide), in_e, Option.bind_some, z0]
  · rw [if_neg (by decide), if_neg (by decide), if_pos (by decide), in_e, Option.bind_some, z0]
    by_cases c : 0 ≤ x.toInt ∧ x.toInt ≤ (99 : Int32).toInt
    · rw [if_pos c, if_neg (by decide)]
    · rw [if_neg c, if_pos rfl]
  · rw [if_neg (by decide), if_neg (by decide), if_neg (by decide), if_pos (by decide), in_e, Option.bind_some, z0]
    by_cases c : 0 ≤ x.toInt ∧ x.toInt ≤ (99 : Int32).toInt
    · rw [if_pos c, if_neg (by decide)]
    · rw [if_neg c, if_pos rfl]
theorem x_set {M : Mem} {f z : Int32} {N : Nat} {U : Nat → Nat → Int32} (hx : VX M 2 f z N U) (hN : N ≤ 8) {a x : Int32} {w : Nat} {m : Int32} (hw : (w = 1 ∧ m = 20) ∨ (w = 2 ∧ m = 99999) ∨ (w = 3 ∧ m = 99) ∨ (w = 4 ∧ m = 99)) : F_X7_set a (nI w) x M = if (0 ≤ a.toInt ∧ a.toInt < N) ∧ (0 ≤ x.toInt ∧ x.toInt ≤ m.toInt) then F_X7_replace (2 + (1 + w)) a x m M else F_X7_finding (0 : Int32) M := by
  unfold F_X7_set
  rw [x_has hx hN, Option.bind_some]
  by_cases ha : 0 ≤ a.toInt ∧ a.toInt < N
  · rw [if_pos ha, if_neg (by decide)]
    by_cases h1 : 0 ≤ x.toInt ∧ x.toInt ≤ m.toInt
    · have hc : (0 ≤ a.toInt ∧ a.toInt < N) ∧ (0 ≤ x.toInt ∧ x.toInt ≤ m.toInt) := ⟨ha, h1⟩
      rw [if_pos hc]
      rcases hw with ⟨rfl, rfl⟩ | ⟨rfl, rfl⟩ | ⟨rfl, rfl⟩ | ⟨rfl, rfl⟩
      · rw [if_pos (by decide), bn_eta]
      · rw [if_neg (by decide), if_pos (by decide), bn_eta]
      · rw [if_neg (by decide), if_neg (by decide), if_pos (by decide), bn_eta]
      · rw [if_neg (by decide), if_neg (by decide), if_neg (by decide), if_pos (by decide), bn_eta]
    · have hc : ¬ ((0 ≤ a.toInt ∧ a.toInt < N) ∧ (0 ≤ x.toInt ∧ x.toInt ≤ m.toInt)) := fun q => h1 q.2
      rw [if_neg hc]
      rcases hw with ⟨rfl, rfl⟩ | ⟨rfl, rfl⟩ | ⟨rfl, rfl⟩ | ⟨rfl, rfl⟩
      · rw [if_pos (by decide), bn_eta, x_replaceN h1]
      · rw [if_neg (by decide), if_pos (by decide), bn_eta, x_replaceN h1]
      · rw [if_neg (by decide), if_neg (by decide), if_pos (by decide), bn_eta, x_replaceN h1]
      · rw [if_neg (by decide), if_neg (by decide), if_neg (by decide), if_pos (by decide), bn_eta, x_replaceN h1]
  · have hc : ¬ ((0 ≤ a.toInt ∧ a.toInt < N) ∧ (0 ≤ x.toInt ∧ x.toInt ≤ m.toInt)) := fun q => ha q.1
    rw [if_neg ha, if_pos rfl, if_neg hc, bn_eta]
theorem op_set {M : Mem} (h : RR M) (a b x : Int32) : OpI (F_X7_set a b x) (F_X8_set a b x) M := by
  obtain ⟨⟨f, z, N, U, hg, hx, hm⟩, -⟩ := id h
  have hN := hg.1
  by_cases hb : 1 ≤ b.toInt ∧ b.toInt ≤ 4
  · obtain ⟨w, hw, rfl⟩ := t_of (n := 5) (x := b) (by omega) (by omega)
    rw [nI_toInt (by omega)] at hb
    obtain ⟨m, hwm, hm2⟩ : ∃ m : Int32, ((w = 1 ∧ m = 20) ∨ (w = 2 ∧ m = 99999) ∨ (w = 3 ∧ m = 99) ∨ (w = 4 ∧ m = 99)) ∧ m.toInt = if w = 0 then 5 else if w = 1 then 20 else if w = 2 then 99999 else 99 := by
      match w, hb, hw with
      | 0, hb, _ => omega
      | 1, _, _ => exact ⟨20, by decide, by decide⟩
      | 2, _, _ => exact ⟨99999, by decide, by decide⟩
      | 3, _, _ => exact ⟨99, by decide, by decide⟩
      | 4, _, _ => exact ⟨99, by decide, by decide⟩
      | n + 5, _, hw => omega
    by_cases hc : (0 ≤ a.toInt ∧ a.toInt < N) ∧ (0 ≤ x.toInt ∧ x.toInt ≤ m.toInt)
    · obtain ⟨p, hp, rfl⟩ := t_of hc.1.1 hc.1.2
      refine op_set1 h hg hx hm (w := w) (by omega) hp (x := x) (m := m) hm2 hc.2 ?_ (fun M1 hm1 => ?_)
      · rw [x_set hx hN hwm, if_pos hc]
      · rw [m_set hm1 hN hwm, if_pos hc, at_n]
    · refine op_f h (k := 0) (by decide) ?_ (fun M1 hc1 => ?_)
      · rw [x_set hx hN hwm, if_neg hc]; rfl
      · rw [m_set (hm.x hc1.x1) hN hwm, if_neg hc]; rfl
  · have ne : ∀ k : Int32, 1 ≤ k.toInt → k.toInt ≤ 4 → ¬ b = k := fun k h1 h2 e => hb (by rw [e]; exact ⟨h1, h2⟩)
    refine op_f h (k := 0) (by decide) ?_ (fun M1 hc1 => ?_)
    · unfold F_X7_set
      rw [x_has hx hN, Option.bind_some, if_neg (ne 1 (by decide) (by decide)), if_neg (ne 2 (by decide) (by decide)), if_neg (ne 3 (by decide) (by decide)), if_neg (ne 4 (by decide) (by decide))]
      simp only [bn_eta, ite_self]
      rfl
    · unfold F_X8_set
      rw [if_neg (ne 1 (by decide) (by decide)), if_neg (ne 2 (by decide) (by decide)), if_neg (ne 3 (by decide) (by decide)), if_neg (ne 4 (by decide) (by decide))]
      have := m_set55 (hm.x hc1.x1) hN (a := a) (w := b) (x := x) False
      rw [if_neg (fun q => q), if_neg (fun q => q.2)] at this
      exact this
/-! as -/
def und (a k : Nat) : Bool := k == 0 || k == a || (k == 1 && a == 4) || (k == 2 && a == 5)
theorem isUnder_m (a b : Int32) (M M' : Mem) : ∀ n x y, F_X6_isUnder_4 a b M n x y = F_X6_isUnder_4 a b M' n x y
  | 0, _, _ => rfl
  | n + 1, x, y => by rw [F_X6_isUnder_4, F_X6_isUnder_4]; simp only [isUnder_m a b M M' n]
theorem isUnder_all : ∀ a, a < 6 → ∀ k, k < 6 → F_X6_isUnder (nI a) (nI k) M00 = some (if und a k then 1 else 0) := by decide +kernel
theorem x_isUnder {a k : Nat} (ha : a < 6) (hk : k < 6) (M : Mem) : F_X6_isUnder (nI a) (nI k) M = some (if und a k then 1 else 0) := (isUnder_m _ _ M M00 FU _ _).trans (isUnder_all a ha k hk)
theorem m_as58 {M : Mem} {p : Nat} (hp : p < 8) (k : Int32) : F_X8_as_58 (nI p) k M = some (m_I M 50 (3 + 6 * p + 3), M) := by
  unfold F_X8_as_58
  rw [if_neg (by decide), its_3 hp, Option.bind_some]
theorem m_as62 {M : Mem} (a k : Int32) : F_X8_as_62 a k M = F_X8_finds (-1000000003 : Int32) M := by
  unfold F_X8_as_62
  rw [if_pos rfl, bn_eta]
theorem x_asE {M : Mem} {f z : Int32} {N : Nat} {U : Nat → Nat → Int32} (hx : VX M 2 f z N U) (hN : N ≤ 8) {p k o : Nat} (hp : p < N) (hk6 : k < 6) (ho : o < 6) (eo : U 0 p = nI o) : F_X7_as (nI p) (nI k) M = if und o k then some (U 3 p, M) else F_X7_finding (2 : Int32) M := by
  have hp8 : p < 8 := by omega
  unfold F_X7_as
  rw [x_has hx hN, if_pos (by rw [nI_toInt (by omega)]; omega), Option.bind_some, if_neg (by decide), x_isKind, if_pos (by rw [nI_toInt (by omega)]; omega), Option.bind_some, if_neg (by decide), n_8 hp8, n_8 hp8]
  have e0 : m_I M 3 p = nI o := (hx.u 0 p (by decide) hp8).trans eo
  have e3 : m_I M 6 p = U 3 p := hx.u 3 p (by decide) hp8
  rw [e0, e3, x_isUnder ho hk6, Option.bind_some, bn_eta]
  cases und o k with
  | false => rw [if_pos (show (if false = true then (1 : Int32) else 0) = 0 by decide), if_neg (by decide)]
  | true => rw [if_pos rfl, if_neg (by decide), if_pos rfl]
theorem m_asE {M : Mem} {f z : Int32} {N : Nat} {U : Nat → Nat → Int32} (hm : VM M 50 f z N U) (hN : N ≤ 8) {p k o : Nat} (hp : p < N) (hk6 : k < 6) (ho : o < 6) (eo : U 0 p = nI o) : F_X8_as (nI p) (nI k) M = if und o k then some (U 3 p, M) else F_X8_finds (-1000000003 : Int32) M := by
  have hp8 : p < 8 := by omega
  unfold F_X8_as
  rw [m_isOne hm hN, if_pos (by rw [nI_toInt (by omega)]; omega), Option.bind_some, if_neg (by decide), m_isKind, if_pos (by rw [nI_toInt (by omega)]; omega), Option.bind_some, if_neg (by decide), its_0 hp8, Option.bind_some, hm.u 0 p (by decide) hp8, eo]
  simp only [m_as58 hp8, m_as62, hm.u 3 p (by decide) hp8]
  generalize some (U 3 p, M) = A
  generalize F_X8_finds (-1000000003 : Int32) M = B
  have q0 : (nI k = (0 : Int32)) = (k = 0) := propext (nI_eq (b := 0) (by omega) (by omega))
  have q1 : (nI k = (1 : Int32)) = (k = 1) := propext (nI_eq (b := 1) (by omega) (by omega))
  have q2 : (nI k = (2 : Int32)) = (k = 2) := propext (nI_eq (b := 2) (by omega) (by omega))
  have q3 : (nI k = nI o) = (k = o) := propext (nI_eq (by omega) (by omega))
  have q4 : (nI o = (4 : Int32)) = (o = 4) := propext (nI_eq (b := 4) (by omega) (by omega))
  have q5 : (nI o = (5 : Int32)) = (o = 5) := propext (nI_eq (b := 5) (by omega) (by omega))
  simp only [q0, q1, q2, q3, q4, q5]
  have : ∀ k, k < 6 → ∀ o, o < 6 → und o k = if k = 0 then true else if k = o then true else if k = 1 then (if o = 4 then true else if k = 2 then (if o = 5 then true else false) else false) else if k = 2 then (if o = 5 then true else false) else false := by decide
  rw [this k hk6 o ho]
  by_cases k0 : k = 0
  · rw [if_pos k0, if_pos k0, if_pos rfl]
  · rw [if_neg k0, if_neg k0]
    by_cases ko : k = o
    · rw [if_pos ko, if_pos ko, if_pos rfl]
    · rw [if_neg ko, if_neg ko]
      by_cases k1 : k = 1
      · rw [if_pos k1, if_pos k1]
        by_cases o4 : o = 4
        · rw [if_pos o4, if_pos o4, if_pos rfl]
        · rw [if_neg o4, if_neg o4]
          have k2 : ¬ k = 2 := by omega
          rw [if_neg k2, if_neg k2, if_neg (by decide)]
      · rw [if_neg k1, if_neg k1]
        by_cases k2 : k = 2
        · rw [if_pos k2, if_pos k2]
          by_cases o5 : o = 5
          · rw [if_pos o5, if_pos o5, if_pos rfl]
          · rw [if_neg o5, if_neg o5, if_neg (by decide)]
        · rw [if_neg k2, if_neg k2, if_neg (by decide)]
theorem op_as {M : Mem} (h : RR M) (a b : Int32) : OpI (F_X7_as a b) (F_X8_as a b) M := by
  obtain ⟨⟨f, z, N, U, hg, hx, hm⟩, -⟩ := id h
  have hN := hg.1
  by_cases ha : 0 ≤ a.toInt ∧ a.toInt < N
  · obtain ⟨p, hp, rfl⟩ := t_of ha.1 ha.2
    by_cases hk : 0 ≤ b.toInt ∧ b.toInt ≤ 5
    · obtain ⟨k, hk6, rfl⟩ := t_of (n := 6) hk.1 (by omega)
      have bd := (hg.2.2.1 p hp).1
      obtain ⟨o, ho, eo⟩ := t_of (n := 6) bd.1 (by omega)
      have hX := x_asE hx hN hp hk6 ho eo
      by_cases e : und o k = true
      · exact op_r h (r := U 3 p) (by rw [hX, if_pos e]) (by rw [m_asE hm hN hp hk6 ho eo, if_pos e])
      · refine op_f h (k := 2) (by decide) (by rw [hX, if_neg e]; rfl) (fun M1 hc => ?_)
        rw [m_asE (hm.x hc.x1) hN hp hk6 ho eo, if_neg e]
        rfl
    · refine op_f h (k := 0) (by decide) ?_ (fun M1 hc => ?_)
      · unfold F_X7_as
        rw [x_has hx hN, if_pos ha, Option.bind_some, if_neg (by decide), x_isKind, if_neg hk, Option.bind_some, if_pos rfl, bn_eta]
        rfl
      · unfold F_X8_as
        rw [no_one hm hN hc, if_pos ha, Option.bind_some, if_neg (by decide), m_isKind, if_neg hk, Option.bind_some, if_pos rfl, bn_eta]
        rfl
  · refine op_f h (k := 0) (by decide) ?_ (fun M1 hc => ?_)
    · unfold F_X7_as
      rw [x_has hx hN, if_neg ha, Option.bind_some, if_pos rfl, bn_eta]
      rfl
    · unfold F_X8_as
      rw [no_one hm hN hc, if_neg ha, Option.bind_some, if_pos rfl, bn_eta]
      rfl
/-! ===== lots, Fridays ===== -/
theorem op_swap {M : Mem} (h : RR M) (a b : Int32) : OpI (F_X7_swap a b) (F_X8_swap a b) M := by
  obtain ⟨⟨f, z, N, U, hg, hx, hm⟩, -⟩ := id h
  have hN := hg.1
  by_cases ha : 0 ≤ a.toInt ∧ a.toInt < N
  · by_cases hb : 0 ≤ b.toInt ∧ b.toInt < N
    · obtain ⟨p, hp, rfl⟩ := t_of ha.1 ha.2
      obtain ⟨q, hq, rfl⟩ := t_of hb.1 hb.2
      by_cases e : p = q
      · refine op_f h (k := 0) (by decide) ?_ (fun M1 hc => ?_)
        · unfold F_X7_swap
          rw [x_has hx hN, if_pos ha, Option.bind_some, if_neg (by decide), x_has hx hN, if_pos hb, Option.bind_some, if_neg (by decide), if_pos (by rw [e]), bn_eta]
          rfl
        · unfold F_X8_swap
          rw [no_one hm hN hc, if_pos ha, Option.bind_some, if_neg (by decide), no_one hm hN hc, if_pos hb, Option.bind_some, if_neg (by decide), if_pos (by rw [e]), bn_eta]
          rfl
      · have ne : ¬ nI p = nI q := fun z => e ((nI_eq (by omega) (by omega)).mp z)
        by_cases hal : al U p q
        · obtain ⟨M1, a1, a2, a3⟩ := x_exchange hx (p := p) (q := q) (by omega) (by omega)
          refine op_v h (GV_sw hg hp hq) (r := nI (pc (st N (fun i => sw U p q 5 i = nI i)) 8)) (M1 := M1) ?_ a2 (a3.wk (fun o q => by unfold vlC; omega)) ?_
          · unfold F_X7_swap
            rw [x_has hx hN, if_pos ha, Option.bind_some, if_neg (by decide), x_has hx hN, if_pos hb, Option.bind_some, if_neg (by decide), if_neg ne, x_areAlike hx (by omega) (by omega), if_pos hal, Option.bind_some, if_neg (by decide), a1, Option.bind_some, x_ownCount a2 hN, Option.bind_some]
          · have hm1 := hm.ch a3 (by omega)
            obtain ⟨M2, b1, b2, b3⟩ := m_swaps hm1 (p := p) (q := q) (by omega) (by omega)
            refine ⟨M2, ?_, b2, b3.wk (fun o q => Or.inl q)⟩
            unfold F_X8_swap
            obtain ⟨c1, c2⟩ := m_ownSet b2 hN
            rw [m_isOne hm1 hN, if_pos ha, Option.bind_some, if_neg (by decide), m_isOne hm1 hN, if_pos hb, Option.bind_some, if_neg (by decide), if_neg ne, m_areAlike hm1 (by omega) (by omega), if_pos hal, Option.bind_some, if_neg (by decide), b1, Option.bind_some, c1, Option.bind_some, m_bits c2, Option.bind_some]
        · refine op_f h (k := 4) (by decide) ?_ (fun M1 hc => ?_)
          · unfold F_X7_swap
            rw [x_has hx hN, if_pos ha, Option.bind_some, if_neg (by decide), x_has hx hN, if_pos hb, Option.bind_some, if_neg (by decide), if_neg ne, x_areAlike hx (by omega) (by omega), if_neg hal, Option.bind_some, if_pos rfl, bn_eta]
            rfl
          · unfold F_X8_swap
            rw [no_one hm hN hc, if_pos ha, Option.bind_some, if_neg (by decide), no_one hm hN hc, if_pos hb, Option.bind_some, if_neg (by decide), if_neg ne, m_areAlike (hm.x hc.x1) (by omega) (by omega), if_neg hal, Option.bind_some, if_pos rfl, bn_eta]
            rfl
    · refine op_f h (k := 0) (by decide) ?_ (fun M1 hc => ?_)
      · unfold F_X7_swap
        rw [x_has hx hN, if_pos ha, Option.bind_some, if_neg (by decide), x_has hx hN, if_neg hb, Option.bind_some, if_pos rfl, bn_eta]
        rfl
      · unfold F_X8_swap
        rw [no_one hm hN hc, if_pos ha, Option.bind_some, if_neg (by decide), no_one hm hN hc, if_neg hb, Option.bind_some, if_pos rfl, bn_eta]
        rfl
  · refine op_f h (k := 0) (by decide) ?_ (fun M1 hc => ?_)
    · unfold F_X7_swap
      rw [x_has hx hN, if_neg ha, Option.bind_some, if_pos rfl, bn_eta]
      rfl
    · unfold F_X8_swap
      rw [no_one hm hN hc, if_neg ha, Option.bind_some, if_pos rfl, bn_eta]
      rfl
theorem op_home {M : Mem} (h : RR M) : OpI F_X7_home F_X8_home M := by
  obtain ⟨⟨f, z, N, U, hg, hx, hm⟩, -⟩ := id h
  have hN := hg.1
  obtain ⟨M1, a1, a2, a3⟩ := x_goHome hx hN
  refine op_v h (GV_hm hg) (r := nI N - nI (pc (st N (fun i => U 5 i = nI i)) 8)) (M1 := M1) ?_ a2 (a3.wk (fun o q => by unfold vlC; omega)) ?_
  · unfold F_X7_home
    rw [x_ownCount hx hN, Option.bind_some, a1, Option.bind_some, hx.2.2.1]
  · have hm1 := hm.ch a3 (by omega)
    obtain ⟨M2, b1, b2, b3⟩ := m_allOwn hm1 hN
    obtain ⟨c1, c2⟩ := m_ownSet hm1 hN
    refine ⟨M2, ?_, b2, b3.wk (fun o q => Or.inl q)⟩
    unfold F_X8_home
    rw [n51_2, c1, Option.bind_some, m_bits c2, Option.bind_some, b1, Option.bind_some, hm1.2.2.1]
theorem op_draw {Z : Int32 → Int32} {D : Int32 → Nat → Nat} (hz : ZD Z D) {M : Mem} (h : RR M) : OpI F_X7_draw F_X8_draw M := by
  obtain ⟨⟨f, z, N, U, hg, hx, hm⟩, -⟩ := id h
  have hN := hg.1
  obtain ⟨M1, a1, a2, a3⟩ := x_drawLot hz hx hN
  refine op_v h (GV_dl hz hg) (r := nI (pc (st N (fun i => (dl Z D N (z, U)).2 5 i = nI i)) 8)) (M1 := M1) ?_ a2 (a3.wk (fun o q => by unfold vlC; omega)) ?_
  · unfold F_X7_draw
    rw [a1, Option.bind_some, x_ownCount a2 hN, Option.bind_some]
  · have hm1 := hm.ch a3 (by omega)
    obtain ⟨M2, b1, b2, b3⟩ := m_draws hz hm1 hN
    obtain ⟨c1, c2⟩ := m_ownSet b2 hN
    refine ⟨M2, ?_, b2, b3.wk (fun o q => by omega)⟩
    unfold F_X8_draw
    rw [b1, Option.bind_some, c1, Option.bind_some, m_bits c2, Option.bind_some]
theorem op_seed {M : Mem} (h : RR M) (a : Int32) : OpI (F_X7_seed a) (F_X8_seed a) M := by
  obtain ⟨⟨f, z, N, U, hg, hx, hm⟩, -⟩ := id h
  have hm1 : VM (w_I M 2 1 a) 50 f z N U := hm.ch (P := fun o => o = 2) (Ch.w rfl) (by omega)
  refine op_v h hg (r := z) (M1 := w_I M 2 1 a) ?_ (hx.wz a) (Ch.w (by unfold vlC; omega)) ⟨w_I (w_I M 2 1 a) 50 1 a, ?_, hm1.wz a, Ch.w (Or.inl rfl)⟩
  · unfold F_X7_seed
    rw [pin, hx.2.1]
  · unfold F_X8_seed F_X8_becomes
    rw [n51_1, n51_1, pin, hm1.2.1]
    rfl
/-- n Fridays, the reference's way -/
theorem m_fridays40 {M : Mem} {f z g : Int32} {N : Nat} {U : Nat → Nat → Int32} (h : VM M 50 f z N U) (hg : GV g N U) {n : Nat} (hn : n ≤ 60) : ∃ M1, F_X8_fridays_40 (nI n) FU (0 : Int32) M = some (sm N (frn N U n 2), M1) ∧ VM M1 50 (f + nI n) z N (frn N U n) ∧ Ch (fun o => o = 50 ∨ (53 ≤ o ∧ o ≤ 55)) M M1 := by
  have key : ∀ k m i M1, i + k = n → k < m → VM M1 50 (f + nI i) z N (frn N U i) → Ch (fun o => o = 50 ∨ (53 ≤ o ∧ o ≤ 55)) M M1 → ∃ M2, F_X8_fridays_40 (nI n) m (nI i) M1 = some (sm N (frn N U n 2), M2) ∧ VM M2 50 (f + nI n) z N (frn N U n) ∧ Ch (fun o => o = 50 ∨ (53 ≤ o ∧ o ≤ 55)) M M2 := by
    intro k
    induction k with
    | zero =>
      intro m i M1 h1 h2 hv hc
      obtain ⟨m, rfl⟩ : ∃ q, m = q + 1 := ⟨m - 1, by omega⟩
      have hi : i = n := by omega
      subst hi
      exact ⟨M1, by rw [F_X8_fridays_40, lp_y, show F_X8_sumOf (2 : Int32) M1 = _ from m_sumOf hv hg.1 (w := 2) (by decide), Option.bind_some], hv, hc⟩
    | succ k ih =>
      intro m i M1 h1 h2 hv hc
      obtain ⟨m, rfl⟩ : ∃ q, m = q + 1 := ⟨m - 1, by omega⟩
      obtain ⟨M2, a1, a2, a3⟩ := m_oneFriday hv (GV_frn hg i)
      rw [F_X8_fridays_40, lp_x (by omega) (by omega), a1, Option.bind_some, nI_1]
      rw [nI_pl] at a2
      exact ih m (i + 1) M2 (by omega) (by omega) a2 (hc.tr a3)
  exact key n FU 0 M (by omega) (by show n < 1000; omega) (by rw [nI_0, Int32.add_zero]; exact h) Ch.rf
theorem GV.f {f g : Int32} {N : Nat} {U : Nat → Nat → Int32} (h : GV f N U) (hg : 0 ≤ g.toInt ∧ g.toInt ≤ 9999) : GV g N U := ⟨h.1, hg, h.2.2.1, h.2.2.2⟩
theorem op_fridays {M : Mem} (h : RR M) (a : Int32) : OpI (F_X7_fridays a) (F_X8_fridays a) M := by
  obtain ⟨⟨f, z, N, U, hg, hx, hm⟩, -⟩ := id h
  have hN := hg.1
  have hfb := hg.2.1
  have e60 : (60 : Int32).toInt = 60 := by decide
  have e1 : (1 : Int32).toInt = 1 := by decide
  have e9 : (9999 : Int32).toInt = 9999 := by decide
  by_cases ha : 1 ≤ a.toInt ∧ a.toInt ≤ 60
  · obtain ⟨n, hn, rfl⟩ := t_of (n := 61) (x := a) (by omega) (by omega)
    have hn2 : (nI n).toInt = n := nI_toInt (by omega)
    have hs : (f + nI n).toInt = f.toInt + n := by rw [t_add (by omega) (by omega), hn2]
    have c1 : ¬ nI n < (1 : Int32) := by rw [t_lt, e1]; omega
    have c2 : nI n ≤ (60 : Int32) := by rw [t_le, e60]; omega
    by_cases hf : f.toInt + n ≤ 9999
    · have c3 : f + nI n ≤ (9999 : Int32) := by rw [t_le, hs, e9]; exact hf
      obtain ⟨M1, a1, a2, a3⟩ := x_passFridays hx hg (n := n) (by omega)
      refine op_v h ((GV_frn hg n).f (by rw [hs]; omega)) (r := sm N (frn N U n 2)) (M1 := M1) ?_ a2 (a3.wk (fun o q => by unfold vlC; omega)) ?_
      · unfold F_X7_fridays
        rw [if_neg c1, if_pos c2, hx.1, if_pos c3, a1, Option.bind_some, show F_X4_total 2 5 M1 = _ from x_total a2 hN (w := 2) (by decide), Option.bind_some]
      · have hm1 := hm.ch a3 (by omega)
        obtain ⟨M2, b1, b2, b3⟩ := m_fridays40 hm1 hg (n := n) (by omega)
        refine ⟨M2, ?_, b2, b3.wk (fun o q => by omega)⟩
        unfold F_X8_fridays
        rw [in_e, if_pos (by rw [e1, e60]; exact ha), Option.bind_some, if_neg (by decide), n51_0, hm1.1, if_pos c3, b1]
    · have c3 : ¬ f + nI n ≤ (9999 : Int32) := by rw [t_le, hs, e9]; exact hf
      refine op_f h (k := 4) (by decide) ?_ (fun M1 hc => ?_)
      · unfold F_X7_fridays
        rw [if_neg c1, if_pos c2, hx.1, if_neg c3, bn_eta]
        rfl
      · unfold F_X8_fridays
        rw [in_e, if_pos (by rw [e1, e60]; exact ha), Option.bind_some, if_neg (by decide), n51_0, (hm.x hc.x1).1, if_neg c3, bn_eta]
        rfl
  · refine op_f h (k := 0) (by decide) ?_ (fun M1 hc => ?_)
    · unfold F_X7_fridays
      by_cases c1 : a < (1 : Int32)
      · rw [if_pos c1, bn_eta]; rfl
      · rw [if_neg c1, if_neg (by rw [t_lt, e1] at c1; rw [t_le, e60]; omega), bn_eta]; rfl
    · unfold F_X8_fridays
      rw [in_e, if_neg (by rw [e1, e60]; exact ha), Option.bind_some, if_pos rfl, bn_eta]
      rfl
