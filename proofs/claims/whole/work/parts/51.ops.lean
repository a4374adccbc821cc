/-! ===== people ===== -/
def ad (U : Nat → Nat → Int32) (N : Nat) (k w p n : Int32) : Nat → Nat → Int32 := u2 (u2 (u2 (u2 (u2 (u2 U 0 N k) 1 N w) 2 N p) 3 N n) 4 N 0) 5 N (nI N)
theorem ad_o {U : Nat → Nat → Int32} {N : Nat} {k w p n : Int32} {a b : Nat} (h : b ≠ N) : ad U N k w p n a b = U a b := by
  unfold ad
  rw [u2_n (fun q => h q.2), u2_n (fun q => h q.2), u2_n (fun q => h q.2), u2_n (fun q => h q.2), u2_n (fun q => h q.2), u2_n (fun q => h q.2)]
theorem ad_0 (U : Nat → Nat → Int32) (N : Nat) (k w p n : Int32) : ad U N k w p n 0 N = k := by unfold ad u2; simp
theorem ad_1 (U : Nat → Nat → Int32) (N : Nat) (k w p n : Int32) : ad U N k w p n 1 N = w := by unfold ad u2; simp
theorem ad_2 (U : Nat → Nat → Int32) (N : Nat) (k w p n : Int32) : ad U N k w p n 2 N = p := by unfold ad u2; simp
theorem ad_3 (U : Nat → Nat → Int32) (N : Nat) (k w p n : Int32) : ad U N k w p n 3 N = n := by unfold ad u2; simp
theorem ad_4 (U : Nat → Nat → Int32) (N : Nat) (k w p n : Int32) : ad U N k w p n 4 N = 0 := by unfold ad u2; simp
theorem ad_5 (U : Nat → Nat → Int32) (N : Nat) (k w p n : Int32) : ad U N k w p n 5 N = nI N := by unfold ad u2; simp
theorem x_add {M : Mem} {v : Nat} {f z : Int32} {N : Nat} {U : Nat → Nat → Int32} (h : VX M v f z N U) (hN : N < 8) (a : Int32) : ∃ M1, F_X4_add v a M = some (nI N, M1) ∧ VX M1 v f z (N + 1) (ad U N a 5 10 50) ∧ Ch (fun o => v ≤ o ∧ o ≤ v + 6) M M1 := by
  unfold F_X4_add
  have v1 := h.w (w := 0) (p := N) (by decide) a
  have v2 := v1.w (w := 1) (p := N) (by decide) 5
  have v3 := v2.w (w := 2) (p := N) (by decide) 10
  have v4 := v3.w (w := 3) (p := N) (by decide) 50
  have v5 := v4.w (w := 4) (p := N) (by decide) 0
  have v6 := v5.w (w := 5) (p := N) (by decide) (nI N)
  simp only [h.2.2.1, n_8 hN, pin]
  refine ⟨_, rfl, ?_, ?_⟩
  · rw [show v + 1 = v + (1 + 0) from rfl, show v + 2 = v + (1 + 1) from rfl, show v + 3 = v + (1 + 2) from rfl, show v + 4 = v + (1 + 3) from rfl, show v + 5 = v + (1 + 4) from rfl, show v + 6 = v + (1 + 5) from rfl, v6.2.2.1, nI_1]
    exact v6.wN
  · exact ((((((Ch.w (by omega)).tr (Ch.w (by omega))).tr (Ch.w (by omega))).tr (Ch.w (by omega))).tr (Ch.w (by omega))).tr (Ch.w (by omega))).tr (Ch.w (by omega))
theorem Ch.w50 {M : Mem} {k : Nat} {x : Int32} : Ch (fun o => o = 50) M (w_I M 50 k x) := Ch.w rfl
theorem m_adds {M : Mem} {f z : Int32} {N : Nat} {U : Nat → Nat → Int32} (h : VM M 50 f z N U) (hN : N < 8) (k w p n : Int32) : ∃ M1, F_X8_adds k w p n M = some M1 ∧ VM M1 50 f z (N + 1) (ad U N k w p n) ∧ Ch (fun o => o = 50) M M1 := by
  unfold F_X8_adds
  have v1 := h.w (w := 0) (p := N) (by decide) k
  have v2 := v1.w (w := 1) (p := N) (by decide) w
  have v3 := v2.w (w := 2) (p := N) (by decide) p
  have v4 := v3.w (w := 3) (p := N) (by decide) n
  have v5 := v4.w (w := 4) (p := N) (by decide) 0
  have v6 := v5.w (w := 5) (p := N) (by decide) (nI N)
  simp only [n51_2, h.2.2.1, puts_0 hN, puts_1 hN, puts_2 hN, puts_3 hN, puts_4 hN, puts_5 hN, Option.bind_some, pin]
  refine ⟨_, rfl, ?_, ?_⟩
  · rw [v6.2.2.1, nI_1]
    exact v6.wN
  · exact (((((Ch.w50.tr Ch.w50).tr Ch.w50).tr Ch.w50).tr Ch.w50).tr Ch.w50).tr Ch.w50
theorem GV_ad {f : Int32} {N : Nat} {U : Nat → Nat → Int32} (h : GV f N U) (hN : N < 8) {k w p n : Int32} (hk : 0 ≤ k.toInt ∧ k.toInt ≤ 5) (hw : 0 ≤ w.toInt ∧ w.toInt ≤ 20) (hp : 0 ≤ p.toInt ∧ p.toInt ≤ 99999) (hn : 0 ≤ n.toInt ∧ n.toInt ≤ 99) : GV f (N + 1) (ad U N k w p n) := by
  refine ⟨hN, h.2.1, fun q hq => ?_, fun q hq => ?_, fun a b ha hb e => ?_⟩
  · by_cases e : q = N
    · subst e
      rw [ad_0, ad_1, ad_2, ad_3, ad_4]
      exact ⟨hk, hw, hp, hn, by decide⟩
    · rw [ad_o e, ad_o e, ad_o e, ad_o e, ad_o e]
      exact h.2.2.1 q (by omega)
  · by_cases e : q = N
    · subst e
      exact ⟨q, by omega, ad_5 _ _ _ _ _ _⟩
    · rw [ad_o e]
      obtain ⟨j, h1, h2⟩ := h.2.2.2.1 q (by omega)
      exact ⟨j, by omega, h2⟩
  · by_cases e1 : a = N
    · subst e1
      by_cases e2 : b = a
      · exact e2.symm
      · rw [ad_5, ad_o e2] at e
        obtain ⟨j, h1, h2⟩ := h.2.2.2.1 b (by omega)
        rw [h2, nI_eq (by omega) (by omega)] at e
        omega
    · by_cases e2 : b = N
      · subst e2
        rw [ad_5, ad_o e1] at e
        obtain ⟨j, h1, h2⟩ := h.2.2.2.1 a (by omega)
        rw [h2, nI_eq (by omega) (by omega)] at e
        omega
      · rw [ad_o e1, ad_o e2] at e
        exact h.2.2.2.2 a b (by omega) (by omega) e
theorem x_isKind (a : Int32) (M : Mem) : F_X7_isKind a M = some (if 0 ≤ a.toInt ∧ a.toInt ≤ 5 then 1 else 0) := by
  unfold F_X7_isKind
  simp only [t_lt, t_le, z0, show (6 : Int32).toInt = 6 by decide]
  by_cases h1 : a.toInt < 0
  · rw [if_pos h1, if_neg (by omega)]
  · rw [if_neg h1]
    by_cases h2 : 6 ≤ a.toInt
    · rw [if_pos h2, if_neg (by omega)]
    · rw [if_neg h2, if_pos (by omega)]
theorem m_isKind (a : Int32) (M : Mem) : F_X8_isKind a M = some (if 0 ≤ a.toInt ∧ a.toInt ≤ 5 then 1 else 0) := by
  unfold F_X8_isKind
  simp only [in_e, Option.bind_some, zb_01, z0, show (5 : Int32).toInt = 5 by decide]
theorem one0 : ((1 : Int32) = 0) = False := by simp
theorem op_person {M : Mem} (h : RR M) (a : Int32) : OpI (F_X7_person a) (F_X8_person a) M := by
  obtain ⟨⟨f, z, N, U, hg, hx, hm⟩, -⟩ := id h
  by_cases hk : 0 ≤ a.toInt ∧ a.toInt ≤ 5
  · by_cases hN : N < 8
    · obtain ⟨M1, a1, a2, a3⟩ := x_add hx hN a
      refine op_v h (GV_ad hg hN hk (by decide) (by decide) (by decide)) (r := nI N) (M1 := M1) ?_ a2 (a3.wk (fun o q => by unfold vlC; omega)) ?_
      · unfold F_X7_person F_X4_isFull
        rw [x_isKind, if_pos hk, Option.bind_some, if_neg (by decide), hx.2.2.1, if_pos (show nI N < (8 : Int32) from nI_lt (b := 8) hN (by omega)), Option.bind_some, if_pos rfl, bn_eta, a1]
      · have hm1 := hm.ch a3 (by omega)
        obtain ⟨M2, b1, b2, b3⟩ := m_adds hm1 hN a 5 10 50
        refine ⟨M2, ?_, b2, b3.wk (fun o q => Or.inl q)⟩
        unfold F_X8_person
        rw [m_isKind, if_pos hk, Option.bind_some, if_neg (by decide), n51_2, hm1.2.2.1, if_neg (show ¬ nI N = (8 : Int32) from fun e => by have := (nI_eq (b := 8) (by omega) (by omega)).mp e; omega), b1, Option.bind_some, n51_2, b2.2.2.1, show nI (N + 1) - (1 : Int32) = nI N from nI_pred N]
    · have h8 : N = 8 := by have := hg.1; omega
      subst h8
      refine op_f h (k := 1) (by decide) ?_ (fun M1 hc => ?_)
      · unfold F_X7_person F_X4_isFull
        rw [x_isKind, if_pos hk, Option.bind_some, if_neg (by decide), hx.2.2.1, if_neg (by decide), Option.bind_some, if_neg (by decide), bn_eta]
        rfl
      · unfold F_X8_person
        rw [m_isKind, if_pos hk, Option.bind_some, if_neg (by decide), n51_2, (hm.x hc.x1).2.2.1, if_pos (by decide), bn_eta]
        rfl
  · refine op_f h (k := 0) (by decide) ?_ (fun M1 hc => ?_)
    · unfold F_X7_person
      rw [x_isKind, if_neg hk, Option.bind_some, if_pos rfl, bn_eta]
      rfl
    · unfold F_X8_person
      rw [m_isKind, if_neg hk, Option.bind_some, if_pos rfl, bn_eta]
      rfl
/-- one who isn't there -/
theorem no_one {M : Mem} {f z : Int32} {N : Nat} {U : Nat → Nat → Int32} (hm : VM M 50 f z N U) (hN : N ≤ 8) {M1 : Mem} (hc : Ch (fun o => o = 1) M M1) (a : Int32) : F_X8_isOne a M1 = some (if 0 ≤ a.toInt ∧ a.toInt < N then 1 else 0) := m_isOne (hm.x hc.x1) hN a
theorem op_of {M : Mem} (h : RR M) (a b : Int32) : OpI (F_X7_of a b) (F_X8_of a b) M := by
  obtain ⟨⟨f, z, N, U, hg, hx, hm⟩, -⟩ := id h
  have hN := hg.1
  by_cases ha : 0 ≤ a.toInt ∧ a.toInt < N
  · obtain ⟨p, hp, rfl⟩ := t_of ha.1 ha.2
    have hp8 : p < 8 := by omega
    obtain ⟨q1, q2⟩ := hg.2.2.2.s hN hp
    by_cases hb : 0 ≤ b.toInt ∧ b.toInt ≤ 6
    · obtain ⟨w, hw, rfl⟩ := t_of (n := 7) hb.1 (by omega)
      have e6 : (6 : Int32).toInt = 6 := by decide
      have hin : F_X8_in (nI w) (0 : Int32) (6 : Int32) M = some 1 := by rw [in_e, if_pos (by rw [z0, e6]; exact hb)]
      by_cases h6 : w = 6
      · subst h6
        refine op_r h (r := eU U p (sl U p)) ?_ ?_
        · unfold F_X7_of
          rw [x_has hx hN, if_pos ha, Option.bind_some, if_neg (by decide), if_neg (by decide), if_neg (by decide), if_neg (by decide), if_neg (by decide), if_neg (by decide), if_neg (by decide), if_pos (by decide), n_8 hp8, show (8 : Nat) = 2 + (1 + 5) from rfl, hx.u 5 p (by decide) hp8, q2, x_earning hx hp8 (by omega), Option.bind_some]
        · unfold F_X8_of
          rw [m_isOne hm hN, if_pos ha, Option.bind_some, if_neg (by decide), hin, Option.bind_some, if_neg (by decide), if_pos (by decide), m_earns hm hp8 (by omega) q2, Option.bind_some]
      · refine op_r h (r := U w p) ?_ ?_
        · unfold F_X7_of
          rw [x_has hx hN, if_pos ha, Option.bind_some, if_neg (by decide)]
          simp only [n_8 hp8]
          match w, hw, h6 with
          | 0, _, _ => rw [if_pos (by decide)]; exact congrArg (fun x => some (x, M)) (hx.u 0 p (by decide) hp8)
          | 1, _, _ => rw [if_neg (by decide), if_pos (by decide)]; exact congrArg (fun x => some (x, M)) (hx.u 1 p (by decide) hp8)
          | 2, _, _ => rw [if_neg (by decide), if_neg (by decide), if_pos (by decide)]; exact congrArg (fun x => some (x, M)) (hx.u 2 p (by decide) hp8)
          | 3, _, _ => rw [if_neg (by decide), if_neg (by decide), if_neg (by decide), if_pos (by decide)]; exact congrArg (fun x => some (x, M)) (hx.u 3 p (by decide) hp8)
          | 4, _, _ => rw [if_neg (by decide), if_neg (by decide), if_neg (by decide), if_neg (by decide), if_pos (by decide)]; exact congrArg (fun x => some (x, M)) (hx.u 4 p (by decide) hp8)
          | 5, _, _ => rw [if_neg (by decide), if_neg (by decide), if_neg (by decide), if_neg (by decide), if_neg (by decide), if_pos (by decide)]; exact congrArg (fun x => some (x, M)) (hx.u 5 p (by decide) hp8)
          | 6, _, h6 => exact absurd rfl h6
          | n + 7, hw, _ => omega
        · unfold F_X8_of
          rw [m_isOne hm hN, if_pos ha, Option.bind_some, if_neg (by decide), hin, Option.bind_some, if_neg (by decide), if_neg (show ¬ (6 : Int32) ≤ nI w from nI_ge (b := 6) (by omega) (by omega)), its_n hp8 (by omega), Option.bind_some, hm.u w p (by omega) hp8]
    · refine op_f h (k := 0) (by decide) ?_ (fun M1 hc => ?_)
      · unfold F_X7_of
        have ne : ∀ k : Int32, 0 ≤ k.toInt → k.toInt ≤ 6 → ¬ b = k := fun k h1 h2 e => hb (by rw [e]; exact ⟨h1, h2⟩)
        rw [x_has hx hN, if_pos ha, Option.bind_some, if_neg (by decide), if_neg (ne 0 (by decide) (by decide)), if_neg (ne 1 (by decide) (by decide)), if_neg (ne 2 (by decide) (by decide)), if_neg (ne 3 (by decide) (by decide)), if_neg (ne 4 (by decide) (by decide)), if_neg (ne 5 (by decide) (by decide)), if_neg (ne 6 (by decide) (by decide)), bn_eta]
        rfl
      · unfold F_X8_of
        have e6 : (6 : Int32).toInt = 6 := by decide
        rw [no_one hm hN hc, if_pos ha, Option.bind_some, if_neg (by decide), in_e, if_neg (by rw [z0, e6]; exact hb), Option.bind_some, if_pos rfl, bn_eta]
        rfl
  · refine op_f h (k := 0) (by decide) ?_ (fun M1 hc => ?_)
    · unfold F_X7_of
      rw [x_has hx hN, if_neg ha, Option.bind_some, if_pos rfl, bn_eta]
      rfl
    · unfold F_X8_of
      rw [no_one hm hN hc, if_neg ha, Option.bind_some, if_pos rfl, bn_eta]
      rfl
theorem op_says {M : Mem} (h : RR M) (a : Int32) : OpI (F_X7_says a) (F_X8_says a) M := by
  obtain ⟨⟨f, z, N, U, hg, hx, hm⟩, -⟩ := id h
  have hN := hg.1
  by_cases ha : 0 ≤ a.toInt ∧ a.toInt < N
  · obtain ⟨p, hp, rfl⟩ := t_of ha.1 ha.2
    have hp8 : p < 8 := by omega
    obtain ⟨q1, q2⟩ := hg.2.2.2.s hN hp
    refine op_r h (r := (100 : Int32) + sU U p (sl U p)) ?_ ?_
    · unfold F_X7_says
      rw [x_has hx hN, if_pos ha, Option.bind_some, if_neg (by decide), n_8 hp8, show (8 : Nat) = 2 + (1 + 5) from rfl, hx.u 5 p (by decide) hp8, q2, x_saying hx hp8 (by omega), Option.bind_some]
    · unfold F_X8_says
      rw [m_isOne hm hN, if_pos ha, Option.bind_some, if_neg (by decide), its_5 hp8, Option.bind_some, hm.u 5 p (by decide) hp8, q2, m_saysAs hm hp8 (by omega), Option.bind_some]
  · refine op_f h (k := 0) (by decide) ?_ (fun M1 hc => ?_)
    · unfold F_X7_says
      rw [x_has hx hN, if_neg ha, Option.bind_some, if_pos rfl, bn_eta]
      rfl
    · unfold F_X8_says
      rw [no_one hm hN hc, if_neg ha, Option.bind_some, if_pos rfl, bn_eta]
      rfl
/-- one number of one becomes another -/
theorem x_replace {M : Mem} {f z : Int32} {N : Nat} {U : Nat → Nat → Int32} (hx : VX M 2 f z N U) {w p : Nat} (hw : w < 6) (hp : p < 8) {x m : Int32} (h0 : 0 ≤ x.toInt) (h1 : x.toInt ≤ m.toInt) : F_X7_replace (2 + (1 + w)) (nI p) x m M = some (U w p, w_I M (2 + (1 + w)) p x) := by
  unfold F_X7_replace
  rw [if_neg (by rw [t_lt, z0]; omega), if_pos (by rw [t_le]; exact h1), n_8 hp, n_8 hp, pin, hx.u w p hw hp]
theorem x_replaceN {M : Mem} {a : Nat} {b x m : Int32} (h : ¬ (0 ≤ x.toInt ∧ x.toInt ≤ m.toInt)) : F_X7_replace a b x m M = F_X7_finding (0 : Int32) M := by
  unfold F_X7_replace
  by_cases q : x < 0
  · rw [if_pos q, bn_eta]
  · rw [if_neg q, if_neg (by rw [t_lt, z0] at q; rw [t_le]; omega), bn_eta]
theorem m_becomes {M : Mem} {f z : Int32} {N : Nat} {U : Nat → Nat → Int32} (hm : VM M 50 f z N U) {w p : Nat} (hw : w < 6) (hp : p < 8) (x : Int32) : F_X8_becomes (nI (3 + 6 * p + w)) x M = some (U w p, w_I M 50 (3 + 6 * p + w) x) := by
  unfold F_X8_becomes
  rw [n_51 (by omega), n_51 (by omega), pin, hm.u w p hw hp]
theorem at_n (p w : Nat) : ((3 : Int32) + (6 : Int32) * nI p) + nI w = nI (3 + 6 * p + w) := by
  rw [show (3 : Int32) = nI 3 from rfl, show (6 : Int32) = nI 6 from rfl, pk_mul, nI_add, nI_add]
theorem GV.set {f : Int32} {N : Nat} {U : Nat → Nat → Int32} (h : GV f N U) {w p : Nat} (x : Int32) (hw : (w = 0 ∧ 0 ≤ x.toInt ∧ x.toInt ≤ 5) ∨ (w = 1 ∧ 0 ≤ x.toInt ∧ x.toInt ≤ 20) ∨ (w = 2 ∧ 0 ≤ x.toInt ∧ x.toInt ≤ 99999) ∨ (w = 3 ∧ 0 ≤ x.toInt ∧ x.toInt ≤ 99) ∨ (w = 4 ∧ 0 ≤ x.toInt ∧ x.toInt ≤ 99)) : GV f N (u2 U w p x) := by
  have e5 : ∀ q, u2 U w p x 5 q = U 5 q := fun q => u2_n (fun z => by omega)
  refine ⟨h.1, h.2.1, fun q hq => ?_, fun q hq => by rw [e5]; exact h.2.2.2.1 q hq, fun a b ha hb e => by rw [e5, e5] at e; exact h.2.2.2.2 a b ha hb e⟩
  have b := h.2.2.1 q hq
  unfold u2
  by_cases c : q = p
  · subst c
    rcases hw with ⟨e, hx⟩ | ⟨e, hx⟩ | ⟨e, hx⟩ | ⟨e, hx⟩ | ⟨e, hx⟩ <;> subst e <;> simp [b, hx]
  · simp [c, b]
/-- both set number w of p -/
theorem op_set1 {M : Mem} (h : RR M) {f z : Int32} {N : Nat} {U : Nat → Nat → Int32} (hg : GV f N U) (hx : VX M 2 f z N U) (hm : VM M 50 f z N U) {w p : Nat} (hw : w < 5) (hp : p < N) {x m : Int32} (hm2 : m.toInt = if w = 0 then 5 else if w = 1 then 20 else if w = 2 then 99999 else 99) (hb : 0 ≤ x.toInt ∧ x.toInt ≤ m.toInt) {FX FM : Mem → Option (Int32 × Mem)} (h1 : FX M = F_X7_replace (2 + (1 + w)) (nI p) x m M) (h2 : ∀ M1, VM M1 50 f z N U → FM M1 = F_X8_becomes (nI (3 + 6 * p + w)) x M1) : OpI FX FM M := by
  have hN := hg.1
  have hp8 : p < 8 := by omega
  have hm1 : VM (w_I M (2 + (1 + w)) p x) 50 f z N U := hm.ch (P := fun o => o = 2 + (1 + w)) (Ch.w rfl) (by omega)
  refine op_v h (hg.set x (w := w) (p := p) ?_) (h1.trans (x_replace hx (by omega) hp8 hb.1 hb.2)) (hx.w (by omega) x) (Ch.w (by unfold vlC; omega)) ⟨_, (h2 _ hm1).trans (m_becomes hm1 (by omega) hp8 x), hm1.w (by omega) x, Ch.w (Or.inl rfl)⟩
  match w, hw with
  | 0, _ => simp at hm2; omega
  | 1, _ => simp at hm2; omega
  | 2, _ => simp at hm2; omega
  | 3, _ => simp at hm2; omega
  | 4, _ => simp at hm2; omega
  | n + 5, hw => omega
theorem op_turn {M : Mem} (h : RR M) (a k : Int32) : OpI (F_X7_turn a k) (F_X8_turn a k) M := by
  obtain ⟨⟨f, z, N, U, hg, hx, hm⟩, -⟩ := id h
  have hN := hg.1
  by_cases ha : 0 ≤ a.toInt ∧ a.toInt < N
  · obtain ⟨p, hp, rfl⟩ := t_of ha.1 ha.2
    by_cases hk : 0 ≤ k.toInt ∧ k.toInt ≤ 5
    · refine op_set1 h hg hx hm (w := 0) (by decide) hp (x := k) (m := 5) (by decide) hk ?_ (fun M1 hm1 => ?_)
      · unfold F_X7_turn
        rw [x_has hx hN, if_pos ha, Option.bind_some, if_neg (by decide), bn_eta]
      · unfold F_X8_turn
        rw [m_isOne hm1 hN, if_pos ha, Option.bind_some, if_neg (by decide), m_isKind, if_pos hk, Option.bind_some, if_neg (by decide), bn_eta, ← at_n p 0, nI_0, Int32.add_zero]
    · refine op_f h (k := 0) (by decide) ?_ (fun M1 hc => ?_)
      · unfold F_X7_turn
        rw [x_has hx hN, if_pos ha, Option.bind_some, if_neg (by decide), bn_eta]
        exact x_replaceN hk
      · unfold F_X8_turn
        rw [no_one hm hN hc, if_pos ha, Option.bind_some, if_neg (by decide), m_isKind, if_neg hk, Option.bind_some, if_pos rfl, bn_eta]
        rfl
  · refine op_f h (k := 0) (by decide) ?_ (fun M1 hc => ?_)
    · unfold F_X7_turn
      rw [x_has hx hN, if_neg ha, Option.bind_some, if_pos rfl, bn_eta]
      rfl
    · unfold F_X8_turn
      rw [no_one hm hN hc, if_neg ha, Option.bind_some, if_pos rfl, bn_eta]
      rfl
