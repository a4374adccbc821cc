/-! ===== slips are swapped, drawn ===== -/
/-- U with x at (w, p) -/
def u2 (U : Nat → Nat → Int32) (w p : Nat) (x : Int32) : Nat → Nat → Int32 := fun a b => if a = w ∧ b = p then x else U a b
theorem u2_s (U : Nat → Nat → Int32) (w p : Nat) (x : Int32) : u2 U w p x w p = x := if_pos ⟨rfl, rfl⟩
theorem u2_n {U : Nat → Nat → Int32} {w p a b : Nat} {x : Int32} (h : ¬ (a = w ∧ b = p)) : u2 U w p x a b = U a b := if_neg h
/-- U with p's and q's slips swapped -/
def sw (U : Nat → Nat → Int32) (p q : Nat) : Nat → Nat → Int32 := u2 (u2 U 5 p (U 5 q)) 5 q (U 5 p)
theorem sw_o {U : Nat → Nat → Int32} {p q w b : Nat} (h : w ≠ 5) : sw U p q w b = U w b := by
  unfold sw
  rw [u2_n (fun z => h z.1), u2_n (fun z => h z.1)]
theorem sw_5 {U : Nat → Nat → Int32} {p q b : Nat} : sw U p q 5 b = if b = q then U 5 p else if b = p then U 5 q else U 5 b := by
  unfold sw u2
  by_cases h1 : b = q
  · simp [h1]
  · by_cases h2 : b = p <;> simp [h1, h2]
theorem VX.w {M : Mem} {v : Nat} {f z : Int32} {N : Nat} {U : Nat → Nat → Int32} (h : VX M v f z N U) {w p : Nat} (hw : w < 6) (x : Int32) : VX (w_I M (v + (1 + w)) p x) v f z N (u2 U w p x) := by
  obtain ⟨h1, h2, h3, h4⟩ := h
  refine ⟨?_, ?_, ?_, fun a b ha hb => ?_⟩
  · rw [m_w, if_neg (by omega)]; exact h1
  · rw [m_w, if_neg (by omega)]; exact h2
  · rw [m_w, if_neg (by omega)]; exact h3
  · rw [m_w]
    unfold u2
    by_cases e : a = w ∧ b = p
    · rw [if_pos e, if_pos (by omega)]
    · rw [if_neg e, if_neg (by omega)]
      exact h4 a b ha hb
theorem VM.w {M : Mem} {r : Nat} {f z : Int32} {N : Nat} {U : Nat → Nat → Int32} (h : VM M r f z N U) {w p : Nat} (hw : w < 6) (x : Int32) : VM (w_I M r (3 + 6 * p + w) x) r f z N (u2 U w p x) := by
  obtain ⟨h1, h2, h3, h4⟩ := h
  refine ⟨?_, ?_, ?_, fun a b ha hb => ?_⟩
  · rw [m_w, if_neg (by omega)]; exact h1
  · rw [m_w, if_neg (by omega)]; exact h2
  · rw [m_w, if_neg (by omega)]; exact h3
  · rw [m_w]
    unfold u2
    by_cases e : a = w ∧ b = p
    · rw [if_pos e, if_pos (by omega)]
    · rw [if_neg e, if_neg (by omega)]
      exact h4 a b ha hb
theorem VX.wz {M : Mem} {v : Nat} {f z : Int32} {N : Nat} {U : Nat → Nat → Int32} (h : VX M v f z N U) (x : Int32) : VX (w_I M v 1 x) v f x N U := by
  obtain ⟨h1, h2, h3, h4⟩ := h
  refine ⟨?_, ?_, ?_, fun a b ha hb => ?_⟩
  · rw [m_w, if_neg (by omega)]; exact h1
  · rw [m_w, if_pos ⟨rfl, rfl⟩]
  · rw [m_w, if_neg (by omega)]; exact h3
  · rw [m_w, if_neg (by omega)]; exact h4 a b ha hb
theorem VM.wz {M : Mem} {r : Nat} {f z : Int32} {N : Nat} {U : Nat → Nat → Int32} (h : VM M r f z N U) (x : Int32) : VM (w_I M r 1 x) r f x N U := by
  obtain ⟨h1, h2, h3, h4⟩ := h
  refine ⟨?_, ?_, ?_, fun a b ha hb => ?_⟩
  · rw [m_w, if_neg (by omega)]; exact h1
  · rw [m_w, if_pos ⟨rfl, rfl⟩]
  · rw [m_w, if_neg (by omega)]; exact h3
  · rw [m_w, if_neg (by omega)]; exact h4 a b ha hb
theorem VX.wf {M : Mem} {v : Nat} {f z : Int32} {N : Nat} {U : Nat → Nat → Int32} (h : VX M v f z N U) (x : Int32) : VX (w_I M v 0 x) v x z N U := by
  obtain ⟨h1, h2, h3, h4⟩ := h
  refine ⟨?_, ?_, ?_, fun a b ha hb => ?_⟩
  · rw [m_w, if_pos ⟨rfl, rfl⟩]
  · rw [m_w, if_neg (by omega)]; exact h2
  · rw [m_w, if_neg (by omega)]; exact h3
  · rw [m_w, if_neg (by omega)]; exact h4 a b ha hb
theorem VM.wf {M : Mem} {r : Nat} {f z : Int32} {N : Nat} {U : Nat → Nat → Int32} (h : VM M r f z N U) (x : Int32) : VM (w_I M r 0 x) r x z N U := by
  obtain ⟨h1, h2, h3, h4⟩ := h
  refine ⟨?_, ?_, ?_, fun a b ha hb => ?_⟩
  · rw [m_w, if_pos ⟨rfl, rfl⟩]
  · rw [m_w, if_neg (by omega)]; exact h2
  · rw [m_w, if_neg (by omega)]; exact h3
  · rw [m_w, if_neg (by omega)]; exact h4 a b ha hb
theorem VX.wN {M : Mem} {v : Nat} {f z : Int32} {N K : Nat} {U : Nat → Nat → Int32} (h : VX M v f z N U) : VX (w_I M v 2 (nI K)) v f z K U := by
  obtain ⟨h1, h2, h3, h4⟩ := h
  refine ⟨?_, ?_, ?_, fun a b ha hb => ?_⟩
  · rw [m_w, if_neg (by omega)]; exact h1
  · rw [m_w, if_neg (by omega)]; exact h2
  · rw [m_w, if_pos ⟨rfl, rfl⟩]
  · rw [m_w, if_neg (by omega)]; exact h4 a b ha hb
theorem VM.wN {M : Mem} {r : Nat} {f z : Int32} {N K : Nat} {U : Nat → Nat → Int32} (h : VM M r f z N U) : VM (w_I M r 2 (nI K)) r f z K U := by
  obtain ⟨h1, h2, h3, h4⟩ := h
  refine ⟨?_, ?_, ?_, fun a b ha hb => ?_⟩
  · rw [m_w, if_neg (by omega)]; exact h1
  · rw [m_w, if_neg (by omega)]; exact h2
  · rw [m_w, if_pos ⟨rfl, rfl⟩]
  · rw [m_w, if_neg (by omega)]; exact h4 a b ha hb
theorem x_exchange {M : Mem} {v : Nat} {f z : Int32} {N : Nat} {U : Nat → Nat → Int32} (h : VX M v f z N U) {p q : Nat} (hp : p < 8) (hq : q < 8) : ∃ M1, F_X4_exchange v (nI p) (nI q) M = some M1 ∧ VX M1 v f z N (sw U p q) ∧ Ch (fun o => o = v + 6) M M1 := by
  unfold F_X4_exchange
  simp only [n_8 hp, n_8 hq, pin]
  refine ⟨_, rfl, ?_, Ch.tr (Ch.w rfl) (Ch.w rfl)⟩
  rw [show v + 6 = v + (1 + 5) from rfl, h.u 5 p (by decide) hp, h.u 5 q (by decide) hq]
  exact (h.w (by decide) _).w (by decide) _
theorem m_swaps {M : Mem} {f z : Int32} {N : Nat} {U : Nat → Nat → Int32} (h : VM M 50 f z N U) {p q : Nat} (hp : p < 8) (hq : q < 8) : ∃ M1, F_X8_swaps (nI p) (nI q) M = some M1 ∧ VM M1 50 f z N (sw U p q) ∧ Ch (fun o => o = 50) M M1 := by
  unfold F_X8_swaps
  simp only [its_5 hp, its_5 hq, puts_5 hp, puts_5 hq, Option.bind_some]
  refine ⟨_, rfl, ?_, Ch.tr (Ch.w rfl) (Ch.w rfl)⟩
  rw [h.u 5 p (by decide) hp, h.u 5 q (by decide) hq]
  exact (h.w (by decide) _).w (by decide) _
/-- all have their own -/
def hm (N : Nat) (U : Nat → Nat → Int32) : Nat → Nat → Int32 := fun w p => if w = 5 ∧ p < N then nI p else U w p
theorem hm_s (i : Nat) (U : Nat → Nat → Int32) : hm (i + 1) U = u2 (hm i U) 5 i (nI i) := by
  funext a b
  show (if a = 5 ∧ b < i + 1 then nI b else U a b) = if a = 5 ∧ b = i then nI i else if a = 5 ∧ b < i then nI b else U a b
  by_cases e1 : a = 5 ∧ b = i
  · rw [if_pos e1, if_pos (by omega), e1.2]
  · rw [if_neg e1]
    by_cases e2 : a = 5 ∧ b < i
    · rw [if_pos e2, if_pos (by omega)]
    · rw [if_neg e2, if_neg (by omega)]
theorem x_goHome {M : Mem} {v : Nat} {f z : Int32} {N : Nat} {U : Nat → Nat → Int32} (h : VX M v f z N U) (hN : N ≤ 8) : ∃ M1, F_X4_goHome v M = some M1 ∧ VX M1 v f z N (hm N U) ∧ Ch (fun o => o = v + 6) M M1 := by
  unfold F_X4_goHome
  have key : ∀ k n i M1, i + k = N → k < n → VX M1 v f z N (hm i U) → Ch (fun o => o = v + 6) M M1 → ∃ M2, F_X4_goHome_2 v n (nI i) M1 = some M2 ∧ VX M2 v f z N (hm N U) ∧ Ch (fun o => o = v + 6) M M2 := by
    intro k
    induction k with
    | zero =>
      intro n i M1 h1 h2 hv hc
      obtain ⟨m, rfl⟩ : ∃ m, n = m + 1 := ⟨n - 1, by omega⟩
      have hi : i = N := by omega
      subst hi
      exact ⟨M1, by rw [F_X4_goHome_2, hv.2.2.1, lp_y], hv, hc⟩
    | succ k ih =>
      intro n i M1 h1 h2 hv hc
      obtain ⟨m, rfl⟩ : ∃ m, n = m + 1 := ⟨n - 1, by omega⟩
      rw [F_X4_goHome_2, hv.2.2.1, lp_x (by omega) (by omega), n_8 (by omega), pin, nI_1]
      refine ih m (i + 1) _ (by omega) (by omega) ?_ (hc.tr (Ch.w rfl))
      rw [hm_s]
      exact hv.w (w := 5) (by decide) _
  refine key N FU 0 M (by omega) (by show N < 1000; omega) ?_ Ch.rf
  have e : hm 0 U = U := by
    funext a b
    unfold hm
    rw [if_neg (by omega)]
  rw [e]
  exact h
theorem m_allOwn {M : Mem} {f z : Int32} {N : Nat} {U : Nat → Nat → Int32} (h : VM M 50 f z N U) (hN : N ≤ 8) : ∃ M1, F_X8_allOwn M = some M1 ∧ VM M1 50 f z N (hm N U) ∧ Ch (fun o => o = 50) M M1 := by
  unfold F_X8_allOwn
  have key : ∀ k n i M1, i + k = N → k < n → VM M1 50 f z N (hm i U) → Ch (fun o => o = 50) M M1 → ∃ M2, F_X8_allOwn_2 n (nI i) M1 = some M2 ∧ VM M2 50 f z N (hm N U) ∧ Ch (fun o => o = 50) M M2 := by
    intro k
    induction k with
    | zero =>
      intro n i M1 h1 h2 hv hc
      obtain ⟨m, rfl⟩ : ∃ m, n = m + 1 := ⟨n - 1, by omega⟩
      have hi : i = N := by omega
      subst hi
      exact ⟨M1, by rw [F_X8_allOwn_2, n51_2, hv.2.2.1, lp_y], hv, hc⟩
    | succ k ih =>
      intro n i M1 h1 h2 hv hc
      obtain ⟨m, rfl⟩ : ∃ m, n = m + 1 := ⟨n - 1, by omega⟩
      rw [F_X8_allOwn_2, n51_2, hv.2.2.1, lp_x (by omega) (by omega), puts_5 (by omega), Option.bind_some, nI_1]
      refine ih m (i + 1) _ (by omega) (by omega) ?_ (hc.tr (Ch.w rfl))
      rw [hm_s]
      exact hv.w (w := 5) (by decide) _
  refine key N FU 0 M (by omega) (by show N < 1000; omega) ?_ Ch.rf
  have e : hm 0 U = U := by
    funext a b
    unfold hm
    rw [if_neg (by omega)]
  rw [e]
  exact h
/-! who draws: the places of those of one age, in order -/
/-- (drawers so far, how many) behind the first i -/
def dr (U : Nat → Nat → Int32) (a : Int32) : Nat → (Nat → Nat) × Nat
  | 0 => (fun _ => 0, 0)
  | i + 1 => if (if U 0 i = 3 then (1 : Int32) else 0) = a then (fun j => if j = (dr U a i).2 then i else (dr U a i).1 j, (dr U a i).2 + 1) else dr U a i
theorem dr_le (U : Nat → Nat → Int32) (a : Int32) : ∀ i, (dr U a i).2 ≤ i
  | 0 => Nat.le_refl 0
  | i + 1 => by
    have := dr_le U a i
    rw [dr]
    by_cases e : (if U 0 i = 3 then (1 : Int32) else 0) = a
    · rw [if_pos e]
      show (dr U a i).2 + 1 ≤ i + 1
      omega
    · rw [if_neg e]
      omega
theorem dr_lt (U : Nat → Nat → Int32) (a : Int32) : ∀ i j, j < (dr U a i).2 → (dr U a i).1 j < i ∧ (if U 0 ((dr U a i).1 j) = 3 then (1 : Int32) else 0) = a
  | 0, j, h => absurd h (Nat.not_lt_zero j)
  | i + 1, j, h => by
    have ih := dr_lt U a i j
    rw [dr] at h ⊢
    by_cases e : (if U 0 i = 3 then (1 : Int32) else 0) = a
    · rw [if_pos e] at h ⊢
      show (if j = (dr U a i).2 then i else (dr U a i).1 j) < i + 1 ∧ (if U 0 (if j = (dr U a i).2 then i else (dr U a i).1 j) = 3 then (1 : Int32) else 0) = a
      by_cases q : j = (dr U a i).2
      · rw [if_pos q]; exact ⟨by omega, e⟩
      · rw [if_neg q]
        have h' : j < (dr U a i).2 + 1 := h
        have := ih (by omega)
        exact ⟨by omega, this.2⟩
    · rw [if_neg e] at h ⊢
      have := ih h
      exact ⟨by omega, this.2⟩
/-- the next z; what is drawn among n -/
def zn (z : Int32) : Int32 := z * 1103515245 + 12345
def dn (z : Int32) (n : Nat) : Nat := (zn z).toBitVec.toNat / 65536 % n
theorem dn_e (z : Int32) {n : Nat} (h0 : 0 < n) (hn : n ≤ 8) : (((zn z).toUInt32 >>> ((16 : Int32).toUInt32 &&& Int32.toUInt32 31)).toInt32) - (((zn z).toUInt32 >>> ((16 : Int32).toUInt32 &&& Int32.toUInt32 31)).toInt32) / nI n * nI n = nI (dn z n) := by
  have e := pk_ushr (zn z) 16 16 (by decide)
  have hx : ((zn z).toUInt32 >>> ((16 : Int32).toUInt32 &&& Int32.toUInt32 31)).toInt32 = nI ((zn z).toBitVec.toNat / 65536) := by
    apply Int32.toBitVec_inj.mp
    apply BitVec.eq_of_toNat_eq
    rw [e]
    have hb := (zn z).toBitVec.isLt
    rw [pk_tn (by omega)]
  rw [hx]
  have hb := (zn z).toBitVec.isLt
  exact pk_rem (by omega) h0 (by omega)
/-- what Z and D must be: kept apart, so that nobody reckons with them -/
def ZD (Z : Int32 → Int32) (D : Int32 → Nat → Nat) : Prop := ∀ z : Int32, z * (1103515245 : Int32) + (12345 : Int32) = Z z ∧ ∀ n, 0 < n → n ≤ 8 → D z n < n ∧ (((Z z).toUInt32 >>> ((16 : Int32).toUInt32 &&& Int32.toUInt32 31)).toInt32) - (((Z z).toUInt32 >>> ((16 : Int32).toUInt32 &&& Int32.toUInt32 31)).toInt32) / nI n * nI n = nI (D z n)
theorem zd_ok : ZD zn dn := fun z => ⟨rfl, fun _ h0 hn => ⟨Nat.mod_lt _ h0, dn_e z h0 hn⟩⟩
/-- the swaps of one age: from the k-th down to the second -/
def ds (Z : Int32 → Int32) (D : Int32 → Nat → Nat) (d : Nat → Nat) : Nat → Int32 × (Nat → Nat → Int32) → Int32 × (Nat → Nat → Int32)
  | 0, s => s
  | k + 1, s => ds Z D d k (Z s.1, sw s.2 (d (k + 1)) (d (D s.1 (k + 1 + 1))))
theorem ds_o (Z : Int32 → Int32) (D : Int32 → Nat → Nat) (d : Nat → Nat) : ∀ k (s : Int32 × (Nat → Nat → Int32)) w b, w ≠ 5 → (ds Z D d k s).2 w b = s.2 w b
  | 0, _, _, _, _ => rfl
  | k + 1, s, w, b, h => by rw [ds, ds_o Z D d k _ w b h]; exact sw_o h
theorem x_drawAmong {Z : Int32 → Int32} {D : Int32 → Nat → Nat} (hz : ZD Z D) {M : Mem} {v : Nat} {f z : Int32} {N : Nat} {U : Nat → Nat → Int32} (h : VX M v f z N U) {n : Nat} (h0 : 0 < n) (hn : n ≤ 8) : F_X4_drawAmong v (nI n) M = some (nI (D z n), w_I M v 1 (Z z)) := by
  unfold F_X4_drawAmong
  rw [h.2.1, (hz z).1]
  simp only [pin, m_w, and_self, if_true]
  rw [if_neg (nI_nle h0 (by omega)), dv, if_neg (nI_ne0 h0 (by omega)), ((hz z).2 n h0 hn).2]
theorem m_drawn {Z : Int32 → Int32} {D : Int32 → Nat → Nat} (hz : ZD Z D) {M : Mem} {f z : Int32} {N : Nat} {U : Nat → Nat → Int32} (h : VM M 50 f z N U) {n : Nat} (h0 : 0 < n) (hn : n ≤ 8) : F_X8_drawn (nI n) M = some (nI (D z n), w_I M 50 1 (Z z)) := by
  unfold F_X8_drawn
  simp only [n51_1]
  rw [h.2.1, (hz z).1]
  simp only [pin, m_w, and_self, if_true]
  rw [dv, if_neg (nI_ne0 h0 (by omega)), ((hz z).2 n h0 hn).2]
/-- the class's swaps -/
theorem x_sh41 {Z : Int32 → Int32} {D : Int32 → Nat → Nat} (hz : ZD Z D) {v : Nat} {f : Int32} {N : Nat} {a : Int32} (d : Nat → Nat) : ∀ k n (z : Int32) (U : Nat → Nat → Int32) (M : Mem), k < n → k < 8 → (∀ j, j ≤ k → d j < 8) → VX M v f z N U → (∀ j, j ≤ k → m_I M (v + 10) j = nI (d j)) → ∃ M1, F_X4_shuffle_41 v a n (nI k) M = some M1 ∧ VX M1 v f (ds Z D d k (z, U)).1 N (ds Z D d k (z, U)).2 ∧ Ch (fun o => o = v ∨ o = v + 6) M M1
  | 0, n, z, U, M, h1, h2, hd, hv, hm => by
    obtain ⟨m, rfl⟩ : ∃ m, n = m + 1 := ⟨n - 1, by omega⟩
    refine ⟨M, ?_, hv, Ch.rf⟩
    rw [F_X4_shuffle_41, if_pos (by decide)]
  | k + 1, n, z, U, M, h1, h2, hd, hv, hm => by
    obtain ⟨m, rfl⟩ : ∃ m, n = m + 1 := ⟨n - 1, by omega⟩
    rw [F_X4_shuffle_41, if_neg (show ¬ nI (k + 1) < (1 : Int32) from nI_nlt (a := k + 1) (b := 1) (by omega) (by omega)), n_8 h2, nI_1, x_drawAmong hz hv (by omega) (by omega)]
    simp only [bn]
    have hq := ((hz z).2 (k + 1 + 1) (by omega) (by omega)).1
    rw [n_8 (by omega)]
    have e1 : m_I M (v + 10) (k + 1) = nI (d (k + 1)) := hm (k + 1) (Nat.le_refl _)
    have e2 : m_I (w_I M v 1 (Z z)) (v + 10) (D z (k + 1 + 1)) = nI (d (D z (k + 1 + 1))) := by rw [m_w, if_neg (by omega)]; exact hm _ (by omega)
    rw [e1, e2]
    obtain ⟨M2, f1, f2, f3⟩ := x_exchange (hv.wz (Z z)) (hd (k + 1) (Nat.le_refl _)) (hd (D z (k + 1 + 1)) (by omega))
    rw [f1, Option.bind_some, show nI (k + 1) + (-1 : Int32) = nI k from pk_m1 k]
    obtain ⟨M3, g1, g2, g3⟩ := x_sh41 hz (a := a) d k m (Z z) (sw U (d (k + 1)) (d (D z (k + 1 + 1)))) M2 (by omega) (by omega) (fun j hj => hd j (by omega)) f2 (fun j hj => by rw [(f3 (v + 10) (by show ¬ v + 10 = v + 6; omega)).1, m_w, if_neg (by omega)]; exact hm j (by omega))
    exact ⟨M3, g1, g2, ((Ch.w (P := fun o => o = v ∨ o = v + 6) (Or.inl rfl)).tr (f3.wk (fun o h => Or.inr h))).tr g3⟩
theorem m_sh43 {Z : Int32 → Int32} {D : Int32 → Nat → Nat} (hz : ZD Z D) {f : Int32} {N : Nat} {a : Int32} (d : Nat → Nat) : ∀ k n (z : Int32) (U : Nat → Nat → Int32) (M : Mem), k < n → k < 8 → (∀ j, j ≤ k → d j < 8) → VM M 50 f z N U → (∀ j, j ≤ k → m_I M 52 j = nI (d j)) → ∃ M1, F_X8_drawsOf_43 a n (nI k) M = some M1 ∧ VM M1 50 f (ds Z D d k (z, U)).1 N (ds Z D d k (z, U)).2 ∧ Ch (fun o => o = 50) M M1
  | 0, n, z, U, M, h1, h2, hd, hv, hm => by
    obtain ⟨m, rfl⟩ : ∃ m, n = m + 1 := ⟨n - 1, by omega⟩
    refine ⟨M, ?_, hv, Ch.rf⟩
    rw [F_X8_drawsOf_43, if_pos (by decide)]
  | k + 1, n, z, U, M, h1, h2, hd, hv, hm => by
    obtain ⟨m, rfl⟩ : ∃ m, n = m + 1 := ⟨n - 1, by omega⟩
    rw [F_X8_drawsOf_43, if_neg (nI_nle (n := k + 1) (by omega) (by omega)), n_8 h2, nI_1, m_drawn hz hv (by omega) (by omega)]
    simp only [bn]
    have hq := ((hz z).2 (k + 1 + 1) (by omega) (by omega)).1
    rw [n_8 (by omega)]
    have e1 : m_I M 52 (k + 1) = nI (d (k + 1)) := hm (k + 1) (Nat.le_refl _)
    have e2 : m_I (w_I M 50 1 (Z z)) 52 (D z (k + 1 + 1)) = nI (d (D z (k + 1 + 1))) := by rw [m_w, if_neg (by omega)]; exact hm _ (by omega)
    rw [e1, e2]
    obtain ⟨M2, f1, f2, f3⟩ := m_swaps (hv.wz (Z z)) (hd (k + 1) (Nat.le_refl _)) (hd (D z (k + 1 + 1)) (by omega))
    rw [f1, Option.bind_some, show nI (k + 1) + (-1 : Int32) = nI k from pk_m1 k]
    obtain ⟨M3, g1, g2, g3⟩ := m_sh43 hz (a := a) d k m (Z z) (sw U (d (k + 1)) (d (D z (k + 1 + 1)))) M2 (by omega) (by omega) (fun j hj => hd j (by omega)) f2 (fun j hj => by rw [(f3 52 (by decide)).1, m_w, if_neg (by omega)]; exact hm j (by omega))
    exact ⟨M3, g1, g2, ((Ch.w (P := fun o => o = 50) rfl).tr f3).tr g3⟩
/-- all of one age draw -/
def da (Z : Int32 → Int32) (D : Int32 → Nat → Nat) (N : Nat) (a : Int32) (s : Int32 × (Nat → Nat → Int32)) : Int32 × (Nat → Nat → Int32) := ds Z D (dr s.2 a N).1 ((dr s.2 a N).2 - 1) s
theorem x_shuffle {Z : Int32 → Int32} {D : Int32 → Nat → Nat} (hz : ZD Z D) {M : Mem} {v : Nat} {f z : Int32} {N : Nat} {U : Nat → Nat → Int32} (h : VX M v f z N U) (hN : N ≤ 8) (a : Int32) : ∃ M1, F_X4_shuffle v a M = some M1 ∧ VX M1 v f (da Z D N a (z, U)).1 N (da Z D N a (z, U)).2 ∧ Ch (fun o => v ≤ o ∧ o ≤ v + 10) M M1 := by
  unfold F_X4_shuffle
  have key : ∀ k n i M1, i + k = N → k < n → VX M1 v f z N U → (∀ j, j < (dr U a i).2 → m_I M1 (v + 10) j = nI ((dr U a i).1 j)) → Ch (fun o => v ≤ o ∧ o ≤ v + 10) M M1 → ∃ M2, F_X4_shuffle_4 v a n (nI (dr U a i).2) (nI i) M1 = some M2 ∧ VX M2 v f (da Z D N a (z, U)).1 N (da Z D N a (z, U)).2 ∧ Ch (fun o => v ≤ o ∧ o ≤ v + 10) M M2 := by
    intro k
    induction k with
    | zero =>
      intro n i M1 h1 h2 hv hj hc
      obtain ⟨m, rfl⟩ : ∃ m, n = m + 1 := ⟨n - 1, by omega⟩
      have hi : i = N := by omega
      subst hi
      rw [F_X4_shuffle_4, hv.2.2.1, lp_y]
      have hl := dr_le U a i
      by_cases e : (dr U a i).2 = 0
      · refine ⟨M1, ?_, ?_, hc⟩
        · rw [e, show FU = 999 + 1 from rfl, F_X4_shuffle_41, if_pos (by decide)]
        · unfold da
          show VX M1 v f (ds Z D _ ((dr U a i).2 - 1) _).1 i (ds Z D _ ((dr U a i).2 - 1) _).2
          rw [e]
          exact hv
      · rw [show nI (dr U a i).2 - (1 : Int32) = nI ((dr U a i).2 - 1) from pk_sub (b := 1) (by omega)]
        obtain ⟨M2, g1, g2, g3⟩ := x_sh41 hz (v := v) (f := f) (N := i) (a := a) (dr U a i).1 ((dr U a i).2 - 1) FU z U M1 (by show _ < 1000; omega) (by omega) (fun j hj2 => by have := (dr_lt U a i j (by omega)).1; omega) hv (fun j hj2 => hj j (by omega))
        exact ⟨M2, g1, g2, hc.tr (g3.wk (fun o h => by rcases h with h | h <;> omega))⟩
    | succ k ih =>
      intro n i M1 h1 h2 hv hj hc
      obtain ⟨m, rfl⟩ : ∃ m, n = m + 1 := ⟨n - 1, by omega⟩
      have hl := dr_le U a i
      rw [F_X4_shuffle_4, hv.2.2.1, lp_x (by omega) (by omega), x_isChild hv (by omega), Option.bind_some, nI_1 i]
      have hs := ih m (i + 1)
      rw [dr] at hs
      by_cases e : (if U 0 i = 3 then (1 : Int32) else 0) = a
      · rw [if_pos e] at hs
        rw [if_pos e, n_8 (by omega), pin, nI_1]
        refine hs _ (by omega) (by omega) (hv.ch (P := fun o => o = v + 10) (Ch.w rfl) (fun o h1 h2 => by omega)) (fun j hj2 => ?_) (hc.tr (Ch.w (by omega)))
        rw [m_w]
        show (if v + 10 = v + 10 ∧ j = (dr U a i).2 then nI i else m_I M1 (v + 10) j) = nI (if j = (dr U a i).2 then i else (dr U a i).1 j)
        have hj3 : j < (dr U a i).2 + 1 := hj2
        by_cases q : j = (dr U a i).2
        · rw [if_pos ⟨rfl, q⟩, if_pos q]
        · rw [if_neg (fun z => q z.2), if_neg q]
          exact hj j (by omega)
      · rw [if_neg e] at hs
        rw [if_neg e]
        exact hs M1 (by omega) (by omega) hv hj hc
  exact key N FU 0 M (by omega) (by show N < 1000; omega) h (fun j hj => absurd hj (Nat.not_lt_zero j)) Ch.rf
theorem m_drawsOf {Z : Int32 → Int32} {D : Int32 → Nat → Nat} (hz : ZD Z D) {M : Mem} {f z : Int32} {N : Nat} {U : Nat → Nat → Int32} (h : VM M 50 f z N U) (hN : N ≤ 8) (a : Int32) : ∃ M1, F_X8_drawsOf a M = some M1 ∧ VM M1 50 f (da Z D N a (z, U)).1 N (da Z D N a (z, U)).2 ∧ Ch (fun o => o = 50 ∨ o = 52) M M1 := by
  unfold F_X8_drawsOf
  have key : ∀ k n i M1, i + k = N → k < n → VM M1 50 f z N U → (∀ j, j < (dr U a i).2 → m_I M1 52 j = nI ((dr U a i).1 j)) → Ch (fun o => o = 50 ∨ o = 52) M M1 → ∃ M2, F_X8_drawsOf_4 a n (nI (dr U a i).2) (nI i) M1 = some M2 ∧ VM M2 50 f (da Z D N a (z, U)).1 N (da Z D N a (z, U)).2 ∧ Ch (fun o => o = 50 ∨ o = 52) M M2 := by
    intro k
    induction k with
    | zero =>
      intro n i M1 h1 h2 hv hj hc
      obtain ⟨m, rfl⟩ : ∃ m, n = m + 1 := ⟨n - 1, by omega⟩
      have hi : i = N := by omega
      subst hi
      rw [F_X8_drawsOf_4, n51_2, hv.2.2.1, lp_y]
      have hl := dr_le U a i
      by_cases e : (dr U a i).2 = 0
      · refine ⟨M1, ?_, ?_, hc⟩
        · rw [e, show FU = 999 + 1 from rfl, F_X8_drawsOf_43, if_pos (by decide)]
        · unfold da
          show VM M1 50 f (ds Z D _ ((dr U a i).2 - 1) _).1 i (ds Z D _ ((dr U a i).2 - 1) _).2
          rw [e]
          exact hv
      · rw [show nI (dr U a i).2 - (1 : Int32) = nI ((dr U a i).2 - 1) from pk_sub (b := 1) (by omega)]
        obtain ⟨M2, g1, g2, g3⟩ := m_sh43 hz (f := f) (N := i) (a := a) (dr U a i).1 ((dr U a i).2 - 1) FU z U M1 (by show _ < 1000; omega) (by omega) (fun j hj2 => by have := (dr_lt U a i j (by omega)).1; omega) hv (fun j hj2 => hj j (by omega))
        exact ⟨M2, g1, g2, hc.tr (g3.wk (fun o h => Or.inl h))⟩
    | succ k ih =>
      intro n i M1 h1 h2 hv hj hc
      obtain ⟨m, rfl⟩ : ∃ m, n = m + 1 := ⟨n - 1, by omega⟩
      have hl := dr_le U a i
      rw [F_X8_drawsOf_4, n51_2, hv.2.2.1, lp_x (by omega) (by omega), m_isChild hv (by omega), Option.bind_some, nI_1 i]
      have hs := ih m (i + 1)
      rw [dr] at hs
      by_cases e : (if U 0 i = 3 then (1 : Int32) else 0) = a
      · rw [if_pos e] at hs
        rw [if_pos e, n_8 (by omega), pin, nI_1]
        refine hs _ (by omega) (by omega) (hv.ch (P := fun o => o = 52) (Ch.w rfl) (by decide)) (fun j hj2 => ?_) (hc.tr (Ch.w (Or.inr rfl)))
        rw [m_w]
        show (if 52 = 52 ∧ j = (dr U a i).2 then nI i else m_I M1 52 j) = nI (if j = (dr U a i).2 then i else (dr U a i).1 j)
        have hj3 : j < (dr U a i).2 + 1 := hj2
        by_cases q : j = (dr U a i).2
        · rw [if_pos ⟨rfl, q⟩, if_pos q]
        · rw [if_neg (fun z => q z.2), if_neg q]
          exact hj j (by omega)
      · rw [if_neg e] at hs
        rw [if_neg e]
        exact hs M1 (by omega) (by omega) hv hj hc
  exact key N FU 0 M (by omega) (by show N < 1000; omega) h (fun j hj => absurd hj (Nat.not_lt_zero j)) Ch.rf
/-- a lot is drawn -/
def dl (Z : Int32 → Int32) (D : Int32 → Nat → Nat) (N : Nat) (s : Int32 × (Nat → Nat → Int32)) : Int32 × (Nat → Nat → Int32) := da Z D N 1 (da Z D N 0 (s.1, hm N s.2))
theorem x_drawLot {Z : Int32 → Int32} {D : Int32 → Nat → Nat} (hz : ZD Z D) {M : Mem} {v : Nat} {f z : Int32} {N : Nat} {U : Nat → Nat → Int32} (h : VX M v f z N U) (hN : N ≤ 8) : ∃ M1, F_X4_drawLot v M = some M1 ∧ VX M1 v f (dl Z D N (z, U)).1 N (dl Z D N (z, U)).2 ∧ Ch (fun o => v ≤ o ∧ o ≤ v + 10) M M1 := by
  unfold F_X4_drawLot
  obtain ⟨M1, a1, a2, a3⟩ := x_goHome h hN
  obtain ⟨M2, b1, b2, b3⟩ := x_shuffle hz a2 hN 0
  obtain ⟨M3, c1, c2, c3⟩ := x_shuffle hz b2 hN 1
  refine ⟨M3, ?_, c2, ((a3.wk (fun o h => by omega)).tr b3).tr c3⟩
  rw [a1, Option.bind_some, b1, Option.bind_some, c1, Option.bind_some]
theorem m_draws {Z : Int32 → Int32} {D : Int32 → Nat → Nat} (hz : ZD Z D) {M : Mem} {f z : Int32} {N : Nat} {U : Nat → Nat → Int32} (h : VM M 50 f z N U) (hN : N ≤ 8) : ∃ M1, F_X8_draws M = some M1 ∧ VM M1 50 f (dl Z D N (z, U)).1 N (dl Z D N (z, U)).2 ∧ Ch (fun o => o = 50 ∨ o = 52) M M1 := by
  unfold F_X8_draws
  obtain ⟨M1, a1, a2, a3⟩ := m_allOwn h hN
  obtain ⟨M2, b1, b2, b3⟩ := m_drawsOf hz a2 hN 0
  obtain ⟨M3, c1, c2, c3⟩ := m_drawsOf hz b2 hN 1
  refine ⟨M3, ?_, c2, ((a3.wk (fun o h => Or.inl h)).tr b3).tr c3⟩
  rw [a1, Option.bind_some, b1, Option.bind_some, c1, Option.bind_some]
