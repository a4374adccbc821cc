/-! ===== a Friday goes ===== -/
def hC (m x : Int32) : Int32 := if 0 ≤ x then (if x ≤ m then x else m) else 0
theorem held_e (x m : Int32) (M : Mem) : F_X8_held x (0 : Int32) m M = some (hC m x) := by
  unfold F_X8_held hC
  split <;> (try split) <;> rfl
theorem z0 : (0 : Int32).toInt = 0 := by decide
theorem mn_hC {m x : Int32} (h : 0 ≤ x.toInt) : (if x < m then x else m) = hC m x := by
  unfold hC
  simp only [t_lt, t_le, z0]
  rw [if_pos h]
  by_cases q : x.toInt < m.toInt
  · rw [if_pos q, if_pos (by omega)]
  · rw [if_neg q]
    by_cases r : x.toInt ≤ m.toInt
    · rw [if_pos r]; exact (t_eq m x).mpr (by omega)
    · rw [if_neg r]
theorem mm_hC (x : Int32) : (if (0 : Int32) < (if x < (99 : Int32) then x else (99 : Int32)) then (if x < (99 : Int32) then x else (99 : Int32)) else (0 : Int32)) = hC 99 x := by
  unfold hC
  simp only [t_lt, t_le, z0]
  have e99 : (99 : Int32).toInt = 99 := by decide
  rw [e99]
  by_cases q : x.toInt < 99
  · simp only [if_pos q]
    by_cases r : 0 < x.toInt
    · rw [if_pos r, if_pos (by omega), if_pos (by omega)]
    · rw [if_neg r]
      by_cases s : 0 ≤ x.toInt
      · rw [if_pos s, if_pos (by omega)]; exact (t_eq 0 x).mpr (by rw [z0]; omega)
      · rw [if_neg s]
  · simp only [if_neg q]
    rw [if_pos (by rw [e99]; decide), if_pos (by omega)]
    by_cases s : x.toInt ≤ 99
    · rw [if_pos s]; exact (t_eq 99 x).mpr (by rw [e99]; omega)
    · rw [if_neg s]
theorem hC_b {m x : Int32} (hm : 0 ≤ m.toInt) : 0 ≤ (hC m x).toInt ∧ (hC m x).toInt ≤ m.toInt := by
  unfold hC
  simp only [t_le, z0]
  by_cases h : 0 ≤ x.toInt
  · rw [if_pos h]
    by_cases q : x.toInt ≤ m.toInt
    · rw [if_pos q]; exact ⟨h, q⟩
    · rw [if_neg q]; exact ⟨hm, Int.le_refl _⟩
  · rw [if_neg h, z0]; exact ⟨Int.le_refl _, hm⟩
/-- what one earns is between 0 and 48 -/
theorem eK_b {a b c : Nat} (ha : a ≤ 20) (hb : b ≤ 20) (hc : c ≤ 99) (k nm : Int32) : 0 ≤ (eK k (nI a) (nI b) nm (nI c)).toInt ∧ (eK k (nI a) (nI b) nm (nI c)).toInt ≤ 48 := by
  have e1 : (nI a + nI b) / 2 = nI ((a + b) / 2) := by rw [nI_add]; exact pk_div (d := 2) (by omega) (by omega) (by omega)
  have e2 : nI ((a + b) / 2) + 2 = nI ((a + b) / 2 + 2) := nI_add _ 2
  have e3 : nI ((a + b) / 2) + 4 = nI ((a + b) / 2 + 4) := nI_add _ 4
  have e4 : nI c / 4 = nI (c / 4) := pk_div (d := 4) (by omega) (by omega) (by omega)
  have t1 : ∀ n, n ≤ 48 → 0 ≤ (nI n).toInt ∧ (nI n).toInt ≤ 48 := fun n h => by rw [nI_toInt (by omega)]; omega
  have tw : ∀ n, (2 : Int32) * nI n = nI (2 * n) := fun n => pk_mul 2 n
  unfold eK
  rw [e1, e2, e3, e4]
  by_cases k1 : k = 1
  · rw [if_pos k1]; exact t1 _ (by omega)
  · rw [if_neg k1]
    by_cases k2 : k = 2
    · rw [if_pos k2]; split <;> exact t1 _ (by omega)
    · rw [if_neg k2]
      by_cases k3 : k = 3
      · rw [if_pos k3]; decide
      · rw [if_neg k3]
        by_cases k4 : k = 4
        · rw [if_pos k4]
          have hs := pk_sub_toInt (a := (a + b) / 2 + 2) (b := c / 4) (by omega) (by omega)
          simp only [t_le, z0, hs]
          by_cases q : 0 ≤ (((a + b) / 2 + 2 : Nat) : Int) - ((c / 4 : Nat) : Int)
          · rw [if_pos q, hs]; omega
          · rw [if_neg q]; decide
        · rw [if_neg k4]
          by_cases k5 : k = 5
          · rw [if_pos k5]; split <;> (rw [tw]; exact t1 _ (by omega))
          · rw [if_neg k5]; exact t1 _ (by omega)
theorem eA_b {f : Int32} {N : Nat} {U : Nat → Nat → Int32} (h : GV f N U) (k : Int32) {p q : Nat} (hp : p < N) (hq : q < N) : 0 ≤ (eA U k p q).toInt ∧ (eA U k p q).toInt ≤ 48 := by
  obtain ⟨-, ⟨a1, a2⟩, -, -, c1, c2⟩ := h.2.2.1 p hp
  obtain ⟨-, ⟨b1, b2⟩, -⟩ := h.2.2.1 q hq
  obtain ⟨a, ha, ea⟩ := t_of (n := 21) a1 (by omega)
  obtain ⟨b, hb, eb⟩ := t_of (n := 21) b1 (by omega)
  obtain ⟨c, hc, ec⟩ := t_of (n := 100) c1 (by omega)
  unfold eA
  by_cases e : p = q
  · rw [if_pos e]; decide
  · rw [if_neg e, ea, eb, ec]
    exact eK_b (by omega) (by omega) (by omega) k _
theorem eU_b {f : Int32} {N : Nat} {U : Nat → Nat → Int32} (h : GV f N U) {p q : Nat} (hp : p < N) (hq : q < N) : 0 ≤ (eU U p q).toInt ∧ (eU U p q).toInt ≤ 48 := eA_b h _ hp hq
theorem hK_b (k b : Int32) : 0 ≤ (hK k b).toInt ∧ (hK k b).toInt ≤ 4 := by
  unfold hK
  by_cases h : 20 ≤ b
  · simp only [h, if_true]; (repeat' split) <;> decide
  · simp only [h, if_false]; (repeat' split) <;> decide
theorem hU_b (U : Nat → Nat → Int32) (p q : Nat) : 0 ≤ (hU U p q).toInt ∧ (hU U p q).toInt ≤ 4 := by
  unfold hU
  by_cases e : p = q
  · rw [if_pos e]; decide
  · rw [if_neg e]; exact hK_b _ _
/-- the village behind the first i turns of the class's second loop -/
def fx (N : Nat) (U : Nat → Nat → Int32) (i w q : Nat) : Int32 :=
  if q < N then (if w = 2 ∧ ih N U q < i then hC 99999 (U 2 q + eU U (ih N U q) q) else if w = 3 ∧ ih N U q < i then hC 99 (U 3 q + sU U (ih N U q) q) else if w = 4 ∧ q < i then hC 99 (U 4 q + hU U q (sl U q)) else U w q) else U w q
/-- a Friday has gone -/
def fr (N : Nat) (U : Nat → Nat → Int32) : Nat → Nat → Int32 := fx N U N
theorem fx_0 (N : Nat) (U : Nat → Nat → Int32) : fx N U 0 = U := by
  funext w q
  unfold fx
  split
  · rw [if_neg (by omega), if_neg (by omega), if_neg (by omega)]
  · rfl
theorem fx_s {N : Nat} {U : Nat → Nat → Int32} (h : PM N U) (hN : N ≤ 8) {i : Nat} (hi : i < N) : fx N U (i + 1) = u2 (u2 (u2 (fx N U i) 2 (sl U i) (hC 99999 (U 2 (sl U i) + eU U i (sl U i)))) 3 (sl U i) (hC 99 (U 3 (sl U i) + sU U i (sl U i)))) 4 i (hC 99 (U 4 i + hU U i (sl U i))) := by
  have hs := (h.s hN hi).1
  have hi2 := ih_sl h hN hi
  funext w q
  unfold u2
  by_cases hq : q < N
  · have hj : ∀ j, ih N U q = j → j < N → q = sl U j := fun j e _ => by rw [← e]; exact (ih_in h hN hq).2.1.symm
    by_cases e4 : w = 4 ∧ q = i
    · rw [if_pos e4]
      unfold fx
      rw [if_pos hq, if_neg (by omega), if_neg (by omega), if_pos (by omega), e4.2]
    · rw [if_neg e4]
      by_cases e3 : w = 3 ∧ q = sl U i
      · rw [if_pos e3]
        unfold fx
        rw [if_pos hq, if_neg (by omega), if_pos ⟨e3.1, by rw [e3.2, hi2]; omega⟩, e3.2, hi2]
      · rw [if_neg e3]
        by_cases e2 : w = 2 ∧ q = sl U i
        · rw [if_pos e2]
          unfold fx
          rw [if_pos hq, if_pos ⟨e2.1, by rw [e2.2, hi2]; omega⟩, e2.2, hi2]
        · rw [if_neg e2]
          have hne : (w = 2 ∨ w = 3) → ih N U q ≠ i := fun hw e => by
            have := hj i e hi
            rcases hw with hw | hw
            · exact e2 ⟨hw, this⟩
            · exact e3 ⟨hw, this⟩
          unfold fx
          rw [if_pos hq, if_pos hq]
          by_cases w2 : w = 2
          · have := hne (Or.inl w2)
            by_cases c : ih N U q < i
            · rw [if_pos ⟨w2, by omega⟩, if_pos ⟨w2, c⟩]
            · rw [if_neg (by omega), if_neg (by omega), if_neg (by omega), if_neg (by omega), if_neg (by omega), if_neg (by omega)]
          · by_cases w3 : w = 3
            · have := hne (Or.inr w3)
              by_cases c : ih N U q < i
              · rw [if_neg (by omega), if_pos ⟨w3, by omega⟩, if_neg (by omega), if_pos ⟨w3, c⟩]
              · rw [if_neg (by omega), if_neg (by omega), if_neg (by omega), if_neg (by omega), if_neg (by omega), if_neg (by omega)]
            · by_cases w4 : w = 4 ∧ q < i
              · rw [if_neg (by omega), if_neg (by omega), if_pos (by omega), if_neg (by omega), if_neg (by omega), if_pos w4]
              · rw [if_neg (by omega), if_neg (by omega), if_neg (by omega), if_neg (by omega), if_neg (by omega), if_neg w4]
  · have a1 : ¬ (w = 4 ∧ q = i) := by omega
    have a2 : ¬ (w = 3 ∧ q = sl U i) := by omega
    have a3 : ¬ (w = 2 ∧ q = sl U i) := by omega
    rw [if_neg a1, if_neg a2, if_neg a3]
    unfold fx
    rw [if_neg hq, if_neg hq]
theorem x_fri1 {M : Mem} {v : Nat} {f z : Int32} {N : Nat} {U : Nat → Nat → Int32} (hN : N ≤ 8) (hp : PM N U) : ∀ k n i M1, i + k = N → k < n → VX M1 v f z N U → (∀ j, j < i → m_I M1 (v + 7) j = eU U j (sl U j) ∧ m_I M1 (v + 8) j = sU U j (sl U j) ∧ m_I M1 (v + 9) j = hU U j (sl U j)) → Ch (fun o => v ≤ o ∧ o ≤ v + 10) M M1 →
    ∃ M2, F_X4_passFriday_2 v n (nI i) M1 = F_X4_passFriday_69 v FU (0 : Int32) M2 ∧ VX M2 v f z N U ∧ (∀ j, j < N → m_I M2 (v + 7) j = eU U j (sl U j) ∧ m_I M2 (v + 8) j = sU U j (sl U j) ∧ m_I M2 (v + 9) j = hU U j (sl U j)) ∧ Ch (fun o => v ≤ o ∧ o ≤ v + 10) M M2 := by
  intro k
  induction k with
  | zero =>
    intro n i M1 h1 h2 hv hj hc
    obtain ⟨m, rfl⟩ : ∃ m, n = m + 1 := ⟨n - 1, by omega⟩
    have hi : i = N := by omega
    subst hi
    exact ⟨M1, by rw [F_X4_passFriday_2, hv.2.2.1, lp_y], hv, hj, hc⟩
  | succ k ih =>
    intro n i M1 h1 h2 hv hj hc
    obtain ⟨m, rfl⟩ : ∃ m, n = m + 1 := ⟨n - 1, by omega⟩
    have hi : i < N := by omega
    obtain ⟨q1, q2⟩ := hp.s hN hi
    have hi8 : i < 8 := by omega
    have v1 : VX (w_I M1 (v + 7) i (eU U i (sl U i))) v f z N U := hv.ch (P := fun o => o = v + 7) (Ch.w rfl) (fun o h1 h2 => by omega)
    have v2 : VX (w_I (w_I M1 (v + 7) i (eU U i (sl U i))) (v + 8) i (sU U i (sl U i))) v f z N U := v1.ch (P := fun o => o = v + 8) (Ch.w rfl) (fun o h1 h2 => by omega)
    have v3 : VX (w_I (w_I (w_I M1 (v + 7) i (eU U i (sl U i))) (v + 8) i (sU U i (sl U i))) (v + 9) i (hU U i (sl U i))) v f z N U := v2.ch (P := fun o => o = v + 9) (Ch.w rfl) (fun o h1 h2 => by omega)
    rw [F_X4_passFriday_2, hv.2.2.1, lp_x hi (by omega)]
    simp only [n_8 hi8, pin, show v + 6 = v + (1 + 5) from rfl]
    rw [hv.u 5 i (by decide) hi8, q2, x_earning hv hi8 (by omega), Option.bind_some, v1.u 5 i (by decide) hi8, q2, x_saying v1 hi8 (by omega), Option.bind_some, v2.u 5 i (by decide) hi8, q2, x_hearing v2 hi8 (by omega), Option.bind_some, nI_1]
    refine ih m (i + 1) _ (by omega) (by omega) v3 (fun j hj2 => ?_) (((hc.tr (Ch.w (by omega))).tr (Ch.w (by omega))).tr (Ch.w (by omega)))
    simp only [m_w]
    by_cases e : j = i
    · subst e
      refine ⟨?_, ?_, ?_⟩ <;> simp
    · have := hj j (by omega)
      refine ⟨?_, ?_, ?_⟩ <;> simp [e, this]
theorem x_fri2 {M : Mem} {v : Nat} {f z g : Int32} {N : Nat} {U : Nat → Nat → Int32} (hg : GV g N U) : ∀ k n i M1, i + k = N → k < n → VX M1 v f z N (fx N U i) → (∀ j, j < N → m_I M1 (v + 7) j = eU U j (sl U j) ∧ m_I M1 (v + 8) j = sU U j (sl U j) ∧ m_I M1 (v + 9) j = hU U j (sl U j)) → Ch (fun o => v ≤ o ∧ o ≤ v + 10) M M1 →
    ∃ M2, F_X4_passFriday_69 v n (nI i) M1 = some M2 ∧ VX M2 v (f + 1) z N (fr N U) ∧ Ch (fun o => v ≤ o ∧ o ≤ v + 10) M M2 := by
  have hN := hg.1
  have hp := hg.2.2.2
  intro k
  induction k with
  | zero =>
    intro n i M1 h1 h2 hv hj hc
    obtain ⟨m, rfl⟩ : ∃ m, n = m + 1 := ⟨n - 1, by omega⟩
    have hi : i = N := by omega
    subst hi
    rw [F_X4_passFriday_69, hv.2.2.1, lp_y, pin, hv.1]
    exact ⟨_, rfl, hv.wf _, hc.tr (Ch.w (by omega))⟩
  | succ k ih' =>
    intro n i M1 h1 h2 hv hj hc
    obtain ⟨m, rfl⟩ : ∃ m, n = m + 1 := ⟨n - 1, by omega⟩
    have hi : i < N := by omega
    obtain ⟨q1, q2⟩ := hp.s hN hi
    have hi8 : i < 8 := by omega
    have hq8 : sl U i < 8 := by omega
    have hi2 := ih_sl hp hN hi
    obtain ⟨j1, j2, j3⟩ := hj i hi
    have u5 : fx N U i 5 i = nI (sl U i) := by unfold fx; rw [if_pos hi, if_neg (by omega), if_neg (by omega), if_neg (by omega), q2]
    have u2' : fx N U i 2 (sl U i) = U 2 (sl U i) := by unfold fx; rw [if_pos q1, if_neg (by rw [hi2]; omega), if_neg (by omega), if_neg (by omega)]
    have u3' : fx N U i 3 (sl U i) = U 3 (sl U i) := by unfold fx; rw [if_pos q1, if_neg (by omega), if_neg (by rw [hi2]; omega), if_neg (by omega)]
    have u4' : fx N U i 4 i = U 4 i := by unfold fx; rw [if_pos hi, if_neg (by omega), if_neg (by omega), if_neg (by omega)]
    have bd := hg.2.2.1 i hi
    have bd2 := hg.2.2.1 (sl U i) q1
    have be := eU_b hg hi q1
    have bh := hU_b U i (sl U i)
    have p1 : (if U 2 (sl U i) + eU U i (sl U i) < (99999 : Int32) then U 2 (sl U i) + eU U i (sl U i) else 99999) = hC 99999 (U 2 (sl U i) + eU U i (sl U i)) := mn_hC (by rw [t_add (by omega) (by omega)]; omega)
    have p3 : (if U 4 i + hU U i (sl U i) < (99 : Int32) then U 4 i + hU U i (sl U i) else 99) = hC 99 (U 4 i + hU U i (sl U i)) := mn_hC (by rw [t_add (by omega) (by omega)]; omega)
    have v1 := hv.w (w := 2) (p := sl U i) (by decide) (hC 99999 (U 2 (sl U i) + eU U i (sl U i)))
    have v2 := v1.w (w := 3) (p := sl U i) (by decide) (hC 99 (U 3 (sl U i) + sU U i (sl U i)))
    have v3 := v2.w (w := 4) (p := i) (by decide) (hC 99 (U 4 i + hU U i (sl U i)))
    rw [← fx_s hp hN hi] at v3
    have r1 : m_I M1 (v + 6) i = nI (sl U i) := by rw [show v + 6 = v + (1 + 5) from rfl, hv.u 5 i (by decide) hi8, u5]
    have r2 : m_I M1 (v + 3) (sl U i) = U 2 (sl U i) := by rw [show v + 3 = v + (1 + 2) from rfl, hv.u 2 _ (by decide) hq8, u2']
    rw [F_X4_passFriday_69, hv.2.2.1, lp_x hi (by omega)]
    simp only [n_8 hi8, r1, n_8 hq8, r2, j1, p1, pin]
    have r3 : m_I (w_I M1 (v + 3) (sl U i) (hC 99999 (U 2 (sl U i) + eU U i (sl U i)))) (v + 4) (sl U i) = U 3 (sl U i) := by
      rw [m_w, if_neg (by omega), show v + 4 = v + (1 + 3) from rfl, hv.u 3 _ (by decide) hq8, u3']
    have r4 : m_I (w_I M1 (v + 3) (sl U i) (hC 99999 (U 2 (sl U i) + eU U i (sl U i)))) (v + 8) i = sU U i (sl U i) := by rw [m_w, if_neg (by omega), j2]
    simp only [r3, r4, mm_hC]
    have r5 : m_I (w_I (w_I M1 (v + 3) (sl U i) (hC 99999 (U 2 (sl U i) + eU U i (sl U i)))) (v + 4) (sl U i) (hC 99 (U 3 (sl U i) + sU U i (sl U i)))) (v + 5) i = U 4 i := by
      rw [m_w, if_neg (by omega), m_w, if_neg (by omega), show v + 5 = v + (1 + 4) from rfl, hv.u 4 _ (by decide) hi8, u4']
    have r6 : m_I (w_I (w_I M1 (v + 3) (sl U i) (hC 99999 (U 2 (sl U i) + eU U i (sl U i)))) (v + 4) (sl U i) (hC 99 (U 3 (sl U i) + sU U i (sl U i)))) (v + 9) i = hU U i (sl U i) := by rw [m_w, if_neg (by omega), m_w, if_neg (by omega), j3]
    simp only [r5, r6, p3, nI_1]
    refine ih' m (i + 1) _ (by omega) (by omega) v3 (fun j hj2 => ?_) (((hc.tr (Ch.w (by omega))).tr (Ch.w (by omega))).tr (Ch.w (by omega)))
    have := hj j hj2
    simp only [m_w]
    refine ⟨?_, ?_, ?_⟩ <;> simp [this]
theorem x_passFriday {M : Mem} {v : Nat} {f z g : Int32} {N : Nat} {U : Nat → Nat → Int32} (h : VX M v f z N U) (hg : GV g N U) : ∃ M1, F_X4_passFriday v M = some M1 ∧ VX M1 v (f + 1) z N (fr N U) ∧ Ch (fun o => v ≤ o ∧ o ≤ v + 10) M M1 := by
  have hN := hg.1
  unfold F_X4_passFriday
  obtain ⟨M2, a1, a2, a3, a4⟩ := x_fri1 (M := M) hN hg.2.2.2 N FU 0 M (by omega) (by show N < 1000; omega) h (fun j hj => absurd hj (Nat.not_lt_zero j)) Ch.rf
  obtain ⟨M3, b1, b2, b3⟩ := x_fri2 (M := M) hg N FU 0 M2 (by omega) (by show N < 1000; omega) (by rw [fx_0]; exact a2) a3 a4
  exact ⟨M3, a1.trans b1, b2, b3⟩
theorem fr_o {N : Nat} {U : Nat → Nat → Int32} {w q : Nat} (h : w ≠ 2 ∧ w ≠ 3 ∧ w ≠ 4) : fr N U w q = U w q := by
  unfold fr fx
  split
  · rw [if_neg (by omega), if_neg (by omega), if_neg (by omega)]
  · rfl
theorem GV_fr {g : Int32} {N : Nat} {U : Nat → Nat → Int32} (hg : GV g N U) : GV g N (fr N U) := by
  have hN := hg.1
  have hp := hg.2.2.2
  refine ⟨hN, hg.2.1, fun p hp2 => ?_, ?_⟩
  · have b := hg.2.2.1 p hp2
    have i1 := (ih_in hp hN hp2).1
    rw [fr_o (w := 0) (by decide), fr_o (w := 1) (by decide)]
    refine ⟨b.1, b.2.1, ?_, ?_, ?_⟩
    · have e : fr N U 2 p = hC 99999 (U 2 p + eU U (ih N U p) p) := by unfold fr fx; rw [if_pos hp2, if_pos ⟨rfl, i1⟩]
      rw [e]; exact hC_b (by decide)
    · have e : fr N U 3 p = hC 99 (U 3 p + sU U (ih N U p) p) := by unfold fr fx; rw [if_pos hp2, if_neg (by omega), if_pos ⟨rfl, i1⟩]
      rw [e]; exact hC_b (by decide)
    · have e : fr N U 4 p = hC 99 (U 4 p + hU U p (sl U p)) := by unfold fr fx; rw [if_pos hp2, if_neg (by omega), if_neg (by omega), if_pos ⟨rfl, hp2⟩]
      rw [e]; exact hC_b (by decide)
  · have e : ∀ p, fr N U 5 p = U 5 p := fun p => fr_o (by decide)
    exact ⟨fun p h => by rw [e]; exact hp.1 p h, fun p q h1 h2 h3 => by rw [e, e] at h3; exact hp.2 p q h1 h2 h3⟩
/-! the reference's Friday -/
def fm (N : Nat) (U : Nat → Nat → Int32) (i w q : Nat) : Int32 :=
  if q < i then (if w = 2 then hC 99999 (U 2 q + eU U (ih N U q) q) else if w = 3 then hC 99 (U 3 q + sU U (ih N U q) q) else if w = 4 then hC 99 (U 4 q + hU U q (sl U q)) else U w q) else U w q
theorem fm_0 (N : Nat) (U : Nat → Nat → Int32) : fm N U 0 = U := by
  funext w q
  unfold fm
  rw [if_neg (by omega)]
theorem fm_N {N : Nat} {U : Nat → Nat → Int32} (hp : PM N U) (hN : N ≤ 8) : fm N U N = fr N U := by
  funext w q
  unfold fm fr fx
  by_cases hq : q < N
  · have i1 := (ih_in hp hN hq).1
    simp only [hq, i1, if_true, and_true]
  · simp only [hq, if_false]
theorem fm_s {N : Nat} {U : Nat → Nat → Int32} {i : Nat} : fm N U (i + 1) = u2 (u2 (u2 (fm N U i) 2 i (hC 99999 (U 2 i + eU U (ih N U i) i))) 3 i (hC 99 (U 3 i + sU U (ih N U i) i))) 4 i (hC 99 (U 4 i + hU U i (sl U i))) := by
  funext w q
  unfold u2 fm
  by_cases e : q = i
  · subst e
    simp only [Nat.lt_succ_self, Nat.lt_irrefl, if_true, if_false, and_true]
    by_cases w4 : w = 4
    · subst w4; simp
    · by_cases w3 : w = 3
      · subst w3; simp
      · by_cases w2 : w = 2
        · subst w2; simp
        · simp [w2, w3, w4]
  · simp only [e, and_false, if_false]
    by_cases c : q < i
    · rw [if_pos c, if_pos (by omega)]
    · rw [if_neg c, if_neg (by omega)]
theorem m_ws (M : Mem) (o k : Nat) (x : Int32) : m_I (w_I M o k x) o k = x := if_pos ⟨rfl, rfl⟩
theorem m_wo {M : Mem} {o k a b : Nat} {x : Int32} (h : a ≠ o) : m_I (w_I M o k x) a b = m_I M a b := if_neg (fun q => h q.1)
theorem m_wk {M : Mem} {o k a b : Nat} {x : Int32} (h : b ≠ k) : m_I (w_I M o k x) a b = m_I M a b := if_neg (fun q => h q.2)
theorem m_fri1 {M : Mem} {f z : Int32} {N : Nat} {U : Nat → Nat → Int32} (hN : N ≤ 8) (hp : PM N U) : ∀ k n i M1, i + k = N → k < n → VM M1 50 f z N U → (∀ j, j < i → m_I M1 53 (sl U j) = eU U j (sl U j) ∧ m_I M1 54 (sl U j) = sU U j (sl U j) ∧ m_I M1 55 j = hU U j (sl U j)) → Ch (fun o => o = 50 ∨ (53 ≤ o ∧ o ≤ 55)) M M1 →
    ∃ M2, F_X8_oneFriday_2 n (nI i) M1 = F_X8_oneFriday_63 FU (0 : Int32) M2 ∧ VM M2 50 f z N U ∧ (∀ j, j < N → m_I M2 53 (sl U j) = eU U j (sl U j) ∧ m_I M2 54 (sl U j) = sU U j (sl U j) ∧ m_I M2 55 j = hU U j (sl U j)) ∧ Ch (fun o => o = 50 ∨ (53 ≤ o ∧ o ≤ 55)) M M2 := by
  intro k
  induction k with
  | zero =>
    intro n i M1 h1 h2 hv hj hc
    obtain ⟨m, rfl⟩ : ∃ m, n = m + 1 := ⟨n - 1, by omega⟩
    have hi : i = N := by omega
    subst hi
    exact ⟨M1, by rw [F_X8_oneFriday_2, n51_2, hv.2.2.1, lp_y], hv, hj, hc⟩
  | succ k ih =>
    intro n i M1 h1 h2 hv hj hc
    obtain ⟨m, rfl⟩ : ∃ m, n = m + 1 := ⟨n - 1, by omega⟩
    have hi : i < N := by omega
    obtain ⟨q1, q2⟩ := hp.s hN hi
    have hi8 : i < 8 := by omega
    have hq8 : sl U i < 8 := by omega
    have v1 : VM (w_I M1 53 (sl U i) (eU U i (sl U i))) 50 f z N U := hv.ch (P := fun o => o = 53) (Ch.w rfl) (by decide)
    have v2 : VM (w_I (w_I M1 53 (sl U i) (eU U i (sl U i))) 54 (sl U i) (sU U i (sl U i))) 50 f z N U := v1.ch (P := fun o => o = 54) (Ch.w rfl) (by decide)
    have v3 : VM (w_I (w_I (w_I M1 53 (sl U i) (eU U i (sl U i))) 54 (sl U i) (sU U i (sl U i))) 55 i (hU U i (sl U i))) 50 f z N U := v2.ch (P := fun o => o = 55) (Ch.w rfl) (by decide)
    rw [F_X8_oneFriday_2, n51_2, hv.2.2.1, lp_x hi (by omega), its_5 hi8, hv.u 5 i (by decide) hi8, q2]
    simp only [Option.bind_some, n_8 hq8, n_8 hi8, pin]
    rw [m_earnsAs hv hi8 hq8]
    simp only [Option.bind_some]
    rw [m_saysAs v1 hi8 hq8]
    simp only [Option.bind_some]
    rw [m_hearsAs v2 hi8 hq8]
    simp only [Option.bind_some, nI_1]
    refine ih m (i + 1) _ (by omega) (by omega) v3 (fun j hj2 => ?_) (((hc.tr (Ch.w (by omega))).tr (Ch.w (by omega))).tr (Ch.w (by omega)))
    rw [m_wo (show 53 ≠ 55 by decide), m_wo (show 53 ≠ 54 by decide), m_wo (show 54 ≠ 55 by decide)]
    by_cases e : j = i
    · subst e
      exact ⟨m_ws _ _ _ _, m_ws _ _ _ _, m_ws _ _ _ _⟩
    · have hj3 := hj j (by omega)
      have hne : sl U j ≠ sl U i := fun q => e (hp.inj hN (by omega) hi q)
      refine ⟨?_, ?_, ?_⟩
      · rw [m_wk hne]; exact hj3.1
      · rw [m_wk hne, m_wo (show 54 ≠ 53 by decide)]; exact hj3.2.1
      · rw [m_wk e, m_wo (show 55 ≠ 54 by decide), m_wo (show 55 ≠ 53 by decide)]; exact hj3.2.2
theorem m_fri2 {M : Mem} {f z g : Int32} {N : Nat} {U : Nat → Nat → Int32} (hg : GV g N U) : ∀ k n i M1, i + k = N → k < n → VM M1 50 f z N (fm N U i) → (∀ j, j < N → m_I M1 53 (sl U j) = eU U j (sl U j) ∧ m_I M1 54 (sl U j) = sU U j (sl U j) ∧ m_I M1 55 j = hU U j (sl U j)) → Ch (fun o => o = 50 ∨ (53 ≤ o ∧ o ≤ 55)) M M1 →
    ∃ M2, F_X8_oneFriday_63 n (nI i) M1 = some M2 ∧ VM M2 50 (f + 1) z N (fr N U) ∧ Ch (fun o => o = 50 ∨ (53 ≤ o ∧ o ≤ 55)) M M2 := by
  have hN := hg.1
  have hp := hg.2.2.2
  intro k
  induction k with
  | zero =>
    intro n i M1 h1 h2 hv hj hc
    obtain ⟨m, rfl⟩ : ∃ m, n = m + 1 := ⟨n - 1, by omega⟩
    have hi : i = N := by omega
    subst hi
    rw [F_X8_oneFriday_63, n51_2, hv.2.2.1, lp_y, n51_0, n51_0, pin, hv.1]
    refine ⟨_, rfl, ?_, hc.tr (Ch.w (by omega))⟩
    rw [← fm_N hp hN]
    exact hv.wf _
  | succ k ih' =>
    intro n i M1 h1 h2 hv hj hc
    obtain ⟨m, rfl⟩ : ∃ m, n = m + 1 := ⟨n - 1, by omega⟩
    have hi : i < N := by omega
    have hi8 : i < 8 := by omega
    obtain ⟨p1, p2, p3⟩ := ih_in hp hN hi
    have j1 := (hj _ p1).1
    have j2 := (hj _ p1).2.1
    have j3 := (hj i hi).2.2
    rw [p2] at j1 j2
    have w2 : fm N U i 2 i = U 2 i := by unfold fm; rw [if_neg (by omega)]
    have w3 : fm N U i 3 i = U 3 i := by unfold fm; rw [if_neg (by omega)]
    have w4 : fm N U i 4 i = U 4 i := by unfold fm; rw [if_neg (by omega)]
    have v1 := hv.w (w := 2) (p := i) (by decide) (hC 99999 (U 2 i + eU U (ih N U i) i))
    have v2 := v1.w (w := 3) (p := i) (by decide) (hC 99 (U 3 i + sU U (ih N U i) i))
    have v3 := v2.w (w := 4) (p := i) (by decide) (hC 99 (U 4 i + hU U i (sl U i)))
    rw [← fm_s] at v3
    rw [F_X8_oneFriday_63, n51_2, hv.2.2.1, lp_x hi (by omega), its_2 hi8, hv.u 2 i (by decide) hi8, w2]
    simp only [Option.bind_some, n_8 hi8, j1, held_e]
    rw [puts_2 hi8]
    simp only [Option.bind_some]
    rw [its_3 hi8, m_w, if_neg (by omega), hv.u 3 i (by decide) hi8, w3]
    simp only [Option.bind_some, m_w]
    rw [if_neg (by omega), j2]
    simp only [puts_3 hi8, Option.bind_some]
    rw [its_4 hi8, m_w, if_neg (by omega), m_w, if_neg (by omega), hv.u 4 i (by decide) hi8, w4]
    simp only [Option.bind_some, m_w]
    rw [if_neg (by omega), if_neg (by omega), j3]
    simp only [puts_4 hi8, Option.bind_some, nI_1]
    refine ih' m (i + 1) _ (by omega) (by omega) v3 (fun j hj2 => ?_) (((hc.tr (Ch.w (by omega))).tr (Ch.w (by omega))).tr (Ch.w (by omega)))
    have := hj j hj2
    simp only [m_w]
    refine ⟨?_, ?_, ?_⟩ <;> simp [this]
theorem m_oneFriday {M : Mem} {f z g : Int32} {N : Nat} {U : Nat → Nat → Int32} (h : VM M 50 f z N U) (hg : GV g N U) : ∃ M1, F_X8_oneFriday M = some M1 ∧ VM M1 50 (f + 1) z N (fr N U) ∧ Ch (fun o => o = 50 ∨ (53 ≤ o ∧ o ≤ 55)) M M1 := by
  have hN := hg.1
  unfold F_X8_oneFriday
  obtain ⟨M2, a1, a2, a3, a4⟩ := m_fri1 (M := M) hN hg.2.2.2 N FU 0 M (by omega) (by show N < 1000; omega) h (fun j hj => absurd hj (Nat.not_lt_zero j)) Ch.rf
  obtain ⟨M3, b1, b2, b3⟩ := m_fri2 (M := M) hg N FU 0 M2 (by omega) (by show N < 1000; omega) (by rw [fm_0]; exact a2) a3 a4
  exact ⟨M3, a1.trans b1, b2, b3⟩
