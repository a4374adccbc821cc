theorem fb_holes : ∀ (m n : Nat) (f : Nat → Nat), (∀ i, i < n → f i < m) → (∀ i j, i < j → j < n → f i ≠ f j) → n ≤ m := by
  intro m
  induction m with
  | zero =>
    intro n f h1 _
    rcases Nat.eq_zero_or_pos n with h | h
    · omega
    · exact absurd (h1 0 h) (Nat.not_lt_zero _)
  | succ m ih =>
    intro n f h1 h2
    by_cases hx : ∃ i, i < n ∧ f i = m
    · obtain ⟨a, ha, hfa⟩ := hx
      have hg := ih (n - 1) (fun i => if i < a then f i else f (i + 1)) (by
        intro i hi
        by_cases q : i < a
        · simp only [if_pos q]
          have b1 := h1 i (by omega)
          have b2 := h2 i a q ha
          omega
        · simp only [if_neg q]
          have b1 := h1 (i + 1) (by omega)
          have b2 := h2 a (i + 1) (by omega) (by omega)
          omega) (by
        intro i j hij hj
        by_cases q : i < a
        · by_cases r : j < a
          · simp only [if_pos q, if_pos r]
            exact h2 i j hij (by omega)
          · simp only [if_pos q, if_neg r]
            exact h2 i (j + 1) (by omega) (by omega)
        · have r : ¬ j < a := by omega
          simp only [if_neg q, if_neg r]
          exact h2 (i + 1) (j + 1) (by omega) (by omega))
      omega
    · have hg := ih n f (fun i hi => by
        have b1 := h1 i hi
        have b2 : f i ≠ m := fun e => hx ⟨i, hi, e⟩
        omega) h2
      omega
/-- two of them in one place -/
theorem fb_twice {m n : Nat} {f : Nat → Nat} (h : ∀ i, i < n → f i < m) (hm : m < n) : ∃ i j, i < j ∧ j < n ∧ f i = f j := by
  refine Classical.byContradiction fun hx => ?_
  have := fb_holes m n f h (fun i j hij hj e => hx ⟨i, j, hij, hj, e⟩)
  omega
/-- as many as places, none twice: each place is taken -/
theorem fb_onto {n : Nat} {f : Nat → Nat} (h : ∀ i, i < n → f i < n) (h2 : ∀ i j, i < j → j < n → f i ≠ f j) {y : Nat} (hy : y < n) : ∃ i, i < n ∧ f i = y := by
  refine Classical.byContradiction fun hx => ?_
  have hne : ∀ i, i < n → f i ≠ y := fun i hi e => hx ⟨i, hi, e⟩
  have := fb_holes (n - 1) n (fun i => if f i < y then f i else f i - 1) (by
    intro i hi
    have b1 := h i hi
    have b2 := hne i hi
    by_cases q : f i < y
    · simp only [if_pos q]; omega
    · simp only [if_neg q]; omega) (by
    intro i j hij hj
    have b1 := hne i (by omega)
    have b2 := hne j hj
    have b3 := h2 i j hij hj
    by_cases q : f i < y
    · by_cases r : f j < y
      · simp only [if_pos q, if_pos r]; exact b3
      · simp only [if_pos q, if_neg r]; omega
    · by_cases r : f j < y
      · simp only [if_neg q, if_pos r]; omega
      · simp only [if_neg q, if_neg r]; omega)
  omega
/-! ===== how many places have a property ===== -/
/-! ===== orders stay orders; who has a slip ===== -/
theorem PM.onto {N : Nat} {U : Nat → Nat → Int32} (h : PM N U) (hN : N ≤ 8) {q : Nat} (hq : q < N) : ∃ p, p < N ∧ sl U p = q :=
  fb_onto (f := sl U) (fun i hi => (h.s hN hi).1) (fun i j hij hj e => absurd (h.inj hN (by omega) hj e) (by omega)) hq
/-- who has q's slip -/
def ih (N : Nat) (U : Nat → Nat → Int32) (q : Nat) : Nat := hd U (nI q) N 0
theorem ih_in {N : Nat} {U : Nat → Nat → Int32} (h : PM N U) (hN : N ≤ 8) {q : Nat} (hq : q < N) : ih N U q < N ∧ sl U (ih N U q) = q ∧ U 5 (ih N U q) = nI q := by
  obtain ⟨p, hp, e⟩ := h.onto hN hq
  have e2 : U 5 p = nI q := by rw [(h.s hN hp).2, e]
  obtain ⟨a, -, c⟩ := hd_in (k := N) (i := 0) (Nat.zero_le p) (by omega) e2
  have c' : U 5 (ih N U q) = nI q := c
  have a' : ih N U q < N := by have := a; unfold ih; omega
  refine ⟨a', ?_, c'⟩
  unfold sl
  rw [c', nI_clamp (by omega)]
theorem ih_sl {N : Nat} {U : Nat → Nat → Int32} (h : PM N U) (hN : N ≤ 8) {p : Nat} (hp : p < N) : ih N U (sl U p) = p := by
  obtain ⟨a, b, -⟩ := ih_in h hN (h.s hN hp).1
  exact h.inj hN a hp b
/-- p and q change places -/
def tr (p q b : Nat) : Nat := if b = q then p else if b = p then q else b
theorem sw_t {U : Nat → Nat → Int32} {p q b : Nat} : sw U p q 5 b = U 5 (tr p q b) := by
  rw [sw_5]
  unfold tr
  by_cases h1 : b = q
  · rw [if_pos h1, if_pos h1]
  · rw [if_neg h1, if_neg h1]
    by_cases h2 : b = p
    · rw [if_pos h2, if_pos h2]
    · rw [if_neg h2, if_neg h2]
theorem tr_lt {N p q b : Nat} (hp : p < N) (hq : q < N) (hb : b < N) : tr p q b < N := by
  unfold tr
  split
  · exact hp
  · split
    · exact hq
    · exact hb
theorem tr_inj {p q a b : Nat} (h : tr p q a = tr p q b) : a = b := by
  unfold tr at h
  split at h <;> split at h <;> (try split at h) <;> (try split at h) <;> omega
theorem PM_sw {N : Nat} {U : Nat → Nat → Int32} (h : PM N U) {p q : Nat} (hp : p < N) (hq : q < N) : PM N (sw U p q) := by
  refine ⟨fun a ha => ?_, fun a b ha hb e => ?_⟩
  · rw [sw_t]; exact h.1 _ (tr_lt hp hq ha)
  · rw [sw_t, sw_t] at e
    exact tr_inj (h.2 _ _ (tr_lt hp hq ha) (tr_lt hp hq hb) e)
theorem PM_hm {N : Nat} {U : Nat → Nat → Int32} (hN : N ≤ 8) : PM N (hm N U) := by
  have e : ∀ p, p < N → hm N U 5 p = nI p := fun p hp => if_pos ⟨rfl, hp⟩
  exact ⟨fun p hp => ⟨p, hp, e p hp⟩, fun p q hp hq h => by rw [e p hp, e q hq, nI_eq (by omega) (by omega)] at h; exact h⟩
theorem PM_ds {Z : Int32 → Int32} {D : Int32 → Nat → Nat} (hz : ZD Z D) {N : Nat} (d : Nat → Nat) : ∀ k (s : Int32 × (Nat → Nat → Int32)), k < 8 → (∀ j, j ≤ k → d j < N) → PM N s.2 → PM N (ds Z D d k s).2
  | 0, _, _, _, h => h
  | k + 1, s, hk, hd, h => by
    rw [ds]
    refine PM_ds hz d k _ (by omega) (fun j hj => hd j (by omega)) ?_
    have hq := ((hz s.1).2 (k + 1 + 1) (by omega) (by omega)).1
    exact PM_sw h (hd _ (by omega)) (hd _ (by omega))
theorem PM_da {Z : Int32 → Int32} {D : Int32 → Nat → Nat} (hz : ZD Z D) {N : Nat} (hN : N ≤ 8) (a : Int32) (s : Int32 × (Nat → Nat → Int32)) (h : PM N s.2) : PM N (da Z D N a s).2 := by
  unfold da
  have hl := dr_le s.2 a N
  by_cases e : (dr s.2 a N).2 = 0
  · rw [e]; exact h
  · exact PM_ds hz _ _ s (by omega) (fun j hj => (dr_lt s.2 a N j (by omega)).1) h
theorem PM_dl {Z : Int32 → Int32} {D : Int32 → Nat → Nat} (hz : ZD Z D) {N : Nat} (hN : N ≤ 8) (s : Int32 × (Nat → Nat → Int32)) : PM N (dl Z D N s).2 := PM_da hz hN 1 _ (PM_da hz hN 0 _ (PM_hm hN))
theorem dl_o {Z : Int32 → Int32} {D : Int32 → Nat → Nat} {N : Nat} (s : Int32 × (Nat → Nat → Int32)) {w b : Nat} (h : w ≠ 5) : (dl Z D N s).2 w b = s.2 w b := by
  unfold dl da
  rw [ds_o _ _ _ _ _ _ _ h, ds_o _ _ _ _ _ _ _ h]
  exact if_neg (fun q => h q.1)
/-- what doesn't touch slips but keeps them an order keeps the village good -/
theorem GV.sl {f : Int32} {N : Nat} {U U' : Nat → Nat → Int32} (h : GV f N U) (ho : ∀ w p, w ≠ 5 → U' w p = U w p) (hp : PM N U') : GV f N U' := by
  refine ⟨h.1, h.2.1, fun p q => ?_, hp⟩
  rw [ho 0 p (by decide), ho 1 p (by decide), ho 2 p (by decide), ho 3 p (by decide), ho 4 p (by decide)]
  exact h.2.2.1 p q
theorem GV_dl {Z : Int32 → Int32} {D : Int32 → Nat → Nat} (hz : ZD Z D) {f z : Int32} {N : Nat} {U : Nat → Nat → Int32} (h : GV f N U) : GV f N (dl Z D N (z, U)).2 := h.sl (fun w p hw => dl_o (z, U) hw) (PM_dl hz h.1 _)
theorem GV_sw {f : Int32} {N : Nat} {U : Nat → Nat → Int32} (h : GV f N U) {p q : Nat} (hp : p < N) (hq : q < N) : GV f N (sw U p q) := h.sl (fun w b hw => sw_o hw) (PM_sw h.2.2.2 hp hq)
theorem GV_hm {f : Int32} {N : Nat} {U : Nat → Nat → Int32} (h : GV f N U) : GV f N (hm N U) := h.sl (fun w b hw => if_neg (fun q => hw q.1)) (PM_hm h.1)
