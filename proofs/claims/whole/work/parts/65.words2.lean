/-! ===== THE TOKENS, THE REFERENCE'S WAY; WORDS ===== -/
section TK
variable {T : Nat} {B : Nat → Nat}
theorem MB.c {M M1 : Mem} (h : MB M T B) (h9 : m_I M1 49 9 = m_I M 49 9) (h58 : ∀ k, m_I M1 58 k = m_I M 58 k) : MB M1 T B := ⟨by rw [h9]; exact h.1, fun k hk => by rw [h58]; exact h.2 k hk⟩
theorem m_bt_letter (hT : BB T B) (i : Nat) (M : Mem) : F_X8_isLetter (bt T B i) M = some (if i < T ∧ ltr (B i) then 1 else 0) := by
  unfold bt
  by_cases c : i < T
  · rw [if_pos c, m_letter (hT.2 i c)]
    by_cases d : ltr (B i)
    · rw [if_pos d, if_pos ⟨c, d⟩]
    · rw [if_neg d, if_neg (fun q => d q.2)]
  · rw [if_neg c, m_letterN, if_neg (fun q => c q.1)]
theorem m_bt_digit (hT : BB T B) (i : Nat) (M : Mem) : F_X8_isDigit (bt T B i) M = some (if i < T ∧ dig (B i) then 1 else 0) := by
  unfold bt
  by_cases c : i < T
  · rw [if_pos c, m_digit (hT.2 i c)]
    by_cases d : dig (B i)
    · rw [if_pos d, if_pos ⟨c, d⟩]
    · rw [if_neg d, if_neg (fun q => d q.2)]
  · rw [if_neg c, m_digitN, if_neg (fun q => c q.1)]
theorem m_207 {M : Mem} (h : m_I M 49 10 ≠ 2) : F_X8_advance_207 FU M = some M := by
  rw [show FU = 999 + 1 from rfl, F_X8_advance_207, if_neg h]
theorem m_el (hT : BB T B) {s : Nat} : ∀ k m i h M, i + k = T → k < m → s ≤ i → MB M T B → m_I M 49 12 = nI i → m_I M 49 10 = 1 → m_I M 49 11 = nI s → m_J M 49 13 = h → ∃ M1, F_X8_advance_126 m M = some M1 ∧ m_I M1 49 12 = nI (el B k i) ∧ m_J M1 49 13 = hs B s k i h ∧ (∀ q, q ≠ 12 → m_I M1 49 q = m_I M 49 q) ∧ Ch (fun o => o = 49) M M1 := by
  have hT2 := hT.1
  intro k
  induction k with
  | zero =>
    intro m i h M h1 h2 hsi hm h12 h10 h11 h13
    obtain ⟨m, rfl⟩ : ∃ q, m = q + 1 := ⟨m - 1, by omega⟩
    refine ⟨M, ?_, h12, h13, fun q _ => rfl, Ch.rf⟩
    rw [F_X8_advance_126, if_pos h10, h12, m_at hm hT2 (by omega), Option.bind_some, m_bt_letter hT, if_neg (by omega), Option.bind_some, if_pos rfl, m_207 (by rw [h10]; decide)]
  | succ k ih =>
    intro m i h M h1 h2 hsi hm h12 h10 h11 h13
    obtain ⟨m, rfl⟩ : ∃ q, m = q + 1 := ⟨m - 1, by omega⟩
    have hiT : i < T := by omega
    rw [F_X8_advance_126, if_pos h10, h12, m_at hm hT2 (by omega), Option.bind_some, Option.bind_some, m_bt_letter hT, Option.bind_some, el, hs]
    by_cases c : ltr (B i)
    · rw [if_pos (show i < T ∧ ltr (B i) from ⟨hiT, c⟩), if_neg one0.mp, if_pos c, if_pos c, h11, nI_sb hsi]
      have e1 : ((12 : Int32) ≤ nI (i - s)) ↔ 12 ≤ i - s := nI_leI (a := 12) (by decide) (by omega)
      have go : ∀ y : Int64, ∃ M1, F_X8_advance_126 m (w_I (w_J M 49 13 y) 49 12 (nI i + 1)) = some M1 ∧ m_I M1 49 12 = nI (el B k (i + 1)) ∧ m_J M1 49 13 = hs B s k (i + 1) y ∧ (∀ q, q ≠ 12 → m_I M1 49 q = m_I M 49 q) ∧ Ch (fun o => o = 49) M M1 := by
        intro y
        have cc : Ch (fun o => o = 49) M (w_I (w_J M 49 13 y) 49 12 (nI i + 1)) := (Ch.wJ (P := fun o => o = 49) rfl).tr (Ch.w (P := fun o => o = 49) rfl)
        obtain ⟨M1, a1, a2, a3, a4, a5⟩ := ih m (i + 1) y (w_I (w_J M 49 13 y) 49 12 (nI i + 1)) (by omega) (by omega) (by omega) (hm.c (by rw [m_wk (show 9 ≠ 12 by decide), m_wJ]) (fun k => (cc 58 (by omega)).1 k)) (by rw [m_ws, nI_1]) (by rw [m_wk (show 10 ≠ 12 by decide), m_wJ, h10]) (by rw [m_wk (show 11 ≠ 12 by decide), m_wJ, h11]) (by rw [j_w, j_wJ, if_pos ⟨rfl, rfl⟩])
        exact ⟨M1, a1, a2, a3, fun q hq => by rw [a4 q hq, m_wk hq, m_wJ], cc.tr a5⟩
      by_cases d : 12 ≤ i - s
      · rw [if_pos (e1.mpr d), if_pos d, pin, pin, m_wJ, h12]
        exact go (-1)
      · rw [if_neg (fun q => d (e1.mp q)), if_neg d, pin, pin, m_wJ, h12, h13, bt, if_pos hiT]
        exact go _
    · rw [if_neg (show ¬ (i < T ∧ ltr (B i)) from fun q => c q.2), if_pos rfl, if_neg c, if_neg c, m_207 (by rw [h10]; decide)]
      exact ⟨M, rfl, h12, h13, fun q _ => rfl, Ch.rf⟩
theorem m_ed (hT : BB T B) : ∀ k m i v M, i + k = T → k < m → v ≤ 10000 → MB M T B → m_I M 49 12 = nI i → m_I M 49 10 = 2 → m_I M 49 14 = nI v → ∃ M1, F_X8_advance_207 m M = some M1 ∧ m_I M1 49 12 = nI (ed B k i) ∧ m_I M1 49 14 = nI (mv B k i v) ∧ (∀ q, q ≠ 12 → q ≠ 14 → m_I M1 49 q = m_I M 49 q) ∧ Ch (fun o => o = 49) M M1 := by
  have hT2 := hT.1
  intro k
  induction k with
  | zero =>
    intro m i v M h1 h2 hv hm h12 h10 h14
    obtain ⟨m, rfl⟩ : ∃ q, m = q + 1 := ⟨m - 1, by omega⟩
    refine ⟨M, ?_, h12, h14, fun q _ _ => rfl, Ch.rf⟩
    rw [F_X8_advance_207, if_pos h10, h12, m_at hm hT2 (by omega), Option.bind_some, m_bt_digit hT, if_neg (by omega), Option.bind_some, if_pos rfl]
  | succ k ih =>
    intro m i v M h1 h2 hv hm h12 h10 h14
    obtain ⟨m, rfl⟩ : ∃ q, m = q + 1 := ⟨m - 1, by omega⟩
    have hiT : i < T := by omega
    have hb := hT.2 i hiT
    rw [F_X8_advance_207, if_pos h10, h12, m_at hm hT2 (by omega), Option.bind_some, Option.bind_some, m_bt_digit hT, Option.bind_some, ed, mv]
    by_cases c : dig (B i)
    · rw [if_pos (show i < T ∧ dig (B i) from ⟨hiT, c⟩), if_neg one0.mp, if_pos c, if_pos c, h14]
      have e1 : (nI v ≤ (999 : Int32)) ↔ v ≤ 999 := nI_leI (b := 999) (by omega) (by decide)
      have go : ∀ y : Nat, y ≤ 10000 → ∃ M1, F_X8_advance_207 m (w_I (w_I M 49 14 (nI y)) 49 12 (nI i + 1)) = some M1 ∧ m_I M1 49 12 = nI (ed B k (i + 1)) ∧ m_I M1 49 14 = nI (mv B k (i + 1) y) ∧ (∀ q, q ≠ 12 → q ≠ 14 → m_I M1 49 q = m_I M 49 q) ∧ Ch (fun o => o = 49) M M1 := by
        intro y hy
        have cc : Ch (fun o => o = 49) M (w_I (w_I M 49 14 (nI y)) 49 12 (nI i + 1)) := (Ch.w (P := fun o => o = 49) rfl).tr (Ch.w (P := fun o => o = 49) rfl)
        obtain ⟨M1, a1, a2, a3, a4, a5⟩ := ih m (i + 1) y (w_I (w_I M 49 14 (nI y)) 49 12 (nI i + 1)) (by omega) (by omega) hy (hm.c (by rw [m_wk (show 9 ≠ 12 by decide), m_wk (show 9 ≠ 14 by decide)]) (fun k => (cc 58 (by omega)).1 k)) (by rw [m_ws, nI_1]) (by rw [m_wk (show 10 ≠ 12 by decide), m_wk (show 10 ≠ 14 by decide), h10]) (by rw [m_wk (show 14 ≠ 12 by decide), m_ws])
        exact ⟨M1, a1, a2, a3, fun q q1 q2 => by rw [a4 q q1 q2, m_wk q1, m_wk q2], cc.tr a5⟩
      by_cases d : v ≤ 999
      · rw [if_pos (e1.mpr d), if_pos d, bt, if_pos hiT, val_n c.1, pin, pin, m_wk (show 12 ≠ 14 by decide), h12]
        exact go _ (by omega)
      · rw [if_neg (fun q => d (e1.mp q)), if_neg d, pin, pin, m_wk (show 12 ≠ 14 by decide), h12]
        exact go 10000 (by omega)
    · rw [if_neg (show ¬ (i < T ∧ dig (B i)) from fun q => c q.2), if_pos rfl, if_neg c, if_neg c]
      exact ⟨M, rfl, h12, h14, fun q _ _ => rfl, Ch.rf⟩
def TM (T : Nat) (B : Nat → Nat) (M : Mem) (s : Nat) : Prop := m_I M 49 11 = nI s ∧ m_I M 49 12 = nI (en T B s) ∧ m_I M 49 10 = nI (if so T B s ≤ 3 then so T B s else 3) ∧ (so T B s = 2 → m_I M 49 14 = nI (mv B (T - s) s 0)) ∧ (3 ≤ so T B s → m_I M 49 14 = nI (B s)) ∧ (so T B s = 1 → m_J M 49 13 = hs B s (T - s) s 0)
theorem m_83 (hT : BB T B) {M : Mem} {s : Nat} (hm : MB M T B) (hs : s ≤ T) (h11 : m_I M 49 11 = nI s) (h12 : m_I M 49 12 = nI s) : ∃ M1, F_X8_advance_83 (bt T B s) (nI (if so T B s ≤ 3 then so T B s else 3)) M = some M1 ∧ TM T B M1 s ∧ (∀ q, q < 10 ∨ 14 < q → m_I M1 49 q = m_I M 49 q) ∧ Ch (fun o => o = 49) M M1 := by
  have hT2 := hT.1
  unfold F_X8_advance_83
  rw [pin, pin, m_wJ, m_ws]
  by_cases c : s < T
  · have hb := hT.2 s c
    by_cases d : ltr (B s)
    · have e : so T B s = 1 := by unfold so; rw [if_pos c, if_pos d]
      rw [e, if_neg (show ¬ nI (if 1 ≤ 3 then 1 else 3) = (2 : Int32) by decide), pin, m_wk (show 10 ≠ 14 by decide), m_wJ, m_ws, if_neg (show ¬ nI (if 1 ≤ 3 then 1 else 3) = (3 : Int32) by decide)]
      have cc : Ch (fun o => o = 49) M (w_I (w_J (w_I M 49 10 (nI (if 1 ≤ 3 then 1 else 3))) 49 13 0) 49 14 (bt T B s)) := ((Ch.w (P := fun o => o = 49) rfl).tr (Ch.wJ (P := fun o => o = 49) rfl)).tr (Ch.w (P := fun o => o = 49) rfl)
      obtain ⟨M1, a1, a2, a3, a4, a5⟩ := m_el hT (s := s) (T - s) FU s 0 (w_I (w_J (w_I M 49 10 (nI (if 1 ≤ 3 then 1 else 3))) 49 13 0) 49 14 (bt T B s)) (by omega) (by show T - s < 1000; omega) (Nat.le_refl _) (hm.c (by rw [m_wk (show 9 ≠ 14 by decide), m_wJ, m_wk (show 9 ≠ 10 by decide)]) (fun k => (cc 58 (by omega)).1 k)) (by rw [m_wk (show 12 ≠ 14 by decide), m_wJ, m_wk (show 12 ≠ 10 by decide), h12]) (by rw [m_wk (show 10 ≠ 14 by decide), m_wJ, m_ws]; rfl) (by rw [m_wk (show 11 ≠ 14 by decide), m_wJ, m_wk (show 11 ≠ 10 by decide), h11]) (by rw [j_w, j_wJ, if_pos ⟨rfl, rfl⟩])
      refine ⟨M1, a1, ⟨?_, ?_, ?_, fun q => by omega, fun q => by omega, fun _ => a3⟩, fun q hq => ?_, cc.tr a5⟩
      · rw [a4 11 (by decide), m_wk (show 11 ≠ 14 by decide), m_wJ, m_wk (show 11 ≠ 10 by decide), h11]
      · rw [a2, en, if_pos c, if_pos d]
      · rw [a4 10 (by decide), m_wk (show 10 ≠ 14 by decide), m_wJ, m_ws, e]
      · rw [a4 q (by omega), m_wk (by omega), m_wJ, m_wk (by omega)]
    · by_cases g : dig (B s)
      · have e : so T B s = 2 := by unfold so; rw [if_pos c, if_neg d, if_pos g]
        rw [e, if_pos (show nI (if 2 ≤ 3 then 2 else 3) = (2 : Int32) by decide), pin, m_wk (show 10 ≠ 14 by decide), m_wJ, m_ws, if_neg (show ¬ nI (if 2 ≤ 3 then 2 else 3) = (3 : Int32) by decide)]
        have cc : Ch (fun o => o = 49) M (w_I (w_J (w_I M 49 10 (nI (if 2 ≤ 3 then 2 else 3))) 49 13 0) 49 14 0) := ((Ch.w (P := fun o => o = 49) rfl).tr (Ch.wJ (P := fun o => o = 49) rfl)).tr (Ch.w (P := fun o => o = 49) rfl)
        obtain ⟨M1, a1, a2, a3, a4, a5⟩ := m_ed hT (T - s) FU s 0 (w_I (w_J (w_I M 49 10 (nI (if 2 ≤ 3 then 2 else 3))) 49 13 0) 49 14 0) (by omega) (by show T - s < 1000; omega) (by omega) (hm.c (by rw [m_wk (show 9 ≠ 14 by decide), m_wJ, m_wk (show 9 ≠ 10 by decide)]) (fun k => (cc 58 (by omega)).1 k)) (by rw [m_wk (show 12 ≠ 14 by decide), m_wJ, m_wk (show 12 ≠ 10 by decide), h12]) (by rw [m_wk (show 10 ≠ 14 by decide), m_wJ, m_ws]; rfl) (by rw [m_ws]; rfl)
        refine ⟨M1, ?_, ⟨?_, ?_, ?_, fun _ => a3, fun q => by omega, fun q => by omega⟩, fun q hq => ?_, cc.tr a5⟩
        · rw [show FU = 999 + 1 from rfl, F_X8_advance_126, if_neg (by rw [m_wk (show 10 ≠ 14 by decide), m_wJ, m_ws]; decide)]
          exact a1
        · rw [a4 11 (by decide) (by decide), m_wk (show 11 ≠ 14 by decide), m_wJ, m_wk (show 11 ≠ 10 by decide), h11]
        · rw [a2, en, if_pos c, if_neg d, if_pos g]
        · rw [a4 10 (by decide) (by decide), m_wk (show 10 ≠ 14 by decide), m_wJ, m_ws, e]
        · rw [a4 q (by omega) (by omega), m_wk (by omega), m_wJ, m_wk (by omega)]
      · have e : (if so T B s ≤ 3 then so T B s else 3) = 3 ∧ 3 ≤ so T B s := by
          unfold so
          rw [if_pos c, if_neg d, if_neg g]
          by_cases k : B s = 59
          · rw [if_pos k]; decide
          · rw [if_neg k]; decide
        rw [e.1, if_neg (show ¬ nI 3 = (2 : Int32) by decide), pin, m_wk (show 10 ≠ 14 by decide), m_wJ, m_ws, if_pos (show nI 3 = (3 : Int32) from rfl), pin, m_wk (show 12 ≠ 14 by decide), m_wJ, m_wk (show 12 ≠ 10 by decide), h12]
        have cc : Ch (fun o => o = 49) M (w_I (w_I (w_J (w_I M 49 10 (nI 3)) 49 13 0) 49 14 (bt T B s)) 49 12 (nI s + 1)) := (((Ch.w (P := fun o => o = 49) rfl).tr (Ch.wJ (P := fun o => o = 49) rfl)).tr (Ch.w (P := fun o => o = 49) rfl)).tr (Ch.w (P := fun o => o = 49) rfl)
        have h10 : m_I (w_I (w_I (w_J (w_I M 49 10 (nI 3)) 49 13 0) 49 14 (bt T B s)) 49 12 (nI s + 1)) 49 10 = nI 3 := by rw [m_wk (show 10 ≠ 12 by decide), m_wk (show 10 ≠ 14 by decide), m_wJ, m_ws]
        refine ⟨_, ?_, ⟨?_, ?_, ?_, fun q => by omega, fun _ => ?_, fun q => by omega⟩, fun q hq => ?_, cc⟩
        · rw [show FU = 999 + 1 from rfl, F_X8_advance_126, if_neg (by rw [h10]; decide), m_207 (by rw [h10]; decide)]
        · rw [m_wk (show 11 ≠ 12 by decide), m_wk (show 11 ≠ 14 by decide), m_wJ, m_wk (show 11 ≠ 10 by decide), h11]
        · rw [m_ws, en, if_pos c, if_neg d, if_neg g, nI_1]
        · rw [h10, e.1]
        · rw [m_wk (show 14 ≠ 12 by decide), m_ws, bt, if_pos c]
        · rw [m_wk (by omega), m_wk (by omega), m_wJ, m_wk (by omega)]
  · have e : so T B s = 0 := by unfold so; rw [if_neg c]
    rw [e, if_neg (show ¬ nI (if 0 ≤ 3 then 0 else 3) = (2 : Int32) by decide), pin, m_wk (show 10 ≠ 14 by decide), m_wJ, m_ws, if_neg (show ¬ nI (if 0 ≤ 3 then 0 else 3) = (3 : Int32) by decide)]
    have cc : Ch (fun o => o = 49) M (w_I (w_J (w_I M 49 10 (nI (if 0 ≤ 3 then 0 else 3))) 49 13 0) 49 14 (bt T B s)) := ((Ch.w (P := fun o => o = 49) rfl).tr (Ch.wJ (P := fun o => o = 49) rfl)).tr (Ch.w (P := fun o => o = 49) rfl)
    have h10 : m_I (w_I (w_J (w_I M 49 10 (nI (if 0 ≤ 3 then 0 else 3))) 49 13 0) 49 14 (bt T B s)) 49 10 = nI (if 0 ≤ 3 then 0 else 3) := by rw [m_wk (show 10 ≠ 14 by decide), m_wJ, m_ws]
    refine ⟨_, ?_, ⟨?_, ?_, ?_, fun q => by omega, fun q => by omega, fun q => by omega⟩, fun q hq => ?_, cc⟩
    · rw [show FU = 999 + 1 from rfl, F_X8_advance_126, if_neg (by rw [h10]; decide), m_207 (by rw [h10]; decide)]
    · rw [m_wk (show 11 ≠ 14 by decide), m_wJ, m_wk (show 11 ≠ 10 by decide), h11]
    · rw [m_wk (show 12 ≠ 14 by decide), m_wJ, m_wk (show 12 ≠ 10 by decide), h12, en, if_neg c]
    · rw [h10, e]
    · rw [m_wk (by omega), m_wJ, m_wk (by omega)]
theorem m_sk (hT : BB T B) : ∀ k m i M, i + k = T → k < m → MB M T B → m_I M 49 11 = nI i → ∃ M1 n, F_X8_advance_8 m M = F_X8_advance_8 (n + 1) M1 ∧ m_I M1 49 11 = nI (sk B k i) ∧ (∀ q, q ≠ 11 → m_I M1 49 q = m_I M 49 q) ∧ Ch (fun o => o = 49) M M1 := by
  have hT2 := hT.1
  intro k
  induction k with
  | zero =>
    intro m i M h1 h2 hm hi
    obtain ⟨m, rfl⟩ : ∃ q, m = q + 1 := ⟨m - 1, by omega⟩
    exact ⟨M, m, rfl, hi, fun q _ => rfl, Ch.rf⟩
  | succ k ih =>
    intro m i M h1 h2 hm hi
    obtain ⟨m, rfl⟩ : ∃ q, m = q + 1 := ⟨m - 1, by omega⟩
    have hiT : i < T := by omega
    have hb := hT.2 i hiT
    have e1 : (nI (B i) = (32 : Int32)) ↔ B i = 32 := nI_eq (b := 32) (by omega) (by decide)
    rw [sk]
    by_cases c : B i = 32
    · have cc : Ch (fun o => o = 49) M (w_I M 49 11 (nI i + 1)) := Ch.w rfl
      obtain ⟨M1, n, a1, a2, a3, a4⟩ := ih m (i + 1) (w_I M 49 11 (nI i + 1)) (by omega) (by omega) (hm.c (by rw [m_wk (show 9 ≠ 11 by decide)]) (fun k => (cc 58 (by omega)).1 k)) (by rw [m_ws, nI_1])
      refine ⟨M1, n, ?_, by rw [if_pos c]; exact a2, fun q hq => by rw [a3 q hq, m_wk hq], cc.tr a4⟩
      rw [F_X8_advance_8, hi, m_at hm hT2 (by omega), Option.bind_some, bt, if_pos hiT, if_pos (e1.mpr c), pin]
      exact a1
    · exact ⟨M, m, rfl, by rw [if_neg c]; exact hi, fun q _ => rfl, Ch.rf⟩
theorem m_step (hT : BB T B) {M : Mem} {e : Nat} (hm : MB M T B) (he : e ≤ T) (h12 : m_I M 49 12 = nI e) : ∃ M1, F_X8_advance M = some M1 ∧ TM T B M1 (sk B (T - e) e) ∧ (∀ q, q < 10 ∨ 14 < q → m_I M1 49 q = m_I M 49 q) ∧ Ch (fun o => o = 49) M M1 := by
  have hT2 := hT.1
  have c1 : Ch (fun o => o = 49) M (w_I M 49 11 (nI e)) := Ch.w rfl
  obtain ⟨M1, n, a1, a2, a3, a4⟩ := m_sk hT (T - e) FU e (w_I M 49 11 (nI e)) (by omega) (by show T - e < 1000; omega) (hm.c (by rw [m_wk (show 9 ≠ 11 by decide)]) (fun k => (c1 58 (by omega)).1 k)) (m_ws _ _ _ _)
  obtain ⟨s1, s2, s3⟩ := sk_b (T := T) (B := B) (T - e) e (by omega)
  generalize sk B (T - e) e = s at a2 s1 s2 s3
  have c2 := c1.tr a4
  have c3 : Ch (fun o => o = 49) M1 (w_I M1 49 12 (nI s)) := Ch.w rfl
  have hm1 : MB M1 T B := hm.c (by rw [a3 9 (by decide), m_wk (show 9 ≠ 11 by decide)]) (fun k => (c2 58 (by omega)).1 k)
  have hm2 : MB (w_I M1 49 12 (nI s)) T B := hm1.c (by rw [m_wk (show 9 ≠ 12 by decide)]) (fun k => (c3 58 (by omega)).1 k)
  obtain ⟨M2, b1, b2, b3, b4⟩ := m_83 hT hm2 s2 (by rw [m_wk (show 11 ≠ 12 by decide), a2]) (m_ws _ _ _ _)
  refine ⟨M2, ?_, b2, fun q hq => by rw [b3 q hq, m_wk (by omega), a3 q (by omega), m_wk (by omega)], (c2.tr c3).tr b4⟩
  have h32 : ¬ bt T B s = (32 : Int32) := by
    unfold bt
    by_cases c : s < T
    · rw [if_pos c]
      have hb := hT.2 s c
      exact fun q => s3 c ((nI_eq (b := 32) (by omega) (by decide)).mp q)
    · rw [if_neg c]; decide
  rw [F_X8_advance, pin, h12, a1, F_X8_advance_8, a2, m_at hm1 hT2 (by omega), Option.bind_some, if_neg h32, pin, m_wk (show 11 ≠ 12 by decide), a2, m_at hm2 hT2 (by omega), Option.bind_some, m_bt_letter hT, Option.bind_some, m_bt_digit hT, Option.bind_some]
  by_cases c : s < T
  · have hb := hT.2 s c
    rw [if_pos (show 0 ≤ bt T B s by unfold bt; rw [if_pos c]; exact nI_pos' (by omega))]
    by_cases d : ltr (B s)
    · rw [if_pos (show s < T ∧ ltr (B s) from ⟨c, d⟩), if_neg one0.mp]
      rw [so, if_pos c, if_pos d] at b1
      exact b1
    · rw [if_neg (show ¬ (s < T ∧ ltr (B s)) from fun q => d q.2), if_pos rfl]
      by_cases g : dig (B s)
      · rw [if_pos (show s < T ∧ dig (B s) from ⟨c, g⟩), if_neg one0.mp]
        rw [so, if_pos c, if_neg d, if_pos g] at b1
        exact b1
      · rw [if_neg (show ¬ (s < T ∧ dig (B s)) from fun q => g q.2), if_pos rfl]
        rw [so, if_pos c, if_neg d, if_neg g] at b1
        by_cases k : B s = 59
        · rw [if_pos k] at b1
          exact b1
        · rw [if_neg k] at b1
          exact b1
  · rw [if_neg (show ¬ 0 ≤ bt T B s by unfold bt; rw [if_neg c]; decide)]
    rw [so, if_neg c] at b1
    exact b1
end TK
