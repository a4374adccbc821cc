/-! ===== THE TOKENS OF THE TAPE ===== -/
section TK
variable {T : Nat} {B : Nat → Nat}
def XB (M : Mem) (T : Nat) (B : Nat → Nat) : Prop := m_I M 37 1 = nI T ∧ ∀ k, k < T → m_I M 38 k = nI (B k)
def MB (M : Mem) (T : Nat) (B : Nat → Nat) : Prop := m_I M 49 9 = nI T ∧ ∀ k, k < T → m_I M 58 k = nI (B k)
def BB (T : Nat) (B : Nat → Nat) : Prop := T ≤ 120 ∧ ∀ k, k < T → B k ≤ 255
def bt (T : Nat) (B : Nat → Nat) (i : Nat) : Int32 := if i < T then nI (B i) else -1
abbrev ltr (c : Nat) : Prop := 97 ≤ c ∧ c ≤ 122
abbrev dig (c : Nat) : Prop := 48 ≤ c ∧ c ≤ 57
theorem XB.ch {M M1 : Mem} {P : Nat → Prop} (h : XB M T B) (hc : Ch P M M1) (h1 : ¬ P 37) (h2 : ¬ P 38) : XB M1 T B := ⟨by rw [(hc 37 h1).1]; exact h.1, fun k hk => by rw [(hc 38 h2).1]; exact h.2 k hk⟩
theorem x_at {M : Mem} (h : XB M T B) (hT : T ≤ 120) {i : Nat} (hi : i < 1000) : F_X3_at (nI i) M = some (bt T B i) := by
  unfold F_X3_at bt
  rw [if_neg (nI_pos (by omega)), h.1]
  by_cases c : i < T
  · rw [lp_x c (by omega), ix_n (by omega) (by decide), h.2 i c, if_pos c]
  · rw [if_pos (nI_le (by omega) (by omega)), if_neg c]
theorem m_at {M : Mem} (h : MB M T B) (hT : T ≤ 120) {i : Nat} (hi : i < 1000) : F_X8_byteAt (nI i) M = some (bt T B i) := by
  unfold F_X8_byteAt bt
  rw [h.1]
  by_cases c : i < T
  · rw [lp_x c (by omega), ix_n (by omega) (by decide), h.2 i c, if_pos c]
  · rw [if_pos (nI_le (by omega) (by omega)), if_neg c]
theorem x_letter {c : Nat} (hc : c ≤ 255) (M : Mem) : F_X5_isLetter (nI c) M = some (if ltr c then 1 else 0) := by
  unfold F_X5_isLetter
  have e1 : (nI c < (97 : Int32)) ↔ c < 97 := nI_ltI (b := 97) (by omega) (by decide)
  have e2 : ((122 : Int32) < nI c) ↔ 122 < c := nI_ltI (a := 122) (by decide) (by omega)
  by_cases h1 : c < 97
  · rw [if_pos (e1.mpr h1), if_neg (by omega)]
  · rw [if_neg (fun q => h1 (e1.mp q))]
    by_cases h2 : 122 < c
    · rw [if_pos (e2.mpr h2), if_neg (by omega)]
    · rw [if_neg (fun q => h2 (e2.mp q)), if_pos (by omega)]
theorem x_digit {c : Nat} (hc : c ≤ 255) (M : Mem) : F_X5_isDigit (nI c) M = some (if dig c then 1 else 0) := by
  unfold F_X5_isDigit
  have e1 : (nI c < (48 : Int32)) ↔ c < 48 := nI_ltI (b := 48) (by omega) (by decide)
  have e2 : ((57 : Int32) < nI c) ↔ 57 < c := nI_ltI (a := 57) (by decide) (by omega)
  by_cases h1 : c < 48
  · rw [if_pos (e1.mpr h1), if_neg (by omega)]
  · rw [if_neg (fun q => h1 (e1.mp q))]
    by_cases h2 : 57 < c
    · rw [if_pos (e2.mpr h2), if_neg (by omega)]
    · rw [if_neg (fun q => h2 (e2.mp q)), if_pos (by omega)]
theorem m_letter {c : Nat} (hc : c ≤ 255) (M : Mem) : F_X8_isLetter (nI c) M = some (if ltr c then 1 else 0) := by
  unfold F_X8_isLetter
  rw [in_e, Option.bind_some, zb_01, nI_toInt (by omega), show (97 : Int32).toInt = 97 by decide, show (122 : Int32).toInt = 122 by decide]
  by_cases h : ltr c
  · rw [if_pos (by omega), if_pos h]
  · rw [if_neg (by omega), if_neg h]
theorem m_digit {c : Nat} (hc : c ≤ 255) (M : Mem) : F_X8_isDigit (nI c) M = some (if dig c then 1 else 0) := by
  unfold F_X8_isDigit
  rw [in_e, Option.bind_some, zb_01, nI_toInt (by omega), show (48 : Int32).toInt = 48 by decide, show (57 : Int32).toInt = 57 by decide]
  by_cases h : dig c
  · rw [if_pos (by omega), if_pos h]
  · rw [if_neg (by omega), if_neg h]
theorem m_letterN (M : Mem) : F_X8_isLetter (-1 : Int32) M = some 0 := by
  unfold F_X8_isLetter
  rw [in_e, Option.bind_some, zb_01, if_neg (by decide)]
theorem m_digitN (M : Mem) : F_X8_isDigit (-1 : Int32) M = some 0 := by
  unfold F_X8_isDigit
  rw [in_e, Option.bind_some, zb_01, if_neg (by decide)]
def sk (B : Nat → Nat) : Nat → Nat → Nat
  | 0, i => i
  | k + 1, i => if B i = 32 then sk B k (i + 1) else i
def el (B : Nat → Nat) : Nat → Nat → Nat
  | 0, i => i
  | k + 1, i => if ltr (B i) then el B k (i + 1) else i
def ed (B : Nat → Nat) : Nat → Nat → Nat
  | 0, i => i
  | k + 1, i => if dig (B i) then ed B k (i + 1) else i
def xv (B : Nat → Nat) : Nat → Nat → Nat → Nat
  | 0, _, v => v
  | k + 1, i, v => if dig (B i) then xv B k (i + 1) (if 10 * v + B i - 48 < 1000 then 10 * v + B i - 48 else 1000) else v
def mv (B : Nat → Nat) : Nat → Nat → Nat → Nat
  | 0, _, v => v
  | k + 1, i, v => if dig (B i) then mv B k (i + 1) (if v ≤ 999 then 10 * v + B i - 48 else 10000) else v
def hs (B : Nat → Nat) (s : Nat) : Nat → Nat → Int64 → Int64
  | 0, _, h => h
  | k + 1, i, h => if ltr (B i) then hs B s k (i + 1) (if 12 ≤ i - s then -1 else ((27 : Int64) * h + (nI (B i)).toInt64) - 96) else h
theorem x_el (hT : BB T B) : ∀ k m i M, i + k = T → k < m → XB M T B → m_I M 39 2 = nI i → ∃ M1, F_X5_passLetters_0 m M = some M1 ∧ m_I M1 39 2 = nI (el B k i) ∧ (∀ q, q ≠ 2 → m_I M1 39 q = m_I M 39 q) ∧ Ch (fun o => o = 39) M M1 := by
  have hT2 := hT.1
  intro k
  induction k with
  | zero =>
    intro m i M h1 h2 hx hi
    obtain ⟨m, rfl⟩ : ∃ q, m = q + 1 := ⟨m - 1, by omega⟩
    have e : i = T := by omega
    subst e
    exact ⟨M, by rw [F_X5_passLetters_0, hx.1, hi, lp_y], hi, fun q _ => rfl, Ch.rf⟩
  | succ k ih =>
    intro m i M h1 h2 hx hi
    obtain ⟨m, rfl⟩ : ∃ q, m = q + 1 := ⟨m - 1, by omega⟩
    rw [F_X5_passLetters_0, hx.1, hi, lp_x (by omega) (by omega), x_at hx hT2 (by omega), Option.bind_some, bt, if_pos (by omega), x_letter (hT.2 i (by omega)), Option.bind_some, el]
    by_cases c : ltr (B i)
    · have cc : Ch (fun o => o = 39) M (w_I M 39 2 (nI i + 1)) := Ch.w rfl
      obtain ⟨M1, a1, a2, a3, a4⟩ := ih m (i + 1) (w_I M 39 2 (nI i + 1)) (by omega) (by omega) (hx.ch cc (by omega) (by omega)) (by rw [m_ws, nI_1])
      rw [if_pos c, if_pos c, if_neg one0.mp, pin]
      exact ⟨M1, a1, a2, fun q hq => by rw [a3 q hq, m_wk hq], cc.tr a4⟩
    · rw [if_neg c, if_neg c, if_pos rfl]
      exact ⟨M, rfl, hi, fun q _ => rfl, Ch.rf⟩
theorem val_n {v c : Nat} (h : 48 ≤ c) : ((10 : Int32) * nI v + nI c) - 48 = nI (10 * v + c - 48) := by
  rw [show (10 : Int32) = nI 10 from rfl, pk_mul, nI_add, show (48 : Int32) = nI 48 from rfl, nI_sb (by omega)]
theorem x_ed (hT : BB T B) : ∀ k m i v M, i + k = T → k < m → v ≤ 1000 → XB M T B → m_I M 39 2 = nI i → m_I M 39 4 = nI v → ∃ M1, F_X5_passDigits_5 m M = some M1 ∧ m_I M1 39 2 = nI (ed B k i) ∧ m_I M1 39 4 = nI (xv B k i v) ∧ (∀ q, q ≠ 2 → q ≠ 4 → m_I M1 39 q = m_I M 39 q) ∧ Ch (fun o => o = 39) M M1 := by
  have hT2 := hT.1
  intro k
  induction k with
  | zero =>
    intro m i v M h1 h2 hv hx hi hv2
    obtain ⟨m, rfl⟩ : ∃ q, m = q + 1 := ⟨m - 1, by omega⟩
    have e : i = T := by omega
    subst e
    exact ⟨M, by rw [F_X5_passDigits_5, hx.1, hi, lp_y], hi, hv2, fun q _ _ => rfl, Ch.rf⟩
  | succ k ih =>
    intro m i v M h1 h2 hv hx hi hv2
    obtain ⟨m, rfl⟩ : ∃ q, m = q + 1 := ⟨m - 1, by omega⟩
    have hb := hT.2 i (by omega)
    rw [F_X5_passDigits_5, hx.1, hi, lp_x (by omega) (by omega), x_at hx hT2 (by omega), Option.bind_some, bt, if_pos (by omega), x_digit hb, Option.bind_some, Option.bind_some, ed, xv]
    by_cases c : dig (B i)
    · have ev : (if (((10 : Int32) * m_I M 39 4) + nI (B i)) - (48 : Int32) < (1000 : Int32) then (((10 : Int32) * m_I M 39 4) + nI (B i)) - (48 : Int32) else (1000 : Int32)) = nI (if 10 * v + B i - 48 < 1000 then 10 * v + B i - 48 else 1000) := by
        rw [hv2, val_n c.1]
        have e1 : (nI (10 * v + B i - 48) < (1000 : Int32)) ↔ 10 * v + B i - 48 < 1000 := nI_ltI (b := 1000) (by omega) (by decide)
        by_cases d : 10 * v + B i - 48 < 1000
        · rw [if_pos (e1.mpr d), if_pos d]
        · rw [if_neg (fun q => d (e1.mp q)), if_neg d]; rfl
      rw [if_pos c, if_pos c, if_pos c, if_neg one0.mp, ev, pin, pin, m_wk (show 2 ≠ 4 by decide), hi]
      generalize hw : (if 10 * v + B i - 48 < 1000 then 10 * v + B i - 48 else 1000) = w
      have hw2 : w ≤ 1000 := by
        by_cases d : 10 * v + B i - 48 < 1000
        · rw [if_pos d] at hw; omega
        · rw [if_neg d] at hw; omega
      have cc : Ch (fun o => o = 39) M (w_I (w_I M 39 4 (nI w)) 39 2 (nI i + 1)) := (Ch.w (P := fun o => o = 39) rfl).tr (Ch.w (P := fun o => o = 39) rfl)
      obtain ⟨M1, a1, a2, a3, a4, a5⟩ := ih m (i + 1) w (w_I (w_I M 39 4 (nI w)) 39 2 (nI i + 1)) (by omega) (by omega) hw2 (hx.ch cc (by omega) (by omega)) (by rw [m_ws, nI_1]) (by rw [m_wk (show 4 ≠ 2 by decide), m_ws])
      exact ⟨M1, a1, a2, a3, fun q q2 q4 => by rw [a4 q q2 q4, m_wk q2, m_wk q4], cc.tr a5⟩
    · rw [if_neg c, if_neg c, if_neg c, if_pos rfl]
      exact ⟨M, rfl, hi, hv2, fun q _ _ => rfl, Ch.rf⟩
theorem x_sk (hT : BB T B) : ∀ k m i M, i + k = T → k < m → XB M T B → m_I M 39 1 = nI i → ∃ M1, F_X5_step_8 m M = F_X5_step_51 M1 ∧ m_I M1 39 1 = nI (sk B k i) ∧ Ch (fun o => o = 39) M M1 := by
  have hT2 := hT.1
  intro k
  induction k with
  | zero =>
    intro m i M h1 h2 hx hi
    obtain ⟨m, rfl⟩ : ∃ q, m = q + 1 := ⟨m - 1, by omega⟩
    have e : i = T := by omega
    subst e
    exact ⟨M, by rw [F_X5_step_8, hx.1, hi, lp_y], hi, Ch.rf⟩
  | succ k ih =>
    intro m i M h1 h2 hx hi
    obtain ⟨m, rfl⟩ : ∃ q, m = q + 1 := ⟨m - 1, by omega⟩
    have hb := hT.2 i (by omega)
    rw [F_X5_step_8, hx.1, hi, lp_x (by omega) (by omega), x_at hx hT2 (by omega), Option.bind_some, bt, if_pos (show i < T by omega), sk]
    have e1 : (nI (B i) = (32 : Int32)) ↔ B i = 32 := nI_eq (b := 32) (by omega) (by decide)
    by_cases c : B i = 32
    · have cc : Ch (fun o => o = 39) M (w_I M 39 1 (nI i + 1)) := Ch.w rfl
      obtain ⟨M1, a1, a2, a3⟩ := ih m (i + 1) (w_I M 39 1 (nI i + 1)) (by omega) (by omega) (hx.ch cc (by omega) (by omega)) (by rw [m_ws, nI_1])
      rw [if_pos (e1.mpr c), if_pos c, pin]
      exact ⟨M1, a1, a2, cc.tr a3⟩
    · rw [if_neg (fun q => c (e1.mp q)), if_neg c]
      exact ⟨M, rfl, hi, Ch.rf⟩
theorem sk_b : ∀ k i, i + k = T → i ≤ sk B k i ∧ sk B k i ≤ T ∧ (sk B k i < T → B (sk B k i) ≠ 32) := by
  intro k
  induction k with
  | zero => intro i h; exact ⟨Nat.le_refl _, by show i ≤ T; omega, fun q => by have : i < T := q; omega⟩
  | succ k ih =>
    intro i h
    rw [sk]
    by_cases c : B i = 32
    · rw [if_pos c]
      obtain ⟨a, b, d⟩ := ih (i + 1) (by omega)
      exact ⟨by omega, b, d⟩
    · rw [if_neg c]
      exact ⟨Nat.le_refl _, by omega, fun _ => c⟩
theorem el_b : ∀ k i, i + k = T → i ≤ el B k i ∧ el B k i ≤ T := by
  intro k
  induction k with
  | zero => intro i h; exact ⟨Nat.le_refl _, by show i ≤ T; omega⟩
  | succ k ih =>
    intro i h
    rw [el]
    by_cases c : ltr (B i)
    · rw [if_pos c]
      have := ih (i + 1) (by omega)
      omega
    · rw [if_neg c]
      omega
theorem ed_b : ∀ k i, i + k = T → i ≤ ed B k i ∧ ed B k i ≤ T := by
  intro k
  induction k with
  | zero => intro i h; exact ⟨Nat.le_refl _, by show i ≤ T; omega⟩
  | succ k ih =>
    intro i h
    rw [ed]
    by_cases c : dig (B i)
    · rw [if_pos c]
      have := ih (i + 1) (by omega)
      omega
    · rw [if_neg c]
      omega
def en (T : Nat) (B : Nat → Nat) (s : Nat) : Nat := if s < T then (if ltr (B s) then el B (T - s) s else if dig (B s) then ed B (T - s) s else s + 1) else s
def so (T : Nat) (B : Nat → Nat) (s : Nat) : Nat := if s < T then (if ltr (B s) then 1 else if dig (B s) then 2 else if B s = 59 then 3 else 4) else 0
theorem en_b {s : Nat} (h : s ≤ T) : s ≤ en T B s ∧ en T B s ≤ T := by
  unfold en
  by_cases c : s < T
  · rw [if_pos c]
    have a := el_b (T := T) (B := B) (T - s) s (by omega)
    have b := ed_b (T := T) (B := B) (T - s) s (by omega)
    by_cases d : ltr (B s)
    · rw [if_pos d]; exact a
    · rw [if_neg d]
      by_cases e : dig (B s)
      · rw [if_pos e]; exact b
      · rw [if_neg e]; omega
  · rw [if_neg c]; omega
theorem en_gt {s : Nat} (h : s < T) : s < en T B s := by
  unfold en
  rw [if_pos h]
  obtain ⟨k, hk⟩ : ∃ k, T - s = k + 1 := ⟨T - s - 1, by omega⟩
  by_cases d : ltr (B s)
  · rw [if_pos d, hk, el, if_pos d]
    have a := el_b (T := T) (B := B) k (s + 1) (by omega)
    omega
  · rw [if_neg d]
    by_cases e : dig (B s)
    · rw [if_pos e, hk, ed, if_pos e]
      have a := ed_b (T := T) (B := B) k (s + 1) (by omega)
      omega
    · rw [if_neg e]; omega
def TX (T : Nat) (B : Nat → Nat) (M : Mem) (s : Nat) : Prop := m_I M 39 1 = nI s ∧ m_I M 39 2 = nI (en T B s) ∧ m_I M 39 3 = nI (so T B s) ∧ (so T B s = 2 → m_I M 39 4 = nI (xv B (T - s) s 0))
theorem x_51 (hT : BB T B) {M : Mem} {s : Nat} (hx : XB M T B) (hs : s ≤ T) (h1 : m_I M 39 1 = nI s) : ∃ M1, F_X5_step_51 M = some M1 ∧ TX T B M1 s ∧ Ch (fun o => o = 39) M M1 := by
  have hT2 := hT.1
  have c1 : Ch (fun o => o = 39) M (w_I M 39 2 (nI s)) := Ch.w rfl
  have hx1 := hx.ch c1 (by omega) (by omega)
  unfold F_X5_step_51
  rw [pin, h1, m_wk (show 1 ≠ 2 by decide), h1, x_at hx1 hT2 (by omega), Option.bind_some, bt]
  by_cases c : s < T
  · have hb := hT.2 s c
    rw [if_pos c, if_pos (nI_pos' (by omega)), x_letter hb, Option.bind_some, x_digit hb, Option.bind_some]
    by_cases d : ltr (B s)
    · have c2 : Ch (fun o => o = 39) M (w_I (w_I M 39 2 (nI s)) 39 3 1) := c1.tr (Ch.w rfl)
      obtain ⟨M1, a1, a2, a3, a4⟩ := x_el hT (T - s) FU s (w_I (w_I M 39 2 (nI s)) 39 3 1) (by omega) (by show T - s < 1000; omega) (hx.ch c2 (by omega) (by omega)) (by rw [m_wk (show 2 ≠ 3 by decide), m_ws])
      rw [if_pos d, if_neg one0.mp, pin]
      refine ⟨M1, by rw [F_X5_passLetters, a1, Option.bind_some], ⟨?_, ?_, ?_, fun q => ?_⟩, c2.tr a4⟩
      · rw [a3 1 (by decide), m_wk (show 1 ≠ 3 by decide), m_wk (show 1 ≠ 2 by decide), h1]
      · rw [a2, en, if_pos c, if_pos d]
      · rw [a3 3 (by decide), m_ws, so, if_pos c, if_pos d]; rfl
      · rw [so, if_pos c, if_pos d] at q; omega
    · rw [if_neg d, if_pos rfl]
      by_cases e : dig (B s)
      · have c2 : Ch (fun o => o = 39) M (w_I (w_I (w_I M 39 2 (nI s)) 39 3 2) 39 4 0) := (c1.tr (Ch.w rfl)).tr (Ch.w rfl)
        obtain ⟨M1, a1, a2, a3, a4, a5⟩ := x_ed hT (T - s) FU s 0 (w_I (w_I (w_I M 39 2 (nI s)) 39 3 2) 39 4 0) (by omega) (by show T - s < 1000; omega) (by omega) (hx.ch c2 (by omega) (by omega)) (by rw [m_wk (show 2 ≠ 4 by decide), m_wk (show 2 ≠ 3 by decide), m_ws]) (by rw [m_ws]; rfl)
        rw [if_pos e, if_neg one0.mp, pin]
        refine ⟨M1, by rw [F_X5_passDigits, pin, a1, Option.bind_some], ⟨?_, ?_, ?_, fun q => a3⟩, c2.tr a5⟩
        · rw [a4 1 (by decide) (by decide), m_wk (show 1 ≠ 4 by decide), m_wk (show 1 ≠ 3 by decide), m_wk (show 1 ≠ 2 by decide), h1]
        · rw [a2, en, if_pos c, if_neg d, if_pos e]
        · rw [a4 3 (by decide) (by decide), m_wk (show 3 ≠ 4 by decide), m_ws, so, if_pos c, if_neg d, if_pos e]; rfl
      · have e1 : (nI (B s) = (59 : Int32)) ↔ B s = 59 := nI_eq (b := 59) (by omega) (by decide)
        rw [if_neg e, if_pos rfl]
        have fin2 : ∀ y : Nat, (y = if B s = 59 then 3 else 4) → TX T B (w_I (w_I (w_I M 39 2 (nI s)) 39 3 (nI y)) 39 2 (nI s + 1)) s := by
          intro y hy
          refine ⟨?_, ?_, ?_, fun q => ?_⟩
          · rw [m_wk (show 1 ≠ 2 by decide), m_wk (show 1 ≠ 3 by decide), m_wk (show 1 ≠ 2 by decide), h1]
          · rw [m_ws, en, if_pos c, if_neg d, if_neg e, nI_1]
          · rw [m_wk (show 3 ≠ 2 by decide), m_ws, so, if_pos c, if_neg d, if_neg e, hy]
          · rw [so, if_pos c, if_neg d, if_neg e] at q
            by_cases g : B s = 59
            · rw [if_pos g] at q; omega
            · rw [if_neg g] at q; omega
        by_cases g : B s = 59
        · rw [if_pos (e1.mpr g), pin, pin, m_wk (show 2 ≠ 3 by decide), m_ws]
          exact ⟨_, rfl, fin2 3 (by rw [if_pos g]), (c1.tr (Ch.w rfl)).tr (Ch.w rfl)⟩
        · rw [if_neg (fun q => g (e1.mp q)), pin, pin, m_wk (show 2 ≠ 3 by decide), m_ws]
          exact ⟨_, rfl, fin2 4 (by rw [if_neg g]), (c1.tr (Ch.w rfl)).tr (Ch.w rfl)⟩
  · rw [if_neg c, if_neg (by decide), pin]
    refine ⟨_, rfl, ⟨?_, ?_, ?_, fun q => ?_⟩, c1.tr (Ch.w rfl)⟩
    · rw [m_wk (show 1 ≠ 3 by decide), m_wk (show 1 ≠ 2 by decide), h1]
    · rw [m_wk (show 2 ≠ 3 by decide), m_ws, en, if_neg c]
    · rw [m_ws, so, if_neg c]; rfl
    · rw [so, if_neg c] at q; omega
theorem x_step (hT : BB T B) {M : Mem} {e : Nat} (hx : XB M T B) (he : e ≤ T) (h2 : m_I M 39 2 = nI e) : ∃ M1, F_X5_step M = some M1 ∧ TX T B M1 (sk B (T - e) e) ∧ Ch (fun o => o = 39) M M1 := by
  have hT2 := hT.1
  have c1 : Ch (fun o => o = 39) M (w_I M 39 1 (nI e)) := Ch.w rfl
  obtain ⟨M1, a1, a2, a3⟩ := x_sk hT (T - e) FU e (w_I M 39 1 (nI e)) (by omega) (by show T - e < 1000; omega) (hx.ch c1 (by omega) (by omega)) (m_ws _ _ _ _)
  have c2 := c1.tr a3
  obtain ⟨M2, b1, b2, b3⟩ := x_51 hT (hx.ch c2 (by omega) (by omega)) (sk_b (T := T) (B := B) (T - e) e (by omega)).2.1 a2
  exact ⟨M2, by rw [F_X5_step, pin, h2, a1, b1], b2, c2.tr b3⟩
end TK
