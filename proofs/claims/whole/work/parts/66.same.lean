/-! ===== THE SAME WORDS, THE SAME NUMBERS ===== -/
def hnf (D : Nat → Nat) : Nat → Nat
  | 0 => 0
  | n + 1 => 27 * hnf D n + (D n - 96)
theorem hnf_inj {D E : Nat → Nat} : ∀ n l, (∀ j, j < n → ltr (D j)) → (∀ j, j < l → ltr (E j)) → hnf D n = hnf E l → n = l ∧ ∀ j, j < n → D j = E j := by
  intro n
  induction n with
  | zero =>
    intro l h1 h2 h3
    cases l with
    | zero => exact ⟨rfl, fun j hj => by omega⟩
    | succ l =>
      have := h2 l (by omega)
      rw [hnf, hnf] at h3
      omega
  | succ n ih =>
    intro l h1 h2 h3
    have a := h1 n (by omega)
    cases l with
    | zero =>
      rw [hnf, hnf] at h3
      omega
    | succ l =>
      have b := h2 l (by omega)
      rw [hnf, hnf] at h3
      obtain ⟨q1, q2⟩ := ih l (fun j hj => h1 j (by omega)) (fun j hj => h2 j (by omega)) (by omega)
      subst q1
      refine ⟨rfl, fun j hj => ?_⟩
      by_cases e : j = n
      · subst e; omega
      · exact q2 j (by omega)
theorem hnf_lt {D : Nat → Nat} : ∀ n, (∀ j, j < n → ltr (D j)) → hnf D n < 27 ^ n := by
  intro n
  induction n with
  | zero => intro h; exact Nat.one_pos
  | succ n ih =>
    intro h
    have a := h n (by omega)
    have b := ih (fun j hj => h j (by omega))
    rw [hnf, Nat.pow_succ]
    omega
theorem hnf_63 {D : Nat → Nat} {n : Nat} (hn : n ≤ 12) (h : ∀ j, j < n → ltr (D j)) : hnf D n < 2 ^ 63 := by
  have a := hnf_lt n h
  have b : 27 ^ n ≤ 27 ^ 12 := Nat.pow_le_pow_right (by decide) hn
  have c : 27 ^ 12 < 2 ^ 63 := by decide
  omega
theorem el_l {B : Nat → Nat} : ∀ k i y, i ≤ y → y < el B k i → ltr (B y) := by
  intro k
  induction k with
  | zero => intro i y h1 h2; rw [el] at h2; omega
  | succ k ih =>
    intro i y h1 h2
    rw [el] at h2
    by_cases c : ltr (B i)
    · rw [if_pos c] at h2
      by_cases e : y = i
      · rw [e]; exact c
      · exact ih (i + 1) y (by omega) h2
    · rw [if_neg c] at h2
      omega
def hv (D : Nat → Nat) (n : Nat) : Int64 := if n ≤ 12 then lN (hnf D n) else -1
theorem hs_v {T s : Nat} {B : Nat → Nat} : ∀ k i, s ≤ i → i + k = T → hs B s k i (hv (fun j => B (s + j)) (i - s)) = hv (fun j => B (s + j)) (el B k i - s) := by
  intro k
  induction k with
  | zero => intro i h1 h2; rfl
  | succ k ih =>
    intro i h1 h2
    rw [hs, el]
    by_cases c : ltr (B i)
    · rw [if_pos c, if_pos c, ← ih (i + 1) (by omega) (by omega)]
      congr 1
      unfold hv
      by_cases d : 12 ≤ i - s
      · rw [if_pos d, if_neg (by omega)]
      · rw [if_neg d, if_pos (by omega), if_pos (by omega), show i + 1 - s = (i - s) + 1 by omega, hnf, show s + (i - s) = i by omega, nI_l (by omega), show (27 : Int64) = lN 27 from rfl, lN_mul, lN_add, show (96 : Int64) = lN 96 from rfl, lN_sub (by omega)]
        congr 1
        omega
    · rw [if_neg c, if_neg c]
def wd (a j : Nat) : Nat := (chS a j).toNatClampNeg
theorem w_ok : ∀ a, a < 11 → ∀ j, j < lenL.getD a 0 → chS a j = nI (wd a j) ∧ ltr (wd a j) := by decide +kernel
theorem w_len : ∀ a, a < 11 → lenL.getD a 0 ≤ 12 ∧ 1 ≤ lenL.getD a 0 := by decide +kernel
def wh (a : Nat) : Int64 := lN (hnf (wd a) (lenL.getD a 0))
theorem wh_all : wh 0 = 382984 ∧ wh 1 = 262 ∧ wh 2 = 10360367 ∧ wh 3 = 14092 ∧ wh 4 = 1758676 ∧ wh 5 = 239329775 ∧ wh 6 = 10792986 ∧ wh 7 = 233793143982 ∧ wh 8 = 464141 ∧ wh 9 = 8930039 ∧ wh 10 = 276647 := by decide +kernel
def isW (T : Nat) (B : Nat → Nat) (s a : Nat) : Bool := decide (so T B s = 1 ∧ en T B s - s = lenL.getD a 0 ∧ ∀ j, j < lenL.getD a 0 → B (s + j) = wd a j)
theorem so_1 {T s : Nat} {B : Nat → Nat} (h : so T B s = 1) : s < T ∧ ltr (B s) ∧ en T B s = el B (T - s) s := by
  unfold so at h
  by_cases c : s < T
  · rw [if_pos c] at h
    by_cases d : ltr (B s)
    · exact ⟨c, d, by unfold en; rw [if_pos c, if_pos d]⟩
    · rw [if_neg d] at h
      by_cases e : dig (B s)
      · rw [if_pos e] at h; omega
      · rw [if_neg e] at h
        by_cases g : B s = 59
        · rw [if_pos g] at h; omega
        · rw [if_neg g] at h; omega
  · rw [if_neg c] at h; omega
theorem lg_0 (x y : Int64) : (lg_cmp x y = 0) ↔ x = y := by
  unfold lg_cmp
  by_cases h1 : x > y
  · rw [if_pos h1]
    refine ⟨fun q => absurd q (by decide), fun q => ?_⟩
    have := Int64.lt_iff_toInt_lt.mp h1
    rw [q] at this
    omega
  · rw [if_neg h1]
    by_cases h2 : x = y
    · rw [if_pos h2]
      exact ⟨fun _ => h2, fun _ => rfl⟩
    · rw [if_neg h2]
      exact ⟨fun q => absurd q (by decide), fun q => absurd q h2⟩
theorem m_isWord {T s a : Nat} {B : Nat → Nat} {M : Mem} (ha : a < 11) (hs1 : s ≤ T) (h : TM T B M s) : F_X8_isWord (wh a) M = some (if isW T B s a then 1 else 0) := by
  obtain ⟨h1, h2, h3, h4, h5, h6⟩ := h
  obtain ⟨w1, w2⟩ := w_len a ha
  unfold F_X8_isWord
  rw [h3]
  by_cases c : so T B s = 1
  · obtain ⟨c1, c2, c3⟩ := so_1 c
    rw [c, if_pos (show nI (if 1 ≤ 3 then 1 else 3) = (1 : Int32) by decide), h6 c]
    have e0 : hs B s (T - s) s 0 = hv (fun j => B (s + j)) (el B (T - s) s - s) := by
      have := hs_v (T := T) (s := s) (B := B) (T - s) s (Nat.le_refl _) (by omega)
      rw [Nat.sub_self] at this
      exact this
    rw [e0, ← c3]
    have hl : ∀ j, j < en T B s - s → ltr (B (s + j)) := fun j hj => el_l (T - s) s (s + j) (by omega) (by rw [← c3]; omega)
    have iff1 : hv (fun j => B (s + j)) (en T B s - s) = wh a ↔ (en T B s - s = lenL.getD a 0 ∧ ∀ j, j < lenL.getD a 0 → B (s + j) = wd a j) := by
      have b63 := hnf_63 (D := wd a) w1 (fun j hj => (w_ok a ha j hj).2)
      constructor
      · intro q
        unfold hv wh at q
        by_cases d : en T B s - s ≤ 12
        · rw [if_pos d] at q
          have q2 := (pk_lEQ (hnf_63 (D := fun j => B (s + j)) d hl) b63).mp q
          obtain ⟨r1, r2⟩ := hnf_inj _ _ hl (fun j hj => (w_ok a ha j hj).2) q2
          exact ⟨r1, fun j hj => r2 j (by omega)⟩
        · rw [if_neg d] at q
          have q2 := congrArg Int64.toInt q
          rw [pk_lT b63, show (-1 : Int64).toInt = -1 by decide] at q2
          omega
      · rintro ⟨r1, r2⟩
        unfold hv wh
        rw [if_pos (by omega), r1]
        congr 1
        have : ∀ n, n ≤ lenL.getD a 0 → hnf (fun j => B (s + j)) n = hnf (wd a) n := by
          intro n
          induction n with
          | zero => intro _; rfl
          | succ n ih => intro hn; rw [hnf, hnf, ih (by omega), r2 n (by omega)]
        exact this _ (Nat.le_refl _)
    by_cases d : hv (fun j => B (s + j)) (en T B s - s) = wh a
    · rw [if_pos ((lg_0 _ _).mpr d)]
      have q : isW T B s a = true := decide_eq_true ⟨c, iff1.mp d⟩
      rw [q, if_pos rfl]
    · rw [if_neg (fun q => d ((lg_0 _ _).mp q))]
      have q : isW T B s a = false := decide_eq_false (fun z => d (iff1.mpr z.2))
      rw [q, if_neg Bool.false_ne_true]
  · have q : isW T B s a = false := decide_eq_false (fun z => c z.1)
    rw [q, if_neg Bool.false_ne_true]
    have h5 : so T B s ≤ 4 := by
      unfold so
      by_cases c : s < T
      · rw [if_pos c]
        by_cases d : ltr (B s)
        · rw [if_pos d]; omega
        · rw [if_neg d]
          by_cases e : dig (B s)
          · rw [if_pos e]; omega
          · rw [if_neg e]
            by_cases g : B s = 59
            · rw [if_pos g]; omega
            · rw [if_neg g]; omega
      · rw [if_neg c]; omega
    rw [if_neg]
    intro z
    have z2 := (nI_eq (b := 1) (by by_cases g : so T B s ≤ 3 <;> simp only [g, if_true, if_false] <;> omega) (by decide)).mp z
    by_cases g : so T B s ≤ 3
    · rw [if_pos g] at z2; omega
    · rw [if_neg g] at z2; omega
theorem so_4 (T : Nat) (B : Nat → Nat) (s : Nat) : so T B s ≤ 4 := by
  unfold so
  by_cases c : s < T
  · rw [if_pos c]
    by_cases d : ltr (B s)
    · rw [if_pos d]; omega
    · rw [if_neg d]
      by_cases e : dig (B s)
      · rw [if_pos e]; omega
      · rw [if_neg e]
        by_cases g : B s = 59
        · rw [if_pos g]; omega
        · rw [if_neg g]; omega
  · rw [if_neg c]; omega
theorem ft_iff {c : Nat → Bool} : ∀ k i, ft c k i = true ↔ ∀ y, i ≤ y → y < i + k → c y = true := by
  intro k
  induction k with
  | zero => intro i; exact ⟨fun _ y h1 h2 => by omega, fun _ => rfl⟩
  | succ k ih =>
    intro i
    rw [ft, Bool.and_eq_true, ih (i + 1)]
    refine ⟨fun q y h1 h2 => ?_, fun q => ⟨q i (by omega) (by omega), fun y h1 h2 => q y (by omega) (by omega)⟩⟩
    by_cases e : y = i
    · rw [e]; exact q.1
    · exact q.2 y (by omega) (by omega)
theorem x_iw28 {T s a : Nat} {B : Nat → Nat} {M : Mem} (hT : BB T B) (hx : XB M T B) (ha : a < 11) (h1 : m_I M 39 1 = nI s) (hl : s + lenL.getD a 0 ≤ T) : ∀ k m i, i + k = lenL.getD a 0 → k < m → F_X5_isWord_28 a M m (nI i) = some (if ft (fun j => decide (B (s + j) = wd a j)) k i then 1 else 0) := by
  have hT2 := hT.1
  intro k
  induction k with
  | zero =>
    intro m i h3 h4
    obtain ⟨m, rfl⟩ : ∃ q, m = q + 1 := ⟨m - 1, by omega⟩
    have e : i = lenL.getD a 0 := by omega
    rw [F_X5_isWord_28, e, lp_y, ft, if_pos rfl]
  | succ k ih =>
    intro m i h3 h4
    obtain ⟨m, rfl⟩ : ∃ q, m = q + 1 := ⟨m - 1, by omega⟩
    have hb := hT.2 (s + i) (by omega)
    obtain ⟨w1, w2⟩ := w_ok a ha i (by omega)
    rw [F_X5_isWord_28, lp_x (by omega) (by omega), h1, nI_add, x_at hx hT2 (by omega), Option.bind_some, ix_n (by omega) (by omega), bt, if_pos (show s + i < T by omega), w1, ft]
    have e1 := nI_eq (a := B (s + i)) (b := wd a i) (by omega) (by omega)
    by_cases c : B (s + i) = wd a i
    · rw [if_pos (e1.mpr c), nI_1, ih m (i + 1) (by omega) (by omega), decide_eq_true c, Bool.true_and]
    · rw [if_neg (fun q => c (e1.mp q)), decide_eq_false c, Bool.false_and, if_neg Bool.false_ne_true]
theorem x_isWord {T s a : Nat} {B : Nat → Nat} {M : Mem} (hT : BB T B) (hx : XB M T B) (ha : a < 11) (hs1 : s ≤ T) (h : TX T B M s) : F_X5_isWord a M = some (if isW T B s a then 1 else 0) := by
  have hT2 := hT.1
  obtain ⟨h1, h2, h3, h4⟩ := h
  obtain ⟨w1, w2⟩ := w_len a ha
  obtain ⟨e1, e2⟩ := en_b (T := T) (B := B) hs1
  have s4 := so_4 T B s
  unfold F_X5_isWord
  rw [h3]
  by_cases c : so T B s = 1
  · rw [c, if_pos (show nI 1 = (1 : Int32) from rfl), h2, h1, nI_sb e1]
    have q1 := nI_eq (a := en T B s - s) (b := lenL.getD a 0) (by omega) (by omega)
    by_cases d : en T B s - s = lenL.getD a 0
    · rw [if_pos (q1.mpr d)]
      refine (x_iw28 hT hx ha h1 (by omega) (lenL.getD a 0) FU 0 (by omega) (by show lenL.getD a 0 < 1000; omega)).trans ?_
      congr 2
      have : ft (fun j => decide (B (s + j) = wd a j)) (lenL.getD a 0) 0 = isW T B s a := by
        rw [Bool.eq_iff_iff, ft_iff]
        unfold isW
        rw [decide_eq_true_iff]
        exact ⟨fun q => ⟨c, d, fun j hj => of_decide_eq_true (q j (by omega) (by omega))⟩, fun q y _ hy => decide_eq_true (q.2.2 y (by omega))⟩
      rw [this]
    · rw [if_neg (fun q => d (q1.mp q))]
      have q : isW T B s a = false := decide_eq_false (fun z => d z.2.1)
      rw [q, if_neg Bool.false_ne_true]
  · rw [if_neg (show ¬ nI (so T B s) = (1 : Int32) from fun q => c ((nI_eq (b := 1) (by omega) (by decide)).mp q))]
    have q : isW T B s a = false := decide_eq_false (fun z => c z.1)
    rw [q, if_neg Bool.false_ne_true]
def VR (x m : Nat) : Prop := (x = m ∧ x ≤ 999) ∨ (x = 1000 ∧ 1000 ≤ m ∧ m ≤ 10000)
theorem vr {B : Nat → Nat} : ∀ k i x m, VR x m → VR (xv B k i x) (mv B k i m) := by
  intro k
  induction k with
  | zero => intro i x m h; exact h
  | succ k ih =>
    intro i x m h
    rw [xv, mv]
    by_cases c : dig (B i)
    · rw [if_pos c, if_pos c]
      refine ih (i + 1) _ _ ?_
      unfold VR at h ⊢
      by_cases d : 10 * x + B i - 48 < 1000
      · rw [if_pos d]
        by_cases e : m ≤ 999
        · rw [if_pos e]; omega
        · rw [if_neg e]; omega
      · rw [if_neg d]
        by_cases e : m ≤ 999
        · rw [if_pos e]; omega
        · rw [if_neg e]; omega
    · rw [if_neg c, if_neg c]
      exact h
