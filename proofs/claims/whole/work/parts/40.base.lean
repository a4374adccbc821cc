/-! ===== MATHEMATICS: numbers ===== -/
theorem ix_n {α : Type} {n j : Nat} {k : Nat → Option α} (h : j < n) (hn : n < 2 ^ 31) : ix n (nI j) k = k j := by
  unfold ix
  rw [nI_toInt (by omega), nI_clamp (by omega), if_pos (by omega)]
theorem n_8 {α : Type} {j : Nat} {k : Nat → Option α} (h : j < 8) : ix 8 (nI j) k = k j := ix_n h (by decide)
theorem n_51 {α : Type} {j : Nat} {k : Nat → Option α} (h : j < 51) : ix 51 (nI j) k = k j := ix_n h (by decide)
theorem n51_0 {α : Type} {k : Nat → Option α} : ix 51 (0 : Int32) k = k 0 := n_51 (j := 0) (by decide)
theorem n51_1 {α : Type} {k : Nat → Option α} : ix 51 (1 : Int32) k = k 1 := n_51 (j := 1) (by decide)
theorem n51_2 {α : Type} {k : Nat → Option α} : ix 51 (2 : Int32) k = k 2 := n_51 (j := 2) (by decide)
theorem t_of {x : Int32} {n : Nat} (h0 : 0 ≤ x.toInt) (h1 : x.toInt < n) : ∃ j : Nat, j < n ∧ x = nI j := by
  refine ⟨x.toInt.toNat, by omega, Int32.toInt_inj.mp ?_⟩
  have := Int32.toInt_lt x
  rw [nI_toInt (by omega)]
  omega
theorem t_le (a b : Int32) : a ≤ b ↔ a.toInt ≤ b.toInt := Int32.le_iff_toInt_le
theorem t_lt (a b : Int32) : a < b ↔ a.toInt < b.toInt := Int32.lt_iff_toInt_lt
theorem t_eq (a b : Int32) : a = b ↔ a.toInt = b.toInt := Int32.toInt_inj.symm
theorem t_rng (x : Int32) : -2147483648 ≤ x.toInt ∧ x.toInt < 2147483648 := by
  have h1 := Int32.toInt_lt x
  have h2 := Int32.le_toInt x
  exact ⟨by omega, by omega⟩
theorem t_bmod {z : Int} (h1 : -2147483648 ≤ z) (h2 : z < 2147483648) : z.bmod (2 ^ 32) = z := by
  have e : ((2 ^ 32 : Nat) : Int) = 4294967296 := by decide
  apply Int.bmod_eq_of_le <;> rw [e] <;> omega
theorem t_add {x y : Int32} (h1 : -2147483648 ≤ x.toInt + y.toInt) (h2 : x.toInt + y.toInt < 2147483648) : (x + y).toInt = x.toInt + y.toInt := by
  rw [Int32.toInt_add, t_bmod h1 h2]
theorem t_sub {x y : Int32} (h1 : -2147483648 ≤ x.toInt - y.toInt) (h2 : x.toInt - y.toInt < 2147483648) : (x - y).toInt = x.toInt - y.toInt := by
  rw [Int32.toInt_sub, t_bmod h1 h2]
theorem t_mul {x y : Int32} (h1 : -2147483648 ≤ x.toInt * y.toInt) (h2 : x.toInt * y.toInt < 2147483648) : (x * y).toInt = x.toInt * y.toInt := by
  rw [Int32.toInt_mul, t_bmod h1 h2]
/-! memory -/
theorem m_w (M : Mem) (o k : Nat) (x : Int32) (a b : Nat) : m_I (w_I M o k x) a b = if a = o ∧ b = k then x else m_I M a b := rfl
theorem m_wJ (M : Mem) (o k : Nat) (x : Int64) (a b : Nat) : m_I (w_J M o k x) a b = m_I M a b := rfl
theorem j_w (M : Mem) (o k : Nat) (x : Int32) (a b : Nat) : m_J (w_I M o k x) a b = m_J M a b := rfl
theorem j_wJ (M : Mem) (o k : Nat) (x : Int64) (a b : Nat) : m_J (w_J M o k x) a b = if a = o ∧ b = k then x else m_J M a b := rfl
theorem m_y (M : Mem) (o i q j n a b : Nat) : m_I (y_I M o i q j n) a b = if a = q ∧ j ≤ b ∧ b < j + n then m_I M o (i + (b - j)) else m_I M a b := rfl
theorem j_y (M : Mem) (o i q j n a b : Nat) : m_J (y_I M o i q j n) a b = m_J M a b := rfl
theorem m_yJ (M : Mem) (o i q j n a b : Nat) : m_I (y_J M o i q j n) a b = m_I M a b := rfl
theorem j_yJ (M : Mem) (o i q j n a b : Nat) : m_J (y_J M o i q j n) a b = if a = q ∧ j ≤ b ∧ b < j + n then m_J M o (i + (b - j)) else m_J M a b := rfl
/-- only the cells of P have changed -/
def Ch (P : Nat → Prop) (M M1 : Mem) : Prop := ∀ o, ¬ P o → (∀ k, m_I M1 o k = m_I M o k) ∧ ∀ k, m_J M1 o k = m_J M o k
theorem Ch.rf {P : Nat → Prop} {M : Mem} : Ch P M M := fun _ _ => ⟨fun _ => rfl, fun _ => rfl⟩
theorem Ch.tr {P : Nat → Prop} {M M1 M2 : Mem} (h : Ch P M M1) (h2 : Ch P M1 M2) : Ch P M M2 := fun o ho => ⟨fun k => ((h2 o ho).1 k).trans ((h o ho).1 k), fun k => ((h2 o ho).2 k).trans ((h o ho).2 k)⟩
theorem Ch.wk {P Q : Nat → Prop} {M M1 : Mem} (h : Ch P M M1) (hq : ∀ o, P o → Q o) : Ch Q M M1 := fun o ho => h o (fun z => ho (hq o z))
theorem Ch.w {P : Nat → Prop} {M : Mem} {o k : Nat} {x : Int32} (h : P o) : Ch P M (w_I M o k x) := fun a ha => ⟨fun b => if_neg (fun q => ha (by rw [q.1]; exact h)), fun _ => rfl⟩
theorem Ch.wJ {P : Nat → Prop} {M : Mem} {o k : Nat} {x : Int64} (h : P o) : Ch P M (w_J M o k x) := fun a ha => ⟨fun _ => rfl, fun b => if_neg (fun q => ha (by rw [q.1]; exact h))⟩
theorem Ch.y {P : Nat → Prop} {M : Mem} {o i q j n : Nat} (h : P q) : Ch P M (y_I M o i q j n) := fun a ha => ⟨fun b => if_neg (fun z => ha (by rw [z.1]; exact h)), fun _ => rfl⟩
theorem Ch.yJ {P : Nat → Prop} {M : Mem} {o i q j n : Nat} (h : P q) : Ch P M (y_J M o i q j n) := fun a ha => ⟨fun _ => rfl, fun b => if_neg (fun z => ha (by rw [z.1]; exact h))⟩
/-! ===== VILLAGES: friday, z, how many, and U: 0 kind, 1 work, 2 purse, 3 name, 4 kept, 5 slip of each ===== -/
def VX (M : Mem) (v : Nat) (f z : Int32) (N : Nat) (U : Nat → Nat → Int32) : Prop := m_I M v 0 = f ∧ m_I M v 1 = z ∧ m_I M v 2 = nI N ∧ ∀ w p, w < 6 → p < 8 → m_I M (v + (1 + w)) p = U w p
def VM (M : Mem) (r : Nat) (f z : Int32) (N : Nat) (U : Nat → Nat → Int32) : Prop := m_I M r 0 = f ∧ m_I M r 1 = z ∧ m_I M r 2 = nI N ∧ ∀ w p, w < 6 → p < 8 → m_I M r (3 + 6 * p + w) = U w p
/-- slips are an order of 0, 1 .. -/
def PM (N : Nat) (U : Nat → Nat → Int32) : Prop := (∀ p, p < N → ∃ q, q < N ∧ U 5 p = nI q) ∧ ∀ p q, p < N → q < N → U 5 p = U 5 q → p = q
def GV (f : Int32) (N : Nat) (U : Nat → Nat → Int32) : Prop := N ≤ 8 ∧ (0 ≤ f.toInt ∧ f.toInt ≤ 9999) ∧ (∀ p, p < N → (0 ≤ (U 0 p).toInt ∧ (U 0 p).toInt ≤ 5) ∧ (0 ≤ (U 1 p).toInt ∧ (U 1 p).toInt ≤ 20) ∧ (0 ≤ (U 2 p).toInt ∧ (U 2 p).toInt ≤ 99999) ∧ (0 ≤ (U 3 p).toInt ∧ (U 3 p).toInt ≤ 99) ∧ (0 ≤ (U 4 p).toInt ∧ (U 4 p).toInt ≤ 99)) ∧ PM N U
theorem VX.u {M : Mem} {v : Nat} {f z : Int32} {N : Nat} {U : Nat → Nat → Int32} (h : VX M v f z N U) (w p : Nat) (hw : w < 6) (hp : p < 8) : m_I M (v + (1 + w)) p = U w p := h.2.2.2 w p hw hp
theorem VM.u {M : Mem} {r : Nat} {f z : Int32} {N : Nat} {U : Nat → Nat → Int32} (h : VM M r f z N U) (w p : Nat) (hw : w < 6) (hp : p < 8) : m_I M r (3 + 6 * p + w) = U w p := h.2.2.2 w p hw hp
theorem VX.ch {M M1 : Mem} {v : Nat} {f z : Int32} {N : Nat} {U : Nat → Nat → Int32} {P : Nat → Prop} (h : VX M v f z N U) (hc : Ch P M M1) (hp : ∀ o, v ≤ o → o ≤ v + 6 → ¬ P o) : VX M1 v f z N U := by
  obtain ⟨h1, h2, h3, h4⟩ := h
  have g := (hc v (hp v (by omega) (by omega))).1
  exact ⟨by rw [g]; exact h1, by rw [g]; exact h2, by rw [g]; exact h3, fun w p hw hp8 => by rw [(hc _ (hp (v + (1 + w)) (by omega) (by omega))).1]; exact h4 w p hw hp8⟩
theorem VM.ch {M M1 : Mem} {r : Nat} {f z : Int32} {N : Nat} {U : Nat → Nat → Int32} {P : Nat → Prop} (h : VM M r f z N U) (hc : Ch P M M1) (hp : ¬ P r) : VM M1 r f z N U := by
  obtain ⟨h1, h2, h3, h4⟩ := h
  have g := (hc r hp).1
  exact ⟨by rw [g]; exact h1, by rw [g]; exact h2, by rw [g]; exact h3, fun w p hw hp8 => by rw [g]; exact h4 w p hw hp8⟩
theorem b01 (c : Prop) [Decidable c] : ((if c then (1 : Int32) else 0) = 0) = ¬ c := by
  by_cases h : c
  · rw [if_pos h]; simp [h]
  · rw [if_neg h]; simp [h]
theorem n3 (n : Nat) : (3 : Int32) = nI 3 := rfl
/-! leaves of the reference -/
theorem its_n {M : Mem} {p w : Nat} (hp : p < 8) (hw : w < 6) : F_X8_its (nI p) (nI w) M = some (m_I M 50 (3 + 6 * p + w)) := by
  unfold F_X8_its
  rw [show ((3 : Int32) + (6 : Int32) * nI p) + nI w = nI (3 + 6 * p + w) by rw [show (3 : Int32) = nI 3 from rfl, show (6 : Int32) = nI 6 from rfl, pk_mul, nI_add, nI_add], n_51 (by omega)]
theorem its_0 {M : Mem} {p : Nat} (hp : p < 8) : F_X8_its (nI p) (0 : Int32) M = some (m_I M 50 (3 + 6 * p + 0)) := its_n (w := 0) hp (by decide)
theorem its_1 {M : Mem} {p : Nat} (hp : p < 8) : F_X8_its (nI p) (1 : Int32) M = some (m_I M 50 (3 + 6 * p + 1)) := its_n (w := 1) hp (by decide)
theorem its_2 {M : Mem} {p : Nat} (hp : p < 8) : F_X8_its (nI p) (2 : Int32) M = some (m_I M 50 (3 + 6 * p + 2)) := its_n (w := 2) hp (by decide)
theorem its_3 {M : Mem} {p : Nat} (hp : p < 8) : F_X8_its (nI p) (3 : Int32) M = some (m_I M 50 (3 + 6 * p + 3)) := its_n (w := 3) hp (by decide)
theorem its_4 {M : Mem} {p : Nat} (hp : p < 8) : F_X8_its (nI p) (4 : Int32) M = some (m_I M 50 (3 + 6 * p + 4)) := its_n (w := 4) hp (by decide)
theorem its_5 {M : Mem} {p : Nat} (hp : p < 8) : F_X8_its (nI p) (5 : Int32) M = some (m_I M 50 (3 + 6 * p + 5)) := its_n (w := 5) hp (by decide)
theorem puts_n {M : Mem} {p w : Nat} (hp : p < 8) (hw : w < 6) (x : Int32) : F_X8_puts (nI p) (nI w) x M = some (w_I M 50 (3 + 6 * p + w) x) := by
  unfold F_X8_puts
  rw [show ((3 : Int32) + (6 : Int32) * nI p) + nI w = nI (3 + 6 * p + w) by rw [show (3 : Int32) = nI 3 from rfl, show (6 : Int32) = nI 6 from rfl, pk_mul, nI_add, nI_add], n_51 (by omega)]
  rfl
theorem puts_0 {M : Mem} {p : Nat} (hp : p < 8) (x : Int32) : F_X8_puts (nI p) (0 : Int32) x M = some (w_I M 50 (3 + 6 * p + 0) x) := puts_n (w := 0) hp (by decide) x
theorem puts_1 {M : Mem} {p : Nat} (hp : p < 8) (x : Int32) : F_X8_puts (nI p) (1 : Int32) x M = some (w_I M 50 (3 + 6 * p + 1) x) := puts_n (w := 1) hp (by decide) x
theorem puts_2 {M : Mem} {p : Nat} (hp : p < 8) (x : Int32) : F_X8_puts (nI p) (2 : Int32) x M = some (w_I M 50 (3 + 6 * p + 2) x) := puts_n (w := 2) hp (by decide) x
theorem puts_3 {M : Mem} {p : Nat} (hp : p < 8) (x : Int32) : F_X8_puts (nI p) (3 : Int32) x M = some (w_I M 50 (3 + 6 * p + 3) x) := puts_n (w := 3) hp (by decide) x
theorem puts_4 {M : Mem} {p : Nat} (hp : p < 8) (x : Int32) : F_X8_puts (nI p) (4 : Int32) x M = some (w_I M 50 (3 + 6 * p + 4) x) := puts_n (w := 4) hp (by decide) x
theorem puts_5 {M : Mem} {p : Nat} (hp : p < 8) (x : Int32) : F_X8_puts (nI p) (5 : Int32) x M = some (w_I M 50 (3 + 6 * p + 5) x) := puts_n (w := 5) hp (by decide) x
theorem in_e (a b c : Int32) (M : Mem) : F_X8_in a b c M = some (if b.toInt ≤ a.toInt ∧ a.toInt ≤ c.toInt then 1 else 0) := by
  unfold F_X8_in
  simp only [t_lt]
  by_cases h1 : a.toInt < b.toInt
  · rw [if_pos h1, if_neg (by omega)]
  · rw [if_neg h1]
    by_cases h2 : c.toInt < a.toInt
    · rw [if_pos h2, if_neg (by omega)]
    · rw [if_neg h2, if_pos (by omega)]
theorem zb_01 {α : Type} (c : Prop) [Decidable c] (k : Option α) : zb (if c then (1 : Int32) else 0) k = k := by
  unfold zb
  by_cases h : c
  · rw [if_pos h, if_pos (Or.inr rfl)]
  · rw [if_neg h, if_pos (Or.inl rfl)]
theorem m_isOne {M : Mem} {f z : Int32} {N : Nat} {U : Nat → Nat → Int32} (h : VM M 50 f z N U) (hN : N ≤ 8) (a : Int32) : F_X8_isOne a M = some (if 0 ≤ a.toInt ∧ a.toInt < N then 1 else 0) := by
  unfold F_X8_isOne
  rw [n51_2]
  simp only [in_e, Option.bind_some, zb_01, h.2.2.1]
  rw [t_sub (by rw [nI_toInt (by omega)]; show (-2147483648 : Int) ≤ (N : Int) - 1; omega) (by rw [nI_toInt (by omega)]; show (N : Int) - 1 < 2147483648; omega), nI_toInt (by omega)]
  have e1 : (0 : Int32).toInt = 0 := by decide
  have e2 : (1 : Int32).toInt = 1 := by decide
  rw [e1, e2]
  by_cases q : 0 ≤ a.toInt ∧ a.toInt < N
  · rw [if_pos q, if_pos (by omega)]
  · rw [if_neg q, if_neg (by omega)]
theorem x_has {M : Mem} {v : Nat} {f z : Int32} {N : Nat} {U : Nat → Nat → Int32} (h : VX M v f z N U) (hN : N ≤ 8) (a : Int32) : F_X4_has v a M = some (if 0 ≤ a.toInt ∧ a.toInt < N then 1 else 0) := by
  unfold F_X4_has
  rw [h.2.2.1]
  simp only [t_lt, t_le, nI_toInt (show N < 2 ^ 31 by omega)]
  have e1 : (0 : Int32).toInt = 0 := by decide
  rw [e1]
  by_cases h1 : a.toInt < 0
  · rw [if_pos h1, if_neg (by omega)]
  · rw [if_neg h1]
    by_cases h2 : (N : Int) ≤ a.toInt
    · rw [if_pos h2, if_neg (by omega)]
    · rw [if_neg h2, if_pos (by omega)]
