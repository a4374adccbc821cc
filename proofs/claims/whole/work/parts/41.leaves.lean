/-! ===== what one earns, says, hears ===== -/
def eK (k w v nm kp : Int32) : Int32 :=
  if k = 1 then (w + v) / 2 + 2 else if k = 2 then (if 50 ≤ nm then (w + v) / 2 else (w + v) / 2 + 4) else if k = 3 then 1
  else if k = 4 then (if 0 ≤ ((w + v) / 2 + 2) - kp / 4 then ((w + v) / 2 + 2) - kp / 4 else 0)
  else if k = 5 then 2 * (if 50 ≤ nm then (w + v) / 2 else (w + v) / 2 + 4) else (w + v) / 2
def sK (k w v : Int32) : Int32 := if k = 2 then 3 else if k = 3 then 0 else if k = 4 then (if w < v then -1 else 1) + 1 else if k = 5 then -2 else if w < v then -1 else 1
def hK (k b : Int32) : Int32 := if k = 2 then 2 * (if 20 ≤ b then 0 else 2) else if k = 3 then 0 else if k = 4 then (if 20 ≤ b then 0 else 2) + 1 else if k = 5 then 2 * (if 20 ≤ b then 0 else 2) else if 20 ≤ b then 0 else 2
def eA (U : Nat → Nat → Int32) (k : Int32) (p q : Nat) : Int32 := if p = q then 0 else eK k (U 1 p) (U 1 q) (U 3 p) (U 4 p)
def eU (U : Nat → Nat → Int32) (p q : Nat) : Int32 := eA U (U 0 p) p q
def sU (U : Nat → Nat → Int32) (p q : Nat) : Int32 := if p = q then 0 else sK (U 0 p) (U 1 p) (U 1 q)
def hU (U : Nat → Nat → Int32) (p q : Nat) : Int32 := if p = q then 0 else hK (U 0 p) (U 3 q)
/-- both children, or both grown -/
abbrev al (U : Nat → Nat → Int32) (p q : Nat) : Prop := (U 0 p = 3 ↔ U 0 q = 3)
theorem mx0 (x : Int32) : (if 0 < x then x else 0) = if 0 ≤ x then x else 0 := by
  simp only [t_lt, t_le]
  have e1 : (0 : Int32).toInt = 0 := by decide
  rw [e1]
  by_cases h : 0 < x.toInt
  · rw [if_pos h, if_pos (by omega)]
  · rw [if_neg h]
    by_cases h2 : 0 ≤ x.toInt
    · rw [if_pos h2]
      exact ((t_eq x 0).mpr (by rw [e1]; omega)).symm
    · rw [if_neg h2]
theorem x_earned (a0 a1 a2 a3 a4 : Int32) (M : Mem) : F_X6_earned a0 a1 a2 a3 a4 M = some (eK a0 a1 a2 a3 a4) := by
  unfold F_X6_earned F_X6_earned_28 eK
  simp only [mx0]
  by_cases h : 50 ≤ a3 <;> simp only [h, if_true, if_false] <;> (repeat' split) <;> rfl
theorem x_said (a0 a1 a2 : Int32) (M : Mem) : F_X6_said a0 a1 a2 M = some (sK a0 a1 a2) := by
  unfold F_X6_said F_X6_said_10 sK
  by_cases h : a1 < a2 <;> simp only [h, if_true, if_false] <;> (repeat' split) <;> rfl
theorem x_heard (a0 a1 : Int32) (M : Mem) : F_X6_heard a0 a1 M = some (hK a0 a1) := by
  unfold F_X6_heard F_X6_heard_11 hK
  by_cases h : 20 ≤ a1 <;> simp only [h, if_true, if_false] <;> (repeat' split) <;> rfl
section LX
variable {M : Mem} {v : Nat} {f z : Int32} {N : Nat} {U : Nat → Nat → Int32}
theorem x_isChild (h : VX M v f z N U) {p : Nat} (hp : p < 8) : F_X4_isChild v (nI p) M = some (if U 0 p = 3 then 1 else 0) := by
  unfold F_X4_isChild
  rw [n_8 hp, show v + 1 = v + (1 + 0) from rfl, h.u 0 p (by decide) hp]
  split <;> rfl
theorem x_areAlike (h : VX M v f z N U) {p q : Nat} (hp : p < 8) (hq : q < 8) [Decidable (al U p q)] : F_X4_areAlike v (nI p) (nI q) M = some (if al U p q then 1 else 0) := by
  unfold F_X4_areAlike
  rw [x_isChild h hp, x_isChild h hq]
  simp only [Option.bind_some]
  by_cases h1 : U 0 p = 3 <;> by_cases h2 : U 0 q = 3 <;> simp [al, h1, h2]
theorem x_earningAs (h : VX M v f z N U) (k : Int32) {p q : Nat} (hp : p < 8) (hq : q < 8) : F_X4_earningAs v k (nI p) (nI q) M = some (eA U k p q) := by
  unfold F_X4_earningAs eA
  simp only [nI_eq (show p < 2 ^ 31 by omega) (show q < 2 ^ 31 by omega), n_8 hp, n_8 hq, x_earned, Option.bind_some, show ∀ o j, m_I M (v + 2) j = m_I M (v + 2) j from fun _ _ => rfl]
  rw [show v + 2 = v + (1 + 1) from rfl, show v + 4 = v + (1 + 3) from rfl, show v + 5 = v + (1 + 4) from rfl, h.u 1 p (by decide) hp, h.u 1 q (by decide) hq, h.u 3 p (by decide) hp, h.u 4 p (by decide) hp]
  split <;> rfl
theorem x_earning (h : VX M v f z N U) {p q : Nat} (hp : p < 8) (hq : q < 8) : F_X4_earning v (nI p) (nI q) M = some (eU U p q) := by
  unfold F_X4_earning eU
  rw [n_8 hp, show v + 1 = v + (1 + 0) from rfl, h.u 0 p (by decide) hp, x_earningAs h _ hp hq]
  rfl
theorem x_saying (h : VX M v f z N U) {p q : Nat} (hp : p < 8) (hq : q < 8) : F_X4_saying v (nI p) (nI q) M = some (sU U p q) := by
  unfold F_X4_saying sU
  simp only [nI_eq (show p < 2 ^ 31 by omega) (show q < 2 ^ 31 by omega), n_8 hp, n_8 hq, x_said, Option.bind_some]
  rw [show v + 2 = v + (1 + 1) from rfl, show v + 1 = v + (1 + 0) from rfl, h.u 1 p (by decide) hp, h.u 1 q (by decide) hq, h.u 0 p (by decide) hp]
  split <;> rfl
theorem x_hearing (h : VX M v f z N U) {p q : Nat} (hp : p < 8) (hq : q < 8) : F_X4_hearing v (nI p) (nI q) M = some (hU U p q) := by
  unfold F_X4_hearing hU
  simp only [nI_eq (show p < 2 ^ 31 by omega) (show q < 2 ^ 31 by omega), n_8 hp, n_8 hq, x_heard, Option.bind_some]
  rw [show v + 4 = v + (1 + 3) from rfl, show v + 1 = v + (1 + 0) from rfl, h.u 3 q (by decide) hq, h.u 0 p (by decide) hp]
  split <;> rfl
end LX
section LM
variable {M : Mem} {f z : Int32} {N : Nat} {U : Nat → Nat → Int32}
theorem m_isChild (h : VM M 50 f z N U) {p : Nat} (hp : p < 8) : F_X8_isChild (nI p) M = some (if U 0 p = 3 then 1 else 0) := by
  unfold F_X8_isChild
  rw [its_0 hp, h.u 0 p (by decide) hp]
  simp only [Option.bind_some]
  split <;> rfl
theorem m_areAlike (h : VM M 50 f z N U) {p q : Nat} (hp : p < 8) (hq : q < 8) [Decidable (al U p q)] : F_X8_areAlike (nI p) (nI q) M = some (if al U p q then 1 else 0) := by
  unfold F_X8_areAlike
  rw [m_isChild h hp, m_isChild h hq]
  simp only [Option.bind_some]
  by_cases h1 : U 0 p = 3 <;> by_cases h2 : U 0 q = 3 <;> simp [al, h1, h2]
theorem m_earnsAs (h : VM M 50 f z N U) {p q : Nat} (hp : p < 8) (hq : q < 8) : F_X8_earnsAs (nI p) (nI q) M = some (eU U p q) := by
  unfold F_X8_earnsAs F_X8_earnsAs_41 eU eA eK
  simp only [nI_eq (show p < 2 ^ 31 by omega) (show q < 2 ^ 31 by omega), its_0 hp, its_1 hp, its_1 hq, its_3 hp, its_4 hp, Option.bind_some, h.u 0 p (by decide) hp, h.u 1 p (by decide) hp, h.u 1 q (by decide) hq, h.u 3 p (by decide) hp, h.u 4 p (by decide) hp]
  by_cases e : p = q
  · rw [if_pos e, if_pos e]
  · rw [if_neg e, if_neg e]
    by_cases h : 50 ≤ U 3 p <;> simp only [h, if_true, if_false] <;> (repeat' split) <;> rfl
theorem m_saysAs (h : VM M 50 f z N U) {p q : Nat} (hp : p < 8) (hq : q < 8) : F_X8_saysAs (nI p) (nI q) M = some (sU U p q) := by
  unfold F_X8_saysAs F_X8_saysAs_27 sU sK
  simp only [nI_eq (show p < 2 ^ 31 by omega) (show q < 2 ^ 31 by omega), its_0 hp, its_1 hp, its_1 hq, Option.bind_some, h.u 0 p (by decide) hp, h.u 1 p (by decide) hp, h.u 1 q (by decide) hq]
  by_cases e : p = q
  · rw [if_pos e, if_pos e]
  · rw [if_neg e, if_neg e]
    by_cases h : U 1 p < U 1 q <;> simp only [h, if_true, if_false] <;> (repeat' split) <;> rfl
theorem m_hearsAs (h : VM M 50 f z N U) {p q : Nat} (hp : p < 8) (hq : q < 8) : F_X8_hearsAs (nI p) (nI q) M = some (hU U p q) := by
  unfold F_X8_hearsAs F_X8_hearsAs_23 hU hK
  simp only [nI_eq (show p < 2 ^ 31 by omega) (show q < 2 ^ 31 by omega), its_0 hp, its_3 hq, Option.bind_some, h.u 0 p (by decide) hp, h.u 3 q (by decide) hq]
  by_cases e : p = q
  · rw [if_pos e, if_pos e]
  · rw [if_neg e, if_neg e]
    by_cases h : 20 ≤ U 3 q <;> simp only [h, if_true, if_false] <;> (repeat' split) <;> rfl
theorem m_earns (h : VM M 50 f z N U) {p q : Nat} (hp : p < 8) (hq : q < 8) (e : U 5 p = nI q) : F_X8_earns (nI p) M = some (eU U p q) := by
  unfold F_X8_earns
  rw [its_5 hp, h.u 5 p (by decide) hp, e]
  simp only [Option.bind_some, m_earnsAs h hp hq]
end LM
/-! ===== loops: k turns from i on ===== -/
def lp {σ : Type} (g : Nat → σ → σ) : Nat → Nat → σ → σ
  | _, 0, s => s
  | i, k + 1, s => lp g (i + 1) k (g i s)
theorem lp_run {σ β : Type} (L : Nat → Nat → σ → Option β) (N : Nat) (g : Nat → σ → σ) (e : σ → Option β) (P : Nat → σ → Prop)
    (hs : ∀ n i s, i < N → P i s → L (n + 1) i s = L n (i + 1) (g i s) ∧ P (i + 1) (g i s)) (he : ∀ n s, P N s → L (n + 1) N s = e s) :
    ∀ k n i s, i + k = N → k < n → P i s → L n i s = e (lp g i k s) ∧ P N (lp g i k s) := by
  intro k
  induction k with
  | zero =>
    intro n i s h1 h2 hP
    obtain ⟨m, rfl⟩ : ∃ m, n = m + 1 := ⟨n - 1, by omega⟩
    have hi : i = N := by omega
    subst hi
    exact ⟨he m s hP, hP⟩
  | succ k ih =>
    intro n i s h1 h2 hP
    obtain ⟨m, rfl⟩ : ∃ m, n = m + 1 := ⟨n - 1, by omega⟩
    obtain ⟨a, b⟩ := hs m i s (by omega) hP
    obtain ⟨c, d⟩ := ih m (i + 1) (g i s) (by omega) (by omega) b
    exact ⟨by rw [a, c]; rfl, d⟩
/-- from 0, with FU turns to spare -/
theorem lp_go {σ β : Type} (L : Nat → Nat → σ → Option β) {N : Nat} (hN : N < 1000) (g : Nat → σ → σ) (e : σ → Option β) (P : Nat → σ → Prop) (s : σ) (h0 : P 0 s)
    (hs : ∀ n i s, i < N → P i s → L (n + 1) i s = L n (i + 1) (g i s) ∧ P (i + 1) (g i s)) (he : ∀ n s, P N s → L (n + 1) N s = e s) : L FU 0 s = e (lp g 0 N s) ∧ P N (lp g 0 N s) :=
  lp_run L N g e P hs he N FU 0 s (by omega) hN h0
/-- the loop's test -/
theorem lp_t {i N : Nat} (hi : i < N) (hN : N ≤ 8) : ¬ nI N ≤ nI i := nI_ge hi (by omega)
theorem lp_x {α : Type} {i N : Nat} (hi : i < N) (hN : N < 2 ^ 31) (a b : α) : (if nI N ≤ nI i then a else b) = b := if_neg (nI_ge hi hN)
theorem lp_y {α : Type} {N : Nat} (a b : α) : (if nI N ≤ nI N then a else b) = a := if_pos (Int32.le_refl _)
