/-! ===== sums and sets over all ===== -/
def sl (U : Nat → Nat → Int32) (p : Nat) : Nat := (U 5 p).toNatClampNeg
theorem PM.s {N : Nat} {U : Nat → Nat → Int32} (h : PM N U) (hN : N ≤ 8) {p : Nat} (hp : p < N) : sl U p < N ∧ U 5 p = nI (sl U p) := by
  obtain ⟨q, h1, h2⟩ := h.1 p hp
  have e : sl U p = q := by unfold sl; rw [h2, nI_clamp (by omega)]
  rw [e]
  exact ⟨h1, h2⟩
theorem PM.inj {N : Nat} {U : Nat → Nat → Int32} (h : PM N U) (hN : N ≤ 8) {p q : Nat} (hp : p < N) (hq : q < N) (e : sl U p = sl U q) : p = q :=
  h.2 p q hp hq (by rw [(h.s hN hp).2, (h.s hN hq).2, e])
def sm (N : Nat) (u : Nat → Int32) : Int32 := lp (fun i s => s + u i) 0 N 0
theorem or0 (x : Int32) : x ||| 0 = x := Int32.or_zero
theorem ad0 (x : Int32) : x + 0 = x := Int32.add_zero x
theorem b_2 : ∀ i, i < 8 → (1 : Int32) <<< (nI i &&& 31) = nI (2 ^ i) := by decide +kernel
theorem nI_or (a b : Nat) : nI a ||| nI b = nI (a ||| b) := by
  apply Int32.toBitVec_inj.mp
  show (BitVec.ofNat 32 a) ||| (BitVec.ofNat 32 b) = BitVec.ofNat 32 (a ||| b)
  exact BitVec.ofNat_or.symm
theorem or_lt {a b n : Nat} (ha : a < 2 ^ n) (hb : b < 2 ^ n) : a ||| b < 2 ^ n := Nat.or_lt_two_pow ha hb
theorem p_lt {i : Nat} (h : i < 8) : 2 ^ i < 2 ^ 8 := Nat.pow_lt_pow_right (by decide) h
/-- those of whom c holds, as a set -/
def st (N : Nat) (c : Nat → Bool) : Nat := lp (fun i s => if c i then s ||| 2 ^ i else s) 0 N 0
section SX
variable {M : Mem} {v : Nat} {f z : Int32} {N : Nat} {U : Nat → Nat → Int32}
theorem x_total (h : VX M v f z N U) (hN : N ≤ 8) {w : Nat} (hw : w < 6) : F_X4_total v (v + (1 + w)) M = some (sm N (U w)) := by
  unfold F_X4_total
  refine (lp_go (fun n i s => F_X4_total_4 v (v + (1 + w)) M n s (nI i)) (N := N) (by omega) (fun i s => s + U w i) some (fun _ _ => True) 0 trivial (fun n i s hi _ => ⟨?_, trivial⟩) (fun n s _ => ?_)).1
  · show F_X4_total_4 v (v + (1 + w)) M (n + 1) s (nI i) = F_X4_total_4 v (v + (1 + w)) M n (s + U w i) (nI (i + 1))
    rw [F_X4_total_4, h.2.2.1, lp_x hi (by omega), n_8 (by omega), h.u w i hw (by omega), nI_1]
  · show F_X4_total_4 v (v + (1 + w)) M (n + 1) s (nI N) = some s
    rw [F_X4_total_4, h.2.2.1, lp_y]
theorem x_ownSet (h : VX M v f z N U) (hN : N ≤ 8) : F_X4_ownSet v M = some (nI (st N (fun i => U 5 i = nI i))) ∧ st N (fun i => U 5 i = nI i) < 2 ^ 8 := by
  unfold F_X4_ownSet
  refine lp_go (fun n i s => F_X4_ownSet_4 v M n (nI s) (nI i)) (N := N) (by omega) (fun i s => if decide (U 5 i = nI i) = true then s ||| 2 ^ i else s) (fun s => some (nI s)) (fun _ s => s < 2 ^ 8) 0 (by decide) (fun n i s hi hs => ⟨?_, ?_⟩) (fun n s _ => ?_)
  · show F_X4_ownSet_4 v M (n + 1) (nI s) (nI i) = F_X4_ownSet_4 v M n (nI (if decide (U 5 i = nI i) = true then s ||| 2 ^ i else s)) (nI (i + 1))
    rw [F_X4_ownSet_4, h.2.2.1, lp_x hi (by omega), n_8 (by omega), show v + 6 = v + (1 + 5) from rfl, h.u 5 i (by decide) (by omega), b_2 i (by omega), nI_or, nI_1]
    by_cases e : U 5 i = nI i <;> simp [e]
  · by_cases e : U 5 i = nI i <;> simp only [e, decide_true, decide_false, if_true]
    · exact or_lt hs (p_lt (by omega))
    · simpa [e] using hs
  · show F_X4_ownSet_4 v M (n + 1) (nI s) (nI N) = some (nI s)
    rw [F_X4_ownSet_4, h.2.2.1, lp_y]
theorem x_children (h : VX M v f z N U) (hN : N ≤ 8) : F_X4_childrenSet v M = some (nI (st N (fun i => U 0 i = 3))) ∧ st N (fun i => U 0 i = 3) < 2 ^ 8 := by
  unfold F_X4_childrenSet
  refine lp_go (fun n i s => F_X4_childrenSet_4 v M n (nI s) (nI i)) (N := N) (by omega) (fun i s => if decide (U 0 i = 3) = true then s ||| 2 ^ i else s) (fun s => some (nI s)) (fun _ s => s < 2 ^ 8) 0 (by decide) (fun n i s hi hs => ⟨?_, ?_⟩) (fun n s _ => ?_)
  · show F_X4_childrenSet_4 v M (n + 1) (nI s) (nI i) = F_X4_childrenSet_4 v M n (nI (if decide (U 0 i = 3) = true then s ||| 2 ^ i else s)) (nI (i + 1))
    rw [F_X4_childrenSet_4, h.2.2.1, lp_x hi (by omega), x_isChild h (by omega), b_2 i (by omega), nI_or, nI_1]
    by_cases e : U 0 i = 3 <;> simp [e]
  · by_cases e : U 0 i = 3 <;> simp only [e, decide_true, decide_false, if_true]
    · exact or_lt hs (p_lt (by omega))
    · simpa [e] using hs
  · show F_X4_childrenSet_4 v M (n + 1) (nI s) (nI N) = some (nI s)
    rw [F_X4_childrenSet_4, h.2.2.1, lp_y]
theorem x_earnings (h : VX M v f z N U) (hN : N ≤ 8) (hp : PM N U) : F_X4_earnings v M = some (sm N (fun i => eU U i (sl U i))) := by
  unfold F_X4_earnings
  refine (lp_go (fun n i s => F_X4_earnings_4 v M n s (nI i)) (N := N) (by omega) (fun i s => s + eU U i (sl U i)) some (fun _ _ => True) 0 trivial (fun n i s hi _ => ⟨?_, trivial⟩) (fun n s _ => ?_)).1
  · show F_X4_earnings_4 v M (n + 1) s (nI i) = F_X4_earnings_4 v M n (s + eU U i (sl U i)) (nI (i + 1))
    obtain ⟨q1, q2⟩ := hp.s hN hi
    rw [F_X4_earnings_4, h.2.2.1, lp_x hi (by omega), n_8 (by omega), show v + 6 = v + (1 + 5) from rfl, h.u 5 i (by decide) (by omega), q2, x_earning h (by omega) (by omega), Option.bind_some, nI_1]
  · show F_X4_earnings_4 v M (n + 1) s (nI N) = some s
    rw [F_X4_earnings_4, h.2.2.1, lp_y]
theorem x_isLotRight (h : VX M v f z N U) (hN : N ≤ 8) (hp : PM N U) : F_X4_isLotRight v M = some (if ∀ p, p < N → al U p (sl U p) then 1 else 0) := by
  unfold F_X4_isLotRight
  have key : ∀ k n i, i + k = N → k < n → F_X4_isLotRight_2 v M n (nI i) = some (if ∀ p, p < N → i ≤ p → al U p (sl U p) then 1 else 0) := by
    intro k
    induction k with
    | zero =>
      intro n i h1 h2
      obtain ⟨m, rfl⟩ : ∃ m, n = m + 1 := ⟨n - 1, by omega⟩
      have hi : i = N := by omega
      subst hi
      rw [F_X4_isLotRight_2, h.2.2.1, lp_y, if_pos (fun p a b => by omega)]
    | succ k ih =>
      intro n i h1 h2
      obtain ⟨m, rfl⟩ : ∃ m, n = m + 1 := ⟨n - 1, by omega⟩
      have hi : i < N := by omega
      obtain ⟨q1, q2⟩ := hp.s hN hi
      rw [F_X4_isLotRight_2, h.2.2.1, lp_x hi (by omega), n_8 (by omega), show v + 6 = v + (1 + 5) from rfl, h.u 5 i (by decide) (by omega), q2, x_areAlike h (by omega) (by omega), Option.bind_some, nI_1, ih m (i + 1) (by omega) (by omega)]
      by_cases e : al U i (sl U i)
      · rw [if_pos e, if_neg (by decide)]
        have : (∀ p, p < N → i + 1 ≤ p → al U p (sl U p)) ↔ ∀ p, p < N → i ≤ p → al U p (sl U p) := by
          refine ⟨fun g p a b => ?_, fun g p a b => g p a (by omega)⟩
          by_cases c : p = i
          · subst c; exact e
          · exact g p a (by omega)
        simp only [this]
      · rw [if_neg e, if_pos rfl, if_neg (fun g => e (g i hi (Nat.le_refl i)))]
  have := key N FU 0 (by omega) (by show N < 1000; omega)
  simpa [nI_0] using this
/-- the least place from i on, of k, at which x lies -/
def hd (U : Nat → Nat → Int32) (x : Int32) : Nat → Nat → Nat
  | 0, i => i
  | k + 1, i => if U 5 i = x then i else hd U x k (i + 1)
theorem hd_in {U : Nat → Nat → Int32} {x : Int32} : ∀ {k i p : Nat}, i ≤ p → p < i + k → U 5 p = x → hd U x k i < i + k ∧ i ≤ hd U x k i ∧ U 5 (hd U x k i) = x
  | 0, i, p, h1, h2, _ => by omega
  | k + 1, i, p, h1, h2, h3 => by
    rw [hd]
    by_cases e : U 5 i = x
    · rw [if_pos e]; exact ⟨by omega, Nat.le_refl i, e⟩
    · rw [if_neg e]
      have hp : p ≠ i := fun q => e (by rw [← q]; exact h3)
      obtain ⟨a, b, c⟩ := hd_in (k := k) (i := i + 1) (p := p) (by omega) (by omega) h3
      exact ⟨by omega, by omega, c⟩
theorem x_holder (h : VX M v f z N U) (hN : N ≤ 8) {x : Int32} {p : Nat} (hp : p < N) (hx : U 5 p = x) : F_X4_holder v x M = some (nI (hd U x N 0)) := by
  unfold F_X4_holder
  have key : ∀ k n i, i + k = N → k < n → i ≤ p → F_X4_holder_2 v x M n (nI i) = some (nI (hd U x k i)) := by
    intro k
    induction k with
    | zero => intro n i h1 h2 h3; omega
    | succ k ih =>
      intro n i h1 h2 h3
      obtain ⟨m, rfl⟩ : ∃ m, n = m + 1 := ⟨n - 1, by omega⟩
      have hi : i < N := by omega
      rw [F_X4_holder_2, h.2.2.1, lp_x hi (by omega), n_8 (by omega), show v + 6 = v + (1 + 5) from rfl, h.u 5 i (by decide) (by omega), hd]
      by_cases e : U 5 i = x
      · rw [if_pos e, if_pos e]
      · rw [if_neg e, if_neg e, nI_1]
        exact ih m (i + 1) (by omega) (by omega) (by have : p ≠ i := fun q => e (by rw [← q]; exact hx); omega)
  exact key N FU 0 (by omega) (by show N < 1000; omega) (Nat.zero_le p)
end SX
section SM
variable {M : Mem} {f z : Int32} {N : Nat} {U : Nat → Nat → Int32}
theorem m_sumOf (h : VM M 50 f z N U) (hN : N ≤ 8) {w : Nat} (hw : w < 6) : F_X8_sumOf (nI w) M = some (sm N (U w)) := by
  unfold F_X8_sumOf
  refine (lp_go (fun n i s => F_X8_sumOf_4 (nI w) M n s (nI i)) (N := N) (by omega) (fun i s => s + U w i) some (fun _ _ => True) 0 trivial (fun n i s hi _ => ⟨?_, trivial⟩) (fun n s _ => ?_)).1
  · show F_X8_sumOf_4 (nI w) M (n + 1) s (nI i) = F_X8_sumOf_4 (nI w) M n (s + U w i) (nI (i + 1))
    rw [F_X8_sumOf_4, n51_2, h.2.2.1, lp_x hi (by omega), its_n (by omega) hw, Option.bind_some, h.u w i hw (by omega), nI_1]
  · show F_X8_sumOf_4 (nI w) M (n + 1) s (nI N) = some s
    rw [F_X8_sumOf_4, n51_2, h.2.2.1, lp_y]
theorem m_ownSet (h : VM M 50 f z N U) (hN : N ≤ 8) : F_X8_ownSet M = some (nI (st N (fun i => U 5 i = nI i))) ∧ st N (fun i => U 5 i = nI i) < 2 ^ 8 := by
  unfold F_X8_ownSet
  refine lp_go (fun n i s => F_X8_ownSet_4 M n (nI s) (nI i)) (N := N) (by omega) (fun i s => if decide (U 5 i = nI i) = true then s ||| 2 ^ i else s) (fun s => some (nI s)) (fun _ s => s < 2 ^ 8) 0 (by decide) (fun n i s hi hs => ⟨?_, ?_⟩) (fun n s _ => ?_)
  · show F_X8_ownSet_4 M (n + 1) (nI s) (nI i) = F_X8_ownSet_4 M n (nI (if decide (U 5 i = nI i) = true then s ||| 2 ^ i else s)) (nI (i + 1))
    rw [F_X8_ownSet_4, n51_2, h.2.2.1, lp_x hi (by omega), its_5 (by omega), Option.bind_some, h.u 5 i (by decide) (by omega), b_2 i (by omega), nI_or, nI_1, or0]
    by_cases e : U 5 i = nI i <;> simp [e]
  · by_cases e : U 5 i = nI i <;> simp only [e, decide_true, decide_false, if_true]
    · exact or_lt hs (p_lt (by omega))
    · simpa [e] using hs
  · show F_X8_ownSet_4 M (n + 1) (nI s) (nI N) = some (nI s)
    rw [F_X8_ownSet_4, n51_2, h.2.2.1, lp_y]
theorem m_children (h : VM M 50 f z N U) (hN : N ≤ 8) : F_X8_children M = some (nI (st N (fun i => U 0 i = 3))) ∧ st N (fun i => U 0 i = 3) < 2 ^ 8 := by
  unfold F_X8_children
  refine lp_go (fun n i s => F_X8_children_4 M n (nI s) (nI i)) (N := N) (by omega) (fun i s => if decide (U 0 i = 3) = true then s ||| 2 ^ i else s) (fun s => some (nI s)) (fun _ s => s < 2 ^ 8) 0 (by decide) (fun n i s hi hs => ⟨?_, ?_⟩) (fun n s _ => ?_)
  · show F_X8_children_4 M (n + 1) (nI s) (nI i) = F_X8_children_4 M n (nI (if decide (U 0 i = 3) = true then s ||| 2 ^ i else s)) (nI (i + 1))
    rw [F_X8_children_4, n51_2, h.2.2.1, lp_x hi (by omega), m_isChild h (by omega), b_2 i (by omega), nI_or, nI_1, or0]
    by_cases e : U 0 i = 3 <;> simp [e]
  · by_cases e : U 0 i = 3 <;> simp only [e, decide_true, decide_false, if_true]
    · exact or_lt hs (p_lt (by omega))
    · simpa [e] using hs
  · show F_X8_children_4 M (n + 1) (nI s) (nI N) = some (nI s)
    rw [F_X8_children_4, n51_2, h.2.2.1, lp_y]
theorem m_earnAll (h : VM M 50 f z N U) (hN : N ≤ 8) (hp : PM N U) : F_X8_earnAll M = some (sm N (fun i => eU U i (sl U i))) := by
  unfold F_X8_earnAll
  refine (lp_go (fun n i s => F_X8_earnAll_4 M n s (nI i)) (N := N) (by omega) (fun i s => s + eU U i (sl U i)) some (fun _ _ => True) 0 trivial (fun n i s hi _ => ⟨?_, trivial⟩) (fun n s _ => ?_)).1
  · show F_X8_earnAll_4 M (n + 1) s (nI i) = F_X8_earnAll_4 M n (s + eU U i (sl U i)) (nI (i + 1))
    obtain ⟨q1, q2⟩ := hp.s hN hi
    rw [F_X8_earnAll_4, n51_2, h.2.2.1, lp_x hi (by omega), m_earns h (by omega) (by omega) q2, Option.bind_some, nI_1]
  · show F_X8_earnAll_4 M (n + 1) s (nI N) = some s
    rw [F_X8_earnAll_4, n51_2, h.2.2.1, lp_y]
theorem m_isRight (h : VM M 50 f z N U) (hN : N ≤ 8) (hp : PM N U) : F_X8_isRight M = some (if ∀ p, p < N → al U p (sl U p) then 1 else 0) := by
  unfold F_X8_isRight
  have key : ∀ k n i, i + k = N → k < n → ∀ b : Bool, F_X8_isRight_4 M n (if b then 1 else 0) (nI i) = some (if b = true ∧ ∀ p, p < N → i ≤ p → al U p (sl U p) then 1 else 0) := by
    intro k
    induction k with
    | zero =>
      intro n i h1 h2 b
      obtain ⟨m, rfl⟩ : ∃ m, n = m + 1 := ⟨n - 1, by omega⟩
      have hi : i = N := by omega
      subst hi
      rw [F_X8_isRight_4, n51_2, h.2.2.1, lp_y, zb_01]
      cases b
      · simp
      · rw [if_pos rfl, if_pos ⟨rfl, fun p a b => by omega⟩]
    | succ k ih =>
      intro n i h1 h2 b
      obtain ⟨m, rfl⟩ : ∃ m, n = m + 1 := ⟨n - 1, by omega⟩
      have hi : i < N := by omega
      obtain ⟨q1, q2⟩ := hp.s hN hi
      rw [F_X8_isRight_4, n51_2, h.2.2.1, lp_x hi (by omega), its_5 (by omega), h.u 5 i (by decide) (by omega), q2]
      simp only [Option.bind_some]
      rw [m_areAlike h (by omega) (by omega)]
      simp only [Option.bind_some, nI_1]
      have g0 := ih m (i + 1) (by omega) (by omega) false
      have g1 := ih m (i + 1) (by omega) (by omega) true
      simp only [if_true, if_false, Bool.false_eq_true, false_and, true_and] at g0 g1
      cases b
      · simp only [Bool.false_eq_true, if_false, if_true, false_and]
        exact g0
      · simp only [if_true, true_and]
        rw [if_neg (by decide)]
        by_cases e : al U i (sl U i)
        · rw [if_pos e, if_neg (by decide), g1]
          have : (∀ p, p < N → i + 1 ≤ p → al U p (sl U p)) ↔ ∀ p, p < N → i ≤ p → al U p (sl U p) := by
            refine ⟨fun g p a b => ?_, fun g p a b => g p a (by omega)⟩
            by_cases c : p = i
            · subst c; exact e
            · exact g p a (by omega)
          simp only [this]
        · rw [if_neg e, if_pos rfl, g0, if_neg (fun g => e (g i hi (Nat.le_refl i)))]
  have := key N FU 0 (by omega) (by show N < 1000; omega) true
  simpa [nI_0] using this
theorem m_whoHas (h : VM M 50 f z N U) (hN : N ≤ 8) {x : Int32} {p : Nat} (hp : p < N) (hx : U 5 p = x) : F_X8_whoHas x M = some (nI (hd U x N 0)) := by
  unfold F_X8_whoHas
  have key : ∀ k n i, i + k = N → k < n → i ≤ p → F_X8_whoHas_2 x M n (nI i) = some (nI (hd U x k i)) := by
    intro k
    induction k with
    | zero => intro n i h1 h2 h3; omega
    | succ k ih =>
      intro n i h1 h2 h3
      obtain ⟨m, rfl⟩ : ∃ m, n = m + 1 := ⟨n - 1, by omega⟩
      have hi : i < N := by omega
      rw [F_X8_whoHas_2, its_5 (by omega), Option.bind_some, h.u 5 i (by decide) (by omega), hd]
      by_cases e : U 5 i = x
      · rw [if_pos e, if_pos e]
      · rw [if_neg e, if_neg e, nI_1]
        exact ih m (i + 1) (by omega) (by omega) (by have : p ≠ i := fun q => e (by rw [← q]; exact hx); omega)
  exact key N FU 0 (by omega) (by show N < 1000; omega) (Nat.zero_le p)
end SM
/-! ===== how many are in a set below 256 ===== -/
def M00 : Mem := (fun _ _ => 0, fun _ _ => 0)
theorem bits4_m (a : Int32) (M M' : Mem) : ∀ n x y, F_X8_bits_4 a M n x y = F_X8_bits_4 a M' n x y
  | 0, _, _ => rfl
  | n + 1, x, y => by rw [F_X8_bits_4, F_X8_bits_4, bits4_m a M M' n]
theorem bits_m (a : Int32) (M M' : Mem) : F_X8_bits a M = F_X8_bits a M' := bits4_m a M M' FU 0 a
/-- how many bits of the first n -/
def pc (s : Nat) : Nat → Nat
  | 0 => 0
  | n + 1 => pc s n + (if s.testBit n then 1 else 0)
theorem bits_all : ∀ s, s < 256 → F_X8_bits (nI s) M00 = some (nI (pc s 8)) := by decide +kernel
theorem bc_all : ∀ s, s < 256 → F_J6_bitCount_0f7a4 (nI s) M00 = some (nI (pc s 8)) := by decide +kernel
theorem m_bits {s : Nat} (h : s < 256) (M : Mem) : F_X8_bits (nI s) M = some (nI (pc s 8)) := (bits_m _ M M00).trans (bits_all s h)
theorem x_bc {s : Nat} (h : s < 256) (M : Mem) : F_J6_bitCount_0f7a4 (nI s) M = some (nI (pc s 8)) := bc_all s h
theorem x_ownCount {M : Mem} {v : Nat} {f z : Int32} {N : Nat} {U : Nat → Nat → Int32} (h : VX M v f z N U) (hN : N ≤ 8) : F_X4_ownCount v M = some (nI (pc (st N (fun i => U 5 i = nI i)) 8)) := by
  unfold F_X4_ownCount
  obtain ⟨a, b⟩ := x_ownSet h hN
  rw [a, Option.bind_some, x_bc b, Option.bind_some]
theorem m_ownCount {M : Mem} {f z : Int32} {N : Nat} {U : Nat → Nat → Int32} (h : VM M 50 f z N U) (hN : N ≤ 8) : (F_X8_ownSet M).bind (fun r => F_X8_bits r M) = some (nI (pc (st N (fun i => U 5 i = nI i)) 8)) := by
  obtain ⟨a, b⟩ := m_ownSet h hN
  rw [a, Option.bind_some, m_bits b]
