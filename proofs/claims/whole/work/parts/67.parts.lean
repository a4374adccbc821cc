/-! ===== READING A VILLAGE: NUMBERS AND PARTS ===== -/
def nx (T : Nat) (B : Nat → Nat) (s : Nat) : Nat := sk B (T - en T B s) (en T B s)
theorem nx_b {T s : Nat} {B : Nat → Nat} (h : s ≤ T) : s ≤ nx T B s ∧ nx T B s ≤ T ∧ (s < T → s < nx T B s) := by
  obtain ⟨a, b⟩ := en_b (T := T) (B := B) h
  obtain ⟨c, d, -⟩ := sk_b (T := T) (B := B) (T - en T B s) (en T B s) (by omega)
  unfold nx
  exact ⟨by omega, d, fun q => by have := en_gt (T := T) (B := B) q; omega⟩
section JT
variable {T : Nat} {B : Nat → Nat} {s : Nat}
theorem jx_step (hT : BB T B) {X : Mem} (hx : XB X T B) (hs : s ≤ T) (h : TX T B X s) : ∃ X1, F_X5_step X = some X1 ∧ TX T B X1 (nx T B s) ∧ XB X1 T B ∧ Ch (fun o => o = 39) X X1 := by
  obtain ⟨X1, a1, a2, a3⟩ := x_step hT hx (en_b (T := T) (B := B) hs).2 h.2.1
  exact ⟨X1, a1, a2, hx.ch a3 (by omega) (by omega), a3⟩
theorem jy_step (hT : BB T B) {Y : Mem} (hm : MB Y T B) (hs : s ≤ T) (h : TM T B Y s) : ∃ Y1, F_X8_advance Y = some Y1 ∧ TM T B Y1 (nx T B s) ∧ MB Y1 T B ∧ (∀ q, q < 10 ∨ 14 < q → m_I Y1 49 q = m_I Y 49 q) ∧ Ch (fun o => o = 49) Y Y1 := by
  obtain ⟨Y1, a1, a2, a3, a4⟩ := m_step hT hm (en_b (T := T) (B := B) hs).2 h.2.1
  exact ⟨Y1, a1, a2, hm.c (a3 9 (by omega)) (fun k => (a4 58 (by omega)).1 k), a3, a4⟩
theorem TM.c {Y Y1 : Mem} (h : TM T B Y s) (h1 : ∀ q, 10 ≤ q → q ≤ 14 → m_I Y1 49 q = m_I Y 49 q) (h2 : m_J Y1 49 13 = m_J Y 49 13) : TM T B Y1 s := by
  obtain ⟨a, b, c, d, e, g⟩ := h
  exact ⟨by rw [h1 11 (by omega) (by omega)]; exact a, by rw [h1 12 (by omega) (by omega)]; exact b, by rw [h1 10 (by omega) (by omega)]; exact c, fun q => by rw [h1 14 (by omega) (by omega)]; exact d q, fun q => by rw [h1 14 (by omega) (by omega)]; exact e q, fun q => by rw [h2]; exact g q⟩
theorem TM.w15 {Y : Mem} (h : TM T B Y s) (x : Int32) : TM T B (w_I Y 49 15 x) s := h.c (fun q q1 q2 => m_wk (by omega)) rfl
theorem MB.w15 {Y : Mem} (h : MB Y T B) (x : Int32) : MB (w_I Y 49 15 x) T B := h.c (m_wk (by decide)) (fun k => m_wo (by decide))
def FrY (Y Y1 : Mem) : Prop := Ch (fun o => o = 49 ∨ o = 50) Y Y1 ∧ ∀ q, q < 10 ∨ 15 < q → m_I Y1 49 q = m_I Y 49 q
theorem FrY.rf {Y : Mem} : FrY Y Y := ⟨Ch.rf, fun _ _ => rfl⟩
theorem FrY.tr {Y Y1 Y2 : Mem} (h : FrY Y Y1) (h2 : FrY Y1 Y2) : FrY Y Y2 := ⟨h.1.tr h2.1, fun q hq => (h2.2 q hq).trans (h.2 q hq)⟩
theorem FrY.w15 {Y : Mem} (x : Int32) : FrY Y (w_I Y 49 15 x) := ⟨Ch.w (Or.inl rfl), fun q hq => m_wk (by omega)⟩
theorem FrY.of {Y Y1 : Mem} (h : ∀ q, q < 10 ∨ 14 < q → m_I Y1 49 q = m_I Y 49 q) (hc : Ch (fun o => o = 49) Y Y1) : FrY Y Y1 := ⟨hc.wk (fun o q => Or.inl q), fun q hq => h q (by omega)⟩
/-- the number of a token, as the reference keeps it -/
def vv (T : Nat) (B : Nat → Nat) (s : Nat) : Nat := mv B (T - s) s 0
theorem vv_r (T : Nat) (B : Nat → Nat) (s : Nat) : VR (xv B (T - s) s 0) (vv T B s) := vr (T - s) s 0 0 (Or.inl ⟨rfl, by decide⟩)
theorem so_n (T : Nat) (B : Nat → Nat) (s k : Nat) (hk : k < 3) : (nI (if so T B s ≤ 3 then so T B s else 3) = nI k) ↔ so T B s = k := by
  have h4 := so_4 T B s
  by_cases c : so T B s ≤ 3
  · rw [if_pos c]
    exact nI_eq (by omega) (by omega)
  · rw [if_neg c]
    exact ⟨fun q => by have := (nI_eq (by omega) (by omega)).mp q; omega, fun q => by omega⟩
theorem m_number (hT : BB T B) {Y : Mem} (hm : MB Y T B) (hs : s ≤ T) (h : TM T B Y s) (hg : m_I Y 49 15 = 1) {m : Int} {mx : Int32} (hmx : mx.toInt = m) : ∃ r Y1, F_X8_wantNumber (0 : Int32) mx Y = some (r, Y1) ∧ MB Y1 T B ∧ FrY Y Y1 ∧ Ch (fun o => o = 49) Y Y1 ∧ ((so T B s = 2 ∧ (vv T B s : Int) ≤ m ∧ r = nI (vv T B s) ∧ TM T B Y1 (nx T B s) ∧ m_I Y1 49 15 = 1) ∨ (¬ (so T B s = 2 ∧ (vv T B s : Int) ≤ m) ∧ TM T B Y1 s ∧ m_I Y1 49 15 = 0)) := by
  have e0 : (0 : Int32).toInt = 0 := by decide
  have hv : vv T B s ≤ 10000 := by have := vv_r T B s; unfold VR at this; omega
  unfold F_X8_wantNumber
  rw [hg, if_neg one0.mp, h.2.2.1]
  by_cases c : so T B s = 2
  · rw [if_pos (show nI (if so T B s ≤ 3 then so T B s else 3) = (2 : Int32) from (so_n T B s 2 (by decide)).mpr c), h.2.2.2.1 c, in_e, Option.bind_some, nI_toInt (show mv B (T - s) s 0 < 2 ^ 31 by have : mv B (T - s) s 0 = vv T B s := rfl; omega), e0, hmx]
    by_cases d : (vv T B s : Int) ≤ m
    · have hc : (0 : Int) ≤ (mv B (T - s) s 0 : Int) ∧ (mv B (T - s) s 0 : Int) ≤ m := ⟨Int.natCast_nonneg _, d⟩
      rw [if_pos hc, if_neg one0.mp, pin, m_ws, if_neg one0.mp]
      obtain ⟨Y1, a1, a2, a3, a4, a5⟩ := jy_step hT (hm.w15 1) hs (h.w15 1)
      rw [a1, Option.bind_some]
      exact ⟨_, Y1, rfl, a3, (FrY.w15 1).tr (FrY.of a4 a5), (Ch.w (P := fun o => o = 49) rfl).tr a5, Or.inl ⟨c, d, rfl, a2, by rw [a4 15 (by omega), m_ws]⟩⟩
    · have hc : ¬ ((0 : Int) ≤ (mv B (T - s) s 0 : Int) ∧ (mv B (T - s) s 0 : Int) ≤ m) := fun q => d q.2
      rw [if_neg hc, if_pos rfl, pin, m_ws, if_pos rfl]
      exact ⟨_, _, rfl, hm.w15 0, FrY.w15 0, Ch.w rfl, Or.inr ⟨fun q => d q.2, h.w15 0, m_ws _ _ _ _⟩⟩
  · rw [if_neg (show ¬ nI (if so T B s ≤ 3 then so T B s else 3) = (2 : Int32) from fun q => c ((so_n T B s 2 (by decide)).mp q)), pin, m_ws, if_pos rfl]
    exact ⟨_, _, rfl, hm.w15 0, FrY.w15 0, Ch.w rfl, Or.inr ⟨fun q => c q.1, h.w15 0, m_ws _ _ _ _⟩⟩
theorem j_part (hT : BB T B) {X Y : Mem} {f z : Int32} {N : Nat} {U : Nat → Nat → Int32} (hx : XB X T B) (hm : MB Y T B) (hs : s ≤ T) (tx : TX T B X s) (tm : TM T B Y s) (vx : VX X 24 f z N U) (hg : m_I Y 49 15 = 1) {a w i m : Nat} (ha : a < 11) (hw : w < 6) (hi : i < 8) (hm9 : m ≤ 999) {d : Int32} (hd : U w i = d) (hd2 : 0 ≤ d.toInt ∧ d.toInt ≤ m) :
    ∃ g X1 r Y1 s', F_X5_takePart a (24 + (1 + w)) (nI i) (nI m) X = some (g, X1) ∧ F_X8_mayWant (wh a) (0 : Int32) (nI m) d Y = some (r, Y1) ∧ s ≤ s' ∧ s' ≤ T ∧ XB X1 T B ∧ MB Y1 T B ∧ TX T B X1 s' ∧ TM T B Y1 s' ∧ Ch (fun o => (24 ≤ o ∧ o ≤ 34) ∨ o = 39) X X1 ∧ FrY Y Y1 ∧ Ch (fun o => o = 49) Y Y1 ∧ ((g = 1 ∧ m_I Y1 49 15 = 1 ∧ VX X1 24 f z N (u2 U w i r) ∧ 0 ≤ r.toInt ∧ r.toInt ≤ m) ∨ (g = 0 ∧ m_I Y1 49 15 = 0)) := by
  have hmt : (nI m).toInt = m := nI_toInt (by omega)
  unfold F_X5_takePart F_X8_mayWant
  rw [x_isWord hT hx ha hs tx, Option.bind_some, hg, if_neg one0.mp, m_isWord ha hs tm, Option.bind_some]
  cases hq : isW T B s a with
  | false =>
    rw [if_neg Bool.false_ne_true, if_pos rfl, if_pos rfl]
    refine ⟨1, X, d, Y, s, rfl, rfl, Nat.le_refl _, hs, hx, hm, tx, tm, Ch.rf, FrY.rf, Ch.rf, Or.inl ⟨rfl, hg, ?_, hd2⟩⟩
    rw [← hd, u2_id]
    exact vx
  | true =>
    obtain ⟨X1, a1, a2, a3, a4⟩ := jx_step hT hx hs tx
    obtain ⟨Y1, b1, b2, b3, b4, b5⟩ := jy_step hT hm hs tm
    obtain ⟨n1, n2, n3⟩ := nx_b (T := T) (B := B) hs
    obtain ⟨r, Y2, c1, c2, c3, c5, c4⟩ := m_number hT b3 n2 b2 (by rw [b4 15 (by omega)]; exact hg) hmt
    have vr1 := vv_r T B (nx T B s)
    rw [if_pos (show true = true from rfl), if_neg one0.mp, if_neg one0.mp, a1, Option.bind_some, b1, Option.bind_some, c1, bn]
    have cX : Ch (fun o => (24 ≤ o ∧ o ≤ 34) ∨ o = 39) X X1 := a4.wk (fun o q => Or.inr q)
    have vx1 := vx.ch a4 (fun o q1 q2 => by omega)
    have s2 : (m_I X1 39 3 = (2 : Int32)) ↔ so T B (nx T B s) = 2 := by
      rw [a2.2.2.1]
      exact nI_eq (b := 2) (by have := so_4 T B (nx T B s); omega) (by decide)
    have fy : FrY Y Y2 := (FrY.of b4 b5).tr c3
    have fy2 : Ch (fun o => o = 49) Y Y2 := b5.tr c5
    rcases c4 with ⟨g1, g2, g3, g4, g5⟩ | ⟨g1, g4, g5⟩
    · have ex : xv B (T - nx T B s) (nx T B s) 0 = vv T B (nx T B s) := by unfold VR at vr1; omega
      have e4 := a2.2.2.2 g1
      rw [ex] at e4
      rw [if_pos (s2.mpr g1), e4, if_pos (nI_le (by omega) (by omega)), n_8 hi, pin]
      have vx2 := vx1.w (w := w) (p := i) hw (nI (vv T B (nx T B s)))
      have cw : Ch (fun o => 24 ≤ o ∧ o ≤ 34) X1 (w_I X1 (24 + (1 + w)) i (nI (vv T B (nx T B s)))) := Ch.w (by omega)
      have hx2 := a3.ch cw (by omega) (by omega)
      have c39 : ∀ q, m_I (w_I X1 (24 + (1 + w)) i (nI (vv T B (nx T B s)))) 39 q = m_I X1 39 q := fun q => (cw 39 (by omega)).1 q
      have tx2 : TX T B (w_I X1 (24 + (1 + w)) i (nI (vv T B (nx T B s)))) (nx T B s) := ⟨by rw [c39]; exact a2.1, by rw [c39]; exact a2.2.1, by rw [c39]; exact a2.2.2.1, fun q => by rw [c39]; exact a2.2.2.2 q⟩
      obtain ⟨X3, d1, d2, d3, d4⟩ := jx_step hT hx2 n2 tx2
      obtain ⟨o1, o2, o3⟩ := nx_b (T := T) (B := B) n2
      rw [d1, Option.bind_some]
      refine ⟨1, X3, r, Y2, nx T B (nx T B s), rfl, rfl, by omega, o2, d3, c2, d2, g4, (cX.tr (cw.wk (fun o q => Or.inl q))).tr (d4.wk (fun o q => Or.inr q)), fy, fy2, Or.inl ⟨rfl, g5, ?_, ?_⟩⟩
      · rw [g3]
        exact vx2.ch d4 (fun o q1 q2 => by omega)
      · rw [g3, nI_toInt (by omega)]
        omega
    · have fail : (if m_I X1 39 3 = (2 : Int32) then (if m_I X1 39 4 ≤ nI m then ix 8 (nI i) (fun j8 => pin (w_I X1 (24 + (1 + w)) j8 (m_I X1 39 4)) (fun M9 => (F_X5_step M9).bind (fun M11 => some ((1 : Int32), M11)))) else some ((0 : Int32), X1)) else some ((0 : Int32), X1)) = some ((0 : Int32), X1) := by
        by_cases q : so T B (nx T B s) = 2
        · rw [if_pos (s2.mpr q), a2.2.2.2 q, if_neg]
          intro z
          have z2 := (nI_leI (by unfold VR at vr1; omega) (by omega)).mp z
          refine g1 ⟨q, ?_⟩
          unfold VR at vr1
          omega
        · rw [if_neg (fun z => q (s2.mp z))]
      rw [fail]
      exact ⟨0, X1, r, Y2, nx T B s, rfl, rfl, n1, n2, a3, c2, a2, g4, cX, fy, fy2, Or.inr ⟨rfl, g5⟩⟩
end JT
