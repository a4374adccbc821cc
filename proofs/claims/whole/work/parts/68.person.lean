/-! ===== READING A VILLAGE: A PERSON ===== -/
def nmI (x : Nat) : Nat := [7, 2, 3, 4, 5, 6].getD x 0
theorem nm_all : ∀ x, x < 6 → F_X5_nameOf (nI x) M00 = some (nmI x) ∧ nmI x < 11 := by decide +kernel
def kx (T : Nat) (B : Nat → Nat) (s : Nat) : Nat → Nat → Int32
  | 0, _ => -1
  | k + 1, x => if isW T B s (nmI x) then nI x else kx T B s k (x + 1)
section JP
variable {T : Nat} {B : Nat → Nat} {s : Nat}
theorem x_kind (hT : BB T B) {X : Mem} (hx : XB X T B) (hs : s ≤ T) (tx : TX T B X s) : ∀ k m x, x + k = 6 → k < m → F_X5_namedKind_2 X m (nI x) = some (kx T B s k x) := by
  intro k
  induction k with
  | zero =>
    intro m x h1 h2
    obtain ⟨m, rfl⟩ : ∃ q, m = q + 1 := ⟨m - 1, by omega⟩
    have e : x = 6 := by omega
    subst e
    rw [F_X5_namedKind_2, if_pos (by decide), kx]
  | succ k ih =>
    intro m x h1 h2
    obtain ⟨m, rfl⟩ : ∃ q, m = q + 1 := ⟨m - 1, by omega⟩
    have hi : ¬ (6 : Int32) ≤ nI x := nI_ge (show x < 6 by omega) (by decide)
    obtain ⟨n1, n2⟩ := nm_all x (by omega)
    rw [F_X5_namedKind_2, if_neg hi, show F_X5_nameOf (nI x) X = some (nmI x) from n1, Option.bind_some, sg, if_pos n2, x_isWord hT hx n2 hs tx, Option.bind_some, kx, nI_1, ih m (x + 1) (by omega) (by omega)]
    cases isW T B s (nmI x) with
    | true => rw [if_pos (show true = true from rfl), if_neg one0.mp, if_pos (show true = true from rfl)]
    | false => rw [if_neg Bool.false_ne_true, if_pos rfl, if_neg Bool.false_ne_true]
theorem m_kind {Y : Mem} (hs : s ≤ T) (tm : TM T B Y s) : F_X8_kindHere Y = some (kx T B s 6 0) := by
  obtain ⟨w0, w1, w2, w3, w4, w5, w6, w7, w8, w9, w10⟩ := wh_all
  unfold F_X8_kindHere
  rw [← w7, ← w2, ← w3, ← w4, ← w5, ← w6, m_isWord (by decide) hs tm, m_isWord (by decide) hs tm, m_isWord (by decide) hs tm, m_isWord (by decide) hs tm, m_isWord (by decide) hs tm, m_isWord (by decide) hs tm]
  rw [kx, kx, kx, kx, kx, kx, kx]
  rw [show nmI 0 = 7 from rfl, show nmI (0 + 1) = 2 from rfl, show nmI (0 + 1 + 1) = 3 from rfl, show nmI (0 + 1 + 1 + 1) = 4 from rfl, show nmI (0 + 1 + 1 + 1 + 1) = 5 from rfl, show nmI (0 + 1 + 1 + 1 + 1 + 1) = 6 from rfl]
  cases isW T B s 7 <;> cases isW T B s 2 <;> cases isW T B s 3 <;> cases isW T B s 4 <;> cases isW T B s 5 <;> cases isW T B s 6 <;> rfl
theorem kx_n : ∀ k x, x + k = 6 → (kx T B s k x = -1 ∧ ∀ y, x ≤ y → y < 6 → isW T B s (nmI y) = false) ∨ ∃ y, x ≤ y ∧ y < 6 ∧ kx T B s k x = nI y ∧ isW T B s (nmI y) = true := by
  intro k
  induction k with
  | zero => intro x h; exact Or.inl ⟨rfl, fun y h1 h2 => by omega⟩
  | succ k ih =>
    intro x h
    rw [kx]
    cases hq : isW T B s (nmI x) with
    | true => exact Or.inr ⟨x, by omega, by omega, if_pos rfl, hq⟩
    | false =>
      rw [if_neg Bool.false_ne_true]
      rcases ih (x + 1) (by omega) with ⟨a, b⟩ | ⟨y, y1, y2, y3, y4⟩
      · refine Or.inl ⟨a, fun y h1 h2 => ?_⟩
        by_cases e : y = x
        · rw [e]; exact hq
        · exact b y (by omega) h2
      · exact Or.inr ⟨y, by omega, y2, y3, y4⟩
theorem nm_len : ∀ x, x < 6 → lenL.getD (nmI x) 0 ≠ lenL.getD 0 0 := by decide +kernel
theorem isW_len {a b : Nat} (h1 : isW T B s a = true) (h2 : isW T B s b = true) : lenL.getD a 0 = lenL.getD b 0 := by
  have p := of_decide_eq_true h1
  have q := of_decide_eq_true h2
  omega
theorem slip_k (h : isW T B s 0 = true) : kx T B s 6 0 = -1 := by
  rcases kx_n (T := T) (B := B) (s := s) 6 0 rfl with ⟨a, -⟩ | ⟨y, y1, y2, y3, y4⟩
  · exact a
  · exact absurd (isW_len y4 h) (nm_len y y2)
def JR (T : Nat) (B : Nat → Nat) (f z : Int32) (s : Nat) (X Y : Mem) (g : Int32) (X1 Y1 : Mem) : Prop := ∃ s', s ≤ s' ∧ s' ≤ T ∧ XB X1 T B ∧ MB Y1 T B ∧ TX T B X1 s' ∧ TM T B Y1 s' ∧ Ch (fun o => (24 ≤ o ∧ o ≤ 34) ∨ o = 39) X X1 ∧ FrY Y Y1 ∧ ((g = 1 ∧ m_I Y1 49 15 = 1 ∧ s < s' ∧ ∃ N U, GV f N U ∧ VX X1 24 f z N U ∧ VM Y1 50 f z N U) ∨ (g = 0 ∧ m_I Y1 49 15 = 0))
theorem TX.c {X X1 : Mem} (h : TX T B X s) (h1 : ∀ q, m_I X1 39 q = m_I X 39 q) : TX T B X1 s := ⟨by rw [h1]; exact h.1, by rw [h1]; exact h.2.1, by rw [h1]; exact h.2.2.1, fun q => by rw [h1]; exact h.2.2.2 q⟩
theorem ad_w (U : Nat → Nat → Int32) (N : Nat) (k w p n x : Int32) : u2 (ad U N k w p n) 1 N x = ad U N k x p n := by
  funext a b
  unfold ad u2
  by_cases hb : b = N <;> by_cases h1 : a = 1 <;> simp [hb, h1]
theorem ad_p (U : Nat → Nat → Int32) (N : Nat) (k w p n x : Int32) : u2 (ad U N k w p n) 2 N x = ad U N k w x n := by
  funext a b
  unfold ad u2
  by_cases hb : b = N <;> by_cases h1 : a = 2 <;> simp [hb, h1]
theorem ad_n (U : Nat → Nat → Int32) (N : Nat) (k w p n x : Int32) : u2 (ad U N k w p n) 3 N x = ad U N k w p x := by
  funext a b
  unfold ad u2
  by_cases hb : b = N <;> by_cases h1 : a = 3 <;> simp [hb, h1]
theorem may_bad {Y : Mem} (h : m_I Y 49 15 = 0) (a : Int64) (b c d : Int32) : F_X8_mayWant a b c d Y = some (d, Y) := by
  unfold F_X8_mayWant
  rw [if_pos h]
theorem j_person (hT : BB T B) {X Y : Mem} {f z : Int32} {N : Nat} {U : Nat → Nat → Int32} (hx : XB X T B) (hm : MB Y T B) (hs : s < T) (tx : TX T B X s) (tm : TM T B Y s) (hg : GV f N U) (vx : VX X 24 f z N U) (vm : VM Y 50 f z N U) {k : Nat} (hk : k < 6) (hkx : kx T B s 6 0 = nI k) : ∃ g X1 Y1, F_X5_takePerson 24 X = some (g, X1) ∧ F_X8_wantPerson (nI k) Y = some Y1 ∧ JR T B f z s X Y g X1 Y1 := by
  have hN := hg.1
  have hs2 : s ≤ T := by omega
  have xk : F_X5_namedKind X = some (nI k) := by rw [← hkx]; exact x_kind hT hx hs2 tx 6 FU 0 rfl (by decide)
  obtain ⟨w0, w1, w2, w3, w4, w5, w6, w7, w8, w9, w10⟩ := wh_all
  unfold F_X5_takePerson F_X8_wantPerson
  rw [xk, Option.bind_some, if_neg (nI_pos (by omega)), n51_2, vm.2.2.1]
  unfold F_X4_isFull
  rw [vx.2.2.1]
  by_cases c : N < 8
  · have cX : nI N < (8 : Int32) := nI_lt (b := 8) c (by decide)
    have cY : ¬ (8 : Int32) ≤ nI N := nI_ge (b := 8) c (by decide)
    rw [if_pos cX, Option.bind_some, if_pos rfl, if_neg cY]
    obtain ⟨X1, a1, a2, a3⟩ := x_add vx c (nI k)
    have hx1 := hx.ch a3 (by omega) (by omega)
    obtain ⟨X2, b1, b2, b3, b4⟩ := jx_step hT hx1 hs2 (tx.c (fun q => (a3 39 (by omega)).1 q))
    have vx2 := a2.ch b4 (fun o q1 q2 => by omega)
    unfold F_X8_wantPerson_17
    rw [zb_1, pin, m_ws, if_neg one0.mp, a1, bn]
    obtain ⟨Y2, e1, e2, e3, e4, e5⟩ := jy_step hT (hm.w15 1) hs2 (tm.w15 1)
    obtain ⟨n1, n2, n3⟩ := nx_b (T := T) (B := B) hs2
    have cX2 : Ch (fun o => (24 ≤ o ∧ o ≤ 34) ∨ o = 39) X X2 := (a3.wk (fun o q => by omega)).tr (b4.wk (fun o q => Or.inr q))
    have fY2 : FrY Y Y2 := (FrY.w15 1).tr (FrY.of e4 e5)
    have cY2 : Ch (fun o => o = 49) Y Y2 := (Ch.w (P := fun o => o = 49) rfl).tr e5
    have g2 : m_I Y2 49 15 = 1 := by rw [e4 15 (by omega), m_ws]
    dsimp only
    rw [b1, Option.bind_some, e1, Option.bind_some, ← w8, ← w9, ← w10]
    obtain ⟨g3, X3, r3, Y3, s3, p1, p2, p3, p4, p5, p6, p7, p8, p9, p10, p12, p11⟩ := j_part hT b3 e3 n2 b2 e2 vx2 g2 (a := 8) (w := 1) (i := N) (m := 20) (d := 5) (by decide) (by decide) c (by decide) (ad_1 _ _ _ _ _ _) (by decide)
    rw [show F_X5_takePart 8 (24 + 2) (nI N) (20 : Int32) X2 = some (g3, X3) from p1, show F_X8_mayWant (wh 8) (0 : Int32) (20 : Int32) (5 : Int32) Y2 = some (r3, Y3) from p2, bn, bn]
    dsimp only
    rcases p11 with ⟨q1, q2, q3, q4⟩ | ⟨q1, q2⟩
    · rw [ad_w] at q3
      rw [q1, if_neg one0.mp]
      obtain ⟨g4, X4, r4, Y4, s4, t1, t2, t3, t4, t5, t6, t7, t8, t9, t10, t12, t11⟩ := j_part hT p5 p6 p4 p7 p8 q3 q2 (a := 9) (w := 2) (i := N) (m := 999) (d := 10) (by decide) (by decide) c (by decide) (ad_2 _ _ _ _ _ _) (by decide)
      rw [show F_X5_takePart 9 (24 + 3) (nI N) (999 : Int32) X3 = some (g4, X4) from t1, show F_X8_mayWant (wh 9) (0 : Int32) (999 : Int32) (10 : Int32) Y3 = some (r4, Y4) from t2, bn, bn]
      dsimp only
      rcases t11 with ⟨u1, u2', u3, u4⟩ | ⟨u1, u2'⟩
      · rw [ad_p] at u3
        rw [u1, if_neg one0.mp]
        obtain ⟨g5, X5, r5, Y5, s5, v1, v2, v3, v4, v5, v6, v7, v8, v9, v10, v12, v11⟩ := j_part hT t5 t6 t4 t7 t8 u3 u2' (a := 10) (w := 3) (i := N) (m := 99) (d := 50) (by decide) (by decide) c (by decide) (ad_3 _ _ _ _ _ _) (by decide)
        rw [show F_X5_takePart 10 (24 + 4) (nI N) (99 : Int32) X4 = some (g5, X5) from v1, show F_X8_mayWant (wh 10) (0 : Int32) (99 : Int32) (50 : Int32) Y4 = some (r5, Y5) from v2, bn, bn]
        dsimp only
        have cXX := ((cX2.tr p9).tr t9).tr v9
        have fYY := ((fY2.tr p10).tr t10).tr v10
        have cYY := ((cY2.tr p12).tr t12).tr v12
        rcases v11 with ⟨z1, z2, z3, z4⟩ | ⟨z1, z2⟩
        · rw [ad_n] at z3
          obtain ⟨Y6, y1, y2, y3⟩ := m_adds (vm.ch cYY (by omega)) c (nI k) r3 r4 r5
          rw [z1, if_neg one0.mp, z2, if_neg one0.mp, y1, Option.bind_some]
          have c49 : ∀ q, m_I Y6 49 q = m_I Y5 49 q := fun q => (y3 49 (by omega)).1 q
          refine ⟨1, X5, Y6, rfl, rfl, s5, by omega, v4, v5, v6.c (c49 9) (fun q => (y3 58 (by omega)).1 q), v7, v8.c (fun q _ _ => c49 q) ((y3 49 (by omega)).2 13), cXX, fYY.tr ⟨y3.wk (fun o q => Or.inr q), fun q _ => c49 q⟩, Or.inl ⟨rfl, by rw [c49]; exact z2, by have := n3 hs; omega, N + 1, ad U N (nI k) r3 r4 r5, ?_, z3, y2⟩⟩
          exact GV_ad hg c (by rw [nI_toInt (by omega)]; omega) (by omega) (by omega) (by omega)
        · rw [z1, if_pos rfl, z2, if_pos rfl]
          exact ⟨0, X5, Y5, rfl, rfl, s5, by omega, v4, v5, v6, v7, v8, cXX, fYY, Or.inr ⟨rfl, z2⟩⟩
      · rw [u1, if_pos rfl, may_bad u2', bn]
        dsimp only
        rw [u2', if_pos rfl]
        exact ⟨0, X4, Y4, rfl, rfl, s4, by omega, t4, t5, t6, t7, t8, (cX2.tr p9).tr t9, (fY2.tr p10).tr t10, Or.inr ⟨rfl, u2'⟩⟩
    · rw [q1, if_pos rfl, may_bad q2, bn]
      dsimp only
      rw [may_bad q2, bn]
      dsimp only
      rw [q2, if_pos rfl]
      exact ⟨0, X3, Y3, rfl, rfl, s3, by omega, p4, p5, p6, p7, p8, cX2.tr p9, fY2.tr p10, Or.inr ⟨rfl, q2⟩⟩
  · have cX : ¬ nI N < (8 : Int32) := nI_nlt (b := 8) (by omega) (by omega)
    have cY : (8 : Int32) ≤ nI N := nI_le (a := 8) (by omega) (by omega)
    rw [if_neg cX, Option.bind_some, if_neg one0.mp, if_pos cY]
    unfold F_X8_wantPerson_17
    rw [zb_0, pin, m_ws, if_pos rfl]
    exact ⟨0, X, _, rfl, rfl, s, Nat.le_refl _, hs2, hx, hm.w15 0, tx, tm.w15 0, Ch.rf, FrY.w15 0, Or.inr ⟨rfl, m_ws _ _ _ _⟩⟩
end JP
