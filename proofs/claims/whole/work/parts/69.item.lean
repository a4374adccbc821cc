/-! ===== READING A VILLAGE: A SLIP, AN ITEM ===== -/
section JI
variable {T : Nat} {B : Nat → Nat} {s : Nat}
theorem x_numok {X : Mem} {f z : Int32} {N : Nat} {U : Nat → Nat → Int32} (tx : TX T B X s) (vx : VX X 24 f z N U) (hN : N ≤ 8) (h : so T B s = 2 ∧ vv T B s < N) : m_I X 39 3 = (2 : Int32) ∧ m_I X 39 4 = nI (vv T B s) ∧ F_X4_has 24 (m_I X 39 4) X = some 1 := by
  have vr1 := vv_r T B s
  have ex : xv B (T - s) s 0 = vv T B s := by unfold VR at vr1; omega
  have e4 := tx.2.2.2 h.1
  rw [ex] at e4
  refine ⟨by rw [tx.2.2.1, h.1]; rfl, e4, ?_⟩
  rw [e4, x_has vx hN, if_pos (by rw [nI_toInt (by omega)]; omega)]
theorem x_numno {X : Mem} {f z : Int32} {N : Nat} {U : Nat → Nat → Int32} (tx : TX T B X s) (vx : VX X 24 f z N U) (hN : N ≤ 8) (h : ¬ (so T B s = 2 ∧ vv T B s < N)) (K : Option (Int32 × Mem)) : (if m_I X 39 3 = (2 : Int32) then (F_X4_has 24 (m_I X 39 4) X).bind (fun r => if r = 0 then some ((0 : Int32), X) else K) else some ((0 : Int32), X)) = some ((0 : Int32), X) := by
  have vr1 := vv_r T B s
  have s4 := so_4 T B s
  by_cases q : so T B s = 2
  · rw [tx.2.2.1, q, if_pos (show nI 2 = (2 : Int32) from rfl), tx.2.2.2 q, x_has vx hN, if_neg, Option.bind_some, if_pos rfl]
    unfold VR at vr1
    rw [nI_toInt (by omega)]
    omega
  · rw [tx.2.2.1, if_neg]
    exact fun z => q ((nI_eq (b := 2) (by omega) (by decide)).mp z)
theorem j_slip (hT : BB T B) {X Y : Mem} {f z : Int32} {N : Nat} {U : Nat → Nat → Int32} (hx : XB X T B) (hm : MB Y T B) (hs : s < T) (tx : TX T B X s) (tm : TM T B Y s) (hg : GV f N U) (vx : VX X 24 f z N U) (vm : VM Y 50 f z N U) (h15 : m_I Y 49 15 = 1) : ∃ g X1 Y1, F_X5_takeSlip 24 X = some (g, X1) ∧ F_X8_wantSlip Y = some Y1 ∧ JR T B f z s X Y g X1 Y1 := by
  have hN := hg.1
  have hs2 : s ≤ T := by omega
  obtain ⟨w0, w1, w2, w3, w4, w5, w6, w7, w8, w9, w10⟩ := wh_all
  have eN : (nI N - (1 : Int32)).toInt = (N : Int) - 1 := by
    have e1 : (1 : Int32).toInt = 1 := by decide
    rw [t_sub (by rw [nI_toInt (by omega), e1]; omega) (by rw [nI_toInt (by omega), e1]; omega), nI_toInt (by omega), e1]
  have bad : ∀ (x : Int32) (Z : Mem), F_X8_wantSlip_41 x (0 : Int32) Z = some (w_I Z 49 15 0) := fun x Z => by
    unfold F_X8_wantSlip_41
    rw [zb_0, pin, m_ws, if_pos rfl]
  unfold F_X5_takeSlip F_X8_wantSlip
  obtain ⟨X1, a1, a2, a3, a4⟩ := jx_step hT hx hs2 tx
  obtain ⟨Y1, b1, b2, b3, b4, b5⟩ := jy_step hT hm hs2 tm
  obtain ⟨n1, n2, n3⟩ := nx_b (T := T) (B := B) hs2
  have n4 := n3 hs
  generalize nx T B s = s1 at a2 b2 n1 n2 n3 n4
  have vx1 := vx.ch a4 (fun o q1 q2 => by omega)
  have vm1 := vm.ch b5 (by omega)
  obtain ⟨r2, Y2, c1, c2, c3, c5, c4⟩ := m_number hT b3 n2 b2 (by rw [b4 15 (by omega)]; exact h15) eN
  have cX1 : Ch (fun o => (24 ≤ o ∧ o ≤ 34) ∨ o = 39) X X1 := a4.wk (fun o q => Or.inr q)
  have fY2 : FrY Y Y2 := (FrY.of b4 b5).tr c3
  rw [a1, Option.bind_some, b1, Option.bind_some, n51_2, vm1.2.2.1, c1, bn]
  dsimp only
  by_cases ok1 : so T B s1 = 2 ∧ vv T B s1 < N
  rotate_left 1
  · rw [x_numno a2 vx1 hN ok1]
    rcases c4 with ⟨g1, g2, -⟩ | ⟨-, g4, g5⟩
    · exact absurd ⟨g1, by omega⟩ ok1
    · rw [g5, if_pos rfl, bad]
      exact ⟨0, X1, _, rfl, rfl, s1, n1, n2, a3, c2.w15 0, a2, g4.w15 0, cX1, fY2.tr (FrY.w15 0), Or.inr ⟨rfl, m_ws _ _ _ _⟩⟩
  · obtain ⟨k1, k2, k3⟩ := x_numok a2 vx1 hN ok1
    rw [if_pos k1, k3, Option.bind_some, if_neg one0.mp]
    rcases c4 with ⟨-, -, g3, g4, g5⟩ | ⟨g1, -⟩
    rotate_left 1
    · exact absurd ⟨ok1.1, by omega⟩ g1
    rw [g5, if_neg one0.mp]
    obtain ⟨X2, d1, d2, d3, d4⟩ := jx_step hT a3 n2 a2
    obtain ⟨m1, m2, m3⟩ := nx_b (T := T) (B := B) n2
    generalize nx T B s1 = s2 at d2 g4 m1 m2 m3
    have cX2 := cX1.tr (d4.wk (fun o q => Or.inr q) : Ch (fun o => (24 ≤ o ∧ o ≤ 34) ∨ o = 39) X1 X2)
    have vx2 := vx1.ch d4 (fun o q1 q2 => by omega)
    have vm2 := vm1.ch c5 (by omega)
    rw [d1, Option.bind_some, x_isWord hT d3 (by decide) m2 d2, Option.bind_some, ← w1, m_isWord (by decide) m2 g4, Option.bind_some]
    cases hq : isW T B s2 1 with
    | false =>
      rw [if_neg Bool.false_ne_true, if_pos rfl, if_pos rfl, bad]
      exact ⟨0, X2, _, rfl, rfl, s2, by omega, m2, d3, c2.w15 0, d2, g4.w15 0, cX2, fY2.tr (FrY.w15 0), Or.inr ⟨rfl, m_ws _ _ _ _⟩⟩
    | true =>
      rw [if_pos (show true = true from rfl), if_neg one0.mp, if_neg one0.mp]
      unfold F_X8_wantSlip_41
      rw [zb_1, pin, m_ws, if_neg one0.mp]
      obtain ⟨X3, e1, e2, e3, e4⟩ := jx_step hT d3 m2 d2
      obtain ⟨Y3, f1, f2, f3, f4, f5⟩ := jy_step hT (c2.w15 1) m2 (g4.w15 1)
      obtain ⟨o1, o2, o3⟩ := nx_b (T := T) (B := B) m2
      generalize nx T B s2 = s3 at e2 f2 o1 o2 o3
      have cX3 := cX2.tr (e4.wk (fun o q => Or.inr q) : Ch (fun o => (24 ≤ o ∧ o ≤ 34) ∨ o = 39) X2 X3)
      have vx3 := vx2.ch e4 (fun o q1 q2 => by omega)
      have vm3 : VM Y3 50 f z N U := (vm2.ch (P := fun o => o = 49) (Ch.w rfl) (by omega)).ch f5 (by omega)
      have fY3 : FrY Y Y3 := (fY2.tr (FrY.w15 1)).tr (FrY.of f4 f5)
      obtain ⟨r4, Y4, h1, h2, h3, h5, h4⟩ := m_number hT f3 o2 f2 (by rw [f4 15 (by omega), m_ws]) eN
      rw [e1, Option.bind_some, f1, Option.bind_some, n51_2, vm3.2.2.1, h1, bn]
      dsimp only
      have fY4 := fY3.tr h3
      have vm4 := vm3.ch h5 (by omega)
      by_cases ok3 : so T B s3 = 2 ∧ vv T B s3 < N
      rotate_left 1
      · rw [x_numno e2 vx3 hN ok3]
        rcases h4 with ⟨g1, g2, -⟩ | ⟨-, i4, i5⟩
        · exact absurd ⟨g1, by omega⟩ ok3
        · rw [i5, if_pos rfl]
          exact ⟨0, X3, Y4, rfl, rfl, s3, by omega, o2, e3, h2, e2, i4, cX3, fY4, Or.inr ⟨rfl, i5⟩⟩
      · obtain ⟨l1, l2, l3⟩ := x_numok e2 vx3 hN ok3
        rw [if_pos l1, l3, Option.bind_some, if_neg one0.mp]
        rcases h4 with ⟨-, -, i3, i4, i5⟩ | ⟨g1, -⟩
        rotate_left 1
        · exact absurd ⟨ok3.1, by omega⟩ g1
        obtain ⟨j1, j2, j3⟩ := ih_in hg.2.2.2 hN ok3.2
        have q1 := x_holder vx3 hN j1 j3
        have q2 := m_whoHas vm4 hN j1 j3
        obtain ⟨X4, t1, t2, t3⟩ := x_exchange vx3 (p := vv T B s1) (q := ih N U (vv T B s3)) (by omega) (by omega)
        obtain ⟨Y5, u1, u2', u3⟩ := m_swaps vm4 (p := vv T B s1) (q := ih N U (vv T B s3)) (by omega) (by omega)
        obtain ⟨X5, v1, v2, v3, v4⟩ := jx_step hT (e3.ch t3 (by omega) (by omega)) o2 (e2.c (fun q => (t3 39 (by omega)).1 q))
        obtain ⟨p1, p2, p3⟩ := nx_b (T := T) (B := B) o2
        have c49 : ∀ q, m_I Y5 49 q = m_I Y4 49 q := fun q => (u3 49 (by omega)).1 q
        rw [l2, k2, q1, Option.bind_some, show F_X4_exchange 24 (nI (vv T B s1)) (nI (hd U (nI (vv T B s3)) N 0)) X3 = some X4 from t1, Option.bind_some, v1, Option.bind_some, i5, if_neg one0.mp, i3, g3, q2, Option.bind_some, show F_X8_swaps (nI (vv T B s1)) (nI (hd U (nI (vv T B s3)) N 0)) Y4 = some Y5 from u1, Option.bind_some]
        refine ⟨1, X5, Y5, rfl, rfl, nx T B s3, by omega, p2, v3, h2.c (c49 9) (fun q => (u3 58 (by omega)).1 q), v2, i4.c (fun q _ _ => c49 q) ((u3 49 (by omega)).2 13), (cX3.tr (t3.wk (fun o q => by omega))).tr (v4.wk (fun o q => Or.inr q)), fY4.tr ⟨u3.wk (fun o q => Or.inr q), fun q _ => c49 q⟩, Or.inl ⟨rfl, by rw [c49]; exact i5, by omega, N, sw U (vv T B s1) (ih N U (vv T B s3)), GV_sw hg ok1.2 j1, t2.ch v4 (fun o q1 q2 => by omega), u2'⟩⟩
theorem j_item (hT : BB T B) {X Y : Mem} {f z : Int32} {N : Nat} {U : Nat → Nat → Int32} (hx : XB X T B) (hm : MB Y T B) (hs : s ≤ T) (tx : TX T B X s) (tm : TM T B Y s) (hg : GV f N U) (vx : VX X 24 f z N U) (vm : VM Y 50 f z N U) (h15 : m_I Y 49 15 = 1) : ∃ g X1 Y1, (∀ K : Int32 → Mem → Option (Int32 × Mem), (F_X5_isWord 0 X).bind (fun r6 => if r6 = 0 then bn (F_X5_takePerson 24 X) K else bn (F_X5_takeSlip 24 X) K) = K g X1) ∧ F_X8_wantItem Y = some Y1 ∧ JR T B f z s X Y g X1 Y1 := by
  obtain ⟨w0, -⟩ := wh_all
  unfold F_X8_wantItem
  rw [x_isWord hT hx (by decide) hs tx, m_kind hs tm, Option.bind_some, ← w0, m_isWord (by decide) hs tm, Option.bind_some, Option.bind_some]
  cases hq : isW T B s 0 with
  | true =>
    have hsT : s < T := (so_1 (of_decide_eq_true hq).1).1
    obtain ⟨g, X1, Y1, a1, a2, a3⟩ := j_slip hT hx hm hsT tx tm hg vx vm h15
    refine ⟨g, X1, Y1, fun K => ?_, ?_, a3⟩
    · rw [Option.bind_some, if_pos (show true = true from rfl), if_neg one0.mp, a1]
      rfl
    · rw [slip_k hq, if_pos (show (-1 : Int32) < 0 by decide), if_pos (show true = true from rfl), if_neg one0.mp, a2, Option.bind_some]
  | false =>
    rcases kx_n (T := T) (B := B) (s := s) 6 0 rfl with ⟨e, -⟩ | ⟨y, y1, y2, y3, y4⟩
    · refine ⟨0, X, w_I Y 49 15 0, fun K => ?_, ?_, s, Nat.le_refl _, hs, hx, hm.w15 0, tx, tm.w15 0, Ch.rf, FrY.w15 0, Or.inr ⟨rfl, m_ws _ _ _ _⟩⟩
      · rw [Option.bind_some, if_neg Bool.false_ne_true, if_pos rfl, F_X5_takePerson, show F_X5_namedKind X = some (-1) from by rw [← e]; exact x_kind hT hx hs tx 6 FU 0 rfl (by decide), Option.bind_some, if_pos (show (-1 : Int32) < 0 by decide)]
        rfl
      · rw [e, if_pos (show (-1 : Int32) < 0 by decide), if_neg Bool.false_ne_true, if_pos rfl, pin]
    · have hsT : s < T := (so_1 (of_decide_eq_true y4).1).1
      obtain ⟨g, X1, Y1, a1, a2, a3⟩ := j_person hT hx hm hsT tx tm hg vx vm y2 y3
      refine ⟨g, X1, Y1, fun K => ?_, ?_, a3⟩
      · rw [Option.bind_some, if_neg Bool.false_ne_true, if_pos rfl, a1]
        rfl
      · rw [y3, if_neg (nI_pos (by omega)), a2, Option.bind_some]
end JI
