theorem RR.vt {M M2 : Mem} {f z : Int32} {N : Nat} {U : Nat → Nat → Int32} (h : RR M) (hc : Ch (fun o => vlC o ∨ o = 37 ∨ o = 49) M M2) (h22 : m_I M2 49 22 = m_I M 49 22) (hg : GV f N U) (hx : VX M2 2 f z N U) (hm : VM M2 50 f z N U) (h37 : m_I M2 37 1 = 0) (h9 : m_I M2 49 9 = 0) : RR M2 := by
  obtain ⟨h1, h2, h3, h4, h5⟩ := h
  refine ⟨⟨f, z, N, U, hg, hx, hm⟩, h2.ch hc ?_ ?_, h3.ch9 hc ?_ h22 (fun o a b => ?_) ?_, ⟨0, by decide, h37, h9, fun k hk => by omega⟩, h5.ch hc (fun o a b => ?_) (fun o a b => ?_)⟩ <;> unfold vlC hdC <;> omega
theorem op_village {M : Mem} (h : RR M) : OpI F_X7_village F_X8_village M := by
  obtain ⟨⟨f, z, N, U, hg, hx, hm⟩, -, -, ⟨T, t1, t2, t3, t4⟩, -⟩ := id h
  have hb : ∀ k, k < T → m_I M 58 k = nI ((m_I M 58 k).toNatClampNeg) ∧ (m_I M 58 k).toNatClampNeg ≤ 255 := by
    intro k hk
    obtain ⟨-, b1, b2⟩ := t4 k hk
    obtain ⟨j, hj, e⟩ := t_of (n := 256) b1 (by omega)
    rw [e, nI_clamp (by omega)]
    exact ⟨rfl, by omega⟩
  have hT : BB T (fun k => (m_I M 58 k).toNatClampNeg) := ⟨t1, fun k hk => (hb k hk).2⟩
  have hxb : XB M T (fun k => (m_I M 58 k).toNatClampNeg) := ⟨t2, fun k hk => by rw [(t4 k hk).1]; exact (hb k hk).1⟩
  have hmb : MB M T (fun k => (m_I M 58 k).toNatClampNeg) := ⟨t3, fun k hk => (hb k hk).1⟩
  generalize (fun k => (m_I M 58 k).toNatClampNeg) = B at hT hxb hmb
  obtain ⟨M2, a1, a2, a3⟩ := x_become (a := 24) hx (by omega)
  have c1 : Ch (fun o => (24 ≤ o ∧ o ≤ 34) ∨ o = 39) M (w_I M2 39 2 0) := (a3.wk (fun o q => by omega)).tr (Ch.w (Or.inr rfl))
  obtain ⟨M3, b1, b2, b3⟩ := x_step hT (M := w_I M2 39 2 0) (e := 0) (hxb.ch c1 (by omega) (by omega)) (by omega) (by rw [m_ws]; exact nI_0.symm)
  have c3 : Ch (fun o => (24 ≤ o ∧ o ≤ 34) ∨ o = 39) M M3 := c1.tr (b3.wk (fun o q => Or.inr q))
  have hx3 := hxb.ch c3 (by omega) (by omega)
  have vx3 : VX M3 24 f z N U := (a2.ch (P := fun o => o = 39) (Ch.w rfl) (fun o q1 q2 => by omega)).ch b3 (fun o q1 q2 => by omega)
  obtain ⟨s1, s2, s3⟩ := sk_b (T := T) (B := B) (T - 0) 0 (by omega)
  have run : ∀ W, VM W 50 f z N U → MB W T B → ∃ r X1 t Y1 x1 Y0, F_X5_tell_11 24 FU (1 : Int32) M3 = some (r, X1) ∧ F_X8_village W = F_X8_village_91 x1 t Y1 ∧ (t = 1 → x1 = r) ∧ Ch (fun o => (24 ≤ o ∧ o ≤ 34) ∨ o = 39) M3 X1 ∧ FrY Y0 Y1 ∧ JO T f z r t X1 Y1 ∧ (∀ k, k < 51 → m_I Y0 64 k = m_I W 50 k) ∧ Ch (fun o => o = 64 ∨ o = 49) W Y0 ∧ ∀ q, q < 10 ∨ 15 < q → m_I Y0 49 q = m_I W 49 q := by
    intro W w1 w2
    obtain ⟨Y0, Y, d1, d2, d3, d4, d5, d6, d7, d8, d9, d10⟩ := y_start hT w1 w2
    obtain ⟨r, X1, t, Y1, x1, p1, p2, p3, p4, p5, p6⟩ := j_loop hT (f := f) (z := z) 121 (sk B (T - 0) 0) M3 Y0 Y 1 FU FU (by omega) (show 121 < 1000 by omega) (show 121 + 1 < 1000 by omega) (Nat.le_refl 1) (by omega) s2 hx3 b2 d2 d3 d4 d5 d6 ⟨N, U, hg, vx3, d7⟩
    exact ⟨r, X1, t, Y1, x1, Y0, p1, d1.trans p2, p3, p4, p5, p6, d8, d9, d10⟩
  obtain ⟨r, X1, t0, Ya, xa, Yb, q1, -, -, q4, -, q6, -⟩ := run M hm hmb
  have cX := c3.tr q4
  have XV : F_X7_village M = (if r < 0 then some (r, w_I X1 37 1 0) else (F_X4_become 2 24 X1).bind (fun M9 => some (r, w_I M9 37 1 0))) := by
    unfold F_X7_village F_X5_tell
    rw [a1, Option.bind_some, pin, b1, Option.bind_some, q1]
    simp only [bn, pin]
  rcases q6 with ⟨-, ⟨j, j1, j2⟩, N', U', hg', vx', -⟩ | ⟨-, s', e1, e2, -⟩
  · have hr : ¬ r < 0 := by rw [j2]; exact nI_pos (by omega)
    obtain ⟨X2, f1, f2, f3⟩ := x_become (a := 2) vx' (by omega)
    have cW : Ch (fun o => (24 ≤ o ∧ o ≤ 34) ∨ o = 39 ∨ (2 ≤ o ∧ o ≤ 8) ∨ o = 37) M (w_I X2 37 1 0) := ((cX.wk (fun o q => by omega)).tr (f3.wk (fun o q => by omega))).tr (Ch.w (by omega))
    obtain ⟨r', X1', t, Y1, x1, Y0, p1, p2, p3, p4, p5, p6, p8, p9, p10⟩ := run (w_I X2 37 1 0) (hm.ch cW (by omega)) (hmb.c ((cW 49 (by omega)).1 9) (fun k => (cW 58 (by omega)).1 k))
    rw [q1] at p1
    cases p1
    rcases p6 with ⟨g1, -, N2, U2, hg2, vx2, vm2⟩ | ⟨g1, s', g2, g3, -⟩
    · have cY : Ch (fun o => o = 64 ∨ o = 49 ∨ o = 50) (w_I X2 37 1 0) (w_I (w_I Y1 49 15 1) 49 9 0) := (((p9.wk (fun o q => by omega)).tr (p5.1.wk (fun o q => by omega))).tr (Ch.w (by omega))).tr (Ch.w (by omega))
      obtain ⟨X3, k1, k2, k3⟩ := x_become (a := 2) vx2 (by omega)
      rw [f1] at k1
      cases k1
      refine ⟨r, w_I X2 37 1 0, w_I (w_I Y1 49 15 1) 49 9 0, by rw [XV, if_neg hr, f1, Option.bind_some], ?_, ?_⟩
      · rw [p2, g1, F_X8_village_91, zb_1, pin, pin, m_wk (show 15 ≠ 9 by decide), m_ws, if_neg one0.mp, p3 g1]
      · have cc : Ch (fun o => vlC o ∨ o = 37 ∨ o = 49) M (w_I (w_I Y1 49 15 1) 49 9 0) := (cW.wk (fun o q => by unfold vlC hdC; omega)).tr (cY.wk (fun o q => by unfold vlC hdC; omega))
        refine h.vt (z := z) cc ?_ hg2 ?_ ?_ ?_ (m_ws _ _ _ _)
        · rw [m_wk (show 22 ≠ 9 by decide), m_wk (show 22 ≠ 15 by decide), p5.2 22 (by omega), p10 22 (by omega), (cW 49 (by omega)).1]
        · exact (k2.ch (P := fun o => o = 37) (Ch.w rfl) (fun o q1 q2 => by omega)).ch cY (fun o q1 q2 => by omega)
        · exact (vm2.ch (P := fun o => o = 49) (Ch.w rfl) (by omega)).ch (P := fun o => o = 49) (Ch.w rfl) (by omega)
        · rw [(cY 37 (by omega)).1, m_ws]
    · exfalso
      rw [j2] at g3
      have q := congrArg Int32.toInt g3
      rw [nI_toInt (by omega), t_sub (by rw [m1t, nI_toInt (by omega)]; omega) (by rw [m1t, nI_toInt (by omega)]; omega), m1t, nI_toInt (by omega)] at q
      omega
  · have hT2 := hT.1
    have er : r.toInt = -1 - (s' : Int) := by rw [e2, t_sub (by rw [m1t, nI_toInt (by omega)]; omega) (by rw [m1t, nI_toInt (by omega)]; omega), m1t, nI_toInt (by omega)]
    have hr : r < 0 := by rw [t_lt, er, show (0 : Int32).toInt = 0 by decide]; omega
    have cW : Ch (fun o => (24 ≤ o ∧ o ≤ 34) ∨ o = 39 ∨ o = 37) M (w_I X1 37 1 0) := (cX.wk (fun o q => by omega)).tr (Ch.w (by omega))
    have hmW : VM (w_I X1 37 1 0) 50 f z N U := hm.ch cW (by omega)
    obtain ⟨r', X1', t, Y1, x1, Y0, p1, p2, p3, p4, p5, p6, p8, p9, p10⟩ := run (w_I X1 37 1 0) hmW (hmb.c ((cW 49 (by omega)).1 9) (fun k => (cW 58 (by omega)).1 k))
    rw [q1] at p1
    cases p1
    rcases p6 with ⟨g1, ⟨j, j1, j2⟩, -⟩ | ⟨g1, s2', g2, g3, g4⟩
    · exfalso
      rw [j2, nI_toInt (by omega)] at er
      omega
    · obtain ⟨M4, k1, k2, k3⟩ := m_back (M := w_I (w_I Y1 49 15 0) 49 9 0) (a := 64) (by decide)
      have c64 : ∀ q, m_I (w_I (w_I Y1 49 15 0) 49 9 0) 64 q = m_I Y0 64 q := fun q => by rw [m_wo (show 64 ≠ 49 by decide), m_wo (show 64 ≠ 49 by decide), (p5.1 64 (by omega)).1]
      have cY : Ch (fun o => o = 64 ∨ o = 49 ∨ o = 50) (w_I X1 37 1 0) M4 := ((((p9.wk (fun o q => by omega)).tr (p5.1.wk (fun o q => by omega))).tr (Ch.w (by omega))).tr (Ch.w (by omega))).tr (k3.wk (fun o q => by omega))
      have m49 : ∀ q, m_I M4 49 q = m_I (w_I (w_I Y1 49 15 0) 49 9 0) 49 q := fun q => (k3 49 (by omega)).1 q
      refine ⟨r, w_I X1 37 1 0, M4, by rw [XV, if_pos hr], ?_, ?_⟩
      · rw [p2, g1, F_X8_village_91, zb_0, pin, pin, m_wk (show 15 ≠ 9 by decide), m_ws, if_pos rfl, k1, Option.bind_some, m49, m_wk (show 11 ≠ 9 by decide), m_wk (show 11 ≠ 15 by decide), g4, g3]
      · have cc : Ch (fun o => vlC o ∨ o = 37 ∨ o = 49) M M4 := (cW.wk (fun o q => by unfold vlC hdC; omega)).tr (cY.wk (fun o q => by unfold vlC hdC; omega))
        refine h.vt (z := z) cc ?_ hg ?_ (hmW.cp (fun k hk => by rw [k2 k hk, c64, p8 k hk])) ?_ ?_
        · rw [m49, m_wk (show 22 ≠ 9 by decide), m_wk (show 22 ≠ 15 by decide), p5.2 22 (by omega), p10 22 (by omega), (cW 49 (by omega)).1]
        · exact (hx.ch cW (fun o q1 q2 => by omega)).ch cY (fun o q1 q2 => by omega)
        · rw [(cY 37 (by omega)).1, m_ws]
        · rw [m49, m_ws]
