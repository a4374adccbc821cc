/-! ===== READING A VILLAGE: THE WHOLE TEXT ===== -/
section JV
variable {T : Nat} {B : Nat → Nat}
theorem so_59 {s : Nat} : (so T B s = 3 → B s = 59) ∧ (so T B s = 4 → B s ≠ 59) := by
  unfold so
  by_cases c : s < T
  · rw [if_pos c]
    by_cases d : ltr (B s)
    · rw [if_pos d]; omega
    · rw [if_neg d]
      by_cases e : dig (B s)
      · rw [if_pos e]; omega
      · rw [if_neg e]
        by_cases g : B s = 59
        · rw [if_pos g]; omega
        · rw [if_neg g]; omega
  · rw [if_neg c]; omega
def JO (T : Nat) (f z : Int32) (r t : Int32) (X1 Y1 : Mem) : Prop := (t = 1 ∧ (∃ j, j ≤ 1000 ∧ r = nI j) ∧ ∃ N U, GV f N U ∧ VX X1 24 f z N U ∧ VM Y1 50 f z N U) ∨ (t = 0 ∧ ∃ s', s' ≤ T ∧ r = (-1 : Int32) - nI s' ∧ m_I Y1 49 11 = nI s')
theorem j_loop (hT : BB T B) {f z : Int32} : ∀ k s X Y0 Y c n m, T - s < k → k < n → k + 1 < m → 1 ≤ c → 2 * (c - 1) ≤ s → s ≤ T → XB X T B → TX T B X s → F_X8_advance Y0 = some Y → FrY Y0 Y → MB Y T B → TM T B Y s → m_I Y 49 15 = 1 → (∃ N U, GV f N U ∧ VX X 24 f z N U ∧ VM Y 50 f z N U) → ∃ r X1 t Y1 x1, F_X5_tell_11 24 n (nI c) X = some (r, X1) ∧ F_X8_village_23 m (nI (c - 1)) (1 : Int32) Y0 = F_X8_village_91 x1 t Y1 ∧ (t = 1 → x1 = r) ∧ Ch (fun o => (24 ≤ o ∧ o ≤ 34) ∨ o = 39) X X1 ∧ FrY Y0 Y1 ∧ JO T f z r t X1 Y1 := by
  have hT2 := hT.1
  intro k
  induction k with
  | zero => intro s X Y0 Y c n m h1; omega
  | succ k ih =>
    intro s X Y0 Y c n m h1 h2 h3 hc1 hc2 hs hx tx hadv fy hm tm h15 hv
    obtain ⟨n, rfl⟩ : ∃ q, n = q + 1 := ⟨n - 1, by omega⟩
    obtain ⟨m, rfl⟩ : ∃ q, m = q + 1 := ⟨m - 1, by omega⟩
    obtain ⟨m, rfl⟩ : ∃ q, m = q + 1 := ⟨m - 1, by omega⟩
    obtain ⟨N, U, hg, vx, vm⟩ := hv
    obtain ⟨g, X1, Y1, a1, a2, s', b1, b2, b3, b4, b5, b6, b7, b8, b9⟩ := j_item hT hx hm hs tx tm hg vx vm h15
    have hcN : ¬ (120 : Int32) < nI c := nI_nlt (b := c) (a := 120) (by omega) (by decide)
    have ec : nI (c - 1) + 1 = nI c := by rw [nI_1, show c - 1 + 1 = c by omega]
    have XL : F_X5_tell_11 24 (n + 1) (nI c) X = F_X5_tell_39 24 (F_X5_tell_11 24 n) (nI c) g X1 := by
      rw [F_X5_tell_11, if_neg hcN]
      exact a1 (fun r9 M10 => F_X5_tell_39 24 (F_X5_tell_11 24 n) (nI c) r9 M10)
    have YL : F_X8_village_23 (m + 1 + 1) (nI (c - 1)) (1 : Int32) Y0 = (if m_I Y1 49 15 = 0 then F_X8_village_23 (m + 1) (nI c) (0 : Int32) Y1 else (if m_I Y1 49 10 = (3 : Int32) then (if m_I Y1 49 14 = (59 : Int32) then F_X8_village_23 (m + 1) (nI c) (1 : Int32) Y1 else F_X8_village_23 (m + 1) (nI c) (0 : Int32) Y1) else F_X8_village_23 (m + 1) (nI c) (0 : Int32) Y1)) := by
      rw [F_X8_village_23, if_neg one0.mp, hadv, Option.bind_some, a2, Option.bind_some, ec]
    have Y0L : F_X8_village_23 (m + 1) (nI c) (0 : Int32) Y1 = (if m_I Y1 49 15 = 0 then F_X8_village_91 (nI c) (0 : Int32) Y1 else (if m_I Y1 49 10 = 0 then F_X8_village_91 (nI c) (1 : Int32) Y1 else F_X8_village_91 (nI c) (0 : Int32) Y1)) := by
      rw [F_X8_village_23, if_pos rfl]
    have fy1 := fy.tr b8
    have s4 := so_4 T B s'
    unfold F_X5_tell_39 at XL
    rcases b9 with ⟨g1, g15, g3, N', U', hg', vx', vm'⟩ | ⟨g1, g15⟩
    · rw [g1, if_neg one0.mp, b5.2.2.1, b5.1] at XL
      rw [g15, if_neg one0.mp, b6.2.2.1] at YL
      rw [g15, if_neg one0.mp, b6.2.2.1] at Y0L
      by_cases c0 : so T B s' = 0
      · rw [c0, if_pos (show nI 0 = (0 : Int32) from rfl)] at XL
        rw [c0, if_neg (show ¬ nI (if 0 ≤ 3 then 0 else 3) = (3 : Int32) by decide), Y0L, c0, if_pos (show nI (if 0 ≤ 3 then 0 else 3) = (0 : Int32) by decide)] at YL
        exact ⟨nI c, X1, 1, Y1, nI c, XL, YL, fun _ => rfl, b7, fy1, Or.inl ⟨rfl, ⟨c, by omega, rfl⟩, N', U', hg', vx', vm'⟩⟩
      have X0 : ¬ nI (so T B s') = (0 : Int32) := fun q => c0 ((nI_eq (b := 0) (by omega) (by decide)).mp q)
      have Yn : ¬ nI (if so T B s' ≤ 3 then so T B s' else 3) = (0 : Int32) := fun q => c0 ((so_n T B s' 0 (by decide)).mp q)
      rw [if_neg X0] at XL
      rw [if_neg Yn] at Y0L
      by_cases c3 : so T B s' = 3
      · have hB := so_59.1 c3
        rw [c3, if_pos (show nI 3 = (3 : Int32) from rfl)] at XL
        rw [c3, if_pos (show nI (if 3 ≤ 3 then 3 else 3) = (3 : Int32) by decide), b6.2.2.2.2.1 (by omega), hB, if_pos (show nI 59 = (59 : Int32) from rfl)] at YL
        have hsT : s' < T := by
          by_cases q : s' < T
          · exact q
          · exact absurd (show so T B s' = 0 by unfold so; rw [if_neg q]) c0
        obtain ⟨X2, d1, d2, d3, d4⟩ := jx_step hT b3 b2 b5
        obtain ⟨Y2, e1, e2, e3, e4, e5⟩ := jy_step hT b4 b2 b6
        obtain ⟨n1, n2, n3⟩ := nx_b (T := T) (B := B) b2
        have n4 := n3 hsT
        rw [d1, Option.bind_some, nI_1] at XL
        obtain ⟨r, X3, t, Y3, x1, p1, p2, p3, p4, p5, p6⟩ := ih (nx T B s') X2 Y1 Y2 (c + 1) n (m + 1) (by omega) (by omega) (by omega) (by omega) (by omega) n2 d3 d2 e1 (FrY.of e4 e5) e3 e2 (by rw [e4 15 (by omega)]; exact g15) ⟨N', U', hg', vx'.ch d4 (fun o q1 q2 => by omega), vm'.ch e5 (by omega)⟩
        exact ⟨r, X3, t, Y3, x1, XL.trans p1, YL.trans p2, p3, (b7.tr (d4.wk (fun o q => Or.inr q))).tr p4, fy1.tr p5, p6⟩
      · have X3 : ¬ nI (so T B s') = (3 : Int32) := fun q => c3 ((nI_eq (b := 3) (by omega) (by decide)).mp q)
        rw [if_neg X3] at XL
        have YF : F_X8_village_23 (m + 1 + 1) (nI (c - 1)) (1 : Int32) Y0 = F_X8_village_91 (nI c) (0 : Int32) Y1 := by
          by_cases c4 : so T B s' = 4
          · rw [YL, c4, if_pos (show nI (if 4 ≤ 3 then 4 else 3) = (3 : Int32) by decide), b6.2.2.2.2.1 (by omega), if_neg, Y0L]
            have hsT : s' < T := by
              by_cases q : s' < T
              · exact q
              · exact absurd (show so T B s' = 0 by unfold so; rw [if_neg q]) c0
            have hb := hT.2 s' hsT
            exact fun q => so_59.2 c4 ((nI_eq (b := 59) (by omega) (by decide)).mp q)
          · rw [YL, if_neg, Y0L]
            rw [if_pos (show so T B s' ≤ 3 by omega)]
            exact X3
        exact ⟨(-1 : Int32) - nI s', X1, 0, Y1, nI c, XL, YF, fun q => absurd q (by decide), b7, fy1, Or.inr ⟨rfl, s', b2, rfl, b6.1⟩⟩
    · rw [g1, if_pos rfl, b5.1] at XL
      rw [g15, if_pos rfl] at YL Y0L
      exact ⟨(-1 : Int32) - nI s', X1, 0, Y1, nI c, XL, YL.trans Y0L, fun q => absurd q (by decide), b7, fy1, Or.inr ⟨rfl, s', b2, rfl, b6.1⟩⟩
end JV
