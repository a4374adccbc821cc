/-! ===== AT THE START: classes, statics, texts ===== -/
abbrev FC : List Cond := flatC (Jvm.Cond.and given_1 narrow_1)
theorem fc_in (i : Nat) {w : Cond} (h : FC[i]? = some w) : w ∈ FC := List.mem_of_getElem? h
abbrev tmA : Term := .static "FridaySlips$Ways" "ABOVE" "[I"
abbrev tmR : Term := .static "FridaySlips$Chances" "DERANGED" "[I"
abbrev tmO : Term := .static "FridaySlips$Chances" "ORDERED" "[I"
theorem k_A : ∀ j, j < 6 → FC[7 + j]? = some (Cond.eq (.elem tmA (.int (Int32.ofNat j))) (.int (s_A j))) := by decide +kernel
theorem k_R : ∀ j, j < 9 → FC[16 + j]? = some (Cond.eq (.elem tmR (.int (Int32.ofNat j))) (.int (s_R j))) := by decide +kernel
theorem k_O : ∀ j, j < 9 → FC[28 + j]? = some (Cond.eq (.elem tmO (.int (Int32.ofNat j))) (.int (s_O j))) := by decide +kernel
def stL : List Nat := [42, 50, 57, 68, 78, 91, 106, 121, 140, 156, 174]
def tmS (i : Nat) : Term := .string RX5 (txL.getD i (0, "")).1
abbrev tmV (i : Nat) : Term := .field (tmS i) "java/lang/String" "value" "[B"
theorem k_ex : ∀ i, i < 11 → FC[stL.getD i 0]? = some (Cond.exactly (tmS i) "java/lang/String") := by decide +kernel
theorem k_co : ∀ i, i < 11 → FC[stL.getD i 0 + 1]? = some (Cond.eq (.field (tmS i) "java/lang/String" "coder" "B") (.int 0)) := by decide +kernel
theorem k_ar : ∀ i, i < 11 → FC[stL.getD i 0 + 2]? = some (Cond.arrayOf (tmV i) .byte) := by decide +kernel
theorem k_le : ∀ i, i < 11 → FC[stL.getD i 0 + 3]? = some (Cond.eq (.length (tmV i)) (.int (Int32.ofNat (lenL.getD i 0)))) := by decide +kernel
theorem k_el : ∀ i, i < 11 → ∀ j, j < lenL.getD i 0 → FC[stL.getD i 0 + 4 + j]? = some (Cond.eq (.elem (tmV i) (.int (Int32.ofNat j))) (.int ((bytL.getD i []).getD j 0))) := by decide +kernel
theorem k_ne : ∀ i, i < 11 → ∀ a, a < i → FC[stL.getD i 0 + 4 + lenL.getD i 0 + a]? = some (Cond.not (Cond.eq (tmS a) (tmS i))) := by decide +kernel
theorem k_ln : ∀ i : Nat, i < 11 → lenL.getD i 0 < 2 ^ 31 := by decide +kernel
theorem k_sr : ∀ i, i < 11 → Cond.stringRef RX5 (txL.getD i (0, "")).1 (txL.getD i (0, "")).2 ∈ lw_tbl := by
  intro i hi
  match i, hi with
  | 0, _ => exact tb_3 (List.mem_of_getElem? (i := 46) rfl)
  | 1, _ => exact tb_3 (List.mem_of_getElem? (i := 104) rfl)
  | 2, _ => exact tb_3 (List.mem_of_getElem? (i := 118) rfl)
  | 3, _ => exact tb_3 (List.mem_of_getElem? (i := 119) rfl)
  | 4, _ => exact tb_3 (List.mem_of_getElem? (i := 120) rfl)
  | 5, _ => exact tb_3 (List.mem_of_getElem? (i := 121) rfl)
  | 6, _ => exact tb_3 (List.mem_of_getElem? (i := 122) rfl)
  | 7, _ => exact tb_3 (List.mem_of_getElem? (i := 123) rfl)
  | 8, _ => exact tb_3 (List.mem_of_getElem? (i := 126) rfl)
  | 9, _ => exact tb_3 (List.mem_of_getElem? (i := 131) rfl)
  | 10, _ => exact tb_3 (List.mem_of_getElem? (i := 132) rfl)
set_option maxHeartbeats 4000000 in
set_option maxRecDepth 100000 in
theorem ss_ok {args : Array Value} {s : State} (hts : ∀ w ∈ lw_tbl, w.before args s = true) (hgv : (Jvm.Cond.and given_1 narrow_1).before args s = true) : ∃ (sa ak av : Nat → Nat) (fm : Value), ∀ G : GG, g_b G = s.heap.size → g_sa G = sa → g_ak G = ak → g_av G = av → g_fm G = fm → SS G s s.heap := by
  have hs : ∀ w ∈ FC, w.before args s = true := flat_of_before _ hgv
  have hA : ∀ a : Nat, a < s.heap.size → ¬ (fun q : Nat => s.heap.size ≤ q) a := fun a h => Nat.not_le.mpr h
  obtain ⟨t0, e0, T0⟩ := va_Tof (tm := tmA) (ty := .int) (N := 6) (f := fun j => .int (s_A j)) (by decide) (hs _ (fc_in 5 rfl)) (va_eqt (hs _ (fc_in 6 rfl))) (fun j hj => va_eqt (hs _ (fc_in _ (k_A j hj)))) hA
  obtain ⟨t1, e1, T1⟩ := va_Tof (tm := tmO) (ty := .int) (N := 9) (f := fun j => .int (s_O j)) (by decide) (hs _ (fc_in 26 rfl)) (va_eqt (hs _ (fc_in 27 rfl))) (fun j hj => va_eqt (hs _ (fc_in _ (k_O j hj)))) hA
  obtain ⟨t2, e2, T2⟩ := va_Tof (tm := tmR) (ty := .int) (N := 9) (f := fun j => .int (s_R j)) (by decide) (hs _ (fc_in 14 rfl)) (va_eqt (hs _ (fc_in 15 rfl))) (fun j hj => va_eqt (hs _ (fc_in _ (k_R j hj)))) hA
  have Z0 := va_Zref (hts _ (tb_2 (List.mem_of_getElem? (i := 17) rfl))) (hts _ (tb_1 (List.mem_of_getElem? (i := 8) rfl))) e0 hA
  have Z1 := va_Zref (hts _ (tb_2 (List.mem_of_getElem? (i := 230) rfl))) (hts _ (tb_1 (List.mem_of_getElem? (i := 12) rfl))) e1 hA
  have Z2 := va_Zref (hts _ (tb_2 (List.mem_of_getElem? (i := 225) rfl))) (hts _ (tb_1 (List.mem_of_getElem? (i := 12) rfl))) e2 hA
  have Z3 := va_Zof (v := .int 1) (hts _ (tb_3 (List.mem_of_getElem? (i := 60) rfl))) (hts _ (tb_1 (List.mem_of_getElem? (i := 13) rfl))) (va_eqt (hs _ (fc_in 37 rfl))) hA
  have Z4 := va_Zqof (C := "jdk/internal/util/Preconditions") (n := "SIOOBE_FORMATTER") (d := "Ljava/util/function/BiFunction;") (hts _ (tb_3 (List.mem_of_getElem? (i := 76) rfl))) (hts _ (tb_1 (List.mem_of_getElem? (i := 15) rfl))) (hs _ (fc_in 38 rfl)) hA
  obtain ⟨ak, av, S, hev⟩ := vk_Sof (N := 11) (tm := tmS) (len := lenL) (byt := bytL) k_ln (fun i hi => hs _ (fc_in _ (k_ex i hi))) (fun i hi => hs _ (fc_in _ (k_co i hi))) (fun i hi => hs _ (fc_in _ (k_ar i hi))) (fun i hi => hs _ (fc_in _ (k_le i hi))) (fun i hi j hj => hs _ (fc_in _ (k_el i hi j hj))) (fun i j hi hj hij => by
    rcases Nat.lt_or_ge i j with h | h
    · exact Or.inl (hs _ (fc_in _ (k_ne j hj i h)))
    · exact Or.inr (hs _ (fc_in _ (k_ne i hi j (by omega))))) hA
  have R : ∀ i, i < 11 → vk_R RX5 (txL.getD i (0, "")).1 (txL.getD i (0, "")).2 (ak i) s := fun i hi => vk_R.of (hts _ (k_sr i hi)) (hev i hi)
  obtain ⟨fm, Z5, hfm⟩ : ∃ fm : Value, va_Z "jdk/internal/util/Preconditions" "SIOOBE_FORMATTER" "Ljava/util/function/BiFunction;" fm (fun q : Nat => s.heap.size ≤ q) s s.heap ∧ (fm = .null ∨ ∃ q, fm = .ref q) := by
    rcases Z4 with h | ⟨t, h⟩
    · exact ⟨_, h, Or.inl rfl⟩
    · exact ⟨_, h, Or.inr ⟨t, rfl⟩⟩
  refine ⟨fun k => ([t0, t1, t2] : List Nat).getD k 0, ak, av, fm, fun G h1 h2 h3 h4 h5 => ?_⟩
  have hg : g_A G = fun q : Nat => s.heap.size ≤ q := by unfold g_A; rw [h1]
  unfold SS
  rw [hg, h2, h3, h4, h5]
  exact ⟨⟨Z0, T0⟩, ⟨Z1, T1⟩, ⟨Z2, T2⟩, Z3, ⟨Z5, hfm⟩, S, R⟩
set_option maxHeartbeats 4000000 in
set_option maxRecDepth 100000 in
theorem kd_ok {args : Array Value} {s : State} (hts : ∀ w ∈ lw_tbl, w.before args s = true) : ∃ (D : va_G) (cy : Nat → ClassId), KD D cy s := by
  have hw : ∀ w ∈ WL, w.before args s = true := fun w h => hts w (List.mem_filter.mp h).1
  obtain ⟨c0, i0, n0⟩ := u_known (C := RX0) (T := TX0) (N := 1) (n := 1) hw uX0 (hw _ q_is_X0)
  obtain ⟨c1, i1, n1⟩ := u_known (C := RX2) (T := TX2) (N := 3) (n := 3) hw uX2 (hw _ q_is_X2)
  obtain ⟨c2, i2, n2⟩ := u_known (C := RX3) (T := TX3) (N := 2) (n := 2) hw uX3 (hw _ q_is_X3)
  obtain ⟨c3, i3, n3⟩ := u_known (C := RX4) (T := TX4) (N := 13) (n := 13) hw uX4 (hw _ q_is_X4)
  obtain ⟨c4, i4, n4⟩ := u_known (C := RX5) (T := TX5) (N := 5) (n := 5) hw uX5 (hw _ q_is_X5)
  obtain ⟨c5, i5, n5⟩ := u_known (C := RX7) (T := TX7) (N := 9) (n := 9) hw uX7 (hw _ q_is_X7)
  obtain ⟨c6, i6, n6⟩ := u_known (C := RX8) (T := TX8) (N := 23) (n := 23) hw uX8 (hw _ q_is_X8)
  obtain ⟨a0, k0, p0, f0, g0, j0⟩ := Cond.arrayClass_spec (hw _ q_ac_int)
  obtain ⟨a1, k1, p1, f1, g1, j1⟩ := Cond.arrayClass_spec (hw _ q_ac_long)
  have ho : (Cond.arrayOver (.object "FridaySlips$Sheet")).before args s = true := hts _ (tb_1 (List.mem_of_getElem? (i := 135) rfl))
  obtain ⟨p2, a2, k2, e2, _, g2, j2, f2⟩ := Cond.arrayOver_spec ho
  refine ⟨(fun k => if k = 0 then c0 else if k = 1 then c1 else if k = 2 then c2 else if k = 3 then c3 else if k = 4 then c4 else if k = 5 then c5 else c6, fun k => if k = 0 then i0 else if k = 1 then i1 else if k = 2 then i2 else if k = 3 then i3 else if k = 4 then i4 else if k = 5 then i5 else i6), fun k => if k = 0 then a0 else if k = 1 then a1 else a2, ⟨fun k q hq => ?_, fun k q hq => ?_⟩, fun w h => va_tabs (nl_tab h) rfl (hts w (List.mem_filter.mp h).1), ho⟩
  · match k, hq with
    | 0, hq => cases hq; exact n0
    | 1, hq => cases hq; exact n1
    | 2, hq => cases hq; exact n2
    | 3, hq => cases hq; exact n3
    | 4, hq => cases hq; exact n4
    | 5, hq => cases hq; exact n5
    | 6, hq => cases hq; exact n6
    | k + 7, hq => simp [cls7] at hq
  · match k, hq with
    | 0, hq => cases hq; exact ⟨fun n z => ⟨fun k h => (by cases h), k0, g0, p0, j0⟩, f0⟩
    | 1, hq => cases hq; exact ⟨fun n z => ⟨fun k h => (by cases h), k1, g1, p1, j1⟩, f1⟩
    | 2, hq => cases hq; exact ⟨fun n z => ⟨fun k h => (by cases h), k2, g2, p2, j2⟩, k2, p2, g2, j2, e2, f2⟩
    | k + 3, hq => simp at hq
/-! ===== THE FIRST MEMORY ===== -/
def M0 : Mem := (fun o => if o = 2 ∨ o = 13 ∨ o = 24 ∨ o = 50 then (fun k => if k = 1 then 1 else 0) else (fun _ => 0), fun _ _ => 0)
theorem m0_z {o : Nat} (h : ¬ (o = 2 ∨ o = 13 ∨ o = 24 ∨ o = 50)) (k : Nat) : m_I M0 o k = 0 := by
  show (if o = 2 ∨ o = 13 ∨ o = 24 ∨ o = 50 then (fun k => if k = 1 then (1 : Int32) else 0) else (fun _ => 0)) k = 0
  rw [if_neg h]
theorem m0_v {o : Nat} (h : o = 2 ∨ o = 13 ∨ o = 24 ∨ o = 50) (k : Nat) : m_I M0 o k = if k = 1 then 1 else 0 := by
  show (if o = 2 ∨ o = 13 ∨ o = 24 ∨ o = 50 then (fun k => if k = 1 then (1 : Int32) else 0) else (fun _ => 0)) k = _
  rw [if_pos h]
theorem RR0 : RR M0 := by
  refine ⟨⟨0, 1, 0, fun _ _ => 0, ⟨by decide, by decide, fun p hp => absurd hp (Nat.not_lt_zero p), fun p hp => absurd hp (Nat.not_lt_zero p), fun p q hp => absurd hp (Nat.not_lt_zero p)⟩, ⟨?_, ?_, ?_, fun w p hw hp => m0_z (by omega) p⟩, ⟨?_, ?_, ?_, fun w p hw hp => ?_⟩⟩, fun k hk => ?_, Or.inl ⟨m0_z (by omega) 8, m0_z (by omega) 22⟩, ⟨0, by decide, ?_, ?_, fun k hk => absurd hk (Nat.not_lt_zero k)⟩, fun s hs => ⟨?_, Or.inl (m0_z (by omega) s), ⟨0, by decide, ?_, ?_⟩, fun k hk => rfl⟩⟩
  · rw [m0_v (Or.inl rfl), if_neg (by decide)]
  · rw [m0_v (Or.inl rfl), if_pos rfl]
  · rw [m0_v (Or.inl rfl), if_neg (by decide), nI_0]
  · rw [m0_v (by omega), if_neg (by decide)]
  · rw [m0_v (by omega), if_pos rfl]
  · rw [m0_v (by omega), if_neg (by decide), nI_0]
  · rw [m0_v (by omega), if_neg (by omega)]
  · rw [m0_z (by omega), m0_z (by omega)]
  · rw [m0_z (by omega), nI_0]
  · rw [m0_z (by omega), nI_0]
  · rw [m0_z (by omega), m0_z (by omega)]
  · rw [m0_z (by omega), nI_0]
  · rw [m0_z (by omega), nI_0]
/-! ===== THE FIRST WORLD ===== -/
def adO (h0 m0 : Nat) (q q2 : Nat → Nat) (o : Nat) : Nat := if o = 0 then h0 else if o < 49 then q o else if o = 49 then m0 else q2 (o - 50)
def plO (o : Nat) : Nat := if o = 0 then 0 else if o = 1 then 40 else if o = 39 then 36 else if o = 37 ∨ o = 38 then o else if o ≤ 40 then o - 1 else o
abbrev wA (cy : Nat → ClassId) (h0 m0 : Nat) (q q2 : Nat → Nat) : va_W := (wX7 cy h0 q ++ wX8 cy m0 q2).set 39 (q 40, .inl (cy 2, 4, .inr (.inr (.inr (.inr (fun j => some (adO h0 m0 q q2 (41 + 2 * j))))))))
set_option maxHeartbeats 4000000 in
set_option maxRecDepth 100000 in
theorem w_key {G : GG} {cy : Nat → ClassId} {h0 m0 : Nat} {q q2 : Nat → Nat} (h1 : G.2.1 = cy) (h2 : G.2.2.1 = adO h0 m0 q q2) : ∀ o, o < 65 → (wA cy h0 m0 q q2)[plO o]? = some (g_ad G o, ct G M0 o) := by
  obtain ⟨D, cy', ad, b, sa, ak, av, fm⟩ := G
  have h1 : cy' = cy := h1
  have h2 : ad = adO h0 m0 q q2 := h2
  subst h1
  subst h2
  intro o ho
  match o, ho with
  | 0, _ => rw [ct_o kc_0 (by decide)]; rfl
  | 1, _ => rw [ct_i kc_1 (by decide)]; rfl
  | 2, _ => rw [ct_o kc_2 (by decide)]; rfl
  | 3, _ => rw [ct_i kc_3 (by decide)]; rfl
  | 4, _ => rw [ct_i kc_4 (by decide)]; rfl
  | 5, _ => rw [ct_i kc_5 (by decide)]; rfl
  | 6, _ => rw [ct_i kc_6 (by decide)]; rfl
  | 7, _ => rw [ct_i kc_7 (by decide)]; rfl
  | 8, _ => rw [ct_i kc_8 (by decide)]; rfl
  | 9, _ => rw [ct_i kc_9 (by decide)]; rfl
  | 10, _ => rw [ct_i kc_10 (by decide)]; rfl
  | 11, _ => rw [ct_i kc_11 (by decide)]; rfl
  | 12, _ => rw [ct_i kc_12 (by decide)]; rfl
  | 13, _ => rw [ct_o kc_13 (by decide)]; rfl
  | 14, _ => rw [ct_i kc_14 (by decide)]; rfl
  | 15, _ => rw [ct_i kc_15 (by decide)]; rfl
  | 16, _ => rw [ct_i kc_16 (by decide)]; rfl
  | 17, _ => rw [ct_i kc_17 (by decide)]; rfl
  | 18, _ => rw [ct_i kc_18 (by decide)]; rfl
  | 19, _ => rw [ct_i kc_19 (by decide)]; rfl
  | 20, _ => rw [ct_i kc_20 (by decide)]; rfl
  | 21, _ => rw [ct_i kc_21 (by decide)]; rfl
  | 22, _ => rw [ct_i kc_22 (by decide)]; rfl
  | 23, _ => rw [ct_i kc_23 (by decide)]; rfl
  | 24, _ => rw [ct_o kc_24 (by decide)]; rfl
  | 25, _ => rw [ct_i kc_25 (by decide)]; rfl
  | 26, _ => rw [ct_i kc_26 (by decide)]; rfl
  | 27, _ => rw [ct_i kc_27 (by decide)]; rfl
  | 28, _ => rw [ct_i kc_28 (by decide)]; rfl
  | 29, _ => rw [ct_i kc_29 (by decide)]; rfl
  | 30, _ => rw [ct_i kc_30 (by decide)]; rfl
  | 31, _ => rw [ct_i kc_31 (by decide)]; rfl
  | 32, _ => rw [ct_i kc_32 (by decide)]; rfl
  | 33, _ => rw [ct_i kc_33 (by decide)]; rfl
  | 34, _ => rw [ct_i kc_34 (by decide)]; rfl
  | 35, _ => rw [ct_o kc_35 (by decide)]; rfl
  | 36, _ => rw [ct_i kc_36 (by decide)]; rfl
  | 37, _ => rw [ct_o kc_37 (by decide)]; rfl
  | 38, _ => rw [ct_i kc_38 (by decide)]; rfl
  | 39, _ => rw [ct_o kc_39 (by decide)]; rfl
  | 40, _ => rw [ct_q kc_40]; rfl
  | 41, _ => rw [ct_o kc_41 (by decide)]; rfl
  | 42, _ => rw [ct_j kc_42 (by decide)]; rfl
  | 43, _ => rw [ct_o kc_43 (by decide)]; rfl
  | 44, _ => rw [ct_j kc_44 (by decide)]; rfl
  | 45, _ => rw [ct_o kc_45 (by decide)]; rfl
  | 46, _ => rw [ct_j kc_46 (by decide)]; rfl
  | 47, _ => rw [ct_o kc_47 (by decide)]; rfl
  | 48, _ => rw [ct_j kc_48 (by decide)]; rfl
  | 49, _ => rw [ct_o kc_49 (by decide)]; rfl
  | 50, _ => rw [ct_i kc_50 (by decide)]; rfl
  | 51, _ => rw [ct_i kc_51 (by decide)]; rfl
  | 52, _ => rw [ct_i kc_52 (by decide)]; rfl
  | 53, _ => rw [ct_i kc_53 (by decide)]; rfl
  | 54, _ => rw [ct_i kc_54 (by decide)]; rfl
  | 55, _ => rw [ct_i kc_55 (by decide)]; rfl
  | 56, _ => rw [ct_i kc_56 (by decide)]; rfl
  | 57, _ => rw [ct_i kc_57 (by decide)]; rfl
  | 58, _ => rw [ct_i kc_58 (by decide)]; rfl
  | 59, _ => rw [ct_i kc_59 (by decide)]; rfl
  | 60, _ => rw [ct_i kc_60 (by decide)]; rfl
  | 61, _ => rw [ct_j kc_61 (by decide)]; rfl
  | 62, _ => rw [ct_j kc_62 (by decide)]; rfl
  | 63, _ => rw [ct_i kc_63 (by decide)]; rfl
  | 64, _ => rw [ct_i kc_64 (by decide)]; rfl
  | o + 65, h => exact absurd h (by omega)
theorem pl_all : ∀ i, i < 65 → ∀ j, j < 65 → plO i = plO j → i = j := by decide +kernel
theorem pl_inj {i j : Nat} (hi : i < 65) (hj : j < 65) (h : plO i = plO j) : i = j := pl_all i hi j hj h
theorem w_first {G : GG} {cy : Nat → ClassId} {h0 m0 : Nat} {q q2 : Nat → Nat} {H : Heap} (h1 : G.2.1 = cy) (h2 : G.2.2.1 = adO h0 m0 q q2) (hP : va_P (g_D G) cls7 (wA cy h0 m0 q q2) H) (hD : va_D (g_A G) (wA cy h0 m0 q q2)) : WH G M0 H ∧ DD G := by
  have key := w_key h1 h2
  refine ⟨fun k x hk => ?_, fun i j hi hj e => pl_inj hi hj (hD.1 _ _ _ _ (key i hi) (key j hj) e), fun i hi => hD.2 _ _ (key i hi)⟩
  have hl : k < 65 := by
    have := (List.getElem?_eq_some_iff.mp hk).1
    rw [wl_len] at this
    exact this
  rw [wl_get hl] at hk
  cases hk
  exact hP _ _ (key k hl)
