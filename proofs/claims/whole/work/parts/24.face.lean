def F_X7_isKind (a0 : Int32) (M : Mem) : Option Int32 := (if a0 < 0 then some (0 : Int32) else (if (6 : Int32) ≤ a0 then some (0 : Int32) else some (1 : Int32)))
set_option maxHeartbeats 4000000 in
set_option maxRecDepth 100000 in
theorem c_X7_isKind {l : Launch} {G : GG} {a0 : Int32}  {M : Mem} {r : Int32} (hF : F_X7_isKind a0 M = some r) : Met l yX7_isKind (wz yX7_isKind cX7_isKind 1 (some .boolean)) (RM 0 0) (PreC G [.int a0] M) (QcI G r M) 0 0 (g_A G) := by
  rw [F_X7_isKind] at hF
  refine x_start (by decide) (Nat.le_of_ble_eq_true rfl) (lv := [(0, .int a0)]) rfl ?_
  intro p e s m below meth c cx hr hW hS ls hl
  obtain ⟨hx, hb, hml, hown, hts, hKK, hSS, hlk⟩ := id cx
  refine lv_iload_n hx hb dX7_isKind_0 rfl (lv_at hl 0 rfl) ?_
  refine lv_if_lt (tgt := 14) hx hb dX7_isKind_1 (by decide) (fun c1 => ?_) (fun c1 => ?_)
  · have hF := it_p c1 hF
    refine lv_iconst (v := (0 : Int32)) hx hb dX7_isKind_14 (by decide) ?_
    exact x_zret cx hr (by decide) hW hS (Option.some.inj hF) rfl dX7_isKind_15
  · have hF := it_n c1 hF
    refine lv_iload_n hx hb dX7_isKind_4 rfl (lv_at hl 0 rfl) ?_
    refine lv_bipush (v := (6 : Int32)) hx hb dX7_isKind_5 (by decide) ?_
    refine lv_icmp_ge (tgt := 14) hx hb dX7_isKind_7 (by decide) (fun c2 => ?_) (fun c2 => ?_)
    · have hF := it_p c2 hF
      refine lv_iconst (v := (0 : Int32)) hx hb dX7_isKind_14 (by decide) ?_
      exact x_zret cx hr (by decide) hW hS (Option.some.inj hF) rfl dX7_isKind_15
    · have hF := it_n c2 hF
      refine lv_iconst (v := (1 : Int32)) hx hb dX7_isKind_10 (by decide) ?_
      refine lv_goto (tgt := 15) hx hb dX7_isKind_11 (by decide) ?_
      exact x_zret cx hr (by decide) hW hS (Option.some.inj hF) rfl dX7_isKind_15
def F_X7_finding (a1 : Int32) (M : Mem) : Option (Int32 × Mem) := ix 7 a1 (fun j1 => ix 7 a1 (fun j2 => pin (w_I M 1 j2 ((m_I M 1 j1) + (1 : Int32))) (fun M3 => some (((-1000000001 : Int32) - a1), M3))))
set_option maxHeartbeats 4000000 in
set_option maxRecDepth 100000 in
theorem c_X7_finding {l : Launch} {G : GG} {a1 : Int32}  {M : Mem} {r : Int32} {M1 : Mem} (hF : F_X7_finding a1 M = some (r, M1)) : Met l yX7_finding (wz yX7_finding cX7_finding 2 (some .int)) (RM 0 0) (PreC G [.ref (g_ad G 0), .int a1] M) (QcI G r M1) 0 0 (g_A G) := by
  rw [F_X7_finding] at hF
  refine x_start (by decide) (Nat.le_of_ble_eq_true rfl) (lv := [(0, .ref (g_ad G 0)), (1, .int a1)]) rfl ?_
  intro p e s m below meth c cx hr hW hS ls hl
  obtain ⟨hx, hb, hml, hown, hts, hKK, hSS, hlk⟩ := id cx
  refine lv_aload_n hx hb dX7_finding_0 rfl (lv_at hl 0 rfl) ?_
  refine x_get cx hW kc_0 fk_X7_47 (v := .ref (g_ad G 1)) rfl dX7_finding_1 ?_
  refine lv_iload_n hx hb dX7_finding_4 rfl (lv_at hl 1 rfl) ?_
  refine lv_dup2_11 hx hb dX7_finding_5 rfl rfl ?_
  obtain ⟨j1, hj1, gj1, hF⟩ := ix_e hF
  refine x_iald cx hW kc_1 (by decide) hj1 gj1 dX7_finding_6 ?_
  refine lv_iconst (v := (1 : Int32)) hx hb dX7_finding_7 (by decide) ?_
  refine lv_iadd hx hb dX7_finding_8 ?_
  obtain ⟨j2, hj2, gj2, hF⟩ := ix_e hF
  obtain ⟨M3, eM3, hF⟩ := pin_e hF
  refine x_iast cx hW hS kc_1 (by decide) hj2 gj2 eM3 dX7_finding_9 (fun H locs hW hS => ?_)
  refine x_ldc cx q_k_X7_255 dX7_finding_10 ?_
  refine lv_iload_n hx hb dX7_finding_12 rfl (lv_at hl 1 rfl) ?_
  refine lv_isub hx hb dX7_finding_13 ?_
  exact x_iret cx hr hW hS (sp_1 hF) (sp_2 hF) dX7_finding_14
def F_X7_person (a1 : Int32) (M : Mem) : Option (Int32 × Mem) := (F_X7_isKind a1 M).bind (fun r2 => (if r2 = 0 then bn (F_X7_finding (0 : Int32) M) (fun r14 M15 => some (r14, M15)) else (F_X4_isFull 2 M).bind (fun r5 => (if r5 = 0 then bn (F_X4_add 2 a1 M) (fun r8 M9 => some (r8, M9)) else bn (F_X7_finding (1 : Int32) M) (fun r11 M12 => some (r11, M12))))))
set_option maxHeartbeats 4000000 in
set_option maxRecDepth 100000 in
theorem c_X7_person {l : Launch} {G : GG} {a1 : Int32}  {M : Mem} {r : Int32} {M1 : Mem} (hF : F_X7_person a1 M = some (r, M1)) : Met l yX7_person (wz yX7_person cX7_person 2 (some .int)) (RM 1 22) (PreC G [.ref (g_ad G 0), .int a1] M) (QcI G r M1) 0 0 (g_A G) := by
  rw [F_X7_person] at hF
  refine x_start (by decide) (Nat.le_of_ble_eq_true rfl) (lv := [(0, .ref (g_ad G 0)), (1, .int a1)]) rfl ?_
  intro p e s m below meth c cx hr hW hS ls hl
  obtain ⟨hx, hb, hml, hown, hts, hKK, hSS, hlk⟩ := id cx
  refine lv_iload_n hx hb dX7_person_0 rfl (lv_at hl 1 rfl) ?_
  obtain ⟨r2, hc1, hF⟩ := bi_e hF
  refine x_goi (x_runS cx hW hS (c_X7_isKind (l := l) (G := G) hc1) cs_X7_52 (rest := []) ⟨Nat.le_of_ble_eq_true rfl, Nat.le_of_ble_eq_true rfl⟩ hl.1 rfl rfl (Nat.le_of_ble_eq_true rfl) ⟨Nat.zero_le _, Nat.zero_le _⟩ dX7_person_1) hS (fun H locs hW hS => ?_)
  refine lv_if_ne (tgt := 13) hx hb dX7_person_4 (by decide) (fun c3 => ?_) (fun c3 => ?_)
  · have hF := it_n c3 hF
    refine lv_aload_n hx hb dX7_person_13 rfl (lv_at hl 0 rfl) ?_
    refine x_get cx hW kc_0 fk_X7_10 (v := .ref (g_ad G 2)) rfl dX7_person_14 ?_
    obtain ⟨r5, hc4, hF⟩ := bi_e hF
    refine x_goi (x_runV cx hW hS (c_X4_isFull (l := l) (G := G) kc_2 hc4) cv_X7_60 kc_2 rfl (rest := []) ⟨Nat.le_of_ble_eq_true rfl, Nat.le_of_ble_eq_true rfl⟩ hl.1 rfl rfl (Nat.le_of_ble_eq_true rfl) ⟨Nat.zero_le _, Nat.zero_le _⟩ dX7_person_17) hS (fun H locs hW hS => ?_)
    refine lv_if_eq (tgt := 29) hx hb dX7_person_20 (by decide) (fun c6 => ?_) (fun c6 => ?_)
    · have hF := it_p c6 hF
      refine lv_aload_n hx hb dX7_person_29 rfl (lv_at hl 0 rfl) ?_
      refine x_get cx hW kc_0 fk_X7_10 (v := .ref (g_ad G 2)) rfl dX7_person_30 ?_
      refine lv_iload_n hx hb dX7_person_33 rfl (lv_at hl 1 rfl) ?_
      obtain ⟨r8, M9, hc7, hF⟩ := bn_e hF
      refine x_goi (x_runV cx hW hS (c_X4_add (l := l) (G := G) kc_2 hc7) cv_X7_64 kc_2 rfl (rest := []) ⟨Nat.le_of_ble_eq_true rfl, Nat.le_of_ble_eq_true rfl⟩ hl.1 rfl rfl (Nat.le_of_ble_eq_true rfl) ⟨Nat.zero_le _, Nat.zero_le _⟩ dX7_person_34) hS (fun H locs hW hS => ?_)
      exact x_iret cx hr hW hS (sp_1 hF) (sp_2 hF) dX7_person_37
    · have hF := it_n c6 hF
      refine lv_aload_n hx hb dX7_person_23 rfl (lv_at hl 0 rfl) ?_
      refine lv_iconst (v := (1 : Int32)) hx hb dX7_person_24 (by decide) ?_
      obtain ⟨r11, M12, hc10, hF⟩ := bn_e hF
      refine x_goi (x_runV cx hW hS (c_X7_finding (l := l) (G := G) hc10) cv_X7_56 kc_0 rfl (rest := []) ⟨Nat.le_of_ble_eq_true rfl, Nat.le_of_ble_eq_true rfl⟩ hl.1 rfl rfl (Nat.le_of_ble_eq_true rfl) ⟨Nat.zero_le _, Nat.zero_le _⟩ dX7_person_25) hS (fun H locs hW hS => ?_)
      exact x_iret cx hr hW hS (sp_1 hF) (sp_2 hF) dX7_person_28
  · have hF := it_p c3 hF
    refine lv_aload_n hx hb dX7_person_7 rfl (lv_at hl 0 rfl) ?_
    refine lv_iconst (v := (0 : Int32)) hx hb dX7_person_8 (by decide) ?_
    obtain ⟨r14, M15, hc13, hF⟩ := bn_e hF
    refine x_goi (x_runV cx hW hS (c_X7_finding (l := l) (G := G) hc13) cv_X7_56 kc_0 rfl (rest := []) ⟨Nat.le_of_ble_eq_true rfl, Nat.le_of_ble_eq_true rfl⟩ hl.1 rfl rfl (Nat.le_of_ble_eq_true rfl) ⟨Nat.zero_le _, Nat.zero_le _⟩ dX7_person_9) hS (fun H locs hW hS => ?_)
    exact x_iret cx hr hW hS (sp_1 hF) (sp_2 hF) dX7_person_12
def F_X7_of (a1 : Int32) (a2 : Int32) (M : Mem) : Option (Int32 × Mem) := (F_X4_has 2 a1 M).bind (fun r2 => (if r2 = 0 then bn (F_X7_finding (0 : Int32) M) (fun r24 M25 => some (r24, M25)) else (if a2 = (0 : Int32) then ix 8 a1 (fun j5 => some ((m_I M 3 j5), M)) else (if a2 = (1 : Int32) then ix 8 a1 (fun j7 => some ((m_I M 4 j7), M)) else (if a2 = (2 : Int32) then ix 8 a1 (fun j9 => some ((m_I M 5 j9), M)) else (if a2 = (3 : Int32) then ix 8 a1 (fun j11 => some ((m_I M 6 j11), M)) else (if a2 = (4 : Int32) then ix 8 a1 (fun j13 => some ((m_I M 7 j13), M)) else (if a2 = (5 : Int32) then ix 8 a1 (fun j15 => some ((m_I M 8 j15), M)) else (if a2 = (6 : Int32) then ix 8 a1 (fun j17 => (F_X4_earning 2 a1 (m_I M 8 j17) M).bind (fun r19 => some (r19, M))) else bn (F_X7_finding (0 : Int32) M) (fun r21 M22 => some (r21, M22)))))))))))
set_option maxHeartbeats 4000000 in
set_option maxRecDepth 100000 in
theorem c_X7_of {l : Launch} {G : GG} {a1 : Int32} {a2 : Int32}  {M : Mem} {r : Int32} {M1 : Mem} (hF : F_X7_of a1 a2 M = some (r, M1)) : Met l yX7_of (wz yX7_of cX7_of 3 (some .int)) (RM 4 93) (PreC G [.ref (g_ad G 0), .int a1, .int a2] M) (QcI G r M1) 0 0 (g_A G) := by
  rw [F_X7_of] at hF
  refine x_start (by decide) (Nat.le_of_ble_eq_true rfl) (lv := [(0, .ref (g_ad G 0)), (1, .int a1), (2, .int a2)]) rfl ?_
  intro p e s m below meth c cx hr hW hS ls hl
  obtain ⟨hx, hb, hml, hown, hts, hKK, hSS, hlk⟩ := id cx
  refine lv_aload_n hx hb dX7_of_0 rfl (lv_at hl 0 rfl) ?_
  refine x_get cx hW kc_0 fk_X7_10 (v := .ref (g_ad G 2)) rfl dX7_of_1 ?_
  refine lv_iload_n hx hb dX7_of_4 rfl (lv_at hl 1 rfl) ?_
  obtain ⟨r2, hc1, hF⟩ := bi_e hF
  refine x_goi (x_runV cx hW hS (c_X4_has (l := l) (G := G) kc_2 hc1) cv_X7_67 kc_2 rfl (rest := []) ⟨Nat.le_of_ble_eq_true rfl, Nat.le_of_ble_eq_true rfl⟩ hl.1 rfl rfl (Nat.le_of_ble_eq_true rfl) ⟨Nat.zero_le _, Nat.zero_le _⟩ dX7_of_5) hS (fun H locs hW hS => ?_)
  refine lv_if_ne (tgt := 17) hx hb dX7_of_8 (by decide) (fun c3 => ?_) (fun c3 => ?_)
  · have hF := it_n c3 hF
    refine lv_iload_n hx hb dX7_of_17 rfl (lv_at hl 2 rfl) ?_
    refine x_sw (0 : Int32) (fun c4 => ?_) (fun c4 => ?_)
    · have hF := it_p c4 hF
      refine x_tab (tgt := 60) cx dX7_of_18 c4 (by decide) (by decide) rfl (by decide) ?_
      refine lv_aload_n hx hb dX7_of_60 rfl (lv_at hl 0 rfl) ?_
      refine x_get cx hW kc_0 fk_X7_10 (v := .ref (g_ad G 2)) rfl dX7_of_61 ?_
      refine x_get cx hW kc_2 fk_X7_70 (v := .ref (g_ad G 3)) rfl dX7_of_64 ?_
      refine lv_iload_n hx hb dX7_of_67 rfl (lv_at hl 1 rfl) ?_
      obtain ⟨j5, hj5, gj5, hF⟩ := ix_e hF
      refine x_iald cx hW kc_3 (by decide) hj5 gj5 dX7_of_68 ?_
      exact x_iret cx hr hW hS (sp_1 hF) (sp_2 hF) dX7_of_69
    · have hF := it_n c4 hF
      refine x_sw (1 : Int32) (fun c6 => ?_) (fun c6 => ?_)
      · have hF := it_p c6 hF
        refine x_tab (tgt := 70) cx dX7_of_18 c6 (by decide) (by decide) rfl (by decide) ?_
        refine lv_aload_n hx hb dX7_of_70 rfl (lv_at hl 0 rfl) ?_
        refine x_get cx hW kc_0 fk_X7_10 (v := .ref (g_ad G 2)) rfl dX7_of_71 ?_
        refine x_get cx hW kc_2 fk_X7_73 (v := .ref (g_ad G 4)) rfl dX7_of_74 ?_
        refine lv_iload_n hx hb dX7_of_77 rfl (lv_at hl 1 rfl) ?_
        obtain ⟨j7, hj7, gj7, hF⟩ := ix_e hF
        refine x_iald cx hW kc_4 (by decide) hj7 gj7 dX7_of_78 ?_
        exact x_iret cx hr hW hS (sp_1 hF) (sp_2 hF) dX7_of_79
      · have hF := it_n c6 hF
        refine x_sw (2 : Int32) (fun c8 => ?_) (fun c8 => ?_)
        · have hF := it_p c8 hF
          refine x_tab (tgt := 80) cx dX7_of_18 c8 (by decide) (by decide) rfl (by decide) ?_
          refine lv_aload_n hx hb dX7_of_80 rfl (lv_at hl 0 rfl) ?_
          refine x_get cx hW kc_0 fk_X7_10 (v := .ref (g_ad G 2)) rfl dX7_of_81 ?_
          refine x_get cx hW kc_2 fk_X7_76 (v := .ref (g_ad G 5)) rfl dX7_of_84 ?_
          refine lv_iload_n hx hb dX7_of_87 rfl (lv_at hl 1 rfl) ?_
          obtain ⟨j9, hj9, gj9, hF⟩ := ix_e hF
          refine x_iald cx hW kc_5 (by decide) hj9 gj9 dX7_of_88 ?_
          exact x_iret cx hr hW hS (sp_1 hF) (sp_2 hF) dX7_of_89
        · have hF := it_n c8 hF
          refine x_sw (3 : Int32) (fun c10 => ?_) (fun c10 => ?_)
          · have hF := it_p c10 hF
            refine x_tab (tgt := 90) cx dX7_of_18 c10 (by decide) (by decide) rfl (by decide) ?_
            refine lv_aload_n hx hb dX7_of_90 rfl (lv_at hl 0 rfl) ?_
            refine x_get cx hW kc_0 fk_X7_10 (v := .ref (g_ad G 2)) rfl dX7_of_91 ?_
            refine x_get cx hW kc_2 fk_X7_79 (v := .ref (g_ad G 6)) rfl dX7_of_94 ?_
            refine lv_iload_n hx hb dX7_of_97 rfl (lv_at hl 1 rfl) ?_
            obtain ⟨j11, hj11, gj11, hF⟩ := ix_e hF
            refine x_iald cx hW kc_6 (by decide) hj11 gj11 dX7_of_98 ?_
            exact x_iret cx hr hW hS (sp_1 hF) (sp_2 hF) dX7_of_99
          · have hF := it_n c10 hF
            refine x_sw (4 : Int32) (fun c12 => ?_) (fun c12 => ?_)
            · have hF := it_p c12 hF
              refine x_tab (tgt := 100) cx dX7_of_18 c12 (by decide) (by decide) rfl (by decide) ?_
              refine lv_aload_n hx hb dX7_of_100 rfl (lv_at hl 0 rfl) ?_
              refine x_get cx hW kc_0 fk_X7_10 (v := .ref (g_ad G 2)) rfl dX7_of_101 ?_
              refine x_get cx hW kc_2 fk_X7_82 (v := .ref (g_ad G 7)) rfl dX7_of_104 ?_
              refine lv_iload_n hx hb dX7_of_107 rfl (lv_at hl 1 rfl) ?_
              obtain ⟨j13, hj13, gj13, hF⟩ := ix_e hF
              refine x_iald cx hW kc_7 (by decide) hj13 gj13 dX7_of_108 ?_
              exact x_iret cx hr hW hS (sp_1 hF) (sp_2 hF) dX7_of_109
            · have hF := it_n c12 hF
              refine x_sw (5 : Int32) (fun c14 => ?_) (fun c14 => ?_)
              · have hF := it_p c14 hF
                refine x_tab (tgt := 110) cx dX7_of_18 c14 (by decide) (by decide) rfl (by decide) ?_
                refine lv_aload_n hx hb dX7_of_110 rfl (lv_at hl 0 rfl) ?_
                refine x_get cx hW kc_0 fk_X7_10 (v := .ref (g_ad G 2)) rfl dX7_of_111 ?_
                refine x_get cx hW kc_2 fk_X7_85 (v := .ref (g_ad G 8)) rfl dX7_of_114 ?_
                refine lv_iload_n hx hb dX7_of_117 rfl (lv_at hl 1 rfl) ?_
                obtain ⟨j15, hj15, gj15, hF⟩ := ix_e hF
                refine x_iald cx hW kc_8 (by decide) hj15 gj15 dX7_of_118 ?_
                exact x_iret cx hr hW hS (sp_1 hF) (sp_2 hF) dX7_of_119
              · have hF := it_n c14 hF
                refine x_sw (6 : Int32) (fun c16 => ?_) (fun c16 => ?_)
                · have hF := it_p c16 hF
                  refine x_tab (tgt := 120) cx dX7_of_18 c16 (by decide) (by decide) rfl (by decide) ?_
                  refine lv_aload_n hx hb dX7_of_120 rfl (lv_at hl 0 rfl) ?_
                  refine x_get cx hW kc_0 fk_X7_10 (v := .ref (g_ad G 2)) rfl dX7_of_121 ?_
                  refine lv_iload_n hx hb dX7_of_124 rfl (lv_at hl 1 rfl) ?_
                  refine lv_aload_n hx hb dX7_of_125 rfl (lv_at hl 0 rfl) ?_
                  refine x_get cx hW kc_0 fk_X7_10 (v := .ref (g_ad G 2)) rfl dX7_of_126 ?_
                  refine x_get cx hW kc_2 fk_X7_85 (v := .ref (g_ad G 8)) rfl dX7_of_129 ?_
                  refine lv_iload_n hx hb dX7_of_132 rfl (lv_at hl 1 rfl) ?_
                  obtain ⟨j17, hj17, gj17, hF⟩ := ix_e hF
                  refine x_iald cx hW kc_8 (by decide) hj17 gj17 dX7_of_133 ?_
                  obtain ⟨r19, hc18, hF⟩ := bi_e hF
                  refine x_goi (x_runV cx hW hS (c_X4_earning (l := l) (G := G) kc_2 hc18) cv_X7_88 kc_2 rfl (rest := []) ⟨Nat.le_of_ble_eq_true rfl, Nat.le_of_ble_eq_true rfl⟩ hl.1 rfl rfl (Nat.le_of_ble_eq_true rfl) ⟨Nat.zero_le _, Nat.zero_le _⟩ dX7_of_134) hS (fun H locs hW hS => ?_)
                  exact x_iret cx hr hW hS (sp_1 hF) (sp_2 hF) dX7_of_137
                · have hF := it_n c16 hF
                  refine lv_tableOut (tgt := 138) hx hb dX7_of_18 (by have z0 := lv_neT c4 (a := 0) (by decide); have z1 := lv_neT c6 (a := 1) (by decide); have z2 := lv_neT c8 (a := 2) (by decide); have z3 := lv_neT c10 (a := 3) (by decide); have z4 := lv_neT c12 (a := 4) (by decide); have z5 := lv_neT c14 (a := 5) (by decide); have z6 := lv_neT c16 (a := 6) (by decide); omega) (by decide) ?_
                  refine lv_aload_n hx hb dX7_of_138 rfl (lv_at hl 0 rfl) ?_
                  refine lv_iconst (v := (0 : Int32)) hx hb dX7_of_139 (by decide) ?_
                  obtain ⟨r21, M22, hc20, hF⟩ := bn_e hF
                  refine x_goi (x_runV cx hW hS (c_X7_finding (l := l) (G := G) hc20) cv_X7_56 kc_0 rfl (rest := []) ⟨Nat.le_of_ble_eq_true rfl, Nat.le_of_ble_eq_true rfl⟩ hl.1 rfl rfl (Nat.le_of_ble_eq_true rfl) ⟨Nat.zero_le _, Nat.zero_le _⟩ dX7_of_140) hS (fun H locs hW hS => ?_)
                  exact x_iret cx hr hW hS (sp_1 hF) (sp_2 hF) dX7_of_143
  · have hF := it_p c3 hF
    refine lv_aload_n hx hb dX7_of_11 rfl (lv_at hl 0 rfl) ?_
    refine lv_iconst (v := (0 : Int32)) hx hb dX7_of_12 (by decide) ?_
    obtain ⟨r24, M25, hc23, hF⟩ := bn_e hF
    refine x_goi (x_runV cx hW hS (c_X7_finding (l := l) (G := G) hc23) cv_X7_56 kc_0 rfl (rest := []) ⟨Nat.le_of_ble_eq_true rfl, Nat.le_of_ble_eq_true rfl⟩ hl.1 rfl rfl (Nat.le_of_ble_eq_true rfl) ⟨Nat.zero_le _, Nat.zero_le _⟩ dX7_of_13) hS (fun H locs hW hS => ?_)
    exact x_iret cx hr hW hS (sp_1 hF) (sp_2 hF) dX7_of_16
def F_X7_says (a1 : Int32) (M : Mem) : Option (Int32 × Mem) := (F_X4_has 2 a1 M).bind (fun r2 => (if r2 = 0 then bn (F_X7_finding (0 : Int32) M) (fun r8 M9 => some (r8, M9)) else ix 8 a1 (fun j4 => (F_X4_saying 2 a1 (m_I M 8 j4) M).bind (fun r6 => some (((100 : Int32) + r6), M)))))
set_option maxHeartbeats 4000000 in
set_option maxRecDepth 100000 in
theorem c_X7_says {l : Launch} {G : GG} {a1 : Int32}  {M : Mem} {r : Int32} {M1 : Mem} (hF : F_X7_says a1 M = some (r, M1)) : Met l yX7_says (wz yX7_says cX7_says 2 (some .int)) (RM 2 45) (PreC G [.ref (g_ad G 0), .int a1] M) (QcI G r M1) 0 0 (g_A G) := by
  rw [F_X7_says] at hF
  refine x_start (by decide) (Nat.le_of_ble_eq_true rfl) (lv := [(0, .ref (g_ad G 0)), (1, .int a1)]) rfl ?_
  intro p e s m below meth c cx hr hW hS ls hl
  obtain ⟨hx, hb, hml, hown, hts, hKK, hSS, hlk⟩ := id cx
  refine lv_aload_n hx hb dX7_says_0 rfl (lv_at hl 0 rfl) ?_
  refine x_get cx hW kc_0 fk_X7_10 (v := .ref (g_ad G 2)) rfl dX7_says_1 ?_
  refine lv_iload_n hx hb dX7_says_4 rfl (lv_at hl 1 rfl) ?_
  obtain ⟨r2, hc1, hF⟩ := bi_e hF
  refine x_goi (x_runV cx hW hS (c_X4_has (l := l) (G := G) kc_2 hc1) cv_X7_67 kc_2 rfl (rest := []) ⟨Nat.le_of_ble_eq_true rfl, Nat.le_of_ble_eq_true rfl⟩ hl.1 rfl rfl (Nat.le_of_ble_eq_true rfl) ⟨Nat.zero_le _, Nat.zero_le _⟩ dX7_says_5) hS (fun H locs hW hS => ?_)
  refine lv_if_ne (tgt := 17) hx hb dX7_says_8 (by decide) (fun c3 => ?_) (fun c3 => ?_)
  · have hF := it_n c3 hF
    refine lv_bipush (v := (100 : Int32)) hx hb dX7_says_17 (by decide) ?_
    refine lv_aload_n hx hb dX7_says_19 rfl (lv_at hl 0 rfl) ?_
    refine x_get cx hW kc_0 fk_X7_10 (v := .ref (g_ad G 2)) rfl dX7_says_20 ?_
    refine lv_iload_n hx hb dX7_says_23 rfl (lv_at hl 1 rfl) ?_
    refine lv_aload_n hx hb dX7_says_24 rfl (lv_at hl 0 rfl) ?_
    refine x_get cx hW kc_0 fk_X7_10 (v := .ref (g_ad G 2)) rfl dX7_says_25 ?_
    refine x_get cx hW kc_2 fk_X7_85 (v := .ref (g_ad G 8)) rfl dX7_says_28 ?_
    refine lv_iload_n hx hb dX7_says_31 rfl (lv_at hl 1 rfl) ?_
    obtain ⟨j4, hj4, gj4, hF⟩ := ix_e hF
    refine x_iald cx hW kc_8 (by decide) hj4 gj4 dX7_says_32 ?_
    obtain ⟨r6, hc5, hF⟩ := bi_e hF
    refine x_goi (x_runV cx hW hS (c_X4_saying (l := l) (G := G) kc_2 hc5) cv_X7_92 kc_2 rfl (rest := [.int (100 : Int32)]) ⟨Nat.le_of_ble_eq_true rfl, Nat.le_of_ble_eq_true rfl⟩ hl.1 rfl rfl (Nat.le_of_ble_eq_true rfl) ⟨Nat.zero_le _, Nat.zero_le _⟩ dX7_says_33) hS (fun H locs hW hS => ?_)
    refine lv_iadd hx hb dX7_says_36 ?_
    exact x_iret cx hr hW hS (sp_1 hF) (sp_2 hF) dX7_says_37
  · have hF := it_p c3 hF
    refine lv_aload_n hx hb dX7_says_11 rfl (lv_at hl 0 rfl) ?_
    refine lv_iconst (v := (0 : Int32)) hx hb dX7_says_12 (by decide) ?_
    obtain ⟨r8, M9, hc7, hF⟩ := bn_e hF
    refine x_goi (x_runV cx hW hS (c_X7_finding (l := l) (G := G) hc7) cv_X7_56 kc_0 rfl (rest := []) ⟨Nat.le_of_ble_eq_true rfl, Nat.le_of_ble_eq_true rfl⟩ hl.1 rfl rfl (Nat.le_of_ble_eq_true rfl) ⟨Nat.zero_le _, Nat.zero_le _⟩ dX7_says_13) hS (fun H locs hW hS => ?_)
    exact x_iret cx hr hW hS (sp_1 hF) (sp_2 hF) dX7_says_16
def F_X7_replace (a1 : Nat) (a2 : Int32) (a3 : Int32) (a4 : Int32) (M : Mem) : Option (Int32 × Mem) := (if a3 < 0 then bn (F_X7_finding (0 : Int32) M) (fun r3 M4 => some (r3, M4)) else (if a3 ≤ a4 then ix 8 a2 (fun j6 => ix 8 a2 (fun j7 => pin (w_I M a1 j7 a3) (fun M8 => some ((m_I M a1 j6), M8)))) else bn (F_X7_finding (0 : Int32) M) (fun r10 M11 => some (r10, M11))))
set_option maxHeartbeats 4000000 in
set_option maxRecDepth 100000 in
theorem c_X7_replace {l : Launch} {G : GG} {a1 : Nat} {a2 : Int32} {a3 : Int32} {a4 : Int32} (h1 : kd a1 = 100 + 8) {M : Mem} {r : Int32} {M1 : Mem} (hF : F_X7_replace a1 a2 a3 a4 M = some (r, M1)) : Met l yX7_replace (wz yX7_replace cX7_replace 6 (some .int)) (RM 1 21) (PreC G [.ref (g_ad G 0), .ref (g_ad G a1), .int a2, .int a3, .int a4] M) (QcI G r M1) 0 0 (g_A G) := by
  rw [F_X7_replace] at hF
  refine x_start (by decide) (Nat.le_of_ble_eq_true rfl) (lv := [(0, .ref (g_ad G 0)), (1, .ref (g_ad G a1)), (2, .int a2), (3, .int a3), (4, .int a4)]) rfl ?_
  intro p e s m below meth c cx hr hW hS ls hl
  obtain ⟨hx, hb, hml, hown, hts, hKK, hSS, hlk⟩ := id cx
  refine lv_iload_n hx hb dX7_replace_0 rfl (lv_at hl 3 rfl) ?_
  refine lv_if_lt (tgt := 10) hx hb dX7_replace_1 (by decide) (fun c1 => ?_) (fun c1 => ?_)
  · have hF := it_p c1 hF
    refine lv_aload_n hx hb dX7_replace_10 rfl (lv_at hl 0 rfl) ?_
    refine lv_iconst (v := (0 : Int32)) hx hb dX7_replace_11 (by decide) ?_
    obtain ⟨r3, M4, hc2, hF⟩ := bn_e hF
    refine x_goi (x_runV cx hW hS (c_X7_finding (l := l) (G := G) hc2) cv_X7_56 kc_0 rfl (rest := []) ⟨Nat.le_of_ble_eq_true rfl, Nat.le_of_ble_eq_true rfl⟩ hl.1 rfl rfl (Nat.le_of_ble_eq_true rfl) ⟨Nat.zero_le _, Nat.zero_le _⟩ dX7_replace_12) hS (fun H locs hW hS => ?_)
    exact x_iret cx hr hW hS (sp_1 hF) (sp_2 hF) dX7_replace_15
  · have hF := it_n c1 hF
    refine lv_iload_n hx hb dX7_replace_4 rfl (lv_at hl 3 rfl) ?_
    refine lv_iload hx hb dX7_replace_5 (lv_at hl 4 rfl) ?_
    refine lv_icmp_le (tgt := 16) hx hb dX7_replace_7 (by decide) (fun c5 => ?_) (fun c5 => ?_)
    · have hF := it_p c5 hF
      refine lv_aload_n hx hb dX7_replace_16 rfl (lv_at hl 1 rfl) ?_
      refine lv_iload_n hx hb dX7_replace_17 rfl (lv_at hl 2 rfl) ?_
      obtain ⟨j6, hj6, gj6, hF⟩ := ix_e hF
      refine x_iald cx hW h1 (by decide) hj6 gj6 dX7_replace_18 ?_
      refine lv_istore (lv' := [(5, .int (m_I M a1 j6)), (0, .ref (g_ad G 0)), (1, .ref (g_ad G a1)), (2, .int a2), (3, .int a3), (4, .int a4)]) hx hb dX7_replace_19 hl (by decide) rfl (fun ls hl => ?_)
      refine lv_aload_n hx hb dX7_replace_21 rfl (lv_at hl 2 rfl) ?_
      refine lv_iload_n hx hb dX7_replace_22 rfl (lv_at hl 3 rfl) ?_
      refine lv_iload_n hx hb dX7_replace_23 rfl (lv_at hl 4 rfl) ?_
      obtain ⟨j7, hj7, gj7, hF⟩ := ix_e hF
      obtain ⟨M8, eM8, hF⟩ := pin_e hF
      refine x_iast cx hW hS h1 (by decide) hj7 gj7 eM8 dX7_replace_24 (fun H locs hW hS => ?_)
      refine lv_iload hx hb dX7_replace_25 (lv_at hl 0 rfl) ?_
      exact x_iret cx hr hW hS (sp_1 hF) (sp_2 hF) dX7_replace_27
    · have hF := it_n c5 hF
      refine lv_aload_n hx hb dX7_replace_10 rfl (lv_at hl 0 rfl) ?_
      refine lv_iconst (v := (0 : Int32)) hx hb dX7_replace_11 (by decide) ?_
      obtain ⟨r10, M11, hc9, hF⟩ := bn_e hF
      refine x_goi (x_runV cx hW hS (c_X7_finding (l := l) (G := G) hc9) cv_X7_56 kc_0 rfl (rest := []) ⟨Nat.le_of_ble_eq_true rfl, Nat.le_of_ble_eq_true rfl⟩ hl.1 rfl rfl (Nat.le_of_ble_eq_true rfl) ⟨Nat.zero_le _, Nat.zero_le _⟩ dX7_replace_12) hS (fun H locs hW hS => ?_)
      exact x_iret cx hr hW hS (sp_1 hF) (sp_2 hF) dX7_replace_15
def F_X7_set (a1 : Int32) (a2 : Int32) (a3 : Int32) (M : Mem) : Option (Int32 × Mem) := (F_X4_has 2 a1 M).bind (fun r2 => (if r2 = 0 then bn (F_X7_finding (0 : Int32) M) (fun r24 M25 => some (r24, M25)) else (if a2 = (1 : Int32) then bn (F_X7_replace 4 a1 a3 (20 : Int32) M) (fun r6 M7 => some (r6, M7)) else (if a2 = (2 : Int32) then bn (F_X7_replace 5 a1 a3 (99999 : Int32) M) (fun r10 M11 => some (r10, M11)) else (if a2 = (3 : Int32) then bn (F_X7_replace 6 a1 a3 (99 : Int32) M) (fun r14 M15 => some (r14, M15)) else (if a2 = (4 : Int32) then bn (F_X7_replace 7 a1 a3 (99 : Int32) M) (fun r18 M19 => some (r18, M19)) else bn (F_X7_finding (0 : Int32) M) (fun r21 M22 => some (r21, M22))))))))
set_option maxHeartbeats 4000000 in
set_option maxRecDepth 100000 in
theorem c_X7_set {l : Launch} {G : GG} {a1 : Int32} {a2 : Int32} {a3 : Int32}  {M : Mem} {r : Int32} {M1 : Mem} (hF : F_X7_set a1 a2 a3 M = some (r, M1)) : Met l yX7_set (wz yX7_set cX7_set 4 (some .int)) (RM 2 46) (PreC G [.ref (g_ad G 0), .int a1, .int a2, .int a3] M) (QcI G r M1) 0 0 (g_A G) := by
  rw [F_X7_set] at hF
  refine x_start (by decide) (Nat.le_of_ble_eq_true rfl) (lv := [(0, .ref (g_ad G 0)), (1, .int a1), (2, .int a2), (3, .int a3)]) rfl ?_
  intro p e s m below meth c cx hr hW hS ls hl
  obtain ⟨hx, hb, hml, hown, hts, hKK, hSS, hlk⟩ := id cx
  refine lv_aload_n hx hb dX7_set_0 rfl (lv_at hl 0 rfl) ?_
  refine x_get cx hW kc_0 fk_X7_10 (v := .ref (g_ad G 2)) rfl dX7_set_1 ?_
  refine lv_iload_n hx hb dX7_set_4 rfl (lv_at hl 1 rfl) ?_
  obtain ⟨r2, hc1, hF⟩ := bi_e hF
  refine x_goi (x_runV cx hW hS (c_X4_has (l := l) (G := G) kc_2 hc1) cv_X7_67 kc_2 rfl (rest := []) ⟨Nat.le_of_ble_eq_true rfl, Nat.le_of_ble_eq_true rfl⟩ hl.1 rfl rfl (Nat.le_of_ble_eq_true rfl) ⟨Nat.zero_le _, Nat.zero_le _⟩ dX7_set_5) hS (fun H locs hW hS => ?_)
  refine lv_if_ne (tgt := 17) hx hb dX7_set_8 (by decide) (fun c3 => ?_) (fun c3 => ?_)
  · have hF := it_n c3 hF
    refine lv_iload_n hx hb dX7_set_17 rfl (lv_at hl 2 rfl) ?_
    refine x_sw (1 : Int32) (fun c4 => ?_) (fun c4 => ?_)
    · have hF := it_p c4 hF
      refine x_tab (tgt := 48) cx dX7_set_18 c4 (by decide) (by decide) rfl (by decide) ?_
      refine lv_aload_n hx hb dX7_set_48 rfl (lv_at hl 0 rfl) ?_
      refine lv_aload_n hx hb dX7_set_49 rfl (lv_at hl 0 rfl) ?_
      refine x_get cx hW kc_0 fk_X7_10 (v := .ref (g_ad G 2)) rfl dX7_set_50 ?_
      refine x_get cx hW kc_2 fk_X7_73 (v := .ref (g_ad G 4)) rfl dX7_set_53 ?_
      refine lv_iload_n hx hb dX7_set_56 rfl (lv_at hl 1 rfl) ?_
      refine lv_iload_n hx hb dX7_set_57 rfl (lv_at hl 3 rfl) ?_
      refine lv_bipush (v := (20 : Int32)) hx hb dX7_set_58 (by decide) ?_
      obtain ⟨r6, M7, hc5, hF⟩ := bn_e hF
      refine x_goi (x_runV cx hW hS (c_X7_replace (l := l) (G := G) kc_4 hc5) cv_X7_95 kc_0 rfl (rest := []) ⟨Nat.le_of_ble_eq_true rfl, Nat.le_of_ble_eq_true rfl⟩ hl.1 rfl rfl (Nat.le_of_ble_eq_true rfl) ⟨Nat.zero_le _, Nat.zero_le _⟩ dX7_set_60) hS (fun H locs hW hS => ?_)
      exact x_iret cx hr hW hS (sp_1 hF) (sp_2 hF) dX7_set_63
    · have hF := it_n c4 hF
      refine x_sw (2 : Int32) (fun c8 => ?_) (fun c8 => ?_)
      · have hF := it_p c8 hF
        refine x_tab (tgt := 64) cx dX7_set_18 c8 (by decide) (by decide) rfl (by decide) ?_
        refine lv_aload_n hx hb dX7_set_64 rfl (lv_at hl 0 rfl) ?_
        refine lv_aload_n hx hb dX7_set_65 rfl (lv_at hl 0 rfl) ?_
        refine x_get cx hW kc_0 fk_X7_10 (v := .ref (g_ad G 2)) rfl dX7_set_66 ?_
        refine x_get cx hW kc_2 fk_X7_76 (v := .ref (g_ad G 5)) rfl dX7_set_69 ?_
        refine lv_iload_n hx hb dX7_set_72 rfl (lv_at hl 1 rfl) ?_
        refine lv_iload_n hx hb dX7_set_73 rfl (lv_at hl 3 rfl) ?_
        refine x_ldc cx q_k_X7_99 dX7_set_74 ?_
        obtain ⟨r10, M11, hc9, hF⟩ := bn_e hF
        refine x_goi (x_runV cx hW hS (c_X7_replace (l := l) (G := G) kc_5 hc9) cv_X7_95 kc_0 rfl (rest := []) ⟨Nat.le_of_ble_eq_true rfl, Nat.le_of_ble_eq_true rfl⟩ hl.1 rfl rfl (Nat.le_of_ble_eq_true rfl) ⟨Nat.zero_le _, Nat.zero_le _⟩ dX7_set_76) hS (fun H locs hW hS => ?_)
        exact x_iret cx hr hW hS (sp_1 hF) (sp_2 hF) dX7_set_79
      · have hF := it_n c8 hF
        refine x_sw (3 : Int32) (fun c12 => ?_) (fun c12 => ?_)
        · have hF := it_p c12 hF
          refine x_tab (tgt := 80) cx dX7_set_18 c12 (by decide) (by decide) rfl (by decide) ?_
          refine lv_aload_n hx hb dX7_set_80 rfl (lv_at hl 0 rfl) ?_
          refine lv_aload_n hx hb dX7_set_81 rfl (lv_at hl 0 rfl) ?_
          refine x_get cx hW kc_0 fk_X7_10 (v := .ref (g_ad G 2)) rfl dX7_set_82 ?_
          refine x_get cx hW kc_2 fk_X7_79 (v := .ref (g_ad G 6)) rfl dX7_set_85 ?_
          refine lv_iload_n hx hb dX7_set_88 rfl (lv_at hl 1 rfl) ?_
          refine lv_iload_n hx hb dX7_set_89 rfl (lv_at hl 3 rfl) ?_
          refine lv_bipush (v := (99 : Int32)) hx hb dX7_set_90 (by decide) ?_
          obtain ⟨r14, M15, hc13, hF⟩ := bn_e hF
          refine x_goi (x_runV cx hW hS (c_X7_replace (l := l) (G := G) kc_6 hc13) cv_X7_95 kc_0 rfl (rest := []) ⟨Nat.le_of_ble_eq_true rfl, Nat.le_of_ble_eq_true rfl⟩ hl.1 rfl rfl (Nat.le_of_ble_eq_true rfl) ⟨Nat.zero_le _, Nat.zero_le _⟩ dX7_set_92) hS (fun H locs hW hS => ?_)
          exact x_iret cx hr hW hS (sp_1 hF) (sp_2 hF) dX7_set_95
        · have hF := it_n c12 hF
          refine x_sw (4 : Int32) (fun c16 => ?_) (fun c16 => ?_)
          · have hF := it_p c16 hF
            refine x_tab (tgt := 96) cx dX7_set_18 c16 (by decide) (by decide) rfl (by decide) ?_
            refine lv_aload_n hx hb dX7_set_96 rfl (lv_at hl 0 rfl) ?_
            refine lv_aload_n hx hb dX7_set_97 rfl (lv_at hl 0 rfl) ?_
            refine x_get cx hW kc_0 fk_X7_10 (v := .ref (g_ad G 2)) rfl dX7_set_98 ?_
            refine x_get cx hW kc_2 fk_X7_82 (v := .ref (g_ad G 7)) rfl dX7_set_101 ?_
            refine lv_iload_n hx hb dX7_set_104 rfl (lv_at hl 1 rfl) ?_
            refine lv_iload_n hx hb dX7_set_105 rfl (lv_at hl 3 rfl) ?_
            refine lv_bipush (v := (99 : Int32)) hx hb dX7_set_106 (by decide) ?_
            obtain ⟨r18, M19, hc17, hF⟩ := bn_e hF
            refine x_goi (x_runV cx hW hS (c_X7_replace (l := l) (G := G) kc_7 hc17) cv_X7_95 kc_0 rfl (rest := []) ⟨Nat.le_of_ble_eq_true rfl, Nat.le_of_ble_eq_true rfl⟩ hl.1 rfl rfl (Nat.le_of_ble_eq_true rfl) ⟨Nat.zero_le _, Nat.zero_le _⟩ dX7_set_108) hS (fun H locs hW hS => ?_)
            exact x_iret cx hr hW hS (sp_1 hF) (sp_2 hF) dX7_set_111
          · have hF := it_n c16 hF
            refine lv_tableOut (tgt := 112) hx hb dX7_set_18 (by have z0 := lv_neT c4 (a := 1) (by decide); have z1 := lv_neT c8 (a := 2) (by decide); have z2 := lv_neT c12 (a := 3) (by decide); have z3 := lv_neT c16 (a := 4) (by decide); omega) (by decide) ?_
            refine lv_aload_n hx hb dX7_set_112 rfl (lv_at hl 0 rfl) ?_
            refine lv_iconst (v := (0 : Int32)) hx hb dX7_set_113 (by decide) ?_
            obtain ⟨r21, M22, hc20, hF⟩ := bn_e hF
            refine x_goi (x_runV cx hW hS (c_X7_finding (l := l) (G := G) hc20) cv_X7_56 kc_0 rfl (rest := []) ⟨Nat.le_of_ble_eq_true rfl, Nat.le_of_ble_eq_true rfl⟩ hl.1 rfl rfl (Nat.le_of_ble_eq_true rfl) ⟨Nat.zero_le _, Nat.zero_le _⟩ dX7_set_114) hS (fun H locs hW hS => ?_)
            exact x_iret cx hr hW hS (sp_1 hF) (sp_2 hF) dX7_set_117
  · have hF := it_p c3 hF
    refine lv_aload_n hx hb dX7_set_11 rfl (lv_at hl 0 rfl) ?_
    refine lv_iconst (v := (0 : Int32)) hx hb dX7_set_12 (by decide) ?_
    obtain ⟨r24, M25, hc23, hF⟩ := bn_e hF
    refine x_goi (x_runV cx hW hS (c_X7_finding (l := l) (G := G) hc23) cv_X7_56 kc_0 rfl (rest := []) ⟨Nat.le_of_ble_eq_true rfl, Nat.le_of_ble_eq_true rfl⟩ hl.1 rfl rfl (Nat.le_of_ble_eq_true rfl) ⟨Nat.zero_le _, Nat.zero_le _⟩ dX7_set_13) hS (fun H locs hW hS => ?_)
    exact x_iret cx hr hW hS (sp_1 hF) (sp_2 hF) dX7_set_16
def F_X7_turn (a1 : Int32) (a2 : Int32) (M : Mem) : Option (Int32 × Mem) := (F_X4_has 2 a1 M).bind (fun r2 => (if r2 = 0 then bn (F_X7_finding (0 : Int32) M) (fun r8 M9 => some (r8, M9)) else bn (F_X7_replace 3 a1 a2 (5 : Int32) M) (fun r5 M6 => some (r5, M6))))
set_option maxHeartbeats 4000000 in
set_option maxRecDepth 100000 in
theorem c_X7_turn {l : Launch} {G : GG} {a1 : Int32} {a2 : Int32}  {M : Mem} {r : Int32} {M1 : Mem} (hF : F_X7_turn a1 a2 M = some (r, M1)) : Met l yX7_turn (wz yX7_turn cX7_turn 3 (some .int)) (RM 2 46) (PreC G [.ref (g_ad G 0), .int a1, .int a2] M) (QcI G r M1) 0 0 (g_A G) := by
  rw [F_X7_turn] at hF
  refine x_start (by decide) (Nat.le_of_ble_eq_true rfl) (lv := [(0, .ref (g_ad G 0)), (1, .int a1), (2, .int a2)]) rfl ?_
  intro p e s m below meth c cx hr hW hS ls hl
  obtain ⟨hx, hb, hml, hown, hts, hKK, hSS, hlk⟩ := id cx
  refine lv_aload_n hx hb dX7_turn_0 rfl (lv_at hl 0 rfl) ?_
  refine x_get cx hW kc_0 fk_X7_10 (v := .ref (g_ad G 2)) rfl dX7_turn_1 ?_
  refine lv_iload_n hx hb dX7_turn_4 rfl (lv_at hl 1 rfl) ?_
  obtain ⟨r2, hc1, hF⟩ := bi_e hF
  refine x_goi (x_runV cx hW hS (c_X4_has (l := l) (G := G) kc_2 hc1) cv_X7_67 kc_2 rfl (rest := []) ⟨Nat.le_of_ble_eq_true rfl, Nat.le_of_ble_eq_true rfl⟩ hl.1 rfl rfl (Nat.le_of_ble_eq_true rfl) ⟨Nat.zero_le _, Nat.zero_le _⟩ dX7_turn_5) hS (fun H locs hW hS => ?_)
  refine lv_if_ne (tgt := 17) hx hb dX7_turn_8 (by decide) (fun c3 => ?_) (fun c3 => ?_)
  · have hF := it_n c3 hF
    refine lv_aload_n hx hb dX7_turn_17 rfl (lv_at hl 0 rfl) ?_
    refine lv_aload_n hx hb dX7_turn_18 rfl (lv_at hl 0 rfl) ?_
    refine x_get cx hW kc_0 fk_X7_10 (v := .ref (g_ad G 2)) rfl dX7_turn_19 ?_
    refine x_get cx hW kc_2 fk_X7_70 (v := .ref (g_ad G 3)) rfl dX7_turn_22 ?_
    refine lv_iload_n hx hb dX7_turn_25 rfl (lv_at hl 1 rfl) ?_
    refine lv_iload_n hx hb dX7_turn_26 rfl (lv_at hl 2 rfl) ?_
    refine lv_iconst (v := (5 : Int32)) hx hb dX7_turn_27 (by decide) ?_
    obtain ⟨r5, M6, hc4, hF⟩ := bn_e hF
    refine x_goi (x_runV cx hW hS (c_X7_replace (l := l) (G := G) kc_3 hc4) cv_X7_95 kc_0 rfl (rest := []) ⟨Nat.le_of_ble_eq_true rfl, Nat.le_of_ble_eq_true rfl⟩ hl.1 rfl rfl (Nat.le_of_ble_eq_true rfl) ⟨Nat.zero_le _, Nat.zero_le _⟩ dX7_turn_28) hS (fun H locs hW hS => ?_)
    exact x_iret cx hr hW hS (sp_1 hF) (sp_2 hF) dX7_turn_31
  · have hF := it_p c3 hF
    refine lv_aload_n hx hb dX7_turn_11 rfl (lv_at hl 0 rfl) ?_
    refine lv_iconst (v := (0 : Int32)) hx hb dX7_turn_12 (by decide) ?_
    obtain ⟨r8, M9, hc7, hF⟩ := bn_e hF
    refine x_goi (x_runV cx hW hS (c_X7_finding (l := l) (G := G) hc7) cv_X7_56 kc_0 rfl (rest := []) ⟨Nat.le_of_ble_eq_true rfl, Nat.le_of_ble_eq_true rfl⟩ hl.1 rfl rfl (Nat.le_of_ble_eq_true rfl) ⟨Nat.zero_le _, Nat.zero_le _⟩ dX7_turn_13) hS (fun H locs hW hS => ?_)
    exact x_iret cx hr hW hS (sp_1 hF) (sp_2 hF) dX7_turn_16
def F_X7_as (a1 : Int32) (a2 : Int32) (M : Mem) : Option (Int32 × Mem) := (F_X4_has 2 a1 M).bind (fun r2 => (if r2 = 0 then bn (F_X7_finding (0 : Int32) M) (fun r5 M6 => some (r5, M6)) else (F_X7_isKind a2 M).bind (fun r8 => (if r8 = 0 then bn (F_X7_finding (0 : Int32) M) (fun r19 M20 => some (r19, M20)) else ix 8 a1 (fun j10 => (F_X6_isUnder (m_I M 3 j10) a2 M).bind (fun r12 => (if r12 = 0 then bn (F_X7_finding (2 : Int32) M) (fun r16 M17 => some (r16, M17)) else ix 8 a1 (fun j14 => some ((m_I M 6 j14), M)))))))))
set_option maxHeartbeats 4000000 in
set_option maxRecDepth 100000 in
theorem c_X7_as {l : Launch} {G : GG} {a1 : Int32} {a2 : Int32}  {M : Mem} {r : Int32} {M1 : Mem} (hF : F_X7_as a1 a2 M = some (r, M1)) : Met l yX7_as (wz yX7_as cX7_as 3 (some .int)) (RM 1 23) (PreC G [.ref (g_ad G 0), .int a1, .int a2] M) (QcI G r M1) 0 0 (g_A G) := by
  rw [F_X7_as] at hF
  refine x_start (by decide) (Nat.le_of_ble_eq_true rfl) (lv := [(0, .ref (g_ad G 0)), (1, .int a1), (2, .int a2)]) rfl ?_
  intro p e s m below meth c cx hr hW hS ls hl
  obtain ⟨hx, hb, hml, hown, hts, hKK, hSS, hlk⟩ := id cx
  refine lv_aload_n hx hb dX7_as_0 rfl (lv_at hl 0 rfl) ?_
  refine x_get cx hW kc_0 fk_X7_10 (v := .ref (g_ad G 2)) rfl dX7_as_1 ?_
  refine lv_iload_n hx hb dX7_as_4 rfl (lv_at hl 1 rfl) ?_
  obtain ⟨r2, hc1, hF⟩ := bi_e hF
  refine x_goi (x_runV cx hW hS (c_X4_has (l := l) (G := G) kc_2 hc1) cv_X7_67 kc_2 rfl (rest := []) ⟨Nat.le_of_ble_eq_true rfl, Nat.le_of_ble_eq_true rfl⟩ hl.1 rfl rfl (Nat.le_of_ble_eq_true rfl) ⟨Nat.zero_le _, Nat.zero_le _⟩ dX7_as_5) hS (fun H locs hW hS => ?_)
  refine lv_if_eq (tgt := 18) hx hb dX7_as_8 (by decide) (fun c3 => ?_) (fun c3 => ?_)
  · have hF := it_p c3 hF
    refine lv_aload_n hx hb dX7_as_18 rfl (lv_at hl 0 rfl) ?_
    refine lv_iconst (v := (0 : Int32)) hx hb dX7_as_19 (by decide) ?_
    obtain ⟨r5, M6, hc4, hF⟩ := bn_e hF
    refine x_goi (x_runV cx hW hS (c_X7_finding (l := l) (G := G) hc4) cv_X7_56 kc_0 rfl (rest := []) ⟨Nat.le_of_ble_eq_true rfl, Nat.le_of_ble_eq_true rfl⟩ hl.1 rfl rfl (Nat.le_of_ble_eq_true rfl) ⟨Nat.zero_le _, Nat.zero_le _⟩ dX7_as_20) hS (fun H locs hW hS => ?_)
    exact x_iret cx hr hW hS (sp_1 hF) (sp_2 hF) dX7_as_23
  · have hF := it_n c3 hF
    refine lv_iload_n hx hb dX7_as_11 rfl (lv_at hl 2 rfl) ?_
    obtain ⟨r8, hc7, hF⟩ := bi_e hF
    refine x_goi (x_runS cx hW hS (c_X7_isKind (l := l) (G := G) hc7) cs_X7_52 (rest := []) ⟨Nat.le_of_ble_eq_true rfl, Nat.le_of_ble_eq_true rfl⟩ hl.1 rfl rfl (Nat.le_of_ble_eq_true rfl) ⟨Nat.zero_le _, Nat.zero_le _⟩ dX7_as_12) hS (fun H locs hW hS => ?_)
    refine lv_if_ne (tgt := 24) hx hb dX7_as_15 (by decide) (fun c9 => ?_) (fun c9 => ?_)
    · have hF := it_n c9 hF
      refine lv_aload_n hx hb dX7_as_24 rfl (lv_at hl 0 rfl) ?_
      refine x_get cx hW kc_0 fk_X7_10 (v := .ref (g_ad G 2)) rfl dX7_as_25 ?_
      refine x_get cx hW kc_2 fk_X7_70 (v := .ref (g_ad G 3)) rfl dX7_as_28 ?_
      refine lv_iload_n hx hb dX7_as_31 rfl (lv_at hl 1 rfl) ?_
      obtain ⟨j10, hj10, gj10, hF⟩ := ix_e hF
      refine x_iald cx hW kc_3 (by decide) hj10 gj10 dX7_as_32 ?_
      refine lv_iload_n hx hb dX7_as_33 rfl (lv_at hl 2 rfl) ?_
      obtain ⟨r12, hc11, hF⟩ := bi_e hF
      refine x_goi (x_runS cx hW hS (c_X6_isUnder (l := l) (G := G) hc11) cs_X7_100 (rest := []) ⟨Nat.le_of_ble_eq_true rfl, Nat.le_of_ble_eq_true rfl⟩ hl.1 rfl rfl (Nat.le_of_ble_eq_true rfl) ⟨Nat.zero_le _, Nat.zero_le _⟩ dX7_as_34) hS (fun H locs hW hS => ?_)
      refine lv_if_ne (tgt := 46) hx hb dX7_as_37 (by decide) (fun c13 => ?_) (fun c13 => ?_)
      · have hF := it_n c13 hF
        refine lv_aload_n hx hb dX7_as_46 rfl (lv_at hl 0 rfl) ?_
        refine x_get cx hW kc_0 fk_X7_10 (v := .ref (g_ad G 2)) rfl dX7_as_47 ?_
        refine x_get cx hW kc_2 fk_X7_79 (v := .ref (g_ad G 6)) rfl dX7_as_50 ?_
        refine lv_iload_n hx hb dX7_as_53 rfl (lv_at hl 1 rfl) ?_
        obtain ⟨j14, hj14, gj14, hF⟩ := ix_e hF
        refine x_iald cx hW kc_6 (by decide) hj14 gj14 dX7_as_54 ?_
        exact x_iret cx hr hW hS (sp_1 hF) (sp_2 hF) dX7_as_55
      · have hF := it_p c13 hF
        refine lv_aload_n hx hb dX7_as_40 rfl (lv_at hl 0 rfl) ?_
        refine lv_iconst (v := (2 : Int32)) hx hb dX7_as_41 (by decide) ?_
        obtain ⟨r16, M17, hc15, hF⟩ := bn_e hF
        refine x_goi (x_runV cx hW hS (c_X7_finding (l := l) (G := G) hc15) cv_X7_56 kc_0 rfl (rest := []) ⟨Nat.le_of_ble_eq_true rfl, Nat.le_of_ble_eq_true rfl⟩ hl.1 rfl rfl (Nat.le_of_ble_eq_true rfl) ⟨Nat.zero_le _, Nat.zero_le _⟩ dX7_as_42) hS (fun H locs hW hS => ?_)
        exact x_iret cx hr hW hS (sp_1 hF) (sp_2 hF) dX7_as_45
    · have hF := it_p c9 hF
      refine lv_aload_n hx hb dX7_as_18 rfl (lv_at hl 0 rfl) ?_
      refine lv_iconst (v := (0 : Int32)) hx hb dX7_as_19 (by decide) ?_
      obtain ⟨r19, M20, hc18, hF⟩ := bn_e hF
      refine x_goi (x_runV cx hW hS (c_X7_finding (l := l) (G := G) hc18) cv_X7_56 kc_0 rfl (rest := []) ⟨Nat.le_of_ble_eq_true rfl, Nat.le_of_ble_eq_true rfl⟩ hl.1 rfl rfl (Nat.le_of_ble_eq_true rfl) ⟨Nat.zero_le _, Nat.zero_le _⟩ dX7_as_20) hS (fun H locs hW hS => ?_)
      exact x_iret cx hr hW hS (sp_1 hF) (sp_2 hF) dX7_as_23
def F_X7_swap (a1 : Int32) (a2 : Int32) (M : Mem) : Option (Int32 × Mem) := (F_X4_has 2 a1 M).bind (fun r2 => (if r2 = 0 then bn (F_X7_finding (0 : Int32) M) (fun r5 M6 => some (r5, M6)) else (F_X4_has 2 a2 M).bind (fun r8 => (if r8 = 0 then bn (F_X7_finding (0 : Int32) M) (fun r11 M12 => some (r11, M12)) else (if a1 = a2 then bn (F_X7_finding (0 : Int32) M) (fun r25 M26 => some (r25, M26)) else (F_X4_areAlike 2 a1 a2 M).bind (fun r15 => (if r15 = 0 then bn (F_X7_finding (4 : Int32) M) (fun r22 M23 => some (r22, M23)) else (F_X4_exchange 2 a1 a2 M).bind (fun M18 => (F_X4_ownCount 2 M18).bind (fun r20 => some (r20, M18))))))))))
set_option maxHeartbeats 4000000 in
set_option maxRecDepth 100000 in
theorem c_X7_swap {l : Launch} {G : GG} {a1 : Int32} {a2 : Int32}  {M : Mem} {r : Int32} {M1 : Mem} (hF : F_X7_swap a1 a2 M = some (r, M1)) : Met l yX7_swap (wz yX7_swap cX7_swap 3 (some .int)) (RM 2 43) (PreC G [.ref (g_ad G 0), .int a1, .int a2] M) (QcI G r M1) 0 0 (g_A G) := by
  rw [F_X7_swap] at hF
  refine x_start (by decide) (Nat.le_of_ble_eq_true rfl) (lv := [(0, .ref (g_ad G 0)), (1, .int a1), (2, .int a2)]) rfl ?_
  intro p e s m below meth c cx hr hW hS ls hl
  obtain ⟨hx, hb, hml, hown, hts, hKK, hSS, hlk⟩ := id cx
  refine lv_aload_n hx hb dX7_swap_0 rfl (lv_at hl 0 rfl) ?_
  refine x_get cx hW kc_0 fk_X7_10 (v := .ref (g_ad G 2)) rfl dX7_swap_1 ?_
  refine lv_iload_n hx hb dX7_swap_4 rfl (lv_at hl 1 rfl) ?_
  obtain ⟨r2, hc1, hF⟩ := bi_e hF
  refine x_goi (x_runV cx hW hS (c_X4_has (l := l) (G := G) kc_2 hc1) cv_X7_67 kc_2 rfl (rest := []) ⟨Nat.le_of_ble_eq_true rfl, Nat.le_of_ble_eq_true rfl⟩ hl.1 rfl rfl (Nat.le_of_ble_eq_true rfl) ⟨Nat.zero_le _, Nat.zero_le _⟩ dX7_swap_5) hS (fun H locs hW hS => ?_)
  refine lv_if_eq (tgt := 27) hx hb dX7_swap_8 (by decide) (fun c3 => ?_) (fun c3 => ?_)
  · have hF := it_p c3 hF
    refine lv_aload_n hx hb dX7_swap_27 rfl (lv_at hl 0 rfl) ?_
    refine lv_iconst (v := (0 : Int32)) hx hb dX7_swap_28 (by decide) ?_
    obtain ⟨r5, M6, hc4, hF⟩ := bn_e hF
    refine x_goi (x_runV cx hW hS (c_X7_finding (l := l) (G := G) hc4) cv_X7_56 kc_0 rfl (rest := []) ⟨Nat.le_of_ble_eq_true rfl, Nat.le_of_ble_eq_true rfl⟩ hl.1 rfl rfl (Nat.le_of_ble_eq_true rfl) ⟨Nat.zero_le _, Nat.zero_le _⟩ dX7_swap_29) hS (fun H locs hW hS => ?_)
    exact x_iret cx hr hW hS (sp_1 hF) (sp_2 hF) dX7_swap_32
  · have hF := it_n c3 hF
    refine lv_aload_n hx hb dX7_swap_11 rfl (lv_at hl 0 rfl) ?_
    refine x_get cx hW kc_0 fk_X7_10 (v := .ref (g_ad G 2)) rfl dX7_swap_12 ?_
    refine lv_iload_n hx hb dX7_swap_15 rfl (lv_at hl 2 rfl) ?_
    obtain ⟨r8, hc7, hF⟩ := bi_e hF
    refine x_goi (x_runV cx hW hS (c_X4_has (l := l) (G := G) kc_2 hc7) cv_X7_67 kc_2 rfl (rest := []) ⟨Nat.le_of_ble_eq_true rfl, Nat.le_of_ble_eq_true rfl⟩ hl.1 rfl rfl (Nat.le_of_ble_eq_true rfl) ⟨Nat.zero_le _, Nat.zero_le _⟩ dX7_swap_16) hS (fun H locs hW hS => ?_)
    refine lv_if_eq (tgt := 27) hx hb dX7_swap_19 (by decide) (fun c9 => ?_) (fun c9 => ?_)
    · have hF := it_p c9 hF
      refine lv_aload_n hx hb dX7_swap_27 rfl (lv_at hl 0 rfl) ?_
      refine lv_iconst (v := (0 : Int32)) hx hb dX7_swap_28 (by decide) ?_
      obtain ⟨r11, M12, hc10, hF⟩ := bn_e hF
      refine x_goi (x_runV cx hW hS (c_X7_finding (l := l) (G := G) hc10) cv_X7_56 kc_0 rfl (rest := []) ⟨Nat.le_of_ble_eq_true rfl, Nat.le_of_ble_eq_true rfl⟩ hl.1 rfl rfl (Nat.le_of_ble_eq_true rfl) ⟨Nat.zero_le _, Nat.zero_le _⟩ dX7_swap_29) hS (fun H locs hW hS => ?_)
      exact x_iret cx hr hW hS (sp_1 hF) (sp_2 hF) dX7_swap_32
    · have hF := it_n c9 hF
      refine lv_iload_n hx hb dX7_swap_22 rfl (lv_at hl 1 rfl) ?_
      refine lv_iload_n hx hb dX7_swap_23 rfl (lv_at hl 2 rfl) ?_
      refine lv_icmp_ne (tgt := 33) hx hb dX7_swap_24 (by decide) (fun c13 => ?_) (fun c13 => ?_)
      · have hF := it_n c13 hF
        refine lv_aload_n hx hb dX7_swap_33 rfl (lv_at hl 0 rfl) ?_
        refine x_get cx hW kc_0 fk_X7_10 (v := .ref (g_ad G 2)) rfl dX7_swap_34 ?_
        refine lv_iload_n hx hb dX7_swap_37 rfl (lv_at hl 1 rfl) ?_
        refine lv_iload_n hx hb dX7_swap_38 rfl (lv_at hl 2 rfl) ?_
        obtain ⟨r15, hc14, hF⟩ := bi_e hF
        refine x_goi (x_runV cx hW hS (c_X4_areAlike (l := l) (G := G) kc_2 hc14) cv_X7_106 kc_2 rfl (rest := []) ⟨Nat.le_of_ble_eq_true rfl, Nat.le_of_ble_eq_true rfl⟩ hl.1 rfl rfl (Nat.le_of_ble_eq_true rfl) ⟨Nat.zero_le _, Nat.zero_le _⟩ dX7_swap_39) hS (fun H locs hW hS => ?_)
        refine lv_if_ne (tgt := 51) hx hb dX7_swap_42 (by decide) (fun c16 => ?_) (fun c16 => ?_)
        · have hF := it_n c16 hF
          refine lv_aload_n hx hb dX7_swap_51 rfl (lv_at hl 0 rfl) ?_
          refine x_get cx hW kc_0 fk_X7_10 (v := .ref (g_ad G 2)) rfl dX7_swap_52 ?_
          refine lv_iload_n hx hb dX7_swap_55 rfl (lv_at hl 1 rfl) ?_
          refine lv_iload_n hx hb dX7_swap_56 rfl (lv_at hl 2 rfl) ?_
          obtain ⟨M18, hc17, hF⟩ := bi_e hF
          refine x_gov (x_runV cx hW hS (c_X4_exchange (l := l) (G := G) kc_2 hc17) cv_X7_109 kc_2 rfl (rest := []) ⟨Nat.le_of_ble_eq_true rfl, Nat.le_of_ble_eq_true rfl⟩ hl.1 rfl rfl (Nat.le_of_ble_eq_true rfl) ⟨Nat.zero_le _, Nat.zero_le _⟩ dX7_swap_57) hS (fun H locs hW hS => ?_)
          refine lv_aload_n hx hb dX7_swap_60 rfl (lv_at hl 0 rfl) ?_
          refine x_get cx hW kc_0 fk_X7_10 (v := .ref (g_ad G 2)) rfl dX7_swap_61 ?_
          obtain ⟨r20, hc19, hF⟩ := bi_e hF
          refine x_goi (x_runV cx hW hS (c_X4_ownCount (l := l) (G := G) kc_2 hc19) cv_X7_113 kc_2 rfl (rest := []) ⟨Nat.le_of_ble_eq_true rfl, Nat.le_of_ble_eq_true rfl⟩ hl.1 rfl rfl (Nat.le_of_ble_eq_true rfl) ⟨Nat.zero_le _, Nat.zero_le _⟩ dX7_swap_64) hS (fun H locs hW hS => ?_)
          exact x_iret cx hr hW hS (sp_1 hF) (sp_2 hF) dX7_swap_67
        · have hF := it_p c16 hF
          refine lv_aload_n hx hb dX7_swap_45 rfl (lv_at hl 0 rfl) ?_
          refine lv_iconst (v := (4 : Int32)) hx hb dX7_swap_46 (by decide) ?_
          obtain ⟨r22, M23, hc21, hF⟩ := bn_e hF
          refine x_goi (x_runV cx hW hS (c_X7_finding (l := l) (G := G) hc21) cv_X7_56 kc_0 rfl (rest := []) ⟨Nat.le_of_ble_eq_true rfl, Nat.le_of_ble_eq_true rfl⟩ hl.1 rfl rfl (Nat.le_of_ble_eq_true rfl) ⟨Nat.zero_le _, Nat.zero_le _⟩ dX7_swap_47) hS (fun H locs hW hS => ?_)
          exact x_iret cx hr hW hS (sp_1 hF) (sp_2 hF) dX7_swap_50
      · have hF := it_p c13 hF
        refine lv_aload_n hx hb dX7_swap_27 rfl (lv_at hl 0 rfl) ?_
        refine lv_iconst (v := (0 : Int32)) hx hb dX7_swap_28 (by decide) ?_
        obtain ⟨r25, M26, hc24, hF⟩ := bn_e hF
        refine x_goi (x_runV cx hW hS (c_X7_finding (l := l) (G := G) hc24) cv_X7_56 kc_0 rfl (rest := []) ⟨Nat.le_of_ble_eq_true rfl, Nat.le_of_ble_eq_true rfl⟩ hl.1 rfl rfl (Nat.le_of_ble_eq_true rfl) ⟨Nat.zero_le _, Nat.zero_le _⟩ dX7_swap_29) hS (fun H locs hW hS => ?_)
        exact x_iret cx hr hW hS (sp_1 hF) (sp_2 hF) dX7_swap_32
def F_X7_home (M : Mem) : Option (Int32 × Mem) := (F_X4_ownCount 2 M).bind (fun r2 => (F_X4_goHome 2 M).bind (fun M4 => some (((m_I M 2 2) - r2), M4)))
set_option maxHeartbeats 4000000 in
set_option maxRecDepth 100000 in
theorem c_X7_home {l : Launch} {G : GG}   {M : Mem} {r : Int32} {M1 : Mem} (hF : F_X7_home M = some (r, M1)) : Met l yX7_home (wz yX7_home cX7_home 2 (some .int)) (RM 2 42) (PreC G [.ref (g_ad G 0)] M) (QcI G r M1) 0 0 (g_A G) := by
  rw [F_X7_home] at hF
  refine x_start (by decide) (Nat.le_of_ble_eq_true rfl) (lv := [(0, .ref (g_ad G 0))]) rfl ?_
  intro p e s m below meth c cx hr hW hS ls hl
  obtain ⟨hx, hb, hml, hown, hts, hKK, hSS, hlk⟩ := id cx
  refine lv_aload_n hx hb dX7_home_0 rfl (lv_at hl 0 rfl) ?_
  refine x_get cx hW kc_0 fk_X7_10 (v := .ref (g_ad G 2)) rfl dX7_home_1 ?_
  refine x_get cx hW kc_2 fk_X7_117 (v := .int (m_I M 2 2)) rfl dX7_home_4 ?_
  refine lv_aload_n hx hb dX7_home_7 rfl (lv_at hl 0 rfl) ?_
  refine x_get cx hW kc_0 fk_X7_10 (v := .ref (g_ad G 2)) rfl dX7_home_8 ?_
  obtain ⟨r2, hc1, hF⟩ := bi_e hF
  refine x_goi (x_runV cx hW hS (c_X4_ownCount (l := l) (G := G) kc_2 hc1) cv_X7_113 kc_2 rfl (rest := [.int (m_I M 2 2)]) ⟨Nat.le_of_ble_eq_true rfl, Nat.le_of_ble_eq_true rfl⟩ hl.1 rfl rfl (Nat.le_of_ble_eq_true rfl) ⟨Nat.zero_le _, Nat.zero_le _⟩ dX7_home_11) hS (fun H locs hW hS => ?_)
  refine lv_isub hx hb dX7_home_14 ?_
  refine lv_istore_n (lv' := [(1, .int ((m_I M 2 2) - r2)), (0, .ref (g_ad G 0))]) hx hb dX7_home_15 rfl hl (by decide) rfl (fun ls hl => ?_)
  refine lv_aload_n hx hb dX7_home_16 rfl (lv_at hl 1 rfl) ?_
  refine x_get cx hW kc_0 fk_X7_10 (v := .ref (g_ad G 2)) rfl dX7_home_17 ?_
  obtain ⟨M4, hc3, hF⟩ := bi_e hF
  refine x_gov (x_runV cx hW hS (c_X4_goHome (l := l) (G := G) kc_2 hc3) cv_X7_121 kc_2 rfl (rest := []) ⟨Nat.le_of_ble_eq_true rfl, Nat.le_of_ble_eq_true rfl⟩ hl.1 rfl rfl (Nat.le_of_ble_eq_true rfl) ⟨Nat.zero_le _, Nat.zero_le _⟩ dX7_home_20) hS (fun H locs hW hS => ?_)
  refine lv_iload_n hx hb dX7_home_23 rfl (lv_at hl 0 rfl) ?_
  exact x_iret cx hr hW hS (sp_1 hF) (sp_2 hF) dX7_home_24
def F_X7_draw (M : Mem) : Option (Int32 × Mem) := (F_X4_drawLot 2 M).bind (fun M2 => (F_X4_ownCount 2 M2).bind (fun r4 => some (r4, M2)))
set_option maxHeartbeats 4000000 in
set_option maxRecDepth 100000 in
theorem c_X7_draw {l : Launch} {G : GG}   {M : Mem} {r : Int32} {M1 : Mem} (hF : F_X7_draw M = some (r, M1)) : Met l yX7_draw (wz yX7_draw cX7_draw 1 (some .int)) (RM 3 66) (PreC G [.ref (g_ad G 0)] M) (QcI G r M1) 0 0 (g_A G) := by
  rw [F_X7_draw] at hF
  refine x_start (by decide) (Nat.le_of_ble_eq_true rfl) (lv := [(0, .ref (g_ad G 0))]) rfl ?_
  intro p e s m below meth c cx hr hW hS ls hl
  obtain ⟨hx, hb, hml, hown, hts, hKK, hSS, hlk⟩ := id cx
  refine lv_aload_n hx hb dX7_draw_0 rfl (lv_at hl 0 rfl) ?_
  refine x_get cx hW kc_0 fk_X7_10 (v := .ref (g_ad G 2)) rfl dX7_draw_1 ?_
  obtain ⟨M2, hc1, hF⟩ := bi_e hF
  refine x_gov (x_runV cx hW hS (c_X4_drawLot (l := l) (G := G) kc_2 hc1) cv_X7_124 kc_2 rfl (rest := []) ⟨Nat.le_of_ble_eq_true rfl, Nat.le_of_ble_eq_true rfl⟩ hl.1 rfl rfl (Nat.le_of_ble_eq_true rfl) ⟨Nat.zero_le _, Nat.zero_le _⟩ dX7_draw_4) hS (fun H locs hW hS => ?_)
  refine lv_aload_n hx hb dX7_draw_7 rfl (lv_at hl 0 rfl) ?_
  refine x_get cx hW kc_0 fk_X7_10 (v := .ref (g_ad G 2)) rfl dX7_draw_8 ?_
  obtain ⟨r4, hc3, hF⟩ := bi_e hF
  refine x_goi (x_runV cx hW hS (c_X4_ownCount (l := l) (G := G) kc_2 hc3) cv_X7_113 kc_2 rfl (rest := []) ⟨Nat.le_of_ble_eq_true rfl, Nat.le_of_ble_eq_true rfl⟩ hl.1 rfl rfl (Nat.le_of_ble_eq_true rfl) ⟨Nat.zero_le _, Nat.zero_le _⟩ dX7_draw_11) hS (fun H locs hW hS => ?_)
  exact x_iret cx hr hW hS (sp_1 hF) (sp_2 hF) dX7_draw_14
def F_X7_seed (a1 : Int32) (M : Mem) : Option (Int32 × Mem) := pin (w_I M 2 1 a1) (fun M1 => some ((m_I M 2 1), M1))
set_option maxHeartbeats 4000000 in
set_option maxRecDepth 100000 in
theorem c_X7_seed {l : Launch} {G : GG} {a1 : Int32}  {M : Mem} {r : Int32} {M1 : Mem} (hF : F_X7_seed a1 M = some (r, M1)) : Met l yX7_seed (wz yX7_seed cX7_seed 3 (some .int)) (RM 0 0) (PreC G [.ref (g_ad G 0), .int a1] M) (QcI G r M1) 0 0 (g_A G) := by
  rw [F_X7_seed] at hF
  refine x_start (by decide) (Nat.le_of_ble_eq_true rfl) (lv := [(0, .ref (g_ad G 0)), (1, .int a1)]) rfl ?_
  intro p e s m below meth c cx hr hW hS ls hl
  obtain ⟨hx, hb, hml, hown, hts, hKK, hSS, hlk⟩ := id cx
  refine lv_aload_n hx hb dX7_seed_0 rfl (lv_at hl 0 rfl) ?_
  refine x_get cx hW kc_0 fk_X7_10 (v := .ref (g_ad G 2)) rfl dX7_seed_1 ?_
  refine x_get cx hW kc_2 fk_X7_127 (v := .int (m_I M 2 1)) rfl dX7_seed_4 ?_
  refine lv_istore_n (lv' := [(2, .int (m_I M 2 1)), (0, .ref (g_ad G 0)), (1, .int a1)]) hx hb dX7_seed_7 rfl hl (by decide) rfl (fun ls hl => ?_)
  refine lv_aload_n hx hb dX7_seed_8 rfl (lv_at hl 1 rfl) ?_
  refine x_get cx hW kc_0 fk_X7_10 (v := .ref (g_ad G 2)) rfl dX7_seed_9 ?_
  refine lv_iload_n hx hb dX7_seed_12 rfl (lv_at hl 2 rfl) ?_
  obtain ⟨M1, eM1, hF⟩ := pin_e hF
  refine x_puti cx hW hS kc_2 fk_X7_127 ft_3_1 (Nat.le_of_ble_eq_true rfl) fs_3_1 eM1 dX7_seed_13 (fun H locs hW hS => ?_)
  refine lv_iload_n hx hb dX7_seed_16 rfl (lv_at hl 0 rfl) ?_
  exact x_iret cx hr hW hS (sp_1 hF) (sp_2 hF) dX7_seed_17
def F_X7_fridays (a1 : Int32) (M : Mem) : Option (Int32 × Mem) := (if a1 < (1 : Int32) then bn (F_X7_finding (0 : Int32) M) (fun r3 M4 => some (r3, M4)) else (if a1 ≤ (60 : Int32) then (if ((m_I M 2 0) + a1) ≤ (9999 : Int32) then (F_X4_passFridays 2 a1 M).bind (fun M8 => (F_X4_total 2 5 M8).bind (fun r10 => some (r10, M8))) else bn (F_X7_finding (4 : Int32) M) (fun r12 M13 => some (r12, M13))) else bn (F_X7_finding (0 : Int32) M) (fun r15 M16 => some (r15, M16))))
set_option maxHeartbeats 4000000 in
set_option maxRecDepth 100000 in
theorem c_X7_fridays {l : Launch} {G : GG} {a1 : Int32}  {M : Mem} {r : Int32} {M1 : Mem} (hF : F_X7_fridays a1 M = some (r, M1)) : Met l yX7_fridays (wz yX7_fridays cX7_fridays 2 (some .int)) (RM 6 137) (PreC G [.ref (g_ad G 0), .int a1] M) (QcI G r M1) 0 0 (g_A G) := by
  rw [F_X7_fridays] at hF
  refine x_start (by decide) (Nat.le_of_ble_eq_true rfl) (lv := [(0, .ref (g_ad G 0)), (1, .int a1)]) rfl ?_
  intro p e s m below meth c cx hr hW hS ls hl
  obtain ⟨hx, hb, hml, hown, hts, hKK, hSS, hlk⟩ := id cx
  refine lv_iload_n hx hb dX7_fridays_0 rfl (lv_at hl 1 rfl) ?_
  refine lv_iconst (v := (1 : Int32)) hx hb dX7_fridays_1 (by decide) ?_
  refine lv_icmp_lt (tgt := 11) hx hb dX7_fridays_2 (by decide) (fun c1 => ?_) (fun c1 => ?_)
  · have hF := it_p c1 hF
    refine lv_aload_n hx hb dX7_fridays_11 rfl (lv_at hl 0 rfl) ?_
    refine lv_iconst (v := (0 : Int32)) hx hb dX7_fridays_12 (by decide) ?_
    obtain ⟨r3, M4, hc2, hF⟩ := bn_e hF
    refine x_goi (x_runV cx hW hS (c_X7_finding (l := l) (G := G) hc2) cv_X7_56 kc_0 rfl (rest := []) ⟨Nat.le_of_ble_eq_true rfl, Nat.le_of_ble_eq_true rfl⟩ hl.1 rfl rfl (Nat.le_of_ble_eq_true rfl) ⟨Nat.zero_le _, Nat.zero_le _⟩ dX7_fridays_13) hS (fun H locs hW hS => ?_)
    exact x_iret cx hr hW hS (sp_1 hF) (sp_2 hF) dX7_fridays_16
  · have hF := it_n c1 hF
    refine lv_iload_n hx hb dX7_fridays_5 rfl (lv_at hl 1 rfl) ?_
    refine lv_bipush (v := (60 : Int32)) hx hb dX7_fridays_6 (by decide) ?_
    refine lv_icmp_le (tgt := 17) hx hb dX7_fridays_8 (by decide) (fun c5 => ?_) (fun c5 => ?_)
    · have hF := it_p c5 hF
      refine lv_aload_n hx hb dX7_fridays_17 rfl (lv_at hl 0 rfl) ?_
      refine x_get cx hW kc_0 fk_X7_10 (v := .ref (g_ad G 2)) rfl dX7_fridays_18 ?_
      refine x_get cx hW kc_2 fk_X7_130 (v := .int (m_I M 2 0)) rfl dX7_fridays_21 ?_
      refine lv_iload_n hx hb dX7_fridays_24 rfl (lv_at hl 1 rfl) ?_
      refine lv_iadd hx hb dX7_fridays_25 ?_
      refine lv_sipush (v := (9999 : Int32)) hx hb dX7_fridays_26 (by decide) ?_
      refine lv_icmp_le (tgt := 38) hx hb dX7_fridays_29 (by decide) (fun c6 => ?_) (fun c6 => ?_)
      · have hF := it_p c6 hF
        refine lv_aload_n hx hb dX7_fridays_38 rfl (lv_at hl 0 rfl) ?_
        refine x_get cx hW kc_0 fk_X7_10 (v := .ref (g_ad G 2)) rfl dX7_fridays_39 ?_
        refine lv_iload_n hx hb dX7_fridays_42 rfl (lv_at hl 1 rfl) ?_
        obtain ⟨M8, hc7, hF⟩ := bi_e hF
        refine x_gov (x_runV cx hW hS (c_X4_passFridays (l := l) (G := G) kc_2 hc7) cv_X7_133 kc_2 rfl (rest := []) ⟨Nat.le_of_ble_eq_true rfl, Nat.le_of_ble_eq_true rfl⟩ hl.1 rfl rfl (Nat.le_of_ble_eq_true rfl) ⟨Nat.zero_le _, Nat.zero_le _⟩ dX7_fridays_43) hS (fun H locs hW hS => ?_)
        refine lv_aload_n hx hb dX7_fridays_46 rfl (lv_at hl 0 rfl) ?_
        refine x_get cx hW kc_0 fk_X7_10 (v := .ref (g_ad G 2)) rfl dX7_fridays_47 ?_
        refine lv_aload_n hx hb dX7_fridays_50 rfl (lv_at hl 0 rfl) ?_
        refine x_get cx hW kc_0 fk_X7_10 (v := .ref (g_ad G 2)) rfl dX7_fridays_51 ?_
        refine x_get cx hW kc_2 fk_X7_76 (v := .ref (g_ad G 5)) rfl dX7_fridays_54 ?_
        obtain ⟨r10, hc9, hF⟩ := bi_e hF
        refine x_goi (x_runV cx hW hS (c_X4_total (l := l) (G := G) kc_2 kc_5 hc9) cv_X7_137 kc_2 rfl (rest := []) ⟨Nat.le_of_ble_eq_true rfl, Nat.le_of_ble_eq_true rfl⟩ hl.1 rfl rfl (Nat.le_of_ble_eq_true rfl) ⟨Nat.zero_le _, Nat.zero_le _⟩ dX7_fridays_57) hS (fun H locs hW hS => ?_)
        exact x_iret cx hr hW hS (sp_1 hF) (sp_2 hF) dX7_fridays_60
      · have hF := it_n c6 hF
        refine lv_aload_n hx hb dX7_fridays_32 rfl (lv_at hl 0 rfl) ?_
        refine lv_iconst (v := (4 : Int32)) hx hb dX7_fridays_33 (by decide) ?_
        obtain ⟨r12, M13, hc11, hF⟩ := bn_e hF
        refine x_goi (x_runV cx hW hS (c_X7_finding (l := l) (G := G) hc11) cv_X7_56 kc_0 rfl (rest := []) ⟨Nat.le_of_ble_eq_true rfl, Nat.le_of_ble_eq_true rfl⟩ hl.1 rfl rfl (Nat.le_of_ble_eq_true rfl) ⟨Nat.zero_le _, Nat.zero_le _⟩ dX7_fridays_34) hS (fun H locs hW hS => ?_)
        exact x_iret cx hr hW hS (sp_1 hF) (sp_2 hF) dX7_fridays_37
    · have hF := it_n c5 hF
      refine lv_aload_n hx hb dX7_fridays_11 rfl (lv_at hl 0 rfl) ?_
      refine lv_iconst (v := (0 : Int32)) hx hb dX7_fridays_12 (by decide) ?_
      obtain ⟨r15, M16, hc14, hF⟩ := bn_e hF
      refine x_goi (x_runV cx hW hS (c_X7_finding (l := l) (G := G) hc14) cv_X7_56 kc_0 rfl (rest := []) ⟨Nat.le_of_ble_eq_true rfl, Nat.le_of_ble_eq_true rfl⟩ hl.1 rfl rfl (Nat.le_of_ble_eq_true rfl) ⟨Nat.zero_le _, Nat.zero_le _⟩ dX7_fridays_13) hS (fun H locs hW hS => ?_)
      exact x_iret cx hr hW hS (sp_1 hF) (sp_2 hF) dX7_fridays_16
def F_X7_season_40 (a1 : Int32) : Nat → Int32 → Mem → Option (Int32 × Mem)
  | 0, _, _ => none
  | n + 1, x2, M => (if a1 ≤ x2 then (F_X4_total 2 5 M).bind (fun r9 => some (r9, M)) else (F_X4_drawLot 2 M).bind (fun M11 => (F_X4_passFriday 2 M11).bind (fun M13 => F_X7_season_40 a1 n (x2 + 1) M13)))
set_option maxHeartbeats 4000000 in
set_option maxRecDepth 100000 in
theorem t_X7_season_40 {p : Program} {l : Launch} {e : Env} {s : State} {m : MethodId} {args : Array Value} {below : List Frame} {meth : Method} {c : Code} {G : GG} {a1 : Int32} (cx : Cx G cX7_season RX7 3 p s m args meth c) (hr : meth.sig.returnType = (some .int))   {r : Int32} {M1 : Mem} : ∀ (n : Nat) (x2 : Int32) (M : Mem), F_X7_season_40 a1 n x2 M = some (r, M1) → ∀ (H : Heap) (locs : List Loc) (ls : Array Slot), WH G M H → va_S (g_A G) s.heap H locs → lv_has ls 3 [(0, .ref (g_ad G 0)), (1, .int a1), (2, .int x2)] → W p l e (RM 5 115) s m args below meth c H locs 0 0 (MQ below (QcI G r M1) args s 0 0 (g_A G)) (F0 m 40 ls []) := by
  obtain ⟨hx, hb, hml, hown, hts, hKK, hSS, hlk⟩ := id cx
  intro n
  induction n with
  | zero =>
    intro x2 M hF H locs ls hW hS hl
    rw [F_X7_season_40] at hF
    cases hF
  | succ n ih =>
    intro x2 M hF H locs ls hW hS hl
    rw [F_X7_season_40] at hF
    refine lv_iload_n hx hb dX7_season_40 rfl (lv_at hl 2 rfl) ?_
    refine lv_iload_n hx hb dX7_season_41 rfl (lv_at hl 1 rfl) ?_
    refine lv_icmp_ge (tgt := 65) hx hb dX7_season_42 (by decide) (fun c7 => ?_) (fun c7 => ?_)
    · have hF := it_p c7 hF
      refine lv_aload_n hx hb dX7_season_65 rfl (lv_at hl 0 rfl) ?_
      refine x_get cx hW kc_0 fk_X7_10 (v := .ref (g_ad G 2)) rfl dX7_season_66 ?_
      refine lv_aload_n hx hb dX7_season_69 rfl (lv_at hl 0 rfl) ?_
      refine x_get cx hW kc_0 fk_X7_10 (v := .ref (g_ad G 2)) rfl dX7_season_70 ?_
      refine x_get cx hW kc_2 fk_X7_76 (v := .ref (g_ad G 5)) rfl dX7_season_73 ?_
      obtain ⟨r9, hc8, hF⟩ := bi_e hF
      refine x_goi (x_runV cx hW hS (c_X4_total (l := l) (G := G) kc_2 kc_5 hc8) cv_X7_137 kc_2 rfl (rest := []) ⟨Nat.le_of_ble_eq_true rfl, Nat.le_of_ble_eq_true rfl⟩ hl.1 rfl rfl (Nat.le_of_ble_eq_true rfl) ⟨Nat.zero_le _, Nat.zero_le _⟩ dX7_season_76) hS (fun H locs hW hS => ?_)
      exact x_iret cx hr hW hS (sp_1 hF) (sp_2 hF) dX7_season_79
    · have hF := it_n c7 hF
      refine lv_aload_n hx hb dX7_season_45 rfl (lv_at hl 0 rfl) ?_
      refine x_get cx hW kc_0 fk_X7_10 (v := .ref (g_ad G 2)) rfl dX7_season_46 ?_
      obtain ⟨M11, hc10, hF⟩ := bi_e hF
      refine x_gov (x_runV cx hW hS (c_X4_drawLot (l := l) (G := G) kc_2 hc10) cv_X7_124 kc_2 rfl (rest := []) ⟨Nat.le_of_ble_eq_true rfl, Nat.le_of_ble_eq_true rfl⟩ hl.1 rfl rfl (Nat.le_of_ble_eq_true rfl) ⟨Nat.zero_le _, Nat.zero_le _⟩ dX7_season_49) hS (fun H locs hW hS => ?_)
      refine lv_aload_n hx hb dX7_season_52 rfl (lv_at hl 0 rfl) ?_
      refine x_get cx hW kc_0 fk_X7_10 (v := .ref (g_ad G 2)) rfl dX7_season_53 ?_
      obtain ⟨M13, hc12, hF⟩ := bi_e hF
      refine x_gov (x_runV cx hW hS (c_X4_passFriday (l := l) (G := G) kc_2 hc12) cv_X7_141 kc_2 rfl (rest := []) ⟨Nat.le_of_ble_eq_true rfl, Nat.le_of_ble_eq_true rfl⟩ hl.1 rfl rfl (Nat.le_of_ble_eq_true rfl) ⟨Nat.zero_le _, Nat.zero_le _⟩ dX7_season_56) hS (fun H locs hW hS => ?_)
      refine lv_iinc (v := (x2 + 1)) (lv' := [(2, .int (x2 + 1)), (0, .ref (g_ad G 0)), (1, .int a1)]) hx hb dX7_season_59 hl (k := 2) rfl rfl (by decide) rfl (fun ls hl => ?_)
      refine lv_goto (tgt := 40) hx hb dX7_season_62 (by decide) ?_
      exact ih (x2 + 1) M13 hF _ _ _ hW hS (lv_sub hl [1, 2, 0] rfl)
def F_X7_season (a1 : Int32) (M : Mem) : Option (Int32 × Mem) := (if a1 < (1 : Int32) then bn (F_X7_finding (0 : Int32) M) (fun r3 M4 => some (r3, M4)) else (if a1 ≤ (20 : Int32) then (if ((m_I M 2 0) + a1) ≤ (9999 : Int32) then F_X7_season_40 a1 FU (0 : Int32) M else bn (F_X7_finding (4 : Int32) M) (fun r15 M16 => some (r15, M16))) else bn (F_X7_finding (0 : Int32) M) (fun r18 M19 => some (r18, M19))))
set_option maxHeartbeats 4000000 in
set_option maxRecDepth 100000 in
theorem c_X7_season {l : Launch} {G : GG} {a1 : Int32}  {M : Mem} {r : Int32} {M1 : Mem} (hF : F_X7_season a1 M = some (r, M1)) : Met l yX7_season (wz yX7_season cX7_season 3 (some .int)) (RM 5 115) (PreC G [.ref (g_ad G 0), .int a1] M) (QcI G r M1) 0 0 (g_A G) := by
  rw [F_X7_season] at hF
  refine x_start (by decide) (Nat.le_of_ble_eq_true rfl) (lv := [(0, .ref (g_ad G 0)), (1, .int a1)]) rfl ?_
  intro p e s m below meth c cx hr hW hS ls hl
  obtain ⟨hx, hb, hml, hown, hts, hKK, hSS, hlk⟩ := id cx
  refine lv_iload_n hx hb dX7_season_0 rfl (lv_at hl 1 rfl) ?_
  refine lv_iconst (v := (1 : Int32)) hx hb dX7_season_1 (by decide) ?_
  refine lv_icmp_lt (tgt := 11) hx hb dX7_season_2 (by decide) (fun c1 => ?_) (fun c1 => ?_)
  · have hF := it_p c1 hF
    refine lv_aload_n hx hb dX7_season_11 rfl (lv_at hl 0 rfl) ?_
    refine lv_iconst (v := (0 : Int32)) hx hb dX7_season_12 (by decide) ?_
    obtain ⟨r3, M4, hc2, hF⟩ := bn_e hF
    refine x_goi (x_runV cx hW hS (c_X7_finding (l := l) (G := G) hc2) cv_X7_56 kc_0 rfl (rest := []) ⟨Nat.le_of_ble_eq_true rfl, Nat.le_of_ble_eq_true rfl⟩ hl.1 rfl rfl (Nat.le_of_ble_eq_true rfl) ⟨Nat.zero_le _, Nat.zero_le _⟩ dX7_season_13) hS (fun H locs hW hS => ?_)
    exact x_iret cx hr hW hS (sp_1 hF) (sp_2 hF) dX7_season_16
  · have hF := it_n c1 hF
    refine lv_iload_n hx hb dX7_season_5 rfl (lv_at hl 1 rfl) ?_
    refine lv_bipush (v := (20 : Int32)) hx hb dX7_season_6 (by decide) ?_
    refine lv_icmp_le (tgt := 17) hx hb dX7_season_8 (by decide) (fun c5 => ?_) (fun c5 => ?_)
    · have hF := it_p c5 hF
      refine lv_aload_n hx hb dX7_season_17 rfl (lv_at hl 0 rfl) ?_
      refine x_get cx hW kc_0 fk_X7_10 (v := .ref (g_ad G 2)) rfl dX7_season_18 ?_
      refine x_get cx hW kc_2 fk_X7_130 (v := .int (m_I M 2 0)) rfl dX7_season_21 ?_
      refine lv_iload_n hx hb dX7_season_24 rfl (lv_at hl 1 rfl) ?_
      refine lv_iadd hx hb dX7_season_25 ?_
      refine lv_sipush (v := (9999 : Int32)) hx hb dX7_season_26 (by decide) ?_
      refine lv_icmp_le (tgt := 38) hx hb dX7_season_29 (by decide) (fun c6 => ?_) (fun c6 => ?_)
      · have hF := it_p c6 hF
        refine lv_iconst (v := (0 : Int32)) hx hb dX7_season_38 (by decide) ?_
        refine lv_istore_n (lv' := [(2, .int (0 : Int32)), (0, .ref (g_ad G 0)), (1, .int a1)]) hx hb dX7_season_39 rfl hl (by decide) rfl (fun ls hl => ?_)
        exact t_X7_season_40 cx hr FU (0 : Int32) M hF _ _ _ hW hS (lv_sub hl [1, 2, 0] rfl)
      · have hF := it_n c6 hF
        refine lv_aload_n hx hb dX7_season_32 rfl (lv_at hl 0 rfl) ?_
        refine lv_iconst (v := (4 : Int32)) hx hb dX7_season_33 (by decide) ?_
        obtain ⟨r15, M16, hc14, hF⟩ := bn_e hF
        refine x_goi (x_runV cx hW hS (c_X7_finding (l := l) (G := G) hc14) cv_X7_56 kc_0 rfl (rest := []) ⟨Nat.le_of_ble_eq_true rfl, Nat.le_of_ble_eq_true rfl⟩ hl.1 rfl rfl (Nat.le_of_ble_eq_true rfl) ⟨Nat.zero_le _, Nat.zero_le _⟩ dX7_season_34) hS (fun H locs hW hS => ?_)
        exact x_iret cx hr hW hS (sp_1 hF) (sp_2 hF) dX7_season_37
    · have hF := it_n c5 hF
      refine lv_aload_n hx hb dX7_season_11 rfl (lv_at hl 0 rfl) ?_
      refine lv_iconst (v := (0 : Int32)) hx hb dX7_season_12 (by decide) ?_
      obtain ⟨r18, M19, hc17, hF⟩ := bn_e hF
      refine x_goi (x_runV cx hW hS (c_X7_finding (l := l) (G := G) hc17) cv_X7_56 kc_0 rfl (rest := []) ⟨Nat.le_of_ble_eq_true rfl, Nat.le_of_ble_eq_true rfl⟩ hl.1 rfl rfl (Nat.le_of_ble_eq_true rfl) ⟨Nat.zero_le _, Nat.zero_le _⟩ dX7_season_13) hS (fun H locs hW hS => ?_)
      exact x_iret cx hr hW hS (sp_1 hF) (sp_2 hF) dX7_season_16
def F_X7_now (a1 : Int32) (M : Mem) : Option (Int32 × Mem) := (if a1 = (0 : Int32) then some ((m_I M 2 0), M) else (if a1 = (1 : Int32) then (F_X4_total 2 5 M).bind (fun r4 => some (r4, M)) else (if a1 = (2 : Int32) then (F_X4_childrenSet 2 M).bind (fun r7 => some (r7, M)) else (if a1 = (3 : Int32) then (F_X4_ownSet 2 M).bind (fun r10 => some (r10, M)) else (if a1 = (4 : Int32) then (F_X4_earnings 2 M).bind (fun r13 => some (r13, M)) else (if a1 = (5 : Int32) then (F_X4_isLotRight 2 M).bind (fun r16 => (if r16 = 0 then some ((0 : Int32), M) else some ((1 : Int32), M))) else (if a1 = (6 : Int32) then (F_X4_total 2 7 M).bind (fun r20 => some (r20, M)) else bn (F_X7_finding (0 : Int32) M) (fun r22 M23 => some (r22, M23)))))))))
set_option maxHeartbeats 4000000 in
set_option maxRecDepth 100000 in
theorem c_X7_now {l : Launch} {G : GG} {a1 : Int32}  {M : Mem} {r : Int32} {M1 : Mem} (hF : F_X7_now a1 M = some (r, M1)) : Met l yX7_now (wz yX7_now cX7_now 2 (some .int)) (RM 5 115) (PreC G [.ref (g_ad G 0), .int a1] M) (QcI G r M1) 0 0 (g_A G) := by
  rw [F_X7_now] at hF
  refine x_start (by decide) (Nat.le_of_ble_eq_true rfl) (lv := [(0, .ref (g_ad G 0)), (1, .int a1)]) rfl ?_
  intro p e s m below meth c cx hr hW hS ls hl
  obtain ⟨hx, hb, hml, hown, hts, hKK, hSS, hlk⟩ := id cx
  refine lv_iload_n hx hb dX7_now_0 rfl (lv_at hl 1 rfl) ?_
  refine x_sw (0 : Int32) (fun c1 => ?_) (fun c1 => ?_)
  · have hF := it_p c1 hF
    refine x_tab (tgt := 44) cx dX7_now_1 c1 (by decide) (by decide) rfl (by decide) ?_
    refine lv_aload_n hx hb dX7_now_44 rfl (lv_at hl 0 rfl) ?_
    refine x_get cx hW kc_0 fk_X7_10 (v := .ref (g_ad G 2)) rfl dX7_now_45 ?_
    refine x_get cx hW kc_2 fk_X7_130 (v := .int (m_I M 2 0)) rfl dX7_now_48 ?_
    exact x_iret cx hr hW hS (sp_1 hF) (sp_2 hF) dX7_now_51
  · have hF := it_n c1 hF
    refine x_sw (1 : Int32) (fun c2 => ?_) (fun c2 => ?_)
    · have hF := it_p c2 hF
      refine x_tab (tgt := 52) cx dX7_now_1 c2 (by decide) (by decide) rfl (by decide) ?_
      refine lv_aload_n hx hb dX7_now_52 rfl (lv_at hl 0 rfl) ?_
      refine x_get cx hW kc_0 fk_X7_10 (v := .ref (g_ad G 2)) rfl dX7_now_53 ?_
      refine lv_aload_n hx hb dX7_now_56 rfl (lv_at hl 0 rfl) ?_
      refine x_get cx hW kc_0 fk_X7_10 (v := .ref (g_ad G 2)) rfl dX7_now_57 ?_
      refine x_get cx hW kc_2 fk_X7_76 (v := .ref (g_ad G 5)) rfl dX7_now_60 ?_
      obtain ⟨r4, hc3, hF⟩ := bi_e hF
      refine x_goi (x_runV cx hW hS (c_X4_total (l := l) (G := G) kc_2 kc_5 hc3) cv_X7_137 kc_2 rfl (rest := []) ⟨Nat.le_of_ble_eq_true rfl, Nat.le_of_ble_eq_true rfl⟩ hl.1 rfl rfl (Nat.le_of_ble_eq_true rfl) ⟨Nat.zero_le _, Nat.zero_le _⟩ dX7_now_63) hS (fun H locs hW hS => ?_)
      exact x_iret cx hr hW hS (sp_1 hF) (sp_2 hF) dX7_now_66
    · have hF := it_n c2 hF
      refine x_sw (2 : Int32) (fun c5 => ?_) (fun c5 => ?_)
      · have hF := it_p c5 hF
        refine x_tab (tgt := 67) cx dX7_now_1 c5 (by decide) (by decide) rfl (by decide) ?_
        refine lv_aload_n hx hb dX7_now_67 rfl (lv_at hl 0 rfl) ?_
        refine x_get cx hW kc_0 fk_X7_10 (v := .ref (g_ad G 2)) rfl dX7_now_68 ?_
        obtain ⟨r7, hc6, hF⟩ := bi_e hF
        refine x_goi (x_runV cx hW hS (c_X4_childrenSet (l := l) (G := G) kc_2 hc6) cv_X7_144 kc_2 rfl (rest := []) ⟨Nat.le_of_ble_eq_true rfl, Nat.le_of_ble_eq_true rfl⟩ hl.1 rfl rfl (Nat.le_of_ble_eq_true rfl) ⟨Nat.zero_le _, Nat.zero_le _⟩ dX7_now_71) hS (fun H locs hW hS => ?_)
        exact x_iret cx hr hW hS (sp_1 hF) (sp_2 hF) dX7_now_74
      · have hF := it_n c5 hF
        refine x_sw (3 : Int32) (fun c8 => ?_) (fun c8 => ?_)
        · have hF := it_p c8 hF
          refine x_tab (tgt := 75) cx dX7_now_1 c8 (by decide) (by decide) rfl (by decide) ?_
          refine lv_aload_n hx hb dX7_now_75 rfl (lv_at hl 0 rfl) ?_
          refine x_get cx hW kc_0 fk_X7_10 (v := .ref (g_ad G 2)) rfl dX7_now_76 ?_
          obtain ⟨r10, hc9, hF⟩ := bi_e hF
          refine x_goi (x_runV cx hW hS (c_X4_ownSet (l := l) (G := G) kc_2 hc9) cv_X7_147 kc_2 rfl (rest := []) ⟨Nat.le_of_ble_eq_true rfl, Nat.le_of_ble_eq_true rfl⟩ hl.1 rfl rfl (Nat.le_of_ble_eq_true rfl) ⟨Nat.zero_le _, Nat.zero_le _⟩ dX7_now_79) hS (fun H locs hW hS => ?_)
          exact x_iret cx hr hW hS (sp_1 hF) (sp_2 hF) dX7_now_82
        · have hF := it_n c8 hF
          refine x_sw (4 : Int32) (fun c11 => ?_) (fun c11 => ?_)
          · have hF := it_p c11 hF
            refine x_tab (tgt := 83) cx dX7_now_1 c11 (by decide) (by decide) rfl (by decide) ?_
            refine lv_aload_n hx hb dX7_now_83 rfl (lv_at hl 0 rfl) ?_
            refine x_get cx hW kc_0 fk_X7_10 (v := .ref (g_ad G 2)) rfl dX7_now_84 ?_
            obtain ⟨r13, hc12, hF⟩ := bi_e hF
            refine x_goi (x_runV cx hW hS (c_X4_earnings (l := l) (G := G) kc_2 hc12) cv_X7_150 kc_2 rfl (rest := []) ⟨Nat.le_of_ble_eq_true rfl, Nat.le_of_ble_eq_true rfl⟩ hl.1 rfl rfl (Nat.le_of_ble_eq_true rfl) ⟨Nat.zero_le _, Nat.zero_le _⟩ dX7_now_87) hS (fun H locs hW hS => ?_)
            exact x_iret cx hr hW hS (sp_1 hF) (sp_2 hF) dX7_now_90
          · have hF := it_n c11 hF
            refine x_sw (5 : Int32) (fun c14 => ?_) (fun c14 => ?_)
            · have hF := it_p c14 hF
              refine x_tab (tgt := 91) cx dX7_now_1 c14 (by decide) (by decide) rfl (by decide) ?_
              refine lv_aload_n hx hb dX7_now_91 rfl (lv_at hl 0 rfl) ?_
              refine x_get cx hW kc_0 fk_X7_10 (v := .ref (g_ad G 2)) rfl dX7_now_92 ?_
              obtain ⟨r16, hc15, hF⟩ := bi_e hF
              refine x_goi (x_runV cx hW hS (c_X4_isLotRight (l := l) (G := G) kc_2 hc15) cv_X7_153 kc_2 rfl (rest := []) ⟨Nat.le_of_ble_eq_true rfl, Nat.le_of_ble_eq_true rfl⟩ hl.1 rfl rfl (Nat.le_of_ble_eq_true rfl) ⟨Nat.zero_le _, Nat.zero_le _⟩ dX7_now_95) hS (fun H locs hW hS => ?_)
              refine lv_if_eq (tgt := 105) hx hb dX7_now_98 (by decide) (fun c17 => ?_) (fun c17 => ?_)
              · have hF := it_p c17 hF
                refine lv_iconst (v := (0 : Int32)) hx hb dX7_now_105 (by decide) ?_
                exact x_iret cx hr hW hS (sp_1 hF) (sp_2 hF) dX7_now_106
              · have hF := it_n c17 hF
                refine lv_iconst (v := (1 : Int32)) hx hb dX7_now_101 (by decide) ?_
                refine lv_goto (tgt := 106) hx hb dX7_now_102 (by decide) ?_
                exact x_iret cx hr hW hS (sp_1 hF) (sp_2 hF) dX7_now_106
            · have hF := it_n c14 hF
              refine x_sw (6 : Int32) (fun c18 => ?_) (fun c18 => ?_)
              · have hF := it_p c18 hF
                refine x_tab (tgt := 107) cx dX7_now_1 c18 (by decide) (by decide) rfl (by decide) ?_
                refine lv_aload_n hx hb dX7_now_107 rfl (lv_at hl 0 rfl) ?_
                refine x_get cx hW kc_0 fk_X7_10 (v := .ref (g_ad G 2)) rfl dX7_now_108 ?_
                refine lv_aload_n hx hb dX7_now_111 rfl (lv_at hl 0 rfl) ?_
                refine x_get cx hW kc_0 fk_X7_10 (v := .ref (g_ad G 2)) rfl dX7_now_112 ?_
                refine x_get cx hW kc_2 fk_X7_82 (v := .ref (g_ad G 7)) rfl dX7_now_115 ?_
                obtain ⟨r20, hc19, hF⟩ := bi_e hF
                refine x_goi (x_runV cx hW hS (c_X4_total (l := l) (G := G) kc_2 kc_7 hc19) cv_X7_137 kc_2 rfl (rest := []) ⟨Nat.le_of_ble_eq_true rfl, Nat.le_of_ble_eq_true rfl⟩ hl.1 rfl rfl (Nat.le_of_ble_eq_true rfl) ⟨Nat.zero_le _, Nat.zero_le _⟩ dX7_now_118) hS (fun H locs hW hS => ?_)
                exact x_iret cx hr hW hS (sp_1 hF) (sp_2 hF) dX7_now_121
              · have hF := it_n c18 hF
                refine lv_tableOut (tgt := 122) hx hb dX7_now_1 (by have z0 := lv_neT c1 (a := 0) (by decide); have z1 := lv_neT c2 (a := 1) (by decide); have z2 := lv_neT c5 (a := 2) (by decide); have z3 := lv_neT c8 (a := 3) (by decide); have z4 := lv_neT c11 (a := 4) (by decide); have z5 := lv_neT c14 (a := 5) (by decide); have z6 := lv_neT c18 (a := 6) (by decide); omega) (by decide) ?_
                refine lv_aload_n hx hb dX7_now_122 rfl (lv_at hl 0 rfl) ?_
                refine lv_iconst (v := (0 : Int32)) hx hb dX7_now_123 (by decide) ?_
                obtain ⟨r22, M23, hc21, hF⟩ := bn_e hF
                refine x_goi (x_runV cx hW hS (c_X7_finding (l := l) (G := G) hc21) cv_X7_56 kc_0 rfl (rest := []) ⟨Nat.le_of_ble_eq_true rfl, Nat.le_of_ble_eq_true rfl⟩ hl.1 rfl rfl (Nat.le_of_ble_eq_true rfl) ⟨Nat.zero_le _, Nat.zero_le _⟩ dX7_now_124) hS (fun H locs hW hS => ?_)
                exact x_iret cx hr hW hS (sp_1 hF) (sp_2 hF) dX7_now_127
def F_X7_who (a1 : Int32) (M : Mem) : Option (Int32 × Mem) := (F_X4_has 2 a1 M).bind (fun r2 => (if r2 = 0 then bn (F_X7_finding (0 : Int32) M) (fun r7 M8 => some (r7, M8)) else (F_X4_holder 2 a1 M).bind (fun r5 => some (r5, M))))
set_option maxHeartbeats 4000000 in
set_option maxRecDepth 100000 in
theorem c_X7_who {l : Launch} {G : GG} {a1 : Int32}  {M : Mem} {r : Int32} {M1 : Mem} (hF : F_X7_who a1 M = some (r, M1)) : Met l yX7_who (wz yX7_who cX7_who 2 (some .int)) (RM 1 22) (PreC G [.ref (g_ad G 0), .int a1] M) (QcI G r M1) 0 0 (g_A G) := by
  rw [F_X7_who] at hF
  refine x_start (by decide) (Nat.le_of_ble_eq_true rfl) (lv := [(0, .ref (g_ad G 0)), (1, .int a1)]) rfl ?_
  intro p e s m below meth c cx hr hW hS ls hl
  obtain ⟨hx, hb, hml, hown, hts, hKK, hSS, hlk⟩ := id cx
  refine lv_aload_n hx hb dX7_who_0 rfl (lv_at hl 0 rfl) ?_
  refine x_get cx hW kc_0 fk_X7_10 (v := .ref (g_ad G 2)) rfl dX7_who_1 ?_
  refine lv_iload_n hx hb dX7_who_4 rfl (lv_at hl 1 rfl) ?_
  obtain ⟨r2, hc1, hF⟩ := bi_e hF
  refine x_goi (x_runV cx hW hS (c_X4_has (l := l) (G := G) kc_2 hc1) cv_X7_67 kc_2 rfl (rest := []) ⟨Nat.le_of_ble_eq_true rfl, Nat.le_of_ble_eq_true rfl⟩ hl.1 rfl rfl (Nat.le_of_ble_eq_true rfl) ⟨Nat.zero_le _, Nat.zero_le _⟩ dX7_who_5) hS (fun H locs hW hS => ?_)
  refine lv_if_ne (tgt := 17) hx hb dX7_who_8 (by decide) (fun c3 => ?_) (fun c3 => ?_)
  · have hF := it_n c3 hF
    refine lv_aload_n hx hb dX7_who_17 rfl (lv_at hl 0 rfl) ?_
    refine x_get cx hW kc_0 fk_X7_10 (v := .ref (g_ad G 2)) rfl dX7_who_18 ?_
    refine lv_iload_n hx hb dX7_who_21 rfl (lv_at hl 1 rfl) ?_
    obtain ⟨r5, hc4, hF⟩ := bi_e hF
    refine x_goi (x_runV cx hW hS (c_X4_holder (l := l) (G := G) kc_2 hc4) cv_X7_156 kc_2 rfl (rest := []) ⟨Nat.le_of_ble_eq_true rfl, Nat.le_of_ble_eq_true rfl⟩ hl.1 rfl rfl (Nat.le_of_ble_eq_true rfl) ⟨Nat.zero_le _, Nat.zero_le _⟩ dX7_who_22) hS (fun H locs hW hS => ?_)
    exact x_iret cx hr hW hS (sp_1 hF) (sp_2 hF) dX7_who_25
  · have hF := it_p c3 hF
    refine lv_aload_n hx hb dX7_who_11 rfl (lv_at hl 0 rfl) ?_
    refine lv_iconst (v := (0 : Int32)) hx hb dX7_who_12 (by decide) ?_
    obtain ⟨r7, M8, hc6, hF⟩ := bn_e hF
    refine x_goi (x_runV cx hW hS (c_X7_finding (l := l) (G := G) hc6) cv_X7_56 kc_0 rfl (rest := []) ⟨Nat.le_of_ble_eq_true rfl, Nat.le_of_ble_eq_true rfl⟩ hl.1 rfl rfl (Nat.le_of_ble_eq_true rfl) ⟨Nat.zero_le _, Nat.zero_le _⟩ dX7_who_13) hS (fun H locs hW hS => ?_)
    exact x_iret cx hr hW hS (sp_1 hF) (sp_2 hF) dX7_who_16
def F_X7_ring (a1 : Int32) (M : Mem) : Option (Int32 × Mem) := (F_X4_has 2 a1 M).bind (fun r2 => (if r2 = 0 then bn (F_X7_finding (0 : Int32) M) (fun r7 M8 => some (r7, M8)) else (F_X4_ringSet 2 a1 M).bind (fun r5 => some (r5, M))))
set_option maxHeartbeats 4000000 in
set_option maxRecDepth 100000 in
theorem c_X7_ring {l : Launch} {G : GG} {a1 : Int32}  {M : Mem} {r : Int32} {M1 : Mem} (hF : F_X7_ring a1 M = some (r, M1)) : Met l yX7_ring (wz yX7_ring cX7_ring 2 (some .int)) (RM 1 24) (PreC G [.ref (g_ad G 0), .int a1] M) (QcI G r M1) 0 0 (g_A G) := by
  rw [F_X7_ring] at hF
  refine x_start (by decide) (Nat.le_of_ble_eq_true rfl) (lv := [(0, .ref (g_ad G 0)), (1, .int a1)]) rfl ?_
  intro p e s m below meth c cx hr hW hS ls hl
  obtain ⟨hx, hb, hml, hown, hts, hKK, hSS, hlk⟩ := id cx
  refine lv_aload_n hx hb dX7_ring_0 rfl (lv_at hl 0 rfl) ?_
  refine x_get cx hW kc_0 fk_X7_10 (v := .ref (g_ad G 2)) rfl dX7_ring_1 ?_
  refine lv_iload_n hx hb dX7_ring_4 rfl (lv_at hl 1 rfl) ?_
  obtain ⟨r2, hc1, hF⟩ := bi_e hF
  refine x_goi (x_runV cx hW hS (c_X4_has (l := l) (G := G) kc_2 hc1) cv_X7_67 kc_2 rfl (rest := []) ⟨Nat.le_of_ble_eq_true rfl, Nat.le_of_ble_eq_true rfl⟩ hl.1 rfl rfl (Nat.le_of_ble_eq_true rfl) ⟨Nat.zero_le _, Nat.zero_le _⟩ dX7_ring_5) hS (fun H locs hW hS => ?_)
  refine lv_if_ne (tgt := 17) hx hb dX7_ring_8 (by decide) (fun c3 => ?_) (fun c3 => ?_)
  · have hF := it_n c3 hF
    refine lv_aload_n hx hb dX7_ring_17 rfl (lv_at hl 0 rfl) ?_
    refine x_get cx hW kc_0 fk_X7_10 (v := .ref (g_ad G 2)) rfl dX7_ring_18 ?_
    refine lv_iload_n hx hb dX7_ring_21 rfl (lv_at hl 1 rfl) ?_
    obtain ⟨r5, hc4, hF⟩ := bi_e hF
    refine x_goi (x_runV cx hW hS (c_X4_ringSet (l := l) (G := G) kc_2 hc4) cv_X7_159 kc_2 rfl (rest := []) ⟨Nat.le_of_ble_eq_true rfl, Nat.le_of_ble_eq_true rfl⟩ hl.1 rfl rfl (Nat.le_of_ble_eq_true rfl) ⟨Nat.zero_le _, Nat.zero_le _⟩ dX7_ring_22) hS (fun H locs hW hS => ?_)
    exact x_iret cx hr hW hS (sp_1 hF) (sp_2 hF) dX7_ring_25
  · have hF := it_p c3 hF
    refine lv_aload_n hx hb dX7_ring_11 rfl (lv_at hl 0 rfl) ?_
    refine lv_iconst (v := (0 : Int32)) hx hb dX7_ring_12 (by decide) ?_
    obtain ⟨r7, M8, hc6, hF⟩ := bn_e hF
    refine x_goi (x_runV cx hW hS (c_X7_finding (l := l) (G := G) hc6) cv_X7_56 kc_0 rfl (rest := []) ⟨Nat.le_of_ble_eq_true rfl, Nat.le_of_ble_eq_true rfl⟩ hl.1 rfl rfl (Nat.le_of_ble_eq_true rfl) ⟨Nat.zero_le _, Nat.zero_le _⟩ dX7_ring_13) hS (fun H locs hW hS => ?_)
    exact x_iret cx hr hW hS (sp_1 hF) (sp_2 hF) dX7_ring_16
def F_X7_rings_6  (M : Mem) : Nat → Int32 → Int32 → Int32 → Option Int32
  | 0, _, _, _ => none
  | n + 1, x1, x2, x3 => (if (m_I M 2 2) ≤ x3 then some x2 else (if ((x1 >>> (x3 &&& 31)) &&& (1 : Int32)) = 0 then (F_X4_ringSet 2 x3 M).bind (fun r4 => F_X7_rings_6 M n (x1 ||| r4) (x2 + 1) (x3 + 1)) else F_X7_rings_6 M n x1 x2 (x3 + 1)))
set_option maxHeartbeats 4000000 in
set_option maxRecDepth 100000 in
theorem t_X7_rings_6 {p : Program} {l : Launch} {e : Env} {s : State} {m : MethodId} {args : Array Value} {below : List Frame} {meth : Method} {c : Code} {G : GG}  (cx : Cx G cX7_rings RX7 4 p s m args meth c) (hr : meth.sig.returnType = (some .int))   {M : Mem} {r : Int32} : ∀ (n : Nat) (x1 : Int32) (x2 : Int32) (x3 : Int32), F_X7_rings_6  M n x1 x2 x3 = some r → ∀ (H : Heap) (locs : List Loc) (ls : Array Slot), WH G M H → va_S (g_A G) s.heap H locs → lv_has ls 4 [(0, .ref (g_ad G 0)), (1, .int x1), (2, .int x2), (3, .int x3)] → W p l e (RM 1 24) s m args below meth c H locs 0 0 (MQ below (QcI G r M) args s 0 0 (g_A G)) (F0 m 6 ls []) := by
  obtain ⟨hx, hb, hml, hown, hts, hKK, hSS, hlk⟩ := id cx
  intro n
  induction n with
  | zero =>
    intro x1 x2 x3 hF H locs ls hW hS hl
    rw [F_X7_rings_6] at hF
    cases hF
  | succ n ih =>
    intro x1 x2 x3 hF H locs ls hW hS hl
    rw [F_X7_rings_6] at hF
    refine lv_iload_n hx hb dX7_rings_6 rfl (lv_at hl 3 rfl) ?_
    refine lv_aload_n hx hb dX7_rings_7 rfl (lv_at hl 0 rfl) ?_
    refine x_get cx hW kc_0 fk_X7_10 (v := .ref (g_ad G 2)) rfl dX7_rings_8 ?_
    refine x_get cx hW kc_2 fk_X7_117 (v := .int (m_I M 2 2)) rfl dX7_rings_11 ?_
    refine lv_icmp_ge (tgt := 45) hx hb dX7_rings_14 (by decide) (fun c1 => ?_) (fun c1 => ?_)
    · have hF := it_p c1 hF
      refine lv_iload_n hx hb dX7_rings_45 rfl (lv_at hl 2 rfl) ?_
      exact x_iret cx hr hW hS (Option.some.inj hF) rfl dX7_rings_46
    · have hF := it_n c1 hF
      refine lv_iload_n hx hb dX7_rings_17 rfl (lv_at hl 1 rfl) ?_
      refine lv_iload_n hx hb dX7_rings_18 rfl (lv_at hl 3 rfl) ?_
      refine lv_ishr hx hb dX7_rings_19 ?_
      refine lv_iconst (v := (1 : Int32)) hx hb dX7_rings_20 (by decide) ?_
      refine lv_iand hx hb dX7_rings_21 ?_
      refine lv_if_ne (tgt := 39) hx hb dX7_rings_22 (by decide) (fun c2 => ?_) (fun c2 => ?_)
      · have hF := it_n c2 hF
        refine lv_iinc (v := (x3 + 1)) (lv' := [(3, .int (x3 + 1)), (0, .ref (g_ad G 0)), (1, .int x1), (2, .int x2)]) hx hb dX7_rings_39 hl (k := 3) rfl rfl (by decide) rfl (fun ls hl => ?_)
        refine lv_goto (tgt := 6) hx hb dX7_rings_42 (by decide) ?_
        exact ih x1 x2 (x3 + 1) hF _ _ _ hW hS (lv_sub hl [1, 2, 3, 0] rfl)
      · have hF := it_p c2 hF
        refine lv_iload_n hx hb dX7_rings_25 rfl (lv_at hl 1 rfl) ?_
        refine lv_aload_n hx hb dX7_rings_26 rfl (lv_at hl 0 rfl) ?_
        refine x_get cx hW kc_0 fk_X7_10 (v := .ref (g_ad G 2)) rfl dX7_rings_27 ?_
        refine lv_iload_n hx hb dX7_rings_30 rfl (lv_at hl 3 rfl) ?_
        obtain ⟨r4, hc3, hF⟩ := bi_e hF
        refine x_goi (x_runV cx hW hS (c_X4_ringSet (l := l) (G := G) kc_2 hc3) cv_X7_159 kc_2 rfl (rest := [.int x1]) ⟨Nat.le_of_ble_eq_true rfl, Nat.le_of_ble_eq_true rfl⟩ hl.1 rfl rfl (Nat.le_of_ble_eq_true rfl) ⟨Nat.zero_le _, Nat.zero_le _⟩ dX7_rings_31) hS (fun H locs hW hS => ?_)
        refine lv_ior hx hb dX7_rings_34 ?_
        refine lv_istore_n (lv' := [(1, .int (x1 ||| r4)), (0, .ref (g_ad G 0)), (2, .int x2), (3, .int x3)]) hx hb dX7_rings_35 rfl hl (by decide) rfl (fun ls hl => ?_)
        refine lv_iinc (v := (x2 + 1)) (lv' := [(2, .int (x2 + 1)), (1, .int (x1 ||| r4)), (0, .ref (g_ad G 0)), (3, .int x3)]) hx hb dX7_rings_36 hl (k := 2) rfl rfl (by decide) rfl (fun ls hl => ?_)
        refine lv_iinc (v := (x3 + 1)) (lv' := [(3, .int (x3 + 1)), (2, .int (x2 + 1)), (1, .int (x1 ||| r4)), (0, .ref (g_ad G 0))]) hx hb dX7_rings_39 hl (k := 3) rfl rfl (by decide) rfl (fun ls hl => ?_)
        refine lv_goto (tgt := 6) hx hb dX7_rings_42 (by decide) ?_
        exact ih (x1 ||| r4) (x2 + 1) (x3 + 1) hF _ _ _ hW hS (lv_sub hl [3, 2, 1, 0] rfl)
def F_X7_rings (M : Mem) : Option Int32 := F_X7_rings_6 M FU (0 : Int32) (0 : Int32) (0 : Int32)
set_option maxHeartbeats 4000000 in
set_option maxRecDepth 100000 in
theorem c_X7_rings {l : Launch} {G : GG}   {M : Mem} {r : Int32} (hF : F_X7_rings M = some r) : Met l yX7_rings (wz yX7_rings cX7_rings 4 (some .int)) (RM 1 24) (PreC G [.ref (g_ad G 0)] M) (QcI G r M) 0 0 (g_A G) := by
  rw [F_X7_rings] at hF
  refine x_start (by decide) (Nat.le_of_ble_eq_true rfl) (lv := [(0, .ref (g_ad G 0))]) rfl ?_
  intro p e s m below meth c cx hr hW hS ls hl
  obtain ⟨hx, hb, hml, hown, hts, hKK, hSS, hlk⟩ := id cx
  refine lv_iconst (v := (0 : Int32)) hx hb dX7_rings_0 (by decide) ?_
  refine lv_istore_n (lv' := [(1, .int (0 : Int32)), (0, .ref (g_ad G 0))]) hx hb dX7_rings_1 rfl hl (by decide) rfl (fun ls hl => ?_)
  refine lv_iconst (v := (0 : Int32)) hx hb dX7_rings_2 (by decide) ?_
  refine lv_istore_n (lv' := [(2, .int (0 : Int32)), (1, .int (0 : Int32)), (0, .ref (g_ad G 0))]) hx hb dX7_rings_3 rfl hl (by decide) rfl (fun ls hl => ?_)
  refine lv_iconst (v := (0 : Int32)) hx hb dX7_rings_4 (by decide) ?_
  refine lv_istore_n (lv' := [(3, .int (0 : Int32)), (2, .int (0 : Int32)), (1, .int (0 : Int32)), (0, .ref (g_ad G 0))]) hx hb dX7_rings_5 rfl hl (by decide) rfl (fun ls hl => ?_)
  exact t_X7_rings_6 cx hr FU (0 : Int32) (0 : Int32) (0 : Int32) hF _ _ _ hW hS (lv_sub hl [3, 2, 1, 0] rfl)
def F_X7_pairs_4  (M : Mem) : Nat → Int32 → Int32 → Option Int32
  | 0, _, _ => none
  | n + 1, x1, x2 => (if (m_I M 2 2) ≤ x2 then some x1 else ix 8 x2 (fun j2 => (if (m_I M 8 j2) ≤ x2 then F_X7_pairs_4 M n x1 (x2 + 1) else ix 8 (m_I M 8 j2) (fun j4 => (if (m_I M 8 j4) = x2 then F_X7_pairs_4 M n (x1 + 1) (x2 + 1) else F_X7_pairs_4 M n x1 (x2 + 1))))))
set_option maxHeartbeats 4000000 in
set_option maxRecDepth 100000 in
theorem t_X7_pairs_4 {p : Program} {l : Launch} {e : Env} {s : State} {m : MethodId} {args : Array Value} {below : List Frame} {meth : Method} {c : Code} {G : GG}  (cx : Cx G cX7_pairs RX7 4 p s m args meth c) (hr : meth.sig.returnType = (some .int))   {M : Mem} {r : Int32} : ∀ (n : Nat) (x1 : Int32) (x2 : Int32), F_X7_pairs_4  M n x1 x2 = some r → ∀ (H : Heap) (locs : List Loc) (ls : Array Slot), WH G M H → va_S (g_A G) s.heap H locs → lv_has ls 4 [(0, .ref (g_ad G 0)), (1, .int x1), (2, .int x2)] → W p l e (RM 0 0) s m args below meth c H locs 0 0 (MQ below (QcI G r M) args s 0 0 (g_A G)) (F0 m 4 ls []) := by
  obtain ⟨hx, hb, hml, hown, hts, hKK, hSS, hlk⟩ := id cx
  intro n
  induction n with
  | zero =>
    intro x1 x2 hF H locs ls hW hS hl
    rw [F_X7_pairs_4] at hF
    cases hF
  | succ n ih =>
    intro x1 x2 hF H locs ls hW hS hl
    rw [F_X7_pairs_4] at hF
    refine lv_iload_n hx hb dX7_pairs_4 rfl (lv_at hl 2 rfl) ?_
    refine lv_aload_n hx hb dX7_pairs_5 rfl (lv_at hl 0 rfl) ?_
    refine x_get cx hW kc_0 fk_X7_10 (v := .ref (g_ad G 2)) rfl dX7_pairs_6 ?_
    refine x_get cx hW kc_2 fk_X7_117 (v := .int (m_I M 2 2)) rfl dX7_pairs_9 ?_
    refine lv_icmp_ge (tgt := 52) hx hb dX7_pairs_12 (by decide) (fun c1 => ?_) (fun c1 => ?_)
    · have hF := it_p c1 hF
      refine lv_iload_n hx hb dX7_pairs_52 rfl (lv_at hl 1 rfl) ?_
      exact x_iret cx hr hW hS (Option.some.inj hF) rfl dX7_pairs_53
    · have hF := it_n c1 hF
      refine lv_aload_n hx hb dX7_pairs_15 rfl (lv_at hl 0 rfl) ?_
      refine x_get cx hW kc_0 fk_X7_10 (v := .ref (g_ad G 2)) rfl dX7_pairs_16 ?_
      refine x_get cx hW kc_2 fk_X7_85 (v := .ref (g_ad G 8)) rfl dX7_pairs_19 ?_
      refine lv_iload_n hx hb dX7_pairs_22 rfl (lv_at hl 2 rfl) ?_
      obtain ⟨j2, hj2, gj2, hF⟩ := ix_e hF
      refine x_iald cx hW kc_8 (by decide) hj2 gj2 dX7_pairs_23 ?_
      refine lv_istore_n (lv' := [(3, .int (m_I M 8 j2)), (0, .ref (g_ad G 0)), (1, .int x1), (2, .int x2)]) hx hb dX7_pairs_24 rfl hl (by decide) rfl (fun ls hl => ?_)
      refine lv_iload_n hx hb dX7_pairs_25 rfl (lv_at hl 0 rfl) ?_
      refine lv_iload_n hx hb dX7_pairs_26 rfl (lv_at hl 3 rfl) ?_
      refine lv_icmp_le (tgt := 46) hx hb dX7_pairs_27 (by decide) (fun c3 => ?_) (fun c3 => ?_)
      · have hF := it_p c3 hF
        refine lv_iinc (v := (x2 + 1)) (lv' := [(2, .int (x2 + 1)), (3, .int (m_I M 8 j2)), (0, .ref (g_ad G 0)), (1, .int x1)]) hx hb dX7_pairs_46 hl (k := 3) rfl rfl (by decide) rfl (fun ls hl => ?_)
        refine lv_goto (tgt := 4) hx hb dX7_pairs_49 (by decide) ?_
        exact ih x1 (x2 + 1) hF _ _ _ hW hS (lv_sub hl [2, 3, 0] rfl)
      · have hF := it_n c3 hF
        refine lv_aload_n hx hb dX7_pairs_30 rfl (lv_at hl 1 rfl) ?_
        refine x_get cx hW kc_0 fk_X7_10 (v := .ref (g_ad G 2)) rfl dX7_pairs_31 ?_
        refine x_get cx hW kc_2 fk_X7_85 (v := .ref (g_ad G 8)) rfl dX7_pairs_34 ?_
        refine lv_iload_n hx hb dX7_pairs_37 rfl (lv_at hl 0 rfl) ?_
        obtain ⟨j4, hj4, gj4, hF⟩ := ix_e hF
        refine x_iald cx hW kc_8 (by decide) hj4 gj4 dX7_pairs_38 ?_
        refine lv_iload_n hx hb dX7_pairs_39 rfl (lv_at hl 3 rfl) ?_
        refine lv_icmp_ne (tgt := 46) hx hb dX7_pairs_40 (by decide) (fun c5 => ?_) (fun c5 => ?_)
        · have hF := it_n c5 hF
          refine lv_iinc (v := (x2 + 1)) (lv' := [(2, .int (x2 + 1)), (3, .int (m_I M 8 j2)), (0, .ref (g_ad G 0)), (1, .int x1)]) hx hb dX7_pairs_46 hl (k := 3) rfl rfl (by decide) rfl (fun ls hl => ?_)
          refine lv_goto (tgt := 4) hx hb dX7_pairs_49 (by decide) ?_
          exact ih x1 (x2 + 1) hF _ _ _ hW hS (lv_sub hl [2, 3, 0] rfl)
        · have hF := it_p c5 hF
          refine lv_iinc (v := (x1 + 1)) (lv' := [(1, .int (x1 + 1)), (3, .int (m_I M 8 j2)), (0, .ref (g_ad G 0)), (2, .int x2)]) hx hb dX7_pairs_43 hl (k := 2) rfl rfl (by decide) rfl (fun ls hl => ?_)
          refine lv_iinc (v := (x2 + 1)) (lv' := [(2, .int (x2 + 1)), (1, .int (x1 + 1)), (3, .int (m_I M 8 j2)), (0, .ref (g_ad G 0))]) hx hb dX7_pairs_46 hl (k := 3) rfl rfl (by decide) rfl (fun ls hl => ?_)
          refine lv_goto (tgt := 4) hx hb dX7_pairs_49 (by decide) ?_
          exact ih (x1 + 1) (x2 + 1) hF _ _ _ hW hS (lv_sub hl [3, 1, 0] rfl)
def F_X7_pairs (M : Mem) : Option Int32 := F_X7_pairs_4 M FU (0 : Int32) (0 : Int32)
set_option maxHeartbeats 4000000 in
set_option maxRecDepth 100000 in
theorem c_X7_pairs {l : Launch} {G : GG}   {M : Mem} {r : Int32} (hF : F_X7_pairs M = some r) : Met l yX7_pairs (wz yX7_pairs cX7_pairs 4 (some .int)) (RM 0 0) (PreC G [.ref (g_ad G 0)] M) (QcI G r M) 0 0 (g_A G) := by
  rw [F_X7_pairs] at hF
  refine x_start (by decide) (Nat.le_of_ble_eq_true rfl) (lv := [(0, .ref (g_ad G 0))]) rfl ?_
  intro p e s m below meth c cx hr hW hS ls hl
  obtain ⟨hx, hb, hml, hown, hts, hKK, hSS, hlk⟩ := id cx
  refine lv_iconst (v := (0 : Int32)) hx hb dX7_pairs_0 (by decide) ?_
  refine lv_istore_n (lv' := [(1, .int (0 : Int32)), (0, .ref (g_ad G 0))]) hx hb dX7_pairs_1 rfl hl (by decide) rfl (fun ls hl => ?_)
  refine lv_iconst (v := (0 : Int32)) hx hb dX7_pairs_2 (by decide) ?_
  refine lv_istore_n (lv' := [(2, .int (0 : Int32)), (1, .int (0 : Int32)), (0, .ref (g_ad G 0))]) hx hb dX7_pairs_3 rfl hl (by decide) rfl (fun ls hl => ?_)
  exact t_X7_pairs_4 cx hr FU (0 : Int32) (0 : Int32) hF _ _ _ hW hS (lv_sub hl [2, 1, 0] rfl)
def F_X7_on (a1 : Int32) (a2 : Int32) (a3 : Int32) (M : Mem) : Option (Int32 × Mem) := (F_X4_has 2 a1 M).bind (fun r2 => (if r2 = 0 then bn (F_X7_finding (0 : Int32) M) (fun r5 M6 => some (r5, M6)) else (if a2 < 0 then bn (F_X7_finding (0 : Int32) M) (fun r9 M10 => some (r9, M10)) else (if (60 : Int32) < a2 then bn (F_X7_finding (0 : Int32) M) (fun r13 M14 => some (r13, M14)) else (if a3 < 0 then bn (F_X7_finding (0 : Int32) M) (fun r17 M18 => some (r17, M18)) else (if a3 ≤ (2 : Int32) then (F_X4_become 24 2 M).bind (fun M21 => (F_X4_passFridays 24 a2 M21).bind (fun M23 => (if a3 = (0 : Int32) then ix 8 a1 (fun j25 => some ((m_I M23 27 j25), M23)) else (if a3 = (1 : Int32) then ix 8 a1 (fun j27 => some ((m_I M23 28 j27), M23)) else ix 8 a1 (fun j28 => some ((m_I M23 29 j28), M23)))))) else bn (F_X7_finding (0 : Int32) M) (fun r30 M31 => some (r30, M31))))))))
set_option maxHeartbeats 4000000 in
set_option maxRecDepth 100000 in
theorem c_X7_on {l : Launch} {G : GG} {a1 : Int32} {a2 : Int32} {a3 : Int32}  {M : Mem} {r : Int32} {M1 : Mem} (hF : F_X7_on a1 a2 a3 M = some (r, M1)) : Met l yX7_on (wz yX7_on cX7_on 4 (some .int)) (RM 6 137) (PreC G [.ref (g_ad G 0), .int a1, .int a2, .int a3] M) (QcI G r M1) 0 0 (g_A G) := by
  rw [F_X7_on] at hF
  refine x_start (by decide) (Nat.le_of_ble_eq_true rfl) (lv := [(0, .ref (g_ad G 0)), (1, .int a1), (2, .int a2), (3, .int a3)]) rfl ?_
  intro p e s m below meth c cx hr hW hS ls hl
  obtain ⟨hx, hb, hml, hown, hts, hKK, hSS, hlk⟩ := id cx
  refine lv_aload_n hx hb dX7_on_0 rfl (lv_at hl 0 rfl) ?_
  refine x_get cx hW kc_0 fk_X7_10 (v := .ref (g_ad G 2)) rfl dX7_on_1 ?_
  refine lv_iload_n hx hb dX7_on_4 rfl (lv_at hl 1 rfl) ?_
  obtain ⟨r2, hc1, hF⟩ := bi_e hF
  refine x_goi (x_runV cx hW hS (c_X4_has (l := l) (G := G) kc_2 hc1) cv_X7_67 kc_2 rfl (rest := []) ⟨Nat.le_of_ble_eq_true rfl, Nat.le_of_ble_eq_true rfl⟩ hl.1 rfl rfl (Nat.le_of_ble_eq_true rfl) ⟨Nat.zero_le _, Nat.zero_le _⟩ dX7_on_5) hS (fun H locs hW hS => ?_)
  refine lv_if_eq (tgt := 30) hx hb dX7_on_8 (by decide) (fun c3 => ?_) (fun c3 => ?_)
  · have hF := it_p c3 hF
    refine lv_aload_n hx hb dX7_on_30 rfl (lv_at hl 0 rfl) ?_
    refine lv_iconst (v := (0 : Int32)) hx hb dX7_on_31 (by decide) ?_
    obtain ⟨r5, M6, hc4, hF⟩ := bn_e hF
    refine x_goi (x_runV cx hW hS (c_X7_finding (l := l) (G := G) hc4) cv_X7_56 kc_0 rfl (rest := []) ⟨Nat.le_of_ble_eq_true rfl, Nat.le_of_ble_eq_true rfl⟩ hl.1 rfl rfl (Nat.le_of_ble_eq_true rfl) ⟨Nat.zero_le _, Nat.zero_le _⟩ dX7_on_32) hS (fun H locs hW hS => ?_)
    exact x_iret cx hr hW hS (sp_1 hF) (sp_2 hF) dX7_on_35
  · have hF := it_n c3 hF
    refine lv_iload_n hx hb dX7_on_11 rfl (lv_at hl 2 rfl) ?_
    refine lv_if_lt (tgt := 30) hx hb dX7_on_12 (by decide) (fun c7 => ?_) (fun c7 => ?_)
    · have hF := it_p c7 hF
      refine lv_aload_n hx hb dX7_on_30 rfl (lv_at hl 0 rfl) ?_
      refine lv_iconst (v := (0 : Int32)) hx hb dX7_on_31 (by decide) ?_
      obtain ⟨r9, M10, hc8, hF⟩ := bn_e hF
      refine x_goi (x_runV cx hW hS (c_X7_finding (l := l) (G := G) hc8) cv_X7_56 kc_0 rfl (rest := []) ⟨Nat.le_of_ble_eq_true rfl, Nat.le_of_ble_eq_true rfl⟩ hl.1 rfl rfl (Nat.le_of_ble_eq_true rfl) ⟨Nat.zero_le _, Nat.zero_le _⟩ dX7_on_32) hS (fun H locs hW hS => ?_)
      exact x_iret cx hr hW hS (sp_1 hF) (sp_2 hF) dX7_on_35
    · have hF := it_n c7 hF
      refine lv_iload_n hx hb dX7_on_15 rfl (lv_at hl 2 rfl) ?_
      refine lv_bipush (v := (60 : Int32)) hx hb dX7_on_16 (by decide) ?_
      refine lv_icmp_gt (tgt := 30) hx hb dX7_on_18 (by decide) (fun c11 => ?_) (fun c11 => ?_)
      · have hF := it_p c11 hF
        refine lv_aload_n hx hb dX7_on_30 rfl (lv_at hl 0 rfl) ?_
        refine lv_iconst (v := (0 : Int32)) hx hb dX7_on_31 (by decide) ?_
        obtain ⟨r13, M14, hc12, hF⟩ := bn_e hF
        refine x_goi (x_runV cx hW hS (c_X7_finding (l := l) (G := G) hc12) cv_X7_56 kc_0 rfl (rest := []) ⟨Nat.le_of_ble_eq_true rfl, Nat.le_of_ble_eq_true rfl⟩ hl.1 rfl rfl (Nat.le_of_ble_eq_true rfl) ⟨Nat.zero_le _, Nat.zero_le _⟩ dX7_on_32) hS (fun H locs hW hS => ?_)
        exact x_iret cx hr hW hS (sp_1 hF) (sp_2 hF) dX7_on_35
      · have hF := it_n c11 hF
        refine lv_iload_n hx hb dX7_on_21 rfl (lv_at hl 3 rfl) ?_
        refine lv_if_lt (tgt := 30) hx hb dX7_on_22 (by decide) (fun c15 => ?_) (fun c15 => ?_)
        · have hF := it_p c15 hF
          refine lv_aload_n hx hb dX7_on_30 rfl (lv_at hl 0 rfl) ?_
          refine lv_iconst (v := (0 : Int32)) hx hb dX7_on_31 (by decide) ?_
          obtain ⟨r17, M18, hc16, hF⟩ := bn_e hF
          refine x_goi (x_runV cx hW hS (c_X7_finding (l := l) (G := G) hc16) cv_X7_56 kc_0 rfl (rest := []) ⟨Nat.le_of_ble_eq_true rfl, Nat.le_of_ble_eq_true rfl⟩ hl.1 rfl rfl (Nat.le_of_ble_eq_true rfl) ⟨Nat.zero_le _, Nat.zero_le _⟩ dX7_on_32) hS (fun H locs hW hS => ?_)
          exact x_iret cx hr hW hS (sp_1 hF) (sp_2 hF) dX7_on_35
        · have hF := it_n c15 hF
          refine lv_iload_n hx hb dX7_on_25 rfl (lv_at hl 3 rfl) ?_
          refine lv_iconst (v := (2 : Int32)) hx hb dX7_on_26 (by decide) ?_
          refine lv_icmp_le (tgt := 36) hx hb dX7_on_27 (by decide) (fun c19 => ?_) (fun c19 => ?_)
          · have hF := it_p c19 hF
            refine lv_aload_n hx hb dX7_on_36 rfl (lv_at hl 0 rfl) ?_
            refine x_get cx hW kc_0 fk_X7_19 (v := .ref (g_ad G 24)) rfl dX7_on_37 ?_
            refine lv_aload_n hx hb dX7_on_40 rfl (lv_at hl 0 rfl) ?_
            refine x_get cx hW kc_0 fk_X7_10 (v := .ref (g_ad G 2)) rfl dX7_on_41 ?_
            obtain ⟨M21, hc20, hF⟩ := bi_e hF
            refine x_gov (x_runV cx hW hS (c_X4_become (l := l) (G := G) kc_24 kc_2 hc20) cv_X7_162 kc_24 rfl (rest := []) ⟨Nat.le_of_ble_eq_true rfl, Nat.le_of_ble_eq_true rfl⟩ hl.1 rfl rfl (Nat.le_of_ble_eq_true rfl) ⟨Nat.zero_le _, Nat.zero_le _⟩ dX7_on_44) hS (fun H locs hW hS => ?_)
            refine lv_aload_n hx hb dX7_on_47 rfl (lv_at hl 0 rfl) ?_
            refine x_get cx hW kc_0 fk_X7_19 (v := .ref (g_ad G 24)) rfl dX7_on_48 ?_
            refine lv_iload_n hx hb dX7_on_51 rfl (lv_at hl 2 rfl) ?_
            obtain ⟨M23, hc22, hF⟩ := bi_e hF
            refine x_gov (x_runV cx hW hS (c_X4_passFridays (l := l) (G := G) kc_24 hc22) cv_X7_133 kc_24 rfl (rest := []) ⟨Nat.le_of_ble_eq_true rfl, Nat.le_of_ble_eq_true rfl⟩ hl.1 rfl rfl (Nat.le_of_ble_eq_true rfl) ⟨Nat.zero_le _, Nat.zero_le _⟩ dX7_on_52) hS (fun H locs hW hS => ?_)
            refine lv_iload_n hx hb dX7_on_55 rfl (lv_at hl 3 rfl) ?_
            refine x_sw (0 : Int32) (fun c24 => ?_) (fun c24 => ?_)
            · have hF := it_p c24 hF
              refine x_lkp (tgt := 84) (off := 28) cx dX7_on_56 (by decide) c24 (by decide) (by decide) ?_
              refine lv_aload_n hx hb dX7_on_84 rfl (lv_at hl 0 rfl) ?_
              refine x_get cx hW kc_0 fk_X7_19 (v := .ref (g_ad G 24)) rfl dX7_on_85 ?_
              refine x_get cx hW kc_24 fk_X7_76 (v := .ref (g_ad G 27)) rfl dX7_on_88 ?_
              refine lv_iload_n hx hb dX7_on_91 rfl (lv_at hl 1 rfl) ?_
              obtain ⟨j25, hj25, gj25, hF⟩ := ix_e hF
              refine x_iald cx hW kc_27 (by decide) hj25 gj25 dX7_on_92 ?_
              exact x_iret cx hr hW hS (sp_1 hF) (sp_2 hF) dX7_on_93
            · have hF := it_n c24 hF
              refine x_sw (1 : Int32) (fun c26 => ?_) (fun c26 => ?_)
              · have hF := it_p c26 hF
                refine x_lkp (tgt := 94) (off := 38) cx dX7_on_56 (by decide) c26 (by decide) (by decide) ?_
                refine lv_aload_n hx hb dX7_on_94 rfl (lv_at hl 0 rfl) ?_
                refine x_get cx hW kc_0 fk_X7_19 (v := .ref (g_ad G 24)) rfl dX7_on_95 ?_
                refine x_get cx hW kc_24 fk_X7_79 (v := .ref (g_ad G 28)) rfl dX7_on_98 ?_
                refine lv_iload_n hx hb dX7_on_101 rfl (lv_at hl 1 rfl) ?_
                obtain ⟨j27, hj27, gj27, hF⟩ := ix_e hF
                refine x_iald cx hW kc_28 (by decide) hj27 gj27 dX7_on_102 ?_
                exact x_iret cx hr hW hS (sp_1 hF) (sp_2 hF) dX7_on_103
              · have hF := it_n c26 hF
                refine lv_lookup (tgt := 104) (off := 48) hx hb dX7_on_56 (by decide) ((lv_osw (k := 0) c24 (by decide)).trans ((lv_osw (k := 1) c26 (by decide)).trans rfl)) (by decide) ?_
                refine lv_aload_n hx hb dX7_on_104 rfl (lv_at hl 0 rfl) ?_
                refine x_get cx hW kc_0 fk_X7_19 (v := .ref (g_ad G 24)) rfl dX7_on_105 ?_
                refine x_get cx hW kc_24 fk_X7_82 (v := .ref (g_ad G 29)) rfl dX7_on_108 ?_
                refine lv_iload_n hx hb dX7_on_111 rfl (lv_at hl 1 rfl) ?_
                obtain ⟨j28, hj28, gj28, hF⟩ := ix_e hF
                refine x_iald cx hW kc_29 (by decide) hj28 gj28 dX7_on_112 ?_
                exact x_iret cx hr hW hS (sp_1 hF) (sp_2 hF) dX7_on_113
          · have hF := it_n c19 hF
            refine lv_aload_n hx hb dX7_on_30 rfl (lv_at hl 0 rfl) ?_
            refine lv_iconst (v := (0 : Int32)) hx hb dX7_on_31 (by decide) ?_
            obtain ⟨r30, M31, hc29, hF⟩ := bn_e hF
            refine x_goi (x_runV cx hW hS (c_X7_finding (l := l) (G := G) hc29) cv_X7_56 kc_0 rfl (rest := []) ⟨Nat.le_of_ble_eq_true rfl, Nat.le_of_ble_eq_true rfl⟩ hl.1 rfl rfl (Nat.le_of_ble_eq_true rfl) ⟨Nat.zero_le _, Nat.zero_le _⟩ dX7_on_32) hS (fun H locs hW hS => ?_)
            exact x_iret cx hr hW hS (sp_1 hF) (sp_2 hF) dX7_on_35
def F_X7_itself_30 (a1 : Int32) : Nat → Int32 → Mem → Option (Int32 × Mem)
  | 0, _, _ => none
  | n + 1, x2, M => (if (60 : Int32) < x2 then bn (F_X7_finding (3 : Int32) M) (fun r8 M9 => some (r8, M9)) else (F_X4_drawLot 24 M).bind (fun M11 => ix 8 a1 (fun j12 => (if (m_I M11 30 j12) = a1 then some (x2, M11) else F_X7_itself_30 a1 n (x2 + 1) M11))))
set_option maxHeartbeats 4000000 in
set_option maxRecDepth 100000 in
theorem t_X7_itself_30 {p : Program} {l : Launch} {e : Env} {s : State} {m : MethodId} {args : Array Value} {below : List Frame} {meth : Method} {c : Code} {G : GG} {a1 : Int32} (cx : Cx G cX7_itself RX7 3 p s m args meth c) (hr : meth.sig.returnType = (some .int))   {r : Int32} {M1 : Mem} : ∀ (n : Nat) (x2 : Int32) (M : Mem), F_X7_itself_30 a1 n x2 M = some (r, M1) → ∀ (H : Heap) (locs : List Loc) (ls : Array Slot), WH G M H → va_S (g_A G) s.heap H locs → lv_has ls 3 [(0, .ref (g_ad G 0)), (1, .int a1), (2, .int x2)] → W p l e (RM 3 66) s m args below meth c H locs 0 0 (MQ below (QcI G r M1) args s 0 0 (g_A G)) (F0 m 30 ls []) := by
  obtain ⟨hx, hb, hml, hown, hts, hKK, hSS, hlk⟩ := id cx
  intro n
  induction n with
  | zero =>
    intro x2 M hF H locs ls hW hS hl
    rw [F_X7_itself_30] at hF
    cases hF
  | succ n ih =>
    intro x2 M hF H locs ls hW hS hl
    rw [F_X7_itself_30] at hF
    refine lv_iload_n hx hb dX7_itself_30 rfl (lv_at hl 2 rfl) ?_
    refine lv_bipush (v := (60 : Int32)) hx hb dX7_itself_31 (by decide) ?_
    refine lv_icmp_gt (tgt := 64) hx hb dX7_itself_33 (by decide) (fun c6 => ?_) (fun c6 => ?_)
    · have hF := it_p c6 hF
      refine lv_aload_n hx hb dX7_itself_64 rfl (lv_at hl 0 rfl) ?_
      refine lv_iconst (v := (3 : Int32)) hx hb dX7_itself_65 (by decide) ?_
      obtain ⟨r8, M9, hc7, hF⟩ := bn_e hF
      refine x_goi (x_runV cx hW hS (c_X7_finding (l := l) (G := G) hc7) cv_X7_56 kc_0 rfl (rest := []) ⟨Nat.le_of_ble_eq_true rfl, Nat.le_of_ble_eq_true rfl⟩ hl.1 rfl rfl (Nat.le_of_ble_eq_true rfl) ⟨Nat.zero_le _, Nat.zero_le _⟩ dX7_itself_66) hS (fun H locs hW hS => ?_)
      exact x_iret cx hr hW hS (sp_1 hF) (sp_2 hF) dX7_itself_69
    · have hF := it_n c6 hF
      refine lv_aload_n hx hb dX7_itself_36 rfl (lv_at hl 0 rfl) ?_
      refine x_get cx hW kc_0 fk_X7_19 (v := .ref (g_ad G 24)) rfl dX7_itself_37 ?_
      obtain ⟨M11, hc10, hF⟩ := bi_e hF
      refine x_gov (x_runV cx hW hS (c_X4_drawLot (l := l) (G := G) kc_24 hc10) cv_X7_124 kc_24 rfl (rest := []) ⟨Nat.le_of_ble_eq_true rfl, Nat.le_of_ble_eq_true rfl⟩ hl.1 rfl rfl (Nat.le_of_ble_eq_true rfl) ⟨Nat.zero_le _, Nat.zero_le _⟩ dX7_itself_40) hS (fun H locs hW hS => ?_)
      refine lv_aload_n hx hb dX7_itself_43 rfl (lv_at hl 0 rfl) ?_
      refine x_get cx hW kc_0 fk_X7_19 (v := .ref (g_ad G 24)) rfl dX7_itself_44 ?_
      refine x_get cx hW kc_24 fk_X7_85 (v := .ref (g_ad G 30)) rfl dX7_itself_47 ?_
      refine lv_iload_n hx hb dX7_itself_50 rfl (lv_at hl 1 rfl) ?_
      obtain ⟨j12, hj12, gj12, hF⟩ := ix_e hF
      refine x_iald cx hW kc_30 (by decide) hj12 gj12 dX7_itself_51 ?_
      refine lv_iload_n hx hb dX7_itself_52 rfl (lv_at hl 1 rfl) ?_
      refine lv_icmp_ne (tgt := 58) hx hb dX7_itself_53 (by decide) (fun c13 => ?_) (fun c13 => ?_)
      · have hF := it_n c13 hF
        refine lv_iinc (v := (x2 + 1)) (lv' := [(2, .int (x2 + 1)), (0, .ref (g_ad G 0)), (1, .int a1)]) hx hb dX7_itself_58 hl (k := 2) rfl rfl (by decide) rfl (fun ls hl => ?_)
        refine lv_goto (tgt := 30) hx hb dX7_itself_61 (by decide) ?_
        exact ih (x2 + 1) M11 hF _ _ _ hW hS (lv_sub hl [1, 2, 0] rfl)
      · have hF := it_p c13 hF
        refine lv_iload_n hx hb dX7_itself_56 rfl (lv_at hl 2 rfl) ?_
        exact x_iret cx hr hW hS (sp_1 hF) (sp_2 hF) dX7_itself_57
def F_X7_itself (a1 : Int32) (M : Mem) : Option (Int32 × Mem) := (F_X4_has 2 a1 M).bind (fun r2 => (if r2 = 0 then bn (F_X7_finding (0 : Int32) M) (fun r15 M16 => some (r15, M16)) else (F_X4_become 24 2 M).bind (fun M5 => F_X7_itself_30 a1 FU (1 : Int32) M5)))
set_option maxHeartbeats 4000000 in
set_option maxRecDepth 100000 in
theorem c_X7_itself {l : Launch} {G : GG} {a1 : Int32}  {M : Mem} {r : Int32} {M1 : Mem} (hF : F_X7_itself a1 M = some (r, M1)) : Met l yX7_itself (wz yX7_itself cX7_itself 3 (some .int)) (RM 3 66) (PreC G [.ref (g_ad G 0), .int a1] M) (QcI G r M1) 0 0 (g_A G) := by
  rw [F_X7_itself] at hF
  refine x_start (by decide) (Nat.le_of_ble_eq_true rfl) (lv := [(0, .ref (g_ad G 0)), (1, .int a1)]) rfl ?_
  intro p e s m below meth c cx hr hW hS ls hl
  obtain ⟨hx, hb, hml, hown, hts, hKK, hSS, hlk⟩ := id cx
  refine lv_aload_n hx hb dX7_itself_0 rfl (lv_at hl 0 rfl) ?_
  refine x_get cx hW kc_0 fk_X7_10 (v := .ref (g_ad G 2)) rfl dX7_itself_1 ?_
  refine lv_iload_n hx hb dX7_itself_4 rfl (lv_at hl 1 rfl) ?_
  obtain ⟨r2, hc1, hF⟩ := bi_e hF
  refine x_goi (x_runV cx hW hS (c_X4_has (l := l) (G := G) kc_2 hc1) cv_X7_67 kc_2 rfl (rest := []) ⟨Nat.le_of_ble_eq_true rfl, Nat.le_of_ble_eq_true rfl⟩ hl.1 rfl rfl (Nat.le_of_ble_eq_true rfl) ⟨Nat.zero_le _, Nat.zero_le _⟩ dX7_itself_5) hS (fun H locs hW hS => ?_)
  refine lv_if_ne (tgt := 17) hx hb dX7_itself_8 (by decide) (fun c3 => ?_) (fun c3 => ?_)
  · have hF := it_n c3 hF
    refine lv_aload_n hx hb dX7_itself_17 rfl (lv_at hl 0 rfl) ?_
    refine x_get cx hW kc_0 fk_X7_19 (v := .ref (g_ad G 24)) rfl dX7_itself_18 ?_
    refine lv_aload_n hx hb dX7_itself_21 rfl (lv_at hl 0 rfl) ?_
    refine x_get cx hW kc_0 fk_X7_10 (v := .ref (g_ad G 2)) rfl dX7_itself_22 ?_
    obtain ⟨M5, hc4, hF⟩ := bi_e hF
    refine x_gov (x_runV cx hW hS (c_X4_become (l := l) (G := G) kc_24 kc_2 hc4) cv_X7_162 kc_24 rfl (rest := []) ⟨Nat.le_of_ble_eq_true rfl, Nat.le_of_ble_eq_true rfl⟩ hl.1 rfl rfl (Nat.le_of_ble_eq_true rfl) ⟨Nat.zero_le _, Nat.zero_le _⟩ dX7_itself_25) hS (fun H locs hW hS => ?_)
    refine lv_iconst (v := (1 : Int32)) hx hb dX7_itself_28 (by decide) ?_
    refine lv_istore_n (lv' := [(2, .int (1 : Int32)), (0, .ref (g_ad G 0)), (1, .int a1)]) hx hb dX7_itself_29 rfl hl (by decide) rfl (fun ls hl => ?_)
    exact t_X7_itself_30 cx hr FU (1 : Int32) M5 hF _ _ _ hW hS (lv_sub hl [1, 2, 0] rfl)
  · have hF := it_p c3 hF
    refine lv_aload_n hx hb dX7_itself_11 rfl (lv_at hl 0 rfl) ?_
    refine lv_iconst (v := (0 : Int32)) hx hb dX7_itself_12 (by decide) ?_
    obtain ⟨r15, M16, hc14, hF⟩ := bn_e hF
    refine x_goi (x_runV cx hW hS (c_X7_finding (l := l) (G := G) hc14) cv_X7_56 kc_0 rfl (rest := []) ⟨Nat.le_of_ble_eq_true rfl, Nat.le_of_ble_eq_true rfl⟩ hl.1 rfl rfl (Nat.le_of_ble_eq_true rfl) ⟨Nat.zero_le _, Nat.zero_le _⟩ dX7_itself_13) hS (fun H locs hW hS => ?_)
    exact x_iret cx hr hW hS (sp_1 hF) (sp_2 hF) dX7_itself_16
def F_X7_most (M : Mem) : Option (Int32 × Mem) := bn (F_X0_search 2 M) (fun r2 M3 => some (r2, M3))
set_option maxHeartbeats 4000000 in
set_option maxRecDepth 100000 in
theorem c_X7_most {l : Launch} {G : GG}   {M : Mem} {r : Int32} {M1 : Mem} (hF : F_X7_most M = some (r, M1)) : Met l yX7_most (wz yX7_most cX7_most 1 (some .int)) (RM 6 144) (PreC G [.ref (g_ad G 0)] M) (QcI G r M1) 0 0 (g_A G) := by
  rw [F_X7_most] at hF
  refine x_start (by decide) (Nat.le_of_ble_eq_true rfl) (lv := [(0, .ref (g_ad G 0))]) rfl ?_
  intro p e s m below meth c cx hr hW hS ls hl
  obtain ⟨hx, hb, hml, hown, hts, hKK, hSS, hlk⟩ := id cx
  refine lv_aload_n hx hb dX7_most_0 rfl (lv_at hl 0 rfl) ?_
  refine x_get cx hW kc_0 fk_X7_25 (v := .ref (g_ad G 35)) rfl dX7_most_1 ?_
  refine lv_aload_n hx hb dX7_most_4 rfl (lv_at hl 0 rfl) ?_
  refine x_get cx hW kc_0 fk_X7_10 (v := .ref (g_ad G 2)) rfl dX7_most_5 ?_
  obtain ⟨r2, M3, hc1, hF⟩ := bn_e hF
  refine x_goi (x_runV cx hW hS (c_X0_search (l := l) (G := G) kc_2 hc1) cv_X7_166 kc_35 rfl (rest := []) ⟨Nat.le_of_ble_eq_true rfl, Nat.le_of_ble_eq_true rfl⟩ hl.1 rfl rfl (Nat.le_of_ble_eq_true rfl) ⟨Nat.zero_le _, Nat.zero_le _⟩ dX7_most_8) hS (fun H locs hW hS => ?_)
  exact x_iret cx hr hW hS (sp_1 hF) (sp_2 hF) dX7_most_11
def F_X7_slip (a1 : Int32) (M : Mem) : Option (Int32 × Mem) := (F_X4_has 2 a1 M).bind (fun r2 => (if r2 = 0 then bn (F_X7_finding (0 : Int32) M) (fun r10 M11 => some (r10, M11)) else bn (F_X0_search 2 M) (fun r5 M6 => (F_X0_slipOf a1 2 M6).bind (fun r8 => some (r8, M6)))))
set_option maxHeartbeats 4000000 in
set_option maxRecDepth 100000 in
theorem c_X7_slip {l : Launch} {G : GG} {a1 : Int32}  {M : Mem} {r : Int32} {M1 : Mem} (hF : F_X7_slip a1 M = some (r, M1)) : Met l yX7_slip (wz yX7_slip cX7_slip 2 (some .int)) (RM 7 167) (PreC G [.ref (g_ad G 0), .int a1] M) (QcI G r M1) 0 0 (g_A G) := by
  rw [F_X7_slip] at hF
  refine x_start (by decide) (Nat.le_of_ble_eq_true rfl) (lv := [(0, .ref (g_ad G 0)), (1, .int a1)]) rfl ?_
  intro p e s m below meth c cx hr hW hS ls hl
  obtain ⟨hx, hb, hml, hown, hts, hKK, hSS, hlk⟩ := id cx
  refine lv_aload_n hx hb dX7_slip_0 rfl (lv_at hl 0 rfl) ?_
  refine x_get cx hW kc_0 fk_X7_10 (v := .ref (g_ad G 2)) rfl dX7_slip_1 ?_
  refine lv_iload_n hx hb dX7_slip_4 rfl (lv_at hl 1 rfl) ?_
  obtain ⟨r2, hc1, hF⟩ := bi_e hF
  refine x_goi (x_runV cx hW hS (c_X4_has (l := l) (G := G) kc_2 hc1) cv_X7_67 kc_2 rfl (rest := []) ⟨Nat.le_of_ble_eq_true rfl, Nat.le_of_ble_eq_true rfl⟩ hl.1 rfl rfl (Nat.le_of_ble_eq_true rfl) ⟨Nat.zero_le _, Nat.zero_le _⟩ dX7_slip_5) hS (fun H locs hW hS => ?_)
  refine lv_if_ne (tgt := 17) hx hb dX7_slip_8 (by decide) (fun c3 => ?_) (fun c3 => ?_)
  · have hF := it_n c3 hF
    refine lv_aload_n hx hb dX7_slip_17 rfl (lv_at hl 0 rfl) ?_
    refine x_get cx hW kc_0 fk_X7_25 (v := .ref (g_ad G 35)) rfl dX7_slip_18 ?_
    refine lv_aload_n hx hb dX7_slip_21 rfl (lv_at hl 0 rfl) ?_
    refine x_get cx hW kc_0 fk_X7_10 (v := .ref (g_ad G 2)) rfl dX7_slip_22 ?_
    obtain ⟨r5, M6, hc4, hF⟩ := bn_e hF
    refine x_goi (x_runV cx hW hS (c_X0_search (l := l) (G := G) kc_2 hc4) cv_X7_166 kc_35 rfl (rest := []) ⟨Nat.le_of_ble_eq_true rfl, Nat.le_of_ble_eq_true rfl⟩ hl.1 rfl rfl (Nat.le_of_ble_eq_true rfl) ⟨Nat.zero_le _, Nat.zero_le _⟩ dX7_slip_25) hS (fun H locs hW hS => ?_)
    refine lv_pop hx hb dX7_slip_28 rfl ?_
    refine lv_aload_n hx hb dX7_slip_29 rfl (lv_at hl 0 rfl) ?_
    refine x_get cx hW kc_0 fk_X7_25 (v := .ref (g_ad G 35)) rfl dX7_slip_30 ?_
    refine lv_iload_n hx hb dX7_slip_33 rfl (lv_at hl 1 rfl) ?_
    refine lv_aload_n hx hb dX7_slip_34 rfl (lv_at hl 0 rfl) ?_
    refine x_get cx hW kc_0 fk_X7_10 (v := .ref (g_ad G 2)) rfl dX7_slip_35 ?_
    obtain ⟨r8, hc7, hF⟩ := bi_e hF
    refine x_goi (x_runV cx hW hS (c_X0_slipOf (l := l) (G := G) kc_2 hc7) cv_X7_170 kc_35 rfl (rest := []) ⟨Nat.le_of_ble_eq_true rfl, Nat.le_of_ble_eq_true rfl⟩ hl.1 rfl rfl (Nat.le_of_ble_eq_true rfl) ⟨Nat.zero_le _, Nat.zero_le _⟩ dX7_slip_38) hS (fun H locs hW hS => ?_)
    exact x_iret cx hr hW hS (sp_1 hF) (sp_2 hF) dX7_slip_41
  · have hF := it_p c3 hF
    refine lv_aload_n hx hb dX7_slip_11 rfl (lv_at hl 0 rfl) ?_
    refine lv_iconst (v := (0 : Int32)) hx hb dX7_slip_12 (by decide) ?_
    obtain ⟨r10, M11, hc9, hF⟩ := bn_e hF
    refine x_goi (x_runV cx hW hS (c_X7_finding (l := l) (G := G) hc9) cv_X7_56 kc_0 rfl (rest := []) ⟨Nat.le_of_ble_eq_true rfl, Nat.le_of_ble_eq_true rfl⟩ hl.1 rfl rfl (Nat.le_of_ble_eq_true rfl) ⟨Nat.zero_le _, Nat.zero_le _⟩ dX7_slip_13) hS (fun H locs hW hS => ?_)
    exact x_iret cx hr hW hS (sp_1 hF) (sp_2 hF) dX7_slip_16
def F_X7_better_61  (k6 : Int32 → Int32 → Int32 → Mem → Option (Int32 × Mem)) (k22 : Int32 → Int32 → Int32 → Int32 → Mem → Option (Int32 × Mem)) (x1 : Int32) (x2 : Int32) (x3 : Int32) (x4 : Int32) (t0 : Int32) (M : Mem) : Option (Int32 × Mem) := (if t0 ≤ x1 then k22 x1 x2 x3 (x4 + 1) M else k22 t0 (((10 : Int32) * x3) + x4) x3 (x4 + 1) M)
set_option maxHeartbeats 4000000 in
set_option maxRecDepth 100000 in
theorem t_X7_better_61 {p : Program} {l : Launch} {e : Env} {s : State} {m : MethodId} {args : Array Value} {below : List Frame} {meth : Method} {c : Code} {G : GG}  (cx : Cx G cX7_better RX7 6 p s m args meth c) (hr : meth.sig.returnType = (some .int))   {r : Int32} {M1 : Mem} {k6 : Int32 → Int32 → Int32 → Mem → Option (Int32 × Mem)} (hk6 : ∀ (x1 : Int32) (x2 : Int32) (x3 : Int32) (M : Mem), k6 x1 x2 x3 M = some (r, M1) → ∀ (H : Heap) (locs : List Loc) (ls : Array Slot), WH G M H → va_S (g_A G) s.heap H locs → lv_has ls 6 [(0, .ref (g_ad G 0)), (1, .int x1), (2, .int x2), (3, .int x3)] → W p l e (RM 5 116) s m args below meth c H locs 0 0 (MQ below (QcI G r M1) args s 0 0 (g_A G)) (F0 m 6 ls [])) {k22 : Int32 → Int32 → Int32 → Int32 → Mem → Option (Int32 × Mem)} (hk22 : ∀ (x1 : Int32) (x2 : Int32) (x3 : Int32) (x4 : Int32) (M : Mem), k22 x1 x2 x3 x4 M = some (r, M1) → ∀ (H : Heap) (locs : List Loc) (ls : Array Slot), WH G M H → va_S (g_A G) s.heap H locs → lv_has ls 6 [(0, .ref (g_ad G 0)), (1, .int x1), (2, .int x2), (3, .int x3), (4, .int x4)] → W p l e (RM 5 116) s m args below meth c H locs 0 0 (MQ below (QcI G r M1) args s 0 0 (g_A G)) (F0 m 22 ls [])) : ∀ (x1 : Int32) (x2 : Int32) (x3 : Int32) (x4 : Int32) (t0 : Int32) (M : Mem), F_X7_better_61  k6 k22 x1 x2 x3 x4 t0 M = some (r, M1) → ∀ (H : Heap) (locs : List Loc) (ls : Array Slot), WH G M H → va_S (g_A G) s.heap H locs → lv_has ls 6 [(0, .ref (g_ad G 0)), (1, .int x1), (2, .int x2), (3, .int x3), (4, .int x4)] → W p l e (RM 5 116) s m args below meth c H locs 0 0 (MQ below (QcI G r M1) args s 0 0 (g_A G)) (F0 m 61 ls [.int t0]) := by
  obtain ⟨hx, hb, hml, hown, hts, hKK, hSS, hlk⟩ := id cx
  intro x1 x2 x3 x4 t0 M hF H locs ls hW hS hl
  rw [F_X7_better_61] at hF
  refine lv_istore (lv' := [(5, .int t0), (0, .ref (g_ad G 0)), (1, .int x1), (2, .int x2), (3, .int x3), (4, .int x4)]) hx hb dX7_better_61 hl (by decide) rfl (fun ls hl => ?_)
  refine lv_iload hx hb dX7_better_63 (lv_at hl 0 rfl) ?_
  refine lv_iload_n hx hb dX7_better_65 rfl (lv_at hl 2 rfl) ?_
  refine lv_icmp_le (tgt := 80) hx hb dX7_better_66 (by decide) (fun c10 => ?_) (fun c10 => ?_)
  · have hF := it_p c10 hF
    refine lv_iinc (v := (x4 + 1)) (lv' := [(4, .int (x4 + 1)), (5, .int t0), (0, .ref (g_ad G 0)), (1, .int x1), (2, .int x2), (3, .int x3)]) hx hb dX7_better_80 hl (k := 5) rfl rfl (by decide) rfl (fun ls hl => ?_)
    refine lv_goto (tgt := 22) hx hb dX7_better_83 (by decide) ?_
    exact hk22 x1 x2 x3 (x4 + 1) M hF _ _ _ hW hS (lv_sub hl [2, 3, 4, 5, 0] rfl)
  · have hF := it_n c10 hF
    refine lv_iload hx hb dX7_better_69 (lv_at hl 0 rfl) ?_
    refine lv_istore_n (lv' := [(1, .int t0), (5, .int t0), (0, .ref (g_ad G 0)), (2, .int x2), (3, .int x3), (4, .int x4)]) hx hb dX7_better_71 rfl hl (by decide) rfl (fun ls hl => ?_)
    refine lv_bipush (v := (10 : Int32)) hx hb dX7_better_72 (by decide) ?_
    refine lv_iload_n hx hb dX7_better_74 rfl (lv_at hl 4 rfl) ?_
    refine lv_imul hx hb dX7_better_75 ?_
    refine lv_iload hx hb dX7_better_76 (lv_at hl 5 rfl) ?_
    refine lv_iadd hx hb dX7_better_78 ?_
    refine lv_istore_n (lv' := [(2, .int (((10 : Int32) * x3) + x4)), (1, .int t0), (5, .int t0), (0, .ref (g_ad G 0)), (3, .int x3), (4, .int x4)]) hx hb dX7_better_79 rfl hl (by decide) rfl (fun ls hl => ?_)
    refine lv_iinc (v := (x4 + 1)) (lv' := [(4, .int (x4 + 1)), (2, .int (((10 : Int32) * x3) + x4)), (1, .int t0), (5, .int t0), (0, .ref (g_ad G 0)), (3, .int x3)]) hx hb dX7_better_80 hl (k := 5) rfl rfl (by decide) rfl (fun ls hl => ?_)
    refine lv_goto (tgt := 22) hx hb dX7_better_83 (by decide) ?_
    exact hk22 t0 (((10 : Int32) * x3) + x4) x3 (x4 + 1) M hF _ _ _ hW hS (lv_sub hl [4, 2, 1, 5, 0] rfl)
def F_X7_better_22  (k6 : Int32 → Int32 → Int32 → Mem → Option (Int32 × Mem)) : Nat → Int32 → Int32 → Int32 → Int32 → Mem → Option (Int32 × Mem)
  | 0, _, _, _, _, _ => none
  | n + 1, x1, x2, x3, x4, M => (if (m_I M 2 2) ≤ x4 then k6 x1 x2 (x3 + 1) M else (F_X4_areAlike 2 x3 x4 M).bind (fun r8 => (if r8 = 0 then F_X7_better_61 k6 (F_X7_better_22 k6 n) x1 x2 x3 x4 (0 : Int32) M else (F_X4_gainOfExchange 2 x3 x4 M).bind (fun r12 => F_X7_better_61 k6 (F_X7_better_22 k6 n) x1 x2 x3 x4 r12 M))))
set_option maxHeartbeats 4000000 in
set_option maxRecDepth 100000 in
theorem t_X7_better_22 {p : Program} {l : Launch} {e : Env} {s : State} {m : MethodId} {args : Array Value} {below : List Frame} {meth : Method} {c : Code} {G : GG}  (cx : Cx G cX7_better RX7 6 p s m args meth c) (hr : meth.sig.returnType = (some .int))   {r : Int32} {M1 : Mem} {k6 : Int32 → Int32 → Int32 → Mem → Option (Int32 × Mem)} (hk6 : ∀ (x1 : Int32) (x2 : Int32) (x3 : Int32) (M : Mem), k6 x1 x2 x3 M = some (r, M1) → ∀ (H : Heap) (locs : List Loc) (ls : Array Slot), WH G M H → va_S (g_A G) s.heap H locs → lv_has ls 6 [(0, .ref (g_ad G 0)), (1, .int x1), (2, .int x2), (3, .int x3)] → W p l e (RM 5 116) s m args below meth c H locs 0 0 (MQ below (QcI G r M1) args s 0 0 (g_A G)) (F0 m 6 ls [])) : ∀ (n : Nat) (x1 : Int32) (x2 : Int32) (x3 : Int32) (x4 : Int32) (M : Mem), F_X7_better_22  k6 n x1 x2 x3 x4 M = some (r, M1) → ∀ (H : Heap) (locs : List Loc) (ls : Array Slot), WH G M H → va_S (g_A G) s.heap H locs → lv_has ls 6 [(0, .ref (g_ad G 0)), (1, .int x1), (2, .int x2), (3, .int x3), (4, .int x4)] → W p l e (RM 5 116) s m args below meth c H locs 0 0 (MQ below (QcI G r M1) args s 0 0 (g_A G)) (F0 m 22 ls []) := by
  obtain ⟨hx, hb, hml, hown, hts, hKK, hSS, hlk⟩ := id cx
  intro n
  induction n with
  | zero =>
    intro x1 x2 x3 x4 M hF H locs ls hW hS hl
    rw [F_X7_better_22] at hF
    cases hF
  | succ n ih =>
    intro x1 x2 x3 x4 M hF H locs ls hW hS hl
    rw [F_X7_better_22] at hF
    refine lv_iload hx hb dX7_better_22 (lv_at hl 4 rfl) ?_
    refine lv_aload_n hx hb dX7_better_24 rfl (lv_at hl 0 rfl) ?_
    refine x_get cx hW kc_0 fk_X7_10 (v := .ref (g_ad G 2)) rfl dX7_better_25 ?_
    refine x_get cx hW kc_2 fk_X7_117 (v := .int (m_I M 2 2)) rfl dX7_better_28 ?_
    refine lv_icmp_ge (tgt := 86) hx hb dX7_better_31 (by decide) (fun c6 => ?_) (fun c6 => ?_)
    · have hF := it_p c6 hF
      refine lv_iinc (v := (x3 + 1)) (lv' := [(3, .int (x3 + 1)), (0, .ref (g_ad G 0)), (1, .int x1), (2, .int x2), (4, .int x4)]) hx hb dX7_better_86 hl (k := 3) rfl rfl (by decide) rfl (fun ls hl => ?_)
      refine lv_goto (tgt := 6) hx hb dX7_better_89 (by decide) ?_
      exact hk6 x1 x2 (x3 + 1) M hF _ _ _ hW hS (lv_sub hl [1, 2, 3, 0] rfl)
    · have hF := it_n c6 hF
      refine lv_aload_n hx hb dX7_better_34 rfl (lv_at hl 0 rfl) ?_
      refine x_get cx hW kc_0 fk_X7_10 (v := .ref (g_ad G 2)) rfl dX7_better_35 ?_
      refine lv_iload_n hx hb dX7_better_38 rfl (lv_at hl 3 rfl) ?_
      refine lv_iload hx hb dX7_better_39 (lv_at hl 4 rfl) ?_
      obtain ⟨r8, hc7, hF⟩ := bi_e hF
      refine x_goi (x_runV cx hW hS (c_X4_areAlike (l := l) (G := G) kc_2 hc7) cv_X7_106 kc_2 rfl (rest := []) ⟨Nat.le_of_ble_eq_true rfl, Nat.le_of_ble_eq_true rfl⟩ hl.1 rfl rfl (Nat.le_of_ble_eq_true rfl) ⟨Nat.zero_le _, Nat.zero_le _⟩ dX7_better_41) hS (fun H locs hW hS => ?_)
      refine lv_if_eq (tgt := 60) hx hb dX7_better_44 (by decide) (fun c9 => ?_) (fun c9 => ?_)
      · have hF := it_p c9 hF
        refine lv_iconst (v := (0 : Int32)) hx hb dX7_better_60 (by decide) ?_
        exact t_X7_better_61 cx hr hk6 ih x1 x2 x3 x4 (0 : Int32) M hF _ _ _ hW hS (lv_sub hl [0, 1, 2, 3, 4] rfl)
      · have hF := it_n c9 hF
        refine lv_aload_n hx hb dX7_better_47 rfl (lv_at hl 0 rfl) ?_
        refine x_get cx hW kc_0 fk_X7_10 (v := .ref (g_ad G 2)) rfl dX7_better_48 ?_
        refine lv_iload_n hx hb dX7_better_51 rfl (lv_at hl 3 rfl) ?_
        refine lv_iload hx hb dX7_better_52 (lv_at hl 4 rfl) ?_
        obtain ⟨r12, hc11, hF⟩ := bi_e hF
        refine x_goi (x_runV cx hW hS (c_X4_gainOfExchange (l := l) (G := G) kc_2 hc11) cv_X7_174 kc_2 rfl (rest := []) ⟨Nat.le_of_ble_eq_true rfl, Nat.le_of_ble_eq_true rfl⟩ hl.1 rfl rfl (Nat.le_of_ble_eq_true rfl) ⟨Nat.zero_le _, Nat.zero_le _⟩ dX7_better_54) hS (fun H locs hW hS => ?_)
        refine lv_goto (tgt := 61) hx hb dX7_better_57 (by decide) ?_
        exact t_X7_better_61 cx hr hk6 ih x1 x2 x3 x4 r12 M hF _ _ _ hW hS (lv_sub hl [0, 1, 2, 3, 4] rfl)
def F_X7_better_6  : Nat → Int32 → Int32 → Int32 → Mem → Option (Int32 × Mem)
  | 0, _, _, _, _ => none
  | n + 1, x1, x2, x3, M => (if (m_I M 2 2) ≤ x3 then (if 0 ≤ x2 then some (x2, M) else bn (F_X7_finding (3 : Int32) M) (fun r4 M5 => some (r4, M5))) else F_X7_better_22 (F_X7_better_6 n) FU x1 x2 x3 (x3 + (1 : Int32)) M)
set_option maxHeartbeats 4000000 in
set_option maxRecDepth 100000 in
theorem t_X7_better_6 {p : Program} {l : Launch} {e : Env} {s : State} {m : MethodId} {args : Array Value} {below : List Frame} {meth : Method} {c : Code} {G : GG}  (cx : Cx G cX7_better RX7 6 p s m args meth c) (hr : meth.sig.returnType = (some .int))   {r : Int32} {M1 : Mem} : ∀ (n : Nat) (x1 : Int32) (x2 : Int32) (x3 : Int32) (M : Mem), F_X7_better_6  n x1 x2 x3 M = some (r, M1) → ∀ (H : Heap) (locs : List Loc) (ls : Array Slot), WH G M H → va_S (g_A G) s.heap H locs → lv_has ls 6 [(0, .ref (g_ad G 0)), (1, .int x1), (2, .int x2), (3, .int x3)] → W p l e (RM 5 116) s m args below meth c H locs 0 0 (MQ below (QcI G r M1) args s 0 0 (g_A G)) (F0 m 6 ls []) := by
  obtain ⟨hx, hb, hml, hown, hts, hKK, hSS, hlk⟩ := id cx
  intro n
  induction n with
  | zero =>
    intro x1 x2 x3 M hF H locs ls hW hS hl
    rw [F_X7_better_6] at hF
    cases hF
  | succ n ih =>
    intro x1 x2 x3 M hF H locs ls hW hS hl
    rw [F_X7_better_6] at hF
    refine lv_iload_n hx hb dX7_better_6 rfl (lv_at hl 3 rfl) ?_
    refine lv_aload_n hx hb dX7_better_7 rfl (lv_at hl 0 rfl) ?_
    refine x_get cx hW kc_0 fk_X7_10 (v := .ref (g_ad G 2)) rfl dX7_better_8 ?_
    refine x_get cx hW kc_2 fk_X7_117 (v := .int (m_I M 2 2)) rfl dX7_better_11 ?_
    refine lv_icmp_ge (tgt := 92) hx hb dX7_better_14 (by decide) (fun c1 => ?_) (fun c1 => ?_)
    · have hF := it_p c1 hF
      refine lv_iload_n hx hb dX7_better_92 rfl (lv_at hl 2 rfl) ?_
      refine lv_if_ge (tgt := 104) hx hb dX7_better_93 (by decide) (fun c2 => ?_) (fun c2 => ?_)
      · have hF := it_p c2 hF
        refine lv_iload_n hx hb dX7_better_104 rfl (lv_at hl 2 rfl) ?_
        exact x_iret cx hr hW hS (sp_1 hF) (sp_2 hF) dX7_better_105
      · have hF := it_n c2 hF
        refine lv_aload_n hx hb dX7_better_96 rfl (lv_at hl 0 rfl) ?_
        refine lv_iconst (v := (3 : Int32)) hx hb dX7_better_97 (by decide) ?_
        obtain ⟨r4, M5, hc3, hF⟩ := bn_e hF
        refine x_goi (x_runV cx hW hS (c_X7_finding (l := l) (G := G) hc3) cv_X7_56 kc_0 rfl (rest := []) ⟨Nat.le_of_ble_eq_true rfl, Nat.le_of_ble_eq_true rfl⟩ hl.1 rfl rfl (Nat.le_of_ble_eq_true rfl) ⟨Nat.zero_le _, Nat.zero_le _⟩ dX7_better_98) hS (fun H locs hW hS => ?_)
        refine lv_goto (tgt := 105) hx hb dX7_better_101 (by decide) ?_
        exact x_iret cx hr hW hS (sp_1 hF) (sp_2 hF) dX7_better_105
    · have hF := it_n c1 hF
      refine lv_iload_n hx hb dX7_better_17 rfl (lv_at hl 3 rfl) ?_
      refine lv_iconst (v := (1 : Int32)) hx hb dX7_better_18 (by decide) ?_
      refine lv_iadd hx hb dX7_better_19 ?_
      refine lv_istore (lv' := [(4, .int (x3 + (1 : Int32))), (0, .ref (g_ad G 0)), (1, .int x1), (2, .int x2), (3, .int x3)]) hx hb dX7_better_20 hl (by decide) rfl (fun ls hl => ?_)
      exact t_X7_better_22 cx hr ih FU x1 x2 x3 (x3 + (1 : Int32)) M hF _ _ _ hW hS (lv_sub hl [1, 2, 3, 4, 0] rfl)
def F_X7_better (M : Mem) : Option (Int32 × Mem) := F_X7_better_6 FU (0 : Int32) (-1 : Int32) (0 : Int32) M
set_option maxHeartbeats 4000000 in
set_option maxRecDepth 100000 in
theorem c_X7_better {l : Launch} {G : GG}   {M : Mem} {r : Int32} {M1 : Mem} (hF : F_X7_better M = some (r, M1)) : Met l yX7_better (wz yX7_better cX7_better 6 (some .int)) (RM 5 116) (PreC G [.ref (g_ad G 0)] M) (QcI G r M1) 0 0 (g_A G) := by
  rw [F_X7_better] at hF
  refine x_start (by decide) (Nat.le_of_ble_eq_true rfl) (lv := [(0, .ref (g_ad G 0))]) rfl ?_
  intro p e s m below meth c cx hr hW hS ls hl
  obtain ⟨hx, hb, hml, hown, hts, hKK, hSS, hlk⟩ := id cx
  refine lv_iconst (v := (0 : Int32)) hx hb dX7_better_0 (by decide) ?_
  refine lv_istore_n (lv' := [(1, .int (0 : Int32)), (0, .ref (g_ad G 0))]) hx hb dX7_better_1 rfl hl (by decide) rfl (fun ls hl => ?_)
  refine lv_iconst (v := (-1 : Int32)) hx hb dX7_better_2 (by decide) ?_
  refine lv_istore_n (lv' := [(2, .int (-1 : Int32)), (1, .int (0 : Int32)), (0, .ref (g_ad G 0))]) hx hb dX7_better_3 rfl hl (by decide) rfl (fun ls hl => ?_)
  refine lv_iconst (v := (0 : Int32)) hx hb dX7_better_4 (by decide) ?_
  refine lv_istore_n (lv' := [(3, .int (0 : Int32)), (2, .int (-1 : Int32)), (1, .int (0 : Int32)), (0, .ref (g_ad G 0))]) hx hb dX7_better_5 rfl hl (by decide) rfl (fun ls hl => ?_)
  exact t_X7_better_6 cx hr FU (0 : Int32) (-1 : Int32) (0 : Int32) M hF _ _ _ hW hS (lv_sub hl [3, 2, 1, 0] rfl)
def F_X7_bestAs_24 (a1 : Int32) : Nat → Int32 → Int32 → Int32 → Mem → Option (Int32 × Mem)
  | 0, _, _, _, _ => none
  | n + 1, x2, x3, x4, M => (if (m_I M 2 2) ≤ x4 then (if 0 ≤ x3 then some (x3, M) else bn (F_X7_finding (3 : Int32) M) (fun r7 M8 => some (r7, M8))) else (if x4 = a1 then F_X7_bestAs_24 a1 n x2 x3 (x4 + 1) M else (F_X4_areAlike 2 x4 a1 M).bind (fun r11 => (if r11 = 0 then F_X7_bestAs_24 a1 n x2 x3 (x4 + 1) M else (F_X4_earning 2 x4 a1 M).bind (fun r14 => (if r14 ≤ x2 then F_X7_bestAs_24 a1 n x2 x3 (x4 + 1) M else (F_X4_earning 2 x4 a1 M).bind (fun r17 => F_X7_bestAs_24 a1 n r17 x4 (x4 + 1) M)))))))
set_option maxHeartbeats 4000000 in
set_option maxRecDepth 100000 in
theorem t_X7_bestAs_24 {p : Program} {l : Launch} {e : Env} {s : State} {m : MethodId} {args : Array Value} {below : List Frame} {meth : Method} {c : Code} {G : GG} {a1 : Int32} (cx : Cx G cX7_bestAs RX7 5 p s m args meth c) (hr : meth.sig.returnType = (some .int))   {r : Int32} {M1 : Mem} : ∀ (n : Nat) (x2 : Int32) (x3 : Int32) (x4 : Int32) (M : Mem), F_X7_bestAs_24 a1 n x2 x3 x4 M = some (r, M1) → ∀ (H : Heap) (locs : List Loc) (ls : Array Slot), WH G M H → va_S (g_A G) s.heap H locs → lv_has ls 5 [(0, .ref (g_ad G 0)), (1, .int a1), (2, .int x2), (3, .int x3), (4, .int x4)] → W p l e (RM 4 93) s m args below meth c H locs 0 0 (MQ below (QcI G r M1) args s 0 0 (g_A G)) (F0 m 24 ls []) := by
  obtain ⟨hx, hb, hml, hown, hts, hKK, hSS, hlk⟩ := id cx
  intro n
  induction n with
  | zero =>
    intro x2 x3 x4 M hF H locs ls hW hS hl
    rw [F_X7_bestAs_24] at hF
    cases hF
  | succ n ih =>
    intro x2 x3 x4 M hF H locs ls hW hS hl
    rw [F_X7_bestAs_24] at hF
    refine lv_iload hx hb dX7_bestAs_24 (lv_at hl 4 rfl) ?_
    refine lv_aload_n hx hb dX7_bestAs_26 rfl (lv_at hl 0 rfl) ?_
    refine x_get cx hW kc_0 fk_X7_10 (v := .ref (g_ad G 2)) rfl dX7_bestAs_27 ?_
    refine x_get cx hW kc_2 fk_X7_117 (v := .int (m_I M 2 2)) rfl dX7_bestAs_30 ?_
    refine lv_icmp_ge (tgt := 89) hx hb dX7_bestAs_33 (by decide) (fun c4 => ?_) (fun c4 => ?_)
    · have hF := it_p c4 hF
      refine lv_iload_n hx hb dX7_bestAs_89 rfl (lv_at hl 3 rfl) ?_
      refine lv_if_ge (tgt := 101) hx hb dX7_bestAs_90 (by decide) (fun c5 => ?_) (fun c5 => ?_)
      · have hF := it_p c5 hF
        refine lv_iload_n hx hb dX7_bestAs_101 rfl (lv_at hl 3 rfl) ?_
        exact x_iret cx hr hW hS (sp_1 hF) (sp_2 hF) dX7_bestAs_102
      · have hF := it_n c5 hF
        refine lv_aload_n hx hb dX7_bestAs_93 rfl (lv_at hl 0 rfl) ?_
        refine lv_iconst (v := (3 : Int32)) hx hb dX7_bestAs_94 (by decide) ?_
        obtain ⟨r7, M8, hc6, hF⟩ := bn_e hF
        refine x_goi (x_runV cx hW hS (c_X7_finding (l := l) (G := G) hc6) cv_X7_56 kc_0 rfl (rest := []) ⟨Nat.le_of_ble_eq_true rfl, Nat.le_of_ble_eq_true rfl⟩ hl.1 rfl rfl (Nat.le_of_ble_eq_true rfl) ⟨Nat.zero_le _, Nat.zero_le _⟩ dX7_bestAs_95) hS (fun H locs hW hS => ?_)
        refine lv_goto (tgt := 102) hx hb dX7_bestAs_98 (by decide) ?_
        exact x_iret cx hr hW hS (sp_1 hF) (sp_2 hF) dX7_bestAs_102
    · have hF := it_n c4 hF
      refine lv_iload hx hb dX7_bestAs_36 (lv_at hl 4 rfl) ?_
      refine lv_iload_n hx hb dX7_bestAs_38 rfl (lv_at hl 1 rfl) ?_
      refine lv_icmp_eq (tgt := 83) hx hb dX7_bestAs_39 (by decide) (fun c9 => ?_) (fun c9 => ?_)
      · have hF := it_p c9 hF
        refine lv_iinc (v := (x4 + 1)) (lv' := [(4, .int (x4 + 1)), (0, .ref (g_ad G 0)), (1, .int a1), (2, .int x2), (3, .int x3)]) hx hb dX7_bestAs_83 hl (k := 4) rfl rfl (by decide) rfl (fun ls hl => ?_)
        refine lv_goto (tgt := 24) hx hb dX7_bestAs_86 (by decide) ?_
        exact ih x2 x3 (x4 + 1) M hF _ _ _ hW hS (lv_sub hl [1, 2, 3, 4, 0] rfl)
      · have hF := it_n c9 hF
        refine lv_aload_n hx hb dX7_bestAs_42 rfl (lv_at hl 0 rfl) ?_
        refine x_get cx hW kc_0 fk_X7_10 (v := .ref (g_ad G 2)) rfl dX7_bestAs_43 ?_
        refine lv_iload hx hb dX7_bestAs_46 (lv_at hl 4 rfl) ?_
        refine lv_iload_n hx hb dX7_bestAs_48 rfl (lv_at hl 1 rfl) ?_
        obtain ⟨r11, hc10, hF⟩ := bi_e hF
        refine x_goi (x_runV cx hW hS (c_X4_areAlike (l := l) (G := G) kc_2 hc10) cv_X7_106 kc_2 rfl (rest := []) ⟨Nat.le_of_ble_eq_true rfl, Nat.le_of_ble_eq_true rfl⟩ hl.1 rfl rfl (Nat.le_of_ble_eq_true rfl) ⟨Nat.zero_le _, Nat.zero_le _⟩ dX7_bestAs_49) hS (fun H locs hW hS => ?_)
        refine lv_if_eq (tgt := 83) hx hb dX7_bestAs_52 (by decide) (fun c12 => ?_) (fun c12 => ?_)
        · have hF := it_p c12 hF
          refine lv_iinc (v := (x4 + 1)) (lv' := [(4, .int (x4 + 1)), (0, .ref (g_ad G 0)), (1, .int a1), (2, .int x2), (3, .int x3)]) hx hb dX7_bestAs_83 hl (k := 4) rfl rfl (by decide) rfl (fun ls hl => ?_)
          refine lv_goto (tgt := 24) hx hb dX7_bestAs_86 (by decide) ?_
          exact ih x2 x3 (x4 + 1) M hF _ _ _ hW hS (lv_sub hl [1, 2, 3, 4, 0] rfl)
        · have hF := it_n c12 hF
          refine lv_aload_n hx hb dX7_bestAs_55 rfl (lv_at hl 0 rfl) ?_
          refine x_get cx hW kc_0 fk_X7_10 (v := .ref (g_ad G 2)) rfl dX7_bestAs_56 ?_
          refine lv_iload hx hb dX7_bestAs_59 (lv_at hl 4 rfl) ?_
          refine lv_iload_n hx hb dX7_bestAs_61 rfl (lv_at hl 1 rfl) ?_
          obtain ⟨r14, hc13, hF⟩ := bi_e hF
          refine x_goi (x_runV cx hW hS (c_X4_earning (l := l) (G := G) kc_2 hc13) cv_X7_88 kc_2 rfl (rest := []) ⟨Nat.le_of_ble_eq_true rfl, Nat.le_of_ble_eq_true rfl⟩ hl.1 rfl rfl (Nat.le_of_ble_eq_true rfl) ⟨Nat.zero_le _, Nat.zero_le _⟩ dX7_bestAs_62) hS (fun H locs hW hS => ?_)
          refine lv_iload_n hx hb dX7_bestAs_65 rfl (lv_at hl 2 rfl) ?_
          refine lv_icmp_le (tgt := 83) hx hb dX7_bestAs_66 (by decide) (fun c15 => ?_) (fun c15 => ?_)
          · have hF := it_p c15 hF
            refine lv_iinc (v := (x4 + 1)) (lv' := [(4, .int (x4 + 1)), (0, .ref (g_ad G 0)), (1, .int a1), (2, .int x2), (3, .int x3)]) hx hb dX7_bestAs_83 hl (k := 4) rfl rfl (by decide) rfl (fun ls hl => ?_)
            refine lv_goto (tgt := 24) hx hb dX7_bestAs_86 (by decide) ?_
            exact ih x2 x3 (x4 + 1) M hF _ _ _ hW hS (lv_sub hl [1, 2, 3, 4, 0] rfl)
          · have hF := it_n c15 hF
            refine lv_aload_n hx hb dX7_bestAs_69 rfl (lv_at hl 0 rfl) ?_
            refine x_get cx hW kc_0 fk_X7_10 (v := .ref (g_ad G 2)) rfl dX7_bestAs_70 ?_
            refine lv_iload hx hb dX7_bestAs_73 (lv_at hl 4 rfl) ?_
            refine lv_iload_n hx hb dX7_bestAs_75 rfl (lv_at hl 1 rfl) ?_
            obtain ⟨r17, hc16, hF⟩ := bi_e hF
            refine x_goi (x_runV cx hW hS (c_X4_earning (l := l) (G := G) kc_2 hc16) cv_X7_88 kc_2 rfl (rest := []) ⟨Nat.le_of_ble_eq_true rfl, Nat.le_of_ble_eq_true rfl⟩ hl.1 rfl rfl (Nat.le_of_ble_eq_true rfl) ⟨Nat.zero_le _, Nat.zero_le _⟩ dX7_bestAs_76) hS (fun H locs hW hS => ?_)
            refine lv_istore_n (lv' := [(2, .int r17), (0, .ref (g_ad G 0)), (1, .int a1), (3, .int x3), (4, .int x4)]) hx hb dX7_bestAs_79 rfl hl (by decide) rfl (fun ls hl => ?_)
            refine lv_iload hx hb dX7_bestAs_80 (lv_at hl 4 rfl) ?_
            refine lv_istore_n (lv' := [(3, .int x4), (2, .int r17), (0, .ref (g_ad G 0)), (1, .int a1), (4, .int x4)]) hx hb dX7_bestAs_82 rfl hl (by decide) rfl (fun ls hl => ?_)
            refine lv_iinc (v := (x4 + 1)) (lv' := [(4, .int (x4 + 1)), (3, .int x4), (2, .int r17), (0, .ref (g_ad G 0)), (1, .int a1)]) hx hb dX7_bestAs_83 hl (k := 4) rfl rfl (by decide) rfl (fun ls hl => ?_)
            refine lv_goto (tgt := 24) hx hb dX7_bestAs_86 (by decide) ?_
            exact ih r17 x4 (x4 + 1) M hF _ _ _ hW hS (lv_sub hl [3, 4, 2, 1, 0] rfl)
def F_X7_bestAs (a1 : Int32) (M : Mem) : Option (Int32 × Mem) := (F_X4_has 2 a1 M).bind (fun r2 => (if r2 = 0 then bn (F_X7_finding (0 : Int32) M) (fun r19 M20 => some (r19, M20)) else F_X7_bestAs_24 a1 FU (-1 : Int32) (-1 : Int32) (0 : Int32) M))
set_option maxHeartbeats 4000000 in
set_option maxRecDepth 100000 in
theorem c_X7_bestAs {l : Launch} {G : GG} {a1 : Int32}  {M : Mem} {r : Int32} {M1 : Mem} (hF : F_X7_bestAs a1 M = some (r, M1)) : Met l yX7_bestAs (wz yX7_bestAs cX7_bestAs 5 (some .int)) (RM 4 93) (PreC G [.ref (g_ad G 0), .int a1] M) (QcI G r M1) 0 0 (g_A G) := by
  rw [F_X7_bestAs] at hF
  refine x_start (by decide) (Nat.le_of_ble_eq_true rfl) (lv := [(0, .ref (g_ad G 0)), (1, .int a1)]) rfl ?_
  intro p e s m below meth c cx hr hW hS ls hl
  obtain ⟨hx, hb, hml, hown, hts, hKK, hSS, hlk⟩ := id cx
  refine lv_aload_n hx hb dX7_bestAs_0 rfl (lv_at hl 0 rfl) ?_
  refine x_get cx hW kc_0 fk_X7_10 (v := .ref (g_ad G 2)) rfl dX7_bestAs_1 ?_
  refine lv_iload_n hx hb dX7_bestAs_4 rfl (lv_at hl 1 rfl) ?_
  obtain ⟨r2, hc1, hF⟩ := bi_e hF
  refine x_goi (x_runV cx hW hS (c_X4_has (l := l) (G := G) kc_2 hc1) cv_X7_67 kc_2 rfl (rest := []) ⟨Nat.le_of_ble_eq_true rfl, Nat.le_of_ble_eq_true rfl⟩ hl.1 rfl rfl (Nat.le_of_ble_eq_true rfl) ⟨Nat.zero_le _, Nat.zero_le _⟩ dX7_bestAs_5) hS (fun H locs hW hS => ?_)
  refine lv_if_ne (tgt := 17) hx hb dX7_bestAs_8 (by decide) (fun c3 => ?_) (fun c3 => ?_)
  · have hF := it_n c3 hF
    refine lv_iconst (v := (-1 : Int32)) hx hb dX7_bestAs_17 (by decide) ?_
    refine lv_istore_n (lv' := [(2, .int (-1 : Int32)), (0, .ref (g_ad G 0)), (1, .int a1)]) hx hb dX7_bestAs_18 rfl hl (by decide) rfl (fun ls hl => ?_)
    refine lv_iconst (v := (-1 : Int32)) hx hb dX7_bestAs_19 (by decide) ?_
    refine lv_istore_n (lv' := [(3, .int (-1 : Int32)), (2, .int (-1 : Int32)), (0, .ref (g_ad G 0)), (1, .int a1)]) hx hb dX7_bestAs_20 rfl hl (by decide) rfl (fun ls hl => ?_)
    refine lv_iconst (v := (0 : Int32)) hx hb dX7_bestAs_21 (by decide) ?_
    refine lv_istore (lv' := [(4, .int (0 : Int32)), (3, .int (-1 : Int32)), (2, .int (-1 : Int32)), (0, .ref (g_ad G 0)), (1, .int a1)]) hx hb dX7_bestAs_22 hl (by decide) rfl (fun ls hl => ?_)
    exact t_X7_bestAs_24 cx hr FU (-1 : Int32) (-1 : Int32) (0 : Int32) M hF _ _ _ hW hS (lv_sub hl [3, 4, 2, 1, 0] rfl)
  · have hF := it_p c3 hF
    refine lv_aload_n hx hb dX7_bestAs_11 rfl (lv_at hl 0 rfl) ?_
    refine lv_iconst (v := (0 : Int32)) hx hb dX7_bestAs_12 (by decide) ?_
    obtain ⟨r19, M20, hc18, hF⟩ := bn_e hF
    refine x_goi (x_runV cx hW hS (c_X7_finding (l := l) (G := G) hc18) cv_X7_56 kc_0 rfl (rest := []) ⟨Nat.le_of_ble_eq_true rfl, Nat.le_of_ble_eq_true rfl⟩ hl.1 rfl rfl (Nat.le_of_ble_eq_true rfl) ⟨Nat.zero_le _, Nat.zero_le _⟩ dX7_bestAs_13) hS (fun H locs hW hS => ?_)
    exact x_iret cx hr hW hS (sp_1 hF) (sp_2 hF) dX7_bestAs_16
def F_X7_kind_32 (a1 : Int32) : Nat → Int32 → Int32 → Int32 → Mem → Option (Int32 × Mem)
  | 0, _, _, _, _ => none
  | n + 1, x2, x3, x4, M => (if (6 : Int32) ≤ x4 then some (x3, M) else (F_X4_earningAs 2 x4 a1 x2 M).bind (fun r7 => (F_X4_earningAs 2 x3 a1 x2 M).bind (fun r9 => (if r7 ≤ r9 then F_X7_kind_32 a1 n x2 x3 (x4 + 1) M else F_X7_kind_32 a1 n x2 x4 (x4 + 1) M))))
set_option maxHeartbeats 4000000 in
set_option maxRecDepth 100000 in
theorem t_X7_kind_32 {p : Program} {l : Launch} {e : Env} {s : State} {m : MethodId} {args : Array Value} {below : List Frame} {meth : Method} {c : Code} {G : GG} {a1 : Int32} (cx : Cx G cX7_kind RX7 5 p s m args meth c) (hr : meth.sig.returnType = (some .int))   {r : Int32} {M1 : Mem} : ∀ (n : Nat) (x2 : Int32) (x3 : Int32) (x4 : Int32) (M : Mem), F_X7_kind_32 a1 n x2 x3 x4 M = some (r, M1) → ∀ (H : Heap) (locs : List Loc) (ls : Array Slot), WH G M H → va_S (g_A G) s.heap H locs → lv_has ls 5 [(0, .ref (g_ad G 0)), (1, .int a1), (2, .int x2), (3, .int x3), (4, .int x4)] → W p l e (RM 3 71) s m args below meth c H locs 0 0 (MQ below (QcI G r M1) args s 0 0 (g_A G)) (F0 m 32 ls []) := by
  obtain ⟨hx, hb, hml, hown, hts, hKK, hSS, hlk⟩ := id cx
  intro n
  induction n with
  | zero =>
    intro x2 x3 x4 M hF H locs ls hW hS hl
    rw [F_X7_kind_32] at hF
    cases hF
  | succ n ih =>
    intro x2 x3 x4 M hF H locs ls hW hS hl
    rw [F_X7_kind_32] at hF
    refine lv_iload hx hb dX7_kind_32 (lv_at hl 4 rfl) ?_
    refine lv_bipush (v := (6 : Int32)) hx hb dX7_kind_34 (by decide) ?_
    refine lv_icmp_ge (tgt := 72) hx hb dX7_kind_36 (by decide) (fun c5 => ?_) (fun c5 => ?_)
    · have hF := it_p c5 hF
      refine lv_iload_n hx hb dX7_kind_72 rfl (lv_at hl 3 rfl) ?_
      exact x_iret cx hr hW hS (sp_1 hF) (sp_2 hF) dX7_kind_73
    · have hF := it_n c5 hF
      refine lv_aload_n hx hb dX7_kind_39 rfl (lv_at hl 0 rfl) ?_
      refine x_get cx hW kc_0 fk_X7_10 (v := .ref (g_ad G 2)) rfl dX7_kind_40 ?_
      refine lv_iload hx hb dX7_kind_43 (lv_at hl 4 rfl) ?_
      refine lv_iload_n hx hb dX7_kind_45 rfl (lv_at hl 1 rfl) ?_
      refine lv_iload_n hx hb dX7_kind_46 rfl (lv_at hl 2 rfl) ?_
      obtain ⟨r7, hc6, hF⟩ := bi_e hF
      refine x_goi (x_runV cx hW hS (c_X4_earningAs (l := l) (G := G) kc_2 hc6) cv_X7_177 kc_2 rfl (rest := []) ⟨Nat.le_of_ble_eq_true rfl, Nat.le_of_ble_eq_true rfl⟩ hl.1 rfl rfl (Nat.le_of_ble_eq_true rfl) ⟨Nat.zero_le _, Nat.zero_le _⟩ dX7_kind_47) hS (fun H locs hW hS => ?_)
      refine lv_aload_n hx hb dX7_kind_50 rfl (lv_at hl 0 rfl) ?_
      refine x_get cx hW kc_0 fk_X7_10 (v := .ref (g_ad G 2)) rfl dX7_kind_51 ?_
      refine lv_iload_n hx hb dX7_kind_54 rfl (lv_at hl 3 rfl) ?_
      refine lv_iload_n hx hb dX7_kind_55 rfl (lv_at hl 1 rfl) ?_
      refine lv_iload_n hx hb dX7_kind_56 rfl (lv_at hl 2 rfl) ?_
      obtain ⟨r9, hc8, hF⟩ := bi_e hF
      refine x_goi (x_runV cx hW hS (c_X4_earningAs (l := l) (G := G) kc_2 hc8) cv_X7_177 kc_2 rfl (rest := [.int r7]) ⟨Nat.le_of_ble_eq_true rfl, Nat.le_of_ble_eq_true rfl⟩ hl.1 rfl rfl (Nat.le_of_ble_eq_true rfl) ⟨Nat.zero_le _, Nat.zero_le _⟩ dX7_kind_57) hS (fun H locs hW hS => ?_)
      refine lv_icmp_le (tgt := 66) hx hb dX7_kind_60 (by decide) (fun c10 => ?_) (fun c10 => ?_)
      · have hF := it_p c10 hF
        refine lv_iinc (v := (x4 + 1)) (lv' := [(4, .int (x4 + 1)), (0, .ref (g_ad G 0)), (1, .int a1), (2, .int x2), (3, .int x3)]) hx hb dX7_kind_66 hl (k := 4) rfl rfl (by decide) rfl (fun ls hl => ?_)
        refine lv_goto (tgt := 32) hx hb dX7_kind_69 (by decide) ?_
        exact ih x2 x3 (x4 + 1) M hF _ _ _ hW hS (lv_sub hl [1, 2, 3, 4, 0] rfl)
      · have hF := it_n c10 hF
        refine lv_iload hx hb dX7_kind_63 (lv_at hl 4 rfl) ?_
        refine lv_istore_n (lv' := [(3, .int x4), (0, .ref (g_ad G 0)), (1, .int a1), (2, .int x2), (4, .int x4)]) hx hb dX7_kind_65 rfl hl (by decide) rfl (fun ls hl => ?_)
        refine lv_iinc (v := (x4 + 1)) (lv' := [(4, .int (x4 + 1)), (3, .int x4), (0, .ref (g_ad G 0)), (1, .int a1), (2, .int x2)]) hx hb dX7_kind_66 hl (k := 4) rfl rfl (by decide) rfl (fun ls hl => ?_)
        refine lv_goto (tgt := 32) hx hb dX7_kind_69 (by decide) ?_
        exact ih x2 x4 (x4 + 1) M hF _ _ _ hW hS (lv_sub hl [2, 3, 4, 1, 0] rfl)
def F_X7_kind (a1 : Int32) (M : Mem) : Option (Int32 × Mem) := (F_X4_has 2 a1 M).bind (fun r2 => (if r2 = 0 then bn (F_X7_finding (0 : Int32) M) (fun r12 M13 => some (r12, M13)) else ix 8 a1 (fun j4 => F_X7_kind_32 a1 FU (m_I M 8 j4) (0 : Int32) (1 : Int32) M)))
set_option maxHeartbeats 4000000 in
set_option maxRecDepth 100000 in
theorem c_X7_kind {l : Launch} {G : GG} {a1 : Int32}  {M : Mem} {r : Int32} {M1 : Mem} (hF : F_X7_kind a1 M = some (r, M1)) : Met l yX7_kind (wz yX7_kind cX7_kind 5 (some .int)) (RM 3 71) (PreC G [.ref (g_ad G 0), .int a1] M) (QcI G r M1) 0 0 (g_A G) := by
  rw [F_X7_kind] at hF
  refine x_start (by decide) (Nat.le_of_ble_eq_true rfl) (lv := [(0, .ref (g_ad G 0)), (1, .int a1)]) rfl ?_
  intro p e s m below meth c cx hr hW hS ls hl
  obtain ⟨hx, hb, hml, hown, hts, hKK, hSS, hlk⟩ := id cx
  refine lv_aload_n hx hb dX7_kind_0 rfl (lv_at hl 0 rfl) ?_
  refine x_get cx hW kc_0 fk_X7_10 (v := .ref (g_ad G 2)) rfl dX7_kind_1 ?_
  refine lv_iload_n hx hb dX7_kind_4 rfl (lv_at hl 1 rfl) ?_
  obtain ⟨r2, hc1, hF⟩ := bi_e hF
  refine x_goi (x_runV cx hW hS (c_X4_has (l := l) (G := G) kc_2 hc1) cv_X7_67 kc_2 rfl (rest := []) ⟨Nat.le_of_ble_eq_true rfl, Nat.le_of_ble_eq_true rfl⟩ hl.1 rfl rfl (Nat.le_of_ble_eq_true rfl) ⟨Nat.zero_le _, Nat.zero_le _⟩ dX7_kind_5) hS (fun H locs hW hS => ?_)
  refine lv_if_ne (tgt := 17) hx hb dX7_kind_8 (by decide) (fun c3 => ?_) (fun c3 => ?_)
  · have hF := it_n c3 hF
    refine lv_aload_n hx hb dX7_kind_17 rfl (lv_at hl 0 rfl) ?_
    refine x_get cx hW kc_0 fk_X7_10 (v := .ref (g_ad G 2)) rfl dX7_kind_18 ?_
    refine x_get cx hW kc_2 fk_X7_85 (v := .ref (g_ad G 8)) rfl dX7_kind_21 ?_
    refine lv_iload_n hx hb dX7_kind_24 rfl (lv_at hl 1 rfl) ?_
    obtain ⟨j4, hj4, gj4, hF⟩ := ix_e hF
    refine x_iald cx hW kc_8 (by decide) hj4 gj4 dX7_kind_25 ?_
    refine lv_istore_n (lv' := [(2, .int (m_I M 8 j4)), (0, .ref (g_ad G 0)), (1, .int a1)]) hx hb dX7_kind_26 rfl hl (by decide) rfl (fun ls hl => ?_)
    refine lv_iconst (v := (0 : Int32)) hx hb dX7_kind_27 (by decide) ?_
    refine lv_istore_n (lv' := [(3, .int (0 : Int32)), (2, .int (m_I M 8 j4)), (0, .ref (g_ad G 0)), (1, .int a1)]) hx hb dX7_kind_28 rfl hl (by decide) rfl (fun ls hl => ?_)
    refine lv_iconst (v := (1 : Int32)) hx hb dX7_kind_29 (by decide) ?_
    refine lv_istore (lv' := [(4, .int (1 : Int32)), (3, .int (0 : Int32)), (2, .int (m_I M 8 j4)), (0, .ref (g_ad G 0)), (1, .int a1)]) hx hb dX7_kind_30 hl (by decide) rfl (fun ls hl => ?_)
    exact t_X7_kind_32 cx hr FU (m_I M 8 j4) (0 : Int32) (1 : Int32) M hF _ _ _ hW hS (lv_sub hl [3, 4, 2, 1, 0] rfl)
  · have hF := it_p c3 hF
    refine lv_aload_n hx hb dX7_kind_11 rfl (lv_at hl 0 rfl) ?_
    refine lv_iconst (v := (0 : Int32)) hx hb dX7_kind_12 (by decide) ?_
    obtain ⟨r12, M13, hc11, hF⟩ := bn_e hF
    refine x_goi (x_runV cx hW hS (c_X7_finding (l := l) (G := G) hc11) cv_X7_56 kc_0 rfl (rest := []) ⟨Nat.le_of_ble_eq_true rfl, Nat.le_of_ble_eq_true rfl⟩ hl.1 rfl rfl (Nat.le_of_ble_eq_true rfl) ⟨Nat.zero_le _, Nat.zero_le _⟩ dX7_kind_13) hS (fun H locs hW hS => ?_)
    exact x_iret cx hr hW hS (sp_1 hF) (sp_2 hF) dX7_kind_16
def F_X7_odds (a1 : Int32) (M : Mem) : Option (Int32 × Mem) := (if a1 < 0 then bn (F_X7_finding (0 : Int32) M) (fun r3 M4 => some (r3, M4)) else (if a1 ≤ (1 : Int32) then (F_X4_childrenSet 2 M).bind (fun r7 => (F_J6_bitCount_0f7a4 r7 M).bind (fun r9 => (F_X1_deranged ((m_I M 2 2) - r9) M).bind (fun r11 => (F_X1_deranged r9 M).bind (fun r13 => (F_X1_ordered ((m_I M 2 2) - r9) M).bind (fun r15 => (F_X1_ordered r9 M).bind (fun r17 => (F_X1_commonDivisor (r11 * r13) (r15 * r17) M).bind (fun r19 => (if a1 = 0 then dv (if (1 : Int32) < r19 then r19 else (1 : Int32)) (some (((r11 * r13) / (if (1 : Int32) < r19 then r19 else (1 : Int32))), M)) else dv (if (1 : Int32) < r19 then r19 else (1 : Int32)) (some (((r15 * r17) / (if (1 : Int32) < r19 then r19 else (1 : Int32))), M)))))))))) else bn (F_X7_finding (0 : Int32) M) (fun r24 M25 => some (r24, M25))))
set_option maxHeartbeats 4000000 in
set_option maxRecDepth 100000 in
theorem c_X7_odds {l : Launch} {G : GG} {a1 : Int32}  {M : Mem} {r : Int32} {M1 : Mem} (hF : F_X7_odds a1 M = some (r, M1)) : Met l yX7_odds (wz yX7_odds cX7_odds 7 (some .int)) (RM 2 43) (PreC G [.ref (g_ad G 0), .int a1] M) (QcI G r M1) 0 0 (g_A G) := by
  rw [F_X7_odds] at hF
  refine x_start (by decide) (Nat.le_of_ble_eq_true rfl) (lv := [(0, .ref (g_ad G 0)), (1, .int a1)]) rfl ?_
  intro p e s m below meth c cx hr hW hS ls hl
  obtain ⟨hx, hb, hml, hown, hts, hKK, hSS, hlk⟩ := id cx
  refine lv_iload_n hx hb dX7_odds_0 rfl (lv_at hl 1 rfl) ?_
  refine lv_if_lt (tgt := 9) hx hb dX7_odds_1 (by decide) (fun c1 => ?_) (fun c1 => ?_)
  · have hF := it_p c1 hF
    refine lv_aload_n hx hb dX7_odds_9 rfl (lv_at hl 0 rfl) ?_
    refine lv_iconst (v := (0 : Int32)) hx hb dX7_odds_10 (by decide) ?_
    obtain ⟨r3, M4, hc2, hF⟩ := bn_e hF
    refine x_goi (x_runV cx hW hS (c_X7_finding (l := l) (G := G) hc2) cv_X7_56 kc_0 rfl (rest := []) ⟨Nat.le_of_ble_eq_true rfl, Nat.le_of_ble_eq_true rfl⟩ hl.1 rfl rfl (Nat.le_of_ble_eq_true rfl) ⟨Nat.zero_le _, Nat.zero_le _⟩ dX7_odds_11) hS (fun H locs hW hS => ?_)
    exact x_iret cx hr hW hS (sp_1 hF) (sp_2 hF) dX7_odds_14
  · have hF := it_n c1 hF
    refine lv_iload_n hx hb dX7_odds_4 rfl (lv_at hl 1 rfl) ?_
    refine lv_iconst (v := (1 : Int32)) hx hb dX7_odds_5 (by decide) ?_
    refine lv_icmp_le (tgt := 15) hx hb dX7_odds_6 (by decide) (fun c5 => ?_) (fun c5 => ?_)
    · have hF := it_p c5 hF
      refine lv_aload_n hx hb dX7_odds_15 rfl (lv_at hl 0 rfl) ?_
      refine x_get cx hW kc_0 fk_X7_10 (v := .ref (g_ad G 2)) rfl dX7_odds_16 ?_
      obtain ⟨r7, hc6, hF⟩ := bi_e hF
      refine x_goi (x_runV cx hW hS (c_X4_childrenSet (l := l) (G := G) kc_2 hc6) cv_X7_144 kc_2 rfl (rest := []) ⟨Nat.le_of_ble_eq_true rfl, Nat.le_of_ble_eq_true rfl⟩ hl.1 rfl rfl (Nat.le_of_ble_eq_true rfl) ⟨Nat.zero_le _, Nat.zero_le _⟩ dX7_odds_19) hS (fun H locs hW hS => ?_)
      obtain ⟨r9, hc8, hF⟩ := bi_e hF
      refine x_goi (x_runS cx hW hS (c_J6_bitCount_0f7a4 (l := l) (G := G) hc8) cs_X7_181 (rest := []) ⟨Nat.le_of_ble_eq_true rfl, Nat.le_of_ble_eq_true rfl⟩ hl.1 rfl rfl (Nat.le_of_ble_eq_true rfl) ⟨Nat.zero_le _, Nat.zero_le _⟩ dX7_odds_22) hS (fun H locs hW hS => ?_)
      refine lv_istore_n (lv' := [(2, .int r9), (0, .ref (g_ad G 0)), (1, .int a1)]) hx hb dX7_odds_25 rfl hl (by decide) rfl (fun ls hl => ?_)
      refine lv_aload_n hx hb dX7_odds_26 rfl (lv_at hl 1 rfl) ?_
      refine x_get cx hW kc_0 fk_X7_10 (v := .ref (g_ad G 2)) rfl dX7_odds_27 ?_
      refine x_get cx hW kc_2 fk_X7_117 (v := .int (m_I M 2 2)) rfl dX7_odds_30 ?_
      refine lv_iload_n hx hb dX7_odds_33 rfl (lv_at hl 0 rfl) ?_
      refine lv_isub hx hb dX7_odds_34 ?_
      refine lv_istore_n (lv' := [(3, .int ((m_I M 2 2) - r9)), (2, .int r9), (0, .ref (g_ad G 0)), (1, .int a1)]) hx hb dX7_odds_35 rfl hl (by decide) rfl (fun ls hl => ?_)
      refine lv_iload_n hx hb dX7_odds_36 rfl (lv_at hl 0 rfl) ?_
      obtain ⟨r11, hc10, hF⟩ := bi_e hF
      refine x_goi (x_runS cx hW hS (c_X1_deranged (l := l) (G := G) hc10) cs_X7_186 (rest := []) ⟨Nat.le_of_ble_eq_true rfl, Nat.le_of_ble_eq_true rfl⟩ hl.1 rfl rfl (Nat.le_of_ble_eq_true rfl) ⟨Nat.zero_le _, Nat.zero_le _⟩ dX7_odds_37) hS (fun H locs hW hS => ?_)
      refine lv_iload_n hx hb dX7_odds_40 rfl (lv_at hl 1 rfl) ?_
      obtain ⟨r13, hc12, hF⟩ := bi_e hF
      refine x_goi (x_runS cx hW hS (c_X1_deranged (l := l) (G := G) hc12) cs_X7_186 (rest := [.int r11]) ⟨Nat.le_of_ble_eq_true rfl, Nat.le_of_ble_eq_true rfl⟩ hl.1 rfl rfl (Nat.le_of_ble_eq_true rfl) ⟨Nat.zero_le _, Nat.zero_le _⟩ dX7_odds_41) hS (fun H locs hW hS => ?_)
      refine lv_imul hx hb dX7_odds_44 ?_
      refine lv_istore (lv' := [(4, .int (r11 * r13)), (3, .int ((m_I M 2 2) - r9)), (2, .int r9), (0, .ref (g_ad G 0)), (1, .int a1)]) hx hb dX7_odds_45 hl (by decide) rfl (fun ls hl => ?_)
      refine lv_iload_n hx hb dX7_odds_47 rfl (lv_at hl 1 rfl) ?_
      obtain ⟨r15, hc14, hF⟩ := bi_e hF
      refine x_goi (x_runS cx hW hS (c_X1_ordered (l := l) (G := G) hc14) cs_X7_191 (rest := []) ⟨Nat.le_of_ble_eq_true rfl, Nat.le_of_ble_eq_true rfl⟩ hl.1 rfl rfl (Nat.le_of_ble_eq_true rfl) ⟨Nat.zero_le _, Nat.zero_le _⟩ dX7_odds_48) hS (fun H locs hW hS => ?_)
      refine lv_iload_n hx hb dX7_odds_51 rfl (lv_at hl 2 rfl) ?_
      obtain ⟨r17, hc16, hF⟩ := bi_e hF
      refine x_goi (x_runS cx hW hS (c_X1_ordered (l := l) (G := G) hc16) cs_X7_191 (rest := [.int r15]) ⟨Nat.le_of_ble_eq_true rfl, Nat.le_of_ble_eq_true rfl⟩ hl.1 rfl rfl (Nat.le_of_ble_eq_true rfl) ⟨Nat.zero_le _, Nat.zero_le _⟩ dX7_odds_52) hS (fun H locs hW hS => ?_)
      refine lv_imul hx hb dX7_odds_55 ?_
      refine lv_istore (lv' := [(5, .int (r15 * r17)), (4, .int (r11 * r13)), (3, .int ((m_I M 2 2) - r9)), (2, .int r9), (0, .ref (g_ad G 0)), (1, .int a1)]) hx hb dX7_odds_56 hl (by decide) rfl (fun ls hl => ?_)
      refine lv_iconst (v := (1 : Int32)) hx hb dX7_odds_58 (by decide) ?_
      refine lv_iload hx hb dX7_odds_59 (lv_at hl 1 rfl) ?_
      refine lv_iload hx hb dX7_odds_61 (lv_at hl 0 rfl) ?_
      obtain ⟨r19, hc18, hF⟩ := bi_e hF
      refine x_goi (x_runS cx hW hS (c_X1_commonDivisor (l := l) (G := G) hc18) cs_X7_194 (rest := [.int (1 : Int32)]) ⟨Nat.le_of_ble_eq_true rfl, Nat.le_of_ble_eq_true rfl⟩ hl.1 rfl rfl (Nat.le_of_ble_eq_true rfl) ⟨Nat.zero_le _, Nat.zero_le _⟩ dX7_odds_63) hS (fun H locs hW hS => ?_)
      refine x_max cx cm_X7_197 hl.1 (Nat.le_of_ble_eq_true rfl) (Nat.le_of_ble_eq_true rfl) dX7_odds_66 ?_
      refine lv_istore (lv' := [(6, .int (if (1 : Int32) < r19 then r19 else (1 : Int32))), (5, .int (r15 * r17)), (4, .int (r11 * r13)), (3, .int ((m_I M 2 2) - r9)), (2, .int r9), (0, .ref (g_ad G 0)), (1, .int a1)]) hx hb dX7_odds_69 hl (by decide) rfl (fun ls hl => ?_)
      refine lv_iload_n hx hb dX7_odds_71 rfl (lv_at hl 6 rfl) ?_
      refine lv_if_ne (tgt := 80) hx hb dX7_odds_72 (by decide) (fun c20 => ?_) (fun c20 => ?_)
      · have hF := it_n c20 hF
        refine lv_iload hx hb dX7_odds_80 (lv_at hl 1 rfl) ?_
        refine lv_iload hx hb dX7_odds_82 (lv_at hl 0 rfl) ?_
        obtain ⟨d21, hF⟩ := dv_e hF
        refine lv_idiv hx hb dX7_odds_84 d21 ?_
        exact x_iret cx hr hW hS (sp_1 hF) (sp_2 hF) dX7_odds_85
      · have hF := it_p c20 hF
        refine lv_iload hx hb dX7_odds_75 (lv_at hl 2 rfl) ?_
        refine lv_goto (tgt := 82) hx hb dX7_odds_77 (by decide) ?_
        refine lv_iload hx hb dX7_odds_82 (lv_at hl 0 rfl) ?_
        obtain ⟨d22, hF⟩ := dv_e hF
        refine lv_idiv hx hb dX7_odds_84 d22 ?_
        exact x_iret cx hr hW hS (sp_1 hF) (sp_2 hF) dX7_odds_85
    · have hF := it_n c5 hF
      refine lv_aload_n hx hb dX7_odds_9 rfl (lv_at hl 0 rfl) ?_
      refine lv_iconst (v := (0 : Int32)) hx hb dX7_odds_10 (by decide) ?_
      obtain ⟨r24, M25, hc23, hF⟩ := bn_e hF
      refine x_goi (x_runV cx hW hS (c_X7_finding (l := l) (G := G) hc23) cv_X7_56 kc_0 rfl (rest := []) ⟨Nat.le_of_ble_eq_true rfl, Nat.le_of_ble_eq_true rfl⟩ hl.1 rfl rfl (Nat.le_of_ble_eq_true rfl) ⟨Nat.zero_le _, Nat.zero_le _⟩ dX7_odds_11) hS (fun H locs hW hS => ?_)
      exact x_iret cx hr hW hS (sp_1 hF) (sp_2 hF) dX7_odds_14
def F_X7_lots_43 (a1 : Int32) : Nat → Int32 → Int32 → Int32 → Int32 → Mem → Option (Int32 × Mem)
  | 0, _, _, _, _, _ => none
  | n + 1, x2, x3, x4, x5, M => (if a1 < x5 then some (x4, M) else (F_X1_withOwn x3 x5 M).bind (fun r12 => (F_X1_withOwn x2 (a1 - x5) M).bind (fun r14 => F_X7_lots_43 a1 n x2 x3 (x4 + (r12 * r14)) (x5 + 1) M)))
set_option maxHeartbeats 4000000 in
set_option maxRecDepth 100000 in
theorem t_X7_lots_43 {p : Program} {l : Launch} {e : Env} {s : State} {m : MethodId} {args : Array Value} {below : List Frame} {meth : Method} {c : Code} {G : GG} {a1 : Int32} (cx : Cx G cX7_lots RX7 6 p s m args meth c) (hr : meth.sig.returnType = (some .int))   {r : Int32} {M1 : Mem} : ∀ (n : Nat) (x2 : Int32) (x3 : Int32) (x4 : Int32) (x5 : Int32) (M : Mem), F_X7_lots_43 a1 n x2 x3 x4 x5 M = some (r, M1) → ∀ (H : Heap) (locs : List Loc) (ls : Array Slot), WH G M H → va_S (g_A G) s.heap H locs → lv_has ls 6 [(1, .int a1), (2, .int x2), (3, .int x3), (4, .int x4), (5, .int x5)] → W p l e (RM 2 43) s m args below meth c H locs 0 0 (MQ below (QcI G r M1) args s 0 0 (g_A G)) (F0 m 43 ls []) := by
  obtain ⟨hx, hb, hml, hown, hts, hKK, hSS, hlk⟩ := id cx
  intro n
  induction n with
  | zero =>
    intro x2 x3 x4 x5 M hF H locs ls hW hS hl
    rw [F_X7_lots_43] at hF
    cases hF
  | succ n ih =>
    intro x2 x3 x4 x5 M hF H locs ls hW hS hl
    rw [F_X7_lots_43] at hF
    refine lv_iload hx hb dX7_lots_43 (lv_at hl 4 rfl) ?_
    refine lv_iload_n hx hb dX7_lots_45 rfl (lv_at hl 0 rfl) ?_
    refine lv_icmp_gt (tgt := 75) hx hb dX7_lots_46 (by decide) (fun c10 => ?_) (fun c10 => ?_)
    · have hF := it_p c10 hF
      refine lv_iload hx hb dX7_lots_75 (lv_at hl 3 rfl) ?_
      exact x_iret cx hr hW hS (sp_1 hF) (sp_2 hF) dX7_lots_77
    · have hF := it_n c10 hF
      refine lv_iload hx hb dX7_lots_49 (lv_at hl 3 rfl) ?_
      refine lv_iload_n hx hb dX7_lots_51 rfl (lv_at hl 2 rfl) ?_
      refine lv_iload hx hb dX7_lots_52 (lv_at hl 4 rfl) ?_
      obtain ⟨r12, hc11, hF⟩ := bi_e hF
      refine x_goi (x_runS cx hW hS (c_X1_withOwn (l := l) (G := G) hc11) cs_X7_202 (rest := [.int x4]) ⟨Nat.le_of_ble_eq_true rfl, Nat.le_of_ble_eq_true rfl⟩ hl.1 rfl rfl (Nat.le_of_ble_eq_true rfl) ⟨Nat.zero_le _, Nat.zero_le _⟩ dX7_lots_54) hS (fun H locs hW hS => ?_)
      refine lv_iload_n hx hb dX7_lots_57 rfl (lv_at hl 1 rfl) ?_
      refine lv_iload_n hx hb dX7_lots_58 rfl (lv_at hl 0 rfl) ?_
      refine lv_iload hx hb dX7_lots_59 (lv_at hl 4 rfl) ?_
      refine lv_isub hx hb dX7_lots_61 ?_
      obtain ⟨r14, hc13, hF⟩ := bi_e hF
      refine x_goi (x_runS cx hW hS (c_X1_withOwn (l := l) (G := G) hc13) cs_X7_202 (rest := [.int r12, .int x4]) ⟨Nat.le_of_ble_eq_true rfl, Nat.le_of_ble_eq_true rfl⟩ hl.1 rfl rfl (Nat.le_of_ble_eq_true rfl) ⟨Nat.zero_le _, Nat.zero_le _⟩ dX7_lots_62) hS (fun H locs hW hS => ?_)
      refine lv_imul hx hb dX7_lots_65 ?_
      refine lv_iadd hx hb dX7_lots_66 ?_
      refine lv_istore (lv' := [(4, .int (x4 + (r12 * r14))), (1, .int a1), (2, .int x2), (3, .int x3), (5, .int x5)]) hx hb dX7_lots_67 hl (by decide) rfl (fun ls hl => ?_)
      refine lv_iinc (v := (x5 + 1)) (lv' := [(5, .int (x5 + 1)), (4, .int (x4 + (r12 * r14))), (1, .int a1), (2, .int x2), (3, .int x3)]) hx hb dX7_lots_69 hl (k := 4) rfl rfl (by decide) rfl (fun ls hl => ?_)
      refine lv_goto (tgt := 43) hx hb dX7_lots_72 (by decide) ?_
      exact ih x2 x3 (x4 + (r12 * r14)) (x5 + 1) M hF _ _ _ hW hS (lv_sub hl [2, 3, 4, 1, 0] rfl)
def F_X7_lots (a1 : Int32) (M : Mem) : Option (Int32 × Mem) := (if a1 < 0 then bn (F_X7_finding (0 : Int32) M) (fun r3 M4 => some (r3, M4)) else (if a1 ≤ (8 : Int32) then (F_X4_childrenSet 2 M).bind (fun r7 => (F_J6_bitCount_0f7a4 r7 M).bind (fun r9 => F_X7_lots_43 a1 FU r9 ((m_I M 2 2) - r9) (0 : Int32) (0 : Int32) M)) else bn (F_X7_finding (0 : Int32) M) (fun r16 M17 => some (r16, M17))))
set_option maxHeartbeats 4000000 in
set_option maxRecDepth 100000 in
theorem c_X7_lots {l : Launch} {G : GG} {a1 : Int32}  {M : Mem} {r : Int32} {M1 : Mem} (hF : F_X7_lots a1 M = some (r, M1)) : Met l yX7_lots (wz yX7_lots cX7_lots 6 (some .int)) (RM 2 43) (PreC G [.ref (g_ad G 0), .int a1] M) (QcI G r M1) 0 0 (g_A G) := by
  rw [F_X7_lots] at hF
  refine x_start (by decide) (Nat.le_of_ble_eq_true rfl) (lv := [(0, .ref (g_ad G 0)), (1, .int a1)]) rfl ?_
  intro p e s m below meth c cx hr hW hS ls hl
  obtain ⟨hx, hb, hml, hown, hts, hKK, hSS, hlk⟩ := id cx
  refine lv_iload_n hx hb dX7_lots_0 rfl (lv_at hl 1 rfl) ?_
  refine lv_if_lt (tgt := 10) hx hb dX7_lots_1 (by decide) (fun c1 => ?_) (fun c1 => ?_)
  · have hF := it_p c1 hF
    refine lv_aload_n hx hb dX7_lots_10 rfl (lv_at hl 0 rfl) ?_
    refine lv_iconst (v := (0 : Int32)) hx hb dX7_lots_11 (by decide) ?_
    obtain ⟨r3, M4, hc2, hF⟩ := bn_e hF
    refine x_goi (x_runV cx hW hS (c_X7_finding (l := l) (G := G) hc2) cv_X7_56 kc_0 rfl (rest := []) ⟨Nat.le_of_ble_eq_true rfl, Nat.le_of_ble_eq_true rfl⟩ hl.1 rfl rfl (Nat.le_of_ble_eq_true rfl) ⟨Nat.zero_le _, Nat.zero_le _⟩ dX7_lots_12) hS (fun H locs hW hS => ?_)
    exact x_iret cx hr hW hS (sp_1 hF) (sp_2 hF) dX7_lots_15
  · have hF := it_n c1 hF
    refine lv_iload_n hx hb dX7_lots_4 rfl (lv_at hl 1 rfl) ?_
    refine lv_bipush (v := (8 : Int32)) hx hb dX7_lots_5 (by decide) ?_
    refine lv_icmp_le (tgt := 16) hx hb dX7_lots_7 (by decide) (fun c5 => ?_) (fun c5 => ?_)
    · have hF := it_p c5 hF
      refine lv_aload_n hx hb dX7_lots_16 rfl (lv_at hl 0 rfl) ?_
      refine x_get cx hW kc_0 fk_X7_10 (v := .ref (g_ad G 2)) rfl dX7_lots_17 ?_
      obtain ⟨r7, hc6, hF⟩ := bi_e hF
      refine x_goi (x_runV cx hW hS (c_X4_childrenSet (l := l) (G := G) kc_2 hc6) cv_X7_144 kc_2 rfl (rest := []) ⟨Nat.le_of_ble_eq_true rfl, Nat.le_of_ble_eq_true rfl⟩ hl.1 rfl rfl (Nat.le_of_ble_eq_true rfl) ⟨Nat.zero_le _, Nat.zero_le _⟩ dX7_lots_20) hS (fun H locs hW hS => ?_)
      obtain ⟨r9, hc8, hF⟩ := bi_e hF
      refine x_goi (x_runS cx hW hS (c_J6_bitCount_0f7a4 (l := l) (G := G) hc8) cs_X7_181 (rest := []) ⟨Nat.le_of_ble_eq_true rfl, Nat.le_of_ble_eq_true rfl⟩ hl.1 rfl rfl (Nat.le_of_ble_eq_true rfl) ⟨Nat.zero_le _, Nat.zero_le _⟩ dX7_lots_23) hS (fun H locs hW hS => ?_)
      refine lv_istore_n (lv' := [(2, .int r9), (0, .ref (g_ad G 0)), (1, .int a1)]) hx hb dX7_lots_26 rfl hl (by decide) rfl (fun ls hl => ?_)
      refine lv_aload_n hx hb dX7_lots_27 rfl (lv_at hl 1 rfl) ?_
      refine x_get cx hW kc_0 fk_X7_10 (v := .ref (g_ad G 2)) rfl dX7_lots_28 ?_
      refine x_get cx hW kc_2 fk_X7_117 (v := .int (m_I M 2 2)) rfl dX7_lots_31 ?_
      refine lv_iload_n hx hb dX7_lots_34 rfl (lv_at hl 0 rfl) ?_
      refine lv_isub hx hb dX7_lots_35 ?_
      refine lv_istore_n (lv' := [(3, .int ((m_I M 2 2) - r9)), (2, .int r9), (0, .ref (g_ad G 0)), (1, .int a1)]) hx hb dX7_lots_36 rfl hl (by decide) rfl (fun ls hl => ?_)
      refine lv_iconst (v := (0 : Int32)) hx hb dX7_lots_37 (by decide) ?_
      refine lv_istore (lv' := [(4, .int (0 : Int32)), (3, .int ((m_I M 2 2) - r9)), (2, .int r9), (0, .ref (g_ad G 0)), (1, .int a1)]) hx hb dX7_lots_38 hl (by decide) rfl (fun ls hl => ?_)
      refine lv_iconst (v := (0 : Int32)) hx hb dX7_lots_40 (by decide) ?_
      refine lv_istore (lv' := [(5, .int (0 : Int32)), (4, .int (0 : Int32)), (3, .int ((m_I M 2 2) - r9)), (2, .int r9), (0, .ref (g_ad G 0)), (1, .int a1)]) hx hb dX7_lots_41 hl (by decide) rfl (fun ls hl => ?_)
      exact t_X7_lots_43 cx hr FU r9 ((m_I M 2 2) - r9) (0 : Int32) (0 : Int32) M hF _ _ _ hW hS (lv_sub hl [5, 3, 2, 1, 0] rfl)
    · have hF := it_n c5 hF
      refine lv_aload_n hx hb dX7_lots_10 rfl (lv_at hl 0 rfl) ?_
      refine lv_iconst (v := (0 : Int32)) hx hb dX7_lots_11 (by decide) ?_
      obtain ⟨r16, M17, hc15, hF⟩ := bn_e hF
      refine x_goi (x_runV cx hW hS (c_X7_finding (l := l) (G := G) hc15) cv_X7_56 kc_0 rfl (rest := []) ⟨Nat.le_of_ble_eq_true rfl, Nat.le_of_ble_eq_true rfl⟩ hl.1 rfl rfl (Nat.le_of_ble_eq_true rfl) ⟨Nat.zero_le _, Nat.zero_le _⟩ dX7_lots_12) hS (fun H locs hW hS => ?_)
      exact x_iret cx hr hW hS (sp_1 hF) (sp_2 hF) dX7_lots_15
def F_X7_feed_40 (a1 : Int32) (a2 : Int32) : Nat → Int32 → Mem → Option (Int32 × Mem)
  | 0, _, _ => none
  | n + 1, x3, M => (if x3 < 0 then some ((m_I M 37 1), M) else (F_X3_add (((a1.toUInt32 >>> (((8 : Int32) * x3).toUInt32 &&& Int32.toUInt32 31)).toInt32) &&& (255 : Int32)) M).bind (fun M9 => F_X7_feed_40 a1 a2 n (x3 + (-1 : Int32)) M9))
set_option maxHeartbeats 4000000 in
set_option maxRecDepth 100000 in
theorem t_X7_feed_40 {p : Program} {l : Launch} {e : Env} {s : State} {m : MethodId} {args : Array Value} {below : List Frame} {meth : Method} {c : Code} {G : GG} {a1 : Int32} {a2 : Int32} (cx : Cx G cX7_feed RX7 4 p s m args meth c) (hr : meth.sig.returnType = (some .int))   {r : Int32} {M1 : Mem} : ∀ (n : Nat) (x3 : Int32) (M : Mem), F_X7_feed_40 a1 a2 n x3 M = some (r, M1) → ∀ (H : Heap) (locs : List Loc) (ls : Array Slot), WH G M H → va_S (g_A G) s.heap H locs → lv_has ls 4 [(0, .ref (g_ad G 0)), (1, .int a1), (3, .int x3)] → W p l e (RM 1 21) s m args below meth c H locs 0 0 (MQ below (QcI G r M1) args s 0 0 (g_A G)) (F0 m 40 ls []) := by
  obtain ⟨hx, hb, hml, hown, hts, hKK, hSS, hlk⟩ := id cx
  intro n
  induction n with
  | zero =>
    intro x3 M hF H locs ls hW hS hl
    rw [F_X7_feed_40] at hF
    cases hF
  | succ n ih =>
    intro x3 M hF H locs ls hW hS hl
    rw [F_X7_feed_40] at hF
    refine lv_iload_n hx hb dX7_feed_40 rfl (lv_at hl 2 rfl) ?_
    refine lv_if_lt (tgt := 67) hx hb dX7_feed_41 (by decide) (fun c7 => ?_) (fun c7 => ?_)
    · have hF := it_p c7 hF
      refine lv_aload_n hx hb dX7_feed_67 rfl (lv_at hl 0 rfl) ?_
      refine x_get cx hW kc_0 fk_X7_40 (v := .ref (g_ad G 37)) rfl dX7_feed_68 ?_
      refine x_get cx hW kc_37 fk_X7_205 (v := .int (m_I M 37 1)) rfl dX7_feed_71 ?_
      exact x_iret cx hr hW hS (sp_1 hF) (sp_2 hF) dX7_feed_74
    · have hF := it_n c7 hF
      refine lv_aload_n hx hb dX7_feed_44 rfl (lv_at hl 0 rfl) ?_
      refine x_get cx hW kc_0 fk_X7_40 (v := .ref (g_ad G 37)) rfl dX7_feed_45 ?_
      refine lv_iload_n hx hb dX7_feed_48 rfl (lv_at hl 1 rfl) ?_
      refine lv_bipush (v := (8 : Int32)) hx hb dX7_feed_49 (by decide) ?_
      refine lv_iload_n hx hb dX7_feed_51 rfl (lv_at hl 2 rfl) ?_
      refine lv_imul hx hb dX7_feed_52 ?_
      refine lv_iushr hx hb dX7_feed_53 rfl ?_
      refine lv_sipush (v := (255 : Int32)) hx hb dX7_feed_54 (by decide) ?_
      refine lv_iand hx hb dX7_feed_57 ?_
      obtain ⟨M9, hc8, hF⟩ := bi_e hF
      refine x_gov (x_runV cx hW hS (c_X3_add (l := l) (G := G) hc8) cv_X7_208 kc_37 rfl (rest := []) ⟨Nat.le_of_ble_eq_true rfl, Nat.le_of_ble_eq_true rfl⟩ hl.1 rfl rfl (Nat.le_of_ble_eq_true rfl) ⟨Nat.zero_le _, Nat.zero_le _⟩ dX7_feed_58) hS (fun H locs hW hS => ?_)
      refine lv_iinc (v := (x3 + (-1 : Int32))) (lv' := [(3, .int (x3 + (-1 : Int32))), (0, .ref (g_ad G 0)), (1, .int a1)]) hx hb dX7_feed_61 hl (k := 2) rfl rfl (by decide) rfl (fun ls hl => ?_)
      refine lv_goto (tgt := 40) hx hb dX7_feed_64 (by decide) ?_
      exact ih (x3 + (-1 : Int32)) M9 hF _ _ _ hW hS (lv_sub hl [1, 2, 0] rfl)
def F_X7_feed (a1 : Int32) (a2 : Int32) (M : Mem) : Option (Int32 × Mem) := (if a2 < (1 : Int32) then bn (F_X7_finding (0 : Int32) M) (fun r3 M4 => some (r3, M4)) else (if a2 ≤ (4 : Int32) then (if ((m_I M 37 1) + a2) ≤ (120 : Int32) then F_X7_feed_40 a1 a2 FU (a2 - (1 : Int32)) M else bn (F_X7_finding (1 : Int32) M) (fun r11 M12 => some (r11, M12))) else bn (F_X7_finding (0 : Int32) M) (fun r14 M15 => some (r14, M15))))
set_option maxHeartbeats 4000000 in
set_option maxRecDepth 100000 in
theorem c_X7_feed {l : Launch} {G : GG} {a1 : Int32} {a2 : Int32}  {M : Mem} {r : Int32} {M1 : Mem} (hF : F_X7_feed a1 a2 M = some (r, M1)) : Met l yX7_feed (wz yX7_feed cX7_feed 4 (some .int)) (RM 1 21) (PreC G [.ref (g_ad G 0), .int a1, .int a2] M) (QcI G r M1) 0 0 (g_A G) := by
  rw [F_X7_feed] at hF
  refine x_start (by decide) (Nat.le_of_ble_eq_true rfl) (lv := [(0, .ref (g_ad G 0)), (1, .int a1), (2, .int a2)]) rfl ?_
  intro p e s m below meth c cx hr hW hS ls hl
  obtain ⟨hx, hb, hml, hown, hts, hKK, hSS, hlk⟩ := id cx
  refine lv_iload_n hx hb dX7_feed_0 rfl (lv_at hl 2 rfl) ?_
  refine lv_iconst (v := (1 : Int32)) hx hb dX7_feed_1 (by decide) ?_
  refine lv_icmp_lt (tgt := 10) hx hb dX7_feed_2 (by decide) (fun c1 => ?_) (fun c1 => ?_)
  · have hF := it_p c1 hF
    refine lv_aload_n hx hb dX7_feed_10 rfl (lv_at hl 0 rfl) ?_
    refine lv_iconst (v := (0 : Int32)) hx hb dX7_feed_11 (by decide) ?_
    obtain ⟨r3, M4, hc2, hF⟩ := bn_e hF
    refine x_goi (x_runV cx hW hS (c_X7_finding (l := l) (G := G) hc2) cv_X7_56 kc_0 rfl (rest := []) ⟨Nat.le_of_ble_eq_true rfl, Nat.le_of_ble_eq_true rfl⟩ hl.1 rfl rfl (Nat.le_of_ble_eq_true rfl) ⟨Nat.zero_le _, Nat.zero_le _⟩ dX7_feed_12) hS (fun H locs hW hS => ?_)
    exact x_iret cx hr hW hS (sp_1 hF) (sp_2 hF) dX7_feed_15
  · have hF := it_n c1 hF
    refine lv_iload_n hx hb dX7_feed_5 rfl (lv_at hl 2 rfl) ?_
    refine lv_iconst (v := (4 : Int32)) hx hb dX7_feed_6 (by decide) ?_
    refine lv_icmp_le (tgt := 16) hx hb dX7_feed_7 (by decide) (fun c5 => ?_) (fun c5 => ?_)
    · have hF := it_p c5 hF
      refine lv_aload_n hx hb dX7_feed_16 rfl (lv_at hl 0 rfl) ?_
      refine x_get cx hW kc_0 fk_X7_40 (v := .ref (g_ad G 37)) rfl dX7_feed_17 ?_
      refine x_get cx hW kc_37 fk_X7_205 (v := .int (m_I M 37 1)) rfl dX7_feed_20 ?_
      refine lv_iload_n hx hb dX7_feed_23 rfl (lv_at hl 2 rfl) ?_
      refine lv_iadd hx hb dX7_feed_24 ?_
      refine lv_bipush (v := (120 : Int32)) hx hb dX7_feed_25 (by decide) ?_
      refine lv_icmp_le (tgt := 36) hx hb dX7_feed_27 (by decide) (fun c6 => ?_) (fun c6 => ?_)
      · have hF := it_p c6 hF
        refine lv_iload_n hx hb dX7_feed_36 rfl (lv_at hl 2 rfl) ?_
        refine lv_iconst (v := (1 : Int32)) hx hb dX7_feed_37 (by decide) ?_
        refine lv_isub hx hb dX7_feed_38 ?_
        refine lv_istore_n (lv' := [(3, .int (a2 - (1 : Int32))), (0, .ref (g_ad G 0)), (1, .int a1), (2, .int a2)]) hx hb dX7_feed_39 rfl hl (by decide) rfl (fun ls hl => ?_)
        exact t_X7_feed_40 cx hr FU (a2 - (1 : Int32)) M hF _ _ _ hW hS (lv_sub hl [1, 2, 0] rfl)
      · have hF := it_n c6 hF
        refine lv_aload_n hx hb dX7_feed_30 rfl (lv_at hl 0 rfl) ?_
        refine lv_iconst (v := (1 : Int32)) hx hb dX7_feed_31 (by decide) ?_
        obtain ⟨r11, M12, hc10, hF⟩ := bn_e hF
        refine x_goi (x_runV cx hW hS (c_X7_finding (l := l) (G := G) hc10) cv_X7_56 kc_0 rfl (rest := []) ⟨Nat.le_of_ble_eq_true rfl, Nat.le_of_ble_eq_true rfl⟩ hl.1 rfl rfl (Nat.le_of_ble_eq_true rfl) ⟨Nat.zero_le _, Nat.zero_le _⟩ dX7_feed_32) hS (fun H locs hW hS => ?_)
        exact x_iret cx hr hW hS (sp_1 hF) (sp_2 hF) dX7_feed_35
    · have hF := it_n c5 hF
      refine lv_aload_n hx hb dX7_feed_10 rfl (lv_at hl 0 rfl) ?_
      refine lv_iconst (v := (0 : Int32)) hx hb dX7_feed_11 (by decide) ?_
      obtain ⟨r14, M15, hc13, hF⟩ := bn_e hF
      refine x_goi (x_runV cx hW hS (c_X7_finding (l := l) (G := G) hc13) cv_X7_56 kc_0 rfl (rest := []) ⟨Nat.le_of_ble_eq_true rfl, Nat.le_of_ble_eq_true rfl⟩ hl.1 rfl rfl (Nat.le_of_ble_eq_true rfl) ⟨Nat.zero_le _, Nat.zero_le _⟩ dX7_feed_12) hS (fun H locs hW hS => ?_)
      exact x_iret cx hr hW hS (sp_1 hF) (sp_2 hF) dX7_feed_15
def F_X7_wipe (M : Mem) : Option (Int32 × Mem) := pin (w_I M 37 1 (0 : Int32)) (fun M1 => some ((m_I M 37 1), M1))
set_option maxHeartbeats 4000000 in
set_option maxRecDepth 100000 in
theorem c_X7_wipe {l : Launch} {G : GG}   {M : Mem} {r : Int32} {M1 : Mem} (hF : F_X7_wipe M = some (r, M1)) : Met l yX7_wipe (wz yX7_wipe cX7_wipe 2 (some .int)) (RM 0 0) (PreC G [.ref (g_ad G 0)] M) (QcI G r M1) 0 0 (g_A G) := by
  rw [F_X7_wipe] at hF
  refine x_start (by decide) (Nat.le_of_ble_eq_true rfl) (lv := [(0, .ref (g_ad G 0))]) rfl ?_
  intro p e s m below meth c cx hr hW hS ls hl
  obtain ⟨hx, hb, hml, hown, hts, hKK, hSS, hlk⟩ := id cx
  refine lv_aload_n hx hb dX7_wipe_0 rfl (lv_at hl 0 rfl) ?_
  refine x_get cx hW kc_0 fk_X7_40 (v := .ref (g_ad G 37)) rfl dX7_wipe_1 ?_
  refine x_get cx hW kc_37 fk_X7_205 (v := .int (m_I M 37 1)) rfl dX7_wipe_4 ?_
  refine lv_istore_n (lv' := [(1, .int (m_I M 37 1)), (0, .ref (g_ad G 0))]) hx hb dX7_wipe_7 rfl hl (by decide) rfl (fun ls hl => ?_)
  refine lv_aload_n hx hb dX7_wipe_8 rfl (lv_at hl 1 rfl) ?_
  refine x_get cx hW kc_0 fk_X7_40 (v := .ref (g_ad G 37)) rfl dX7_wipe_9 ?_
  refine lv_iconst (v := (0 : Int32)) hx hb dX7_wipe_12 (by decide) ?_
  obtain ⟨M1, eM1, hF⟩ := pin_e hF
  refine x_puti cx hW hS kc_37 fk_X7_205 ft_2_1 (Nat.le_of_ble_eq_true rfl) fs_2_1 eM1 dX7_wipe_13 (fun H locs hW hS => ?_)
  refine lv_iload_n hx hb dX7_wipe_16 rfl (lv_at hl 0 rfl) ?_
  exact x_iret cx hr hW hS (sp_1 hF) (sp_2 hF) dX7_wipe_17
def F_X7_village (M : Mem) : Option (Int32 × Mem) := (F_X4_become 24 2 M).bind (fun M2 => bn (F_X5_tell 24 M2) (fun r4 M5 => (if r4 < 0 then pin (w_I M5 37 1 (0 : Int32)) (fun M7 => some (r4, M7)) else (F_X4_become 2 24 M5).bind (fun M9 => pin (w_I M9 37 1 (0 : Int32)) (fun M10 => some (r4, M10))))))
set_option maxHeartbeats 4000000 in
set_option maxRecDepth 100000 in
theorem c_X7_village {l : Launch} {G : GG}   {M : Mem} {r : Int32} {M1 : Mem} (hF : F_X7_village M = some (r, M1)) : Met l yX7_village (wz yX7_village cX7_village 2 (some .int)) (RM 8 177) (PreC G [.ref (g_ad G 0)] M) (QcI G r M1) 0 0 (g_A G) := by
  rw [F_X7_village] at hF
  refine x_start (by decide) (Nat.le_of_ble_eq_true rfl) (lv := [(0, .ref (g_ad G 0))]) rfl ?_
  intro p e s m below meth c cx hr hW hS ls hl
  obtain ⟨hx, hb, hml, hown, hts, hKK, hSS, hlk⟩ := id cx
  refine lv_aload_n hx hb dX7_village_0 rfl (lv_at hl 0 rfl) ?_
  refine x_get cx hW kc_0 fk_X7_19 (v := .ref (g_ad G 24)) rfl dX7_village_1 ?_
  refine lv_aload_n hx hb dX7_village_4 rfl (lv_at hl 0 rfl) ?_
  refine x_get cx hW kc_0 fk_X7_10 (v := .ref (g_ad G 2)) rfl dX7_village_5 ?_
  obtain ⟨M2, hc1, hF⟩ := bi_e hF
  refine x_gov (x_runV cx hW hS (c_X4_become (l := l) (G := G) kc_24 kc_2 hc1) cv_X7_162 kc_24 rfl (rest := []) ⟨Nat.le_of_ble_eq_true rfl, Nat.le_of_ble_eq_true rfl⟩ hl.1 rfl rfl (Nat.le_of_ble_eq_true rfl) ⟨Nat.zero_le _, Nat.zero_le _⟩ dX7_village_8) hS (fun H locs hW hS => ?_)
  refine lv_aload_n hx hb dX7_village_11 rfl (lv_at hl 0 rfl) ?_
  refine x_get cx hW kc_0 fk_X7_32 (v := .ref (g_ad G 39)) rfl dX7_village_12 ?_
  refine lv_aload_n hx hb dX7_village_15 rfl (lv_at hl 0 rfl) ?_
  refine x_get cx hW kc_0 fk_X7_19 (v := .ref (g_ad G 24)) rfl dX7_village_16 ?_
  obtain ⟨r4, M5, hc3, hF⟩ := bn_e hF
  refine x_goi (x_runV cx hW hS (c_X5_tell (l := l) (G := G) kc_24 hc3) cv_X7_210 kc_39 rfl (rest := []) ⟨Nat.le_of_ble_eq_true rfl, Nat.le_of_ble_eq_true rfl⟩ hl.1 rfl rfl (Nat.le_of_ble_eq_true rfl) ⟨Nat.zero_le _, Nat.zero_le _⟩ dX7_village_19) hS (fun H locs hW hS => ?_)
  refine lv_istore_n (lv' := [(1, .int r4), (0, .ref (g_ad G 0))]) hx hb dX7_village_22 rfl hl (by decide) rfl (fun ls hl => ?_)
  refine lv_iload_n hx hb dX7_village_23 rfl (lv_at hl 0 rfl) ?_
  refine lv_if_lt (tgt := 38) hx hb dX7_village_24 (by decide) (fun c6 => ?_) (fun c6 => ?_)
  · have hF := it_p c6 hF
    refine lv_aload_n hx hb dX7_village_38 rfl (lv_at hl 1 rfl) ?_
    refine x_get cx hW kc_0 fk_X7_40 (v := .ref (g_ad G 37)) rfl dX7_village_39 ?_
    refine lv_iconst (v := (0 : Int32)) hx hb dX7_village_42 (by decide) ?_
    obtain ⟨M7, eM7, hF⟩ := pin_e hF
    refine x_puti cx hW hS kc_37 fk_X7_205 ft_2_1 (Nat.le_of_ble_eq_true rfl) fs_2_1 eM7 dX7_village_43 (fun H locs hW hS => ?_)
    refine lv_iload_n hx hb dX7_village_46 rfl (lv_at hl 0 rfl) ?_
    exact x_iret cx hr hW hS (sp_1 hF) (sp_2 hF) dX7_village_47
  · have hF := it_n c6 hF
    refine lv_aload_n hx hb dX7_village_27 rfl (lv_at hl 1 rfl) ?_
    refine x_get cx hW kc_0 fk_X7_10 (v := .ref (g_ad G 2)) rfl dX7_village_28 ?_
    refine lv_aload_n hx hb dX7_village_31 rfl (lv_at hl 1 rfl) ?_
    refine x_get cx hW kc_0 fk_X7_19 (v := .ref (g_ad G 24)) rfl dX7_village_32 ?_
    obtain ⟨M9, hc8, hF⟩ := bi_e hF
    refine x_gov (x_runV cx hW hS (c_X4_become (l := l) (G := G) kc_2 kc_24 hc8) cv_X7_162 kc_2 rfl (rest := []) ⟨Nat.le_of_ble_eq_true rfl, Nat.le_of_ble_eq_true rfl⟩ hl.1 rfl rfl (Nat.le_of_ble_eq_true rfl) ⟨Nat.zero_le _, Nat.zero_le _⟩ dX7_village_35) hS (fun H locs hW hS => ?_)
    refine lv_aload_n hx hb dX7_village_38 rfl (lv_at hl 1 rfl) ?_
    refine x_get cx hW kc_0 fk_X7_40 (v := .ref (g_ad G 37)) rfl dX7_village_39 ?_
    refine lv_iconst (v := (0 : Int32)) hx hb dX7_village_42 (by decide) ?_
    obtain ⟨M10, eM10, hF⟩ := pin_e hF
    refine x_puti cx hW hS kc_37 fk_X7_205 ft_2_1 (Nat.le_of_ble_eq_true rfl) fs_2_1 eM10 dX7_village_43 (fun H locs hW hS => ?_)
    refine lv_iload_n hx hb dX7_village_46 rfl (lv_at hl 0 rfl) ?_
    exact x_iret cx hr hW hS (sp_1 hF) (sp_2 hF) dX7_village_47
def F_X7_isSheet (a0 : Int32) (M : Mem) : Option Int32 := (if a0 < 0 then some (0 : Int32) else (if (4 : Int32) ≤ a0 then some (0 : Int32) else some (1 : Int32)))
set_option maxHeartbeats 4000000 in
set_option maxRecDepth 100000 in
theorem c_X7_isSheet {l : Launch} {G : GG} {a0 : Int32}  {M : Mem} {r : Int32} (hF : F_X7_isSheet a0 M = some r) : Met l yX7_isSheet (wz yX7_isSheet cX7_isSheet 1 (some .boolean)) (RM 0 0) (PreC G [.int a0] M) (QcI G r M) 0 0 (g_A G) := by
  rw [F_X7_isSheet] at hF
  refine x_start (by decide) (Nat.le_of_ble_eq_true rfl) (lv := [(0, .int a0)]) rfl ?_
  intro p e s m below meth c cx hr hW hS ls hl
  obtain ⟨hx, hb, hml, hown, hts, hKK, hSS, hlk⟩ := id cx
  refine lv_iload_n hx hb dX7_isSheet_0 rfl (lv_at hl 0 rfl) ?_
  refine lv_if_lt (tgt := 13) hx hb dX7_isSheet_1 (by decide) (fun c1 => ?_) (fun c1 => ?_)
  · have hF := it_p c1 hF
    refine lv_iconst (v := (0 : Int32)) hx hb dX7_isSheet_13 (by decide) ?_
    exact x_zret cx hr (by decide) hW hS (Option.some.inj hF) rfl dX7_isSheet_14
  · have hF := it_n c1 hF
    refine lv_iload_n hx hb dX7_isSheet_4 rfl (lv_at hl 0 rfl) ?_
    refine lv_iconst (v := (4 : Int32)) hx hb dX7_isSheet_5 (by decide) ?_
    refine lv_icmp_ge (tgt := 13) hx hb dX7_isSheet_6 (by decide) (fun c2 => ?_) (fun c2 => ?_)
    · have hF := it_p c2 hF
      refine lv_iconst (v := (0 : Int32)) hx hb dX7_isSheet_13 (by decide) ?_
      exact x_zret cx hr (by decide) hW hS (Option.some.inj hF) rfl dX7_isSheet_14
    · have hF := it_n c2 hF
      refine lv_iconst (v := (1 : Int32)) hx hb dX7_isSheet_9 (by decide) ?_
      refine lv_goto (tgt := 14) hx hb dX7_isSheet_10 (by decide) ?_
      exact x_zret cx hr (by decide) hW hS (Option.some.inj hF) rfl dX7_isSheet_14
def F_X7_sheet_35 (a1 : Int32) (a2 : Int32) (a3 : Int32) (M : Mem) : Option (Int32 × Mem) := (if 0 ≤ a3 then (if a3 ≤ (40 : Int32) then ix 4 a1 (fun j10 => bn (F_X2_begin (41 + 2 * j10) a2 a3 M) (fun r12 M13 => some (r12, M13))) else bn (F_X7_finding (0 : Int32) M) (fun r15 M16 => some (r15, M16))) else bn (F_X7_finding (6 : Int32) M) (fun r18 M19 => some (r18, M19)))
set_option maxHeartbeats 4000000 in
set_option maxRecDepth 100000 in
theorem t_X7_sheet_35 {p : Program} {l : Launch} {e : Env} {s : State} {m : MethodId} {args : Array Value} {below : List Frame} {meth : Method} {c : Code} {G : GG} {a1 : Int32} {a2 : Int32} {a3 : Int32} (cx : Cx G cX7_sheet RX7 4 p s m args meth c) (hr : meth.sig.returnType = (some .int))   {r : Int32} {M1 : Mem} : ∀ (M : Mem), F_X7_sheet_35 a1 a2 a3 M = some (r, M1) → ∀ (H : Heap) (locs : List Loc) (ls : Array Slot), WH G M H → va_S (g_A G) s.heap H locs → lv_has ls 4 [(0, .ref (g_ad G 0)), (1, .int a1), (2, .int a2), (3, .int a3)] → W p l e (RM 2 46) s m args below meth c H locs 0 0 (MQ below (QcI G r M1) args s 0 0 (g_A G)) (F0 m 35 ls []) := by
  obtain ⟨hx, hb, hml, hown, hts, hKK, hSS, hlk⟩ := id cx
  intro M hF H locs ls hW hS hl
  rw [F_X7_sheet_35] at hF
  refine lv_iload_n hx hb dX7_sheet_35 rfl (lv_at hl 3 rfl) ?_
  refine lv_if_ge (tgt := 46) hx hb dX7_sheet_36 (by decide) (fun c8 => ?_) (fun c8 => ?_)
  · have hF := it_p c8 hF
    refine lv_iload_n hx hb dX7_sheet_46 rfl (lv_at hl 3 rfl) ?_
    refine lv_bipush (v := (40 : Int32)) hx hb dX7_sheet_47 (by decide) ?_
    refine lv_icmp_le (tgt := 58) hx hb dX7_sheet_49 (by decide) (fun c9 => ?_) (fun c9 => ?_)
    · have hF := it_p c9 hF
      refine lv_aload_n hx hb dX7_sheet_58 rfl (lv_at hl 0 rfl) ?_
      refine x_get cx hW kc_0 fk_X7_43 (v := .ref (g_ad G 40)) rfl dX7_sheet_59 ?_
      refine lv_iload_n hx hb dX7_sheet_62 rfl (lv_at hl 1 rfl) ?_
      obtain ⟨j10, hj10, gj10, hF⟩ := ix_e hF
      refine x_aald cx hW kc_40 hj10 gj10 dX7_sheet_63 ?_
      refine lv_iload_n hx hb dX7_sheet_64 rfl (lv_at hl 2 rfl) ?_
      refine lv_iload_n hx hb dX7_sheet_65 rfl (lv_at hl 3 rfl) ?_
      obtain ⟨r12, M13, hc11, hF⟩ := bn_e hF
      refine x_goi (x_runV cx hW hS (c_X2_begin (l := l) (G := G) (kd_sh hj10 gj10) hc11) cv_X7_216 (kd_sh hj10 gj10) rfl (rest := []) ⟨Nat.le_of_ble_eq_true rfl, Nat.le_of_ble_eq_true rfl⟩ hl.1 rfl rfl (Nat.le_of_ble_eq_true rfl) ⟨Nat.zero_le _, Nat.zero_le _⟩ dX7_sheet_66) hS (fun H locs hW hS => ?_)
      exact x_iret cx hr hW hS (sp_1 hF) (sp_2 hF) dX7_sheet_69
    · have hF := it_n c9 hF
      refine lv_aload_n hx hb dX7_sheet_52 rfl (lv_at hl 0 rfl) ?_
      refine lv_iconst (v := (0 : Int32)) hx hb dX7_sheet_53 (by decide) ?_
      obtain ⟨r15, M16, hc14, hF⟩ := bn_e hF
      refine x_goi (x_runV cx hW hS (c_X7_finding (l := l) (G := G) hc14) cv_X7_56 kc_0 rfl (rest := []) ⟨Nat.le_of_ble_eq_true rfl, Nat.le_of_ble_eq_true rfl⟩ hl.1 rfl rfl (Nat.le_of_ble_eq_true rfl) ⟨Nat.zero_le _, Nat.zero_le _⟩ dX7_sheet_54) hS (fun H locs hW hS => ?_)
      exact x_iret cx hr hW hS (sp_1 hF) (sp_2 hF) dX7_sheet_57
  · have hF := it_n c8 hF
    refine lv_aload_n hx hb dX7_sheet_39 rfl (lv_at hl 0 rfl) ?_
    refine lv_bipush (v := (6 : Int32)) hx hb dX7_sheet_40 (by decide) ?_
    obtain ⟨r18, M19, hc17, hF⟩ := bn_e hF
    refine x_goi (x_runV cx hW hS (c_X7_finding (l := l) (G := G) hc17) cv_X7_56 kc_0 rfl (rest := []) ⟨Nat.le_of_ble_eq_true rfl, Nat.le_of_ble_eq_true rfl⟩ hl.1 rfl rfl (Nat.le_of_ble_eq_true rfl) ⟨Nat.zero_le _, Nat.zero_le _⟩ dX7_sheet_42) hS (fun H locs hW hS => ?_)
    exact x_iret cx hr hW hS (sp_1 hF) (sp_2 hF) dX7_sheet_45
def F_X7_sheet (a1 : Int32) (a2 : Int32) (a3 : Int32) (M : Mem) : Option (Int32 × Mem) := (F_X7_isSheet a1 M).bind (fun r2 => (if r2 = 0 then bn (F_X7_finding (0 : Int32) M) (fun r5 M6 => some (r5, M6)) else (if a2 = 0 then F_X7_sheet_35 a1 a2 a3 M else (if a2 = (8 : Int32) then F_X7_sheet_35 a1 a2 a3 M else (if a2 = (16 : Int32) then F_X7_sheet_35 a1 a2 a3 M else (if a2 = (64 : Int32) then F_X7_sheet_35 a1 a2 a3 M else bn (F_X7_finding (0 : Int32) M) (fun r24 M25 => some (r24, M25))))))))
set_option maxHeartbeats 4000000 in
set_option maxRecDepth 100000 in
theorem c_X7_sheet {l : Launch} {G : GG} {a1 : Int32} {a2 : Int32} {a3 : Int32}  {M : Mem} {r : Int32} {M1 : Mem} (hF : F_X7_sheet a1 a2 a3 M = some (r, M1)) : Met l yX7_sheet (wz yX7_sheet cX7_sheet 4 (some .int)) (RM 2 46) (PreC G [.ref (g_ad G 0), .int a1, .int a2, .int a3] M) (QcI G r M1) 0 0 (g_A G) := by
  rw [F_X7_sheet] at hF
  refine x_start (by decide) (Nat.le_of_ble_eq_true rfl) (lv := [(0, .ref (g_ad G 0)), (1, .int a1), (2, .int a2), (3, .int a3)]) rfl ?_
  intro p e s m below meth c cx hr hW hS ls hl
  obtain ⟨hx, hb, hml, hown, hts, hKK, hSS, hlk⟩ := id cx
  refine lv_iload_n hx hb dX7_sheet_0 rfl (lv_at hl 1 rfl) ?_
  obtain ⟨r2, hc1, hF⟩ := bi_e hF
  refine x_goi (x_runS cx hW hS (c_X7_isSheet (l := l) (G := G) hc1) cs_X7_213 (rest := []) ⟨Nat.le_of_ble_eq_true rfl, Nat.le_of_ble_eq_true rfl⟩ hl.1 rfl rfl (Nat.le_of_ble_eq_true rfl) ⟨Nat.zero_le _, Nat.zero_le _⟩ dX7_sheet_1) hS (fun H locs hW hS => ?_)
  refine lv_if_eq (tgt := 29) hx hb dX7_sheet_4 (by decide) (fun c3 => ?_) (fun c3 => ?_)
  · have hF := it_p c3 hF
    refine lv_aload_n hx hb dX7_sheet_29 rfl (lv_at hl 0 rfl) ?_
    refine lv_iconst (v := (0 : Int32)) hx hb dX7_sheet_30 (by decide) ?_
    obtain ⟨r5, M6, hc4, hF⟩ := bn_e hF
    refine x_goi (x_runV cx hW hS (c_X7_finding (l := l) (G := G) hc4) cv_X7_56 kc_0 rfl (rest := []) ⟨Nat.le_of_ble_eq_true rfl, Nat.le_of_ble_eq_true rfl⟩ hl.1 rfl rfl (Nat.le_of_ble_eq_true rfl) ⟨Nat.zero_le _, Nat.zero_le _⟩ dX7_sheet_31) hS (fun H locs hW hS => ?_)
    exact x_iret cx hr hW hS (sp_1 hF) (sp_2 hF) dX7_sheet_34
  · have hF := it_n c3 hF
    refine lv_iload_n hx hb dX7_sheet_7 rfl (lv_at hl 2 rfl) ?_
    refine lv_if_eq (tgt := 35) hx hb dX7_sheet_8 (by decide) (fun c7 => ?_) (fun c7 => ?_)
    · have hF := it_p c7 hF
      exact t_X7_sheet_35 cx hr M hF _ _ _ hW hS (lv_sub hl [0, 1, 2, 3] rfl)
    · have hF := it_n c7 hF
      refine lv_iload_n hx hb dX7_sheet_11 rfl (lv_at hl 2 rfl) ?_
      refine lv_bipush (v := (8 : Int32)) hx hb dX7_sheet_12 (by decide) ?_
      refine lv_icmp_eq (tgt := 35) hx hb dX7_sheet_14 (by decide) (fun c20 => ?_) (fun c20 => ?_)
      · have hF := it_p c20 hF
        exact t_X7_sheet_35 cx hr M hF _ _ _ hW hS (lv_sub hl [0, 1, 2, 3] rfl)
      · have hF := it_n c20 hF
        refine lv_iload_n hx hb dX7_sheet_17 rfl (lv_at hl 2 rfl) ?_
        refine lv_bipush (v := (16 : Int32)) hx hb dX7_sheet_18 (by decide) ?_
        refine lv_icmp_eq (tgt := 35) hx hb dX7_sheet_20 (by decide) (fun c21 => ?_) (fun c21 => ?_)
        · have hF := it_p c21 hF
          exact t_X7_sheet_35 cx hr M hF _ _ _ hW hS (lv_sub hl [0, 1, 2, 3] rfl)
        · have hF := it_n c21 hF
          refine lv_iload_n hx hb dX7_sheet_23 rfl (lv_at hl 2 rfl) ?_
          refine lv_bipush (v := (64 : Int32)) hx hb dX7_sheet_24 (by decide) ?_
          refine lv_icmp_eq (tgt := 35) hx hb dX7_sheet_26 (by decide) (fun c22 => ?_) (fun c22 => ?_)
          · have hF := it_p c22 hF
            exact t_X7_sheet_35 cx hr M hF _ _ _ hW hS (lv_sub hl [0, 1, 2, 3] rfl)
          · have hF := it_n c22 hF
            refine lv_aload_n hx hb dX7_sheet_29 rfl (lv_at hl 0 rfl) ?_
            refine lv_iconst (v := (0 : Int32)) hx hb dX7_sheet_30 (by decide) ?_
            obtain ⟨r24, M25, hc23, hF⟩ := bn_e hF
            refine x_goi (x_runV cx hW hS (c_X7_finding (l := l) (G := G) hc23) cv_X7_56 kc_0 rfl (rest := []) ⟨Nat.le_of_ble_eq_true rfl, Nat.le_of_ble_eq_true rfl⟩ hl.1 rfl rfl (Nat.le_of_ble_eq_true rfl) ⟨Nat.zero_le _, Nat.zero_le _⟩ dX7_sheet_31) hS (fun H locs hW hS => ?_)
            exact x_iret cx hr hW hS (sp_1 hF) (sp_2 hF) dX7_sheet_34
def F_X7_write (a1 : Int32) (a2 : Int32) (a3 : Int64) (M : Mem) : Option (Int64 × Mem) := (F_X7_isSheet a1 M).bind (fun r2 => (if r2 = 0 then bn (F_X7_finding (0 : Int32) M) (fun r23 M24 => some ((r23.toInt64), M24)) else ix 4 a1 (fun j4 => (F_X2_isMissing (41 + 2 * j4) M).bind (fun r6 => (if r6 = 0 then (if a2 < 0 then bn (F_X7_finding (0 : Int32) M) (fun r10 M11 => some ((r10.toInt64), M11)) else (if a2 < (m_I M (41 + 2 * j4) 2) then ix 40 a2 (fun j13 => (F_X2_put (41 + 2 * j4) a2 a3 M).bind (fun M15 => some ((m_J M ((41 + 2 * j4) + 1) j13), M15))) else bn (F_X7_finding (0 : Int32) M) (fun r17 M18 => some ((r17.toInt64), M18)))) else bn (F_X7_finding (5 : Int32) M) (fun r20 M21 => some ((r20.toInt64), M21)))))))
set_option maxHeartbeats 4000000 in
set_option maxRecDepth 100000 in
theorem c_X7_write {l : Launch} {G : GG} {a1 : Int32} {a2 : Int32} {a3 : Int64}  {M : Mem} {r : Int64} {M1 : Mem} (hF : F_X7_write a1 a2 a3 M = some (r, M1)) : Met l yX7_write (wz yX7_write cX7_write 8 (some .long)) (RM 1 23) (PreC G [.ref (g_ad G 0), .int a1, .int a2, .long a3] M) (QcL G r M1) 0 0 (g_A G) := by
  rw [F_X7_write] at hF
  refine x_start (by decide) (Nat.le_of_ble_eq_true rfl) (lv := [(0, .ref (g_ad G 0)), (1, .int a1), (2, .int a2), (3, .long a3)]) rfl ?_
  intro p e s m below meth c cx hr hW hS ls hl
  obtain ⟨hx, hb, hml, hown, hts, hKK, hSS, hlk⟩ := id cx
  refine lv_iload_n hx hb dX7_write_0 rfl (lv_at hl 1 rfl) ?_
  obtain ⟨r2, hc1, hF⟩ := bi_e hF
  refine x_goi (x_runS cx hW hS (c_X7_isSheet (l := l) (G := G) hc1) cs_X7_213 (rest := []) ⟨Nat.le_of_ble_eq_true rfl, Nat.le_of_ble_eq_true rfl⟩ hl.1 rfl rfl (Nat.le_of_ble_eq_true rfl) ⟨Nat.zero_le _, Nat.zero_le _⟩ dX7_write_1) hS (fun H locs hW hS => ?_)
  refine lv_if_ne (tgt := 14) hx hb dX7_write_4 (by decide) (fun c3 => ?_) (fun c3 => ?_)
  · have hF := it_n c3 hF
    refine lv_aload_n hx hb dX7_write_14 rfl (lv_at hl 0 rfl) ?_
    refine x_get cx hW kc_0 fk_X7_43 (v := .ref (g_ad G 40)) rfl dX7_write_15 ?_
    refine lv_iload_n hx hb dX7_write_18 rfl (lv_at hl 1 rfl) ?_
    obtain ⟨j4, hj4, gj4, hF⟩ := ix_e hF
    refine x_aald cx hW kc_40 hj4 gj4 dX7_write_19 ?_
    refine lv_astore (lv' := [(5, .ref (g_ad G (41 + 2 * j4))), (0, .ref (g_ad G 0)), (1, .int a1), (2, .int a2), (3, .long a3)]) hx hb dX7_write_20 hl (by decide) rfl (fun ls hl => ?_)
    refine lv_aload hx hb dX7_write_22 (lv_at hl 0 rfl) ?_
    obtain ⟨r6, hc5, hF⟩ := bi_e hF
    refine x_goi (x_runV cx hW hS (c_X2_isMissing (l := l) (G := G) (kd_sh hj4 gj4) hc5) cv_X7_219 (kd_sh hj4 gj4) rfl (rest := []) ⟨Nat.le_of_ble_eq_true rfl, Nat.le_of_ble_eq_true rfl⟩ hl.1 rfl rfl (Nat.le_of_ble_eq_true rfl) ⟨Nat.zero_le _, Nat.zero_le _⟩ dX7_write_24) hS (fun H locs hW hS => ?_)
    refine lv_if_eq (tgt := 37) hx hb dX7_write_27 (by decide) (fun c7 => ?_) (fun c7 => ?_)
    · have hF := it_p c7 hF
      refine lv_iload_n hx hb dX7_write_37 rfl (lv_at hl 3 rfl) ?_
      refine lv_if_lt (tgt := 50) hx hb dX7_write_38 (by decide) (fun c8 => ?_) (fun c8 => ?_)
      · have hF := it_p c8 hF
        refine lv_aload_n hx hb dX7_write_50 rfl (lv_at hl 1 rfl) ?_
        refine lv_iconst (v := (0 : Int32)) hx hb dX7_write_51 (by decide) ?_
        obtain ⟨r10, M11, hc9, hF⟩ := bn_e hF
        refine x_goi (x_runV cx hW hS (c_X7_finding (l := l) (G := G) hc9) cv_X7_56 kc_0 rfl (rest := []) ⟨Nat.le_of_ble_eq_true rfl, Nat.le_of_ble_eq_true rfl⟩ hl.1 rfl rfl (Nat.le_of_ble_eq_true rfl) ⟨Nat.zero_le _, Nat.zero_le _⟩ dX7_write_52) hS (fun H locs hW hS => ?_)
        refine lv_i2l hx hb dX7_write_55 rfl ?_
        exact x_lret cx hr hW hS (sp_1 hF) (sp_2 hF) dX7_write_56
      · have hF := it_n c8 hF
        refine lv_iload_n hx hb dX7_write_41 rfl (lv_at hl 3 rfl) ?_
        refine lv_aload hx hb dX7_write_42 (lv_at hl 0 rfl) ?_
        refine x_get cx hW (kd_sh hj4 gj4) fk_X7_222 (v := .int (m_I M (41 + 2 * j4) 2)) rfl dX7_write_44 ?_
        refine lv_icmp_lt (tgt := 57) hx hb dX7_write_47 (by decide) (fun c12 => ?_) (fun c12 => ?_)
        · have hF := it_p c12 hF
          refine lv_aload hx hb dX7_write_57 (lv_at hl 0 rfl) ?_
          refine x_get cx hW (kd_sh hj4 gj4) fk_X7_223 (v := .ref (g_ad G ((41 + 2 * j4) + 1))) rfl dX7_write_59 ?_
          refine lv_iload_n hx hb dX7_write_62 rfl (lv_at hl 3 rfl) ?_
          obtain ⟨j13, hj13, gj13, hF⟩ := ix_e hF
          refine x_lald cx hW (kd_s (kd_sh hj4 gj4)) (by decide) hj13 gj13 dX7_write_63 ?_
          refine lv_lstore (lv' := [(6, .long (m_J M ((41 + 2 * j4) + 1) j13)), (5, .ref (g_ad G (41 + 2 * j4))), (0, .ref (g_ad G 0)), (1, .int a1), (2, .int a2), (3, .long a3)]) hx hb dX7_write_64 hl (by decide) rfl (fun ls hl => ?_)
          refine lv_aload hx hb dX7_write_66 (lv_at hl 1 rfl) ?_
          refine lv_iload_n hx hb dX7_write_68 rfl (lv_at hl 4 rfl) ?_
          refine lv_lload_n hx hb dX7_write_69 rfl (lv_at hl 5 rfl) ?_
          obtain ⟨M15, hc14, hF⟩ := bi_e hF
          refine x_gov (x_runV cx hW hS (c_X2_put (l := l) (G := G) (kd_sh hj4 gj4) hc14) cv_X7_227 (kd_sh hj4 gj4) rfl (rest := []) ⟨Nat.le_of_ble_eq_true rfl, Nat.le_of_ble_eq_true rfl⟩ hl.1 rfl rfl (Nat.le_of_ble_eq_true rfl) ⟨Nat.zero_le _, Nat.zero_le _⟩ dX7_write_70) hS (fun H locs hW hS => ?_)
          refine lv_lload hx hb dX7_write_73 (lv_at hl 0 rfl) ?_
          exact x_lret cx hr hW hS (sp_1 hF) (sp_2 hF) dX7_write_75
        · have hF := it_n c12 hF
          refine lv_aload_n hx hb dX7_write_50 rfl (lv_at hl 1 rfl) ?_
          refine lv_iconst (v := (0 : Int32)) hx hb dX7_write_51 (by decide) ?_
          obtain ⟨r17, M18, hc16, hF⟩ := bn_e hF
          refine x_goi (x_runV cx hW hS (c_X7_finding (l := l) (G := G) hc16) cv_X7_56 kc_0 rfl (rest := []) ⟨Nat.le_of_ble_eq_true rfl, Nat.le_of_ble_eq_true rfl⟩ hl.1 rfl rfl (Nat.le_of_ble_eq_true rfl) ⟨Nat.zero_le _, Nat.zero_le _⟩ dX7_write_52) hS (fun H locs hW hS => ?_)
          refine lv_i2l hx hb dX7_write_55 rfl ?_
          exact x_lret cx hr hW hS (sp_1 hF) (sp_2 hF) dX7_write_56
    · have hF := it_n c7 hF
      refine lv_aload_n hx hb dX7_write_30 rfl (lv_at hl 1 rfl) ?_
      refine lv_iconst (v := (5 : Int32)) hx hb dX7_write_31 (by decide) ?_
      obtain ⟨r20, M21, hc19, hF⟩ := bn_e hF
      refine x_goi (x_runV cx hW hS (c_X7_finding (l := l) (G := G) hc19) cv_X7_56 kc_0 rfl (rest := []) ⟨Nat.le_of_ble_eq_true rfl, Nat.le_of_ble_eq_true rfl⟩ hl.1 rfl rfl (Nat.le_of_ble_eq_true rfl) ⟨Nat.zero_le _, Nat.zero_le _⟩ dX7_write_32) hS (fun H locs hW hS => ?_)
      refine lv_i2l hx hb dX7_write_35 rfl ?_
      exact x_lret cx hr hW hS (sp_1 hF) (sp_2 hF) dX7_write_36
  · have hF := it_p c3 hF
    refine lv_aload_n hx hb dX7_write_7 rfl (lv_at hl 0 rfl) ?_
    refine lv_iconst (v := (0 : Int32)) hx hb dX7_write_8 (by decide) ?_
    obtain ⟨r23, M24, hc22, hF⟩ := bn_e hF
    refine x_goi (x_runV cx hW hS (c_X7_finding (l := l) (G := G) hc22) cv_X7_56 kc_0 rfl (rest := []) ⟨Nat.le_of_ble_eq_true rfl, Nat.le_of_ble_eq_true rfl⟩ hl.1 rfl rfl (Nat.le_of_ble_eq_true rfl) ⟨Nat.zero_le _, Nat.zero_le _⟩ dX7_write_9) hS (fun H locs hW hS => ?_)
    refine lv_i2l hx hb dX7_write_12 rfl ?_
    exact x_lret cx hr hW hS (sp_1 hF) (sp_2 hF) dX7_write_13
def F_X7_copy (a1 : Int32) (a2 : Int32) (a3 : Int32) (a4 : Int32) (a5 : Int32) (M : Mem) : Option (Int32 × Mem) := (F_X7_isSheet a1 M).bind (fun r2 => (if r2 = 0 then bn (F_X7_finding (0 : Int32) M) (fun r5 M6 => some (r5, M6)) else (F_X7_isSheet a3 M).bind (fun r8 => (if r8 = 0 then bn (F_X7_finding (0 : Int32) M) (fun r47 M48 => some (r47, M48)) else ix 4 a1 (fun j10 => ix 4 a3 (fun j11 => (F_X2_isMissing (41 + 2 * j10) M).bind (fun r13 => (if r13 = 0 then (F_X2_isMissing (41 + 2 * j11) M).bind (fun r19 => (if r19 = 0 then (if (m_I M (41 + 2 * j10) 1) = (m_I M (41 + 2 * j11) 1) then (F_X2_hasRun (41 + 2 * j10) a2 a5 M).bind (fun r23 => (if r23 = 0 then bn (F_X7_finding (0 : Int32) M) (fun r26 M27 => some (r26, M27)) else (F_X2_hasRun (41 + 2 * j11) a4 a5 M).bind (fun r29 => (if r29 = 0 then bn (F_X7_finding (0 : Int32) M) (fun r38 M39 => some (r38, M39)) else cp 40 40 a2 a4 a5 (fun i31 j32 z33 => pin (y_J M ((41 + 2 * j10) + 1) i31 ((41 + 2 * j11) + 1) j32 z33) (fun M36 => some (a5, M36))))))) else bn (F_X7_finding (2 : Int32) M) (fun r41 M42 => some (r41, M42))) else bn (F_X7_finding (5 : Int32) M) (fun r44 M45 => some (r44, M45)))) else bn (F_X7_finding (5 : Int32) M) (fun r16 M17 => some (r16, M17))))))))))
set_option maxHeartbeats 4000000 in
set_option maxRecDepth 100000 in
theorem c_X7_copy {l : Launch} {G : GG} {a1 : Int32} {a2 : Int32} {a3 : Int32} {a4 : Int32} {a5 : Int32}  {M : Mem} {r : Int32} {M1 : Mem} (hF : F_X7_copy a1 a2 a3 a4 a5 M = some (r, M1)) : Met l yX7_copy (wz yX7_copy cX7_copy 8 (some .int)) (RM 1 26) (PreC G [.ref (g_ad G 0), .int a1, .int a2, .int a3, .int a4, .int a5] M) (QcI G r M1) 0 0 (g_A G) := by
  rw [F_X7_copy] at hF
  refine x_start (by decide) (Nat.le_of_ble_eq_true rfl) (lv := [(0, .ref (g_ad G 0)), (1, .int a1), (2, .int a2), (3, .int a3), (4, .int a4), (5, .int a5)]) rfl ?_
  intro p e s m below meth c cx hr hW hS ls hl
  obtain ⟨hx, hb, hml, hown, hts, hKK, hSS, hlk⟩ := id cx
  refine lv_iload_n hx hb dX7_copy_0 rfl (lv_at hl 1 rfl) ?_
  obtain ⟨r2, hc1, hF⟩ := bi_e hF
  refine x_goi (x_runS cx hW hS (c_X7_isSheet (l := l) (G := G) hc1) cs_X7_213 (rest := []) ⟨Nat.le_of_ble_eq_true rfl, Nat.le_of_ble_eq_true rfl⟩ hl.1 rfl rfl (Nat.le_of_ble_eq_true rfl) ⟨Nat.zero_le _, Nat.zero_le _⟩ dX7_copy_1) hS (fun H locs hW hS => ?_)
  refine lv_if_eq (tgt := 14) hx hb dX7_copy_4 (by decide) (fun c3 => ?_) (fun c3 => ?_)
  · have hF := it_p c3 hF
    refine lv_aload_n hx hb dX7_copy_14 rfl (lv_at hl 0 rfl) ?_
    refine lv_iconst (v := (0 : Int32)) hx hb dX7_copy_15 (by decide) ?_
    obtain ⟨r5, M6, hc4, hF⟩ := bn_e hF
    refine x_goi (x_runV cx hW hS (c_X7_finding (l := l) (G := G) hc4) cv_X7_56 kc_0 rfl (rest := []) ⟨Nat.le_of_ble_eq_true rfl, Nat.le_of_ble_eq_true rfl⟩ hl.1 rfl rfl (Nat.le_of_ble_eq_true rfl) ⟨Nat.zero_le _, Nat.zero_le _⟩ dX7_copy_16) hS (fun H locs hW hS => ?_)
    exact x_iret cx hr hW hS (sp_1 hF) (sp_2 hF) dX7_copy_19
  · have hF := it_n c3 hF
    refine lv_iload_n hx hb dX7_copy_7 rfl (lv_at hl 3 rfl) ?_
    obtain ⟨r8, hc7, hF⟩ := bi_e hF
    refine x_goi (x_runS cx hW hS (c_X7_isSheet (l := l) (G := G) hc7) cs_X7_213 (rest := []) ⟨Nat.le_of_ble_eq_true rfl, Nat.le_of_ble_eq_true rfl⟩ hl.1 rfl rfl (Nat.le_of_ble_eq_true rfl) ⟨Nat.zero_le _, Nat.zero_le _⟩ dX7_copy_8) hS (fun H locs hW hS => ?_)
    refine lv_if_ne (tgt := 20) hx hb dX7_copy_11 (by decide) (fun c9 => ?_) (fun c9 => ?_)
    · have hF := it_n c9 hF
      refine lv_aload_n hx hb dX7_copy_20 rfl (lv_at hl 0 rfl) ?_
      refine x_get cx hW kc_0 fk_X7_43 (v := .ref (g_ad G 40)) rfl dX7_copy_21 ?_
      refine lv_iload_n hx hb dX7_copy_24 rfl (lv_at hl 1 rfl) ?_
      obtain ⟨j10, hj10, gj10, hF⟩ := ix_e hF
      refine x_aald cx hW kc_40 hj10 gj10 dX7_copy_25 ?_
      refine lv_astore (lv' := [(6, .ref (g_ad G (41 + 2 * j10))), (0, .ref (g_ad G 0)), (1, .int a1), (2, .int a2), (3, .int a3), (4, .int a4), (5, .int a5)]) hx hb dX7_copy_26 hl (by decide) rfl (fun ls hl => ?_)
      refine lv_aload_n hx hb dX7_copy_28 rfl (lv_at hl 1 rfl) ?_
      refine x_get cx hW kc_0 fk_X7_43 (v := .ref (g_ad G 40)) rfl dX7_copy_29 ?_
      refine lv_iload_n hx hb dX7_copy_32 rfl (lv_at hl 4 rfl) ?_
      obtain ⟨j11, hj11, gj11, hF⟩ := ix_e hF
      refine x_aald cx hW kc_40 hj11 gj11 dX7_copy_33 ?_
      refine lv_astore (lv' := [(7, .ref (g_ad G (41 + 2 * j11))), (6, .ref (g_ad G (41 + 2 * j10))), (0, .ref (g_ad G 0)), (1, .int a1), (2, .int a2), (3, .int a3), (4, .int a4), (5, .int a5)]) hx hb dX7_copy_34 hl (by decide) rfl (fun ls hl => ?_)
      refine lv_aload hx hb dX7_copy_36 (lv_at hl 1 rfl) ?_
      obtain ⟨r13, hc12, hF⟩ := bi_e hF
      refine x_goi (x_runV cx hW hS (c_X2_isMissing (l := l) (G := G) (kd_sh hj10 gj10) hc12) cv_X7_219 (kd_sh hj10 gj10) rfl (rest := []) ⟨Nat.le_of_ble_eq_true rfl, Nat.le_of_ble_eq_true rfl⟩ hl.1 rfl rfl (Nat.le_of_ble_eq_true rfl) ⟨Nat.zero_le _, Nat.zero_le _⟩ dX7_copy_38) hS (fun H locs hW hS => ?_)
      refine lv_if_ne (tgt := 52) hx hb dX7_copy_41 (by decide) (fun c14 => ?_) (fun c14 => ?_)
      · have hF := it_n c14 hF
        refine lv_aload_n hx hb dX7_copy_52 rfl (lv_at hl 2 rfl) ?_
        refine lv_iconst (v := (5 : Int32)) hx hb dX7_copy_53 (by decide) ?_
        obtain ⟨r16, M17, hc15, hF⟩ := bn_e hF
        refine x_goi (x_runV cx hW hS (c_X7_finding (l := l) (G := G) hc15) cv_X7_56 kc_0 rfl (rest := []) ⟨Nat.le_of_ble_eq_true rfl, Nat.le_of_ble_eq_true rfl⟩ hl.1 rfl rfl (Nat.le_of_ble_eq_true rfl) ⟨Nat.zero_le _, Nat.zero_le _⟩ dX7_copy_54) hS (fun H locs hW hS => ?_)
        exact x_iret cx hr hW hS (sp_1 hF) (sp_2 hF) dX7_copy_57
      · have hF := it_p c14 hF
        refine lv_aload hx hb dX7_copy_44 (lv_at hl 0 rfl) ?_
        obtain ⟨r19, hc18, hF⟩ := bi_e hF
        refine x_goi (x_runV cx hW hS (c_X2_isMissing (l := l) (G := G) (kd_sh hj11 gj11) hc18) cv_X7_219 (kd_sh hj11 gj11) rfl (rest := []) ⟨Nat.le_of_ble_eq_true rfl, Nat.le_of_ble_eq_true rfl⟩ hl.1 rfl rfl (Nat.le_of_ble_eq_true rfl) ⟨Nat.zero_le _, Nat.zero_le _⟩ dX7_copy_46) hS (fun H locs hW hS => ?_)
        refine lv_if_eq (tgt := 58) hx hb dX7_copy_49 (by decide) (fun c20 => ?_) (fun c20 => ?_)
        · have hF := it_p c20 hF
          refine lv_aload hx hb dX7_copy_58 (lv_at hl 1 rfl) ?_
          refine x_get cx hW (kd_sh hj10 gj10) fk_X7_231 (v := .int (m_I M (41 + 2 * j10) 1)) rfl dX7_copy_60 ?_
          refine lv_aload hx hb dX7_copy_63 (lv_at hl 0 rfl) ?_
          refine x_get cx hW (kd_sh hj11 gj11) fk_X7_231 (v := .int (m_I M (41 + 2 * j11) 1)) rfl dX7_copy_65 ?_
          refine lv_icmp_eq (tgt := 77) hx hb dX7_copy_68 (by decide) (fun c21 => ?_) (fun c21 => ?_)
          · have hF := it_p c21 hF
            refine lv_aload hx hb dX7_copy_77 (lv_at hl 1 rfl) ?_
            refine lv_iload_n hx hb dX7_copy_79 rfl (lv_at hl 4 rfl) ?_
            refine lv_iload hx hb dX7_copy_80 (lv_at hl 7 rfl) ?_
            obtain ⟨r23, hc22, hF⟩ := bi_e hF
            refine x_goi (x_runV cx hW hS (c_X2_hasRun (l := l) (G := G) (kd_sh hj10 gj10) hc22) cv_X7_234 (kd_sh hj10 gj10) rfl (rest := []) ⟨Nat.le_of_ble_eq_true rfl, Nat.le_of_ble_eq_true rfl⟩ hl.1 rfl rfl (Nat.le_of_ble_eq_true rfl) ⟨Nat.zero_le _, Nat.zero_le _⟩ dX7_copy_82) hS (fun H locs hW hS => ?_)
            refine lv_if_eq (tgt := 100) hx hb dX7_copy_85 (by decide) (fun c24 => ?_) (fun c24 => ?_)
            · have hF := it_p c24 hF
              refine lv_aload_n hx hb dX7_copy_100 rfl (lv_at hl 2 rfl) ?_
              refine lv_iconst (v := (0 : Int32)) hx hb dX7_copy_101 (by decide) ?_
              obtain ⟨r26, M27, hc25, hF⟩ := bn_e hF
              refine x_goi (x_runV cx hW hS (c_X7_finding (l := l) (G := G) hc25) cv_X7_56 kc_0 rfl (rest := []) ⟨Nat.le_of_ble_eq_true rfl, Nat.le_of_ble_eq_true rfl⟩ hl.1 rfl rfl (Nat.le_of_ble_eq_true rfl) ⟨Nat.zero_le _, Nat.zero_le _⟩ dX7_copy_102) hS (fun H locs hW hS => ?_)
              exact x_iret cx hr hW hS (sp_1 hF) (sp_2 hF) dX7_copy_105
            · have hF := it_n c24 hF
              refine lv_aload hx hb dX7_copy_88 (lv_at hl 0 rfl) ?_
              refine lv_iload hx hb dX7_copy_90 (lv_at hl 6 rfl) ?_
              refine lv_iload hx hb dX7_copy_92 (lv_at hl 7 rfl) ?_
              obtain ⟨r29, hc28, hF⟩ := bi_e hF
              refine x_goi (x_runV cx hW hS (c_X2_hasRun (l := l) (G := G) (kd_sh hj11 gj11) hc28) cv_X7_234 (kd_sh hj11 gj11) rfl (rest := []) ⟨Nat.le_of_ble_eq_true rfl, Nat.le_of_ble_eq_true rfl⟩ hl.1 rfl rfl (Nat.le_of_ble_eq_true rfl) ⟨Nat.zero_le _, Nat.zero_le _⟩ dX7_copy_94) hS (fun H locs hW hS => ?_)
              refine lv_if_ne (tgt := 106) hx hb dX7_copy_97 (by decide) (fun c30 => ?_) (fun c30 => ?_)
              · have hF := it_n c30 hF
                refine lv_aload hx hb dX7_copy_106 (lv_at hl 1 rfl) ?_
                refine x_get cx hW (kd_sh hj10 gj10) fk_X7_223 (v := .ref (g_ad G ((41 + 2 * j10) + 1))) rfl dX7_copy_108 ?_
                refine lv_iload_n hx hb dX7_copy_111 rfl (lv_at hl 4 rfl) ?_
                refine lv_aload hx hb dX7_copy_112 (lv_at hl 0 rfl) ?_
                refine x_get cx hW (kd_sh hj11 gj11) fk_X7_223 (v := .ref (g_ad G ((41 + 2 * j11) + 1))) rfl dX7_copy_114 ?_
                refine lv_iload hx hb dX7_copy_117 (lv_at hl 6 rfl) ?_
                refine lv_iload hx hb dX7_copy_119 (lv_at hl 7 rfl) ?_
                obtain ⟨i31, j32, z33, h34, g35, hF⟩ := cp_e hF
                obtain ⟨M36, eM36, hF⟩ := pin_e hF
                refine x_copyl cx ca_X7_237 hl.1 hW hS (kd_s (kd_sh hj10 gj10)) (by decide) (kd_s (kd_sh hj11 gj11)) (by decide) h34 g35 (Nat.le_of_ble_eq_true rfl) (by decide) eM36 dX7_copy_121 (fun H locs hW hS => ?_)
                refine lv_iload hx hb dX7_copy_124 (lv_at hl 7 rfl) ?_
                exact x_iret cx hr hW hS (sp_1 hF) (sp_2 hF) dX7_copy_126
              · have hF := it_p c30 hF
                refine lv_aload_n hx hb dX7_copy_100 rfl (lv_at hl 2 rfl) ?_
                refine lv_iconst (v := (0 : Int32)) hx hb dX7_copy_101 (by decide) ?_
                obtain ⟨r38, M39, hc37, hF⟩ := bn_e hF
                refine x_goi (x_runV cx hW hS (c_X7_finding (l := l) (G := G) hc37) cv_X7_56 kc_0 rfl (rest := []) ⟨Nat.le_of_ble_eq_true rfl, Nat.le_of_ble_eq_true rfl⟩ hl.1 rfl rfl (Nat.le_of_ble_eq_true rfl) ⟨Nat.zero_le _, Nat.zero_le _⟩ dX7_copy_102) hS (fun H locs hW hS => ?_)
                exact x_iret cx hr hW hS (sp_1 hF) (sp_2 hF) dX7_copy_105
          · have hF := it_n c21 hF
            refine lv_aload_n hx hb dX7_copy_71 rfl (lv_at hl 2 rfl) ?_
            refine lv_iconst (v := (2 : Int32)) hx hb dX7_copy_72 (by decide) ?_
            obtain ⟨r41, M42, hc40, hF⟩ := bn_e hF
            refine x_goi (x_runV cx hW hS (c_X7_finding (l := l) (G := G) hc40) cv_X7_56 kc_0 rfl (rest := []) ⟨Nat.le_of_ble_eq_true rfl, Nat.le_of_ble_eq_true rfl⟩ hl.1 rfl rfl (Nat.le_of_ble_eq_true rfl) ⟨Nat.zero_le _, Nat.zero_le _⟩ dX7_copy_73) hS (fun H locs hW hS => ?_)
            exact x_iret cx hr hW hS (sp_1 hF) (sp_2 hF) dX7_copy_76
        · have hF := it_n c20 hF
          refine lv_aload_n hx hb dX7_copy_52 rfl (lv_at hl 2 rfl) ?_
          refine lv_iconst (v := (5 : Int32)) hx hb dX7_copy_53 (by decide) ?_
          obtain ⟨r44, M45, hc43, hF⟩ := bn_e hF
          refine x_goi (x_runV cx hW hS (c_X7_finding (l := l) (G := G) hc43) cv_X7_56 kc_0 rfl (rest := []) ⟨Nat.le_of_ble_eq_true rfl, Nat.le_of_ble_eq_true rfl⟩ hl.1 rfl rfl (Nat.le_of_ble_eq_true rfl) ⟨Nat.zero_le _, Nat.zero_le _⟩ dX7_copy_54) hS (fun H locs hW hS => ?_)
          exact x_iret cx hr hW hS (sp_1 hF) (sp_2 hF) dX7_copy_57
    · have hF := it_p c9 hF
      refine lv_aload_n hx hb dX7_copy_14 rfl (lv_at hl 0 rfl) ?_
      refine lv_iconst (v := (0 : Int32)) hx hb dX7_copy_15 (by decide) ?_
      obtain ⟨r47, M48, hc46, hF⟩ := bn_e hF
      refine x_goi (x_runV cx hW hS (c_X7_finding (l := l) (G := G) hc46) cv_X7_56 kc_0 rfl (rest := []) ⟨Nat.le_of_ble_eq_true rfl, Nat.le_of_ble_eq_true rfl⟩ hl.1 rfl rfl (Nat.le_of_ble_eq_true rfl) ⟨Nat.zero_le _, Nat.zero_le _⟩ dX7_copy_16) hS (fun H locs hW hS => ?_)
      exact x_iret cx hr hW hS (sp_1 hF) (sp_2 hF) dX7_copy_19
def F_X7_isRightLot_4 (a1 : Nat) (M : Mem) : Nat → Int32 → Int32 → Option Int32
  | 0, _, _ => none
  | n + 1, x2, x3 => (if (m_I M 2 2) ≤ x3 then (F_J6_bitCount_0f7a4 x2 M).bind (fun r3 => (if r3 = (m_I M 2 2) then some (1 : Int32) else some (0 : Int32))) else ix 40 x3 (fun j5 => (if (lg_cmp (m_J M (a1 + 1) j5) (0 : Int64)) < 0 then some (0 : Int32) else (if 0 ≤ (lg_cmp (m_J M (a1 + 1) j5) ((m_I M 2 2).toInt64)) then some (0 : Int32) else (F_X4_areAlike 2 x3 ((m_J M (a1 + 1) j5).toInt32) M).bind (fun r9 => (if r9 = 0 then some (0 : Int32) else F_X7_isRightLot_4 a1 M n (x2 ||| ((1 : Int32) <<< (((m_J M (a1 + 1) j5).toInt32) &&& 31))) (x3 + 1)))))))
set_option maxHeartbeats 4000000 in
set_option maxRecDepth 100000 in
theorem t_X7_isRightLot_4 {p : Program} {l : Launch} {e : Env} {s : State} {m : MethodId} {args : Array Value} {below : List Frame} {meth : Method} {c : Code} {G : GG} {a1 : Nat} (cx : Cx G cX7_isRightLot RX7 6 p s m args meth c) (hr : meth.sig.returnType = (some .boolean)) (h1 : kd a1 = 1)  {M : Mem} {r : Int32} : ∀ (n : Nat) (x2 : Int32) (x3 : Int32), F_X7_isRightLot_4 a1 M n x2 x3 = some r → ∀ (H : Heap) (locs : List Loc) (ls : Array Slot), WH G M H → va_S (g_A G) s.heap H locs → lv_has ls 6 [(0, .ref (g_ad G 0)), (1, .ref (g_ad G a1)), (2, .int x2), (3, .int x3)] → W p l e (RM 2 43) s m args below meth c H locs 0 0 (MQ below (QcI G r M) args s 0 0 (g_A G)) (F0 m 4 ls []) := by
  obtain ⟨hx, hb, hml, hown, hts, hKK, hSS, hlk⟩ := id cx
  intro n
  induction n with
  | zero =>
    intro x2 x3 hF H locs ls hW hS hl
    rw [F_X7_isRightLot_4] at hF
    cases hF
  | succ n ih =>
    intro x2 x3 hF H locs ls hW hS hl
    rw [F_X7_isRightLot_4] at hF
    refine lv_iload_n hx hb dX7_isRightLot_4 rfl (lv_at hl 3 rfl) ?_
    refine lv_aload_n hx hb dX7_isRightLot_5 rfl (lv_at hl 0 rfl) ?_
    refine x_get cx hW kc_0 fk_X7_10 (v := .ref (g_ad G 2)) rfl dX7_isRightLot_6 ?_
    refine x_get cx hW kc_2 fk_X7_117 (v := .int (m_I M 2 2)) rfl dX7_isRightLot_9 ?_
    refine lv_icmp_ge (tgt := 74) hx hb dX7_isRightLot_12 (by decide) (fun c1 => ?_) (fun c1 => ?_)
    · have hF := it_p c1 hF
      refine lv_iload_n hx hb dX7_isRightLot_74 rfl (lv_at hl 2 rfl) ?_
      obtain ⟨r3, hc2, hF⟩ := bi_e hF
      refine x_goi (x_runS cx hW hS (c_J6_bitCount_0f7a4 (l := l) (G := G) hc2) cs_X7_181 (rest := []) ⟨Nat.le_of_ble_eq_true rfl, Nat.le_of_ble_eq_true rfl⟩ hl.1 rfl rfl (Nat.le_of_ble_eq_true rfl) ⟨Nat.zero_le _, Nat.zero_le _⟩ dX7_isRightLot_75) hS (fun H locs hW hS => ?_)
      refine lv_aload_n hx hb dX7_isRightLot_78 rfl (lv_at hl 0 rfl) ?_
      refine x_get cx hW kc_0 fk_X7_10 (v := .ref (g_ad G 2)) rfl dX7_isRightLot_79 ?_
      refine x_get cx hW kc_2 fk_X7_117 (v := .int (m_I M 2 2)) rfl dX7_isRightLot_82 ?_
      refine lv_icmp_ne (tgt := 92) hx hb dX7_isRightLot_85 (by decide) (fun c4 => ?_) (fun c4 => ?_)
      · have hF := it_n c4 hF
        refine lv_iconst (v := (0 : Int32)) hx hb dX7_isRightLot_92 (by decide) ?_
        exact x_zret cx hr (by decide) hW hS (Option.some.inj hF) rfl dX7_isRightLot_93
      · have hF := it_p c4 hF
        refine lv_iconst (v := (1 : Int32)) hx hb dX7_isRightLot_88 (by decide) ?_
        refine lv_goto (tgt := 93) hx hb dX7_isRightLot_89 (by decide) ?_
        exact x_zret cx hr (by decide) hW hS (Option.some.inj hF) rfl dX7_isRightLot_93
    · have hF := it_n c1 hF
      refine lv_aload_n hx hb dX7_isRightLot_15 rfl (lv_at hl 1 rfl) ?_
      refine x_get cx hW h1 fk_X7_223 (v := .ref (g_ad G (a1 + 1))) rfl dX7_isRightLot_16 ?_
      refine lv_iload_n hx hb dX7_isRightLot_19 rfl (lv_at hl 3 rfl) ?_
      obtain ⟨j5, hj5, gj5, hF⟩ := ix_e hF
      refine x_lald cx hW (kd_s h1) (by decide) hj5 gj5 dX7_isRightLot_20 ?_
      refine lv_lstore (lv' := [(4, .long (m_J M (a1 + 1) j5)), (0, .ref (g_ad G 0)), (1, .ref (g_ad G a1)), (2, .int x2), (3, .int x3)]) hx hb dX7_isRightLot_21 hl (by decide) rfl (fun ls hl => ?_)
      refine lv_lload hx hb dX7_isRightLot_23 (lv_at hl 0 rfl) ?_
      refine lv_lconst (v := (0 : Int64)) hx hb dX7_isRightLot_25 (by decide) ?_
      refine W.lcmp hx hb dX7_isRightLot_26 ?_
      refine lv_if_lt (tgt := 58) hx hb dX7_isRightLot_27 (by decide) (fun c6 => ?_) (fun c6 => ?_)
      · have hF := it_p c6 hF
        refine lv_iconst (v := (0 : Int32)) hx hb dX7_isRightLot_58 (by decide) ?_
        exact x_zret cx hr (by decide) hW hS (Option.some.inj hF) rfl dX7_isRightLot_59
      · have hF := it_n c6 hF
        refine lv_lload hx hb dX7_isRightLot_30 (lv_at hl 0 rfl) ?_
        refine lv_aload_n hx hb dX7_isRightLot_32 rfl (lv_at hl 1 rfl) ?_
        refine x_get cx hW kc_0 fk_X7_10 (v := .ref (g_ad G 2)) rfl dX7_isRightLot_33 ?_
        refine x_get cx hW kc_2 fk_X7_117 (v := .int (m_I M 2 2)) rfl dX7_isRightLot_36 ?_
        refine lv_i2l hx hb dX7_isRightLot_39 rfl ?_
        refine W.lcmp hx hb dX7_isRightLot_40 ?_
        refine lv_if_ge (tgt := 58) hx hb dX7_isRightLot_41 (by decide) (fun c7 => ?_) (fun c7 => ?_)
        · have hF := it_p c7 hF
          refine lv_iconst (v := (0 : Int32)) hx hb dX7_isRightLot_58 (by decide) ?_
          exact x_zret cx hr (by decide) hW hS (Option.some.inj hF) rfl dX7_isRightLot_59
        · have hF := it_n c7 hF
          refine lv_aload_n hx hb dX7_isRightLot_44 rfl (lv_at hl 1 rfl) ?_
          refine x_get cx hW kc_0 fk_X7_10 (v := .ref (g_ad G 2)) rfl dX7_isRightLot_45 ?_
          refine lv_iload_n hx hb dX7_isRightLot_48 rfl (lv_at hl 4 rfl) ?_
          refine lv_lload hx hb dX7_isRightLot_49 (lv_at hl 0 rfl) ?_
          refine lv_l2i hx hb dX7_isRightLot_51 rfl ?_
          obtain ⟨r9, hc8, hF⟩ := bi_e hF
          refine x_goi (x_runV cx hW hS (c_X4_areAlike (l := l) (G := G) kc_2 hc8) cv_X7_106 kc_2 rfl (rest := []) ⟨Nat.le_of_ble_eq_true rfl, Nat.le_of_ble_eq_true rfl⟩ hl.1 rfl rfl (Nat.le_of_ble_eq_true rfl) ⟨Nat.zero_le _, Nat.zero_le _⟩ dX7_isRightLot_52) hS (fun H locs hW hS => ?_)
          refine lv_if_ne (tgt := 60) hx hb dX7_isRightLot_55 (by decide) (fun c10 => ?_) (fun c10 => ?_)
          · have hF := it_n c10 hF
            refine lv_iload_n hx hb dX7_isRightLot_60 rfl (lv_at hl 3 rfl) ?_
            refine lv_iconst (v := (1 : Int32)) hx hb dX7_isRightLot_61 (by decide) ?_
            refine lv_lload hx hb dX7_isRightLot_62 (lv_at hl 0 rfl) ?_
            refine lv_l2i hx hb dX7_isRightLot_64 rfl ?_
            refine lv_ishl hx hb dX7_isRightLot_65 ?_
            refine lv_ior hx hb dX7_isRightLot_66 ?_
            refine lv_istore_n (lv' := [(2, .int (x2 ||| ((1 : Int32) <<< (((m_J M (a1 + 1) j5).toInt32) &&& 31)))), (4, .long (m_J M (a1 + 1) j5)), (0, .ref (g_ad G 0)), (1, .ref (g_ad G a1)), (3, .int x3)]) hx hb dX7_isRightLot_67 rfl hl (by decide) rfl (fun ls hl => ?_)
            refine lv_iinc (v := (x3 + 1)) (lv' := [(3, .int (x3 + 1)), (2, .int (x2 ||| ((1 : Int32) <<< (((m_J M (a1 + 1) j5).toInt32) &&& 31)))), (4, .long (m_J M (a1 + 1) j5)), (0, .ref (g_ad G 0)), (1, .ref (g_ad G a1))]) hx hb dX7_isRightLot_68 hl (k := 4) rfl rfl (by decide) rfl (fun ls hl => ?_)
            refine lv_goto (tgt := 4) hx hb dX7_isRightLot_71 (by decide) ?_
            exact ih (x2 ||| ((1 : Int32) <<< (((m_J M (a1 + 1) j5).toInt32) &&& 31))) (x3 + 1) hF _ _ _ hW hS (lv_sub hl [3, 4, 1, 0] rfl)
          · have hF := it_p c10 hF
            refine lv_iconst (v := (0 : Int32)) hx hb dX7_isRightLot_58 (by decide) ?_
            exact x_zret cx hr (by decide) hW hS (Option.some.inj hF) rfl dX7_isRightLot_59
def F_X7_isRightLot (a1 : Nat) (M : Mem) : Option Int32 := F_X7_isRightLot_4 a1 M FU (0 : Int32) (0 : Int32)
set_option maxHeartbeats 4000000 in
set_option maxRecDepth 100000 in
theorem c_X7_isRightLot {l : Launch} {G : GG} {a1 : Nat} (h1 : kd a1 = 1) {M : Mem} {r : Int32} (hF : F_X7_isRightLot a1 M = some r) : Met l yX7_isRightLot (wz yX7_isRightLot cX7_isRightLot 6 (some .boolean)) (RM 2 43) (PreC G [.ref (g_ad G 0), .ref (g_ad G a1)] M) (QcI G r M) 0 0 (g_A G) := by
  rw [F_X7_isRightLot] at hF
  refine x_start (by decide) (Nat.le_of_ble_eq_true rfl) (lv := [(0, .ref (g_ad G 0)), (1, .ref (g_ad G a1))]) rfl ?_
  intro p e s m below meth c cx hr hW hS ls hl
  obtain ⟨hx, hb, hml, hown, hts, hKK, hSS, hlk⟩ := id cx
  refine lv_iconst (v := (0 : Int32)) hx hb dX7_isRightLot_0 (by decide) ?_
  refine lv_istore_n (lv' := [(2, .int (0 : Int32)), (0, .ref (g_ad G 0)), (1, .ref (g_ad G a1))]) hx hb dX7_isRightLot_1 rfl hl (by decide) rfl (fun ls hl => ?_)
  refine lv_iconst (v := (0 : Int32)) hx hb dX7_isRightLot_2 (by decide) ?_
  refine lv_istore_n (lv' := [(3, .int (0 : Int32)), (2, .int (0 : Int32)), (0, .ref (g_ad G 0)), (1, .ref (g_ad G a1))]) hx hb dX7_isRightLot_3 rfl hl (by decide) rfl (fun ls hl => ?_)
  exact t_X7_isRightLot_4 cx hr h1 FU (0 : Int32) (0 : Int32) hF _ _ _ hW hS (lv_sub hl [2, 3, 1, 0] rfl)
def F_X7_lays_70 (a1 : Int32) : Nat → Nat → Int32 → Mem → Option (Int32 × Mem)
  | 0, _, _, _ => none
  | n + 1, x2, x3, M => (if (m_I M 2 2) ≤ x3 then (F_X4_ownCount 2 M).bind (fun r14 => some (r14, M)) else ix 40 x3 (fun j15 => ix 8 x3 (fun j16 => pin (w_I M 8 j16 ((m_J M (x2 + 1) j15).toInt32)) (fun M17 => F_X7_lays_70 a1 n x2 (x3 + 1) M17))))
set_option maxHeartbeats 4000000 in
set_option maxRecDepth 100000 in
theorem t_X7_lays_70 {p : Program} {l : Launch} {e : Env} {s : State} {m : MethodId} {args : Array Value} {below : List Frame} {meth : Method} {c : Code} {G : GG} {a1 : Int32} (cx : Cx G cX7_lays RX7 4 p s m args meth c) (hr : meth.sig.returnType = (some .int))   {r : Int32} {M1 : Mem} : ∀ (n : Nat) (x2 : Nat) (x3 : Int32) (M : Mem), kd x2 = 1 → F_X7_lays_70 a1 n x2 x3 M = some (r, M1) → ∀ (H : Heap) (locs : List Loc) (ls : Array Slot), WH G M H → va_S (g_A G) s.heap H locs → lv_has ls 4 [(0, .ref (g_ad G 0)), (2, .ref (g_ad G x2)), (3, .int x3)] → W p l e (RM 3 68) s m args below meth c H locs 0 0 (MQ below (QcI G r M1) args s 0 0 (g_A G)) (F0 m 70 ls []) := by
  obtain ⟨hx, hb, hml, hown, hts, hKK, hSS, hlk⟩ := id cx
  intro n
  induction n with
  | zero =>
    intro x2 x3 M q2 hF H locs ls hW hS hl
    rw [F_X7_lays_70] at hF
    cases hF
  | succ n ih =>
    intro x2 x3 M q2 hF H locs ls hW hS hl
    rw [F_X7_lays_70] at hF
    refine lv_iload_n hx hb dX7_lays_70 rfl (lv_at hl 2 rfl) ?_
    refine lv_aload_n hx hb dX7_lays_71 rfl (lv_at hl 0 rfl) ?_
    refine x_get cx hW kc_0 fk_X7_10 (v := .ref (g_ad G 2)) rfl dX7_lays_72 ?_
    refine x_get cx hW kc_2 fk_X7_117 (v := .int (m_I M 2 2)) rfl dX7_lays_75 ?_
    refine lv_icmp_ge (tgt := 103) hx hb dX7_lays_78 (by decide) (fun c12 => ?_) (fun c12 => ?_)
    · have hF := it_p c12 hF
      refine lv_aload_n hx hb dX7_lays_103 rfl (lv_at hl 0 rfl) ?_
      refine x_get cx hW kc_0 fk_X7_10 (v := .ref (g_ad G 2)) rfl dX7_lays_104 ?_
      obtain ⟨r14, hc13, hF⟩ := bi_e hF
      refine x_goi (x_runV cx hW hS (c_X4_ownCount (l := l) (G := G) kc_2 hc13) cv_X7_113 kc_2 rfl (rest := []) ⟨Nat.le_of_ble_eq_true rfl, Nat.le_of_ble_eq_true rfl⟩ hl.1 rfl rfl (Nat.le_of_ble_eq_true rfl) ⟨Nat.zero_le _, Nat.zero_le _⟩ dX7_lays_107) hS (fun H locs hW hS => ?_)
      exact x_iret cx hr hW hS (sp_1 hF) (sp_2 hF) dX7_lays_110
    · have hF := it_n c12 hF
      refine lv_aload_n hx hb dX7_lays_81 rfl (lv_at hl 0 rfl) ?_
      refine x_get cx hW kc_0 fk_X7_10 (v := .ref (g_ad G 2)) rfl dX7_lays_82 ?_
      refine x_get cx hW kc_2 fk_X7_85 (v := .ref (g_ad G 8)) rfl dX7_lays_85 ?_
      refine lv_iload_n hx hb dX7_lays_88 rfl (lv_at hl 2 rfl) ?_
      refine lv_aload_n hx hb dX7_lays_89 rfl (lv_at hl 1 rfl) ?_
      refine x_get cx hW q2 fk_X7_223 (v := .ref (g_ad G (x2 + 1))) rfl dX7_lays_90 ?_
      refine lv_iload_n hx hb dX7_lays_93 rfl (lv_at hl 2 rfl) ?_
      obtain ⟨j15, hj15, gj15, hF⟩ := ix_e hF
      refine x_lald cx hW (kd_s q2) (by decide) hj15 gj15 dX7_lays_94 ?_
      refine lv_l2i hx hb dX7_lays_95 rfl ?_
      obtain ⟨j16, hj16, gj16, hF⟩ := ix_e hF
      obtain ⟨M17, eM17, hF⟩ := pin_e hF
      refine x_iast cx hW hS kc_8 (by decide) hj16 gj16 eM17 dX7_lays_96 (fun H locs hW hS => ?_)
      refine lv_iinc (v := (x3 + 1)) (lv' := [(3, .int (x3 + 1)), (0, .ref (g_ad G 0)), (2, .ref (g_ad G x2))]) hx hb dX7_lays_97 hl (k := 2) rfl rfl (by decide) rfl (fun ls hl => ?_)
      refine lv_goto (tgt := 70) hx hb dX7_lays_100 (by decide) ?_
      exact ih x2 (x3 + 1) M17 q2 hF _ _ _ hW hS (lv_sub hl [1, 2, 0] rfl)
def F_X7_lays (a1 : Int32) (M : Mem) : Option (Int32 × Mem) := (F_X7_isSheet a1 M).bind (fun r2 => (if r2 = 0 then bn (F_X7_finding (0 : Int32) M) (fun r28 M29 => some (r28, M29)) else ix 4 a1 (fun j4 => (F_X2_isMissing (41 + 2 * j4) M).bind (fun r6 => (if r6 = 0 then (if (m_I M (41 + 2 * j4) 2) = (m_I M 2 2) then (F_X7_isRightLot (41 + 2 * j4) M).bind (fun r10 => (if r10 = 0 then bn (F_X7_finding (4 : Int32) M) (fun r19 M20 => some (r19, M20)) else F_X7_lays_70 a1 FU (41 + 2 * j4) (0 : Int32) M)) else bn (F_X7_finding (6 : Int32) M) (fun r22 M23 => some (r22, M23))) else bn (F_X7_finding (5 : Int32) M) (fun r25 M26 => some (r25, M26)))))))
set_option maxHeartbeats 4000000 in
set_option maxRecDepth 100000 in
theorem c_X7_lays {l : Launch} {G : GG} {a1 : Int32}  {M : Mem} {r : Int32} {M1 : Mem} (hF : F_X7_lays a1 M = some (r, M1)) : Met l yX7_lays (wz yX7_lays cX7_lays 4 (some .int)) (RM 3 68) (PreC G [.ref (g_ad G 0), .int a1] M) (QcI G r M1) 0 0 (g_A G) := by
  rw [F_X7_lays] at hF
  refine x_start (by decide) (Nat.le_of_ble_eq_true rfl) (lv := [(0, .ref (g_ad G 0)), (1, .int a1)]) rfl ?_
  intro p e s m below meth c cx hr hW hS ls hl
  obtain ⟨hx, hb, hml, hown, hts, hKK, hSS, hlk⟩ := id cx
  refine lv_iload_n hx hb dX7_lays_0 rfl (lv_at hl 1 rfl) ?_
  obtain ⟨r2, hc1, hF⟩ := bi_e hF
  refine x_goi (x_runS cx hW hS (c_X7_isSheet (l := l) (G := G) hc1) cs_X7_213 (rest := []) ⟨Nat.le_of_ble_eq_true rfl, Nat.le_of_ble_eq_true rfl⟩ hl.1 rfl rfl (Nat.le_of_ble_eq_true rfl) ⟨Nat.zero_le _, Nat.zero_le _⟩ dX7_lays_1) hS (fun H locs hW hS => ?_)
  refine lv_if_ne (tgt := 13) hx hb dX7_lays_4 (by decide) (fun c3 => ?_) (fun c3 => ?_)
  · have hF := it_n c3 hF
    refine lv_aload_n hx hb dX7_lays_13 rfl (lv_at hl 0 rfl) ?_
    refine x_get cx hW kc_0 fk_X7_43 (v := .ref (g_ad G 40)) rfl dX7_lays_14 ?_
    refine lv_iload_n hx hb dX7_lays_17 rfl (lv_at hl 1 rfl) ?_
    obtain ⟨j4, hj4, gj4, hF⟩ := ix_e hF
    refine x_aald cx hW kc_40 hj4 gj4 dX7_lays_18 ?_
    refine lv_astore_n (lv' := [(2, .ref (g_ad G (41 + 2 * j4))), (0, .ref (g_ad G 0)), (1, .int a1)]) hx hb dX7_lays_19 rfl hl (by decide) rfl (fun ls hl => ?_)
    refine lv_aload_n hx hb dX7_lays_20 rfl (lv_at hl 0 rfl) ?_
    obtain ⟨r6, hc5, hF⟩ := bi_e hF
    refine x_goi (x_runV cx hW hS (c_X2_isMissing (l := l) (G := G) (kd_sh hj4 gj4) hc5) cv_X7_219 (kd_sh hj4 gj4) rfl (rest := []) ⟨Nat.le_of_ble_eq_true rfl, Nat.le_of_ble_eq_true rfl⟩ hl.1 rfl rfl (Nat.le_of_ble_eq_true rfl) ⟨Nat.zero_le _, Nat.zero_le _⟩ dX7_lays_21) hS (fun H locs hW hS => ?_)
    refine lv_if_eq (tgt := 33) hx hb dX7_lays_24 (by decide) (fun c7 => ?_) (fun c7 => ?_)
    · have hF := it_p c7 hF
      refine lv_aload_n hx hb dX7_lays_33 rfl (lv_at hl 0 rfl) ?_
      refine x_get cx hW (kd_sh hj4 gj4) fk_X7_222 (v := .int (m_I M (41 + 2 * j4) 2)) rfl dX7_lays_34 ?_
      refine lv_aload_n hx hb dX7_lays_37 rfl (lv_at hl 1 rfl) ?_
      refine x_get cx hW kc_0 fk_X7_10 (v := .ref (g_ad G 2)) rfl dX7_lays_38 ?_
      refine x_get cx hW kc_2 fk_X7_117 (v := .int (m_I M 2 2)) rfl dX7_lays_41 ?_
      refine lv_icmp_eq (tgt := 54) hx hb dX7_lays_44 (by decide) (fun c8 => ?_) (fun c8 => ?_)
      · have hF := it_p c8 hF
        refine lv_aload_n hx hb dX7_lays_54 rfl (lv_at hl 1 rfl) ?_
        refine lv_aload_n hx hb dX7_lays_55 rfl (lv_at hl 0 rfl) ?_
        obtain ⟨r10, hc9, hF⟩ := bi_e hF
        refine x_goi (x_runV cx hW hS (c_X7_isRightLot (l := l) (G := G) (kd_sh hj4 gj4) hc9) cv_X7_243 kc_0 rfl (rest := []) ⟨Nat.le_of_ble_eq_true rfl, Nat.le_of_ble_eq_true rfl⟩ hl.1 rfl rfl (Nat.le_of_ble_eq_true rfl) ⟨Nat.zero_le _, Nat.zero_le _⟩ dX7_lays_56) hS (fun H locs hW hS => ?_)
        refine lv_if_ne (tgt := 68) hx hb dX7_lays_59 (by decide) (fun c11 => ?_) (fun c11 => ?_)
        · have hF := it_n c11 hF
          refine lv_iconst (v := (0 : Int32)) hx hb dX7_lays_68 (by decide) ?_
          refine lv_istore_n (lv' := [(3, .int (0 : Int32)), (2, .ref (g_ad G (41 + 2 * j4))), (0, .ref (g_ad G 0)), (1, .int a1)]) hx hb dX7_lays_69 rfl hl (by decide) rfl (fun ls hl => ?_)
          exact t_X7_lays_70 cx hr FU (41 + 2 * j4) (0 : Int32) M (kd_sh hj4 gj4) hF _ _ _ hW hS (lv_sub hl [2, 1, 0] rfl)
        · have hF := it_p c11 hF
          refine lv_aload_n hx hb dX7_lays_62 rfl (lv_at hl 1 rfl) ?_
          refine lv_iconst (v := (4 : Int32)) hx hb dX7_lays_63 (by decide) ?_
          obtain ⟨r19, M20, hc18, hF⟩ := bn_e hF
          refine x_goi (x_runV cx hW hS (c_X7_finding (l := l) (G := G) hc18) cv_X7_56 kc_0 rfl (rest := []) ⟨Nat.le_of_ble_eq_true rfl, Nat.le_of_ble_eq_true rfl⟩ hl.1 rfl rfl (Nat.le_of_ble_eq_true rfl) ⟨Nat.zero_le _, Nat.zero_le _⟩ dX7_lays_64) hS (fun H locs hW hS => ?_)
          exact x_iret cx hr hW hS (sp_1 hF) (sp_2 hF) dX7_lays_67
      · have hF := it_n c8 hF
        refine lv_aload_n hx hb dX7_lays_47 rfl (lv_at hl 1 rfl) ?_
        refine lv_bipush (v := (6 : Int32)) hx hb dX7_lays_48 (by decide) ?_
        obtain ⟨r22, M23, hc21, hF⟩ := bn_e hF
        refine x_goi (x_runV cx hW hS (c_X7_finding (l := l) (G := G) hc21) cv_X7_56 kc_0 rfl (rest := []) ⟨Nat.le_of_ble_eq_true rfl, Nat.le_of_ble_eq_true rfl⟩ hl.1 rfl rfl (Nat.le_of_ble_eq_true rfl) ⟨Nat.zero_le _, Nat.zero_le _⟩ dX7_lays_50) hS (fun H locs hW hS => ?_)
        exact x_iret cx hr hW hS (sp_1 hF) (sp_2 hF) dX7_lays_53
    · have hF := it_n c7 hF
      refine lv_aload_n hx hb dX7_lays_27 rfl (lv_at hl 1 rfl) ?_
      refine lv_iconst (v := (5 : Int32)) hx hb dX7_lays_28 (by decide) ?_
      obtain ⟨r25, M26, hc24, hF⟩ := bn_e hF
      refine x_goi (x_runV cx hW hS (c_X7_finding (l := l) (G := G) hc24) cv_X7_56 kc_0 rfl (rest := []) ⟨Nat.le_of_ble_eq_true rfl, Nat.le_of_ble_eq_true rfl⟩ hl.1 rfl rfl (Nat.le_of_ble_eq_true rfl) ⟨Nat.zero_le _, Nat.zero_le _⟩ dX7_lays_29) hS (fun H locs hW hS => ?_)
      exact x_iret cx hr hW hS (sp_1 hF) (sp_2 hF) dX7_lays_32
  · have hF := it_p c3 hF
    refine lv_aload_n hx hb dX7_lays_7 rfl (lv_at hl 0 rfl) ?_
    refine lv_iconst (v := (0 : Int32)) hx hb dX7_lays_8 (by decide) ?_
    obtain ⟨r28, M29, hc27, hF⟩ := bn_e hF
    refine x_goi (x_runV cx hW hS (c_X7_finding (l := l) (G := G) hc27) cv_X7_56 kc_0 rfl (rest := []) ⟨Nat.le_of_ble_eq_true rfl, Nat.le_of_ble_eq_true rfl⟩ hl.1 rfl rfl (Nat.le_of_ble_eq_true rfl) ⟨Nat.zero_le _, Nat.zero_le _⟩ dX7_lays_9) hS (fun H locs hW hS => ?_)
    exact x_iret cx hr hW hS (sp_1 hF) (sp_2 hF) dX7_lays_12
def F_X7_book_64 (a1 : Int32) (a2 : Int32) : Nat → Nat → Int32 → Mem → Option (Int32 × Mem)
  | 0, _, _, _ => none
  | n + 1, x3, x4, M => (if (m_I M x3 2) ≤ x4 then some ((m_I M x3 2), M) else ix 8 a2 (fun j14 => (F_X2_put x3 x4 ((m_I M 27 j14).toInt64) M).bind (fun M16 => (F_X4_passFriday 24 M16).bind (fun M18 => F_X7_book_64 a1 a2 n x3 (x4 + 1) M18))))
set_option maxHeartbeats 4000000 in
set_option maxRecDepth 100000 in
theorem t_X7_book_64 {p : Program} {l : Launch} {e : Env} {s : State} {m : MethodId} {args : Array Value} {below : List Frame} {meth : Method} {c : Code} {G : GG} {a1 : Int32} {a2 : Int32} (cx : Cx G cX7_book RX7 5 p s m args meth c) (hr : meth.sig.returnType = (some .int))   {r : Int32} {M1 : Mem} : ∀ (n : Nat) (x3 : Nat) (x4 : Int32) (M : Mem), kd x3 = 1 → F_X7_book_64 a1 a2 n x3 x4 M = some (r, M1) → ∀ (H : Heap) (locs : List Loc) (ls : Array Slot), WH G M H → va_S (g_A G) s.heap H locs → lv_has ls 5 [(0, .ref (g_ad G 0)), (2, .int a2), (3, .ref (g_ad G x3)), (4, .int x4)] → W p l e (RM 5 115) s m args below meth c H locs 0 0 (MQ below (QcI G r M1) args s 0 0 (g_A G)) (F0 m 64 ls []) := by
  obtain ⟨hx, hb, hml, hown, hts, hKK, hSS, hlk⟩ := id cx
  intro n
  induction n with
  | zero =>
    intro x3 x4 M q3 hF H locs ls hW hS hl
    rw [F_X7_book_64] at hF
    cases hF
  | succ n ih =>
    intro x3 x4 M q3 hF H locs ls hW hS hl
    rw [F_X7_book_64] at hF
    refine lv_iload hx hb dX7_book_64 (lv_at hl 3 rfl) ?_
    refine lv_aload_n hx hb dX7_book_66 rfl (lv_at hl 2 rfl) ?_
    refine x_get cx hW q3 fk_X7_222 (v := .int (m_I M x3 2)) rfl dX7_book_67 ?_
    refine lv_icmp_ge (tgt := 102) hx hb dX7_book_70 (by decide) (fun c13 => ?_) (fun c13 => ?_)
    · have hF := it_p c13 hF
      refine lv_aload_n hx hb dX7_book_102 rfl (lv_at hl 2 rfl) ?_
      refine x_get cx hW q3 fk_X7_222 (v := .int (m_I M x3 2)) rfl dX7_book_103 ?_
      exact x_iret cx hr hW hS (sp_1 hF) (sp_2 hF) dX7_book_106
    · have hF := it_n c13 hF
      refine lv_aload_n hx hb dX7_book_73 rfl (lv_at hl 2 rfl) ?_
      refine lv_iload hx hb dX7_book_74 (lv_at hl 3 rfl) ?_
      refine lv_aload_n hx hb dX7_book_76 rfl (lv_at hl 0 rfl) ?_
      refine x_get cx hW kc_0 fk_X7_19 (v := .ref (g_ad G 24)) rfl dX7_book_77 ?_
      refine x_get cx hW kc_24 fk_X7_76 (v := .ref (g_ad G 27)) rfl dX7_book_80 ?_
      refine lv_iload_n hx hb dX7_book_83 rfl (lv_at hl 1 rfl) ?_
      obtain ⟨j14, hj14, gj14, hF⟩ := ix_e hF
      refine x_iald cx hW kc_27 (by decide) hj14 gj14 dX7_book_84 ?_
      refine lv_i2l hx hb dX7_book_85 rfl ?_
      obtain ⟨M16, hc15, hF⟩ := bi_e hF
      refine x_gov (x_runV cx hW hS (c_X2_put (l := l) (G := G) q3 hc15) cv_X7_227 q3 rfl (rest := []) ⟨Nat.le_of_ble_eq_true rfl, Nat.le_of_ble_eq_true rfl⟩ hl.1 rfl rfl (Nat.le_of_ble_eq_true rfl) ⟨Nat.zero_le _, Nat.zero_le _⟩ dX7_book_86) hS (fun H locs hW hS => ?_)
      refine lv_aload_n hx hb dX7_book_89 rfl (lv_at hl 0 rfl) ?_
      refine x_get cx hW kc_0 fk_X7_19 (v := .ref (g_ad G 24)) rfl dX7_book_90 ?_
      obtain ⟨M18, hc17, hF⟩ := bi_e hF
      refine x_gov (x_runV cx hW hS (c_X4_passFriday (l := l) (G := G) kc_24 hc17) cv_X7_141 kc_24 rfl (rest := []) ⟨Nat.le_of_ble_eq_true rfl, Nat.le_of_ble_eq_true rfl⟩ hl.1 rfl rfl (Nat.le_of_ble_eq_true rfl) ⟨Nat.zero_le _, Nat.zero_le _⟩ dX7_book_93) hS (fun H locs hW hS => ?_)
      refine lv_iinc (v := (x4 + 1)) (lv' := [(4, .int (x4 + 1)), (0, .ref (g_ad G 0)), (2, .int a2), (3, .ref (g_ad G x3))]) hx hb dX7_book_96 hl (k := 3) rfl rfl (by decide) rfl (fun ls hl => ?_)
      refine lv_goto (tgt := 64) hx hb dX7_book_99 (by decide) ?_
      exact ih x3 (x4 + 1) M18 q3 hF _ _ _ hW hS (lv_sub hl [1, 2, 3, 0] rfl)
def F_X7_book (a1 : Int32) (a2 : Int32) (M : Mem) : Option (Int32 × Mem) := (F_X7_isSheet a1 M).bind (fun r2 => (if r2 = 0 then bn (F_X7_finding (0 : Int32) M) (fun r26 M27 => some (r26, M27)) else ix 4 a1 (fun j4 => (F_X2_isMissing (41 + 2 * j4) M).bind (fun r6 => (if r6 = 0 then (F_X4_has 2 a2 M).bind (fun r9 => (if r9 = 0 then bn (F_X7_finding (0 : Int32) M) (fun r20 M21 => some (r20, M21)) else (F_X4_become 24 2 M).bind (fun M12 => F_X7_book_64 a1 a2 FU (41 + 2 * j4) (0 : Int32) M12))) else bn (F_X7_finding (5 : Int32) M) (fun r23 M24 => some (r23, M24)))))))
set_option maxHeartbeats 4000000 in
set_option maxRecDepth 100000 in
theorem c_X7_book {l : Launch} {G : GG} {a1 : Int32} {a2 : Int32}  {M : Mem} {r : Int32} {M1 : Mem} (hF : F_X7_book a1 a2 M = some (r, M1)) : Met l yX7_book (wz yX7_book cX7_book 5 (some .int)) (RM 5 115) (PreC G [.ref (g_ad G 0), .int a1, .int a2] M) (QcI G r M1) 0 0 (g_A G) := by
  rw [F_X7_book] at hF
  refine x_start (by decide) (Nat.le_of_ble_eq_true rfl) (lv := [(0, .ref (g_ad G 0)), (1, .int a1), (2, .int a2)]) rfl ?_
  intro p e s m below meth c cx hr hW hS ls hl
  obtain ⟨hx, hb, hml, hown, hts, hKK, hSS, hlk⟩ := id cx
  refine lv_iload_n hx hb dX7_book_0 rfl (lv_at hl 1 rfl) ?_
  obtain ⟨r2, hc1, hF⟩ := bi_e hF
  refine x_goi (x_runS cx hW hS (c_X7_isSheet (l := l) (G := G) hc1) cs_X7_213 (rest := []) ⟨Nat.le_of_ble_eq_true rfl, Nat.le_of_ble_eq_true rfl⟩ hl.1 rfl rfl (Nat.le_of_ble_eq_true rfl) ⟨Nat.zero_le _, Nat.zero_le _⟩ dX7_book_1) hS (fun H locs hW hS => ?_)
  refine lv_if_ne (tgt := 13) hx hb dX7_book_4 (by decide) (fun c3 => ?_) (fun c3 => ?_)
  · have hF := it_n c3 hF
    refine lv_aload_n hx hb dX7_book_13 rfl (lv_at hl 0 rfl) ?_
    refine x_get cx hW kc_0 fk_X7_43 (v := .ref (g_ad G 40)) rfl dX7_book_14 ?_
    refine lv_iload_n hx hb dX7_book_17 rfl (lv_at hl 1 rfl) ?_
    obtain ⟨j4, hj4, gj4, hF⟩ := ix_e hF
    refine x_aald cx hW kc_40 hj4 gj4 dX7_book_18 ?_
    refine lv_astore_n (lv' := [(3, .ref (g_ad G (41 + 2 * j4))), (0, .ref (g_ad G 0)), (1, .int a1), (2, .int a2)]) hx hb dX7_book_19 rfl hl (by decide) rfl (fun ls hl => ?_)
    refine lv_aload_n hx hb dX7_book_20 rfl (lv_at hl 0 rfl) ?_
    obtain ⟨r6, hc5, hF⟩ := bi_e hF
    refine x_goi (x_runV cx hW hS (c_X2_isMissing (l := l) (G := G) (kd_sh hj4 gj4) hc5) cv_X7_219 (kd_sh hj4 gj4) rfl (rest := []) ⟨Nat.le_of_ble_eq_true rfl, Nat.le_of_ble_eq_true rfl⟩ hl.1 rfl rfl (Nat.le_of_ble_eq_true rfl) ⟨Nat.zero_le _, Nat.zero_le _⟩ dX7_book_21) hS (fun H locs hW hS => ?_)
    refine lv_if_eq (tgt := 33) hx hb dX7_book_24 (by decide) (fun c7 => ?_) (fun c7 => ?_)
    · have hF := it_p c7 hF
      refine lv_aload_n hx hb dX7_book_33 rfl (lv_at hl 1 rfl) ?_
      refine x_get cx hW kc_0 fk_X7_10 (v := .ref (g_ad G 2)) rfl dX7_book_34 ?_
      refine lv_iload_n hx hb dX7_book_37 rfl (lv_at hl 3 rfl) ?_
      obtain ⟨r9, hc8, hF⟩ := bi_e hF
      refine x_goi (x_runV cx hW hS (c_X4_has (l := l) (G := G) kc_2 hc8) cv_X7_67 kc_2 rfl (rest := []) ⟨Nat.le_of_ble_eq_true rfl, Nat.le_of_ble_eq_true rfl⟩ hl.1 rfl rfl (Nat.le_of_ble_eq_true rfl) ⟨Nat.zero_le _, Nat.zero_le _⟩ dX7_book_38) hS (fun H locs hW hS => ?_)
      refine lv_if_ne (tgt := 50) hx hb dX7_book_41 (by decide) (fun c10 => ?_) (fun c10 => ?_)
      · have hF := it_n c10 hF
        refine lv_aload_n hx hb dX7_book_50 rfl (lv_at hl 1 rfl) ?_
        refine x_get cx hW kc_0 fk_X7_19 (v := .ref (g_ad G 24)) rfl dX7_book_51 ?_
        refine lv_aload_n hx hb dX7_book_54 rfl (lv_at hl 1 rfl) ?_
        refine x_get cx hW kc_0 fk_X7_10 (v := .ref (g_ad G 2)) rfl dX7_book_55 ?_
        obtain ⟨M12, hc11, hF⟩ := bi_e hF
        refine x_gov (x_runV cx hW hS (c_X4_become (l := l) (G := G) kc_24 kc_2 hc11) cv_X7_162 kc_24 rfl (rest := []) ⟨Nat.le_of_ble_eq_true rfl, Nat.le_of_ble_eq_true rfl⟩ hl.1 rfl rfl (Nat.le_of_ble_eq_true rfl) ⟨Nat.zero_le _, Nat.zero_le _⟩ dX7_book_58) hS (fun H locs hW hS => ?_)
        refine lv_iconst (v := (0 : Int32)) hx hb dX7_book_61 (by decide) ?_
        refine lv_istore (lv' := [(4, .int (0 : Int32)), (3, .ref (g_ad G (41 + 2 * j4))), (0, .ref (g_ad G 0)), (1, .int a1), (2, .int a2)]) hx hb dX7_book_62 hl (by decide) rfl (fun ls hl => ?_)
        exact t_X7_book_64 cx hr FU (41 + 2 * j4) (0 : Int32) M12 (kd_sh hj4 gj4) hF _ _ _ hW hS (lv_sub hl [2, 4, 1, 0] rfl)
      · have hF := it_p c10 hF
        refine lv_aload_n hx hb dX7_book_44 rfl (lv_at hl 1 rfl) ?_
        refine lv_iconst (v := (0 : Int32)) hx hb dX7_book_45 (by decide) ?_
        obtain ⟨r20, M21, hc19, hF⟩ := bn_e hF
        refine x_goi (x_runV cx hW hS (c_X7_finding (l := l) (G := G) hc19) cv_X7_56 kc_0 rfl (rest := []) ⟨Nat.le_of_ble_eq_true rfl, Nat.le_of_ble_eq_true rfl⟩ hl.1 rfl rfl (Nat.le_of_ble_eq_true rfl) ⟨Nat.zero_le _, Nat.zero_le _⟩ dX7_book_46) hS (fun H locs hW hS => ?_)
        exact x_iret cx hr hW hS (sp_1 hF) (sp_2 hF) dX7_book_49
    · have hF := it_n c7 hF
      refine lv_aload_n hx hb dX7_book_27 rfl (lv_at hl 1 rfl) ?_
      refine lv_iconst (v := (5 : Int32)) hx hb dX7_book_28 (by decide) ?_
      obtain ⟨r23, M24, hc22, hF⟩ := bn_e hF
      refine x_goi (x_runV cx hW hS (c_X7_finding (l := l) (G := G) hc22) cv_X7_56 kc_0 rfl (rest := []) ⟨Nat.le_of_ble_eq_true rfl, Nat.le_of_ble_eq_true rfl⟩ hl.1 rfl rfl (Nat.le_of_ble_eq_true rfl) ⟨Nat.zero_le _, Nat.zero_le _⟩ dX7_book_29) hS (fun H locs hW hS => ?_)
      exact x_iret cx hr hW hS (sp_1 hF) (sp_2 hF) dX7_book_32
  · have hF := it_p c3 hF
    refine lv_aload_n hx hb dX7_book_7 rfl (lv_at hl 0 rfl) ?_
    refine lv_iconst (v := (0 : Int32)) hx hb dX7_book_8 (by decide) ?_
    obtain ⟨r26, M27, hc25, hF⟩ := bn_e hF
    refine x_goi (x_runV cx hW hS (c_X7_finding (l := l) (G := G) hc25) cv_X7_56 kc_0 rfl (rest := []) ⟨Nat.le_of_ble_eq_true rfl, Nat.le_of_ble_eq_true rfl⟩ hl.1 rfl rfl (Nat.le_of_ble_eq_true rfl) ⟨Nat.zero_le _, Nat.zero_le _⟩ dX7_book_9) hS (fun H locs hW hS => ?_)
    exact x_iret cx hr hW hS (sp_1 hF) (sp_2 hF) dX7_book_12
def F_X7_fitsWith_53 (a1 : Int32) (a2 : Int32) (a3 : Nat) : Nat → Int32 → Int32 → Mem → Option (Int32 × Mem)
  | 0, _, _, _ => none
  | n + 1, x4, x5, M => (if x4 ≤ x5 then some ((1 : Int32), M) else ix 40 x5 (fun j10 => ix 8 x5 (fun j11 => (if (lg_cmp (m_J M (a3 + 1) j10) ((m_I M 27 j11).toInt64)) = 0 then F_X7_fitsWith_53 a1 a2 a3 n x4 (x5 + 1) M else some ((0 : Int32), M)))))
set_option maxHeartbeats 4000000 in
set_option maxRecDepth 100000 in
theorem t_X7_fitsWith_53 {p : Program} {l : Launch} {e : Env} {s : State} {m : MethodId} {args : Array Value} {below : List Frame} {meth : Method} {c : Code} {G : GG} {a1 : Int32} {a2 : Int32} {a3 : Nat} (cx : Cx G cX7_fitsWith RX7 6 p s m args meth c) (hr : meth.sig.returnType = (some .boolean)) (h3 : kd a3 = 1)  {r : Int32} {M1 : Mem} : ∀ (n : Nat) (x4 : Int32) (x5 : Int32) (M : Mem), F_X7_fitsWith_53 a1 a2 a3 n x4 x5 M = some (r, M1) → ∀ (H : Heap) (locs : List Loc) (ls : Array Slot), WH G M H → va_S (g_A G) s.heap H locs → lv_has ls 6 [(0, .ref (g_ad G 0)), (3, .ref (g_ad G a3)), (4, .int x4), (5, .int x5)] → W p l e (RM 5 115) s m args below meth c H locs 0 0 (MQ below (QcI G r M1) args s 0 0 (g_A G)) (F0 m 53 ls []) := by
  obtain ⟨hx, hb, hml, hown, hts, hKK, hSS, hlk⟩ := id cx
  intro n
  induction n with
  | zero =>
    intro x4 x5 M hF H locs ls hW hS hl
    rw [F_X7_fitsWith_53] at hF
    cases hF
  | succ n ih =>
    intro x4 x5 M hF H locs ls hW hS hl
    rw [F_X7_fitsWith_53] at hF
    refine lv_iload hx hb dX7_fitsWith_53 (lv_at hl 3 rfl) ?_
    refine lv_iload hx hb dX7_fitsWith_55 (lv_at hl 2 rfl) ?_
    refine lv_icmp_ge (tgt := 90) hx hb dX7_fitsWith_57 (by decide) (fun c9 => ?_) (fun c9 => ?_)
    · have hF := it_p c9 hF
      refine lv_iconst (v := (1 : Int32)) hx hb dX7_fitsWith_90 (by decide) ?_
      exact x_zret cx hr (by decide) hW hS (sp_1 hF) (sp_2 hF) dX7_fitsWith_91
    · have hF := it_n c9 hF
      refine lv_aload_n hx hb dX7_fitsWith_60 rfl (lv_at hl 1 rfl) ?_
      refine x_get cx hW h3 fk_X7_223 (v := .ref (g_ad G (a3 + 1))) rfl dX7_fitsWith_61 ?_
      refine lv_iload hx hb dX7_fitsWith_64 (lv_at hl 3 rfl) ?_
      obtain ⟨j10, hj10, gj10, hF⟩ := ix_e hF
      refine x_lald cx hW (kd_s h3) (by decide) hj10 gj10 dX7_fitsWith_66 ?_
      refine lv_aload_n hx hb dX7_fitsWith_67 rfl (lv_at hl 0 rfl) ?_
      refine x_get cx hW kc_0 fk_X7_19 (v := .ref (g_ad G 24)) rfl dX7_fitsWith_68 ?_
      refine x_get cx hW kc_24 fk_X7_76 (v := .ref (g_ad G 27)) rfl dX7_fitsWith_71 ?_
      refine lv_iload hx hb dX7_fitsWith_74 (lv_at hl 3 rfl) ?_
      obtain ⟨j11, hj11, gj11, hF⟩ := ix_e hF
      refine x_iald cx hW kc_27 (by decide) hj11 gj11 dX7_fitsWith_76 ?_
      refine lv_i2l hx hb dX7_fitsWith_77 rfl ?_
      refine W.lcmp hx hb dX7_fitsWith_78 ?_
      refine lv_if_eq (tgt := 84) hx hb dX7_fitsWith_79 (by decide) (fun c12 => ?_) (fun c12 => ?_)
      · have hF := it_p c12 hF
        refine lv_iinc (v := (x5 + 1)) (lv' := [(5, .int (x5 + 1)), (0, .ref (g_ad G 0)), (3, .ref (g_ad G a3)), (4, .int x4)]) hx hb dX7_fitsWith_84 hl (k := 3) rfl rfl (by decide) rfl (fun ls hl => ?_)
        refine lv_goto (tgt := 53) hx hb dX7_fitsWith_87 (by decide) ?_
        exact ih x4 (x5 + 1) M hF _ _ _ hW hS (lv_sub hl [1, 2, 3, 0] rfl)
      · have hF := it_n c12 hF
        refine lv_iconst (v := (0 : Int32)) hx hb dX7_fitsWith_82 (by decide) ?_
        exact x_zret cx hr (by decide) hW hS (sp_1 hF) (sp_2 hF) dX7_fitsWith_83
def F_X7_fitsWith (a1 : Int32) (a2 : Int32) (a3 : Nat) (M : Mem) : Option (Int32 × Mem) := (F_X4_become 24 2 M).bind (fun M2 => (F_X4_holder 24 a2 M2).bind (fun r4 => (F_X4_exchange 24 a1 r4 M2).bind (fun M6 => (F_X4_passFriday 24 M6).bind (fun M8 => F_X7_fitsWith_53 a1 a2 a3 FU (if (m_I M8 24 2) < (m_I M8 a3 2) then (m_I M8 24 2) else (m_I M8 a3 2)) (0 : Int32) M8))))
set_option maxHeartbeats 4000000 in
set_option maxRecDepth 100000 in
theorem c_X7_fitsWith {l : Launch} {G : GG} {a1 : Int32} {a2 : Int32} {a3 : Nat} (h3 : kd a3 = 1) {M : Mem} {r : Int32} {M1 : Mem} (hF : F_X7_fitsWith a1 a2 a3 M = some (r, M1)) : Met l yX7_fitsWith (wz yX7_fitsWith cX7_fitsWith 6 (some .boolean)) (RM 5 115) (PreC G [.ref (g_ad G 0), .int a1, .int a2, .ref (g_ad G a3)] M) (QcI G r M1) 0 0 (g_A G) := by
  rw [F_X7_fitsWith] at hF
  refine x_start (by decide) (Nat.le_of_ble_eq_true rfl) (lv := [(0, .ref (g_ad G 0)), (1, .int a1), (2, .int a2), (3, .ref (g_ad G a3))]) rfl ?_
  intro p e s m below meth c cx hr hW hS ls hl
  obtain ⟨hx, hb, hml, hown, hts, hKK, hSS, hlk⟩ := id cx
  refine lv_aload_n hx hb dX7_fitsWith_0 rfl (lv_at hl 0 rfl) ?_
  refine x_get cx hW kc_0 fk_X7_19 (v := .ref (g_ad G 24)) rfl dX7_fitsWith_1 ?_
  refine lv_aload_n hx hb dX7_fitsWith_4 rfl (lv_at hl 0 rfl) ?_
  refine x_get cx hW kc_0 fk_X7_10 (v := .ref (g_ad G 2)) rfl dX7_fitsWith_5 ?_
  obtain ⟨M2, hc1, hF⟩ := bi_e hF
  refine x_gov (x_runV cx hW hS (c_X4_become (l := l) (G := G) kc_24 kc_2 hc1) cv_X7_162 kc_24 rfl (rest := []) ⟨Nat.le_of_ble_eq_true rfl, Nat.le_of_ble_eq_true rfl⟩ hl.1 rfl rfl (Nat.le_of_ble_eq_true rfl) ⟨Nat.zero_le _, Nat.zero_le _⟩ dX7_fitsWith_8) hS (fun H locs hW hS => ?_)
  refine lv_aload_n hx hb dX7_fitsWith_11 rfl (lv_at hl 0 rfl) ?_
  refine x_get cx hW kc_0 fk_X7_19 (v := .ref (g_ad G 24)) rfl dX7_fitsWith_12 ?_
  refine lv_iload_n hx hb dX7_fitsWith_15 rfl (lv_at hl 1 rfl) ?_
  refine lv_aload_n hx hb dX7_fitsWith_16 rfl (lv_at hl 0 rfl) ?_
  refine x_get cx hW kc_0 fk_X7_19 (v := .ref (g_ad G 24)) rfl dX7_fitsWith_17 ?_
  refine lv_iload_n hx hb dX7_fitsWith_20 rfl (lv_at hl 2 rfl) ?_
  obtain ⟨r4, hc3, hF⟩ := bi_e hF
  refine x_goi (x_runV cx hW hS (c_X4_holder (l := l) (G := G) kc_24 hc3) cv_X7_156 kc_24 rfl (rest := [.int a1, .ref (g_ad G 24)]) ⟨Nat.le_of_ble_eq_true rfl, Nat.le_of_ble_eq_true rfl⟩ hl.1 rfl rfl (Nat.le_of_ble_eq_true rfl) ⟨Nat.zero_le _, Nat.zero_le _⟩ dX7_fitsWith_21) hS (fun H locs hW hS => ?_)
  obtain ⟨M6, hc5, hF⟩ := bi_e hF
  refine x_gov (x_runV cx hW hS (c_X4_exchange (l := l) (G := G) kc_24 hc5) cv_X7_109 kc_24 rfl (rest := []) ⟨Nat.le_of_ble_eq_true rfl, Nat.le_of_ble_eq_true rfl⟩ hl.1 rfl rfl (Nat.le_of_ble_eq_true rfl) ⟨Nat.zero_le _, Nat.zero_le _⟩ dX7_fitsWith_24) hS (fun H locs hW hS => ?_)
  refine lv_aload_n hx hb dX7_fitsWith_27 rfl (lv_at hl 0 rfl) ?_
  refine x_get cx hW kc_0 fk_X7_19 (v := .ref (g_ad G 24)) rfl dX7_fitsWith_28 ?_
  obtain ⟨M8, hc7, hF⟩ := bi_e hF
  refine x_gov (x_runV cx hW hS (c_X4_passFriday (l := l) (G := G) kc_24 hc7) cv_X7_141 kc_24 rfl (rest := []) ⟨Nat.le_of_ble_eq_true rfl, Nat.le_of_ble_eq_true rfl⟩ hl.1 rfl rfl (Nat.le_of_ble_eq_true rfl) ⟨Nat.zero_le _, Nat.zero_le _⟩ dX7_fitsWith_31) hS (fun H locs hW hS => ?_)
  refine lv_aload_n hx hb dX7_fitsWith_34 rfl (lv_at hl 3 rfl) ?_
  refine x_get cx hW h3 fk_X7_222 (v := .int (m_I M8 a3 2)) rfl dX7_fitsWith_35 ?_
  refine lv_aload_n hx hb dX7_fitsWith_38 rfl (lv_at hl 0 rfl) ?_
  refine x_get cx hW kc_0 fk_X7_19 (v := .ref (g_ad G 24)) rfl dX7_fitsWith_39 ?_
  refine x_get cx hW kc_24 fk_X7_117 (v := .int (m_I M8 24 2)) rfl dX7_fitsWith_42 ?_
  refine x_min cx cm_X7_256 hl.1 (Nat.le_of_ble_eq_true rfl) (Nat.le_of_ble_eq_true rfl) dX7_fitsWith_45 ?_
  refine lv_istore (lv' := [(4, .int (if (m_I M8 24 2) < (m_I M8 a3 2) then (m_I M8 24 2) else (m_I M8 a3 2))), (0, .ref (g_ad G 0)), (1, .int a1), (2, .int a2), (3, .ref (g_ad G a3))]) hx hb dX7_fitsWith_48 hl (by decide) rfl (fun ls hl => ?_)
  refine lv_iconst (v := (0 : Int32)) hx hb dX7_fitsWith_50 (by decide) ?_
  refine lv_istore (lv' := [(5, .int (0 : Int32)), (4, .int (if (m_I M8 24 2) < (m_I M8 a3 2) then (m_I M8 24 2) else (m_I M8 a3 2))), (0, .ref (g_ad G 0)), (1, .int a1), (2, .int a2), (3, .ref (g_ad G a3))]) hx hb dX7_fitsWith_51 hl (by decide) rfl (fun ls hl => ?_)
  exact t_X7_fitsWith_53 cx hr h3 FU (if (m_I M8 24 2) < (m_I M8 a3 2) then (m_I M8 24 2) else (m_I M8 a3 2)) (0 : Int32) M8 hF _ _ _ hW hS (lv_sub hl [2, 5, 1, 0] rfl)
def F_X7_read_56 (a1 : Int32) (a2 : Int32) : Nat → Nat → Int32 → Int32 → Mem → Option (Int32 × Mem)
  | 0, _, _, _, _ => none
  | n + 1, x3, x4, x5, M => (if (m_I M 2 2) ≤ x5 then some (x4, M) else (F_X4_areAlike 2 x5 a2 M).bind (fun r13 => (if r13 = 0 then F_X7_read_56 a1 a2 n x3 x4 (x5 + 1) M else bn (F_X7_fitsWith a2 x5 x3 M) (fun r16 M17 => (if r16 = 0 then F_X7_read_56 a1 a2 n x3 x4 (x5 + 1) M17 else F_X7_read_56 a1 a2 n x3 (x4 + 1) (x5 + 1) M17)))))
set_option maxHeartbeats 4000000 in
set_option maxRecDepth 100000 in
theorem t_X7_read_56 {p : Program} {l : Launch} {e : Env} {s : State} {m : MethodId} {args : Array Value} {below : List Frame} {meth : Method} {c : Code} {G : GG} {a1 : Int32} {a2 : Int32} (cx : Cx G cX7_read RX7 6 p s m args meth c) (hr : meth.sig.returnType = (some .int))   {r : Int32} {M1 : Mem} : ∀ (n : Nat) (x3 : Nat) (x4 : Int32) (x5 : Int32) (M : Mem), kd x3 = 1 → F_X7_read_56 a1 a2 n x3 x4 x5 M = some (r, M1) → ∀ (H : Heap) (locs : List Loc) (ls : Array Slot), WH G M H → va_S (g_A G) s.heap H locs → lv_has ls 6 [(0, .ref (g_ad G 0)), (2, .int a2), (3, .ref (g_ad G x3)), (4, .int x4), (5, .int x5)] → W p l e (RM 6 140) s m args below meth c H locs 0 0 (MQ below (QcI G r M1) args s 0 0 (g_A G)) (F0 m 56 ls []) := by
  obtain ⟨hx, hb, hml, hown, hts, hKK, hSS, hlk⟩ := id cx
  intro n
  induction n with
  | zero =>
    intro x3 x4 x5 M q3 hF H locs ls hW hS hl
    rw [F_X7_read_56] at hF
    cases hF
  | succ n ih =>
    intro x3 x4 x5 M q3 hF H locs ls hW hS hl
    rw [F_X7_read_56] at hF
    refine lv_iload hx hb dX7_read_56 (lv_at hl 4 rfl) ?_
    refine lv_aload_n hx hb dX7_read_58 rfl (lv_at hl 0 rfl) ?_
    refine x_get cx hW kc_0 fk_X7_10 (v := .ref (g_ad G 2)) rfl dX7_read_59 ?_
    refine x_get cx hW kc_2 fk_X7_117 (v := .int (m_I M 2 2)) rfl dX7_read_62 ?_
    refine lv_icmp_ge (tgt := 101) hx hb dX7_read_65 (by decide) (fun c11 => ?_) (fun c11 => ?_)
    · have hF := it_p c11 hF
      refine lv_iload hx hb dX7_read_101 (lv_at hl 3 rfl) ?_
      exact x_iret cx hr hW hS (sp_1 hF) (sp_2 hF) dX7_read_103
    · have hF := it_n c11 hF
      refine lv_aload_n hx hb dX7_read_68 rfl (lv_at hl 0 rfl) ?_
      refine x_get cx hW kc_0 fk_X7_10 (v := .ref (g_ad G 2)) rfl dX7_read_69 ?_
      refine lv_iload hx hb dX7_read_72 (lv_at hl 4 rfl) ?_
      refine lv_iload_n hx hb dX7_read_74 rfl (lv_at hl 1 rfl) ?_
      obtain ⟨r13, hc12, hF⟩ := bi_e hF
      refine x_goi (x_runV cx hW hS (c_X4_areAlike (l := l) (G := G) kc_2 hc12) cv_X7_106 kc_2 rfl (rest := []) ⟨Nat.le_of_ble_eq_true rfl, Nat.le_of_ble_eq_true rfl⟩ hl.1 rfl rfl (Nat.le_of_ble_eq_true rfl) ⟨Nat.zero_le _, Nat.zero_le _⟩ dX7_read_75) hS (fun H locs hW hS => ?_)
      refine lv_if_eq (tgt := 95) hx hb dX7_read_78 (by decide) (fun c14 => ?_) (fun c14 => ?_)
      · have hF := it_p c14 hF
        refine lv_iinc (v := (x5 + 1)) (lv' := [(5, .int (x5 + 1)), (0, .ref (g_ad G 0)), (2, .int a2), (3, .ref (g_ad G x3)), (4, .int x4)]) hx hb dX7_read_95 hl (k := 4) rfl rfl (by decide) rfl (fun ls hl => ?_)
        refine lv_goto (tgt := 56) hx hb dX7_read_98 (by decide) ?_
        exact ih x3 x4 (x5 + 1) M q3 hF _ _ _ hW hS (lv_sub hl [1, 2, 3, 4, 0] rfl)
      · have hF := it_n c14 hF
        refine lv_aload_n hx hb dX7_read_81 rfl (lv_at hl 0 rfl) ?_
        refine lv_iload_n hx hb dX7_read_82 rfl (lv_at hl 1 rfl) ?_
        refine lv_iload hx hb dX7_read_83 (lv_at hl 4 rfl) ?_
        refine lv_aload_n hx hb dX7_read_85 rfl (lv_at hl 2 rfl) ?_
        obtain ⟨r16, M17, hc15, hF⟩ := bn_e hF
        refine x_goi (x_runV cx hW hS (c_X7_fitsWith (l := l) (G := G) q3 hc15) cv_X7_247 kc_0 rfl (rest := []) ⟨Nat.le_of_ble_eq_true rfl, Nat.le_of_ble_eq_true rfl⟩ hl.1 rfl rfl (Nat.le_of_ble_eq_true rfl) ⟨Nat.zero_le _, Nat.zero_le _⟩ dX7_read_86) hS (fun H locs hW hS => ?_)
        refine lv_if_eq (tgt := 95) hx hb dX7_read_89 (by decide) (fun c18 => ?_) (fun c18 => ?_)
        · have hF := it_p c18 hF
          refine lv_iinc (v := (x5 + 1)) (lv' := [(5, .int (x5 + 1)), (0, .ref (g_ad G 0)), (2, .int a2), (3, .ref (g_ad G x3)), (4, .int x4)]) hx hb dX7_read_95 hl (k := 4) rfl rfl (by decide) rfl (fun ls hl => ?_)
          refine lv_goto (tgt := 56) hx hb dX7_read_98 (by decide) ?_
          exact ih x3 x4 (x5 + 1) M17 q3 hF _ _ _ hW hS (lv_sub hl [1, 2, 3, 4, 0] rfl)
        · have hF := it_n c18 hF
          refine lv_iinc (v := (x4 + 1)) (lv' := [(4, .int (x4 + 1)), (0, .ref (g_ad G 0)), (2, .int a2), (3, .ref (g_ad G x3)), (5, .int x5)]) hx hb dX7_read_92 hl (k := 3) rfl rfl (by decide) rfl (fun ls hl => ?_)
          refine lv_iinc (v := (x5 + 1)) (lv' := [(5, .int (x5 + 1)), (4, .int (x4 + 1)), (0, .ref (g_ad G 0)), (2, .int a2), (3, .ref (g_ad G x3))]) hx hb dX7_read_95 hl (k := 4) rfl rfl (by decide) rfl (fun ls hl => ?_)
          refine lv_goto (tgt := 56) hx hb dX7_read_98 (by decide) ?_
          exact ih x3 (x4 + 1) (x5 + 1) M17 q3 hF _ _ _ hW hS (lv_sub hl [2, 3, 4, 1, 0] rfl)
def F_X7_read (a1 : Int32) (a2 : Int32) (M : Mem) : Option (Int32 × Mem) := (F_X7_isSheet a1 M).bind (fun r2 => (if r2 = 0 then bn (F_X7_finding (0 : Int32) M) (fun r26 M27 => some (r26, M27)) else ix 4 a1 (fun j4 => (F_X2_isMissing (41 + 2 * j4) M).bind (fun r6 => (if r6 = 0 then (F_X4_has 2 a2 M).bind (fun r9 => (if r9 = 0 then bn (F_X7_finding (0 : Int32) M) (fun r20 M21 => some (r20, M21)) else F_X7_read_56 a1 a2 FU (41 + 2 * j4) (0 : Int32) (0 : Int32) M)) else bn (F_X7_finding (5 : Int32) M) (fun r23 M24 => some (r23, M24)))))))
set_option maxHeartbeats 4000000 in
set_option maxRecDepth 100000 in
theorem c_X7_read {l : Launch} {G : GG} {a1 : Int32} {a2 : Int32}  {M : Mem} {r : Int32} {M1 : Mem} (hF : F_X7_read a1 a2 M = some (r, M1)) : Met l yX7_read (wz yX7_read cX7_read 6 (some .int)) (RM 6 140) (PreC G [.ref (g_ad G 0), .int a1, .int a2] M) (QcI G r M1) 0 0 (g_A G) := by
  rw [F_X7_read] at hF
  refine x_start (by decide) (Nat.le_of_ble_eq_true rfl) (lv := [(0, .ref (g_ad G 0)), (1, .int a1), (2, .int a2)]) rfl ?_
  intro p e s m below meth c cx hr hW hS ls hl
  obtain ⟨hx, hb, hml, hown, hts, hKK, hSS, hlk⟩ := id cx
  refine lv_iload_n hx hb dX7_read_0 rfl (lv_at hl 1 rfl) ?_
  obtain ⟨r2, hc1, hF⟩ := bi_e hF
  refine x_goi (x_runS cx hW hS (c_X7_isSheet (l := l) (G := G) hc1) cs_X7_213 (rest := []) ⟨Nat.le_of_ble_eq_true rfl, Nat.le_of_ble_eq_true rfl⟩ hl.1 rfl rfl (Nat.le_of_ble_eq_true rfl) ⟨Nat.zero_le _, Nat.zero_le _⟩ dX7_read_1) hS (fun H locs hW hS => ?_)
  refine lv_if_ne (tgt := 13) hx hb dX7_read_4 (by decide) (fun c3 => ?_) (fun c3 => ?_)
  · have hF := it_n c3 hF
    refine lv_aload_n hx hb dX7_read_13 rfl (lv_at hl 0 rfl) ?_
    refine x_get cx hW kc_0 fk_X7_43 (v := .ref (g_ad G 40)) rfl dX7_read_14 ?_
    refine lv_iload_n hx hb dX7_read_17 rfl (lv_at hl 1 rfl) ?_
    obtain ⟨j4, hj4, gj4, hF⟩ := ix_e hF
    refine x_aald cx hW kc_40 hj4 gj4 dX7_read_18 ?_
    refine lv_astore_n (lv' := [(3, .ref (g_ad G (41 + 2 * j4))), (0, .ref (g_ad G 0)), (1, .int a1), (2, .int a2)]) hx hb dX7_read_19 rfl hl (by decide) rfl (fun ls hl => ?_)
    refine lv_aload_n hx hb dX7_read_20 rfl (lv_at hl 0 rfl) ?_
    obtain ⟨r6, hc5, hF⟩ := bi_e hF
    refine x_goi (x_runV cx hW hS (c_X2_isMissing (l := l) (G := G) (kd_sh hj4 gj4) hc5) cv_X7_219 (kd_sh hj4 gj4) rfl (rest := []) ⟨Nat.le_of_ble_eq_true rfl, Nat.le_of_ble_eq_true rfl⟩ hl.1 rfl rfl (Nat.le_of_ble_eq_true rfl) ⟨Nat.zero_le _, Nat.zero_le _⟩ dX7_read_21) hS (fun H locs hW hS => ?_)
    refine lv_if_eq (tgt := 33) hx hb dX7_read_24 (by decide) (fun c7 => ?_) (fun c7 => ?_)
    · have hF := it_p c7 hF
      refine lv_aload_n hx hb dX7_read_33 rfl (lv_at hl 1 rfl) ?_
      refine x_get cx hW kc_0 fk_X7_10 (v := .ref (g_ad G 2)) rfl dX7_read_34 ?_
      refine lv_iload_n hx hb dX7_read_37 rfl (lv_at hl 3 rfl) ?_
      obtain ⟨r9, hc8, hF⟩ := bi_e hF
      refine x_goi (x_runV cx hW hS (c_X4_has (l := l) (G := G) kc_2 hc8) cv_X7_67 kc_2 rfl (rest := []) ⟨Nat.le_of_ble_eq_true rfl, Nat.le_of_ble_eq_true rfl⟩ hl.1 rfl rfl (Nat.le_of_ble_eq_true rfl) ⟨Nat.zero_le _, Nat.zero_le _⟩ dX7_read_38) hS (fun H locs hW hS => ?_)
      refine lv_if_ne (tgt := 50) hx hb dX7_read_41 (by decide) (fun c10 => ?_) (fun c10 => ?_)
      · have hF := it_n c10 hF
        refine lv_iconst (v := (0 : Int32)) hx hb dX7_read_50 (by decide) ?_
        refine lv_istore (lv' := [(4, .int (0 : Int32)), (3, .ref (g_ad G (41 + 2 * j4))), (0, .ref (g_ad G 0)), (1, .int a1), (2, .int a2)]) hx hb dX7_read_51 hl (by decide) rfl (fun ls hl => ?_)
        refine lv_iconst (v := (0 : Int32)) hx hb dX7_read_53 (by decide) ?_
        refine lv_istore (lv' := [(5, .int (0 : Int32)), (4, .int (0 : Int32)), (3, .ref (g_ad G (41 + 2 * j4))), (0, .ref (g_ad G 0)), (1, .int a1), (2, .int a2)]) hx hb dX7_read_54 hl (by decide) rfl (fun ls hl => ?_)
        exact t_X7_read_56 cx hr FU (41 + 2 * j4) (0 : Int32) (0 : Int32) M (kd_sh hj4 gj4) hF _ _ _ hW hS (lv_sub hl [3, 5, 2, 1, 0] rfl)
      · have hF := it_p c10 hF
        refine lv_aload_n hx hb dX7_read_44 rfl (lv_at hl 1 rfl) ?_
        refine lv_iconst (v := (0 : Int32)) hx hb dX7_read_45 (by decide) ?_
        obtain ⟨r20, M21, hc19, hF⟩ := bn_e hF
        refine x_goi (x_runV cx hW hS (c_X7_finding (l := l) (G := G) hc19) cv_X7_56 kc_0 rfl (rest := []) ⟨Nat.le_of_ble_eq_true rfl, Nat.le_of_ble_eq_true rfl⟩ hl.1 rfl rfl (Nat.le_of_ble_eq_true rfl) ⟨Nat.zero_le _, Nat.zero_le _⟩ dX7_read_46) hS (fun H locs hW hS => ?_)
        exact x_iret cx hr hW hS (sp_1 hF) (sp_2 hF) dX7_read_49
    · have hF := it_n c7 hF
      refine lv_aload_n hx hb dX7_read_27 rfl (lv_at hl 1 rfl) ?_
      refine lv_iconst (v := (5 : Int32)) hx hb dX7_read_28 (by decide) ?_
      obtain ⟨r23, M24, hc22, hF⟩ := bn_e hF
      refine x_goi (x_runV cx hW hS (c_X7_finding (l := l) (G := G) hc22) cv_X7_56 kc_0 rfl (rest := []) ⟨Nat.le_of_ble_eq_true rfl, Nat.le_of_ble_eq_true rfl⟩ hl.1 rfl rfl (Nat.le_of_ble_eq_true rfl) ⟨Nat.zero_le _, Nat.zero_le _⟩ dX7_read_29) hS (fun H locs hW hS => ?_)
      exact x_iret cx hr hW hS (sp_1 hF) (sp_2 hF) dX7_read_32
  · have hF := it_p c3 hF
    refine lv_aload_n hx hb dX7_read_7 rfl (lv_at hl 0 rfl) ?_
    refine lv_iconst (v := (0 : Int32)) hx hb dX7_read_8 (by decide) ?_
    obtain ⟨r26, M27, hc25, hF⟩ := bn_e hF
    refine x_goi (x_runV cx hW hS (c_X7_finding (l := l) (G := G) hc25) cv_X7_56 kc_0 rfl (rest := []) ⟨Nat.le_of_ble_eq_true rfl, Nat.le_of_ble_eq_true rfl⟩ hl.1 rfl rfl (Nat.le_of_ble_eq_true rfl) ⟨Nat.zero_le _, Nat.zero_le _⟩ dX7_read_9) hS (fun H locs hW hS => ?_)
    exact x_iret cx hr hW hS (sp_1 hF) (sp_2 hF) dX7_read_12
def F_X7_image (M : Mem) : Option (Int32 × Mem) := (F_X4_become 13 2 M).bind (fun M2 => pin (w_I M2 0 8 (1 : Int32)) (fun M3 => some ((1 : Int32), M3)))
set_option maxHeartbeats 4000000 in
set_option maxRecDepth 100000 in
theorem c_X7_image {l : Launch} {G : GG}   {M : Mem} {r : Int32} {M1 : Mem} (hF : F_X7_image M = some (r, M1)) : Met l yX7_image (wz yX7_image cX7_image 1 (some .int)) (RM 2 47) (PreC G [.ref (g_ad G 0)] M) (QcI G r M1) 0 0 (g_A G) := by
  rw [F_X7_image] at hF
  refine x_start (by decide) (Nat.le_of_ble_eq_true rfl) (lv := [(0, .ref (g_ad G 0))]) rfl ?_
  intro p e s m below meth c cx hr hW hS ls hl
  obtain ⟨hx, hb, hml, hown, hts, hKK, hSS, hlk⟩ := id cx
  refine lv_aload_n hx hb dX7_image_0 rfl (lv_at hl 0 rfl) ?_
  refine x_get cx hW kc_0 fk_X7_16 (v := .ref (g_ad G 13)) rfl dX7_image_1 ?_
  refine lv_aload_n hx hb dX7_image_4 rfl (lv_at hl 0 rfl) ?_
  refine x_get cx hW kc_0 fk_X7_10 (v := .ref (g_ad G 2)) rfl dX7_image_5 ?_
  obtain ⟨M2, hc1, hF⟩ := bi_e hF
  refine x_gov (x_runV cx hW hS (c_X4_become (l := l) (G := G) kc_13 kc_2 hc1) cv_X7_162 kc_13 rfl (rest := []) ⟨Nat.le_of_ble_eq_true rfl, Nat.le_of_ble_eq_true rfl⟩ hl.1 rfl rfl (Nat.le_of_ble_eq_true rfl) ⟨Nat.zero_le _, Nat.zero_le _⟩ dX7_image_8) hS (fun H locs hW hS => ?_)
  refine lv_aload_n hx hb dX7_image_11 rfl (lv_at hl 0 rfl) ?_
  refine lv_iconst (v := (1 : Int32)) hx hb dX7_image_12 (by decide) ?_
  obtain ⟨M3, eM3, hF⟩ := pin_e hF
  refine x_putz cx hW hS kc_0 fk_X7_251 ft_5_8 (by decide) (Nat.le_of_ble_eq_true rfl) fs_5_8 eM3 dX7_image_13 (fun H locs hW hS => ?_)
  refine lv_iconst (v := (1 : Int32)) hx hb dX7_image_16 (by decide) ?_
  exact x_iret cx hr hW hS (sp_1 hF) (sp_2 hF) dX7_image_17
def F_X7_undo (M : Mem) : Option (Int32 × Mem) := (if (m_I M 0 8) = 0 then bn (F_X7_finding (3 : Int32) M) (fun r5 M6 => some (r5, M6)) else (F_X4_become 2 13 M).bind (fun M3 => some ((m_I M3 2 2), M3)))
set_option maxHeartbeats 4000000 in
set_option maxRecDepth 100000 in
theorem c_X7_undo {l : Launch} {G : GG}   {M : Mem} {r : Int32} {M1 : Mem} (hF : F_X7_undo M = some (r, M1)) : Met l yX7_undo (wz yX7_undo cX7_undo 1 (some .int)) (RM 2 47) (PreC G [.ref (g_ad G 0)] M) (QcI G r M1) 0 0 (g_A G) := by
  rw [F_X7_undo] at hF
  refine x_start (by decide) (Nat.le_of_ble_eq_true rfl) (lv := [(0, .ref (g_ad G 0))]) rfl ?_
  intro p e s m below meth c cx hr hW hS ls hl
  obtain ⟨hx, hb, hml, hown, hts, hKK, hSS, hlk⟩ := id cx
  refine lv_aload_n hx hb dX7_undo_0 rfl (lv_at hl 0 rfl) ?_
  refine x_get cx hW kc_0 fk_X7_251 (v := .int (m_I M 0 8)) rfl dX7_undo_1 ?_
  refine lv_if_ne (tgt := 13) hx hb dX7_undo_4 (by decide) (fun c1 => ?_) (fun c1 => ?_)
  · have hF := it_n c1 hF
    refine lv_aload_n hx hb dX7_undo_13 rfl (lv_at hl 0 rfl) ?_
    refine x_get cx hW kc_0 fk_X7_10 (v := .ref (g_ad G 2)) rfl dX7_undo_14 ?_
    refine lv_aload_n hx hb dX7_undo_17 rfl (lv_at hl 0 rfl) ?_
    refine x_get cx hW kc_0 fk_X7_16 (v := .ref (g_ad G 13)) rfl dX7_undo_18 ?_
    obtain ⟨M3, hc2, hF⟩ := bi_e hF
    refine x_gov (x_runV cx hW hS (c_X4_become (l := l) (G := G) kc_2 kc_13 hc2) cv_X7_162 kc_2 rfl (rest := []) ⟨Nat.le_of_ble_eq_true rfl, Nat.le_of_ble_eq_true rfl⟩ hl.1 rfl rfl (Nat.le_of_ble_eq_true rfl) ⟨Nat.zero_le _, Nat.zero_le _⟩ dX7_undo_21) hS (fun H locs hW hS => ?_)
    refine lv_aload_n hx hb dX7_undo_24 rfl (lv_at hl 0 rfl) ?_
    refine x_get cx hW kc_0 fk_X7_10 (v := .ref (g_ad G 2)) rfl dX7_undo_25 ?_
    refine x_get cx hW kc_2 fk_X7_117 (v := .int (m_I M3 2 2)) rfl dX7_undo_28 ?_
    exact x_iret cx hr hW hS (sp_1 hF) (sp_2 hF) dX7_undo_31
  · have hF := it_p c1 hF
    refine lv_aload_n hx hb dX7_undo_7 rfl (lv_at hl 0 rfl) ?_
    refine lv_iconst (v := (3 : Int32)) hx hb dX7_undo_8 (by decide) ?_
    obtain ⟨r5, M6, hc4, hF⟩ := bn_e hF
    refine x_goi (x_runV cx hW hS (c_X7_finding (l := l) (G := G) hc4) cv_X7_56 kc_0 rfl (rest := []) ⟨Nat.le_of_ble_eq_true rfl, Nat.le_of_ble_eq_true rfl⟩ hl.1 rfl rfl (Nat.le_of_ble_eq_true rfl) ⟨Nat.zero_le _, Nat.zero_le _⟩ dX7_undo_9) hS (fun H locs hW hS => ?_)
    exact x_iret cx hr hW hS (sp_1 hF) (sp_2 hF) dX7_undo_12
def F_X7_tear (M : Mem) : Option (Int32 × Mem) := (if (m_I M 0 8) = 0 then pin (w_I M 0 8 (0 : Int32)) (fun M2 => some ((0 : Int32), M2)) else pin (w_I M 0 8 (0 : Int32)) (fun M3 => some ((1 : Int32), M3)))
set_option maxHeartbeats 4000000 in
set_option maxRecDepth 100000 in
theorem c_X7_tear {l : Launch} {G : GG}   {M : Mem} {r : Int32} {M1 : Mem} (hF : F_X7_tear M = some (r, M1)) : Met l yX7_tear (wz yX7_tear cX7_tear 2 (some .int)) (RM 0 0) (PreC G [.ref (g_ad G 0)] M) (QcI G r M1) 0 0 (g_A G) := by
  rw [F_X7_tear] at hF
  refine x_start (by decide) (Nat.le_of_ble_eq_true rfl) (lv := [(0, .ref (g_ad G 0))]) rfl ?_
  intro p e s m below meth c cx hr hW hS ls hl
  obtain ⟨hx, hb, hml, hown, hts, hKK, hSS, hlk⟩ := id cx
  refine lv_aload_n hx hb dX7_tear_0 rfl (lv_at hl 0 rfl) ?_
  refine x_get cx hW kc_0 fk_X7_251 (v := .int (m_I M 0 8)) rfl dX7_tear_1 ?_
  refine lv_if_eq (tgt := 11) hx hb dX7_tear_4 (by decide) (fun c1 => ?_) (fun c1 => ?_)
  · have hF := it_p c1 hF
    refine lv_iconst (v := (0 : Int32)) hx hb dX7_tear_11 (by decide) ?_
    refine lv_istore_n (lv' := [(1, .int (0 : Int32)), (0, .ref (g_ad G 0))]) hx hb dX7_tear_12 rfl hl (by decide) rfl (fun ls hl => ?_)
    refine lv_aload_n hx hb dX7_tear_13 rfl (lv_at hl 1 rfl) ?_
    refine lv_iconst (v := (0 : Int32)) hx hb dX7_tear_14 (by decide) ?_
    obtain ⟨M2, eM2, hF⟩ := pin_e hF
    refine x_putz cx hW hS kc_0 fk_X7_251 ft_5_8 (by decide) (Nat.le_of_ble_eq_true rfl) fs_5_8 eM2 dX7_tear_15 (fun H locs hW hS => ?_)
    refine lv_iload_n hx hb dX7_tear_18 rfl (lv_at hl 0 rfl) ?_
    exact x_iret cx hr hW hS (sp_1 hF) (sp_2 hF) dX7_tear_19
  · have hF := it_n c1 hF
    refine lv_iconst (v := (1 : Int32)) hx hb dX7_tear_7 (by decide) ?_
    refine lv_goto (tgt := 12) hx hb dX7_tear_8 (by decide) ?_
    refine lv_istore_n (lv' := [(1, .int (1 : Int32)), (0, .ref (g_ad G 0))]) hx hb dX7_tear_12 rfl hl (by decide) rfl (fun ls hl => ?_)
    refine lv_aload_n hx hb dX7_tear_13 rfl (lv_at hl 1 rfl) ?_
    refine lv_iconst (v := (0 : Int32)) hx hb dX7_tear_14 (by decide) ?_
    obtain ⟨M3, eM3, hF⟩ := pin_e hF
    refine x_putz cx hW hS kc_0 fk_X7_251 ft_5_8 (by decide) (Nat.le_of_ble_eq_true rfl) fs_5_8 eM3 dX7_tear_15 (fun H locs hW hS => ?_)
    refine lv_iload_n hx hb dX7_tear_18 rfl (lv_at hl 0 rfl) ?_
    exact x_iret cx hr hW hS (sp_1 hF) (sp_2 hF) dX7_tear_19
def F_X7_count (a1 : Int32) (M : Mem) : Option (Int32 × Mem) := (if a1 = (0 : Int32) then some ((m_I M 2 2), M) else (if a1 = (1 : Int32) then some ((m_I M 37 1), M) else (if a1 = (2 : Int32) then some ((m_I M 2 1), M) else (if a1 = (3 : Int32) then (F_X4_total 2 6 M).bind (fun r6 => some (r6, M)) else bn (F_X7_finding (0 : Int32) M) (fun r8 M9 => some (r8, M9))))))
set_option maxHeartbeats 4000000 in
set_option maxRecDepth 100000 in
theorem c_X7_count {l : Launch} {G : GG} {a1 : Int32}  {M : Mem} {r : Int32} {M1 : Mem} (hF : F_X7_count a1 M = some (r, M1)) : Met l yX7_count (wz yX7_count cX7_count 2 (some .int)) (RM 1 23) (PreC G [.ref (g_ad G 0), .int a1] M) (QcI G r M1) 0 0 (g_A G) := by
  rw [F_X7_count] at hF
  refine x_start (by decide) (Nat.le_of_ble_eq_true rfl) (lv := [(0, .ref (g_ad G 0)), (1, .int a1)]) rfl ?_
  intro p e s m below meth c cx hr hW hS ls hl
  obtain ⟨hx, hb, hml, hown, hts, hKK, hSS, hlk⟩ := id cx
  refine lv_iload_n hx hb dX7_count_0 rfl (lv_at hl 1 rfl) ?_
  refine x_sw (0 : Int32) (fun c1 => ?_) (fun c1 => ?_)
  · have hF := it_p c1 hF
    refine x_tab (tgt := 32) cx dX7_count_1 c1 (by decide) (by decide) rfl (by decide) ?_
    refine lv_aload_n hx hb dX7_count_32 rfl (lv_at hl 0 rfl) ?_
    refine x_get cx hW kc_0 fk_X7_10 (v := .ref (g_ad G 2)) rfl dX7_count_33 ?_
    refine x_get cx hW kc_2 fk_X7_117 (v := .int (m_I M 2 2)) rfl dX7_count_36 ?_
    exact x_iret cx hr hW hS (sp_1 hF) (sp_2 hF) dX7_count_39
  · have hF := it_n c1 hF
    refine x_sw (1 : Int32) (fun c2 => ?_) (fun c2 => ?_)
    · have hF := it_p c2 hF
      refine x_tab (tgt := 40) cx dX7_count_1 c2 (by decide) (by decide) rfl (by decide) ?_
      refine lv_aload_n hx hb dX7_count_40 rfl (lv_at hl 0 rfl) ?_
      refine x_get cx hW kc_0 fk_X7_40 (v := .ref (g_ad G 37)) rfl dX7_count_41 ?_
      refine x_get cx hW kc_37 fk_X7_205 (v := .int (m_I M 37 1)) rfl dX7_count_44 ?_
      exact x_iret cx hr hW hS (sp_1 hF) (sp_2 hF) dX7_count_47
    · have hF := it_n c2 hF
      refine x_sw (2 : Int32) (fun c3 => ?_) (fun c3 => ?_)
      · have hF := it_p c3 hF
        refine x_tab (tgt := 48) cx dX7_count_1 c3 (by decide) (by decide) rfl (by decide) ?_
        refine lv_aload_n hx hb dX7_count_48 rfl (lv_at hl 0 rfl) ?_
        refine x_get cx hW kc_0 fk_X7_10 (v := .ref (g_ad G 2)) rfl dX7_count_49 ?_
        refine x_get cx hW kc_2 fk_X7_127 (v := .int (m_I M 2 1)) rfl dX7_count_52 ?_
        exact x_iret cx hr hW hS (sp_1 hF) (sp_2 hF) dX7_count_55
      · have hF := it_n c3 hF
        refine x_sw (3 : Int32) (fun c4 => ?_) (fun c4 => ?_)
        · have hF := it_p c4 hF
          refine x_tab (tgt := 56) cx dX7_count_1 c4 (by decide) (by decide) rfl (by decide) ?_
          refine lv_aload_n hx hb dX7_count_56 rfl (lv_at hl 0 rfl) ?_
          refine x_get cx hW kc_0 fk_X7_10 (v := .ref (g_ad G 2)) rfl dX7_count_57 ?_
          refine lv_aload_n hx hb dX7_count_60 rfl (lv_at hl 0 rfl) ?_
          refine x_get cx hW kc_0 fk_X7_10 (v := .ref (g_ad G 2)) rfl dX7_count_61 ?_
          refine x_get cx hW kc_2 fk_X7_79 (v := .ref (g_ad G 6)) rfl dX7_count_64 ?_
          obtain ⟨r6, hc5, hF⟩ := bi_e hF
          refine x_goi (x_runV cx hW hS (c_X4_total (l := l) (G := G) kc_2 kc_6 hc5) cv_X7_137 kc_2 rfl (rest := []) ⟨Nat.le_of_ble_eq_true rfl, Nat.le_of_ble_eq_true rfl⟩ hl.1 rfl rfl (Nat.le_of_ble_eq_true rfl) ⟨Nat.zero_le _, Nat.zero_le _⟩ dX7_count_67) hS (fun H locs hW hS => ?_)
          exact x_iret cx hr hW hS (sp_1 hF) (sp_2 hF) dX7_count_70
        · have hF := it_n c4 hF
          refine lv_tableOut (tgt := 71) hx hb dX7_count_1 (by have z0 := lv_neT c1 (a := 0) (by decide); have z1 := lv_neT c2 (a := 1) (by decide); have z2 := lv_neT c3 (a := 2) (by decide); have z3 := lv_neT c4 (a := 3) (by decide); omega) (by decide) ?_
          refine lv_aload_n hx hb dX7_count_71 rfl (lv_at hl 0 rfl) ?_
          refine lv_iconst (v := (0 : Int32)) hx hb dX7_count_72 (by decide) ?_
          obtain ⟨r8, M9, hc7, hF⟩ := bn_e hF
          refine x_goi (x_runV cx hW hS (c_X7_finding (l := l) (G := G) hc7) cv_X7_56 kc_0 rfl (rest := []) ⟨Nat.le_of_ble_eq_true rfl, Nat.le_of_ble_eq_true rfl⟩ hl.1 rfl rfl (Nat.le_of_ble_eq_true rfl) ⟨Nat.zero_le _, Nat.zero_le _⟩ dX7_count_73) hS (fun H locs hW hS => ?_)
          exact x_iret cx hr hW hS (sp_1 hF) (sp_2 hF) dX7_count_76
def F_X7_status_32 (a1 : Int32) : Nat → Int32 → Int32 → Mem → Option (Int32 × Mem)
  | 0, _, _, _ => none
  | n + 1, x2, x3, M => (if (7 : Int32) ≤ x3 then some (x2, M) else ix 7 x3 (fun j8 => F_X7_status_32 a1 n (x2 + (m_I M 1 j8)) (x3 + 1) M))
set_option maxHeartbeats 4000000 in
set_option maxRecDepth 100000 in
theorem t_X7_status_32 {p : Program} {l : Launch} {e : Env} {s : State} {m : MethodId} {args : Array Value} {below : List Frame} {meth : Method} {c : Code} {G : GG} {a1 : Int32} (cx : Cx G cX7_status RX7 4 p s m args meth c) (hr : meth.sig.returnType = (some .int))   {r : Int32} {M1 : Mem} : ∀ (n : Nat) (x2 : Int32) (x3 : Int32) (M : Mem), F_X7_status_32 a1 n x2 x3 M = some (r, M1) → ∀ (H : Heap) (locs : List Loc) (ls : Array Slot), WH G M H → va_S (g_A G) s.heap H locs → lv_has ls 4 [(0, .ref (g_ad G 0)), (2, .int x2), (3, .int x3)] → W p l e (RM 1 21) s m args below meth c H locs 0 0 (MQ below (QcI G r M1) args s 0 0 (g_A G)) (F0 m 32 ls []) := by
  obtain ⟨hx, hb, hml, hown, hts, hKK, hSS, hlk⟩ := id cx
  intro n
  induction n with
  | zero =>
    intro x2 x3 M hF H locs ls hW hS hl
    rw [F_X7_status_32] at hF
    cases hF
  | succ n ih =>
    intro x2 x3 M hF H locs ls hW hS hl
    rw [F_X7_status_32] at hF
    refine lv_iload_n hx hb dX7_status_32 rfl (lv_at hl 2 rfl) ?_
    refine lv_bipush (v := (7 : Int32)) hx hb dX7_status_33 (by decide) ?_
    refine lv_icmp_ge (tgt := 53) hx hb dX7_status_35 (by decide) (fun c7 => ?_) (fun c7 => ?_)
    · have hF := it_p c7 hF
      refine lv_iload_n hx hb dX7_status_53 rfl (lv_at hl 1 rfl) ?_
      exact x_iret cx hr hW hS (sp_1 hF) (sp_2 hF) dX7_status_54
    · have hF := it_n c7 hF
      refine lv_iload_n hx hb dX7_status_38 rfl (lv_at hl 1 rfl) ?_
      refine lv_aload_n hx hb dX7_status_39 rfl (lv_at hl 0 rfl) ?_
      refine x_get cx hW kc_0 fk_X7_47 (v := .ref (g_ad G 1)) rfl dX7_status_40 ?_
      refine lv_iload_n hx hb dX7_status_43 rfl (lv_at hl 2 rfl) ?_
      obtain ⟨j8, hj8, gj8, hF⟩ := ix_e hF
      refine x_iald cx hW kc_1 (by decide) hj8 gj8 dX7_status_44 ?_
      refine lv_iadd hx hb dX7_status_45 ?_
      refine lv_istore_n (lv' := [(2, .int (x2 + (m_I M 1 j8))), (0, .ref (g_ad G 0)), (3, .int x3)]) hx hb dX7_status_46 rfl hl (by decide) rfl (fun ls hl => ?_)
      refine lv_iinc (v := (x3 + 1)) (lv' := [(3, .int (x3 + 1)), (2, .int (x2 + (m_I M 1 j8))), (0, .ref (g_ad G 0))]) hx hb dX7_status_47 hl (k := 2) rfl rfl (by decide) rfl (fun ls hl => ?_)
      refine lv_goto (tgt := 32) hx hb dX7_status_50 (by decide) ?_
      exact ih (x2 + (m_I M 1 j8)) (x3 + 1) M hF _ _ _ hW hS (lv_sub hl [2, 1, 0] rfl)
def F_X7_status (a1 : Int32) (M : Mem) : Option (Int32 × Mem) := (if a1 < (-1 : Int32) then bn (F_X7_finding (0 : Int32) M) (fun r3 M4 => some (r3, M4)) else (if a1 < (7 : Int32) then (if a1 < 0 then F_X7_status_32 a1 FU (0 : Int32) (0 : Int32) M else ix 7 a1 (fun j9 => some ((m_I M 1 j9), M))) else bn (F_X7_finding (0 : Int32) M) (fun r11 M12 => some (r11, M12))))
set_option maxHeartbeats 4000000 in
set_option maxRecDepth 100000 in
theorem c_X7_status {l : Launch} {G : GG} {a1 : Int32}  {M : Mem} {r : Int32} {M1 : Mem} (hF : F_X7_status a1 M = some (r, M1)) : Met l yX7_status (wz yX7_status cX7_status 4 (some .int)) (RM 1 21) (PreC G [.ref (g_ad G 0), .int a1] M) (QcI G r M1) 0 0 (g_A G) := by
  rw [F_X7_status] at hF
  refine x_start (by decide) (Nat.le_of_ble_eq_true rfl) (lv := [(0, .ref (g_ad G 0)), (1, .int a1)]) rfl ?_
  intro p e s m below meth c cx hr hW hS ls hl
  obtain ⟨hx, hb, hml, hown, hts, hKK, hSS, hlk⟩ := id cx
  refine lv_iload_n hx hb dX7_status_0 rfl (lv_at hl 1 rfl) ?_
  refine lv_iconst (v := (-1 : Int32)) hx hb dX7_status_1 (by decide) ?_
  refine lv_icmp_lt (tgt := 11) hx hb dX7_status_2 (by decide) (fun c1 => ?_) (fun c1 => ?_)
  · have hF := it_p c1 hF
    refine lv_aload_n hx hb dX7_status_11 rfl (lv_at hl 0 rfl) ?_
    refine lv_iconst (v := (0 : Int32)) hx hb dX7_status_12 (by decide) ?_
    obtain ⟨r3, M4, hc2, hF⟩ := bn_e hF
    refine x_goi (x_runV cx hW hS (c_X7_finding (l := l) (G := G) hc2) cv_X7_56 kc_0 rfl (rest := []) ⟨Nat.le_of_ble_eq_true rfl, Nat.le_of_ble_eq_true rfl⟩ hl.1 rfl rfl (Nat.le_of_ble_eq_true rfl) ⟨Nat.zero_le _, Nat.zero_le _⟩ dX7_status_13) hS (fun H locs hW hS => ?_)
    exact x_iret cx hr hW hS (sp_1 hF) (sp_2 hF) dX7_status_16
  · have hF := it_n c1 hF
    refine lv_iload_n hx hb dX7_status_5 rfl (lv_at hl 1 rfl) ?_
    refine lv_bipush (v := (7 : Int32)) hx hb dX7_status_6 (by decide) ?_
    refine lv_icmp_lt (tgt := 17) hx hb dX7_status_8 (by decide) (fun c5 => ?_) (fun c5 => ?_)
    · have hF := it_p c5 hF
      refine lv_iload_n hx hb dX7_status_17 rfl (lv_at hl 1 rfl) ?_
      refine lv_if_lt (tgt := 28) hx hb dX7_status_18 (by decide) (fun c6 => ?_) (fun c6 => ?_)
      · have hF := it_p c6 hF
        refine lv_iconst (v := (0 : Int32)) hx hb dX7_status_28 (by decide) ?_
        refine lv_istore_n (lv' := [(2, .int (0 : Int32)), (0, .ref (g_ad G 0)), (1, .int a1)]) hx hb dX7_status_29 rfl hl (by decide) rfl (fun ls hl => ?_)
        refine lv_iconst (v := (0 : Int32)) hx hb dX7_status_30 (by decide) ?_
        refine lv_istore_n (lv' := [(3, .int (0 : Int32)), (2, .int (0 : Int32)), (0, .ref (g_ad G 0)), (1, .int a1)]) hx hb dX7_status_31 rfl hl (by decide) rfl (fun ls hl => ?_)
        exact t_X7_status_32 cx hr FU (0 : Int32) (0 : Int32) M hF _ _ _ hW hS (lv_sub hl [2, 1, 0] rfl)
      · have hF := it_n c6 hF
        refine lv_aload_n hx hb dX7_status_21 rfl (lv_at hl 0 rfl) ?_
        refine x_get cx hW kc_0 fk_X7_47 (v := .ref (g_ad G 1)) rfl dX7_status_22 ?_
        refine lv_iload_n hx hb dX7_status_25 rfl (lv_at hl 1 rfl) ?_
        obtain ⟨j9, hj9, gj9, hF⟩ := ix_e hF
        refine x_iald cx hW kc_1 (by decide) hj9 gj9 dX7_status_26 ?_
        exact x_iret cx hr hW hS (sp_1 hF) (sp_2 hF) dX7_status_27
    · have hF := it_n c5 hF
      refine lv_aload_n hx hb dX7_status_11 rfl (lv_at hl 0 rfl) ?_
      refine lv_iconst (v := (0 : Int32)) hx hb dX7_status_12 (by decide) ?_
      obtain ⟨r11, M12, hc10, hF⟩ := bn_e hF
      refine x_goi (x_runV cx hW hS (c_X7_finding (l := l) (G := G) hc10) cv_X7_56 kc_0 rfl (rest := []) ⟨Nat.le_of_ble_eq_true rfl, Nat.le_of_ble_eq_true rfl⟩ hl.1 rfl rfl (Nat.le_of_ble_eq_true rfl) ⟨Nat.zero_le _, Nat.zero_le _⟩ dX7_status_13) hS (fun H locs hW hS => ?_)
      exact x_iret cx hr hW hS (sp_1 hF) (sp_2 hF) dX7_status_16
