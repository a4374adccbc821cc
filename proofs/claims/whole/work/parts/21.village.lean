def F_X4_isChild (a0 : Nat) (a1 : Int32) (M : Mem) : Option Int32 := ix 8 a1 (fun j1 => (if (m_I M (a0 + 1) j1) = (3 : Int32) then some (1 : Int32) else some (0 : Int32)))
set_option maxHeartbeats 4000000 in
set_option maxRecDepth 100000 in
theorem c_X4_isChild {l : Launch} {G : GG} {a0 : Nat} {a1 : Int32} (h0 : kd a0 = 3) {M : Mem} {r : Int32} (hF : F_X4_isChild a0 a1 M = some r) : Met l yX4_isChild (wz yX4_isChild cX4_isChild 2 (some .boolean)) (RM 0 0) (PreC G [.ref (g_ad G a0), .int a1] M) (QcI G r M) 0 0 (g_A G) := by
  rw [F_X4_isChild] at hF
  refine x_start (by decide) (Nat.le_of_ble_eq_true rfl) (lv := [(0, .ref (g_ad G a0)), (1, .int a1)]) rfl ?_
  intro p e s m below meth c cx hr hW hS ls hl
  obtain ⟨hx, hb, hml, hown, hts, hKK, hSS, hlk⟩ := id cx
  refine lv_aload_n hx hb dX4_isChild_0 rfl (lv_at hl 0 rfl) ?_
  refine x_get cx hW h0 fk_X4_15 (v := .ref (g_ad G (a0 + 1))) rfl dX4_isChild_1 ?_
  refine lv_iload_n hx hb dX4_isChild_4 rfl (lv_at hl 1 rfl) ?_
  obtain ⟨j1, hj1, gj1, hF⟩ := ix_e hF
  refine x_iald cx hW (kd_v h0 (j := 1) (by decide) (by decide)) (by decide) hj1 gj1 dX4_isChild_5 ?_
  refine lv_iconst (v := (3 : Int32)) hx hb dX4_isChild_6 (by decide) ?_
  refine lv_icmp_ne (tgt := 14) hx hb dX4_isChild_7 (by decide) (fun c2 => ?_) (fun c2 => ?_)
  · have hF := it_n c2 hF
    refine lv_iconst (v := (0 : Int32)) hx hb dX4_isChild_14 (by decide) ?_
    exact x_zret cx hr (by decide) hW hS (Option.some.inj hF) rfl dX4_isChild_15
  · have hF := it_p c2 hF
    refine lv_iconst (v := (1 : Int32)) hx hb dX4_isChild_10 (by decide) ?_
    refine lv_goto (tgt := 15) hx hb dX4_isChild_11 (by decide) ?_
    exact x_zret cx hr (by decide) hW hS (Option.some.inj hF) rfl dX4_isChild_15
def F_X4_areAlike (a0 : Nat) (a1 : Int32) (a2 : Int32) (M : Mem) : Option Int32 := (F_X4_isChild a0 a1 M).bind (fun r2 => (F_X4_isChild a0 a2 M).bind (fun r4 => (if r2 = r4 then some (1 : Int32) else some (0 : Int32))))
set_option maxHeartbeats 4000000 in
set_option maxRecDepth 100000 in
theorem c_X4_areAlike {l : Launch} {G : GG} {a0 : Nat} {a1 : Int32} {a2 : Int32} (h0 : kd a0 = 3) {M : Mem} {r : Int32} (hF : F_X4_areAlike a0 a1 a2 M = some r) : Met l yX4_areAlike (wz yX4_areAlike cX4_areAlike 3 (some .boolean)) (RM 1 21) (PreC G [.ref (g_ad G a0), .int a1, .int a2] M) (QcI G r M) 0 0 (g_A G) := by
  rw [F_X4_areAlike] at hF
  refine x_start (by decide) (Nat.le_of_ble_eq_true rfl) (lv := [(0, .ref (g_ad G a0)), (1, .int a1), (2, .int a2)]) rfl ?_
  intro p e s m below meth c cx hr hW hS ls hl
  obtain ⟨hx, hb, hml, hown, hts, hKK, hSS, hlk⟩ := id cx
  refine lv_aload_n hx hb dX4_areAlike_0 rfl (lv_at hl 0 rfl) ?_
  refine lv_iload_n hx hb dX4_areAlike_1 rfl (lv_at hl 1 rfl) ?_
  obtain ⟨r2, hc1, hF⟩ := bi_e hF
  refine x_goi (x_runV cx hW hS (c_X4_isChild (l := l) (G := G) h0 hc1) cv_X4_58 h0 rfl (rest := []) ⟨Nat.le_of_ble_eq_true rfl, Nat.le_of_ble_eq_true rfl⟩ hl.1 rfl rfl (Nat.le_of_ble_eq_true rfl) ⟨Nat.zero_le _, Nat.zero_le _⟩ dX4_areAlike_2) hS (fun H locs hW hS => ?_)
  refine lv_aload_n hx hb dX4_areAlike_5 rfl (lv_at hl 0 rfl) ?_
  refine lv_iload_n hx hb dX4_areAlike_6 rfl (lv_at hl 2 rfl) ?_
  obtain ⟨r4, hc3, hF⟩ := bi_e hF
  refine x_goi (x_runV cx hW hS (c_X4_isChild (l := l) (G := G) h0 hc3) cv_X4_58 h0 rfl (rest := [.int r2]) ⟨Nat.le_of_ble_eq_true rfl, Nat.le_of_ble_eq_true rfl⟩ hl.1 rfl rfl (Nat.le_of_ble_eq_true rfl) ⟨Nat.zero_le _, Nat.zero_le _⟩ dX4_areAlike_7) hS (fun H locs hW hS => ?_)
  refine lv_icmp_ne (tgt := 17) hx hb dX4_areAlike_10 (by decide) (fun c5 => ?_) (fun c5 => ?_)
  · have hF := it_n c5 hF
    refine lv_iconst (v := (0 : Int32)) hx hb dX4_areAlike_17 (by decide) ?_
    exact x_zret cx hr (by decide) hW hS (Option.some.inj hF) rfl dX4_areAlike_18
  · have hF := it_p c5 hF
    refine lv_iconst (v := (1 : Int32)) hx hb dX4_areAlike_13 (by decide) ?_
    refine lv_goto (tgt := 18) hx hb dX4_areAlike_14 (by decide) ?_
    exact x_zret cx hr (by decide) hW hS (Option.some.inj hF) rfl dX4_areAlike_18
def F_X4_earningAs (a0 : Nat) (a1 : Int32) (a2 : Int32) (a3 : Int32) (M : Mem) : Option Int32 := (if a2 = a3 then some (0 : Int32) else ix 8 a2 (fun j2 => ix 8 a3 (fun j3 => ix 8 a2 (fun j4 => ix 8 a2 (fun j5 => (F_X6_earned a1 (m_I M (a0 + 2) j2) (m_I M (a0 + 2) j3) (m_I M (a0 + 4) j4) (m_I M (a0 + 5) j5) M).bind (fun r7 => some r7))))))
set_option maxHeartbeats 4000000 in
set_option maxRecDepth 100000 in
theorem c_X4_earningAs {l : Launch} {G : GG} {a0 : Nat} {a1 : Int32} {a2 : Int32} {a3 : Int32} (h0 : kd a0 = 3) {M : Mem} {r : Int32} (hF : F_X4_earningAs a0 a1 a2 a3 M = some r) : Met l yX4_earningAs (wz yX4_earningAs cX4_earningAs 4 (some .int)) (RM 2 48) (PreC G [.ref (g_ad G a0), .int a1, .int a2, .int a3] M) (QcI G r M) 0 0 (g_A G) := by
  rw [F_X4_earningAs] at hF
  refine x_start (by decide) (Nat.le_of_ble_eq_true rfl) (lv := [(0, .ref (g_ad G a0)), (1, .int a1), (2, .int a2), (3, .int a3)]) rfl ?_
  intro p e s m below meth c cx hr hW hS ls hl
  obtain ⟨hx, hb, hml, hown, hts, hKK, hSS, hlk⟩ := id cx
  refine lv_iload_n hx hb dX4_earningAs_0 rfl (lv_at hl 2 rfl) ?_
  refine lv_iload_n hx hb dX4_earningAs_1 rfl (lv_at hl 3 rfl) ?_
  refine lv_icmp_ne (tgt := 9) hx hb dX4_earningAs_2 (by decide) (fun c1 => ?_) (fun c1 => ?_)
  · have hF := it_n c1 hF
    refine lv_iload_n hx hb dX4_earningAs_9 rfl (lv_at hl 1 rfl) ?_
    refine lv_aload_n hx hb dX4_earningAs_10 rfl (lv_at hl 0 rfl) ?_
    refine x_get cx hW h0 fk_X4_19 (v := .ref (g_ad G (a0 + 2))) rfl dX4_earningAs_11 ?_
    refine lv_iload_n hx hb dX4_earningAs_14 rfl (lv_at hl 2 rfl) ?_
    obtain ⟨j2, hj2, gj2, hF⟩ := ix_e hF
    refine x_iald cx hW (kd_v h0 (j := 2) (by decide) (by decide)) (by decide) hj2 gj2 dX4_earningAs_15 ?_
    refine lv_aload_n hx hb dX4_earningAs_16 rfl (lv_at hl 0 rfl) ?_
    refine x_get cx hW h0 fk_X4_19 (v := .ref (g_ad G (a0 + 2))) rfl dX4_earningAs_17 ?_
    refine lv_iload_n hx hb dX4_earningAs_20 rfl (lv_at hl 3 rfl) ?_
    obtain ⟨j3, hj3, gj3, hF⟩ := ix_e hF
    refine x_iald cx hW (kd_v h0 (j := 2) (by decide) (by decide)) (by decide) hj3 gj3 dX4_earningAs_21 ?_
    refine lv_aload_n hx hb dX4_earningAs_22 rfl (lv_at hl 0 rfl) ?_
    refine x_get cx hW h0 fk_X4_25 (v := .ref (g_ad G (a0 + 4))) rfl dX4_earningAs_23 ?_
    refine lv_iload_n hx hb dX4_earningAs_26 rfl (lv_at hl 2 rfl) ?_
    obtain ⟨j4, hj4, gj4, hF⟩ := ix_e hF
    refine x_iald cx hW (kd_v h0 (j := 4) (by decide) (by decide)) (by decide) hj4 gj4 dX4_earningAs_27 ?_
    refine lv_aload_n hx hb dX4_earningAs_28 rfl (lv_at hl 0 rfl) ?_
    refine x_get cx hW h0 fk_X4_28 (v := .ref (g_ad G (a0 + 5))) rfl dX4_earningAs_29 ?_
    refine lv_iload_n hx hb dX4_earningAs_32 rfl (lv_at hl 2 rfl) ?_
    obtain ⟨j5, hj5, gj5, hF⟩ := ix_e hF
    refine x_iald cx hW (kd_v h0 (j := 5) (by decide) (by decide)) (by decide) hj5 gj5 dX4_earningAs_33 ?_
    obtain ⟨r7, hc6, hF⟩ := bi_e hF
    refine x_goi (x_runS cx hW hS (c_X6_earned (l := l) (G := G) hc6) cs_X4_66 (rest := []) ⟨Nat.le_of_ble_eq_true rfl, Nat.le_of_ble_eq_true rfl⟩ hl.1 rfl rfl (Nat.le_of_ble_eq_true rfl) ⟨Nat.zero_le _, Nat.zero_le _⟩ dX4_earningAs_34) hS (fun H locs hW hS => ?_)
    exact x_iret cx hr hW hS (Option.some.inj hF) rfl dX4_earningAs_37
  · have hF := it_p c1 hF
    refine lv_iconst (v := (0 : Int32)) hx hb dX4_earningAs_5 (by decide) ?_
    refine lv_goto (tgt := 37) hx hb dX4_earningAs_6 (by decide) ?_
    exact x_iret cx hr hW hS (Option.some.inj hF) rfl dX4_earningAs_37
def F_X4_earning (a0 : Nat) (a1 : Int32) (a2 : Int32) (M : Mem) : Option Int32 := ix 8 a1 (fun j1 => (F_X4_earningAs a0 (m_I M (a0 + 1) j1) a1 a2 M).bind (fun r3 => some r3))
set_option maxHeartbeats 4000000 in
set_option maxRecDepth 100000 in
theorem c_X4_earning {l : Launch} {G : GG} {a0 : Nat} {a1 : Int32} {a2 : Int32} (h0 : kd a0 = 3) {M : Mem} {r : Int32} (hF : F_X4_earning a0 a1 a2 M = some r) : Met l yX4_earning (wz yX4_earning cX4_earning 3 (some .int)) (RM 3 71) (PreC G [.ref (g_ad G a0), .int a1, .int a2] M) (QcI G r M) 0 0 (g_A G) := by
  rw [F_X4_earning] at hF
  refine x_start (by decide) (Nat.le_of_ble_eq_true rfl) (lv := [(0, .ref (g_ad G a0)), (1, .int a1), (2, .int a2)]) rfl ?_
  intro p e s m below meth c cx hr hW hS ls hl
  obtain ⟨hx, hb, hml, hown, hts, hKK, hSS, hlk⟩ := id cx
  refine lv_aload_n hx hb dX4_earning_0 rfl (lv_at hl 0 rfl) ?_
  refine lv_aload_n hx hb dX4_earning_1 rfl (lv_at hl 0 rfl) ?_
  refine x_get cx hW h0 fk_X4_15 (v := .ref (g_ad G (a0 + 1))) rfl dX4_earning_2 ?_
  refine lv_iload_n hx hb dX4_earning_5 rfl (lv_at hl 1 rfl) ?_
  obtain ⟨j1, hj1, gj1, hF⟩ := ix_e hF
  refine x_iald cx hW (kd_v h0 (j := 1) (by decide) (by decide)) (by decide) hj1 gj1 dX4_earning_6 ?_
  refine lv_iload_n hx hb dX4_earning_7 rfl (lv_at hl 1 rfl) ?_
  refine lv_iload_n hx hb dX4_earning_8 rfl (lv_at hl 2 rfl) ?_
  obtain ⟨r3, hc2, hF⟩ := bi_e hF
  refine x_goi (x_runV cx hW hS (c_X4_earningAs (l := l) (G := G) h0 hc2) cv_X4_62 h0 rfl (rest := []) ⟨Nat.le_of_ble_eq_true rfl, Nat.le_of_ble_eq_true rfl⟩ hl.1 rfl rfl (Nat.le_of_ble_eq_true rfl) ⟨Nat.zero_le _, Nat.zero_le _⟩ dX4_earning_9) hS (fun H locs hW hS => ?_)
  exact x_iret cx hr hW hS (Option.some.inj hF) rfl dX4_earning_12
def F_X4_become (a0 : Nat) (a1 : Nat) (M : Mem) : Option Mem := pin (w_I M a0 0 (m_I M a1 0)) (fun M1 => pin (w_I M1 a0 1 (m_I M1 a1 1)) (fun M2 => pin (w_I M2 a0 2 (m_I M2 a1 2)) (fun M3 => cp 8 8 (0 : Int32) (0 : Int32) (8 : Int32) (fun i4 j5 z6 => pin (y_I M3 (a1 + 1) i4 (a0 + 1) j5 z6) (fun M9 => cp 8 8 (0 : Int32) (0 : Int32) (8 : Int32) (fun i10 j11 z12 => pin (y_I M9 (a1 + 2) i10 (a0 + 2) j11 z12) (fun M15 => cp 8 8 (0 : Int32) (0 : Int32) (8 : Int32) (fun i16 j17 z18 => pin (y_I M15 (a1 + 3) i16 (a0 + 3) j17 z18) (fun M21 => cp 8 8 (0 : Int32) (0 : Int32) (8 : Int32) (fun i22 j23 z24 => pin (y_I M21 (a1 + 4) i22 (a0 + 4) j23 z24) (fun M27 => cp 8 8 (0 : Int32) (0 : Int32) (8 : Int32) (fun i28 j29 z30 => pin (y_I M27 (a1 + 5) i28 (a0 + 5) j29 z30) (fun M33 => cp 8 8 (0 : Int32) (0 : Int32) (8 : Int32) (fun i34 j35 z36 => pin (y_I M33 (a1 + 6) i34 (a0 + 6) j35 z36) (fun M39 => some M39)))))))))))))))
set_option maxHeartbeats 4000000 in
set_option maxRecDepth 100000 in
theorem c_X4_become {l : Launch} {G : GG} {a0 : Nat} {a1 : Nat} (h0 : kd a0 = 3) (h1 : kd a1 = 3) {M : Mem} {M1 : Mem} (hF : F_X4_become a0 a1 M = some M1) : Met l yX4_become (wz yX4_become cX4_become 2 none) (RM 1 26) (PreC G [.ref (g_ad G a0), .ref (g_ad G a1)] M) (QcV G M1) 0 0 (g_A G) := by
  rw [F_X4_become] at hF
  refine x_start (by decide) (Nat.le_of_ble_eq_true rfl) (lv := [(0, .ref (g_ad G a0)), (1, .ref (g_ad G a1))]) rfl ?_
  intro p e s m below meth c cx hr hW hS ls hl
  obtain ⟨hx, hb, hml, hown, hts, hKK, hSS, hlk⟩ := id cx
  refine lv_aload_n hx hb dX4_become_0 rfl (lv_at hl 0 rfl) ?_
  refine lv_aload_n hx hb dX4_become_1 rfl (lv_at hl 1 rfl) ?_
  refine x_get cx hW h1 fk_X4_46 (v := .int (m_I M a1 0)) rfl dX4_become_2 ?_
  obtain ⟨M1, eM1, hF⟩ := pin_e hF
  refine x_puti cx hW hS h0 fk_X4_46 ft_3_0 (Nat.le_of_ble_eq_true rfl) fs_3_0 eM1 dX4_become_5 (fun H locs hW hS => ?_)
  refine lv_aload_n hx hb dX4_become_8 rfl (lv_at hl 0 rfl) ?_
  refine lv_aload_n hx hb dX4_become_9 rfl (lv_at hl 1 rfl) ?_
  refine x_get cx hW h1 fk_X4_9 (v := .int (m_I M1 a1 1)) rfl dX4_become_10 ?_
  obtain ⟨M2, eM2, hF⟩ := pin_e hF
  refine x_puti cx hW hS h0 fk_X4_9 ft_3_1 (Nat.le_of_ble_eq_true rfl) fs_3_1 eM2 dX4_become_13 (fun H locs hW hS => ?_)
  refine lv_aload_n hx hb dX4_become_16 rfl (lv_at hl 0 rfl) ?_
  refine lv_aload_n hx hb dX4_become_17 rfl (lv_at hl 1 rfl) ?_
  refine x_get cx hW h1 fk_X4_49 (v := .int (m_I M2 a1 2)) rfl dX4_become_18 ?_
  obtain ⟨M3, eM3, hF⟩ := pin_e hF
  refine x_puti cx hW hS h0 fk_X4_49 ft_3_2 (Nat.le_of_ble_eq_true rfl) fs_3_2 eM3 dX4_become_21 (fun H locs hW hS => ?_)
  refine lv_aload_n hx hb dX4_become_24 rfl (lv_at hl 1 rfl) ?_
  refine x_get cx hW h1 fk_X4_15 (v := .ref (g_ad G (a1 + 1))) rfl dX4_become_25 ?_
  refine lv_iconst (v := (0 : Int32)) hx hb dX4_become_28 (by decide) ?_
  refine lv_aload_n hx hb dX4_become_29 rfl (lv_at hl 0 rfl) ?_
  refine x_get cx hW h0 fk_X4_15 (v := .ref (g_ad G (a0 + 1))) rfl dX4_become_30 ?_
  refine lv_iconst (v := (0 : Int32)) hx hb dX4_become_33 (by decide) ?_
  refine lv_bipush (v := (8 : Int32)) hx hb dX4_become_34 (by decide) ?_
  obtain ⟨i4, j5, z6, h7, g8, hF⟩ := cp_e hF
  obtain ⟨M9, eM9, hF⟩ := pin_e hF
  refine x_copyi cx ca_X4_52 hl.1 hW hS (kd_v h1 (j := 1) (by decide) (by decide)) (by decide) (kd_v h0 (j := 1) (by decide) (by decide)) (by decide) h7 g8 (Nat.le_of_ble_eq_true rfl) (by decide) eM9 dX4_become_36 (fun H locs hW hS => ?_)
  refine lv_aload_n hx hb dX4_become_39 rfl (lv_at hl 1 rfl) ?_
  refine x_get cx hW h1 fk_X4_19 (v := .ref (g_ad G (a1 + 2))) rfl dX4_become_40 ?_
  refine lv_iconst (v := (0 : Int32)) hx hb dX4_become_43 (by decide) ?_
  refine lv_aload_n hx hb dX4_become_44 rfl (lv_at hl 0 rfl) ?_
  refine x_get cx hW h0 fk_X4_19 (v := .ref (g_ad G (a0 + 2))) rfl dX4_become_45 ?_
  refine lv_iconst (v := (0 : Int32)) hx hb dX4_become_48 (by decide) ?_
  refine lv_bipush (v := (8 : Int32)) hx hb dX4_become_49 (by decide) ?_
  obtain ⟨i10, j11, z12, h13, g14, hF⟩ := cp_e hF
  obtain ⟨M15, eM15, hF⟩ := pin_e hF
  refine x_copyi cx ca_X4_52 hl.1 hW hS (kd_v h1 (j := 2) (by decide) (by decide)) (by decide) (kd_v h0 (j := 2) (by decide) (by decide)) (by decide) h13 g14 (Nat.le_of_ble_eq_true rfl) (by decide) eM15 dX4_become_51 (fun H locs hW hS => ?_)
  refine lv_aload_n hx hb dX4_become_54 rfl (lv_at hl 1 rfl) ?_
  refine x_get cx hW h1 fk_X4_22 (v := .ref (g_ad G (a1 + 3))) rfl dX4_become_55 ?_
  refine lv_iconst (v := (0 : Int32)) hx hb dX4_become_58 (by decide) ?_
  refine lv_aload_n hx hb dX4_become_59 rfl (lv_at hl 0 rfl) ?_
  refine x_get cx hW h0 fk_X4_22 (v := .ref (g_ad G (a0 + 3))) rfl dX4_become_60 ?_
  refine lv_iconst (v := (0 : Int32)) hx hb dX4_become_63 (by decide) ?_
  refine lv_bipush (v := (8 : Int32)) hx hb dX4_become_64 (by decide) ?_
  obtain ⟨i16, j17, z18, h19, g20, hF⟩ := cp_e hF
  obtain ⟨M21, eM21, hF⟩ := pin_e hF
  refine x_copyi cx ca_X4_52 hl.1 hW hS (kd_v h1 (j := 3) (by decide) (by decide)) (by decide) (kd_v h0 (j := 3) (by decide) (by decide)) (by decide) h19 g20 (Nat.le_of_ble_eq_true rfl) (by decide) eM21 dX4_become_66 (fun H locs hW hS => ?_)
  refine lv_aload_n hx hb dX4_become_69 rfl (lv_at hl 1 rfl) ?_
  refine x_get cx hW h1 fk_X4_25 (v := .ref (g_ad G (a1 + 4))) rfl dX4_become_70 ?_
  refine lv_iconst (v := (0 : Int32)) hx hb dX4_become_73 (by decide) ?_
  refine lv_aload_n hx hb dX4_become_74 rfl (lv_at hl 0 rfl) ?_
  refine x_get cx hW h0 fk_X4_25 (v := .ref (g_ad G (a0 + 4))) rfl dX4_become_75 ?_
  refine lv_iconst (v := (0 : Int32)) hx hb dX4_become_78 (by decide) ?_
  refine lv_bipush (v := (8 : Int32)) hx hb dX4_become_79 (by decide) ?_
  obtain ⟨i22, j23, z24, h25, g26, hF⟩ := cp_e hF
  obtain ⟨M27, eM27, hF⟩ := pin_e hF
  refine x_copyi cx ca_X4_52 hl.1 hW hS (kd_v h1 (j := 4) (by decide) (by decide)) (by decide) (kd_v h0 (j := 4) (by decide) (by decide)) (by decide) h25 g26 (Nat.le_of_ble_eq_true rfl) (by decide) eM27 dX4_become_81 (fun H locs hW hS => ?_)
  refine lv_aload_n hx hb dX4_become_84 rfl (lv_at hl 1 rfl) ?_
  refine x_get cx hW h1 fk_X4_28 (v := .ref (g_ad G (a1 + 5))) rfl dX4_become_85 ?_
  refine lv_iconst (v := (0 : Int32)) hx hb dX4_become_88 (by decide) ?_
  refine lv_aload_n hx hb dX4_become_89 rfl (lv_at hl 0 rfl) ?_
  refine x_get cx hW h0 fk_X4_28 (v := .ref (g_ad G (a0 + 5))) rfl dX4_become_90 ?_
  refine lv_iconst (v := (0 : Int32)) hx hb dX4_become_93 (by decide) ?_
  refine lv_bipush (v := (8 : Int32)) hx hb dX4_become_94 (by decide) ?_
  obtain ⟨i28, j29, z30, h31, g32, hF⟩ := cp_e hF
  obtain ⟨M33, eM33, hF⟩ := pin_e hF
  refine x_copyi cx ca_X4_52 hl.1 hW hS (kd_v h1 (j := 5) (by decide) (by decide)) (by decide) (kd_v h0 (j := 5) (by decide) (by decide)) (by decide) h31 g32 (Nat.le_of_ble_eq_true rfl) (by decide) eM33 dX4_become_96 (fun H locs hW hS => ?_)
  refine lv_aload_n hx hb dX4_become_99 rfl (lv_at hl 1 rfl) ?_
  refine x_get cx hW h1 fk_X4_31 (v := .ref (g_ad G (a1 + 6))) rfl dX4_become_100 ?_
  refine lv_iconst (v := (0 : Int32)) hx hb dX4_become_103 (by decide) ?_
  refine lv_aload_n hx hb dX4_become_104 rfl (lv_at hl 0 rfl) ?_
  refine x_get cx hW h0 fk_X4_31 (v := .ref (g_ad G (a0 + 6))) rfl dX4_become_105 ?_
  refine lv_iconst (v := (0 : Int32)) hx hb dX4_become_108 (by decide) ?_
  refine lv_bipush (v := (8 : Int32)) hx hb dX4_become_109 (by decide) ?_
  obtain ⟨i34, j35, z36, h37, g38, hF⟩ := cp_e hF
  obtain ⟨M39, eM39, hF⟩ := pin_e hF
  refine x_copyi cx ca_X4_52 hl.1 hW hS (kd_v h1 (j := 6) (by decide) (by decide)) (by decide) (kd_v h0 (j := 6) (by decide) (by decide)) (by decide) h37 g38 (Nat.le_of_ble_eq_true rfl) (by decide) eM39 dX4_become_111 (fun H locs hW hS => ?_)
  exact x_vret cx hr hW hS (Option.some.inj hF) dX4_become_114
def F_X4_has (a0 : Nat) (a1 : Int32) (M : Mem) : Option Int32 := (if a1 < 0 then some (0 : Int32) else (if (m_I M a0 2) ≤ a1 then some (0 : Int32) else some (1 : Int32)))
set_option maxHeartbeats 4000000 in
set_option maxRecDepth 100000 in
theorem c_X4_has {l : Launch} {G : GG} {a0 : Nat} {a1 : Int32} (h0 : kd a0 = 3) {M : Mem} {r : Int32} (hF : F_X4_has a0 a1 M = some r) : Met l yX4_has (wz yX4_has cX4_has 2 (some .boolean)) (RM 0 0) (PreC G [.ref (g_ad G a0), .int a1] M) (QcI G r M) 0 0 (g_A G) := by
  rw [F_X4_has] at hF
  refine x_start (by decide) (Nat.le_of_ble_eq_true rfl) (lv := [(0, .ref (g_ad G a0)), (1, .int a1)]) rfl ?_
  intro p e s m below meth c cx hr hW hS ls hl
  obtain ⟨hx, hb, hml, hown, hts, hKK, hSS, hlk⟩ := id cx
  refine lv_iload_n hx hb dX4_has_0 rfl (lv_at hl 1 rfl) ?_
  refine lv_if_lt (tgt := 16) hx hb dX4_has_1 (by decide) (fun c1 => ?_) (fun c1 => ?_)
  · have hF := it_p c1 hF
    refine lv_iconst (v := (0 : Int32)) hx hb dX4_has_16 (by decide) ?_
    exact x_zret cx hr (by decide) hW hS (Option.some.inj hF) rfl dX4_has_17
  · have hF := it_n c1 hF
    refine lv_iload_n hx hb dX4_has_4 rfl (lv_at hl 1 rfl) ?_
    refine lv_aload_n hx hb dX4_has_5 rfl (lv_at hl 0 rfl) ?_
    refine x_get cx hW h0 fk_X4_49 (v := .int (m_I M a0 2)) rfl dX4_has_6 ?_
    refine lv_icmp_ge (tgt := 16) hx hb dX4_has_9 (by decide) (fun c2 => ?_) (fun c2 => ?_)
    · have hF := it_p c2 hF
      refine lv_iconst (v := (0 : Int32)) hx hb dX4_has_16 (by decide) ?_
      exact x_zret cx hr (by decide) hW hS (Option.some.inj hF) rfl dX4_has_17
    · have hF := it_n c2 hF
      refine lv_iconst (v := (1 : Int32)) hx hb dX4_has_12 (by decide) ?_
      refine lv_goto (tgt := 17) hx hb dX4_has_13 (by decide) ?_
      exact x_zret cx hr (by decide) hW hS (Option.some.inj hF) rfl dX4_has_17
def F_X4_isFull (a0 : Nat) (M : Mem) : Option Int32 := (if (m_I M a0 2) < (8 : Int32) then some (0 : Int32) else some (1 : Int32))
set_option maxHeartbeats 4000000 in
set_option maxRecDepth 100000 in
theorem c_X4_isFull {l : Launch} {G : GG} {a0 : Nat} (h0 : kd a0 = 3) {M : Mem} {r : Int32} (hF : F_X4_isFull a0 M = some r) : Met l yX4_isFull (wz yX4_isFull cX4_isFull 1 (some .boolean)) (RM 0 0) (PreC G [.ref (g_ad G a0)] M) (QcI G r M) 0 0 (g_A G) := by
  rw [F_X4_isFull] at hF
  refine x_start (by decide) (Nat.le_of_ble_eq_true rfl) (lv := [(0, .ref (g_ad G a0))]) rfl ?_
  intro p e s m below meth c cx hr hW hS ls hl
  obtain ⟨hx, hb, hml, hown, hts, hKK, hSS, hlk⟩ := id cx
  refine lv_aload_n hx hb dX4_isFull_0 rfl (lv_at hl 0 rfl) ?_
  refine x_get cx hW h0 fk_X4_49 (v := .int (m_I M a0 2)) rfl dX4_isFull_1 ?_
  refine lv_bipush (v := (8 : Int32)) hx hb dX4_isFull_4 (by decide) ?_
  refine lv_icmp_lt (tgt := 13) hx hb dX4_isFull_6 (by decide) (fun c1 => ?_) (fun c1 => ?_)
  · have hF := it_p c1 hF
    refine lv_iconst (v := (0 : Int32)) hx hb dX4_isFull_13 (by decide) ?_
    exact x_zret cx hr (by decide) hW hS (Option.some.inj hF) rfl dX4_isFull_14
  · have hF := it_n c1 hF
    refine lv_iconst (v := (1 : Int32)) hx hb dX4_isFull_9 (by decide) ?_
    refine lv_goto (tgt := 14) hx hb dX4_isFull_10 (by decide) ?_
    exact x_zret cx hr (by decide) hW hS (Option.some.inj hF) rfl dX4_isFull_14
def F_X4_add (a0 : Nat) (a1 : Int32) (M : Mem) : Option (Int32 × Mem) := ix 8 (m_I M a0 2) (fun j1 => pin (w_I M (a0 + 1) j1 a1) (fun M2 => ix 8 (m_I M a0 2) (fun j3 => pin (w_I M2 (a0 + 2) j3 (5 : Int32)) (fun M4 => ix 8 (m_I M a0 2) (fun j5 => pin (w_I M4 (a0 + 3) j5 (10 : Int32)) (fun M6 => ix 8 (m_I M a0 2) (fun j7 => pin (w_I M6 (a0 + 4) j7 (50 : Int32)) (fun M8 => ix 8 (m_I M a0 2) (fun j9 => pin (w_I M8 (a0 + 5) j9 (0 : Int32)) (fun M10 => ix 8 (m_I M a0 2) (fun j11 => pin (w_I M10 (a0 + 6) j11 (m_I M a0 2)) (fun M12 => pin (w_I M12 a0 2 ((m_I M12 a0 2) + (1 : Int32))) (fun M13 => some ((m_I M a0 2), M13))))))))))))))
set_option maxHeartbeats 4000000 in
set_option maxRecDepth 100000 in
theorem c_X4_add {l : Launch} {G : GG} {a0 : Nat} {a1 : Int32} (h0 : kd a0 = 3) {M : Mem} {r : Int32} {M1 : Mem} (hF : F_X4_add a0 a1 M = some (r, M1)) : Met l yX4_add (wz yX4_add cX4_add 3 (some .int)) (RM 0 0) (PreC G [.ref (g_ad G a0), .int a1] M) (QcI G r M1) 0 0 (g_A G) := by
  rw [F_X4_add] at hF
  refine x_start (by decide) (Nat.le_of_ble_eq_true rfl) (lv := [(0, .ref (g_ad G a0)), (1, .int a1)]) rfl ?_
  intro p e s m below meth c cx hr hW hS ls hl
  obtain ⟨hx, hb, hml, hown, hts, hKK, hSS, hlk⟩ := id cx
  refine lv_aload_n hx hb dX4_add_0 rfl (lv_at hl 0 rfl) ?_
  refine x_get cx hW h0 fk_X4_49 (v := .int (m_I M a0 2)) rfl dX4_add_1 ?_
  refine lv_istore_n (lv' := [(2, .int (m_I M a0 2)), (0, .ref (g_ad G a0)), (1, .int a1)]) hx hb dX4_add_4 rfl hl (by decide) rfl (fun ls hl => ?_)
  refine lv_aload_n hx hb dX4_add_5 rfl (lv_at hl 1 rfl) ?_
  refine x_get cx hW h0 fk_X4_15 (v := .ref (g_ad G (a0 + 1))) rfl dX4_add_6 ?_
  refine lv_iload_n hx hb dX4_add_9 rfl (lv_at hl 0 rfl) ?_
  refine lv_iload_n hx hb dX4_add_10 rfl (lv_at hl 2 rfl) ?_
  obtain ⟨j1, hj1, gj1, hF⟩ := ix_e hF
  obtain ⟨M2, eM2, hF⟩ := pin_e hF
  refine x_iast cx hW hS (kd_v h0 (j := 1) (by decide) (by decide)) (by decide) hj1 gj1 eM2 dX4_add_11 (fun H locs hW hS => ?_)
  refine lv_aload_n hx hb dX4_add_12 rfl (lv_at hl 1 rfl) ?_
  refine x_get cx hW h0 fk_X4_19 (v := .ref (g_ad G (a0 + 2))) rfl dX4_add_13 ?_
  refine lv_iload_n hx hb dX4_add_16 rfl (lv_at hl 0 rfl) ?_
  refine lv_iconst (v := (5 : Int32)) hx hb dX4_add_17 (by decide) ?_
  obtain ⟨j3, hj3, gj3, hF⟩ := ix_e hF
  obtain ⟨M4, eM4, hF⟩ := pin_e hF
  refine x_iast cx hW hS (kd_v h0 (j := 2) (by decide) (by decide)) (by decide) hj3 gj3 eM4 dX4_add_18 (fun H locs hW hS => ?_)
  refine lv_aload_n hx hb dX4_add_19 rfl (lv_at hl 1 rfl) ?_
  refine x_get cx hW h0 fk_X4_22 (v := .ref (g_ad G (a0 + 3))) rfl dX4_add_20 ?_
  refine lv_iload_n hx hb dX4_add_23 rfl (lv_at hl 0 rfl) ?_
  refine lv_bipush (v := (10 : Int32)) hx hb dX4_add_24 (by decide) ?_
  obtain ⟨j5, hj5, gj5, hF⟩ := ix_e hF
  obtain ⟨M6, eM6, hF⟩ := pin_e hF
  refine x_iast cx hW hS (kd_v h0 (j := 3) (by decide) (by decide)) (by decide) hj5 gj5 eM6 dX4_add_26 (fun H locs hW hS => ?_)
  refine lv_aload_n hx hb dX4_add_27 rfl (lv_at hl 1 rfl) ?_
  refine x_get cx hW h0 fk_X4_25 (v := .ref (g_ad G (a0 + 4))) rfl dX4_add_28 ?_
  refine lv_iload_n hx hb dX4_add_31 rfl (lv_at hl 0 rfl) ?_
  refine lv_bipush (v := (50 : Int32)) hx hb dX4_add_32 (by decide) ?_
  obtain ⟨j7, hj7, gj7, hF⟩ := ix_e hF
  obtain ⟨M8, eM8, hF⟩ := pin_e hF
  refine x_iast cx hW hS (kd_v h0 (j := 4) (by decide) (by decide)) (by decide) hj7 gj7 eM8 dX4_add_34 (fun H locs hW hS => ?_)
  refine lv_aload_n hx hb dX4_add_35 rfl (lv_at hl 1 rfl) ?_
  refine x_get cx hW h0 fk_X4_28 (v := .ref (g_ad G (a0 + 5))) rfl dX4_add_36 ?_
  refine lv_iload_n hx hb dX4_add_39 rfl (lv_at hl 0 rfl) ?_
  refine lv_iconst (v := (0 : Int32)) hx hb dX4_add_40 (by decide) ?_
  obtain ⟨j9, hj9, gj9, hF⟩ := ix_e hF
  obtain ⟨M10, eM10, hF⟩ := pin_e hF
  refine x_iast cx hW hS (kd_v h0 (j := 5) (by decide) (by decide)) (by decide) hj9 gj9 eM10 dX4_add_41 (fun H locs hW hS => ?_)
  refine lv_aload_n hx hb dX4_add_42 rfl (lv_at hl 1 rfl) ?_
  refine x_get cx hW h0 fk_X4_31 (v := .ref (g_ad G (a0 + 6))) rfl dX4_add_43 ?_
  refine lv_iload_n hx hb dX4_add_46 rfl (lv_at hl 0 rfl) ?_
  refine lv_iload_n hx hb dX4_add_47 rfl (lv_at hl 0 rfl) ?_
  obtain ⟨j11, hj11, gj11, hF⟩ := ix_e hF
  obtain ⟨M12, eM12, hF⟩ := pin_e hF
  refine x_iast cx hW hS (kd_v h0 (j := 6) (by decide) (by decide)) (by decide) hj11 gj11 eM12 dX4_add_48 (fun H locs hW hS => ?_)
  refine lv_aload_n hx hb dX4_add_49 rfl (lv_at hl 1 rfl) ?_
  refine lv_dup hx hb dX4_add_50 rfl ?_
  refine x_get cx hW h0 fk_X4_49 (v := .int (m_I M12 a0 2)) rfl dX4_add_51 ?_
  refine lv_iconst (v := (1 : Int32)) hx hb dX4_add_54 (by decide) ?_
  refine lv_iadd hx hb dX4_add_55 ?_
  obtain ⟨M13, eM13, hF⟩ := pin_e hF
  refine x_puti cx hW hS h0 fk_X4_49 ft_3_2 (Nat.le_of_ble_eq_true rfl) fs_3_2 eM13 dX4_add_56 (fun H locs hW hS => ?_)
  refine lv_iload_n hx hb dX4_add_59 rfl (lv_at hl 0 rfl) ?_
  exact x_iret cx hr hW hS (sp_1 hF) (sp_2 hF) dX4_add_60
def F_X4_saying (a0 : Nat) (a1 : Int32) (a2 : Int32) (M : Mem) : Option Int32 := (if a1 = a2 then some (0 : Int32) else ix 8 a1 (fun j2 => ix 8 a1 (fun j3 => ix 8 a2 (fun j4 => (F_X6_said (m_I M (a0 + 1) j2) (m_I M (a0 + 2) j3) (m_I M (a0 + 2) j4) M).bind (fun r6 => some r6)))))
set_option maxHeartbeats 4000000 in
set_option maxRecDepth 100000 in
theorem c_X4_saying {l : Launch} {G : GG} {a0 : Nat} {a1 : Int32} {a2 : Int32} (h0 : kd a0 = 3) {M : Mem} {r : Int32} (hF : F_X4_saying a0 a1 a2 M = some r) : Met l yX4_saying (wz yX4_saying cX4_saying 3 (some .int)) (RM 1 23) (PreC G [.ref (g_ad G a0), .int a1, .int a2] M) (QcI G r M) 0 0 (g_A G) := by
  rw [F_X4_saying] at hF
  refine x_start (by decide) (Nat.le_of_ble_eq_true rfl) (lv := [(0, .ref (g_ad G a0)), (1, .int a1), (2, .int a2)]) rfl ?_
  intro p e s m below meth c cx hr hW hS ls hl
  obtain ⟨hx, hb, hml, hown, hts, hKK, hSS, hlk⟩ := id cx
  refine lv_iload_n hx hb dX4_saying_0 rfl (lv_at hl 1 rfl) ?_
  refine lv_iload_n hx hb dX4_saying_1 rfl (lv_at hl 2 rfl) ?_
  refine lv_icmp_ne (tgt := 9) hx hb dX4_saying_2 (by decide) (fun c1 => ?_) (fun c1 => ?_)
  · have hF := it_n c1 hF
    refine lv_aload_n hx hb dX4_saying_9 rfl (lv_at hl 0 rfl) ?_
    refine x_get cx hW h0 fk_X4_15 (v := .ref (g_ad G (a0 + 1))) rfl dX4_saying_10 ?_
    refine lv_iload_n hx hb dX4_saying_13 rfl (lv_at hl 1 rfl) ?_
    obtain ⟨j2, hj2, gj2, hF⟩ := ix_e hF
    refine x_iald cx hW (kd_v h0 (j := 1) (by decide) (by decide)) (by decide) hj2 gj2 dX4_saying_14 ?_
    refine lv_aload_n hx hb dX4_saying_15 rfl (lv_at hl 0 rfl) ?_
    refine x_get cx hW h0 fk_X4_19 (v := .ref (g_ad G (a0 + 2))) rfl dX4_saying_16 ?_
    refine lv_iload_n hx hb dX4_saying_19 rfl (lv_at hl 1 rfl) ?_
    obtain ⟨j3, hj3, gj3, hF⟩ := ix_e hF
    refine x_iald cx hW (kd_v h0 (j := 2) (by decide) (by decide)) (by decide) hj3 gj3 dX4_saying_20 ?_
    refine lv_aload_n hx hb dX4_saying_21 rfl (lv_at hl 0 rfl) ?_
    refine x_get cx hW h0 fk_X4_19 (v := .ref (g_ad G (a0 + 2))) rfl dX4_saying_22 ?_
    refine lv_iload_n hx hb dX4_saying_25 rfl (lv_at hl 2 rfl) ?_
    obtain ⟨j4, hj4, gj4, hF⟩ := ix_e hF
    refine x_iald cx hW (kd_v h0 (j := 2) (by decide) (by decide)) (by decide) hj4 gj4 dX4_saying_26 ?_
    obtain ⟨r6, hc5, hF⟩ := bi_e hF
    refine x_goi (x_runS cx hW hS (c_X6_said (l := l) (G := G) hc5) cs_X4_71 (rest := []) ⟨Nat.le_of_ble_eq_true rfl, Nat.le_of_ble_eq_true rfl⟩ hl.1 rfl rfl (Nat.le_of_ble_eq_true rfl) ⟨Nat.zero_le _, Nat.zero_le _⟩ dX4_saying_27) hS (fun H locs hW hS => ?_)
    exact x_iret cx hr hW hS (Option.some.inj hF) rfl dX4_saying_30
  · have hF := it_p c1 hF
    refine lv_iconst (v := (0 : Int32)) hx hb dX4_saying_5 (by decide) ?_
    refine lv_goto (tgt := 30) hx hb dX4_saying_6 (by decide) ?_
    exact x_iret cx hr hW hS (Option.some.inj hF) rfl dX4_saying_30
def F_X4_hearing (a0 : Nat) (a1 : Int32) (a2 : Int32) (M : Mem) : Option Int32 := (if a1 = a2 then some (0 : Int32) else ix 8 a1 (fun j2 => ix 8 a2 (fun j3 => (F_X6_heard (m_I M (a0 + 1) j2) (m_I M (a0 + 4) j3) M).bind (fun r5 => some r5))))
set_option maxHeartbeats 4000000 in
set_option maxRecDepth 100000 in
theorem c_X4_hearing {l : Launch} {G : GG} {a0 : Nat} {a1 : Int32} {a2 : Int32} (h0 : kd a0 = 3) {M : Mem} {r : Int32} (hF : F_X4_hearing a0 a1 a2 M = some r) : Met l yX4_hearing (wz yX4_hearing cX4_hearing 3 (some .int)) (RM 1 22) (PreC G [.ref (g_ad G a0), .int a1, .int a2] M) (QcI G r M) 0 0 (g_A G) := by
  rw [F_X4_hearing] at hF
  refine x_start (by decide) (Nat.le_of_ble_eq_true rfl) (lv := [(0, .ref (g_ad G a0)), (1, .int a1), (2, .int a2)]) rfl ?_
  intro p e s m below meth c cx hr hW hS ls hl
  obtain ⟨hx, hb, hml, hown, hts, hKK, hSS, hlk⟩ := id cx
  refine lv_iload_n hx hb dX4_hearing_0 rfl (lv_at hl 1 rfl) ?_
  refine lv_iload_n hx hb dX4_hearing_1 rfl (lv_at hl 2 rfl) ?_
  refine lv_icmp_ne (tgt := 9) hx hb dX4_hearing_2 (by decide) (fun c1 => ?_) (fun c1 => ?_)
  · have hF := it_n c1 hF
    refine lv_aload_n hx hb dX4_hearing_9 rfl (lv_at hl 0 rfl) ?_
    refine x_get cx hW h0 fk_X4_15 (v := .ref (g_ad G (a0 + 1))) rfl dX4_hearing_10 ?_
    refine lv_iload_n hx hb dX4_hearing_13 rfl (lv_at hl 1 rfl) ?_
    obtain ⟨j2, hj2, gj2, hF⟩ := ix_e hF
    refine x_iald cx hW (kd_v h0 (j := 1) (by decide) (by decide)) (by decide) hj2 gj2 dX4_hearing_14 ?_
    refine lv_aload_n hx hb dX4_hearing_15 rfl (lv_at hl 0 rfl) ?_
    refine x_get cx hW h0 fk_X4_25 (v := .ref (g_ad G (a0 + 4))) rfl dX4_hearing_16 ?_
    refine lv_iload_n hx hb dX4_hearing_19 rfl (lv_at hl 2 rfl) ?_
    obtain ⟨j3, hj3, gj3, hF⟩ := ix_e hF
    refine x_iald cx hW (kd_v h0 (j := 4) (by decide) (by decide)) (by decide) hj3 gj3 dX4_hearing_20 ?_
    obtain ⟨r5, hc4, hF⟩ := bi_e hF
    refine x_goi (x_runS cx hW hS (c_X6_heard (l := l) (G := G) hc4) cs_X4_73 (rest := []) ⟨Nat.le_of_ble_eq_true rfl, Nat.le_of_ble_eq_true rfl⟩ hl.1 rfl rfl (Nat.le_of_ble_eq_true rfl) ⟨Nat.zero_le _, Nat.zero_le _⟩ dX4_hearing_21) hS (fun H locs hW hS => ?_)
    exact x_iret cx hr hW hS (Option.some.inj hF) rfl dX4_hearing_24
  · have hF := it_p c1 hF
    refine lv_iconst (v := (0 : Int32)) hx hb dX4_hearing_5 (by decide) ?_
    refine lv_goto (tgt := 24) hx hb dX4_hearing_6 (by decide) ?_
    exact x_iret cx hr hW hS (Option.some.inj hF) rfl dX4_hearing_24
def F_X4_earnings_4 (a0 : Nat) (M : Mem) : Nat → Int32 → Int32 → Option Int32
  | 0, _, _ => none
  | n + 1, x1, x2 => (if (m_I M a0 2) ≤ x2 then some x1 else ix 8 x2 (fun j2 => (F_X4_earning a0 x2 (m_I M (a0 + 6) j2) M).bind (fun r4 => F_X4_earnings_4 a0 M n (x1 + r4) (x2 + 1))))
set_option maxHeartbeats 4000000 in
set_option maxRecDepth 100000 in
theorem t_X4_earnings_4 {p : Program} {l : Launch} {e : Env} {s : State} {m : MethodId} {args : Array Value} {below : List Frame} {meth : Method} {c : Code} {G : GG} {a0 : Nat} (cx : Cx G cX4_earnings RX4 3 p s m args meth c) (hr : meth.sig.returnType = (some .int)) (h0 : kd a0 = 3)  {M : Mem} {r : Int32} : ∀ (n : Nat) (x1 : Int32) (x2 : Int32), F_X4_earnings_4 a0 M n x1 x2 = some r → ∀ (H : Heap) (locs : List Loc) (ls : Array Slot), WH G M H → va_S (g_A G) s.heap H locs → lv_has ls 3 [(0, .ref (g_ad G a0)), (1, .int x1), (2, .int x2)] → W p l e (RM 4 93) s m args below meth c H locs 0 0 (MQ below (QcI G r M) args s 0 0 (g_A G)) (F0 m 4 ls []) := by
  obtain ⟨hx, hb, hml, hown, hts, hKK, hSS, hlk⟩ := id cx
  intro n
  induction n with
  | zero =>
    intro x1 x2 hF H locs ls hW hS hl
    rw [F_X4_earnings_4] at hF
    cases hF
  | succ n ih =>
    intro x1 x2 hF H locs ls hW hS hl
    rw [F_X4_earnings_4] at hF
    refine lv_iload_n hx hb dX4_earnings_4 rfl (lv_at hl 2 rfl) ?_
    refine lv_aload_n hx hb dX4_earnings_5 rfl (lv_at hl 0 rfl) ?_
    refine x_get cx hW h0 fk_X4_49 (v := .int (m_I M a0 2)) rfl dX4_earnings_6 ?_
    refine lv_icmp_ge (tgt := 32) hx hb dX4_earnings_9 (by decide) (fun c1 => ?_) (fun c1 => ?_)
    · have hF := it_p c1 hF
      refine lv_iload_n hx hb dX4_earnings_32 rfl (lv_at hl 1 rfl) ?_
      exact x_iret cx hr hW hS (Option.some.inj hF) rfl dX4_earnings_33
    · have hF := it_n c1 hF
      refine lv_iload_n hx hb dX4_earnings_12 rfl (lv_at hl 1 rfl) ?_
      refine lv_aload_n hx hb dX4_earnings_13 rfl (lv_at hl 0 rfl) ?_
      refine lv_iload_n hx hb dX4_earnings_14 rfl (lv_at hl 2 rfl) ?_
      refine lv_aload_n hx hb dX4_earnings_15 rfl (lv_at hl 0 rfl) ?_
      refine x_get cx hW h0 fk_X4_31 (v := .ref (g_ad G (a0 + 6))) rfl dX4_earnings_16 ?_
      refine lv_iload_n hx hb dX4_earnings_19 rfl (lv_at hl 2 rfl) ?_
      obtain ⟨j2, hj2, gj2, hF⟩ := ix_e hF
      refine x_iald cx hW (kd_v h0 (j := 6) (by decide) (by decide)) (by decide) hj2 gj2 dX4_earnings_20 ?_
      obtain ⟨r4, hc3, hF⟩ := bi_e hF
      refine x_goi (x_runV cx hW hS (c_X4_earning (l := l) (G := G) h0 hc3) cv_X4_76 h0 rfl (rest := [.int x1]) ⟨Nat.le_of_ble_eq_true rfl, Nat.le_of_ble_eq_true rfl⟩ hl.1 rfl rfl (Nat.le_of_ble_eq_true rfl) ⟨Nat.zero_le _, Nat.zero_le _⟩ dX4_earnings_21) hS (fun H locs hW hS => ?_)
      refine lv_iadd hx hb dX4_earnings_24 ?_
      refine lv_istore_n (lv' := [(1, .int (x1 + r4)), (0, .ref (g_ad G a0)), (2, .int x2)]) hx hb dX4_earnings_25 rfl hl (by decide) rfl (fun ls hl => ?_)
      refine lv_iinc (v := (x2 + 1)) (lv' := [(2, .int (x2 + 1)), (1, .int (x1 + r4)), (0, .ref (g_ad G a0))]) hx hb dX4_earnings_26 hl (k := 2) rfl rfl (by decide) rfl (fun ls hl => ?_)
      refine lv_goto (tgt := 4) hx hb dX4_earnings_29 (by decide) ?_
      exact ih (x1 + r4) (x2 + 1) hF _ _ _ hW hS (lv_sub hl [2, 1, 0] rfl)
def F_X4_earnings (a0 : Nat) (M : Mem) : Option Int32 := F_X4_earnings_4 a0 M FU (0 : Int32) (0 : Int32)
set_option maxHeartbeats 4000000 in
set_option maxRecDepth 100000 in
theorem c_X4_earnings {l : Launch} {G : GG} {a0 : Nat} (h0 : kd a0 = 3) {M : Mem} {r : Int32} (hF : F_X4_earnings a0 M = some r) : Met l yX4_earnings (wz yX4_earnings cX4_earnings 3 (some .int)) (RM 4 93) (PreC G [.ref (g_ad G a0)] M) (QcI G r M) 0 0 (g_A G) := by
  rw [F_X4_earnings] at hF
  refine x_start (by decide) (Nat.le_of_ble_eq_true rfl) (lv := [(0, .ref (g_ad G a0))]) rfl ?_
  intro p e s m below meth c cx hr hW hS ls hl
  obtain ⟨hx, hb, hml, hown, hts, hKK, hSS, hlk⟩ := id cx
  refine lv_iconst (v := (0 : Int32)) hx hb dX4_earnings_0 (by decide) ?_
  refine lv_istore_n (lv' := [(1, .int (0 : Int32)), (0, .ref (g_ad G a0))]) hx hb dX4_earnings_1 rfl hl (by decide) rfl (fun ls hl => ?_)
  refine lv_iconst (v := (0 : Int32)) hx hb dX4_earnings_2 (by decide) ?_
  refine lv_istore_n (lv' := [(2, .int (0 : Int32)), (1, .int (0 : Int32)), (0, .ref (g_ad G a0))]) hx hb dX4_earnings_3 rfl hl (by decide) rfl (fun ls hl => ?_)
  exact t_X4_earnings_4 cx hr h0 FU (0 : Int32) (0 : Int32) hF _ _ _ hW hS (lv_sub hl [2, 1, 0] rfl)
def F_X4_gainOfExchange (a0 : Nat) (a1 : Int32) (a2 : Int32) (M : Mem) : Option Int32 := ix 8 a1 (fun j1 => (F_X4_earning a0 a1 (m_I M (a0 + 6) j1) M).bind (fun r3 => ix 8 a2 (fun j4 => (F_X4_earning a0 a2 (m_I M (a0 + 6) j4) M).bind (fun r6 => ix 8 a2 (fun j7 => (F_X4_earning a0 a1 (m_I M (a0 + 6) j7) M).bind (fun r9 => ix 8 a1 (fun j10 => (F_X4_earning a0 a2 (m_I M (a0 + 6) j10) M).bind (fun r12 => some ((r9 + r12) - (r3 + r6))))))))))
set_option maxHeartbeats 4000000 in
set_option maxRecDepth 100000 in
theorem c_X4_gainOfExchange {l : Launch} {G : GG} {a0 : Nat} {a1 : Int32} {a2 : Int32} (h0 : kd a0 = 3) {M : Mem} {r : Int32} (hF : F_X4_gainOfExchange a0 a1 a2 M = some r) : Met l yX4_gainOfExchange (wz yX4_gainOfExchange cX4_gainOfExchange 4 (some .int)) (RM 4 93) (PreC G [.ref (g_ad G a0), .int a1, .int a2] M) (QcI G r M) 0 0 (g_A G) := by
  rw [F_X4_gainOfExchange] at hF
  refine x_start (by decide) (Nat.le_of_ble_eq_true rfl) (lv := [(0, .ref (g_ad G a0)), (1, .int a1), (2, .int a2)]) rfl ?_
  intro p e s m below meth c cx hr hW hS ls hl
  obtain ⟨hx, hb, hml, hown, hts, hKK, hSS, hlk⟩ := id cx
  refine lv_aload_n hx hb dX4_gainOfExchange_0 rfl (lv_at hl 0 rfl) ?_
  refine lv_iload_n hx hb dX4_gainOfExchange_1 rfl (lv_at hl 1 rfl) ?_
  refine lv_aload_n hx hb dX4_gainOfExchange_2 rfl (lv_at hl 0 rfl) ?_
  refine x_get cx hW h0 fk_X4_31 (v := .ref (g_ad G (a0 + 6))) rfl dX4_gainOfExchange_3 ?_
  refine lv_iload_n hx hb dX4_gainOfExchange_6 rfl (lv_at hl 1 rfl) ?_
  obtain ⟨j1, hj1, gj1, hF⟩ := ix_e hF
  refine x_iald cx hW (kd_v h0 (j := 6) (by decide) (by decide)) (by decide) hj1 gj1 dX4_gainOfExchange_7 ?_
  obtain ⟨r3, hc2, hF⟩ := bi_e hF
  refine x_goi (x_runV cx hW hS (c_X4_earning (l := l) (G := G) h0 hc2) cv_X4_76 h0 rfl (rest := []) ⟨Nat.le_of_ble_eq_true rfl, Nat.le_of_ble_eq_true rfl⟩ hl.1 rfl rfl (Nat.le_of_ble_eq_true rfl) ⟨Nat.zero_le _, Nat.zero_le _⟩ dX4_gainOfExchange_8) hS (fun H locs hW hS => ?_)
  refine lv_aload_n hx hb dX4_gainOfExchange_11 rfl (lv_at hl 0 rfl) ?_
  refine lv_iload_n hx hb dX4_gainOfExchange_12 rfl (lv_at hl 2 rfl) ?_
  refine lv_aload_n hx hb dX4_gainOfExchange_13 rfl (lv_at hl 0 rfl) ?_
  refine x_get cx hW h0 fk_X4_31 (v := .ref (g_ad G (a0 + 6))) rfl dX4_gainOfExchange_14 ?_
  refine lv_iload_n hx hb dX4_gainOfExchange_17 rfl (lv_at hl 2 rfl) ?_
  obtain ⟨j4, hj4, gj4, hF⟩ := ix_e hF
  refine x_iald cx hW (kd_v h0 (j := 6) (by decide) (by decide)) (by decide) hj4 gj4 dX4_gainOfExchange_18 ?_
  obtain ⟨r6, hc5, hF⟩ := bi_e hF
  refine x_goi (x_runV cx hW hS (c_X4_earning (l := l) (G := G) h0 hc5) cv_X4_76 h0 rfl (rest := [.int r3]) ⟨Nat.le_of_ble_eq_true rfl, Nat.le_of_ble_eq_true rfl⟩ hl.1 rfl rfl (Nat.le_of_ble_eq_true rfl) ⟨Nat.zero_le _, Nat.zero_le _⟩ dX4_gainOfExchange_19) hS (fun H locs hW hS => ?_)
  refine lv_iadd hx hb dX4_gainOfExchange_22 ?_
  refine lv_istore_n (lv' := [(3, .int (r3 + r6)), (0, .ref (g_ad G a0)), (1, .int a1), (2, .int a2)]) hx hb dX4_gainOfExchange_23 rfl hl (by decide) rfl (fun ls hl => ?_)
  refine lv_aload_n hx hb dX4_gainOfExchange_24 rfl (lv_at hl 1 rfl) ?_
  refine lv_iload_n hx hb dX4_gainOfExchange_25 rfl (lv_at hl 2 rfl) ?_
  refine lv_aload_n hx hb dX4_gainOfExchange_26 rfl (lv_at hl 1 rfl) ?_
  refine x_get cx hW h0 fk_X4_31 (v := .ref (g_ad G (a0 + 6))) rfl dX4_gainOfExchange_27 ?_
  refine lv_iload_n hx hb dX4_gainOfExchange_30 rfl (lv_at hl 3 rfl) ?_
  obtain ⟨j7, hj7, gj7, hF⟩ := ix_e hF
  refine x_iald cx hW (kd_v h0 (j := 6) (by decide) (by decide)) (by decide) hj7 gj7 dX4_gainOfExchange_31 ?_
  obtain ⟨r9, hc8, hF⟩ := bi_e hF
  refine x_goi (x_runV cx hW hS (c_X4_earning (l := l) (G := G) h0 hc8) cv_X4_76 h0 rfl (rest := []) ⟨Nat.le_of_ble_eq_true rfl, Nat.le_of_ble_eq_true rfl⟩ hl.1 rfl rfl (Nat.le_of_ble_eq_true rfl) ⟨Nat.zero_le _, Nat.zero_le _⟩ dX4_gainOfExchange_32) hS (fun H locs hW hS => ?_)
  refine lv_aload_n hx hb dX4_gainOfExchange_35 rfl (lv_at hl 1 rfl) ?_
  refine lv_iload_n hx hb dX4_gainOfExchange_36 rfl (lv_at hl 3 rfl) ?_
  refine lv_aload_n hx hb dX4_gainOfExchange_37 rfl (lv_at hl 1 rfl) ?_
  refine x_get cx hW h0 fk_X4_31 (v := .ref (g_ad G (a0 + 6))) rfl dX4_gainOfExchange_38 ?_
  refine lv_iload_n hx hb dX4_gainOfExchange_41 rfl (lv_at hl 2 rfl) ?_
  obtain ⟨j10, hj10, gj10, hF⟩ := ix_e hF
  refine x_iald cx hW (kd_v h0 (j := 6) (by decide) (by decide)) (by decide) hj10 gj10 dX4_gainOfExchange_42 ?_
  obtain ⟨r12, hc11, hF⟩ := bi_e hF
  refine x_goi (x_runV cx hW hS (c_X4_earning (l := l) (G := G) h0 hc11) cv_X4_76 h0 rfl (rest := [.int r9]) ⟨Nat.le_of_ble_eq_true rfl, Nat.le_of_ble_eq_true rfl⟩ hl.1 rfl rfl (Nat.le_of_ble_eq_true rfl) ⟨Nat.zero_le _, Nat.zero_le _⟩ dX4_gainOfExchange_43) hS (fun H locs hW hS => ?_)
  refine lv_iadd hx hb dX4_gainOfExchange_46 ?_
  refine lv_iload_n hx hb dX4_gainOfExchange_47 rfl (lv_at hl 0 rfl) ?_
  refine lv_isub hx hb dX4_gainOfExchange_48 ?_
  exact x_iret cx hr hW hS (Option.some.inj hF) rfl dX4_gainOfExchange_49
def F_X4_total_4 (a0 : Nat) (a1 : Nat) (M : Mem) : Nat → Int32 → Int32 → Option Int32
  | 0, _, _ => none
  | n + 1, x2, x3 => (if (m_I M a0 2) ≤ x3 then some x2 else ix 8 x3 (fun j2 => F_X4_total_4 a0 a1 M n (x2 + (m_I M a1 j2)) (x3 + 1)))
set_option maxHeartbeats 4000000 in
set_option maxRecDepth 100000 in
theorem t_X4_total_4 {p : Program} {l : Launch} {e : Env} {s : State} {m : MethodId} {args : Array Value} {below : List Frame} {meth : Method} {c : Code} {G : GG} {a0 : Nat} {a1 : Nat} (cx : Cx G cX4_total RX4 4 p s m args meth c) (hr : meth.sig.returnType = (some .int)) (h0 : kd a0 = 3) (h1 : kd a1 = 100 + 8)  {M : Mem} {r : Int32} : ∀ (n : Nat) (x2 : Int32) (x3 : Int32), F_X4_total_4 a0 a1 M n x2 x3 = some r → ∀ (H : Heap) (locs : List Loc) (ls : Array Slot), WH G M H → va_S (g_A G) s.heap H locs → lv_has ls 4 [(0, .ref (g_ad G a0)), (1, .ref (g_ad G a1)), (2, .int x2), (3, .int x3)] → W p l e (RM 0 0) s m args below meth c H locs 0 0 (MQ below (QcI G r M) args s 0 0 (g_A G)) (F0 m 4 ls []) := by
  obtain ⟨hx, hb, hml, hown, hts, hKK, hSS, hlk⟩ := id cx
  intro n
  induction n with
  | zero =>
    intro x2 x3 hF H locs ls hW hS hl
    rw [F_X4_total_4] at hF
    cases hF
  | succ n ih =>
    intro x2 x3 hF H locs ls hW hS hl
    rw [F_X4_total_4] at hF
    refine lv_iload_n hx hb dX4_total_4 rfl (lv_at hl 3 rfl) ?_
    refine lv_aload_n hx hb dX4_total_5 rfl (lv_at hl 0 rfl) ?_
    refine x_get cx hW h0 fk_X4_49 (v := .int (m_I M a0 2)) rfl dX4_total_6 ?_
    refine lv_icmp_ge (tgt := 24) hx hb dX4_total_9 (by decide) (fun c1 => ?_) (fun c1 => ?_)
    · have hF := it_p c1 hF
      refine lv_iload_n hx hb dX4_total_24 rfl (lv_at hl 2 rfl) ?_
      exact x_iret cx hr hW hS (Option.some.inj hF) rfl dX4_total_25
    · have hF := it_n c1 hF
      refine lv_iload_n hx hb dX4_total_12 rfl (lv_at hl 2 rfl) ?_
      refine lv_aload_n hx hb dX4_total_13 rfl (lv_at hl 1 rfl) ?_
      refine lv_iload_n hx hb dX4_total_14 rfl (lv_at hl 3 rfl) ?_
      obtain ⟨j2, hj2, gj2, hF⟩ := ix_e hF
      refine x_iald cx hW h1 (by decide) hj2 gj2 dX4_total_15 ?_
      refine lv_iadd hx hb dX4_total_16 ?_
      refine lv_istore_n (lv' := [(2, .int (x2 + (m_I M a1 j2))), (0, .ref (g_ad G a0)), (1, .ref (g_ad G a1)), (3, .int x3)]) hx hb dX4_total_17 rfl hl (by decide) rfl (fun ls hl => ?_)
      refine lv_iinc (v := (x3 + 1)) (lv' := [(3, .int (x3 + 1)), (2, .int (x2 + (m_I M a1 j2))), (0, .ref (g_ad G a0)), (1, .ref (g_ad G a1))]) hx hb dX4_total_18 hl (k := 3) rfl rfl (by decide) rfl (fun ls hl => ?_)
      refine lv_goto (tgt := 4) hx hb dX4_total_21 (by decide) ?_
      exact ih (x2 + (m_I M a1 j2)) (x3 + 1) hF _ _ _ hW hS (lv_sub hl [2, 3, 1, 0] rfl)
def F_X4_total (a0 : Nat) (a1 : Nat) (M : Mem) : Option Int32 := F_X4_total_4 a0 a1 M FU (0 : Int32) (0 : Int32)
set_option maxHeartbeats 4000000 in
set_option maxRecDepth 100000 in
theorem c_X4_total {l : Launch} {G : GG} {a0 : Nat} {a1 : Nat} (h0 : kd a0 = 3) (h1 : kd a1 = 100 + 8) {M : Mem} {r : Int32} (hF : F_X4_total a0 a1 M = some r) : Met l yX4_total (wz yX4_total cX4_total 4 (some .int)) (RM 0 0) (PreC G [.ref (g_ad G a0), .ref (g_ad G a1)] M) (QcI G r M) 0 0 (g_A G) := by
  rw [F_X4_total] at hF
  refine x_start (by decide) (Nat.le_of_ble_eq_true rfl) (lv := [(0, .ref (g_ad G a0)), (1, .ref (g_ad G a1))]) rfl ?_
  intro p e s m below meth c cx hr hW hS ls hl
  obtain ⟨hx, hb, hml, hown, hts, hKK, hSS, hlk⟩ := id cx
  refine lv_iconst (v := (0 : Int32)) hx hb dX4_total_0 (by decide) ?_
  refine lv_istore_n (lv' := [(2, .int (0 : Int32)), (0, .ref (g_ad G a0)), (1, .ref (g_ad G a1))]) hx hb dX4_total_1 rfl hl (by decide) rfl (fun ls hl => ?_)
  refine lv_iconst (v := (0 : Int32)) hx hb dX4_total_2 (by decide) ?_
  refine lv_istore_n (lv' := [(3, .int (0 : Int32)), (2, .int (0 : Int32)), (0, .ref (g_ad G a0)), (1, .ref (g_ad G a1))]) hx hb dX4_total_3 rfl hl (by decide) rfl (fun ls hl => ?_)
  exact t_X4_total_4 cx hr h0 h1 FU (0 : Int32) (0 : Int32) hF _ _ _ hW hS (lv_sub hl [2, 3, 1, 0] rfl)
def F_X4_childrenSet_4 (a0 : Nat) (M : Mem) : Nat → Int32 → Int32 → Option Int32
  | 0, _, _ => none
  | n + 1, x1, x2 => (if (m_I M a0 2) ≤ x2 then some x1 else (F_X4_isChild a0 x2 M).bind (fun r3 => (if r3 = 0 then F_X4_childrenSet_4 a0 M n x1 (x2 + 1) else F_X4_childrenSet_4 a0 M n (x1 ||| ((1 : Int32) <<< (x2 &&& 31))) (x2 + 1))))
set_option maxHeartbeats 4000000 in
set_option maxRecDepth 100000 in
theorem t_X4_childrenSet_4 {p : Program} {l : Launch} {e : Env} {s : State} {m : MethodId} {args : Array Value} {below : List Frame} {meth : Method} {c : Code} {G : GG} {a0 : Nat} (cx : Cx G cX4_childrenSet RX4 3 p s m args meth c) (hr : meth.sig.returnType = (some .int)) (h0 : kd a0 = 3)  {M : Mem} {r : Int32} : ∀ (n : Nat) (x1 : Int32) (x2 : Int32), F_X4_childrenSet_4 a0 M n x1 x2 = some r → ∀ (H : Heap) (locs : List Loc) (ls : Array Slot), WH G M H → va_S (g_A G) s.heap H locs → lv_has ls 3 [(0, .ref (g_ad G a0)), (1, .int x1), (2, .int x2)] → W p l e (RM 1 21) s m args below meth c H locs 0 0 (MQ below (QcI G r M) args s 0 0 (g_A G)) (F0 m 4 ls []) := by
  obtain ⟨hx, hb, hml, hown, hts, hKK, hSS, hlk⟩ := id cx
  intro n
  induction n with
  | zero =>
    intro x1 x2 hF H locs ls hW hS hl
    rw [F_X4_childrenSet_4] at hF
    cases hF
  | succ n ih =>
    intro x1 x2 hF H locs ls hW hS hl
    rw [F_X4_childrenSet_4] at hF
    refine lv_iload_n hx hb dX4_childrenSet_4 rfl (lv_at hl 2 rfl) ?_
    refine lv_aload_n hx hb dX4_childrenSet_5 rfl (lv_at hl 0 rfl) ?_
    refine x_get cx hW h0 fk_X4_49 (v := .int (m_I M a0 2)) rfl dX4_childrenSet_6 ?_
    refine lv_icmp_ge (tgt := 32) hx hb dX4_childrenSet_9 (by decide) (fun c1 => ?_) (fun c1 => ?_)
    · have hF := it_p c1 hF
      refine lv_iload_n hx hb dX4_childrenSet_32 rfl (lv_at hl 1 rfl) ?_
      exact x_iret cx hr hW hS (Option.some.inj hF) rfl dX4_childrenSet_33
    · have hF := it_n c1 hF
      refine lv_aload_n hx hb dX4_childrenSet_12 rfl (lv_at hl 0 rfl) ?_
      refine lv_iload_n hx hb dX4_childrenSet_13 rfl (lv_at hl 2 rfl) ?_
      obtain ⟨r3, hc2, hF⟩ := bi_e hF
      refine x_goi (x_runV cx hW hS (c_X4_isChild (l := l) (G := G) h0 hc2) cv_X4_58 h0 rfl (rest := []) ⟨Nat.le_of_ble_eq_true rfl, Nat.le_of_ble_eq_true rfl⟩ hl.1 rfl rfl (Nat.le_of_ble_eq_true rfl) ⟨Nat.zero_le _, Nat.zero_le _⟩ dX4_childrenSet_14) hS (fun H locs hW hS => ?_)
      refine lv_if_eq (tgt := 26) hx hb dX4_childrenSet_17 (by decide) (fun c4 => ?_) (fun c4 => ?_)
      · have hF := it_p c4 hF
        refine lv_iinc (v := (x2 + 1)) (lv' := [(2, .int (x2 + 1)), (0, .ref (g_ad G a0)), (1, .int x1)]) hx hb dX4_childrenSet_26 hl (k := 2) rfl rfl (by decide) rfl (fun ls hl => ?_)
        refine lv_goto (tgt := 4) hx hb dX4_childrenSet_29 (by decide) ?_
        exact ih x1 (x2 + 1) hF _ _ _ hW hS (lv_sub hl [1, 2, 0] rfl)
      · have hF := it_n c4 hF
        refine lv_iload_n hx hb dX4_childrenSet_20 rfl (lv_at hl 1 rfl) ?_
        refine lv_iconst (v := (1 : Int32)) hx hb dX4_childrenSet_21 (by decide) ?_
        refine lv_iload_n hx hb dX4_childrenSet_22 rfl (lv_at hl 2 rfl) ?_
        refine lv_ishl hx hb dX4_childrenSet_23 ?_
        refine lv_ior hx hb dX4_childrenSet_24 ?_
        refine lv_istore_n (lv' := [(1, .int (x1 ||| ((1 : Int32) <<< (x2 &&& 31)))), (0, .ref (g_ad G a0)), (2, .int x2)]) hx hb dX4_childrenSet_25 rfl hl (by decide) rfl (fun ls hl => ?_)
        refine lv_iinc (v := (x2 + 1)) (lv' := [(2, .int (x2 + 1)), (1, .int (x1 ||| ((1 : Int32) <<< (x2 &&& 31)))), (0, .ref (g_ad G a0))]) hx hb dX4_childrenSet_26 hl (k := 2) rfl rfl (by decide) rfl (fun ls hl => ?_)
        refine lv_goto (tgt := 4) hx hb dX4_childrenSet_29 (by decide) ?_
        exact ih (x1 ||| ((1 : Int32) <<< (x2 &&& 31))) (x2 + 1) hF _ _ _ hW hS (lv_sub hl [2, 1, 0] rfl)
def F_X4_childrenSet (a0 : Nat) (M : Mem) : Option Int32 := F_X4_childrenSet_4 a0 M FU (0 : Int32) (0 : Int32)
set_option maxHeartbeats 4000000 in
set_option maxRecDepth 100000 in
theorem c_X4_childrenSet {l : Launch} {G : GG} {a0 : Nat} (h0 : kd a0 = 3) {M : Mem} {r : Int32} (hF : F_X4_childrenSet a0 M = some r) : Met l yX4_childrenSet (wz yX4_childrenSet cX4_childrenSet 3 (some .int)) (RM 1 21) (PreC G [.ref (g_ad G a0)] M) (QcI G r M) 0 0 (g_A G) := by
  rw [F_X4_childrenSet] at hF
  refine x_start (by decide) (Nat.le_of_ble_eq_true rfl) (lv := [(0, .ref (g_ad G a0))]) rfl ?_
  intro p e s m below meth c cx hr hW hS ls hl
  obtain ⟨hx, hb, hml, hown, hts, hKK, hSS, hlk⟩ := id cx
  refine lv_iconst (v := (0 : Int32)) hx hb dX4_childrenSet_0 (by decide) ?_
  refine lv_istore_n (lv' := [(1, .int (0 : Int32)), (0, .ref (g_ad G a0))]) hx hb dX4_childrenSet_1 rfl hl (by decide) rfl (fun ls hl => ?_)
  refine lv_iconst (v := (0 : Int32)) hx hb dX4_childrenSet_2 (by decide) ?_
  refine lv_istore_n (lv' := [(2, .int (0 : Int32)), (1, .int (0 : Int32)), (0, .ref (g_ad G a0))]) hx hb dX4_childrenSet_3 rfl hl (by decide) rfl (fun ls hl => ?_)
  exact t_X4_childrenSet_4 cx hr h0 FU (0 : Int32) (0 : Int32) hF _ _ _ hW hS (lv_sub hl [2, 1, 0] rfl)
def F_X4_ownSet_4 (a0 : Nat) (M : Mem) : Nat → Int32 → Int32 → Option Int32
  | 0, _, _ => none
  | n + 1, x1, x2 => (if (m_I M a0 2) ≤ x2 then some x1 else ix 8 x2 (fun j2 => (if (m_I M (a0 + 6) j2) = x2 then F_X4_ownSet_4 a0 M n (x1 ||| ((1 : Int32) <<< (x2 &&& 31))) (x2 + 1) else F_X4_ownSet_4 a0 M n x1 (x2 + 1))))
set_option maxHeartbeats 4000000 in
set_option maxRecDepth 100000 in
theorem t_X4_ownSet_4 {p : Program} {l : Launch} {e : Env} {s : State} {m : MethodId} {args : Array Value} {below : List Frame} {meth : Method} {c : Code} {G : GG} {a0 : Nat} (cx : Cx G cX4_ownSet RX4 3 p s m args meth c) (hr : meth.sig.returnType = (some .int)) (h0 : kd a0 = 3)  {M : Mem} {r : Int32} : ∀ (n : Nat) (x1 : Int32) (x2 : Int32), F_X4_ownSet_4 a0 M n x1 x2 = some r → ∀ (H : Heap) (locs : List Loc) (ls : Array Slot), WH G M H → va_S (g_A G) s.heap H locs → lv_has ls 3 [(0, .ref (g_ad G a0)), (1, .int x1), (2, .int x2)] → W p l e (RM 0 0) s m args below meth c H locs 0 0 (MQ below (QcI G r M) args s 0 0 (g_A G)) (F0 m 4 ls []) := by
  obtain ⟨hx, hb, hml, hown, hts, hKK, hSS, hlk⟩ := id cx
  intro n
  induction n with
  | zero =>
    intro x1 x2 hF H locs ls hW hS hl
    rw [F_X4_ownSet_4] at hF
    cases hF
  | succ n ih =>
    intro x1 x2 hF H locs ls hW hS hl
    rw [F_X4_ownSet_4] at hF
    refine lv_iload_n hx hb dX4_ownSet_4 rfl (lv_at hl 2 rfl) ?_
    refine lv_aload_n hx hb dX4_ownSet_5 rfl (lv_at hl 0 rfl) ?_
    refine x_get cx hW h0 fk_X4_49 (v := .int (m_I M a0 2)) rfl dX4_ownSet_6 ?_
    refine lv_icmp_ge (tgt := 34) hx hb dX4_ownSet_9 (by decide) (fun c1 => ?_) (fun c1 => ?_)
    · have hF := it_p c1 hF
      refine lv_iload_n hx hb dX4_ownSet_34 rfl (lv_at hl 1 rfl) ?_
      exact x_iret cx hr hW hS (Option.some.inj hF) rfl dX4_ownSet_35
    · have hF := it_n c1 hF
      refine lv_aload_n hx hb dX4_ownSet_12 rfl (lv_at hl 0 rfl) ?_
      refine x_get cx hW h0 fk_X4_31 (v := .ref (g_ad G (a0 + 6))) rfl dX4_ownSet_13 ?_
      refine lv_iload_n hx hb dX4_ownSet_16 rfl (lv_at hl 2 rfl) ?_
      obtain ⟨j2, hj2, gj2, hF⟩ := ix_e hF
      refine x_iald cx hW (kd_v h0 (j := 6) (by decide) (by decide)) (by decide) hj2 gj2 dX4_ownSet_17 ?_
      refine lv_iload_n hx hb dX4_ownSet_18 rfl (lv_at hl 2 rfl) ?_
      refine lv_icmp_ne (tgt := 28) hx hb dX4_ownSet_19 (by decide) (fun c3 => ?_) (fun c3 => ?_)
      · have hF := it_n c3 hF
        refine lv_iinc (v := (x2 + 1)) (lv' := [(2, .int (x2 + 1)), (0, .ref (g_ad G a0)), (1, .int x1)]) hx hb dX4_ownSet_28 hl (k := 2) rfl rfl (by decide) rfl (fun ls hl => ?_)
        refine lv_goto (tgt := 4) hx hb dX4_ownSet_31 (by decide) ?_
        exact ih x1 (x2 + 1) hF _ _ _ hW hS (lv_sub hl [1, 2, 0] rfl)
      · have hF := it_p c3 hF
        refine lv_iload_n hx hb dX4_ownSet_22 rfl (lv_at hl 1 rfl) ?_
        refine lv_iconst (v := (1 : Int32)) hx hb dX4_ownSet_23 (by decide) ?_
        refine lv_iload_n hx hb dX4_ownSet_24 rfl (lv_at hl 2 rfl) ?_
        refine lv_ishl hx hb dX4_ownSet_25 ?_
        refine lv_ior hx hb dX4_ownSet_26 ?_
        refine lv_istore_n (lv' := [(1, .int (x1 ||| ((1 : Int32) <<< (x2 &&& 31)))), (0, .ref (g_ad G a0)), (2, .int x2)]) hx hb dX4_ownSet_27 rfl hl (by decide) rfl (fun ls hl => ?_)
        refine lv_iinc (v := (x2 + 1)) (lv' := [(2, .int (x2 + 1)), (1, .int (x1 ||| ((1 : Int32) <<< (x2 &&& 31)))), (0, .ref (g_ad G a0))]) hx hb dX4_ownSet_28 hl (k := 2) rfl rfl (by decide) rfl (fun ls hl => ?_)
        refine lv_goto (tgt := 4) hx hb dX4_ownSet_31 (by decide) ?_
        exact ih (x1 ||| ((1 : Int32) <<< (x2 &&& 31))) (x2 + 1) hF _ _ _ hW hS (lv_sub hl [2, 1, 0] rfl)
def F_X4_ownSet (a0 : Nat) (M : Mem) : Option Int32 := F_X4_ownSet_4 a0 M FU (0 : Int32) (0 : Int32)
set_option maxHeartbeats 4000000 in
set_option maxRecDepth 100000 in
theorem c_X4_ownSet {l : Launch} {G : GG} {a0 : Nat} (h0 : kd a0 = 3) {M : Mem} {r : Int32} (hF : F_X4_ownSet a0 M = some r) : Met l yX4_ownSet (wz yX4_ownSet cX4_ownSet 3 (some .int)) (RM 0 0) (PreC G [.ref (g_ad G a0)] M) (QcI G r M) 0 0 (g_A G) := by
  rw [F_X4_ownSet] at hF
  refine x_start (by decide) (Nat.le_of_ble_eq_true rfl) (lv := [(0, .ref (g_ad G a0))]) rfl ?_
  intro p e s m below meth c cx hr hW hS ls hl
  obtain ⟨hx, hb, hml, hown, hts, hKK, hSS, hlk⟩ := id cx
  refine lv_iconst (v := (0 : Int32)) hx hb dX4_ownSet_0 (by decide) ?_
  refine lv_istore_n (lv' := [(1, .int (0 : Int32)), (0, .ref (g_ad G a0))]) hx hb dX4_ownSet_1 rfl hl (by decide) rfl (fun ls hl => ?_)
  refine lv_iconst (v := (0 : Int32)) hx hb dX4_ownSet_2 (by decide) ?_
  refine lv_istore_n (lv' := [(2, .int (0 : Int32)), (1, .int (0 : Int32)), (0, .ref (g_ad G a0))]) hx hb dX4_ownSet_3 rfl hl (by decide) rfl (fun ls hl => ?_)
  exact t_X4_ownSet_4 cx hr h0 FU (0 : Int32) (0 : Int32) hF _ _ _ hW hS (lv_sub hl [2, 1, 0] rfl)
def F_X4_ownCount (a0 : Nat) (M : Mem) : Option Int32 := (F_X4_ownSet a0 M).bind (fun r2 => (F_J6_bitCount_0f7a4 r2 M).bind (fun r4 => some r4))
set_option maxHeartbeats 4000000 in
set_option maxRecDepth 100000 in
theorem c_X4_ownCount {l : Launch} {G : GG} {a0 : Nat} (h0 : kd a0 = 3) {M : Mem} {r : Int32} (hF : F_X4_ownCount a0 M = some r) : Met l yX4_ownCount (wz yX4_ownCount cX4_ownCount 1 (some .int)) (RM 1 22) (PreC G [.ref (g_ad G a0)] M) (QcI G r M) 0 0 (g_A G) := by
  rw [F_X4_ownCount] at hF
  refine x_start (by decide) (Nat.le_of_ble_eq_true rfl) (lv := [(0, .ref (g_ad G a0))]) rfl ?_
  intro p e s m below meth c cx hr hW hS ls hl
  obtain ⟨hx, hb, hml, hown, hts, hKK, hSS, hlk⟩ := id cx
  refine lv_aload_n hx hb dX4_ownCount_0 rfl (lv_at hl 0 rfl) ?_
  obtain ⟨r2, hc1, hF⟩ := bi_e hF
  refine x_goi (x_runV cx hW hS (c_X4_ownSet (l := l) (G := G) h0 hc1) cv_X4_79 h0 rfl (rest := []) ⟨Nat.le_of_ble_eq_true rfl, Nat.le_of_ble_eq_true rfl⟩ hl.1 rfl rfl (Nat.le_of_ble_eq_true rfl) ⟨Nat.zero_le _, Nat.zero_le _⟩ dX4_ownCount_1) hS (fun H locs hW hS => ?_)
  obtain ⟨r4, hc3, hF⟩ := bi_e hF
  refine x_goi (x_runS cx hW hS (c_J6_bitCount_0f7a4 (l := l) (G := G) hc3) cs_X4_83 (rest := []) ⟨Nat.le_of_ble_eq_true rfl, Nat.le_of_ble_eq_true rfl⟩ hl.1 rfl rfl (Nat.le_of_ble_eq_true rfl) ⟨Nat.zero_le _, Nat.zero_le _⟩ dX4_ownCount_4) hS (fun H locs hW hS => ?_)
  exact x_iret cx hr hW hS (Option.some.inj hF) rfl dX4_ownCount_7
def F_X4_ringSet_7 (a0 : Nat) (a1 : Int32) (M : Mem) : Nat → Int32 → Int32 → Int32 → Option Int32
  | 0, _, _, _ => none
  | n + 1, x2, x3, x4 => (if (m_I M a0 2) ≤ x4 then some x2 else ix 8 x3 (fun j2 => F_X4_ringSet_7 a0 a1 M n (x2 ||| ((1 : Int32) <<< (x3 &&& 31))) (m_I M (a0 + 6) j2) (x4 + 1)))
set_option maxHeartbeats 4000000 in
set_option maxRecDepth 100000 in
theorem t_X4_ringSet_7 {p : Program} {l : Launch} {e : Env} {s : State} {m : MethodId} {args : Array Value} {below : List Frame} {meth : Method} {c : Code} {G : GG} {a0 : Nat} {a1 : Int32} (cx : Cx G cX4_ringSet RX4 5 p s m args meth c) (hr : meth.sig.returnType = (some .int)) (h0 : kd a0 = 3)  {M : Mem} {r : Int32} : ∀ (n : Nat) (x2 : Int32) (x3 : Int32) (x4 : Int32), F_X4_ringSet_7 a0 a1 M n x2 x3 x4 = some r → ∀ (H : Heap) (locs : List Loc) (ls : Array Slot), WH G M H → va_S (g_A G) s.heap H locs → lv_has ls 5 [(0, .ref (g_ad G a0)), (2, .int x2), (3, .int x3), (4, .int x4)] → W p l e (RM 0 0) s m args below meth c H locs 0 0 (MQ below (QcI G r M) args s 0 0 (g_A G)) (F0 m 7 ls []) := by
  obtain ⟨hx, hb, hml, hown, hts, hKK, hSS, hlk⟩ := id cx
  intro n
  induction n with
  | zero =>
    intro x2 x3 x4 hF H locs ls hW hS hl
    rw [F_X4_ringSet_7] at hF
    cases hF
  | succ n ih =>
    intro x2 x3 x4 hF H locs ls hW hS hl
    rw [F_X4_ringSet_7] at hF
    refine lv_iload hx hb dX4_ringSet_7 (lv_at hl 3 rfl) ?_
    refine lv_aload_n hx hb dX4_ringSet_9 rfl (lv_at hl 0 rfl) ?_
    refine x_get cx hW h0 fk_X4_49 (v := .int (m_I M a0 2)) rfl dX4_ringSet_10 ?_
    refine lv_icmp_ge (tgt := 35) hx hb dX4_ringSet_13 (by decide) (fun c1 => ?_) (fun c1 => ?_)
    · have hF := it_p c1 hF
      refine lv_iload_n hx hb dX4_ringSet_35 rfl (lv_at hl 1 rfl) ?_
      exact x_iret cx hr hW hS (Option.some.inj hF) rfl dX4_ringSet_36
    · have hF := it_n c1 hF
      refine lv_iload_n hx hb dX4_ringSet_16 rfl (lv_at hl 1 rfl) ?_
      refine lv_iconst (v := (1 : Int32)) hx hb dX4_ringSet_17 (by decide) ?_
      refine lv_iload_n hx hb dX4_ringSet_18 rfl (lv_at hl 2 rfl) ?_
      refine lv_ishl hx hb dX4_ringSet_19 ?_
      refine lv_ior hx hb dX4_ringSet_20 ?_
      refine lv_istore_n (lv' := [(2, .int (x2 ||| ((1 : Int32) <<< (x3 &&& 31)))), (0, .ref (g_ad G a0)), (3, .int x3), (4, .int x4)]) hx hb dX4_ringSet_21 rfl hl (by decide) rfl (fun ls hl => ?_)
      refine lv_aload_n hx hb dX4_ringSet_22 rfl (lv_at hl 1 rfl) ?_
      refine x_get cx hW h0 fk_X4_31 (v := .ref (g_ad G (a0 + 6))) rfl dX4_ringSet_23 ?_
      refine lv_iload_n hx hb dX4_ringSet_26 rfl (lv_at hl 2 rfl) ?_
      obtain ⟨j2, hj2, gj2, hF⟩ := ix_e hF
      refine x_iald cx hW (kd_v h0 (j := 6) (by decide) (by decide)) (by decide) hj2 gj2 dX4_ringSet_27 ?_
      refine lv_istore_n (lv' := [(3, .int (m_I M (a0 + 6) j2)), (2, .int (x2 ||| ((1 : Int32) <<< (x3 &&& 31)))), (0, .ref (g_ad G a0)), (4, .int x4)]) hx hb dX4_ringSet_28 rfl hl (by decide) rfl (fun ls hl => ?_)
      refine lv_iinc (v := (x4 + 1)) (lv' := [(4, .int (x4 + 1)), (3, .int (m_I M (a0 + 6) j2)), (2, .int (x2 ||| ((1 : Int32) <<< (x3 &&& 31)))), (0, .ref (g_ad G a0))]) hx hb dX4_ringSet_29 hl (k := 3) rfl rfl (by decide) rfl (fun ls hl => ?_)
      refine lv_goto (tgt := 7) hx hb dX4_ringSet_32 (by decide) ?_
      exact ih (x2 ||| ((1 : Int32) <<< (x3 &&& 31))) (m_I M (a0 + 6) j2) (x4 + 1) hF _ _ _ hW hS (lv_sub hl [3, 2, 1, 0] rfl)
def F_X4_ringSet (a0 : Nat) (a1 : Int32) (M : Mem) : Option Int32 := F_X4_ringSet_7 a0 a1 M FU (0 : Int32) a1 (0 : Int32)
set_option maxHeartbeats 4000000 in
set_option maxRecDepth 100000 in
theorem c_X4_ringSet {l : Launch} {G : GG} {a0 : Nat} {a1 : Int32} (h0 : kd a0 = 3) {M : Mem} {r : Int32} (hF : F_X4_ringSet a0 a1 M = some r) : Met l yX4_ringSet (wz yX4_ringSet cX4_ringSet 5 (some .int)) (RM 0 0) (PreC G [.ref (g_ad G a0), .int a1] M) (QcI G r M) 0 0 (g_A G) := by
  rw [F_X4_ringSet] at hF
  refine x_start (by decide) (Nat.le_of_ble_eq_true rfl) (lv := [(0, .ref (g_ad G a0)), (1, .int a1)]) rfl ?_
  intro p e s m below meth c cx hr hW hS ls hl
  obtain ⟨hx, hb, hml, hown, hts, hKK, hSS, hlk⟩ := id cx
  refine lv_iconst (v := (0 : Int32)) hx hb dX4_ringSet_0 (by decide) ?_
  refine lv_istore_n (lv' := [(2, .int (0 : Int32)), (0, .ref (g_ad G a0)), (1, .int a1)]) hx hb dX4_ringSet_1 rfl hl (by decide) rfl (fun ls hl => ?_)
  refine lv_iload_n hx hb dX4_ringSet_2 rfl (lv_at hl 2 rfl) ?_
  refine lv_istore_n (lv' := [(3, .int a1), (2, .int (0 : Int32)), (0, .ref (g_ad G a0)), (1, .int a1)]) hx hb dX4_ringSet_3 rfl hl (by decide) rfl (fun ls hl => ?_)
  refine lv_iconst (v := (0 : Int32)) hx hb dX4_ringSet_4 (by decide) ?_
  refine lv_istore (lv' := [(4, .int (0 : Int32)), (3, .int a1), (2, .int (0 : Int32)), (0, .ref (g_ad G a0)), (1, .int a1)]) hx hb dX4_ringSet_5 hl (by decide) rfl (fun ls hl => ?_)
  exact t_X4_ringSet_7 cx hr h0 FU (0 : Int32) a1 (0 : Int32) hF _ _ _ hW hS (lv_sub hl [3, 2, 1, 0] rfl)
def F_X4_isLotRight_2 (a0 : Nat) (M : Mem) : Nat → Int32 → Option Int32
  | 0, _ => none
  | n + 1, x1 => (if (m_I M a0 2) ≤ x1 then some (1 : Int32) else ix 8 x1 (fun j2 => (F_X4_areAlike a0 x1 (m_I M (a0 + 6) j2) M).bind (fun r4 => (if r4 = 0 then some (0 : Int32) else F_X4_isLotRight_2 a0 M n (x1 + 1)))))
set_option maxHeartbeats 4000000 in
set_option maxRecDepth 100000 in
theorem t_X4_isLotRight_2 {p : Program} {l : Launch} {e : Env} {s : State} {m : MethodId} {args : Array Value} {below : List Frame} {meth : Method} {c : Code} {G : GG} {a0 : Nat} (cx : Cx G cX4_isLotRight RX4 2 p s m args meth c) (hr : meth.sig.returnType = (some .boolean)) (h0 : kd a0 = 3)  {M : Mem} {r : Int32} : ∀ (n : Nat) (x1 : Int32), F_X4_isLotRight_2 a0 M n x1 = some r → ∀ (H : Heap) (locs : List Loc) (ls : Array Slot), WH G M H → va_S (g_A G) s.heap H locs → lv_has ls 2 [(0, .ref (g_ad G a0)), (1, .int x1)] → W p l e (RM 2 43) s m args below meth c H locs 0 0 (MQ below (QcI G r M) args s 0 0 (g_A G)) (F0 m 2 ls []) := by
  obtain ⟨hx, hb, hml, hown, hts, hKK, hSS, hlk⟩ := id cx
  intro n
  induction n with
  | zero =>
    intro x1 hF H locs ls hW hS hl
    rw [F_X4_isLotRight_2] at hF
    cases hF
  | succ n ih =>
    intro x1 hF H locs ls hW hS hl
    rw [F_X4_isLotRight_2] at hF
    refine lv_iload_n hx hb dX4_isLotRight_2 rfl (lv_at hl 1 rfl) ?_
    refine lv_aload_n hx hb dX4_isLotRight_3 rfl (lv_at hl 0 rfl) ?_
    refine x_get cx hW h0 fk_X4_49 (v := .int (m_I M a0 2)) rfl dX4_isLotRight_4 ?_
    refine lv_icmp_ge (tgt := 32) hx hb dX4_isLotRight_7 (by decide) (fun c1 => ?_) (fun c1 => ?_)
    · have hF := it_p c1 hF
      refine lv_iconst (v := (1 : Int32)) hx hb dX4_isLotRight_32 (by decide) ?_
      exact x_zret cx hr (by decide) hW hS (Option.some.inj hF) rfl dX4_isLotRight_33
    · have hF := it_n c1 hF
      refine lv_aload_n hx hb dX4_isLotRight_10 rfl (lv_at hl 0 rfl) ?_
      refine lv_iload_n hx hb dX4_isLotRight_11 rfl (lv_at hl 1 rfl) ?_
      refine lv_aload_n hx hb dX4_isLotRight_12 rfl (lv_at hl 0 rfl) ?_
      refine x_get cx hW h0 fk_X4_31 (v := .ref (g_ad G (a0 + 6))) rfl dX4_isLotRight_13 ?_
      refine lv_iload_n hx hb dX4_isLotRight_16 rfl (lv_at hl 1 rfl) ?_
      obtain ⟨j2, hj2, gj2, hF⟩ := ix_e hF
      refine x_iald cx hW (kd_v h0 (j := 6) (by decide) (by decide)) (by decide) hj2 gj2 dX4_isLotRight_17 ?_
      obtain ⟨r4, hc3, hF⟩ := bi_e hF
      refine x_goi (x_runV cx hW hS (c_X4_areAlike (l := l) (G := G) h0 hc3) cv_X4_89 h0 rfl (rest := []) ⟨Nat.le_of_ble_eq_true rfl, Nat.le_of_ble_eq_true rfl⟩ hl.1 rfl rfl (Nat.le_of_ble_eq_true rfl) ⟨Nat.zero_le _, Nat.zero_le _⟩ dX4_isLotRight_18) hS (fun H locs hW hS => ?_)
      refine lv_if_ne (tgt := 26) hx hb dX4_isLotRight_21 (by decide) (fun c5 => ?_) (fun c5 => ?_)
      · have hF := it_n c5 hF
        refine lv_iinc (v := (x1 + 1)) (lv' := [(1, .int (x1 + 1)), (0, .ref (g_ad G a0))]) hx hb dX4_isLotRight_26 hl (k := 1) rfl rfl (by decide) rfl (fun ls hl => ?_)
        refine lv_goto (tgt := 2) hx hb dX4_isLotRight_29 (by decide) ?_
        exact ih (x1 + 1) hF _ _ _ hW hS (lv_sub hl [1, 0] rfl)
      · have hF := it_p c5 hF
        refine lv_iconst (v := (0 : Int32)) hx hb dX4_isLotRight_24 (by decide) ?_
        exact x_zret cx hr (by decide) hW hS (Option.some.inj hF) rfl dX4_isLotRight_25
def F_X4_isLotRight (a0 : Nat) (M : Mem) : Option Int32 := F_X4_isLotRight_2 a0 M FU (0 : Int32)
set_option maxHeartbeats 4000000 in
set_option maxRecDepth 100000 in
theorem c_X4_isLotRight {l : Launch} {G : GG} {a0 : Nat} (h0 : kd a0 = 3) {M : Mem} {r : Int32} (hF : F_X4_isLotRight a0 M = some r) : Met l yX4_isLotRight (wz yX4_isLotRight cX4_isLotRight 2 (some .boolean)) (RM 2 43) (PreC G [.ref (g_ad G a0)] M) (QcI G r M) 0 0 (g_A G) := by
  rw [F_X4_isLotRight] at hF
  refine x_start (by decide) (Nat.le_of_ble_eq_true rfl) (lv := [(0, .ref (g_ad G a0))]) rfl ?_
  intro p e s m below meth c cx hr hW hS ls hl
  obtain ⟨hx, hb, hml, hown, hts, hKK, hSS, hlk⟩ := id cx
  refine lv_iconst (v := (0 : Int32)) hx hb dX4_isLotRight_0 (by decide) ?_
  refine lv_istore_n (lv' := [(1, .int (0 : Int32)), (0, .ref (g_ad G a0))]) hx hb dX4_isLotRight_1 rfl hl (by decide) rfl (fun ls hl => ?_)
  exact t_X4_isLotRight_2 cx hr h0 FU (0 : Int32) hF _ _ _ hW hS (lv_sub hl [1, 0] rfl)
def F_X4_holder_2 (a0 : Nat) (a1 : Int32) (M : Mem) : Nat → Int32 → Option Int32
  | 0, _ => none
  | n + 1, x2 => (if (m_I M a0 2) ≤ x2 then some a1 else ix 8 x2 (fun j2 => (if (m_I M (a0 + 6) j2) = a1 then some x2 else F_X4_holder_2 a0 a1 M n (x2 + 1))))
set_option maxHeartbeats 4000000 in
set_option maxRecDepth 100000 in
theorem t_X4_holder_2 {p : Program} {l : Launch} {e : Env} {s : State} {m : MethodId} {args : Array Value} {below : List Frame} {meth : Method} {c : Code} {G : GG} {a0 : Nat} {a1 : Int32} (cx : Cx G cX4_holder RX4 3 p s m args meth c) (hr : meth.sig.returnType = (some .int)) (h0 : kd a0 = 3)  {M : Mem} {r : Int32} : ∀ (n : Nat) (x2 : Int32), F_X4_holder_2 a0 a1 M n x2 = some r → ∀ (H : Heap) (locs : List Loc) (ls : Array Slot), WH G M H → va_S (g_A G) s.heap H locs → lv_has ls 3 [(0, .ref (g_ad G a0)), (1, .int a1), (2, .int x2)] → W p l e (RM 0 0) s m args below meth c H locs 0 0 (MQ below (QcI G r M) args s 0 0 (g_A G)) (F0 m 2 ls []) := by
  obtain ⟨hx, hb, hml, hown, hts, hKK, hSS, hlk⟩ := id cx
  intro n
  induction n with
  | zero =>
    intro x2 hF H locs ls hW hS hl
    rw [F_X4_holder_2] at hF
    cases hF
  | succ n ih =>
    intro x2 hF H locs ls hW hS hl
    rw [F_X4_holder_2] at hF
    refine lv_iload_n hx hb dX4_holder_2 rfl (lv_at hl 2 rfl) ?_
    refine lv_aload_n hx hb dX4_holder_3 rfl (lv_at hl 0 rfl) ?_
    refine x_get cx hW h0 fk_X4_49 (v := .int (m_I M a0 2)) rfl dX4_holder_4 ?_
    refine lv_icmp_ge (tgt := 28) hx hb dX4_holder_7 (by decide) (fun c1 => ?_) (fun c1 => ?_)
    · have hF := it_p c1 hF
      refine lv_iload_n hx hb dX4_holder_28 rfl (lv_at hl 1 rfl) ?_
      exact x_iret cx hr hW hS (Option.some.inj hF) rfl dX4_holder_29
    · have hF := it_n c1 hF
      refine lv_aload_n hx hb dX4_holder_10 rfl (lv_at hl 0 rfl) ?_
      refine x_get cx hW h0 fk_X4_31 (v := .ref (g_ad G (a0 + 6))) rfl dX4_holder_11 ?_
      refine lv_iload_n hx hb dX4_holder_14 rfl (lv_at hl 2 rfl) ?_
      obtain ⟨j2, hj2, gj2, hF⟩ := ix_e hF
      refine x_iald cx hW (kd_v h0 (j := 6) (by decide) (by decide)) (by decide) hj2 gj2 dX4_holder_15 ?_
      refine lv_iload_n hx hb dX4_holder_16 rfl (lv_at hl 1 rfl) ?_
      refine lv_icmp_ne (tgt := 22) hx hb dX4_holder_17 (by decide) (fun c3 => ?_) (fun c3 => ?_)
      · have hF := it_n c3 hF
        refine lv_iinc (v := (x2 + 1)) (lv' := [(2, .int (x2 + 1)), (0, .ref (g_ad G a0)), (1, .int a1)]) hx hb dX4_holder_22 hl (k := 2) rfl rfl (by decide) rfl (fun ls hl => ?_)
        refine lv_goto (tgt := 2) hx hb dX4_holder_25 (by decide) ?_
        exact ih (x2 + 1) hF _ _ _ hW hS (lv_sub hl [1, 2, 0] rfl)
      · have hF := it_p c3 hF
        refine lv_iload_n hx hb dX4_holder_20 rfl (lv_at hl 2 rfl) ?_
        exact x_iret cx hr hW hS (Option.some.inj hF) rfl dX4_holder_21
def F_X4_holder (a0 : Nat) (a1 : Int32) (M : Mem) : Option Int32 := F_X4_holder_2 a0 a1 M FU (0 : Int32)
set_option maxHeartbeats 4000000 in
set_option maxRecDepth 100000 in
theorem c_X4_holder {l : Launch} {G : GG} {a0 : Nat} {a1 : Int32} (h0 : kd a0 = 3) {M : Mem} {r : Int32} (hF : F_X4_holder a0 a1 M = some r) : Met l yX4_holder (wz yX4_holder cX4_holder 3 (some .int)) (RM 0 0) (PreC G [.ref (g_ad G a0), .int a1] M) (QcI G r M) 0 0 (g_A G) := by
  rw [F_X4_holder] at hF
  refine x_start (by decide) (Nat.le_of_ble_eq_true rfl) (lv := [(0, .ref (g_ad G a0)), (1, .int a1)]) rfl ?_
  intro p e s m below meth c cx hr hW hS ls hl
  obtain ⟨hx, hb, hml, hown, hts, hKK, hSS, hlk⟩ := id cx
  refine lv_iconst (v := (0 : Int32)) hx hb dX4_holder_0 (by decide) ?_
  refine lv_istore_n (lv' := [(2, .int (0 : Int32)), (0, .ref (g_ad G a0)), (1, .int a1)]) hx hb dX4_holder_1 rfl hl (by decide) rfl (fun ls hl => ?_)
  exact t_X4_holder_2 cx hr h0 FU (0 : Int32) hF _ _ _ hW hS (lv_sub hl [1, 2, 0] rfl)
def F_X4_exchange (a0 : Nat) (a1 : Int32) (a2 : Int32) (M : Mem) : Option Mem := ix 8 a1 (fun j1 => ix 8 a2 (fun j2 => ix 8 a1 (fun j3 => pin (w_I M (a0 + 6) j3 (m_I M (a0 + 6) j2)) (fun M4 => ix 8 a2 (fun j5 => pin (w_I M4 (a0 + 6) j5 (m_I M (a0 + 6) j1)) (fun M6 => some M6))))))
set_option maxHeartbeats 4000000 in
set_option maxRecDepth 100000 in
theorem c_X4_exchange {l : Launch} {G : GG} {a0 : Nat} {a1 : Int32} {a2 : Int32} (h0 : kd a0 = 3) {M : Mem} {M1 : Mem} (hF : F_X4_exchange a0 a1 a2 M = some M1) : Met l yX4_exchange (wz yX4_exchange cX4_exchange 4 none) (RM 0 0) (PreC G [.ref (g_ad G a0), .int a1, .int a2] M) (QcV G M1) 0 0 (g_A G) := by
  rw [F_X4_exchange] at hF
  refine x_start (by decide) (Nat.le_of_ble_eq_true rfl) (lv := [(0, .ref (g_ad G a0)), (1, .int a1), (2, .int a2)]) rfl ?_
  intro p e s m below meth c cx hr hW hS ls hl
  obtain ⟨hx, hb, hml, hown, hts, hKK, hSS, hlk⟩ := id cx
  refine lv_aload_n hx hb dX4_exchange_0 rfl (lv_at hl 0 rfl) ?_
  refine x_get cx hW h0 fk_X4_31 (v := .ref (g_ad G (a0 + 6))) rfl dX4_exchange_1 ?_
  refine lv_iload_n hx hb dX4_exchange_4 rfl (lv_at hl 1 rfl) ?_
  obtain ⟨j1, hj1, gj1, hF⟩ := ix_e hF
  refine x_iald cx hW (kd_v h0 (j := 6) (by decide) (by decide)) (by decide) hj1 gj1 dX4_exchange_5 ?_
  refine lv_istore_n (lv' := [(3, .int (m_I M (a0 + 6) j1)), (0, .ref (g_ad G a0)), (1, .int a1), (2, .int a2)]) hx hb dX4_exchange_6 rfl hl (by decide) rfl (fun ls hl => ?_)
  refine lv_aload_n hx hb dX4_exchange_7 rfl (lv_at hl 1 rfl) ?_
  refine x_get cx hW h0 fk_X4_31 (v := .ref (g_ad G (a0 + 6))) rfl dX4_exchange_8 ?_
  refine lv_iload_n hx hb dX4_exchange_11 rfl (lv_at hl 2 rfl) ?_
  refine lv_aload_n hx hb dX4_exchange_12 rfl (lv_at hl 1 rfl) ?_
  refine x_get cx hW h0 fk_X4_31 (v := .ref (g_ad G (a0 + 6))) rfl dX4_exchange_13 ?_
  refine lv_iload_n hx hb dX4_exchange_16 rfl (lv_at hl 3 rfl) ?_
  obtain ⟨j2, hj2, gj2, hF⟩ := ix_e hF
  refine x_iald cx hW (kd_v h0 (j := 6) (by decide) (by decide)) (by decide) hj2 gj2 dX4_exchange_17 ?_
  obtain ⟨j3, hj3, gj3, hF⟩ := ix_e hF
  obtain ⟨M4, eM4, hF⟩ := pin_e hF
  refine x_iast cx hW hS (kd_v h0 (j := 6) (by decide) (by decide)) (by decide) hj3 gj3 eM4 dX4_exchange_18 (fun H locs hW hS => ?_)
  refine lv_aload_n hx hb dX4_exchange_19 rfl (lv_at hl 1 rfl) ?_
  refine x_get cx hW h0 fk_X4_31 (v := .ref (g_ad G (a0 + 6))) rfl dX4_exchange_20 ?_
  refine lv_iload_n hx hb dX4_exchange_23 rfl (lv_at hl 3 rfl) ?_
  refine lv_iload_n hx hb dX4_exchange_24 rfl (lv_at hl 0 rfl) ?_
  obtain ⟨j5, hj5, gj5, hF⟩ := ix_e hF
  obtain ⟨M6, eM6, hF⟩ := pin_e hF
  refine x_iast cx hW hS (kd_v h0 (j := 6) (by decide) (by decide)) (by decide) hj5 gj5 eM6 dX4_exchange_25 (fun H locs hW hS => ?_)
  exact x_vret cx hr hW hS (Option.some.inj hF) dX4_exchange_26
def F_X4_goHome_2 (a0 : Nat) : Nat → Int32 → Mem → Option Mem
  | 0, _, _ => none
  | n + 1, x1, M => (if (m_I M a0 2) ≤ x1 then some M else ix 8 x1 (fun j2 => pin (w_I M (a0 + 6) j2 x1) (fun M3 => F_X4_goHome_2 a0 n (x1 + 1) M3)))
set_option maxHeartbeats 4000000 in
set_option maxRecDepth 100000 in
theorem t_X4_goHome_2 {p : Program} {l : Launch} {e : Env} {s : State} {m : MethodId} {args : Array Value} {below : List Frame} {meth : Method} {c : Code} {G : GG} {a0 : Nat} (cx : Cx G cX4_goHome RX4 2 p s m args meth c) (hr : meth.sig.returnType = none) (h0 : kd a0 = 3)  {M1 : Mem} : ∀ (n : Nat) (x1 : Int32) (M : Mem), F_X4_goHome_2 a0 n x1 M = some M1 → ∀ (H : Heap) (locs : List Loc) (ls : Array Slot), WH G M H → va_S (g_A G) s.heap H locs → lv_has ls 2 [(0, .ref (g_ad G a0)), (1, .int x1)] → W p l e (RM 0 0) s m args below meth c H locs 0 0 (MQ below (QcV G M1) args s 0 0 (g_A G)) (F0 m 2 ls []) := by
  obtain ⟨hx, hb, hml, hown, hts, hKK, hSS, hlk⟩ := id cx
  intro n
  induction n with
  | zero =>
    intro x1 M hF H locs ls hW hS hl
    rw [F_X4_goHome_2] at hF
    cases hF
  | succ n ih =>
    intro x1 M hF H locs ls hW hS hl
    rw [F_X4_goHome_2] at hF
    refine lv_iload_n hx hb dX4_goHome_2 rfl (lv_at hl 1 rfl) ?_
    refine lv_aload_n hx hb dX4_goHome_3 rfl (lv_at hl 0 rfl) ?_
    refine x_get cx hW h0 fk_X4_49 (v := .int (m_I M a0 2)) rfl dX4_goHome_4 ?_
    refine lv_icmp_ge (tgt := 23) hx hb dX4_goHome_7 (by decide) (fun c1 => ?_) (fun c1 => ?_)
    · have hF := it_p c1 hF
      exact x_vret cx hr hW hS (Option.some.inj hF) dX4_goHome_23
    · have hF := it_n c1 hF
      refine lv_aload_n hx hb dX4_goHome_10 rfl (lv_at hl 0 rfl) ?_
      refine x_get cx hW h0 fk_X4_31 (v := .ref (g_ad G (a0 + 6))) rfl dX4_goHome_11 ?_
      refine lv_iload_n hx hb dX4_goHome_14 rfl (lv_at hl 1 rfl) ?_
      refine lv_iload_n hx hb dX4_goHome_15 rfl (lv_at hl 1 rfl) ?_
      obtain ⟨j2, hj2, gj2, hF⟩ := ix_e hF
      obtain ⟨M3, eM3, hF⟩ := pin_e hF
      refine x_iast cx hW hS (kd_v h0 (j := 6) (by decide) (by decide)) (by decide) hj2 gj2 eM3 dX4_goHome_16 (fun H locs hW hS => ?_)
      refine lv_iinc (v := (x1 + 1)) (lv' := [(1, .int (x1 + 1)), (0, .ref (g_ad G a0))]) hx hb dX4_goHome_17 hl (k := 1) rfl rfl (by decide) rfl (fun ls hl => ?_)
      refine lv_goto (tgt := 2) hx hb dX4_goHome_20 (by decide) ?_
      exact ih (x1 + 1) M3 hF _ _ _ hW hS (lv_sub hl [1, 0] rfl)
def F_X4_goHome (a0 : Nat) (M : Mem) : Option Mem := F_X4_goHome_2 a0 FU (0 : Int32) M
set_option maxHeartbeats 4000000 in
set_option maxRecDepth 100000 in
theorem c_X4_goHome {l : Launch} {G : GG} {a0 : Nat} (h0 : kd a0 = 3) {M : Mem} {M1 : Mem} (hF : F_X4_goHome a0 M = some M1) : Met l yX4_goHome (wz yX4_goHome cX4_goHome 2 none) (RM 0 0) (PreC G [.ref (g_ad G a0)] M) (QcV G M1) 0 0 (g_A G) := by
  rw [F_X4_goHome] at hF
  refine x_start (by decide) (Nat.le_of_ble_eq_true rfl) (lv := [(0, .ref (g_ad G a0))]) rfl ?_
  intro p e s m below meth c cx hr hW hS ls hl
  obtain ⟨hx, hb, hml, hown, hts, hKK, hSS, hlk⟩ := id cx
  refine lv_iconst (v := (0 : Int32)) hx hb dX4_goHome_0 (by decide) ?_
  refine lv_istore_n (lv' := [(1, .int (0 : Int32)), (0, .ref (g_ad G a0))]) hx hb dX4_goHome_1 rfl hl (by decide) rfl (fun ls hl => ?_)
  exact t_X4_goHome_2 cx hr h0 FU (0 : Int32) M hF _ _ _ hW hS (lv_sub hl [1, 0] rfl)
def F_X4_drawAmong (a0 : Nat) (a1 : Int32) (M : Mem) : Option (Int32 × Mem) := pin (w_I M a0 1 (((m_I M a0 1) * (1103515245 : Int32)) + (12345 : Int32))) (fun M1 => (if a1 ≤ 0 then some ((0 : Int32), M1) else dv a1 (some (((((m_I M1 a0 1).toUInt32 >>> ((16 : Int32).toUInt32 &&& Int32.toUInt32 31)).toInt32) - (((m_I M1 a0 1).toUInt32 >>> ((16 : Int32).toUInt32 &&& Int32.toUInt32 31)).toInt32) / a1 * a1), M1))))
set_option maxHeartbeats 4000000 in
set_option maxRecDepth 100000 in
theorem c_X4_drawAmong {l : Launch} {G : GG} {a0 : Nat} {a1 : Int32} (h0 : kd a0 = 3) {M : Mem} {r : Int32} {M1 : Mem} (hF : F_X4_drawAmong a0 a1 M = some (r, M1)) : Met l yX4_drawAmong (wz yX4_drawAmong cX4_drawAmong 2 (some .int)) (RM 0 0) (PreC G [.ref (g_ad G a0), .int a1] M) (QcI G r M1) 0 0 (g_A G) := by
  rw [F_X4_drawAmong] at hF
  refine x_start (by decide) (Nat.le_of_ble_eq_true rfl) (lv := [(0, .ref (g_ad G a0)), (1, .int a1)]) rfl ?_
  intro p e s m below meth c cx hr hW hS ls hl
  obtain ⟨hx, hb, hml, hown, hts, hKK, hSS, hlk⟩ := id cx
  refine lv_aload_n hx hb dX4_drawAmong_0 rfl (lv_at hl 0 rfl) ?_
  refine lv_aload_n hx hb dX4_drawAmong_1 rfl (lv_at hl 0 rfl) ?_
  refine x_get cx hW h0 fk_X4_9 (v := .int (m_I M a0 1)) rfl dX4_drawAmong_2 ?_
  refine x_ldc cx q_k_X4_107 dX4_drawAmong_5 ?_
  refine lv_imul hx hb dX4_drawAmong_7 ?_
  refine lv_sipush (v := (12345 : Int32)) hx hb dX4_drawAmong_8 (by decide) ?_
  refine lv_iadd hx hb dX4_drawAmong_11 ?_
  obtain ⟨M1, eM1, hF⟩ := pin_e hF
  refine x_puti cx hW hS h0 fk_X4_9 ft_3_1 (Nat.le_of_ble_eq_true rfl) fs_3_1 eM1 dX4_drawAmong_12 (fun H locs hW hS => ?_)
  refine lv_iload_n hx hb dX4_drawAmong_15 rfl (lv_at hl 1 rfl) ?_
  refine lv_if_le (tgt := 31) hx hb dX4_drawAmong_16 (by decide) (fun c2 => ?_) (fun c2 => ?_)
  · have hF := it_p c2 hF
    refine lv_iconst (v := (0 : Int32)) hx hb dX4_drawAmong_31 (by decide) ?_
    exact x_iret cx hr hW hS (sp_1 hF) (sp_2 hF) dX4_drawAmong_32
  · have hF := it_n c2 hF
    refine lv_aload_n hx hb dX4_drawAmong_19 rfl (lv_at hl 0 rfl) ?_
    refine x_get cx hW h0 fk_X4_9 (v := .int (m_I M1 a0 1)) rfl dX4_drawAmong_20 ?_
    refine lv_bipush (v := (16 : Int32)) hx hb dX4_drawAmong_23 (by decide) ?_
    refine lv_iushr hx hb dX4_drawAmong_25 rfl ?_
    refine lv_iload_n hx hb dX4_drawAmong_26 rfl (lv_at hl 1 rfl) ?_
    obtain ⟨d3, hF⟩ := dv_e hF
    refine lv_irem hx hb dX4_drawAmong_27 d3 ?_
    refine lv_goto (tgt := 32) hx hb dX4_drawAmong_28 (by decide) ?_
    exact x_iret cx hr hW hS (sp_1 hF) (sp_2 hF) dX4_drawAmong_32
def F_X4_shuffle_41 (a0 : Nat) (a1 : Int32) : Nat → Int32 → Mem → Option Mem
  | 0, _, _ => none
  | n + 1, x3, M => (if x3 < (1 : Int32) then some M else ix 8 x3 (fun j3 => bn (F_X4_drawAmong a0 (x3 + (1 : Int32)) M) (fun r5 M6 => ix 8 r5 (fun j7 => (F_X4_exchange a0 (m_I M (a0 + 10) j3) (m_I M6 (a0 + 10) j7) M6).bind (fun M9 => F_X4_shuffle_41 a0 a1 n (x3 + (-1 : Int32)) M9)))))
set_option maxHeartbeats 4000000 in
set_option maxRecDepth 100000 in
theorem t_X4_shuffle_41 {p : Program} {l : Launch} {e : Env} {s : State} {m : MethodId} {args : Array Value} {below : List Frame} {meth : Method} {c : Code} {G : GG} {a0 : Nat} {a1 : Int32} (cx : Cx G cX4_shuffle RX4 4 p s m args meth c) (hr : meth.sig.returnType = none) (h0 : kd a0 = 3)  {M1 : Mem} : ∀ (n : Nat) (x3 : Int32) (M : Mem), F_X4_shuffle_41 a0 a1 n x3 M = some M1 → ∀ (H : Heap) (locs : List Loc) (ls : Array Slot), WH G M H → va_S (g_A G) s.heap H locs → lv_has ls 4 [(0, .ref (g_ad G a0)), (3, .int x3)] → W p l e (RM 1 23) s m args below meth c H locs 0 0 (MQ below (QcV G M1) args s 0 0 (g_A G)) (F0 m 41 ls []) := by
  obtain ⟨hx, hb, hml, hown, hts, hKK, hSS, hlk⟩ := id cx
  intro n
  induction n with
  | zero =>
    intro x3 M hF H locs ls hW hS hl
    rw [F_X4_shuffle_41] at hF
    cases hF
  | succ n ih =>
    intro x3 M hF H locs ls hW hS hl
    rw [F_X4_shuffle_41] at hF
    refine lv_iload_n hx hb dX4_shuffle_41 rfl (lv_at hl 1 rfl) ?_
    refine lv_iconst (v := (1 : Int32)) hx hb dX4_shuffle_42 (by decide) ?_
    refine lv_icmp_lt (tgt := 74) hx hb dX4_shuffle_43 (by decide) (fun c2 => ?_) (fun c2 => ?_)
    · have hF := it_p c2 hF
      exact x_vret cx hr hW hS (Option.some.inj hF) dX4_shuffle_74
    · have hF := it_n c2 hF
      refine lv_aload_n hx hb dX4_shuffle_46 rfl (lv_at hl 0 rfl) ?_
      refine lv_aload_n hx hb dX4_shuffle_47 rfl (lv_at hl 0 rfl) ?_
      refine x_get cx hW h0 fk_X4_43 (v := .ref (g_ad G (a0 + 10))) rfl dX4_shuffle_48 ?_
      refine lv_iload_n hx hb dX4_shuffle_51 rfl (lv_at hl 1 rfl) ?_
      obtain ⟨j3, hj3, gj3, hF⟩ := ix_e hF
      refine x_iald cx hW (kd_v h0 (j := 10) (by decide) (by decide)) (by decide) hj3 gj3 dX4_shuffle_52 ?_
      refine lv_aload_n hx hb dX4_shuffle_53 rfl (lv_at hl 0 rfl) ?_
      refine x_get cx hW h0 fk_X4_43 (v := .ref (g_ad G (a0 + 10))) rfl dX4_shuffle_54 ?_
      refine lv_aload_n hx hb dX4_shuffle_57 rfl (lv_at hl 0 rfl) ?_
      refine lv_iload_n hx hb dX4_shuffle_58 rfl (lv_at hl 1 rfl) ?_
      refine lv_iconst (v := (1 : Int32)) hx hb dX4_shuffle_59 (by decide) ?_
      refine lv_iadd hx hb dX4_shuffle_60 ?_
      obtain ⟨r5, M6, hc4, hF⟩ := bn_e hF
      refine x_goi (x_runV cx hW hS (c_X4_drawAmong (l := l) (G := G) h0 hc4) cv_X4_100 h0 rfl (rest := [.ref (g_ad G (a0 + 10)), .int (m_I M (a0 + 10) j3), .ref (g_ad G a0)]) ⟨Nat.le_of_ble_eq_true rfl, Nat.le_of_ble_eq_true rfl⟩ hl.1 rfl rfl (Nat.le_of_ble_eq_true rfl) ⟨Nat.zero_le _, Nat.zero_le _⟩ dX4_shuffle_61) hS (fun H locs hW hS => ?_)
      obtain ⟨j7, hj7, gj7, hF⟩ := ix_e hF
      refine x_iald cx hW (kd_v h0 (j := 10) (by decide) (by decide)) (by decide) hj7 gj7 dX4_shuffle_64 ?_
      obtain ⟨M9, hc8, hF⟩ := bi_e hF
      refine x_gov (x_runV cx hW hS (c_X4_exchange (l := l) (G := G) h0 hc8) cv_X4_103 h0 rfl (rest := []) ⟨Nat.le_of_ble_eq_true rfl, Nat.le_of_ble_eq_true rfl⟩ hl.1 rfl rfl (Nat.le_of_ble_eq_true rfl) ⟨Nat.zero_le _, Nat.zero_le _⟩ dX4_shuffle_65) hS (fun H locs hW hS => ?_)
      refine lv_iinc (v := (x3 + (-1 : Int32))) (lv' := [(3, .int (x3 + (-1 : Int32))), (0, .ref (g_ad G a0))]) hx hb dX4_shuffle_68 hl (k := 1) rfl rfl (by decide) rfl (fun ls hl => ?_)
      refine lv_goto (tgt := 41) hx hb dX4_shuffle_71 (by decide) ?_
      exact ih (x3 + (-1 : Int32)) M9 hF _ _ _ hW hS (lv_sub hl [1, 0] rfl)
def F_X4_shuffle_4 (a0 : Nat) (a1 : Int32) : Nat → Int32 → Int32 → Mem → Option Mem
  | 0, _, _, _ => none
  | n + 1, x2, x3, M => (if (m_I M a0 2) ≤ x3 then F_X4_shuffle_41 a0 a1 FU (x2 - (1 : Int32)) M else (F_X4_isChild a0 x3 M).bind (fun r11 => (if r11 = a1 then ix 8 x2 (fun j13 => pin (w_I M (a0 + 10) j13 x3) (fun M14 => F_X4_shuffle_4 a0 a1 n (x2 + 1) (x3 + 1) M14)) else F_X4_shuffle_4 a0 a1 n x2 (x3 + 1) M)))
set_option maxHeartbeats 4000000 in
set_option maxRecDepth 100000 in
theorem t_X4_shuffle_4 {p : Program} {l : Launch} {e : Env} {s : State} {m : MethodId} {args : Array Value} {below : List Frame} {meth : Method} {c : Code} {G : GG} {a0 : Nat} {a1 : Int32} (cx : Cx G cX4_shuffle RX4 4 p s m args meth c) (hr : meth.sig.returnType = none) (h0 : kd a0 = 3)  {M1 : Mem} : ∀ (n : Nat) (x2 : Int32) (x3 : Int32) (M : Mem), F_X4_shuffle_4 a0 a1 n x2 x3 M = some M1 → ∀ (H : Heap) (locs : List Loc) (ls : Array Slot), WH G M H → va_S (g_A G) s.heap H locs → lv_has ls 4 [(0, .ref (g_ad G a0)), (1, .int a1), (2, .int x2), (3, .int x3)] → W p l e (RM 1 23) s m args below meth c H locs 0 0 (MQ below (QcV G M1) args s 0 0 (g_A G)) (F0 m 4 ls []) := by
  obtain ⟨hx, hb, hml, hown, hts, hKK, hSS, hlk⟩ := id cx
  intro n
  induction n with
  | zero =>
    intro x2 x3 M hF H locs ls hW hS hl
    rw [F_X4_shuffle_4] at hF
    cases hF
  | succ n ih =>
    intro x2 x3 M hF H locs ls hW hS hl
    rw [F_X4_shuffle_4] at hF
    refine lv_iload_n hx hb dX4_shuffle_4 rfl (lv_at hl 3 rfl) ?_
    refine lv_aload_n hx hb dX4_shuffle_5 rfl (lv_at hl 0 rfl) ?_
    refine x_get cx hW h0 fk_X4_49 (v := .int (m_I M a0 2)) rfl dX4_shuffle_6 ?_
    refine lv_icmp_ge (tgt := 37) hx hb dX4_shuffle_9 (by decide) (fun c1 => ?_) (fun c1 => ?_)
    · have hF := it_p c1 hF
      refine lv_iload_n hx hb dX4_shuffle_37 rfl (lv_at hl 2 rfl) ?_
      refine lv_iconst (v := (1 : Int32)) hx hb dX4_shuffle_38 (by decide) ?_
      refine lv_isub hx hb dX4_shuffle_39 ?_
      refine lv_istore_n (lv' := [(3, .int (x2 - (1 : Int32))), (0, .ref (g_ad G a0)), (1, .int a1), (2, .int x2)]) hx hb dX4_shuffle_40 rfl hl (by decide) rfl (fun ls hl => ?_)
      exact t_X4_shuffle_41 cx hr h0 FU (x2 - (1 : Int32)) M hF _ _ _ hW hS (lv_sub hl [1, 0] rfl)
    · have hF := it_n c1 hF
      refine lv_aload_n hx hb dX4_shuffle_12 rfl (lv_at hl 0 rfl) ?_
      refine lv_iload_n hx hb dX4_shuffle_13 rfl (lv_at hl 3 rfl) ?_
      obtain ⟨r11, hc10, hF⟩ := bi_e hF
      refine x_goi (x_runV cx hW hS (c_X4_isChild (l := l) (G := G) h0 hc10) cv_X4_58 h0 rfl (rest := []) ⟨Nat.le_of_ble_eq_true rfl, Nat.le_of_ble_eq_true rfl⟩ hl.1 rfl rfl (Nat.le_of_ble_eq_true rfl) ⟨Nat.zero_le _, Nat.zero_le _⟩ dX4_shuffle_14) hS (fun H locs hW hS => ?_)
      refine lv_iload_n hx hb dX4_shuffle_17 rfl (lv_at hl 1 rfl) ?_
      refine lv_icmp_ne (tgt := 31) hx hb dX4_shuffle_18 (by decide) (fun c12 => ?_) (fun c12 => ?_)
      · have hF := it_n c12 hF
        refine lv_iinc (v := (x3 + 1)) (lv' := [(3, .int (x3 + 1)), (0, .ref (g_ad G a0)), (1, .int a1), (2, .int x2)]) hx hb dX4_shuffle_31 hl (k := 3) rfl rfl (by decide) rfl (fun ls hl => ?_)
        refine lv_goto (tgt := 4) hx hb dX4_shuffle_34 (by decide) ?_
        exact ih x2 (x3 + 1) M hF _ _ _ hW hS (lv_sub hl [1, 2, 3, 0] rfl)
      · have hF := it_p c12 hF
        refine lv_aload_n hx hb dX4_shuffle_21 rfl (lv_at hl 0 rfl) ?_
        refine x_get cx hW h0 fk_X4_43 (v := .ref (g_ad G (a0 + 10))) rfl dX4_shuffle_22 ?_
        refine lv_iload_n hx hb dX4_shuffle_25 rfl (lv_at hl 2 rfl) ?_
        refine lv_iload_n hx hb dX4_shuffle_26 rfl (lv_at hl 3 rfl) ?_
        obtain ⟨j13, hj13, gj13, hF⟩ := ix_e hF
        obtain ⟨M14, eM14, hF⟩ := pin_e hF
        refine x_iast cx hW hS (kd_v h0 (j := 10) (by decide) (by decide)) (by decide) hj13 gj13 eM14 dX4_shuffle_27 (fun H locs hW hS => ?_)
        refine lv_iinc (v := (x2 + 1)) (lv' := [(2, .int (x2 + 1)), (0, .ref (g_ad G a0)), (1, .int a1), (3, .int x3)]) hx hb dX4_shuffle_28 hl (k := 2) rfl rfl (by decide) rfl (fun ls hl => ?_)
        refine lv_iinc (v := (x3 + 1)) (lv' := [(3, .int (x3 + 1)), (2, .int (x2 + 1)), (0, .ref (g_ad G a0)), (1, .int a1)]) hx hb dX4_shuffle_31 hl (k := 3) rfl rfl (by decide) rfl (fun ls hl => ?_)
        refine lv_goto (tgt := 4) hx hb dX4_shuffle_34 (by decide) ?_
        exact ih (x2 + 1) (x3 + 1) M14 hF _ _ _ hW hS (lv_sub hl [2, 3, 1, 0] rfl)
def F_X4_shuffle (a0 : Nat) (a1 : Int32) (M : Mem) : Option Mem := F_X4_shuffle_4 a0 a1 FU (0 : Int32) (0 : Int32) M
set_option maxHeartbeats 4000000 in
set_option maxRecDepth 100000 in
theorem c_X4_shuffle {l : Launch} {G : GG} {a0 : Nat} {a1 : Int32} (h0 : kd a0 = 3) {M : Mem} {M1 : Mem} (hF : F_X4_shuffle a0 a1 M = some M1) : Met l yX4_shuffle (wz yX4_shuffle cX4_shuffle 4 none) (RM 1 23) (PreC G [.ref (g_ad G a0), .int a1] M) (QcV G M1) 0 0 (g_A G) := by
  rw [F_X4_shuffle] at hF
  refine x_start (by decide) (Nat.le_of_ble_eq_true rfl) (lv := [(0, .ref (g_ad G a0)), (1, .int a1)]) rfl ?_
  intro p e s m below meth c cx hr hW hS ls hl
  obtain ⟨hx, hb, hml, hown, hts, hKK, hSS, hlk⟩ := id cx
  refine lv_iconst (v := (0 : Int32)) hx hb dX4_shuffle_0 (by decide) ?_
  refine lv_istore_n (lv' := [(2, .int (0 : Int32)), (0, .ref (g_ad G a0)), (1, .int a1)]) hx hb dX4_shuffle_1 rfl hl (by decide) rfl (fun ls hl => ?_)
  refine lv_iconst (v := (0 : Int32)) hx hb dX4_shuffle_2 (by decide) ?_
  refine lv_istore_n (lv' := [(3, .int (0 : Int32)), (2, .int (0 : Int32)), (0, .ref (g_ad G a0)), (1, .int a1)]) hx hb dX4_shuffle_3 rfl hl (by decide) rfl (fun ls hl => ?_)
  exact t_X4_shuffle_4 cx hr h0 FU (0 : Int32) (0 : Int32) M hF _ _ _ hW hS (lv_sub hl [2, 3, 1, 0] rfl)
def F_X4_drawLot (a0 : Nat) (M : Mem) : Option Mem := (F_X4_goHome a0 M).bind (fun M2 => (F_X4_shuffle a0 (0 : Int32) M2).bind (fun M4 => (F_X4_shuffle a0 (1 : Int32) M4).bind (fun M6 => some M6)))
set_option maxHeartbeats 4000000 in
set_option maxRecDepth 100000 in
theorem c_X4_drawLot {l : Launch} {G : GG} {a0 : Nat} (h0 : kd a0 = 3) {M : Mem} {M1 : Mem} (hF : F_X4_drawLot a0 M = some M1) : Met l yX4_drawLot (wz yX4_drawLot cX4_drawLot 1 none) (RM 2 46) (PreC G [.ref (g_ad G a0)] M) (QcV G M1) 0 0 (g_A G) := by
  rw [F_X4_drawLot] at hF
  refine x_start (by decide) (Nat.le_of_ble_eq_true rfl) (lv := [(0, .ref (g_ad G a0))]) rfl ?_
  intro p e s m below meth c cx hr hW hS ls hl
  obtain ⟨hx, hb, hml, hown, hts, hKK, hSS, hlk⟩ := id cx
  refine lv_aload_n hx hb dX4_drawLot_0 rfl (lv_at hl 0 rfl) ?_
  obtain ⟨M2, hc1, hF⟩ := bi_e hF
  refine x_gov (x_runV cx hW hS (c_X4_goHome (l := l) (G := G) h0 hc1) cv_X4_93 h0 rfl (rest := []) ⟨Nat.le_of_ble_eq_true rfl, Nat.le_of_ble_eq_true rfl⟩ hl.1 rfl rfl (Nat.le_of_ble_eq_true rfl) ⟨Nat.zero_le _, Nat.zero_le _⟩ dX4_drawLot_1) hS (fun H locs hW hS => ?_)
  refine lv_aload_n hx hb dX4_drawLot_4 rfl (lv_at hl 0 rfl) ?_
  refine lv_iconst (v := (0 : Int32)) hx hb dX4_drawLot_5 (by decide) ?_
  obtain ⟨M4, hc3, hF⟩ := bi_e hF
  refine x_gov (x_runV cx hW hS (c_X4_shuffle (l := l) (G := G) h0 hc3) cv_X4_96 h0 rfl (rest := []) ⟨Nat.le_of_ble_eq_true rfl, Nat.le_of_ble_eq_true rfl⟩ hl.1 rfl rfl (Nat.le_of_ble_eq_true rfl) ⟨Nat.zero_le _, Nat.zero_le _⟩ dX4_drawLot_6) hS (fun H locs hW hS => ?_)
  refine lv_aload_n hx hb dX4_drawLot_9 rfl (lv_at hl 0 rfl) ?_
  refine lv_iconst (v := (1 : Int32)) hx hb dX4_drawLot_10 (by decide) ?_
  obtain ⟨M6, hc5, hF⟩ := bi_e hF
  refine x_gov (x_runV cx hW hS (c_X4_shuffle (l := l) (G := G) h0 hc5) cv_X4_96 h0 rfl (rest := []) ⟨Nat.le_of_ble_eq_true rfl, Nat.le_of_ble_eq_true rfl⟩ hl.1 rfl rfl (Nat.le_of_ble_eq_true rfl) ⟨Nat.zero_le _, Nat.zero_le _⟩ dX4_drawLot_11) hS (fun H locs hW hS => ?_)
  exact x_vret cx hr hW hS (Option.some.inj hF) dX4_drawLot_14
def F_X4_passFriday_69 (a0 : Nat) : Nat → Int32 → Mem → Option Mem
  | 0, _, _ => none
  | n + 1, x1, M => (if (m_I M a0 2) ≤ x1 then pin (w_I M a0 0 ((m_I M a0 0) + (1 : Int32))) (fun M3 => some M3) else ix 8 x1 (fun j4 => ix 8 (m_I M (a0 + 6) j4) (fun j5 => ix 8 x1 (fun j6 => ix 8 (m_I M (a0 + 6) j4) (fun j7 => pin (w_I M (a0 + 3) j7 (if ((m_I M (a0 + 3) j5) + (m_I M (a0 + 7) j6)) < (99999 : Int32) then ((m_I M (a0 + 3) j5) + (m_I M (a0 + 7) j6)) else (99999 : Int32))) (fun M8 => ix 8 (m_I M (a0 + 6) j4) (fun j9 => ix 8 x1 (fun j10 => ix 8 (m_I M (a0 + 6) j4) (fun j11 => pin (w_I M8 (a0 + 4) j11 (if (0 : Int32) < (if ((m_I M8 (a0 + 4) j9) + (m_I M8 (a0 + 8) j10)) < (99 : Int32) then ((m_I M8 (a0 + 4) j9) + (m_I M8 (a0 + 8) j10)) else (99 : Int32)) then (if ((m_I M8 (a0 + 4) j9) + (m_I M8 (a0 + 8) j10)) < (99 : Int32) then ((m_I M8 (a0 + 4) j9) + (m_I M8 (a0 + 8) j10)) else (99 : Int32)) else (0 : Int32))) (fun M12 => ix 8 x1 (fun j13 => ix 8 x1 (fun j14 => ix 8 x1 (fun j15 => pin (w_I M12 (a0 + 5) j15 (if ((m_I M12 (a0 + 5) j13) + (m_I M12 (a0 + 9) j14)) < (99 : Int32) then ((m_I M12 (a0 + 5) j13) + (m_I M12 (a0 + 9) j14)) else (99 : Int32))) (fun M16 => F_X4_passFriday_69 a0 n (x1 + 1) M16))))))))))))))
set_option maxHeartbeats 4000000 in
set_option maxRecDepth 100000 in
theorem t_X4_passFriday_69 {p : Program} {l : Launch} {e : Env} {s : State} {m : MethodId} {args : Array Value} {below : List Frame} {meth : Method} {c : Code} {G : GG} {a0 : Nat} (cx : Cx G cX4_passFriday RX4 3 p s m args meth c) (hr : meth.sig.returnType = none) (h0 : kd a0 = 3)  {M1 : Mem} : ∀ (n : Nat) (x1 : Int32) (M : Mem), F_X4_passFriday_69 a0 n x1 M = some M1 → ∀ (H : Heap) (locs : List Loc) (ls : Array Slot), WH G M H → va_S (g_A G) s.heap H locs → lv_has ls 3 [(0, .ref (g_ad G a0)), (1, .int x1)] → W p l e (RM 4 93) s m args below meth c H locs 0 0 (MQ below (QcV G M1) args s 0 0 (g_A G)) (F0 m 69 ls []) := by
  obtain ⟨hx, hb, hml, hown, hts, hKK, hSS, hlk⟩ := id cx
  intro n
  induction n with
  | zero =>
    intro x1 M hF H locs ls hW hS hl
    rw [F_X4_passFriday_69] at hF
    cases hF
  | succ n ih =>
    intro x1 M hF H locs ls hW hS hl
    rw [F_X4_passFriday_69] at hF
    refine lv_iload_n hx hb dX4_passFriday_69 rfl (lv_at hl 1 rfl) ?_
    refine lv_aload_n hx hb dX4_passFriday_70 rfl (lv_at hl 0 rfl) ?_
    refine x_get cx hW h0 fk_X4_49 (v := .int (m_I M a0 2)) rfl dX4_passFriday_71 ?_
    refine lv_icmp_ge (tgt := 166) hx hb dX4_passFriday_74 (by decide) (fun c2 => ?_) (fun c2 => ?_)
    · have hF := it_p c2 hF
      refine lv_aload_n hx hb dX4_passFriday_166 rfl (lv_at hl 0 rfl) ?_
      refine lv_dup hx hb dX4_passFriday_167 rfl ?_
      refine x_get cx hW h0 fk_X4_46 (v := .int (m_I M a0 0)) rfl dX4_passFriday_168 ?_
      refine lv_iconst (v := (1 : Int32)) hx hb dX4_passFriday_171 (by decide) ?_
      refine lv_iadd hx hb dX4_passFriday_172 ?_
      obtain ⟨M3, eM3, hF⟩ := pin_e hF
      refine x_puti cx hW hS h0 fk_X4_46 ft_3_0 (Nat.le_of_ble_eq_true rfl) fs_3_0 eM3 dX4_passFriday_173 (fun H locs hW hS => ?_)
      exact x_vret cx hr hW hS (Option.some.inj hF) dX4_passFriday_176
    · have hF := it_n c2 hF
      refine lv_aload_n hx hb dX4_passFriday_77 rfl (lv_at hl 0 rfl) ?_
      refine x_get cx hW h0 fk_X4_31 (v := .ref (g_ad G (a0 + 6))) rfl dX4_passFriday_78 ?_
      refine lv_iload_n hx hb dX4_passFriday_81 rfl (lv_at hl 1 rfl) ?_
      obtain ⟨j4, hj4, gj4, hF⟩ := ix_e hF
      refine x_iald cx hW (kd_v h0 (j := 6) (by decide) (by decide)) (by decide) hj4 gj4 dX4_passFriday_82 ?_
      refine lv_istore_n (lv' := [(2, .int (m_I M (a0 + 6) j4)), (0, .ref (g_ad G a0)), (1, .int x1)]) hx hb dX4_passFriday_83 rfl hl (by decide) rfl (fun ls hl => ?_)
      refine lv_aload_n hx hb dX4_passFriday_84 rfl (lv_at hl 1 rfl) ?_
      refine x_get cx hW h0 fk_X4_22 (v := .ref (g_ad G (a0 + 3))) rfl dX4_passFriday_85 ?_
      refine lv_iload_n hx hb dX4_passFriday_88 rfl (lv_at hl 0 rfl) ?_
      refine x_ldc cx q_k_X4_117 dX4_passFriday_89 ?_
      refine lv_aload_n hx hb dX4_passFriday_91 rfl (lv_at hl 1 rfl) ?_
      refine x_get cx hW h0 fk_X4_22 (v := .ref (g_ad G (a0 + 3))) rfl dX4_passFriday_92 ?_
      refine lv_iload_n hx hb dX4_passFriday_95 rfl (lv_at hl 0 rfl) ?_
      obtain ⟨j5, hj5, gj5, hF⟩ := ix_e hF
      refine x_iald cx hW (kd_v h0 (j := 3) (by decide) (by decide)) (by decide) hj5 gj5 dX4_passFriday_96 ?_
      refine lv_aload_n hx hb dX4_passFriday_97 rfl (lv_at hl 1 rfl) ?_
      refine x_get cx hW h0 fk_X4_34 (v := .ref (g_ad G (a0 + 7))) rfl dX4_passFriday_98 ?_
      refine lv_iload_n hx hb dX4_passFriday_101 rfl (lv_at hl 2 rfl) ?_
      obtain ⟨j6, hj6, gj6, hF⟩ := ix_e hF
      refine x_iald cx hW (kd_v h0 (j := 7) (by decide) (by decide)) (by decide) hj6 gj6 dX4_passFriday_102 ?_
      refine lv_iadd hx hb dX4_passFriday_103 ?_
      refine x_min cx cm_X4_118 hl.1 (Nat.le_of_ble_eq_true rfl) (Nat.le_of_ble_eq_true rfl) dX4_passFriday_104 ?_
      obtain ⟨j7, hj7, gj7, hF⟩ := ix_e hF
      obtain ⟨M8, eM8, hF⟩ := pin_e hF
      refine x_iast cx hW hS (kd_v h0 (j := 3) (by decide) (by decide)) (by decide) hj7 gj7 eM8 dX4_passFriday_107 (fun H locs hW hS => ?_)
      refine lv_aload_n hx hb dX4_passFriday_108 rfl (lv_at hl 1 rfl) ?_
      refine x_get cx hW h0 fk_X4_25 (v := .ref (g_ad G (a0 + 4))) rfl dX4_passFriday_109 ?_
      refine lv_iload_n hx hb dX4_passFriday_112 rfl (lv_at hl 0 rfl) ?_
      refine lv_iconst (v := (0 : Int32)) hx hb dX4_passFriday_113 (by decide) ?_
      refine lv_bipush (v := (99 : Int32)) hx hb dX4_passFriday_114 (by decide) ?_
      refine lv_aload_n hx hb dX4_passFriday_116 rfl (lv_at hl 1 rfl) ?_
      refine x_get cx hW h0 fk_X4_25 (v := .ref (g_ad G (a0 + 4))) rfl dX4_passFriday_117 ?_
      refine lv_iload_n hx hb dX4_passFriday_120 rfl (lv_at hl 0 rfl) ?_
      obtain ⟨j9, hj9, gj9, hF⟩ := ix_e hF
      refine x_iald cx hW (kd_v h0 (j := 4) (by decide) (by decide)) (by decide) hj9 gj9 dX4_passFriday_121 ?_
      refine lv_aload_n hx hb dX4_passFriday_122 rfl (lv_at hl 1 rfl) ?_
      refine x_get cx hW h0 fk_X4_37 (v := .ref (g_ad G (a0 + 8))) rfl dX4_passFriday_123 ?_
      refine lv_iload_n hx hb dX4_passFriday_126 rfl (lv_at hl 2 rfl) ?_
      obtain ⟨j10, hj10, gj10, hF⟩ := ix_e hF
      refine x_iald cx hW (kd_v h0 (j := 8) (by decide) (by decide)) (by decide) hj10 gj10 dX4_passFriday_127 ?_
      refine lv_iadd hx hb dX4_passFriday_128 ?_
      refine x_min cx cm_X4_118 hl.1 (Nat.le_of_ble_eq_true rfl) (Nat.le_of_ble_eq_true rfl) dX4_passFriday_129 ?_
      refine x_max cx cm_X4_123 hl.1 (Nat.le_of_ble_eq_true rfl) (Nat.le_of_ble_eq_true rfl) dX4_passFriday_132 ?_
      obtain ⟨j11, hj11, gj11, hF⟩ := ix_e hF
      obtain ⟨M12, eM12, hF⟩ := pin_e hF
      refine x_iast cx hW hS (kd_v h0 (j := 4) (by decide) (by decide)) (by decide) hj11 gj11 eM12 dX4_passFriday_135 (fun H locs hW hS => ?_)
      refine lv_aload_n hx hb dX4_passFriday_136 rfl (lv_at hl 1 rfl) ?_
      refine x_get cx hW h0 fk_X4_28 (v := .ref (g_ad G (a0 + 5))) rfl dX4_passFriday_137 ?_
      refine lv_iload_n hx hb dX4_passFriday_140 rfl (lv_at hl 2 rfl) ?_
      refine lv_bipush (v := (99 : Int32)) hx hb dX4_passFriday_141 (by decide) ?_
      refine lv_aload_n hx hb dX4_passFriday_143 rfl (lv_at hl 1 rfl) ?_
      refine x_get cx hW h0 fk_X4_28 (v := .ref (g_ad G (a0 + 5))) rfl dX4_passFriday_144 ?_
      refine lv_iload_n hx hb dX4_passFriday_147 rfl (lv_at hl 2 rfl) ?_
      obtain ⟨j13, hj13, gj13, hF⟩ := ix_e hF
      refine x_iald cx hW (kd_v h0 (j := 5) (by decide) (by decide)) (by decide) hj13 gj13 dX4_passFriday_148 ?_
      refine lv_aload_n hx hb dX4_passFriday_149 rfl (lv_at hl 1 rfl) ?_
      refine x_get cx hW h0 fk_X4_40 (v := .ref (g_ad G (a0 + 9))) rfl dX4_passFriday_150 ?_
      refine lv_iload_n hx hb dX4_passFriday_153 rfl (lv_at hl 2 rfl) ?_
      obtain ⟨j14, hj14, gj14, hF⟩ := ix_e hF
      refine x_iald cx hW (kd_v h0 (j := 9) (by decide) (by decide)) (by decide) hj14 gj14 dX4_passFriday_154 ?_
      refine lv_iadd hx hb dX4_passFriday_155 ?_
      refine x_min cx cm_X4_118 hl.1 (Nat.le_of_ble_eq_true rfl) (Nat.le_of_ble_eq_true rfl) dX4_passFriday_156 ?_
      obtain ⟨j15, hj15, gj15, hF⟩ := ix_e hF
      obtain ⟨M16, eM16, hF⟩ := pin_e hF
      refine x_iast cx hW hS (kd_v h0 (j := 5) (by decide) (by decide)) (by decide) hj15 gj15 eM16 dX4_passFriday_159 (fun H locs hW hS => ?_)
      refine lv_iinc (v := (x1 + 1)) (lv' := [(1, .int (x1 + 1)), (2, .int (m_I M (a0 + 6) j4)), (0, .ref (g_ad G a0))]) hx hb dX4_passFriday_160 hl (k := 2) rfl rfl (by decide) rfl (fun ls hl => ?_)
      refine lv_goto (tgt := 69) hx hb dX4_passFriday_163 (by decide) ?_
      exact ih (x1 + 1) M16 hF _ _ _ hW hS (lv_sub hl [2, 0] rfl)
def F_X4_passFriday_2 (a0 : Nat) : Nat → Int32 → Mem → Option Mem
  | 0, _, _ => none
  | n + 1, x1, M => (if (m_I M a0 2) ≤ x1 then F_X4_passFriday_69 a0 FU (0 : Int32) M else ix 8 x1 (fun j17 => (F_X4_earning a0 x1 (m_I M (a0 + 6) j17) M).bind (fun r19 => ix 8 x1 (fun j20 => pin (w_I M (a0 + 7) j20 r19) (fun M21 => ix 8 x1 (fun j22 => (F_X4_saying a0 x1 (m_I M21 (a0 + 6) j22) M21).bind (fun r24 => ix 8 x1 (fun j25 => pin (w_I M21 (a0 + 8) j25 r24) (fun M26 => ix 8 x1 (fun j27 => (F_X4_hearing a0 x1 (m_I M26 (a0 + 6) j27) M26).bind (fun r29 => ix 8 x1 (fun j30 => pin (w_I M26 (a0 + 9) j30 r29) (fun M31 => F_X4_passFriday_2 a0 n (x1 + 1) M31)))))))))))))
set_option maxHeartbeats 4000000 in
set_option maxRecDepth 100000 in
theorem t_X4_passFriday_2 {p : Program} {l : Launch} {e : Env} {s : State} {m : MethodId} {args : Array Value} {below : List Frame} {meth : Method} {c : Code} {G : GG} {a0 : Nat} (cx : Cx G cX4_passFriday RX4 3 p s m args meth c) (hr : meth.sig.returnType = none) (h0 : kd a0 = 3)  {M1 : Mem} : ∀ (n : Nat) (x1 : Int32) (M : Mem), F_X4_passFriday_2 a0 n x1 M = some M1 → ∀ (H : Heap) (locs : List Loc) (ls : Array Slot), WH G M H → va_S (g_A G) s.heap H locs → lv_has ls 3 [(0, .ref (g_ad G a0)), (1, .int x1)] → W p l e (RM 4 93) s m args below meth c H locs 0 0 (MQ below (QcV G M1) args s 0 0 (g_A G)) (F0 m 2 ls []) := by
  obtain ⟨hx, hb, hml, hown, hts, hKK, hSS, hlk⟩ := id cx
  intro n
  induction n with
  | zero =>
    intro x1 M hF H locs ls hW hS hl
    rw [F_X4_passFriday_2] at hF
    cases hF
  | succ n ih =>
    intro x1 M hF H locs ls hW hS hl
    rw [F_X4_passFriday_2] at hF
    refine lv_iload_n hx hb dX4_passFriday_2 rfl (lv_at hl 1 rfl) ?_
    refine lv_aload_n hx hb dX4_passFriday_3 rfl (lv_at hl 0 rfl) ?_
    refine x_get cx hW h0 fk_X4_49 (v := .int (m_I M a0 2)) rfl dX4_passFriday_4 ?_
    refine lv_icmp_ge (tgt := 67) hx hb dX4_passFriday_7 (by decide) (fun c1 => ?_) (fun c1 => ?_)
    · have hF := it_p c1 hF
      refine lv_iconst (v := (0 : Int32)) hx hb dX4_passFriday_67 (by decide) ?_
      refine lv_istore_n (lv' := [(1, .int (0 : Int32)), (0, .ref (g_ad G a0))]) hx hb dX4_passFriday_68 rfl hl (by decide) rfl (fun ls hl => ?_)
      exact t_X4_passFriday_69 cx hr h0 FU (0 : Int32) M hF _ _ _ hW hS (lv_sub hl [1, 0] rfl)
    · have hF := it_n c1 hF
      refine lv_aload_n hx hb dX4_passFriday_10 rfl (lv_at hl 0 rfl) ?_
      refine x_get cx hW h0 fk_X4_34 (v := .ref (g_ad G (a0 + 7))) rfl dX4_passFriday_11 ?_
      refine lv_iload_n hx hb dX4_passFriday_14 rfl (lv_at hl 1 rfl) ?_
      refine lv_aload_n hx hb dX4_passFriday_15 rfl (lv_at hl 0 rfl) ?_
      refine lv_iload_n hx hb dX4_passFriday_16 rfl (lv_at hl 1 rfl) ?_
      refine lv_aload_n hx hb dX4_passFriday_17 rfl (lv_at hl 0 rfl) ?_
      refine x_get cx hW h0 fk_X4_31 (v := .ref (g_ad G (a0 + 6))) rfl dX4_passFriday_18 ?_
      refine lv_iload_n hx hb dX4_passFriday_21 rfl (lv_at hl 1 rfl) ?_
      obtain ⟨j17, hj17, gj17, hF⟩ := ix_e hF
      refine x_iald cx hW (kd_v h0 (j := 6) (by decide) (by decide)) (by decide) hj17 gj17 dX4_passFriday_22 ?_
      obtain ⟨r19, hc18, hF⟩ := bi_e hF
      refine x_goi (x_runV cx hW hS (c_X4_earning (l := l) (G := G) h0 hc18) cv_X4_76 h0 rfl (rest := [.int x1, .ref (g_ad G (a0 + 7))]) ⟨Nat.le_of_ble_eq_true rfl, Nat.le_of_ble_eq_true rfl⟩ hl.1 rfl rfl (Nat.le_of_ble_eq_true rfl) ⟨Nat.zero_le _, Nat.zero_le _⟩ dX4_passFriday_23) hS (fun H locs hW hS => ?_)
      obtain ⟨j20, hj20, gj20, hF⟩ := ix_e hF
      obtain ⟨M21, eM21, hF⟩ := pin_e hF
      refine x_iast cx hW hS (kd_v h0 (j := 7) (by decide) (by decide)) (by decide) hj20 gj20 eM21 dX4_passFriday_26 (fun H locs hW hS => ?_)
      refine lv_aload_n hx hb dX4_passFriday_27 rfl (lv_at hl 0 rfl) ?_
      refine x_get cx hW h0 fk_X4_37 (v := .ref (g_ad G (a0 + 8))) rfl dX4_passFriday_28 ?_
      refine lv_iload_n hx hb dX4_passFriday_31 rfl (lv_at hl 1 rfl) ?_
      refine lv_aload_n hx hb dX4_passFriday_32 rfl (lv_at hl 0 rfl) ?_
      refine lv_iload_n hx hb dX4_passFriday_33 rfl (lv_at hl 1 rfl) ?_
      refine lv_aload_n hx hb dX4_passFriday_34 rfl (lv_at hl 0 rfl) ?_
      refine x_get cx hW h0 fk_X4_31 (v := .ref (g_ad G (a0 + 6))) rfl dX4_passFriday_35 ?_
      refine lv_iload_n hx hb dX4_passFriday_38 rfl (lv_at hl 1 rfl) ?_
      obtain ⟨j22, hj22, gj22, hF⟩ := ix_e hF
      refine x_iald cx hW (kd_v h0 (j := 6) (by decide) (by decide)) (by decide) hj22 gj22 dX4_passFriday_39 ?_
      obtain ⟨r24, hc23, hF⟩ := bi_e hF
      refine x_goi (x_runV cx hW hS (c_X4_saying (l := l) (G := G) h0 hc23) cv_X4_111 h0 rfl (rest := [.int x1, .ref (g_ad G (a0 + 8))]) ⟨Nat.le_of_ble_eq_true rfl, Nat.le_of_ble_eq_true rfl⟩ hl.1 rfl rfl (Nat.le_of_ble_eq_true rfl) ⟨Nat.zero_le _, Nat.zero_le _⟩ dX4_passFriday_40) hS (fun H locs hW hS => ?_)
      obtain ⟨j25, hj25, gj25, hF⟩ := ix_e hF
      obtain ⟨M26, eM26, hF⟩ := pin_e hF
      refine x_iast cx hW hS (kd_v h0 (j := 8) (by decide) (by decide)) (by decide) hj25 gj25 eM26 dX4_passFriday_43 (fun H locs hW hS => ?_)
      refine lv_aload_n hx hb dX4_passFriday_44 rfl (lv_at hl 0 rfl) ?_
      refine x_get cx hW h0 fk_X4_40 (v := .ref (g_ad G (a0 + 9))) rfl dX4_passFriday_45 ?_
      refine lv_iload_n hx hb dX4_passFriday_48 rfl (lv_at hl 1 rfl) ?_
      refine lv_aload_n hx hb dX4_passFriday_49 rfl (lv_at hl 0 rfl) ?_
      refine lv_iload_n hx hb dX4_passFriday_50 rfl (lv_at hl 1 rfl) ?_
      refine lv_aload_n hx hb dX4_passFriday_51 rfl (lv_at hl 0 rfl) ?_
      refine x_get cx hW h0 fk_X4_31 (v := .ref (g_ad G (a0 + 6))) rfl dX4_passFriday_52 ?_
      refine lv_iload_n hx hb dX4_passFriday_55 rfl (lv_at hl 1 rfl) ?_
      obtain ⟨j27, hj27, gj27, hF⟩ := ix_e hF
      refine x_iald cx hW (kd_v h0 (j := 6) (by decide) (by decide)) (by decide) hj27 gj27 dX4_passFriday_56 ?_
      obtain ⟨r29, hc28, hF⟩ := bi_e hF
      refine x_goi (x_runV cx hW hS (c_X4_hearing (l := l) (G := G) h0 hc28) cv_X4_114 h0 rfl (rest := [.int x1, .ref (g_ad G (a0 + 9))]) ⟨Nat.le_of_ble_eq_true rfl, Nat.le_of_ble_eq_true rfl⟩ hl.1 rfl rfl (Nat.le_of_ble_eq_true rfl) ⟨Nat.zero_le _, Nat.zero_le _⟩ dX4_passFriday_57) hS (fun H locs hW hS => ?_)
      obtain ⟨j30, hj30, gj30, hF⟩ := ix_e hF
      obtain ⟨M31, eM31, hF⟩ := pin_e hF
      refine x_iast cx hW hS (kd_v h0 (j := 9) (by decide) (by decide)) (by decide) hj30 gj30 eM31 dX4_passFriday_60 (fun H locs hW hS => ?_)
      refine lv_iinc (v := (x1 + 1)) (lv' := [(1, .int (x1 + 1)), (0, .ref (g_ad G a0))]) hx hb dX4_passFriday_61 hl (k := 1) rfl rfl (by decide) rfl (fun ls hl => ?_)
      refine lv_goto (tgt := 2) hx hb dX4_passFriday_64 (by decide) ?_
      exact ih (x1 + 1) M31 hF _ _ _ hW hS (lv_sub hl [1, 0] rfl)
def F_X4_passFriday (a0 : Nat) (M : Mem) : Option Mem := F_X4_passFriday_2 a0 FU (0 : Int32) M
set_option maxHeartbeats 4000000 in
set_option maxRecDepth 100000 in
theorem c_X4_passFriday {l : Launch} {G : GG} {a0 : Nat} (h0 : kd a0 = 3) {M : Mem} {M1 : Mem} (hF : F_X4_passFriday a0 M = some M1) : Met l yX4_passFriday (wz yX4_passFriday cX4_passFriday 3 none) (RM 4 93) (PreC G [.ref (g_ad G a0)] M) (QcV G M1) 0 0 (g_A G) := by
  rw [F_X4_passFriday] at hF
  refine x_start (by decide) (Nat.le_of_ble_eq_true rfl) (lv := [(0, .ref (g_ad G a0))]) rfl ?_
  intro p e s m below meth c cx hr hW hS ls hl
  obtain ⟨hx, hb, hml, hown, hts, hKK, hSS, hlk⟩ := id cx
  refine lv_iconst (v := (0 : Int32)) hx hb dX4_passFriday_0 (by decide) ?_
  refine lv_istore_n (lv' := [(1, .int (0 : Int32)), (0, .ref (g_ad G a0))]) hx hb dX4_passFriday_1 rfl hl (by decide) rfl (fun ls hl => ?_)
  exact t_X4_passFriday_2 cx hr h0 FU (0 : Int32) M hF _ _ _ hW hS (lv_sub hl [1, 0] rfl)
def F_X4_passFridays_2 (a0 : Nat) (a1 : Int32) : Nat → Int32 → Mem → Option Mem
  | 0, _, _ => none
  | n + 1, x2, M => (if a1 ≤ x2 then some M else (F_X4_passFriday a0 M).bind (fun M3 => F_X4_passFridays_2 a0 a1 n (x2 + 1) M3))
set_option maxHeartbeats 4000000 in
set_option maxRecDepth 100000 in
theorem t_X4_passFridays_2 {p : Program} {l : Launch} {e : Env} {s : State} {m : MethodId} {args : Array Value} {below : List Frame} {meth : Method} {c : Code} {G : GG} {a0 : Nat} {a1 : Int32} (cx : Cx G cX4_passFridays RX4 3 p s m args meth c) (hr : meth.sig.returnType = none) (h0 : kd a0 = 3)  {M1 : Mem} : ∀ (n : Nat) (x2 : Int32) (M : Mem), F_X4_passFridays_2 a0 a1 n x2 M = some M1 → ∀ (H : Heap) (locs : List Loc) (ls : Array Slot), WH G M H → va_S (g_A G) s.heap H locs → lv_has ls 3 [(0, .ref (g_ad G a0)), (1, .int a1), (2, .int x2)] → W p l e (RM 5 115) s m args below meth c H locs 0 0 (MQ below (QcV G M1) args s 0 0 (g_A G)) (F0 m 2 ls []) := by
  obtain ⟨hx, hb, hml, hown, hts, hKK, hSS, hlk⟩ := id cx
  intro n
  induction n with
  | zero =>
    intro x2 M hF H locs ls hW hS hl
    rw [F_X4_passFridays_2] at hF
    cases hF
  | succ n ih =>
    intro x2 M hF H locs ls hW hS hl
    rw [F_X4_passFridays_2] at hF
    refine lv_iload_n hx hb dX4_passFridays_2 rfl (lv_at hl 2 rfl) ?_
    refine lv_iload_n hx hb dX4_passFridays_3 rfl (lv_at hl 1 rfl) ?_
    refine lv_icmp_ge (tgt := 17) hx hb dX4_passFridays_4 (by decide) (fun c1 => ?_) (fun c1 => ?_)
    · have hF := it_p c1 hF
      exact x_vret cx hr hW hS (Option.some.inj hF) dX4_passFridays_17
    · have hF := it_n c1 hF
      refine lv_aload_n hx hb dX4_passFridays_7 rfl (lv_at hl 0 rfl) ?_
      obtain ⟨M3, hc2, hF⟩ := bi_e hF
      refine x_gov (x_runV cx hW hS (c_X4_passFriday (l := l) (G := G) h0 hc2) cv_X4_108 h0 rfl (rest := []) ⟨Nat.le_of_ble_eq_true rfl, Nat.le_of_ble_eq_true rfl⟩ hl.1 rfl rfl (Nat.le_of_ble_eq_true rfl) ⟨Nat.zero_le _, Nat.zero_le _⟩ dX4_passFridays_8) hS (fun H locs hW hS => ?_)
      refine lv_iinc (v := (x2 + 1)) (lv' := [(2, .int (x2 + 1)), (0, .ref (g_ad G a0)), (1, .int a1)]) hx hb dX4_passFridays_11 hl (k := 2) rfl rfl (by decide) rfl (fun ls hl => ?_)
      refine lv_goto (tgt := 2) hx hb dX4_passFridays_14 (by decide) ?_
      exact ih (x2 + 1) M3 hF _ _ _ hW hS (lv_sub hl [1, 2, 0] rfl)
def F_X4_passFridays (a0 : Nat) (a1 : Int32) (M : Mem) : Option Mem := F_X4_passFridays_2 a0 a1 FU (0 : Int32) M
set_option maxHeartbeats 4000000 in
set_option maxRecDepth 100000 in
theorem c_X4_passFridays {l : Launch} {G : GG} {a0 : Nat} {a1 : Int32} (h0 : kd a0 = 3) {M : Mem} {M1 : Mem} (hF : F_X4_passFridays a0 a1 M = some M1) : Met l yX4_passFridays (wz yX4_passFridays cX4_passFridays 3 none) (RM 5 115) (PreC G [.ref (g_ad G a0), .int a1] M) (QcV G M1) 0 0 (g_A G) := by
  rw [F_X4_passFridays] at hF
  refine x_start (by decide) (Nat.le_of_ble_eq_true rfl) (lv := [(0, .ref (g_ad G a0)), (1, .int a1)]) rfl ?_
  intro p e s m below meth c cx hr hW hS ls hl
  obtain ⟨hx, hb, hml, hown, hts, hKK, hSS, hlk⟩ := id cx
  refine lv_iconst (v := (0 : Int32)) hx hb dX4_passFridays_0 (by decide) ?_
  refine lv_istore_n (lv' := [(2, .int (0 : Int32)), (0, .ref (g_ad G a0)), (1, .int a1)]) hx hb dX4_passFridays_1 rfl hl (by decide) rfl (fun ls hl => ?_)
  exact t_X4_passFridays_2 cx hr h0 FU (0 : Int32) M hF _ _ _ hW hS (lv_sub hl [1, 2, 0] rfl)
